theorem dX9_read_29 : decode cX9_read 29 = .ok (.iconst 1, 1) := by decide +kernel
theorem dX9_read_30 : decode cX9_read 30 = .ok (.goto 4, 3) := by decide +kernel
theorem dX9_read_33 : decode cX9_read 33 = .ok (.iconst 0, 1) := by decide +kernel
theorem dX9_read_34 : decode cX9_read 34 = .ok (.ireturn, 1) := by decide +kernel
theorem dX9_readCond_0 : decode cX9_readCond 0 = .ok (.iconst 0, 1) := by decide +kernel
theorem dX9_readCond_1 : decode cX9_readCond 1 = .ok (.istore_n 2, 1) := by decide +kernel
theorem dX9_readCond_2 : decode cX9_readCond 2 = .ok (.iconst 0, 1) := by decide +kernel
theorem dX9_readCond_3 : decode cX9_readCond 3 = .ok (.istore_n 3, 1) := by decide +kernel
theorem dX9_readCond_4 : decode cX9_readCond 4 = .ok (.iconst 0, 1) := by decide +kernel
theorem dX9_readCond_5 : decode cX9_readCond 5 = .ok (.istore 4, 2) := by decide +kernel
theorem dX9_readCond_7 : decode cX9_readCond 7 = .ok (.iload 4, 2) := by decide +kernel
theorem dX9_readCond_9 : decode cX9_readCond 9 = .ok (.bipush 20, 2) := by decide +kernel
theorem dX9_readCond_11 : decode cX9_readCond 11 = .ok (.if_icmp .gt 118, 3) := by decide +kernel
theorem dX9_readCond_14 : decode cX9_readCond 14 = .ok (.aload_n 0, 1) := by decide +kernel
theorem dX9_readCond_15 : decode cX9_readCond 15 = .ok (.iload_n 1, 1) := by decide +kernel
theorem dX9_readCond_16 : decode cX9_readCond 16 = .ok (.invokevirtual 39, 3) := by decide +kernel
theorem dX9_readCond_19 : decode cX9_readCond 19 = .ok (.ifCond .ne 5, 3) := by decide +kernel
theorem dX9_readCond_22 : decode cX9_readCond 22 = .ok (.iconst 0, 1) := by decide +kernel
theorem dX9_readCond_23 : decode cX9_readCond 23 = .ok (.ireturn, 1) := by decide +kernel
theorem dX9_readCond_24 : decode cX9_readCond 24 = .ok (.iload_n 2, 1) := by decide +kernel
theorem dX9_readCond_25 : decode cX9_readCond 25 = .ok (.ifCond .eq 14, 3) := by decide +kernel
theorem dX9_readCond_28 : decode cX9_readCond 28 = .ok (.aload_n 0, 1) := by decide +kernel
theorem dX9_readCond_29 : decode cX9_readCond 29 = .ok (.getfield 12, 3) := by decide +kernel
theorem dX9_readCond_32 : decode cX9_readCond 32 = .ok (.bipush 11, 2) := by decide +kernel
theorem dX9_readCond_34 : decode cX9_readCond 34 = .ok (.iconst 0, 1) := by decide +kernel
theorem dX9_readCond_35 : decode cX9_readCond 35 = .ok (.iconst 0, 1) := by decide +kernel
theorem dX9_readCond_36 : decode cX9_readCond 36 = .ok (.invokevirtual 42, 3) := by decide +kernel
theorem dX9_readCond_39 : decode cX9_readCond 39 = .ok (.aload_n 0, 1) := by decide +kernel
theorem dX9_readCond_40 : decode cX9_readCond 40 = .ok (.getfield 18, 3) := by decide +kernel
theorem dX9_readCond_43 : decode cX9_readCond 43 = .ok (.getfield 46, 3) := by decide +kernel
theorem dX9_readCond_46 : decode cX9_readCond 46 = .ok (.bipush 11, 2) := by decide +kernel
theorem dX9_readCond_48 : decode cX9_readCond 48 = .ok (.if_icmp .ne 7, 3) := by decide +kernel
theorem dX9_readCond_51 : decode cX9_readCond 51 = .ok (.iconst 1, 1) := by decide +kernel
theorem dX9_readCond_52 : decode cX9_readCond 52 = .ok (.goto 4, 3) := by decide +kernel
theorem dX9_readCond_55 : decode cX9_readCond 55 = .ok (.iconst 0, 1) := by decide +kernel
theorem dX9_readCond_56 : decode cX9_readCond 56 = .ok (.istore_n 2, 1) := by decide +kernel
theorem dX9_readCond_57 : decode cX9_readCond 57 = .ok (.iload_n 3, 1) := by decide +kernel
theorem dX9_readCond_58 : decode cX9_readCond 58 = .ok (.ifCond .eq 18, 3) := by decide +kernel
theorem dX9_readCond_61 : decode cX9_readCond 61 = .ok (.iload_n 2, 1) := by decide +kernel
theorem dX9_readCond_62 : decode cX9_readCond 62 = .ok (.ifCond .ne 14, 3) := by decide +kernel
theorem dX9_readCond_65 : decode cX9_readCond 65 = .ok (.aload_n 0, 1) := by decide +kernel
theorem dX9_readCond_66 : decode cX9_readCond 66 = .ok (.getfield 12, 3) := by decide +kernel
theorem dX9_readCond_69 : decode cX9_readCond 69 = .ok (.bipush 10, 2) := by decide +kernel
theorem dX9_readCond_71 : decode cX9_readCond 71 = .ok (.iconst 0, 1) := by decide +kernel
theorem dX9_readCond_72 : decode cX9_readCond 72 = .ok (.iconst 0, 1) := by decide +kernel
theorem dX9_readCond_73 : decode cX9_readCond 73 = .ok (.invokevirtual 42, 3) := by decide +kernel
theorem dX9_readCond_76 : decode cX9_readCond 76 = .ok (.iload_n 2, 1) := by decide +kernel
theorem dX9_readCond_77 : decode cX9_readCond 77 = .ok (.ifCond .ne 17, 3) := by decide +kernel
theorem dX9_readCond_80 : decode cX9_readCond 80 = .ok (.aload_n 0, 1) := by decide +kernel
theorem dX9_readCond_81 : decode cX9_readCond 81 = .ok (.getfield 18, 3) := by decide +kernel
theorem dX9_readCond_84 : decode cX9_readCond 84 = .ok (.getfield 46, 3) := by decide +kernel
theorem dX9_readCond_87 : decode cX9_readCond 87 = .ok (.bipush 10, 2) := by decide +kernel
theorem dX9_readCond_89 : decode cX9_readCond 89 = .ok (.if_icmp .eq 5, 3) := by decide +kernel
theorem dX9_readCond_92 : decode cX9_readCond 92 = .ok (.iconst 1, 1) := by decide +kernel
theorem dX9_readCond_93 : decode cX9_readCond 93 = .ok (.ireturn, 1) := by decide +kernel
theorem dX9_readCond_94 : decode cX9_readCond 94 = .ok (.iload_n 3, 1) := by decide +kernel
theorem dX9_readCond_95 : decode cX9_readCond 95 = .ok (.ifCond .ne 15, 3) := by decide +kernel
theorem dX9_readCond_98 : decode cX9_readCond 98 = .ok (.aload_n 0, 1) := by decide +kernel
theorem dX9_readCond_99 : decode cX9_readCond 99 = .ok (.getfield 18, 3) := by decide +kernel
theorem dX9_readCond_102 : decode cX9_readCond 102 = .ok (.getfield 46, 3) := by decide +kernel
theorem dX9_readCond_105 : decode cX9_readCond 105 = .ok (.bipush 10, 2) := by decide +kernel
theorem dX9_readCond_107 : decode cX9_readCond 107 = .ok (.if_icmp .ne 7, 3) := by decide +kernel
theorem dX9_readCond_110 : decode cX9_readCond 110 = .ok (.iconst 1, 1) := by decide +kernel
theorem dX9_readCond_111 : decode cX9_readCond 111 = .ok (.goto 4, 3) := by decide +kernel
theorem dX9_readCond_114 : decode cX9_readCond 114 = .ok (.iconst 0, 1) := by decide +kernel
theorem dX9_readCond_115 : decode cX9_readCond 115 = .ok (.istore_n 3, 1) := by decide +kernel
theorem dX9_readCond_116 : decode cX9_readCond 116 = .ok (.aload_n 0, 1) := by decide +kernel
theorem dX9_readCond_117 : decode cX9_readCond 117 = .ok (.getfield 18, 3) := by decide +kernel
theorem dX9_readCond_120 : decode cX9_readCond 120 = .ok (.invokevirtual 49, 3) := by decide +kernel
theorem dX9_readCond_123 : decode cX9_readCond 123 = .ok (.iinc 4 1, 3) := by decide +kernel
theorem dX9_readCond_126 : decode cX9_readCond 126 = .ok (.goto (-119), 3) := by decide +kernel
theorem dX9_readCond_129 : decode cX9_readCond 129 = .ok (.aload_n 0, 1) := by decide +kernel
theorem dX9_readCond_130 : decode cX9_readCond 130 = .ok (.getfield 18, 3) := by decide +kernel
theorem dX9_readCond_133 : decode cX9_readCond 133 = .ok (.iconst 4, 1) := by decide +kernel
theorem dX9_readCond_134 : decode cX9_readCond 134 = .ok (.invokevirtual 36, 3) := by decide +kernel
theorem dX9_readCond_137 : decode cX9_readCond 137 = .ok (.ireturn, 1) := by decide +kernel
theorem dX9_readOne_0 : decode cX9_readOne 0 = .ok (.aload_n 0, 1) := by decide +kernel
theorem dX9_readOne_1 : decode cX9_readOne 1 = .ok (.getfield 18, 3) := by decide +kernel
theorem dX9_readOne_4 : decode cX9_readOne 4 = .ok (.getfield 46, 3) := by decide +kernel
theorem dX9_readOne_7 : decode cX9_readOne 7 = .ok (.istore_n 2, 1) := by decide +kernel
theorem dX9_readOne_8 : decode cX9_readOne 8 = .ok (.aload_n 0, 1) := by decide +kernel
theorem dX9_readOne_9 : decode cX9_readOne 9 = .ok (.getfield 18, 3) := by decide +kernel
theorem dX9_readOne_12 : decode cX9_readOne 12 = .ok (.getfield 30, 3) := by decide +kernel
theorem dX9_readOne_15 : decode cX9_readOne 15 = .ok (.bipush 40, 2) := by decide +kernel
theorem dX9_readOne_17 : decode cX9_readOne 17 = .ok (.if_icmp .ne 7, 3) := by decide +kernel
theorem dX9_readOne_20 : decode cX9_readOne 20 = .ok (.iconst 1, 1) := by decide +kernel
theorem dX9_readOne_21 : decode cX9_readOne 21 = .ok (.goto 4, 3) := by decide +kernel
theorem dX9_readOne_24 : decode cX9_readOne 24 = .ok (.iconst 0, 1) := by decide +kernel
theorem dX9_readOne_25 : decode cX9_readOne 25 = .ok (.istore_n 3, 1) := by decide +kernel
theorem dX9_readOne_26 : decode cX9_readOne 26 = .ok (.iload_n 3, 1) := by decide +kernel
theorem dX9_readOne_27 : decode cX9_readOne 27 = .ok (.ifCond .ne 24, 3) := by decide +kernel
theorem dX9_readOne_30 : decode cX9_readOne 30 = .ok (.iload_n 2, 1) := by decide +kernel
theorem dX9_readOne_31 : decode cX9_readOne 31 = .ok (.bipush 12, 2) := by decide +kernel
theorem dX9_readOne_33 : decode cX9_readOne 33 = .ok (.if_icmp .lt 9, 3) := by decide +kernel
theorem dX9_readOne_36 : decode cX9_readOne 36 = .ok (.iload_n 2, 1) := by decide +kernel
theorem dX9_readOne_37 : decode cX9_readOne 37 = .ok (.bipush 21, 2) := by decide +kernel
theorem dX9_readOne_39 : decode cX9_readOne 39 = .ok (.if_icmp .le 12, 3) := by decide +kernel
theorem dX9_readOne_42 : decode cX9_readOne 42 = .ok (.aload_n 0, 1) := by decide +kernel
theorem dX9_readOne_43 : decode cX9_readOne 43 = .ok (.getfield 18, 3) := by decide +kernel
theorem dX9_readOne_46 : decode cX9_readOne 46 = .ok (.iconst 1, 1) := by decide +kernel
theorem dX9_readOne_47 : decode cX9_readOne 47 = .ok (.invokevirtual 36, 3) := by decide +kernel
theorem dX9_readOne_50 : decode cX9_readOne 50 = .ok (.ireturn, 1) := by decide +kernel
theorem dX9_readOne_51 : decode cX9_readOne 51 = .ok (.aload_n 0, 1) := by decide +kernel
theorem dX9_readOne_52 : decode cX9_readOne 52 = .ok (.getfield 52, 3) := by decide +kernel
theorem dX9_readOne_55 : decode cX9_readOne 55 = .ok (.bipush 20, 2) := by decide +kernel
theorem dX9_readOne_57 : decode cX9_readOne 57 = .ok (.if_icmp .ge 9, 3) := by decide +kernel
theorem dX9_readOne_60 : decode cX9_readOne 60 = .ok (.iload_n 1, 1) := by decide +kernel
theorem dX9_readOne_61 : decode cX9_readOne 61 = .ok (.bipush 8, 2) := by decide +kernel
theorem dX9_readOne_63 : decode cX9_readOne 63 = .ok (.if_icmp .le 12, 3) := by decide +kernel
theorem dX9_readOne_66 : decode cX9_readOne 66 = .ok (.aload_n 0, 1) := by decide +kernel
theorem dX9_readOne_67 : decode cX9_readOne 67 = .ok (.getfield 18, 3) := by decide +kernel
theorem dX9_readOne_70 : decode cX9_readOne 70 = .ok (.iconst 4, 1) := by decide +kernel
theorem dX9_readOne_71 : decode cX9_readOne 71 = .ok (.invokevirtual 36, 3) := by decide +kernel
theorem dX9_readOne_74 : decode cX9_readOne 74 = .ok (.ireturn, 1) := by decide +kernel
theorem dX9_readOne_75 : decode cX9_readOne 75 = .ok (.aload_n 0, 1) := by decide +kernel
theorem dX9_readOne_76 : decode cX9_readOne 76 = .ok (.dup, 1) := by decide +kernel
theorem dX9_readOne_77 : decode cX9_readOne 77 = .ok (.getfield 52, 3) := by decide +kernel
theorem dX9_readOne_80 : decode cX9_readOne 80 = .ok (.iconst 1, 1) := by decide +kernel
theorem dX9_readOne_81 : decode cX9_readOne 81 = .ok (.iadd, 1) := by decide +kernel
theorem dX9_readOne_82 : decode cX9_readOne 82 = .ok (.putfield 52, 3) := by decide +kernel
theorem dX9_readOne_85 : decode cX9_readOne 85 = .ok (.aload_n 0, 1) := by decide +kernel
theorem dX9_readOne_86 : decode cX9_readOne 86 = .ok (.getfield 18, 3) := by decide +kernel
theorem dX9_readOne_89 : decode cX9_readOne 89 = .ok (.invokevirtual 49, 3) := by decide +kernel
theorem dX9_readOne_92 : decode cX9_readOne 92 = .ok (.iload_n 3, 1) := by decide +kernel
theorem dX9_readOne_93 : decode cX9_readOne 93 = .ok (.ifCond .eq 31, 3) := by decide +kernel
theorem dX9_readOne_96 : decode cX9_readOne 96 = .ok (.aload_n 0, 1) := by decide +kernel
theorem dX9_readOne_97 : decode cX9_readOne 97 = .ok (.iload_n 1, 1) := by decide +kernel
theorem dX9_readOne_98 : decode cX9_readOne 98 = .ok (.iconst 1, 1) := by decide +kernel
theorem dX9_readOne_99 : decode cX9_readOne 99 = .ok (.iadd, 1) := by decide +kernel
theorem dX9_readOne_100 : decode cX9_readOne 100 = .ok (.invokevirtual 26, 3) := by decide +kernel
theorem dX9_readOne_103 : decode cX9_readOne 103 = .ok (.ifCond .eq 19, 3) := by decide +kernel
theorem dX9_readOne_106 : decode cX9_readOne 106 = .ok (.aload_n 0, 1) := by decide +kernel
theorem dX9_readOne_107 : decode cX9_readOne 107 = .ok (.getfield 18, 3) := by decide +kernel
theorem dX9_readOne_110 : decode cX9_readOne 110 = .ok (.bipush 41, 2) := by decide +kernel
theorem dX9_readOne_112 : decode cX9_readOne 112 = .ok (.invokevirtual 55, 3) := by decide +kernel
theorem dX9_readOne_115 : decode cX9_readOne 115 = .ok (.ifCond .eq 7, 3) := by decide +kernel
theorem dX9_readOne_118 : decode cX9_readOne 118 = .ok (.iconst 1, 1) := by decide +kernel
theorem dX9_readOne_119 : decode cX9_readOne 119 = .ok (.goto 4, 3) := by decide +kernel
theorem dX9_readOne_122 : decode cX9_readOne 122 = .ok (.iconst 0, 1) := by decide +kernel
theorem dX9_readOne_123 : decode cX9_readOne 123 = .ok (.ireturn, 1) := by decide +kernel
theorem dX9_readOne_124 : decode cX9_readOne 124 = .ok (.iload_n 2, 1) := by decide +kernel
theorem dX9_readOne_125 : decode cX9_readOne 125 = .ok (.bipush 12, 2) := by decide +kernel
theorem dX9_readOne_127 : decode cX9_readOne 127 = .ok (.if_icmp .ne 28, 3) := by decide +kernel
theorem dX9_readOne_130 : decode cX9_readOne 130 = .ok (.aload_n 0, 1) := by decide +kernel
theorem dX9_readOne_131 : decode cX9_readOne 131 = .ok (.iload_n 1, 1) := by decide +kernel
theorem dX9_readOne_132 : decode cX9_readOne 132 = .ok (.iconst 1, 1) := by decide +kernel
theorem dX9_readOne_133 : decode cX9_readOne 133 = .ok (.iadd, 1) := by decide +kernel
theorem dX9_readOne_134 : decode cX9_readOne 134 = .ok (.invokevirtual 39, 3) := by decide +kernel
theorem dX9_readOne_137 : decode cX9_readOne 137 = .ok (.ifCond .ne 5, 3) := by decide +kernel
theorem dX9_readOne_140 : decode cX9_readOne 140 = .ok (.iconst 0, 1) := by decide +kernel
theorem dX9_readOne_141 : decode cX9_readOne 141 = .ok (.ireturn, 1) := by decide +kernel
theorem dX9_readOne_142 : decode cX9_readOne 142 = .ok (.aload_n 0, 1) := by decide +kernel
theorem dX9_readOne_143 : decode cX9_readOne 143 = .ok (.getfield 12, 3) := by decide +kernel
theorem dX9_readOne_146 : decode cX9_readOne 146 = .ok (.bipush 12, 2) := by decide +kernel
theorem dX9_readOne_148 : decode cX9_readOne 148 = .ok (.iconst 0, 1) := by decide +kernel
theorem dX9_readOne_149 : decode cX9_readOne 149 = .ok (.iconst 0, 1) := by decide +kernel
theorem dX9_readOne_150 : decode cX9_readOne 150 = .ok (.invokevirtual 42, 3) := by decide +kernel
theorem dX9_readOne_153 : decode cX9_readOne 153 = .ok (.iconst 1, 1) := by decide +kernel
theorem dX9_readOne_154 : decode cX9_readOne 154 = .ok (.ireturn, 1) := by decide +kernel
theorem dX9_readOne_155 : decode cX9_readOne 155 = .ok (.aload_n 0, 1) := by decide +kernel
theorem dX9_readOne_156 : decode cX9_readOne 156 = .ok (.iload_n 2, 1) := by decide +kernel
theorem dX9_readOne_157 : decode cX9_readOne 157 = .ok (.invokevirtual 58, 3) := by decide +kernel
theorem dX9_readOne_160 : decode cX9_readOne 160 = .ok (.ireturn, 1) := by decide +kernel
theorem dX9_readPlain_0 : decode cX9_readPlain 0 = .ok (.iconst 0, 1) := by decide +kernel
theorem dX9_readPlain_1 : decode cX9_readPlain 1 = .ok (.istore_n 2, 1) := by decide +kernel
theorem dX9_readPlain_2 : decode cX9_readPlain 2 = .ok (.aload_n 0, 1) := by decide +kernel
theorem dX9_readPlain_3 : decode cX9_readPlain 3 = .ok (.getfield 18, 3) := by decide +kernel
theorem dX9_readPlain_6 : decode cX9_readPlain 6 = .ok (.iconst 0, 1) := by decide +kernel
theorem dX9_readPlain_7 : decode cX9_readPlain 7 = .ok (.putfield 61, 3) := by decide +kernel
theorem dX9_readPlain_10 : decode cX9_readPlain 10 = .ok (.iload_n 1, 1) := by decide +kernel
theorem dX9_readPlain_11 : decode cX9_readPlain 11 = .ok (.bipush 16, 2) := by decide +kernel
theorem dX9_readPlain_13 : decode cX9_readPlain 13 = .ok (.if_icmp .ne 19, 3) := by decide +kernel
theorem dX9_readPlain_16 : decode cX9_readPlain 16 = .ok (.aload_n 0, 1) := by decide +kernel
theorem dX9_readPlain_17 : decode cX9_readPlain 17 = .ok (.getfield 18, 3) := by decide +kernel
theorem dX9_readPlain_20 : decode cX9_readPlain 20 = .ok (.aload_n 0, 1) := by decide +kernel
theorem dX9_readPlain_21 : decode cX9_readPlain 21 = .ok (.getfield 22, 3) := by decide +kernel
theorem dX9_readPlain_24 : decode cX9_readPlain 24 = .ok (.invokevirtual 64, 3) := by decide +kernel
theorem dX9_readPlain_27 : decode cX9_readPlain 27 = .ok (.ifCond .ne 5, 3) := by decide +kernel
theorem dX9_readPlain_30 : decode cX9_readPlain 30 = .ok (.iconst 0, 1) := by decide +kernel
theorem dX9_readPlain_31 : decode cX9_readPlain 31 = .ok (.ireturn, 1) := by decide +kernel
theorem dX9_readPlain_32 : decode cX9_readPlain 32 = .ok (.iload_n 1, 1) := by decide +kernel
theorem dX9_readPlain_33 : decode cX9_readPlain 33 = .ok (.bipush 17, 2) := by decide +kernel
theorem dX9_readPlain_35 : decode cX9_readPlain 35 = .ok (.if_icmp .ne 18, 3) := by decide +kernel
theorem dX9_readPlain_38 : decode cX9_readPlain 38 = .ok (.aload_n 0, 1) := by decide +kernel
theorem dX9_readPlain_39 : decode cX9_readPlain 39 = .ok (.getfield 18, 3) := by decide +kernel
theorem dX9_readPlain_42 : decode cX9_readPlain 42 = .ok (.iconst 0, 1) := by decide +kernel
theorem dX9_readPlain_43 : decode cX9_readPlain 43 = .ok (.bipush 39, 2) := by decide +kernel
theorem dX9_readPlain_45 : decode cX9_readPlain 45 = .ok (.invokevirtual 68, 3) := by decide +kernel
theorem dX9_readPlain_48 : decode cX9_readPlain 48 = .ok (.ifCond .ne 5, 3) := by decide +kernel
theorem dX9_readPlain_51 : decode cX9_readPlain 51 = .ok (.iconst 0, 1) := by decide +kernel
theorem dX9_readPlain_52 : decode cX9_readPlain 52 = .ok (.ireturn, 1) := by decide +kernel
theorem dX9_readPlain_53 : decode cX9_readPlain 53 = .ok (.iload_n 1, 1) := by decide +kernel
theorem dX9_readPlain_54 : decode cX9_readPlain 54 = .ok (.bipush 18, 2) := by decide +kernel
theorem dX9_readPlain_56 : decode cX9_readPlain 56 = .ok (.if_icmp .lt 61, 3) := by decide +kernel
theorem dX9_readPlain_59 : decode cX9_readPlain 59 = .ok (.aload_n 0, 1) := by decide +kernel
theorem dX9_readPlain_60 : decode cX9_readPlain 60 = .ok (.getfield 18, 3) := by decide +kernel
theorem dX9_readPlain_63 : decode cX9_readPlain 63 = .ok (.getfield 30, 3) := by decide +kernel
theorem dX9_readPlain_66 : decode cX9_readPlain 66 = .ok (.istore_n 2, 1) := by decide +kernel
theorem dX9_readPlain_67 : decode cX9_readPlain 67 = .ok (.iload_n 2, 1) := by decide +kernel
theorem dX9_readPlain_68 : decode cX9_readPlain 68 = .ok (.bipush 60, 2) := by decide +kernel
theorem dX9_readPlain_70 : decode cX9_readPlain 70 = .ok (.if_icmp .eq 24, 3) := by decide +kernel
theorem dX9_readPlain_73 : decode cX9_readPlain 73 = .ok (.iload_n 2, 1) := by decide +kernel
theorem dX9_readPlain_74 : decode cX9_readPlain 74 = .ok (.bipush 61, 2) := by decide +kernel
theorem dX9_readPlain_76 : decode cX9_readPlain 76 = .ok (.if_icmp .eq 18, 3) := by decide +kernel
theorem dX9_readPlain_79 : decode cX9_readPlain 79 = .ok (.iload_n 2, 1) := by decide +kernel
theorem dX9_readPlain_80 : decode cX9_readPlain 80 = .ok (.bipush 62, 2) := by decide +kernel
theorem dX9_readPlain_82 : decode cX9_readPlain 82 = .ok (.if_icmp .eq 12, 3) := by decide +kernel
theorem dX9_readPlain_85 : decode cX9_readPlain 85 = .ok (.aload_n 0, 1) := by decide +kernel
theorem dX9_readPlain_86 : decode cX9_readPlain 86 = .ok (.getfield 18, 3) := by decide +kernel
theorem dX9_readPlain_89 : decode cX9_readPlain 89 = .ok (.iconst 1, 1) := by decide +kernel
theorem dX9_readPlain_90 : decode cX9_readPlain 90 = .ok (.invokevirtual 36, 3) := by decide +kernel
theorem dX9_readPlain_93 : decode cX9_readPlain 93 = .ok (.ireturn, 1) := by decide +kernel
theorem dX9_readPlain_94 : decode cX9_readPlain 94 = .ok (.aload_n 0, 1) := by decide +kernel
theorem dX9_readPlain_95 : decode cX9_readPlain 95 = .ok (.getfield 18, 3) := by decide +kernel
theorem dX9_readPlain_98 : decode cX9_readPlain 98 = .ok (.invokevirtual 49, 3) := by decide +kernel
theorem dX9_readPlain_101 : decode cX9_readPlain 101 = .ok (.aload_n 0, 1) := by decide +kernel
theorem dX9_readPlain_102 : decode cX9_readPlain 102 = .ok (.getfield 18, 3) := by decide +kernel
theorem dX9_readPlain_105 : decode cX9_readPlain 105 = .ok (.iconst 0, 1) := by decide +kernel
theorem dX9_readPlain_106 : decode cX9_readPlain 106 = .ok (.sipush 999, 3) := by decide +kernel
theorem dX9_readPlain_109 : decode cX9_readPlain 109 = .ok (.invokevirtual 68, 3) := by decide +kernel
theorem dX9_readPlain_112 : decode cX9_readPlain 112 = .ok (.ifCond .ne 5, 3) := by decide +kernel
theorem dX9_readPlain_115 : decode cX9_readPlain 115 = .ok (.iconst 0, 1) := by decide +kernel
theorem dX9_readPlain_116 : decode cX9_readPlain 116 = .ok (.ireturn, 1) := by decide +kernel
theorem dX9_readPlain_117 : decode cX9_readPlain 117 = .ok (.aload_n 0, 1) := by decide +kernel
theorem dX9_readPlain_118 : decode cX9_readPlain 118 = .ok (.getfield 12, 3) := by decide +kernel
theorem dX9_readPlain_121 : decode cX9_readPlain 121 = .ok (.iload_n 1, 1) := by decide +kernel
theorem dX9_readPlain_122 : decode cX9_readPlain 122 = .ok (.iload_n 2, 1) := by decide +kernel
theorem dX9_readPlain_123 : decode cX9_readPlain 123 = .ok (.aload_n 0, 1) := by decide +kernel
theorem dX9_readPlain_124 : decode cX9_readPlain 124 = .ok (.getfield 18, 3) := by decide +kernel
theorem dX9_readPlain_127 : decode cX9_readPlain 127 = .ok (.getfield 61, 3) := by decide +kernel
theorem dX9_readPlain_130 : decode cX9_readPlain 130 = .ok (.invokevirtual 42, 3) := by decide +kernel
theorem dX9_readPlain_133 : decode cX9_readPlain 133 = .ok (.iconst 1, 1) := by decide +kernel
theorem dX9_readPlain_134 : decode cX9_readPlain 134 = .ok (.ireturn, 1) := by decide +kernel
theorem dX10_init_0 : decode cX10_init 0 = .ok (.aload_n 0, 1) := by decide +kernel
theorem dX10_init_1 : decode cX10_init 1 = .ok (.invokespecial 3, 3) := by decide +kernel
theorem dX10_init_4 : decode cX10_init 4 = .ok (.aload_n 0, 1) := by decide +kernel
theorem dX10_init_5 : decode cX10_init 5 = .ok (.bipush 40, 2) := by decide +kernel
theorem dX10_init_7 : decode cX10_init 7 = .ok (.newarray .int, 2) := by decide +kernel
theorem dX10_init_9 : decode cX10_init 9 = .ok (.putfield 9, 3) := by decide +kernel
theorem dX10_init_12 : decode cX10_init 12 = .ok (.return_, 1) := by decide +kernel
theorem dX10_write_0 : decode cX10_write 0 = .ok (.aload_n 1, 1) := by decide +kernel
theorem dX10_write_1 : decode cX10_write 1 = .ok (.getfield 15, 3) := by decide +kernel
theorem dX10_write_4 : decode cX10_write 4 = .ok (.astore_n 3, 1) := by decide +kernel
theorem dX10_write_5 : decode cX10_write 5 = .ok (.aload_n 0, 1) := by decide +kernel
theorem dX10_write_6 : decode cX10_write 6 = .ok (.iconst 0, 1) := by decide +kernel
theorem dX10_write_7 : decode cX10_write 7 = .ok (.putfield 21, 3) := by decide +kernel
theorem dX10_write_10 : decode cX10_write 10 = .ok (.aload_n 0, 1) := by decide +kernel
theorem dX10_write_11 : decode cX10_write 11 = .ok (.aload_n 3, 1) := by decide +kernel
theorem dX10_write_12 : decode cX10_write 12 = .ok (.getfield 25, 3) := by decide +kernel
theorem dX10_write_15 : decode cX10_write 15 = .ok (.aload_n 3, 1) := by decide +kernel
theorem dX10_write_16 : decode cX10_write 16 = .ok (.getfield 31, 3) := by decide +kernel
theorem dX10_write_19 : decode cX10_write 19 = .ok (.iload_n 2, 1) := by decide +kernel
theorem dX10_write_20 : decode cX10_write 20 = .ok (.iaload, 1) := by decide +kernel
theorem dX10_write_21 : decode cX10_write 21 = .ok (.laload, 1) := by decide +kernel
theorem dX10_write_22 : decode cX10_write 22 = .ok (.invokevirtual 34, 3) := by decide +kernel
theorem dX10_write_25 : decode cX10_write 25 = .ok (.aload_n 0, 1) := by decide +kernel
theorem dX10_write_26 : decode cX10_write 26 = .ok (.ldc 38, 2) := by decide +kernel
theorem dX10_write_28 : decode cX10_write 28 = .ok (.invokevirtual 40, 3) := by decide +kernel
theorem dX10_write_31 : decode cX10_write 31 = .ok (.aload_n 0, 1) := by decide +kernel
theorem dX10_write_32 : decode cX10_write 32 = .ok (.aload_n 3, 1) := by decide +kernel
theorem dX10_write_33 : decode cX10_write 33 = .ok (.iload_n 2, 1) := by decide +kernel
theorem dX10_write_34 : decode cX10_write 34 = .ok (.invokevirtual 44, 3) := by decide +kernel
theorem dX10_write_37 : decode cX10_write 37 = .ok (.invokevirtual 48, 3) := by decide +kernel
theorem dX10_write_40 : decode cX10_write 40 = .ok (.aload_n 0, 1) := by decide +kernel
theorem dX10_write_41 : decode cX10_write 41 = .ok (.ldc 52, 2) := by decide +kernel
theorem dX10_write_43 : decode cX10_write 43 = .ok (.invokevirtual 40, 3) := by decide +kernel
theorem dX10_write_46 : decode cX10_write 46 = .ok (.aload_n 0, 1) := by decide +kernel
theorem dX10_write_47 : decode cX10_write 47 = .ok (.aload_n 1, 1) := by decide +kernel
theorem dX10_write_48 : decode cX10_write 48 = .ok (.getfield 54, 3) := by decide +kernel
theorem dX10_write_51 : decode cX10_write 51 = .ok (.iload_n 2, 1) := by decide +kernel
theorem dX10_write_52 : decode cX10_write 52 = .ok (.iaload, 1) := by decide +kernel
theorem dX10_write_53 : decode cX10_write 53 = .ok (.invokevirtual 48, 3) := by decide +kernel
theorem dX10_write_56 : decode cX10_write 56 = .ok (.aload_n 0, 1) := by decide +kernel
theorem dX10_write_57 : decode cX10_write 57 = .ok (.ldc 57, 2) := by decide +kernel
theorem dX10_write_59 : decode cX10_write 59 = .ok (.invokevirtual 40, 3) := by decide +kernel
theorem dX10_write_62 : decode cX10_write 62 = .ok (.aload_n 0, 1) := by decide +kernel
theorem dX10_write_63 : decode cX10_write 63 = .ok (.aload_n 3, 1) := by decide +kernel
theorem dX10_write_64 : decode cX10_write 64 = .ok (.iload_n 2, 1) := by decide +kernel
theorem dX10_write_65 : decode cX10_write 65 = .ok (.invokevirtual 59, 3) := by decide +kernel
theorem dX10_write_68 : decode cX10_write 68 = .ok (.invokevirtual 48, 3) := by decide +kernel
theorem dX10_write_71 : decode cX10_write 71 = .ok (.return_, 1) := by decide +kernel
theorem dX10_put_0 : decode cX10_put 0 = .ok (.aload_n 0, 1) := by decide +kernel
theorem dX10_put_1 : decode cX10_put 1 = .ok (.getfield 21, 3) := by decide +kernel
theorem dX10_put_4 : decode cX10_put 4 = .ok (.bipush 40, 2) := by decide +kernel
theorem dX10_put_6 : decode cX10_put 6 = .ok (.if_icmp .ge 23, 3) := by decide +kernel
theorem dX10_put_9 : decode cX10_put 9 = .ok (.aload_n 0, 1) := by decide +kernel
theorem dX10_put_10 : decode cX10_put 10 = .ok (.getfield 9, 3) := by decide +kernel
theorem dX10_put_13 : decode cX10_put 13 = .ok (.aload_n 0, 1) := by decide +kernel
theorem dX10_put_14 : decode cX10_put 14 = .ok (.getfield 21, 3) := by decide +kernel
theorem dX10_put_17 : decode cX10_put 17 = .ok (.iload_n 1, 1) := by decide +kernel
theorem dX10_put_18 : decode cX10_put 18 = .ok (.iastore, 1) := by decide +kernel
theorem dX10_put_19 : decode cX10_put 19 = .ok (.aload_n 0, 1) := by decide +kernel
theorem dX10_put_20 : decode cX10_put 20 = .ok (.dup, 1) := by decide +kernel
theorem dX10_put_21 : decode cX10_put 21 = .ok (.getfield 21, 3) := by decide +kernel
theorem dX10_put_24 : decode cX10_put 24 = .ok (.iconst 1, 1) := by decide +kernel
theorem dX10_put_25 : decode cX10_put 25 = .ok (.iadd, 1) := by decide +kernel
theorem dX10_put_26 : decode cX10_put 26 = .ok (.putfield 21, 3) := by decide +kernel
theorem dX10_put_29 : decode cX10_put 29 = .ok (.return_, 1) := by decide +kernel
theorem dX10_putText_0 : decode cX10_putText 0 = .ok (.iconst 0, 1) := by decide +kernel
theorem dX10_putText_1 : decode cX10_putText 1 = .ok (.istore_n 2, 1) := by decide +kernel
theorem dX10_putText_2 : decode cX10_putText 2 = .ok (.iload_n 2, 1) := by decide +kernel
theorem dX10_putText_3 : decode cX10_putText 3 = .ok (.aload_n 1, 1) := by decide +kernel
theorem dX10_putText_4 : decode cX10_putText 4 = .ok (.invokevirtual 62, 3) := by decide +kernel
theorem dX10_putText_7 : decode cX10_putText 7 = .ok (.if_icmp .ge 18, 3) := by decide +kernel
theorem dX10_putText_10 : decode cX10_putText 10 = .ok (.aload_n 0, 1) := by decide +kernel
theorem dX10_putText_11 : decode cX10_putText 11 = .ok (.aload_n 1, 1) := by decide +kernel
theorem dX10_putText_12 : decode cX10_putText 12 = .ok (.iload_n 2, 1) := by decide +kernel
theorem dX10_putText_13 : decode cX10_putText 13 = .ok (.invokevirtual 67, 3) := by decide +kernel
theorem dX10_putText_16 : decode cX10_putText 16 = .ok (.invokevirtual 71, 3) := by decide +kernel
theorem dX10_putText_19 : decode cX10_putText 19 = .ok (.iinc 2 1, 3) := by decide +kernel
theorem dX10_putText_22 : decode cX10_putText 22 = .ok (.goto (-20), 3) := by decide +kernel
theorem dX10_putText_25 : decode cX10_putText 25 = .ok (.return_, 1) := by decide +kernel
theorem dX10_putNumber_0 : decode cX10_putNumber 0 = .ok (.iload_n 1, 1) := by decide +kernel
theorem dX10_putNumber_1 : decode cX10_putNumber 1 = .ok (.bipush 100, 2) := by decide +kernel
theorem dX10_putNumber_3 : decode cX10_putNumber 3 = .ok (.if_icmp .lt 14, 3) := by decide +kernel
theorem dX10_putNumber_6 : decode cX10_putNumber 6 = .ok (.aload_n 0, 1) := by decide +kernel
theorem dX10_putNumber_7 : decode cX10_putNumber 7 = .ok (.bipush 48, 2) := by decide +kernel
theorem dX10_putNumber_9 : decode cX10_putNumber 9 = .ok (.iload_n 1, 1) := by decide +kernel
theorem dX10_putNumber_10 : decode cX10_putNumber 10 = .ok (.bipush 100, 2) := by decide +kernel
theorem dX10_putNumber_12 : decode cX10_putNumber 12 = .ok (.idiv, 1) := by decide +kernel
theorem dX10_putNumber_13 : decode cX10_putNumber 13 = .ok (.iadd, 1) := by decide +kernel
theorem dX10_putNumber_14 : decode cX10_putNumber 14 = .ok (.invokevirtual 71, 3) := by decide +kernel
theorem dX10_putNumber_17 : decode cX10_putNumber 17 = .ok (.iload_n 1, 1) := by decide +kernel
theorem dX10_putNumber_18 : decode cX10_putNumber 18 = .ok (.bipush 10, 2) := by decide +kernel
theorem dX10_putNumber_20 : decode cX10_putNumber 20 = .ok (.if_icmp .lt 17, 3) := by decide +kernel
theorem dX10_putNumber_23 : decode cX10_putNumber 23 = .ok (.aload_n 0, 1) := by decide +kernel
theorem dX10_putNumber_24 : decode cX10_putNumber 24 = .ok (.bipush 48, 2) := by decide +kernel
theorem dX10_putNumber_26 : decode cX10_putNumber 26 = .ok (.iload_n 1, 1) := by decide +kernel
theorem dX10_putNumber_27 : decode cX10_putNumber 27 = .ok (.bipush 10, 2) := by decide +kernel
theorem dX10_putNumber_29 : decode cX10_putNumber 29 = .ok (.idiv, 1) := by decide +kernel
theorem dX10_putNumber_30 : decode cX10_putNumber 30 = .ok (.bipush 10, 2) := by decide +kernel
theorem dX10_putNumber_32 : decode cX10_putNumber 32 = .ok (.irem, 1) := by decide +kernel
theorem dX10_putNumber_33 : decode cX10_putNumber 33 = .ok (.iadd, 1) := by decide +kernel
theorem dX10_putNumber_34 : decode cX10_putNumber 34 = .ok (.invokevirtual 71, 3) := by decide +kernel
theorem dX10_putNumber_37 : decode cX10_putNumber 37 = .ok (.aload_n 0, 1) := by decide +kernel
theorem dX10_putNumber_38 : decode cX10_putNumber 38 = .ok (.bipush 48, 2) := by decide +kernel
theorem dX10_putNumber_40 : decode cX10_putNumber 40 = .ok (.iload_n 1, 1) := by decide +kernel
theorem dX10_putNumber_41 : decode cX10_putNumber 41 = .ok (.bipush 10, 2) := by decide +kernel
theorem dX10_putNumber_43 : decode cX10_putNumber 43 = .ok (.irem, 1) := by decide +kernel
theorem dX10_putNumber_44 : decode cX10_putNumber 44 = .ok (.iadd, 1) := by decide +kernel
theorem dX10_putNumber_45 : decode cX10_putNumber 45 = .ok (.invokevirtual 71, 3) := by decide +kernel
theorem dX10_putNumber_48 : decode cX10_putNumber 48 = .ok (.return_, 1) := by decide +kernel
theorem dX10_putName_0 : decode cX10_putName 0 = .ok (.bipush 30, 2) := by decide +kernel
theorem dX10_putName_2 : decode cX10_putName 2 = .ok (.istore_n 3, 1) := by decide +kernel
theorem dX10_putName_3 : decode cX10_putName 3 = .ok (.iload_n 3, 1) := by decide +kernel
theorem dX10_putName_4 : decode cX10_putName 4 = .ok (.ifCond .lt 32, 3) := by decide +kernel
theorem dX10_putName_7 : decode cX10_putName 7 = .ok (.lload_n 1, 1) := by decide +kernel
theorem dX10_putName_8 : decode cX10_putName 8 = .ok (.iload_n 3, 1) := by decide +kernel
theorem dX10_putName_9 : decode cX10_putName 9 = .ok (.lshr, 1) := by decide +kernel
theorem dX10_putName_10 : decode cX10_putName 10 = .ok (.l2i, 1) := by decide +kernel
theorem dX10_putName_11 : decode cX10_putName 11 = .ok (.bipush 31, 2) := by decide +kernel
theorem dX10_putName_13 : decode cX10_putName 13 = .ok (.iand, 1) := by decide +kernel
theorem dX10_putName_14 : decode cX10_putName 14 = .ok (.istore 4, 2) := by decide +kernel
theorem dX10_putName_16 : decode cX10_putName 16 = .ok (.iload 4, 2) := by decide +kernel
theorem dX10_putName_18 : decode cX10_putName 18 = .ok (.ifCond .le 12, 3) := by decide +kernel
theorem dX10_putName_21 : decode cX10_putName 21 = .ok (.aload_n 0, 1) := by decide +kernel
theorem dX10_putName_22 : decode cX10_putName 22 = .ok (.bipush 96, 2) := by decide +kernel
theorem dX10_putName_24 : decode cX10_putName 24 = .ok (.iload 4, 2) := by decide +kernel
theorem dX10_putName_26 : decode cX10_putName 26 = .ok (.iadd, 1) := by decide +kernel
theorem dX10_putName_27 : decode cX10_putName 27 = .ok (.invokevirtual 71, 3) := by decide +kernel
theorem dX10_putName_30 : decode cX10_putName 30 = .ok (.iinc 3 (-5), 3) := by decide +kernel
theorem dX10_putName_33 : decode cX10_putName 33 = .ok (.goto (-30), 3) := by decide +kernel
theorem dX10_putName_36 : decode cX10_putName 36 = .ok (.return_, 1) := by decide +kernel
theorem dX11_init_0 : decode cX11_init 0 = .ok (.aload_n 0, 1) := by decide +kernel
theorem dX11_init_1 : decode cX11_init 1 = .ok (.invokespecial 1, 3) := by decide +kernel
theorem dX11_init_4 : decode cX11_init 4 = .ok (.aload_n 0, 1) := by decide +kernel
theorem dX11_init_5 : decode cX11_init 5 = .ok (.sipush 940, 3) := by decide +kernel
theorem dX11_init_8 : decode cX11_init 8 = .ok (.newarray .int, 2) := by decide +kernel
theorem dX11_init_10 : decode cX11_init 10 = .ok (.putfield 9, 3) := by decide +kernel
theorem dX11_init_13 : decode cX11_init 13 = .ok (.aload_n 0, 1) := by decide +kernel
theorem dX11_init_14 : decode cX11_init 14 = .ok (.new 13, 3) := by decide +kernel
theorem dX11_init_17 : decode cX11_init 17 = .ok (.dup, 1) := by decide +kernel
theorem dX11_init_18 : decode cX11_init 18 = .ok (.invokespecial 15, 3) := by decide +kernel
theorem dX11_init_21 : decode cX11_init 21 = .ok (.putfield 16, 3) := by decide +kernel
theorem dX11_init_24 : decode cX11_init 24 = .ok (.aload_n 0, 1) := by decide +kernel
theorem dX11_init_25 : decode cX11_init 25 = .ok (.new 20, 3) := by decide +kernel
theorem dX11_init_28 : decode cX11_init 28 = .ok (.dup, 1) := by decide +kernel
theorem dX11_init_29 : decode cX11_init 29 = .ok (.invokespecial 22, 3) := by decide +kernel
theorem dX11_init_32 : decode cX11_init 32 = .ok (.putfield 23, 3) := by decide +kernel
theorem dX11_init_35 : decode cX11_init 35 = .ok (.aload_n 0, 1) := by decide +kernel
theorem dX11_init_36 : decode cX11_init 36 = .ok (.new 27, 3) := by decide +kernel
theorem dX11_init_39 : decode cX11_init 39 = .ok (.dup, 1) := by decide +kernel
theorem dX11_init_40 : decode cX11_init 40 = .ok (.invokespecial 29, 3) := by decide +kernel
theorem dX11_init_43 : decode cX11_init 43 = .ok (.putfield 30, 3) := by decide +kernel
theorem dX11_init_46 : decode cX11_init 46 = .ok (.aload_n 0, 1) := by decide +kernel
theorem dX11_init_47 : decode cX11_init 47 = .ok (.new 34, 3) := by decide +kernel
theorem dX11_init_50 : decode cX11_init 50 = .ok (.dup, 1) := by decide +kernel
theorem dX11_init_51 : decode cX11_init 51 = .ok (.invokespecial 36, 3) := by decide +kernel
theorem dX11_init_54 : decode cX11_init 54 = .ok (.putfield 37, 3) := by decide +kernel
theorem dX11_init_57 : decode cX11_init 57 = .ok (.aload_n 0, 1) := by decide +kernel
theorem dX11_init_58 : decode cX11_init 58 = .ok (.new 41, 3) := by decide +kernel
theorem dX11_init_61 : decode cX11_init 61 = .ok (.dup, 1) := by decide +kernel
theorem dX11_init_62 : decode cX11_init 62 = .ok (.invokespecial 43, 3) := by decide +kernel
theorem dX11_init_65 : decode cX11_init 65 = .ok (.putfield 44, 3) := by decide +kernel
theorem dX11_init_68 : decode cX11_init 68 = .ok (.aload_n 0, 1) := by decide +kernel
theorem dX11_init_69 : decode cX11_init 69 = .ok (.bipush 8, 2) := by decide +kernel
theorem dX11_init_71 : decode cX11_init 71 = .ok (.anewarray 48, 3) := by decide +kernel
theorem dX11_init_74 : decode cX11_init 74 = .ok (.putfield 50, 3) := by decide +kernel
theorem dX11_init_77 : decode cX11_init 77 = .ok (.aload_n 0, 1) := by decide +kernel
theorem dX11_init_78 : decode cX11_init 78 = .ok (.iconst 2, 1) := by decide +kernel
theorem dX11_init_79 : decode cX11_init 79 = .ok (.anewarray 48, 3) := by decide +kernel
theorem dX11_init_82 : decode cX11_init 82 = .ok (.putfield 54, 3) := by decide +kernel
theorem dX11_init_85 : decode cX11_init 85 = .ok (.aload_n 0, 1) := by decide +kernel
theorem dX11_init_86 : decode cX11_init 86 = .ok (.iconst 2, 1) := by decide +kernel
theorem dX11_init_87 : decode cX11_init 87 = .ok (.anewarray 57, 3) := by decide +kernel
theorem dX11_init_90 : decode cX11_init 90 = .ok (.putfield 59, 3) := by decide +kernel
theorem dX11_init_93 : decode cX11_init 93 = .ok (.aload_n 0, 1) := by decide +kernel
theorem dX11_init_94 : decode cX11_init 94 = .ok (.iconst 4, 1) := by decide +kernel
theorem dX11_init_95 : decode cX11_init 95 = .ok (.newarray .int, 2) := by decide +kernel
theorem dX11_init_97 : decode cX11_init 97 = .ok (.putfield 63, 3) := by decide +kernel
theorem dX11_init_100 : decode cX11_init 100 = .ok (.aload_n 0, 1) := by decide +kernel
theorem dX11_init_101 : decode cX11_init 101 = .ok (.new 66, 3) := by decide +kernel
theorem dX11_init_104 : decode cX11_init 104 = .ok (.dup, 1) := by decide +kernel
theorem dX11_init_105 : decode cX11_init 105 = .ok (.invokespecial 68, 3) := by decide +kernel
theorem dX11_init_108 : decode cX11_init 108 = .ok (.putfield 69, 3) := by decide +kernel
theorem dX11_init_111 : decode cX11_init 111 = .ok (.new 73, 3) := by decide +kernel
theorem dX11_init_114 : decode cX11_init 114 = .ok (.dup, 1) := by decide +kernel
theorem dX11_init_115 : decode cX11_init 115 = .ok (.invokespecial 75, 3) := by decide +kernel
theorem dX11_init_118 : decode cX11_init 118 = .ok (.astore_n 1, 1) := by decide +kernel
theorem dX11_init_119 : decode cX11_init 119 = .ok (.aload_n 0, 1) := by decide +kernel
theorem dX11_init_120 : decode cX11_init 120 = .ok (.new 48, 3) := by decide +kernel
theorem dX11_init_123 : decode cX11_init 123 = .ok (.dup, 1) := by decide +kernel
theorem dX11_init_124 : decode cX11_init 124 = .ok (.aload_n 1, 1) := by decide +kernel
theorem dX11_init_125 : decode cX11_init 125 = .ok (.invokespecial 76, 3) := by decide +kernel
theorem dX11_init_128 : decode cX11_init 128 = .ok (.putfield 79, 3) := by decide +kernel
theorem dX11_init_131 : decode cX11_init 131 = .ok (.aload_n 0, 1) := by decide +kernel
theorem dX11_init_132 : decode cX11_init 132 = .ok (.new 48, 3) := by decide +kernel
theorem dX11_init_135 : decode cX11_init 135 = .ok (.dup, 1) := by decide +kernel
theorem dX11_init_136 : decode cX11_init 136 = .ok (.aload_n 1, 1) := by decide +kernel
theorem dX11_init_137 : decode cX11_init 137 = .ok (.invokespecial 76, 3) := by decide +kernel
theorem dX11_init_140 : decode cX11_init 140 = .ok (.putfield 83, 3) := by decide +kernel
theorem dX11_init_143 : decode cX11_init 143 = .ok (.return_, 1) := by decide +kernel
theorem dX11_feed_0 : decode cX11_feed 0 = .ok (.aload_n 0, 1) := by decide +kernel
theorem dX11_feed_1 : decode cX11_feed 1 = .ok (.getfield 86, 3) := by decide +kernel
theorem dX11_feed_4 : decode cX11_feed 4 = .ok (.bipush 20, 2) := by decide +kernel
theorem dX11_feed_6 : decode cX11_feed 6 = .ok (.iadd, 1) := by decide +kernel
theorem dX11_feed_7 : decode cX11_feed 7 = .ok (.sipush 940, 3) := by decide +kernel
theorem dX11_feed_10 : decode cX11_feed 10 = .ok (.if_icmp .le 5, 3) := by decide +kernel
theorem dX11_feed_13 : decode cX11_feed 13 = .ok (.iconst (-1), 1) := by decide +kernel
theorem dX11_feed_14 : decode cX11_feed 14 = .ok (.ireturn, 1) := by decide +kernel
theorem dX11_feed_15 : decode cX11_feed 15 = .ok (.aload_n 0, 1) := by decide +kernel
theorem dX11_feed_16 : decode cX11_feed 16 = .ok (.iload_n 1, 1) := by decide +kernel
theorem dX11_feed_17 : decode cX11_feed 17 = .ok (.invokevirtual 90, 3) := by decide +kernel
theorem dX11_feed_20 : decode cX11_feed 20 = .ok (.aload_n 0, 1) := by decide +kernel
theorem dX11_feed_21 : decode cX11_feed 21 = .ok (.iload_n 2, 1) := by decide +kernel
theorem dX11_feed_22 : decode cX11_feed 22 = .ok (.invokevirtual 90, 3) := by decide +kernel
theorem dX11_feed_25 : decode cX11_feed 25 = .ok (.aload_n 0, 1) := by decide +kernel
theorem dX11_feed_26 : decode cX11_feed 26 = .ok (.iload_n 3, 1) := by decide +kernel
theorem dX11_feed_27 : decode cX11_feed 27 = .ok (.invokevirtual 90, 3) := by decide +kernel
theorem dX11_feed_30 : decode cX11_feed 30 = .ok (.aload_n 0, 1) := by decide +kernel
theorem dX11_feed_31 : decode cX11_feed 31 = .ok (.iload 4, 2) := by decide +kernel
theorem dX11_feed_33 : decode cX11_feed 33 = .ok (.invokevirtual 90, 3) := by decide +kernel
theorem dX11_feed_36 : decode cX11_feed 36 = .ok (.aload_n 0, 1) := by decide +kernel
theorem dX11_feed_37 : decode cX11_feed 37 = .ok (.iload 5, 2) := by decide +kernel
theorem dX11_feed_39 : decode cX11_feed 39 = .ok (.invokevirtual 90, 3) := by decide +kernel
theorem dX11_feed_42 : decode cX11_feed 42 = .ok (.aload_n 0, 1) := by decide +kernel
theorem dX11_feed_43 : decode cX11_feed 43 = .ok (.getfield 86, 3) := by decide +kernel
theorem dX11_feed_46 : decode cX11_feed 46 = .ok (.ireturn, 1) := by decide +kernel
theorem dX11_feedNumber_0 : decode cX11_feedNumber 0 = .ok (.bipush 24, 2) := by decide +kernel
theorem dX11_feedNumber_2 : decode cX11_feedNumber 2 = .ok (.istore_n 2, 1) := by decide +kernel
theorem dX11_feedNumber_3 : decode cX11_feedNumber 3 = .ok (.iload_n 2, 1) := by decide +kernel
theorem dX11_feedNumber_4 : decode cX11_feedNumber 4 = .ok (.ifCond .lt 45, 3) := by decide +kernel
theorem dX11_feedNumber_7 : decode cX11_feedNumber 7 = .ok (.aload_n 0, 1) := by decide +kernel
theorem dX11_feedNumber_8 : decode cX11_feedNumber 8 = .ok (.getfield 86, 3) := by decide +kernel
theorem dX11_feedNumber_11 : decode cX11_feedNumber 11 = .ok (.sipush 940, 3) := by decide +kernel
theorem dX11_feedNumber_14 : decode cX11_feedNumber 14 = .ok (.if_icmp .ge 35, 3) := by decide +kernel
theorem dX11_feedNumber_17 : decode cX11_feedNumber 17 = .ok (.aload_n 0, 1) := by decide +kernel
theorem dX11_feedNumber_18 : decode cX11_feedNumber 18 = .ok (.getfield 9, 3) := by decide +kernel
theorem dX11_feedNumber_21 : decode cX11_feedNumber 21 = .ok (.aload_n 0, 1) := by decide +kernel
theorem dX11_feedNumber_22 : decode cX11_feedNumber 22 = .ok (.getfield 86, 3) := by decide +kernel
theorem dX11_feedNumber_25 : decode cX11_feedNumber 25 = .ok (.iload_n 1, 1) := by decide +kernel
theorem dX11_feedNumber_26 : decode cX11_feedNumber 26 = .ok (.iload_n 2, 1) := by decide +kernel
theorem dX11_feedNumber_27 : decode cX11_feedNumber 27 = .ok (.iushr, 1) := by decide +kernel
theorem dX11_feedNumber_28 : decode cX11_feedNumber 28 = .ok (.sipush 255, 3) := by decide +kernel
theorem dX11_feedNumber_31 : decode cX11_feedNumber 31 = .ok (.iand, 1) := by decide +kernel
theorem dX11_feedNumber_32 : decode cX11_feedNumber 32 = .ok (.iastore, 1) := by decide +kernel
theorem dX11_feedNumber_33 : decode cX11_feedNumber 33 = .ok (.aload_n 0, 1) := by decide +kernel
theorem dX11_feedNumber_34 : decode cX11_feedNumber 34 = .ok (.dup, 1) := by decide +kernel
theorem dX11_feedNumber_35 : decode cX11_feedNumber 35 = .ok (.getfield 86, 3) := by decide +kernel
theorem dX11_feedNumber_38 : decode cX11_feedNumber 38 = .ok (.iconst 1, 1) := by decide +kernel
theorem dX11_feedNumber_39 : decode cX11_feedNumber 39 = .ok (.iadd, 1) := by decide +kernel
theorem dX11_feedNumber_40 : decode cX11_feedNumber 40 = .ok (.putfield 86, 3) := by decide +kernel
theorem dX11_feedNumber_43 : decode cX11_feedNumber 43 = .ok (.iinc 2 (-8), 3) := by decide +kernel
theorem dX11_feedNumber_46 : decode cX11_feedNumber 46 = .ok (.goto (-43), 3) := by decide +kernel
theorem dX11_feedNumber_49 : decode cX11_feedNumber 49 = .ok (.return_, 1) := by decide +kernel
theorem dX11_end_0 : decode cX11_end 0 = .ok (.iload_n 1, 1) := by decide +kernel
theorem dX11_end_1 : decode cX11_end 1 = .ok (.ifCond .lt 11, 3) := by decide +kernel
theorem dX11_end_4 : decode cX11_end 4 = .ok (.iload_n 1, 1) := by decide +kernel
theorem dX11_end_5 : decode cX11_end 5 = .ok (.aload_n 0, 1) := by decide +kernel
theorem dX11_end_6 : decode cX11_end 6 = .ok (.getfield 86, 3) := by decide +kernel
theorem dX11_end_9 : decode cX11_end 9 = .ok (.if_icmp .le 5, 3) := by decide +kernel
theorem dX11_end_12 : decode cX11_end 12 = .ok (.iconst 0, 1) := by decide +kernel
theorem dX11_end_13 : decode cX11_end 13 = .ok (.ireturn, 1) := by decide +kernel
theorem dX11_end_14 : decode cX11_end 14 = .ok (.aload_n 0, 1) := by decide +kernel
theorem dX11_end_15 : decode cX11_end 15 = .ok (.iload_n 1, 1) := by decide +kernel
theorem dX11_end_16 : decode cX11_end 16 = .ok (.putfield 86, 3) := by decide +kernel
theorem dX11_end_19 : decode cX11_end 19 = .ok (.iconst 1, 1) := by decide +kernel
theorem dX11_end_20 : decode cX11_end 20 = .ok (.ireturn, 1) := by decide +kernel
theorem dX11_house_0 : decode cX11_house 0 = .ok (.aload_n 0, 1) := by decide +kernel
theorem dX11_house_1 : decode cX11_house 1 = .ok (.sipush 900, 3) := by decide +kernel
theorem dX11_house_4 : decode cX11_house 4 = .ok (.invokevirtual 94, 3) := by decide +kernel
theorem dX11_house_7 : decode cX11_house 7 = .ok (.new 97, 3) := by decide +kernel
theorem dX11_house_10 : decode cX11_house 10 = .ok (.dup, 1) := by decide +kernel
theorem dX11_house_11 : decode cX11_house 11 = .ok (.aload_n 0, 1) := by decide +kernel
theorem dX11_house_12 : decode cX11_house 12 = .ok (.getfield 16, 3) := by decide +kernel
theorem dX11_house_15 : decode cX11_house 15 = .ok (.aload_n 0, 1) := by decide +kernel
theorem dX11_house_16 : decode cX11_house 16 = .ok (.getfield 83, 3) := by decide +kernel
theorem dX11_house_19 : decode cX11_house 19 = .ok (.invokespecial 99, 3) := by decide +kernel
theorem dX11_house_22 : decode cX11_house 22 = .ok (.astore_n 1, 1) := by decide +kernel
theorem dX11_house_23 : decode cX11_house 23 = .ok (.aload_n 1, 1) := by decide +kernel
theorem dX11_house_24 : decode cX11_house 24 = .ok (.invokevirtual 102, 3) := by decide +kernel
theorem dX11_house_27 : decode cX11_house 27 = .ok (.istore_n 2, 1) := by decide +kernel
theorem dX11_house_28 : decode cX11_house 28 = .ok (.aload_n 0, 1) := by decide +kernel
theorem dX11_house_29 : decode cX11_house 29 = .ok (.aload_n 0, 1) := by decide +kernel
theorem dX11_house_30 : decode cX11_house 30 = .ok (.getfield 16, 3) := by decide +kernel
theorem dX11_house_33 : decode cX11_house 33 = .ok (.getfield 106, 3) := by decide +kernel
theorem dX11_house_36 : decode cX11_house 36 = .ok (.putfield 109, 3) := by decide +kernel
theorem dX11_house_39 : decode cX11_house 39 = .ok (.iload_n 2, 1) := by decide +kernel
theorem dX11_house_40 : decode cX11_house 40 = .ok (.ifCond .ne 13, 3) := by decide +kernel
theorem dX11_house_43 : decode cX11_house 43 = .ok (.iconst (-1), 1) := by decide +kernel
theorem dX11_house_44 : decode cX11_house 44 = .ok (.aload_n 0, 1) := by decide +kernel
theorem dX11_house_45 : decode cX11_house 45 = .ok (.getfield 16, 3) := by decide +kernel
theorem dX11_house_48 : decode cX11_house 48 = .ok (.getfield 112, 3) := by decide +kernel
theorem dX11_house_51 : decode cX11_house 51 = .ok (.isub, 1) := by decide +kernel
theorem dX11_house_52 : decode cX11_house 52 = .ok (.ireturn, 1) := by decide +kernel
theorem dX11_house_53 : decode cX11_house 53 = .ok (.aload_n 0, 1) := by decide +kernel
theorem dX11_house_54 : decode cX11_house 54 = .ok (.getfield 79, 3) := by decide +kernel
theorem dX11_house_57 : decode cX11_house 57 = .ok (.astore_n 3, 1) := by decide +kernel
theorem dX11_house_58 : decode cX11_house 58 = .ok (.aload_n 0, 1) := by decide +kernel
theorem dX11_house_59 : decode cX11_house 59 = .ok (.aload_n 0, 1) := by decide +kernel
theorem dX11_house_60 : decode cX11_house 60 = .ok (.getfield 83, 3) := by decide +kernel
theorem dX11_house_63 : decode cX11_house 63 = .ok (.putfield 79, 3) := by decide +kernel
theorem dX11_house_66 : decode cX11_house 66 = .ok (.aload_n 0, 1) := by decide +kernel
theorem dX11_house_67 : decode cX11_house 67 = .ok (.aload_n 3, 1) := by decide +kernel
theorem dX11_house_68 : decode cX11_house 68 = .ok (.putfield 83, 3) := by decide +kernel
theorem dX11_house_71 : decode cX11_house 71 = .ok (.aload_n 0, 1) := by decide +kernel
theorem dX11_house_72 : decode cX11_house 72 = .ok (.aconst_null, 1) := by decide +kernel
theorem dX11_house_73 : decode cX11_house 73 = .ok (.putfield 115, 3) := by decide +kernel
theorem dX11_house_76 : decode cX11_house 76 = .ok (.aload_n 0, 1) := by decide +kernel
theorem dX11_house_77 : decode cX11_house 77 = .ok (.iconst 0, 1) := by decide +kernel
theorem dX11_house_78 : decode cX11_house 78 = .ok (.putfield 119, 3) := by decide +kernel
theorem dX11_house_81 : decode cX11_house 81 = .ok (.aload_n 1, 1) := by decide +kernel
theorem dX11_house_82 : decode cX11_house 82 = .ok (.getfield 122, 3) := by decide +kernel
theorem dX11_house_85 : decode cX11_house 85 = .ok (.ireturn, 1) := by decide +kernel
theorem dX11_openTape_0 : decode cX11_openTape 0 = .ok (.aload_n 0, 1) := by decide +kernel
theorem dX11_openTape_1 : decode cX11_openTape 1 = .ok (.getfield 16, 3) := by decide +kernel
theorem dX11_openTape_4 : decode cX11_openTape 4 = .ok (.aload_n 0, 1) := by decide +kernel
theorem dX11_openTape_5 : decode cX11_openTape 5 = .ok (.getfield 9, 3) := by decide +kernel
theorem dX11_openTape_8 : decode cX11_openTape 8 = .ok (.aload_n 0, 1) := by decide +kernel
theorem dX11_openTape_9 : decode cX11_openTape 9 = .ok (.getfield 86, 3) := by decide +kernel
theorem dX11_openTape_12 : decode cX11_openTape 12 = .ok (.iload_n 1, 1) := by decide +kernel
theorem dX11_openTape_13 : decode cX11_openTape 13 = .ok (.invokevirtual 125, 3) := by decide +kernel
theorem dX11_openTape_16 : decode cX11_openTape 16 = .ok (.aload_n 0, 1) := by decide +kernel
theorem dX11_openTape_17 : decode cX11_openTape 17 = .ok (.iconst 0, 1) := by decide +kernel
theorem dX11_openTape_18 : decode cX11_openTape 18 = .ok (.putfield 86, 3) := by decide +kernel
theorem dX11_openTape_21 : decode cX11_openTape 21 = .ok (.return_, 1) := by decide +kernel
theorem dX11_fault_0 : decode cX11_fault 0 = .ok (.aload_n 0, 1) := by decide +kernel
theorem dX11_fault_1 : decode cX11_fault 1 = .ok (.getfield 109, 3) := by decide +kernel
theorem dX11_fault_4 : decode cX11_fault 4 = .ok (.ireturn, 1) := by decide +kernel
theorem dX11_cask_0 : decode cX11_cask 0 = .ok (.aload_n 0, 1) := by decide +kernel
theorem dX11_cask_1 : decode cX11_cask 1 = .ok (.iload_n 1, 1) := by decide +kernel
theorem dX11_cask_2 : decode cX11_cask 2 = .ok (.invokevirtual 129, 3) := by decide +kernel
theorem dX11_cask_5 : decode cX11_cask 5 = .ok (.ifCond .eq 5, 3) := by decide +kernel
theorem dX11_cask_8 : decode cX11_cask 8 = .ok (.iconst (-1), 1) := by decide +kernel
theorem dX11_cask_9 : decode cX11_cask 9 = .ok (.ireturn, 1) := by decide +kernel
theorem dX11_cask_10 : decode cX11_cask 10 = .ok (.aload_n 0, 1) := by decide +kernel
theorem dX11_cask_11 : decode cX11_cask 11 = .ok (.getfield 79, 3) := by decide +kernel
theorem dX11_cask_14 : decode cX11_cask 14 = .ok (.getfield 133, 3) := by decide +kernel
theorem dX11_cask_17 : decode cX11_cask 17 = .ok (.astore_n 3, 1) := by decide +kernel
theorem dX11_cask_18 : decode cX11_cask 18 = .ok (.iload_n 2, 1) := by decide +kernel
theorem dX11_cask_19 : decode cX11_cask 19 = .ok (.tableswitch 101 0 6 #[41, 48, 54, 64, 73, 83, 92], 41) := by decide +kernel
theorem dX11_cask_60 : decode cX11_cask 60 = .ok (.aload_n 3, 1) := by decide +kernel
theorem dX11_cask_61 : decode cX11_cask 61 = .ok (.getfield 137, 3) := by decide +kernel
theorem dX11_cask_64 : decode cX11_cask 64 = .ok (.iload_n 1, 1) := by decide +kernel
theorem dX11_cask_65 : decode cX11_cask 65 = .ok (.iaload, 1) := by decide +kernel
theorem dX11_cask_66 : decode cX11_cask 66 = .ok (.ireturn, 1) := by decide +kernel
theorem dX11_cask_67 : decode cX11_cask 67 = .ok (.aload_n 3, 1) := by decide +kernel
theorem dX11_cask_68 : decode cX11_cask 68 = .ok (.iload_n 1, 1) := by decide +kernel
theorem dX11_cask_69 : decode cX11_cask 69 = .ok (.invokevirtual 140, 3) := by decide +kernel
theorem dX11_cask_72 : decode cX11_cask 72 = .ok (.ireturn, 1) := by decide +kernel
theorem dX11_cask_73 : decode cX11_cask 73 = .ok (.aload_n 0, 1) := by decide +kernel
theorem dX11_cask_74 : decode cX11_cask 74 = .ok (.getfield 79, 3) := by decide +kernel
theorem dX11_cask_77 : decode cX11_cask 77 = .ok (.getfield 144, 3) := by decide +kernel
theorem dX11_cask_80 : decode cX11_cask 80 = .ok (.iload_n 1, 1) := by decide +kernel
theorem dX11_cask_81 : decode cX11_cask 81 = .ok (.iaload, 1) := by decide +kernel
theorem dX11_cask_82 : decode cX11_cask 82 = .ok (.ireturn, 1) := by decide +kernel
theorem dX11_cask_83 : decode cX11_cask 83 = .ok (.aload_n 0, 1) := by decide +kernel
theorem dX11_cask_84 : decode cX11_cask 84 = .ok (.getfield 79, 3) := by decide +kernel
theorem dX11_cask_87 : decode cX11_cask 87 = .ok (.iload_n 1, 1) := by decide +kernel
theorem dX11_cask_88 : decode cX11_cask 88 = .ok (.invokevirtual 147, 3) := by decide +kernel
theorem dX11_cask_91 : decode cX11_cask 91 = .ok (.ireturn, 1) := by decide +kernel
theorem dX11_cask_92 : decode cX11_cask 92 = .ok (.aload_n 0, 1) := by decide +kernel
theorem dX11_cask_93 : decode cX11_cask 93 = .ok (.getfield 79, 3) := by decide +kernel
theorem dX11_cask_96 : decode cX11_cask 96 = .ok (.getfield 150, 3) := by decide +kernel
theorem dX11_cask_99 : decode cX11_cask 99 = .ok (.iload_n 1, 1) := by decide +kernel
theorem dX11_cask_100 : decode cX11_cask 100 = .ok (.iaload, 1) := by decide +kernel
theorem dX11_cask_101 : decode cX11_cask 101 = .ok (.ireturn, 1) := by decide +kernel
theorem dX11_cask_102 : decode cX11_cask 102 = .ok (.aload_n 0, 1) := by decide +kernel
theorem dX11_cask_103 : decode cX11_cask 103 = .ok (.getfield 79, 3) := by decide +kernel
theorem dX11_cask_106 : decode cX11_cask 106 = .ok (.iload_n 1, 1) := by decide +kernel
theorem dX11_cask_107 : decode cX11_cask 107 = .ok (.invokevirtual 153, 3) := by decide +kernel
theorem dX11_cask_110 : decode cX11_cask 110 = .ok (.ireturn, 1) := by decide +kernel
theorem dX11_cask_111 : decode cX11_cask 111 = .ok (.aload_n 0, 1) := by decide +kernel
theorem dX11_cask_112 : decode cX11_cask 112 = .ok (.getfield 79, 3) := by decide +kernel
theorem dX11_cask_115 : decode cX11_cask 115 = .ok (.iload_n 1, 1) := by decide +kernel
theorem dX11_cask_116 : decode cX11_cask 116 = .ok (.invokevirtual 156, 3) := by decide +kernel
theorem dX11_cask_119 : decode cX11_cask 119 = .ok (.ireturn, 1) := by decide +kernel
theorem dX11_cask_120 : decode cX11_cask 120 = .ok (.iconst (-1), 1) := by decide +kernel
theorem dX11_cask_121 : decode cX11_cask 121 = .ok (.ireturn, 1) := by decide +kernel
theorem dX11_noCask_0 : decode cX11_noCask 0 = .ok (.iload_n 1, 1) := by decide +kernel
theorem dX11_noCask_1 : decode cX11_noCask 1 = .ok (.ifCond .lt 17, 3) := by decide +kernel
theorem dX11_noCask_4 : decode cX11_noCask 4 = .ok (.iload_n 1, 1) := by decide +kernel
theorem dX11_noCask_5 : decode cX11_noCask 5 = .ok (.aload_n 0, 1) := by decide +kernel
theorem dX11_noCask_6 : decode cX11_noCask 6 = .ok (.getfield 79, 3) := by decide +kernel
theorem dX11_noCask_9 : decode cX11_noCask 9 = .ok (.getfield 133, 3) := by decide +kernel
theorem dX11_noCask_12 : decode cX11_noCask 12 = .ok (.getfield 159, 3) := by decide +kernel
theorem dX11_noCask_15 : decode cX11_noCask 15 = .ok (.if_icmp .lt 7, 3) := by decide +kernel
theorem dX11_noCask_18 : decode cX11_noCask 18 = .ok (.iconst 1, 1) := by decide +kernel
theorem dX11_noCask_19 : decode cX11_noCask 19 = .ok (.goto 4, 3) := by decide +kernel
theorem dX11_noCask_22 : decode cX11_noCask 22 = .ok (.iconst 0, 1) := by decide +kernel
theorem dX11_noCask_23 : decode cX11_noCask 23 = .ok (.ireturn, 1) := by decide +kernel
theorem dX11_noScale_0 : decode cX11_noScale 0 = .ok (.iload_n 1, 1) := by decide +kernel
theorem dX11_noScale_1 : decode cX11_noScale 1 = .ok (.ifCond .lt 17, 3) := by decide +kernel
theorem dX11_noScale_4 : decode cX11_noScale 4 = .ok (.iload_n 1, 1) := by decide +kernel
theorem dX11_noScale_5 : decode cX11_noScale 5 = .ok (.aload_n 0, 1) := by decide +kernel
theorem dX11_noScale_6 : decode cX11_noScale 6 = .ok (.getfield 79, 3) := by decide +kernel
theorem dX11_noScale_9 : decode cX11_noScale 9 = .ok (.getfield 133, 3) := by decide +kernel
theorem dX11_noScale_12 : decode cX11_noScale 12 = .ok (.getfield 162, 3) := by decide +kernel
theorem dX11_noScale_15 : decode cX11_noScale 15 = .ok (.if_icmp .lt 7, 3) := by decide +kernel
theorem dX11_noScale_18 : decode cX11_noScale 18 = .ok (.iconst 1, 1) := by decide +kernel
theorem dX11_noScale_19 : decode cX11_noScale 19 = .ok (.goto 4, 3) := by decide +kernel
theorem dX11_noScale_22 : decode cX11_noScale 22 = .ok (.iconst 0, 1) := by decide +kernel
theorem dX11_noScale_23 : decode cX11_noScale 23 = .ok (.ireturn, 1) := by decide +kernel
theorem dX11_noVintage_0 : decode cX11_noVintage 0 = .ok (.iload_n 0, 1) := by decide +kernel
theorem dX11_noVintage_1 : decode cX11_noVintage 1 = .ok (.ifCond .lt 9, 3) := by decide +kernel
theorem dX11_noVintage_4 : decode cX11_noVintage 4 = .ok (.iload_n 0, 1) := by decide +kernel
theorem dX11_noVintage_5 : decode cX11_noVintage 5 = .ok (.bipush 40, 2) := by decide +kernel
theorem dX11_noVintage_7 : decode cX11_noVintage 7 = .ok (.if_icmp .lt 7, 3) := by decide +kernel
theorem dX11_noVintage_10 : decode cX11_noVintage 10 = .ok (.iconst 1, 1) := by decide +kernel
theorem dX11_noVintage_11 : decode cX11_noVintage 11 = .ok (.goto 4, 3) := by decide +kernel
theorem dX11_noVintage_14 : decode cX11_noVintage 14 = .ok (.iconst 0, 1) := by decide +kernel
theorem dX11_noVintage_15 : decode cX11_noVintage 15 = .ok (.ireturn, 1) := by decide +kernel
theorem dX11_noHalf_0 : decode cX11_noHalf 0 = .ok (.iload_n 0, 1) := by decide +kernel
theorem dX11_noHalf_1 : decode cX11_noHalf 1 = .ok (.ifCond .eq 12, 3) := by decide +kernel
theorem dX11_noHalf_4 : decode cX11_noHalf 4 = .ok (.iload_n 0, 1) := by decide +kernel
theorem dX11_noHalf_5 : decode cX11_noHalf 5 = .ok (.iconst 1, 1) := by decide +kernel
theorem dX11_noHalf_6 : decode cX11_noHalf 6 = .ok (.if_icmp .eq 7, 3) := by decide +kernel
theorem dX11_noHalf_9 : decode cX11_noHalf 9 = .ok (.iconst 1, 1) := by decide +kernel
theorem dX11_noHalf_10 : decode cX11_noHalf 10 = .ok (.goto 4, 3) := by decide +kernel
theorem dX11_noHalf_13 : decode cX11_noHalf 13 = .ok (.iconst 0, 1) := by decide +kernel
theorem dX11_noHalf_14 : decode cX11_noHalf 14 = .ok (.ireturn, 1) := by decide +kernel
theorem dX11_litres_0 : decode cX11_litres 0 = .ok (.aload_n 0, 1) := by decide +kernel
theorem dX11_litres_1 : decode cX11_litres 1 = .ok (.iload_n 1, 1) := by decide +kernel
theorem dX11_litres_2 : decode cX11_litres 2 = .ok (.invokevirtual 129, 3) := by decide +kernel
theorem dX11_litres_5 : decode cX11_litres 5 = .ok (.ifCond .ne 10, 3) := by decide +kernel
theorem dX11_litres_8 : decode cX11_litres 8 = .ok (.iload_n 2, 1) := by decide +kernel
theorem dX11_litres_9 : decode cX11_litres 9 = .ok (.invokestatic 165, 3) := by decide +kernel
theorem dX11_litres_12 : decode cX11_litres 12 = .ok (.ifCond .eq 11, 3) := by decide +kernel
theorem dX11_litres_15 : decode cX11_litres 15 = .ok (.new 168, 3) := by decide +kernel
theorem dX11_litres_18 : decode cX11_litres 18 = .ok (.dup, 1) := by decide +kernel
theorem dX11_litres_19 : decode cX11_litres 19 = .ok (.invokespecial 170, 3) := by decide +kernel
theorem dX11_litres_22 : decode cX11_litres 22 = .ok (.athrow, 1) := by decide +kernel
theorem dX11_litres_23 : decode cX11_litres 23 = .ok (.aload_n 0, 1) := by decide +kernel
theorem dX11_litres_24 : decode cX11_litres 24 = .ok (.getfield 79, 3) := by decide +kernel
theorem dX11_litres_27 : decode cX11_litres 27 = .ok (.getfield 171, 3) := by decide +kernel
theorem dX11_litres_30 : decode cX11_litres 30 = .ok (.iload_n 1, 1) := by decide +kernel
theorem dX11_litres_31 : decode cX11_litres 31 = .ok (.aaload, 1) := by decide +kernel
theorem dX11_litres_32 : decode cX11_litres 32 = .ok (.iload_n 2, 1) := by decide +kernel
theorem dX11_litres_33 : decode cX11_litres 33 = .ok (.iaload, 1) := by decide +kernel
theorem dX11_litres_34 : decode cX11_litres 34 = .ok (.ireturn, 1) := by decide +kernel
theorem dX11_age_0 : decode cX11_age 0 = .ok (.aload_n 0, 1) := by decide +kernel
theorem dX11_age_1 : decode cX11_age 1 = .ok (.iload_n 1, 1) := by decide +kernel
theorem dX11_age_2 : decode cX11_age 2 = .ok (.invokevirtual 129, 3) := by decide +kernel
theorem dX11_age_5 : decode cX11_age 5 = .ok (.ifCond .ne 22, 3) := by decide +kernel
theorem dX11_age_8 : decode cX11_age 8 = .ok (.iload_n 2, 1) := by decide +kernel
theorem dX11_age_9 : decode cX11_age 9 = .ok (.invokestatic 175, 3) := by decide +kernel
theorem dX11_age_12 : decode cX11_age 12 = .ok (.ifCond .ne 15, 3) := by decide +kernel
theorem dX11_age_15 : decode cX11_age 15 = .ok (.aload_n 0, 1) := by decide +kernel
theorem dX11_age_16 : decode cX11_age 16 = .ok (.getfield 79, 3) := by decide +kernel
theorem dX11_age_19 : decode cX11_age 19 = .ok (.getfield 144, 3) := by decide +kernel
theorem dX11_age_22 : decode cX11_age 22 = .ok (.iload_n 1, 1) := by decide +kernel
theorem dX11_age_23 : decode cX11_age 23 = .ok (.iaload, 1) := by decide +kernel
theorem dX11_age_24 : decode cX11_age 24 = .ok (.ifCond .ne 11, 3) := by decide +kernel
theorem dX11_age_27 : decode cX11_age 27 = .ok (.new 168, 3) := by decide +kernel
theorem dX11_age_30 : decode cX11_age 30 = .ok (.dup, 1) := by decide +kernel
theorem dX11_age_31 : decode cX11_age 31 = .ok (.invokespecial 170, 3) := by decide +kernel
theorem dX11_age_34 : decode cX11_age 34 = .ok (.athrow, 1) := by decide +kernel
theorem dX11_age_35 : decode cX11_age 35 = .ok (.aload_n 0, 1) := by decide +kernel
theorem dX11_age_36 : decode cX11_age 36 = .ok (.getfield 79, 3) := by decide +kernel
theorem dX11_age_39 : decode cX11_age 39 = .ok (.iload_n 1, 1) := by decide +kernel
theorem dX11_age_40 : decode cX11_age 40 = .ok (.invokevirtual 178, 3) := by decide +kernel
theorem dX11_age_43 : decode cX11_age 43 = .ok (.aload_n 0, 1) := by decide +kernel
theorem dX11_age_44 : decode cX11_age 44 = .ok (.getfield 79, 3) := by decide +kernel
theorem dX11_age_47 : decode cX11_age 47 = .ok (.getfield 144, 3) := by decide +kernel
theorem dX11_age_50 : decode cX11_age 50 = .ok (.iload_n 1, 1) := by decide +kernel
theorem dX11_age_51 : decode cX11_age 51 = .ok (.iaload, 1) := by decide +kernel
theorem dX11_age_52 : decode cX11_age 52 = .ok (.iload_n 2, 1) := by decide +kernel
theorem dX11_age_53 : decode cX11_age 53 = .ok (.invokestatic 181, 3) := by decide +kernel
theorem dX11_age_56 : decode cX11_age 56 = .ok (.ireturn, 1) := by decide +kernel
theorem dX11_old_0 : decode cX11_old 0 = .ok (.aload_n 0, 1) := by decide +kernel
theorem dX11_old_1 : decode cX11_old 1 = .ok (.iload_n 1, 1) := by decide +kernel
theorem dX11_old_2 : decode cX11_old 2 = .ok (.invokevirtual 185, 3) := by decide +kernel
theorem dX11_old_5 : decode cX11_old 5 = .ok (.ifCond .ne 21, 3) := by decide +kernel
theorem dX11_old_8 : decode cX11_old 8 = .ok (.iload_n 2, 1) := by decide +kernel
theorem dX11_old_9 : decode cX11_old 9 = .ok (.invokestatic 175, 3) := by decide +kernel
theorem dX11_old_12 : decode cX11_old 12 = .ok (.ifCond .ne 14, 3) := by decide +kernel
theorem dX11_old_15 : decode cX11_old 15 = .ok (.aload_n 0, 1) := by decide +kernel
theorem dX11_old_16 : decode cX11_old 16 = .ok (.getfield 79, 3) := by decide +kernel
theorem dX11_old_19 : decode cX11_old 19 = .ok (.iload_n 1, 1) := by decide +kernel
theorem dX11_old_20 : decode cX11_old 20 = .ok (.invokevirtual 188, 3) := by decide +kernel
theorem dX11_old_23 : decode cX11_old 23 = .ok (.ifCond .ne 11, 3) := by decide +kernel
theorem dX11_old_26 : decode cX11_old 26 = .ok (.new 168, 3) := by decide +kernel
theorem dX11_old_29 : decode cX11_old 29 = .ok (.dup, 1) := by decide +kernel
theorem dX11_old_30 : decode cX11_old 30 = .ok (.invokespecial 170, 3) := by decide +kernel
theorem dX11_old_33 : decode cX11_old 33 = .ok (.athrow, 1) := by decide +kernel
theorem dX11_old_34 : decode cX11_old 34 = .ok (.aload_n 0, 1) := by decide +kernel
theorem dX11_old_35 : decode cX11_old 35 = .ok (.getfield 79, 3) := by decide +kernel
theorem dX11_old_38 : decode cX11_old 38 = .ok (.iload_n 1, 1) := by decide +kernel
theorem dX11_old_39 : decode cX11_old 39 = .ok (.invokevirtual 191, 3) := by decide +kernel
theorem dX11_old_42 : decode cX11_old 42 = .ok (.aload_n 0, 1) := by decide +kernel
theorem dX11_old_43 : decode cX11_old 43 = .ok (.getfield 79, 3) := by decide +kernel
theorem dX11_old_46 : decode cX11_old 46 = .ok (.iload_n 1, 1) := by decide +kernel
theorem dX11_old_47 : decode cX11_old 47 = .ok (.invokevirtual 188, 3) := by decide +kernel
theorem dX11_old_50 : decode cX11_old 50 = .ok (.iload_n 2, 1) := by decide +kernel
theorem dX11_old_51 : decode cX11_old 51 = .ok (.invokestatic 181, 3) := by decide +kernel
theorem dX11_old_54 : decode cX11_old 54 = .ok (.ireturn, 1) := by decide +kernel
theorem dX11_now_0 : decode cX11_now 0 = .ok (.iload_n 1, 1) := by decide +kernel
theorem dX11_now_1 : decode cX11_now 1 = .ok (.tableswitch 99 0 6 #[43, 51, 59, 67, 75, 83, 91], 43) := by decide +kernel
theorem dX11_now_44 : decode cX11_now 44 = .ok (.aload_n 0, 1) := by decide +kernel
theorem dX11_now_45 : decode cX11_now 45 = .ok (.getfield 79, 3) := by decide +kernel
theorem dX11_now_48 : decode cX11_now 48 = .ok (.getfield 194, 3) := by decide +kernel
theorem dX11_now_51 : decode cX11_now 51 = .ok (.ireturn, 1) := by decide +kernel
theorem dX11_now_52 : decode cX11_now 52 = .ok (.aload_n 0, 1) := by decide +kernel
theorem dX11_now_53 : decode cX11_now 53 = .ok (.getfield 79, 3) := by decide +kernel
theorem dX11_now_56 : decode cX11_now 56 = .ok (.invokevirtual 197, 3) := by decide +kernel
theorem dX11_now_59 : decode cX11_now 59 = .ok (.ireturn, 1) := by decide +kernel
theorem dX11_now_60 : decode cX11_now 60 = .ok (.aload_n 0, 1) := by decide +kernel
theorem dX11_now_61 : decode cX11_now 61 = .ok (.getfield 79, 3) := by decide +kernel
theorem dX11_now_64 : decode cX11_now 64 = .ok (.invokevirtual 201, 3) := by decide +kernel
theorem dX11_now_67 : decode cX11_now 67 = .ok (.ireturn, 1) := by decide +kernel
theorem dX11_now_68 : decode cX11_now 68 = .ok (.aload_n 0, 1) := by decide +kernel
theorem dX11_now_69 : decode cX11_now 69 = .ok (.getfield 79, 3) := by decide +kernel
theorem dX11_now_72 : decode cX11_now 72 = .ok (.invokevirtual 204, 3) := by decide +kernel
theorem dX11_now_75 : decode cX11_now 75 = .ok (.ireturn, 1) := by decide +kernel
theorem dX11_now_76 : decode cX11_now 76 = .ok (.aload_n 0, 1) := by decide +kernel
theorem dX11_now_77 : decode cX11_now 77 = .ok (.getfield 79, 3) := by decide +kernel
theorem dX11_now_80 : decode cX11_now 80 = .ok (.getfield 207, 3) := by decide +kernel
theorem dX11_now_83 : decode cX11_now 83 = .ok (.ireturn, 1) := by decide +kernel
theorem dX11_now_84 : decode cX11_now 84 = .ok (.aload_n 0, 1) := by decide +kernel
theorem dX11_now_85 : decode cX11_now 85 = .ok (.getfield 79, 3) := by decide +kernel
theorem dX11_now_88 : decode cX11_now 88 = .ok (.getfield 210, 3) := by decide +kernel
theorem dX11_now_91 : decode cX11_now 91 = .ok (.ireturn, 1) := by decide +kernel
theorem dX11_now_92 : decode cX11_now 92 = .ok (.aload_n 0, 1) := by decide +kernel
theorem dX11_now_93 : decode cX11_now 93 = .ok (.getfield 79, 3) := by decide +kernel
theorem dX11_now_96 : decode cX11_now 96 = .ok (.invokevirtual 213, 3) := by decide +kernel
theorem dX11_now_99 : decode cX11_now 99 = .ok (.ireturn, 1) := by decide +kernel
theorem dX11_now_100 : decode cX11_now 100 = .ok (.iconst (-1), 1) := by decide +kernel
theorem dX11_now_101 : decode cX11_now 101 = .ok (.ireturn, 1) := by decide +kernel
theorem dX11_bottle_0 : decode cX11_bottle 0 = .ok (.iload_n 1, 1) := by decide +kernel
theorem dX11_bottle_1 : decode cX11_bottle 1 = .ok (.invokestatic 165, 3) := by decide +kernel
theorem dX11_bottle_4 : decode cX11_bottle 4 = .ok (.ifCond .eq 7, 3) := by decide +kernel
theorem dX11_bottle_7 : decode cX11_bottle 7 = .ok (.iconst (-1), 1) := by decide +kernel
theorem dX11_bottle_8 : decode cX11_bottle 8 = .ok (.goto 12, 3) := by decide +kernel
theorem dX11_bottle_11 : decode cX11_bottle 11 = .ok (.aload_n 0, 1) := by decide +kernel
theorem dX11_bottle_12 : decode cX11_bottle 12 = .ok (.getfield 79, 3) := by decide +kernel
theorem dX11_bottle_15 : decode cX11_bottle 15 = .ok (.getfield 216, 3) := by decide +kernel
theorem dX11_bottle_18 : decode cX11_bottle 18 = .ok (.iload_n 1, 1) := by decide +kernel
theorem dX11_bottle_19 : decode cX11_bottle 19 = .ok (.iaload, 1) := by decide +kernel
theorem dX11_bottle_20 : decode cX11_bottle 20 = .ok (.ireturn, 1) := by decide +kernel
theorem dX11_draw_0 : decode cX11_draw 0 = .ok (.aload_n 0, 1) := by decide +kernel
theorem dX11_draw_1 : decode cX11_draw 1 = .ok (.iload_n 1, 1) := by decide +kernel
theorem dX11_draw_2 : decode cX11_draw 2 = .ok (.invokevirtual 129, 3) := by decide +kernel
theorem dX11_draw_5 : decode cX11_draw 5 = .ok (.ifCond .ne 15, 3) := by decide +kernel
theorem dX11_draw_8 : decode cX11_draw 8 = .ok (.iload_n 2, 1) := by decide +kernel
theorem dX11_draw_9 : decode cX11_draw 9 = .ok (.iconst 1, 1) := by decide +kernel
theorem dX11_draw_10 : decode cX11_draw 10 = .ok (.if_icmp .lt 10, 3) := by decide +kernel
theorem dX11_draw_13 : decode cX11_draw 13 = .ok (.iload_n 2, 1) := by decide +kernel
theorem dX11_draw_14 : decode cX11_draw 14 = .ok (.sipush 400, 3) := by decide +kernel
theorem dX11_draw_17 : decode cX11_draw 17 = .ok (.if_icmp .le 5, 3) := by decide +kernel
theorem dX11_draw_20 : decode cX11_draw 20 = .ok (.iconst (-1), 1) := by decide +kernel
theorem dX11_draw_21 : decode cX11_draw 21 = .ok (.ireturn, 1) := by decide +kernel
theorem dX11_draw_22 : decode cX11_draw 22 = .ok (.aload_n 0, 1) := by decide +kernel
theorem dX11_draw_23 : decode cX11_draw 23 = .ok (.getfield 83, 3) := by decide +kernel
theorem dX11_draw_26 : decode cX11_draw 26 = .ok (.aload_n 0, 1) := by decide +kernel
theorem dX11_draw_27 : decode cX11_draw 27 = .ok (.getfield 79, 3) := by decide +kernel
theorem dX11_draw_30 : decode cX11_draw 30 = .ok (.invokevirtual 219, 3) := by decide +kernel
theorem dX11_draw_33 : decode cX11_draw 33 = .ok (.aload_n 0, 1) := by decide +kernel
theorem dX11_draw_34 : decode cX11_draw 34 = .ok (.aload_n 0, 1) := by decide +kernel
theorem dX11_draw_35 : decode cX11_draw 35 = .ok (.getfield 23, 3) := by decide +kernel
theorem dX11_draw_38 : decode cX11_draw 38 = .ok (.aload_n 0, 1) := by decide +kernel
theorem dX11_draw_39 : decode cX11_draw 39 = .ok (.getfield 83, 3) := by decide +kernel
theorem dX11_draw_42 : decode cX11_draw 42 = .ok (.iload_n 1, 1) := by decide +kernel
theorem dX11_draw_43 : decode cX11_draw 43 = .ok (.iload_n 2, 1) := by decide +kernel
theorem dX11_draw_44 : decode cX11_draw 44 = .ok (.invokevirtual 223, 3) := by decide +kernel
theorem dX11_draw_47 : decode cX11_draw 47 = .ok (.invokevirtual 227, 3) := by decide +kernel
theorem dX11_draw_50 : decode cX11_draw 50 = .ok (.ireturn, 1) := by decide +kernel
theorem dX11_run_0 : decode cX11_run 0 = .ok (.aload_n 0, 1) := by decide +kernel
theorem dX11_run_1 : decode cX11_run 1 = .ok (.iload_n 1, 1) := by decide +kernel
theorem dX11_run_2 : decode cX11_run 2 = .ok (.invokevirtual 185, 3) := by decide +kernel
theorem dX11_run_5 : decode cX11_run 5 = .ok (.ifCond .eq 5, 3) := by decide +kernel
theorem dX11_run_8 : decode cX11_run 8 = .ok (.iconst (-1), 1) := by decide +kernel
theorem dX11_run_9 : decode cX11_run 9 = .ok (.ireturn, 1) := by decide +kernel
theorem dX11_run_10 : decode cX11_run 10 = .ok (.aload_n 0, 1) := by decide +kernel
theorem dX11_run_11 : decode cX11_run 11 = .ok (.getfield 83, 3) := by decide +kernel
theorem dX11_run_14 : decode cX11_run 14 = .ok (.aload_n 0, 1) := by decide +kernel
theorem dX11_run_15 : decode cX11_run 15 = .ok (.getfield 79, 3) := by decide +kernel
theorem dX11_run_18 : decode cX11_run 18 = .ok (.invokevirtual 219, 3) := by decide +kernel
theorem dX11_run_21 : decode cX11_run 21 = .ok (.aload_n 0, 1) := by decide +kernel
theorem dX11_run_22 : decode cX11_run 22 = .ok (.aload_n 0, 1) := by decide +kernel
theorem dX11_run_23 : decode cX11_run 23 = .ok (.getfield 23, 3) := by decide +kernel
theorem dX11_run_26 : decode cX11_run 26 = .ok (.aload_n 0, 1) := by decide +kernel
theorem dX11_run_27 : decode cX11_run 27 = .ok (.getfield 83, 3) := by decide +kernel
theorem dX11_run_30 : decode cX11_run 30 = .ok (.iload_n 1, 1) := by decide +kernel
theorem dX11_run_31 : decode cX11_run 31 = .ok (.invokevirtual 230, 3) := by decide +kernel
theorem dX11_run_34 : decode cX11_run 34 = .ok (.invokevirtual 227, 3) := by decide +kernel
theorem dX11_run_37 : decode cX11_run 37 = .ok (.ireturn, 1) := by decide +kernel
theorem dX11_top_0 : decode cX11_top 0 = .ok (.aload_n 0, 1) := by decide +kernel
theorem dX11_top_1 : decode cX11_top 1 = .ok (.getfield 83, 3) := by decide +kernel
theorem dX11_top_4 : decode cX11_top 4 = .ok (.aload_n 0, 1) := by decide +kernel
theorem dX11_top_5 : decode cX11_top 5 = .ok (.getfield 79, 3) := by decide +kernel
theorem dX11_top_8 : decode cX11_top 8 = .ok (.invokevirtual 219, 3) := by decide +kernel
theorem dX11_top_11 : decode cX11_top 11 = .ok (.aload_n 0, 1) := by decide +kernel
theorem dX11_top_12 : decode cX11_top 12 = .ok (.aload_n 0, 1) := by decide +kernel
theorem dX11_top_13 : decode cX11_top 13 = .ok (.getfield 23, 3) := by decide +kernel
theorem dX11_top_16 : decode cX11_top 16 = .ok (.aload_n 0, 1) := by decide +kernel
theorem dX11_top_17 : decode cX11_top 17 = .ok (.getfield 83, 3) := by decide +kernel
theorem dX11_top_20 : decode cX11_top 20 = .ok (.invokevirtual 234, 3) := by decide +kernel
theorem dX11_top_23 : decode cX11_top 23 = .ok (.invokevirtual 227, 3) := by decide +kernel
theorem dX11_top_26 : decode cX11_top 26 = .ok (.ireturn, 1) := by decide +kernel
theorem dX11_tip_0 : decode cX11_tip 0 = .ok (.aload_n 0, 1) := by decide +kernel
theorem dX11_tip_1 : decode cX11_tip 1 = .ok (.iload_n 1, 1) := by decide +kernel
theorem dX11_tip_2 : decode cX11_tip 2 = .ok (.invokevirtual 129, 3) := by decide +kernel
theorem dX11_tip_5 : decode cX11_tip 5 = .ok (.ifCond .ne 23, 3) := by decide +kernel
theorem dX11_tip_8 : decode cX11_tip 8 = .ok (.aload_n 0, 1) := by decide +kernel
theorem dX11_tip_9 : decode cX11_tip 9 = .ok (.iload_n 2, 1) := by decide +kernel
theorem dX11_tip_10 : decode cX11_tip 10 = .ok (.invokevirtual 129, 3) := by decide +kernel
theorem dX11_tip_13 : decode cX11_tip 13 = .ok (.ifCond .ne 15, 3) := by decide +kernel
theorem dX11_tip_16 : decode cX11_tip 16 = .ok (.iload_n 3, 1) := by decide +kernel
theorem dX11_tip_17 : decode cX11_tip 17 = .ok (.iconst 1, 1) := by decide +kernel
theorem dX11_tip_18 : decode cX11_tip 18 = .ok (.if_icmp .lt 10, 3) := by decide +kernel
theorem dX11_tip_21 : decode cX11_tip 21 = .ok (.iload_n 3, 1) := by decide +kernel
theorem dX11_tip_22 : decode cX11_tip 22 = .ok (.sipush 400, 3) := by decide +kernel
theorem dX11_tip_25 : decode cX11_tip 25 = .ok (.if_icmp .le 5, 3) := by decide +kernel
theorem dX11_tip_28 : decode cX11_tip 28 = .ok (.iconst (-1), 1) := by decide +kernel
theorem dX11_tip_29 : decode cX11_tip 29 = .ok (.ireturn, 1) := by decide +kernel
theorem dX11_tip_30 : decode cX11_tip 30 = .ok (.aload_n 0, 1) := by decide +kernel
theorem dX11_tip_31 : decode cX11_tip 31 = .ok (.getfield 83, 3) := by decide +kernel
theorem dX11_tip_34 : decode cX11_tip 34 = .ok (.aload_n 0, 1) := by decide +kernel
theorem dX11_tip_35 : decode cX11_tip 35 = .ok (.getfield 79, 3) := by decide +kernel
theorem dX11_tip_38 : decode cX11_tip 38 = .ok (.invokevirtual 219, 3) := by decide +kernel
theorem dX11_tip_41 : decode cX11_tip 41 = .ok (.aload_n 0, 1) := by decide +kernel
theorem dX11_tip_42 : decode cX11_tip 42 = .ok (.aload_n 0, 1) := by decide +kernel
theorem dX11_tip_43 : decode cX11_tip 43 = .ok (.getfield 23, 3) := by decide +kernel
theorem dX11_tip_46 : decode cX11_tip 46 = .ok (.aload_n 0, 1) := by decide +kernel
theorem dX11_tip_47 : decode cX11_tip 47 = .ok (.getfield 83, 3) := by decide +kernel
theorem dX11_tip_50 : decode cX11_tip 50 = .ok (.iload_n 1, 1) := by decide +kernel
theorem dX11_tip_51 : decode cX11_tip 51 = .ok (.iload_n 2, 1) := by decide +kernel
theorem dX11_tip_52 : decode cX11_tip 52 = .ok (.iload_n 3, 1) := by decide +kernel
theorem dX11_tip_53 : decode cX11_tip 53 = .ok (.invokevirtual 238, 3) := by decide +kernel
theorem dX11_tip_56 : decode cX11_tip 56 = .ok (.invokevirtual 227, 3) := by decide +kernel
theorem dX11_tip_59 : decode cX11_tip 59 = .ok (.ireturn, 1) := by decide +kernel
theorem dX11_settle_0 : decode cX11_settle 0 = .ok (.iload_n 1, 1) := by decide +kernel
theorem dX11_settle_1 : decode cX11_settle 1 = .ok (.ifCond .ne 7, 3) := by decide +kernel
theorem dX11_settle_4 : decode cX11_settle 4 = .ok (.aload_n 0, 1) := by decide +kernel
theorem dX11_settle_5 : decode cX11_settle 5 = .ok (.invokevirtual 242, 3) := by decide +kernel
theorem dX11_settle_8 : decode cX11_settle 8 = .ok (.iload_n 1, 1) := by decide +kernel
theorem dX11_settle_9 : decode cX11_settle 9 = .ok (.ireturn, 1) := by decide +kernel
theorem dX11_keepAct_0 : decode cX11_keepAct 0 = .ok (.aload_n 0, 1) := by decide +kernel
theorem dX11_keepAct_1 : decode cX11_keepAct 1 = .ok (.getfield 50, 3) := by decide +kernel
theorem dX11_keepAct_4 : decode cX11_keepAct 4 = .ok (.aload_n 0, 1) := by decide +kernel
theorem dX11_keepAct_5 : decode cX11_keepAct 5 = .ok (.getfield 245, 3) := by decide +kernel
theorem dX11_keepAct_8 : decode cX11_keepAct 8 = .ok (.aaload, 1) := by decide +kernel
theorem dX11_keepAct_9 : decode cX11_keepAct 9 = .ok (.astore_n 1, 1) := by decide +kernel
theorem dX11_keepAct_10 : decode cX11_keepAct 10 = .ok (.aload_n 0, 1) := by decide +kernel
theorem dX11_keepAct_11 : decode cX11_keepAct 11 = .ok (.getfield 50, 3) := by decide +kernel
theorem dX11_keepAct_14 : decode cX11_keepAct 14 = .ok (.aload_n 0, 1) := by decide +kernel
theorem dX11_keepAct_15 : decode cX11_keepAct 15 = .ok (.getfield 245, 3) := by decide +kernel
theorem dX11_keepAct_18 : decode cX11_keepAct 18 = .ok (.aload_n 0, 1) := by decide +kernel
theorem dX11_keepAct_19 : decode cX11_keepAct 19 = .ok (.getfield 79, 3) := by decide +kernel
theorem dX11_keepAct_22 : decode cX11_keepAct 22 = .ok (.aastore, 1) := by decide +kernel
theorem dX11_keepAct_23 : decode cX11_keepAct 23 = .ok (.aload_n 0, 1) := by decide +kernel
theorem dX11_keepAct_24 : decode cX11_keepAct 24 = .ok (.aload_n 0, 1) := by decide +kernel
theorem dX11_keepAct_25 : decode cX11_keepAct 25 = .ok (.getfield 83, 3) := by decide +kernel
theorem dX11_keepAct_28 : decode cX11_keepAct 28 = .ok (.putfield 79, 3) := by decide +kernel
theorem dX11_keepAct_31 : decode cX11_keepAct 31 = .ok (.aload_n 0, 1) := by decide +kernel
theorem dX11_keepAct_32 : decode cX11_keepAct 32 = .ok (.aload_n 1, 1) := by decide +kernel
theorem dX11_keepAct_33 : decode cX11_keepAct 33 = .ok (.ifnonnull 20, 3) := by decide +kernel
theorem dX11_keepAct_36 : decode cX11_keepAct 36 = .ok (.new 48, 3) := by decide +kernel
theorem dX11_keepAct_39 : decode cX11_keepAct 39 = .ok (.dup, 1) := by decide +kernel
theorem dX11_keepAct_40 : decode cX11_keepAct 40 = .ok (.aload_n 0, 1) := by decide +kernel
theorem dX11_keepAct_41 : decode cX11_keepAct 41 = .ok (.getfield 79, 3) := by decide +kernel
theorem dX11_keepAct_44 : decode cX11_keepAct 44 = .ok (.getfield 133, 3) := by decide +kernel
theorem dX11_keepAct_47 : decode cX11_keepAct 47 = .ok (.invokespecial 76, 3) := by decide +kernel
theorem dX11_keepAct_50 : decode cX11_keepAct 50 = .ok (.goto 4, 3) := by decide +kernel
theorem dX11_keepAct_53 : decode cX11_keepAct 53 = .ok (.aload_n 1, 1) := by decide +kernel
theorem dX11_keepAct_54 : decode cX11_keepAct 54 = .ok (.putfield 83, 3) := by decide +kernel
theorem dX11_keepAct_57 : decode cX11_keepAct 57 = .ok (.aload_n 0, 1) := by decide +kernel
theorem dX11_keepAct_58 : decode cX11_keepAct 58 = .ok (.aload_n 0, 1) := by decide +kernel
theorem dX11_keepAct_59 : decode cX11_keepAct 59 = .ok (.getfield 245, 3) := by decide +kernel
theorem dX11_keepAct_62 : decode cX11_keepAct 62 = .ok (.iconst 1, 1) := by decide +kernel
theorem dX11_keepAct_63 : decode cX11_keepAct 63 = .ok (.iadd, 1) := by decide +kernel
theorem dX11_keepAct_64 : decode cX11_keepAct 64 = .ok (.bipush 8, 2) := by decide +kernel
theorem dX11_keepAct_66 : decode cX11_keepAct 66 = .ok (.irem, 1) := by decide +kernel
theorem dX11_keepAct_67 : decode cX11_keepAct 67 = .ok (.putfield 245, 3) := by decide +kernel
theorem dX11_keepAct_70 : decode cX11_keepAct 70 = .ok (.aload_n 0, 1) := by decide +kernel
theorem dX11_keepAct_71 : decode cX11_keepAct 71 = .ok (.getfield 119, 3) := by decide +kernel
theorem dX11_keepAct_74 : decode cX11_keepAct 74 = .ok (.bipush 8, 2) := by decide +kernel
theorem dX11_keepAct_76 : decode cX11_keepAct 76 = .ok (.if_icmp .ge 13, 3) := by decide +kernel
theorem dX11_keepAct_79 : decode cX11_keepAct 79 = .ok (.aload_n 0, 1) := by decide +kernel
theorem dX11_keepAct_80 : decode cX11_keepAct 80 = .ok (.dup, 1) := by decide +kernel
theorem dX11_keepAct_81 : decode cX11_keepAct 81 = .ok (.getfield 119, 3) := by decide +kernel
theorem dX11_keepAct_84 : decode cX11_keepAct 84 = .ok (.iconst 1, 1) := by decide +kernel
theorem dX11_keepAct_85 : decode cX11_keepAct 85 = .ok (.iadd, 1) := by decide +kernel
theorem dX11_keepAct_86 : decode cX11_keepAct 86 = .ok (.putfield 119, 3) := by decide +kernel
theorem dX11_keepAct_89 : decode cX11_keepAct 89 = .ok (.return_, 1) := by decide +kernel
theorem dX11_years_0 : decode cX11_years 0 = .ok (.iload_n 1, 1) := by decide +kernel
theorem dX11_years_1 : decode cX11_years 1 = .ok (.iconst 1, 1) := by decide +kernel
theorem dX11_years_2 : decode cX11_years 2 = .ok (.if_icmp .lt 9, 3) := by decide +kernel
theorem dX11_years_5 : decode cX11_years 5 = .ok (.iload_n 1, 1) := by decide +kernel
theorem dX11_years_6 : decode cX11_years 6 = .ok (.bipush 39, 2) := by decide +kernel
theorem dX11_years_8 : decode cX11_years 8 = .ok (.if_icmp .le 5, 3) := by decide +kernel
theorem dX11_years_11 : decode cX11_years 11 = .ok (.iconst (-1), 1) := by decide +kernel
theorem dX11_years_12 : decode cX11_years 12 = .ok (.ireturn, 1) := by decide +kernel
theorem dX11_years_13 : decode cX11_years 13 = .ok (.aload_n 0, 1) := by decide +kernel
theorem dX11_years_14 : decode cX11_years 14 = .ok (.getfield 83, 3) := by decide +kernel
theorem dX11_years_17 : decode cX11_years 17 = .ok (.aload_n 0, 1) := by decide +kernel
theorem dX11_years_18 : decode cX11_years 18 = .ok (.getfield 79, 3) := by decide +kernel
theorem dX11_years_21 : decode cX11_years 21 = .ok (.invokevirtual 219, 3) := by decide +kernel
theorem dX11_years_24 : decode cX11_years 24 = .ok (.aload_n 0, 1) := by decide +kernel
theorem dX11_years_25 : decode cX11_years 25 = .ok (.getfield 23, 3) := by decide +kernel
theorem dX11_years_28 : decode cX11_years 28 = .ok (.aload_n 0, 1) := by decide +kernel
theorem dX11_years_29 : decode cX11_years 29 = .ok (.getfield 83, 3) := by decide +kernel
theorem dX11_years_32 : decode cX11_years 32 = .ok (.iload_n 1, 1) := by decide +kernel
theorem dX11_years_33 : decode cX11_years 33 = .ok (.invokevirtual 248, 3) := by decide +kernel
theorem dX11_years_36 : decode cX11_years 36 = .ok (.istore_n 2, 1) := by decide +kernel
theorem dX11_years_37 : decode cX11_years 37 = .ok (.iload_n 2, 1) := by decide +kernel
theorem dX11_years_38 : decode cX11_years 38 = .ok (.ifCond .le 7, 3) := by decide +kernel
theorem dX11_years_41 : decode cX11_years 41 = .ok (.aload_n 0, 1) := by decide +kernel
theorem dX11_years_42 : decode cX11_years 42 = .ok (.invokevirtual 242, 3) := by decide +kernel
theorem dX11_years_45 : decode cX11_years 45 = .ok (.iload_n 2, 1) := by decide +kernel
theorem dX11_years_46 : decode cX11_years 46 = .ok (.ireturn, 1) := by decide +kernel
theorem dX11_undo_0 : decode cX11_undo 0 = .ok (.aload_n 0, 1) := by decide +kernel
theorem dX11_undo_1 : decode cX11_undo 1 = .ok (.getfield 119, 3) := by decide +kernel
theorem dX11_undo_4 : decode cX11_undo 4 = .ok (.ifCond .ne 5, 3) := by decide +kernel
theorem dX11_undo_7 : decode cX11_undo 7 = .ok (.iconst (-1), 1) := by decide +kernel
theorem dX11_undo_8 : decode cX11_undo 8 = .ok (.ireturn, 1) := by decide +kernel
theorem dX11_undo_9 : decode cX11_undo 9 = .ok (.aload_n 0, 1) := by decide +kernel
theorem dX11_undo_10 : decode cX11_undo 10 = .ok (.getfield 245, 3) := by decide +kernel
theorem dX11_undo_13 : decode cX11_undo 13 = .ok (.bipush 8, 2) := by decide +kernel
theorem dX11_undo_15 : decode cX11_undo 15 = .ok (.iadd, 1) := by decide +kernel
theorem dX11_undo_16 : decode cX11_undo 16 = .ok (.iconst 1, 1) := by decide +kernel
theorem dX11_undo_17 : decode cX11_undo 17 = .ok (.isub, 1) := by decide +kernel
theorem dX11_undo_18 : decode cX11_undo 18 = .ok (.bipush 8, 2) := by decide +kernel
theorem dX11_undo_20 : decode cX11_undo 20 = .ok (.irem, 1) := by decide +kernel
theorem dX11_undo_21 : decode cX11_undo 21 = .ok (.istore_n 1, 1) := by decide +kernel
theorem dX11_undo_22 : decode cX11_undo 22 = .ok (.aload_n 0, 1) := by decide +kernel
theorem dX11_undo_23 : decode cX11_undo 23 = .ok (.getfield 50, 3) := by decide +kernel
theorem dX11_undo_26 : decode cX11_undo 26 = .ok (.iload_n 1, 1) := by decide +kernel
theorem dX11_undo_27 : decode cX11_undo 27 = .ok (.aaload, 1) := by decide +kernel
theorem dX11_undo_28 : decode cX11_undo 28 = .ok (.astore_n 2, 1) := by decide +kernel
theorem dX11_undo_29 : decode cX11_undo 29 = .ok (.aload_n 2, 1) := by decide +kernel
theorem dX11_undo_30 : decode cX11_undo 30 = .ok (.ifnonnull 5, 3) := by decide +kernel
theorem dX11_undo_33 : decode cX11_undo 33 = .ok (.iconst (-1), 1) := by decide +kernel
theorem dX11_undo_34 : decode cX11_undo 34 = .ok (.ireturn, 1) := by decide +kernel
theorem dX11_undo_35 : decode cX11_undo 35 = .ok (.aload_n 0, 1) := by decide +kernel
theorem dX11_undo_36 : decode cX11_undo 36 = .ok (.getfield 50, 3) := by decide +kernel
theorem dX11_undo_39 : decode cX11_undo 39 = .ok (.iload_n 1, 1) := by decide +kernel
theorem dX11_undo_40 : decode cX11_undo 40 = .ok (.aload_n 0, 1) := by decide +kernel
theorem dX11_undo_41 : decode cX11_undo 41 = .ok (.getfield 79, 3) := by decide +kernel
theorem dX11_undo_44 : decode cX11_undo 44 = .ok (.aastore, 1) := by decide +kernel
theorem dX11_undo_45 : decode cX11_undo 45 = .ok (.aload_n 0, 1) := by decide +kernel
theorem dX11_undo_46 : decode cX11_undo 46 = .ok (.aload_n 2, 1) := by decide +kernel
theorem dX11_undo_47 : decode cX11_undo 47 = .ok (.putfield 79, 3) := by decide +kernel
theorem dX11_undo_50 : decode cX11_undo 50 = .ok (.aload_n 0, 1) := by decide +kernel
theorem dX11_undo_51 : decode cX11_undo 51 = .ok (.iload_n 1, 1) := by decide +kernel
theorem dX11_undo_52 : decode cX11_undo 52 = .ok (.putfield 245, 3) := by decide +kernel
theorem dX11_undo_55 : decode cX11_undo 55 = .ok (.aload_n 0, 1) := by decide +kernel
theorem dX11_undo_56 : decode cX11_undo 56 = .ok (.dup, 1) := by decide +kernel
theorem dX11_undo_57 : decode cX11_undo 57 = .ok (.getfield 119, 3) := by decide +kernel
theorem dX11_undo_60 : decode cX11_undo 60 = .ok (.iconst 1, 1) := by decide +kernel
theorem dX11_undo_61 : decode cX11_undo 61 = .ok (.isub, 1) := by decide +kernel
theorem dX11_undo_62 : decode cX11_undo 62 = .ok (.putfield 119, 3) := by decide +kernel
theorem dX11_undo_65 : decode cX11_undo 65 = .ok (.aload_n 0, 1) := by decide +kernel
theorem dX11_undo_66 : decode cX11_undo 66 = .ok (.getfield 119, 3) := by decide +kernel
theorem dX11_undo_69 : decode cX11_undo 69 = .ok (.ireturn, 1) := by decide +kernel
theorem dX11_blend_0 : decode cX11_blend 0 = .ok (.aload_n 0, 1) := by decide +kernel
theorem dX11_blend_1 : decode cX11_blend 1 = .ok (.iload_n 1, 1) := by decide +kernel
theorem dX11_blend_2 : decode cX11_blend 2 = .ok (.invokevirtual 185, 3) := by decide +kernel
theorem dX11_blend_5 : decode cX11_blend 5 = .ok (.ifCond .ne 33, 3) := by decide +kernel
theorem dX11_blend_8 : decode cX11_blend 8 = .ok (.iload_n 2, 1) := by decide +kernel
theorem dX11_blend_9 : decode cX11_blend 9 = .ok (.iconst 1, 1) := by decide +kernel
theorem dX11_blend_10 : decode cX11_blend 10 = .ok (.if_icmp .lt 28, 3) := by decide +kernel
theorem dX11_blend_13 : decode cX11_blend 13 = .ok (.iload_n 2, 1) := by decide +kernel
theorem dX11_blend_14 : decode cX11_blend 14 = .ok (.bipush 20, 2) := by decide +kernel
theorem dX11_blend_16 : decode cX11_blend 16 = .ok (.if_icmp .gt 22, 3) := by decide +kernel
theorem dX11_blend_19 : decode cX11_blend 19 = .ok (.iload_n 3, 1) := by decide +kernel
theorem dX11_blend_20 : decode cX11_blend 20 = .ok (.invokestatic 165, 3) := by decide +kernel
theorem dX11_blend_23 : decode cX11_blend 23 = .ok (.ifCond .ne 15, 3) := by decide +kernel
theorem dX11_blend_26 : decode cX11_blend 26 = .ok (.aload_n 0, 1) := by decide +kernel
theorem dX11_blend_27 : decode cX11_blend 27 = .ok (.getfield 79, 3) := by decide +kernel
theorem dX11_blend_30 : decode cX11_blend 30 = .ok (.iload_n 1, 1) := by decide +kernel
theorem dX11_blend_31 : decode cX11_blend 31 = .ok (.invokevirtual 188, 3) := by decide +kernel
theorem dX11_blend_34 : decode cX11_blend 34 = .ok (.iload_n 2, 1) := by decide +kernel
theorem dX11_blend_35 : decode cX11_blend 35 = .ok (.if_icmp .ge 5, 3) := by decide +kernel
theorem dX11_blend_38 : decode cX11_blend 38 = .ok (.iconst (-1), 1) := by decide +kernel
theorem dX11_blend_39 : decode cX11_blend 39 = .ok (.ireturn, 1) := by decide +kernel
theorem dX11_blend_40 : decode cX11_blend 40 = .ok (.aload_n 0, 1) := by decide +kernel
theorem dX11_blend_41 : decode cX11_blend 41 = .ok (.getfield 30, 3) := by decide +kernel
theorem dX11_blend_44 : decode cX11_blend 44 = .ok (.aload_n 0, 1) := by decide +kernel
theorem dX11_blend_45 : decode cX11_blend 45 = .ok (.getfield 79, 3) := by decide +kernel
theorem dX11_blend_48 : decode cX11_blend 48 = .ok (.aload_n 0, 1) := by decide +kernel
theorem dX11_blend_49 : decode cX11_blend 49 = .ok (.getfield 23, 3) := by decide +kernel
theorem dX11_blend_52 : decode cX11_blend 52 = .ok (.iload_n 1, 1) := by decide +kernel
theorem dX11_blend_53 : decode cX11_blend 53 = .ok (.iload_n 2, 1) := by decide +kernel
theorem dX11_blend_54 : decode cX11_blend 54 = .ok (.iload_n 3, 1) := by decide +kernel
theorem dX11_blend_55 : decode cX11_blend 55 = .ok (.invokevirtual 251, 3) := by decide +kernel
theorem dX11_blend_58 : decode cX11_blend 58 = .ok (.ireturn, 1) := by decide +kernel
theorem dX11_blendAt_0 : decode cX11_blendAt 0 = .ok (.iload_n 1, 1) := by decide +kernel
theorem dX11_blendAt_1 : decode cX11_blendAt 1 = .ok (.ifCond .lt 14, 3) := by decide +kernel
theorem dX11_blendAt_4 : decode cX11_blendAt 4 = .ok (.iload_n 1, 1) := by decide +kernel
theorem dX11_blendAt_5 : decode cX11_blendAt 5 = .ok (.aload_n 0, 1) := by decide +kernel
theorem dX11_blendAt_6 : decode cX11_blendAt 6 = .ok (.getfield 30, 3) := by decide +kernel
theorem dX11_blendAt_9 : decode cX11_blendAt 9 = .ok (.getfield 255, 3) := by decide +kernel
theorem dX11_blendAt_12 : decode cX11_blendAt 12 = .ok (.if_icmp .lt 7, 3) := by decide +kernel
theorem dX11_blendAt_15 : decode cX11_blendAt 15 = .ok (.iconst (-1), 1) := by decide +kernel
theorem dX11_blendAt_16 : decode cX11_blendAt 16 = .ok (.goto 12, 3) := by decide +kernel
theorem dX11_blendAt_19 : decode cX11_blendAt 19 = .ok (.aload_n 0, 1) := by decide +kernel
theorem dX11_blendAt_20 : decode cX11_blendAt 20 = .ok (.getfield 30, 3) := by decide +kernel
theorem dX11_blendAt_23 : decode cX11_blendAt 23 = .ok (.getfield 258, 3) := by decide +kernel
theorem dX11_blendAt_26 : decode cX11_blendAt 26 = .ok (.iload_n 1, 1) := by decide +kernel
theorem dX11_blendAt_27 : decode cX11_blendAt 27 = .ok (.iaload, 1) := by decide +kernel
theorem dX11_blendAt_28 : decode cX11_blendAt 28 = .ok (.ireturn, 1) := by decide +kernel
theorem dX11_ripe_0 : decode cX11_ripe 0 = .ok (.aload_n 0, 1) := by decide +kernel
theorem dX11_ripe_1 : decode cX11_ripe 1 = .ok (.iload_n 1, 1) := by decide +kernel
theorem dX11_ripe_2 : decode cX11_ripe 2 = .ok (.invokevirtual 129, 3) := by decide +kernel
theorem dX11_ripe_5 : decode cX11_ripe 5 = .ok (.ifCond .ne 10, 3) := by decide +kernel
theorem dX11_ripe_8 : decode cX11_ripe 8 = .ok (.iload_n 2, 1) := by decide +kernel
theorem dX11_ripe_9 : decode cX11_ripe 9 = .ok (.invokestatic 165, 3) := by decide +kernel
theorem dX11_ripe_12 : decode cX11_ripe 12 = .ok (.ifCond .eq 5, 3) := by decide +kernel
theorem dX11_ripe_15 : decode cX11_ripe 15 = .ok (.iconst (-1), 1) := by decide +kernel
theorem dX11_ripe_16 : decode cX11_ripe 16 = .ok (.ireturn, 1) := by decide +kernel
theorem dX11_ripe_17 : decode cX11_ripe 17 = .ok (.aload_n 0, 1) := by decide +kernel
theorem dX11_ripe_18 : decode cX11_ripe 18 = .ok (.getfield 83, 3) := by decide +kernel
theorem dX11_ripe_21 : decode cX11_ripe 21 = .ok (.aload_n 0, 1) := by decide +kernel
theorem dX11_ripe_22 : decode cX11_ripe 22 = .ok (.getfield 79, 3) := by decide +kernel
theorem dX11_ripe_25 : decode cX11_ripe 25 = .ok (.invokevirtual 219, 3) := by decide +kernel
theorem dX11_ripe_28 : decode cX11_ripe 28 = .ok (.aload_n 0, 1) := by decide +kernel
theorem dX11_ripe_29 : decode cX11_ripe 29 = .ok (.getfield 30, 3) := by decide +kernel
theorem dX11_ripe_32 : decode cX11_ripe 32 = .ok (.aload_n 0, 1) := by decide +kernel
theorem dX11_ripe_33 : decode cX11_ripe 33 = .ok (.getfield 83, 3) := by decide +kernel
theorem dX11_ripe_36 : decode cX11_ripe 36 = .ok (.aload_n 0, 1) := by decide +kernel
theorem dX11_ripe_37 : decode cX11_ripe 37 = .ok (.getfield 23, 3) := by decide +kernel
theorem dX11_ripe_40 : decode cX11_ripe 40 = .ok (.iload_n 1, 1) := by decide +kernel
theorem dX11_ripe_41 : decode cX11_ripe 41 = .ok (.iload_n 2, 1) := by decide +kernel
theorem dX11_ripe_42 : decode cX11_ripe 42 = .ok (.invokevirtual 261, 3) := by decide +kernel
theorem dX11_ripe_45 : decode cX11_ripe 45 = .ok (.ireturn, 1) := by decide +kernel
theorem dX11_plan_0 : decode cX11_plan 0 = .ok (.iload_n 1, 1) := by decide +kernel
theorem dX11_plan_1 : decode cX11_plan 1 = .ok (.ifCond .lt 17, 3) := by decide +kernel
theorem dX11_plan_4 : decode cX11_plan 4 = .ok (.iload_n 1, 1) := by decide +kernel
theorem dX11_plan_5 : decode cX11_plan 5 = .ok (.sipush 400, 3) := by decide +kernel
theorem dX11_plan_8 : decode cX11_plan 8 = .ok (.if_icmp .gt 10, 3) := by decide +kernel
theorem dX11_plan_11 : decode cX11_plan 11 = .ok (.iload_n 2, 1) := by decide +kernel
theorem dX11_plan_12 : decode cX11_plan 12 = .ok (.invokestatic 165, 3) := by decide +kernel
theorem dX11_plan_15 : decode cX11_plan 15 = .ok (.ifCond .eq 5, 3) := by decide +kernel
theorem dX11_plan_18 : decode cX11_plan 18 = .ok (.iconst (-1), 1) := by decide +kernel
theorem dX11_plan_19 : decode cX11_plan 19 = .ok (.ireturn, 1) := by decide +kernel
theorem dX11_plan_20 : decode cX11_plan 20 = .ok (.aload_n 0, 1) := by decide +kernel
theorem dX11_plan_21 : decode cX11_plan 21 = .ok (.getfield 83, 3) := by decide +kernel
theorem dX11_plan_24 : decode cX11_plan 24 = .ok (.aload_n 0, 1) := by decide +kernel
theorem dX11_plan_25 : decode cX11_plan 25 = .ok (.getfield 79, 3) := by decide +kernel
theorem dX11_plan_28 : decode cX11_plan 28 = .ok (.invokevirtual 219, 3) := by decide +kernel
theorem dX11_plan_31 : decode cX11_plan 31 = .ok (.aload_n 0, 1) := by decide +kernel
theorem dX11_plan_32 : decode cX11_plan 32 = .ok (.getfield 30, 3) := by decide +kernel
theorem dX11_plan_35 : decode cX11_plan 35 = .ok (.aload_n 0, 1) := by decide +kernel
theorem dX11_plan_36 : decode cX11_plan 36 = .ok (.getfield 83, 3) := by decide +kernel
theorem dX11_plan_39 : decode cX11_plan 39 = .ok (.aload_n 0, 1) := by decide +kernel
theorem dX11_plan_40 : decode cX11_plan 40 = .ok (.getfield 23, 3) := by decide +kernel
theorem dX11_plan_43 : decode cX11_plan 43 = .ok (.iload_n 1, 1) := by decide +kernel
theorem dX11_plan_44 : decode cX11_plan 44 = .ok (.iload_n 2, 1) := by decide +kernel
theorem dX11_plan_45 : decode cX11_plan 45 = .ok (.invokevirtual 265, 3) := by decide +kernel
theorem dX11_plan_48 : decode cX11_plan 48 = .ok (.ireturn, 1) := by decide +kernel
theorem dX11_which_0 : decode cX11_which 0 = .ok (.aload_n 0, 1) := by decide +kernel
theorem dX11_which_1 : decode cX11_which 1 = .ok (.getfield 86, 3) := by decide +kernel
theorem dX11_which_4 : decode cX11_which 4 = .ok (.istore_n 1, 1) := by decide +kernel
theorem dX11_which_5 : decode cX11_which 5 = .ok (.aload_n 0, 1) := by decide +kernel
theorem dX11_which_6 : decode cX11_which 6 = .ok (.iconst 0, 1) := by decide +kernel
theorem dX11_which_7 : decode cX11_which 7 = .ok (.putfield 86, 3) := by decide +kernel
theorem dX11_which_10 : decode cX11_which 10 = .ok (.aload_n 0, 1) := by decide +kernel
theorem dX11_which_11 : decode cX11_which 11 = .ok (.getfield 30, 3) := by decide +kernel
theorem dX11_which_14 : decode cX11_which 14 = .ok (.aload_n 0, 1) := by decide +kernel
theorem dX11_which_15 : decode cX11_which 15 = .ok (.getfield 9, 3) := by decide +kernel
theorem dX11_which_18 : decode cX11_which 18 = .ok (.iload_n 1, 1) := by decide +kernel
theorem dX11_which_19 : decode cX11_which 19 = .ok (.invokevirtual 268, 3) := by decide +kernel
theorem dX11_which_22 : decode cX11_which 22 = .ok (.ifCond .ne 5, 3) := by decide +kernel
theorem dX11_which_25 : decode cX11_which 25 = .ok (.iconst (-1), 1) := by decide +kernel
theorem dX11_which_26 : decode cX11_which 26 = .ok (.ireturn, 1) := by decide +kernel
theorem dX11_which_27 : decode cX11_which 27 = .ok (.aload_n 0, 1) := by decide +kernel
theorem dX11_which_28 : decode cX11_which 28 = .ok (.getfield 30, 3) := by decide +kernel
theorem dX11_which_31 : decode cX11_which 31 = .ok (.aload_n 0, 1) := by decide +kernel
theorem dX11_which_32 : decode cX11_which 32 = .ok (.getfield 79, 3) := by decide +kernel
theorem dX11_which_35 : decode cX11_which 35 = .ok (.aload_n 0, 1) := by decide +kernel
theorem dX11_which_36 : decode cX11_which 36 = .ok (.getfield 23, 3) := by decide +kernel
theorem dX11_which_39 : decode cX11_which 39 = .ok (.invokevirtual 272, 3) := by decide +kernel
theorem dX11_which_42 : decode cX11_which 42 = .ok (.ireturn, 1) := by decide +kernel
theorem dX11_ask_0 : decode cX11_ask 0 = .ok (.aload_n 0, 1) := by decide +kernel
theorem dX11_ask_1 : decode cX11_ask 1 = .ok (.getfield 30, 3) := by decide +kernel
theorem dX11_ask_4 : decode cX11_ask 4 = .ok (.getfield 276, 3) := by decide +kernel
theorem dX11_ask_7 : decode cX11_ask 7 = .ok (.ireturn, 1) := by decide +kernel
theorem dX11_store_0 : decode cX11_store 0 = .ok (.iload_n 1, 1) := by decide +kernel
theorem dX11_store_1 : decode cX11_store 1 = .ok (.iconst 1, 1) := by decide +kernel
theorem dX11_store_2 : decode cX11_store 2 = .ok (.if_icmp .lt 17, 3) := by decide +kernel
theorem dX11_store_5 : decode cX11_store 5 = .ok (.iload_n 1, 1) := by decide +kernel
theorem dX11_store_6 : decode cX11_store 6 = .ok (.sipush 999, 3) := by decide +kernel
theorem dX11_store_9 : decode cX11_store 9 = .ok (.if_icmp .gt 10, 3) := by decide +kernel
theorem dX11_store_12 : decode cX11_store 12 = .ok (.iload_n 2, 1) := by decide +kernel
theorem dX11_store_13 : decode cX11_store 13 = .ok (.invokestatic 165, 3) := by decide +kernel
theorem dX11_store_16 : decode cX11_store 16 = .ok (.ifCond .eq 5, 3) := by decide +kernel
theorem dX11_store_19 : decode cX11_store 19 = .ok (.iconst (-1), 1) := by decide +kernel
theorem dX11_store_20 : decode cX11_store 20 = .ok (.ireturn, 1) := by decide +kernel
theorem dX11_store_21 : decode cX11_store 21 = .ok (.aload_n 0, 1) := by decide +kernel
theorem dX11_store_22 : decode cX11_store 22 = .ok (.getfield 30, 3) := by decide +kernel
theorem dX11_store_25 : decode cX11_store 25 = .ok (.aload_n 0, 1) := by decide +kernel
theorem dX11_store_26 : decode cX11_store 26 = .ok (.getfield 79, 3) := by decide +kernel
theorem dX11_store_29 : decode cX11_store 29 = .ok (.iload_n 1, 1) := by decide +kernel
theorem dX11_store_30 : decode cX11_store 30 = .ok (.iload_n 2, 1) := by decide +kernel
theorem dX11_store_31 : decode cX11_store 31 = .ok (.invokevirtual 279, 3) := by decide +kernel
theorem dX11_store_34 : decode cX11_store 34 = .ok (.ireturn, 1) := by decide +kernel
theorem dX11_stored_0 : decode cX11_stored 0 = .ok (.aload_n 0, 1) := by decide +kernel
theorem dX11_stored_1 : decode cX11_stored 1 = .ok (.getfield 30, 3) := by decide +kernel
theorem dX11_stored_4 : decode cX11_stored 4 = .ok (.getfield 282, 3) := by decide +kernel
theorem dX11_stored_7 : decode cX11_stored 7 = .ok (.ireturn, 1) := by decide +kernel
theorem dX11_older_0 : decode cX11_older 0 = .ok (.iload_n 1, 1) := by decide +kernel
theorem dX11_older_1 : decode cX11_older 1 = .ok (.invokestatic 165, 3) := by decide +kernel
theorem dX11_older_4 : decode cX11_older 4 = .ok (.ifCond .eq 5, 3) := by decide +kernel
theorem dX11_older_7 : decode cX11_older 7 = .ok (.iconst (-1), 1) := by decide +kernel
theorem dX11_older_8 : decode cX11_older 8 = .ok (.ireturn, 1) := by decide +kernel
theorem dX11_older_9 : decode cX11_older 9 = .ok (.iconst 0, 1) := by decide +kernel
theorem dX11_older_10 : decode cX11_older 10 = .ok (.istore_n 2, 1) := by decide +kernel
theorem dX11_older_11 : decode cX11_older 11 = .ok (.iconst 0, 1) := by decide +kernel
theorem dX11_older_12 : decode cX11_older 12 = .ok (.istore_n 3, 1) := by decide +kernel
theorem dX11_older_13 : decode cX11_older 13 = .ok (.iload_n 3, 1) := by decide +kernel
theorem dX11_older_14 : decode cX11_older 14 = .ok (.aload_n 0, 1) := by decide +kernel
theorem dX11_older_15 : decode cX11_older 15 = .ok (.getfield 79, 3) := by decide +kernel
theorem dX11_older_18 : decode cX11_older 18 = .ok (.getfield 133, 3) := by decide +kernel
theorem dX11_older_21 : decode cX11_older 21 = .ok (.getfield 159, 3) := by decide +kernel
theorem dX11_older_24 : decode cX11_older 24 = .ok (.if_icmp .ge 21, 3) := by decide +kernel
theorem dX11_older_27 : decode cX11_older 27 = .ok (.iload_n 2, 1) := by decide +kernel
theorem dX11_older_28 : decode cX11_older 28 = .ok (.aload_n 0, 1) := by decide +kernel
theorem dX11_older_29 : decode cX11_older 29 = .ok (.getfield 79, 3) := by decide +kernel
theorem dX11_older_32 : decode cX11_older 32 = .ok (.iload_n 3, 1) := by decide +kernel
theorem dX11_older_33 : decode cX11_older 33 = .ok (.iload_n 1, 1) := by decide +kernel
theorem dX11_older_34 : decode cX11_older 34 = .ok (.invokevirtual 285, 3) := by decide +kernel
theorem dX11_older_37 : decode cX11_older 37 = .ok (.iadd, 1) := by decide +kernel
theorem dX11_older_38 : decode cX11_older 38 = .ok (.istore_n 2, 1) := by decide +kernel
theorem dX11_older_39 : decode cX11_older 39 = .ok (.iinc 3 1, 3) := by decide +kernel
theorem dX11_older_42 : decode cX11_older 42 = .ok (.goto (-29), 3) := by decide +kernel
theorem dX11_older_45 : decode cX11_older 45 = .ok (.iload_n 2, 1) := by decide +kernel
theorem dX11_older_46 : decode cX11_older 46 = .ok (.ireturn, 1) := by decide +kernel
theorem dX11_where_0 : decode cX11_where 0 = .ok (.iload_n 1, 1) := by decide +kernel
theorem dX11_where_1 : decode cX11_where 1 = .ok (.invokestatic 165, 3) := by decide +kernel
theorem dX11_where_4 : decode cX11_where 4 = .ok (.ifCond .eq 5, 3) := by decide +kernel
theorem dX11_where_7 : decode cX11_where 7 = .ok (.iconst (-1), 1) := by decide +kernel
theorem dX11_where_8 : decode cX11_where 8 = .ok (.ireturn, 1) := by decide +kernel
theorem dX11_where_9 : decode cX11_where 9 = .ok (.iconst 0, 1) := by decide +kernel
theorem dX11_where_10 : decode cX11_where 10 = .ok (.istore_n 2, 1) := by decide +kernel
theorem dX11_where_11 : decode cX11_where 11 = .ok (.iconst 0, 1) := by decide +kernel
theorem dX11_where_12 : decode cX11_where 12 = .ok (.istore_n 3, 1) := by decide +kernel
theorem dX11_where_13 : decode cX11_where 13 = .ok (.iload_n 3, 1) := by decide +kernel
theorem dX11_where_14 : decode cX11_where 14 = .ok (.aload_n 0, 1) := by decide +kernel
theorem dX11_where_15 : decode cX11_where 15 = .ok (.getfield 79, 3) := by decide +kernel
theorem dX11_where_18 : decode cX11_where 18 = .ok (.getfield 133, 3) := by decide +kernel
theorem dX11_where_21 : decode cX11_where 21 = .ok (.getfield 159, 3) := by decide +kernel
theorem dX11_where_24 : decode cX11_where 24 = .ok (.if_icmp .ge 29, 3) := by decide +kernel
theorem dX11_where_27 : decode cX11_where 27 = .ok (.aload_n 0, 1) := by decide +kernel
theorem dX11_where_28 : decode cX11_where 28 = .ok (.getfield 79, 3) := by decide +kernel
theorem dX11_where_31 : decode cX11_where 31 = .ok (.getfield 171, 3) := by decide +kernel
theorem dX11_where_34 : decode cX11_where 34 = .ok (.iload_n 3, 1) := by decide +kernel
theorem dX11_where_35 : decode cX11_where 35 = .ok (.aaload, 1) := by decide +kernel
theorem dX11_where_36 : decode cX11_where 36 = .ok (.iload_n 1, 1) := by decide +kernel
theorem dX11_where_37 : decode cX11_where 37 = .ok (.iaload, 1) := by decide +kernel
theorem dX11_where_38 : decode cX11_where 38 = .ok (.ifCond .le 9, 3) := by decide +kernel
theorem dX11_where_41 : decode cX11_where 41 = .ok (.iload_n 2, 1) := by decide +kernel
theorem dX11_where_42 : decode cX11_where 42 = .ok (.iconst 1, 1) := by decide +kernel
theorem dX11_where_43 : decode cX11_where 43 = .ok (.iload_n 3, 1) := by decide +kernel
theorem dX11_where_44 : decode cX11_where 44 = .ok (.ishl, 1) := by decide +kernel
theorem dX11_where_45 : decode cX11_where 45 = .ok (.ior, 1) := by decide +kernel
theorem dX11_where_46 : decode cX11_where 46 = .ok (.istore_n 2, 1) := by decide +kernel
theorem dX11_where_47 : decode cX11_where 47 = .ok (.iinc 3 1, 3) := by decide +kernel
theorem dX11_where_50 : decode cX11_where 50 = .ok (.goto (-37), 3) := by decide +kernel
theorem dX11_where_53 : decode cX11_where 53 = .ok (.iload_n 2, 1) := by decide +kernel
theorem dX11_where_54 : decode cX11_where 54 = .ok (.ireturn, 1) := by decide +kernel
theorem dX11_mean_0 : decode cX11_mean 0 = .ok (.aload_n 0, 1) := by decide +kernel
theorem dX11_mean_1 : decode cX11_mean 1 = .ok (.iload_n 1, 1) := by decide +kernel
theorem dX11_mean_2 : decode cX11_mean 2 = .ok (.invokevirtual 185, 3) := by decide +kernel
theorem dX11_mean_5 : decode cX11_mean 5 = .ok (.ifCond .ne 10, 3) := by decide +kernel
theorem dX11_mean_8 : decode cX11_mean 8 = .ok (.iload_n 2, 1) := by decide +kernel
theorem dX11_mean_9 : decode cX11_mean 9 = .ok (.invokestatic 175, 3) := by decide +kernel
theorem dX11_mean_12 : decode cX11_mean 12 = .ok (.ifCond .eq 11, 3) := by decide +kernel
theorem dX11_mean_15 : decode cX11_mean 15 = .ok (.new 168, 3) := by decide +kernel
theorem dX11_mean_18 : decode cX11_mean 18 = .ok (.dup, 1) := by decide +kernel
theorem dX11_mean_19 : decode cX11_mean 19 = .ok (.invokespecial 170, 3) := by decide +kernel
theorem dX11_mean_22 : decode cX11_mean 22 = .ok (.athrow, 1) := by decide +kernel
theorem dX11_mean_23 : decode cX11_mean 23 = .ok (.aload_n 0, 1) := by decide +kernel
theorem dX11_mean_24 : decode cX11_mean 24 = .ok (.getfield 79, 3) := by decide +kernel
theorem dX11_mean_27 : decode cX11_mean 27 = .ok (.iload_n 1, 1) := by decide +kernel
theorem dX11_mean_28 : decode cX11_mean 28 = .ok (.invokevirtual 188, 3) := by decide +kernel
theorem dX11_mean_31 : decode cX11_mean 31 = .ok (.aload_n 0, 1) := by decide +kernel
theorem dX11_mean_32 : decode cX11_mean 32 = .ok (.getfield 79, 3) := by decide +kernel
theorem dX11_mean_35 : decode cX11_mean 35 = .ok (.getfield 133, 3) := by decide +kernel
theorem dX11_mean_38 : decode cX11_mean 38 = .ok (.getfield 289, 3) := by decide +kernel
theorem dX11_mean_41 : decode cX11_mean 41 = .ok (.iload_n 1, 1) := by decide +kernel
theorem dX11_mean_42 : decode cX11_mean 42 = .ok (.iaload, 1) := by decide +kernel
theorem dX11_mean_43 : decode cX11_mean 43 = .ok (.iload_n 2, 1) := by decide +kernel
theorem dX11_mean_44 : decode cX11_mean 44 = .ok (.invokestatic 181, 3) := by decide +kernel
theorem dX11_mean_47 : decode cX11_mean 47 = .ok (.ireturn, 1) := by decide +kernel
theorem dX11_part_0 : decode cX11_part 0 = .ok (.aload_n 0, 1) := by decide +kernel
theorem dX11_part_1 : decode cX11_part 1 = .ok (.iload_n 1, 1) := by decide +kernel
theorem dX11_part_2 : decode cX11_part 2 = .ok (.invokevirtual 185, 3) := by decide +kernel
theorem dX11_part_5 : decode cX11_part 5 = .ok (.ifCond .ne 20, 3) := by decide +kernel
theorem dX11_part_8 : decode cX11_part 8 = .ok (.iload_n 2, 1) := by decide +kernel
theorem dX11_part_9 : decode cX11_part 9 = .ok (.invokestatic 175, 3) := by decide +kernel
theorem dX11_part_12 : decode cX11_part 12 = .ok (.ifCond .ne 13, 3) := by decide +kernel
theorem dX11_part_15 : decode cX11_part 15 = .ok (.aload_n 0, 1) := by decide +kernel
theorem dX11_part_16 : decode cX11_part 16 = .ok (.getfield 79, 3) := by decide +kernel
theorem dX11_part_19 : decode cX11_part 19 = .ok (.invokevirtual 197, 3) := by decide +kernel
theorem dX11_part_22 : decode cX11_part 22 = .ok (.ifCond .ne 11, 3) := by decide +kernel
theorem dX11_part_25 : decode cX11_part 25 = .ok (.new 168, 3) := by decide +kernel
theorem dX11_part_28 : decode cX11_part 28 = .ok (.dup, 1) := by decide +kernel
theorem dX11_part_29 : decode cX11_part 29 = .ok (.invokespecial 170, 3) := by decide +kernel
theorem dX11_part_32 : decode cX11_part 32 = .ok (.athrow, 1) := by decide +kernel
theorem dX11_part_33 : decode cX11_part 33 = .ok (.aload_n 0, 1) := by decide +kernel
theorem dX11_part_34 : decode cX11_part 34 = .ok (.getfield 79, 3) := by decide +kernel
theorem dX11_part_37 : decode cX11_part 37 = .ok (.iload_n 1, 1) := by decide +kernel
theorem dX11_part_38 : decode cX11_part 38 = .ok (.invokevirtual 188, 3) := by decide +kernel
theorem dX11_part_41 : decode cX11_part 41 = .ok (.aload_n 0, 1) := by decide +kernel
theorem dX11_part_42 : decode cX11_part 42 = .ok (.getfield 79, 3) := by decide +kernel
theorem dX11_part_45 : decode cX11_part 45 = .ok (.invokevirtual 197, 3) := by decide +kernel
theorem dX11_part_48 : decode cX11_part 48 = .ok (.iload_n 2, 1) := by decide +kernel
theorem dX11_part_49 : decode cX11_part 49 = .ok (.invokestatic 181, 3) := by decide +kernel
theorem dX11_part_52 : decode cX11_part 52 = .ok (.ireturn, 1) := by decide +kernel
theorem dX11_tag_0 : decode cX11_tag 0 = .ok (.aload_n 0, 1) := by decide +kernel
theorem dX11_tag_1 : decode cX11_tag 1 = .ok (.iload_n 1, 1) := by decide +kernel
theorem dX11_tag_2 : decode cX11_tag 2 = .ok (.invokevirtual 129, 3) := by decide +kernel
theorem dX11_tag_5 : decode cX11_tag 5 = .ok (.ifCond .eq 5, 3) := by decide +kernel
theorem dX11_tag_8 : decode cX11_tag 8 = .ok (.iconst (-1), 1) := by decide +kernel
theorem dX11_tag_9 : decode cX11_tag 9 = .ok (.ireturn, 1) := by decide +kernel
theorem dX11_tag_10 : decode cX11_tag 10 = .ok (.aload_n 0, 1) := by decide +kernel
theorem dX11_tag_11 : decode cX11_tag 11 = .ok (.getfield 69, 3) := by decide +kernel
theorem dX11_tag_14 : decode cX11_tag 14 = .ok (.aload_n 0, 1) := by decide +kernel
theorem dX11_tag_15 : decode cX11_tag 15 = .ok (.getfield 79, 3) := by decide +kernel
theorem dX11_tag_18 : decode cX11_tag 18 = .ok (.iload_n 1, 1) := by decide +kernel
theorem dX11_tag_19 : decode cX11_tag 19 = .ok (.invokevirtual 292, 3) := by decide +kernel
theorem dX11_tag_22 : decode cX11_tag 22 = .ok (.aload_n 0, 1) := by decide +kernel
theorem dX11_tag_23 : decode cX11_tag 23 = .ok (.getfield 69, 3) := by decide +kernel
theorem dX11_tag_26 : decode cX11_tag 26 = .ok (.getfield 296, 3) := by decide +kernel
theorem dX11_tag_29 : decode cX11_tag 29 = .ok (.ireturn, 1) := by decide +kernel
theorem dX11_byteAt_0 : decode cX11_byteAt 0 = .ok (.iload_n 1, 1) := by decide +kernel
theorem dX11_byteAt_1 : decode cX11_byteAt 1 = .ok (.ifCond .lt 14, 3) := by decide +kernel
theorem dX11_byteAt_4 : decode cX11_byteAt 4 = .ok (.iload_n 1, 1) := by decide +kernel
theorem dX11_byteAt_5 : decode cX11_byteAt 5 = .ok (.aload_n 0, 1) := by decide +kernel
theorem dX11_byteAt_6 : decode cX11_byteAt 6 = .ok (.getfield 69, 3) := by decide +kernel
theorem dX11_byteAt_9 : decode cX11_byteAt 9 = .ok (.getfield 296, 3) := by decide +kernel
theorem dX11_byteAt_12 : decode cX11_byteAt 12 = .ok (.if_icmp .lt 7, 3) := by decide +kernel
theorem dX11_byteAt_15 : decode cX11_byteAt 15 = .ok (.iconst (-1), 1) := by decide +kernel
theorem dX11_byteAt_16 : decode cX11_byteAt 16 = .ok (.goto 12, 3) := by decide +kernel
theorem dX11_byteAt_19 : decode cX11_byteAt 19 = .ok (.aload_n 0, 1) := by decide +kernel
theorem dX11_byteAt_20 : decode cX11_byteAt 20 = .ok (.getfield 69, 3) := by decide +kernel
theorem dX11_byteAt_23 : decode cX11_byteAt 23 = .ok (.getfield 299, 3) := by decide +kernel
theorem dX11_byteAt_26 : decode cX11_byteAt 26 = .ok (.iload_n 1, 1) := by decide +kernel
theorem dX11_byteAt_27 : decode cX11_byteAt 27 = .ok (.iaload, 1) := by decide +kernel
theorem dX11_byteAt_28 : decode cX11_byteAt 28 = .ok (.ireturn, 1) := by decide +kernel
theorem dX11_drawn_0 : decode cX11_drawn 0 = .ok (.iload_n 1, 1) := by decide +kernel
theorem dX11_drawn_1 : decode cX11_drawn 1 = .ok (.iconst 1, 1) := by decide +kernel
theorem dX11_drawn_2 : decode cX11_drawn 2 = .ok (.if_icmp .lt 9, 3) := by decide +kernel
theorem dX11_drawn_5 : decode cX11_drawn 5 = .ok (.iload_n 1, 1) := by decide +kernel
theorem dX11_drawn_6 : decode cX11_drawn 6 = .ok (.bipush 39, 2) := by decide +kernel
theorem dX11_drawn_8 : decode cX11_drawn 8 = .ok (.if_icmp .le 5, 3) := by decide +kernel
theorem dX11_drawn_11 : decode cX11_drawn 11 = .ok (.iconst (-1), 1) := by decide +kernel
theorem dX11_drawn_12 : decode cX11_drawn 12 = .ok (.ireturn, 1) := by decide +kernel
theorem dX11_drawn_13 : decode cX11_drawn 13 = .ok (.aload_n 0, 1) := by decide +kernel
theorem dX11_drawn_14 : decode cX11_drawn 14 = .ok (.getfield 83, 3) := by decide +kernel
theorem dX11_drawn_17 : decode cX11_drawn 17 = .ok (.aload_n 0, 1) := by decide +kernel
theorem dX11_drawn_18 : decode cX11_drawn 18 = .ok (.getfield 79, 3) := by decide +kernel
theorem dX11_drawn_21 : decode cX11_drawn 21 = .ok (.invokevirtual 219, 3) := by decide +kernel
theorem dX11_drawn_24 : decode cX11_drawn 24 = .ok (.aload_n 0, 1) := by decide +kernel
theorem dX11_drawn_25 : decode cX11_drawn 25 = .ok (.getfield 37, 3) := by decide +kernel
theorem dX11_drawn_28 : decode cX11_drawn 28 = .ok (.aload_n 0, 1) := by decide +kernel
theorem dX11_drawn_29 : decode cX11_drawn 29 = .ok (.getfield 83, 3) := by decide +kernel
theorem dX11_drawn_32 : decode cX11_drawn 32 = .ok (.aload_n 0, 1) := by decide +kernel
theorem dX11_drawn_33 : decode cX11_drawn 33 = .ok (.getfield 23, 3) := by decide +kernel
theorem dX11_drawn_36 : decode cX11_drawn 36 = .ok (.iload_n 1, 1) := by decide +kernel
theorem dX11_drawn_37 : decode cX11_drawn 37 = .ok (.iload_n 2, 1) := by decide +kernel
theorem dX11_drawn_38 : decode cX11_drawn 38 = .ok (.invokevirtual 302, 3) := by decide +kernel
theorem dX11_drawn_41 : decode cX11_drawn 41 = .ok (.istore_n 3, 1) := by decide +kernel
theorem dX11_drawn_42 : decode cX11_drawn 42 = .ok (.iload_n 3, 1) := by decide +kernel
theorem dX11_drawn_43 : decode cX11_drawn 43 = .ok (.ifCond .le 7, 3) := by decide +kernel
theorem dX11_drawn_46 : decode cX11_drawn 46 = .ok (.aload_n 0, 1) := by decide +kernel
theorem dX11_drawn_47 : decode cX11_drawn 47 = .ok (.invokevirtual 242, 3) := by decide +kernel
theorem dX11_drawn_50 : decode cX11_drawn 50 = .ok (.iload_n 3, 1) := by decide +kernel
theorem dX11_drawn_51 : decode cX11_drawn 51 = .ok (.ireturn, 1) := by decide +kernel
theorem dX11_odds_0 : decode cX11_odds 0 = .ok (.aload_n 0, 1) := by decide +kernel
theorem dX11_odds_1 : decode cX11_odds 1 = .ok (.iload_n 1, 1) := by decide +kernel
theorem dX11_odds_2 : decode cX11_odds 2 = .ok (.invokevirtual 129, 3) := by decide +kernel
theorem dX11_odds_5 : decode cX11_odds 5 = .ok (.ifCond .ne 14, 3) := by decide +kernel
theorem dX11_odds_8 : decode cX11_odds 8 = .ok (.iload_n 2, 1) := by decide +kernel
theorem dX11_odds_9 : decode cX11_odds 9 = .ok (.iconst 1, 1) := by decide +kernel
theorem dX11_odds_10 : decode cX11_odds 10 = .ok (.if_icmp .lt 9, 3) := by decide +kernel
theorem dX11_odds_13 : decode cX11_odds 13 = .ok (.iload_n 2, 1) := by decide +kernel
theorem dX11_odds_14 : decode cX11_odds 14 = .ok (.bipush 20, 2) := by decide +kernel
theorem dX11_odds_16 : decode cX11_odds 16 = .ok (.if_icmp .le 5, 3) := by decide +kernel
theorem dX11_odds_19 : decode cX11_odds 19 = .ok (.iconst (-1), 1) := by decide +kernel
theorem dX11_odds_20 : decode cX11_odds 20 = .ok (.ireturn, 1) := by decide +kernel
theorem dX11_odds_21 : decode cX11_odds 21 = .ok (.iconst 0, 1) := by decide +kernel
theorem dX11_odds_22 : decode cX11_odds 22 = .ok (.istore 4, 2) := by decide +kernel
theorem dX11_odds_24 : decode cX11_odds 24 = .ok (.iconst 0, 1) := by decide +kernel
theorem dX11_odds_25 : decode cX11_odds 25 = .ok (.istore 5, 2) := by decide +kernel
theorem dX11_odds_27 : decode cX11_odds 27 = .ok (.iload 5, 2) := by decide +kernel
theorem dX11_odds_29 : decode cX11_odds 29 = .ok (.iload_n 2, 1) := by decide +kernel
theorem dX11_odds_30 : decode cX11_odds 30 = .ok (.if_icmp .ge 55, 3) := by decide +kernel
theorem dX11_odds_33 : decode cX11_odds 33 = .ok (.aload_n 0, 1) := by decide +kernel
theorem dX11_odds_34 : decode cX11_odds 34 = .ok (.getfield 83, 3) := by decide +kernel
theorem dX11_odds_37 : decode cX11_odds 37 = .ok (.aload_n 0, 1) := by decide +kernel
theorem dX11_odds_38 : decode cX11_odds 38 = .ok (.getfield 79, 3) := by decide +kernel
theorem dX11_odds_41 : decode cX11_odds 41 = .ok (.invokevirtual 219, 3) := by decide +kernel
theorem dX11_odds_44 : decode cX11_odds 44 = .ok (.aload_n 0, 1) := by decide +kernel
theorem dX11_odds_45 : decode cX11_odds 45 = .ok (.getfield 37, 3) := by decide +kernel
theorem dX11_odds_48 : decode cX11_odds 48 = .ok (.aload_n 0, 1) := by decide +kernel
theorem dX11_odds_49 : decode cX11_odds 49 = .ok (.getfield 83, 3) := by decide +kernel
theorem dX11_odds_52 : decode cX11_odds 52 = .ok (.aload_n 0, 1) := by decide +kernel
theorem dX11_odds_53 : decode cX11_odds 53 = .ok (.getfield 23, 3) := by decide +kernel
theorem dX11_odds_56 : decode cX11_odds 56 = .ok (.iconst 3, 1) := by decide +kernel
theorem dX11_odds_57 : decode cX11_odds 57 = .ok (.iload_n 3, 1) := by decide +kernel
theorem dX11_odds_58 : decode cX11_odds 58 = .ok (.iload 5, 2) := by decide +kernel
theorem dX11_odds_60 : decode cX11_odds 60 = .ok (.iadd, 1) := by decide +kernel
theorem dX11_odds_61 : decode cX11_odds 61 = .ok (.invokevirtual 302, 3) := by decide +kernel
theorem dX11_odds_64 : decode cX11_odds 64 = .ok (.pop, 1) := by decide +kernel
theorem dX11_odds_65 : decode cX11_odds 65 = .ok (.aload_n 0, 1) := by decide +kernel
theorem dX11_odds_66 : decode cX11_odds 66 = .ok (.getfield 83, 3) := by decide +kernel
theorem dX11_odds_69 : decode cX11_odds 69 = .ok (.iload_n 1, 1) := by decide +kernel
theorem dX11_odds_70 : decode cX11_odds 70 = .ok (.invokevirtual 147, 3) := by decide +kernel
theorem dX11_odds_73 : decode cX11_odds 73 = .ok (.ifCond .ne 6, 3) := by decide +kernel
theorem dX11_odds_76 : decode cX11_odds 76 = .ok (.iinc 4 1, 3) := by decide +kernel
theorem dX11_odds_79 : decode cX11_odds 79 = .ok (.iinc 5 1, 3) := by decide +kernel
theorem dX11_odds_82 : decode cX11_odds 82 = .ok (.goto (-55), 3) := by decide +kernel
theorem dX11_odds_85 : decode cX11_odds 85 = .ok (.iload 4, 2) := by decide +kernel
theorem dX11_odds_87 : decode cX11_odds 87 = .ok (.ireturn, 1) := by decide +kernel
theorem dX11_book_0 : decode cX11_book 0 = .ok (.iload_n 1, 1) := by decide +kernel
theorem dX11_book_1 : decode cX11_book 1 = .ok (.ifCond .eq 12, 3) := by decide +kernel
theorem dX11_book_4 : decode cX11_book 4 = .ok (.iload_n 1, 1) := by decide +kernel
theorem dX11_book_5 : decode cX11_book 5 = .ok (.iconst 1, 1) := by decide +kernel
theorem dX11_book_6 : decode cX11_book 6 = .ok (.if_icmp .eq 7, 3) := by decide +kernel
theorem dX11_book_9 : decode cX11_book 9 = .ok (.sipush (-1000), 3) := by decide +kernel
theorem dX11_book_12 : decode cX11_book 12 = .ok (.ireturn, 1) := by decide +kernel
theorem dX11_book_13 : decode cX11_book 13 = .ok (.aload_n 0, 1) := by decide +kernel
theorem dX11_book_14 : decode cX11_book 14 = .ok (.sipush 400, 3) := by decide +kernel
theorem dX11_book_17 : decode cX11_book 17 = .ok (.invokevirtual 94, 3) := by decide +kernel
theorem dX11_book_20 : decode cX11_book 20 = .ok (.aload_n 0, 1) := by decide +kernel
theorem dX11_book_21 : decode cX11_book 21 = .ok (.getfield 44, 3) := by decide +kernel
theorem dX11_book_24 : decode cX11_book 24 = .ok (.aload_n 0, 1) := by decide +kernel
theorem dX11_book_25 : decode cX11_book 25 = .ok (.getfield 16, 3) := by decide +kernel
theorem dX11_book_28 : decode cX11_book 28 = .ok (.aload_n 0, 1) := by decide +kernel
theorem dX11_book_29 : decode cX11_book 29 = .ok (.getfield 79, 3) := by decide +kernel
theorem dX11_book_32 : decode cX11_book 32 = .ok (.getfield 133, 3) := by decide +kernel
theorem dX11_book_35 : decode cX11_book 35 = .ok (.invokevirtual 304, 3) := by decide +kernel
theorem dX11_book_38 : decode cX11_book 38 = .ok (.istore_n 2, 1) := by decide +kernel
theorem dX11_book_39 : decode cX11_book 39 = .ok (.aload_n 0, 1) := by decide +kernel
theorem dX11_book_40 : decode cX11_book 40 = .ok (.aload_n 0, 1) := by decide +kernel
theorem dX11_book_41 : decode cX11_book 41 = .ok (.getfield 16, 3) := by decide +kernel
theorem dX11_book_44 : decode cX11_book 44 = .ok (.getfield 106, 3) := by decide +kernel
theorem dX11_book_47 : decode cX11_book 47 = .ok (.putfield 109, 3) := by decide +kernel
theorem dX11_book_50 : decode cX11_book 50 = .ok (.iload_n 2, 1) := by decide +kernel
theorem dX11_book_51 : decode cX11_book 51 = .ok (.ifCond .ne 14, 3) := by decide +kernel
theorem dX11_book_54 : decode cX11_book 54 = .ok (.bipush (-2), 2) := by decide +kernel
theorem dX11_book_56 : decode cX11_book 56 = .ok (.aload_n 0, 1) := by decide +kernel
theorem dX11_book_57 : decode cX11_book 57 = .ok (.getfield 16, 3) := by decide +kernel
theorem dX11_book_60 : decode cX11_book 60 = .ok (.getfield 112, 3) := by decide +kernel
theorem dX11_book_63 : decode cX11_book 63 = .ok (.isub, 1) := by decide +kernel
theorem dX11_book_64 : decode cX11_book 64 = .ok (.ireturn, 1) := by decide +kernel
theorem dX11_book_65 : decode cX11_book 65 = .ok (.aload_n 0, 1) := by decide +kernel
theorem dX11_book_66 : decode cX11_book 66 = .ok (.getfield 83, 3) := by decide +kernel
theorem dX11_book_69 : decode cX11_book 69 = .ok (.aload_n 0, 1) := by decide +kernel
theorem dX11_book_70 : decode cX11_book 70 = .ok (.getfield 79, 3) := by decide +kernel
theorem dX11_book_73 : decode cX11_book 73 = .ok (.invokevirtual 219, 3) := by decide +kernel
theorem dX11_book_76 : decode cX11_book 76 = .ok (.aload_n 0, 1) := by decide +kernel
theorem dX11_book_77 : decode cX11_book 77 = .ok (.getfield 44, 3) := by decide +kernel
theorem dX11_book_80 : decode cX11_book 80 = .ok (.aload_n 0, 1) := by decide +kernel
theorem dX11_book_81 : decode cX11_book 81 = .ok (.getfield 83, 3) := by decide +kernel
theorem dX11_book_84 : decode cX11_book 84 = .ok (.aload_n 0, 1) := by decide +kernel
theorem dX11_book_85 : decode cX11_book 85 = .ok (.getfield 23, 3) := by decide +kernel
theorem dX11_book_88 : decode cX11_book 88 = .ok (.invokevirtual 307, 3) := by decide +kernel
theorem dX11_book_91 : decode cX11_book 91 = .ok (.istore_n 3, 1) := by decide +kernel
theorem dX11_book_92 : decode cX11_book 92 = .ok (.aload_n 0, 1) := by decide +kernel
theorem dX11_book_93 : decode cX11_book 93 = .ok (.getfield 44, 3) := by decide +kernel
theorem dX11_book_96 : decode cX11_book 96 = .ok (.getfield 310, 3) := by decide +kernel
theorem dX11_book_99 : decode cX11_book 99 = .ok (.istore 4, 2) := by decide +kernel
theorem dX11_book_101 : decode cX11_book 101 = .ok (.aload_n 0, 1) := by decide +kernel
theorem dX11_book_102 : decode cX11_book 102 = .ok (.iload_n 3, 1) := by decide +kernel
theorem dX11_book_103 : decode cX11_book 103 = .ok (.iload 4, 2) := by decide +kernel
theorem dX11_book_105 : decode cX11_book 105 = .ok (.invokevirtual 313, 3) := by decide +kernel
theorem dX11_book_108 : decode cX11_book 108 = .ok (.iload_n 1, 1) := by decide +kernel
theorem dX11_book_109 : decode cX11_book 109 = .ok (.iconst 1, 1) := by decide +kernel
theorem dX11_book_110 : decode cX11_book 110 = .ok (.if_icmp .ne 12, 3) := by decide +kernel
theorem dX11_book_113 : decode cX11_book 113 = .ok (.iload 4, 2) := by decide +kernel
theorem dX11_book_115 : decode cX11_book 115 = .ok (.ifCond .le 7, 3) := by decide +kernel
theorem dX11_book_118 : decode cX11_book 118 = .ok (.aload_n 0, 1) := by decide +kernel
theorem dX11_book_119 : decode cX11_book 119 = .ok (.invokevirtual 242, 3) := by decide +kernel
theorem dX11_book_122 : decode cX11_book 122 = .ok (.iload_n 3, 1) := by decide +kernel
theorem dX11_book_123 : decode cX11_book 123 = .ok (.ifCond .ne 7, 3) := by decide +kernel
theorem dX11_book_126 : decode cX11_book 126 = .ok (.iconst (-1), 1) := by decide +kernel
theorem dX11_book_127 : decode cX11_book 127 = .ok (.goto 5, 3) := by decide +kernel
theorem dX11_book_130 : decode cX11_book 130 = .ok (.iload 4, 2) := by decide +kernel
theorem dX11_book_132 : decode cX11_book 132 = .ok (.ireturn, 1) := by decide +kernel
theorem dX11_tell_0 : decode cX11_tell 0 = .ok (.aload_n 0, 1) := by decide +kernel
theorem dX11_tell_1 : decode cX11_tell 1 = .ok (.iconst 1, 1) := by decide +kernel
theorem dX11_tell_2 : decode cX11_tell 2 = .ok (.putfield 317, 3) := by decide +kernel
theorem dX11_tell_5 : decode cX11_tell 5 = .ok (.aload_n 0, 1) := by decide +kernel
theorem dX11_tell_6 : decode cX11_tell 6 = .ok (.getfield 63, 3) := by decide +kernel
theorem dX11_tell_9 : decode cX11_tell 9 = .ok (.iconst 0, 1) := by decide +kernel
theorem dX11_tell_10 : decode cX11_tell 10 = .ok (.iload_n 1, 1) := by decide +kernel
theorem dX11_tell_11 : decode cX11_tell 11 = .ok (.iastore, 1) := by decide +kernel
theorem dX11_tell_12 : decode cX11_tell 12 = .ok (.aload_n 0, 1) := by decide +kernel
theorem dX11_tell_13 : decode cX11_tell 13 = .ok (.getfield 63, 3) := by decide +kernel
theorem dX11_tell_16 : decode cX11_tell 16 = .ok (.iconst 1, 1) := by decide +kernel
theorem dX11_tell_17 : decode cX11_tell 17 = .ok (.iload_n 2, 1) := by decide +kernel
theorem dX11_tell_18 : decode cX11_tell 18 = .ok (.iastore, 1) := by decide +kernel
theorem dX11_tell_19 : decode cX11_tell 19 = .ok (.aload_n 0, 1) := by decide +kernel
theorem dX11_tell_20 : decode cX11_tell 20 = .ok (.getfield 63, 3) := by decide +kernel
theorem dX11_tell_23 : decode cX11_tell 23 = .ok (.iconst 2, 1) := by decide +kernel
theorem dX11_tell_24 : decode cX11_tell 24 = .ok (.aload_n 0, 1) := by decide +kernel
theorem dX11_tell_25 : decode cX11_tell 25 = .ok (.getfield 83, 3) := by decide +kernel
theorem dX11_tell_28 : decode cX11_tell 28 = .ok (.getfield 194, 3) := by decide +kernel
theorem dX11_tell_31 : decode cX11_tell 31 = .ok (.iastore, 1) := by decide +kernel
theorem dX11_tell_32 : decode cX11_tell 32 = .ok (.aload_n 0, 1) := by decide +kernel
theorem dX11_tell_33 : decode cX11_tell 33 = .ok (.getfield 63, 3) := by decide +kernel
theorem dX11_tell_36 : decode cX11_tell 36 = .ok (.iconst 3, 1) := by decide +kernel
theorem dX11_tell_37 : decode cX11_tell 37 = .ok (.aload_n 0, 1) := by decide +kernel
theorem dX11_tell_38 : decode cX11_tell 38 = .ok (.getfield 83, 3) := by decide +kernel
theorem dX11_tell_41 : decode cX11_tell 41 = .ok (.invokevirtual 197, 3) := by decide +kernel
theorem dX11_tell_44 : decode cX11_tell 44 = .ok (.iastore, 1) := by decide +kernel
theorem dX11_tell_45 : decode cX11_tell 45 = .ok (.return_, 1) := by decide +kernel
theorem dX11_told_0 : decode cX11_told 0 = .ok (.aload_n 0, 1) := by decide +kernel
theorem dX11_told_1 : decode cX11_told 1 = .ok (.getfield 317, 3) := by decide +kernel
theorem dX11_told_4 : decode cX11_told 4 = .ok (.ifCond .eq 16, 3) := by decide +kernel
theorem dX11_told_7 : decode cX11_told 7 = .ok (.iload_n 1, 1) := by decide +kernel
theorem dX11_told_8 : decode cX11_told 8 = .ok (.ifCond .lt 12, 3) := by decide +kernel
theorem dX11_told_11 : decode cX11_told 11 = .ok (.iload_n 1, 1) := by decide +kernel
theorem dX11_told_12 : decode cX11_told 12 = .ok (.aload_n 0, 1) := by decide +kernel
theorem dX11_told_13 : decode cX11_told 13 = .ok (.getfield 63, 3) := by decide +kernel
theorem dX11_told_16 : decode cX11_told 16 = .ok (.arraylength, 1) := by decide +kernel
theorem dX11_told_17 : decode cX11_told 17 = .ok (.if_icmp .lt 7, 3) := by decide +kernel
theorem dX11_told_20 : decode cX11_told 20 = .ok (.iconst (-1), 1) := by decide +kernel
theorem dX11_told_21 : decode cX11_told 21 = .ok (.goto 9, 3) := by decide +kernel
theorem dX11_told_24 : decode cX11_told 24 = .ok (.aload_n 0, 1) := by decide +kernel
theorem dX11_told_25 : decode cX11_told 25 = .ok (.getfield 63, 3) := by decide +kernel
theorem dX11_told_28 : decode cX11_told 28 = .ok (.iload_n 1, 1) := by decide +kernel
theorem dX11_told_29 : decode cX11_told 29 = .ok (.iaload, 1) := by decide +kernel
theorem dX11_told_30 : decode cX11_told 30 = .ok (.ireturn, 1) := by decide +kernel
theorem dX11_sentence_0 : decode cX11_sentence 0 = .ok (.aload_n 0, 1) := by decide +kernel
theorem dX11_sentence_1 : decode cX11_sentence 1 = .ok (.sipush 200, 3) := by decide +kernel
theorem dX11_sentence_4 : decode cX11_sentence 4 = .ok (.invokevirtual 94, 3) := by decide +kernel
theorem dX11_sentence_7 : decode cX11_sentence 7 = .ok (.new 321, 3) := by decide +kernel
theorem dX11_sentence_10 : decode cX11_sentence 10 = .ok (.dup, 1) := by decide +kernel
theorem dX11_sentence_11 : decode cX11_sentence 11 = .ok (.aload_n 0, 1) := by decide +kernel
theorem dX11_sentence_12 : decode cX11_sentence 12 = .ok (.getfield 16, 3) := by decide +kernel
theorem dX11_sentence_15 : decode cX11_sentence 15 = .ok (.aload_n 0, 1) := by decide +kernel
theorem dX11_sentence_16 : decode cX11_sentence 16 = .ok (.getfield 79, 3) := by decide +kernel
theorem dX11_sentence_19 : decode cX11_sentence 19 = .ok (.getfield 133, 3) := by decide +kernel
theorem dX11_sentence_22 : decode cX11_sentence 22 = .ok (.invokespecial 323, 3) := by decide +kernel
theorem dX11_sentence_25 : decode cX11_sentence 25 = .ok (.astore_n 1, 1) := by decide +kernel
theorem dX11_sentence_26 : decode cX11_sentence 26 = .ok (.aload_n 1, 1) := by decide +kernel
theorem dX11_sentence_27 : decode cX11_sentence 27 = .ok (.invokevirtual 326, 3) := by decide +kernel
theorem dX11_sentence_30 : decode cX11_sentence 30 = .ok (.istore_n 2, 1) := by decide +kernel
theorem dX11_sentence_31 : decode cX11_sentence 31 = .ok (.aload_n 0, 1) := by decide +kernel
theorem dX11_sentence_32 : decode cX11_sentence 32 = .ok (.aload_n 0, 1) := by decide +kernel
theorem dX11_sentence_33 : decode cX11_sentence 33 = .ok (.getfield 16, 3) := by decide +kernel
theorem dX11_sentence_36 : decode cX11_sentence 36 = .ok (.getfield 106, 3) := by decide +kernel
theorem dX11_sentence_39 : decode cX11_sentence 39 = .ok (.putfield 109, 3) := by decide +kernel
theorem dX11_sentence_42 : decode cX11_sentence 42 = .ok (.iload_n 2, 1) := by decide +kernel
theorem dX11_sentence_43 : decode cX11_sentence 43 = .ok (.ifCond .ne 13, 3) := by decide +kernel
theorem dX11_sentence_46 : decode cX11_sentence 46 = .ok (.iconst (-1), 1) := by decide +kernel
theorem dX11_sentence_47 : decode cX11_sentence 47 = .ok (.aload_n 0, 1) := by decide +kernel
theorem dX11_sentence_48 : decode cX11_sentence 48 = .ok (.getfield 16, 3) := by decide +kernel
theorem dX11_sentence_51 : decode cX11_sentence 51 = .ok (.getfield 112, 3) := by decide +kernel
theorem dX11_sentence_54 : decode cX11_sentence 54 = .ok (.isub, 1) := by decide +kernel
theorem dX11_sentence_55 : decode cX11_sentence 55 = .ok (.ireturn, 1) := by decide +kernel
theorem dX11_sentence_56 : decode cX11_sentence 56 = .ok (.aload_n 0, 1) := by decide +kernel
theorem dX11_sentence_57 : decode cX11_sentence 57 = .ok (.aload_n 1, 1) := by decide +kernel
theorem dX11_sentence_58 : decode cX11_sentence 58 = .ok (.getfield 327, 3) := by decide +kernel
theorem dX11_sentence_61 : decode cX11_sentence 61 = .ok (.putfield 115, 3) := by decide +kernel
theorem dX11_sentence_64 : decode cX11_sentence 64 = .ok (.aload_n 1, 1) := by decide +kernel
theorem dX11_sentence_65 : decode cX11_sentence 65 = .ok (.getfield 330, 3) := by decide +kernel
theorem dX11_sentence_68 : decode cX11_sentence 68 = .ok (.ireturn, 1) := by decide +kernel
theorem dX11_said_0 : decode cX11_said 0 = .ok (.aload_n 0, 1) := by decide +kernel
theorem dX11_said_1 : decode cX11_said 1 = .ok (.getfield 115, 3) := by decide +kernel
theorem dX11_said_4 : decode cX11_said 4 = .ok (.astore_n 2, 1) := by decide +kernel
theorem dX11_said_5 : decode cX11_said 5 = .ok (.aload_n 2, 1) := by decide +kernel
theorem dX11_said_6 : decode cX11_said 6 = .ok (.ifnull 8, 3) := by decide +kernel
theorem dX11_said_9 : decode cX11_said 9 = .ok (.iload_n 1, 1) := by decide +kernel
theorem dX11_said_10 : decode cX11_said 10 = .ok (.iconst (-1), 1) := by decide +kernel
theorem dX11_said_11 : decode cX11_said 11 = .ok (.if_icmp .ge 5, 3) := by decide +kernel
theorem dX11_said_14 : decode cX11_said 14 = .ok (.iconst (-1), 1) := by decide +kernel
theorem dX11_said_15 : decode cX11_said 15 = .ok (.ireturn, 1) := by decide +kernel
theorem dX11_said_16 : decode cX11_said 16 = .ok (.iconst 0, 1) := by decide +kernel
theorem dX11_said_17 : decode cX11_said 17 = .ok (.istore_n 3, 1) := by decide +kernel
theorem dX11_said_18 : decode cX11_said 18 = .ok (.iconst 0, 1) := by decide +kernel
theorem dX11_said_19 : decode cX11_said 19 = .ok (.istore 4, 2) := by decide +kernel
theorem dX11_said_21 : decode cX11_said 21 = .ok (.iload 4, 2) := by decide +kernel
theorem dX11_said_23 : decode cX11_said 23 = .ok (.aload_n 0, 1) := by decide +kernel
theorem dX11_said_24 : decode cX11_said 24 = .ok (.getfield 79, 3) := by decide +kernel
theorem dX11_said_27 : decode cX11_said 27 = .ok (.getfield 133, 3) := by decide +kernel
theorem dX11_said_30 : decode cX11_said 30 = .ok (.getfield 159, 3) := by decide +kernel
theorem dX11_said_33 : decode cX11_said 33 = .ok (.if_icmp .ge 33, 3) := by decide +kernel
theorem dX11_said_36 : decode cX11_said 36 = .ok (.aload_n 2, 1) := by decide +kernel
theorem dX11_said_37 : decode cX11_said 37 = .ok (.aload_n 0, 1) := by decide +kernel
theorem dX11_said_38 : decode cX11_said 38 = .ok (.getfield 79, 3) := by decide +kernel
theorem dX11_said_41 : decode cX11_said 41 = .ok (.iload 4, 2) := by decide +kernel
theorem dX11_said_43 : decode cX11_said 43 = .ok (.invokevirtual 333, 3) := by decide +kernel
theorem dX11_said_46 : decode cX11_said 46 = .ok (.ifCond .eq 14, 3) := by decide +kernel
theorem dX11_said_49 : decode cX11_said 49 = .ok (.iload_n 3, 1) := by decide +kernel
theorem dX11_said_50 : decode cX11_said 50 = .ok (.iload_n 1, 1) := by decide +kernel
theorem dX11_said_51 : decode cX11_said 51 = .ok (.if_icmp .ne 6, 3) := by decide +kernel
theorem dX11_said_54 : decode cX11_said 54 = .ok (.iload 4, 2) := by decide +kernel
theorem dX11_said_56 : decode cX11_said 56 = .ok (.ireturn, 1) := by decide +kernel
theorem dX11_said_57 : decode cX11_said 57 = .ok (.iinc 3 1, 3) := by decide +kernel
theorem dX11_said_60 : decode cX11_said 60 = .ok (.iinc 4 1, 3) := by decide +kernel
theorem dX11_said_63 : decode cX11_said 63 = .ok (.goto (-42), 3) := by decide +kernel
theorem dX11_said_66 : decode cX11_said 66 = .ok (.iload_n 1, 1) := by decide +kernel
theorem dX11_said_67 : decode cX11_said 67 = .ok (.iconst (-1), 1) := by decide +kernel
theorem dX11_said_68 : decode cX11_said 68 = .ok (.if_icmp .ne 7, 3) := by decide +kernel
theorem dX11_said_71 : decode cX11_said 71 = .ok (.iload_n 3, 1) := by decide +kernel
theorem dX11_said_72 : decode cX11_said 72 = .ok (.goto 4, 3) := by decide +kernel
theorem dX11_said_75 : decode cX11_said 75 = .ok (.iconst (-1), 1) := by decide +kernel
theorem dX11_said_76 : decode cX11_said 76 = .ok (.ireturn, 1) := by decide +kernel
theorem dX11_image_0 : decode cX11_image 0 = .ok (.iload_n 1, 1) := by decide +kernel
theorem dX11_image_1 : decode cX11_image 1 = .ok (.ifCond .lt 8, 3) := by decide +kernel
theorem dX11_image_4 : decode cX11_image 4 = .ok (.iload_n 1, 1) := by decide +kernel
theorem dX11_image_5 : decode cX11_image 5 = .ok (.iconst 2, 1) := by decide +kernel
theorem dX11_image_6 : decode cX11_image 6 = .ok (.if_icmp .lt 5, 3) := by decide +kernel
theorem dX11_image_9 : decode cX11_image 9 = .ok (.iconst 0, 1) := by decide +kernel
theorem dX11_image_10 : decode cX11_image 10 = .ok (.ireturn, 1) := by decide +kernel
theorem dX11_image_11 : decode cX11_image 11 = .ok (.aload_n 0, 1) := by decide +kernel
theorem dX11_image_12 : decode cX11_image 12 = .ok (.getfield 54, 3) := by decide +kernel
theorem dX11_image_15 : decode cX11_image 15 = .ok (.iload_n 1, 1) := by decide +kernel
theorem dX11_image_16 : decode cX11_image 16 = .ok (.aaload, 1) := by decide +kernel
theorem dX11_image_17 : decode cX11_image 17 = .ok (.astore_n 2, 1) := by decide +kernel
theorem dX11_image_18 : decode cX11_image 18 = .ok (.aload_n 2, 1) := by decide +kernel
theorem dX11_image_19 : decode cX11_image 19 = .ok (.ifnonnull 25, 3) := by decide +kernel
theorem dX11_image_22 : decode cX11_image 22 = .ok (.new 48, 3) := by decide +kernel
theorem dX11_image_25 : decode cX11_image 25 = .ok (.dup, 1) := by decide +kernel
theorem dX11_image_26 : decode cX11_image 26 = .ok (.aload_n 0, 1) := by decide +kernel
theorem dX11_image_27 : decode cX11_image 27 = .ok (.getfield 79, 3) := by decide +kernel
theorem dX11_image_30 : decode cX11_image 30 = .ok (.getfield 133, 3) := by decide +kernel
theorem dX11_image_33 : decode cX11_image 33 = .ok (.invokespecial 76, 3) := by decide +kernel
theorem dX11_image_36 : decode cX11_image 36 = .ok (.astore_n 2, 1) := by decide +kernel
theorem dX11_image_37 : decode cX11_image 37 = .ok (.aload_n 0, 1) := by decide +kernel
theorem dX11_image_38 : decode cX11_image 38 = .ok (.getfield 54, 3) := by decide +kernel
theorem dX11_image_41 : decode cX11_image 41 = .ok (.iload_n 1, 1) := by decide +kernel
theorem dX11_image_42 : decode cX11_image 42 = .ok (.aload_n 2, 1) := by decide +kernel
theorem dX11_image_43 : decode cX11_image 43 = .ok (.aastore, 1) := by decide +kernel
theorem dX11_image_44 : decode cX11_image 44 = .ok (.aload_n 2, 1) := by decide +kernel
theorem dX11_image_45 : decode cX11_image 45 = .ok (.aload_n 0, 1) := by decide +kernel
theorem dX11_image_46 : decode cX11_image 46 = .ok (.getfield 79, 3) := by decide +kernel
theorem dX11_image_49 : decode cX11_image 49 = .ok (.invokevirtual 219, 3) := by decide +kernel
theorem dX11_image_52 : decode cX11_image 52 = .ok (.aload_n 0, 1) := by decide +kernel
theorem dX11_image_53 : decode cX11_image 53 = .ok (.getfield 59, 3) := by decide +kernel
theorem dX11_image_56 : decode cX11_image 56 = .ok (.iload_n 1, 1) := by decide +kernel
theorem dX11_image_57 : decode cX11_image 57 = .ok (.aload_n 0, 1) := by decide +kernel
theorem dX11_image_58 : decode cX11_image 58 = .ok (.getfield 115, 3) := by decide +kernel
theorem dX11_image_61 : decode cX11_image 61 = .ok (.aastore, 1) := by decide +kernel
theorem dX11_image_62 : decode cX11_image 62 = .ok (.iconst 1, 1) := by decide +kernel
theorem dX11_image_63 : decode cX11_image 63 = .ok (.ireturn, 1) := by decide +kernel
theorem dX11_restore_0 : decode cX11_restore 0 = .ok (.iload_n 1, 1) := by decide +kernel
theorem dX11_restore_1 : decode cX11_restore 1 = .ok (.ifCond .lt 8, 3) := by decide +kernel
theorem dX11_restore_4 : decode cX11_restore 4 = .ok (.iload_n 1, 1) := by decide +kernel
theorem dX11_restore_5 : decode cX11_restore 5 = .ok (.iconst 2, 1) := by decide +kernel
theorem dX11_restore_6 : decode cX11_restore 6 = .ok (.if_icmp .lt 5, 3) := by decide +kernel
theorem dX11_restore_9 : decode cX11_restore 9 = .ok (.iconst 0, 1) := by decide +kernel
theorem dX11_restore_10 : decode cX11_restore 10 = .ok (.ireturn, 1) := by decide +kernel
theorem dX11_restore_11 : decode cX11_restore 11 = .ok (.aload_n 0, 1) := by decide +kernel
theorem dX11_restore_12 : decode cX11_restore 12 = .ok (.getfield 54, 3) := by decide +kernel
theorem dX11_restore_15 : decode cX11_restore 15 = .ok (.iload_n 1, 1) := by decide +kernel
theorem dX11_restore_16 : decode cX11_restore 16 = .ok (.aaload, 1) := by decide +kernel
theorem dX11_restore_17 : decode cX11_restore 17 = .ok (.astore_n 2, 1) := by decide +kernel
theorem dX11_restore_18 : decode cX11_restore 18 = .ok (.aload_n 2, 1) := by decide +kernel
theorem dX11_restore_19 : decode cX11_restore 19 = .ok (.ifnonnull 5, 3) := by decide +kernel
theorem dX11_restore_22 : decode cX11_restore 22 = .ok (.iconst 0, 1) := by decide +kernel
theorem dX11_restore_23 : decode cX11_restore 23 = .ok (.ireturn, 1) := by decide +kernel
theorem dX11_restore_24 : decode cX11_restore 24 = .ok (.aload_n 0, 1) := by decide +kernel
theorem dX11_restore_25 : decode cX11_restore 25 = .ok (.getfield 79, 3) := by decide +kernel
theorem dX11_restore_28 : decode cX11_restore 28 = .ok (.aload_n 2, 1) := by decide +kernel
theorem dX11_restore_29 : decode cX11_restore 29 = .ok (.invokevirtual 219, 3) := by decide +kernel
theorem dX11_restore_32 : decode cX11_restore 32 = .ok (.aload_n 0, 1) := by decide +kernel
theorem dX11_restore_33 : decode cX11_restore 33 = .ok (.aload_n 0, 1) := by decide +kernel
theorem dX11_restore_34 : decode cX11_restore 34 = .ok (.getfield 59, 3) := by decide +kernel
theorem dX11_restore_37 : decode cX11_restore 37 = .ok (.iload_n 1, 1) := by decide +kernel
theorem dX11_restore_38 : decode cX11_restore 38 = .ok (.aaload, 1) := by decide +kernel
theorem dX11_restore_39 : decode cX11_restore 39 = .ok (.putfield 115, 3) := by decide +kernel
theorem dX11_restore_42 : decode cX11_restore 42 = .ok (.aload_n 0, 1) := by decide +kernel
theorem dX11_restore_43 : decode cX11_restore 43 = .ok (.iconst 0, 1) := by decide +kernel
theorem dX11_restore_44 : decode cX11_restore 44 = .ok (.putfield 119, 3) := by decide +kernel
theorem dX11_restore_47 : decode cX11_restore 47 = .ok (.iconst 1, 1) := by decide +kernel
theorem dX11_restore_48 : decode cX11_restore 48 = .ok (.ireturn, 1) := by decide +kernel
theorem dX11_count_0 : decode cX11_count 0 = .ok (.aload_n 0, 1) := by decide +kernel
theorem dX11_count_1 : decode cX11_count 1 = .ok (.getfield 79, 3) := by decide +kernel
theorem dX11_count_4 : decode cX11_count 4 = .ok (.getfield 133, 3) := by decide +kernel
theorem dX11_count_7 : decode cX11_count 7 = .ok (.astore_n 2, 1) := by decide +kernel
theorem dX11_count_8 : decode cX11_count 8 = .ok (.iload_n 1, 1) := by decide +kernel
theorem dX11_count_9 : decode cX11_count 9 = .ok (.tableswitch 69 0 5 #[39, 44, 49, 54, 59, 64], 39) := by decide +kernel
theorem dX11_count_48 : decode cX11_count 48 = .ok (.aload_n 2, 1) := by decide +kernel
theorem dX11_count_49 : decode cX11_count 49 = .ok (.getfield 162, 3) := by decide +kernel
theorem dX11_count_52 : decode cX11_count 52 = .ok (.ireturn, 1) := by decide +kernel
theorem dX11_count_53 : decode cX11_count 53 = .ok (.aload_n 2, 1) := by decide +kernel
theorem dX11_count_54 : decode cX11_count 54 = .ok (.getfield 159, 3) := by decide +kernel
theorem dX11_count_57 : decode cX11_count 57 = .ok (.ireturn, 1) := by decide +kernel
theorem dX11_count_58 : decode cX11_count 58 = .ok (.aload_n 2, 1) := by decide +kernel
theorem dX11_count_59 : decode cX11_count 59 = .ok (.getfield 337, 3) := by decide +kernel
theorem dX11_count_62 : decode cX11_count 62 = .ok (.ireturn, 1) := by decide +kernel
theorem dX11_count_63 : decode cX11_count 63 = .ok (.aload_n 2, 1) := by decide +kernel
theorem dX11_count_64 : decode cX11_count 64 = .ok (.getfield 340, 3) := by decide +kernel
theorem dX11_count_67 : decode cX11_count 67 = .ok (.ireturn, 1) := by decide +kernel
theorem dX11_count_68 : decode cX11_count 68 = .ok (.aload_n 2, 1) := by decide +kernel
theorem dX11_count_69 : decode cX11_count 69 = .ok (.getfield 343, 3) := by decide +kernel
theorem dX11_count_72 : decode cX11_count 72 = .ok (.ireturn, 1) := by decide +kernel
theorem dX11_count_73 : decode cX11_count 73 = .ok (.aload_n 0, 1) := by decide +kernel
theorem dX11_count_74 : decode cX11_count 74 = .ok (.getfield 86, 3) := by decide +kernel
theorem dX11_count_77 : decode cX11_count 77 = .ok (.ireturn, 1) := by decide +kernel
theorem dX11_count_78 : decode cX11_count 78 = .ok (.iconst (-1), 1) := by decide +kernel
theorem dX11_count_79 : decode cX11_count 79 = .ok (.ireturn, 1) := by decide +kernel
theorem dX11_scale_0 : decode cX11_scale 0 = .ok (.aload_n 0, 1) := by decide +kernel
theorem dX11_scale_1 : decode cX11_scale 1 = .ok (.iload_n 1, 1) := by decide +kernel
theorem dX11_scale_2 : decode cX11_scale 2 = .ok (.invokevirtual 185, 3) := by decide +kernel
theorem dX11_scale_5 : decode cX11_scale 5 = .ok (.ifCond .eq 5, 3) := by decide +kernel
theorem dX11_scale_8 : decode cX11_scale 8 = .ok (.iconst (-1), 1) := by decide +kernel
theorem dX11_scale_9 : decode cX11_scale 9 = .ok (.ireturn, 1) := by decide +kernel
theorem dX11_scale_10 : decode cX11_scale 10 = .ok (.iload_n 2, 1) := by decide +kernel
theorem dX11_scale_11 : decode cX11_scale 11 = .ok (.tableswitch 73 0 3 #[29, 42, 55, 64], 29) := by decide +kernel
theorem dX11_scale_40 : decode cX11_scale 40 = .ok (.aload_n 0, 1) := by decide +kernel
theorem dX11_scale_41 : decode cX11_scale 41 = .ok (.getfield 79, 3) := by decide +kernel
theorem dX11_scale_44 : decode cX11_scale 44 = .ok (.getfield 133, 3) := by decide +kernel
theorem dX11_scale_47 : decode cX11_scale 47 = .ok (.getfield 289, 3) := by decide +kernel
theorem dX11_scale_50 : decode cX11_scale 50 = .ok (.iload_n 1, 1) := by decide +kernel
theorem dX11_scale_51 : decode cX11_scale 51 = .ok (.iaload, 1) := by decide +kernel
theorem dX11_scale_52 : decode cX11_scale 52 = .ok (.ireturn, 1) := by decide +kernel
theorem dX11_scale_53 : decode cX11_scale 53 = .ok (.aload_n 0, 1) := by decide +kernel
theorem dX11_scale_54 : decode cX11_scale 54 = .ok (.getfield 79, 3) := by decide +kernel
theorem dX11_scale_57 : decode cX11_scale 57 = .ok (.getfield 133, 3) := by decide +kernel
theorem dX11_scale_60 : decode cX11_scale 60 = .ok (.getfield 346, 3) := by decide +kernel
theorem dX11_scale_63 : decode cX11_scale 63 = .ok (.iload_n 1, 1) := by decide +kernel
theorem dX11_scale_64 : decode cX11_scale 64 = .ok (.iaload, 1) := by decide +kernel
theorem dX11_scale_65 : decode cX11_scale 65 = .ok (.ireturn, 1) := by decide +kernel
theorem dX11_scale_66 : decode cX11_scale 66 = .ok (.aload_n 0, 1) := by decide +kernel
theorem dX11_scale_67 : decode cX11_scale 67 = .ok (.getfield 79, 3) := by decide +kernel
theorem dX11_scale_70 : decode cX11_scale 70 = .ok (.iload_n 1, 1) := by decide +kernel
theorem dX11_scale_71 : decode cX11_scale 71 = .ok (.invokevirtual 188, 3) := by decide +kernel
theorem dX11_scale_74 : decode cX11_scale 74 = .ok (.ireturn, 1) := by decide +kernel
theorem dX11_scale_75 : decode cX11_scale 75 = .ok (.aload_n 0, 1) := by decide +kernel
theorem dX11_scale_76 : decode cX11_scale 76 = .ok (.getfield 79, 3) := by decide +kernel
theorem dX11_scale_79 : decode cX11_scale 79 = .ok (.iload_n 1, 1) := by decide +kernel
theorem dX11_scale_80 : decode cX11_scale 80 = .ok (.invokevirtual 348, 3) := by decide +kernel
theorem dX11_scale_83 : decode cX11_scale 83 = .ok (.ireturn, 1) := by decide +kernel
theorem dX11_scale_84 : decode cX11_scale 84 = .ok (.iconst (-1), 1) := by decide +kernel
theorem dX11_scale_85 : decode cX11_scale 85 = .ok (.ireturn, 1) := by decide +kernel
theorem dJ7_fill_53178_0 : decode cJ7_fill_53178 0 = .ok (.iconst 0, 1) := by decide +kernel
theorem dJ7_fill_53178_1 : decode cJ7_fill_53178 1 = .ok (.istore_n 2, 1) := by decide +kernel
theorem dJ7_fill_53178_2 : decode cJ7_fill_53178 2 = .ok (.aload_n 0, 1) := by decide +kernel
theorem dJ7_fill_53178_3 : decode cJ7_fill_53178 3 = .ok (.arraylength, 1) := by decide +kernel
theorem dJ7_fill_53178_4 : decode cJ7_fill_53178 4 = .ok (.istore_n 3, 1) := by decide +kernel
theorem dJ7_fill_53178_5 : decode cJ7_fill_53178 5 = .ok (.iload_n 2, 1) := by decide +kernel
theorem dJ7_fill_53178_6 : decode cJ7_fill_53178 6 = .ok (.iload_n 3, 1) := by decide +kernel
theorem dJ7_fill_53178_7 : decode cJ7_fill_53178 7 = .ok (.if_icmp .ge 13, 3) := by decide +kernel
theorem dJ7_fill_53178_10 : decode cJ7_fill_53178 10 = .ok (.aload_n 0, 1) := by decide +kernel
theorem dJ7_fill_53178_11 : decode cJ7_fill_53178 11 = .ok (.iload_n 2, 1) := by decide +kernel
theorem dJ7_fill_53178_12 : decode cJ7_fill_53178 12 = .ok (.iload_n 1, 1) := by decide +kernel
theorem dJ7_fill_53178_13 : decode cJ7_fill_53178 13 = .ok (.iastore, 1) := by decide +kernel
theorem dJ7_fill_53178_14 : decode cJ7_fill_53178 14 = .ok (.iinc 2 1, 3) := by decide +kernel
theorem dJ7_fill_53178_17 : decode cJ7_fill_53178 17 = .ok (.goto (-12), 3) := by decide +kernel
theorem dJ7_fill_53178_20 : decode cJ7_fill_53178 20 = .ok (.return_, 1) := by decide +kernel
