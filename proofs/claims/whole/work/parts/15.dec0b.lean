theorem dX4_readWine_131 : decode cX4_readWine 131 = .ok (.getfield 123, 3) := by decide +kernel
theorem dX4_readWine_134 : decode cX4_readWine 134 = .ok (.iload_n 2, 1) := by decide +kernel
theorem dX4_readWine_135 : decode cX4_readWine 135 = .ok (.aaload, 1) := by decide +kernel
theorem dX4_readWine_136 : decode cX4_readWine 136 = .ok (.iload_n 3, 1) := by decide +kernel
theorem dX4_readWine_137 : decode cX4_readWine 137 = .ok (.dup2, 1) := by decide +kernel
theorem dX4_readWine_138 : decode cX4_readWine 138 = .ok (.iaload, 1) := by decide +kernel
theorem dX4_readWine_139 : decode cX4_readWine 139 = .ok (.aload_n 0, 1) := by decide +kernel
theorem dX4_readWine_140 : decode cX4_readWine 140 = .ok (.getfield 18, 3) := by decide +kernel
theorem dX4_readWine_143 : decode cX4_readWine 143 = .ok (.getfield 97, 3) := by decide +kernel
theorem dX4_readWine_146 : decode cX4_readWine 146 = .ok (.iadd, 1) := by decide +kernel
theorem dX4_readWine_147 : decode cX4_readWine 147 = .ok (.iastore, 1) := by decide +kernel
theorem dX4_readWine_148 : decode cX4_readWine 148 = .ok (.aload_n 0, 1) := by decide +kernel
theorem dX4_readWine_149 : decode cX4_readWine 149 = .ok (.getfield 22, 3) := by decide +kernel
theorem dX4_readWine_152 : decode cX4_readWine 152 = .ok (.getfield 127, 3) := by decide +kernel
theorem dX4_readWine_155 : decode cX4_readWine 155 = .ok (.iload_n 2, 1) := by decide +kernel
theorem dX4_readWine_156 : decode cX4_readWine 156 = .ok (.dup2, 1) := by decide +kernel
theorem dX4_readWine_157 : decode cX4_readWine 157 = .ok (.iaload, 1) := by decide +kernel
theorem dX4_readWine_158 : decode cX4_readWine 158 = .ok (.aload_n 0, 1) := by decide +kernel
theorem dX4_readWine_159 : decode cX4_readWine 159 = .ok (.getfield 18, 3) := by decide +kernel
theorem dX4_readWine_162 : decode cX4_readWine 162 = .ok (.getfield 97, 3) := by decide +kernel
theorem dX4_readWine_165 : decode cX4_readWine 165 = .ok (.iadd, 1) := by decide +kernel
theorem dX4_readWine_166 : decode cX4_readWine 166 = .ok (.iastore, 1) := by decide +kernel
theorem dX4_readWine_167 : decode cX4_readWine 167 = .ok (.iconst 1, 1) := by decide +kernel
theorem dX4_readWine_168 : decode cX4_readWine 168 = .ok (.ireturn, 1) := by decide +kernel
theorem dX4_readYear_0 : decode cX4_readYear 0 = .ok (.aload_n 0, 1) := by decide +kernel
theorem dX4_readYear_1 : decode cX4_readYear 1 = .ok (.getfield 130, 3) := by decide +kernel
theorem dX4_readYear_4 : decode cX4_readYear 4 = .ok (.ifCond .ne 10, 3) := by decide +kernel
theorem dX4_readYear_7 : decode cX4_readYear 7 = .ok (.aload_n 0, 1) := by decide +kernel
theorem dX4_readYear_8 : decode cX4_readYear 8 = .ok (.getfield 104, 3) := by decide +kernel
theorem dX4_readYear_11 : decode cX4_readYear 11 = .ok (.ifCond .eq 12, 3) := by decide +kernel
theorem dX4_readYear_14 : decode cX4_readYear 14 = .ok (.aload_n 0, 1) := by decide +kernel
theorem dX4_readYear_15 : decode cX4_readYear 15 = .ok (.getfield 18, 3) := by decide +kernel
theorem dX4_readYear_18 : decode cX4_readYear 18 = .ok (.iconst 3, 1) := by decide +kernel
theorem dX4_readYear_19 : decode cX4_readYear 19 = .ok (.invokevirtual 73, 3) := by decide +kernel
theorem dX4_readYear_22 : decode cX4_readYear 22 = .ok (.ireturn, 1) := by decide +kernel
theorem dX4_readYear_23 : decode cX4_readYear 23 = .ok (.aload_n 0, 1) := by decide +kernel
theorem dX4_readYear_24 : decode cX4_readYear 24 = .ok (.iconst 1, 1) := by decide +kernel
theorem dX4_readYear_25 : decode cX4_readYear 25 = .ok (.putfield 130, 3) := by decide +kernel
theorem dX4_readYear_28 : decode cX4_readYear 28 = .ok (.aload_n 0, 1) := by decide +kernel
theorem dX4_readYear_29 : decode cX4_readYear 29 = .ok (.getfield 18, 3) := by decide +kernel
theorem dX4_readYear_32 : decode cX4_readYear 32 = .ok (.invokevirtual 79, 3) := by decide +kernel
theorem dX4_readYear_35 : decode cX4_readYear 35 = .ok (.aload_n 0, 1) := by decide +kernel
theorem dX4_readYear_36 : decode cX4_readYear 36 = .ok (.getfield 18, 3) := by decide +kernel
theorem dX4_readYear_39 : decode cX4_readYear 39 = .ok (.iconst 0, 1) := by decide +kernel
theorem dX4_readYear_40 : decode cX4_readYear 40 = .ok (.bipush 29, 2) := by decide +kernel
theorem dX4_readYear_42 : decode cX4_readYear 42 = .ok (.invokevirtual 93, 3) := by decide +kernel
theorem dX4_readYear_45 : decode cX4_readYear 45 = .ok (.ifCond .ne 5, 3) := by decide +kernel
theorem dX4_readYear_48 : decode cX4_readYear 48 = .ok (.iconst 0, 1) := by decide +kernel
theorem dX4_readYear_49 : decode cX4_readYear 49 = .ok (.ireturn, 1) := by decide +kernel
theorem dX4_readYear_50 : decode cX4_readYear 50 = .ok (.aload_n 0, 1) := by decide +kernel
theorem dX4_readYear_51 : decode cX4_readYear 51 = .ok (.getfield 12, 3) := by decide +kernel
theorem dX4_readYear_54 : decode cX4_readYear 54 = .ok (.aload_n 0, 1) := by decide +kernel
theorem dX4_readYear_55 : decode cX4_readYear 55 = .ok (.getfield 18, 3) := by decide +kernel
theorem dX4_readYear_58 : decode cX4_readYear 58 = .ok (.getfield 97, 3) := by decide +kernel
theorem dX4_readYear_61 : decode cX4_readYear 61 = .ok (.putfield 49, 3) := by decide +kernel
theorem dX4_readYear_64 : decode cX4_readYear 64 = .ok (.iconst 1, 1) := by decide +kernel
theorem dX4_readYear_65 : decode cX4_readYear 65 = .ok (.ireturn, 1) := by decide +kernel
theorem dX4_readAngels_0 : decode cX4_readAngels 0 = .ok (.aload_n 0, 1) := by decide +kernel
theorem dX4_readAngels_1 : decode cX4_readAngels 1 = .ok (.getfield 133, 3) := by decide +kernel
theorem dX4_readAngels_4 : decode cX4_readAngels 4 = .ok (.ifCond .eq 12, 3) := by decide +kernel
theorem dX4_readAngels_7 : decode cX4_readAngels 7 = .ok (.aload_n 0, 1) := by decide +kernel
theorem dX4_readAngels_8 : decode cX4_readAngels 8 = .ok (.getfield 18, 3) := by decide +kernel
theorem dX4_readAngels_11 : decode cX4_readAngels 11 = .ok (.iconst 3, 1) := by decide +kernel
theorem dX4_readAngels_12 : decode cX4_readAngels 12 = .ok (.invokevirtual 73, 3) := by decide +kernel
theorem dX4_readAngels_15 : decode cX4_readAngels 15 = .ok (.ireturn, 1) := by decide +kernel
theorem dX4_readAngels_16 : decode cX4_readAngels 16 = .ok (.aload_n 0, 1) := by decide +kernel
theorem dX4_readAngels_17 : decode cX4_readAngels 17 = .ok (.iconst 1, 1) := by decide +kernel
theorem dX4_readAngels_18 : decode cX4_readAngels 18 = .ok (.putfield 133, 3) := by decide +kernel
theorem dX4_readAngels_21 : decode cX4_readAngels 21 = .ok (.aload_n 0, 1) := by decide +kernel
theorem dX4_readAngels_22 : decode cX4_readAngels 22 = .ok (.getfield 18, 3) := by decide +kernel
theorem dX4_readAngels_25 : decode cX4_readAngels 25 = .ok (.invokevirtual 79, 3) := by decide +kernel
theorem dX4_readAngels_28 : decode cX4_readAngels 28 = .ok (.aload_n 0, 1) := by decide +kernel
theorem dX4_readAngels_29 : decode cX4_readAngels 29 = .ok (.getfield 18, 3) := by decide +kernel
theorem dX4_readAngels_32 : decode cX4_readAngels 32 = .ok (.iconst 0, 1) := by decide +kernel
theorem dX4_readAngels_33 : decode cX4_readAngels 33 = .ok (.bipush 9, 2) := by decide +kernel
theorem dX4_readAngels_35 : decode cX4_readAngels 35 = .ok (.invokevirtual 93, 3) := by decide +kernel
theorem dX4_readAngels_38 : decode cX4_readAngels 38 = .ok (.ifCond .ne 5, 3) := by decide +kernel
theorem dX4_readAngels_41 : decode cX4_readAngels 41 = .ok (.iconst 0, 1) := by decide +kernel
theorem dX4_readAngels_42 : decode cX4_readAngels 42 = .ok (.ireturn, 1) := by decide +kernel
theorem dX4_readAngels_43 : decode cX4_readAngels 43 = .ok (.aload_n 0, 1) := by decide +kernel
theorem dX4_readAngels_44 : decode cX4_readAngels 44 = .ok (.getfield 12, 3) := by decide +kernel
theorem dX4_readAngels_47 : decode cX4_readAngels 47 = .ok (.aload_n 0, 1) := by decide +kernel
theorem dX4_readAngels_48 : decode cX4_readAngels 48 = .ok (.getfield 18, 3) := by decide +kernel
theorem dX4_readAngels_51 : decode cX4_readAngels 51 = .ok (.getfield 97, 3) := by decide +kernel
theorem dX4_readAngels_54 : decode cX4_readAngels 54 = .ok (.putfield 136, 3) := by decide +kernel
theorem dX4_readAngels_57 : decode cX4_readAngels 57 = .ok (.iconst 1, 1) := by decide +kernel
theorem dX4_readAngels_58 : decode cX4_readAngels 58 = .ok (.ireturn, 1) := by decide +kernel
theorem dX4_readMost_0 : decode cX4_readMost 0 = .ok (.aload_n 0, 1) := by decide +kernel
theorem dX4_readMost_1 : decode cX4_readMost 1 = .ok (.getfield 139, 3) := by decide +kernel
theorem dX4_readMost_4 : decode cX4_readMost 4 = .ok (.ifCond .eq 12, 3) := by decide +kernel
theorem dX4_readMost_7 : decode cX4_readMost 7 = .ok (.aload_n 0, 1) := by decide +kernel
theorem dX4_readMost_8 : decode cX4_readMost 8 = .ok (.getfield 18, 3) := by decide +kernel
theorem dX4_readMost_11 : decode cX4_readMost 11 = .ok (.iconst 3, 1) := by decide +kernel
theorem dX4_readMost_12 : decode cX4_readMost 12 = .ok (.invokevirtual 73, 3) := by decide +kernel
theorem dX4_readMost_15 : decode cX4_readMost 15 = .ok (.ireturn, 1) := by decide +kernel
theorem dX4_readMost_16 : decode cX4_readMost 16 = .ok (.aload_n 0, 1) := by decide +kernel
theorem dX4_readMost_17 : decode cX4_readMost 17 = .ok (.iconst 1, 1) := by decide +kernel
theorem dX4_readMost_18 : decode cX4_readMost 18 = .ok (.putfield 139, 3) := by decide +kernel
theorem dX4_readMost_21 : decode cX4_readMost 21 = .ok (.aload_n 0, 1) := by decide +kernel
theorem dX4_readMost_22 : decode cX4_readMost 22 = .ok (.getfield 18, 3) := by decide +kernel
theorem dX4_readMost_25 : decode cX4_readMost 25 = .ok (.invokevirtual 79, 3) := by decide +kernel
theorem dX4_readMost_28 : decode cX4_readMost 28 = .ok (.aload_n 0, 1) := by decide +kernel
theorem dX4_readMost_29 : decode cX4_readMost 29 = .ok (.getfield 18, 3) := by decide +kernel
theorem dX4_readMost_32 : decode cX4_readMost 32 = .ok (.iconst 1, 1) := by decide +kernel
theorem dX4_readMost_33 : decode cX4_readMost 33 = .ok (.sipush 400, 3) := by decide +kernel
theorem dX4_readMost_36 : decode cX4_readMost 36 = .ok (.invokevirtual 93, 3) := by decide +kernel
theorem dX4_readMost_39 : decode cX4_readMost 39 = .ok (.ifCond .ne 5, 3) := by decide +kernel
theorem dX4_readMost_42 : decode cX4_readMost 42 = .ok (.iconst 0, 1) := by decide +kernel
theorem dX4_readMost_43 : decode cX4_readMost 43 = .ok (.ireturn, 1) := by decide +kernel
theorem dX4_readMost_44 : decode cX4_readMost 44 = .ok (.aload_n 0, 1) := by decide +kernel
theorem dX4_readMost_45 : decode cX4_readMost 45 = .ok (.getfield 12, 3) := by decide +kernel
theorem dX4_readMost_48 : decode cX4_readMost 48 = .ok (.aload_n 0, 1) := by decide +kernel
theorem dX4_readMost_49 : decode cX4_readMost 49 = .ok (.getfield 18, 3) := by decide +kernel
theorem dX4_readMost_52 : decode cX4_readMost 52 = .ok (.getfield 97, 3) := by decide +kernel
theorem dX4_readMost_55 : decode cX4_readMost 55 = .ok (.putfield 142, 3) := by decide +kernel
theorem dX4_readMost_58 : decode cX4_readMost 58 = .ok (.iconst 1, 1) := by decide +kernel
theorem dX4_readMost_59 : decode cX4_readMost 59 = .ok (.ireturn, 1) := by decide +kernel
theorem dX5_init_0 : decode cX5_init 0 = .ok (.aload_n 0, 1) := by decide +kernel
theorem dX5_init_1 : decode cX5_init 1 = .ok (.invokespecial 3, 3) := by decide +kernel
theorem dX5_init_4 : decode cX5_init 4 = .ok (.aload_n 0, 1) := by decide +kernel
theorem dX5_init_5 : decode cX5_init 5 = .ok (.iconst 2, 1) := by decide +kernel
theorem dX5_init_6 : decode cX5_init 6 = .ok (.putfield 9, 3) := by decide +kernel
theorem dX5_init_9 : decode cX5_init 9 = .ok (.aload_n 0, 1) := by decide +kernel
theorem dX5_init_10 : decode cX5_init 10 = .ok (.sipush 400, 3) := by decide +kernel
theorem dX5_init_13 : decode cX5_init 13 = .ok (.putfield 15, 3) := by decide +kernel
theorem dX5_init_16 : decode cX5_init 16 = .ok (.aload_n 0, 1) := by decide +kernel
theorem dX5_init_17 : decode cX5_init 17 = .ok (.bipush 10, 2) := by decide +kernel
theorem dX5_init_19 : decode cX5_init 19 = .ok (.putfield 18, 3) := by decide +kernel
theorem dX5_init_22 : decode cX5_init 22 = .ok (.aload_n 0, 1) := by decide +kernel
theorem dX5_init_23 : decode cX5_init 23 = .ok (.iconst 5, 1) := by decide +kernel
theorem dX5_init_24 : decode cX5_init 24 = .ok (.newarray .long, 2) := by decide +kernel
theorem dX5_init_26 : decode cX5_init 26 = .ok (.putfield 21, 3) := by decide +kernel
theorem dX5_init_29 : decode cX5_init 29 = .ok (.aload_n 0, 1) := by decide +kernel
theorem dX5_init_30 : decode cX5_init 30 = .ok (.iconst 5, 1) := by decide +kernel
theorem dX5_init_31 : decode cX5_init 31 = .ok (.newarray .int, 2) := by decide +kernel
theorem dX5_init_33 : decode cX5_init 33 = .ok (.putfield 25, 3) := by decide +kernel
theorem dX5_init_36 : decode cX5_init 36 = .ok (.aload_n 0, 1) := by decide +kernel
theorem dX5_init_37 : decode cX5_init 37 = .ok (.iconst 5, 1) := by decide +kernel
theorem dX5_init_38 : decode cX5_init 38 = .ok (.newarray .int, 2) := by decide +kernel
theorem dX5_init_40 : decode cX5_init 40 = .ok (.putfield 29, 3) := by decide +kernel
theorem dX5_init_43 : decode cX5_init 43 = .ok (.aload_n 0, 1) := by decide +kernel
theorem dX5_init_44 : decode cX5_init 44 = .ok (.iconst 5, 1) := by decide +kernel
theorem dX5_init_45 : decode cX5_init 45 = .ok (.newarray .int, 2) := by decide +kernel
theorem dX5_init_47 : decode cX5_init 47 = .ok (.putfield 32, 3) := by decide +kernel
theorem dX5_init_50 : decode cX5_init 50 = .ok (.aload_n 0, 1) := by decide +kernel
theorem dX5_init_51 : decode cX5_init 51 = .ok (.bipush 20, 2) := by decide +kernel
theorem dX5_init_53 : decode cX5_init 53 = .ok (.newarray .int, 2) := by decide +kernel
theorem dX5_init_55 : decode cX5_init 55 = .ok (.putfield 35, 3) := by decide +kernel
theorem dX5_init_58 : decode cX5_init 58 = .ok (.return_, 1) := by decide +kernel
theorem dX5_addScale_0 : decode cX5_addScale 0 = .ok (.aload_n 0, 1) := by decide +kernel
theorem dX5_addScale_1 : decode cX5_addScale 1 = .ok (.getfield 38, 3) := by decide +kernel
theorem dX5_addScale_4 : decode cX5_addScale 4 = .ok (.iconst 5, 1) := by decide +kernel
theorem dX5_addScale_5 : decode cX5_addScale 5 = .ok (.if_icmp .ge 8, 3) := by decide +kernel
theorem dX5_addScale_8 : decode cX5_addScale 8 = .ok (.iload_n 3, 1) := by decide +kernel
theorem dX5_addScale_9 : decode cX5_addScale 9 = .ok (.iconst 4, 1) := by decide +kernel
theorem dX5_addScale_10 : decode cX5_addScale 10 = .ok (.if_icmp .le 4, 3) := by decide +kernel
theorem dX5_addScale_13 : decode cX5_addScale 13 = .ok (.return_, 1) := by decide +kernel
theorem dX5_addScale_14 : decode cX5_addScale 14 = .ok (.aload_n 0, 1) := by decide +kernel
theorem dX5_addScale_15 : decode cX5_addScale 15 = .ok (.getfield 21, 3) := by decide +kernel
theorem dX5_addScale_18 : decode cX5_addScale 18 = .ok (.aload_n 0, 1) := by decide +kernel
theorem dX5_addScale_19 : decode cX5_addScale 19 = .ok (.getfield 38, 3) := by decide +kernel
theorem dX5_addScale_22 : decode cX5_addScale 22 = .ok (.lload_n 1, 1) := by decide +kernel
theorem dX5_addScale_23 : decode cX5_addScale 23 = .ok (.lastore, 1) := by decide +kernel
theorem dX5_addScale_24 : decode cX5_addScale 24 = .ok (.aload_n 0, 1) := by decide +kernel
theorem dX5_addScale_25 : decode cX5_addScale 25 = .ok (.getfield 25, 3) := by decide +kernel
theorem dX5_addScale_28 : decode cX5_addScale 28 = .ok (.aload_n 0, 1) := by decide +kernel
theorem dX5_addScale_29 : decode cX5_addScale 29 = .ok (.getfield 38, 3) := by decide +kernel
theorem dX5_addScale_32 : decode cX5_addScale 32 = .ok (.iload_n 3, 1) := by decide +kernel
theorem dX5_addScale_33 : decode cX5_addScale 33 = .ok (.iastore, 1) := by decide +kernel
theorem dX5_addScale_34 : decode cX5_addScale 34 = .ok (.aload_n 0, 1) := by decide +kernel
theorem dX5_addScale_35 : decode cX5_addScale 35 = .ok (.getfield 29, 3) := by decide +kernel
theorem dX5_addScale_38 : decode cX5_addScale 38 = .ok (.aload_n 0, 1) := by decide +kernel
theorem dX5_addScale_39 : decode cX5_addScale 39 = .ok (.getfield 38, 3) := by decide +kernel
theorem dX5_addScale_42 : decode cX5_addScale 42 = .ok (.iload 4, 2) := by decide +kernel
theorem dX5_addScale_44 : decode cX5_addScale 44 = .ok (.iastore, 1) := by decide +kernel
theorem dX5_addScale_45 : decode cX5_addScale 45 = .ok (.aload_n 0, 1) := by decide +kernel
theorem dX5_addScale_46 : decode cX5_addScale 46 = .ok (.getfield 32, 3) := by decide +kernel
theorem dX5_addScale_49 : decode cX5_addScale 49 = .ok (.aload_n 0, 1) := by decide +kernel
theorem dX5_addScale_50 : decode cX5_addScale 50 = .ok (.getfield 38, 3) := by decide +kernel
theorem dX5_addScale_53 : decode cX5_addScale 53 = .ok (.aload_n 0, 1) := by decide +kernel
theorem dX5_addScale_54 : decode cX5_addScale 54 = .ok (.getfield 41, 3) := by decide +kernel
theorem dX5_addScale_57 : decode cX5_addScale 57 = .ok (.iastore, 1) := by decide +kernel
theorem dX5_addScale_58 : decode cX5_addScale 58 = .ok (.iconst 0, 1) := by decide +kernel
theorem dX5_addScale_59 : decode cX5_addScale 59 = .ok (.istore 5, 2) := by decide +kernel
theorem dX5_addScale_61 : decode cX5_addScale 61 = .ok (.iload 5, 2) := by decide +kernel
theorem dX5_addScale_63 : decode cX5_addScale 63 = .ok (.iload_n 3, 1) := by decide +kernel
theorem dX5_addScale_64 : decode cX5_addScale 64 = .ok (.if_icmp .ge 25, 3) := by decide +kernel
theorem dX5_addScale_67 : decode cX5_addScale 67 = .ok (.aload_n 0, 1) := by decide +kernel
theorem dX5_addScale_68 : decode cX5_addScale 68 = .ok (.getfield 35, 3) := by decide +kernel
theorem dX5_addScale_71 : decode cX5_addScale 71 = .ok (.aload_n 0, 1) := by decide +kernel
theorem dX5_addScale_72 : decode cX5_addScale 72 = .ok (.getfield 41, 3) := by decide +kernel
theorem dX5_addScale_75 : decode cX5_addScale 75 = .ok (.iload 5, 2) := by decide +kernel
theorem dX5_addScale_77 : decode cX5_addScale 77 = .ok (.iadd, 1) := by decide +kernel
theorem dX5_addScale_78 : decode cX5_addScale 78 = .ok (.aload_n 0, 1) := by decide +kernel
theorem dX5_addScale_79 : decode cX5_addScale 79 = .ok (.getfield 38, 3) := by decide +kernel
theorem dX5_addScale_82 : decode cX5_addScale 82 = .ok (.iastore, 1) := by decide +kernel
theorem dX5_addScale_83 : decode cX5_addScale 83 = .ok (.iinc 5 1, 3) := by decide +kernel
theorem dX5_addScale_86 : decode cX5_addScale 86 = .ok (.goto (-25), 3) := by decide +kernel
theorem dX5_addScale_89 : decode cX5_addScale 89 = .ok (.aload_n 0, 1) := by decide +kernel
theorem dX5_addScale_90 : decode cX5_addScale 90 = .ok (.dup, 1) := by decide +kernel
theorem dX5_addScale_91 : decode cX5_addScale 91 = .ok (.getfield 38, 3) := by decide +kernel
theorem dX5_addScale_94 : decode cX5_addScale 94 = .ok (.iconst 1, 1) := by decide +kernel
theorem dX5_addScale_95 : decode cX5_addScale 95 = .ok (.iadd, 1) := by decide +kernel
theorem dX5_addScale_96 : decode cX5_addScale 96 = .ok (.putfield 38, 3) := by decide +kernel
theorem dX5_addScale_99 : decode cX5_addScale 99 = .ok (.aload_n 0, 1) := by decide +kernel
theorem dX5_addScale_100 : decode cX5_addScale 100 = .ok (.dup, 1) := by decide +kernel
theorem dX5_addScale_101 : decode cX5_addScale 101 = .ok (.getfield 41, 3) := by decide +kernel
theorem dX5_addScale_104 : decode cX5_addScale 104 = .ok (.iload_n 3, 1) := by decide +kernel
theorem dX5_addScale_105 : decode cX5_addScale 105 = .ok (.iadd, 1) := by decide +kernel
theorem dX5_addScale_106 : decode cX5_addScale 106 = .ok (.putfield 41, 3) := by decide +kernel
theorem dX5_addScale_109 : decode cX5_addScale 109 = .ok (.return_, 1) := by decide +kernel
theorem dX5_scaleNamed_0 : decode cX5_scaleNamed 0 = .ok (.iconst 0, 1) := by decide +kernel
theorem dX5_scaleNamed_1 : decode cX5_scaleNamed 1 = .ok (.istore_n 3, 1) := by decide +kernel
theorem dX5_scaleNamed_2 : decode cX5_scaleNamed 2 = .ok (.iload_n 3, 1) := by decide +kernel
theorem dX5_scaleNamed_3 : decode cX5_scaleNamed 3 = .ok (.aload_n 0, 1) := by decide +kernel
theorem dX5_scaleNamed_4 : decode cX5_scaleNamed 4 = .ok (.getfield 38, 3) := by decide +kernel
theorem dX5_scaleNamed_7 : decode cX5_scaleNamed 7 = .ok (.if_icmp .ge 22, 3) := by decide +kernel
theorem dX5_scaleNamed_10 : decode cX5_scaleNamed 10 = .ok (.aload_n 0, 1) := by decide +kernel
theorem dX5_scaleNamed_11 : decode cX5_scaleNamed 11 = .ok (.getfield 21, 3) := by decide +kernel
theorem dX5_scaleNamed_14 : decode cX5_scaleNamed 14 = .ok (.iload_n 3, 1) := by decide +kernel
theorem dX5_scaleNamed_15 : decode cX5_scaleNamed 15 = .ok (.laload, 1) := by decide +kernel
theorem dX5_scaleNamed_16 : decode cX5_scaleNamed 16 = .ok (.lload_n 1, 1) := by decide +kernel
theorem dX5_scaleNamed_17 : decode cX5_scaleNamed 17 = .ok (.lcmp, 1) := by decide +kernel
theorem dX5_scaleNamed_18 : decode cX5_scaleNamed 18 = .ok (.ifCond .ne 5, 3) := by decide +kernel
theorem dX5_scaleNamed_21 : decode cX5_scaleNamed 21 = .ok (.iload_n 3, 1) := by decide +kernel
theorem dX5_scaleNamed_22 : decode cX5_scaleNamed 22 = .ok (.ireturn, 1) := by decide +kernel
theorem dX5_scaleNamed_23 : decode cX5_scaleNamed 23 = .ok (.iinc 3 1, 3) := by decide +kernel
theorem dX5_scaleNamed_26 : decode cX5_scaleNamed 26 = .ok (.goto (-24), 3) := by decide +kernel
theorem dX5_scaleNamed_29 : decode cX5_scaleNamed 29 = .ok (.iconst (-1), 1) := by decide +kernel
theorem dX5_scaleNamed_30 : decode cX5_scaleNamed 30 = .ok (.ireturn, 1) := by decide +kernel
theorem dX5_numberOf_0 : decode cX5_numberOf 0 = .ok (.iload_n 1, 1) := by decide +kernel
theorem dX5_numberOf_1 : decode cX5_numberOf 1 = .ok (.aload_n 0, 1) := by decide +kernel
theorem dX5_numberOf_2 : decode cX5_numberOf 2 = .ok (.getfield 32, 3) := by decide +kernel
theorem dX5_numberOf_5 : decode cX5_numberOf 5 = .ok (.aload_n 0, 1) := by decide +kernel
theorem dX5_numberOf_6 : decode cX5_numberOf 6 = .ok (.getfield 35, 3) := by decide +kernel
theorem dX5_numberOf_9 : decode cX5_numberOf 9 = .ok (.iload_n 1, 1) := by decide +kernel
theorem dX5_numberOf_10 : decode cX5_numberOf 10 = .ok (.iaload, 1) := by decide +kernel
theorem dX5_numberOf_11 : decode cX5_numberOf 11 = .ok (.iaload, 1) := by decide +kernel
theorem dX5_numberOf_12 : decode cX5_numberOf 12 = .ok (.isub, 1) := by decide +kernel
theorem dX5_numberOf_13 : decode cX5_numberOf 13 = .ok (.ireturn, 1) := by decide +kernel
theorem dX5_holdsOf_0 : decode cX5_holdsOf 0 = .ok (.aload_n 0, 1) := by decide +kernel
theorem dX5_holdsOf_1 : decode cX5_holdsOf 1 = .ok (.getfield 29, 3) := by decide +kernel
theorem dX5_holdsOf_4 : decode cX5_holdsOf 4 = .ok (.aload_n 0, 1) := by decide +kernel
theorem dX5_holdsOf_5 : decode cX5_holdsOf 5 = .ok (.getfield 35, 3) := by decide +kernel
theorem dX5_holdsOf_8 : decode cX5_holdsOf 8 = .ok (.iload_n 1, 1) := by decide +kernel
theorem dX5_holdsOf_9 : decode cX5_holdsOf 9 = .ok (.iaload, 1) := by decide +kernel
theorem dX5_holdsOf_10 : decode cX5_holdsOf 10 = .ok (.iaload, 1) := by decide +kernel
theorem dX5_holdsOf_11 : decode cX5_holdsOf 11 = .ok (.ireturn, 1) := by decide +kernel
theorem dX5_caskOf_0 : decode cX5_caskOf 0 = .ok (.iload_n 1, 1) := by decide +kernel
theorem dX5_caskOf_1 : decode cX5_caskOf 1 = .ok (.ifCond .lt 25, 3) := by decide +kernel
theorem dX5_caskOf_4 : decode cX5_caskOf 4 = .ok (.iload_n 1, 1) := by decide +kernel
theorem dX5_caskOf_5 : decode cX5_caskOf 5 = .ok (.aload_n 0, 1) := by decide +kernel
theorem dX5_caskOf_6 : decode cX5_caskOf 6 = .ok (.getfield 38, 3) := by decide +kernel
theorem dX5_caskOf_9 : decode cX5_caskOf 9 = .ok (.if_icmp .ge 17, 3) := by decide +kernel
theorem dX5_caskOf_12 : decode cX5_caskOf 12 = .ok (.iload_n 2, 1) := by decide +kernel
theorem dX5_caskOf_13 : decode cX5_caskOf 13 = .ok (.ifCond .lt 13, 3) := by decide +kernel
theorem dX5_caskOf_16 : decode cX5_caskOf 16 = .ok (.iload_n 2, 1) := by decide +kernel
theorem dX5_caskOf_17 : decode cX5_caskOf 17 = .ok (.aload_n 0, 1) := by decide +kernel
theorem dX5_caskOf_18 : decode cX5_caskOf 18 = .ok (.getfield 25, 3) := by decide +kernel
theorem dX5_caskOf_21 : decode cX5_caskOf 21 = .ok (.iload_n 1, 1) := by decide +kernel
theorem dX5_caskOf_22 : decode cX5_caskOf 22 = .ok (.iaload, 1) := by decide +kernel
theorem dX5_caskOf_23 : decode cX5_caskOf 23 = .ok (.if_icmp .lt 5, 3) := by decide +kernel
theorem dX5_caskOf_26 : decode cX5_caskOf 26 = .ok (.iconst (-1), 1) := by decide +kernel
theorem dX5_caskOf_27 : decode cX5_caskOf 27 = .ok (.ireturn, 1) := by decide +kernel
theorem dX5_caskOf_28 : decode cX5_caskOf 28 = .ok (.aload_n 0, 1) := by decide +kernel
theorem dX5_caskOf_29 : decode cX5_caskOf 29 = .ok (.getfield 32, 3) := by decide +kernel
theorem dX5_caskOf_32 : decode cX5_caskOf 32 = .ok (.iload_n 1, 1) := by decide +kernel
theorem dX5_caskOf_33 : decode cX5_caskOf 33 = .ok (.iaload, 1) := by decide +kernel
theorem dX5_caskOf_34 : decode cX5_caskOf 34 = .ok (.iload_n 2, 1) := by decide +kernel
theorem dX5_caskOf_35 : decode cX5_caskOf 35 = .ok (.iadd, 1) := by decide +kernel
theorem dX5_caskOf_36 : decode cX5_caskOf 36 = .ok (.ireturn, 1) := by decide +kernel
theorem dX6_init_0 : decode cX6_init 0 = .ok (.aload_n 0, 1) := by decide +kernel
theorem dX6_init_1 : decode cX6_init 1 = .ok (.invokespecial 3, 3) := by decide +kernel
theorem dX6_init_4 : decode cX6_init 4 = .ok (.aload_n 0, 1) := by decide +kernel
theorem dX6_init_5 : decode cX6_init 5 = .ok (.iconst 0, 1) := by decide +kernel
theorem dX6_init_6 : decode cX6_init 6 = .ok (.newarray .int, 2) := by decide +kernel
theorem dX6_init_8 : decode cX6_init 8 = .ok (.putfield 9, 3) := by decide +kernel
theorem dX6_init_11 : decode cX6_init 11 = .ok (.return_, 1) := by decide +kernel
theorem dX6_open_0 : decode cX6_open 0 = .ok (.aload_n 0, 1) := by decide +kernel
theorem dX6_open_1 : decode cX6_open 1 = .ok (.aload_n 1, 1) := by decide +kernel
theorem dX6_open_2 : decode cX6_open 2 = .ok (.putfield 9, 3) := by decide +kernel
theorem dX6_open_5 : decode cX6_open 5 = .ok (.aload_n 0, 1) := by decide +kernel
theorem dX6_open_6 : decode cX6_open 6 = .ok (.iload_n 2, 1) := by decide +kernel
theorem dX6_open_7 : decode cX6_open 7 = .ok (.aload_n 1, 1) := by decide +kernel
theorem dX6_open_8 : decode cX6_open 8 = .ok (.arraylength, 1) := by decide +kernel
theorem dX6_open_9 : decode cX6_open 9 = .ok (.invokestatic 15, 3) := by decide +kernel
theorem dX6_open_12 : decode cX6_open 12 = .ok (.putfield 21, 3) := by decide +kernel
theorem dX6_open_15 : decode cX6_open 15 = .ok (.aload_n 0, 1) := by decide +kernel
theorem dX6_open_16 : decode cX6_open 16 = .ok (.iload_n 3, 1) := by decide +kernel
theorem dX6_open_17 : decode cX6_open 17 = .ok (.putfield 25, 3) := by decide +kernel
theorem dX6_open_20 : decode cX6_open 20 = .ok (.aload_n 0, 1) := by decide +kernel
theorem dX6_open_21 : decode cX6_open 21 = .ok (.iconst 0, 1) := by decide +kernel
theorem dX6_open_22 : decode cX6_open 22 = .ok (.putfield 28, 3) := by decide +kernel
theorem dX6_open_25 : decode cX6_open 25 = .ok (.aload_n 0, 1) := by decide +kernel
theorem dX6_open_26 : decode cX6_open 26 = .ok (.iconst 0, 1) := by decide +kernel
theorem dX6_open_27 : decode cX6_open 27 = .ok (.putfield 31, 3) := by decide +kernel
theorem dX6_open_30 : decode cX6_open 30 = .ok (.aload_n 0, 1) := by decide +kernel
theorem dX6_open_31 : decode cX6_open 31 = .ok (.iconst 0, 1) := by decide +kernel
theorem dX6_open_32 : decode cX6_open 32 = .ok (.putfield 34, 3) := by decide +kernel
theorem dX6_open_35 : decode cX6_open 35 = .ok (.aload_n 0, 1) := by decide +kernel
theorem dX6_open_36 : decode cX6_open 36 = .ok (.invokevirtual 37, 3) := by decide +kernel
theorem dX6_open_39 : decode cX6_open 39 = .ok (.return_, 1) := by decide +kernel
theorem dX6_next_0 : decode cX6_next 0 = .ok (.aload_n 0, 1) := by decide +kernel
theorem dX6_next_1 : decode cX6_next 1 = .ok (.getfield 28, 3) := by decide +kernel
theorem dX6_next_4 : decode cX6_next 4 = .ok (.aload_n 0, 1) := by decide +kernel
theorem dX6_next_5 : decode cX6_next 5 = .ok (.getfield 21, 3) := by decide +kernel
theorem dX6_next_8 : decode cX6_next 8 = .ok (.if_icmp .ge 44, 3) := by decide +kernel
theorem dX6_next_11 : decode cX6_next 11 = .ok (.aload_n 0, 1) := by decide +kernel
theorem dX6_next_12 : decode cX6_next 12 = .ok (.getfield 9, 3) := by decide +kernel
theorem dX6_next_15 : decode cX6_next 15 = .ok (.aload_n 0, 1) := by decide +kernel
theorem dX6_next_16 : decode cX6_next 16 = .ok (.getfield 28, 3) := by decide +kernel
theorem dX6_next_19 : decode cX6_next 19 = .ok (.iaload, 1) := by decide +kernel
theorem dX6_next_20 : decode cX6_next 20 = .ok (.bipush 32, 2) := by decide +kernel
theorem dX6_next_22 : decode cX6_next 22 = .ok (.if_icmp .eq 17, 3) := by decide +kernel
theorem dX6_next_25 : decode cX6_next 25 = .ok (.aload_n 0, 1) := by decide +kernel
theorem dX6_next_26 : decode cX6_next 26 = .ok (.getfield 9, 3) := by decide +kernel
theorem dX6_next_29 : decode cX6_next 29 = .ok (.aload_n 0, 1) := by decide +kernel
theorem dX6_next_30 : decode cX6_next 30 = .ok (.getfield 28, 3) := by decide +kernel
theorem dX6_next_33 : decode cX6_next 33 = .ok (.iaload, 1) := by decide +kernel
theorem dX6_next_34 : decode cX6_next 34 = .ok (.bipush 10, 2) := by decide +kernel
theorem dX6_next_36 : decode cX6_next 36 = .ok (.if_icmp .ne 16, 3) := by decide +kernel
theorem dX6_next_39 : decode cX6_next 39 = .ok (.aload_n 0, 1) := by decide +kernel
theorem dX6_next_40 : decode cX6_next 40 = .ok (.dup, 1) := by decide +kernel
theorem dX6_next_41 : decode cX6_next 41 = .ok (.getfield 28, 3) := by decide +kernel
theorem dX6_next_44 : decode cX6_next 44 = .ok (.iconst 1, 1) := by decide +kernel
theorem dX6_next_45 : decode cX6_next 45 = .ok (.iadd, 1) := by decide +kernel
theorem dX6_next_46 : decode cX6_next 46 = .ok (.putfield 28, 3) := by decide +kernel
theorem dX6_next_49 : decode cX6_next 49 = .ok (.goto (-49), 3) := by decide +kernel
theorem dX6_next_52 : decode cX6_next 52 = .ok (.aload_n 0, 1) := by decide +kernel
theorem dX6_next_53 : decode cX6_next 53 = .ok (.iconst (-1), 1) := by decide +kernel
theorem dX6_next_54 : decode cX6_next 54 = .ok (.putfield 40, 3) := by decide +kernel
theorem dX6_next_57 : decode cX6_next 57 = .ok (.aload_n 0, 1) := by decide +kernel
theorem dX6_next_58 : decode cX6_next 58 = .ok (.getfield 21, 3) := by decide +kernel
theorem dX6_next_61 : decode cX6_next 61 = .ok (.aload_n 0, 1) := by decide +kernel
theorem dX6_next_62 : decode cX6_next 62 = .ok (.getfield 25, 3) := by decide +kernel
theorem dX6_next_65 : decode cX6_next 65 = .ok (.if_icmp .le 28, 3) := by decide +kernel
theorem dX6_next_68 : decode cX6_next 68 = .ok (.aload_n 0, 1) := by decide +kernel
theorem dX6_next_69 : decode cX6_next 69 = .ok (.getfield 28, 3) := by decide +kernel
theorem dX6_next_72 : decode cX6_next 72 = .ok (.aload_n 0, 1) := by decide +kernel
theorem dX6_next_73 : decode cX6_next 73 = .ok (.getfield 25, 3) := by decide +kernel
theorem dX6_next_76 : decode cX6_next 76 = .ok (.if_icmp .lt 17, 3) := by decide +kernel
theorem dX6_next_79 : decode cX6_next 79 = .ok (.aload_n 0, 1) := by decide +kernel
theorem dX6_next_80 : decode cX6_next 80 = .ok (.aload_n 0, 1) := by decide +kernel
theorem dX6_next_81 : decode cX6_next 81 = .ok (.getfield 25, 3) := by decide +kernel
theorem dX6_next_84 : decode cX6_next 84 = .ok (.putfield 43, 3) := by decide +kernel
theorem dX6_next_87 : decode cX6_next 87 = .ok (.aload_n 0, 1) := by decide +kernel
theorem dX6_next_88 : decode cX6_next 88 = .ok (.iconst 1, 1) := by decide +kernel
theorem dX6_next_89 : decode cX6_next 89 = .ok (.putfield 46, 3) := by decide +kernel
theorem dX6_next_92 : decode cX6_next 92 = .ok (.return_, 1) := by decide +kernel
theorem dX6_next_93 : decode cX6_next 93 = .ok (.aload_n 0, 1) := by decide +kernel
theorem dX6_next_94 : decode cX6_next 94 = .ok (.aload_n 0, 1) := by decide +kernel
theorem dX6_next_95 : decode cX6_next 95 = .ok (.getfield 28, 3) := by decide +kernel
theorem dX6_next_98 : decode cX6_next 98 = .ok (.putfield 43, 3) := by decide +kernel
theorem dX6_next_101 : decode cX6_next 101 = .ok (.aload_n 0, 1) := by decide +kernel
theorem dX6_next_102 : decode cX6_next 102 = .ok (.invokevirtual 49, 3) := by decide +kernel
theorem dX6_next_105 : decode cX6_next 105 = .ok (.aload_n 0, 1) := by decide +kernel
theorem dX6_next_106 : decode cX6_next 106 = .ok (.getfield 28, 3) := by decide +kernel
theorem dX6_next_109 : decode cX6_next 109 = .ok (.aload_n 0, 1) := by decide +kernel
theorem dX6_next_110 : decode cX6_next 110 = .ok (.getfield 43, 3) := by decide +kernel
theorem dX6_next_113 : decode cX6_next 113 = .ok (.if_icmp .ne 10, 3) := by decide +kernel
theorem dX6_next_116 : decode cX6_next 116 = .ok (.aload_n 0, 1) := by decide +kernel
theorem dX6_next_117 : decode cX6_next 117 = .ok (.invokevirtual 52, 3) := by decide +kernel
theorem dX6_next_120 : decode cX6_next 120 = .ok (.goto 22, 3) := by decide +kernel
theorem dX6_next_123 : decode cX6_next 123 = .ok (.aload_n 0, 1) := by decide +kernel
theorem dX6_next_124 : decode cX6_next 124 = .ok (.getfield 46, 3) := by decide +kernel
theorem dX6_next_127 : decode cX6_next 127 = .ok (.iconst 2, 1) := by decide +kernel
theorem dX6_next_128 : decode cX6_next 128 = .ok (.if_icmp .ne 14, 3) := by decide +kernel
theorem dX6_next_131 : decode cX6_next 131 = .ok (.aload_n 0, 1) := by decide +kernel
theorem dX6_next_132 : decode cX6_next 132 = .ok (.aload_n 0, 1) := by decide +kernel
theorem dX6_next_133 : decode cX6_next 133 = .ok (.getfield 55, 3) := by decide +kernel
theorem dX6_next_136 : decode cX6_next 136 = .ok (.invokestatic 59, 3) := by decide +kernel
theorem dX6_next_139 : decode cX6_next 139 = .ok (.putfield 40, 3) := by decide +kernel
theorem dX6_next_142 : decode cX6_next 142 = .ok (.return_, 1) := by decide +kernel
theorem dX6_readRun_0 : decode cX6_readRun 0 = .ok (.iconst 0, 1) := by decide +kernel
theorem dX6_readRun_1 : decode cX6_readRun 1 = .ok (.istore_n 1, 1) := by decide +kernel
theorem dX6_readRun_2 : decode cX6_readRun 2 = .ok (.iconst 0, 1) := by decide +kernel
theorem dX6_readRun_3 : decode cX6_readRun 3 = .ok (.istore_n 2, 1) := by decide +kernel
theorem dX6_readRun_4 : decode cX6_readRun 4 = .ok (.aload_n 0, 1) := by decide +kernel
theorem dX6_readRun_5 : decode cX6_readRun 5 = .ok (.iconst 0, 1) := by decide +kernel
theorem dX6_readRun_6 : decode cX6_readRun 6 = .ok (.putfield 63, 3) := by decide +kernel
theorem dX6_readRun_9 : decode cX6_readRun 9 = .ok (.aload_n 0, 1) := by decide +kernel
theorem dX6_readRun_10 : decode cX6_readRun 10 = .ok (.lconst 0, 1) := by decide +kernel
theorem dX6_readRun_11 : decode cX6_readRun 11 = .ok (.putfield 55, 3) := by decide +kernel
theorem dX6_readRun_14 : decode cX6_readRun 14 = .ok (.aload_n 0, 1) := by decide +kernel
theorem dX6_readRun_15 : decode cX6_readRun 15 = .ok (.getfield 28, 3) := by decide +kernel
theorem dX6_readRun_18 : decode cX6_readRun 18 = .ok (.aload_n 0, 1) := by decide +kernel
theorem dX6_readRun_19 : decode cX6_readRun 19 = .ok (.getfield 21, 3) := by decide +kernel
theorem dX6_readRun_22 : decode cX6_readRun 22 = .ok (.if_icmp .ge 96, 3) := by decide +kernel
theorem dX6_readRun_25 : decode cX6_readRun 25 = .ok (.aload_n 0, 1) := by decide +kernel
theorem dX6_readRun_26 : decode cX6_readRun 26 = .ok (.getfield 9, 3) := by decide +kernel
theorem dX6_readRun_29 : decode cX6_readRun 29 = .ok (.aload_n 0, 1) := by decide +kernel
theorem dX6_readRun_30 : decode cX6_readRun 30 = .ok (.getfield 28, 3) := by decide +kernel
theorem dX6_readRun_33 : decode cX6_readRun 33 = .ok (.iaload, 1) := by decide +kernel
theorem dX6_readRun_34 : decode cX6_readRun 34 = .ok (.istore_n 3, 1) := by decide +kernel
theorem dX6_readRun_35 : decode cX6_readRun 35 = .ok (.iload_n 3, 1) := by decide +kernel
theorem dX6_readRun_36 : decode cX6_readRun 36 = .ok (.bipush 97, 2) := by decide +kernel
theorem dX6_readRun_38 : decode cX6_readRun 38 = .ok (.if_icmp .lt 36, 3) := by decide +kernel
theorem dX6_readRun_41 : decode cX6_readRun 41 = .ok (.iload_n 3, 1) := by decide +kernel
theorem dX6_readRun_42 : decode cX6_readRun 42 = .ok (.bipush 122, 2) := by decide +kernel
theorem dX6_readRun_44 : decode cX6_readRun 44 = .ok (.if_icmp .gt 30, 3) := by decide +kernel
theorem dX6_readRun_47 : decode cX6_readRun 47 = .ok (.iinc 1 1, 3) := by decide +kernel
theorem dX6_readRun_50 : decode cX6_readRun 50 = .ok (.aload_n 0, 1) := by decide +kernel
theorem dX6_readRun_51 : decode cX6_readRun 51 = .ok (.aload_n 0, 1) := by decide +kernel
theorem dX6_readRun_52 : decode cX6_readRun 52 = .ok (.getfield 55, 3) := by decide +kernel
theorem dX6_readRun_55 : decode cX6_readRun 55 = .ok (.ldc2_w 66, 3) := by decide +kernel
theorem dX6_readRun_58 : decode cX6_readRun 58 = .ok (.lmul, 1) := by decide +kernel
theorem dX6_readRun_59 : decode cX6_readRun 59 = .ok (.iload_n 3, 1) := by decide +kernel
theorem dX6_readRun_60 : decode cX6_readRun 60 = .ok (.i2l, 1) := by decide +kernel
theorem dX6_readRun_61 : decode cX6_readRun 61 = .ok (.ladd, 1) := by decide +kernel
theorem dX6_readRun_62 : decode cX6_readRun 62 = .ok (.ldc2_w 68, 3) := by decide +kernel
theorem dX6_readRun_65 : decode cX6_readRun 65 = .ok (.lsub, 1) := by decide +kernel
theorem dX6_readRun_66 : decode cX6_readRun 66 = .ok (.lconst 1, 1) := by decide +kernel
theorem dX6_readRun_67 : decode cX6_readRun 67 = .ok (.ladd, 1) := by decide +kernel
theorem dX6_readRun_68 : decode cX6_readRun 68 = .ok (.putfield 55, 3) := by decide +kernel
theorem dX6_readRun_71 : decode cX6_readRun 71 = .ok (.goto 34, 3) := by decide +kernel
theorem dX6_readRun_74 : decode cX6_readRun 74 = .ok (.iload_n 3, 1) := by decide +kernel
theorem dX6_readRun_75 : decode cX6_readRun 75 = .ok (.bipush 48, 2) := by decide +kernel
theorem dX6_readRun_77 : decode cX6_readRun 77 = .ok (.if_icmp .lt 41, 3) := by decide +kernel
theorem dX6_readRun_80 : decode cX6_readRun 80 = .ok (.iload_n 3, 1) := by decide +kernel
theorem dX6_readRun_81 : decode cX6_readRun 81 = .ok (.bipush 57, 2) := by decide +kernel
theorem dX6_readRun_83 : decode cX6_readRun 83 = .ok (.if_icmp .gt 35, 3) := by decide +kernel
theorem dX6_readRun_86 : decode cX6_readRun 86 = .ok (.iinc 2 1, 3) := by decide +kernel
theorem dX6_readRun_89 : decode cX6_readRun 89 = .ok (.aload_n 0, 1) := by decide +kernel
theorem dX6_readRun_90 : decode cX6_readRun 90 = .ok (.aload_n 0, 1) := by decide +kernel
theorem dX6_readRun_91 : decode cX6_readRun 91 = .ok (.getfield 63, 3) := by decide +kernel
theorem dX6_readRun_94 : decode cX6_readRun 94 = .ok (.bipush 10, 2) := by decide +kernel
theorem dX6_readRun_96 : decode cX6_readRun 96 = .ok (.imul, 1) := by decide +kernel
theorem dX6_readRun_97 : decode cX6_readRun 97 = .ok (.iload_n 3, 1) := by decide +kernel
theorem dX6_readRun_98 : decode cX6_readRun 98 = .ok (.iadd, 1) := by decide +kernel
theorem dX6_readRun_99 : decode cX6_readRun 99 = .ok (.bipush 48, 2) := by decide +kernel
theorem dX6_readRun_101 : decode cX6_readRun 101 = .ok (.isub, 1) := by decide +kernel
theorem dX6_readRun_102 : decode cX6_readRun 102 = .ok (.putfield 63, 3) := by decide +kernel
theorem dX6_readRun_105 : decode cX6_readRun 105 = .ok (.aload_n 0, 1) := by decide +kernel
theorem dX6_readRun_106 : decode cX6_readRun 106 = .ok (.dup, 1) := by decide +kernel
theorem dX6_readRun_107 : decode cX6_readRun 107 = .ok (.getfield 28, 3) := by decide +kernel
theorem dX6_readRun_110 : decode cX6_readRun 110 = .ok (.iconst 1, 1) := by decide +kernel
theorem dX6_readRun_111 : decode cX6_readRun 111 = .ok (.iadd, 1) := by decide +kernel
theorem dX6_readRun_112 : decode cX6_readRun 112 = .ok (.putfield 28, 3) := by decide +kernel
theorem dX6_readRun_115 : decode cX6_readRun 115 = .ok (.goto (-101), 3) := by decide +kernel
theorem dX6_readRun_118 : decode cX6_readRun 118 = .ok (.aload_n 0, 1) := by decide +kernel
theorem dX6_readRun_119 : decode cX6_readRun 119 = .ok (.iconst 1, 1) := by decide +kernel
theorem dX6_readRun_120 : decode cX6_readRun 120 = .ok (.putfield 46, 3) := by decide +kernel
theorem dX6_readRun_123 : decode cX6_readRun 123 = .ok (.iload_n 2, 1) := by decide +kernel
theorem dX6_readRun_124 : decode cX6_readRun 124 = .ok (.ifCond .ne 17, 3) := by decide +kernel
theorem dX6_readRun_127 : decode cX6_readRun 127 = .ok (.iload_n 1, 1) := by decide +kernel
theorem dX6_readRun_128 : decode cX6_readRun 128 = .ok (.bipush 7, 2) := by decide +kernel
theorem dX6_readRun_130 : decode cX6_readRun 130 = .ok (.if_icmp .gt 11, 3) := by decide +kernel
theorem dX6_readRun_133 : decode cX6_readRun 133 = .ok (.aload_n 0, 1) := by decide +kernel
theorem dX6_readRun_134 : decode cX6_readRun 134 = .ok (.iconst 2, 1) := by decide +kernel
theorem dX6_readRun_135 : decode cX6_readRun 135 = .ok (.putfield 46, 3) := by decide +kernel
theorem dX6_readRun_138 : decode cX6_readRun 138 = .ok (.goto 17, 3) := by decide +kernel
theorem dX6_readRun_141 : decode cX6_readRun 141 = .ok (.iload_n 1, 1) := by decide +kernel
theorem dX6_readRun_142 : decode cX6_readRun 142 = .ok (.ifCond .ne 13, 3) := by decide +kernel
theorem dX6_readRun_145 : decode cX6_readRun 145 = .ok (.iload_n 2, 1) := by decide +kernel
theorem dX6_readRun_146 : decode cX6_readRun 146 = .ok (.iconst 3, 1) := by decide +kernel
theorem dX6_readRun_147 : decode cX6_readRun 147 = .ok (.if_icmp .gt 8, 3) := by decide +kernel
theorem dX6_readRun_150 : decode cX6_readRun 150 = .ok (.aload_n 0, 1) := by decide +kernel
theorem dX6_readRun_151 : decode cX6_readRun 151 = .ok (.iconst 3, 1) := by decide +kernel
theorem dX6_readRun_152 : decode cX6_readRun 152 = .ok (.putfield 46, 3) := by decide +kernel
theorem dX6_readRun_155 : decode cX6_readRun 155 = .ok (.return_, 1) := by decide +kernel
theorem dX6_readSign_0 : decode cX6_readSign 0 = .ok (.aload_n 0, 1) := by decide +kernel
theorem dX6_readSign_1 : decode cX6_readSign 1 = .ok (.getfield 28, 3) := by decide +kernel
theorem dX6_readSign_4 : decode cX6_readSign 4 = .ok (.aload_n 0, 1) := by decide +kernel
theorem dX6_readSign_5 : decode cX6_readSign 5 = .ok (.getfield 21, 3) := by decide +kernel
theorem dX6_readSign_8 : decode cX6_readSign 8 = .ok (.if_icmp .lt 9, 3) := by decide +kernel
theorem dX6_readSign_11 : decode cX6_readSign 11 = .ok (.aload_n 0, 1) := by decide +kernel
theorem dX6_readSign_12 : decode cX6_readSign 12 = .ok (.iconst 0, 1) := by decide +kernel
theorem dX6_readSign_13 : decode cX6_readSign 13 = .ok (.putfield 46, 3) := by decide +kernel
theorem dX6_readSign_16 : decode cX6_readSign 16 = .ok (.return_, 1) := by decide +kernel
theorem dX6_readSign_17 : decode cX6_readSign 17 = .ok (.aload_n 0, 1) := by decide +kernel
theorem dX6_readSign_18 : decode cX6_readSign 18 = .ok (.getfield 9, 3) := by decide +kernel
theorem dX6_readSign_21 : decode cX6_readSign 21 = .ok (.aload_n 0, 1) := by decide +kernel
theorem dX6_readSign_22 : decode cX6_readSign 22 = .ok (.getfield 28, 3) := by decide +kernel
theorem dX6_readSign_25 : decode cX6_readSign 25 = .ok (.iaload, 1) := by decide +kernel
theorem dX6_readSign_26 : decode cX6_readSign 26 = .ok (.istore_n 1, 1) := by decide +kernel
theorem dX6_readSign_27 : decode cX6_readSign 27 = .ok (.iload_n 1, 1) := by decide +kernel
theorem dX6_readSign_28 : decode cX6_readSign 28 = .ok (.bipush 59, 2) := by decide +kernel
theorem dX6_readSign_30 : decode cX6_readSign 30 = .ok (.if_icmp .eq 33, 3) := by decide +kernel
theorem dX6_readSign_33 : decode cX6_readSign 33 = .ok (.iload_n 1, 1) := by decide +kernel
theorem dX6_readSign_34 : decode cX6_readSign 34 = .ok (.bipush 60, 2) := by decide +kernel
theorem dX6_readSign_36 : decode cX6_readSign 36 = .ok (.if_icmp .eq 27, 3) := by decide +kernel
theorem dX6_readSign_39 : decode cX6_readSign 39 = .ok (.iload_n 1, 1) := by decide +kernel
theorem dX6_readSign_40 : decode cX6_readSign 40 = .ok (.bipush 61, 2) := by decide +kernel
theorem dX6_readSign_42 : decode cX6_readSign 42 = .ok (.if_icmp .eq 21, 3) := by decide +kernel
theorem dX6_readSign_45 : decode cX6_readSign 45 = .ok (.iload_n 1, 1) := by decide +kernel
theorem dX6_readSign_46 : decode cX6_readSign 46 = .ok (.bipush 62, 2) := by decide +kernel
theorem dX6_readSign_48 : decode cX6_readSign 48 = .ok (.if_icmp .eq 15, 3) := by decide +kernel
theorem dX6_readSign_51 : decode cX6_readSign 51 = .ok (.iload_n 1, 1) := by decide +kernel
theorem dX6_readSign_52 : decode cX6_readSign 52 = .ok (.bipush 40, 2) := by decide +kernel
theorem dX6_readSign_54 : decode cX6_readSign 54 = .ok (.if_icmp .eq 9, 3) := by decide +kernel
theorem dX6_readSign_57 : decode cX6_readSign 57 = .ok (.iload_n 1, 1) := by decide +kernel
theorem dX6_readSign_58 : decode cX6_readSign 58 = .ok (.bipush 41, 2) := by decide +kernel
theorem dX6_readSign_60 : decode cX6_readSign 60 = .ok (.if_icmp .ne 7, 3) := by decide +kernel
theorem dX6_readSign_63 : decode cX6_readSign 63 = .ok (.iconst 1, 1) := by decide +kernel
theorem dX6_readSign_64 : decode cX6_readSign 64 = .ok (.goto 4, 3) := by decide +kernel
theorem dX6_readSign_67 : decode cX6_readSign 67 = .ok (.iconst 0, 1) := by decide +kernel
theorem dX6_readSign_68 : decode cX6_readSign 68 = .ok (.istore_n 2, 1) := by decide +kernel
theorem dX6_readSign_69 : decode cX6_readSign 69 = .ok (.aload_n 0, 1) := by decide +kernel
theorem dX6_readSign_70 : decode cX6_readSign 70 = .ok (.iload_n 2, 1) := by decide +kernel
theorem dX6_readSign_71 : decode cX6_readSign 71 = .ok (.ifCond .eq 7, 3) := by decide +kernel
theorem dX6_readSign_74 : decode cX6_readSign 74 = .ok (.iload_n 1, 1) := by decide +kernel
theorem dX6_readSign_75 : decode cX6_readSign 75 = .ok (.goto 4, 3) := by decide +kernel
theorem dX6_readSign_78 : decode cX6_readSign 78 = .ok (.iconst 1, 1) := by decide +kernel
theorem dX6_readSign_79 : decode cX6_readSign 79 = .ok (.putfield 46, 3) := by decide +kernel
theorem dX6_readSign_82 : decode cX6_readSign 82 = .ok (.aload_n 0, 1) := by decide +kernel
theorem dX6_readSign_83 : decode cX6_readSign 83 = .ok (.dup, 1) := by decide +kernel
theorem dX6_readSign_84 : decode cX6_readSign 84 = .ok (.getfield 28, 3) := by decide +kernel
theorem dX6_readSign_87 : decode cX6_readSign 87 = .ok (.iconst 1, 1) := by decide +kernel
theorem dX6_readSign_88 : decode cX6_readSign 88 = .ok (.iadd, 1) := by decide +kernel
theorem dX6_readSign_89 : decode cX6_readSign 89 = .ok (.putfield 28, 3) := by decide +kernel
theorem dX6_readSign_92 : decode cX6_readSign 92 = .ok (.return_, 1) := by decide +kernel
theorem dX6_wordOf_0 : decode cX6_wordOf 0 = .ok (.iconst 0, 1) := by decide +kernel
theorem dX6_wordOf_1 : decode cX6_wordOf 1 = .ok (.istore_n 2, 1) := by decide +kernel
theorem dX6_wordOf_2 : decode cX6_wordOf 2 = .ok (.lconst 0, 1) := by decide +kernel
theorem dX6_wordOf_3 : decode cX6_wordOf 3 = .ok (.lstore_n 3, 1) := by decide +kernel
theorem dX6_wordOf_4 : decode cX6_wordOf 4 = .ok (.iconst 0, 1) := by decide +kernel
theorem dX6_wordOf_5 : decode cX6_wordOf 5 = .ok (.istore 5, 2) := by decide +kernel
theorem dX6_wordOf_7 : decode cX6_wordOf 7 = .ok (.iload 5, 2) := by decide +kernel
theorem dX6_wordOf_9 : decode cX6_wordOf 9 = .ok (.ldc 70, 2) := by decide +kernel
theorem dX6_wordOf_11 : decode cX6_wordOf 11 = .ok (.invokevirtual 72, 3) := by decide +kernel
theorem dX6_wordOf_14 : decode cX6_wordOf 14 = .ok (.if_icmp .ge 57, 3) := by decide +kernel
theorem dX6_wordOf_17 : decode cX6_wordOf 17 = .ok (.ldc 70, 2) := by decide +kernel
theorem dX6_wordOf_19 : decode cX6_wordOf 19 = .ok (.iload 5, 2) := by decide +kernel
theorem dX6_wordOf_21 : decode cX6_wordOf 21 = .ok (.invokevirtual 77, 3) := by decide +kernel
theorem dX6_wordOf_24 : decode cX6_wordOf 24 = .ok (.istore 6, 2) := by decide +kernel
theorem dX6_wordOf_26 : decode cX6_wordOf 26 = .ok (.iload 6, 2) := by decide +kernel
theorem dX6_wordOf_28 : decode cX6_wordOf 28 = .ok (.bipush 32, 2) := by decide +kernel
theorem dX6_wordOf_30 : decode cX6_wordOf 30 = .ok (.if_icmp .eq 22, 3) := by decide +kernel
theorem dX6_wordOf_33 : decode cX6_wordOf 33 = .ok (.lload_n 3, 1) := by decide +kernel
theorem dX6_wordOf_34 : decode cX6_wordOf 34 = .ok (.ldc2_w 66, 3) := by decide +kernel
theorem dX6_wordOf_37 : decode cX6_wordOf 37 = .ok (.lmul, 1) := by decide +kernel
theorem dX6_wordOf_38 : decode cX6_wordOf 38 = .ok (.iload 6, 2) := by decide +kernel
theorem dX6_wordOf_40 : decode cX6_wordOf 40 = .ok (.i2l, 1) := by decide +kernel
theorem dX6_wordOf_41 : decode cX6_wordOf 41 = .ok (.ladd, 1) := by decide +kernel
theorem dX6_wordOf_42 : decode cX6_wordOf 42 = .ok (.ldc2_w 68, 3) := by decide +kernel
theorem dX6_wordOf_45 : decode cX6_wordOf 45 = .ok (.lsub, 1) := by decide +kernel
theorem dX6_wordOf_46 : decode cX6_wordOf 46 = .ok (.lconst 1, 1) := by decide +kernel
theorem dX6_wordOf_47 : decode cX6_wordOf 47 = .ok (.ladd, 1) := by decide +kernel
theorem dX6_wordOf_48 : decode cX6_wordOf 48 = .ok (.lstore_n 3, 1) := by decide +kernel
theorem dX6_wordOf_49 : decode cX6_wordOf 49 = .ok (.goto 16, 3) := by decide +kernel
theorem dX6_wordOf_52 : decode cX6_wordOf 52 = .ok (.lload_n 3, 1) := by decide +kernel
theorem dX6_wordOf_53 : decode cX6_wordOf 53 = .ok (.lload_n 0, 1) := by decide +kernel
theorem dX6_wordOf_54 : decode cX6_wordOf 54 = .ok (.lcmp, 1) := by decide +kernel
theorem dX6_wordOf_55 : decode cX6_wordOf 55 = .ok (.ifCond .ne 5, 3) := by decide +kernel
theorem dX6_wordOf_58 : decode cX6_wordOf 58 = .ok (.iload_n 2, 1) := by decide +kernel
theorem dX6_wordOf_59 : decode cX6_wordOf 59 = .ok (.ireturn, 1) := by decide +kernel
theorem dX6_wordOf_60 : decode cX6_wordOf 60 = .ok (.iinc 2 1, 3) := by decide +kernel
theorem dX6_wordOf_63 : decode cX6_wordOf 63 = .ok (.lconst 0, 1) := by decide +kernel
theorem dX6_wordOf_64 : decode cX6_wordOf 64 = .ok (.lstore_n 3, 1) := by decide +kernel
theorem dX6_wordOf_65 : decode cX6_wordOf 65 = .ok (.iinc 5 1, 3) := by decide +kernel
theorem dX6_wordOf_68 : decode cX6_wordOf 68 = .ok (.goto (-61), 3) := by decide +kernel
theorem dX6_wordOf_71 : decode cX6_wordOf 71 = .ok (.iconst (-1), 1) := by decide +kernel
theorem dX6_wordOf_72 : decode cX6_wordOf 72 = .ok (.ireturn, 1) := by decide +kernel
theorem dX6_fail_0 : decode cX6_fail 0 = .ok (.aload_n 0, 1) := by decide +kernel
theorem dX6_fail_1 : decode cX6_fail 1 = .ok (.iload_n 1, 1) := by decide +kernel
theorem dX6_fail_2 : decode cX6_fail 2 = .ok (.putfield 31, 3) := by decide +kernel
theorem dX6_fail_5 : decode cX6_fail 5 = .ok (.aload_n 0, 1) := by decide +kernel
theorem dX6_fail_6 : decode cX6_fail 6 = .ok (.aload_n 0, 1) := by decide +kernel
theorem dX6_fail_7 : decode cX6_fail 7 = .ok (.getfield 43, 3) := by decide +kernel
theorem dX6_fail_10 : decode cX6_fail 10 = .ok (.putfield 34, 3) := by decide +kernel
theorem dX6_fail_13 : decode cX6_fail 13 = .ok (.iconst 0, 1) := by decide +kernel
theorem dX6_fail_14 : decode cX6_fail 14 = .ok (.ireturn, 1) := by decide +kernel
theorem dX6_takeSign_0 : decode cX6_takeSign 0 = .ok (.aload_n 0, 1) := by decide +kernel
theorem dX6_takeSign_1 : decode cX6_takeSign 1 = .ok (.getfield 46, 3) := by decide +kernel
theorem dX6_takeSign_4 : decode cX6_takeSign 4 = .ok (.iload_n 1, 1) := by decide +kernel
theorem dX6_takeSign_5 : decode cX6_takeSign 5 = .ok (.if_icmp .eq 9, 3) := by decide +kernel
theorem dX6_takeSign_8 : decode cX6_takeSign 8 = .ok (.aload_n 0, 1) := by decide +kernel
theorem dX6_takeSign_9 : decode cX6_takeSign 9 = .ok (.iconst 1, 1) := by decide +kernel
theorem dX6_takeSign_10 : decode cX6_takeSign 10 = .ok (.invokevirtual 81, 3) := by decide +kernel
theorem dX6_takeSign_13 : decode cX6_takeSign 13 = .ok (.ireturn, 1) := by decide +kernel
theorem dX6_takeSign_14 : decode cX6_takeSign 14 = .ok (.aload_n 0, 1) := by decide +kernel
theorem dX6_takeSign_15 : decode cX6_takeSign 15 = .ok (.invokevirtual 37, 3) := by decide +kernel
theorem dX6_takeSign_18 : decode cX6_takeSign 18 = .ok (.iconst 1, 1) := by decide +kernel
theorem dX6_takeSign_19 : decode cX6_takeSign 19 = .ok (.ireturn, 1) := by decide +kernel
theorem dX6_takeNumber_0 : decode cX6_takeNumber 0 = .ok (.aload_n 0, 1) := by decide +kernel
theorem dX6_takeNumber_1 : decode cX6_takeNumber 1 = .ok (.getfield 46, 3) := by decide +kernel
theorem dX6_takeNumber_4 : decode cX6_takeNumber 4 = .ok (.iconst 3, 1) := by decide +kernel
theorem dX6_takeNumber_5 : decode cX6_takeNumber 5 = .ok (.if_icmp .eq 9, 3) := by decide +kernel
theorem dX6_takeNumber_8 : decode cX6_takeNumber 8 = .ok (.aload_n 0, 1) := by decide +kernel
theorem dX6_takeNumber_9 : decode cX6_takeNumber 9 = .ok (.iconst 1, 1) := by decide +kernel
theorem dX6_takeNumber_10 : decode cX6_takeNumber 10 = .ok (.invokevirtual 81, 3) := by decide +kernel
theorem dX6_takeNumber_13 : decode cX6_takeNumber 13 = .ok (.ireturn, 1) := by decide +kernel
theorem dX6_takeNumber_14 : decode cX6_takeNumber 14 = .ok (.aload_n 0, 1) := by decide +kernel
theorem dX6_takeNumber_15 : decode cX6_takeNumber 15 = .ok (.getfield 63, 3) := by decide +kernel
theorem dX6_takeNumber_18 : decode cX6_takeNumber 18 = .ok (.iload_n 1, 1) := by decide +kernel
theorem dX6_takeNumber_19 : decode cX6_takeNumber 19 = .ok (.if_icmp .lt 11, 3) := by decide +kernel
theorem dX6_takeNumber_22 : decode cX6_takeNumber 22 = .ok (.aload_n 0, 1) := by decide +kernel
theorem dX6_takeNumber_23 : decode cX6_takeNumber 23 = .ok (.getfield 63, 3) := by decide +kernel
theorem dX6_takeNumber_26 : decode cX6_takeNumber 26 = .ok (.iload_n 2, 1) := by decide +kernel
theorem dX6_takeNumber_27 : decode cX6_takeNumber 27 = .ok (.if_icmp .le 9, 3) := by decide +kernel
theorem dX6_takeNumber_30 : decode cX6_takeNumber 30 = .ok (.aload_n 0, 1) := by decide +kernel
theorem dX6_takeNumber_31 : decode cX6_takeNumber 31 = .ok (.iconst 2, 1) := by decide +kernel
theorem dX6_takeNumber_32 : decode cX6_takeNumber 32 = .ok (.invokevirtual 81, 3) := by decide +kernel
theorem dX6_takeNumber_35 : decode cX6_takeNumber 35 = .ok (.ireturn, 1) := by decide +kernel
theorem dX6_takeNumber_36 : decode cX6_takeNumber 36 = .ok (.aload_n 0, 1) := by decide +kernel
theorem dX6_takeNumber_37 : decode cX6_takeNumber 37 = .ok (.aload_n 0, 1) := by decide +kernel
theorem dX6_takeNumber_38 : decode cX6_takeNumber 38 = .ok (.getfield 63, 3) := by decide +kernel
theorem dX6_takeNumber_41 : decode cX6_takeNumber 41 = .ok (.putfield 85, 3) := by decide +kernel
theorem dX6_takeNumber_44 : decode cX6_takeNumber 44 = .ok (.aload_n 0, 1) := by decide +kernel
theorem dX6_takeNumber_45 : decode cX6_takeNumber 45 = .ok (.invokevirtual 37, 3) := by decide +kernel
theorem dX6_takeNumber_48 : decode cX6_takeNumber 48 = .ok (.iconst 1, 1) := by decide +kernel
theorem dX6_takeNumber_49 : decode cX6_takeNumber 49 = .ok (.ireturn, 1) := by decide +kernel
theorem dX6_isName_0 : decode cX6_isName 0 = .ok (.aload_n 0, 1) := by decide +kernel
theorem dX6_isName_1 : decode cX6_isName 1 = .ok (.getfield 46, 3) := by decide +kernel
theorem dX6_isName_4 : decode cX6_isName 4 = .ok (.iconst 2, 1) := by decide +kernel
theorem dX6_isName_5 : decode cX6_isName 5 = .ok (.if_icmp .ne 15, 3) := by decide +kernel
theorem dX6_isName_8 : decode cX6_isName 8 = .ok (.aload_n 0, 1) := by decide +kernel
theorem dX6_isName_9 : decode cX6_isName 9 = .ok (.getfield 40, 3) := by decide +kernel
theorem dX6_isName_12 : decode cX6_isName 12 = .ok (.iconst (-1), 1) := by decide +kernel
theorem dX6_isName_13 : decode cX6_isName 13 = .ok (.if_icmp .ne 7, 3) := by decide +kernel
theorem dX6_isName_16 : decode cX6_isName 16 = .ok (.iconst 1, 1) := by decide +kernel
theorem dX6_isName_17 : decode cX6_isName 17 = .ok (.goto 4, 3) := by decide +kernel
theorem dX6_isName_20 : decode cX6_isName 20 = .ok (.iconst 0, 1) := by decide +kernel
theorem dX6_isName_21 : decode cX6_isName 21 = .ok (.ireturn, 1) := by decide +kernel
theorem dX6_takeScale_0 : decode cX6_takeScale 0 = .ok (.aload_n 0, 1) := by decide +kernel
theorem dX6_takeScale_1 : decode cX6_takeScale 1 = .ok (.invokevirtual 88, 3) := by decide +kernel
theorem dX6_takeScale_4 : decode cX6_takeScale 4 = .ok (.ifCond .ne 9, 3) := by decide +kernel
theorem dX6_takeScale_7 : decode cX6_takeScale 7 = .ok (.aload_n 0, 1) := by decide +kernel
theorem dX6_takeScale_8 : decode cX6_takeScale 8 = .ok (.iconst 1, 1) := by decide +kernel
theorem dX6_takeScale_9 : decode cX6_takeScale 9 = .ok (.invokevirtual 81, 3) := by decide +kernel
theorem dX6_takeScale_12 : decode cX6_takeScale 12 = .ok (.ireturn, 1) := by decide +kernel
theorem dX6_takeScale_13 : decode cX6_takeScale 13 = .ok (.aload_n 1, 1) := by decide +kernel
theorem dX6_takeScale_14 : decode cX6_takeScale 14 = .ok (.aload_n 0, 1) := by decide +kernel
theorem dX6_takeScale_15 : decode cX6_takeScale 15 = .ok (.getfield 55, 3) := by decide +kernel
theorem dX6_takeScale_18 : decode cX6_takeScale 18 = .ok (.invokevirtual 92, 3) := by decide +kernel
theorem dX6_takeScale_21 : decode cX6_takeScale 21 = .ok (.istore_n 2, 1) := by decide +kernel
theorem dX6_takeScale_22 : decode cX6_takeScale 22 = .ok (.iload_n 2, 1) := by decide +kernel
theorem dX6_takeScale_23 : decode cX6_takeScale 23 = .ok (.iconst (-1), 1) := by decide +kernel
theorem dX6_takeScale_24 : decode cX6_takeScale 24 = .ok (.if_icmp .ne 9, 3) := by decide +kernel
theorem dX6_takeScale_27 : decode cX6_takeScale 27 = .ok (.aload_n 0, 1) := by decide +kernel
theorem dX6_takeScale_28 : decode cX6_takeScale 28 = .ok (.iconst 3, 1) := by decide +kernel
theorem dX6_takeScale_29 : decode cX6_takeScale 29 = .ok (.invokevirtual 81, 3) := by decide +kernel
theorem dX6_takeScale_32 : decode cX6_takeScale 32 = .ok (.ireturn, 1) := by decide +kernel
theorem dX6_takeScale_33 : decode cX6_takeScale 33 = .ok (.aload_n 0, 1) := by decide +kernel
theorem dX6_takeScale_34 : decode cX6_takeScale 34 = .ok (.iload_n 2, 1) := by decide +kernel
theorem dX6_takeScale_35 : decode cX6_takeScale 35 = .ok (.putfield 85, 3) := by decide +kernel
theorem dX6_takeScale_38 : decode cX6_takeScale 38 = .ok (.aload_n 0, 1) := by decide +kernel
theorem dX6_takeScale_39 : decode cX6_takeScale 39 = .ok (.invokevirtual 37, 3) := by decide +kernel
theorem dX6_takeScale_42 : decode cX6_takeScale 42 = .ok (.iconst 1, 1) := by decide +kernel
theorem dX6_takeScale_43 : decode cX6_takeScale 43 = .ok (.ireturn, 1) := by decide +kernel
theorem dX7_init_0 : decode cX7_init 0 = .ok (.aload_n 0, 1) := by decide +kernel
theorem dX7_init_1 : decode cX7_init 1 = .ok (.invokespecial 3, 3) := by decide +kernel
theorem dX7_init_4 : decode cX7_init 4 = .ok (.aload_n 0, 1) := by decide +kernel
theorem dX7_init_5 : decode cX7_init 5 = .ok (.iconst 4, 1) := by decide +kernel
theorem dX7_init_6 : decode cX7_init 6 = .ok (.newarray .int, 2) := by decide +kernel
theorem dX7_init_8 : decode cX7_init 8 = .ok (.putfield 9, 3) := by decide +kernel
theorem dX7_init_11 : decode cX7_init 11 = .ok (.aload_n 0, 1) := by decide +kernel
theorem dX7_init_12 : decode cX7_init 12 = .ok (.iconst (-1), 1) := by decide +kernel
theorem dX7_init_13 : decode cX7_init 13 = .ok (.putfield 15, 3) := by decide +kernel
theorem dX7_init_16 : decode cX7_init 16 = .ok (.aload_n 0, 1) := by decide +kernel
theorem dX7_init_17 : decode cX7_init 17 = .ok (.iconst (-1), 1) := by decide +kernel
theorem dX7_init_18 : decode cX7_init 18 = .ok (.putfield 19, 3) := by decide +kernel
theorem dX7_init_21 : decode cX7_init 21 = .ok (.aload_n 0, 1) := by decide +kernel
theorem dX7_init_22 : decode cX7_init 22 = .ok (.iconst 4, 1) := by decide +kernel
theorem dX7_init_23 : decode cX7_init 23 = .ok (.bipush 21, 2) := by decide +kernel
theorem dX7_init_25 : decode cX7_init 25 = .ok (.multianewarray 22 2, 4) := by decide +kernel
theorem dX7_init_29 : decode cX7_init 29 = .ok (.putfield 24, 3) := by decide +kernel
theorem dX7_init_32 : decode cX7_init 32 = .ok (.aload_n 0, 1) := by decide +kernel
theorem dX7_init_33 : decode cX7_init 33 = .ok (.iconst 4, 1) := by decide +kernel
theorem dX7_init_34 : decode cX7_init 34 = .ok (.newarray .int, 2) := by decide +kernel
theorem dX7_init_36 : decode cX7_init 36 = .ok (.putfield 27, 3) := by decide +kernel
theorem dX7_init_39 : decode cX7_init 39 = .ok (.aload_n 0, 1) := by decide +kernel
theorem dX7_init_40 : decode cX7_init 40 = .ok (.bipush 40, 2) := by decide +kernel
theorem dX7_init_42 : decode cX7_init 42 = .ok (.newarray .int, 2) := by decide +kernel
theorem dX7_init_44 : decode cX7_init 44 = .ok (.putfield 30, 3) := by decide +kernel
theorem dX7_init_47 : decode cX7_init 47 = .ok (.aload_n 0, 1) := by decide +kernel
theorem dX7_init_48 : decode cX7_init 48 = .ok (.bipush 20, 2) := by decide +kernel
theorem dX7_init_50 : decode cX7_init 50 = .ok (.newarray .int, 2) := by decide +kernel
theorem dX7_init_52 : decode cX7_init 52 = .ok (.putfield 33, 3) := by decide +kernel
theorem dX7_init_55 : decode cX7_init 55 = .ok (.aload_n 0, 1) := by decide +kernel
theorem dX7_init_56 : decode cX7_init 56 = .ok (.bipush 20, 2) := by decide +kernel
theorem dX7_init_58 : decode cX7_init 58 = .ok (.newarray .int, 2) := by decide +kernel
theorem dX7_init_60 : decode cX7_init 60 = .ok (.putfield 36, 3) := by decide +kernel
theorem dX7_init_63 : decode cX7_init 63 = .ok (.return_, 1) := by decide +kernel
theorem dX7_half_0 : decode cX7_half 0 = .ok (.iload_n 0, 1) := by decide +kernel
theorem dX7_half_1 : decode cX7_half 1 = .ok (.istore_n 3, 1) := by decide +kernel
theorem dX7_half_2 : decode cX7_half 2 = .ok (.iload_n 1, 1) := by decide +kernel
theorem dX7_half_3 : decode cX7_half 3 = .ok (.istore 4, 2) := by decide +kernel
theorem dX7_half_5 : decode cX7_half 5 = .ok (.iconst 0, 1) := by decide +kernel
theorem dX7_half_6 : decode cX7_half 6 = .ok (.istore 5, 2) := by decide +kernel
theorem dX7_half_8 : decode cX7_half 8 = .ok (.iload 5, 2) := by decide +kernel
theorem dX7_half_10 : decode cX7_half 10 = .ok (.bipush 100, 2) := by decide +kernel
theorem dX7_half_12 : decode cX7_half 12 = .ok (.if_icmp .ge 27, 3) := by decide +kernel
theorem dX7_half_15 : decode cX7_half 15 = .ok (.iload 4, 2) := by decide +kernel
theorem dX7_half_17 : decode cX7_half 17 = .ok (.ifCond .eq 22, 3) := by decide +kernel
theorem dX7_half_20 : decode cX7_half 20 = .ok (.iload_n 3, 1) := by decide +kernel
theorem dX7_half_21 : decode cX7_half 21 = .ok (.iload 4, 2) := by decide +kernel
theorem dX7_half_23 : decode cX7_half 23 = .ok (.irem, 1) := by decide +kernel
theorem dX7_half_24 : decode cX7_half 24 = .ok (.istore 6, 2) := by decide +kernel
theorem dX7_half_26 : decode cX7_half 26 = .ok (.iload 4, 2) := by decide +kernel
theorem dX7_half_28 : decode cX7_half 28 = .ok (.istore_n 3, 1) := by decide +kernel
theorem dX7_half_29 : decode cX7_half 29 = .ok (.iload 6, 2) := by decide +kernel
theorem dX7_half_31 : decode cX7_half 31 = .ok (.istore 4, 2) := by decide +kernel
theorem dX7_half_33 : decode cX7_half 33 = .ok (.iinc 5 1, 3) := by decide +kernel
theorem dX7_half_36 : decode cX7_half 36 = .ok (.goto (-28), 3) := by decide +kernel
theorem dX7_half_39 : decode cX7_half 39 = .ok (.iload_n 2, 1) := by decide +kernel
theorem dX7_half_40 : decode cX7_half 40 = .ok (.ifCond .ne 7, 3) := by decide +kernel
theorem dX7_half_43 : decode cX7_half 43 = .ok (.iload_n 0, 1) := by decide +kernel
theorem dX7_half_44 : decode cX7_half 44 = .ok (.goto 4, 3) := by decide +kernel
theorem dX7_half_47 : decode cX7_half 47 = .ok (.iload_n 1, 1) := by decide +kernel
theorem dX7_half_48 : decode cX7_half 48 = .ok (.istore 5, 2) := by decide +kernel
theorem dX7_half_50 : decode cX7_half 50 = .ok (.iload_n 3, 1) := by decide +kernel
theorem dX7_half_51 : decode cX7_half 51 = .ok (.ifCond .ne 8, 3) := by decide +kernel
theorem dX7_half_54 : decode cX7_half 54 = .ok (.iload 5, 2) := by decide +kernel
theorem dX7_half_56 : decode cX7_half 56 = .ok (.goto 7, 3) := by decide +kernel
theorem dX7_half_59 : decode cX7_half 59 = .ok (.iload 5, 2) := by decide +kernel
theorem dX7_half_61 : decode cX7_half 61 = .ok (.iload_n 3, 1) := by decide +kernel
theorem dX7_half_62 : decode cX7_half 62 = .ok (.idiv, 1) := by decide +kernel
theorem dX7_half_63 : decode cX7_half 63 = .ok (.ireturn, 1) := by decide +kernel
theorem dX7_bestBlend_0 : decode cX7_bestBlend 0 = .ok (.aload_n 0, 1) := by decide +kernel
theorem dX7_bestBlend_1 : decode cX7_bestBlend 1 = .ok (.aload_n 1, 1) := by decide +kernel
theorem dX7_bestBlend_2 : decode cX7_bestBlend 2 = .ok (.aload_n 2, 1) := by decide +kernel
theorem dX7_bestBlend_3 : decode cX7_bestBlend 3 = .ok (.iload_n 3, 1) := by decide +kernel
theorem dX7_bestBlend_4 : decode cX7_bestBlend 4 = .ok (.iload 4, 2) := by decide +kernel
theorem dX7_bestBlend_6 : decode cX7_bestBlend 6 = .ok (.invokevirtual 39, 3) := by decide +kernel
theorem dX7_bestBlend_9 : decode cX7_bestBlend 9 = .ok (.aload_n 0, 1) := by decide +kernel
theorem dX7_bestBlend_10 : decode cX7_bestBlend 10 = .ok (.aload_n 1, 1) := by decide +kernel
theorem dX7_bestBlend_11 : decode cX7_bestBlend 11 = .ok (.getfield 43, 3) := by decide +kernel
theorem dX7_bestBlend_14 : decode cX7_bestBlend 14 = .ok (.getfield 49, 3) := by decide +kernel
theorem dX7_bestBlend_17 : decode cX7_bestBlend 17 = .ok (.iload_n 3, 1) := by decide +kernel
theorem dX7_bestBlend_18 : decode cX7_bestBlend 18 = .ok (.iaload, 1) := by decide +kernel
theorem dX7_bestBlend_19 : decode cX7_bestBlend 19 = .ok (.putfield 54, 3) := by decide +kernel
theorem dX7_bestBlend_22 : decode cX7_bestBlend 22 = .ok (.iconst (-1), 1) := by decide +kernel
theorem dX7_bestBlend_23 : decode cX7_bestBlend 23 = .ok (.istore 6, 2) := by decide +kernel
theorem dX7_bestBlend_25 : decode cX7_bestBlend 25 = .ok (.iconst 0, 1) := by decide +kernel
theorem dX7_bestBlend_26 : decode cX7_bestBlend 26 = .ok (.istore 7, 2) := by decide +kernel
theorem dX7_bestBlend_28 : decode cX7_bestBlend 28 = .ok (.iload 7, 2) := by decide +kernel
theorem dX7_bestBlend_30 : decode cX7_bestBlend 30 = .ok (.aload_n 0, 1) := by decide +kernel
theorem dX7_bestBlend_31 : decode cX7_bestBlend 31 = .ok (.getfield 27, 3) := by decide +kernel
theorem dX7_bestBlend_34 : decode cX7_bestBlend 34 = .ok (.iconst 0, 1) := by decide +kernel
theorem dX7_bestBlend_35 : decode cX7_bestBlend 35 = .ok (.iaload, 1) := by decide +kernel
theorem dX7_bestBlend_36 : decode cX7_bestBlend 36 = .ok (.if_icmp .gt 182, 3) := by decide +kernel
theorem dX7_bestBlend_39 : decode cX7_bestBlend 39 = .ok (.iconst 0, 1) := by decide +kernel
theorem dX7_bestBlend_40 : decode cX7_bestBlend 40 = .ok (.istore 8, 2) := by decide +kernel
theorem dX7_bestBlend_42 : decode cX7_bestBlend 42 = .ok (.iload 8, 2) := by decide +kernel
theorem dX7_bestBlend_44 : decode cX7_bestBlend 44 = .ok (.aload_n 0, 1) := by decide +kernel
theorem dX7_bestBlend_45 : decode cX7_bestBlend 45 = .ok (.getfield 27, 3) := by decide +kernel
theorem dX7_bestBlend_48 : decode cX7_bestBlend 48 = .ok (.iconst 1, 1) := by decide +kernel
theorem dX7_bestBlend_49 : decode cX7_bestBlend 49 = .ok (.iaload, 1) := by decide +kernel
theorem dX7_bestBlend_50 : decode cX7_bestBlend 50 = .ok (.if_icmp .gt 162, 3) := by decide +kernel
theorem dX7_bestBlend_53 : decode cX7_bestBlend 53 = .ok (.iload 7, 2) := by decide +kernel
theorem dX7_bestBlend_55 : decode cX7_bestBlend 55 = .ok (.iload 8, 2) := by decide +kernel
theorem dX7_bestBlend_57 : decode cX7_bestBlend 57 = .ok (.iadd, 1) := by decide +kernel
theorem dX7_bestBlend_58 : decode cX7_bestBlend 58 = .ok (.iload 4, 2) := by decide +kernel
theorem dX7_bestBlend_60 : decode cX7_bestBlend 60 = .ok (.if_icmp .gt 152, 3) := by decide +kernel
theorem dX7_bestBlend_63 : decode cX7_bestBlend 63 = .ok (.iconst 0, 1) := by decide +kernel
theorem dX7_bestBlend_64 : decode cX7_bestBlend 64 = .ok (.istore 9, 2) := by decide +kernel
theorem dX7_bestBlend_66 : decode cX7_bestBlend 66 = .ok (.iload 9, 2) := by decide +kernel
theorem dX7_bestBlend_68 : decode cX7_bestBlend 68 = .ok (.aload_n 0, 1) := by decide +kernel
theorem dX7_bestBlend_69 : decode cX7_bestBlend 69 = .ok (.getfield 27, 3) := by decide +kernel
theorem dX7_bestBlend_72 : decode cX7_bestBlend 72 = .ok (.iconst 2, 1) := by decide +kernel
theorem dX7_bestBlend_73 : decode cX7_bestBlend 73 = .ok (.iaload, 1) := by decide +kernel
theorem dX7_bestBlend_74 : decode cX7_bestBlend 74 = .ok (.if_icmp .gt 132, 3) := by decide +kernel
theorem dX7_bestBlend_77 : decode cX7_bestBlend 77 = .ok (.iload 7, 2) := by decide +kernel
theorem dX7_bestBlend_79 : decode cX7_bestBlend 79 = .ok (.iload 8, 2) := by decide +kernel
theorem dX7_bestBlend_81 : decode cX7_bestBlend 81 = .ok (.iadd, 1) := by decide +kernel
theorem dX7_bestBlend_82 : decode cX7_bestBlend 82 = .ok (.iload 9, 2) := by decide +kernel
theorem dX7_bestBlend_84 : decode cX7_bestBlend 84 = .ok (.iadd, 1) := by decide +kernel
theorem dX7_bestBlend_85 : decode cX7_bestBlend 85 = .ok (.iload 4, 2) := by decide +kernel
theorem dX7_bestBlend_87 : decode cX7_bestBlend 87 = .ok (.if_icmp .gt 119, 3) := by decide +kernel
theorem dX7_bestBlend_90 : decode cX7_bestBlend 90 = .ok (.iload 4, 2) := by decide +kernel
theorem dX7_bestBlend_92 : decode cX7_bestBlend 92 = .ok (.iload 7, 2) := by decide +kernel
theorem dX7_bestBlend_94 : decode cX7_bestBlend 94 = .ok (.isub, 1) := by decide +kernel
theorem dX7_bestBlend_95 : decode cX7_bestBlend 95 = .ok (.iload 8, 2) := by decide +kernel
theorem dX7_bestBlend_97 : decode cX7_bestBlend 97 = .ok (.isub, 1) := by decide +kernel
theorem dX7_bestBlend_98 : decode cX7_bestBlend 98 = .ok (.iload 9, 2) := by decide +kernel
theorem dX7_bestBlend_100 : decode cX7_bestBlend 100 = .ok (.isub, 1) := by decide +kernel
theorem dX7_bestBlend_101 : decode cX7_bestBlend 101 = .ok (.istore 10, 2) := by decide +kernel
theorem dX7_bestBlend_103 : decode cX7_bestBlend 103 = .ok (.iload 10, 2) := by decide +kernel
theorem dX7_bestBlend_105 : decode cX7_bestBlend 105 = .ok (.aload_n 0, 1) := by decide +kernel
theorem dX7_bestBlend_106 : decode cX7_bestBlend 106 = .ok (.getfield 27, 3) := by decide +kernel
theorem dX7_bestBlend_109 : decode cX7_bestBlend 109 = .ok (.iconst 3, 1) := by decide +kernel
theorem dX7_bestBlend_110 : decode cX7_bestBlend 110 = .ok (.iaload, 1) := by decide +kernel
theorem dX7_bestBlend_111 : decode cX7_bestBlend 111 = .ok (.if_icmp .le 6, 3) := by decide +kernel
theorem dX7_bestBlend_114 : decode cX7_bestBlend 114 = .ok (.goto 86, 3) := by decide +kernel
theorem dX7_bestBlend_117 : decode cX7_bestBlend 117 = .ok (.aload_n 0, 1) := by decide +kernel
theorem dX7_bestBlend_118 : decode cX7_bestBlend 118 = .ok (.getfield 24, 3) := by decide +kernel
theorem dX7_bestBlend_121 : decode cX7_bestBlend 121 = .ok (.iconst 0, 1) := by decide +kernel
theorem dX7_bestBlend_122 : decode cX7_bestBlend 122 = .ok (.aaload, 1) := by decide +kernel
theorem dX7_bestBlend_123 : decode cX7_bestBlend 123 = .ok (.iload 7, 2) := by decide +kernel
theorem dX7_bestBlend_125 : decode cX7_bestBlend 125 = .ok (.iaload, 1) := by decide +kernel
theorem dX7_bestBlend_126 : decode cX7_bestBlend 126 = .ok (.aload_n 0, 1) := by decide +kernel
theorem dX7_bestBlend_127 : decode cX7_bestBlend 127 = .ok (.getfield 24, 3) := by decide +kernel
theorem dX7_bestBlend_130 : decode cX7_bestBlend 130 = .ok (.iconst 1, 1) := by decide +kernel
theorem dX7_bestBlend_131 : decode cX7_bestBlend 131 = .ok (.aaload, 1) := by decide +kernel
theorem dX7_bestBlend_132 : decode cX7_bestBlend 132 = .ok (.iload 8, 2) := by decide +kernel
theorem dX7_bestBlend_134 : decode cX7_bestBlend 134 = .ok (.iaload, 1) := by decide +kernel
theorem dX7_bestBlend_135 : decode cX7_bestBlend 135 = .ok (.iadd, 1) := by decide +kernel
theorem dX7_bestBlend_136 : decode cX7_bestBlend 136 = .ok (.aload_n 0, 1) := by decide +kernel
theorem dX7_bestBlend_137 : decode cX7_bestBlend 137 = .ok (.getfield 24, 3) := by decide +kernel
theorem dX7_bestBlend_140 : decode cX7_bestBlend 140 = .ok (.iconst 2, 1) := by decide +kernel
theorem dX7_bestBlend_141 : decode cX7_bestBlend 141 = .ok (.aaload, 1) := by decide +kernel
theorem dX7_bestBlend_142 : decode cX7_bestBlend 142 = .ok (.iload 9, 2) := by decide +kernel
theorem dX7_bestBlend_144 : decode cX7_bestBlend 144 = .ok (.iaload, 1) := by decide +kernel
theorem dX7_bestBlend_145 : decode cX7_bestBlend 145 = .ok (.iadd, 1) := by decide +kernel
theorem dX7_bestBlend_146 : decode cX7_bestBlend 146 = .ok (.aload_n 0, 1) := by decide +kernel
theorem dX7_bestBlend_147 : decode cX7_bestBlend 147 = .ok (.getfield 24, 3) := by decide +kernel
theorem dX7_bestBlend_150 : decode cX7_bestBlend 150 = .ok (.iconst 3, 1) := by decide +kernel
theorem dX7_bestBlend_151 : decode cX7_bestBlend 151 = .ok (.aaload, 1) := by decide +kernel
theorem dX7_bestBlend_152 : decode cX7_bestBlend 152 = .ok (.iload 10, 2) := by decide +kernel
theorem dX7_bestBlend_154 : decode cX7_bestBlend 154 = .ok (.iaload, 1) := by decide +kernel
theorem dX7_bestBlend_155 : decode cX7_bestBlend 155 = .ok (.iadd, 1) := by decide +kernel
theorem dX7_bestBlend_156 : decode cX7_bestBlend 156 = .ok (.istore 11, 2) := by decide +kernel
theorem dX7_bestBlend_158 : decode cX7_bestBlend 158 = .ok (.iload 11, 2) := by decide +kernel
theorem dX7_bestBlend_160 : decode cX7_bestBlend 160 = .ok (.iload 4, 2) := by decide +kernel
theorem dX7_bestBlend_162 : decode cX7_bestBlend 162 = .ok (.iload 5, 2) := by decide +kernel
theorem dX7_bestBlend_164 : decode cX7_bestBlend 164 = .ok (.imul, 1) := by decide +kernel
theorem dX7_bestBlend_165 : decode cX7_bestBlend 165 = .ok (.isub, 1) := by decide +kernel
theorem dX7_bestBlend_166 : decode cX7_bestBlend 166 = .ok (.invokestatic 57, 3) := by decide +kernel
theorem dX7_bestBlend_169 : decode cX7_bestBlend 169 = .ok (.istore 12, 2) := by decide +kernel
theorem dX7_bestBlend_171 : decode cX7_bestBlend 171 = .ok (.iload 6, 2) := by decide +kernel
theorem dX7_bestBlend_173 : decode cX7_bestBlend 173 = .ok (.iconst (-1), 1) := by decide +kernel
theorem dX7_bestBlend_174 : decode cX7_bestBlend 174 = .ok (.if_icmp .eq 10, 3) := by decide +kernel
theorem dX7_bestBlend_177 : decode cX7_bestBlend 177 = .ok (.iload 12, 2) := by decide +kernel
theorem dX7_bestBlend_179 : decode cX7_bestBlend 179 = .ok (.iload 6, 2) := by decide +kernel
theorem dX7_bestBlend_181 : decode cX7_bestBlend 181 = .ok (.if_icmp .ge 19, 3) := by decide +kernel
theorem dX7_bestBlend_184 : decode cX7_bestBlend 184 = .ok (.iload 12, 2) := by decide +kernel
theorem dX7_bestBlend_186 : decode cX7_bestBlend 186 = .ok (.istore 6, 2) := by decide +kernel
theorem dX7_bestBlend_188 : decode cX7_bestBlend 188 = .ok (.aload_n 0, 1) := by decide +kernel
theorem dX7_bestBlend_189 : decode cX7_bestBlend 189 = .ok (.iload 7, 2) := by decide +kernel
theorem dX7_bestBlend_191 : decode cX7_bestBlend 191 = .ok (.iload 8, 2) := by decide +kernel
theorem dX7_bestBlend_193 : decode cX7_bestBlend 193 = .ok (.iload 9, 2) := by decide +kernel
theorem dX7_bestBlend_195 : decode cX7_bestBlend 195 = .ok (.iload 10, 2) := by decide +kernel
theorem dX7_bestBlend_197 : decode cX7_bestBlend 197 = .ok (.invokevirtual 63, 3) := by decide +kernel
theorem dX7_bestBlend_200 : decode cX7_bestBlend 200 = .ok (.iinc 9 1, 3) := by decide +kernel
theorem dX7_bestBlend_203 : decode cX7_bestBlend 203 = .ok (.goto (-137), 3) := by decide +kernel
theorem dX7_bestBlend_206 : decode cX7_bestBlend 206 = .ok (.iinc 8 1, 3) := by decide +kernel
theorem dX7_bestBlend_209 : decode cX7_bestBlend 209 = .ok (.goto (-167), 3) := by decide +kernel
theorem dX7_bestBlend_212 : decode cX7_bestBlend 212 = .ok (.iinc 7 1, 3) := by decide +kernel
theorem dX7_bestBlend_215 : decode cX7_bestBlend 215 = .ok (.goto (-187), 3) := by decide +kernel
theorem dX7_bestBlend_218 : decode cX7_bestBlend 218 = .ok (.iload 6, 2) := by decide +kernel
theorem dX7_bestBlend_220 : decode cX7_bestBlend 220 = .ok (.ireturn, 1) := by decide +kernel
theorem dX7_keepBlend_0 : decode cX7_keepBlend 0 = .ok (.aload_n 0, 1) := by decide +kernel
theorem dX7_keepBlend_1 : decode cX7_keepBlend 1 = .ok (.getfield 9, 3) := by decide +kernel
theorem dX7_keepBlend_4 : decode cX7_keepBlend 4 = .ok (.iconst 0, 1) := by decide +kernel
theorem dX7_keepBlend_5 : decode cX7_keepBlend 5 = .ok (.iload_n 1, 1) := by decide +kernel
theorem dX7_keepBlend_6 : decode cX7_keepBlend 6 = .ok (.iastore, 1) := by decide +kernel
theorem dX7_keepBlend_7 : decode cX7_keepBlend 7 = .ok (.aload_n 0, 1) := by decide +kernel
theorem dX7_keepBlend_8 : decode cX7_keepBlend 8 = .ok (.getfield 9, 3) := by decide +kernel
theorem dX7_keepBlend_11 : decode cX7_keepBlend 11 = .ok (.iconst 1, 1) := by decide +kernel
theorem dX7_keepBlend_12 : decode cX7_keepBlend 12 = .ok (.iload_n 2, 1) := by decide +kernel
theorem dX7_keepBlend_13 : decode cX7_keepBlend 13 = .ok (.iastore, 1) := by decide +kernel
theorem dX7_keepBlend_14 : decode cX7_keepBlend 14 = .ok (.aload_n 0, 1) := by decide +kernel
theorem dX7_keepBlend_15 : decode cX7_keepBlend 15 = .ok (.getfield 9, 3) := by decide +kernel
theorem dX7_keepBlend_18 : decode cX7_keepBlend 18 = .ok (.iconst 2, 1) := by decide +kernel
theorem dX7_keepBlend_19 : decode cX7_keepBlend 19 = .ok (.iload_n 3, 1) := by decide +kernel
theorem dX7_keepBlend_20 : decode cX7_keepBlend 20 = .ok (.iastore, 1) := by decide +kernel
theorem dX7_keepBlend_21 : decode cX7_keepBlend 21 = .ok (.aload_n 0, 1) := by decide +kernel
theorem dX7_keepBlend_22 : decode cX7_keepBlend 22 = .ok (.getfield 9, 3) := by decide +kernel
theorem dX7_keepBlend_25 : decode cX7_keepBlend 25 = .ok (.iconst 3, 1) := by decide +kernel
theorem dX7_keepBlend_26 : decode cX7_keepBlend 26 = .ok (.iload 4, 2) := by decide +kernel
theorem dX7_keepBlend_28 : decode cX7_keepBlend 28 = .ok (.iastore, 1) := by decide +kernel
theorem dX7_keepBlend_29 : decode cX7_keepBlend 29 = .ok (.return_, 1) := by decide +kernel
theorem dX7_fillBlendRows_0 : decode cX7_fillBlendRows 0 = .ok (.iconst 0, 1) := by decide +kernel
theorem dX7_fillBlendRows_1 : decode cX7_fillBlendRows 1 = .ok (.istore 5, 2) := by decide +kernel
theorem dX7_fillBlendRows_3 : decode cX7_fillBlendRows 3 = .ok (.iload 5, 2) := by decide +kernel
theorem dX7_fillBlendRows_5 : decode cX7_fillBlendRows 5 = .ok (.iconst 4, 1) := by decide +kernel
theorem dX7_fillBlendRows_6 : decode cX7_fillBlendRows 6 = .ok (.if_icmp .ge 118, 3) := by decide +kernel
theorem dX7_fillBlendRows_9 : decode cX7_fillBlendRows 9 = .ok (.aload_n 1, 1) := by decide +kernel
theorem dX7_fillBlendRows_10 : decode cX7_fillBlendRows 10 = .ok (.getfield 43, 3) := by decide +kernel
theorem dX7_fillBlendRows_13 : decode cX7_fillBlendRows 13 = .ok (.iload_n 3, 1) := by decide +kernel
theorem dX7_fillBlendRows_14 : decode cX7_fillBlendRows 14 = .ok (.iload 5, 2) := by decide +kernel
theorem dX7_fillBlendRows_16 : decode cX7_fillBlendRows 16 = .ok (.invokevirtual 67, 3) := by decide +kernel
theorem dX7_fillBlendRows_19 : decode cX7_fillBlendRows 19 = .ok (.istore 6, 2) := by decide +kernel
theorem dX7_fillBlendRows_21 : decode cX7_fillBlendRows 21 = .ok (.aload_n 0, 1) := by decide +kernel
theorem dX7_fillBlendRows_22 : decode cX7_fillBlendRows 22 = .ok (.getfield 27, 3) := by decide +kernel
theorem dX7_fillBlendRows_25 : decode cX7_fillBlendRows 25 = .ok (.iload 5, 2) := by decide +kernel
theorem dX7_fillBlendRows_27 : decode cX7_fillBlendRows 27 = .ok (.iload 6, 2) := by decide +kernel
theorem dX7_fillBlendRows_29 : decode cX7_fillBlendRows 29 = .ok (.iconst (-1), 1) := by decide +kernel
theorem dX7_fillBlendRows_30 : decode cX7_fillBlendRows 30 = .ok (.if_icmp .ne 7, 3) := by decide +kernel
theorem dX7_fillBlendRows_33 : decode cX7_fillBlendRows 33 = .ok (.iconst 0, 1) := by decide +kernel
theorem dX7_fillBlendRows_34 : decode cX7_fillBlendRows 34 = .ok (.goto 15, 3) := by decide +kernel
theorem dX7_fillBlendRows_37 : decode cX7_fillBlendRows 37 = .ok (.iload 4, 2) := by decide +kernel
theorem dX7_fillBlendRows_39 : decode cX7_fillBlendRows 39 = .ok (.aload_n 1, 1) := by decide +kernel
theorem dX7_fillBlendRows_40 : decode cX7_fillBlendRows 40 = .ok (.getfield 71, 3) := by decide +kernel
theorem dX7_fillBlendRows_43 : decode cX7_fillBlendRows 43 = .ok (.iload 6, 2) := by decide +kernel
theorem dX7_fillBlendRows_45 : decode cX7_fillBlendRows 45 = .ok (.iaload, 1) := by decide +kernel
theorem dX7_fillBlendRows_46 : decode cX7_fillBlendRows 46 = .ok (.invokestatic 74, 3) := by decide +kernel
theorem dX7_fillBlendRows_49 : decode cX7_fillBlendRows 49 = .ok (.iastore, 1) := by decide +kernel
theorem dX7_fillBlendRows_50 : decode cX7_fillBlendRows 50 = .ok (.aload_n 0, 1) := by decide +kernel
theorem dX7_fillBlendRows_51 : decode cX7_fillBlendRows 51 = .ok (.getfield 24, 3) := by decide +kernel
theorem dX7_fillBlendRows_54 : decode cX7_fillBlendRows 54 = .ok (.iload 5, 2) := by decide +kernel
theorem dX7_fillBlendRows_56 : decode cX7_fillBlendRows 56 = .ok (.aaload, 1) := by decide +kernel
theorem dX7_fillBlendRows_57 : decode cX7_fillBlendRows 57 = .ok (.iconst 0, 1) := by decide +kernel
theorem dX7_fillBlendRows_58 : decode cX7_fillBlendRows 58 = .ok (.iconst 0, 1) := by decide +kernel
theorem dX7_fillBlendRows_59 : decode cX7_fillBlendRows 59 = .ok (.iastore, 1) := by decide +kernel
theorem dX7_fillBlendRows_60 : decode cX7_fillBlendRows 60 = .ok (.iconst 1, 1) := by decide +kernel
theorem dX7_fillBlendRows_61 : decode cX7_fillBlendRows 61 = .ok (.istore 7, 2) := by decide +kernel
theorem dX7_fillBlendRows_63 : decode cX7_fillBlendRows 63 = .ok (.iload 7, 2) := by decide +kernel
theorem dX7_fillBlendRows_65 : decode cX7_fillBlendRows 65 = .ok (.aload_n 0, 1) := by decide +kernel
theorem dX7_fillBlendRows_66 : decode cX7_fillBlendRows 66 = .ok (.getfield 27, 3) := by decide +kernel
theorem dX7_fillBlendRows_69 : decode cX7_fillBlendRows 69 = .ok (.iload 5, 2) := by decide +kernel
theorem dX7_fillBlendRows_71 : decode cX7_fillBlendRows 71 = .ok (.iaload, 1) := by decide +kernel
theorem dX7_fillBlendRows_72 : decode cX7_fillBlendRows 72 = .ok (.if_icmp .gt 46, 3) := by decide +kernel
theorem dX7_fillBlendRows_75 : decode cX7_fillBlendRows 75 = .ok (.aload_n 2, 1) := by decide +kernel
theorem dX7_fillBlendRows_76 : decode cX7_fillBlendRows 76 = .ok (.aload_n 1, 1) := by decide +kernel
theorem dX7_fillBlendRows_77 : decode cX7_fillBlendRows 77 = .ok (.getfield 77, 3) := by decide +kernel
theorem dX7_fillBlendRows_80 : decode cX7_fillBlendRows 80 = .ok (.iload 6, 2) := by decide +kernel
theorem dX7_fillBlendRows_82 : decode cX7_fillBlendRows 82 = .ok (.aaload, 1) := by decide +kernel
theorem dX7_fillBlendRows_83 : decode cX7_fillBlendRows 83 = .ok (.bipush 40, 2) := by decide +kernel
theorem dX7_fillBlendRows_85 : decode cX7_fillBlendRows 85 = .ok (.iload 7, 2) := by decide +kernel
theorem dX7_fillBlendRows_87 : decode cX7_fillBlendRows 87 = .ok (.aload_n 2, 1) := by decide +kernel
theorem dX7_fillBlendRows_88 : decode cX7_fillBlendRows 88 = .ok (.getfield 80, 3) := by decide +kernel
theorem dX7_fillBlendRows_91 : decode cX7_fillBlendRows 91 = .ok (.invokevirtual 85, 3) := by decide +kernel
theorem dX7_fillBlendRows_94 : decode cX7_fillBlendRows 94 = .ok (.aload_n 0, 1) := by decide +kernel
theorem dX7_fillBlendRows_95 : decode cX7_fillBlendRows 95 = .ok (.getfield 24, 3) := by decide +kernel
theorem dX7_fillBlendRows_98 : decode cX7_fillBlendRows 98 = .ok (.iload 5, 2) := by decide +kernel
theorem dX7_fillBlendRows_100 : decode cX7_fillBlendRows 100 = .ok (.aaload, 1) := by decide +kernel
theorem dX7_fillBlendRows_101 : decode cX7_fillBlendRows 101 = .ok (.iload 7, 2) := by decide +kernel
theorem dX7_fillBlendRows_103 : decode cX7_fillBlendRows 103 = .ok (.aload_n 1, 1) := by decide +kernel
theorem dX7_fillBlendRows_104 : decode cX7_fillBlendRows 104 = .ok (.aload_n 2, 1) := by decide +kernel
theorem dX7_fillBlendRows_105 : decode cX7_fillBlendRows 105 = .ok (.getfield 80, 3) := by decide +kernel
theorem dX7_fillBlendRows_108 : decode cX7_fillBlendRows 108 = .ok (.invokevirtual 89, 3) := by decide +kernel
theorem dX7_fillBlendRows_111 : decode cX7_fillBlendRows 111 = .ok (.iastore, 1) := by decide +kernel
theorem dX7_fillBlendRows_112 : decode cX7_fillBlendRows 112 = .ok (.iinc 7 1, 3) := by decide +kernel
theorem dX7_fillBlendRows_115 : decode cX7_fillBlendRows 115 = .ok (.goto (-52), 3) := by decide +kernel
theorem dX7_fillBlendRows_118 : decode cX7_fillBlendRows 118 = .ok (.iinc 5 1, 3) := by decide +kernel
theorem dX7_fillBlendRows_121 : decode cX7_fillBlendRows 121 = .ok (.goto (-118), 3) := by decide +kernel
theorem dX7_fillBlendRows_124 : decode cX7_fillBlendRows 124 = .ok (.return_, 1) := by decide +kernel
theorem dX7_yearsToRipe_0 : decode cX7_yearsToRipe 0 = .ok (.aload_n 1, 1) := by decide +kernel
theorem dX7_yearsToRipe_1 : decode cX7_yearsToRipe 1 = .ok (.getfield 71, 3) := by decide +kernel
theorem dX7_yearsToRipe_4 : decode cX7_yearsToRipe 4 = .ok (.iload_n 3, 1) := by decide +kernel
theorem dX7_yearsToRipe_5 : decode cX7_yearsToRipe 5 = .ok (.iaload, 1) := by decide +kernel
theorem dX7_yearsToRipe_6 : decode cX7_yearsToRipe 6 = .ok (.ifCond .ne 5, 3) := by decide +kernel
theorem dX7_yearsToRipe_9 : decode cX7_yearsToRipe 9 = .ok (.iconst (-1), 1) := by decide +kernel
theorem dX7_yearsToRipe_10 : decode cX7_yearsToRipe 10 = .ok (.ireturn, 1) := by decide +kernel
theorem dX7_yearsToRipe_11 : decode cX7_yearsToRipe 11 = .ok (.aload_n 1, 1) := by decide +kernel
theorem dX7_yearsToRipe_12 : decode cX7_yearsToRipe 12 = .ok (.getfield 93, 3) := by decide +kernel
theorem dX7_yearsToRipe_15 : decode cX7_yearsToRipe 15 = .ok (.istore 5, 2) := by decide +kernel
theorem dX7_yearsToRipe_17 : decode cX7_yearsToRipe 17 = .ok (.iload 5, 2) := by decide +kernel
theorem dX7_yearsToRipe_19 : decode cX7_yearsToRipe 19 = .ok (.istore 6, 2) := by decide +kernel
theorem dX7_yearsToRipe_21 : decode cX7_yearsToRipe 21 = .ok (.iload 6, 2) := by decide +kernel
theorem dX7_yearsToRipe_23 : decode cX7_yearsToRipe 23 = .ok (.bipush 39, 2) := by decide +kernel
theorem dX7_yearsToRipe_25 : decode cX7_yearsToRipe 25 = .ok (.if_icmp .gt 45, 3) := by decide +kernel
theorem dX7_yearsToRipe_28 : decode cX7_yearsToRipe 28 = .ok (.aload_n 1, 1) := by decide +kernel
theorem dX7_yearsToRipe_29 : decode cX7_yearsToRipe 29 = .ok (.iload 6, 2) := by decide +kernel
theorem dX7_yearsToRipe_31 : decode cX7_yearsToRipe 31 = .ok (.putfield 93, 3) := by decide +kernel
theorem dX7_yearsToRipe_34 : decode cX7_yearsToRipe 34 = .ok (.aload_n 1, 1) := by decide +kernel
theorem dX7_yearsToRipe_35 : decode cX7_yearsToRipe 35 = .ok (.iload_n 3, 1) := by decide +kernel
theorem dX7_yearsToRipe_36 : decode cX7_yearsToRipe 36 = .ok (.invokevirtual 96, 3) := by decide +kernel
theorem dX7_yearsToRipe_39 : decode cX7_yearsToRipe 39 = .ok (.iload 4, 2) := by decide +kernel
theorem dX7_yearsToRipe_41 : decode cX7_yearsToRipe 41 = .ok (.aload_n 1, 1) := by decide +kernel
theorem dX7_yearsToRipe_42 : decode cX7_yearsToRipe 42 = .ok (.getfield 71, 3) := by decide +kernel
theorem dX7_yearsToRipe_45 : decode cX7_yearsToRipe 45 = .ok (.iload_n 3, 1) := by decide +kernel
theorem dX7_yearsToRipe_46 : decode cX7_yearsToRipe 46 = .ok (.iaload, 1) := by decide +kernel
theorem dX7_yearsToRipe_47 : decode cX7_yearsToRipe 47 = .ok (.imul, 1) := by decide +kernel
theorem dX7_yearsToRipe_48 : decode cX7_yearsToRipe 48 = .ok (.if_icmp .lt 9, 3) := by decide +kernel
theorem dX7_yearsToRipe_51 : decode cX7_yearsToRipe 51 = .ok (.iload 6, 2) := by decide +kernel
theorem dX7_yearsToRipe_53 : decode cX7_yearsToRipe 53 = .ok (.iload 5, 2) := by decide +kernel
theorem dX7_yearsToRipe_55 : decode cX7_yearsToRipe 55 = .ok (.isub, 1) := by decide +kernel
theorem dX7_yearsToRipe_56 : decode cX7_yearsToRipe 56 = .ok (.ireturn, 1) := by decide +kernel
theorem dX7_yearsToRipe_57 : decode cX7_yearsToRipe 57 = .ok (.aload_n 2, 1) := by decide +kernel
theorem dX7_yearsToRipe_58 : decode cX7_yearsToRipe 58 = .ok (.aload_n 1, 1) := by decide +kernel
theorem dX7_yearsToRipe_59 : decode cX7_yearsToRipe 59 = .ok (.iload_n 3, 1) := by decide +kernel
theorem dX7_yearsToRipe_60 : decode cX7_yearsToRipe 60 = .ok (.invokevirtual 99, 3) := by decide +kernel
theorem dX7_yearsToRipe_63 : decode cX7_yearsToRipe 63 = .ok (.pop, 1) := by decide +kernel
theorem dX7_yearsToRipe_64 : decode cX7_yearsToRipe 64 = .ok (.iinc 6 1, 3) := by decide +kernel
theorem dX7_yearsToRipe_67 : decode cX7_yearsToRipe 67 = .ok (.goto (-46), 3) := by decide +kernel
theorem dX7_yearsToRipe_70 : decode cX7_yearsToRipe 70 = .ok (.iconst (-1), 1) := by decide +kernel
theorem dX7_yearsToRipe_71 : decode cX7_yearsToRipe 71 = .ok (.ireturn, 1) := by decide +kernel
theorem dX7_yearsByPlan_0 : decode cX7_yearsByPlan 0 = .ok (.aload_n 1, 1) := by decide +kernel
theorem dX7_yearsByPlan_1 : decode cX7_yearsByPlan 1 = .ok (.getfield 43, 3) := by decide +kernel
theorem dX7_yearsByPlan_4 : decode cX7_yearsByPlan 4 = .ok (.getfield 103, 3) := by decide +kernel
theorem dX7_yearsByPlan_7 : decode cX7_yearsByPlan 7 = .ok (.ifCond .ne 5, 3) := by decide +kernel
theorem dX7_yearsByPlan_10 : decode cX7_yearsByPlan 10 = .ok (.iconst (-1), 1) := by decide +kernel
theorem dX7_yearsByPlan_11 : decode cX7_yearsByPlan 11 = .ok (.ireturn, 1) := by decide +kernel
theorem dX7_yearsByPlan_12 : decode cX7_yearsByPlan 12 = .ok (.aload_n 1, 1) := by decide +kernel
theorem dX7_yearsByPlan_13 : decode cX7_yearsByPlan 13 = .ok (.getfield 93, 3) := by decide +kernel
theorem dX7_yearsByPlan_16 : decode cX7_yearsByPlan 16 = .ok (.istore 5, 2) := by decide +kernel
theorem dX7_yearsByPlan_18 : decode cX7_yearsByPlan 18 = .ok (.iload 5, 2) := by decide +kernel
theorem dX7_yearsByPlan_20 : decode cX7_yearsByPlan 20 = .ok (.istore 6, 2) := by decide +kernel
theorem dX7_yearsByPlan_22 : decode cX7_yearsByPlan 22 = .ok (.iload 6, 2) := by decide +kernel
theorem dX7_yearsByPlan_24 : decode cX7_yearsByPlan 24 = .ok (.bipush 39, 2) := by decide +kernel
theorem dX7_yearsByPlan_26 : decode cX7_yearsByPlan 26 = .ok (.if_icmp .gt 54, 3) := by decide +kernel
theorem dX7_yearsByPlan_29 : decode cX7_yearsByPlan 29 = .ok (.aload_n 1, 1) := by decide +kernel
theorem dX7_yearsByPlan_30 : decode cX7_yearsByPlan 30 = .ok (.iconst 0, 1) := by decide +kernel
theorem dX7_yearsByPlan_31 : decode cX7_yearsByPlan 31 = .ok (.invokevirtual 106, 3) := by decide +kernel
theorem dX7_yearsByPlan_34 : decode cX7_yearsByPlan 34 = .ok (.istore 7, 2) := by decide +kernel
theorem dX7_yearsByPlan_36 : decode cX7_yearsByPlan 36 = .ok (.iload 7, 2) := by decide +kernel
theorem dX7_yearsByPlan_38 : decode cX7_yearsByPlan 38 = .ok (.ifCond .le 22, 3) := by decide +kernel
theorem dX7_yearsByPlan_41 : decode cX7_yearsByPlan 41 = .ok (.aload_n 1, 1) := by decide +kernel
theorem dX7_yearsByPlan_42 : decode cX7_yearsByPlan 42 = .ok (.iconst 0, 1) := by decide +kernel
theorem dX7_yearsByPlan_43 : decode cX7_yearsByPlan 43 = .ok (.invokevirtual 109, 3) := by decide +kernel
theorem dX7_yearsByPlan_46 : decode cX7_yearsByPlan 46 = .ok (.iload 4, 2) := by decide +kernel
theorem dX7_yearsByPlan_48 : decode cX7_yearsByPlan 48 = .ok (.iload 7, 2) := by decide +kernel
theorem dX7_yearsByPlan_50 : decode cX7_yearsByPlan 50 = .ok (.imul, 1) := by decide +kernel
theorem dX7_yearsByPlan_51 : decode cX7_yearsByPlan 51 = .ok (.if_icmp .lt 9, 3) := by decide +kernel
theorem dX7_yearsByPlan_54 : decode cX7_yearsByPlan 54 = .ok (.iload 6, 2) := by decide +kernel
theorem dX7_yearsByPlan_56 : decode cX7_yearsByPlan 56 = .ok (.iload 5, 2) := by decide +kernel
theorem dX7_yearsByPlan_58 : decode cX7_yearsByPlan 58 = .ok (.isub, 1) := by decide +kernel
theorem dX7_yearsByPlan_59 : decode cX7_yearsByPlan 59 = .ok (.ireturn, 1) := by decide +kernel
theorem dX7_yearsByPlan_60 : decode cX7_yearsByPlan 60 = .ok (.aload_n 0, 1) := by decide +kernel
theorem dX7_yearsByPlan_61 : decode cX7_yearsByPlan 61 = .ok (.aload_n 1, 1) := by decide +kernel
theorem dX7_yearsByPlan_62 : decode cX7_yearsByPlan 62 = .ok (.aload_n 2, 1) := by decide +kernel
theorem dX7_yearsByPlan_63 : decode cX7_yearsByPlan 63 = .ok (.iload_n 3, 1) := by decide +kernel
theorem dX7_yearsByPlan_64 : decode cX7_yearsByPlan 64 = .ok (.invokevirtual 112, 3) := by decide +kernel
theorem dX7_yearsByPlan_67 : decode cX7_yearsByPlan 67 = .ok (.aload_n 2, 1) := by decide +kernel
theorem dX7_yearsByPlan_68 : decode cX7_yearsByPlan 68 = .ok (.aload_n 1, 1) := by decide +kernel
theorem dX7_yearsByPlan_69 : decode cX7_yearsByPlan 69 = .ok (.iconst 1, 1) := by decide +kernel
theorem dX7_yearsByPlan_70 : decode cX7_yearsByPlan 70 = .ok (.invokevirtual 116, 3) := by decide +kernel
theorem dX7_yearsByPlan_73 : decode cX7_yearsByPlan 73 = .ok (.pop, 1) := by decide +kernel
theorem dX7_yearsByPlan_74 : decode cX7_yearsByPlan 74 = .ok (.iinc 6 1, 3) := by decide +kernel
theorem dX7_yearsByPlan_77 : decode cX7_yearsByPlan 77 = .ok (.goto (-55), 3) := by decide +kernel
theorem dX7_yearsByPlan_80 : decode cX7_yearsByPlan 80 = .ok (.iconst (-1), 1) := by decide +kernel
theorem dX7_yearsByPlan_81 : decode cX7_yearsByPlan 81 = .ok (.ireturn, 1) := by decide +kernel
theorem dX7_workByPlan_0 : decode cX7_workByPlan 0 = .ok (.iconst 0, 1) := by decide +kernel
theorem dX7_workByPlan_1 : decode cX7_workByPlan 1 = .ok (.istore 4, 2) := by decide +kernel
theorem dX7_workByPlan_3 : decode cX7_workByPlan 3 = .ok (.iload 4, 2) := by decide +kernel
theorem dX7_workByPlan_5 : decode cX7_workByPlan 5 = .ok (.aload_n 1, 1) := by decide +kernel
theorem dX7_workByPlan_6 : decode cX7_workByPlan 6 = .ok (.getfield 43, 3) := by decide +kernel
theorem dX7_workByPlan_9 : decode cX7_workByPlan 9 = .ok (.getfield 49, 3) := by decide +kernel
theorem dX7_workByPlan_12 : decode cX7_workByPlan 12 = .ok (.iconst 0, 1) := by decide +kernel
theorem dX7_workByPlan_13 : decode cX7_workByPlan 13 = .ok (.iaload, 1) := by decide +kernel
theorem dX7_workByPlan_14 : decode cX7_workByPlan 14 = .ok (.if_icmp .ge 27, 3) := by decide +kernel
theorem dX7_workByPlan_17 : decode cX7_workByPlan 17 = .ok (.aload_n 2, 1) := by decide +kernel
theorem dX7_workByPlan_18 : decode cX7_workByPlan 18 = .ok (.aload_n 1, 1) := by decide +kernel
theorem dX7_workByPlan_19 : decode cX7_workByPlan 19 = .ok (.iload 4, 2) := by decide +kernel
theorem dX7_workByPlan_21 : decode cX7_workByPlan 21 = .ok (.iload_n 3, 1) := by decide +kernel
theorem dX7_workByPlan_22 : decode cX7_workByPlan 22 = .ok (.aload_n 1, 1) := by decide +kernel
theorem dX7_workByPlan_23 : decode cX7_workByPlan 23 = .ok (.getfield 71, 3) := by decide +kernel
theorem dX7_workByPlan_26 : decode cX7_workByPlan 26 = .ok (.iload 4, 2) := by decide +kernel
theorem dX7_workByPlan_28 : decode cX7_workByPlan 28 = .ok (.iaload, 1) := by decide +kernel
theorem dX7_workByPlan_29 : decode cX7_workByPlan 29 = .ok (.invokestatic 74, 3) := by decide +kernel
theorem dX7_workByPlan_32 : decode cX7_workByPlan 32 = .ok (.invokevirtual 119, 3) := by decide +kernel
theorem dX7_workByPlan_35 : decode cX7_workByPlan 35 = .ok (.iinc 4 1, 3) := by decide +kernel
theorem dX7_workByPlan_38 : decode cX7_workByPlan 38 = .ok (.goto (-35), 3) := by decide +kernel
theorem dX7_workByPlan_41 : decode cX7_workByPlan 41 = .ok (.iconst 0, 1) := by decide +kernel
theorem dX7_workByPlan_42 : decode cX7_workByPlan 42 = .ok (.istore 4, 2) := by decide +kernel
theorem dX7_workByPlan_44 : decode cX7_workByPlan 44 = .ok (.iload 4, 2) := by decide +kernel
theorem dX7_workByPlan_46 : decode cX7_workByPlan 46 = .ok (.aload_n 1, 1) := by decide +kernel
theorem dX7_workByPlan_47 : decode cX7_workByPlan 47 = .ok (.getfield 43, 3) := by decide +kernel
theorem dX7_workByPlan_50 : decode cX7_workByPlan 50 = .ok (.getfield 103, 3) := by decide +kernel
theorem dX7_workByPlan_53 : decode cX7_workByPlan 53 = .ok (.if_icmp .ge 17, 3) := by decide +kernel
theorem dX7_workByPlan_56 : decode cX7_workByPlan 56 = .ok (.aload_n 2, 1) := by decide +kernel
theorem dX7_workByPlan_57 : decode cX7_workByPlan 57 = .ok (.aload_n 1, 1) := by decide +kernel
theorem dX7_workByPlan_58 : decode cX7_workByPlan 58 = .ok (.iload 4, 2) := by decide +kernel
theorem dX7_workByPlan_60 : decode cX7_workByPlan 60 = .ok (.invokevirtual 123, 3) := by decide +kernel
theorem dX7_workByPlan_63 : decode cX7_workByPlan 63 = .ok (.pop, 1) := by decide +kernel
theorem dX7_workByPlan_64 : decode cX7_workByPlan 64 = .ok (.iinc 4 1, 3) := by decide +kernel
theorem dX7_workByPlan_67 : decode cX7_workByPlan 67 = .ok (.goto (-23), 3) := by decide +kernel
theorem dX7_workByPlan_70 : decode cX7_workByPlan 70 = .ok (.aload_n 2, 1) := by decide +kernel
theorem dX7_workByPlan_71 : decode cX7_workByPlan 71 = .ok (.aload_n 1, 1) := by decide +kernel
theorem dX7_workByPlan_72 : decode cX7_workByPlan 72 = .ok (.invokevirtual 126, 3) := by decide +kernel
theorem dX7_workByPlan_75 : decode cX7_workByPlan 75 = .ok (.pop, 1) := by decide +kernel
theorem dX7_workByPlan_76 : decode cX7_workByPlan 76 = .ok (.return_, 1) := by decide +kernel
theorem dX7_readPairs_0 : decode cX7_readPairs 0 = .ok (.iload_n 2, 1) := by decide +kernel
theorem dX7_readPairs_1 : decode cX7_readPairs 1 = .ok (.aload_n 1, 1) := by decide +kernel
theorem dX7_readPairs_2 : decode cX7_readPairs 2 = .ok (.arraylength, 1) := by decide +kernel
theorem dX7_readPairs_3 : decode cX7_readPairs 3 = .ok (.if_icmp .gt 20, 3) := by decide +kernel
theorem dX7_readPairs_6 : decode cX7_readPairs 6 = .ok (.iload_n 2, 1) := by decide +kernel
theorem dX7_readPairs_7 : decode cX7_readPairs 7 = .ok (.iconst 2, 1) := by decide +kernel
theorem dX7_readPairs_8 : decode cX7_readPairs 8 = .ok (.if_icmp .lt 15, 3) := by decide +kernel
theorem dX7_readPairs_11 : decode cX7_readPairs 11 = .ok (.iload_n 2, 1) := by decide +kernel
theorem dX7_readPairs_12 : decode cX7_readPairs 12 = .ok (.bipush 40, 2) := by decide +kernel
theorem dX7_readPairs_14 : decode cX7_readPairs 14 = .ok (.if_icmp .gt 9, 3) := by decide +kernel
theorem dX7_readPairs_17 : decode cX7_readPairs 17 = .ok (.iload_n 2, 1) := by decide +kernel
theorem dX7_readPairs_18 : decode cX7_readPairs 18 = .ok (.iconst 2, 1) := by decide +kernel
theorem dX7_readPairs_19 : decode cX7_readPairs 19 = .ok (.irem, 1) := by decide +kernel
theorem dX7_readPairs_20 : decode cX7_readPairs 20 = .ok (.ifCond .eq 5, 3) := by decide +kernel
theorem dX7_readPairs_23 : decode cX7_readPairs 23 = .ok (.iconst 0, 1) := by decide +kernel
theorem dX7_readPairs_24 : decode cX7_readPairs 24 = .ok (.ireturn, 1) := by decide +kernel
theorem dX7_readPairs_25 : decode cX7_readPairs 25 = .ok (.iconst 0, 1) := by decide +kernel
theorem dX7_readPairs_26 : decode cX7_readPairs 26 = .ok (.istore_n 3, 1) := by decide +kernel
theorem dX7_readPairs_27 : decode cX7_readPairs 27 = .ok (.iload_n 3, 1) := by decide +kernel
theorem dX7_readPairs_28 : decode cX7_readPairs 28 = .ok (.iload_n 2, 1) := by decide +kernel
theorem dX7_readPairs_29 : decode cX7_readPairs 29 = .ok (.if_icmp .ge 20, 3) := by decide +kernel
theorem dX7_readPairs_32 : decode cX7_readPairs 32 = .ok (.aload_n 1, 1) := by decide +kernel
theorem dX7_readPairs_33 : decode cX7_readPairs 33 = .ok (.iload_n 3, 1) := by decide +kernel
theorem dX7_readPairs_34 : decode cX7_readPairs 34 = .ok (.iaload, 1) := by decide +kernel
theorem dX7_readPairs_35 : decode cX7_readPairs 35 = .ok (.invokestatic 130, 3) := by decide +kernel
theorem dX7_readPairs_38 : decode cX7_readPairs 38 = .ok (.ifCond .eq 5, 3) := by decide +kernel
theorem dX7_readPairs_41 : decode cX7_readPairs 41 = .ok (.iconst 0, 1) := by decide +kernel
theorem dX7_readPairs_42 : decode cX7_readPairs 42 = .ok (.ireturn, 1) := by decide +kernel
theorem dX7_readPairs_43 : decode cX7_readPairs 43 = .ok (.iinc 3 2, 3) := by decide +kernel
theorem dX7_readPairs_46 : decode cX7_readPairs 46 = .ok (.goto (-19), 3) := by decide +kernel
theorem dX7_readPairs_49 : decode cX7_readPairs 49 = .ok (.aload_n 0, 1) := by decide +kernel
theorem dX7_readPairs_50 : decode cX7_readPairs 50 = .ok (.getfield 30, 3) := by decide +kernel
theorem dX7_readPairs_53 : decode cX7_readPairs 53 = .ok (.iconst 0, 1) := by decide +kernel
theorem dX7_readPairs_54 : decode cX7_readPairs 54 = .ok (.invokestatic 134, 3) := by decide +kernel
theorem dX7_readPairs_57 : decode cX7_readPairs 57 = .ok (.aload_n 0, 1) := by decide +kernel
theorem dX7_readPairs_58 : decode cX7_readPairs 58 = .ok (.iconst 0, 1) := by decide +kernel
theorem dX7_readPairs_59 : decode cX7_readPairs 59 = .ok (.putfield 140, 3) := by decide +kernel
theorem dX7_readPairs_62 : decode cX7_readPairs 62 = .ok (.iconst 0, 1) := by decide +kernel
theorem dX7_readPairs_63 : decode cX7_readPairs 63 = .ok (.istore_n 3, 1) := by decide +kernel
theorem dX7_readPairs_64 : decode cX7_readPairs 64 = .ok (.iload_n 3, 1) := by decide +kernel
theorem dX7_readPairs_65 : decode cX7_readPairs 65 = .ok (.iload_n 2, 1) := by decide +kernel
theorem dX7_readPairs_66 : decode cX7_readPairs 66 = .ok (.if_icmp .ge 39, 3) := by decide +kernel
theorem dX7_readPairs_69 : decode cX7_readPairs 69 = .ok (.aload_n 0, 1) := by decide +kernel
theorem dX7_readPairs_70 : decode cX7_readPairs 70 = .ok (.getfield 30, 3) := by decide +kernel
theorem dX7_readPairs_73 : decode cX7_readPairs 73 = .ok (.aload_n 1, 1) := by decide +kernel
theorem dX7_readPairs_74 : decode cX7_readPairs 74 = .ok (.iload_n 3, 1) := by decide +kernel
theorem dX7_readPairs_75 : decode cX7_readPairs 75 = .ok (.iaload, 1) := by decide +kernel
theorem dX7_readPairs_76 : decode cX7_readPairs 76 = .ok (.dup2, 1) := by decide +kernel
theorem dX7_readPairs_77 : decode cX7_readPairs 77 = .ok (.iaload, 1) := by decide +kernel
theorem dX7_readPairs_78 : decode cX7_readPairs 78 = .ok (.aload_n 1, 1) := by decide +kernel
theorem dX7_readPairs_79 : decode cX7_readPairs 79 = .ok (.iload_n 3, 1) := by decide +kernel
theorem dX7_readPairs_80 : decode cX7_readPairs 80 = .ok (.iconst 1, 1) := by decide +kernel
theorem dX7_readPairs_81 : decode cX7_readPairs 81 = .ok (.iadd, 1) := by decide +kernel
theorem dX7_readPairs_82 : decode cX7_readPairs 82 = .ok (.iaload, 1) := by decide +kernel
theorem dX7_readPairs_83 : decode cX7_readPairs 83 = .ok (.iadd, 1) := by decide +kernel
theorem dX7_readPairs_84 : decode cX7_readPairs 84 = .ok (.iastore, 1) := by decide +kernel
theorem dX7_readPairs_85 : decode cX7_readPairs 85 = .ok (.aload_n 0, 1) := by decide +kernel
theorem dX7_readPairs_86 : decode cX7_readPairs 86 = .ok (.dup, 1) := by decide +kernel
theorem dX7_readPairs_87 : decode cX7_readPairs 87 = .ok (.getfield 140, 3) := by decide +kernel
theorem dX7_readPairs_90 : decode cX7_readPairs 90 = .ok (.aload_n 1, 1) := by decide +kernel
theorem dX7_readPairs_91 : decode cX7_readPairs 91 = .ok (.iload_n 3, 1) := by decide +kernel
theorem dX7_readPairs_92 : decode cX7_readPairs 92 = .ok (.iconst 1, 1) := by decide +kernel
theorem dX7_readPairs_93 : decode cX7_readPairs 93 = .ok (.iadd, 1) := by decide +kernel
theorem dX7_readPairs_94 : decode cX7_readPairs 94 = .ok (.iaload, 1) := by decide +kernel
theorem dX7_readPairs_95 : decode cX7_readPairs 95 = .ok (.iadd, 1) := by decide +kernel
theorem dX7_readPairs_96 : decode cX7_readPairs 96 = .ok (.putfield 140, 3) := by decide +kernel
theorem dX7_readPairs_99 : decode cX7_readPairs 99 = .ok (.iinc 3 2, 3) := by decide +kernel
theorem dX7_readPairs_102 : decode cX7_readPairs 102 = .ok (.goto (-38), 3) := by decide +kernel
theorem dX7_readPairs_105 : decode cX7_readPairs 105 = .ok (.aload_n 0, 1) := by decide +kernel
theorem dX7_readPairs_106 : decode cX7_readPairs 106 = .ok (.getfield 140, 3) := by decide +kernel
theorem dX7_readPairs_109 : decode cX7_readPairs 109 = .ok (.ifCond .le 7, 3) := by decide +kernel
theorem dX7_readPairs_112 : decode cX7_readPairs 112 = .ok (.iconst 1, 1) := by decide +kernel
theorem dX7_readPairs_113 : decode cX7_readPairs 113 = .ok (.goto 4, 3) := by decide +kernel
theorem dX7_readPairs_116 : decode cX7_readPairs 116 = .ok (.iconst 0, 1) := by decide +kernel
theorem dX7_readPairs_117 : decode cX7_readPairs 117 = .ok (.ireturn, 1) := by decide +kernel
theorem dX7_casksOfPairs_0 : decode cX7_casksOfPairs 0 = .ok (.iconst 0, 1) := by decide +kernel
theorem dX7_casksOfPairs_1 : decode cX7_casksOfPairs 1 = .ok (.istore_n 3, 1) := by decide +kernel
theorem dX7_casksOfPairs_2 : decode cX7_casksOfPairs 2 = .ok (.iconst 0, 1) := by decide +kernel
theorem dX7_casksOfPairs_3 : decode cX7_casksOfPairs 3 = .ok (.istore 4, 2) := by decide +kernel
theorem dX7_casksOfPairs_5 : decode cX7_casksOfPairs 5 = .ok (.iload 4, 2) := by decide +kernel
theorem dX7_casksOfPairs_7 : decode cX7_casksOfPairs 7 = .ok (.aload_n 1, 1) := by decide +kernel
theorem dX7_casksOfPairs_8 : decode cX7_casksOfPairs 8 = .ok (.getfield 43, 3) := by decide +kernel
theorem dX7_casksOfPairs_11 : decode cX7_casksOfPairs 11 = .ok (.getfield 143, 3) := by decide +kernel
theorem dX7_casksOfPairs_14 : decode cX7_casksOfPairs 14 = .ok (.if_icmp .ge 45, 3) := by decide +kernel
theorem dX7_casksOfPairs_17 : decode cX7_casksOfPairs 17 = .ok (.aload_n 1, 1) := by decide +kernel
theorem dX7_casksOfPairs_18 : decode cX7_casksOfPairs 18 = .ok (.getfield 71, 3) := by decide +kernel
theorem dX7_casksOfPairs_21 : decode cX7_casksOfPairs 21 = .ok (.iload 4, 2) := by decide +kernel
theorem dX7_casksOfPairs_23 : decode cX7_casksOfPairs 23 = .ok (.iaload, 1) := by decide +kernel
theorem dX7_casksOfPairs_24 : decode cX7_casksOfPairs 24 = .ok (.aload_n 0, 1) := by decide +kernel
theorem dX7_casksOfPairs_25 : decode cX7_casksOfPairs 25 = .ok (.getfield 140, 3) := by decide +kernel
theorem dX7_casksOfPairs_28 : decode cX7_casksOfPairs 28 = .ok (.if_icmp .lt 25, 3) := by decide +kernel
theorem dX7_casksOfPairs_31 : decode cX7_casksOfPairs 31 = .ok (.aload_n 0, 1) := by decide +kernel
theorem dX7_casksOfPairs_32 : decode cX7_casksOfPairs 32 = .ok (.aload_n 1, 1) := by decide +kernel
theorem dX7_casksOfPairs_33 : decode cX7_casksOfPairs 33 = .ok (.getfield 77, 3) := by decide +kernel
theorem dX7_casksOfPairs_36 : decode cX7_casksOfPairs 36 = .ok (.iload 4, 2) := by decide +kernel
theorem dX7_casksOfPairs_38 : decode cX7_casksOfPairs 38 = .ok (.aaload, 1) := by decide +kernel
theorem dX7_casksOfPairs_39 : decode cX7_casksOfPairs 39 = .ok (.aload_n 2, 1) := by decide +kernel
theorem dX7_casksOfPairs_40 : decode cX7_casksOfPairs 40 = .ok (.invokevirtual 146, 3) := by decide +kernel
theorem dX7_casksOfPairs_43 : decode cX7_casksOfPairs 43 = .ok (.ifCond .eq 10, 3) := by decide +kernel
theorem dX7_casksOfPairs_46 : decode cX7_casksOfPairs 46 = .ok (.iload_n 3, 1) := by decide +kernel
theorem dX7_casksOfPairs_47 : decode cX7_casksOfPairs 47 = .ok (.iconst 1, 1) := by decide +kernel
theorem dX7_casksOfPairs_48 : decode cX7_casksOfPairs 48 = .ok (.iload 4, 2) := by decide +kernel
theorem dX7_casksOfPairs_50 : decode cX7_casksOfPairs 50 = .ok (.ishl, 1) := by decide +kernel
theorem dX7_casksOfPairs_51 : decode cX7_casksOfPairs 51 = .ok (.ior, 1) := by decide +kernel
theorem dX7_casksOfPairs_52 : decode cX7_casksOfPairs 52 = .ok (.istore_n 3, 1) := by decide +kernel
theorem dX7_casksOfPairs_53 : decode cX7_casksOfPairs 53 = .ok (.iinc 4 1, 3) := by decide +kernel
theorem dX7_casksOfPairs_56 : decode cX7_casksOfPairs 56 = .ok (.goto (-51), 3) := by decide +kernel
theorem dX7_casksOfPairs_59 : decode cX7_casksOfPairs 59 = .ok (.iload_n 3, 1) := by decide +kernel
theorem dX7_casksOfPairs_60 : decode cX7_casksOfPairs 60 = .ok (.ifCond .eq 13, 3) := by decide +kernel
theorem dX7_casksOfPairs_63 : decode cX7_casksOfPairs 63 = .ok (.aload_n 0, 1) := by decide +kernel
theorem dX7_casksOfPairs_64 : decode cX7_casksOfPairs 64 = .ok (.aload_n 0, 1) := by decide +kernel
theorem dX7_casksOfPairs_65 : decode cX7_casksOfPairs 65 = .ok (.aload_n 1, 1) := by decide +kernel
theorem dX7_casksOfPairs_66 : decode cX7_casksOfPairs 66 = .ok (.iload_n 3, 1) := by decide +kernel
theorem dX7_casksOfPairs_67 : decode cX7_casksOfPairs 67 = .ok (.invokevirtual 150, 3) := by decide +kernel
theorem dX7_casksOfPairs_70 : decode cX7_casksOfPairs 70 = .ok (.putfield 15, 3) := by decide +kernel
theorem dX7_casksOfPairs_73 : decode cX7_casksOfPairs 73 = .ok (.iload_n 3, 1) := by decide +kernel
theorem dX7_casksOfPairs_74 : decode cX7_casksOfPairs 74 = .ok (.ireturn, 1) := by decide +kernel
theorem dX7_givesPairs_0 : decode cX7_givesPairs 0 = .ok (.aload_n 2, 1) := by decide +kernel
theorem dX7_givesPairs_1 : decode cX7_givesPairs 1 = .ok (.aload_n 1, 1) := by decide +kernel
theorem dX7_givesPairs_2 : decode cX7_givesPairs 2 = .ok (.bipush 40, 2) := by decide +kernel
theorem dX7_givesPairs_4 : decode cX7_givesPairs 4 = .ok (.aload_n 0, 1) := by decide +kernel
theorem dX7_givesPairs_5 : decode cX7_givesPairs 5 = .ok (.getfield 140, 3) := by decide +kernel
theorem dX7_givesPairs_8 : decode cX7_givesPairs 8 = .ok (.aload_n 2, 1) := by decide +kernel
theorem dX7_givesPairs_9 : decode cX7_givesPairs 9 = .ok (.getfield 80, 3) := by decide +kernel
theorem dX7_givesPairs_12 : decode cX7_givesPairs 12 = .ok (.invokevirtual 85, 3) := by decide +kernel
theorem dX7_givesPairs_15 : decode cX7_givesPairs 15 = .ok (.iconst 0, 1) := by decide +kernel
theorem dX7_givesPairs_16 : decode cX7_givesPairs 16 = .ok (.istore_n 3, 1) := by decide +kernel
theorem dX7_givesPairs_17 : decode cX7_givesPairs 17 = .ok (.iload_n 3, 1) := by decide +kernel
theorem dX7_givesPairs_18 : decode cX7_givesPairs 18 = .ok (.bipush 40, 2) := by decide +kernel
theorem dX7_givesPairs_20 : decode cX7_givesPairs 20 = .ok (.if_icmp .ge 26, 3) := by decide +kernel
theorem dX7_givesPairs_23 : decode cX7_givesPairs 23 = .ok (.aload_n 2, 1) := by decide +kernel
theorem dX7_givesPairs_24 : decode cX7_givesPairs 24 = .ok (.getfield 80, 3) := by decide +kernel
theorem dX7_givesPairs_27 : decode cX7_givesPairs 27 = .ok (.iload_n 3, 1) := by decide +kernel
theorem dX7_givesPairs_28 : decode cX7_givesPairs 28 = .ok (.iaload, 1) := by decide +kernel
theorem dX7_givesPairs_29 : decode cX7_givesPairs 29 = .ok (.aload_n 0, 1) := by decide +kernel
theorem dX7_givesPairs_30 : decode cX7_givesPairs 30 = .ok (.getfield 30, 3) := by decide +kernel
theorem dX7_givesPairs_33 : decode cX7_givesPairs 33 = .ok (.iload_n 3, 1) := by decide +kernel
theorem dX7_givesPairs_34 : decode cX7_givesPairs 34 = .ok (.iaload, 1) := by decide +kernel
theorem dX7_givesPairs_35 : decode cX7_givesPairs 35 = .ok (.if_icmp .eq 5, 3) := by decide +kernel
theorem dX7_givesPairs_38 : decode cX7_givesPairs 38 = .ok (.iconst 0, 1) := by decide +kernel
theorem dX7_givesPairs_39 : decode cX7_givesPairs 39 = .ok (.ireturn, 1) := by decide +kernel
theorem dX7_givesPairs_40 : decode cX7_givesPairs 40 = .ok (.iinc 3 1, 3) := by decide +kernel
theorem dX7_givesPairs_43 : decode cX7_givesPairs 43 = .ok (.goto (-26), 3) := by decide +kernel
theorem dX7_givesPairs_46 : decode cX7_givesPairs 46 = .ok (.iconst 1, 1) := by decide +kernel
theorem dX7_givesPairs_47 : decode cX7_givesPairs 47 = .ok (.ireturn, 1) := by decide +kernel
theorem dX7_bestQuestion_0 : decode cX7_bestQuestion 0 = .ok (.iconst 0, 1) := by decide +kernel
theorem dX7_bestQuestion_1 : decode cX7_bestQuestion 1 = .ok (.istore_n 3, 1) := by decide +kernel
theorem dX7_bestQuestion_2 : decode cX7_bestQuestion 2 = .ok (.bipush 21, 2) := by decide +kernel
theorem dX7_bestQuestion_4 : decode cX7_bestQuestion 4 = .ok (.istore 4, 2) := by decide +kernel
theorem dX7_bestQuestion_6 : decode cX7_bestQuestion 6 = .ok (.iconst 0, 1) := by decide +kernel
theorem dX7_bestQuestion_7 : decode cX7_bestQuestion 7 = .ok (.istore 5, 2) := by decide +kernel
theorem dX7_bestQuestion_9 : decode cX7_bestQuestion 9 = .ok (.iload 5, 2) := by decide +kernel
theorem dX7_bestQuestion_11 : decode cX7_bestQuestion 11 = .ok (.bipush 40, 2) := by decide +kernel
theorem dX7_bestQuestion_13 : decode cX7_bestQuestion 13 = .ok (.if_icmp .ge 33, 3) := by decide +kernel
theorem dX7_bestQuestion_16 : decode cX7_bestQuestion 16 = .ok (.aload_n 0, 1) := by decide +kernel
theorem dX7_bestQuestion_17 : decode cX7_bestQuestion 17 = .ok (.aload_n 1, 1) := by decide +kernel
theorem dX7_bestQuestion_18 : decode cX7_bestQuestion 18 = .ok (.iload_n 2, 1) := by decide +kernel
theorem dX7_bestQuestion_19 : decode cX7_bestQuestion 19 = .ok (.iload 5, 2) := by decide +kernel
theorem dX7_bestQuestion_21 : decode cX7_bestQuestion 21 = .ok (.invokevirtual 153, 3) := by decide +kernel
theorem dX7_bestQuestion_24 : decode cX7_bestQuestion 24 = .ok (.istore 6, 2) := by decide +kernel
theorem dX7_bestQuestion_26 : decode cX7_bestQuestion 26 = .ok (.iload 6, 2) := by decide +kernel
theorem dX7_bestQuestion_28 : decode cX7_bestQuestion 28 = .ok (.iload 4, 2) := by decide +kernel
theorem dX7_bestQuestion_30 : decode cX7_bestQuestion 30 = .ok (.if_icmp .ge 10, 3) := by decide +kernel
theorem dX7_bestQuestion_33 : decode cX7_bestQuestion 33 = .ok (.iload 6, 2) := by decide +kernel
theorem dX7_bestQuestion_35 : decode cX7_bestQuestion 35 = .ok (.istore 4, 2) := by decide +kernel
theorem dX7_bestQuestion_37 : decode cX7_bestQuestion 37 = .ok (.iload 5, 2) := by decide +kernel
theorem dX7_bestQuestion_39 : decode cX7_bestQuestion 39 = .ok (.istore_n 3, 1) := by decide +kernel
theorem dX7_bestQuestion_40 : decode cX7_bestQuestion 40 = .ok (.iinc 5 1, 3) := by decide +kernel
theorem dX7_bestQuestion_43 : decode cX7_bestQuestion 43 = .ok (.goto (-34), 3) := by decide +kernel
theorem dX7_bestQuestion_46 : decode cX7_bestQuestion 46 = .ok (.iload_n 3, 1) := by decide +kernel
theorem dX7_bestQuestion_47 : decode cX7_bestQuestion 47 = .ok (.ireturn, 1) := by decide +kernel
theorem dX7_mostAlike_0 : decode cX7_mostAlike 0 = .ok (.iconst 0, 1) := by decide +kernel
theorem dX7_mostAlike_1 : decode cX7_mostAlike 1 = .ok (.istore 4, 2) := by decide +kernel
theorem dX7_mostAlike_3 : decode cX7_mostAlike 3 = .ok (.iconst 0, 1) := by decide +kernel
theorem dX7_mostAlike_4 : decode cX7_mostAlike 4 = .ok (.istore 5, 2) := by decide +kernel
theorem dX7_mostAlike_6 : decode cX7_mostAlike 6 = .ok (.iload 5, 2) := by decide +kernel
theorem dX7_mostAlike_8 : decode cX7_mostAlike 8 = .ok (.aload_n 1, 1) := by decide +kernel
theorem dX7_mostAlike_9 : decode cX7_mostAlike 9 = .ok (.getfield 43, 3) := by decide +kernel
theorem dX7_mostAlike_12 : decode cX7_mostAlike 12 = .ok (.getfield 143, 3) := by decide +kernel
theorem dX7_mostAlike_15 : decode cX7_mostAlike 15 = .ok (.if_icmp .ge 87, 3) := by decide +kernel
theorem dX7_mostAlike_18 : decode cX7_mostAlike 18 = .ok (.iconst 0, 1) := by decide +kernel
theorem dX7_mostAlike_19 : decode cX7_mostAlike 19 = .ok (.istore 6, 2) := by decide +kernel
theorem dX7_mostAlike_21 : decode cX7_mostAlike 21 = .ok (.iload 5, 2) := by decide +kernel
theorem dX7_mostAlike_23 : decode cX7_mostAlike 23 = .ok (.istore 7, 2) := by decide +kernel
theorem dX7_mostAlike_25 : decode cX7_mostAlike 25 = .ok (.iload 7, 2) := by decide +kernel
theorem dX7_mostAlike_27 : decode cX7_mostAlike 27 = .ok (.aload_n 1, 1) := by decide +kernel
theorem dX7_mostAlike_28 : decode cX7_mostAlike 28 = .ok (.getfield 43, 3) := by decide +kernel
theorem dX7_mostAlike_31 : decode cX7_mostAlike 31 = .ok (.getfield 143, 3) := by decide +kernel
theorem dX7_mostAlike_34 : decode cX7_mostAlike 34 = .ok (.if_icmp .ge 53, 3) := by decide +kernel
theorem dX7_mostAlike_37 : decode cX7_mostAlike 37 = .ok (.iload_n 2, 1) := by decide +kernel
theorem dX7_mostAlike_38 : decode cX7_mostAlike 38 = .ok (.iload 5, 2) := by decide +kernel
theorem dX7_mostAlike_40 : decode cX7_mostAlike 40 = .ok (.ishr, 1) := by decide +kernel
theorem dX7_mostAlike_41 : decode cX7_mostAlike 41 = .ok (.iconst 1, 1) := by decide +kernel
theorem dX7_mostAlike_42 : decode cX7_mostAlike 42 = .ok (.iand, 1) := by decide +kernel
theorem dX7_mostAlike_43 : decode cX7_mostAlike 43 = .ok (.iconst 1, 1) := by decide +kernel
theorem dX7_mostAlike_44 : decode cX7_mostAlike 44 = .ok (.if_icmp .ne 43, 3) := by decide +kernel
theorem dX7_mostAlike_47 : decode cX7_mostAlike 47 = .ok (.iload_n 2, 1) := by decide +kernel
theorem dX7_mostAlike_48 : decode cX7_mostAlike 48 = .ok (.iload 7, 2) := by decide +kernel
theorem dX7_mostAlike_50 : decode cX7_mostAlike 50 = .ok (.ishr, 1) := by decide +kernel
theorem dX7_mostAlike_51 : decode cX7_mostAlike 51 = .ok (.iconst 1, 1) := by decide +kernel
theorem dX7_mostAlike_52 : decode cX7_mostAlike 52 = .ok (.iand, 1) := by decide +kernel
theorem dX7_mostAlike_53 : decode cX7_mostAlike 53 = .ok (.iconst 1, 1) := by decide +kernel
theorem dX7_mostAlike_54 : decode cX7_mostAlike 54 = .ok (.if_icmp .ne 27, 3) := by decide +kernel
theorem dX7_mostAlike_57 : decode cX7_mostAlike 57 = .ok (.aload_n 1, 1) := by decide +kernel
theorem dX7_mostAlike_58 : decode cX7_mostAlike 58 = .ok (.getfield 77, 3) := by decide +kernel
theorem dX7_mostAlike_61 : decode cX7_mostAlike 61 = .ok (.iload 7, 2) := by decide +kernel
theorem dX7_mostAlike_63 : decode cX7_mostAlike 63 = .ok (.aaload, 1) := by decide +kernel
theorem dX7_mostAlike_64 : decode cX7_mostAlike 64 = .ok (.iload_n 3, 1) := by decide +kernel
theorem dX7_mostAlike_65 : decode cX7_mostAlike 65 = .ok (.iaload, 1) := by decide +kernel
theorem dX7_mostAlike_66 : decode cX7_mostAlike 66 = .ok (.aload_n 1, 1) := by decide +kernel
theorem dX7_mostAlike_67 : decode cX7_mostAlike 67 = .ok (.getfield 77, 3) := by decide +kernel
theorem dX7_mostAlike_70 : decode cX7_mostAlike 70 = .ok (.iload 5, 2) := by decide +kernel
theorem dX7_mostAlike_72 : decode cX7_mostAlike 72 = .ok (.aaload, 1) := by decide +kernel
theorem dX7_mostAlike_73 : decode cX7_mostAlike 73 = .ok (.iload_n 3, 1) := by decide +kernel
theorem dX7_mostAlike_74 : decode cX7_mostAlike 74 = .ok (.iaload, 1) := by decide +kernel
theorem dX7_mostAlike_75 : decode cX7_mostAlike 75 = .ok (.if_icmp .ne 6, 3) := by decide +kernel
theorem dX7_mostAlike_78 : decode cX7_mostAlike 78 = .ok (.iinc 6 1, 3) := by decide +kernel
theorem dX7_mostAlike_81 : decode cX7_mostAlike 81 = .ok (.iinc 7 1, 3) := by decide +kernel
theorem dX7_mostAlike_84 : decode cX7_mostAlike 84 = .ok (.goto (-59), 3) := by decide +kernel
theorem dX7_mostAlike_87 : decode cX7_mostAlike 87 = .ok (.iload 4, 2) := by decide +kernel
theorem dX7_mostAlike_89 : decode cX7_mostAlike 89 = .ok (.iload 6, 2) := by decide +kernel
theorem dX7_mostAlike_91 : decode cX7_mostAlike 91 = .ok (.invokestatic 157, 3) := by decide +kernel
theorem dX7_mostAlike_94 : decode cX7_mostAlike 94 = .ok (.istore 4, 2) := by decide +kernel
theorem dX7_mostAlike_96 : decode cX7_mostAlike 96 = .ok (.iinc 5 1, 3) := by decide +kernel
theorem dX7_mostAlike_99 : decode cX7_mostAlike 99 = .ok (.goto (-93), 3) := by decide +kernel
theorem dX7_mostAlike_102 : decode cX7_mostAlike 102 = .ok (.iload 4, 2) := by decide +kernel
theorem dX7_mostAlike_104 : decode cX7_mostAlike 104 = .ok (.ireturn, 1) := by decide +kernel
theorem dX7_fewestCasks_0 : decode cX7_fewestCasks 0 = .ok (.aload_n 1, 1) := by decide +kernel
theorem dX7_fewestCasks_1 : decode cX7_fewestCasks 1 = .ok (.getfield 43, 3) := by decide +kernel
theorem dX7_fewestCasks_4 : decode cX7_fewestCasks 4 = .ok (.getfield 143, 3) := by decide +kernel
theorem dX7_fewestCasks_7 : decode cX7_fewestCasks 7 = .ok (.istore 4, 2) := by decide +kernel
theorem dX7_fewestCasks_9 : decode cX7_fewestCasks 9 = .ok (.iconst 0, 1) := by decide +kernel
theorem dX7_fewestCasks_10 : decode cX7_fewestCasks 10 = .ok (.istore 5, 2) := by decide +kernel
theorem dX7_fewestCasks_12 : decode cX7_fewestCasks 12 = .ok (.iload 5, 2) := by decide +kernel
theorem dX7_fewestCasks_14 : decode cX7_fewestCasks 14 = .ok (.iload 4, 2) := by decide +kernel
theorem dX7_fewestCasks_16 : decode cX7_fewestCasks 16 = .ok (.if_icmp .ge 23, 3) := by decide +kernel
theorem dX7_fewestCasks_19 : decode cX7_fewestCasks 19 = .ok (.aload_n 0, 1) := by decide +kernel
theorem dX7_fewestCasks_20 : decode cX7_fewestCasks 20 = .ok (.getfield 33, 3) := by decide +kernel
theorem dX7_fewestCasks_23 : decode cX7_fewestCasks 23 = .ok (.iload 5, 2) := by decide +kernel
theorem dX7_fewestCasks_25 : decode cX7_fewestCasks 25 = .ok (.aload_n 1, 1) := by decide +kernel
theorem dX7_fewestCasks_26 : decode cX7_fewestCasks 26 = .ok (.iload 5, 2) := by decide +kernel
theorem dX7_fewestCasks_28 : decode cX7_fewestCasks 28 = .ok (.iload_n 3, 1) := by decide +kernel
theorem dX7_fewestCasks_29 : decode cX7_fewestCasks 29 = .ok (.invokevirtual 160, 3) := by decide +kernel
theorem dX7_fewestCasks_32 : decode cX7_fewestCasks 32 = .ok (.iastore, 1) := by decide +kernel
theorem dX7_fewestCasks_33 : decode cX7_fewestCasks 33 = .ok (.iinc 5 1, 3) := by decide +kernel
theorem dX7_fewestCasks_36 : decode cX7_fewestCasks 36 = .ok (.goto (-24), 3) := by decide +kernel
theorem dX7_fewestCasks_39 : decode cX7_fewestCasks 39 = .ok (.iconst 1, 1) := by decide +kernel
theorem dX7_fewestCasks_40 : decode cX7_fewestCasks 40 = .ok (.istore 5, 2) := by decide +kernel
theorem dX7_fewestCasks_42 : decode cX7_fewestCasks 42 = .ok (.iload 5, 2) := by decide +kernel
theorem dX7_fewestCasks_44 : decode cX7_fewestCasks 44 = .ok (.iload 4, 2) := by decide +kernel
theorem dX7_fewestCasks_46 : decode cX7_fewestCasks 46 = .ok (.if_icmp .gt 37, 3) := by decide +kernel
theorem dX7_fewestCasks_49 : decode cX7_fewestCasks 49 = .ok (.aload_n 0, 1) := by decide +kernel
theorem dX7_fewestCasks_50 : decode cX7_fewestCasks 50 = .ok (.iload 4, 2) := by decide +kernel
theorem dX7_fewestCasks_52 : decode cX7_fewestCasks 52 = .ok (.iload 5, 2) := by decide +kernel
theorem dX7_fewestCasks_54 : decode cX7_fewestCasks 54 = .ok (.invokevirtual 163, 3) := by decide +kernel
theorem dX7_fewestCasks_57 : decode cX7_fewestCasks 57 = .ok (.iload_n 2, 1) := by decide +kernel
theorem dX7_fewestCasks_58 : decode cX7_fewestCasks 58 = .ok (.if_icmp .lt 19, 3) := by decide +kernel
theorem dX7_fewestCasks_61 : decode cX7_fewestCasks 61 = .ok (.aload_n 0, 1) := by decide +kernel
theorem dX7_fewestCasks_62 : decode cX7_fewestCasks 62 = .ok (.aload_n 0, 1) := by decide +kernel
theorem dX7_fewestCasks_63 : decode cX7_fewestCasks 63 = .ok (.iload 4, 2) := by decide +kernel
theorem dX7_fewestCasks_65 : decode cX7_fewestCasks 65 = .ok (.iload 5, 2) := by decide +kernel
theorem dX7_fewestCasks_67 : decode cX7_fewestCasks 67 = .ok (.iload_n 2, 1) := by decide +kernel
theorem dX7_fewestCasks_68 : decode cX7_fewestCasks 68 = .ok (.invokevirtual 166, 3) := by decide +kernel
theorem dX7_fewestCasks_71 : decode cX7_fewestCasks 71 = .ok (.putfield 19, 3) := by decide +kernel
theorem dX7_fewestCasks_74 : decode cX7_fewestCasks 74 = .ok (.iload 5, 2) := by decide +kernel
theorem dX7_fewestCasks_76 : decode cX7_fewestCasks 76 = .ok (.ireturn, 1) := by decide +kernel
theorem dX7_fewestCasks_77 : decode cX7_fewestCasks 77 = .ok (.iinc 5 1, 3) := by decide +kernel
theorem dX7_fewestCasks_80 : decode cX7_fewestCasks 80 = .ok (.goto (-38), 3) := by decide +kernel
theorem dX7_fewestCasks_83 : decode cX7_fewestCasks 83 = .ok (.iconst (-1), 1) := by decide +kernel
theorem dX7_fewestCasks_84 : decode cX7_fewestCasks 84 = .ok (.ireturn, 1) := by decide +kernel
theorem dX7_mostOf_0 : decode cX7_mostOf 0 = .ok (.aload_n 0, 1) := by decide +kernel
theorem dX7_mostOf_1 : decode cX7_mostOf 1 = .ok (.getfield 33, 3) := by decide +kernel
theorem dX7_mostOf_4 : decode cX7_mostOf 4 = .ok (.iconst 0, 1) := by decide +kernel
theorem dX7_mostOf_5 : decode cX7_mostOf 5 = .ok (.aload_n 0, 1) := by decide +kernel
theorem dX7_mostOf_6 : decode cX7_mostOf 6 = .ok (.getfield 36, 3) := by decide +kernel
theorem dX7_mostOf_9 : decode cX7_mostOf 9 = .ok (.iconst 0, 1) := by decide +kernel
theorem dX7_mostOf_10 : decode cX7_mostOf 10 = .ok (.bipush 20, 2) := by decide +kernel
theorem dX7_mostOf_12 : decode cX7_mostOf 12 = .ok (.invokestatic 170, 3) := by decide +kernel
theorem dX7_mostOf_15 : decode cX7_mostOf 15 = .ok (.iconst 0, 1) := by decide +kernel
theorem dX7_mostOf_16 : decode cX7_mostOf 16 = .ok (.istore_n 3, 1) := by decide +kernel
theorem dX7_mostOf_17 : decode cX7_mostOf 17 = .ok (.iconst 0, 1) := by decide +kernel
theorem dX7_mostOf_18 : decode cX7_mostOf 18 = .ok (.istore 4, 2) := by decide +kernel
theorem dX7_mostOf_20 : decode cX7_mostOf 20 = .ok (.iload 4, 2) := by decide +kernel
theorem dX7_mostOf_22 : decode cX7_mostOf 22 = .ok (.iload_n 2, 1) := by decide +kernel
theorem dX7_mostOf_23 : decode cX7_mostOf 23 = .ok (.if_icmp .ge 72, 3) := by decide +kernel
theorem dX7_mostOf_26 : decode cX7_mostOf 26 = .ok (.iload 4, 2) := by decide +kernel
theorem dX7_mostOf_28 : decode cX7_mostOf 28 = .ok (.iload_n 1, 1) := by decide +kernel
theorem dX7_mostOf_29 : decode cX7_mostOf 29 = .ok (.if_icmp .ge 66, 3) := by decide +kernel
theorem dX7_mostOf_32 : decode cX7_mostOf 32 = .ok (.iconst 0, 1) := by decide +kernel
theorem dX7_mostOf_33 : decode cX7_mostOf 33 = .ok (.istore 5, 2) := by decide +kernel
theorem dX7_mostOf_35 : decode cX7_mostOf 35 = .ok (.iconst 1, 1) := by decide +kernel
theorem dX7_mostOf_36 : decode cX7_mostOf 36 = .ok (.istore 6, 2) := by decide +kernel
theorem dX7_mostOf_38 : decode cX7_mostOf 38 = .ok (.iload 6, 2) := by decide +kernel
theorem dX7_mostOf_40 : decode cX7_mostOf 40 = .ok (.iload_n 1, 1) := by decide +kernel
theorem dX7_mostOf_41 : decode cX7_mostOf 41 = .ok (.if_icmp .ge 30, 3) := by decide +kernel
theorem dX7_mostOf_44 : decode cX7_mostOf 44 = .ok (.aload_n 0, 1) := by decide +kernel
theorem dX7_mostOf_45 : decode cX7_mostOf 45 = .ok (.getfield 36, 3) := by decide +kernel
theorem dX7_mostOf_48 : decode cX7_mostOf 48 = .ok (.iload 6, 2) := by decide +kernel
theorem dX7_mostOf_50 : decode cX7_mostOf 50 = .ok (.iaload, 1) := by decide +kernel
theorem dX7_mostOf_51 : decode cX7_mostOf 51 = .ok (.aload_n 0, 1) := by decide +kernel
theorem dX7_mostOf_52 : decode cX7_mostOf 52 = .ok (.getfield 36, 3) := by decide +kernel
theorem dX7_mostOf_55 : decode cX7_mostOf 55 = .ok (.iload 5, 2) := by decide +kernel
theorem dX7_mostOf_57 : decode cX7_mostOf 57 = .ok (.iaload, 1) := by decide +kernel
theorem dX7_mostOf_58 : decode cX7_mostOf 58 = .ok (.if_icmp .le 7, 3) := by decide +kernel
theorem dX7_mostOf_61 : decode cX7_mostOf 61 = .ok (.iload 6, 2) := by decide +kernel
theorem dX7_mostOf_63 : decode cX7_mostOf 63 = .ok (.istore 5, 2) := by decide +kernel
theorem dX7_mostOf_65 : decode cX7_mostOf 65 = .ok (.iinc 6 1, 3) := by decide +kernel
theorem dX7_mostOf_68 : decode cX7_mostOf 68 = .ok (.goto (-30), 3) := by decide +kernel
theorem dX7_mostOf_71 : decode cX7_mostOf 71 = .ok (.iload_n 3, 1) := by decide +kernel
theorem dX7_mostOf_72 : decode cX7_mostOf 72 = .ok (.aload_n 0, 1) := by decide +kernel
theorem dX7_mostOf_73 : decode cX7_mostOf 73 = .ok (.getfield 36, 3) := by decide +kernel
theorem dX7_mostOf_76 : decode cX7_mostOf 76 = .ok (.iload 5, 2) := by decide +kernel
theorem dX7_mostOf_78 : decode cX7_mostOf 78 = .ok (.iaload, 1) := by decide +kernel
theorem dX7_mostOf_79 : decode cX7_mostOf 79 = .ok (.iadd, 1) := by decide +kernel
theorem dX7_mostOf_80 : decode cX7_mostOf 80 = .ok (.istore_n 3, 1) := by decide +kernel
theorem dX7_mostOf_81 : decode cX7_mostOf 81 = .ok (.aload_n 0, 1) := by decide +kernel
theorem dX7_mostOf_82 : decode cX7_mostOf 82 = .ok (.getfield 36, 3) := by decide +kernel
theorem dX7_mostOf_85 : decode cX7_mostOf 85 = .ok (.iload 5, 2) := by decide +kernel
theorem dX7_mostOf_87 : decode cX7_mostOf 87 = .ok (.iconst 0, 1) := by decide +kernel
theorem dX7_mostOf_88 : decode cX7_mostOf 88 = .ok (.iastore, 1) := by decide +kernel
theorem dX7_mostOf_89 : decode cX7_mostOf 89 = .ok (.iinc 4 1, 3) := by decide +kernel
theorem dX7_mostOf_92 : decode cX7_mostOf 92 = .ok (.goto (-72), 3) := by decide +kernel
theorem dX7_mostOf_95 : decode cX7_mostOf 95 = .ok (.iload_n 3, 1) := by decide +kernel
theorem dX7_mostOf_96 : decode cX7_mostOf 96 = .ok (.ireturn, 1) := by decide +kernel
theorem dX7_leastBits_0 : decode cX7_leastBits 0 = .ok (.iconst 0, 1) := by decide +kernel
theorem dX7_leastBits_1 : decode cX7_leastBits 1 = .ok (.istore 4, 2) := by decide +kernel
theorem dX7_leastBits_3 : decode cX7_leastBits 3 = .ok (.iload_n 3, 1) := by decide +kernel
theorem dX7_leastBits_4 : decode cX7_leastBits 4 = .ok (.istore 5, 2) := by decide +kernel
theorem dX7_leastBits_6 : decode cX7_leastBits 6 = .ok (.iload_n 2, 1) := by decide +kernel
theorem dX7_leastBits_7 : decode cX7_leastBits 7 = .ok (.istore 6, 2) := by decide +kernel
theorem dX7_leastBits_9 : decode cX7_leastBits 9 = .ok (.iload_n 1, 1) := by decide +kernel
theorem dX7_leastBits_10 : decode cX7_leastBits 10 = .ok (.iconst 1, 1) := by decide +kernel
theorem dX7_leastBits_11 : decode cX7_leastBits 11 = .ok (.isub, 1) := by decide +kernel
theorem dX7_leastBits_12 : decode cX7_leastBits 12 = .ok (.istore 7, 2) := by decide +kernel
theorem dX7_leastBits_14 : decode cX7_leastBits 14 = .ok (.iload 7, 2) := by decide +kernel
theorem dX7_leastBits_16 : decode cX7_leastBits 16 = .ok (.ifCond .lt 51, 3) := by decide +kernel
theorem dX7_leastBits_19 : decode cX7_leastBits 19 = .ok (.iload 6, 2) := by decide +kernel
theorem dX7_leastBits_21 : decode cX7_leastBits 21 = .ok (.ifCond .le 46, 3) := by decide +kernel
theorem dX7_leastBits_24 : decode cX7_leastBits 24 = .ok (.aload_n 0, 1) := by decide +kernel
theorem dX7_leastBits_25 : decode cX7_leastBits 25 = .ok (.iload 7, 2) := by decide +kernel
theorem dX7_leastBits_27 : decode cX7_leastBits 27 = .ok (.iload 6, 2) := by decide +kernel
theorem dX7_leastBits_29 : decode cX7_leastBits 29 = .ok (.invokevirtual 163, 3) := by decide +kernel
theorem dX7_leastBits_32 : decode cX7_leastBits 32 = .ok (.iload 5, 2) := by decide +kernel
theorem dX7_leastBits_34 : decode cX7_leastBits 34 = .ok (.if_icmp .ge 27, 3) := by decide +kernel
theorem dX7_leastBits_37 : decode cX7_leastBits 37 = .ok (.iload 4, 2) := by decide +kernel
theorem dX7_leastBits_39 : decode cX7_leastBits 39 = .ok (.iconst 1, 1) := by decide +kernel
theorem dX7_leastBits_40 : decode cX7_leastBits 40 = .ok (.iload 7, 2) := by decide +kernel
theorem dX7_leastBits_42 : decode cX7_leastBits 42 = .ok (.ishl, 1) := by decide +kernel
theorem dX7_leastBits_43 : decode cX7_leastBits 43 = .ok (.ior, 1) := by decide +kernel
theorem dX7_leastBits_44 : decode cX7_leastBits 44 = .ok (.istore 4, 2) := by decide +kernel
theorem dX7_leastBits_46 : decode cX7_leastBits 46 = .ok (.iload 5, 2) := by decide +kernel
theorem dX7_leastBits_48 : decode cX7_leastBits 48 = .ok (.aload_n 0, 1) := by decide +kernel
theorem dX7_leastBits_49 : decode cX7_leastBits 49 = .ok (.getfield 33, 3) := by decide +kernel
theorem dX7_leastBits_52 : decode cX7_leastBits 52 = .ok (.iload 7, 2) := by decide +kernel
theorem dX7_leastBits_54 : decode cX7_leastBits 54 = .ok (.iaload, 1) := by decide +kernel
theorem dX7_leastBits_55 : decode cX7_leastBits 55 = .ok (.isub, 1) := by decide +kernel
theorem dX7_leastBits_56 : decode cX7_leastBits 56 = .ok (.istore 5, 2) := by decide +kernel
theorem dX7_leastBits_58 : decode cX7_leastBits 58 = .ok (.iinc 6 (-1), 3) := by decide +kernel
theorem dX7_leastBits_61 : decode cX7_leastBits 61 = .ok (.iinc 7 (-1), 3) := by decide +kernel
theorem dX7_leastBits_64 : decode cX7_leastBits 64 = .ok (.goto (-50), 3) := by decide +kernel
theorem dX7_leastBits_67 : decode cX7_leastBits 67 = .ok (.iload 4, 2) := by decide +kernel
theorem dX7_leastBits_69 : decode cX7_leastBits 69 = .ok (.ireturn, 1) := by decide +kernel
theorem dX8_init_0 : decode cX8_init 0 = .ok (.aload_n 0, 1) := by decide +kernel
theorem dX8_init_1 : decode cX8_init 1 = .ok (.invokespecial 3, 3) := by decide +kernel
theorem dX8_init_4 : decode cX8_init 4 = .ok (.aload_n 0, 1) := by decide +kernel
theorem dX8_init_5 : decode cX8_init 5 = .ok (.bipush 40, 2) := by decide +kernel
theorem dX8_init_7 : decode cX8_init 7 = .ok (.newarray .int, 2) := by decide +kernel
theorem dX8_init_9 : decode cX8_init 9 = .ok (.putfield 9, 3) := by decide +kernel
theorem dX8_init_12 : decode cX8_init 12 = .ok (.aload_n 0, 1) := by decide +kernel
theorem dX8_init_13 : decode cX8_init 13 = .ok (.bipush 40, 2) := by decide +kernel
theorem dX8_init_15 : decode cX8_init 15 = .ok (.newarray .int, 2) := by decide +kernel
theorem dX8_init_17 : decode cX8_init 17 = .ok (.putfield 15, 3) := by decide +kernel
theorem dX8_init_20 : decode cX8_init 20 = .ok (.aload_n 0, 1) := by decide +kernel
theorem dX8_init_21 : decode cX8_init 21 = .ok (.bipush 40, 2) := by decide +kernel
theorem dX8_init_23 : decode cX8_init 23 = .ok (.newarray .int, 2) := by decide +kernel
theorem dX8_init_25 : decode cX8_init 25 = .ok (.putfield 18, 3) := by decide +kernel
theorem dX8_init_28 : decode cX8_init 28 = .ok (.return_, 1) := by decide +kernel
theorem dX8_add_0 : decode cX8_add 0 = .ok (.aload_n 0, 1) := by decide +kernel
theorem dX8_add_1 : decode cX8_add 1 = .ok (.getfield 21, 3) := by decide +kernel
theorem dX8_add_4 : decode cX8_add 4 = .ok (.bipush 40, 2) := by decide +kernel
theorem dX8_add_6 : decode cX8_add 6 = .ok (.if_icmp .ge 43, 3) := by decide +kernel
theorem dX8_add_9 : decode cX8_add 9 = .ok (.aload_n 0, 1) := by decide +kernel
theorem dX8_add_10 : decode cX8_add 10 = .ok (.getfield 9, 3) := by decide +kernel
theorem dX8_add_13 : decode cX8_add 13 = .ok (.aload_n 0, 1) := by decide +kernel
theorem dX8_add_14 : decode cX8_add 14 = .ok (.getfield 21, 3) := by decide +kernel
theorem dX8_add_17 : decode cX8_add 17 = .ok (.iload_n 1, 1) := by decide +kernel
theorem dX8_add_18 : decode cX8_add 18 = .ok (.iastore, 1) := by decide +kernel
theorem dX8_add_19 : decode cX8_add 19 = .ok (.aload_n 0, 1) := by decide +kernel
theorem dX8_add_20 : decode cX8_add 20 = .ok (.getfield 15, 3) := by decide +kernel
theorem dX8_add_23 : decode cX8_add 23 = .ok (.aload_n 0, 1) := by decide +kernel
theorem dX8_add_24 : decode cX8_add 24 = .ok (.getfield 21, 3) := by decide +kernel
theorem dX8_add_27 : decode cX8_add 27 = .ok (.iload_n 2, 1) := by decide +kernel
theorem dX8_add_28 : decode cX8_add 28 = .ok (.iastore, 1) := by decide +kernel
theorem dX8_add_29 : decode cX8_add 29 = .ok (.aload_n 0, 1) := by decide +kernel
theorem dX8_add_30 : decode cX8_add 30 = .ok (.getfield 18, 3) := by decide +kernel
theorem dX8_add_33 : decode cX8_add 33 = .ok (.aload_n 0, 1) := by decide +kernel
theorem dX8_add_34 : decode cX8_add 34 = .ok (.getfield 21, 3) := by decide +kernel
theorem dX8_add_37 : decode cX8_add 37 = .ok (.iload_n 3, 1) := by decide +kernel
theorem dX8_add_38 : decode cX8_add 38 = .ok (.iastore, 1) := by decide +kernel
theorem dX8_add_39 : decode cX8_add 39 = .ok (.aload_n 0, 1) := by decide +kernel
theorem dX8_add_40 : decode cX8_add 40 = .ok (.dup, 1) := by decide +kernel
theorem dX8_add_41 : decode cX8_add 41 = .ok (.getfield 21, 3) := by decide +kernel
theorem dX8_add_44 : decode cX8_add 44 = .ok (.iconst 1, 1) := by decide +kernel
theorem dX8_add_45 : decode cX8_add 45 = .ok (.iadd, 1) := by decide +kernel
theorem dX8_add_46 : decode cX8_add 46 = .ok (.putfield 21, 3) := by decide +kernel
theorem dX8_add_49 : decode cX8_add 49 = .ok (.return_, 1) := by decide +kernel
theorem dX8_holds_0 : decode cX8_holds 0 = .ok (.iconst 0, 1) := by decide +kernel
theorem dX8_holds_1 : decode cX8_holds 1 = .ok (.istore_n 3, 1) := by decide +kernel
theorem dX8_holds_2 : decode cX8_holds 2 = .ok (.iconst 0, 1) := by decide +kernel
theorem dX8_holds_3 : decode cX8_holds 3 = .ok (.istore 4, 2) := by decide +kernel
theorem dX8_holds_5 : decode cX8_holds 5 = .ok (.iload 4, 2) := by decide +kernel
theorem dX8_holds_7 : decode cX8_holds 7 = .ok (.aload_n 0, 1) := by decide +kernel
theorem dX8_holds_8 : decode cX8_holds 8 = .ok (.getfield 21, 3) := by decide +kernel
theorem dX8_holds_11 : decode cX8_holds 11 = .ok (.if_icmp .ge 100, 3) := by decide +kernel
theorem dX8_holds_14 : decode cX8_holds 14 = .ok (.iload_n 3, 1) := by decide +kernel
theorem dX8_holds_15 : decode cX8_holds 15 = .ok (.iconst 1, 1) := by decide +kernel
theorem dX8_holds_16 : decode cX8_holds 16 = .ok (.iand, 1) := by decide +kernel
theorem dX8_holds_17 : decode cX8_holds 17 = .ok (.istore 5, 2) := by decide +kernel
theorem dX8_holds_19 : decode cX8_holds 19 = .ok (.iload_n 3, 1) := by decide +kernel
theorem dX8_holds_20 : decode cX8_holds 20 = .ok (.iconst 1, 1) := by decide +kernel
theorem dX8_holds_21 : decode cX8_holds 21 = .ok (.ishr, 1) := by decide +kernel
theorem dX8_holds_22 : decode cX8_holds 22 = .ok (.istore 6, 2) := by decide +kernel
theorem dX8_holds_24 : decode cX8_holds 24 = .ok (.aload_n 0, 1) := by decide +kernel
theorem dX8_holds_25 : decode cX8_holds 25 = .ok (.getfield 9, 3) := by decide +kernel
theorem dX8_holds_28 : decode cX8_holds 28 = .ok (.iload 4, 2) := by decide +kernel
theorem dX8_holds_30 : decode cX8_holds 30 = .ok (.iaload, 1) := by decide +kernel
theorem dX8_holds_31 : decode cX8_holds 31 = .ok (.tableswitch 53 10 12 #[25, 34, 46], 25) := by decide +kernel
theorem dX8_holds_56 : decode cX8_holds 56 = .ok (.iload 6, 2) := by decide +kernel
theorem dX8_holds_58 : decode cX8_holds 58 = .ok (.iload 5, 2) := by decide +kernel
theorem dX8_holds_60 : decode cX8_holds 60 = .ok (.ior, 1) := by decide +kernel
theorem dX8_holds_61 : decode cX8_holds 61 = .ok (.istore_n 3, 1) := by decide +kernel
theorem dX8_holds_62 : decode cX8_holds 62 = .ok (.goto 43, 3) := by decide +kernel
theorem dX8_holds_65 : decode cX8_holds 65 = .ok (.iload 6, 2) := by decide +kernel
theorem dX8_holds_67 : decode cX8_holds 67 = .ok (.iload 5, 2) := by decide +kernel
theorem dX8_holds_69 : decode cX8_holds 69 = .ok (.bipush (-2), 2) := by decide +kernel
theorem dX8_holds_71 : decode cX8_holds 71 = .ok (.ior, 1) := by decide +kernel
theorem dX8_holds_72 : decode cX8_holds 72 = .ok (.iand, 1) := by decide +kernel
theorem dX8_holds_73 : decode cX8_holds 73 = .ok (.istore_n 3, 1) := by decide +kernel
theorem dX8_holds_74 : decode cX8_holds 74 = .ok (.goto 31, 3) := by decide +kernel
theorem dX8_holds_77 : decode cX8_holds 77 = .ok (.iload_n 3, 1) := by decide +kernel
theorem dX8_holds_78 : decode cX8_holds 78 = .ok (.iconst 1, 1) := by decide +kernel
theorem dX8_holds_79 : decode cX8_holds 79 = .ok (.ixor, 1) := by decide +kernel
theorem dX8_holds_80 : decode cX8_holds 80 = .ok (.istore_n 3, 1) := by decide +kernel
theorem dX8_holds_81 : decode cX8_holds 81 = .ok (.goto 24, 3) := by decide +kernel
theorem dX8_holds_84 : decode cX8_holds 84 = .ok (.iload_n 3, 1) := by decide +kernel
theorem dX8_holds_85 : decode cX8_holds 85 = .ok (.iconst 1, 1) := by decide +kernel
theorem dX8_holds_86 : decode cX8_holds 86 = .ok (.ishl, 1) := by decide +kernel
theorem dX8_holds_87 : decode cX8_holds 87 = .ok (.aload_n 0, 1) := by decide +kernel
theorem dX8_holds_88 : decode cX8_holds 88 = .ok (.aload_n 1, 1) := by decide +kernel
theorem dX8_holds_89 : decode cX8_holds 89 = .ok (.iload_n 2, 1) := by decide +kernel
theorem dX8_holds_90 : decode cX8_holds 90 = .ok (.iload 4, 2) := by decide +kernel
theorem dX8_holds_92 : decode cX8_holds 92 = .ok (.invokevirtual 25, 3) := by decide +kernel
theorem dX8_holds_95 : decode cX8_holds 95 = .ok (.ifCond .eq 7, 3) := by decide +kernel
theorem dX8_holds_98 : decode cX8_holds 98 = .ok (.iconst 1, 1) := by decide +kernel
theorem dX8_holds_99 : decode cX8_holds 99 = .ok (.goto 4, 3) := by decide +kernel
theorem dX8_holds_102 : decode cX8_holds 102 = .ok (.iconst 0, 1) := by decide +kernel
theorem dX8_holds_103 : decode cX8_holds 103 = .ok (.ior, 1) := by decide +kernel
theorem dX8_holds_104 : decode cX8_holds 104 = .ok (.istore_n 3, 1) := by decide +kernel
theorem dX8_holds_105 : decode cX8_holds 105 = .ok (.iinc 4 1, 3) := by decide +kernel
theorem dX8_holds_108 : decode cX8_holds 108 = .ok (.goto (-103), 3) := by decide +kernel
theorem dX8_holds_111 : decode cX8_holds 111 = .ok (.iload_n 3, 1) := by decide +kernel
theorem dX8_holds_112 : decode cX8_holds 112 = .ok (.iconst 1, 1) := by decide +kernel
theorem dX8_holds_113 : decode cX8_holds 113 = .ok (.iand, 1) := by decide +kernel
theorem dX8_holds_114 : decode cX8_holds 114 = .ok (.iconst 1, 1) := by decide +kernel
theorem dX8_holds_115 : decode cX8_holds 115 = .ok (.if_icmp .ne 7, 3) := by decide +kernel
theorem dX8_holds_118 : decode cX8_holds 118 = .ok (.iconst 1, 1) := by decide +kernel
theorem dX8_holds_119 : decode cX8_holds 119 = .ok (.goto 4, 3) := by decide +kernel
theorem dX8_holds_122 : decode cX8_holds 122 = .ok (.iconst 0, 1) := by decide +kernel
theorem dX8_holds_123 : decode cX8_holds 123 = .ok (.ireturn, 1) := by decide +kernel
theorem dX8_plainHolds_0 : decode cX8_plainHolds 0 = .ok (.aload_n 0, 1) := by decide +kernel
theorem dX8_plainHolds_1 : decode cX8_plainHolds 1 = .ok (.getfield 9, 3) := by decide +kernel
theorem dX8_plainHolds_4 : decode cX8_plainHolds 4 = .ok (.iload_n 3, 1) := by decide +kernel
theorem dX8_plainHolds_5 : decode cX8_plainHolds 5 = .ok (.iaload, 1) := by decide +kernel
theorem dX8_plainHolds_6 : decode cX8_plainHolds 6 = .ok (.tableswitch 195 13 20 #[46, 60, 75, 94, 118, 140, 152, 183], 46) := by decide +kernel
theorem dX8_plainHolds_52 : decode cX8_plainHolds 52 = .ok (.aload_n 1, 1) := by decide +kernel
theorem dX8_plainHolds_53 : decode cX8_plainHolds 53 = .ok (.iload_n 2, 1) := by decide +kernel
theorem dX8_plainHolds_54 : decode cX8_plainHolds 54 = .ok (.invokevirtual 29, 3) := by decide +kernel
theorem dX8_plainHolds_57 : decode cX8_plainHolds 57 = .ok (.ifCond .ne 7, 3) := by decide +kernel
theorem dX8_plainHolds_60 : decode cX8_plainHolds 60 = .ok (.iconst 1, 1) := by decide +kernel
theorem dX8_plainHolds_61 : decode cX8_plainHolds 61 = .ok (.goto 4, 3) := by decide +kernel
theorem dX8_plainHolds_64 : decode cX8_plainHolds 64 = .ok (.iconst 0, 1) := by decide +kernel
theorem dX8_plainHolds_65 : decode cX8_plainHolds 65 = .ok (.ireturn, 1) := by decide +kernel
theorem dX8_plainHolds_66 : decode cX8_plainHolds 66 = .ok (.aload_n 1, 1) := by decide +kernel
theorem dX8_plainHolds_67 : decode cX8_plainHolds 67 = .ok (.getfield 35, 3) := by decide +kernel
theorem dX8_plainHolds_70 : decode cX8_plainHolds 70 = .ok (.iload_n 2, 1) := by decide +kernel
theorem dX8_plainHolds_71 : decode cX8_plainHolds 71 = .ok (.iaload, 1) := by decide +kernel
theorem dX8_plainHolds_72 : decode cX8_plainHolds 72 = .ok (.ifCond .ne 7, 3) := by decide +kernel
theorem dX8_plainHolds_75 : decode cX8_plainHolds 75 = .ok (.iconst 1, 1) := by decide +kernel
theorem dX8_plainHolds_76 : decode cX8_plainHolds 76 = .ok (.goto 4, 3) := by decide +kernel
theorem dX8_plainHolds_79 : decode cX8_plainHolds 79 = .ok (.iconst 0, 1) := by decide +kernel
theorem dX8_plainHolds_80 : decode cX8_plainHolds 80 = .ok (.ireturn, 1) := by decide +kernel
theorem dX8_plainHolds_81 : decode cX8_plainHolds 81 = .ok (.aload_n 1, 1) := by decide +kernel
theorem dX8_plainHolds_82 : decode cX8_plainHolds 82 = .ok (.iload_n 2, 1) := by decide +kernel
theorem dX8_plainHolds_83 : decode cX8_plainHolds 83 = .ok (.invokevirtual 38, 3) := by decide +kernel
theorem dX8_plainHolds_86 : decode cX8_plainHolds 86 = .ok (.aload_n 1, 1) := by decide +kernel
theorem dX8_plainHolds_87 : decode cX8_plainHolds 87 = .ok (.iload_n 2, 1) := by decide +kernel
theorem dX8_plainHolds_88 : decode cX8_plainHolds 88 = .ok (.invokevirtual 41, 3) := by decide +kernel
theorem dX8_plainHolds_91 : decode cX8_plainHolds 91 = .ok (.if_icmp .eq 7, 3) := by decide +kernel
theorem dX8_plainHolds_94 : decode cX8_plainHolds 94 = .ok (.iconst 1, 1) := by decide +kernel
theorem dX8_plainHolds_95 : decode cX8_plainHolds 95 = .ok (.goto 4, 3) := by decide +kernel
theorem dX8_plainHolds_98 : decode cX8_plainHolds 98 = .ok (.iconst 0, 1) := by decide +kernel
theorem dX8_plainHolds_99 : decode cX8_plainHolds 99 = .ok (.ireturn, 1) := by decide +kernel
theorem dX8_plainHolds_100 : decode cX8_plainHolds 100 = .ok (.aload_n 1, 1) := by decide +kernel
theorem dX8_plainHolds_101 : decode cX8_plainHolds 101 = .ok (.getfield 44, 3) := by decide +kernel
theorem dX8_plainHolds_104 : decode cX8_plainHolds 104 = .ok (.getfield 48, 3) := by decide +kernel
theorem dX8_plainHolds_107 : decode cX8_plainHolds 107 = .ok (.iload_n 2, 1) := by decide +kernel
theorem dX8_plainHolds_108 : decode cX8_plainHolds 108 = .ok (.iaload, 1) := by decide +kernel
theorem dX8_plainHolds_109 : decode cX8_plainHolds 109 = .ok (.aload_n 0, 1) := by decide +kernel
theorem dX8_plainHolds_110 : decode cX8_plainHolds 110 = .ok (.getfield 18, 3) := by decide +kernel
theorem dX8_plainHolds_113 : decode cX8_plainHolds 113 = .ok (.iload_n 3, 1) := by decide +kernel
theorem dX8_plainHolds_114 : decode cX8_plainHolds 114 = .ok (.iaload, 1) := by decide +kernel
theorem dX8_plainHolds_115 : decode cX8_plainHolds 115 = .ok (.if_icmp .ne 7, 3) := by decide +kernel
theorem dX8_plainHolds_118 : decode cX8_plainHolds 118 = .ok (.iconst 1, 1) := by decide +kernel
theorem dX8_plainHolds_119 : decode cX8_plainHolds 119 = .ok (.goto 4, 3) := by decide +kernel
theorem dX8_plainHolds_122 : decode cX8_plainHolds 122 = .ok (.iconst 0, 1) := by decide +kernel
theorem dX8_plainHolds_123 : decode cX8_plainHolds 123 = .ok (.ireturn, 1) := by decide +kernel
theorem dX8_plainHolds_124 : decode cX8_plainHolds 124 = .ok (.aload_n 1, 1) := by decide +kernel
theorem dX8_plainHolds_125 : decode cX8_plainHolds 125 = .ok (.getfield 53, 3) := by decide +kernel
theorem dX8_plainHolds_128 : decode cX8_plainHolds 128 = .ok (.iload_n 2, 1) := by decide +kernel
theorem dX8_plainHolds_129 : decode cX8_plainHolds 129 = .ok (.aaload, 1) := by decide +kernel
theorem dX8_plainHolds_130 : decode cX8_plainHolds 130 = .ok (.aload_n 0, 1) := by decide +kernel
theorem dX8_plainHolds_131 : decode cX8_plainHolds 131 = .ok (.getfield 18, 3) := by decide +kernel
theorem dX8_plainHolds_134 : decode cX8_plainHolds 134 = .ok (.iload_n 3, 1) := by decide +kernel
theorem dX8_plainHolds_135 : decode cX8_plainHolds 135 = .ok (.iaload, 1) := by decide +kernel
theorem dX8_plainHolds_136 : decode cX8_plainHolds 136 = .ok (.iaload, 1) := by decide +kernel
theorem dX8_plainHolds_137 : decode cX8_plainHolds 137 = .ok (.ifCond .le 7, 3) := by decide +kernel
theorem dX8_plainHolds_140 : decode cX8_plainHolds 140 = .ok (.iconst 1, 1) := by decide +kernel
theorem dX8_plainHolds_141 : decode cX8_plainHolds 141 = .ok (.goto 4, 3) := by decide +kernel
theorem dX8_plainHolds_144 : decode cX8_plainHolds 144 = .ok (.iconst 0, 1) := by decide +kernel
theorem dX8_plainHolds_145 : decode cX8_plainHolds 145 = .ok (.ireturn, 1) := by decide +kernel
theorem dX8_plainHolds_146 : decode cX8_plainHolds 146 = .ok (.aload_n 0, 1) := by decide +kernel
theorem dX8_plainHolds_147 : decode cX8_plainHolds 147 = .ok (.aload_n 1, 1) := by decide +kernel
theorem dX8_plainHolds_148 : decode cX8_plainHolds 148 = .ok (.getfield 35, 3) := by decide +kernel
theorem dX8_plainHolds_151 : decode cX8_plainHolds 151 = .ok (.iload_n 2, 1) := by decide +kernel
theorem dX8_plainHolds_152 : decode cX8_plainHolds 152 = .ok (.iaload, 1) := by decide +kernel
theorem dX8_plainHolds_153 : decode cX8_plainHolds 153 = .ok (.iload_n 3, 1) := by decide +kernel
theorem dX8_plainHolds_154 : decode cX8_plainHolds 154 = .ok (.invokevirtual 57, 3) := by decide +kernel
theorem dX8_plainHolds_157 : decode cX8_plainHolds 157 = .ok (.ireturn, 1) := by decide +kernel
theorem dX8_plainHolds_158 : decode cX8_plainHolds 158 = .ok (.aload_n 0, 1) := by decide +kernel
theorem dX8_plainHolds_159 : decode cX8_plainHolds 159 = .ok (.aload_n 1, 1) := by decide +kernel
theorem dX8_plainHolds_160 : decode cX8_plainHolds 160 = .ok (.getfield 35, 3) := by decide +kernel
theorem dX8_plainHolds_163 : decode cX8_plainHolds 163 = .ok (.iload_n 2, 1) := by decide +kernel
theorem dX8_plainHolds_164 : decode cX8_plainHolds 164 = .ok (.iaload, 1) := by decide +kernel
theorem dX8_plainHolds_165 : decode cX8_plainHolds 165 = .ok (.ifCond .ne 7, 3) := by decide +kernel
theorem dX8_plainHolds_168 : decode cX8_plainHolds 168 = .ok (.iconst 0, 1) := by decide +kernel
theorem dX8_plainHolds_169 : decode cX8_plainHolds 169 = .ok (.goto 15, 3) := by decide +kernel
theorem dX8_plainHolds_172 : decode cX8_plainHolds 172 = .ok (.aload_n 1, 1) := by decide +kernel
theorem dX8_plainHolds_173 : decode cX8_plainHolds 173 = .ok (.iload_n 2, 1) := by decide +kernel
theorem dX8_plainHolds_174 : decode cX8_plainHolds 174 = .ok (.invokevirtual 61, 3) := by decide +kernel
theorem dX8_plainHolds_177 : decode cX8_plainHolds 177 = .ok (.aload_n 1, 1) := by decide +kernel
theorem dX8_plainHolds_178 : decode cX8_plainHolds 178 = .ok (.getfield 35, 3) := by decide +kernel
theorem dX8_plainHolds_181 : decode cX8_plainHolds 181 = .ok (.iload_n 2, 1) := by decide +kernel
theorem dX8_plainHolds_182 : decode cX8_plainHolds 182 = .ok (.iaload, 1) := by decide +kernel
theorem dX8_plainHolds_183 : decode cX8_plainHolds 183 = .ok (.idiv, 1) := by decide +kernel
theorem dX8_plainHolds_184 : decode cX8_plainHolds 184 = .ok (.iload_n 3, 1) := by decide +kernel
theorem dX8_plainHolds_185 : decode cX8_plainHolds 185 = .ok (.invokevirtual 57, 3) := by decide +kernel
theorem dX8_plainHolds_188 : decode cX8_plainHolds 188 = .ok (.ireturn, 1) := by decide +kernel
theorem dX8_plainHolds_189 : decode cX8_plainHolds 189 = .ok (.aload_n 0, 1) := by decide +kernel
theorem dX8_plainHolds_190 : decode cX8_plainHolds 190 = .ok (.aload_n 1, 1) := by decide +kernel
theorem dX8_plainHolds_191 : decode cX8_plainHolds 191 = .ok (.getfield 64, 3) := by decide +kernel
theorem dX8_plainHolds_194 : decode cX8_plainHolds 194 = .ok (.iload_n 2, 1) := by decide +kernel
theorem dX8_plainHolds_195 : decode cX8_plainHolds 195 = .ok (.iaload, 1) := by decide +kernel
theorem dX8_plainHolds_196 : decode cX8_plainHolds 196 = .ok (.iload_n 3, 1) := by decide +kernel
theorem dX8_plainHolds_197 : decode cX8_plainHolds 197 = .ok (.invokevirtual 57, 3) := by decide +kernel
theorem dX8_plainHolds_200 : decode cX8_plainHolds 200 = .ok (.ireturn, 1) := by decide +kernel
theorem dX8_plainHolds_201 : decode cX8_plainHolds 201 = .ok (.aload_n 0, 1) := by decide +kernel
theorem dX8_plainHolds_202 : decode cX8_plainHolds 202 = .ok (.iload_n 2, 1) := by decide +kernel
theorem dX8_plainHolds_203 : decode cX8_plainHolds 203 = .ok (.iload_n 3, 1) := by decide +kernel
theorem dX8_plainHolds_204 : decode cX8_plainHolds 204 = .ok (.invokevirtual 57, 3) := by decide +kernel
theorem dX8_plainHolds_207 : decode cX8_plainHolds 207 = .ok (.ireturn, 1) := by decide +kernel
theorem dX8_compares_0 : decode cX8_compares 0 = .ok (.aload_n 0, 1) := by decide +kernel
theorem dX8_compares_1 : decode cX8_compares 1 = .ok (.getfield 15, 3) := by decide +kernel
theorem dX8_compares_4 : decode cX8_compares 4 = .ok (.iload_n 2, 1) := by decide +kernel
theorem dX8_compares_5 : decode cX8_compares 5 = .ok (.iaload, 1) := by decide +kernel
theorem dX8_compares_6 : decode cX8_compares 6 = .ok (.lookupswitch 58 #[(60, 26), (62, 42)], 26) := by decide +kernel
theorem dX8_compares_32 : decode cX8_compares 32 = .ok (.iload_n 1, 1) := by decide +kernel
theorem dX8_compares_33 : decode cX8_compares 33 = .ok (.aload_n 0, 1) := by decide +kernel
theorem dX8_compares_34 : decode cX8_compares 34 = .ok (.getfield 18, 3) := by decide +kernel
theorem dX8_compares_37 : decode cX8_compares 37 = .ok (.iload_n 2, 1) := by decide +kernel
theorem dX8_compares_38 : decode cX8_compares 38 = .ok (.iaload, 1) := by decide +kernel
theorem dX8_compares_39 : decode cX8_compares 39 = .ok (.if_icmp .ge 7, 3) := by decide +kernel
theorem dX8_compares_42 : decode cX8_compares 42 = .ok (.iconst 1, 1) := by decide +kernel
theorem dX8_compares_43 : decode cX8_compares 43 = .ok (.goto 4, 3) := by decide +kernel
theorem dX8_compares_46 : decode cX8_compares 46 = .ok (.iconst 0, 1) := by decide +kernel
theorem dX8_compares_47 : decode cX8_compares 47 = .ok (.ireturn, 1) := by decide +kernel
theorem dX8_compares_48 : decode cX8_compares 48 = .ok (.iload_n 1, 1) := by decide +kernel
theorem dX8_compares_49 : decode cX8_compares 49 = .ok (.aload_n 0, 1) := by decide +kernel
theorem dX8_compares_50 : decode cX8_compares 50 = .ok (.getfield 18, 3) := by decide +kernel
theorem dX8_compares_53 : decode cX8_compares 53 = .ok (.iload_n 2, 1) := by decide +kernel
theorem dX8_compares_54 : decode cX8_compares 54 = .ok (.iaload, 1) := by decide +kernel
theorem dX8_compares_55 : decode cX8_compares 55 = .ok (.if_icmp .le 7, 3) := by decide +kernel
theorem dX8_compares_58 : decode cX8_compares 58 = .ok (.iconst 1, 1) := by decide +kernel
theorem dX8_compares_59 : decode cX8_compares 59 = .ok (.goto 4, 3) := by decide +kernel
theorem dX8_compares_62 : decode cX8_compares 62 = .ok (.iconst 0, 1) := by decide +kernel
theorem dX8_compares_63 : decode cX8_compares 63 = .ok (.ireturn, 1) := by decide +kernel
theorem dX8_compares_64 : decode cX8_compares 64 = .ok (.iload_n 1, 1) := by decide +kernel
theorem dX8_compares_65 : decode cX8_compares 65 = .ok (.aload_n 0, 1) := by decide +kernel
theorem dX8_compares_66 : decode cX8_compares 66 = .ok (.getfield 18, 3) := by decide +kernel
theorem dX8_compares_69 : decode cX8_compares 69 = .ok (.iload_n 2, 1) := by decide +kernel
theorem dX8_compares_70 : decode cX8_compares 70 = .ok (.iaload, 1) := by decide +kernel
theorem dX8_compares_71 : decode cX8_compares 71 = .ok (.if_icmp .ne 7, 3) := by decide +kernel
theorem dX8_compares_74 : decode cX8_compares 74 = .ok (.iconst 1, 1) := by decide +kernel
theorem dX8_compares_75 : decode cX8_compares 75 = .ok (.goto 4, 3) := by decide +kernel
theorem dX8_compares_78 : decode cX8_compares 78 = .ok (.iconst 0, 1) := by decide +kernel
theorem dX8_compares_79 : decode cX8_compares 79 = .ok (.ireturn, 1) := by decide +kernel
theorem dX9_init_0 : decode cX9_init 0 = .ok (.aload_n 0, 1) := by decide +kernel
theorem dX9_init_1 : decode cX9_init 1 = .ok (.invokespecial 3, 3) := by decide +kernel
theorem dX9_init_4 : decode cX9_init 4 = .ok (.aload_n 0, 1) := by decide +kernel
theorem dX9_init_5 : decode cX9_init 5 = .ok (.new 9, 3) := by decide +kernel
theorem dX9_init_8 : decode cX9_init 8 = .ok (.dup, 1) := by decide +kernel
theorem dX9_init_9 : decode cX9_init 9 = .ok (.invokespecial 11, 3) := by decide +kernel
theorem dX9_init_12 : decode cX9_init 12 = .ok (.putfield 12, 3) := by decide +kernel
theorem dX9_init_15 : decode cX9_init 15 = .ok (.aload_n 0, 1) := by decide +kernel
theorem dX9_init_16 : decode cX9_init 16 = .ok (.aload_n 1, 1) := by decide +kernel
theorem dX9_init_17 : decode cX9_init 17 = .ok (.putfield 18, 3) := by decide +kernel
theorem dX9_init_20 : decode cX9_init 20 = .ok (.aload_n 0, 1) := by decide +kernel
theorem dX9_init_21 : decode cX9_init 21 = .ok (.aload_n 2, 1) := by decide +kernel
theorem dX9_init_22 : decode cX9_init 22 = .ok (.putfield 22, 3) := by decide +kernel
theorem dX9_init_25 : decode cX9_init 25 = .ok (.return_, 1) := by decide +kernel
theorem dX9_read_0 : decode cX9_read 0 = .ok (.aload_n 0, 1) := by decide +kernel
theorem dX9_read_1 : decode cX9_read 1 = .ok (.iconst 1, 1) := by decide +kernel
theorem dX9_read_2 : decode cX9_read 2 = .ok (.invokevirtual 26, 3) := by decide +kernel
theorem dX9_read_5 : decode cX9_read 5 = .ok (.ifCond .eq 28, 3) := by decide +kernel
theorem dX9_read_8 : decode cX9_read 8 = .ok (.aload_n 0, 1) := by decide +kernel
theorem dX9_read_9 : decode cX9_read 9 = .ok (.getfield 18, 3) := by decide +kernel
theorem dX9_read_12 : decode cX9_read 12 = .ok (.getfield 30, 3) := by decide +kernel
theorem dX9_read_15 : decode cX9_read 15 = .ok (.ifCond .eq 14, 3) := by decide +kernel
theorem dX9_read_18 : decode cX9_read 18 = .ok (.aload_n 0, 1) := by decide +kernel
theorem dX9_read_19 : decode cX9_read 19 = .ok (.getfield 18, 3) := by decide +kernel
theorem dX9_read_22 : decode cX9_read 22 = .ok (.iconst 1, 1) := by decide +kernel
theorem dX9_read_23 : decode cX9_read 23 = .ok (.invokevirtual 36, 3) := by decide +kernel
theorem dX9_read_26 : decode cX9_read 26 = .ok (.ifCond .eq 7, 3) := by decide +kernel
