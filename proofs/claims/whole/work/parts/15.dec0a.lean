theorem dX0_init_0 : decode cX0_init 0 = .ok (.aload_n 0, 1) := by decide +kernel
theorem dX0_init_1 : decode cX0_init 1 = .ok (.invokespecial 3, 3) := by decide +kernel
theorem dX0_init_4 : decode cX0_init 4 = .ok (.aload_n 0, 1) := by decide +kernel
theorem dX0_init_5 : decode cX0_init 5 = .ok (.bipush 40, 2) := by decide +kernel
theorem dX0_init_7 : decode cX0_init 7 = .ok (.newarray .int, 2) := by decide +kernel
theorem dX0_init_9 : decode cX0_init 9 = .ok (.putfield 9, 3) := by decide +kernel
theorem dX0_init_12 : decode cX0_init 12 = .ok (.aload_n 0, 1) := by decide +kernel
theorem dX0_init_13 : decode cX0_init 13 = .ok (.bipush 40, 2) := by decide +kernel
theorem dX0_init_15 : decode cX0_init 15 = .ok (.newarray .int, 2) := by decide +kernel
theorem dX0_init_17 : decode cX0_init 17 = .ok (.putfield 15, 3) := by decide +kernel
theorem dX0_init_20 : decode cX0_init 20 = .ok (.aload_n 0, 1) := by decide +kernel
theorem dX0_init_21 : decode cX0_init 21 = .ok (.bipush 40, 2) := by decide +kernel
theorem dX0_init_23 : decode cX0_init 23 = .ok (.newarray .int, 2) := by decide +kernel
theorem dX0_init_25 : decode cX0_init 25 = .ok (.putfield 18, 3) := by decide +kernel
theorem dX0_init_28 : decode cX0_init 28 = .ok (.aload_n 0, 1) := by decide +kernel
theorem dX0_init_29 : decode cX0_init 29 = .ok (.bipush 40, 2) := by decide +kernel
theorem dX0_init_31 : decode cX0_init 31 = .ok (.newarray .int, 2) := by decide +kernel
theorem dX0_init_33 : decode cX0_init 33 = .ok (.putfield 21, 3) := by decide +kernel
theorem dX0_init_36 : decode cX0_init 36 = .ok (.aload_n 0, 1) := by decide +kernel
theorem dX0_init_37 : decode cX0_init 37 = .ok (.bipush 40, 2) := by decide +kernel
theorem dX0_init_39 : decode cX0_init 39 = .ok (.newarray .int, 2) := by decide +kernel
theorem dX0_init_41 : decode cX0_init 41 = .ok (.putfield 24, 3) := by decide +kernel
theorem dX0_init_44 : decode cX0_init 44 = .ok (.aload_n 0, 1) := by decide +kernel
theorem dX0_init_45 : decode cX0_init 45 = .ok (.bipush 40, 2) := by decide +kernel
theorem dX0_init_47 : decode cX0_init 47 = .ok (.newarray .int, 2) := by decide +kernel
theorem dX0_init_49 : decode cX0_init 49 = .ok (.putfield 27, 3) := by decide +kernel
theorem dX0_init_52 : decode cX0_init 52 = .ok (.return_, 1) := by decide +kernel
theorem dX0_read_0 : decode cX0_read 0 = .ok (.aload_n 0, 1) := by decide +kernel
theorem dX0_read_1 : decode cX0_read 1 = .ok (.iconst 0, 1) := by decide +kernel
theorem dX0_read_2 : decode cX0_read 2 = .ok (.putfield 30, 3) := by decide +kernel
theorem dX0_read_5 : decode cX0_read 5 = .ok (.aload_n 0, 1) := by decide +kernel
theorem dX0_read_6 : decode cX0_read 6 = .ok (.getfield 30, 3) := by decide +kernel
theorem dX0_read_9 : decode cX0_read 9 = .ok (.bipush 40, 2) := by decide +kernel
theorem dX0_read_11 : decode cX0_read 11 = .ok (.if_icmp .gt 98, 3) := by decide +kernel
theorem dX0_read_14 : decode cX0_read 14 = .ok (.aload_n 1, 1) := by decide +kernel
theorem dX0_read_15 : decode cX0_read 15 = .ok (.getfield 34, 3) := by decide +kernel
theorem dX0_read_18 : decode cX0_read 18 = .ok (.ifCond .eq 91, 3) := by decide +kernel
theorem dX0_read_21 : decode cX0_read 21 = .ok (.aload_n 1, 1) := by decide +kernel
theorem dX0_read_22 : decode cX0_read 22 = .ok (.getfield 39, 3) := by decide +kernel
theorem dX0_read_25 : decode cX0_read 25 = .ok (.iconst 5, 1) := by decide +kernel
theorem dX0_read_26 : decode cX0_read 26 = .ok (.if_icmp .lt 12, 3) := by decide +kernel
theorem dX0_read_29 : decode cX0_read 29 = .ok (.aload_n 1, 1) := by decide +kernel
theorem dX0_read_30 : decode cX0_read 30 = .ok (.getfield 39, 3) := by decide +kernel
theorem dX0_read_33 : decode cX0_read 33 = .ok (.bipush 9, 2) := by decide +kernel
theorem dX0_read_35 : decode cX0_read 35 = .ok (.if_icmp .le 9, 3) := by decide +kernel
theorem dX0_read_38 : decode cX0_read 38 = .ok (.aload_n 1, 1) := by decide +kernel
theorem dX0_read_39 : decode cX0_read 39 = .ok (.iconst 1, 1) := by decide +kernel
theorem dX0_read_40 : decode cX0_read 40 = .ok (.invokevirtual 42, 3) := by decide +kernel
theorem dX0_read_43 : decode cX0_read 43 = .ok (.ireturn, 1) := by decide +kernel
theorem dX0_read_44 : decode cX0_read 44 = .ok (.aload_n 0, 1) := by decide +kernel
theorem dX0_read_45 : decode cX0_read 45 = .ok (.getfield 30, 3) := by decide +kernel
theorem dX0_read_48 : decode cX0_read 48 = .ok (.bipush 40, 2) := by decide +kernel
theorem dX0_read_50 : decode cX0_read 50 = .ok (.if_icmp .ne 9, 3) := by decide +kernel
theorem dX0_read_53 : decode cX0_read 53 = .ok (.aload_n 1, 1) := by decide +kernel
theorem dX0_read_54 : decode cX0_read 54 = .ok (.iconst 4, 1) := by decide +kernel
theorem dX0_read_55 : decode cX0_read 55 = .ok (.invokevirtual 42, 3) := by decide +kernel
theorem dX0_read_58 : decode cX0_read 58 = .ok (.ireturn, 1) := by decide +kernel
theorem dX0_read_59 : decode cX0_read 59 = .ok (.aload_n 0, 1) := by decide +kernel
theorem dX0_read_60 : decode cX0_read 60 = .ok (.getfield 9, 3) := by decide +kernel
theorem dX0_read_63 : decode cX0_read 63 = .ok (.aload_n 0, 1) := by decide +kernel
theorem dX0_read_64 : decode cX0_read 64 = .ok (.getfield 30, 3) := by decide +kernel
theorem dX0_read_67 : decode cX0_read 67 = .ok (.aload_n 1, 1) := by decide +kernel
theorem dX0_read_68 : decode cX0_read 68 = .ok (.getfield 39, 3) := by decide +kernel
theorem dX0_read_71 : decode cX0_read 71 = .ok (.iastore, 1) := by decide +kernel
theorem dX0_read_72 : decode cX0_read 72 = .ok (.aload_n 1, 1) := by decide +kernel
theorem dX0_read_73 : decode cX0_read 73 = .ok (.invokevirtual 46, 3) := by decide +kernel
theorem dX0_read_76 : decode cX0_read 76 = .ok (.aload_n 0, 1) := by decide +kernel
theorem dX0_read_77 : decode cX0_read 77 = .ok (.aload_n 1, 1) := by decide +kernel
theorem dX0_read_78 : decode cX0_read 78 = .ok (.aload_n 2, 1) := by decide +kernel
theorem dX0_read_79 : decode cX0_read 79 = .ok (.invokevirtual 49, 3) := by decide +kernel
theorem dX0_read_82 : decode cX0_read 82 = .ok (.ifCond .eq 12, 3) := by decide +kernel
theorem dX0_read_85 : decode cX0_read 85 = .ok (.aload_n 1, 1) := by decide +kernel
theorem dX0_read_86 : decode cX0_read 86 = .ok (.bipush 59, 2) := by decide +kernel
theorem dX0_read_88 : decode cX0_read 88 = .ok (.invokevirtual 53, 3) := by decide +kernel
theorem dX0_read_91 : decode cX0_read 91 = .ok (.ifCond .ne 5, 3) := by decide +kernel
theorem dX0_read_94 : decode cX0_read 94 = .ok (.iconst 0, 1) := by decide +kernel
theorem dX0_read_95 : decode cX0_read 95 = .ok (.ireturn, 1) := by decide +kernel
theorem dX0_read_96 : decode cX0_read 96 = .ok (.aload_n 0, 1) := by decide +kernel
theorem dX0_read_97 : decode cX0_read 97 = .ok (.dup, 1) := by decide +kernel
theorem dX0_read_98 : decode cX0_read 98 = .ok (.getfield 30, 3) := by decide +kernel
theorem dX0_read_101 : decode cX0_read 101 = .ok (.iconst 1, 1) := by decide +kernel
theorem dX0_read_102 : decode cX0_read 102 = .ok (.iadd, 1) := by decide +kernel
theorem dX0_read_103 : decode cX0_read 103 = .ok (.putfield 30, 3) := by decide +kernel
theorem dX0_read_106 : decode cX0_read 106 = .ok (.goto (-101), 3) := by decide +kernel
theorem dX0_read_109 : decode cX0_read 109 = .ok (.iconst 1, 1) := by decide +kernel
theorem dX0_read_110 : decode cX0_read 110 = .ok (.ireturn, 1) := by decide +kernel
theorem dX0_readRest_0 : decode cX0_readRest 0 = .ok (.aload_n 0, 1) := by decide +kernel
theorem dX0_readRest_1 : decode cX0_readRest 1 = .ok (.getfield 9, 3) := by decide +kernel
theorem dX0_readRest_4 : decode cX0_readRest 4 = .ok (.aload_n 0, 1) := by decide +kernel
theorem dX0_readRest_5 : decode cX0_readRest 5 = .ok (.getfield 30, 3) := by decide +kernel
theorem dX0_readRest_8 : decode cX0_readRest 8 = .ok (.iaload, 1) := by decide +kernel
theorem dX0_readRest_9 : decode cX0_readRest 9 = .ok (.tableswitch 139 5 9 #[35, 69, 139, 80, 131], 35) := by decide +kernel
theorem dX0_readRest_44 : decode cX0_readRest 44 = .ok (.aload_n 0, 1) := by decide +kernel
theorem dX0_readRest_45 : decode cX0_readRest 45 = .ok (.aload_n 1, 1) := by decide +kernel
theorem dX0_readRest_46 : decode cX0_readRest 46 = .ok (.aload_n 2, 1) := by decide +kernel
theorem dX0_readRest_47 : decode cX0_readRest 47 = .ok (.aload_n 0, 1) := by decide +kernel
theorem dX0_readRest_48 : decode cX0_readRest 48 = .ok (.getfield 15, 3) := by decide +kernel
theorem dX0_readRest_51 : decode cX0_readRest 51 = .ok (.aload_n 0, 1) := by decide +kernel
theorem dX0_readRest_52 : decode cX0_readRest 52 = .ok (.getfield 18, 3) := by decide +kernel
theorem dX0_readRest_55 : decode cX0_readRest 55 = .ok (.invokevirtual 56, 3) := by decide +kernel
theorem dX0_readRest_58 : decode cX0_readRest 58 = .ok (.ifCond .eq 18, 3) := by decide +kernel
theorem dX0_readRest_61 : decode cX0_readRest 61 = .ok (.aload_n 0, 1) := by decide +kernel
theorem dX0_readRest_62 : decode cX0_readRest 62 = .ok (.aload_n 1, 1) := by decide +kernel
theorem dX0_readRest_63 : decode cX0_readRest 63 = .ok (.sipush 400, 3) := by decide +kernel
theorem dX0_readRest_66 : decode cX0_readRest 66 = .ok (.invokevirtual 60, 3) := by decide +kernel
theorem dX0_readRest_69 : decode cX0_readRest 69 = .ok (.ifCond .eq 7, 3) := by decide +kernel
theorem dX0_readRest_72 : decode cX0_readRest 72 = .ok (.iconst 1, 1) := by decide +kernel
theorem dX0_readRest_73 : decode cX0_readRest 73 = .ok (.goto 4, 3) := by decide +kernel
theorem dX0_readRest_76 : decode cX0_readRest 76 = .ok (.iconst 0, 1) := by decide +kernel
theorem dX0_readRest_77 : decode cX0_readRest 77 = .ok (.ireturn, 1) := by decide +kernel
theorem dX0_readRest_78 : decode cX0_readRest 78 = .ok (.aload_n 0, 1) := by decide +kernel
theorem dX0_readRest_79 : decode cX0_readRest 79 = .ok (.aload_n 1, 1) := by decide +kernel
theorem dX0_readRest_80 : decode cX0_readRest 80 = .ok (.aload_n 2, 1) := by decide +kernel
theorem dX0_readRest_81 : decode cX0_readRest 81 = .ok (.aload_n 0, 1) := by decide +kernel
theorem dX0_readRest_82 : decode cX0_readRest 82 = .ok (.getfield 15, 3) := by decide +kernel
theorem dX0_readRest_85 : decode cX0_readRest 85 = .ok (.invokevirtual 64, 3) := by decide +kernel
theorem dX0_readRest_88 : decode cX0_readRest 88 = .ok (.ireturn, 1) := by decide +kernel
theorem dX0_readRest_89 : decode cX0_readRest 89 = .ok (.aload_n 0, 1) := by decide +kernel
theorem dX0_readRest_90 : decode cX0_readRest 90 = .ok (.aload_n 1, 1) := by decide +kernel
theorem dX0_readRest_91 : decode cX0_readRest 91 = .ok (.aload_n 2, 1) := by decide +kernel
theorem dX0_readRest_92 : decode cX0_readRest 92 = .ok (.aload_n 0, 1) := by decide +kernel
theorem dX0_readRest_93 : decode cX0_readRest 93 = .ok (.getfield 15, 3) := by decide +kernel
theorem dX0_readRest_96 : decode cX0_readRest 96 = .ok (.aload_n 0, 1) := by decide +kernel
theorem dX0_readRest_97 : decode cX0_readRest 97 = .ok (.getfield 18, 3) := by decide +kernel
theorem dX0_readRest_100 : decode cX0_readRest 100 = .ok (.invokevirtual 56, 3) := by decide +kernel
theorem dX0_readRest_103 : decode cX0_readRest 103 = .ok (.ifCond .eq 35, 3) := by decide +kernel
theorem dX0_readRest_106 : decode cX0_readRest 106 = .ok (.aload_n 0, 1) := by decide +kernel
theorem dX0_readRest_107 : decode cX0_readRest 107 = .ok (.aload_n 1, 1) := by decide +kernel
theorem dX0_readRest_108 : decode cX0_readRest 108 = .ok (.aload_n 2, 1) := by decide +kernel
theorem dX0_readRest_109 : decode cX0_readRest 109 = .ok (.aload_n 0, 1) := by decide +kernel
theorem dX0_readRest_110 : decode cX0_readRest 110 = .ok (.getfield 21, 3) := by decide +kernel
theorem dX0_readRest_113 : decode cX0_readRest 113 = .ok (.aload_n 0, 1) := by decide +kernel
theorem dX0_readRest_114 : decode cX0_readRest 114 = .ok (.getfield 24, 3) := by decide +kernel
theorem dX0_readRest_117 : decode cX0_readRest 117 = .ok (.invokevirtual 56, 3) := by decide +kernel
theorem dX0_readRest_120 : decode cX0_readRest 120 = .ok (.ifCond .eq 18, 3) := by decide +kernel
theorem dX0_readRest_123 : decode cX0_readRest 123 = .ok (.aload_n 0, 1) := by decide +kernel
theorem dX0_readRest_124 : decode cX0_readRest 124 = .ok (.aload_n 1, 1) := by decide +kernel
theorem dX0_readRest_125 : decode cX0_readRest 125 = .ok (.sipush 400, 3) := by decide +kernel
theorem dX0_readRest_128 : decode cX0_readRest 128 = .ok (.invokevirtual 60, 3) := by decide +kernel
theorem dX0_readRest_131 : decode cX0_readRest 131 = .ok (.ifCond .eq 7, 3) := by decide +kernel
theorem dX0_readRest_134 : decode cX0_readRest 134 = .ok (.iconst 1, 1) := by decide +kernel
theorem dX0_readRest_135 : decode cX0_readRest 135 = .ok (.goto 4, 3) := by decide +kernel
theorem dX0_readRest_138 : decode cX0_readRest 138 = .ok (.iconst 0, 1) := by decide +kernel
theorem dX0_readRest_139 : decode cX0_readRest 139 = .ok (.ireturn, 1) := by decide +kernel
theorem dX0_readRest_140 : decode cX0_readRest 140 = .ok (.aload_n 0, 1) := by decide +kernel
theorem dX0_readRest_141 : decode cX0_readRest 141 = .ok (.aload_n 1, 1) := by decide +kernel
theorem dX0_readRest_142 : decode cX0_readRest 142 = .ok (.bipush 39, 2) := by decide +kernel
theorem dX0_readRest_144 : decode cX0_readRest 144 = .ok (.invokevirtual 60, 3) := by decide +kernel
theorem dX0_readRest_147 : decode cX0_readRest 147 = .ok (.ireturn, 1) := by decide +kernel
theorem dX0_readRest_148 : decode cX0_readRest 148 = .ok (.iconst 1, 1) := by decide +kernel
theorem dX0_readRest_149 : decode cX0_readRest 149 = .ok (.ireturn, 1) := by decide +kernel
theorem dX0_readScale_0 : decode cX0_readScale 0 = .ok (.aload_n 1, 1) := by decide +kernel
theorem dX0_readScale_1 : decode cX0_readScale 1 = .ok (.aload_n 2, 1) := by decide +kernel
theorem dX0_readScale_2 : decode cX0_readScale 2 = .ok (.invokevirtual 68, 3) := by decide +kernel
theorem dX0_readScale_5 : decode cX0_readScale 5 = .ok (.ifCond .ne 5, 3) := by decide +kernel
theorem dX0_readScale_8 : decode cX0_readScale 8 = .ok (.iconst 0, 1) := by decide +kernel
theorem dX0_readScale_9 : decode cX0_readScale 9 = .ok (.ireturn, 1) := by decide +kernel
theorem dX0_readScale_10 : decode cX0_readScale 10 = .ok (.aload_n 3, 1) := by decide +kernel
theorem dX0_readScale_11 : decode cX0_readScale 11 = .ok (.aload_n 0, 1) := by decide +kernel
theorem dX0_readScale_12 : decode cX0_readScale 12 = .ok (.getfield 30, 3) := by decide +kernel
theorem dX0_readScale_15 : decode cX0_readScale 15 = .ok (.aload_n 1, 1) := by decide +kernel
theorem dX0_readScale_16 : decode cX0_readScale 16 = .ok (.getfield 72, 3) := by decide +kernel
theorem dX0_readScale_19 : decode cX0_readScale 19 = .ok (.iastore, 1) := by decide +kernel
theorem dX0_readScale_20 : decode cX0_readScale 20 = .ok (.iconst 1, 1) := by decide +kernel
theorem dX0_readScale_21 : decode cX0_readScale 21 = .ok (.ireturn, 1) := by decide +kernel
theorem dX0_readCask_0 : decode cX0_readCask 0 = .ok (.aload_n 0, 1) := by decide +kernel
theorem dX0_readCask_1 : decode cX0_readCask 1 = .ok (.aload_n 1, 1) := by decide +kernel
theorem dX0_readCask_2 : decode cX0_readCask 2 = .ok (.aload_n 2, 1) := by decide +kernel
theorem dX0_readCask_3 : decode cX0_readCask 3 = .ok (.aload_n 3, 1) := by decide +kernel
theorem dX0_readCask_4 : decode cX0_readCask 4 = .ok (.invokevirtual 64, 3) := by decide +kernel
theorem dX0_readCask_7 : decode cX0_readCask 7 = .ok (.ifCond .eq 12, 3) := by decide +kernel
theorem dX0_readCask_10 : decode cX0_readCask 10 = .ok (.aload_n 1, 1) := by decide +kernel
theorem dX0_readCask_11 : decode cX0_readCask 11 = .ok (.iconst 0, 1) := by decide +kernel
theorem dX0_readCask_12 : decode cX0_readCask 12 = .ok (.iconst 3, 1) := by decide +kernel
theorem dX0_readCask_13 : decode cX0_readCask 13 = .ok (.invokevirtual 75, 3) := by decide +kernel
theorem dX0_readCask_16 : decode cX0_readCask 16 = .ok (.ifCond .ne 5, 3) := by decide +kernel
theorem dX0_readCask_19 : decode cX0_readCask 19 = .ok (.iconst 0, 1) := by decide +kernel
theorem dX0_readCask_20 : decode cX0_readCask 20 = .ok (.ireturn, 1) := by decide +kernel
theorem dX0_readCask_21 : decode cX0_readCask 21 = .ok (.aload 4, 2) := by decide +kernel
theorem dX0_readCask_23 : decode cX0_readCask 23 = .ok (.aload_n 0, 1) := by decide +kernel
theorem dX0_readCask_24 : decode cX0_readCask 24 = .ok (.getfield 30, 3) := by decide +kernel
theorem dX0_readCask_27 : decode cX0_readCask 27 = .ok (.aload_n 1, 1) := by decide +kernel
theorem dX0_readCask_28 : decode cX0_readCask 28 = .ok (.getfield 72, 3) := by decide +kernel
theorem dX0_readCask_31 : decode cX0_readCask 31 = .ok (.iastore, 1) := by decide +kernel
theorem dX0_readCask_32 : decode cX0_readCask 32 = .ok (.iconst 1, 1) := by decide +kernel
theorem dX0_readCask_33 : decode cX0_readCask 33 = .ok (.ireturn, 1) := by decide +kernel
theorem dX0_readAmount_0 : decode cX0_readAmount 0 = .ok (.aload_n 1, 1) := by decide +kernel
theorem dX0_readAmount_1 : decode cX0_readAmount 1 = .ok (.iconst 1, 1) := by decide +kernel
theorem dX0_readAmount_2 : decode cX0_readAmount 2 = .ok (.iload_n 2, 1) := by decide +kernel
theorem dX0_readAmount_3 : decode cX0_readAmount 3 = .ok (.invokevirtual 75, 3) := by decide +kernel
theorem dX0_readAmount_6 : decode cX0_readAmount 6 = .ok (.ifCond .ne 5, 3) := by decide +kernel
theorem dX0_readAmount_9 : decode cX0_readAmount 9 = .ok (.iconst 0, 1) := by decide +kernel
theorem dX0_readAmount_10 : decode cX0_readAmount 10 = .ok (.ireturn, 1) := by decide +kernel
theorem dX0_readAmount_11 : decode cX0_readAmount 11 = .ok (.aload_n 0, 1) := by decide +kernel
theorem dX0_readAmount_12 : decode cX0_readAmount 12 = .ok (.getfield 27, 3) := by decide +kernel
theorem dX0_readAmount_15 : decode cX0_readAmount 15 = .ok (.aload_n 0, 1) := by decide +kernel
theorem dX0_readAmount_16 : decode cX0_readAmount 16 = .ok (.getfield 30, 3) := by decide +kernel
theorem dX0_readAmount_19 : decode cX0_readAmount 19 = .ok (.aload_n 1, 1) := by decide +kernel
theorem dX0_readAmount_20 : decode cX0_readAmount 20 = .ok (.getfield 72, 3) := by decide +kernel
theorem dX0_readAmount_23 : decode cX0_readAmount 23 = .ok (.iastore, 1) := by decide +kernel
theorem dX0_readAmount_24 : decode cX0_readAmount 24 = .ok (.iconst 1, 1) := by decide +kernel
theorem dX0_readAmount_25 : decode cX0_readAmount 25 = .ok (.ireturn, 1) := by decide +kernel
theorem dX0_live_0 : decode cX0_live 0 = .ok (.aload_n 0, 1) := by decide +kernel
theorem dX0_live_1 : decode cX0_live 1 = .ok (.iconst 0, 1) := by decide +kernel
theorem dX0_live_2 : decode cX0_live 2 = .ok (.putfield 79, 3) := by decide +kernel
theorem dX0_live_5 : decode cX0_live 5 = .ok (.iconst 0, 1) := by decide +kernel
theorem dX0_live_6 : decode cX0_live 6 = .ok (.istore_n 3, 1) := by decide +kernel
theorem dX0_live_7 : decode cX0_live 7 = .ok (.iload_n 3, 1) := by decide +kernel
theorem dX0_live_8 : decode cX0_live 8 = .ok (.ifCond .ne 42, 3) := by decide +kernel
theorem dX0_live_11 : decode cX0_live 11 = .ok (.aload_n 0, 1) := by decide +kernel
theorem dX0_live_12 : decode cX0_live 12 = .ok (.getfield 79, 3) := by decide +kernel
theorem dX0_live_15 : decode cX0_live 15 = .ok (.aload_n 0, 1) := by decide +kernel
theorem dX0_live_16 : decode cX0_live 16 = .ok (.getfield 30, 3) := by decide +kernel
theorem dX0_live_19 : decode cX0_live 19 = .ok (.if_icmp .ge 31, 3) := by decide +kernel
theorem dX0_live_22 : decode cX0_live 22 = .ok (.aload_n 0, 1) := by decide +kernel
theorem dX0_live_23 : decode cX0_live 23 = .ok (.aload_n 1, 1) := by decide +kernel
theorem dX0_live_24 : decode cX0_live 24 = .ok (.aload_n 2, 1) := by decide +kernel
theorem dX0_live_25 : decode cX0_live 25 = .ok (.aload_n 0, 1) := by decide +kernel
theorem dX0_live_26 : decode cX0_live 26 = .ok (.getfield 79, 3) := by decide +kernel
theorem dX0_live_29 : decode cX0_live 29 = .ok (.invokevirtual 82, 3) := by decide +kernel
theorem dX0_live_32 : decode cX0_live 32 = .ok (.istore_n 3, 1) := by decide +kernel
theorem dX0_live_33 : decode cX0_live 33 = .ok (.iload_n 3, 1) := by decide +kernel
theorem dX0_live_34 : decode cX0_live 34 = .ok (.ifCond .ne (-27), 3) := by decide +kernel
theorem dX0_live_37 : decode cX0_live 37 = .ok (.aload_n 0, 1) := by decide +kernel
theorem dX0_live_38 : decode cX0_live 38 = .ok (.dup, 1) := by decide +kernel
theorem dX0_live_39 : decode cX0_live 39 = .ok (.getfield 79, 3) := by decide +kernel
theorem dX0_live_42 : decode cX0_live 42 = .ok (.iconst 1, 1) := by decide +kernel
theorem dX0_live_43 : decode cX0_live 43 = .ok (.iadd, 1) := by decide +kernel
theorem dX0_live_44 : decode cX0_live 44 = .ok (.putfield 79, 3) := by decide +kernel
theorem dX0_live_47 : decode cX0_live 47 = .ok (.goto (-40), 3) := by decide +kernel
theorem dX0_live_50 : decode cX0_live 50 = .ok (.iload_n 3, 1) := by decide +kernel
theorem dX0_live_51 : decode cX0_live 51 = .ok (.ireturn, 1) := by decide +kernel
theorem dX0_liveLine_0 : decode cX0_liveLine 0 = .ok (.aload_n 1, 1) := by decide +kernel
theorem dX0_liveLine_1 : decode cX0_liveLine 1 = .ok (.getfield 86, 3) := by decide +kernel
theorem dX0_liveLine_4 : decode cX0_liveLine 4 = .ok (.aload_n 0, 1) := by decide +kernel
theorem dX0_liveLine_5 : decode cX0_liveLine 5 = .ok (.getfield 15, 3) := by decide +kernel
theorem dX0_liveLine_8 : decode cX0_liveLine 8 = .ok (.iload_n 3, 1) := by decide +kernel
theorem dX0_liveLine_9 : decode cX0_liveLine 9 = .ok (.iaload, 1) := by decide +kernel
theorem dX0_liveLine_10 : decode cX0_liveLine 10 = .ok (.aload_n 0, 1) := by decide +kernel
theorem dX0_liveLine_11 : decode cX0_liveLine 11 = .ok (.getfield 18, 3) := by decide +kernel
theorem dX0_liveLine_14 : decode cX0_liveLine 14 = .ok (.iload_n 3, 1) := by decide +kernel
theorem dX0_liveLine_15 : decode cX0_liveLine 15 = .ok (.iaload, 1) := by decide +kernel
theorem dX0_liveLine_16 : decode cX0_liveLine 16 = .ok (.invokevirtual 92, 3) := by decide +kernel
theorem dX0_liveLine_19 : decode cX0_liveLine 19 = .ok (.istore 4, 2) := by decide +kernel
theorem dX0_liveLine_21 : decode cX0_liveLine 21 = .ok (.aload_n 0, 1) := by decide +kernel
theorem dX0_liveLine_22 : decode cX0_liveLine 22 = .ok (.getfield 9, 3) := by decide +kernel
theorem dX0_liveLine_25 : decode cX0_liveLine 25 = .ok (.iload_n 3, 1) := by decide +kernel
theorem dX0_liveLine_26 : decode cX0_liveLine 26 = .ok (.iaload, 1) := by decide +kernel
theorem dX0_liveLine_27 : decode cX0_liveLine 27 = .ok (.tableswitch 141 5 8 #[29, 54, 71, 82], 29) := by decide +kernel
theorem dX0_liveLine_56 : decode cX0_liveLine 56 = .ok (.iload 4, 2) := by decide +kernel
theorem dX0_liveLine_58 : decode cX0_liveLine 58 = .ok (.iconst (-1), 1) := by decide +kernel
theorem dX0_liveLine_59 : decode cX0_liveLine 59 = .ok (.if_icmp .ne 8, 3) := by decide +kernel
theorem dX0_liveLine_62 : decode cX0_liveLine 62 = .ok (.bipush 9, 2) := by decide +kernel
theorem dX0_liveLine_64 : decode cX0_liveLine 64 = .ok (.goto 16, 3) := by decide +kernel
theorem dX0_liveLine_67 : decode cX0_liveLine 67 = .ok (.aload_n 2, 1) := by decide +kernel
theorem dX0_liveLine_68 : decode cX0_liveLine 68 = .ok (.aload_n 1, 1) := by decide +kernel
theorem dX0_liveLine_69 : decode cX0_liveLine 69 = .ok (.iload 4, 2) := by decide +kernel
theorem dX0_liveLine_71 : decode cX0_liveLine 71 = .ok (.aload_n 0, 1) := by decide +kernel
theorem dX0_liveLine_72 : decode cX0_liveLine 72 = .ok (.getfield 27, 3) := by decide +kernel
theorem dX0_liveLine_75 : decode cX0_liveLine 75 = .ok (.iload_n 3, 1) := by decide +kernel
theorem dX0_liveLine_76 : decode cX0_liveLine 76 = .ok (.iaload, 1) := by decide +kernel
theorem dX0_liveLine_77 : decode cX0_liveLine 77 = .ok (.invokevirtual 98, 3) := by decide +kernel
theorem dX0_liveLine_80 : decode cX0_liveLine 80 = .ok (.ireturn, 1) := by decide +kernel
theorem dX0_liveLine_81 : decode cX0_liveLine 81 = .ok (.bipush 10, 2) := by decide +kernel
theorem dX0_liveLine_83 : decode cX0_liveLine 83 = .ok (.aload_n 2, 1) := by decide +kernel
theorem dX0_liveLine_84 : decode cX0_liveLine 84 = .ok (.aload_n 1, 1) := by decide +kernel
theorem dX0_liveLine_85 : decode cX0_liveLine 85 = .ok (.aload_n 0, 1) := by decide +kernel
theorem dX0_liveLine_86 : decode cX0_liveLine 86 = .ok (.getfield 15, 3) := by decide +kernel
theorem dX0_liveLine_89 : decode cX0_liveLine 89 = .ok (.iload_n 3, 1) := by decide +kernel
theorem dX0_liveLine_90 : decode cX0_liveLine 90 = .ok (.iaload, 1) := by decide +kernel
theorem dX0_liveLine_91 : decode cX0_liveLine 91 = .ok (.invokevirtual 104, 3) := by decide +kernel
theorem dX0_liveLine_94 : decode cX0_liveLine 94 = .ok (.invokestatic 108, 3) := by decide +kernel
theorem dX0_liveLine_97 : decode cX0_liveLine 97 = .ok (.ireturn, 1) := by decide +kernel
theorem dX0_liveLine_98 : decode cX0_liveLine 98 = .ok (.bipush 20, 2) := by decide +kernel
theorem dX0_liveLine_100 : decode cX0_liveLine 100 = .ok (.aload_n 2, 1) := by decide +kernel
theorem dX0_liveLine_101 : decode cX0_liveLine 101 = .ok (.aload_n 1, 1) := by decide +kernel
theorem dX0_liveLine_102 : decode cX0_liveLine 102 = .ok (.invokevirtual 111, 3) := by decide +kernel
theorem dX0_liveLine_105 : decode cX0_liveLine 105 = .ok (.invokestatic 108, 3) := by decide +kernel
theorem dX0_liveLine_108 : decode cX0_liveLine 108 = .ok (.ireturn, 1) := by decide +kernel
theorem dX0_liveLine_109 : decode cX0_liveLine 109 = .ok (.aload_n 1, 1) := by decide +kernel
theorem dX0_liveLine_110 : decode cX0_liveLine 110 = .ok (.getfield 86, 3) := by decide +kernel
theorem dX0_liveLine_113 : decode cX0_liveLine 113 = .ok (.aload_n 0, 1) := by decide +kernel
theorem dX0_liveLine_114 : decode cX0_liveLine 114 = .ok (.getfield 21, 3) := by decide +kernel
theorem dX0_liveLine_117 : decode cX0_liveLine 117 = .ok (.iload_n 3, 1) := by decide +kernel
theorem dX0_liveLine_118 : decode cX0_liveLine 118 = .ok (.iaload, 1) := by decide +kernel
theorem dX0_liveLine_119 : decode cX0_liveLine 119 = .ok (.aload_n 0, 1) := by decide +kernel
theorem dX0_liveLine_120 : decode cX0_liveLine 120 = .ok (.getfield 24, 3) := by decide +kernel
theorem dX0_liveLine_123 : decode cX0_liveLine 123 = .ok (.iload_n 3, 1) := by decide +kernel
theorem dX0_liveLine_124 : decode cX0_liveLine 124 = .ok (.iaload, 1) := by decide +kernel
theorem dX0_liveLine_125 : decode cX0_liveLine 125 = .ok (.invokevirtual 92, 3) := by decide +kernel
theorem dX0_liveLine_128 : decode cX0_liveLine 128 = .ok (.istore 5, 2) := by decide +kernel
theorem dX0_liveLine_130 : decode cX0_liveLine 130 = .ok (.iload 4, 2) := by decide +kernel
theorem dX0_liveLine_132 : decode cX0_liveLine 132 = .ok (.iconst (-1), 1) := by decide +kernel
theorem dX0_liveLine_133 : decode cX0_liveLine 133 = .ok (.if_icmp .eq 9, 3) := by decide +kernel
theorem dX0_liveLine_136 : decode cX0_liveLine 136 = .ok (.iload 5, 2) := by decide +kernel
theorem dX0_liveLine_138 : decode cX0_liveLine 138 = .ok (.iconst (-1), 1) := by decide +kernel
theorem dX0_liveLine_139 : decode cX0_liveLine 139 = .ok (.if_icmp .ne 8, 3) := by decide +kernel
theorem dX0_liveLine_142 : decode cX0_liveLine 142 = .ok (.bipush 39, 2) := by decide +kernel
theorem dX0_liveLine_144 : decode cX0_liveLine 144 = .ok (.goto 23, 3) := by decide +kernel
theorem dX0_liveLine_147 : decode cX0_liveLine 147 = .ok (.bipush 30, 2) := by decide +kernel
theorem dX0_liveLine_149 : decode cX0_liveLine 149 = .ok (.aload_n 2, 1) := by decide +kernel
theorem dX0_liveLine_150 : decode cX0_liveLine 150 = .ok (.aload_n 1, 1) := by decide +kernel
theorem dX0_liveLine_151 : decode cX0_liveLine 151 = .ok (.iload 4, 2) := by decide +kernel
theorem dX0_liveLine_153 : decode cX0_liveLine 153 = .ok (.iload 5, 2) := by decide +kernel
theorem dX0_liveLine_155 : decode cX0_liveLine 155 = .ok (.aload_n 0, 1) := by decide +kernel
theorem dX0_liveLine_156 : decode cX0_liveLine 156 = .ok (.getfield 27, 3) := by decide +kernel
theorem dX0_liveLine_159 : decode cX0_liveLine 159 = .ok (.iload_n 3, 1) := by decide +kernel
theorem dX0_liveLine_160 : decode cX0_liveLine 160 = .ok (.iaload, 1) := by decide +kernel
theorem dX0_liveLine_161 : decode cX0_liveLine 161 = .ok (.invokevirtual 115, 3) := by decide +kernel
theorem dX0_liveLine_164 : decode cX0_liveLine 164 = .ok (.invokestatic 108, 3) := by decide +kernel
theorem dX0_liveLine_167 : decode cX0_liveLine 167 = .ok (.ireturn, 1) := by decide +kernel
theorem dX0_liveLine_168 : decode cX0_liveLine 168 = .ok (.aload_n 1, 1) := by decide +kernel
theorem dX0_liveLine_169 : decode cX0_liveLine 169 = .ok (.aload_n 2, 1) := by decide +kernel
theorem dX0_liveLine_170 : decode cX0_liveLine 170 = .ok (.aload_n 0, 1) := by decide +kernel
theorem dX0_liveLine_171 : decode cX0_liveLine 171 = .ok (.getfield 27, 3) := by decide +kernel
theorem dX0_liveLine_174 : decode cX0_liveLine 174 = .ok (.iload_n 3, 1) := by decide +kernel
theorem dX0_liveLine_175 : decode cX0_liveLine 175 = .ok (.iaload, 1) := by decide +kernel
theorem dX0_liveLine_176 : decode cX0_liveLine 176 = .ok (.invokestatic 119, 3) := by decide +kernel
theorem dX0_liveLine_179 : decode cX0_liveLine 179 = .ok (.ireturn, 1) := by decide +kernel
theorem dX0_behind_0 : decode cX0_behind 0 = .ok (.iload_n 1, 1) := by decide +kernel
theorem dX0_behind_1 : decode cX0_behind 1 = .ok (.ifCond .ne 7, 3) := by decide +kernel
theorem dX0_behind_4 : decode cX0_behind 4 = .ok (.iconst 0, 1) := by decide +kernel
theorem dX0_behind_5 : decode cX0_behind 5 = .ok (.goto 6, 3) := by decide +kernel
theorem dX0_behind_8 : decode cX0_behind 8 = .ok (.iload_n 0, 1) := by decide +kernel
theorem dX0_behind_9 : decode cX0_behind 9 = .ok (.iload_n 1, 1) := by decide +kernel
theorem dX0_behind_10 : decode cX0_behind 10 = .ok (.iadd, 1) := by decide +kernel
theorem dX0_behind_11 : decode cX0_behind 11 = .ok (.ireturn, 1) := by decide +kernel
theorem dX0_liveYears_0 : decode cX0_liveYears 0 = .ok (.iload_n 2, 1) := by decide +kernel
theorem dX0_liveYears_1 : decode cX0_liveYears 1 = .ok (.bipush 39, 2) := by decide +kernel
theorem dX0_liveYears_3 : decode cX0_liveYears 3 = .ok (.aload_n 0, 1) := by decide +kernel
theorem dX0_liveYears_4 : decode cX0_liveYears 4 = .ok (.getfield 122, 3) := by decide +kernel
theorem dX0_liveYears_7 : decode cX0_liveYears 7 = .ok (.isub, 1) := by decide +kernel
theorem dX0_liveYears_8 : decode cX0_liveYears 8 = .ok (.if_icmp .le 6, 3) := by decide +kernel
theorem dX0_liveYears_11 : decode cX0_liveYears 11 = .ok (.bipush 41, 2) := by decide +kernel
theorem dX0_liveYears_13 : decode cX0_liveYears 13 = .ok (.ireturn, 1) := by decide +kernel
theorem dX0_liveYears_14 : decode cX0_liveYears 14 = .ok (.aload_n 1, 1) := by decide +kernel
theorem dX0_liveYears_15 : decode cX0_liveYears 15 = .ok (.aload_n 0, 1) := by decide +kernel
theorem dX0_liveYears_16 : decode cX0_liveYears 16 = .ok (.iload_n 2, 1) := by decide +kernel
theorem dX0_liveYears_17 : decode cX0_liveYears 17 = .ok (.invokevirtual 125, 3) := by decide +kernel
theorem dX0_liveYears_20 : decode cX0_liveYears 20 = .ok (.pop, 1) := by decide +kernel
theorem dX0_liveYears_21 : decode cX0_liveYears 21 = .ok (.iconst 0, 1) := by decide +kernel
theorem dX0_liveYears_22 : decode cX0_liveYears 22 = .ok (.ireturn, 1) := by decide +kernel
theorem dX1_init_0 : decode cX1_init 0 = .ok (.aload_n 0, 1) := by decide +kernel
theorem dX1_init_1 : decode cX1_init 1 = .ok (.invokespecial 3, 3) := by decide +kernel
theorem dX1_init_4 : decode cX1_init 4 = .ok (.aload_n 0, 1) := by decide +kernel
theorem dX1_init_5 : decode cX1_init 5 = .ok (.bipush 20, 2) := by decide +kernel
theorem dX1_init_7 : decode cX1_init 7 = .ok (.bipush 40, 2) := by decide +kernel
theorem dX1_init_9 : decode cX1_init 9 = .ok (.multianewarray 9 2, 4) := by decide +kernel
theorem dX1_init_13 : decode cX1_init 13 = .ok (.putfield 11, 3) := by decide +kernel
theorem dX1_init_16 : decode cX1_init 16 = .ok (.aload_n 0, 1) := by decide +kernel
theorem dX1_init_17 : decode cX1_init 17 = .ok (.bipush 20, 2) := by decide +kernel
theorem dX1_init_19 : decode cX1_init 19 = .ok (.newarray .int, 2) := by decide +kernel
theorem dX1_init_21 : decode cX1_init 21 = .ok (.putfield 16, 3) := by decide +kernel
theorem dX1_init_24 : decode cX1_init 24 = .ok (.aload_n 0, 1) := by decide +kernel
theorem dX1_init_25 : decode cX1_init 25 = .ok (.bipush 20, 2) := by decide +kernel
theorem dX1_init_27 : decode cX1_init 27 = .ok (.newarray .int, 2) := by decide +kernel
theorem dX1_init_29 : decode cX1_init 29 = .ok (.putfield 20, 3) := by decide +kernel
theorem dX1_init_32 : decode cX1_init 32 = .ok (.aload_n 0, 1) := by decide +kernel
theorem dX1_init_33 : decode cX1_init 33 = .ok (.bipush 40, 2) := by decide +kernel
theorem dX1_init_35 : decode cX1_init 35 = .ok (.newarray .int, 2) := by decide +kernel
theorem dX1_init_37 : decode cX1_init 37 = .ok (.putfield 23, 3) := by decide +kernel
theorem dX1_init_40 : decode cX1_init 40 = .ok (.aload_n 0, 1) := by decide +kernel
theorem dX1_init_41 : decode cX1_init 41 = .ok (.aload_n 1, 1) := by decide +kernel
theorem dX1_init_42 : decode cX1_init 42 = .ok (.putfield 26, 3) := by decide +kernel
theorem dX1_init_45 : decode cX1_init 45 = .ok (.aload_n 0, 1) := by decide +kernel
theorem dX1_init_46 : decode cX1_init 46 = .ok (.aload_n 1, 1) := by decide +kernel
theorem dX1_init_47 : decode cX1_init 47 = .ok (.getfield 30, 3) := by decide +kernel
theorem dX1_init_50 : decode cX1_init 50 = .ok (.putfield 36, 3) := by decide +kernel
theorem dX1_init_53 : decode cX1_init 53 = .ok (.return_, 1) := by decide +kernel
theorem dX1_clear_0 : decode cX1_clear 0 = .ok (.aload_n 0, 1) := by decide +kernel
theorem dX1_clear_1 : decode cX1_clear 1 = .ok (.aload_n 1, 1) := by decide +kernel
theorem dX1_clear_2 : decode cX1_clear 2 = .ok (.putfield 26, 3) := by decide +kernel
theorem dX1_clear_5 : decode cX1_clear 5 = .ok (.aload_n 0, 1) := by decide +kernel
theorem dX1_clear_6 : decode cX1_clear 6 = .ok (.aload_n 1, 1) := by decide +kernel
theorem dX1_clear_7 : decode cX1_clear 7 = .ok (.getfield 30, 3) := by decide +kernel
theorem dX1_clear_10 : decode cX1_clear 10 = .ok (.putfield 36, 3) := by decide +kernel
theorem dX1_clear_13 : decode cX1_clear 13 = .ok (.aload_n 0, 1) := by decide +kernel
theorem dX1_clear_14 : decode cX1_clear 14 = .ok (.iconst 0, 1) := by decide +kernel
theorem dX1_clear_15 : decode cX1_clear 15 = .ok (.putfield 39, 3) := by decide +kernel
theorem dX1_clear_18 : decode cX1_clear 18 = .ok (.aload_n 0, 1) := by decide +kernel
theorem dX1_clear_19 : decode cX1_clear 19 = .ok (.iconst 0, 1) := by decide +kernel
theorem dX1_clear_20 : decode cX1_clear 20 = .ok (.putfield 42, 3) := by decide +kernel
theorem dX1_clear_23 : decode cX1_clear 23 = .ok (.iconst 0, 1) := by decide +kernel
theorem dX1_clear_24 : decode cX1_clear 24 = .ok (.istore_n 2, 1) := by decide +kernel
theorem dX1_clear_25 : decode cX1_clear 25 = .ok (.iload_n 2, 1) := by decide +kernel
theorem dX1_clear_26 : decode cX1_clear 26 = .ok (.bipush 20, 2) := by decide +kernel
theorem dX1_clear_28 : decode cX1_clear 28 = .ok (.if_icmp .ge 19, 3) := by decide +kernel
theorem dX1_clear_31 : decode cX1_clear 31 = .ok (.aload_n 0, 1) := by decide +kernel
theorem dX1_clear_32 : decode cX1_clear 32 = .ok (.getfield 11, 3) := by decide +kernel
theorem dX1_clear_35 : decode cX1_clear 35 = .ok (.iload_n 2, 1) := by decide +kernel
theorem dX1_clear_36 : decode cX1_clear 36 = .ok (.aaload, 1) := by decide +kernel
theorem dX1_clear_37 : decode cX1_clear 37 = .ok (.iconst 0, 1) := by decide +kernel
theorem dX1_clear_38 : decode cX1_clear 38 = .ok (.invokestatic 45, 3) := by decide +kernel
theorem dX1_clear_41 : decode cX1_clear 41 = .ok (.iinc 2 1, 3) := by decide +kernel
theorem dX1_clear_44 : decode cX1_clear 44 = .ok (.goto (-19), 3) := by decide +kernel
theorem dX1_clear_47 : decode cX1_clear 47 = .ok (.aload_n 0, 1) := by decide +kernel
theorem dX1_clear_48 : decode cX1_clear 48 = .ok (.getfield 16, 3) := by decide +kernel
theorem dX1_clear_51 : decode cX1_clear 51 = .ok (.iconst 0, 1) := by decide +kernel
theorem dX1_clear_52 : decode cX1_clear 52 = .ok (.invokestatic 45, 3) := by decide +kernel
theorem dX1_clear_55 : decode cX1_clear 55 = .ok (.aload_n 0, 1) := by decide +kernel
theorem dX1_clear_56 : decode cX1_clear 56 = .ok (.getfield 20, 3) := by decide +kernel
theorem dX1_clear_59 : decode cX1_clear 59 = .ok (.iconst 0, 1) := by decide +kernel
theorem dX1_clear_60 : decode cX1_clear 60 = .ok (.invokestatic 45, 3) := by decide +kernel
theorem dX1_clear_63 : decode cX1_clear 63 = .ok (.aload_n 0, 1) := by decide +kernel
theorem dX1_clear_64 : decode cX1_clear 64 = .ok (.getfield 23, 3) := by decide +kernel
theorem dX1_clear_67 : decode cX1_clear 67 = .ok (.iconst 0, 1) := by decide +kernel
theorem dX1_clear_68 : decode cX1_clear 68 = .ok (.invokestatic 45, 3) := by decide +kernel
theorem dX1_clear_71 : decode cX1_clear 71 = .ok (.return_, 1) := by decide +kernel
theorem dX1_copyFrom_0 : decode cX1_copyFrom 0 = .ok (.aload_n 0, 1) := by decide +kernel
theorem dX1_copyFrom_1 : decode cX1_copyFrom 1 = .ok (.aload_n 1, 1) := by decide +kernel
theorem dX1_copyFrom_2 : decode cX1_copyFrom 2 = .ok (.getfield 26, 3) := by decide +kernel
theorem dX1_copyFrom_5 : decode cX1_copyFrom 5 = .ok (.putfield 26, 3) := by decide +kernel
theorem dX1_copyFrom_8 : decode cX1_copyFrom 8 = .ok (.aload_n 0, 1) := by decide +kernel
theorem dX1_copyFrom_9 : decode cX1_copyFrom 9 = .ok (.aload_n 1, 1) := by decide +kernel
theorem dX1_copyFrom_10 : decode cX1_copyFrom 10 = .ok (.getfield 36, 3) := by decide +kernel
theorem dX1_copyFrom_13 : decode cX1_copyFrom 13 = .ok (.putfield 36, 3) := by decide +kernel
theorem dX1_copyFrom_16 : decode cX1_copyFrom 16 = .ok (.aload_n 0, 1) := by decide +kernel
theorem dX1_copyFrom_17 : decode cX1_copyFrom 17 = .ok (.aload_n 1, 1) := by decide +kernel
theorem dX1_copyFrom_18 : decode cX1_copyFrom 18 = .ok (.getfield 39, 3) := by decide +kernel
theorem dX1_copyFrom_21 : decode cX1_copyFrom 21 = .ok (.putfield 39, 3) := by decide +kernel
theorem dX1_copyFrom_24 : decode cX1_copyFrom 24 = .ok (.aload_n 0, 1) := by decide +kernel
theorem dX1_copyFrom_25 : decode cX1_copyFrom 25 = .ok (.aload_n 1, 1) := by decide +kernel
theorem dX1_copyFrom_26 : decode cX1_copyFrom 26 = .ok (.getfield 42, 3) := by decide +kernel
theorem dX1_copyFrom_29 : decode cX1_copyFrom 29 = .ok (.putfield 42, 3) := by decide +kernel
theorem dX1_copyFrom_32 : decode cX1_copyFrom 32 = .ok (.iconst 0, 1) := by decide +kernel
theorem dX1_copyFrom_33 : decode cX1_copyFrom 33 = .ok (.istore_n 2, 1) := by decide +kernel
theorem dX1_copyFrom_34 : decode cX1_copyFrom 34 = .ok (.iload_n 2, 1) := by decide +kernel
theorem dX1_copyFrom_35 : decode cX1_copyFrom 35 = .ok (.aload_n 0, 1) := by decide +kernel
theorem dX1_copyFrom_36 : decode cX1_copyFrom 36 = .ok (.getfield 26, 3) := by decide +kernel
theorem dX1_copyFrom_39 : decode cX1_copyFrom 39 = .ok (.getfield 51, 3) := by decide +kernel
theorem dX1_copyFrom_42 : decode cX1_copyFrom 42 = .ok (.if_icmp .ge 28, 3) := by decide +kernel
theorem dX1_copyFrom_45 : decode cX1_copyFrom 45 = .ok (.aload_n 1, 1) := by decide +kernel
theorem dX1_copyFrom_46 : decode cX1_copyFrom 46 = .ok (.getfield 11, 3) := by decide +kernel
theorem dX1_copyFrom_49 : decode cX1_copyFrom 49 = .ok (.iload_n 2, 1) := by decide +kernel
theorem dX1_copyFrom_50 : decode cX1_copyFrom 50 = .ok (.aaload, 1) := by decide +kernel
theorem dX1_copyFrom_51 : decode cX1_copyFrom 51 = .ok (.iconst 0, 1) := by decide +kernel
theorem dX1_copyFrom_52 : decode cX1_copyFrom 52 = .ok (.aload_n 0, 1) := by decide +kernel
theorem dX1_copyFrom_53 : decode cX1_copyFrom 53 = .ok (.getfield 11, 3) := by decide +kernel
theorem dX1_copyFrom_56 : decode cX1_copyFrom 56 = .ok (.iload_n 2, 1) := by decide +kernel
theorem dX1_copyFrom_57 : decode cX1_copyFrom 57 = .ok (.aaload, 1) := by decide +kernel
theorem dX1_copyFrom_58 : decode cX1_copyFrom 58 = .ok (.iconst 0, 1) := by decide +kernel
theorem dX1_copyFrom_59 : decode cX1_copyFrom 59 = .ok (.bipush 40, 2) := by decide +kernel
theorem dX1_copyFrom_61 : decode cX1_copyFrom 61 = .ok (.invokestatic 54, 3) := by decide +kernel
theorem dX1_copyFrom_64 : decode cX1_copyFrom 64 = .ok (.iinc 2 1, 3) := by decide +kernel
theorem dX1_copyFrom_67 : decode cX1_copyFrom 67 = .ok (.goto (-33), 3) := by decide +kernel
theorem dX1_copyFrom_70 : decode cX1_copyFrom 70 = .ok (.aload_n 1, 1) := by decide +kernel
theorem dX1_copyFrom_71 : decode cX1_copyFrom 71 = .ok (.getfield 16, 3) := by decide +kernel
theorem dX1_copyFrom_74 : decode cX1_copyFrom 74 = .ok (.iconst 0, 1) := by decide +kernel
theorem dX1_copyFrom_75 : decode cX1_copyFrom 75 = .ok (.aload_n 0, 1) := by decide +kernel
theorem dX1_copyFrom_76 : decode cX1_copyFrom 76 = .ok (.getfield 16, 3) := by decide +kernel
theorem dX1_copyFrom_79 : decode cX1_copyFrom 79 = .ok (.iconst 0, 1) := by decide +kernel
theorem dX1_copyFrom_80 : decode cX1_copyFrom 80 = .ok (.bipush 20, 2) := by decide +kernel
theorem dX1_copyFrom_82 : decode cX1_copyFrom 82 = .ok (.invokestatic 54, 3) := by decide +kernel
theorem dX1_copyFrom_85 : decode cX1_copyFrom 85 = .ok (.aload_n 1, 1) := by decide +kernel
theorem dX1_copyFrom_86 : decode cX1_copyFrom 86 = .ok (.getfield 20, 3) := by decide +kernel
theorem dX1_copyFrom_89 : decode cX1_copyFrom 89 = .ok (.iconst 0, 1) := by decide +kernel
theorem dX1_copyFrom_90 : decode cX1_copyFrom 90 = .ok (.aload_n 0, 1) := by decide +kernel
theorem dX1_copyFrom_91 : decode cX1_copyFrom 91 = .ok (.getfield 20, 3) := by decide +kernel
theorem dX1_copyFrom_94 : decode cX1_copyFrom 94 = .ok (.iconst 0, 1) := by decide +kernel
theorem dX1_copyFrom_95 : decode cX1_copyFrom 95 = .ok (.bipush 20, 2) := by decide +kernel
theorem dX1_copyFrom_97 : decode cX1_copyFrom 97 = .ok (.invokestatic 54, 3) := by decide +kernel
theorem dX1_copyFrom_100 : decode cX1_copyFrom 100 = .ok (.aload_n 1, 1) := by decide +kernel
theorem dX1_copyFrom_101 : decode cX1_copyFrom 101 = .ok (.getfield 23, 3) := by decide +kernel
theorem dX1_copyFrom_104 : decode cX1_copyFrom 104 = .ok (.iconst 0, 1) := by decide +kernel
theorem dX1_copyFrom_105 : decode cX1_copyFrom 105 = .ok (.aload_n 0, 1) := by decide +kernel
theorem dX1_copyFrom_106 : decode cX1_copyFrom 106 = .ok (.getfield 23, 3) := by decide +kernel
theorem dX1_copyFrom_109 : decode cX1_copyFrom 109 = .ok (.iconst 0, 1) := by decide +kernel
theorem dX1_copyFrom_110 : decode cX1_copyFrom 110 = .ok (.bipush 40, 2) := by decide +kernel
theorem dX1_copyFrom_112 : decode cX1_copyFrom 112 = .ok (.invokestatic 54, 3) := by decide +kernel
theorem dX1_copyFrom_115 : decode cX1_copyFrom 115 = .ok (.return_, 1) := by decide +kernel
theorem dX1_lackOf_0 : decode cX1_lackOf 0 = .ok (.aload_n 0, 1) := by decide +kernel
theorem dX1_lackOf_1 : decode cX1_lackOf 1 = .ok (.getfield 26, 3) := by decide +kernel
theorem dX1_lackOf_4 : decode cX1_lackOf 4 = .ok (.iload_n 1, 1) := by decide +kernel
theorem dX1_lackOf_5 : decode cX1_lackOf 5 = .ok (.invokevirtual 60, 3) := by decide +kernel
theorem dX1_lackOf_8 : decode cX1_lackOf 8 = .ok (.aload_n 0, 1) := by decide +kernel
theorem dX1_lackOf_9 : decode cX1_lackOf 9 = .ok (.getfield 16, 3) := by decide +kernel
theorem dX1_lackOf_12 : decode cX1_lackOf 12 = .ok (.iload_n 1, 1) := by decide +kernel
theorem dX1_lackOf_13 : decode cX1_lackOf 13 = .ok (.iaload, 1) := by decide +kernel
theorem dX1_lackOf_14 : decode cX1_lackOf 14 = .ok (.isub, 1) := by decide +kernel
theorem dX1_lackOf_15 : decode cX1_lackOf 15 = .ok (.ireturn, 1) := by decide +kernel
theorem dX1_haveOfScale_0 : decode cX1_haveOfScale 0 = .ok (.iconst 0, 1) := by decide +kernel
theorem dX1_haveOfScale_1 : decode cX1_haveOfScale 1 = .ok (.istore_n 2, 1) := by decide +kernel
theorem dX1_haveOfScale_2 : decode cX1_haveOfScale 2 = .ok (.aload_n 0, 1) := by decide +kernel
theorem dX1_haveOfScale_3 : decode cX1_haveOfScale 3 = .ok (.getfield 26, 3) := by decide +kernel
theorem dX1_haveOfScale_6 : decode cX1_haveOfScale 6 = .ok (.getfield 64, 3) := by decide +kernel
theorem dX1_haveOfScale_9 : decode cX1_haveOfScale 9 = .ok (.iload_n 1, 1) := by decide +kernel
theorem dX1_haveOfScale_10 : decode cX1_haveOfScale 10 = .ok (.iaload, 1) := by decide +kernel
theorem dX1_haveOfScale_11 : decode cX1_haveOfScale 11 = .ok (.istore_n 3, 1) := by decide +kernel
theorem dX1_haveOfScale_12 : decode cX1_haveOfScale 12 = .ok (.iconst 0, 1) := by decide +kernel
theorem dX1_haveOfScale_13 : decode cX1_haveOfScale 13 = .ok (.istore 4, 2) := by decide +kernel
theorem dX1_haveOfScale_15 : decode cX1_haveOfScale 15 = .ok (.iload 4, 2) := by decide +kernel
theorem dX1_haveOfScale_17 : decode cX1_haveOfScale 17 = .ok (.aload_n 0, 1) := by decide +kernel
theorem dX1_haveOfScale_18 : decode cX1_haveOfScale 18 = .ok (.getfield 26, 3) := by decide +kernel
theorem dX1_haveOfScale_21 : decode cX1_haveOfScale 21 = .ok (.getfield 67, 3) := by decide +kernel
theorem dX1_haveOfScale_24 : decode cX1_haveOfScale 24 = .ok (.iload_n 1, 1) := by decide +kernel
theorem dX1_haveOfScale_25 : decode cX1_haveOfScale 25 = .ok (.iaload, 1) := by decide +kernel
theorem dX1_haveOfScale_26 : decode cX1_haveOfScale 26 = .ok (.if_icmp .ge 21, 3) := by decide +kernel
theorem dX1_haveOfScale_29 : decode cX1_haveOfScale 29 = .ok (.iload_n 2, 1) := by decide +kernel
theorem dX1_haveOfScale_30 : decode cX1_haveOfScale 30 = .ok (.aload_n 0, 1) := by decide +kernel
theorem dX1_haveOfScale_31 : decode cX1_haveOfScale 31 = .ok (.getfield 16, 3) := by decide +kernel
theorem dX1_haveOfScale_34 : decode cX1_haveOfScale 34 = .ok (.iload_n 3, 1) := by decide +kernel
theorem dX1_haveOfScale_35 : decode cX1_haveOfScale 35 = .ok (.iload 4, 2) := by decide +kernel
theorem dX1_haveOfScale_37 : decode cX1_haveOfScale 37 = .ok (.iadd, 1) := by decide +kernel
theorem dX1_haveOfScale_38 : decode cX1_haveOfScale 38 = .ok (.iaload, 1) := by decide +kernel
theorem dX1_haveOfScale_39 : decode cX1_haveOfScale 39 = .ok (.iadd, 1) := by decide +kernel
theorem dX1_haveOfScale_40 : decode cX1_haveOfScale 40 = .ok (.istore_n 2, 1) := by decide +kernel
theorem dX1_haveOfScale_41 : decode cX1_haveOfScale 41 = .ok (.iinc 4 1, 3) := by decide +kernel
theorem dX1_haveOfScale_44 : decode cX1_haveOfScale 44 = .ok (.goto (-29), 3) := by decide +kernel
theorem dX1_haveOfScale_47 : decode cX1_haveOfScale 47 = .ok (.iload_n 2, 1) := by decide +kernel
theorem dX1_haveOfScale_48 : decode cX1_haveOfScale 48 = .ok (.ireturn, 1) := by decide +kernel
theorem dX1_lackOfScale_0 : decode cX1_lackOfScale 0 = .ok (.aload_n 0, 1) := by decide +kernel
theorem dX1_lackOfScale_1 : decode cX1_lackOfScale 1 = .ok (.getfield 26, 3) := by decide +kernel
theorem dX1_lackOfScale_4 : decode cX1_lackOfScale 4 = .ok (.getfield 70, 3) := by decide +kernel
theorem dX1_lackOfScale_7 : decode cX1_lackOfScale 7 = .ok (.iload_n 1, 1) := by decide +kernel
theorem dX1_lackOfScale_8 : decode cX1_lackOfScale 8 = .ok (.iaload, 1) := by decide +kernel
theorem dX1_lackOfScale_9 : decode cX1_lackOfScale 9 = .ok (.aload_n 0, 1) := by decide +kernel
theorem dX1_lackOfScale_10 : decode cX1_lackOfScale 10 = .ok (.getfield 26, 3) := by decide +kernel
theorem dX1_lackOfScale_13 : decode cX1_lackOfScale 13 = .ok (.getfield 67, 3) := by decide +kernel
theorem dX1_lackOfScale_16 : decode cX1_lackOfScale 16 = .ok (.iload_n 1, 1) := by decide +kernel
theorem dX1_lackOfScale_17 : decode cX1_lackOfScale 17 = .ok (.iaload, 1) := by decide +kernel
theorem dX1_lackOfScale_18 : decode cX1_lackOfScale 18 = .ok (.imul, 1) := by decide +kernel
theorem dX1_lackOfScale_19 : decode cX1_lackOfScale 19 = .ok (.aload_n 0, 1) := by decide +kernel
theorem dX1_lackOfScale_20 : decode cX1_lackOfScale 20 = .ok (.iload_n 1, 1) := by decide +kernel
theorem dX1_lackOfScale_21 : decode cX1_lackOfScale 21 = .ok (.invokevirtual 73, 3) := by decide +kernel
theorem dX1_lackOfScale_24 : decode cX1_lackOfScale 24 = .ok (.isub, 1) := by decide +kernel
theorem dX1_lackOfScale_25 : decode cX1_lackOfScale 25 = .ok (.ireturn, 1) := by decide +kernel
theorem dX1_haveInAll_0 : decode cX1_haveInAll 0 = .ok (.iconst 0, 1) := by decide +kernel
theorem dX1_haveInAll_1 : decode cX1_haveInAll 1 = .ok (.istore_n 1, 1) := by decide +kernel
theorem dX1_haveInAll_2 : decode cX1_haveInAll 2 = .ok (.iconst 0, 1) := by decide +kernel
theorem dX1_haveInAll_3 : decode cX1_haveInAll 3 = .ok (.istore_n 2, 1) := by decide +kernel
theorem dX1_haveInAll_4 : decode cX1_haveInAll 4 = .ok (.iload_n 2, 1) := by decide +kernel
theorem dX1_haveInAll_5 : decode cX1_haveInAll 5 = .ok (.aload_n 0, 1) := by decide +kernel
theorem dX1_haveInAll_6 : decode cX1_haveInAll 6 = .ok (.getfield 26, 3) := by decide +kernel
theorem dX1_haveInAll_9 : decode cX1_haveInAll 9 = .ok (.getfield 51, 3) := by decide +kernel
theorem dX1_haveInAll_12 : decode cX1_haveInAll 12 = .ok (.if_icmp .ge 18, 3) := by decide +kernel
theorem dX1_haveInAll_15 : decode cX1_haveInAll 15 = .ok (.iload_n 1, 1) := by decide +kernel
theorem dX1_haveInAll_16 : decode cX1_haveInAll 16 = .ok (.aload_n 0, 1) := by decide +kernel
theorem dX1_haveInAll_17 : decode cX1_haveInAll 17 = .ok (.getfield 16, 3) := by decide +kernel
theorem dX1_haveInAll_20 : decode cX1_haveInAll 20 = .ok (.iload_n 2, 1) := by decide +kernel
theorem dX1_haveInAll_21 : decode cX1_haveInAll 21 = .ok (.iaload, 1) := by decide +kernel
theorem dX1_haveInAll_22 : decode cX1_haveInAll 22 = .ok (.iadd, 1) := by decide +kernel
theorem dX1_haveInAll_23 : decode cX1_haveInAll 23 = .ok (.istore_n 1, 1) := by decide +kernel
theorem dX1_haveInAll_24 : decode cX1_haveInAll 24 = .ok (.iinc 2 1, 3) := by decide +kernel
theorem dX1_haveInAll_27 : decode cX1_haveInAll 27 = .ok (.goto (-23), 3) := by decide +kernel
theorem dX1_haveInAll_30 : decode cX1_haveInAll 30 = .ok (.iload_n 1, 1) := by decide +kernel
theorem dX1_haveInAll_31 : decode cX1_haveInAll 31 = .ok (.ireturn, 1) := by decide +kernel
theorem dX1_inBottle_0 : decode cX1_inBottle 0 = .ok (.iconst 0, 1) := by decide +kernel
theorem dX1_inBottle_1 : decode cX1_inBottle 1 = .ok (.istore_n 1, 1) := by decide +kernel
theorem dX1_inBottle_2 : decode cX1_inBottle 2 = .ok (.iconst 0, 1) := by decide +kernel
theorem dX1_inBottle_3 : decode cX1_inBottle 3 = .ok (.istore_n 2, 1) := by decide +kernel
theorem dX1_inBottle_4 : decode cX1_inBottle 4 = .ok (.iload_n 2, 1) := by decide +kernel
theorem dX1_inBottle_5 : decode cX1_inBottle 5 = .ok (.bipush 40, 2) := by decide +kernel
theorem dX1_inBottle_7 : decode cX1_inBottle 7 = .ok (.if_icmp .ge 18, 3) := by decide +kernel
theorem dX1_inBottle_10 : decode cX1_inBottle 10 = .ok (.iload_n 1, 1) := by decide +kernel
theorem dX1_inBottle_11 : decode cX1_inBottle 11 = .ok (.aload_n 0, 1) := by decide +kernel
theorem dX1_inBottle_12 : decode cX1_inBottle 12 = .ok (.getfield 23, 3) := by decide +kernel
theorem dX1_inBottle_15 : decode cX1_inBottle 15 = .ok (.iload_n 2, 1) := by decide +kernel
theorem dX1_inBottle_16 : decode cX1_inBottle 16 = .ok (.iaload, 1) := by decide +kernel
theorem dX1_inBottle_17 : decode cX1_inBottle 17 = .ok (.iadd, 1) := by decide +kernel
theorem dX1_inBottle_18 : decode cX1_inBottle 18 = .ok (.istore_n 1, 1) := by decide +kernel
theorem dX1_inBottle_19 : decode cX1_inBottle 19 = .ok (.iinc 2 1, 3) := by decide +kernel
theorem dX1_inBottle_22 : decode cX1_inBottle 22 = .ok (.goto (-18), 3) := by decide +kernel
theorem dX1_inBottle_25 : decode cX1_inBottle 25 = .ok (.iload_n 1, 1) := by decide +kernel
theorem dX1_inBottle_26 : decode cX1_inBottle 26 = .ok (.ireturn, 1) := by decide +kernel
theorem dX1_agesOf_0 : decode cX1_agesOf 0 = .ok (.aload_n 0, 1) := by decide +kernel
theorem dX1_agesOf_1 : decode cX1_agesOf 1 = .ok (.aload_n 0, 1) := by decide +kernel
theorem dX1_agesOf_2 : decode cX1_agesOf 2 = .ok (.getfield 11, 3) := by decide +kernel
theorem dX1_agesOf_5 : decode cX1_agesOf 5 = .ok (.iload_n 1, 1) := by decide +kernel
theorem dX1_agesOf_6 : decode cX1_agesOf 6 = .ok (.aaload, 1) := by decide +kernel
theorem dX1_agesOf_7 : decode cX1_agesOf 7 = .ok (.invokevirtual 76, 3) := by decide +kernel
theorem dX1_agesOf_10 : decode cX1_agesOf 10 = .ok (.ireturn, 1) := by decide +kernel
theorem dX1_agesOfRow_0 : decode cX1_agesOfRow 0 = .ok (.iconst 0, 1) := by decide +kernel
theorem dX1_agesOfRow_1 : decode cX1_agesOfRow 1 = .ok (.istore_n 2, 1) := by decide +kernel
theorem dX1_agesOfRow_2 : decode cX1_agesOfRow 2 = .ok (.iconst 0, 1) := by decide +kernel
theorem dX1_agesOfRow_3 : decode cX1_agesOfRow 3 = .ok (.istore_n 3, 1) := by decide +kernel
theorem dX1_agesOfRow_4 : decode cX1_agesOfRow 4 = .ok (.iload_n 3, 1) := by decide +kernel
theorem dX1_agesOfRow_5 : decode cX1_agesOfRow 5 = .ok (.aload_n 0, 1) := by decide +kernel
theorem dX1_agesOfRow_6 : decode cX1_agesOfRow 6 = .ok (.getfield 36, 3) := by decide +kernel
theorem dX1_agesOfRow_9 : decode cX1_agesOfRow 9 = .ok (.if_icmp .ge 28, 3) := by decide +kernel
theorem dX1_agesOfRow_12 : decode cX1_agesOfRow 12 = .ok (.iload_n 3, 1) := by decide +kernel
theorem dX1_agesOfRow_13 : decode cX1_agesOfRow 13 = .ok (.bipush 40, 2) := by decide +kernel
theorem dX1_agesOfRow_15 : decode cX1_agesOfRow 15 = .ok (.if_icmp .ge 22, 3) := by decide +kernel
theorem dX1_agesOfRow_18 : decode cX1_agesOfRow 18 = .ok (.iload_n 2, 1) := by decide +kernel
theorem dX1_agesOfRow_19 : decode cX1_agesOfRow 19 = .ok (.aload_n 1, 1) := by decide +kernel
theorem dX1_agesOfRow_20 : decode cX1_agesOfRow 20 = .ok (.iload_n 3, 1) := by decide +kernel
theorem dX1_agesOfRow_21 : decode cX1_agesOfRow 21 = .ok (.iaload, 1) := by decide +kernel
theorem dX1_agesOfRow_22 : decode cX1_agesOfRow 22 = .ok (.aload_n 0, 1) := by decide +kernel
theorem dX1_agesOfRow_23 : decode cX1_agesOfRow 23 = .ok (.getfield 36, 3) := by decide +kernel
theorem dX1_agesOfRow_26 : decode cX1_agesOfRow 26 = .ok (.iload_n 3, 1) := by decide +kernel
theorem dX1_agesOfRow_27 : decode cX1_agesOfRow 27 = .ok (.isub, 1) := by decide +kernel
theorem dX1_agesOfRow_28 : decode cX1_agesOfRow 28 = .ok (.imul, 1) := by decide +kernel
theorem dX1_agesOfRow_29 : decode cX1_agesOfRow 29 = .ok (.iadd, 1) := by decide +kernel
theorem dX1_agesOfRow_30 : decode cX1_agesOfRow 30 = .ok (.istore_n 2, 1) := by decide +kernel
theorem dX1_agesOfRow_31 : decode cX1_agesOfRow 31 = .ok (.iinc 3 1, 3) := by decide +kernel
theorem dX1_agesOfRow_34 : decode cX1_agesOfRow 34 = .ok (.goto (-30), 3) := by decide +kernel
theorem dX1_agesOfRow_37 : decode cX1_agesOfRow 37 = .ok (.iload_n 2, 1) := by decide +kernel
theorem dX1_agesOfRow_38 : decode cX1_agesOfRow 38 = .ok (.ireturn, 1) := by decide +kernel
theorem dX1_agesOfScale_0 : decode cX1_agesOfScale 0 = .ok (.iconst 0, 1) := by decide +kernel
theorem dX1_agesOfScale_1 : decode cX1_agesOfScale 1 = .ok (.istore_n 2, 1) := by decide +kernel
theorem dX1_agesOfScale_2 : decode cX1_agesOfScale 2 = .ok (.aload_n 0, 1) := by decide +kernel
theorem dX1_agesOfScale_3 : decode cX1_agesOfScale 3 = .ok (.getfield 26, 3) := by decide +kernel
theorem dX1_agesOfScale_6 : decode cX1_agesOfScale 6 = .ok (.getfield 64, 3) := by decide +kernel
theorem dX1_agesOfScale_9 : decode cX1_agesOfScale 9 = .ok (.iload_n 1, 1) := by decide +kernel
theorem dX1_agesOfScale_10 : decode cX1_agesOfScale 10 = .ok (.iaload, 1) := by decide +kernel
theorem dX1_agesOfScale_11 : decode cX1_agesOfScale 11 = .ok (.istore_n 3, 1) := by decide +kernel
theorem dX1_agesOfScale_12 : decode cX1_agesOfScale 12 = .ok (.iconst 0, 1) := by decide +kernel
theorem dX1_agesOfScale_13 : decode cX1_agesOfScale 13 = .ok (.istore 4, 2) := by decide +kernel
theorem dX1_agesOfScale_15 : decode cX1_agesOfScale 15 = .ok (.iload 4, 2) := by decide +kernel
theorem dX1_agesOfScale_17 : decode cX1_agesOfScale 17 = .ok (.aload_n 0, 1) := by decide +kernel
theorem dX1_agesOfScale_18 : decode cX1_agesOfScale 18 = .ok (.getfield 26, 3) := by decide +kernel
theorem dX1_agesOfScale_21 : decode cX1_agesOfScale 21 = .ok (.getfield 67, 3) := by decide +kernel
theorem dX1_agesOfScale_24 : decode cX1_agesOfScale 24 = .ok (.iload_n 1, 1) := by decide +kernel
theorem dX1_agesOfScale_25 : decode cX1_agesOfScale 25 = .ok (.iaload, 1) := by decide +kernel
theorem dX1_agesOfScale_26 : decode cX1_agesOfScale 26 = .ok (.if_icmp .ge 20, 3) := by decide +kernel
theorem dX1_agesOfScale_29 : decode cX1_agesOfScale 29 = .ok (.iload_n 2, 1) := by decide +kernel
theorem dX1_agesOfScale_30 : decode cX1_agesOfScale 30 = .ok (.aload_n 0, 1) := by decide +kernel
theorem dX1_agesOfScale_31 : decode cX1_agesOfScale 31 = .ok (.iload_n 3, 1) := by decide +kernel
theorem dX1_agesOfScale_32 : decode cX1_agesOfScale 32 = .ok (.iload 4, 2) := by decide +kernel
theorem dX1_agesOfScale_34 : decode cX1_agesOfScale 34 = .ok (.iadd, 1) := by decide +kernel
theorem dX1_agesOfScale_35 : decode cX1_agesOfScale 35 = .ok (.invokevirtual 80, 3) := by decide +kernel
theorem dX1_agesOfScale_38 : decode cX1_agesOfScale 38 = .ok (.iadd, 1) := by decide +kernel
theorem dX1_agesOfScale_39 : decode cX1_agesOfScale 39 = .ok (.istore_n 2, 1) := by decide +kernel
theorem dX1_agesOfScale_40 : decode cX1_agesOfScale 40 = .ok (.iinc 4 1, 3) := by decide +kernel
theorem dX1_agesOfScale_43 : decode cX1_agesOfScale 43 = .ok (.goto (-28), 3) := by decide +kernel
theorem dX1_agesOfScale_46 : decode cX1_agesOfScale 46 = .ok (.iload_n 2, 1) := by decide +kernel
theorem dX1_agesOfScale_47 : decode cX1_agesOfScale 47 = .ok (.ireturn, 1) := by decide +kernel
theorem dX1_olderOf_0 : decode cX1_olderOf 0 = .ok (.iconst 0, 1) := by decide +kernel
theorem dX1_olderOf_1 : decode cX1_olderOf 1 = .ok (.istore_n 3, 1) := by decide +kernel
theorem dX1_olderOf_2 : decode cX1_olderOf 2 = .ok (.iconst 0, 1) := by decide +kernel
theorem dX1_olderOf_3 : decode cX1_olderOf 3 = .ok (.istore 4, 2) := by decide +kernel
theorem dX1_olderOf_5 : decode cX1_olderOf 5 = .ok (.iload 4, 2) := by decide +kernel
theorem dX1_olderOf_7 : decode cX1_olderOf 7 = .ok (.aload_n 0, 1) := by decide +kernel
theorem dX1_olderOf_8 : decode cX1_olderOf 8 = .ok (.getfield 36, 3) := by decide +kernel
theorem dX1_olderOf_11 : decode cX1_olderOf 11 = .ok (.iload_n 2, 1) := by decide +kernel
theorem dX1_olderOf_12 : decode cX1_olderOf 12 = .ok (.isub, 1) := by decide +kernel
theorem dX1_olderOf_13 : decode cX1_olderOf 13 = .ok (.if_icmp .gt 28, 3) := by decide +kernel
theorem dX1_olderOf_16 : decode cX1_olderOf 16 = .ok (.iload 4, 2) := by decide +kernel
theorem dX1_olderOf_18 : decode cX1_olderOf 18 = .ok (.bipush 40, 2) := by decide +kernel
theorem dX1_olderOf_20 : decode cX1_olderOf 20 = .ok (.if_icmp .ge 21, 3) := by decide +kernel
theorem dX1_olderOf_23 : decode cX1_olderOf 23 = .ok (.iload_n 3, 1) := by decide +kernel
theorem dX1_olderOf_24 : decode cX1_olderOf 24 = .ok (.aload_n 0, 1) := by decide +kernel
theorem dX1_olderOf_25 : decode cX1_olderOf 25 = .ok (.getfield 11, 3) := by decide +kernel
theorem dX1_olderOf_28 : decode cX1_olderOf 28 = .ok (.iload_n 1, 1) := by decide +kernel
theorem dX1_olderOf_29 : decode cX1_olderOf 29 = .ok (.aaload, 1) := by decide +kernel
theorem dX1_olderOf_30 : decode cX1_olderOf 30 = .ok (.iload 4, 2) := by decide +kernel
theorem dX1_olderOf_32 : decode cX1_olderOf 32 = .ok (.iaload, 1) := by decide +kernel
theorem dX1_olderOf_33 : decode cX1_olderOf 33 = .ok (.iadd, 1) := by decide +kernel
theorem dX1_olderOf_34 : decode cX1_olderOf 34 = .ok (.istore_n 3, 1) := by decide +kernel
theorem dX1_olderOf_35 : decode cX1_olderOf 35 = .ok (.iinc 4 1, 3) := by decide +kernel
theorem dX1_olderOf_38 : decode cX1_olderOf 38 = .ok (.goto (-33), 3) := by decide +kernel
theorem dX1_olderOf_41 : decode cX1_olderOf 41 = .ok (.iload_n 3, 1) := by decide +kernel
theorem dX1_olderOf_42 : decode cX1_olderOf 42 = .ok (.ireturn, 1) := by decide +kernel
theorem dX1_oldest_0 : decode cX1_oldest 0 = .ok (.iconst 0, 1) := by decide +kernel
theorem dX1_oldest_1 : decode cX1_oldest 1 = .ok (.istore_n 2, 1) := by decide +kernel
theorem dX1_oldest_2 : decode cX1_oldest 2 = .ok (.iload_n 2, 1) := by decide +kernel
theorem dX1_oldest_3 : decode cX1_oldest 3 = .ok (.bipush 40, 2) := by decide +kernel
theorem dX1_oldest_5 : decode cX1_oldest 5 = .ok (.if_icmp .ge 22, 3) := by decide +kernel
theorem dX1_oldest_8 : decode cX1_oldest 8 = .ok (.aload_n 0, 1) := by decide +kernel
theorem dX1_oldest_9 : decode cX1_oldest 9 = .ok (.getfield 11, 3) := by decide +kernel
theorem dX1_oldest_12 : decode cX1_oldest 12 = .ok (.iload_n 1, 1) := by decide +kernel
theorem dX1_oldest_13 : decode cX1_oldest 13 = .ok (.aaload, 1) := by decide +kernel
theorem dX1_oldest_14 : decode cX1_oldest 14 = .ok (.iload_n 2, 1) := by decide +kernel
theorem dX1_oldest_15 : decode cX1_oldest 15 = .ok (.iaload, 1) := by decide +kernel
theorem dX1_oldest_16 : decode cX1_oldest 16 = .ok (.ifCond .le 5, 3) := by decide +kernel
theorem dX1_oldest_19 : decode cX1_oldest 19 = .ok (.iload_n 2, 1) := by decide +kernel
theorem dX1_oldest_20 : decode cX1_oldest 20 = .ok (.ireturn, 1) := by decide +kernel
theorem dX1_oldest_21 : decode cX1_oldest 21 = .ok (.iinc 2 1, 3) := by decide +kernel
theorem dX1_oldest_24 : decode cX1_oldest 24 = .ok (.goto (-22), 3) := by decide +kernel
theorem dX1_oldest_27 : decode cX1_oldest 27 = .ok (.iconst (-1), 1) := by decide +kernel
theorem dX1_oldest_28 : decode cX1_oldest 28 = .ok (.ireturn, 1) := by decide +kernel
theorem dX1_youngest_0 : decode cX1_youngest 0 = .ok (.bipush 39, 2) := by decide +kernel
theorem dX1_youngest_2 : decode cX1_youngest 2 = .ok (.istore_n 2, 1) := by decide +kernel
theorem dX1_youngest_3 : decode cX1_youngest 3 = .ok (.iload_n 2, 1) := by decide +kernel
theorem dX1_youngest_4 : decode cX1_youngest 4 = .ok (.ifCond .lt 22, 3) := by decide +kernel
theorem dX1_youngest_7 : decode cX1_youngest 7 = .ok (.aload_n 0, 1) := by decide +kernel
theorem dX1_youngest_8 : decode cX1_youngest 8 = .ok (.getfield 11, 3) := by decide +kernel
theorem dX1_youngest_11 : decode cX1_youngest 11 = .ok (.iload_n 1, 1) := by decide +kernel
theorem dX1_youngest_12 : decode cX1_youngest 12 = .ok (.aaload, 1) := by decide +kernel
theorem dX1_youngest_13 : decode cX1_youngest 13 = .ok (.iload_n 2, 1) := by decide +kernel
theorem dX1_youngest_14 : decode cX1_youngest 14 = .ok (.iaload, 1) := by decide +kernel
theorem dX1_youngest_15 : decode cX1_youngest 15 = .ok (.ifCond .le 5, 3) := by decide +kernel
theorem dX1_youngest_18 : decode cX1_youngest 18 = .ok (.iload_n 2, 1) := by decide +kernel
theorem dX1_youngest_19 : decode cX1_youngest 19 = .ok (.ireturn, 1) := by decide +kernel
theorem dX1_youngest_20 : decode cX1_youngest 20 = .ok (.iinc 2 (-1), 3) := by decide +kernel
theorem dX1_youngest_23 : decode cX1_youngest 23 = .ok (.goto (-20), 3) := by decide +kernel
theorem dX1_youngest_26 : decode cX1_youngest 26 = .ok (.iconst (-1), 1) := by decide +kernel
theorem dX1_youngest_27 : decode cX1_youngest 27 = .ok (.ireturn, 1) := by decide +kernel
theorem dX1_fullCasks_0 : decode cX1_fullCasks 0 = .ok (.iconst 0, 1) := by decide +kernel
theorem dX1_fullCasks_1 : decode cX1_fullCasks 1 = .ok (.istore_n 1, 1) := by decide +kernel
theorem dX1_fullCasks_2 : decode cX1_fullCasks 2 = .ok (.iconst 0, 1) := by decide +kernel
theorem dX1_fullCasks_3 : decode cX1_fullCasks 3 = .ok (.istore_n 2, 1) := by decide +kernel
theorem dX1_fullCasks_4 : decode cX1_fullCasks 4 = .ok (.iload_n 2, 1) := by decide +kernel
theorem dX1_fullCasks_5 : decode cX1_fullCasks 5 = .ok (.aload_n 0, 1) := by decide +kernel
theorem dX1_fullCasks_6 : decode cX1_fullCasks 6 = .ok (.getfield 26, 3) := by decide +kernel
theorem dX1_fullCasks_9 : decode cX1_fullCasks 9 = .ok (.getfield 51, 3) := by decide +kernel
theorem dX1_fullCasks_12 : decode cX1_fullCasks 12 = .ok (.if_icmp .ge 23, 3) := by decide +kernel
theorem dX1_fullCasks_15 : decode cX1_fullCasks 15 = .ok (.aload_n 0, 1) := by decide +kernel
theorem dX1_fullCasks_16 : decode cX1_fullCasks 16 = .ok (.iload_n 2, 1) := by decide +kernel
theorem dX1_fullCasks_17 : decode cX1_fullCasks 17 = .ok (.invokevirtual 83, 3) := by decide +kernel
theorem dX1_fullCasks_20 : decode cX1_fullCasks 20 = .ok (.ifCond .ne 9, 3) := by decide +kernel
theorem dX1_fullCasks_23 : decode cX1_fullCasks 23 = .ok (.iload_n 1, 1) := by decide +kernel
theorem dX1_fullCasks_24 : decode cX1_fullCasks 24 = .ok (.iconst 1, 1) := by decide +kernel
theorem dX1_fullCasks_25 : decode cX1_fullCasks 25 = .ok (.iload_n 2, 1) := by decide +kernel
theorem dX1_fullCasks_26 : decode cX1_fullCasks 26 = .ok (.ishl, 1) := by decide +kernel
theorem dX1_fullCasks_27 : decode cX1_fullCasks 27 = .ok (.ior, 1) := by decide +kernel
theorem dX1_fullCasks_28 : decode cX1_fullCasks 28 = .ok (.istore_n 1, 1) := by decide +kernel
theorem dX1_fullCasks_29 : decode cX1_fullCasks 29 = .ok (.iinc 2 1, 3) := by decide +kernel
theorem dX1_fullCasks_32 : decode cX1_fullCasks 32 = .ok (.goto (-28), 3) := by decide +kernel
theorem dX1_fullCasks_35 : decode cX1_fullCasks 35 = .ok (.iload_n 1, 1) := by decide +kernel
theorem dX1_fullCasks_36 : decode cX1_fullCasks 36 = .ok (.ireturn, 1) := by decide +kernel
theorem dX1_emptyCasks_0 : decode cX1_emptyCasks 0 = .ok (.iconst 0, 1) := by decide +kernel
theorem dX1_emptyCasks_1 : decode cX1_emptyCasks 1 = .ok (.istore_n 1, 1) := by decide +kernel
theorem dX1_emptyCasks_2 : decode cX1_emptyCasks 2 = .ok (.iconst 0, 1) := by decide +kernel
theorem dX1_emptyCasks_3 : decode cX1_emptyCasks 3 = .ok (.istore_n 2, 1) := by decide +kernel
theorem dX1_emptyCasks_4 : decode cX1_emptyCasks 4 = .ok (.iload_n 2, 1) := by decide +kernel
theorem dX1_emptyCasks_5 : decode cX1_emptyCasks 5 = .ok (.aload_n 0, 1) := by decide +kernel
theorem dX1_emptyCasks_6 : decode cX1_emptyCasks 6 = .ok (.getfield 26, 3) := by decide +kernel
theorem dX1_emptyCasks_9 : decode cX1_emptyCasks 9 = .ok (.getfield 51, 3) := by decide +kernel
theorem dX1_emptyCasks_12 : decode cX1_emptyCasks 12 = .ok (.if_icmp .ge 24, 3) := by decide +kernel
theorem dX1_emptyCasks_15 : decode cX1_emptyCasks 15 = .ok (.aload_n 0, 1) := by decide +kernel
theorem dX1_emptyCasks_16 : decode cX1_emptyCasks 16 = .ok (.getfield 16, 3) := by decide +kernel
theorem dX1_emptyCasks_19 : decode cX1_emptyCasks 19 = .ok (.iload_n 2, 1) := by decide +kernel
theorem dX1_emptyCasks_20 : decode cX1_emptyCasks 20 = .ok (.iaload, 1) := by decide +kernel
theorem dX1_emptyCasks_21 : decode cX1_emptyCasks 21 = .ok (.ifCond .ne 9, 3) := by decide +kernel
theorem dX1_emptyCasks_24 : decode cX1_emptyCasks 24 = .ok (.iload_n 1, 1) := by decide +kernel
theorem dX1_emptyCasks_25 : decode cX1_emptyCasks 25 = .ok (.iconst 1, 1) := by decide +kernel
theorem dX1_emptyCasks_26 : decode cX1_emptyCasks 26 = .ok (.iload_n 2, 1) := by decide +kernel
theorem dX1_emptyCasks_27 : decode cX1_emptyCasks 27 = .ok (.ishl, 1) := by decide +kernel
theorem dX1_emptyCasks_28 : decode cX1_emptyCasks 28 = .ok (.ior, 1) := by decide +kernel
theorem dX1_emptyCasks_29 : decode cX1_emptyCasks 29 = .ok (.istore_n 1, 1) := by decide +kernel
theorem dX1_emptyCasks_30 : decode cX1_emptyCasks 30 = .ok (.iinc 2 1, 3) := by decide +kernel
theorem dX1_emptyCasks_33 : decode cX1_emptyCasks 33 = .ok (.goto (-29), 3) := by decide +kernel
theorem dX1_emptyCasks_36 : decode cX1_emptyCasks 36 = .ok (.iload_n 1, 1) := by decide +kernel
theorem dX1_emptyCasks_37 : decode cX1_emptyCasks 37 = .ok (.ireturn, 1) := by decide +kernel
theorem dX2_init_0 : decode cX2_init 0 = .ok (.aload_n 0, 1) := by decide +kernel
theorem dX2_init_1 : decode cX2_init 1 = .ok (.invokespecial 3, 3) := by decide +kernel
theorem dX2_init_4 : decode cX2_init 4 = .ok (.aload_n 0, 1) := by decide +kernel
theorem dX2_init_5 : decode cX2_init 5 = .ok (.bipush 40, 2) := by decide +kernel
theorem dX2_init_7 : decode cX2_init 7 = .ok (.newarray .int, 2) := by decide +kernel
theorem dX2_init_9 : decode cX2_init 9 = .ok (.putfield 9, 3) := by decide +kernel
theorem dX2_init_12 : decode cX2_init 12 = .ok (.aload_n 0, 1) := by decide +kernel
theorem dX2_init_13 : decode cX2_init 13 = .ok (.bipush 40, 2) := by decide +kernel
theorem dX2_init_15 : decode cX2_init 15 = .ok (.newarray .int, 2) := by decide +kernel
theorem dX2_init_17 : decode cX2_init 17 = .ok (.putfield 15, 3) := by decide +kernel
theorem dX2_init_20 : decode cX2_init 20 = .ok (.aload_n 0, 1) := by decide +kernel
theorem dX2_init_21 : decode cX2_init 21 = .ok (.bipush 40, 2) := by decide +kernel
theorem dX2_init_23 : decode cX2_init 23 = .ok (.newarray .int, 2) := by decide +kernel
theorem dX2_init_25 : decode cX2_init 25 = .ok (.putfield 18, 3) := by decide +kernel
theorem dX2_init_28 : decode cX2_init 28 = .ok (.aload_n 0, 1) := by decide +kernel
theorem dX2_init_29 : decode cX2_init 29 = .ok (.iconst 4, 1) := by decide +kernel
theorem dX2_init_30 : decode cX2_init 30 = .ok (.newarray .int, 2) := by decide +kernel
theorem dX2_init_32 : decode cX2_init 32 = .ok (.putfield 21, 3) := by decide +kernel
theorem dX2_init_35 : decode cX2_init 35 = .ok (.aload_n 0, 1) := by decide +kernel
theorem dX2_init_36 : decode cX2_init 36 = .ok (.iconst 4, 1) := by decide +kernel
theorem dX2_init_37 : decode cX2_init 37 = .ok (.newarray .int, 2) := by decide +kernel
theorem dX2_init_39 : decode cX2_init 39 = .ok (.putfield 24, 3) := by decide +kernel
theorem dX2_init_42 : decode cX2_init 42 = .ok (.return_, 1) := by decide +kernel
theorem dX2_share_0 : decode cX2_share 0 = .ok (.aload 4, 2) := by decide +kernel
theorem dX2_share_2 : decode cX2_share 2 = .ok (.iconst 0, 1) := by decide +kernel
theorem dX2_share_3 : decode cX2_share 3 = .ok (.invokestatic 27, 3) := by decide +kernel
theorem dX2_share_6 : decode cX2_share 6 = .ok (.iconst 0, 1) := by decide +kernel
theorem dX2_share_7 : decode cX2_share 7 = .ok (.istore 5, 2) := by decide +kernel
theorem dX2_share_9 : decode cX2_share 9 = .ok (.iload_n 2, 1) := by decide +kernel
theorem dX2_share_10 : decode cX2_share 10 = .ok (.istore 6, 2) := by decide +kernel
theorem dX2_share_12 : decode cX2_share 12 = .ok (.iconst 0, 1) := by decide +kernel
theorem dX2_share_13 : decode cX2_share 13 = .ok (.istore 7, 2) := by decide +kernel
theorem dX2_share_15 : decode cX2_share 15 = .ok (.iconst 0, 1) := by decide +kernel
theorem dX2_share_16 : decode cX2_share 16 = .ok (.istore 8, 2) := by decide +kernel
theorem dX2_share_18 : decode cX2_share 18 = .ok (.iload 8, 2) := by decide +kernel
theorem dX2_share_20 : decode cX2_share 20 = .ok (.iload_n 2, 1) := by decide +kernel
theorem dX2_share_21 : decode cX2_share 21 = .ok (.if_icmp .ge 40, 3) := by decide +kernel
theorem dX2_share_24 : decode cX2_share 24 = .ok (.aload_n 1, 1) := by decide +kernel
theorem dX2_share_25 : decode cX2_share 25 = .ok (.iload 8, 2) := by decide +kernel
theorem dX2_share_27 : decode cX2_share 27 = .ok (.iaload, 1) := by decide +kernel
theorem dX2_share_28 : decode cX2_share 28 = .ok (.ifCond .le 27, 3) := by decide +kernel
theorem dX2_share_31 : decode cX2_share 31 = .ok (.iload 5, 2) := by decide +kernel
theorem dX2_share_33 : decode cX2_share 33 = .ok (.aload_n 1, 1) := by decide +kernel
theorem dX2_share_34 : decode cX2_share 34 = .ok (.iload 8, 2) := by decide +kernel
theorem dX2_share_36 : decode cX2_share 36 = .ok (.iaload, 1) := by decide +kernel
theorem dX2_share_37 : decode cX2_share 37 = .ok (.iadd, 1) := by decide +kernel
theorem dX2_share_38 : decode cX2_share 38 = .ok (.istore 5, 2) := by decide +kernel
theorem dX2_share_40 : decode cX2_share 40 = .ok (.iload 6, 2) := by decide +kernel
theorem dX2_share_42 : decode cX2_share 42 = .ok (.iload 8, 2) := by decide +kernel
theorem dX2_share_44 : decode cX2_share 44 = .ok (.invokestatic 33, 3) := by decide +kernel
theorem dX2_share_47 : decode cX2_share 47 = .ok (.istore 6, 2) := by decide +kernel
theorem dX2_share_49 : decode cX2_share 49 = .ok (.iload 8, 2) := by decide +kernel
theorem dX2_share_51 : decode cX2_share 51 = .ok (.iconst 1, 1) := by decide +kernel
theorem dX2_share_52 : decode cX2_share 52 = .ok (.iadd, 1) := by decide +kernel
theorem dX2_share_53 : decode cX2_share 53 = .ok (.istore 7, 2) := by decide +kernel
theorem dX2_share_55 : decode cX2_share 55 = .ok (.iinc 8 1, 3) := by decide +kernel
theorem dX2_share_58 : decode cX2_share 58 = .ok (.goto (-40), 3) := by decide +kernel
theorem dX2_share_61 : decode cX2_share 61 = .ok (.iload 5, 2) := by decide +kernel
theorem dX2_share_63 : decode cX2_share 63 = .ok (.ifCond .le 7, 3) := by decide +kernel
theorem dX2_share_66 : decode cX2_share 66 = .ok (.iload_n 3, 1) := by decide +kernel
theorem dX2_share_67 : decode cX2_share 67 = .ok (.ifCond .gt 4, 3) := by decide +kernel
theorem dX2_share_70 : decode cX2_share 70 = .ok (.return_, 1) := by decide +kernel
theorem dX2_share_71 : decode cX2_share 71 = .ok (.iload_n 3, 1) := by decide +kernel
theorem dX2_share_72 : decode cX2_share 72 = .ok (.istore 8, 2) := by decide +kernel
theorem dX2_share_74 : decode cX2_share 74 = .ok (.iload 6, 2) := by decide +kernel
theorem dX2_share_76 : decode cX2_share 76 = .ok (.istore 9, 2) := by decide +kernel
theorem dX2_share_78 : decode cX2_share 78 = .ok (.iload 9, 2) := by decide +kernel
theorem dX2_share_80 : decode cX2_share 80 = .ok (.iload 7, 2) := by decide +kernel
theorem dX2_share_82 : decode cX2_share 82 = .ok (.if_icmp .ge 49, 3) := by decide +kernel
theorem dX2_share_85 : decode cX2_share 85 = .ok (.aload_n 1, 1) := by decide +kernel
theorem dX2_share_86 : decode cX2_share 86 = .ok (.iload 9, 2) := by decide +kernel
theorem dX2_share_88 : decode cX2_share 88 = .ok (.iaload, 1) := by decide +kernel
theorem dX2_share_89 : decode cX2_share 89 = .ok (.iload_n 3, 1) := by decide +kernel
theorem dX2_share_90 : decode cX2_share 90 = .ok (.imul, 1) := by decide +kernel
theorem dX2_share_91 : decode cX2_share 91 = .ok (.istore 10, 2) := by decide +kernel
theorem dX2_share_93 : decode cX2_share 93 = .ok (.aload 4, 2) := by decide +kernel
theorem dX2_share_95 : decode cX2_share 95 = .ok (.iload 9, 2) := by decide +kernel
theorem dX2_share_97 : decode cX2_share 97 = .ok (.iload 10, 2) := by decide +kernel
theorem dX2_share_99 : decode cX2_share 99 = .ok (.iload 5, 2) := by decide +kernel
theorem dX2_share_101 : decode cX2_share 101 = .ok (.idiv, 1) := by decide +kernel
theorem dX2_share_102 : decode cX2_share 102 = .ok (.iastore, 1) := by decide +kernel
theorem dX2_share_103 : decode cX2_share 103 = .ok (.aload_n 0, 1) := by decide +kernel
theorem dX2_share_104 : decode cX2_share 104 = .ok (.getfield 9, 3) := by decide +kernel
theorem dX2_share_107 : decode cX2_share 107 = .ok (.iload 9, 2) := by decide +kernel
theorem dX2_share_109 : decode cX2_share 109 = .ok (.iload 10, 2) := by decide +kernel
theorem dX2_share_111 : decode cX2_share 111 = .ok (.iload 5, 2) := by decide +kernel
theorem dX2_share_113 : decode cX2_share 113 = .ok (.irem, 1) := by decide +kernel
theorem dX2_share_114 : decode cX2_share 114 = .ok (.iastore, 1) := by decide +kernel
theorem dX2_share_115 : decode cX2_share 115 = .ok (.iload 8, 2) := by decide +kernel
theorem dX2_share_117 : decode cX2_share 117 = .ok (.aload 4, 2) := by decide +kernel
theorem dX2_share_119 : decode cX2_share 119 = .ok (.iload 9, 2) := by decide +kernel
theorem dX2_share_121 : decode cX2_share 121 = .ok (.iaload, 1) := by decide +kernel
theorem dX2_share_122 : decode cX2_share 122 = .ok (.isub, 1) := by decide +kernel
theorem dX2_share_123 : decode cX2_share 123 = .ok (.istore 8, 2) := by decide +kernel
theorem dX2_share_125 : decode cX2_share 125 = .ok (.iinc 9 1, 3) := by decide +kernel
theorem dX2_share_128 : decode cX2_share 128 = .ok (.goto (-50), 3) := by decide +kernel
theorem dX2_share_131 : decode cX2_share 131 = .ok (.iconst 0, 1) := by decide +kernel
theorem dX2_share_132 : decode cX2_share 132 = .ok (.istore 9, 2) := by decide +kernel
theorem dX2_share_134 : decode cX2_share 134 = .ok (.iload 9, 2) := by decide +kernel
theorem dX2_share_136 : decode cX2_share 136 = .ok (.iload 8, 2) := by decide +kernel
theorem dX2_share_138 : decode cX2_share 138 = .ok (.if_icmp .ge 19, 3) := by decide +kernel
theorem dX2_share_141 : decode cX2_share 141 = .ok (.aload_n 0, 1) := by decide +kernel
theorem dX2_share_142 : decode cX2_share 142 = .ok (.iload 6, 2) := by decide +kernel
theorem dX2_share_144 : decode cX2_share 144 = .ok (.iload 7, 2) := by decide +kernel
theorem dX2_share_146 : decode cX2_share 146 = .ok (.aload 4, 2) := by decide +kernel
theorem dX2_share_148 : decode cX2_share 148 = .ok (.invokevirtual 39, 3) := by decide +kernel
theorem dX2_share_151 : decode cX2_share 151 = .ok (.iinc 9 1, 3) := by decide +kernel
theorem dX2_share_154 : decode cX2_share 154 = .ok (.goto (-20), 3) := by decide +kernel
theorem dX2_share_157 : decode cX2_share 157 = .ok (.return_, 1) := by decide +kernel
theorem dX2_giveMostLeft_0 : decode cX2_giveMostLeft 0 = .ok (.iload_n 1, 1) := by decide +kernel
theorem dX2_giveMostLeft_1 : decode cX2_giveMostLeft 1 = .ok (.istore 4, 2) := by decide +kernel
theorem dX2_giveMostLeft_3 : decode cX2_giveMostLeft 3 = .ok (.iload_n 1, 1) := by decide +kernel
theorem dX2_giveMostLeft_4 : decode cX2_giveMostLeft 4 = .ok (.iconst 1, 1) := by decide +kernel
theorem dX2_giveMostLeft_5 : decode cX2_giveMostLeft 5 = .ok (.iadd, 1) := by decide +kernel
theorem dX2_giveMostLeft_6 : decode cX2_giveMostLeft 6 = .ok (.istore 5, 2) := by decide +kernel
theorem dX2_giveMostLeft_8 : decode cX2_giveMostLeft 8 = .ok (.iload 5, 2) := by decide +kernel
theorem dX2_giveMostLeft_10 : decode cX2_giveMostLeft 10 = .ok (.iload_n 2, 1) := by decide +kernel
theorem dX2_giveMostLeft_11 : decode cX2_giveMostLeft 11 = .ok (.if_icmp .ge 30, 3) := by decide +kernel
theorem dX2_giveMostLeft_14 : decode cX2_giveMostLeft 14 = .ok (.aload_n 0, 1) := by decide +kernel
theorem dX2_giveMostLeft_15 : decode cX2_giveMostLeft 15 = .ok (.getfield 9, 3) := by decide +kernel
theorem dX2_giveMostLeft_18 : decode cX2_giveMostLeft 18 = .ok (.iload 5, 2) := by decide +kernel
theorem dX2_giveMostLeft_20 : decode cX2_giveMostLeft 20 = .ok (.iaload, 1) := by decide +kernel
theorem dX2_giveMostLeft_21 : decode cX2_giveMostLeft 21 = .ok (.aload_n 0, 1) := by decide +kernel
theorem dX2_giveMostLeft_22 : decode cX2_giveMostLeft 22 = .ok (.getfield 9, 3) := by decide +kernel
theorem dX2_giveMostLeft_25 : decode cX2_giveMostLeft 25 = .ok (.iload 4, 2) := by decide +kernel
theorem dX2_giveMostLeft_27 : decode cX2_giveMostLeft 27 = .ok (.iaload, 1) := by decide +kernel
theorem dX2_giveMostLeft_28 : decode cX2_giveMostLeft 28 = .ok (.if_icmp .le 7, 3) := by decide +kernel
theorem dX2_giveMostLeft_31 : decode cX2_giveMostLeft 31 = .ok (.iload 5, 2) := by decide +kernel
theorem dX2_giveMostLeft_33 : decode cX2_giveMostLeft 33 = .ok (.istore 4, 2) := by decide +kernel
theorem dX2_giveMostLeft_35 : decode cX2_giveMostLeft 35 = .ok (.iinc 5 1, 3) := by decide +kernel
theorem dX2_giveMostLeft_38 : decode cX2_giveMostLeft 38 = .ok (.goto (-30), 3) := by decide +kernel
theorem dX2_giveMostLeft_41 : decode cX2_giveMostLeft 41 = .ok (.aload_n 3, 1) := by decide +kernel
theorem dX2_giveMostLeft_42 : decode cX2_giveMostLeft 42 = .ok (.iload 4, 2) := by decide +kernel
theorem dX2_giveMostLeft_44 : decode cX2_giveMostLeft 44 = .ok (.dup2, 1) := by decide +kernel
theorem dX2_giveMostLeft_45 : decode cX2_giveMostLeft 45 = .ok (.iaload, 1) := by decide +kernel
theorem dX2_giveMostLeft_46 : decode cX2_giveMostLeft 46 = .ok (.iconst 1, 1) := by decide +kernel
theorem dX2_giveMostLeft_47 : decode cX2_giveMostLeft 47 = .ok (.iadd, 1) := by decide +kernel
theorem dX2_giveMostLeft_48 : decode cX2_giveMostLeft 48 = .ok (.iastore, 1) := by decide +kernel
theorem dX2_giveMostLeft_49 : decode cX2_giveMostLeft 49 = .ok (.aload_n 0, 1) := by decide +kernel
theorem dX2_giveMostLeft_50 : decode cX2_giveMostLeft 50 = .ok (.getfield 9, 3) := by decide +kernel
theorem dX2_giveMostLeft_53 : decode cX2_giveMostLeft 53 = .ok (.iload 4, 2) := by decide +kernel
theorem dX2_giveMostLeft_55 : decode cX2_giveMostLeft 55 = .ok (.iconst 0, 1) := by decide +kernel
theorem dX2_giveMostLeft_56 : decode cX2_giveMostLeft 56 = .ok (.iastore, 1) := by decide +kernel
theorem dX2_giveMostLeft_57 : decode cX2_giveMostLeft 57 = .ok (.return_, 1) := by decide +kernel
theorem dX2_takeOut_0 : decode cX2_takeOut 0 = .ok (.aload_n 1, 1) := by decide +kernel
theorem dX2_takeOut_1 : decode cX2_takeOut 1 = .ok (.getfield 43, 3) := by decide +kernel
theorem dX2_takeOut_4 : decode cX2_takeOut 4 = .ok (.iload_n 2, 1) := by decide +kernel
theorem dX2_takeOut_5 : decode cX2_takeOut 5 = .ok (.aaload, 1) := by decide +kernel
theorem dX2_takeOut_6 : decode cX2_takeOut 6 = .ok (.astore 4, 2) := by decide +kernel
theorem dX2_takeOut_8 : decode cX2_takeOut 8 = .ok (.aload_n 0, 1) := by decide +kernel
theorem dX2_takeOut_9 : decode cX2_takeOut 9 = .ok (.aload 4, 2) := by decide +kernel
theorem dX2_takeOut_11 : decode cX2_takeOut 11 = .ok (.bipush 40, 2) := by decide +kernel
theorem dX2_takeOut_13 : decode cX2_takeOut 13 = .ok (.iload_n 3, 1) := by decide +kernel
theorem dX2_takeOut_14 : decode cX2_takeOut 14 = .ok (.aload_n 0, 1) := by decide +kernel
theorem dX2_takeOut_15 : decode cX2_takeOut 15 = .ok (.getfield 15, 3) := by decide +kernel
theorem dX2_takeOut_18 : decode cX2_takeOut 18 = .ok (.invokevirtual 49, 3) := by decide +kernel
theorem dX2_takeOut_21 : decode cX2_takeOut 21 = .ok (.iconst 0, 1) := by decide +kernel
theorem dX2_takeOut_22 : decode cX2_takeOut 22 = .ok (.istore 5, 2) := by decide +kernel
theorem dX2_takeOut_24 : decode cX2_takeOut 24 = .ok (.iload 5, 2) := by decide +kernel
theorem dX2_takeOut_26 : decode cX2_takeOut 26 = .ok (.bipush 40, 2) := by decide +kernel
theorem dX2_takeOut_28 : decode cX2_takeOut 28 = .ok (.if_icmp .ge 24, 3) := by decide +kernel
theorem dX2_takeOut_31 : decode cX2_takeOut 31 = .ok (.aload 4, 2) := by decide +kernel
theorem dX2_takeOut_33 : decode cX2_takeOut 33 = .ok (.iload 5, 2) := by decide +kernel
theorem dX2_takeOut_35 : decode cX2_takeOut 35 = .ok (.dup2, 1) := by decide +kernel
theorem dX2_takeOut_36 : decode cX2_takeOut 36 = .ok (.iaload, 1) := by decide +kernel
theorem dX2_takeOut_37 : decode cX2_takeOut 37 = .ok (.aload_n 0, 1) := by decide +kernel
theorem dX2_takeOut_38 : decode cX2_takeOut 38 = .ok (.getfield 15, 3) := by decide +kernel
theorem dX2_takeOut_41 : decode cX2_takeOut 41 = .ok (.iload 5, 2) := by decide +kernel
theorem dX2_takeOut_43 : decode cX2_takeOut 43 = .ok (.iaload, 1) := by decide +kernel
theorem dX2_takeOut_44 : decode cX2_takeOut 44 = .ok (.isub, 1) := by decide +kernel
theorem dX2_takeOut_45 : decode cX2_takeOut 45 = .ok (.iastore, 1) := by decide +kernel
theorem dX2_takeOut_46 : decode cX2_takeOut 46 = .ok (.iinc 5 1, 3) := by decide +kernel
theorem dX2_takeOut_49 : decode cX2_takeOut 49 = .ok (.goto (-25), 3) := by decide +kernel
theorem dX2_takeOut_52 : decode cX2_takeOut 52 = .ok (.aload_n 1, 1) := by decide +kernel
theorem dX2_takeOut_53 : decode cX2_takeOut 53 = .ok (.getfield 53, 3) := by decide +kernel
theorem dX2_takeOut_56 : decode cX2_takeOut 56 = .ok (.iload_n 2, 1) := by decide +kernel
theorem dX2_takeOut_57 : decode cX2_takeOut 57 = .ok (.dup2, 1) := by decide +kernel
theorem dX2_takeOut_58 : decode cX2_takeOut 58 = .ok (.iaload, 1) := by decide +kernel
theorem dX2_takeOut_59 : decode cX2_takeOut 59 = .ok (.iload_n 3, 1) := by decide +kernel
theorem dX2_takeOut_60 : decode cX2_takeOut 60 = .ok (.isub, 1) := by decide +kernel
theorem dX2_takeOut_61 : decode cX2_takeOut 61 = .ok (.iastore, 1) := by decide +kernel
theorem dX2_takeOut_62 : decode cX2_takeOut 62 = .ok (.return_, 1) := by decide +kernel
theorem dX2_putIn_0 : decode cX2_putIn 0 = .ok (.aload_n 1, 1) := by decide +kernel
theorem dX2_putIn_1 : decode cX2_putIn 1 = .ok (.getfield 43, 3) := by decide +kernel
theorem dX2_putIn_4 : decode cX2_putIn 4 = .ok (.iload_n 2, 1) := by decide +kernel
theorem dX2_putIn_5 : decode cX2_putIn 5 = .ok (.aaload, 1) := by decide +kernel
theorem dX2_putIn_6 : decode cX2_putIn 6 = .ok (.astore 4, 2) := by decide +kernel
theorem dX2_putIn_8 : decode cX2_putIn 8 = .ok (.iconst 0, 1) := by decide +kernel
theorem dX2_putIn_9 : decode cX2_putIn 9 = .ok (.istore 5, 2) := by decide +kernel
theorem dX2_putIn_11 : decode cX2_putIn 11 = .ok (.iload 5, 2) := by decide +kernel
theorem dX2_putIn_13 : decode cX2_putIn 13 = .ok (.bipush 40, 2) := by decide +kernel
theorem dX2_putIn_15 : decode cX2_putIn 15 = .ok (.if_icmp .ge 24, 3) := by decide +kernel
theorem dX2_putIn_18 : decode cX2_putIn 18 = .ok (.aload 4, 2) := by decide +kernel
theorem dX2_putIn_20 : decode cX2_putIn 20 = .ok (.iload 5, 2) := by decide +kernel
theorem dX2_putIn_22 : decode cX2_putIn 22 = .ok (.dup2, 1) := by decide +kernel
theorem dX2_putIn_23 : decode cX2_putIn 23 = .ok (.iaload, 1) := by decide +kernel
theorem dX2_putIn_24 : decode cX2_putIn 24 = .ok (.aload_n 0, 1) := by decide +kernel
theorem dX2_putIn_25 : decode cX2_putIn 25 = .ok (.getfield 15, 3) := by decide +kernel
theorem dX2_putIn_28 : decode cX2_putIn 28 = .ok (.iload 5, 2) := by decide +kernel
theorem dX2_putIn_30 : decode cX2_putIn 30 = .ok (.iaload, 1) := by decide +kernel
theorem dX2_putIn_31 : decode cX2_putIn 31 = .ok (.iadd, 1) := by decide +kernel
theorem dX2_putIn_32 : decode cX2_putIn 32 = .ok (.iastore, 1) := by decide +kernel
theorem dX2_putIn_33 : decode cX2_putIn 33 = .ok (.iinc 5 1, 3) := by decide +kernel
theorem dX2_putIn_36 : decode cX2_putIn 36 = .ok (.goto (-25), 3) := by decide +kernel
theorem dX2_putIn_39 : decode cX2_putIn 39 = .ok (.aload_n 1, 1) := by decide +kernel
theorem dX2_putIn_40 : decode cX2_putIn 40 = .ok (.getfield 53, 3) := by decide +kernel
theorem dX2_putIn_43 : decode cX2_putIn 43 = .ok (.iload_n 2, 1) := by decide +kernel
theorem dX2_putIn_44 : decode cX2_putIn 44 = .ok (.dup2, 1) := by decide +kernel
theorem dX2_putIn_45 : decode cX2_putIn 45 = .ok (.iaload, 1) := by decide +kernel
theorem dX2_putIn_46 : decode cX2_putIn 46 = .ok (.iload_n 3, 1) := by decide +kernel
theorem dX2_putIn_47 : decode cX2_putIn 47 = .ok (.iadd, 1) := by decide +kernel
theorem dX2_putIn_48 : decode cX2_putIn 48 = .ok (.iastore, 1) := by decide +kernel
theorem dX2_putIn_49 : decode cX2_putIn 49 = .ok (.return_, 1) := by decide +kernel
theorem dX2_tryDraw_0 : decode cX2_tryDraw 0 = .ok (.aload_n 1, 1) := by decide +kernel
theorem dX2_tryDraw_1 : decode cX2_tryDraw 1 = .ok (.getfield 53, 3) := by decide +kernel
theorem dX2_tryDraw_4 : decode cX2_tryDraw 4 = .ok (.iload_n 2, 1) := by decide +kernel
theorem dX2_tryDraw_5 : decode cX2_tryDraw 5 = .ok (.iaload, 1) := by decide +kernel
theorem dX2_tryDraw_6 : decode cX2_tryDraw 6 = .ok (.iload_n 3, 1) := by decide +kernel
theorem dX2_tryDraw_7 : decode cX2_tryDraw 7 = .ok (.if_icmp .ge 5, 3) := by decide +kernel
theorem dX2_tryDraw_10 : decode cX2_tryDraw 10 = .ok (.iconst 1, 1) := by decide +kernel
theorem dX2_tryDraw_11 : decode cX2_tryDraw 11 = .ok (.ireturn, 1) := by decide +kernel
theorem dX2_tryDraw_12 : decode cX2_tryDraw 12 = .ok (.aload_n 1, 1) := by decide +kernel
theorem dX2_tryDraw_13 : decode cX2_tryDraw 13 = .ok (.getfield 56, 3) := by decide +kernel
theorem dX2_tryDraw_16 : decode cX2_tryDraw 16 = .ok (.iload_n 2, 1) := by decide +kernel
theorem dX2_tryDraw_17 : decode cX2_tryDraw 17 = .ok (.iaload, 1) := by decide +kernel
theorem dX2_tryDraw_18 : decode cX2_tryDraw 18 = .ok (.iload_n 3, 1) := by decide +kernel
theorem dX2_tryDraw_19 : decode cX2_tryDraw 19 = .ok (.iadd, 1) := by decide +kernel
theorem dX2_tryDraw_20 : decode cX2_tryDraw 20 = .ok (.aload_n 1, 1) := by decide +kernel
theorem dX2_tryDraw_21 : decode cX2_tryDraw 21 = .ok (.getfield 59, 3) := by decide +kernel
theorem dX2_tryDraw_24 : decode cX2_tryDraw 24 = .ok (.getfield 63, 3) := by decide +kernel
theorem dX2_tryDraw_27 : decode cX2_tryDraw 27 = .ok (.if_icmp .le 5, 3) := by decide +kernel
theorem dX2_tryDraw_30 : decode cX2_tryDraw 30 = .ok (.iconst 2, 1) := by decide +kernel
theorem dX2_tryDraw_31 : decode cX2_tryDraw 31 = .ok (.ireturn, 1) := by decide +kernel
theorem dX2_tryDraw_32 : decode cX2_tryDraw 32 = .ok (.aload_n 0, 1) := by decide +kernel
theorem dX2_tryDraw_33 : decode cX2_tryDraw 33 = .ok (.aload_n 1, 1) := by decide +kernel
theorem dX2_tryDraw_34 : decode cX2_tryDraw 34 = .ok (.iload_n 2, 1) := by decide +kernel
theorem dX2_tryDraw_35 : decode cX2_tryDraw 35 = .ok (.iload_n 3, 1) := by decide +kernel
theorem dX2_tryDraw_36 : decode cX2_tryDraw 36 = .ok (.invokevirtual 69, 3) := by decide +kernel
theorem dX2_tryDraw_39 : decode cX2_tryDraw 39 = .ok (.aload_n 0, 1) := by decide +kernel
theorem dX2_tryDraw_40 : decode cX2_tryDraw 40 = .ok (.getfield 15, 3) := by decide +kernel
theorem dX2_tryDraw_43 : decode cX2_tryDraw 43 = .ok (.iconst 0, 1) := by decide +kernel
theorem dX2_tryDraw_44 : decode cX2_tryDraw 44 = .ok (.aload_n 1, 1) := by decide +kernel
theorem dX2_tryDraw_45 : decode cX2_tryDraw 45 = .ok (.getfield 73, 3) := by decide +kernel
theorem dX2_tryDraw_48 : decode cX2_tryDraw 48 = .ok (.iconst 0, 1) := by decide +kernel
theorem dX2_tryDraw_49 : decode cX2_tryDraw 49 = .ok (.bipush 40, 2) := by decide +kernel
theorem dX2_tryDraw_51 : decode cX2_tryDraw 51 = .ok (.invokestatic 76, 3) := by decide +kernel
theorem dX2_tryDraw_54 : decode cX2_tryDraw 54 = .ok (.aload_n 1, 1) := by decide +kernel
theorem dX2_tryDraw_55 : decode cX2_tryDraw 55 = .ok (.getfield 56, 3) := by decide +kernel
theorem dX2_tryDraw_58 : decode cX2_tryDraw 58 = .ok (.iload_n 2, 1) := by decide +kernel
theorem dX2_tryDraw_59 : decode cX2_tryDraw 59 = .ok (.dup2, 1) := by decide +kernel
theorem dX2_tryDraw_60 : decode cX2_tryDraw 60 = .ok (.iaload, 1) := by decide +kernel
theorem dX2_tryDraw_61 : decode cX2_tryDraw 61 = .ok (.iload_n 3, 1) := by decide +kernel
theorem dX2_tryDraw_62 : decode cX2_tryDraw 62 = .ok (.iadd, 1) := by decide +kernel
theorem dX2_tryDraw_63 : decode cX2_tryDraw 63 = .ok (.iastore, 1) := by decide +kernel
theorem dX2_tryDraw_64 : decode cX2_tryDraw 64 = .ok (.aload_n 1, 1) := by decide +kernel
theorem dX2_tryDraw_65 : decode cX2_tryDraw 65 = .ok (.dup, 1) := by decide +kernel
theorem dX2_tryDraw_66 : decode cX2_tryDraw 66 = .ok (.getfield 82, 3) := by decide +kernel
theorem dX2_tryDraw_69 : decode cX2_tryDraw 69 = .ok (.iload_n 3, 1) := by decide +kernel
theorem dX2_tryDraw_70 : decode cX2_tryDraw 70 = .ok (.iadd, 1) := by decide +kernel
theorem dX2_tryDraw_71 : decode cX2_tryDraw 71 = .ok (.putfield 82, 3) := by decide +kernel
theorem dX2_tryDraw_74 : decode cX2_tryDraw 74 = .ok (.iconst 0, 1) := by decide +kernel
theorem dX2_tryDraw_75 : decode cX2_tryDraw 75 = .ok (.ireturn, 1) := by decide +kernel
theorem dX2_tryRun_0 : decode cX2_tryRun 0 = .ok (.aload_n 1, 1) := by decide +kernel
theorem dX2_tryRun_1 : decode cX2_tryRun 1 = .ok (.iload_n 2, 1) := by decide +kernel
theorem dX2_tryRun_2 : decode cX2_tryRun 2 = .ok (.invokevirtual 85, 3) := by decide +kernel
theorem dX2_tryRun_5 : decode cX2_tryRun 5 = .ok (.istore_n 3, 1) := by decide +kernel
theorem dX2_tryRun_6 : decode cX2_tryRun 6 = .ok (.iload_n 3, 1) := by decide +kernel
theorem dX2_tryRun_7 : decode cX2_tryRun 7 = .ok (.ifCond .ne 5, 3) := by decide +kernel
theorem dX2_tryRun_10 : decode cX2_tryRun 10 = .ok (.iconst 1, 1) := by decide +kernel
theorem dX2_tryRun_11 : decode cX2_tryRun 11 = .ok (.ireturn, 1) := by decide +kernel
theorem dX2_tryRun_12 : decode cX2_tryRun 12 = .ok (.iload_n 2, 1) := by decide +kernel
theorem dX2_tryRun_13 : decode cX2_tryRun 13 = .ok (.aload_n 1, 1) := by decide +kernel
theorem dX2_tryRun_14 : decode cX2_tryRun 14 = .ok (.getfield 59, 3) := by decide +kernel
theorem dX2_tryRun_17 : decode cX2_tryRun 17 = .ok (.getfield 89, 3) := by decide +kernel
theorem dX2_tryRun_20 : decode cX2_tryRun 20 = .ok (.iconst 1, 1) := by decide +kernel
theorem dX2_tryRun_21 : decode cX2_tryRun 21 = .ok (.isub, 1) := by decide +kernel
theorem dX2_tryRun_22 : decode cX2_tryRun 22 = .ok (.if_icmp .lt 5, 3) := by decide +kernel
theorem dX2_tryRun_25 : decode cX2_tryRun 25 = .ok (.iconst 2, 1) := by decide +kernel
theorem dX2_tryRun_26 : decode cX2_tryRun 26 = .ok (.ireturn, 1) := by decide +kernel
theorem dX2_tryRun_27 : decode cX2_tryRun 27 = .ok (.aload_n 1, 1) := by decide +kernel
theorem dX2_tryRun_28 : decode cX2_tryRun 28 = .ok (.iload_n 2, 1) := by decide +kernel
theorem dX2_tryRun_29 : decode cX2_tryRun 29 = .ok (.iconst 1, 1) := by decide +kernel
theorem dX2_tryRun_30 : decode cX2_tryRun 30 = .ok (.iadd, 1) := by decide +kernel
theorem dX2_tryRun_31 : decode cX2_tryRun 31 = .ok (.invokevirtual 92, 3) := by decide +kernel
theorem dX2_tryRun_34 : decode cX2_tryRun 34 = .ok (.iload_n 3, 1) := by decide +kernel
theorem dX2_tryRun_35 : decode cX2_tryRun 35 = .ok (.if_icmp .ge 5, 3) := by decide +kernel
theorem dX2_tryRun_38 : decode cX2_tryRun 38 = .ok (.iconst 3, 1) := by decide +kernel
theorem dX2_tryRun_39 : decode cX2_tryRun 39 = .ok (.ireturn, 1) := by decide +kernel
theorem dX2_tryRun_40 : decode cX2_tryRun 40 = .ok (.aload_n 0, 1) := by decide +kernel
theorem dX2_tryRun_41 : decode cX2_tryRun 41 = .ok (.aload_n 1, 1) := by decide +kernel
theorem dX2_tryRun_42 : decode cX2_tryRun 42 = .ok (.iload_n 2, 1) := by decide +kernel
theorem dX2_tryRun_43 : decode cX2_tryRun 43 = .ok (.iconst 1, 1) := by decide +kernel
theorem dX2_tryRun_44 : decode cX2_tryRun 44 = .ok (.iadd, 1) := by decide +kernel
theorem dX2_tryRun_45 : decode cX2_tryRun 45 = .ok (.iload_n 3, 1) := by decide +kernel
theorem dX2_tryRun_46 : decode cX2_tryRun 46 = .ok (.invokevirtual 95, 3) := by decide +kernel
theorem dX2_tryRun_49 : decode cX2_tryRun 49 = .ok (.aload_n 0, 1) := by decide +kernel
theorem dX2_tryRun_50 : decode cX2_tryRun 50 = .ok (.aload_n 1, 1) := by decide +kernel
theorem dX2_tryRun_51 : decode cX2_tryRun 51 = .ok (.iload_n 2, 1) := by decide +kernel
theorem dX2_tryRun_52 : decode cX2_tryRun 52 = .ok (.invokevirtual 98, 3) := by decide +kernel
theorem dX2_tryRun_55 : decode cX2_tryRun 55 = .ok (.iconst 0, 1) := by decide +kernel
theorem dX2_tryRun_56 : decode cX2_tryRun 56 = .ok (.ireturn, 1) := by decide +kernel
theorem dX2_mixFrom_0 : decode cX2_mixFrom 0 = .ok (.aload_n 1, 1) := by decide +kernel
theorem dX2_mixFrom_1 : decode cX2_mixFrom 1 = .ok (.getfield 59, 3) := by decide +kernel
theorem dX2_mixFrom_4 : decode cX2_mixFrom 4 = .ok (.getfield 102, 3) := by decide +kernel
theorem dX2_mixFrom_7 : decode cX2_mixFrom 7 = .ok (.iload_n 2, 1) := by decide +kernel
theorem dX2_mixFrom_8 : decode cX2_mixFrom 8 = .ok (.iaload, 1) := by decide +kernel
theorem dX2_mixFrom_9 : decode cX2_mixFrom 9 = .ok (.istore 4, 2) := by decide +kernel
theorem dX2_mixFrom_11 : decode cX2_mixFrom 11 = .ok (.aload_n 1, 1) := by decide +kernel
theorem dX2_mixFrom_12 : decode cX2_mixFrom 12 = .ok (.getfield 59, 3) := by decide +kernel
theorem dX2_mixFrom_15 : decode cX2_mixFrom 15 = .ok (.getfield 105, 3) := by decide +kernel
theorem dX2_mixFrom_18 : decode cX2_mixFrom 18 = .ok (.iload_n 2, 1) := by decide +kernel
theorem dX2_mixFrom_19 : decode cX2_mixFrom 19 = .ok (.iaload, 1) := by decide +kernel
theorem dX2_mixFrom_20 : decode cX2_mixFrom 20 = .ok (.istore 5, 2) := by decide +kernel
theorem dX2_mixFrom_22 : decode cX2_mixFrom 22 = .ok (.iconst 0, 1) := by decide +kernel
theorem dX2_mixFrom_23 : decode cX2_mixFrom 23 = .ok (.istore 6, 2) := by decide +kernel
theorem dX2_mixFrom_25 : decode cX2_mixFrom 25 = .ok (.iload 6, 2) := by decide +kernel
theorem dX2_mixFrom_27 : decode cX2_mixFrom 27 = .ok (.iload 5, 2) := by decide +kernel
theorem dX2_mixFrom_29 : decode cX2_mixFrom 29 = .ok (.if_icmp .ge 26, 3) := by decide +kernel
theorem dX2_mixFrom_32 : decode cX2_mixFrom 32 = .ok (.aload_n 0, 1) := by decide +kernel
theorem dX2_mixFrom_33 : decode cX2_mixFrom 33 = .ok (.getfield 21, 3) := by decide +kernel
theorem dX2_mixFrom_36 : decode cX2_mixFrom 36 = .ok (.iload 6, 2) := by decide +kernel
theorem dX2_mixFrom_38 : decode cX2_mixFrom 38 = .ok (.aload_n 1, 1) := by decide +kernel
theorem dX2_mixFrom_39 : decode cX2_mixFrom 39 = .ok (.getfield 53, 3) := by decide +kernel
theorem dX2_mixFrom_42 : decode cX2_mixFrom 42 = .ok (.iload 4, 2) := by decide +kernel
theorem dX2_mixFrom_44 : decode cX2_mixFrom 44 = .ok (.iload 6, 2) := by decide +kernel
theorem dX2_mixFrom_46 : decode cX2_mixFrom 46 = .ok (.iadd, 1) := by decide +kernel
theorem dX2_mixFrom_47 : decode cX2_mixFrom 47 = .ok (.iaload, 1) := by decide +kernel
theorem dX2_mixFrom_48 : decode cX2_mixFrom 48 = .ok (.iastore, 1) := by decide +kernel
theorem dX2_mixFrom_49 : decode cX2_mixFrom 49 = .ok (.iinc 6 1, 3) := by decide +kernel
theorem dX2_mixFrom_52 : decode cX2_mixFrom 52 = .ok (.goto (-27), 3) := by decide +kernel
theorem dX2_mixFrom_55 : decode cX2_mixFrom 55 = .ok (.aload_n 0, 1) := by decide +kernel
theorem dX2_mixFrom_56 : decode cX2_mixFrom 56 = .ok (.aload_n 0, 1) := by decide +kernel
theorem dX2_mixFrom_57 : decode cX2_mixFrom 57 = .ok (.getfield 21, 3) := by decide +kernel
theorem dX2_mixFrom_60 : decode cX2_mixFrom 60 = .ok (.iload 5, 2) := by decide +kernel
theorem dX2_mixFrom_62 : decode cX2_mixFrom 62 = .ok (.iload_n 3, 1) := by decide +kernel
theorem dX2_mixFrom_63 : decode cX2_mixFrom 63 = .ok (.aload_n 0, 1) := by decide +kernel
theorem dX2_mixFrom_64 : decode cX2_mixFrom 64 = .ok (.getfield 24, 3) := by decide +kernel
theorem dX2_mixFrom_67 : decode cX2_mixFrom 67 = .ok (.invokevirtual 49, 3) := by decide +kernel
theorem dX2_mixFrom_70 : decode cX2_mixFrom 70 = .ok (.aload_n 0, 1) := by decide +kernel
theorem dX2_mixFrom_71 : decode cX2_mixFrom 71 = .ok (.getfield 18, 3) := by decide +kernel
theorem dX2_mixFrom_74 : decode cX2_mixFrom 74 = .ok (.iconst 0, 1) := by decide +kernel
theorem dX2_mixFrom_75 : decode cX2_mixFrom 75 = .ok (.invokestatic 27, 3) := by decide +kernel
theorem dX2_mixFrom_78 : decode cX2_mixFrom 78 = .ok (.iconst 0, 1) := by decide +kernel
theorem dX2_mixFrom_79 : decode cX2_mixFrom 79 = .ok (.istore 6, 2) := by decide +kernel
theorem dX2_mixFrom_81 : decode cX2_mixFrom 81 = .ok (.iload 6, 2) := by decide +kernel
theorem dX2_mixFrom_83 : decode cX2_mixFrom 83 = .ok (.iload 5, 2) := by decide +kernel
theorem dX2_mixFrom_85 : decode cX2_mixFrom 85 = .ok (.if_icmp .ge 59, 3) := by decide +kernel
theorem dX2_mixFrom_88 : decode cX2_mixFrom 88 = .ok (.aload_n 0, 1) := by decide +kernel
theorem dX2_mixFrom_89 : decode cX2_mixFrom 89 = .ok (.aload_n 1, 1) := by decide +kernel
theorem dX2_mixFrom_90 : decode cX2_mixFrom 90 = .ok (.iload 4, 2) := by decide +kernel
theorem dX2_mixFrom_92 : decode cX2_mixFrom 92 = .ok (.iload 6, 2) := by decide +kernel
theorem dX2_mixFrom_94 : decode cX2_mixFrom 94 = .ok (.iadd, 1) := by decide +kernel
theorem dX2_mixFrom_95 : decode cX2_mixFrom 95 = .ok (.aload_n 0, 1) := by decide +kernel
theorem dX2_mixFrom_96 : decode cX2_mixFrom 96 = .ok (.getfield 24, 3) := by decide +kernel
theorem dX2_mixFrom_99 : decode cX2_mixFrom 99 = .ok (.iload 6, 2) := by decide +kernel
theorem dX2_mixFrom_101 : decode cX2_mixFrom 101 = .ok (.iaload, 1) := by decide +kernel
theorem dX2_mixFrom_102 : decode cX2_mixFrom 102 = .ok (.invokevirtual 69, 3) := by decide +kernel
theorem dX2_mixFrom_105 : decode cX2_mixFrom 105 = .ok (.iconst 0, 1) := by decide +kernel
theorem dX2_mixFrom_106 : decode cX2_mixFrom 106 = .ok (.istore 7, 2) := by decide +kernel
theorem dX2_mixFrom_108 : decode cX2_mixFrom 108 = .ok (.iload 7, 2) := by decide +kernel
theorem dX2_mixFrom_110 : decode cX2_mixFrom 110 = .ok (.bipush 40, 2) := by decide +kernel
theorem dX2_mixFrom_112 : decode cX2_mixFrom 112 = .ok (.if_icmp .ge 26, 3) := by decide +kernel
theorem dX2_mixFrom_115 : decode cX2_mixFrom 115 = .ok (.aload_n 0, 1) := by decide +kernel
theorem dX2_mixFrom_116 : decode cX2_mixFrom 116 = .ok (.getfield 18, 3) := by decide +kernel
theorem dX2_mixFrom_119 : decode cX2_mixFrom 119 = .ok (.iload 7, 2) := by decide +kernel
theorem dX2_mixFrom_121 : decode cX2_mixFrom 121 = .ok (.dup2, 1) := by decide +kernel
theorem dX2_mixFrom_122 : decode cX2_mixFrom 122 = .ok (.iaload, 1) := by decide +kernel
theorem dX2_mixFrom_123 : decode cX2_mixFrom 123 = .ok (.aload_n 0, 1) := by decide +kernel
theorem dX2_mixFrom_124 : decode cX2_mixFrom 124 = .ok (.getfield 15, 3) := by decide +kernel
theorem dX2_mixFrom_127 : decode cX2_mixFrom 127 = .ok (.iload 7, 2) := by decide +kernel
theorem dX2_mixFrom_129 : decode cX2_mixFrom 129 = .ok (.iaload, 1) := by decide +kernel
theorem dX2_mixFrom_130 : decode cX2_mixFrom 130 = .ok (.iadd, 1) := by decide +kernel
theorem dX2_mixFrom_131 : decode cX2_mixFrom 131 = .ok (.iastore, 1) := by decide +kernel
theorem dX2_mixFrom_132 : decode cX2_mixFrom 132 = .ok (.iinc 7 1, 3) := by decide +kernel
theorem dX2_mixFrom_135 : decode cX2_mixFrom 135 = .ok (.goto (-27), 3) := by decide +kernel
theorem dX2_mixFrom_138 : decode cX2_mixFrom 138 = .ok (.iinc 6 1, 3) := by decide +kernel
theorem dX2_mixFrom_141 : decode cX2_mixFrom 141 = .ok (.goto (-60), 3) := by decide +kernel
theorem dX2_mixFrom_144 : decode cX2_mixFrom 144 = .ok (.return_, 1) := by decide +kernel
theorem dX2_fillFromMix_0 : decode cX2_fillFromMix 0 = .ok (.aload_n 1, 1) := by decide +kernel
theorem dX2_fillFromMix_1 : decode cX2_fillFromMix 1 = .ok (.getfield 59, 3) := by decide +kernel
theorem dX2_fillFromMix_4 : decode cX2_fillFromMix 4 = .ok (.getfield 102, 3) := by decide +kernel
theorem dX2_fillFromMix_7 : decode cX2_fillFromMix 7 = .ok (.iload_n 2, 1) := by decide +kernel
theorem dX2_fillFromMix_8 : decode cX2_fillFromMix 8 = .ok (.iaload, 1) := by decide +kernel
theorem dX2_fillFromMix_9 : decode cX2_fillFromMix 9 = .ok (.istore_n 3, 1) := by decide +kernel
theorem dX2_fillFromMix_10 : decode cX2_fillFromMix 10 = .ok (.iconst 0, 1) := by decide +kernel
theorem dX2_fillFromMix_11 : decode cX2_fillFromMix 11 = .ok (.istore 4, 2) := by decide +kernel
theorem dX2_fillFromMix_13 : decode cX2_fillFromMix 13 = .ok (.iload 4, 2) := by decide +kernel
theorem dX2_fillFromMix_15 : decode cX2_fillFromMix 15 = .ok (.aload_n 1, 1) := by decide +kernel
theorem dX2_fillFromMix_16 : decode cX2_fillFromMix 16 = .ok (.getfield 59, 3) := by decide +kernel
theorem dX2_fillFromMix_19 : decode cX2_fillFromMix 19 = .ok (.getfield 105, 3) := by decide +kernel
theorem dX2_fillFromMix_22 : decode cX2_fillFromMix 22 = .ok (.iload_n 2, 1) := by decide +kernel
theorem dX2_fillFromMix_23 : decode cX2_fillFromMix 23 = .ok (.iaload, 1) := by decide +kernel
theorem dX2_fillFromMix_24 : decode cX2_fillFromMix 24 = .ok (.if_icmp .ge 79, 3) := by decide +kernel
theorem dX2_fillFromMix_27 : decode cX2_fillFromMix 27 = .ok (.aload_n 1, 1) := by decide +kernel
theorem dX2_fillFromMix_28 : decode cX2_fillFromMix 28 = .ok (.iload_n 3, 1) := by decide +kernel
theorem dX2_fillFromMix_29 : decode cX2_fillFromMix 29 = .ok (.iload 4, 2) := by decide +kernel
theorem dX2_fillFromMix_31 : decode cX2_fillFromMix 31 = .ok (.iadd, 1) := by decide +kernel
theorem dX2_fillFromMix_32 : decode cX2_fillFromMix 32 = .ok (.invokevirtual 108, 3) := by decide +kernel
theorem dX2_fillFromMix_35 : decode cX2_fillFromMix 35 = .ok (.istore 5, 2) := by decide +kernel
theorem dX2_fillFromMix_37 : decode cX2_fillFromMix 37 = .ok (.aload_n 0, 1) := by decide +kernel
theorem dX2_fillFromMix_38 : decode cX2_fillFromMix 38 = .ok (.aload_n 0, 1) := by decide +kernel
theorem dX2_fillFromMix_39 : decode cX2_fillFromMix 39 = .ok (.getfield 18, 3) := by decide +kernel
theorem dX2_fillFromMix_42 : decode cX2_fillFromMix 42 = .ok (.bipush 40, 2) := by decide +kernel
theorem dX2_fillFromMix_44 : decode cX2_fillFromMix 44 = .ok (.iload 5, 2) := by decide +kernel
theorem dX2_fillFromMix_46 : decode cX2_fillFromMix 46 = .ok (.aload_n 0, 1) := by decide +kernel
theorem dX2_fillFromMix_47 : decode cX2_fillFromMix 47 = .ok (.getfield 15, 3) := by decide +kernel
theorem dX2_fillFromMix_50 : decode cX2_fillFromMix 50 = .ok (.invokevirtual 49, 3) := by decide +kernel
theorem dX2_fillFromMix_53 : decode cX2_fillFromMix 53 = .ok (.iconst 0, 1) := by decide +kernel
theorem dX2_fillFromMix_54 : decode cX2_fillFromMix 54 = .ok (.istore 6, 2) := by decide +kernel
theorem dX2_fillFromMix_56 : decode cX2_fillFromMix 56 = .ok (.iload 6, 2) := by decide +kernel
theorem dX2_fillFromMix_58 : decode cX2_fillFromMix 58 = .ok (.bipush 40, 2) := by decide +kernel
theorem dX2_fillFromMix_60 : decode cX2_fillFromMix 60 = .ok (.if_icmp .ge 26, 3) := by decide +kernel
theorem dX2_fillFromMix_63 : decode cX2_fillFromMix 63 = .ok (.aload_n 0, 1) := by decide +kernel
theorem dX2_fillFromMix_64 : decode cX2_fillFromMix 64 = .ok (.getfield 18, 3) := by decide +kernel
theorem dX2_fillFromMix_67 : decode cX2_fillFromMix 67 = .ok (.iload 6, 2) := by decide +kernel
theorem dX2_fillFromMix_69 : decode cX2_fillFromMix 69 = .ok (.dup2, 1) := by decide +kernel
theorem dX2_fillFromMix_70 : decode cX2_fillFromMix 70 = .ok (.iaload, 1) := by decide +kernel
theorem dX2_fillFromMix_71 : decode cX2_fillFromMix 71 = .ok (.aload_n 0, 1) := by decide +kernel
theorem dX2_fillFromMix_72 : decode cX2_fillFromMix 72 = .ok (.getfield 15, 3) := by decide +kernel
theorem dX2_fillFromMix_75 : decode cX2_fillFromMix 75 = .ok (.iload 6, 2) := by decide +kernel
theorem dX2_fillFromMix_77 : decode cX2_fillFromMix 77 = .ok (.iaload, 1) := by decide +kernel
theorem dX2_fillFromMix_78 : decode cX2_fillFromMix 78 = .ok (.isub, 1) := by decide +kernel
theorem dX2_fillFromMix_79 : decode cX2_fillFromMix 79 = .ok (.iastore, 1) := by decide +kernel
theorem dX2_fillFromMix_80 : decode cX2_fillFromMix 80 = .ok (.iinc 6 1, 3) := by decide +kernel
theorem dX2_fillFromMix_83 : decode cX2_fillFromMix 83 = .ok (.goto (-27), 3) := by decide +kernel
theorem dX2_fillFromMix_86 : decode cX2_fillFromMix 86 = .ok (.aload_n 0, 1) := by decide +kernel
theorem dX2_fillFromMix_87 : decode cX2_fillFromMix 87 = .ok (.aload_n 1, 1) := by decide +kernel
theorem dX2_fillFromMix_88 : decode cX2_fillFromMix 88 = .ok (.iload_n 3, 1) := by decide +kernel
theorem dX2_fillFromMix_89 : decode cX2_fillFromMix 89 = .ok (.iload 4, 2) := by decide +kernel
theorem dX2_fillFromMix_91 : decode cX2_fillFromMix 91 = .ok (.iadd, 1) := by decide +kernel
theorem dX2_fillFromMix_92 : decode cX2_fillFromMix 92 = .ok (.iload 5, 2) := by decide +kernel
theorem dX2_fillFromMix_94 : decode cX2_fillFromMix 94 = .ok (.invokevirtual 111, 3) := by decide +kernel
theorem dX2_fillFromMix_97 : decode cX2_fillFromMix 97 = .ok (.iinc 4 1, 3) := by decide +kernel
theorem dX2_fillFromMix_100 : decode cX2_fillFromMix 100 = .ok (.goto (-87), 3) := by decide +kernel
theorem dX2_fillFromMix_103 : decode cX2_fillFromMix 103 = .ok (.return_, 1) := by decide +kernel
theorem dX2_tryTop_0 : decode cX2_tryTop 0 = .ok (.aload_n 1, 1) := by decide +kernel
theorem dX2_tryTop_1 : decode cX2_tryTop 1 = .ok (.getfield 59, 3) := by decide +kernel
theorem dX2_tryTop_4 : decode cX2_tryTop 4 = .ok (.getfield 89, 3) := by decide +kernel
theorem dX2_tryTop_7 : decode cX2_tryTop 7 = .ok (.iconst 1, 1) := by decide +kernel
theorem dX2_tryTop_8 : decode cX2_tryTop 8 = .ok (.isub, 1) := by decide +kernel
theorem dX2_tryTop_9 : decode cX2_tryTop 9 = .ok (.istore_n 2, 1) := by decide +kernel
theorem dX2_tryTop_10 : decode cX2_tryTop 10 = .ok (.iload_n 2, 1) := by decide +kernel
theorem dX2_tryTop_11 : decode cX2_tryTop 11 = .ok (.ifCond .lt 11, 3) := by decide +kernel
theorem dX2_tryTop_14 : decode cX2_tryTop 14 = .ok (.aload_n 1, 1) := by decide +kernel
theorem dX2_tryTop_15 : decode cX2_tryTop 15 = .ok (.iload_n 2, 1) := by decide +kernel
theorem dX2_tryTop_16 : decode cX2_tryTop 16 = .ok (.invokevirtual 85, 3) := by decide +kernel
theorem dX2_tryTop_19 : decode cX2_tryTop 19 = .ok (.ifCond .ne 5, 3) := by decide +kernel
theorem dX2_tryTop_22 : decode cX2_tryTop 22 = .ok (.iconst 1, 1) := by decide +kernel
theorem dX2_tryTop_23 : decode cX2_tryTop 23 = .ok (.ireturn, 1) := by decide +kernel
theorem dX2_tryTop_24 : decode cX2_tryTop 24 = .ok (.aload_n 1, 1) := by decide +kernel
theorem dX2_tryTop_25 : decode cX2_tryTop 25 = .ok (.getfield 59, 3) := by decide +kernel
theorem dX2_tryTop_28 : decode cX2_tryTop 28 = .ok (.getfield 102, 3) := by decide +kernel
theorem dX2_tryTop_31 : decode cX2_tryTop 31 = .ok (.iload_n 2, 1) := by decide +kernel
theorem dX2_tryTop_32 : decode cX2_tryTop 32 = .ok (.iaload, 1) := by decide +kernel
theorem dX2_tryTop_33 : decode cX2_tryTop 33 = .ok (.istore_n 3, 1) := by decide +kernel
theorem dX2_tryTop_34 : decode cX2_tryTop 34 = .ok (.iconst 0, 1) := by decide +kernel
theorem dX2_tryTop_35 : decode cX2_tryTop 35 = .ok (.istore 4, 2) := by decide +kernel
theorem dX2_tryTop_37 : decode cX2_tryTop 37 = .ok (.iload 4, 2) := by decide +kernel
theorem dX2_tryTop_39 : decode cX2_tryTop 39 = .ok (.aload_n 1, 1) := by decide +kernel
theorem dX2_tryTop_40 : decode cX2_tryTop 40 = .ok (.getfield 59, 3) := by decide +kernel
theorem dX2_tryTop_43 : decode cX2_tryTop 43 = .ok (.getfield 105, 3) := by decide +kernel
theorem dX2_tryTop_46 : decode cX2_tryTop 46 = .ok (.iload_n 2, 1) := by decide +kernel
theorem dX2_tryTop_47 : decode cX2_tryTop 47 = .ok (.iaload, 1) := by decide +kernel
theorem dX2_tryTop_48 : decode cX2_tryTop 48 = .ok (.if_icmp .ge 52, 3) := by decide +kernel
theorem dX2_tryTop_51 : decode cX2_tryTop 51 = .ok (.aload_n 1, 1) := by decide +kernel
theorem dX2_tryTop_52 : decode cX2_tryTop 52 = .ok (.iload_n 3, 1) := by decide +kernel
theorem dX2_tryTop_53 : decode cX2_tryTop 53 = .ok (.iload 4, 2) := by decide +kernel
theorem dX2_tryTop_55 : decode cX2_tryTop 55 = .ok (.iadd, 1) := by decide +kernel
theorem dX2_tryTop_56 : decode cX2_tryTop 56 = .ok (.invokevirtual 108, 3) := by decide +kernel
theorem dX2_tryTop_59 : decode cX2_tryTop 59 = .ok (.istore 5, 2) := by decide +kernel
theorem dX2_tryTop_61 : decode cX2_tryTop 61 = .ok (.aload_n 1, 1) := by decide +kernel
theorem dX2_tryTop_62 : decode cX2_tryTop 62 = .ok (.getfield 43, 3) := by decide +kernel
theorem dX2_tryTop_65 : decode cX2_tryTop 65 = .ok (.iload_n 3, 1) := by decide +kernel
theorem dX2_tryTop_66 : decode cX2_tryTop 66 = .ok (.iload 4, 2) := by decide +kernel
theorem dX2_tryTop_68 : decode cX2_tryTop 68 = .ok (.iadd, 1) := by decide +kernel
theorem dX2_tryTop_69 : decode cX2_tryTop 69 = .ok (.aaload, 1) := by decide +kernel
theorem dX2_tryTop_70 : decode cX2_tryTop 70 = .ok (.aload_n 1, 1) := by decide +kernel
theorem dX2_tryTop_71 : decode cX2_tryTop 71 = .ok (.getfield 114, 3) := by decide +kernel
theorem dX2_tryTop_74 : decode cX2_tryTop 74 = .ok (.dup2, 1) := by decide +kernel
theorem dX2_tryTop_75 : decode cX2_tryTop 75 = .ok (.iaload, 1) := by decide +kernel
theorem dX2_tryTop_76 : decode cX2_tryTop 76 = .ok (.iload 5, 2) := by decide +kernel
theorem dX2_tryTop_78 : decode cX2_tryTop 78 = .ok (.iadd, 1) := by decide +kernel
theorem dX2_tryTop_79 : decode cX2_tryTop 79 = .ok (.iastore, 1) := by decide +kernel
theorem dX2_tryTop_80 : decode cX2_tryTop 80 = .ok (.aload_n 1, 1) := by decide +kernel
theorem dX2_tryTop_81 : decode cX2_tryTop 81 = .ok (.getfield 53, 3) := by decide +kernel
theorem dX2_tryTop_84 : decode cX2_tryTop 84 = .ok (.iload_n 3, 1) := by decide +kernel
theorem dX2_tryTop_85 : decode cX2_tryTop 85 = .ok (.iload 4, 2) := by decide +kernel
theorem dX2_tryTop_87 : decode cX2_tryTop 87 = .ok (.iadd, 1) := by decide +kernel
theorem dX2_tryTop_88 : decode cX2_tryTop 88 = .ok (.dup2, 1) := by decide +kernel
theorem dX2_tryTop_89 : decode cX2_tryTop 89 = .ok (.iaload, 1) := by decide +kernel
theorem dX2_tryTop_90 : decode cX2_tryTop 90 = .ok (.iload 5, 2) := by decide +kernel
theorem dX2_tryTop_92 : decode cX2_tryTop 92 = .ok (.iadd, 1) := by decide +kernel
theorem dX2_tryTop_93 : decode cX2_tryTop 93 = .ok (.iastore, 1) := by decide +kernel
theorem dX2_tryTop_94 : decode cX2_tryTop 94 = .ok (.iinc 4 1, 3) := by decide +kernel
theorem dX2_tryTop_97 : decode cX2_tryTop 97 = .ok (.goto (-60), 3) := by decide +kernel
theorem dX2_tryTop_100 : decode cX2_tryTop 100 = .ok (.iconst 0, 1) := by decide +kernel
theorem dX2_tryTop_101 : decode cX2_tryTop 101 = .ok (.ireturn, 1) := by decide +kernel
theorem dX2_tryTip_0 : decode cX2_tryTip 0 = .ok (.iload_n 2, 1) := by decide +kernel
theorem dX2_tryTip_1 : decode cX2_tryTip 1 = .ok (.iload_n 3, 1) := by decide +kernel
theorem dX2_tryTip_2 : decode cX2_tryTip 2 = .ok (.if_icmp .ne 5, 3) := by decide +kernel
theorem dX2_tryTip_5 : decode cX2_tryTip 5 = .ok (.iconst 1, 1) := by decide +kernel
theorem dX2_tryTip_6 : decode cX2_tryTip 6 = .ok (.ireturn, 1) := by decide +kernel
theorem dX2_tryTip_7 : decode cX2_tryTip 7 = .ok (.aload_n 1, 1) := by decide +kernel
theorem dX2_tryTip_8 : decode cX2_tryTip 8 = .ok (.getfield 53, 3) := by decide +kernel
theorem dX2_tryTip_11 : decode cX2_tryTip 11 = .ok (.iload_n 2, 1) := by decide +kernel
theorem dX2_tryTip_12 : decode cX2_tryTip 12 = .ok (.iaload, 1) := by decide +kernel
theorem dX2_tryTip_13 : decode cX2_tryTip 13 = .ok (.iload 4, 2) := by decide +kernel
theorem dX2_tryTip_15 : decode cX2_tryTip 15 = .ok (.if_icmp .ge 5, 3) := by decide +kernel
theorem dX2_tryTip_18 : decode cX2_tryTip 18 = .ok (.iconst 2, 1) := by decide +kernel
theorem dX2_tryTip_19 : decode cX2_tryTip 19 = .ok (.ireturn, 1) := by decide +kernel
theorem dX2_tryTip_20 : decode cX2_tryTip 20 = .ok (.aload_n 1, 1) := by decide +kernel
theorem dX2_tryTip_21 : decode cX2_tryTip 21 = .ok (.iload_n 3, 1) := by decide +kernel
theorem dX2_tryTip_22 : decode cX2_tryTip 22 = .ok (.invokevirtual 108, 3) := by decide +kernel
theorem dX2_tryTip_25 : decode cX2_tryTip 25 = .ok (.iload 4, 2) := by decide +kernel
theorem dX2_tryTip_27 : decode cX2_tryTip 27 = .ok (.if_icmp .ge 5, 3) := by decide +kernel
theorem dX2_tryTip_30 : decode cX2_tryTip 30 = .ok (.iconst 3, 1) := by decide +kernel
theorem dX2_tryTip_31 : decode cX2_tryTip 31 = .ok (.ireturn, 1) := by decide +kernel
theorem dX2_tryTip_32 : decode cX2_tryTip 32 = .ok (.aload_n 0, 1) := by decide +kernel
theorem dX2_tryTip_33 : decode cX2_tryTip 33 = .ok (.aload_n 1, 1) := by decide +kernel
theorem dX2_tryTip_34 : decode cX2_tryTip 34 = .ok (.iload_n 2, 1) := by decide +kernel
theorem dX2_tryTip_35 : decode cX2_tryTip 35 = .ok (.iload 4, 2) := by decide +kernel
theorem dX2_tryTip_37 : decode cX2_tryTip 37 = .ok (.invokevirtual 69, 3) := by decide +kernel
theorem dX2_tryTip_40 : decode cX2_tryTip 40 = .ok (.aload_n 0, 1) := by decide +kernel
theorem dX2_tryTip_41 : decode cX2_tryTip 41 = .ok (.aload_n 1, 1) := by decide +kernel
theorem dX2_tryTip_42 : decode cX2_tryTip 42 = .ok (.iload_n 3, 1) := by decide +kernel
theorem dX2_tryTip_43 : decode cX2_tryTip 43 = .ok (.iload 4, 2) := by decide +kernel
theorem dX2_tryTip_45 : decode cX2_tryTip 45 = .ok (.invokevirtual 111, 3) := by decide +kernel
theorem dX2_tryTip_48 : decode cX2_tryTip 48 = .ok (.iconst 0, 1) := by decide +kernel
theorem dX2_tryTip_49 : decode cX2_tryTip 49 = .ok (.ireturn, 1) := by decide +kernel
theorem dX2_angelsShare_0 : decode cX2_angelsShare 0 = .ok (.aload_n 1, 1) := by decide +kernel
theorem dX2_angelsShare_1 : decode cX2_angelsShare 1 = .ok (.getfield 59, 3) := by decide +kernel
theorem dX2_angelsShare_4 : decode cX2_angelsShare 4 = .ok (.getfield 117, 3) := by decide +kernel
theorem dX2_angelsShare_7 : decode cX2_angelsShare 7 = .ok (.aload_n 1, 1) := by decide +kernel
theorem dX2_angelsShare_8 : decode cX2_angelsShare 8 = .ok (.getfield 53, 3) := by decide +kernel
theorem dX2_angelsShare_11 : decode cX2_angelsShare 11 = .ok (.iload_n 2, 1) := by decide +kernel
theorem dX2_angelsShare_12 : decode cX2_angelsShare 12 = .ok (.iaload, 1) := by decide +kernel
theorem dX2_angelsShare_13 : decode cX2_angelsShare 13 = .ok (.imul, 1) := by decide +kernel
theorem dX2_angelsShare_14 : decode cX2_angelsShare 14 = .ok (.bipush 100, 2) := by decide +kernel
theorem dX2_angelsShare_16 : decode cX2_angelsShare 16 = .ok (.idiv, 1) := by decide +kernel
theorem dX2_angelsShare_17 : decode cX2_angelsShare 17 = .ok (.istore_n 3, 1) := by decide +kernel
theorem dX2_angelsShare_18 : decode cX2_angelsShare 18 = .ok (.iload_n 3, 1) := by decide +kernel
theorem dX2_angelsShare_19 : decode cX2_angelsShare 19 = .ok (.ifCond .le 10, 3) := by decide +kernel
theorem dX2_angelsShare_22 : decode cX2_angelsShare 22 = .ok (.aload_n 0, 1) := by decide +kernel
theorem dX2_angelsShare_23 : decode cX2_angelsShare 23 = .ok (.aload_n 1, 1) := by decide +kernel
theorem dX2_angelsShare_24 : decode cX2_angelsShare 24 = .ok (.iload_n 2, 1) := by decide +kernel
theorem dX2_angelsShare_25 : decode cX2_angelsShare 25 = .ok (.iload_n 3, 1) := by decide +kernel
theorem dX2_angelsShare_26 : decode cX2_angelsShare 26 = .ok (.invokevirtual 69, 3) := by decide +kernel
theorem dX2_angelsShare_29 : decode cX2_angelsShare 29 = .ok (.iload_n 3, 1) := by decide +kernel
theorem dX2_angelsShare_30 : decode cX2_angelsShare 30 = .ok (.ireturn, 1) := by decide +kernel
theorem dX2_letYears_0 : decode cX2_letYears 0 = .ok (.iconst 0, 1) := by decide +kernel
theorem dX2_letYears_1 : decode cX2_letYears 1 = .ok (.istore_n 3, 1) := by decide +kernel
theorem dX2_letYears_2 : decode cX2_letYears 2 = .ok (.iload_n 3, 1) := by decide +kernel
theorem dX2_letYears_3 : decode cX2_letYears 3 = .ok (.iload_n 2, 1) := by decide +kernel
theorem dX2_letYears_4 : decode cX2_letYears 4 = .ok (.if_icmp .ge 73, 3) := by decide +kernel
theorem dX2_letYears_7 : decode cX2_letYears 7 = .ok (.aload_n 1, 1) := by decide +kernel
theorem dX2_letYears_8 : decode cX2_letYears 8 = .ok (.getfield 114, 3) := by decide +kernel
theorem dX2_letYears_11 : decode cX2_letYears 11 = .ok (.bipush 39, 2) := by decide +kernel
theorem dX2_letYears_13 : decode cX2_letYears 13 = .ok (.if_icmp .ge 64, 3) := by decide +kernel
theorem dX2_letYears_16 : decode cX2_letYears 16 = .ok (.iconst 0, 1) := by decide +kernel
theorem dX2_letYears_17 : decode cX2_letYears 17 = .ok (.istore 4, 2) := by decide +kernel
theorem dX2_letYears_19 : decode cX2_letYears 19 = .ok (.iload 4, 2) := by decide +kernel
theorem dX2_letYears_21 : decode cX2_letYears 21 = .ok (.aload_n 1, 1) := by decide +kernel
theorem dX2_letYears_22 : decode cX2_letYears 22 = .ok (.getfield 59, 3) := by decide +kernel
theorem dX2_letYears_25 : decode cX2_letYears 25 = .ok (.getfield 120, 3) := by decide +kernel
theorem dX2_letYears_28 : decode cX2_letYears 28 = .ok (.if_icmp .ge 33, 3) := by decide +kernel
theorem dX2_letYears_31 : decode cX2_letYears 31 = .ok (.aload_n 1, 1) := by decide +kernel
theorem dX2_letYears_32 : decode cX2_letYears 32 = .ok (.dup, 1) := by decide +kernel
theorem dX2_letYears_33 : decode cX2_letYears 33 = .ok (.getfield 123, 3) := by decide +kernel
theorem dX2_letYears_36 : decode cX2_letYears 36 = .ok (.aload_n 0, 1) := by decide +kernel
theorem dX2_letYears_37 : decode cX2_letYears 37 = .ok (.aload_n 1, 1) := by decide +kernel
theorem dX2_letYears_38 : decode cX2_letYears 38 = .ok (.iload 4, 2) := by decide +kernel
theorem dX2_letYears_40 : decode cX2_letYears 40 = .ok (.invokevirtual 126, 3) := by decide +kernel
theorem dX2_letYears_43 : decode cX2_letYears 43 = .ok (.iadd, 1) := by decide +kernel
theorem dX2_letYears_44 : decode cX2_letYears 44 = .ok (.putfield 123, 3) := by decide +kernel
theorem dX2_letYears_47 : decode cX2_letYears 47 = .ok (.aload_n 1, 1) := by decide +kernel
theorem dX2_letYears_48 : decode cX2_letYears 48 = .ok (.getfield 56, 3) := by decide +kernel
theorem dX2_letYears_51 : decode cX2_letYears 51 = .ok (.iload 4, 2) := by decide +kernel
theorem dX2_letYears_53 : decode cX2_letYears 53 = .ok (.iconst 0, 1) := by decide +kernel
theorem dX2_letYears_54 : decode cX2_letYears 54 = .ok (.iastore, 1) := by decide +kernel
theorem dX2_letYears_55 : decode cX2_letYears 55 = .ok (.iinc 4 1, 3) := by decide +kernel
theorem dX2_letYears_58 : decode cX2_letYears 58 = .ok (.goto (-39), 3) := by decide +kernel
theorem dX2_letYears_61 : decode cX2_letYears 61 = .ok (.aload_n 1, 1) := by decide +kernel
theorem dX2_letYears_62 : decode cX2_letYears 62 = .ok (.dup, 1) := by decide +kernel
theorem dX2_letYears_63 : decode cX2_letYears 63 = .ok (.getfield 114, 3) := by decide +kernel
theorem dX2_letYears_66 : decode cX2_letYears 66 = .ok (.iconst 1, 1) := by decide +kernel
theorem dX2_letYears_67 : decode cX2_letYears 67 = .ok (.iadd, 1) := by decide +kernel
theorem dX2_letYears_68 : decode cX2_letYears 68 = .ok (.putfield 114, 3) := by decide +kernel
theorem dX2_letYears_71 : decode cX2_letYears 71 = .ok (.iinc 3 1, 3) := by decide +kernel
theorem dX2_letYears_74 : decode cX2_letYears 74 = .ok (.goto (-72), 3) := by decide +kernel
theorem dX2_letYears_77 : decode cX2_letYears 77 = .ok (.iload_n 3, 1) := by decide +kernel
theorem dX2_letYears_78 : decode cX2_letYears 78 = .ok (.ireturn, 1) := by decide +kernel
theorem dX3_init_0 : decode cX3_init 0 = .ok (.aload_n 0, 1) := by decide +kernel
theorem dX3_init_1 : decode cX3_init 1 = .ok (.invokespecial 3, 3) := by decide +kernel
theorem dX3_init_4 : decode cX3_init 4 = .ok (.return_, 1) := by decide +kernel
theorem dX3_pick_0 : decode cX3_pick 0 = .ok (.aload_n 0, 1) := by decide +kernel
theorem dX3_pick_1 : decode cX3_pick 1 = .ok (.aload_n 0, 1) := by decide +kernel
theorem dX3_pick_2 : decode cX3_pick 2 = .ok (.getfield 9, 3) := by decide +kernel
theorem dX3_pick_5 : decode cX3_pick 5 = .ok (.ldc 15, 2) := by decide +kernel
theorem dX3_pick_7 : decode cX3_pick 7 = .ok (.imul, 1) := by decide +kernel
theorem dX3_pick_8 : decode cX3_pick 8 = .ok (.sipush 12345, 3) := by decide +kernel
theorem dX3_pick_11 : decode cX3_pick 11 = .ok (.iadd, 1) := by decide +kernel
theorem dX3_pick_12 : decode cX3_pick 12 = .ok (.putfield 9, 3) := by decide +kernel
theorem dX3_pick_15 : decode cX3_pick 15 = .ok (.iload_n 1, 1) := by decide +kernel
theorem dX3_pick_16 : decode cX3_pick 16 = .ok (.ifCond .gt 7, 3) := by decide +kernel
theorem dX3_pick_19 : decode cX3_pick 19 = .ok (.iconst 0, 1) := by decide +kernel
theorem dX3_pick_20 : decode cX3_pick 20 = .ok (.goto 12, 3) := by decide +kernel
theorem dX3_pick_23 : decode cX3_pick 23 = .ok (.aload_n 0, 1) := by decide +kernel
theorem dX3_pick_24 : decode cX3_pick 24 = .ok (.getfield 9, 3) := by decide +kernel
theorem dX3_pick_27 : decode cX3_pick 27 = .ok (.bipush 8, 2) := by decide +kernel
theorem dX3_pick_29 : decode cX3_pick 29 = .ok (.iushr, 1) := by decide +kernel
theorem dX3_pick_30 : decode cX3_pick 30 = .ok (.iload_n 1, 1) := by decide +kernel
theorem dX3_pick_31 : decode cX3_pick 31 = .ok (.irem, 1) := by decide +kernel
theorem dX3_pick_32 : decode cX3_pick 32 = .ok (.ireturn, 1) := by decide +kernel
theorem dX3_letYears_0 : decode cX3_letYears 0 = .ok (.aload_n 0, 1) := by decide +kernel
theorem dX3_letYears_1 : decode cX3_letYears 1 = .ok (.iload 4, 2) := by decide +kernel
theorem dX3_letYears_3 : decode cX3_letYears 3 = .ok (.putfield 9, 3) := by decide +kernel
theorem dX3_letYears_6 : decode cX3_letYears 6 = .ok (.iconst 0, 1) := by decide +kernel
theorem dX3_letYears_7 : decode cX3_letYears 7 = .ok (.istore 5, 2) := by decide +kernel
theorem dX3_letYears_9 : decode cX3_letYears 9 = .ok (.iload 5, 2) := by decide +kernel
theorem dX3_letYears_11 : decode cX3_letYears 11 = .ok (.iload_n 3, 1) := by decide +kernel
theorem dX3_letYears_12 : decode cX3_letYears 12 = .ok (.if_icmp .ge 56, 3) := by decide +kernel
theorem dX3_letYears_15 : decode cX3_letYears 15 = .ok (.aload_n 1, 1) := by decide +kernel
theorem dX3_letYears_16 : decode cX3_letYears 16 = .ok (.getfield 16, 3) := by decide +kernel
theorem dX3_letYears_19 : decode cX3_letYears 19 = .ok (.bipush 39, 2) := by decide +kernel
theorem dX3_letYears_21 : decode cX3_letYears 21 = .ok (.if_icmp .ge 47, 3) := by decide +kernel
theorem dX3_letYears_24 : decode cX3_letYears 24 = .ok (.iconst 0, 1) := by decide +kernel
theorem dX3_letYears_25 : decode cX3_letYears 25 = .ok (.istore 6, 2) := by decide +kernel
theorem dX3_letYears_27 : decode cX3_letYears 27 = .ok (.iload 6, 2) := by decide +kernel
theorem dX3_letYears_29 : decode cX3_letYears 29 = .ok (.iconst 4, 1) := by decide +kernel
theorem dX3_letYears_30 : decode cX3_letYears 30 = .ok (.if_icmp .ge 25, 3) := by decide +kernel
theorem dX3_letYears_33 : decode cX3_letYears 33 = .ok (.aload_n 1, 1) := by decide +kernel
theorem dX3_letYears_34 : decode cX3_letYears 34 = .ok (.getfield 21, 3) := by decide +kernel
theorem dX3_letYears_37 : decode cX3_letYears 37 = .ok (.getfield 25, 3) := by decide +kernel
theorem dX3_letYears_40 : decode cX3_letYears 40 = .ok (.ifCond .le 15, 3) := by decide +kernel
theorem dX3_letYears_43 : decode cX3_letYears 43 = .ok (.aload_n 0, 1) := by decide +kernel
theorem dX3_letYears_44 : decode cX3_letYears 44 = .ok (.aload_n 1, 1) := by decide +kernel
theorem dX3_letYears_45 : decode cX3_letYears 45 = .ok (.aload_n 2, 1) := by decide +kernel
theorem dX3_letYears_46 : decode cX3_letYears 46 = .ok (.invokevirtual 30, 3) := by decide +kernel
theorem dX3_letYears_49 : decode cX3_letYears 49 = .ok (.iinc 6 1, 3) := by decide +kernel
theorem dX3_letYears_52 : decode cX3_letYears 52 = .ok (.goto (-25), 3) := by decide +kernel
theorem dX3_letYears_55 : decode cX3_letYears 55 = .ok (.aload_n 2, 1) := by decide +kernel
theorem dX3_letYears_56 : decode cX3_letYears 56 = .ok (.aload_n 1, 1) := by decide +kernel
theorem dX3_letYears_57 : decode cX3_letYears 57 = .ok (.iconst 1, 1) := by decide +kernel
theorem dX3_letYears_58 : decode cX3_letYears 58 = .ok (.invokevirtual 34, 3) := by decide +kernel
theorem dX3_letYears_61 : decode cX3_letYears 61 = .ok (.pop, 1) := by decide +kernel
theorem dX3_letYears_62 : decode cX3_letYears 62 = .ok (.iinc 5 1, 3) := by decide +kernel
theorem dX3_letYears_65 : decode cX3_letYears 65 = .ok (.goto (-56), 3) := by decide +kernel
theorem dX3_letYears_68 : decode cX3_letYears 68 = .ok (.iload 5, 2) := by decide +kernel
theorem dX3_letYears_70 : decode cX3_letYears 70 = .ok (.ireturn, 1) := by decide +kernel
theorem dX3_tryAct_0 : decode cX3_tryAct 0 = .ok (.aload_n 0, 1) := by decide +kernel
theorem dX3_tryAct_1 : decode cX3_tryAct 1 = .ok (.bipush 6, 2) := by decide +kernel
theorem dX3_tryAct_3 : decode cX3_tryAct 3 = .ok (.invokevirtual 40, 3) := by decide +kernel
theorem dX3_tryAct_6 : decode cX3_tryAct 6 = .ok (.istore_n 3, 1) := by decide +kernel
theorem dX3_tryAct_7 : decode cX3_tryAct 7 = .ok (.iload_n 3, 1) := by decide +kernel
theorem dX3_tryAct_8 : decode cX3_tryAct 8 = .ok (.iconst 1, 1) := by decide +kernel
theorem dX3_tryAct_9 : decode cX3_tryAct 9 = .ok (.if_icmp .gt 39, 3) := by decide +kernel
theorem dX3_tryAct_12 : decode cX3_tryAct 12 = .ok (.aload_n 0, 1) := by decide +kernel
theorem dX3_tryAct_13 : decode cX3_tryAct 13 = .ok (.aload_n 1, 1) := by decide +kernel
theorem dX3_tryAct_14 : decode cX3_tryAct 14 = .ok (.getfield 21, 3) := by decide +kernel
theorem dX3_tryAct_17 : decode cX3_tryAct 17 = .ok (.getfield 44, 3) := by decide +kernel
theorem dX3_tryAct_20 : decode cX3_tryAct 20 = .ok (.invokevirtual 40, 3) := by decide +kernel
theorem dX3_tryAct_23 : decode cX3_tryAct 23 = .ok (.istore 4, 2) := by decide +kernel
theorem dX3_tryAct_25 : decode cX3_tryAct 25 = .ok (.aload_n 0, 1) := by decide +kernel
theorem dX3_tryAct_26 : decode cX3_tryAct 26 = .ok (.bipush 40, 2) := by decide +kernel
theorem dX3_tryAct_28 : decode cX3_tryAct 28 = .ok (.invokevirtual 40, 3) := by decide +kernel
theorem dX3_tryAct_31 : decode cX3_tryAct 31 = .ok (.iconst 1, 1) := by decide +kernel
theorem dX3_tryAct_32 : decode cX3_tryAct 32 = .ok (.iadd, 1) := by decide +kernel
theorem dX3_tryAct_33 : decode cX3_tryAct 33 = .ok (.istore 5, 2) := by decide +kernel
theorem dX3_tryAct_35 : decode cX3_tryAct 35 = .ok (.aload_n 2, 1) := by decide +kernel
theorem dX3_tryAct_36 : decode cX3_tryAct 36 = .ok (.aload_n 1, 1) := by decide +kernel
theorem dX3_tryAct_37 : decode cX3_tryAct 37 = .ok (.iload 4, 2) := by decide +kernel
theorem dX3_tryAct_39 : decode cX3_tryAct 39 = .ok (.iload 5, 2) := by decide +kernel
theorem dX3_tryAct_41 : decode cX3_tryAct 41 = .ok (.invokevirtual 47, 3) := by decide +kernel
theorem dX3_tryAct_44 : decode cX3_tryAct 44 = .ok (.pop, 1) := by decide +kernel
theorem dX3_tryAct_45 : decode cX3_tryAct 45 = .ok (.goto 95, 3) := by decide +kernel
theorem dX3_tryAct_48 : decode cX3_tryAct 48 = .ok (.iload_n 3, 1) := by decide +kernel
theorem dX3_tryAct_49 : decode cX3_tryAct 49 = .ok (.iconst 2, 1) := by decide +kernel
theorem dX3_tryAct_50 : decode cX3_tryAct 50 = .ok (.if_icmp .ne 23, 3) := by decide +kernel
theorem dX3_tryAct_53 : decode cX3_tryAct 53 = .ok (.aload_n 2, 1) := by decide +kernel
theorem dX3_tryAct_54 : decode cX3_tryAct 54 = .ok (.aload_n 1, 1) := by decide +kernel
theorem dX3_tryAct_55 : decode cX3_tryAct 55 = .ok (.aload_n 0, 1) := by decide +kernel
theorem dX3_tryAct_56 : decode cX3_tryAct 56 = .ok (.aload_n 1, 1) := by decide +kernel
theorem dX3_tryAct_57 : decode cX3_tryAct 57 = .ok (.getfield 21, 3) := by decide +kernel
theorem dX3_tryAct_60 : decode cX3_tryAct 60 = .ok (.getfield 25, 3) := by decide +kernel
theorem dX3_tryAct_63 : decode cX3_tryAct 63 = .ok (.invokevirtual 40, 3) := by decide +kernel
theorem dX3_tryAct_66 : decode cX3_tryAct 66 = .ok (.invokevirtual 51, 3) := by decide +kernel
theorem dX3_tryAct_69 : decode cX3_tryAct 69 = .ok (.pop, 1) := by decide +kernel
theorem dX3_tryAct_70 : decode cX3_tryAct 70 = .ok (.goto 70, 3) := by decide +kernel
theorem dX3_tryAct_73 : decode cX3_tryAct 73 = .ok (.iload_n 3, 1) := by decide +kernel
theorem dX3_tryAct_74 : decode cX3_tryAct 74 = .ok (.iconst 3, 1) := by decide +kernel
theorem dX3_tryAct_75 : decode cX3_tryAct 75 = .ok (.if_icmp .ne 12, 3) := by decide +kernel
theorem dX3_tryAct_78 : decode cX3_tryAct 78 = .ok (.aload_n 2, 1) := by decide +kernel
theorem dX3_tryAct_79 : decode cX3_tryAct 79 = .ok (.aload_n 1, 1) := by decide +kernel
theorem dX3_tryAct_80 : decode cX3_tryAct 80 = .ok (.invokevirtual 54, 3) := by decide +kernel
theorem dX3_tryAct_83 : decode cX3_tryAct 83 = .ok (.pop, 1) := by decide +kernel
theorem dX3_tryAct_84 : decode cX3_tryAct 84 = .ok (.goto 56, 3) := by decide +kernel
theorem dX3_tryAct_87 : decode cX3_tryAct 87 = .ok (.iload_n 3, 1) := by decide +kernel
theorem dX3_tryAct_88 : decode cX3_tryAct 88 = .ok (.iconst 4, 1) := by decide +kernel
theorem dX3_tryAct_89 : decode cX3_tryAct 89 = .ok (.if_icmp .ne 51, 3) := by decide +kernel
theorem dX3_tryAct_92 : decode cX3_tryAct 92 = .ok (.aload_n 0, 1) := by decide +kernel
theorem dX3_tryAct_93 : decode cX3_tryAct 93 = .ok (.aload_n 1, 1) := by decide +kernel
theorem dX3_tryAct_94 : decode cX3_tryAct 94 = .ok (.getfield 21, 3) := by decide +kernel
theorem dX3_tryAct_97 : decode cX3_tryAct 97 = .ok (.getfield 44, 3) := by decide +kernel
theorem dX3_tryAct_100 : decode cX3_tryAct 100 = .ok (.invokevirtual 40, 3) := by decide +kernel
theorem dX3_tryAct_103 : decode cX3_tryAct 103 = .ok (.istore 4, 2) := by decide +kernel
theorem dX3_tryAct_105 : decode cX3_tryAct 105 = .ok (.aload_n 0, 1) := by decide +kernel
theorem dX3_tryAct_106 : decode cX3_tryAct 106 = .ok (.aload_n 1, 1) := by decide +kernel
theorem dX3_tryAct_107 : decode cX3_tryAct 107 = .ok (.getfield 21, 3) := by decide +kernel
theorem dX3_tryAct_110 : decode cX3_tryAct 110 = .ok (.getfield 44, 3) := by decide +kernel
theorem dX3_tryAct_113 : decode cX3_tryAct 113 = .ok (.invokevirtual 40, 3) := by decide +kernel
theorem dX3_tryAct_116 : decode cX3_tryAct 116 = .ok (.istore 5, 2) := by decide +kernel
theorem dX3_tryAct_118 : decode cX3_tryAct 118 = .ok (.aload_n 0, 1) := by decide +kernel
theorem dX3_tryAct_119 : decode cX3_tryAct 119 = .ok (.bipush 20, 2) := by decide +kernel
theorem dX3_tryAct_121 : decode cX3_tryAct 121 = .ok (.invokevirtual 40, 3) := by decide +kernel
theorem dX3_tryAct_124 : decode cX3_tryAct 124 = .ok (.iconst 1, 1) := by decide +kernel
theorem dX3_tryAct_125 : decode cX3_tryAct 125 = .ok (.iadd, 1) := by decide +kernel
theorem dX3_tryAct_126 : decode cX3_tryAct 126 = .ok (.istore 6, 2) := by decide +kernel
theorem dX3_tryAct_128 : decode cX3_tryAct 128 = .ok (.aload_n 2, 1) := by decide +kernel
theorem dX3_tryAct_129 : decode cX3_tryAct 129 = .ok (.aload_n 1, 1) := by decide +kernel
theorem dX3_tryAct_130 : decode cX3_tryAct 130 = .ok (.iload 4, 2) := by decide +kernel
theorem dX3_tryAct_132 : decode cX3_tryAct 132 = .ok (.iload 5, 2) := by decide +kernel
theorem dX3_tryAct_134 : decode cX3_tryAct 134 = .ok (.iload 6, 2) := by decide +kernel
theorem dX3_tryAct_136 : decode cX3_tryAct 136 = .ok (.invokevirtual 58, 3) := by decide +kernel
theorem dX3_tryAct_139 : decode cX3_tryAct 139 = .ok (.pop, 1) := by decide +kernel
theorem dX3_tryAct_140 : decode cX3_tryAct 140 = .ok (.return_, 1) := by decide +kernel
theorem dX4_init_0 : decode cX4_init 0 = .ok (.aload_n 0, 1) := by decide +kernel
theorem dX4_init_1 : decode cX4_init 1 = .ok (.invokespecial 3, 3) := by decide +kernel
theorem dX4_init_4 : decode cX4_init 4 = .ok (.aload_n 0, 1) := by decide +kernel
theorem dX4_init_5 : decode cX4_init 5 = .ok (.new 9, 3) := by decide +kernel
theorem dX4_init_8 : decode cX4_init 8 = .ok (.dup, 1) := by decide +kernel
theorem dX4_init_9 : decode cX4_init 9 = .ok (.invokespecial 11, 3) := by decide +kernel
theorem dX4_init_12 : decode cX4_init 12 = .ok (.putfield 12, 3) := by decide +kernel
theorem dX4_init_15 : decode cX4_init 15 = .ok (.aload_n 0, 1) := by decide +kernel
theorem dX4_init_16 : decode cX4_init 16 = .ok (.aload_n 1, 1) := by decide +kernel
theorem dX4_init_17 : decode cX4_init 17 = .ok (.putfield 18, 3) := by decide +kernel
theorem dX4_init_20 : decode cX4_init 20 = .ok (.aload_n 0, 1) := by decide +kernel
theorem dX4_init_21 : decode cX4_init 21 = .ok (.aload_n 2, 1) := by decide +kernel
theorem dX4_init_22 : decode cX4_init 22 = .ok (.putfield 22, 3) := by decide +kernel
theorem dX4_init_25 : decode cX4_init 25 = .ok (.return_, 1) := by decide +kernel
theorem dX4_read_0 : decode cX4_read 0 = .ok (.aload_n 0, 1) := by decide +kernel
theorem dX4_read_1 : decode cX4_read 1 = .ok (.getfield 22, 3) := by decide +kernel
theorem dX4_read_4 : decode cX4_read 4 = .ok (.aload_n 0, 1) := by decide +kernel
theorem dX4_read_5 : decode cX4_read 5 = .ok (.getfield 12, 3) := by decide +kernel
theorem dX4_read_8 : decode cX4_read 8 = .ok (.invokevirtual 26, 3) := by decide +kernel
theorem dX4_read_11 : decode cX4_read 11 = .ok (.aload_n 0, 1) := by decide +kernel
theorem dX4_read_12 : decode cX4_read 12 = .ok (.iconst 0, 1) := by decide +kernel
theorem dX4_read_13 : decode cX4_read 13 = .ok (.putfield 32, 3) := by decide +kernel
theorem dX4_read_16 : decode cX4_read 16 = .ok (.aload_n 0, 1) := by decide +kernel
theorem dX4_read_17 : decode cX4_read 17 = .ok (.getfield 32, 3) := by decide +kernel
theorem dX4_read_20 : decode cX4_read 20 = .ok (.sipush 900, 3) := by decide +kernel
theorem dX4_read_23 : decode cX4_read 23 = .ok (.if_icmp .ge 47, 3) := by decide +kernel
theorem dX4_read_26 : decode cX4_read 26 = .ok (.aload_n 0, 1) := by decide +kernel
theorem dX4_read_27 : decode cX4_read 27 = .ok (.getfield 18, 3) := by decide +kernel
theorem dX4_read_30 : decode cX4_read 30 = .ok (.getfield 36, 3) := by decide +kernel
theorem dX4_read_33 : decode cX4_read 33 = .ok (.ifCond .eq 37, 3) := by decide +kernel
theorem dX4_read_36 : decode cX4_read 36 = .ok (.aload_n 0, 1) := by decide +kernel
theorem dX4_read_37 : decode cX4_read 37 = .ok (.invokevirtual 41, 3) := by decide +kernel
theorem dX4_read_40 : decode cX4_read 40 = .ok (.ifCond .eq 15, 3) := by decide +kernel
theorem dX4_read_43 : decode cX4_read 43 = .ok (.aload_n 0, 1) := by decide +kernel
theorem dX4_read_44 : decode cX4_read 44 = .ok (.getfield 18, 3) := by decide +kernel
theorem dX4_read_47 : decode cX4_read 47 = .ok (.bipush 59, 2) := by decide +kernel
theorem dX4_read_49 : decode cX4_read 49 = .ok (.invokevirtual 45, 3) := by decide +kernel
theorem dX4_read_52 : decode cX4_read 52 = .ok (.ifCond .ne 5, 3) := by decide +kernel
theorem dX4_read_55 : decode cX4_read 55 = .ok (.iconst 0, 1) := by decide +kernel
theorem dX4_read_56 : decode cX4_read 56 = .ok (.ireturn, 1) := by decide +kernel
theorem dX4_read_57 : decode cX4_read 57 = .ok (.aload_n 0, 1) := by decide +kernel
theorem dX4_read_58 : decode cX4_read 58 = .ok (.dup, 1) := by decide +kernel
theorem dX4_read_59 : decode cX4_read 59 = .ok (.getfield 32, 3) := by decide +kernel
theorem dX4_read_62 : decode cX4_read 62 = .ok (.iconst 1, 1) := by decide +kernel
theorem dX4_read_63 : decode cX4_read 63 = .ok (.iadd, 1) := by decide +kernel
theorem dX4_read_64 : decode cX4_read 64 = .ok (.putfield 32, 3) := by decide +kernel
theorem dX4_read_67 : decode cX4_read 67 = .ok (.goto (-51), 3) := by decide +kernel
theorem dX4_read_70 : decode cX4_read 70 = .ok (.aload_n 0, 1) := by decide +kernel
theorem dX4_read_71 : decode cX4_read 71 = .ok (.getfield 22, 3) := by decide +kernel
theorem dX4_read_74 : decode cX4_read 74 = .ok (.aload_n 0, 1) := by decide +kernel
theorem dX4_read_75 : decode cX4_read 75 = .ok (.getfield 12, 3) := by decide +kernel
theorem dX4_read_78 : decode cX4_read 78 = .ok (.getfield 49, 3) := by decide +kernel
theorem dX4_read_81 : decode cX4_read 81 = .ok (.putfield 52, 3) := by decide +kernel
theorem dX4_read_84 : decode cX4_read 84 = .ok (.iconst 1, 1) := by decide +kernel
theorem dX4_read_85 : decode cX4_read 85 = .ok (.ireturn, 1) := by decide +kernel
theorem dX4_readLine_0 : decode cX4_readLine 0 = .ok (.aload_n 0, 1) := by decide +kernel
theorem dX4_readLine_1 : decode cX4_readLine 1 = .ok (.getfield 18, 3) := by decide +kernel
theorem dX4_readLine_4 : decode cX4_readLine 4 = .ok (.getfield 55, 3) := by decide +kernel
theorem dX4_readLine_7 : decode cX4_readLine 7 = .ok (.tableswitch 58 0 4 #[33, 38, 43, 48, 53], 33) := by decide +kernel
theorem dX4_readLine_40 : decode cX4_readLine 40 = .ok (.aload_n 0, 1) := by decide +kernel
theorem dX4_readLine_41 : decode cX4_readLine 41 = .ok (.invokevirtual 58, 3) := by decide +kernel
theorem dX4_readLine_44 : decode cX4_readLine 44 = .ok (.ireturn, 1) := by decide +kernel
theorem dX4_readLine_45 : decode cX4_readLine 45 = .ok (.aload_n 0, 1) := by decide +kernel
theorem dX4_readLine_46 : decode cX4_readLine 46 = .ok (.invokevirtual 61, 3) := by decide +kernel
theorem dX4_readLine_49 : decode cX4_readLine 49 = .ok (.ireturn, 1) := by decide +kernel
theorem dX4_readLine_50 : decode cX4_readLine 50 = .ok (.aload_n 0, 1) := by decide +kernel
theorem dX4_readLine_51 : decode cX4_readLine 51 = .ok (.invokevirtual 64, 3) := by decide +kernel
theorem dX4_readLine_54 : decode cX4_readLine 54 = .ok (.ireturn, 1) := by decide +kernel
theorem dX4_readLine_55 : decode cX4_readLine 55 = .ok (.aload_n 0, 1) := by decide +kernel
theorem dX4_readLine_56 : decode cX4_readLine 56 = .ok (.invokevirtual 67, 3) := by decide +kernel
theorem dX4_readLine_59 : decode cX4_readLine 59 = .ok (.ireturn, 1) := by decide +kernel
theorem dX4_readLine_60 : decode cX4_readLine 60 = .ok (.aload_n 0, 1) := by decide +kernel
theorem dX4_readLine_61 : decode cX4_readLine 61 = .ok (.invokevirtual 70, 3) := by decide +kernel
theorem dX4_readLine_64 : decode cX4_readLine 64 = .ok (.ireturn, 1) := by decide +kernel
theorem dX4_readLine_65 : decode cX4_readLine 65 = .ok (.aload_n 0, 1) := by decide +kernel
theorem dX4_readLine_66 : decode cX4_readLine 66 = .ok (.getfield 18, 3) := by decide +kernel
theorem dX4_readLine_69 : decode cX4_readLine 69 = .ok (.iconst 1, 1) := by decide +kernel
theorem dX4_readLine_70 : decode cX4_readLine 70 = .ok (.invokevirtual 73, 3) := by decide +kernel
theorem dX4_readLine_73 : decode cX4_readLine 73 = .ok (.ireturn, 1) := by decide +kernel
theorem dX4_readScale_0 : decode cX4_readScale 0 = .ok (.aload_n 0, 1) := by decide +kernel
theorem dX4_readScale_1 : decode cX4_readScale 1 = .ok (.getfield 12, 3) := by decide +kernel
theorem dX4_readScale_4 : decode cX4_readScale 4 = .ok (.getfield 76, 3) := by decide +kernel
theorem dX4_readScale_7 : decode cX4_readScale 7 = .ok (.iconst 5, 1) := by decide +kernel
theorem dX4_readScale_8 : decode cX4_readScale 8 = .ok (.if_icmp .lt 12, 3) := by decide +kernel
theorem dX4_readScale_11 : decode cX4_readScale 11 = .ok (.aload_n 0, 1) := by decide +kernel
theorem dX4_readScale_12 : decode cX4_readScale 12 = .ok (.getfield 18, 3) := by decide +kernel
theorem dX4_readScale_15 : decode cX4_readScale 15 = .ok (.iconst 4, 1) := by decide +kernel
theorem dX4_readScale_16 : decode cX4_readScale 16 = .ok (.invokevirtual 73, 3) := by decide +kernel
theorem dX4_readScale_19 : decode cX4_readScale 19 = .ok (.ireturn, 1) := by decide +kernel
theorem dX4_readScale_20 : decode cX4_readScale 20 = .ok (.aload_n 0, 1) := by decide +kernel
theorem dX4_readScale_21 : decode cX4_readScale 21 = .ok (.getfield 18, 3) := by decide +kernel
theorem dX4_readScale_24 : decode cX4_readScale 24 = .ok (.invokevirtual 79, 3) := by decide +kernel
theorem dX4_readScale_27 : decode cX4_readScale 27 = .ok (.aload_n 0, 1) := by decide +kernel
theorem dX4_readScale_28 : decode cX4_readScale 28 = .ok (.getfield 18, 3) := by decide +kernel
theorem dX4_readScale_31 : decode cX4_readScale 31 = .ok (.invokevirtual 82, 3) := by decide +kernel
theorem dX4_readScale_34 : decode cX4_readScale 34 = .ok (.ifCond .ne 12, 3) := by decide +kernel
theorem dX4_readScale_37 : decode cX4_readScale 37 = .ok (.aload_n 0, 1) := by decide +kernel
theorem dX4_readScale_38 : decode cX4_readScale 38 = .ok (.getfield 18, 3) := by decide +kernel
theorem dX4_readScale_41 : decode cX4_readScale 41 = .ok (.iconst 1, 1) := by decide +kernel
theorem dX4_readScale_42 : decode cX4_readScale 42 = .ok (.invokevirtual 73, 3) := by decide +kernel
theorem dX4_readScale_45 : decode cX4_readScale 45 = .ok (.ireturn, 1) := by decide +kernel
theorem dX4_readScale_46 : decode cX4_readScale 46 = .ok (.aload_n 0, 1) := by decide +kernel
theorem dX4_readScale_47 : decode cX4_readScale 47 = .ok (.getfield 18, 3) := by decide +kernel
theorem dX4_readScale_50 : decode cX4_readScale 50 = .ok (.getfield 85, 3) := by decide +kernel
theorem dX4_readScale_53 : decode cX4_readScale 53 = .ok (.lstore_n 1, 1) := by decide +kernel
theorem dX4_readScale_54 : decode cX4_readScale 54 = .ok (.aload_n 0, 1) := by decide +kernel
theorem dX4_readScale_55 : decode cX4_readScale 55 = .ok (.getfield 12, 3) := by decide +kernel
theorem dX4_readScale_58 : decode cX4_readScale 58 = .ok (.lload_n 1, 1) := by decide +kernel
theorem dX4_readScale_59 : decode cX4_readScale 59 = .ok (.invokevirtual 89, 3) := by decide +kernel
theorem dX4_readScale_62 : decode cX4_readScale 62 = .ok (.iconst (-1), 1) := by decide +kernel
theorem dX4_readScale_63 : decode cX4_readScale 63 = .ok (.if_icmp .eq 12, 3) := by decide +kernel
theorem dX4_readScale_66 : decode cX4_readScale 66 = .ok (.aload_n 0, 1) := by decide +kernel
theorem dX4_readScale_67 : decode cX4_readScale 67 = .ok (.getfield 18, 3) := by decide +kernel
theorem dX4_readScale_70 : decode cX4_readScale 70 = .ok (.iconst 3, 1) := by decide +kernel
theorem dX4_readScale_71 : decode cX4_readScale 71 = .ok (.invokevirtual 73, 3) := by decide +kernel
theorem dX4_readScale_74 : decode cX4_readScale 74 = .ok (.ireturn, 1) := by decide +kernel
theorem dX4_readScale_75 : decode cX4_readScale 75 = .ok (.aload_n 0, 1) := by decide +kernel
theorem dX4_readScale_76 : decode cX4_readScale 76 = .ok (.getfield 18, 3) := by decide +kernel
theorem dX4_readScale_79 : decode cX4_readScale 79 = .ok (.invokevirtual 79, 3) := by decide +kernel
theorem dX4_readScale_82 : decode cX4_readScale 82 = .ok (.aload_n 0, 1) := by decide +kernel
theorem dX4_readScale_83 : decode cX4_readScale 83 = .ok (.getfield 18, 3) := by decide +kernel
theorem dX4_readScale_86 : decode cX4_readScale 86 = .ok (.iconst 1, 1) := by decide +kernel
theorem dX4_readScale_87 : decode cX4_readScale 87 = .ok (.iconst 4, 1) := by decide +kernel
theorem dX4_readScale_88 : decode cX4_readScale 88 = .ok (.invokevirtual 93, 3) := by decide +kernel
theorem dX4_readScale_91 : decode cX4_readScale 91 = .ok (.ifCond .ne 5, 3) := by decide +kernel
theorem dX4_readScale_94 : decode cX4_readScale 94 = .ok (.iconst 0, 1) := by decide +kernel
theorem dX4_readScale_95 : decode cX4_readScale 95 = .ok (.ireturn, 1) := by decide +kernel
theorem dX4_readScale_96 : decode cX4_readScale 96 = .ok (.aload_n 0, 1) := by decide +kernel
theorem dX4_readScale_97 : decode cX4_readScale 97 = .ok (.getfield 18, 3) := by decide +kernel
theorem dX4_readScale_100 : decode cX4_readScale 100 = .ok (.getfield 97, 3) := by decide +kernel
theorem dX4_readScale_103 : decode cX4_readScale 103 = .ok (.istore_n 3, 1) := by decide +kernel
theorem dX4_readScale_104 : decode cX4_readScale 104 = .ok (.aload_n 0, 1) := by decide +kernel
theorem dX4_readScale_105 : decode cX4_readScale 105 = .ok (.getfield 18, 3) := by decide +kernel
theorem dX4_readScale_108 : decode cX4_readScale 108 = .ok (.bipush 10, 2) := by decide +kernel
theorem dX4_readScale_110 : decode cX4_readScale 110 = .ok (.sipush 400, 3) := by decide +kernel
theorem dX4_readScale_113 : decode cX4_readScale 113 = .ok (.invokevirtual 93, 3) := by decide +kernel
theorem dX4_readScale_116 : decode cX4_readScale 116 = .ok (.ifCond .ne 5, 3) := by decide +kernel
theorem dX4_readScale_119 : decode cX4_readScale 119 = .ok (.iconst 0, 1) := by decide +kernel
theorem dX4_readScale_120 : decode cX4_readScale 120 = .ok (.ireturn, 1) := by decide +kernel
theorem dX4_readScale_121 : decode cX4_readScale 121 = .ok (.aload_n 0, 1) := by decide +kernel
theorem dX4_readScale_122 : decode cX4_readScale 122 = .ok (.getfield 12, 3) := by decide +kernel
theorem dX4_readScale_125 : decode cX4_readScale 125 = .ok (.lload_n 1, 1) := by decide +kernel
theorem dX4_readScale_126 : decode cX4_readScale 126 = .ok (.iload_n 3, 1) := by decide +kernel
theorem dX4_readScale_127 : decode cX4_readScale 127 = .ok (.aload_n 0, 1) := by decide +kernel
theorem dX4_readScale_128 : decode cX4_readScale 128 = .ok (.getfield 18, 3) := by decide +kernel
theorem dX4_readScale_131 : decode cX4_readScale 131 = .ok (.getfield 97, 3) := by decide +kernel
theorem dX4_readScale_134 : decode cX4_readScale 134 = .ok (.invokevirtual 100, 3) := by decide +kernel
theorem dX4_readScale_137 : decode cX4_readScale 137 = .ok (.iconst 1, 1) := by decide +kernel
theorem dX4_readScale_138 : decode cX4_readScale 138 = .ok (.ireturn, 1) := by decide +kernel
theorem dX4_readWine_0 : decode cX4_readWine 0 = .ok (.aload_n 0, 1) := by decide +kernel
theorem dX4_readWine_1 : decode cX4_readWine 1 = .ok (.iconst 1, 1) := by decide +kernel
theorem dX4_readWine_2 : decode cX4_readWine 2 = .ok (.putfield 104, 3) := by decide +kernel
theorem dX4_readWine_5 : decode cX4_readWine 5 = .ok (.aload_n 0, 1) := by decide +kernel
theorem dX4_readWine_6 : decode cX4_readWine 6 = .ok (.getfield 18, 3) := by decide +kernel
theorem dX4_readWine_9 : decode cX4_readWine 9 = .ok (.invokevirtual 79, 3) := by decide +kernel
theorem dX4_readWine_12 : decode cX4_readWine 12 = .ok (.aload_n 0, 1) := by decide +kernel
theorem dX4_readWine_13 : decode cX4_readWine 13 = .ok (.getfield 18, 3) := by decide +kernel
theorem dX4_readWine_16 : decode cX4_readWine 16 = .ok (.aload_n 0, 1) := by decide +kernel
theorem dX4_readWine_17 : decode cX4_readWine 17 = .ok (.getfield 12, 3) := by decide +kernel
theorem dX4_readWine_20 : decode cX4_readWine 20 = .ok (.invokevirtual 108, 3) := by decide +kernel
theorem dX4_readWine_23 : decode cX4_readWine 23 = .ok (.ifCond .ne 5, 3) := by decide +kernel
theorem dX4_readWine_26 : decode cX4_readWine 26 = .ok (.iconst 0, 1) := by decide +kernel
theorem dX4_readWine_27 : decode cX4_readWine 27 = .ok (.ireturn, 1) := by decide +kernel
theorem dX4_readWine_28 : decode cX4_readWine 28 = .ok (.aload_n 0, 1) := by decide +kernel
theorem dX4_readWine_29 : decode cX4_readWine 29 = .ok (.getfield 18, 3) := by decide +kernel
theorem dX4_readWine_32 : decode cX4_readWine 32 = .ok (.getfield 97, 3) := by decide +kernel
theorem dX4_readWine_35 : decode cX4_readWine 35 = .ok (.istore_n 1, 1) := by decide +kernel
theorem dX4_readWine_36 : decode cX4_readWine 36 = .ok (.aload_n 0, 1) := by decide +kernel
theorem dX4_readWine_37 : decode cX4_readWine 37 = .ok (.getfield 18, 3) := by decide +kernel
theorem dX4_readWine_40 : decode cX4_readWine 40 = .ok (.iconst 0, 1) := by decide +kernel
theorem dX4_readWine_41 : decode cX4_readWine 41 = .ok (.aload_n 0, 1) := by decide +kernel
theorem dX4_readWine_42 : decode cX4_readWine 42 = .ok (.getfield 12, 3) := by decide +kernel
theorem dX4_readWine_45 : decode cX4_readWine 45 = .ok (.getfield 112, 3) := by decide +kernel
theorem dX4_readWine_48 : decode cX4_readWine 48 = .ok (.iload_n 1, 1) := by decide +kernel
theorem dX4_readWine_49 : decode cX4_readWine 49 = .ok (.iaload, 1) := by decide +kernel
theorem dX4_readWine_50 : decode cX4_readWine 50 = .ok (.iconst 1, 1) := by decide +kernel
theorem dX4_readWine_51 : decode cX4_readWine 51 = .ok (.isub, 1) := by decide +kernel
theorem dX4_readWine_52 : decode cX4_readWine 52 = .ok (.invokevirtual 93, 3) := by decide +kernel
theorem dX4_readWine_55 : decode cX4_readWine 55 = .ok (.ifCond .ne 5, 3) := by decide +kernel
theorem dX4_readWine_58 : decode cX4_readWine 58 = .ok (.iconst 0, 1) := by decide +kernel
theorem dX4_readWine_59 : decode cX4_readWine 59 = .ok (.ireturn, 1) := by decide +kernel
theorem dX4_readWine_60 : decode cX4_readWine 60 = .ok (.aload_n 0, 1) := by decide +kernel
theorem dX4_readWine_61 : decode cX4_readWine 61 = .ok (.getfield 12, 3) := by decide +kernel
theorem dX4_readWine_64 : decode cX4_readWine 64 = .ok (.getfield 116, 3) := by decide +kernel
theorem dX4_readWine_67 : decode cX4_readWine 67 = .ok (.iload_n 1, 1) := by decide +kernel
theorem dX4_readWine_68 : decode cX4_readWine 68 = .ok (.iaload, 1) := by decide +kernel
theorem dX4_readWine_69 : decode cX4_readWine 69 = .ok (.aload_n 0, 1) := by decide +kernel
theorem dX4_readWine_70 : decode cX4_readWine 70 = .ok (.getfield 18, 3) := by decide +kernel
theorem dX4_readWine_73 : decode cX4_readWine 73 = .ok (.getfield 97, 3) := by decide +kernel
theorem dX4_readWine_76 : decode cX4_readWine 76 = .ok (.iadd, 1) := by decide +kernel
theorem dX4_readWine_77 : decode cX4_readWine 77 = .ok (.istore_n 2, 1) := by decide +kernel
theorem dX4_readWine_78 : decode cX4_readWine 78 = .ok (.aload_n 0, 1) := by decide +kernel
theorem dX4_readWine_79 : decode cX4_readWine 79 = .ok (.getfield 18, 3) := by decide +kernel
theorem dX4_readWine_82 : decode cX4_readWine 82 = .ok (.iconst 0, 1) := by decide +kernel
theorem dX4_readWine_83 : decode cX4_readWine 83 = .ok (.aload_n 0, 1) := by decide +kernel
theorem dX4_readWine_84 : decode cX4_readWine 84 = .ok (.getfield 12, 3) := by decide +kernel
theorem dX4_readWine_87 : decode cX4_readWine 87 = .ok (.getfield 49, 3) := by decide +kernel
theorem dX4_readWine_90 : decode cX4_readWine 90 = .ok (.invokevirtual 93, 3) := by decide +kernel
theorem dX4_readWine_93 : decode cX4_readWine 93 = .ok (.ifCond .ne 5, 3) := by decide +kernel
theorem dX4_readWine_96 : decode cX4_readWine 96 = .ok (.iconst 0, 1) := by decide +kernel
theorem dX4_readWine_97 : decode cX4_readWine 97 = .ok (.ireturn, 1) := by decide +kernel
theorem dX4_readWine_98 : decode cX4_readWine 98 = .ok (.aload_n 0, 1) := by decide +kernel
theorem dX4_readWine_99 : decode cX4_readWine 99 = .ok (.getfield 18, 3) := by decide +kernel
theorem dX4_readWine_102 : decode cX4_readWine 102 = .ok (.getfield 97, 3) := by decide +kernel
theorem dX4_readWine_105 : decode cX4_readWine 105 = .ok (.istore_n 3, 1) := by decide +kernel
theorem dX4_readWine_106 : decode cX4_readWine 106 = .ok (.aload_n 0, 1) := by decide +kernel
theorem dX4_readWine_107 : decode cX4_readWine 107 = .ok (.getfield 18, 3) := by decide +kernel
theorem dX4_readWine_110 : decode cX4_readWine 110 = .ok (.iconst 1, 1) := by decide +kernel
theorem dX4_readWine_111 : decode cX4_readWine 111 = .ok (.aload_n 0, 1) := by decide +kernel
theorem dX4_readWine_112 : decode cX4_readWine 112 = .ok (.getfield 22, 3) := by decide +kernel
theorem dX4_readWine_115 : decode cX4_readWine 115 = .ok (.iload_n 2, 1) := by decide +kernel
theorem dX4_readWine_116 : decode cX4_readWine 116 = .ok (.invokevirtual 119, 3) := by decide +kernel
theorem dX4_readWine_119 : decode cX4_readWine 119 = .ok (.invokevirtual 93, 3) := by decide +kernel
theorem dX4_readWine_122 : decode cX4_readWine 122 = .ok (.ifCond .ne 5, 3) := by decide +kernel
theorem dX4_readWine_125 : decode cX4_readWine 125 = .ok (.iconst 0, 1) := by decide +kernel
theorem dX4_readWine_126 : decode cX4_readWine 126 = .ok (.ireturn, 1) := by decide +kernel
theorem dX4_readWine_127 : decode cX4_readWine 127 = .ok (.aload_n 0, 1) := by decide +kernel
theorem dX4_readWine_128 : decode cX4_readWine 128 = .ok (.getfield 22, 3) := by decide +kernel
