theorem dX0_init_0 : decode cX0_init 0 = .ok (.aload_n 0, 1) := by decide +kernel
theorem dX0_init_1 : decode cX0_init 1 = .ok (.invokespecial 3, 3) := by decide +kernel
theorem dX0_init_4 : decode cX0_init 4 = .ok (.aload_n 0, 1) := by decide +kernel
theorem dX0_init_5 : decode cX0_init 5 = .ok (.aload_n 1, 1) := by decide +kernel
theorem dX0_init_6 : decode cX0_init 6 = .ok (.putfield 9, 3) := by decide +kernel
theorem dX0_init_9 : decode cX0_init 9 = .ok (.aload_n 0, 1) := by decide +kernel
theorem dX0_init_10 : decode cX0_init 10 = .ok (.aload_n 2, 1) := by decide +kernel
theorem dX0_init_11 : decode cX0_init 11 = .ok (.putfield 15, 3) := by decide +kernel
theorem dX0_init_14 : decode cX0_init 14 = .ok (.aload_n 0, 1) := by decide +kernel
theorem dX0_init_15 : decode cX0_init 15 = .ok (.sipush 4096, 3) := by decide +kernel
theorem dX0_init_18 : decode cX0_init 18 = .ok (.newarray .int, 2) := by decide +kernel
theorem dX0_init_20 : decode cX0_init 20 = .ok (.putfield 19, 3) := by decide +kernel
theorem dX0_init_23 : decode cX0_init 23 = .ok (.aload_n 0, 1) := by decide +kernel
theorem dX0_init_24 : decode cX0_init 24 = .ok (.bipush 12, 2) := by decide +kernel
theorem dX0_init_26 : decode cX0_init 26 = .ok (.newarray .int, 2) := by decide +kernel
theorem dX0_init_28 : decode cX0_init 28 = .ok (.putfield 23, 3) := by decide +kernel
theorem dX0_init_31 : decode cX0_init 31 = .ok (.aload_n 0, 1) := by decide +kernel
theorem dX0_init_32 : decode cX0_init 32 = .ok (.iconst 1, 1) := by decide +kernel
theorem dX0_init_33 : decode cX0_init 33 = .ok (.putfield 26, 3) := by decide +kernel
theorem dX0_init_36 : decode cX0_init 36 = .ok (.return_, 1) := by decide +kernel
theorem dX0_turnTo_0 : decode cX0_turnTo 0 = .ok (.aload_n 0, 1) := by decide +kernel
theorem dX0_turnTo_1 : decode cX0_turnTo 1 = .ok (.aload_n 1, 1) := by decide +kernel
theorem dX0_turnTo_2 : decode cX0_turnTo 2 = .ok (.putfield 9, 3) := by decide +kernel
theorem dX0_turnTo_5 : decode cX0_turnTo 5 = .ok (.aload_n 0, 1) := by decide +kernel
theorem dX0_turnTo_6 : decode cX0_turnTo 6 = .ok (.invokevirtual 30, 3) := by decide +kernel
theorem dX0_turnTo_9 : decode cX0_turnTo 9 = .ok (.return_, 1) := by decide +kernel
theorem dX0_forget_0 : decode cX0_forget 0 = .ok (.aload_n 0, 1) := by decide +kernel
theorem dX0_forget_1 : decode cX0_forget 1 = .ok (.dup, 1) := by decide +kernel
theorem dX0_forget_2 : decode cX0_forget 2 = .ok (.getfield 26, 3) := by decide +kernel
theorem dX0_forget_5 : decode cX0_forget 5 = .ok (.iconst 1, 1) := by decide +kernel
theorem dX0_forget_6 : decode cX0_forget 6 = .ok (.iadd, 1) := by decide +kernel
theorem dX0_forget_7 : decode cX0_forget 7 = .ok (.putfield 26, 3) := by decide +kernel
theorem dX0_forget_10 : decode cX0_forget 10 = .ok (.return_, 1) := by decide +kernel
theorem dX0_openNow_0 : decode cX0_openNow 0 = .ok (.aload_n 0, 1) := by decide +kernel
theorem dX0_openNow_1 : decode cX0_openNow 1 = .ok (.getfield 15, 3) := by decide +kernel
theorem dX0_openNow_4 : decode cX0_openNow 4 = .ok (.aload_n 0, 1) := by decide +kernel
theorem dX0_openNow_5 : decode cX0_openNow 5 = .ok (.getfield 9, 3) := by decide +kernel
theorem dX0_openNow_8 : decode cX0_openNow 8 = .ok (.getfield 33, 3) := by decide +kernel
theorem dX0_openNow_11 : decode cX0_openNow 11 = .ok (.invokevirtual 38, 3) := by decide +kernel
theorem dX0_openNow_14 : decode cX0_openNow 14 = .ok (.aload_n 0, 1) := by decide +kernel
theorem dX0_openNow_15 : decode cX0_openNow 15 = .ok (.getfield 9, 3) := by decide +kernel
theorem dX0_openNow_18 : decode cX0_openNow 18 = .ok (.getfield 44, 3) := by decide +kernel
theorem dX0_openNow_21 : decode cX0_openNow 21 = .ok (.iconst (-1), 1) := by decide +kernel
theorem dX0_openNow_22 : decode cX0_openNow 22 = .ok (.ixor, 1) := by decide +kernel
theorem dX0_openNow_23 : decode cX0_openNow 23 = .ok (.iand, 1) := by decide +kernel
theorem dX0_openNow_24 : decode cX0_openNow 24 = .ok (.ireturn, 1) := by decide +kernel
theorem dX0_goneNextYear_0 : decode cX0_goneNextYear 0 = .ok (.aload_n 0, 1) := by decide +kernel
theorem dX0_goneNextYear_1 : decode cX0_goneNextYear 1 = .ok (.getfield 15, 3) := by decide +kernel
theorem dX0_goneNextYear_4 : decode cX0_goneNextYear 4 = .ok (.iload_n 1, 1) := by decide +kernel
theorem dX0_goneNextYear_5 : decode cX0_goneNextYear 5 = .ok (.invokevirtual 38, 3) := by decide +kernel
theorem dX0_goneNextYear_8 : decode cX0_goneNextYear 8 = .ok (.iload_n 2, 1) := by decide +kernel
theorem dX0_goneNextYear_9 : decode cX0_goneNextYear 9 = .ok (.iconst (-1), 1) := by decide +kernel
theorem dX0_goneNextYear_10 : decode cX0_goneNextYear 10 = .ok (.ixor, 1) := by decide +kernel
theorem dX0_goneNextYear_11 : decode cX0_goneNextYear 11 = .ok (.iand, 1) := by decide +kernel
theorem dX0_goneNextYear_12 : decode cX0_goneNextYear 12 = .ok (.istore_n 3, 1) := by decide +kernel
theorem dX0_goneNextYear_13 : decode cX0_goneNextYear 13 = .ok (.aload_n 0, 1) := by decide +kernel
theorem dX0_goneNextYear_14 : decode cX0_goneNextYear 14 = .ok (.getfield 19, 3) := by decide +kernel
theorem dX0_goneNextYear_17 : decode cX0_goneNextYear 17 = .ok (.iload_n 3, 1) := by decide +kernel
theorem dX0_goneNextYear_18 : decode cX0_goneNextYear 18 = .ok (.iaload, 1) := by decide +kernel
theorem dX0_goneNextYear_19 : decode cX0_goneNextYear 19 = .ok (.istore 4, 2) := by decide +kernel
theorem dX0_goneNextYear_21 : decode cX0_goneNextYear 21 = .ok (.iload 4, 2) := by decide +kernel
theorem dX0_goneNextYear_23 : decode cX0_goneNextYear 23 = .ok (.bipush 15, 2) := by decide +kernel
theorem dX0_goneNextYear_25 : decode cX0_goneNextYear 25 = .ok (.iand, 1) := by decide +kernel
theorem dX0_goneNextYear_26 : decode cX0_goneNextYear 26 = .ok (.iconst 1, 1) := by decide +kernel
theorem dX0_goneNextYear_27 : decode cX0_goneNextYear 27 = .ok (.isub, 1) := by decide +kernel
theorem dX0_goneNextYear_28 : decode cX0_goneNextYear 28 = .ok (.istore 5, 2) := by decide +kernel
theorem dX0_goneNextYear_30 : decode cX0_goneNextYear 30 = .ok (.iload 4, 2) := by decide +kernel
theorem dX0_goneNextYear_32 : decode cX0_goneNextYear 32 = .ok (.iconst 4, 1) := by decide +kernel
theorem dX0_goneNextYear_33 : decode cX0_goneNextYear 33 = .ok (.iushr, 1) := by decide +kernel
theorem dX0_goneNextYear_34 : decode cX0_goneNextYear 34 = .ok (.aload_n 0, 1) := by decide +kernel
theorem dX0_goneNextYear_35 : decode cX0_goneNextYear 35 = .ok (.getfield 26, 3) := by decide +kernel
theorem dX0_goneNextYear_38 : decode cX0_goneNextYear 38 = .ok (.if_icmp .eq 34, 3) := by decide +kernel
theorem dX0_goneNextYear_41 : decode cX0_goneNextYear 41 = .ok (.aload_n 0, 1) := by decide +kernel
theorem dX0_goneNextYear_42 : decode cX0_goneNextYear 42 = .ok (.iload_n 3, 1) := by decide +kernel
theorem dX0_goneNextYear_43 : decode cX0_goneNextYear 43 = .ok (.aload_n 0, 1) := by decide +kernel
theorem dX0_goneNextYear_44 : decode cX0_goneNextYear 44 = .ok (.getfield 9, 3) := by decide +kernel
theorem dX0_goneNextYear_47 : decode cX0_goneNextYear 47 = .ok (.getfield 47, 3) := by decide +kernel
theorem dX0_goneNextYear_50 : decode cX0_goneNextYear 50 = .ok (.invokevirtual 50, 3) := by decide +kernel
theorem dX0_goneNextYear_53 : decode cX0_goneNextYear 53 = .ok (.istore 5, 2) := by decide +kernel
theorem dX0_goneNextYear_55 : decode cX0_goneNextYear 55 = .ok (.aload_n 0, 1) := by decide +kernel
theorem dX0_goneNextYear_56 : decode cX0_goneNextYear 56 = .ok (.getfield 19, 3) := by decide +kernel
theorem dX0_goneNextYear_59 : decode cX0_goneNextYear 59 = .ok (.iload_n 3, 1) := by decide +kernel
theorem dX0_goneNextYear_60 : decode cX0_goneNextYear 60 = .ok (.aload_n 0, 1) := by decide +kernel
theorem dX0_goneNextYear_61 : decode cX0_goneNextYear 61 = .ok (.getfield 26, 3) := by decide +kernel
theorem dX0_goneNextYear_64 : decode cX0_goneNextYear 64 = .ok (.iconst 4, 1) := by decide +kernel
theorem dX0_goneNextYear_65 : decode cX0_goneNextYear 65 = .ok (.ishl, 1) := by decide +kernel
theorem dX0_goneNextYear_66 : decode cX0_goneNextYear 66 = .ok (.iload 5, 2) := by decide +kernel
theorem dX0_goneNextYear_68 : decode cX0_goneNextYear 68 = .ok (.iconst 1, 1) := by decide +kernel
theorem dX0_goneNextYear_69 : decode cX0_goneNextYear 69 = .ok (.iadd, 1) := by decide +kernel
theorem dX0_goneNextYear_70 : decode cX0_goneNextYear 70 = .ok (.ior, 1) := by decide +kernel
theorem dX0_goneNextYear_71 : decode cX0_goneNextYear 71 = .ok (.iastore, 1) := by decide +kernel
theorem dX0_goneNextYear_72 : decode cX0_goneNextYear 72 = .ok (.iload 5, 2) := by decide +kernel
theorem dX0_goneNextYear_74 : decode cX0_goneNextYear 74 = .ok (.iconst (-1), 1) := by decide +kernel
theorem dX0_goneNextYear_75 : decode cX0_goneNextYear 75 = .ok (.if_icmp .ne 7, 3) := by decide +kernel
theorem dX0_goneNextYear_78 : decode cX0_goneNextYear 78 = .ok (.iload_n 1, 1) := by decide +kernel
theorem dX0_goneNextYear_79 : decode cX0_goneNextYear 79 = .ok (.goto 9, 3) := by decide +kernel
theorem dX0_goneNextYear_82 : decode cX0_goneNextYear 82 = .ok (.iload_n 1, 1) := by decide +kernel
theorem dX0_goneNextYear_83 : decode cX0_goneNextYear 83 = .ok (.iconst 1, 1) := by decide +kernel
theorem dX0_goneNextYear_84 : decode cX0_goneNextYear 84 = .ok (.iload 5, 2) := by decide +kernel
theorem dX0_goneNextYear_86 : decode cX0_goneNextYear 86 = .ok (.ishl, 1) := by decide +kernel
theorem dX0_goneNextYear_87 : decode cX0_goneNextYear 87 = .ok (.ior, 1) := by decide +kernel
theorem dX0_goneNextYear_88 : decode cX0_goneNextYear 88 = .ok (.ireturn, 1) := by decide +kernel
theorem dX0_count_0 : decode cX0_count 0 = .ok (.aload_n 0, 1) := by decide +kernel
theorem dX0_count_1 : decode cX0_count 1 = .ok (.getfield 23, 3) := by decide +kernel
theorem dX0_count_4 : decode cX0_count 4 = .ok (.iconst 0, 1) := by decide +kernel
theorem dX0_count_5 : decode cX0_count 5 = .ok (.invokestatic 54, 3) := by decide +kernel
theorem dX0_count_8 : decode cX0_count 8 = .ok (.iload_n 2, 1) := by decide +kernel
theorem dX0_count_9 : decode cX0_count 9 = .ok (.iconst 1, 1) := by decide +kernel
theorem dX0_count_10 : decode cX0_count 10 = .ok (.if_icmp .ne 51, 3) := by decide +kernel
theorem dX0_count_13 : decode cX0_count 13 = .ok (.iconst 0, 1) := by decide +kernel
theorem dX0_count_14 : decode cX0_count 14 = .ok (.istore_n 3, 1) := by decide +kernel
theorem dX0_count_15 : decode cX0_count 15 = .ok (.iload_n 3, 1) := by decide +kernel
theorem dX0_count_16 : decode cX0_count 16 = .ok (.aload_n 0, 1) := by decide +kernel
theorem dX0_count_17 : decode cX0_count 17 = .ok (.getfield 9, 3) := by decide +kernel
theorem dX0_count_20 : decode cX0_count 20 = .ok (.getfield 60, 3) := by decide +kernel
theorem dX0_count_23 : decode cX0_count 23 = .ok (.if_icmp .ge 32, 3) := by decide +kernel
theorem dX0_count_26 : decode cX0_count 26 = .ok (.aload_n 0, 1) := by decide +kernel
theorem dX0_count_27 : decode cX0_count 27 = .ok (.getfield 23, 3) := by decide +kernel
theorem dX0_count_30 : decode cX0_count 30 = .ok (.iload_n 3, 1) := by decide +kernel
theorem dX0_count_31 : decode cX0_count 31 = .ok (.iload_n 1, 1) := by decide +kernel
theorem dX0_count_32 : decode cX0_count 32 = .ok (.iload_n 3, 1) := by decide +kernel
theorem dX0_count_33 : decode cX0_count 33 = .ok (.ishr, 1) := by decide +kernel
theorem dX0_count_34 : decode cX0_count 34 = .ok (.iconst 1, 1) := by decide +kernel
theorem dX0_count_35 : decode cX0_count 35 = .ok (.iand, 1) := by decide +kernel
theorem dX0_count_36 : decode cX0_count 36 = .ok (.ifCond .eq 11, 3) := by decide +kernel
theorem dX0_count_39 : decode cX0_count 39 = .ok (.aload_n 0, 1) := by decide +kernel
theorem dX0_count_40 : decode cX0_count 40 = .ok (.iload_n 3, 1) := by decide +kernel
theorem dX0_count_41 : decode cX0_count 41 = .ok (.invokevirtual 63, 3) := by decide +kernel
theorem dX0_count_44 : decode cX0_count 44 = .ok (.goto 4, 3) := by decide +kernel
theorem dX0_count_47 : decode cX0_count 47 = .ok (.iconst 0, 1) := by decide +kernel
theorem dX0_count_48 : decode cX0_count 48 = .ok (.iastore, 1) := by decide +kernel
theorem dX0_count_49 : decode cX0_count 49 = .ok (.iinc 3 1, 3) := by decide +kernel
theorem dX0_count_52 : decode cX0_count 52 = .ok (.goto (-37), 3) := by decide +kernel
theorem dX0_count_55 : decode cX0_count 55 = .ok (.aload_n 0, 1) := by decide +kernel
theorem dX0_count_56 : decode cX0_count 56 = .ok (.iload_n 1, 1) := by decide +kernel
theorem dX0_count_57 : decode cX0_count 57 = .ok (.invokevirtual 66, 3) := by decide +kernel
theorem dX0_count_60 : decode cX0_count 60 = .ok (.ireturn, 1) := by decide +kernel
theorem dX0_count_61 : decode cX0_count 61 = .ok (.iload_n 1, 1) := by decide +kernel
theorem dX0_count_62 : decode cX0_count 62 = .ok (.istore_n 3, 1) := by decide +kernel
theorem dX0_count_63 : decode cX0_count 63 = .ok (.aload_n 0, 1) := by decide +kernel
theorem dX0_count_64 : decode cX0_count 64 = .ok (.iload_n 3, 1) := by decide +kernel
theorem dX0_count_65 : decode cX0_count 65 = .ok (.iconst (-1), 1) := by decide +kernel
theorem dX0_count_66 : decode cX0_count 66 = .ok (.invokevirtual 69, 3) := by decide +kernel
theorem dX0_count_69 : decode cX0_count 69 = .ok (.iload_n 2, 1) := by decide +kernel
theorem dX0_count_70 : decode cX0_count 70 = .ok (.ifCond .ne 7, 3) := by decide +kernel
theorem dX0_count_73 : decode cX0_count 73 = .ok (.iconst (-1), 1) := by decide +kernel
theorem dX0_count_74 : decode cX0_count 74 = .ok (.goto 8, 3) := by decide +kernel
theorem dX0_count_77 : decode cX0_count 77 = .ok (.aload_n 0, 1) := by decide +kernel
theorem dX0_count_78 : decode cX0_count 78 = .ok (.iload_n 3, 1) := by decide +kernel
theorem dX0_count_79 : decode cX0_count 79 = .ok (.invokevirtual 73, 3) := by decide +kernel
theorem dX0_count_82 : decode cX0_count 82 = .ok (.istore 4, 2) := by decide +kernel
theorem dX0_count_84 : decode cX0_count 84 = .ok (.iconst 0, 1) := by decide +kernel
theorem dX0_count_85 : decode cX0_count 85 = .ok (.istore 5, 2) := by decide +kernel
theorem dX0_count_87 : decode cX0_count 87 = .ok (.iload 5, 2) := by decide +kernel
theorem dX0_count_89 : decode cX0_count 89 = .ok (.bipush 12, 2) := by decide +kernel
theorem dX0_count_91 : decode cX0_count 91 = .ok (.if_icmp .ge 37, 3) := by decide +kernel
theorem dX0_count_94 : decode cX0_count 94 = .ok (.iload 4, 2) := by decide +kernel
theorem dX0_count_96 : decode cX0_count 96 = .ok (.iconst (-1), 1) := by decide +kernel
theorem dX0_count_97 : decode cX0_count 97 = .ok (.if_icmp .eq 31, 3) := by decide +kernel
theorem dX0_count_100 : decode cX0_count 100 = .ok (.iload_n 3, 1) := by decide +kernel
theorem dX0_count_101 : decode cX0_count 101 = .ok (.iconst 1, 1) := by decide +kernel
theorem dX0_count_102 : decode cX0_count 102 = .ok (.iload 4, 2) := by decide +kernel
theorem dX0_count_104 : decode cX0_count 104 = .ok (.ishl, 1) := by decide +kernel
theorem dX0_count_105 : decode cX0_count 105 = .ok (.iconst (-1), 1) := by decide +kernel
theorem dX0_count_106 : decode cX0_count 106 = .ok (.ixor, 1) := by decide +kernel
theorem dX0_count_107 : decode cX0_count 107 = .ok (.iand, 1) := by decide +kernel
theorem dX0_count_108 : decode cX0_count 108 = .ok (.istore_n 3, 1) := by decide +kernel
theorem dX0_count_109 : decode cX0_count 109 = .ok (.aload_n 0, 1) := by decide +kernel
theorem dX0_count_110 : decode cX0_count 110 = .ok (.iload_n 3, 1) := by decide +kernel
theorem dX0_count_111 : decode cX0_count 111 = .ok (.iconst (-1), 1) := by decide +kernel
theorem dX0_count_112 : decode cX0_count 112 = .ok (.invokevirtual 69, 3) := by decide +kernel
theorem dX0_count_115 : decode cX0_count 115 = .ok (.aload_n 0, 1) := by decide +kernel
theorem dX0_count_116 : decode cX0_count 116 = .ok (.iload_n 3, 1) := by decide +kernel
theorem dX0_count_117 : decode cX0_count 117 = .ok (.invokevirtual 73, 3) := by decide +kernel
theorem dX0_count_120 : decode cX0_count 120 = .ok (.istore 4, 2) := by decide +kernel
theorem dX0_count_122 : decode cX0_count 122 = .ok (.iinc 5 1, 3) := by decide +kernel
theorem dX0_count_125 : decode cX0_count 125 = .ok (.goto (-38), 3) := by decide +kernel
theorem dX0_count_128 : decode cX0_count 128 = .ok (.aload_n 0, 1) := by decide +kernel
theorem dX0_count_129 : decode cX0_count 129 = .ok (.iload_n 3, 1) := by decide +kernel
theorem dX0_count_130 : decode cX0_count 130 = .ok (.invokevirtual 66, 3) := by decide +kernel
theorem dX0_count_133 : decode cX0_count 133 = .ok (.ireturn, 1) := by decide +kernel
theorem dX0_hatredOf_0 : decode cX0_hatredOf 0 = .ok (.iconst 0, 1) := by decide +kernel
theorem dX0_hatredOf_1 : decode cX0_hatredOf 1 = .ok (.istore_n 2, 1) := by decide +kernel
theorem dX0_hatredOf_2 : decode cX0_hatredOf 2 = .ok (.iconst 0, 1) := by decide +kernel
theorem dX0_hatredOf_3 : decode cX0_hatredOf 3 = .ok (.istore_n 3, 1) := by decide +kernel
theorem dX0_hatredOf_4 : decode cX0_hatredOf 4 = .ok (.iload_n 3, 1) := by decide +kernel
theorem dX0_hatredOf_5 : decode cX0_hatredOf 5 = .ok (.aload_n 0, 1) := by decide +kernel
theorem dX0_hatredOf_6 : decode cX0_hatredOf 6 = .ok (.getfield 9, 3) := by decide +kernel
theorem dX0_hatredOf_9 : decode cX0_hatredOf 9 = .ok (.getfield 76, 3) := by decide +kernel
theorem dX0_hatredOf_12 : decode cX0_hatredOf 12 = .ok (.if_icmp .ge 26, 3) := by decide +kernel
theorem dX0_hatredOf_15 : decode cX0_hatredOf 15 = .ok (.iload_n 2, 1) := by decide +kernel
theorem dX0_hatredOf_16 : decode cX0_hatredOf 16 = .ok (.aload_n 0, 1) := by decide +kernel
theorem dX0_hatredOf_17 : decode cX0_hatredOf 17 = .ok (.getfield 9, 3) := by decide +kernel
theorem dX0_hatredOf_20 : decode cX0_hatredOf 20 = .ok (.getfield 79, 3) := by decide +kernel
theorem dX0_hatredOf_23 : decode cX0_hatredOf 23 = .ok (.iload_n 3, 1) := by decide +kernel
theorem dX0_hatredOf_24 : decode cX0_hatredOf 24 = .ok (.bipush 12, 2) := by decide +kernel
theorem dX0_hatredOf_26 : decode cX0_hatredOf 26 = .ok (.imul, 1) := by decide +kernel
theorem dX0_hatredOf_27 : decode cX0_hatredOf 27 = .ok (.iload_n 1, 1) := by decide +kernel
theorem dX0_hatredOf_28 : decode cX0_hatredOf 28 = .ok (.iadd, 1) := by decide +kernel
theorem dX0_hatredOf_29 : decode cX0_hatredOf 29 = .ok (.iaload, 1) := by decide +kernel
theorem dX0_hatredOf_30 : decode cX0_hatredOf 30 = .ok (.iadd, 1) := by decide +kernel
theorem dX0_hatredOf_31 : decode cX0_hatredOf 31 = .ok (.istore_n 2, 1) := by decide +kernel
theorem dX0_hatredOf_32 : decode cX0_hatredOf 32 = .ok (.iinc 3 1, 3) := by decide +kernel
theorem dX0_hatredOf_35 : decode cX0_hatredOf 35 = .ok (.goto (-31), 3) := by decide +kernel
theorem dX0_hatredOf_38 : decode cX0_hatredOf 38 = .ok (.iload_n 2, 1) := by decide +kernel
theorem dX0_hatredOf_39 : decode cX0_hatredOf 39 = .ok (.ireturn, 1) := by decide +kernel
theorem dX0_castOne_0 : decode cX0_castOne 0 = .ok (.iconst 0, 1) := by decide +kernel
theorem dX0_castOne_1 : decode cX0_castOne 1 = .ok (.istore_n 3, 1) := by decide +kernel
theorem dX0_castOne_2 : decode cX0_castOne 2 = .ok (.iload_n 3, 1) := by decide +kernel
theorem dX0_castOne_3 : decode cX0_castOne 3 = .ok (.aload_n 0, 1) := by decide +kernel
theorem dX0_castOne_4 : decode cX0_castOne 4 = .ok (.getfield 9, 3) := by decide +kernel
theorem dX0_castOne_7 : decode cX0_castOne 7 = .ok (.getfield 60, 3) := by decide +kernel
theorem dX0_castOne_10 : decode cX0_castOne 10 = .ok (.if_icmp .ge 33, 3) := by decide +kernel
theorem dX0_castOne_13 : decode cX0_castOne 13 = .ok (.aload_n 0, 1) := by decide +kernel
theorem dX0_castOne_14 : decode cX0_castOne 14 = .ok (.getfield 23, 3) := by decide +kernel
theorem dX0_castOne_17 : decode cX0_castOne 17 = .ok (.iload_n 3, 1) := by decide +kernel
theorem dX0_castOne_18 : decode cX0_castOne 18 = .ok (.iload_n 1, 1) := by decide +kernel
theorem dX0_castOne_19 : decode cX0_castOne 19 = .ok (.iload_n 3, 1) := by decide +kernel
theorem dX0_castOne_20 : decode cX0_castOne 20 = .ok (.ishr, 1) := by decide +kernel
theorem dX0_castOne_21 : decode cX0_castOne 21 = .ok (.iconst 1, 1) := by decide +kernel
theorem dX0_castOne_22 : decode cX0_castOne 22 = .ok (.iand, 1) := by decide +kernel
theorem dX0_castOne_23 : decode cX0_castOne 23 = .ok (.ifCond .eq 7, 3) := by decide +kernel
theorem dX0_castOne_26 : decode cX0_castOne 26 = .ok (.iconst 0, 1) := by decide +kernel
theorem dX0_castOne_27 : decode cX0_castOne 27 = .ok (.goto 9, 3) := by decide +kernel
theorem dX0_castOne_30 : decode cX0_castOne 30 = .ok (.aload_n 0, 1) := by decide +kernel
theorem dX0_castOne_31 : decode cX0_castOne 31 = .ok (.getfield 23, 3) := by decide +kernel
theorem dX0_castOne_34 : decode cX0_castOne 34 = .ok (.iload_n 3, 1) := by decide +kernel
theorem dX0_castOne_35 : decode cX0_castOne 35 = .ok (.iaload, 1) := by decide +kernel
theorem dX0_castOne_36 : decode cX0_castOne 36 = .ok (.iastore, 1) := by decide +kernel
theorem dX0_castOne_37 : decode cX0_castOne 37 = .ok (.iinc 3 1, 3) := by decide +kernel
theorem dX0_castOne_40 : decode cX0_castOne 40 = .ok (.goto (-38), 3) := by decide +kernel
theorem dX0_castOne_43 : decode cX0_castOne 43 = .ok (.iconst 0, 1) := by decide +kernel
theorem dX0_castOne_44 : decode cX0_castOne 44 = .ok (.istore_n 3, 1) := by decide +kernel
theorem dX0_castOne_45 : decode cX0_castOne 45 = .ok (.iload_n 3, 1) := by decide +kernel
theorem dX0_castOne_46 : decode cX0_castOne 46 = .ok (.aload_n 0, 1) := by decide +kernel
theorem dX0_castOne_47 : decode cX0_castOne 47 = .ok (.getfield 9, 3) := by decide +kernel
theorem dX0_castOne_50 : decode cX0_castOne 50 = .ok (.getfield 76, 3) := by decide +kernel
theorem dX0_castOne_53 : decode cX0_castOne 53 = .ok (.if_icmp .ge 99, 3) := by decide +kernel
theorem dX0_castOne_56 : decode cX0_castOne 56 = .ok (.iconst (-1), 1) := by decide +kernel
theorem dX0_castOne_57 : decode cX0_castOne 57 = .ok (.istore 4, 2) := by decide +kernel
theorem dX0_castOne_59 : decode cX0_castOne 59 = .ok (.iconst 0, 1) := by decide +kernel
theorem dX0_castOne_60 : decode cX0_castOne 60 = .ok (.istore 5, 2) := by decide +kernel
theorem dX0_castOne_62 : decode cX0_castOne 62 = .ok (.iconst 0, 1) := by decide +kernel
theorem dX0_castOne_63 : decode cX0_castOne 63 = .ok (.istore 6, 2) := by decide +kernel
theorem dX0_castOne_65 : decode cX0_castOne 65 = .ok (.iload 6, 2) := by decide +kernel
theorem dX0_castOne_67 : decode cX0_castOne 67 = .ok (.aload_n 0, 1) := by decide +kernel
theorem dX0_castOne_68 : decode cX0_castOne 68 = .ok (.getfield 9, 3) := by decide +kernel
theorem dX0_castOne_71 : decode cX0_castOne 71 = .ok (.getfield 60, 3) := by decide +kernel
theorem dX0_castOne_74 : decode cX0_castOne 74 = .ok (.if_icmp .ge 55, 3) := by decide +kernel
theorem dX0_castOne_77 : decode cX0_castOne 77 = .ok (.iload_n 3, 1) := by decide +kernel
theorem dX0_castOne_78 : decode cX0_castOne 78 = .ok (.iload_n 2, 1) := by decide +kernel
theorem dX0_castOne_79 : decode cX0_castOne 79 = .ok (.if_icmp .eq 50, 3) := by decide +kernel
theorem dX0_castOne_82 : decode cX0_castOne 82 = .ok (.aload_n 0, 1) := by decide +kernel
theorem dX0_castOne_83 : decode cX0_castOne 83 = .ok (.getfield 9, 3) := by decide +kernel
theorem dX0_castOne_86 : decode cX0_castOne 86 = .ok (.getfield 79, 3) := by decide +kernel
theorem dX0_castOne_89 : decode cX0_castOne 89 = .ok (.iload_n 3, 1) := by decide +kernel
theorem dX0_castOne_90 : decode cX0_castOne 90 = .ok (.bipush 12, 2) := by decide +kernel
theorem dX0_castOne_92 : decode cX0_castOne 92 = .ok (.imul, 1) := by decide +kernel
theorem dX0_castOne_93 : decode cX0_castOne 93 = .ok (.iload 6, 2) := by decide +kernel
theorem dX0_castOne_95 : decode cX0_castOne 95 = .ok (.iadd, 1) := by decide +kernel
theorem dX0_castOne_96 : decode cX0_castOne 96 = .ok (.iaload, 1) := by decide +kernel
theorem dX0_castOne_97 : decode cX0_castOne 97 = .ok (.istore 7, 2) := by decide +kernel
theorem dX0_castOne_99 : decode cX0_castOne 99 = .ok (.iload 7, 2) := by decide +kernel
theorem dX0_castOne_101 : decode cX0_castOne 101 = .ok (.iload 5, 2) := by decide +kernel
theorem dX0_castOne_103 : decode cX0_castOne 103 = .ok (.if_icmp .le 20, 3) := by decide +kernel
theorem dX0_castOne_106 : decode cX0_castOne 106 = .ok (.iload_n 1, 1) := by decide +kernel
theorem dX0_castOne_107 : decode cX0_castOne 107 = .ok (.iload 6, 2) := by decide +kernel
theorem dX0_castOne_109 : decode cX0_castOne 109 = .ok (.ishr, 1) := by decide +kernel
theorem dX0_castOne_110 : decode cX0_castOne 110 = .ok (.iconst 1, 1) := by decide +kernel
theorem dX0_castOne_111 : decode cX0_castOne 111 = .ok (.iand, 1) := by decide +kernel
theorem dX0_castOne_112 : decode cX0_castOne 112 = .ok (.ifCond .eq 11, 3) := by decide +kernel
theorem dX0_castOne_115 : decode cX0_castOne 115 = .ok (.iload 7, 2) := by decide +kernel
theorem dX0_castOne_117 : decode cX0_castOne 117 = .ok (.istore 5, 2) := by decide +kernel
theorem dX0_castOne_119 : decode cX0_castOne 119 = .ok (.iload 6, 2) := by decide +kernel
theorem dX0_castOne_121 : decode cX0_castOne 121 = .ok (.istore 4, 2) := by decide +kernel
theorem dX0_castOne_123 : decode cX0_castOne 123 = .ok (.iinc 6 1, 3) := by decide +kernel
theorem dX0_castOne_126 : decode cX0_castOne 126 = .ok (.goto (-61), 3) := by decide +kernel
theorem dX0_castOne_129 : decode cX0_castOne 129 = .ok (.iload 4, 2) := by decide +kernel
theorem dX0_castOne_131 : decode cX0_castOne 131 = .ok (.iconst (-1), 1) := by decide +kernel
theorem dX0_castOne_132 : decode cX0_castOne 132 = .ok (.if_icmp .eq 14, 3) := by decide +kernel
theorem dX0_castOne_135 : decode cX0_castOne 135 = .ok (.aload_n 0, 1) := by decide +kernel
theorem dX0_castOne_136 : decode cX0_castOne 136 = .ok (.getfield 23, 3) := by decide +kernel
theorem dX0_castOne_139 : decode cX0_castOne 139 = .ok (.iload 4, 2) := by decide +kernel
theorem dX0_castOne_141 : decode cX0_castOne 141 = .ok (.dup2, 1) := by decide +kernel
theorem dX0_castOne_142 : decode cX0_castOne 142 = .ok (.iaload, 1) := by decide +kernel
theorem dX0_castOne_143 : decode cX0_castOne 143 = .ok (.iconst 1, 1) := by decide +kernel
theorem dX0_castOne_144 : decode cX0_castOne 144 = .ok (.iadd, 1) := by decide +kernel
theorem dX0_castOne_145 : decode cX0_castOne 145 = .ok (.iastore, 1) := by decide +kernel
theorem dX0_castOne_146 : decode cX0_castOne 146 = .ok (.iinc 3 1, 3) := by decide +kernel
theorem dX0_castOne_149 : decode cX0_castOne 149 = .ok (.goto (-104), 3) := by decide +kernel
theorem dX0_castOne_152 : decode cX0_castOne 152 = .ok (.return_, 1) := by decide +kernel
theorem dX0_most_0 : decode cX0_most 0 = .ok (.iconst (-1), 1) := by decide +kernel
theorem dX0_most_1 : decode cX0_most 1 = .ok (.istore_n 2, 1) := by decide +kernel
theorem dX0_most_2 : decode cX0_most 2 = .ok (.iconst 0, 1) := by decide +kernel
theorem dX0_most_3 : decode cX0_most 3 = .ok (.istore_n 3, 1) := by decide +kernel
theorem dX0_most_4 : decode cX0_most 4 = .ok (.iconst 0, 1) := by decide +kernel
theorem dX0_most_5 : decode cX0_most 5 = .ok (.istore 4, 2) := by decide +kernel
theorem dX0_most_7 : decode cX0_most 7 = .ok (.iload 4, 2) := by decide +kernel
theorem dX0_most_9 : decode cX0_most 9 = .ok (.aload_n 0, 1) := by decide +kernel
theorem dX0_most_10 : decode cX0_most 10 = .ok (.getfield 9, 3) := by decide +kernel
theorem dX0_most_13 : decode cX0_most 13 = .ok (.getfield 60, 3) := by decide +kernel
theorem dX0_most_16 : decode cX0_most 16 = .ok (.if_icmp .ge 40, 3) := by decide +kernel
theorem dX0_most_19 : decode cX0_most 19 = .ok (.aload_n 0, 1) := by decide +kernel
theorem dX0_most_20 : decode cX0_most 20 = .ok (.getfield 23, 3) := by decide +kernel
theorem dX0_most_23 : decode cX0_most 23 = .ok (.iload 4, 2) := by decide +kernel
theorem dX0_most_25 : decode cX0_most 25 = .ok (.iaload, 1) := by decide +kernel
theorem dX0_most_26 : decode cX0_most 26 = .ok (.iload_n 3, 1) := by decide +kernel
theorem dX0_most_27 : decode cX0_most 27 = .ok (.if_icmp .le 23, 3) := by decide +kernel
theorem dX0_most_30 : decode cX0_most 30 = .ok (.iload_n 1, 1) := by decide +kernel
theorem dX0_most_31 : decode cX0_most 31 = .ok (.iload 4, 2) := by decide +kernel
theorem dX0_most_33 : decode cX0_most 33 = .ok (.ishr, 1) := by decide +kernel
theorem dX0_most_34 : decode cX0_most 34 = .ok (.iconst 1, 1) := by decide +kernel
theorem dX0_most_35 : decode cX0_most 35 = .ok (.iand, 1) := by decide +kernel
theorem dX0_most_36 : decode cX0_most 36 = .ok (.ifCond .eq 14, 3) := by decide +kernel
theorem dX0_most_39 : decode cX0_most 39 = .ok (.aload_n 0, 1) := by decide +kernel
theorem dX0_most_40 : decode cX0_most 40 = .ok (.getfield 23, 3) := by decide +kernel
theorem dX0_most_43 : decode cX0_most 43 = .ok (.iload 4, 2) := by decide +kernel
theorem dX0_most_45 : decode cX0_most 45 = .ok (.iaload, 1) := by decide +kernel
theorem dX0_most_46 : decode cX0_most 46 = .ok (.istore_n 3, 1) := by decide +kernel
theorem dX0_most_47 : decode cX0_most 47 = .ok (.iload 4, 2) := by decide +kernel
theorem dX0_most_49 : decode cX0_most 49 = .ok (.istore_n 2, 1) := by decide +kernel
theorem dX0_most_50 : decode cX0_most 50 = .ok (.iinc 4 1, 3) := by decide +kernel
theorem dX0_most_53 : decode cX0_most 53 = .ok (.goto (-46), 3) := by decide +kernel
theorem dX0_most_56 : decode cX0_most 56 = .ok (.iload_n 2, 1) := by decide +kernel
theorem dX0_most_57 : decode cX0_most 57 = .ok (.ireturn, 1) := by decide +kernel
theorem dX0_lastOfFewest_0 : decode cX0_lastOfFewest 0 = .ok (.iconst (-1), 1) := by decide +kernel
theorem dX0_lastOfFewest_1 : decode cX0_lastOfFewest 1 = .ok (.istore_n 2, 1) := by decide +kernel
theorem dX0_lastOfFewest_2 : decode cX0_lastOfFewest 2 = .ok (.iconst 0, 1) := by decide +kernel
theorem dX0_lastOfFewest_3 : decode cX0_lastOfFewest 3 = .ok (.istore_n 3, 1) := by decide +kernel
theorem dX0_lastOfFewest_4 : decode cX0_lastOfFewest 4 = .ok (.iconst 0, 1) := by decide +kernel
theorem dX0_lastOfFewest_5 : decode cX0_lastOfFewest 5 = .ok (.istore 4, 2) := by decide +kernel
theorem dX0_lastOfFewest_7 : decode cX0_lastOfFewest 7 = .ok (.iload 4, 2) := by decide +kernel
theorem dX0_lastOfFewest_9 : decode cX0_lastOfFewest 9 = .ok (.aload_n 0, 1) := by decide +kernel
theorem dX0_lastOfFewest_10 : decode cX0_lastOfFewest 10 = .ok (.getfield 9, 3) := by decide +kernel
theorem dX0_lastOfFewest_13 : decode cX0_lastOfFewest 13 = .ok (.getfield 60, 3) := by decide +kernel
theorem dX0_lastOfFewest_16 : decode cX0_lastOfFewest 16 = .ok (.if_icmp .ge 55, 3) := by decide +kernel
theorem dX0_lastOfFewest_19 : decode cX0_lastOfFewest 19 = .ok (.aload_n 0, 1) := by decide +kernel
theorem dX0_lastOfFewest_20 : decode cX0_lastOfFewest 20 = .ok (.getfield 23, 3) := by decide +kernel
theorem dX0_lastOfFewest_23 : decode cX0_lastOfFewest 23 = .ok (.iload 4, 2) := by decide +kernel
theorem dX0_lastOfFewest_25 : decode cX0_lastOfFewest 25 = .ok (.iaload, 1) := by decide +kernel
theorem dX0_lastOfFewest_26 : decode cX0_lastOfFewest 26 = .ok (.ifCond .le 39, 3) := by decide +kernel
theorem dX0_lastOfFewest_29 : decode cX0_lastOfFewest 29 = .ok (.iload_n 1, 1) := by decide +kernel
theorem dX0_lastOfFewest_30 : decode cX0_lastOfFewest 30 = .ok (.iload 4, 2) := by decide +kernel
theorem dX0_lastOfFewest_32 : decode cX0_lastOfFewest 32 = .ok (.ishr, 1) := by decide +kernel
theorem dX0_lastOfFewest_33 : decode cX0_lastOfFewest 33 = .ok (.iconst 1, 1) := by decide +kernel
theorem dX0_lastOfFewest_34 : decode cX0_lastOfFewest 34 = .ok (.iand, 1) := by decide +kernel
theorem dX0_lastOfFewest_35 : decode cX0_lastOfFewest 35 = .ok (.ifCond .eq 30, 3) := by decide +kernel
theorem dX0_lastOfFewest_38 : decode cX0_lastOfFewest 38 = .ok (.iinc 3 1, 3) := by decide +kernel
theorem dX0_lastOfFewest_41 : decode cX0_lastOfFewest 41 = .ok (.iload_n 2, 1) := by decide +kernel
theorem dX0_lastOfFewest_42 : decode cX0_lastOfFewest 42 = .ok (.iconst (-1), 1) := by decide +kernel
theorem dX0_lastOfFewest_43 : decode cX0_lastOfFewest 43 = .ok (.if_icmp .eq 19, 3) := by decide +kernel
theorem dX0_lastOfFewest_46 : decode cX0_lastOfFewest 46 = .ok (.aload_n 0, 1) := by decide +kernel
theorem dX0_lastOfFewest_47 : decode cX0_lastOfFewest 47 = .ok (.getfield 23, 3) := by decide +kernel
theorem dX0_lastOfFewest_50 : decode cX0_lastOfFewest 50 = .ok (.iload 4, 2) := by decide +kernel
theorem dX0_lastOfFewest_52 : decode cX0_lastOfFewest 52 = .ok (.iaload, 1) := by decide +kernel
theorem dX0_lastOfFewest_53 : decode cX0_lastOfFewest 53 = .ok (.aload_n 0, 1) := by decide +kernel
theorem dX0_lastOfFewest_54 : decode cX0_lastOfFewest 54 = .ok (.getfield 23, 3) := by decide +kernel
theorem dX0_lastOfFewest_57 : decode cX0_lastOfFewest 57 = .ok (.iload_n 2, 1) := by decide +kernel
theorem dX0_lastOfFewest_58 : decode cX0_lastOfFewest 58 = .ok (.iaload, 1) := by decide +kernel
theorem dX0_lastOfFewest_59 : decode cX0_lastOfFewest 59 = .ok (.if_icmp .gt 6, 3) := by decide +kernel
theorem dX0_lastOfFewest_62 : decode cX0_lastOfFewest 62 = .ok (.iload 4, 2) := by decide +kernel
theorem dX0_lastOfFewest_64 : decode cX0_lastOfFewest 64 = .ok (.istore_n 2, 1) := by decide +kernel
theorem dX0_lastOfFewest_65 : decode cX0_lastOfFewest 65 = .ok (.iinc 4 1, 3) := by decide +kernel
theorem dX0_lastOfFewest_68 : decode cX0_lastOfFewest 68 = .ok (.goto (-61), 3) := by decide +kernel
theorem dX0_lastOfFewest_71 : decode cX0_lastOfFewest 71 = .ok (.iload_n 3, 1) := by decide +kernel
theorem dX0_lastOfFewest_72 : decode cX0_lastOfFewest 72 = .ok (.iconst 1, 1) := by decide +kernel
theorem dX0_lastOfFewest_73 : decode cX0_lastOfFewest 73 = .ok (.if_icmp .le 7, 3) := by decide +kernel
theorem dX0_lastOfFewest_76 : decode cX0_lastOfFewest 76 = .ok (.iload_n 2, 1) := by decide +kernel
theorem dX0_lastOfFewest_77 : decode cX0_lastOfFewest 77 = .ok (.goto 4, 3) := by decide +kernel
theorem dX0_lastOfFewest_80 : decode cX0_lastOfFewest 80 = .ok (.iconst (-1), 1) := by decide +kernel
theorem dX0_lastOfFewest_81 : decode cX0_lastOfFewest 81 = .ok (.ireturn, 1) := by decide +kernel
theorem dX0_swayedBy_0 : decode cX0_swayedBy 0 = .ok (.aload_n 0, 1) := by decide +kernel
theorem dX0_swayedBy_1 : decode cX0_swayedBy 1 = .ok (.invokevirtual 82, 3) := by decide +kernel
theorem dX0_swayedBy_4 : decode cX0_swayedBy 4 = .ok (.istore_n 2, 1) := by decide +kernel
theorem dX0_swayedBy_5 : decode cX0_swayedBy 5 = .ok (.aload_n 0, 1) := by decide +kernel
theorem dX0_swayedBy_6 : decode cX0_swayedBy 6 = .ok (.getfield 9, 3) := by decide +kernel
theorem dX0_swayedBy_9 : decode cX0_swayedBy 9 = .ok (.getfield 47, 3) := by decide +kernel
theorem dX0_swayedBy_12 : decode cX0_swayedBy 12 = .ok (.ifCond .ne 7, 3) := by decide +kernel
theorem dX0_swayedBy_15 : decode cX0_swayedBy 15 = .ok (.iconst 1, 1) := by decide +kernel
theorem dX0_swayedBy_16 : decode cX0_swayedBy 16 = .ok (.goto 5, 3) := by decide +kernel
theorem dX0_swayedBy_19 : decode cX0_swayedBy 19 = .ok (.bipush 9, 2) := by decide +kernel
theorem dX0_swayedBy_21 : decode cX0_swayedBy 21 = .ok (.istore_n 3, 1) := by decide +kernel
theorem dX0_swayedBy_22 : decode cX0_swayedBy 22 = .ok (.aload_n 0, 1) := by decide +kernel
theorem dX0_swayedBy_23 : decode cX0_swayedBy 23 = .ok (.getfield 23, 3) := by decide +kernel
theorem dX0_swayedBy_26 : decode cX0_swayedBy 26 = .ok (.iconst 0, 1) := by decide +kernel
theorem dX0_swayedBy_27 : decode cX0_swayedBy 27 = .ok (.invokestatic 54, 3) := by decide +kernel
theorem dX0_swayedBy_30 : decode cX0_swayedBy 30 = .ok (.aload_n 0, 1) := by decide +kernel
theorem dX0_swayedBy_31 : decode cX0_swayedBy 31 = .ok (.getfield 9, 3) := by decide +kernel
theorem dX0_swayedBy_34 : decode cX0_swayedBy 34 = .ok (.getfield 47, 3) := by decide +kernel
theorem dX0_swayedBy_37 : decode cX0_swayedBy 37 = .ok (.ifCond .ne 12, 3) := by decide +kernel
theorem dX0_swayedBy_40 : decode cX0_swayedBy 40 = .ok (.aload_n 0, 1) := by decide +kernel
theorem dX0_swayedBy_41 : decode cX0_swayedBy 41 = .ok (.iload_n 2, 1) := by decide +kernel
theorem dX0_swayedBy_42 : decode cX0_swayedBy 42 = .ok (.iload_n 1, 1) := by decide +kernel
theorem dX0_swayedBy_43 : decode cX0_swayedBy 43 = .ok (.invokevirtual 69, 3) := by decide +kernel
theorem dX0_swayedBy_46 : decode cX0_swayedBy 46 = .ok (.goto 53, 3) := by decide +kernel
theorem dX0_swayedBy_49 : decode cX0_swayedBy 49 = .ok (.iconst 0, 1) := by decide +kernel
theorem dX0_swayedBy_50 : decode cX0_swayedBy 50 = .ok (.istore 4, 2) := by decide +kernel
theorem dX0_swayedBy_52 : decode cX0_swayedBy 52 = .ok (.iload 4, 2) := by decide +kernel
theorem dX0_swayedBy_54 : decode cX0_swayedBy 54 = .ok (.aload_n 0, 1) := by decide +kernel
theorem dX0_swayedBy_55 : decode cX0_swayedBy 55 = .ok (.getfield 9, 3) := by decide +kernel
theorem dX0_swayedBy_58 : decode cX0_swayedBy 58 = .ok (.getfield 60, 3) := by decide +kernel
theorem dX0_swayedBy_61 : decode cX0_swayedBy 61 = .ok (.if_icmp .ge 38, 3) := by decide +kernel
theorem dX0_swayedBy_64 : decode cX0_swayedBy 64 = .ok (.aload_n 0, 1) := by decide +kernel
theorem dX0_swayedBy_65 : decode cX0_swayedBy 65 = .ok (.getfield 23, 3) := by decide +kernel
theorem dX0_swayedBy_68 : decode cX0_swayedBy 68 = .ok (.iload 4, 2) := by decide +kernel
theorem dX0_swayedBy_70 : decode cX0_swayedBy 70 = .ok (.aload_n 0, 1) := by decide +kernel
theorem dX0_swayedBy_71 : decode cX0_swayedBy 71 = .ok (.iload 4, 2) := by decide +kernel
theorem dX0_swayedBy_73 : decode cX0_swayedBy 73 = .ok (.invokevirtual 63, 3) := by decide +kernel
theorem dX0_swayedBy_76 : decode cX0_swayedBy 76 = .ok (.aload_n 0, 1) := by decide +kernel
theorem dX0_swayedBy_77 : decode cX0_swayedBy 77 = .ok (.getfield 9, 3) := by decide +kernel
theorem dX0_swayedBy_80 : decode cX0_swayedBy 80 = .ok (.getfield 79, 3) := by decide +kernel
theorem dX0_swayedBy_83 : decode cX0_swayedBy 83 = .ok (.iload_n 1, 1) := by decide +kernel
theorem dX0_swayedBy_84 : decode cX0_swayedBy 84 = .ok (.bipush 12, 2) := by decide +kernel
theorem dX0_swayedBy_86 : decode cX0_swayedBy 86 = .ok (.imul, 1) := by decide +kernel
theorem dX0_swayedBy_87 : decode cX0_swayedBy 87 = .ok (.iload 4, 2) := by decide +kernel
theorem dX0_swayedBy_89 : decode cX0_swayedBy 89 = .ok (.iadd, 1) := by decide +kernel
theorem dX0_swayedBy_90 : decode cX0_swayedBy 90 = .ok (.iaload, 1) := by decide +kernel
theorem dX0_swayedBy_91 : decode cX0_swayedBy 91 = .ok (.isub, 1) := by decide +kernel
theorem dX0_swayedBy_92 : decode cX0_swayedBy 92 = .ok (.iastore, 1) := by decide +kernel
theorem dX0_swayedBy_93 : decode cX0_swayedBy 93 = .ok (.iinc 4 1, 3) := by decide +kernel
theorem dX0_swayedBy_96 : decode cX0_swayedBy 96 = .ok (.goto (-44), 3) := by decide +kernel
theorem dX0_swayedBy_99 : decode cX0_swayedBy 99 = .ok (.iconst 0, 1) := by decide +kernel
theorem dX0_swayedBy_100 : decode cX0_swayedBy 100 = .ok (.istore 4, 2) := by decide +kernel
theorem dX0_swayedBy_102 : decode cX0_swayedBy 102 = .ok (.iconst 0, 1) := by decide +kernel
theorem dX0_swayedBy_103 : decode cX0_swayedBy 103 = .ok (.istore 5, 2) := by decide +kernel
theorem dX0_swayedBy_105 : decode cX0_swayedBy 105 = .ok (.iload 5, 2) := by decide +kernel
theorem dX0_swayedBy_107 : decode cX0_swayedBy 107 = .ok (.aload_n 0, 1) := by decide +kernel
theorem dX0_swayedBy_108 : decode cX0_swayedBy 108 = .ok (.getfield 9, 3) := by decide +kernel
theorem dX0_swayedBy_111 : decode cX0_swayedBy 111 = .ok (.getfield 60, 3) := by decide +kernel
theorem dX0_swayedBy_114 : decode cX0_swayedBy 114 = .ok (.if_icmp .ge 66, 3) := by decide +kernel
theorem dX0_swayedBy_117 : decode cX0_swayedBy 117 = .ok (.iload_n 2, 1) := by decide +kernel
theorem dX0_swayedBy_118 : decode cX0_swayedBy 118 = .ok (.iload 5, 2) := by decide +kernel
theorem dX0_swayedBy_120 : decode cX0_swayedBy 120 = .ok (.ishr, 1) := by decide +kernel
theorem dX0_swayedBy_121 : decode cX0_swayedBy 121 = .ok (.iconst 1, 1) := by decide +kernel
theorem dX0_swayedBy_122 : decode cX0_swayedBy 122 = .ok (.iand, 1) := by decide +kernel
theorem dX0_swayedBy_123 : decode cX0_swayedBy 123 = .ok (.ifCond .eq 51, 3) := by decide +kernel
theorem dX0_swayedBy_126 : decode cX0_swayedBy 126 = .ok (.aload_n 0, 1) := by decide +kernel
theorem dX0_swayedBy_127 : decode cX0_swayedBy 127 = .ok (.getfield 23, 3) := by decide +kernel
theorem dX0_swayedBy_130 : decode cX0_swayedBy 130 = .ok (.iload 5, 2) := by decide +kernel
theorem dX0_swayedBy_132 : decode cX0_swayedBy 132 = .ok (.dup2, 1) := by decide +kernel
theorem dX0_swayedBy_133 : decode cX0_swayedBy 133 = .ok (.iaload, 1) := by decide +kernel
theorem dX0_swayedBy_134 : decode cX0_swayedBy 134 = .ok (.iload_n 3, 1) := by decide +kernel
theorem dX0_swayedBy_135 : decode cX0_swayedBy 135 = .ok (.iadd, 1) := by decide +kernel
theorem dX0_swayedBy_136 : decode cX0_swayedBy 136 = .ok (.iastore, 1) := by decide +kernel
theorem dX0_swayedBy_137 : decode cX0_swayedBy 137 = .ok (.aload_n 0, 1) := by decide +kernel
theorem dX0_swayedBy_138 : decode cX0_swayedBy 138 = .ok (.iload_n 2, 1) := by decide +kernel
theorem dX0_swayedBy_139 : decode cX0_swayedBy 139 = .ok (.invokevirtual 66, 3) := by decide +kernel
theorem dX0_swayedBy_142 : decode cX0_swayedBy 142 = .ok (.istore 6, 2) := by decide +kernel
theorem dX0_swayedBy_144 : decode cX0_swayedBy 144 = .ok (.iload 4, 2) := by decide +kernel
theorem dX0_swayedBy_146 : decode cX0_swayedBy 146 = .ok (.iload 6, 2) := by decide +kernel
theorem dX0_swayedBy_148 : decode cX0_swayedBy 148 = .ok (.iconst (-1), 1) := by decide +kernel
theorem dX0_swayedBy_149 : decode cX0_swayedBy 149 = .ok (.if_icmp .ne 7, 3) := by decide +kernel
theorem dX0_swayedBy_152 : decode cX0_swayedBy 152 = .ok (.iconst 0, 1) := by decide +kernel
theorem dX0_swayedBy_153 : decode cX0_swayedBy 153 = .ok (.goto 7, 3) := by decide +kernel
theorem dX0_swayedBy_156 : decode cX0_swayedBy 156 = .ok (.iconst 1, 1) := by decide +kernel
theorem dX0_swayedBy_157 : decode cX0_swayedBy 157 = .ok (.iload 6, 2) := by decide +kernel
theorem dX0_swayedBy_159 : decode cX0_swayedBy 159 = .ok (.ishl, 1) := by decide +kernel
theorem dX0_swayedBy_160 : decode cX0_swayedBy 160 = .ok (.ior, 1) := by decide +kernel
theorem dX0_swayedBy_161 : decode cX0_swayedBy 161 = .ok (.istore 4, 2) := by decide +kernel
theorem dX0_swayedBy_163 : decode cX0_swayedBy 163 = .ok (.aload_n 0, 1) := by decide +kernel
theorem dX0_swayedBy_164 : decode cX0_swayedBy 164 = .ok (.getfield 23, 3) := by decide +kernel
theorem dX0_swayedBy_167 : decode cX0_swayedBy 167 = .ok (.iload 5, 2) := by decide +kernel
theorem dX0_swayedBy_169 : decode cX0_swayedBy 169 = .ok (.dup2, 1) := by decide +kernel
theorem dX0_swayedBy_170 : decode cX0_swayedBy 170 = .ok (.iaload, 1) := by decide +kernel
theorem dX0_swayedBy_171 : decode cX0_swayedBy 171 = .ok (.iload_n 3, 1) := by decide +kernel
theorem dX0_swayedBy_172 : decode cX0_swayedBy 172 = .ok (.isub, 1) := by decide +kernel
theorem dX0_swayedBy_173 : decode cX0_swayedBy 173 = .ok (.iastore, 1) := by decide +kernel
theorem dX0_swayedBy_174 : decode cX0_swayedBy 174 = .ok (.iinc 5 1, 3) := by decide +kernel
theorem dX0_swayedBy_177 : decode cX0_swayedBy 177 = .ok (.goto (-72), 3) := by decide +kernel
theorem dX0_swayedBy_180 : decode cX0_swayedBy 180 = .ok (.iload 4, 2) := by decide +kernel
theorem dX0_swayedBy_182 : decode cX0_swayedBy 182 = .ok (.ireturn, 1) := by decide +kernel
theorem dX1_init_0 : decode cX1_init 0 = .ok (.aload_n 0, 1) := by decide +kernel
theorem dX1_init_1 : decode cX1_init 1 = .ok (.invokespecial 5, 3) := by decide +kernel
theorem dX1_init_4 : decode cX1_init 4 = .ok (.aload_n 0, 1) := by decide +kernel
theorem dX1_init_5 : decode cX1_init 5 = .ok (.bipush 24, 2) := by decide +kernel
theorem dX1_init_7 : decode cX1_init 7 = .ok (.newarray .long, 2) := by decide +kernel
theorem dX1_init_9 : decode cX1_init 9 = .ok (.putfield 11, 3) := by decide +kernel
theorem dX1_init_12 : decode cX1_init 12 = .ok (.aload_n 0, 1) := by decide +kernel
theorem dX1_init_13 : decode cX1_init 13 = .ok (.bipush 12, 2) := by decide +kernel
theorem dX1_init_15 : decode cX1_init 15 = .ok (.newarray .int, 2) := by decide +kernel
theorem dX1_init_17 : decode cX1_init 17 = .ok (.putfield 15, 3) := by decide +kernel
theorem dX1_init_20 : decode cX1_init 20 = .ok (.aload_n 0, 1) := by decide +kernel
theorem dX1_init_21 : decode cX1_init 21 = .ok (.bipush 16, 2) := by decide +kernel
theorem dX1_init_23 : decode cX1_init 23 = .ok (.newarray .int, 2) := by decide +kernel
theorem dX1_init_25 : decode cX1_init 25 = .ok (.putfield 19, 3) := by decide +kernel
theorem dX1_init_28 : decode cX1_init 28 = .ok (.aload_n 0, 1) := by decide +kernel
theorem dX1_init_29 : decode cX1_init 29 = .ok (.bipush 16, 2) := by decide +kernel
theorem dX1_init_31 : decode cX1_init 31 = .ok (.newarray .int, 2) := by decide +kernel
theorem dX1_init_33 : decode cX1_init 33 = .ok (.putfield 22, 3) := by decide +kernel
theorem dX1_init_36 : decode cX1_init 36 = .ok (.aload_n 0, 1) := by decide +kernel
theorem dX1_init_37 : decode cX1_init 37 = .ok (.bipush 6, 2) := by decide +kernel
theorem dX1_init_39 : decode cX1_init 39 = .ok (.newarray .int, 2) := by decide +kernel
theorem dX1_init_41 : decode cX1_init 41 = .ok (.putfield 25, 3) := by decide +kernel
theorem dX1_init_44 : decode cX1_init 44 = .ok (.aload_n 0, 1) := by decide +kernel
theorem dX1_init_45 : decode cX1_init 45 = .ok (.bipush 72, 2) := by decide +kernel
theorem dX1_init_47 : decode cX1_init 47 = .ok (.newarray .int, 2) := by decide +kernel
theorem dX1_init_49 : decode cX1_init 49 = .ok (.putfield 28, 3) := by decide +kernel
theorem dX1_init_52 : decode cX1_init 52 = .ok (.aload_n 0, 1) := by decide +kernel
theorem dX1_init_53 : decode cX1_init 53 = .ok (.bipush 12, 2) := by decide +kernel
theorem dX1_init_55 : decode cX1_init 55 = .ok (.newarray .int, 2) := by decide +kernel
theorem dX1_init_57 : decode cX1_init 57 = .ok (.putfield 31, 3) := by decide +kernel
theorem dX1_init_60 : decode cX1_init 60 = .ok (.aload_n 0, 1) := by decide +kernel
theorem dX1_init_61 : decode cX1_init 61 = .ok (.new 34, 3) := by decide +kernel
theorem dX1_init_64 : decode cX1_init 64 = .ok (.dup, 1) := by decide +kernel
theorem dX1_init_65 : decode cX1_init 65 = .ok (.invokespecial 36, 3) := by decide +kernel
theorem dX1_init_68 : decode cX1_init 68 = .ok (.putfield 37, 3) := by decide +kernel
theorem dX1_init_71 : decode cX1_init 71 = .ok (.aload_n 0, 1) := by decide +kernel
theorem dX1_init_72 : decode cX1_init 72 = .ok (.iconst 0, 1) := by decide +kernel
theorem dX1_init_73 : decode cX1_init 73 = .ok (.putfield 41, 3) := by decide +kernel
theorem dX1_init_76 : decode cX1_init 76 = .ok (.aload_n 0, 1) := by decide +kernel
theorem dX1_init_77 : decode cX1_init 77 = .ok (.iconst 0, 1) := by decide +kernel
theorem dX1_init_78 : decode cX1_init 78 = .ok (.putfield 45, 3) := by decide +kernel
theorem dX1_init_81 : decode cX1_init 81 = .ok (.aload_n 0, 1) := by decide +kernel
theorem dX1_init_82 : decode cX1_init 82 = .ok (.iconst 0, 1) := by decide +kernel
theorem dX1_init_83 : decode cX1_init 83 = .ok (.putfield 48, 3) := by decide +kernel
theorem dX1_init_86 : decode cX1_init 86 = .ok (.aload_n 0, 1) := by decide +kernel
theorem dX1_init_87 : decode cX1_init 87 = .ok (.iconst 0, 1) := by decide +kernel
theorem dX1_init_88 : decode cX1_init 88 = .ok (.putfield 51, 3) := by decide +kernel
theorem dX1_init_91 : decode cX1_init 91 = .ok (.aload_n 0, 1) := by decide +kernel
theorem dX1_init_92 : decode cX1_init 92 = .ok (.iconst 0, 1) := by decide +kernel
theorem dX1_init_93 : decode cX1_init 93 = .ok (.putfield 54, 3) := by decide +kernel
theorem dX1_init_96 : decode cX1_init 96 = .ok (.aload_n 0, 1) := by decide +kernel
theorem dX1_init_97 : decode cX1_init 97 = .ok (.iconst 0, 1) := by decide +kernel
theorem dX1_init_98 : decode cX1_init 98 = .ok (.putfield 57, 3) := by decide +kernel
theorem dX1_init_101 : decode cX1_init 101 = .ok (.aload_n 0, 1) := by decide +kernel
theorem dX1_init_102 : decode cX1_init 102 = .ok (.iconst 0, 1) := by decide +kernel
theorem dX1_init_103 : decode cX1_init 103 = .ok (.putfield 60, 3) := by decide +kernel
theorem dX1_init_106 : decode cX1_init 106 = .ok (.aload_n 0, 1) := by decide +kernel
theorem dX1_init_107 : decode cX1_init 107 = .ok (.iconst 0, 1) := by decide +kernel
theorem dX1_init_108 : decode cX1_init 108 = .ok (.putfield 63, 3) := by decide +kernel
theorem dX1_init_111 : decode cX1_init 111 = .ok (.return_, 1) := by decide +kernel
theorem dX1_clear_0 : decode cX1_clear 0 = .ok (.aload_n 0, 1) := by decide +kernel
theorem dX1_clear_1 : decode cX1_clear 1 = .ok (.getfield 11, 3) := by decide +kernel
theorem dX1_clear_4 : decode cX1_clear 4 = .ok (.lconst 0, 1) := by decide +kernel
theorem dX1_clear_5 : decode cX1_clear 5 = .ok (.invokestatic 66, 3) := by decide +kernel
theorem dX1_clear_8 : decode cX1_clear 8 = .ok (.aload_n 0, 1) := by decide +kernel
theorem dX1_clear_9 : decode cX1_clear 9 = .ok (.getfield 15, 3) := by decide +kernel
theorem dX1_clear_12 : decode cX1_clear 12 = .ok (.iconst 1, 1) := by decide +kernel
theorem dX1_clear_13 : decode cX1_clear 13 = .ok (.invokestatic 72, 3) := by decide +kernel
theorem dX1_clear_16 : decode cX1_clear 16 = .ok (.aload_n 0, 1) := by decide +kernel
theorem dX1_clear_17 : decode cX1_clear 17 = .ok (.getfield 22, 3) := by decide +kernel
theorem dX1_clear_20 : decode cX1_clear 20 = .ok (.iconst 0, 1) := by decide +kernel
theorem dX1_clear_21 : decode cX1_clear 21 = .ok (.invokestatic 72, 3) := by decide +kernel
theorem dX1_clear_24 : decode cX1_clear 24 = .ok (.aload_n 0, 1) := by decide +kernel
theorem dX1_clear_25 : decode cX1_clear 25 = .ok (.getfield 25, 3) := by decide +kernel
theorem dX1_clear_28 : decode cX1_clear 28 = .ok (.iconst 0, 1) := by decide +kernel
theorem dX1_clear_29 : decode cX1_clear 29 = .ok (.invokestatic 72, 3) := by decide +kernel
theorem dX1_clear_32 : decode cX1_clear 32 = .ok (.aload_n 0, 1) := by decide +kernel
theorem dX1_clear_33 : decode cX1_clear 33 = .ok (.getfield 28, 3) := by decide +kernel
theorem dX1_clear_36 : decode cX1_clear 36 = .ok (.iconst 0, 1) := by decide +kernel
theorem dX1_clear_37 : decode cX1_clear 37 = .ok (.invokestatic 72, 3) := by decide +kernel
theorem dX1_clear_40 : decode cX1_clear 40 = .ok (.aload_n 0, 1) := by decide +kernel
theorem dX1_clear_41 : decode cX1_clear 41 = .ok (.getfield 31, 3) := by decide +kernel
theorem dX1_clear_44 : decode cX1_clear 44 = .ok (.iconst 0, 1) := by decide +kernel
theorem dX1_clear_45 : decode cX1_clear 45 = .ok (.invokestatic 72, 3) := by decide +kernel
theorem dX1_clear_48 : decode cX1_clear 48 = .ok (.aload_n 0, 1) := by decide +kernel
theorem dX1_clear_49 : decode cX1_clear 49 = .ok (.getfield 37, 3) := by decide +kernel
theorem dX1_clear_52 : decode cX1_clear 52 = .ok (.invokevirtual 75, 3) := by decide +kernel
theorem dX1_clear_55 : decode cX1_clear 55 = .ok (.aload_n 0, 1) := by decide +kernel
theorem dX1_clear_56 : decode cX1_clear 56 = .ok (.iconst 0, 1) := by decide +kernel
theorem dX1_clear_57 : decode cX1_clear 57 = .ok (.putfield 41, 3) := by decide +kernel
theorem dX1_clear_60 : decode cX1_clear 60 = .ok (.aload_n 0, 1) := by decide +kernel
theorem dX1_clear_61 : decode cX1_clear 61 = .ok (.iconst 0, 1) := by decide +kernel
theorem dX1_clear_62 : decode cX1_clear 62 = .ok (.putfield 45, 3) := by decide +kernel
theorem dX1_clear_65 : decode cX1_clear 65 = .ok (.aload_n 0, 1) := by decide +kernel
theorem dX1_clear_66 : decode cX1_clear 66 = .ok (.iconst 0, 1) := by decide +kernel
theorem dX1_clear_67 : decode cX1_clear 67 = .ok (.putfield 48, 3) := by decide +kernel
theorem dX1_clear_70 : decode cX1_clear 70 = .ok (.aload_n 0, 1) := by decide +kernel
theorem dX1_clear_71 : decode cX1_clear 71 = .ok (.iconst 0, 1) := by decide +kernel
theorem dX1_clear_72 : decode cX1_clear 72 = .ok (.putfield 51, 3) := by decide +kernel
theorem dX1_clear_75 : decode cX1_clear 75 = .ok (.aload_n 0, 1) := by decide +kernel
theorem dX1_clear_76 : decode cX1_clear 76 = .ok (.iconst 0, 1) := by decide +kernel
theorem dX1_clear_77 : decode cX1_clear 77 = .ok (.putfield 54, 3) := by decide +kernel
theorem dX1_clear_80 : decode cX1_clear 80 = .ok (.aload_n 0, 1) := by decide +kernel
theorem dX1_clear_81 : decode cX1_clear 81 = .ok (.iconst 0, 1) := by decide +kernel
theorem dX1_clear_82 : decode cX1_clear 82 = .ok (.putfield 57, 3) := by decide +kernel
theorem dX1_clear_85 : decode cX1_clear 85 = .ok (.aload_n 0, 1) := by decide +kernel
theorem dX1_clear_86 : decode cX1_clear 86 = .ok (.iconst 0, 1) := by decide +kernel
theorem dX1_clear_87 : decode cX1_clear 87 = .ok (.putfield 60, 3) := by decide +kernel
theorem dX1_clear_90 : decode cX1_clear 90 = .ok (.aload_n 0, 1) := by decide +kernel
theorem dX1_clear_91 : decode cX1_clear 91 = .ok (.iconst 0, 1) := by decide +kernel
theorem dX1_clear_92 : decode cX1_clear 92 = .ok (.putfield 63, 3) := by decide +kernel
theorem dX1_clear_95 : decode cX1_clear 95 = .ok (.return_, 1) := by decide +kernel
theorem dX1_copyFrom_0 : decode cX1_copyFrom 0 = .ok (.aload_n 1, 1) := by decide +kernel
theorem dX1_copyFrom_1 : decode cX1_copyFrom 1 = .ok (.getfield 11, 3) := by decide +kernel
theorem dX1_copyFrom_4 : decode cX1_copyFrom 4 = .ok (.iconst 0, 1) := by decide +kernel
theorem dX1_copyFrom_5 : decode cX1_copyFrom 5 = .ok (.aload_n 0, 1) := by decide +kernel
theorem dX1_copyFrom_6 : decode cX1_copyFrom 6 = .ok (.getfield 11, 3) := by decide +kernel
theorem dX1_copyFrom_9 : decode cX1_copyFrom 9 = .ok (.iconst 0, 1) := by decide +kernel
theorem dX1_copyFrom_10 : decode cX1_copyFrom 10 = .ok (.bipush 24, 2) := by decide +kernel
theorem dX1_copyFrom_12 : decode cX1_copyFrom 12 = .ok (.invokestatic 78, 3) := by decide +kernel
theorem dX1_copyFrom_15 : decode cX1_copyFrom 15 = .ok (.aload_n 1, 1) := by decide +kernel
theorem dX1_copyFrom_16 : decode cX1_copyFrom 16 = .ok (.getfield 15, 3) := by decide +kernel
theorem dX1_copyFrom_19 : decode cX1_copyFrom 19 = .ok (.iconst 0, 1) := by decide +kernel
theorem dX1_copyFrom_20 : decode cX1_copyFrom 20 = .ok (.aload_n 0, 1) := by decide +kernel
theorem dX1_copyFrom_21 : decode cX1_copyFrom 21 = .ok (.getfield 15, 3) := by decide +kernel
theorem dX1_copyFrom_24 : decode cX1_copyFrom 24 = .ok (.iconst 0, 1) := by decide +kernel
theorem dX1_copyFrom_25 : decode cX1_copyFrom 25 = .ok (.bipush 12, 2) := by decide +kernel
theorem dX1_copyFrom_27 : decode cX1_copyFrom 27 = .ok (.invokestatic 78, 3) := by decide +kernel
theorem dX1_copyFrom_30 : decode cX1_copyFrom 30 = .ok (.aload_n 1, 1) := by decide +kernel
theorem dX1_copyFrom_31 : decode cX1_copyFrom 31 = .ok (.getfield 19, 3) := by decide +kernel
theorem dX1_copyFrom_34 : decode cX1_copyFrom 34 = .ok (.iconst 0, 1) := by decide +kernel
theorem dX1_copyFrom_35 : decode cX1_copyFrom 35 = .ok (.aload_n 0, 1) := by decide +kernel
theorem dX1_copyFrom_36 : decode cX1_copyFrom 36 = .ok (.getfield 19, 3) := by decide +kernel
theorem dX1_copyFrom_39 : decode cX1_copyFrom 39 = .ok (.iconst 0, 1) := by decide +kernel
theorem dX1_copyFrom_40 : decode cX1_copyFrom 40 = .ok (.bipush 16, 2) := by decide +kernel
theorem dX1_copyFrom_42 : decode cX1_copyFrom 42 = .ok (.invokestatic 78, 3) := by decide +kernel
theorem dX1_copyFrom_45 : decode cX1_copyFrom 45 = .ok (.aload_n 1, 1) := by decide +kernel
theorem dX1_copyFrom_46 : decode cX1_copyFrom 46 = .ok (.getfield 22, 3) := by decide +kernel
theorem dX1_copyFrom_49 : decode cX1_copyFrom 49 = .ok (.iconst 0, 1) := by decide +kernel
theorem dX1_copyFrom_50 : decode cX1_copyFrom 50 = .ok (.aload_n 0, 1) := by decide +kernel
theorem dX1_copyFrom_51 : decode cX1_copyFrom 51 = .ok (.getfield 22, 3) := by decide +kernel
theorem dX1_copyFrom_54 : decode cX1_copyFrom 54 = .ok (.iconst 0, 1) := by decide +kernel
theorem dX1_copyFrom_55 : decode cX1_copyFrom 55 = .ok (.bipush 16, 2) := by decide +kernel
theorem dX1_copyFrom_57 : decode cX1_copyFrom 57 = .ok (.invokestatic 78, 3) := by decide +kernel
theorem dX1_copyFrom_60 : decode cX1_copyFrom 60 = .ok (.aload_n 1, 1) := by decide +kernel
theorem dX1_copyFrom_61 : decode cX1_copyFrom 61 = .ok (.getfield 25, 3) := by decide +kernel
theorem dX1_copyFrom_64 : decode cX1_copyFrom 64 = .ok (.iconst 0, 1) := by decide +kernel
theorem dX1_copyFrom_65 : decode cX1_copyFrom 65 = .ok (.aload_n 0, 1) := by decide +kernel
theorem dX1_copyFrom_66 : decode cX1_copyFrom 66 = .ok (.getfield 25, 3) := by decide +kernel
theorem dX1_copyFrom_69 : decode cX1_copyFrom 69 = .ok (.iconst 0, 1) := by decide +kernel
theorem dX1_copyFrom_70 : decode cX1_copyFrom 70 = .ok (.bipush 6, 2) := by decide +kernel
theorem dX1_copyFrom_72 : decode cX1_copyFrom 72 = .ok (.invokestatic 78, 3) := by decide +kernel
theorem dX1_copyFrom_75 : decode cX1_copyFrom 75 = .ok (.aload_n 1, 1) := by decide +kernel
theorem dX1_copyFrom_76 : decode cX1_copyFrom 76 = .ok (.getfield 28, 3) := by decide +kernel
theorem dX1_copyFrom_79 : decode cX1_copyFrom 79 = .ok (.iconst 0, 1) := by decide +kernel
theorem dX1_copyFrom_80 : decode cX1_copyFrom 80 = .ok (.aload_n 0, 1) := by decide +kernel
theorem dX1_copyFrom_81 : decode cX1_copyFrom 81 = .ok (.getfield 28, 3) := by decide +kernel
theorem dX1_copyFrom_84 : decode cX1_copyFrom 84 = .ok (.iconst 0, 1) := by decide +kernel
theorem dX1_copyFrom_85 : decode cX1_copyFrom 85 = .ok (.bipush 72, 2) := by decide +kernel
theorem dX1_copyFrom_87 : decode cX1_copyFrom 87 = .ok (.invokestatic 78, 3) := by decide +kernel
theorem dX1_copyFrom_90 : decode cX1_copyFrom 90 = .ok (.aload_n 1, 1) := by decide +kernel
theorem dX1_copyFrom_91 : decode cX1_copyFrom 91 = .ok (.getfield 31, 3) := by decide +kernel
theorem dX1_copyFrom_94 : decode cX1_copyFrom 94 = .ok (.iconst 0, 1) := by decide +kernel
theorem dX1_copyFrom_95 : decode cX1_copyFrom 95 = .ok (.aload_n 0, 1) := by decide +kernel
theorem dX1_copyFrom_96 : decode cX1_copyFrom 96 = .ok (.getfield 31, 3) := by decide +kernel
theorem dX1_copyFrom_99 : decode cX1_copyFrom 99 = .ok (.iconst 0, 1) := by decide +kernel
theorem dX1_copyFrom_100 : decode cX1_copyFrom 100 = .ok (.bipush 12, 2) := by decide +kernel
theorem dX1_copyFrom_102 : decode cX1_copyFrom 102 = .ok (.invokestatic 78, 3) := by decide +kernel
theorem dX1_copyFrom_105 : decode cX1_copyFrom 105 = .ok (.aload_n 0, 1) := by decide +kernel
theorem dX1_copyFrom_106 : decode cX1_copyFrom 106 = .ok (.getfield 37, 3) := by decide +kernel
theorem dX1_copyFrom_109 : decode cX1_copyFrom 109 = .ok (.aload_n 1, 1) := by decide +kernel
theorem dX1_copyFrom_110 : decode cX1_copyFrom 110 = .ok (.getfield 37, 3) := by decide +kernel
theorem dX1_copyFrom_113 : decode cX1_copyFrom 113 = .ok (.invokevirtual 84, 3) := by decide +kernel
theorem dX1_copyFrom_116 : decode cX1_copyFrom 116 = .ok (.aload_n 0, 1) := by decide +kernel
theorem dX1_copyFrom_117 : decode cX1_copyFrom 117 = .ok (.aload_n 1, 1) := by decide +kernel
theorem dX1_copyFrom_118 : decode cX1_copyFrom 118 = .ok (.getfield 41, 3) := by decide +kernel
theorem dX1_copyFrom_121 : decode cX1_copyFrom 121 = .ok (.putfield 41, 3) := by decide +kernel
theorem dX1_copyFrom_124 : decode cX1_copyFrom 124 = .ok (.aload_n 0, 1) := by decide +kernel
theorem dX1_copyFrom_125 : decode cX1_copyFrom 125 = .ok (.aload_n 1, 1) := by decide +kernel
theorem dX1_copyFrom_126 : decode cX1_copyFrom 126 = .ok (.getfield 45, 3) := by decide +kernel
theorem dX1_copyFrom_129 : decode cX1_copyFrom 129 = .ok (.putfield 45, 3) := by decide +kernel
theorem dX1_copyFrom_132 : decode cX1_copyFrom 132 = .ok (.aload_n 0, 1) := by decide +kernel
theorem dX1_copyFrom_133 : decode cX1_copyFrom 133 = .ok (.aload_n 1, 1) := by decide +kernel
theorem dX1_copyFrom_134 : decode cX1_copyFrom 134 = .ok (.getfield 48, 3) := by decide +kernel
theorem dX1_copyFrom_137 : decode cX1_copyFrom 137 = .ok (.putfield 48, 3) := by decide +kernel
theorem dX1_copyFrom_140 : decode cX1_copyFrom 140 = .ok (.aload_n 0, 1) := by decide +kernel
theorem dX1_copyFrom_141 : decode cX1_copyFrom 141 = .ok (.aload_n 1, 1) := by decide +kernel
theorem dX1_copyFrom_142 : decode cX1_copyFrom 142 = .ok (.getfield 51, 3) := by decide +kernel
theorem dX1_copyFrom_145 : decode cX1_copyFrom 145 = .ok (.putfield 51, 3) := by decide +kernel
theorem dX1_copyFrom_148 : decode cX1_copyFrom 148 = .ok (.aload_n 0, 1) := by decide +kernel
theorem dX1_copyFrom_149 : decode cX1_copyFrom 149 = .ok (.aload_n 1, 1) := by decide +kernel
theorem dX1_copyFrom_150 : decode cX1_copyFrom 150 = .ok (.getfield 54, 3) := by decide +kernel
theorem dX1_copyFrom_153 : decode cX1_copyFrom 153 = .ok (.putfield 54, 3) := by decide +kernel
theorem dX1_copyFrom_156 : decode cX1_copyFrom 156 = .ok (.aload_n 0, 1) := by decide +kernel
theorem dX1_copyFrom_157 : decode cX1_copyFrom 157 = .ok (.aload_n 1, 1) := by decide +kernel
theorem dX1_copyFrom_158 : decode cX1_copyFrom 158 = .ok (.getfield 57, 3) := by decide +kernel
theorem dX1_copyFrom_161 : decode cX1_copyFrom 161 = .ok (.putfield 57, 3) := by decide +kernel
theorem dX1_copyFrom_164 : decode cX1_copyFrom 164 = .ok (.aload_n 0, 1) := by decide +kernel
theorem dX1_copyFrom_165 : decode cX1_copyFrom 165 = .ok (.aload_n 1, 1) := by decide +kernel
theorem dX1_copyFrom_166 : decode cX1_copyFrom 166 = .ok (.getfield 60, 3) := by decide +kernel
theorem dX1_copyFrom_169 : decode cX1_copyFrom 169 = .ok (.putfield 60, 3) := by decide +kernel
theorem dX1_copyFrom_172 : decode cX1_copyFrom 172 = .ok (.aload_n 0, 1) := by decide +kernel
theorem dX1_copyFrom_173 : decode cX1_copyFrom 173 = .ok (.aload_n 1, 1) := by decide +kernel
theorem dX1_copyFrom_174 : decode cX1_copyFrom 174 = .ok (.getfield 63, 3) := by decide +kernel
theorem dX1_copyFrom_177 : decode cX1_copyFrom 177 = .ok (.putfield 63, 3) := by decide +kernel
theorem dX1_copyFrom_180 : decode cX1_copyFrom 180 = .ok (.return_, 1) := by decide +kernel
theorem dX1_isTaken_0 : decode cX1_isTaken 0 = .ok (.iconst 0, 1) := by decide +kernel
theorem dX1_isTaken_1 : decode cX1_isTaken 1 = .ok (.istore_n 3, 1) := by decide +kernel
theorem dX1_isTaken_2 : decode cX1_isTaken 2 = .ok (.iload_n 3, 1) := by decide +kernel
theorem dX1_isTaken_3 : decode cX1_isTaken 3 = .ok (.bipush 24, 2) := by decide +kernel
theorem dX1_isTaken_5 : decode cX1_isTaken 5 = .ok (.if_icmp .ge 22, 3) := by decide +kernel
theorem dX1_isTaken_8 : decode cX1_isTaken 8 = .ok (.aload_n 0, 1) := by decide +kernel
theorem dX1_isTaken_9 : decode cX1_isTaken 9 = .ok (.getfield 11, 3) := by decide +kernel
theorem dX1_isTaken_12 : decode cX1_isTaken 12 = .ok (.iload_n 3, 1) := by decide +kernel
theorem dX1_isTaken_13 : decode cX1_isTaken 13 = .ok (.laload, 1) := by decide +kernel
theorem dX1_isTaken_14 : decode cX1_isTaken 14 = .ok (.lload_n 1, 1) := by decide +kernel
theorem dX1_isTaken_15 : decode cX1_isTaken 15 = .ok (.lcmp, 1) := by decide +kernel
theorem dX1_isTaken_16 : decode cX1_isTaken 16 = .ok (.ifCond .ne 5, 3) := by decide +kernel
theorem dX1_isTaken_19 : decode cX1_isTaken 19 = .ok (.iconst 1, 1) := by decide +kernel
theorem dX1_isTaken_20 : decode cX1_isTaken 20 = .ok (.ireturn, 1) := by decide +kernel
theorem dX1_isTaken_21 : decode cX1_isTaken 21 = .ok (.iinc 3 1, 3) := by decide +kernel
theorem dX1_isTaken_24 : decode cX1_isTaken 24 = .ok (.goto (-22), 3) := by decide +kernel
theorem dX1_isTaken_27 : decode cX1_isTaken 27 = .ok (.iconst 0, 1) := by decide +kernel
theorem dX1_isTaken_28 : decode cX1_isTaken 28 = .ok (.ireturn, 1) := by decide +kernel
theorem dX1_find_0 : decode cX1_find 0 = .ok (.iload_n 3, 1) := by decide +kernel
theorem dX1_find_1 : decode cX1_find 1 = .ok (.ifCond .ne 8, 3) := by decide +kernel
theorem dX1_find_4 : decode cX1_find 4 = .ok (.bipush 12, 2) := by decide +kernel
theorem dX1_find_6 : decode cX1_find 6 = .ok (.goto 16, 3) := by decide +kernel
theorem dX1_find_9 : decode cX1_find 9 = .ok (.iload_n 3, 1) := by decide +kernel
theorem dX1_find_10 : decode cX1_find 10 = .ok (.bipush 12, 2) := by decide +kernel
theorem dX1_find_12 : decode cX1_find 12 = .ok (.if_icmp .ne 8, 3) := by decide +kernel
theorem dX1_find_15 : decode cX1_find 15 = .ok (.bipush 18, 2) := by decide +kernel
theorem dX1_find_17 : decode cX1_find 17 = .ok (.goto 5, 3) := by decide +kernel
theorem dX1_find_20 : decode cX1_find 20 = .ok (.bipush 24, 2) := by decide +kernel
theorem dX1_find_22 : decode cX1_find 22 = .ok (.istore 4, 2) := by decide +kernel
theorem dX1_find_24 : decode cX1_find 24 = .ok (.iload_n 3, 1) := by decide +kernel
theorem dX1_find_25 : decode cX1_find 25 = .ok (.istore 5, 2) := by decide +kernel
theorem dX1_find_27 : decode cX1_find 27 = .ok (.iload 5, 2) := by decide +kernel
theorem dX1_find_29 : decode cX1_find 29 = .ok (.iload 4, 2) := by decide +kernel
theorem dX1_find_31 : decode cX1_find 31 = .ok (.if_icmp .ge 26, 3) := by decide +kernel
theorem dX1_find_34 : decode cX1_find 34 = .ok (.aload_n 0, 1) := by decide +kernel
theorem dX1_find_35 : decode cX1_find 35 = .ok (.getfield 11, 3) := by decide +kernel
theorem dX1_find_38 : decode cX1_find 38 = .ok (.iload 5, 2) := by decide +kernel
theorem dX1_find_40 : decode cX1_find 40 = .ok (.laload, 1) := by decide +kernel
theorem dX1_find_41 : decode cX1_find 41 = .ok (.lload_n 1, 1) := by decide +kernel
theorem dX1_find_42 : decode cX1_find 42 = .ok (.lcmp, 1) := by decide +kernel
theorem dX1_find_43 : decode cX1_find 43 = .ok (.ifCond .ne 8, 3) := by decide +kernel
theorem dX1_find_46 : decode cX1_find 46 = .ok (.iload 5, 2) := by decide +kernel
theorem dX1_find_48 : decode cX1_find 48 = .ok (.iload_n 3, 1) := by decide +kernel
theorem dX1_find_49 : decode cX1_find 49 = .ok (.isub, 1) := by decide +kernel
theorem dX1_find_50 : decode cX1_find 50 = .ok (.ireturn, 1) := by decide +kernel
theorem dX1_find_51 : decode cX1_find 51 = .ok (.iinc 5 1, 3) := by decide +kernel
theorem dX1_find_54 : decode cX1_find 54 = .ok (.goto (-27), 3) := by decide +kernel
theorem dX1_find_57 : decode cX1_find 57 = .ok (.iconst (-1), 1) := by decide +kernel
theorem dX1_find_58 : decode cX1_find 58 = .ok (.ireturn, 1) := by decide +kernel
theorem dX1_worthOf_0 : decode cX1_worthOf 0 = .ok (.iconst 0, 1) := by decide +kernel
theorem dX1_worthOf_1 : decode cX1_worthOf 1 = .ok (.istore_n 2, 1) := by decide +kernel
theorem dX1_worthOf_2 : decode cX1_worthOf 2 = .ok (.iconst 0, 1) := by decide +kernel
theorem dX1_worthOf_3 : decode cX1_worthOf 3 = .ok (.istore_n 3, 1) := by decide +kernel
theorem dX1_worthOf_4 : decode cX1_worthOf 4 = .ok (.iload_n 3, 1) := by decide +kernel
theorem dX1_worthOf_5 : decode cX1_worthOf 5 = .ok (.aload_n 0, 1) := by decide +kernel
theorem dX1_worthOf_6 : decode cX1_worthOf 6 = .ok (.getfield 41, 3) := by decide +kernel
theorem dX1_worthOf_9 : decode cX1_worthOf 9 = .ok (.if_icmp .ge 26, 3) := by decide +kernel
theorem dX1_worthOf_12 : decode cX1_worthOf 12 = .ok (.iload_n 1, 1) := by decide +kernel
theorem dX1_worthOf_13 : decode cX1_worthOf 13 = .ok (.iload_n 3, 1) := by decide +kernel
theorem dX1_worthOf_14 : decode cX1_worthOf 14 = .ok (.ishr, 1) := by decide +kernel
theorem dX1_worthOf_15 : decode cX1_worthOf 15 = .ok (.iconst 1, 1) := by decide +kernel
theorem dX1_worthOf_16 : decode cX1_worthOf 16 = .ok (.iand, 1) := by decide +kernel
theorem dX1_worthOf_17 : decode cX1_worthOf 17 = .ok (.ifCond .eq 12, 3) := by decide +kernel
theorem dX1_worthOf_20 : decode cX1_worthOf 20 = .ok (.iload_n 2, 1) := by decide +kernel
theorem dX1_worthOf_21 : decode cX1_worthOf 21 = .ok (.aload_n 0, 1) := by decide +kernel
theorem dX1_worthOf_22 : decode cX1_worthOf 22 = .ok (.getfield 15, 3) := by decide +kernel
theorem dX1_worthOf_25 : decode cX1_worthOf 25 = .ok (.iload_n 3, 1) := by decide +kernel
theorem dX1_worthOf_26 : decode cX1_worthOf 26 = .ok (.iaload, 1) := by decide +kernel
theorem dX1_worthOf_27 : decode cX1_worthOf 27 = .ok (.iadd, 1) := by decide +kernel
theorem dX1_worthOf_28 : decode cX1_worthOf 28 = .ok (.istore_n 2, 1) := by decide +kernel
theorem dX1_worthOf_29 : decode cX1_worthOf 29 = .ok (.iinc 3 1, 3) := by decide +kernel
theorem dX1_worthOf_32 : decode cX1_worthOf 32 = .ok (.goto (-28), 3) := by decide +kernel
theorem dX1_worthOf_35 : decode cX1_worthOf 35 = .ok (.iload_n 2, 1) := by decide +kernel
theorem dX1_worthOf_36 : decode cX1_worthOf 36 = .ok (.ireturn, 1) := by decide +kernel
theorem dX1_makingsOf_0 : decode cX1_makingsOf 0 = .ok (.iconst 0, 1) := by decide +kernel
theorem dX1_makingsOf_1 : decode cX1_makingsOf 1 = .ok (.istore_n 2, 1) := by decide +kernel
theorem dX1_makingsOf_2 : decode cX1_makingsOf 2 = .ok (.iconst 0, 1) := by decide +kernel
theorem dX1_makingsOf_3 : decode cX1_makingsOf 3 = .ok (.istore_n 3, 1) := by decide +kernel
theorem dX1_makingsOf_4 : decode cX1_makingsOf 4 = .ok (.iload_n 3, 1) := by decide +kernel
theorem dX1_makingsOf_5 : decode cX1_makingsOf 5 = .ok (.aload_n 0, 1) := by decide +kernel
theorem dX1_makingsOf_6 : decode cX1_makingsOf 6 = .ok (.getfield 45, 3) := by decide +kernel
theorem dX1_makingsOf_9 : decode cX1_makingsOf 9 = .ok (.if_icmp .ge 25, 3) := by decide +kernel
theorem dX1_makingsOf_12 : decode cX1_makingsOf 12 = .ok (.aload_n 0, 1) := by decide +kernel
theorem dX1_makingsOf_13 : decode cX1_makingsOf 13 = .ok (.getfield 19, 3) := by decide +kernel
theorem dX1_makingsOf_16 : decode cX1_makingsOf 16 = .ok (.iload_n 3, 1) := by decide +kernel
theorem dX1_makingsOf_17 : decode cX1_makingsOf 17 = .ok (.iaload, 1) := by decide +kernel
theorem dX1_makingsOf_18 : decode cX1_makingsOf 18 = .ok (.iload_n 1, 1) := by decide +kernel
theorem dX1_makingsOf_19 : decode cX1_makingsOf 19 = .ok (.if_icmp .ne 9, 3) := by decide +kernel
theorem dX1_makingsOf_22 : decode cX1_makingsOf 22 = .ok (.iload_n 2, 1) := by decide +kernel
theorem dX1_makingsOf_23 : decode cX1_makingsOf 23 = .ok (.iconst 1, 1) := by decide +kernel
theorem dX1_makingsOf_24 : decode cX1_makingsOf 24 = .ok (.iload_n 3, 1) := by decide +kernel
theorem dX1_makingsOf_25 : decode cX1_makingsOf 25 = .ok (.ishl, 1) := by decide +kernel
theorem dX1_makingsOf_26 : decode cX1_makingsOf 26 = .ok (.ior, 1) := by decide +kernel
theorem dX1_makingsOf_27 : decode cX1_makingsOf 27 = .ok (.istore_n 2, 1) := by decide +kernel
theorem dX1_makingsOf_28 : decode cX1_makingsOf 28 = .ok (.iinc 3 1, 3) := by decide +kernel
theorem dX1_makingsOf_31 : decode cX1_makingsOf 31 = .ok (.goto (-27), 3) := by decide +kernel
theorem dX1_makingsOf_34 : decode cX1_makingsOf 34 = .ok (.iload_n 2, 1) := by decide +kernel
theorem dX1_makingsOf_35 : decode cX1_makingsOf 35 = .ok (.ireturn, 1) := by decide +kernel
theorem dX2_init_0 : decode cX2_init 0 = .ok (.aload_n 0, 1) := by decide +kernel
theorem dX2_init_1 : decode cX2_init 1 = .ok (.invokespecial 3, 3) := by decide +kernel
theorem dX2_init_4 : decode cX2_init 4 = .ok (.aload_n 0, 1) := by decide +kernel
theorem dX2_init_5 : decode cX2_init 5 = .ok (.aload_n 1, 1) := by decide +kernel
theorem dX2_init_6 : decode cX2_init 6 = .ok (.putfield 9, 3) := by decide +kernel
theorem dX2_init_9 : decode cX2_init 9 = .ok (.aload_n 0, 1) := by decide +kernel
theorem dX2_init_10 : decode cX2_init 10 = .ok (.aload_n 2, 1) := by decide +kernel
theorem dX2_init_11 : decode cX2_init 11 = .ok (.putfield 15, 3) := by decide +kernel
theorem dX2_init_14 : decode cX2_init 14 = .ok (.aload_n 0, 1) := by decide +kernel
theorem dX2_init_15 : decode cX2_init 15 = .ok (.iconst 0, 1) := by decide +kernel
theorem dX2_init_16 : decode cX2_init 16 = .ok (.putfield 19, 3) := by decide +kernel
theorem dX2_init_19 : decode cX2_init 19 = .ok (.return_, 1) := by decide +kernel
theorem dX2_takes_0 : decode cX2_takes 0 = .ok (.aload_n 1, 1) := by decide +kernel
theorem dX2_takes_1 : decode cX2_takes 1 = .ok (.invokevirtual 23, 3) := by decide +kernel
theorem dX2_takes_4 : decode cX2_takes 4 = .ok (.aload_n 0, 1) := by decide +kernel
theorem dX2_takes_5 : decode cX2_takes 5 = .ok (.aload_n 1, 1) := by decide +kernel
theorem dX2_takes_6 : decode cX2_takes 6 = .ok (.putfield 15, 3) := by decide +kernel
theorem dX2_takes_9 : decode cX2_takes 9 = .ok (.aload_n 0, 1) := by decide +kernel
theorem dX2_takes_10 : decode cX2_takes 10 = .ok (.iconst 0, 1) := by decide +kernel
theorem dX2_takes_11 : decode cX2_takes 11 = .ok (.putfield 19, 3) := by decide +kernel
theorem dX2_takes_14 : decode cX2_takes 14 = .ok (.aload_n 0, 1) := by decide +kernel
theorem dX2_takes_15 : decode cX2_takes 15 = .ok (.getfield 9, 3) := by decide +kernel
theorem dX2_takes_18 : decode cX2_takes 18 = .ok (.iload_n 2, 1) := by decide +kernel
theorem dX2_takes_19 : decode cX2_takes 19 = .ok (.invokevirtual 28, 3) := by decide +kernel
theorem dX2_takes_22 : decode cX2_takes 22 = .ok (.iconst 0, 1) := by decide +kernel
theorem dX2_takes_23 : decode cX2_takes 23 = .ok (.istore_n 3, 1) := by decide +kernel
theorem dX2_takes_24 : decode cX2_takes 24 = .ok (.iload_n 3, 1) := by decide +kernel
theorem dX2_takes_25 : decode cX2_takes 25 = .ok (.sipush 900, 3) := by decide +kernel
theorem dX2_takes_28 : decode cX2_takes 28 = .ok (.if_icmp .gt 40, 3) := by decide +kernel
theorem dX2_takes_31 : decode cX2_takes 31 = .ok (.aload_n 0, 1) := by decide +kernel
theorem dX2_takes_32 : decode cX2_takes 32 = .ok (.getfield 9, 3) := by decide +kernel
theorem dX2_takes_35 : decode cX2_takes 35 = .ok (.getfield 34, 3) := by decide +kernel
theorem dX2_takes_38 : decode cX2_takes 38 = .ok (.ifCond .eq 30, 3) := by decide +kernel
theorem dX2_takes_41 : decode cX2_takes 41 = .ok (.aload_n 0, 1) := by decide +kernel
theorem dX2_takes_42 : decode cX2_takes 42 = .ok (.invokevirtual 38, 3) := by decide +kernel
theorem dX2_takes_45 : decode cX2_takes 45 = .ok (.ifCond .eq 15, 3) := by decide +kernel
theorem dX2_takes_48 : decode cX2_takes 48 = .ok (.aload_n 0, 1) := by decide +kernel
theorem dX2_takes_49 : decode cX2_takes 49 = .ok (.getfield 9, 3) := by decide +kernel
theorem dX2_takes_52 : decode cX2_takes 52 = .ok (.bipush 59, 2) := by decide +kernel
theorem dX2_takes_54 : decode cX2_takes 54 = .ok (.invokevirtual 42, 3) := by decide +kernel
theorem dX2_takes_57 : decode cX2_takes 57 = .ok (.ifCond .ne 5, 3) := by decide +kernel
theorem dX2_takes_60 : decode cX2_takes 60 = .ok (.iconst 0, 1) := by decide +kernel
theorem dX2_takes_61 : decode cX2_takes 61 = .ok (.ireturn, 1) := by decide +kernel
theorem dX2_takes_62 : decode cX2_takes 62 = .ok (.iinc 3 1, 3) := by decide +kernel
theorem dX2_takes_65 : decode cX2_takes 65 = .ok (.goto (-41), 3) := by decide +kernel
theorem dX2_takes_68 : decode cX2_takes 68 = .ok (.iconst 1, 1) := by decide +kernel
theorem dX2_takes_69 : decode cX2_takes 69 = .ok (.ireturn, 1) := by decide +kernel
theorem dX2_readPart_0 : decode cX2_readPart 0 = .ok (.aload_n 0, 1) := by decide +kernel
theorem dX2_readPart_1 : decode cX2_readPart 1 = .ok (.getfield 9, 3) := by decide +kernel
theorem dX2_readPart_4 : decode cX2_readPart 4 = .ok (.getfield 34, 3) := by decide +kernel
theorem dX2_readPart_7 : decode cX2_readPart 7 = .ok (.iconst 3, 1) := by decide +kernel
theorem dX2_readPart_8 : decode cX2_readPart 8 = .ok (.if_icmp .eq 12, 3) := by decide +kernel
theorem dX2_readPart_11 : decode cX2_readPart 11 = .ok (.aload_n 0, 1) := by decide +kernel
theorem dX2_readPart_12 : decode cX2_readPart 12 = .ok (.getfield 9, 3) := by decide +kernel
theorem dX2_readPart_15 : decode cX2_readPart 15 = .ok (.iconst 2, 1) := by decide +kernel
theorem dX2_readPart_16 : decode cX2_readPart 16 = .ok (.invokevirtual 46, 3) := by decide +kernel
theorem dX2_readPart_19 : decode cX2_readPart 19 = .ok (.ireturn, 1) := by decide +kernel
theorem dX2_readPart_20 : decode cX2_readPart 20 = .ok (.aload_n 0, 1) := by decide +kernel
theorem dX2_readPart_21 : decode cX2_readPart 21 = .ok (.getfield 9, 3) := by decide +kernel
theorem dX2_readPart_24 : decode cX2_readPart 24 = .ok (.getfield 50, 3) := by decide +kernel
theorem dX2_readPart_27 : decode cX2_readPart 27 = .ok (.tableswitch 92 0 10 #[57, 92, 92, 62, 92, 67, 92, 72, 77, 82, 87], 57) := by decide +kernel
theorem dX2_readPart_84 : decode cX2_readPart 84 = .ok (.aload_n 0, 1) := by decide +kernel
theorem dX2_readPart_85 : decode cX2_readPart 85 = .ok (.invokevirtual 53, 3) := by decide +kernel
theorem dX2_readPart_88 : decode cX2_readPart 88 = .ok (.ireturn, 1) := by decide +kernel
theorem dX2_readPart_89 : decode cX2_readPart 89 = .ok (.aload_n 0, 1) := by decide +kernel
theorem dX2_readPart_90 : decode cX2_readPart 90 = .ok (.invokevirtual 56, 3) := by decide +kernel
theorem dX2_readPart_93 : decode cX2_readPart 93 = .ok (.ireturn, 1) := by decide +kernel
theorem dX2_readPart_94 : decode cX2_readPart 94 = .ok (.aload_n 0, 1) := by decide +kernel
theorem dX2_readPart_95 : decode cX2_readPart 95 = .ok (.invokevirtual 59, 3) := by decide +kernel
theorem dX2_readPart_98 : decode cX2_readPart 98 = .ok (.ireturn, 1) := by decide +kernel
theorem dX2_readPart_99 : decode cX2_readPart 99 = .ok (.aload_n 0, 1) := by decide +kernel
theorem dX2_readPart_100 : decode cX2_readPart 100 = .ok (.invokevirtual 62, 3) := by decide +kernel
theorem dX2_readPart_103 : decode cX2_readPart 103 = .ok (.ireturn, 1) := by decide +kernel
theorem dX2_readPart_104 : decode cX2_readPart 104 = .ok (.aload_n 0, 1) := by decide +kernel
theorem dX2_readPart_105 : decode cX2_readPart 105 = .ok (.invokevirtual 65, 3) := by decide +kernel
theorem dX2_readPart_108 : decode cX2_readPart 108 = .ok (.ireturn, 1) := by decide +kernel
theorem dX2_readPart_109 : decode cX2_readPart 109 = .ok (.aload_n 0, 1) := by decide +kernel
theorem dX2_readPart_110 : decode cX2_readPart 110 = .ok (.invokevirtual 68, 3) := by decide +kernel
theorem dX2_readPart_113 : decode cX2_readPart 113 = .ok (.ireturn, 1) := by decide +kernel
theorem dX2_readPart_114 : decode cX2_readPart 114 = .ok (.aload_n 0, 1) := by decide +kernel
theorem dX2_readPart_115 : decode cX2_readPart 115 = .ok (.invokevirtual 71, 3) := by decide +kernel
theorem dX2_readPart_118 : decode cX2_readPart 118 = .ok (.ireturn, 1) := by decide +kernel
theorem dX2_readPart_119 : decode cX2_readPart 119 = .ok (.aload_n 0, 1) := by decide +kernel
theorem dX2_readPart_120 : decode cX2_readPart 120 = .ok (.getfield 9, 3) := by decide +kernel
theorem dX2_readPart_123 : decode cX2_readPart 123 = .ok (.iconst 2, 1) := by decide +kernel
theorem dX2_readPart_124 : decode cX2_readPart 124 = .ok (.invokevirtual 46, 3) := by decide +kernel
theorem dX2_readPart_127 : decode cX2_readPart 127 = .ok (.ireturn, 1) := by decide +kernel
theorem dX2_begin_0 : decode cX2_begin 0 = .ok (.iload_n 1, 1) := by decide +kernel
theorem dX2_begin_1 : decode cX2_begin 1 = .ok (.iload_n 2, 1) := by decide +kernel
theorem dX2_begin_2 : decode cX2_begin 2 = .ok (.if_icmp .lt 13, 3) := by decide +kernel
theorem dX2_begin_5 : decode cX2_begin 5 = .ok (.aload_n 0, 1) := by decide +kernel
theorem dX2_begin_6 : decode cX2_begin 6 = .ok (.getfield 9, 3) := by decide +kernel
theorem dX2_begin_9 : decode cX2_begin 9 = .ok (.bipush 6, 2) := by decide +kernel
theorem dX2_begin_11 : decode cX2_begin 11 = .ok (.invokevirtual 46, 3) := by decide +kernel
theorem dX2_begin_14 : decode cX2_begin 14 = .ok (.ireturn, 1) := by decide +kernel
theorem dX2_begin_15 : decode cX2_begin 15 = .ok (.aload_n 0, 1) := by decide +kernel
theorem dX2_begin_16 : decode cX2_begin 16 = .ok (.getfield 9, 3) := by decide +kernel
theorem dX2_begin_19 : decode cX2_begin 19 = .ok (.invokevirtual 74, 3) := by decide +kernel
theorem dX2_begin_22 : decode cX2_begin 22 = .ok (.iconst 1, 1) := by decide +kernel
theorem dX2_begin_23 : decode cX2_begin 23 = .ok (.ireturn, 1) := by decide +kernel
theorem dX2_readNewName_0 : decode cX2_readNewName 0 = .ok (.aload_n 0, 1) := by decide +kernel
theorem dX2_readNewName_1 : decode cX2_readNewName 1 = .ok (.getfield 9, 3) := by decide +kernel
theorem dX2_readNewName_4 : decode cX2_readNewName 4 = .ok (.getfield 34, 3) := by decide +kernel
theorem dX2_readNewName_7 : decode cX2_readNewName 7 = .ok (.iconst 2, 1) := by decide +kernel
theorem dX2_readNewName_8 : decode cX2_readNewName 8 = .ok (.if_icmp .eq 12, 3) := by decide +kernel
theorem dX2_readNewName_11 : decode cX2_readNewName 11 = .ok (.aload_n 0, 1) := by decide +kernel
theorem dX2_readNewName_12 : decode cX2_readNewName 12 = .ok (.getfield 9, 3) := by decide +kernel
theorem dX2_readNewName_15 : decode cX2_readNewName 15 = .ok (.iconst 2, 1) := by decide +kernel
theorem dX2_readNewName_16 : decode cX2_readNewName 16 = .ok (.invokevirtual 46, 3) := by decide +kernel
theorem dX2_readNewName_19 : decode cX2_readNewName 19 = .ok (.ireturn, 1) := by decide +kernel
theorem dX2_readNewName_20 : decode cX2_readNewName 20 = .ok (.aload_n 0, 1) := by decide +kernel
theorem dX2_readNewName_21 : decode cX2_readNewName 21 = .ok (.getfield 15, 3) := by decide +kernel
theorem dX2_readNewName_24 : decode cX2_readNewName 24 = .ok (.aload_n 0, 1) := by decide +kernel
theorem dX2_readNewName_25 : decode cX2_readNewName 25 = .ok (.getfield 9, 3) := by decide +kernel
theorem dX2_readNewName_28 : decode cX2_readNewName 28 = .ok (.getfield 77, 3) := by decide +kernel
theorem dX2_readNewName_31 : decode cX2_readNewName 31 = .ok (.invokevirtual 81, 3) := by decide +kernel
theorem dX2_readNewName_34 : decode cX2_readNewName 34 = .ok (.ifCond .eq 12, 3) := by decide +kernel
theorem dX2_readNewName_37 : decode cX2_readNewName 37 = .ok (.aload_n 0, 1) := by decide +kernel
theorem dX2_readNewName_38 : decode cX2_readNewName 38 = .ok (.getfield 9, 3) := by decide +kernel
theorem dX2_readNewName_41 : decode cX2_readNewName 41 = .ok (.iconst 3, 1) := by decide +kernel
theorem dX2_readNewName_42 : decode cX2_readNewName 42 = .ok (.invokevirtual 46, 3) := by decide +kernel
theorem dX2_readNewName_45 : decode cX2_readNewName 45 = .ok (.ireturn, 1) := by decide +kernel
theorem dX2_readNewName_46 : decode cX2_readNewName 46 = .ok (.aload_n 0, 1) := by decide +kernel
theorem dX2_readNewName_47 : decode cX2_readNewName 47 = .ok (.getfield 15, 3) := by decide +kernel
theorem dX2_readNewName_50 : decode cX2_readNewName 50 = .ok (.getfield 85, 3) := by decide +kernel
theorem dX2_readNewName_53 : decode cX2_readNewName 53 = .ok (.iload_n 1, 1) := by decide +kernel
theorem dX2_readNewName_54 : decode cX2_readNewName 54 = .ok (.aload_n 0, 1) := by decide +kernel
theorem dX2_readNewName_55 : decode cX2_readNewName 55 = .ok (.getfield 9, 3) := by decide +kernel
theorem dX2_readNewName_58 : decode cX2_readNewName 58 = .ok (.getfield 77, 3) := by decide +kernel
theorem dX2_readNewName_61 : decode cX2_readNewName 61 = .ok (.lastore, 1) := by decide +kernel
theorem dX2_readNewName_62 : decode cX2_readNewName 62 = .ok (.aload_n 0, 1) := by decide +kernel
theorem dX2_readNewName_63 : decode cX2_readNewName 63 = .ok (.getfield 9, 3) := by decide +kernel
theorem dX2_readNewName_66 : decode cX2_readNewName 66 = .ok (.invokevirtual 74, 3) := by decide +kernel
theorem dX2_readNewName_69 : decode cX2_readNewName 69 = .ok (.iconst 1, 1) := by decide +kernel
theorem dX2_readNewName_70 : decode cX2_readNewName 70 = .ok (.ireturn, 1) := by decide +kernel
theorem dX2_readThing_0 : decode cX2_readThing 0 = .ok (.aload_n 0, 1) := by decide +kernel
theorem dX2_readThing_1 : decode cX2_readThing 1 = .ok (.getfield 15, 3) := by decide +kernel
theorem dX2_readThing_4 : decode cX2_readThing 4 = .ok (.getfield 89, 3) := by decide +kernel
theorem dX2_readThing_7 : decode cX2_readThing 7 = .ok (.istore_n 1, 1) := by decide +kernel
theorem dX2_readThing_8 : decode cX2_readThing 8 = .ok (.aload_n 0, 1) := by decide +kernel
theorem dX2_readThing_9 : decode cX2_readThing 9 = .ok (.iload_n 1, 1) := by decide +kernel
theorem dX2_readThing_10 : decode cX2_readThing 10 = .ok (.bipush 12, 2) := by decide +kernel
theorem dX2_readThing_12 : decode cX2_readThing 12 = .ok (.invokevirtual 92, 3) := by decide +kernel
theorem dX2_readThing_15 : decode cX2_readThing 15 = .ok (.ifCond .eq 11, 3) := by decide +kernel
theorem dX2_readThing_18 : decode cX2_readThing 18 = .ok (.aload_n 0, 1) := by decide +kernel
theorem dX2_readThing_19 : decode cX2_readThing 19 = .ok (.iload_n 1, 1) := by decide +kernel
theorem dX2_readThing_20 : decode cX2_readThing 20 = .ok (.invokevirtual 96, 3) := by decide +kernel
theorem dX2_readThing_23 : decode cX2_readThing 23 = .ok (.ifCond .ne 5, 3) := by decide +kernel
theorem dX2_readThing_26 : decode cX2_readThing 26 = .ok (.iconst 0, 1) := by decide +kernel
theorem dX2_readThing_27 : decode cX2_readThing 27 = .ok (.ireturn, 1) := by decide +kernel
theorem dX2_readThing_28 : decode cX2_readThing 28 = .ok (.aload_n 0, 1) := by decide +kernel
theorem dX2_readThing_29 : decode cX2_readThing 29 = .ok (.getfield 15, 3) := by decide +kernel
theorem dX2_readThing_32 : decode cX2_readThing 32 = .ok (.dup, 1) := by decide +kernel
theorem dX2_readThing_33 : decode cX2_readThing 33 = .ok (.getfield 89, 3) := by decide +kernel
theorem dX2_readThing_36 : decode cX2_readThing 36 = .ok (.iconst 1, 1) := by decide +kernel
theorem dX2_readThing_37 : decode cX2_readThing 37 = .ok (.iadd, 1) := by decide +kernel
theorem dX2_readThing_38 : decode cX2_readThing 38 = .ok (.putfield 89, 3) := by decide +kernel
theorem dX2_readThing_41 : decode cX2_readThing 41 = .ok (.aload_n 0, 1) := by decide +kernel
theorem dX2_readThing_42 : decode cX2_readThing 42 = .ok (.getfield 9, 3) := by decide +kernel
theorem dX2_readThing_45 : decode cX2_readThing 45 = .ok (.iconst 1, 1) := by decide +kernel
theorem dX2_readThing_46 : decode cX2_readThing 46 = .ok (.invokevirtual 99, 3) := by decide +kernel
theorem dX2_readThing_49 : decode cX2_readThing 49 = .ok (.ifCond .eq 38, 3) := by decide +kernel
theorem dX2_readThing_52 : decode cX2_readThing 52 = .ok (.aload_n 0, 1) := by decide +kernel
theorem dX2_readThing_53 : decode cX2_readThing 53 = .ok (.getfield 9, 3) := by decide +kernel
theorem dX2_readThing_56 : decode cX2_readThing 56 = .ok (.invokevirtual 74, 3) := by decide +kernel
theorem dX2_readThing_59 : decode cX2_readThing 59 = .ok (.aload_n 0, 1) := by decide +kernel
theorem dX2_readThing_60 : decode cX2_readThing 60 = .ok (.getfield 9, 3) := by decide +kernel
theorem dX2_readThing_63 : decode cX2_readThing 63 = .ok (.iconst 0, 1) := by decide +kernel
theorem dX2_readThing_64 : decode cX2_readThing 64 = .ok (.bipush 99, 2) := by decide +kernel
theorem dX2_readThing_66 : decode cX2_readThing 66 = .ok (.invokevirtual 102, 3) := by decide +kernel
theorem dX2_readThing_69 : decode cX2_readThing 69 = .ok (.istore_n 2, 1) := by decide +kernel
theorem dX2_readThing_70 : decode cX2_readThing 70 = .ok (.iload_n 2, 1) := by decide +kernel
theorem dX2_readThing_71 : decode cX2_readThing 71 = .ok (.iconst (-1), 1) := by decide +kernel
theorem dX2_readThing_72 : decode cX2_readThing 72 = .ok (.if_icmp .ne 5, 3) := by decide +kernel
theorem dX2_readThing_75 : decode cX2_readThing 75 = .ok (.iconst 0, 1) := by decide +kernel
theorem dX2_readThing_76 : decode cX2_readThing 76 = .ok (.ireturn, 1) := by decide +kernel
theorem dX2_readThing_77 : decode cX2_readThing 77 = .ok (.aload_n 0, 1) := by decide +kernel
theorem dX2_readThing_78 : decode cX2_readThing 78 = .ok (.getfield 15, 3) := by decide +kernel
theorem dX2_readThing_81 : decode cX2_readThing 81 = .ok (.getfield 106, 3) := by decide +kernel
theorem dX2_readThing_84 : decode cX2_readThing 84 = .ok (.iload_n 1, 1) := by decide +kernel
theorem dX2_readThing_85 : decode cX2_readThing 85 = .ok (.iload_n 2, 1) := by decide +kernel
theorem dX2_readThing_86 : decode cX2_readThing 86 = .ok (.iastore, 1) := by decide +kernel
theorem dX2_readThing_87 : decode cX2_readThing 87 = .ok (.aload_n 0, 1) := by decide +kernel
theorem dX2_readThing_88 : decode cX2_readThing 88 = .ok (.getfield 9, 3) := by decide +kernel
theorem dX2_readThing_91 : decode cX2_readThing 91 = .ok (.iconst 2, 1) := by decide +kernel
theorem dX2_readThing_92 : decode cX2_readThing 92 = .ok (.invokevirtual 99, 3) := by decide +kernel
theorem dX2_readThing_95 : decode cX2_readThing 95 = .ok (.ifCond .eq 25, 3) := by decide +kernel
theorem dX2_readThing_98 : decode cX2_readThing 98 = .ok (.aload_n 0, 1) := by decide +kernel
theorem dX2_readThing_99 : decode cX2_readThing 99 = .ok (.getfield 9, 3) := by decide +kernel
theorem dX2_readThing_102 : decode cX2_readThing 102 = .ok (.invokevirtual 74, 3) := by decide +kernel
theorem dX2_readThing_105 : decode cX2_readThing 105 = .ok (.aload_n 0, 1) := by decide +kernel
theorem dX2_readThing_106 : decode cX2_readThing 106 = .ok (.getfield 15, 3) := by decide +kernel
theorem dX2_readThing_109 : decode cX2_readThing 109 = .ok (.dup, 1) := by decide +kernel
theorem dX2_readThing_110 : decode cX2_readThing 110 = .ok (.getfield 110, 3) := by decide +kernel
theorem dX2_readThing_113 : decode cX2_readThing 113 = .ok (.iconst 1, 1) := by decide +kernel
theorem dX2_readThing_114 : decode cX2_readThing 114 = .ok (.iload_n 1, 1) := by decide +kernel
theorem dX2_readThing_115 : decode cX2_readThing 115 = .ok (.ishl, 1) := by decide +kernel
theorem dX2_readThing_116 : decode cX2_readThing 116 = .ok (.ior, 1) := by decide +kernel
theorem dX2_readThing_117 : decode cX2_readThing 117 = .ok (.putfield 110, 3) := by decide +kernel
theorem dX2_readThing_120 : decode cX2_readThing 120 = .ok (.iconst 1, 1) := by decide +kernel
theorem dX2_readThing_121 : decode cX2_readThing 121 = .ok (.ireturn, 1) := by decide +kernel
theorem dX2_readThings_0 : decode cX2_readThings 0 = .ok (.iconst 0, 1) := by decide +kernel
theorem dX2_readThings_1 : decode cX2_readThings 1 = .ok (.istore_n 2, 1) := by decide +kernel
theorem dX2_readThings_2 : decode cX2_readThings 2 = .ok (.iconst 0, 1) := by decide +kernel
theorem dX2_readThings_3 : decode cX2_readThings 3 = .ok (.istore_n 3, 1) := by decide +kernel
theorem dX2_readThings_4 : decode cX2_readThings 4 = .ok (.iload_n 3, 1) := by decide +kernel
theorem dX2_readThings_5 : decode cX2_readThings 5 = .ok (.sipush 900, 3) := by decide +kernel
theorem dX2_readThings_8 : decode cX2_readThings 8 = .ok (.if_icmp .ge 78, 3) := by decide +kernel
theorem dX2_readThings_11 : decode cX2_readThings 11 = .ok (.iload_n 2, 1) := by decide +kernel
theorem dX2_readThings_12 : decode cX2_readThings 12 = .ok (.ifCond .eq 15, 3) := by decide +kernel
theorem dX2_readThings_15 : decode cX2_readThings 15 = .ok (.aload_n 0, 1) := by decide +kernel
theorem dX2_readThings_16 : decode cX2_readThings 16 = .ok (.getfield 9, 3) := by decide +kernel
theorem dX2_readThings_19 : decode cX2_readThings 19 = .ok (.bipush 59, 2) := by decide +kernel
theorem dX2_readThings_21 : decode cX2_readThings 21 = .ok (.invokevirtual 113, 3) := by decide +kernel
theorem dX2_readThings_24 : decode cX2_readThings 24 = .ok (.ifCond .ne 62, 3) := by decide +kernel
theorem dX2_readThings_27 : decode cX2_readThings 27 = .ok (.aload_n 0, 1) := by decide +kernel
theorem dX2_readThings_28 : decode cX2_readThings 28 = .ok (.getfield 9, 3) := by decide +kernel
theorem dX2_readThings_31 : decode cX2_readThings 31 = .ok (.aload_n 0, 1) := by decide +kernel
theorem dX2_readThings_32 : decode cX2_readThings 32 = .ok (.getfield 15, 3) := by decide +kernel
theorem dX2_readThings_35 : decode cX2_readThings 35 = .ok (.iconst 0, 1) := by decide +kernel
theorem dX2_readThings_36 : decode cX2_readThings 36 = .ok (.invokevirtual 116, 3) := by decide +kernel
theorem dX2_readThings_39 : decode cX2_readThings 39 = .ok (.istore 4, 2) := by decide +kernel
theorem dX2_readThings_41 : decode cX2_readThings 41 = .ok (.iload 4, 2) := by decide +kernel
theorem dX2_readThings_43 : decode cX2_readThings 43 = .ok (.iconst (-1), 1) := by decide +kernel
theorem dX2_readThings_44 : decode cX2_readThings 44 = .ok (.if_icmp .ne 5, 3) := by decide +kernel
theorem dX2_readThings_47 : decode cX2_readThings 47 = .ok (.iconst (-1), 1) := by decide +kernel
theorem dX2_readThings_48 : decode cX2_readThings 48 = .ok (.ireturn, 1) := by decide +kernel
theorem dX2_readThings_49 : decode cX2_readThings 49 = .ok (.iload 4, 2) := by decide +kernel
theorem dX2_readThings_51 : decode cX2_readThings 51 = .ok (.iload_n 1, 1) := by decide +kernel
theorem dX2_readThings_52 : decode cX2_readThings 52 = .ok (.if_icmp .ne 14, 3) := by decide +kernel
theorem dX2_readThings_55 : decode cX2_readThings 55 = .ok (.aload_n 0, 1) := by decide +kernel
theorem dX2_readThings_56 : decode cX2_readThings 56 = .ok (.getfield 9, 3) := by decide +kernel
theorem dX2_readThings_59 : decode cX2_readThings 59 = .ok (.iconst 5, 1) := by decide +kernel
theorem dX2_readThings_60 : decode cX2_readThings 60 = .ok (.invokevirtual 46, 3) := by decide +kernel
theorem dX2_readThings_63 : decode cX2_readThings 63 = .ok (.pop, 1) := by decide +kernel
theorem dX2_readThings_64 : decode cX2_readThings 64 = .ok (.iconst (-1), 1) := by decide +kernel
theorem dX2_readThings_65 : decode cX2_readThings 65 = .ok (.ireturn, 1) := by decide +kernel
theorem dX2_readThings_66 : decode cX2_readThings 66 = .ok (.iload_n 2, 1) := by decide +kernel
theorem dX2_readThings_67 : decode cX2_readThings 67 = .ok (.iconst 1, 1) := by decide +kernel
theorem dX2_readThings_68 : decode cX2_readThings 68 = .ok (.iload 4, 2) := by decide +kernel
theorem dX2_readThings_70 : decode cX2_readThings 70 = .ok (.ishl, 1) := by decide +kernel
theorem dX2_readThings_71 : decode cX2_readThings 71 = .ok (.ior, 1) := by decide +kernel
theorem dX2_readThings_72 : decode cX2_readThings 72 = .ok (.istore_n 2, 1) := by decide +kernel
theorem dX2_readThings_73 : decode cX2_readThings 73 = .ok (.aload_n 0, 1) := by decide +kernel
theorem dX2_readThings_74 : decode cX2_readThings 74 = .ok (.getfield 9, 3) := by decide +kernel
theorem dX2_readThings_77 : decode cX2_readThings 77 = .ok (.invokevirtual 74, 3) := by decide +kernel
theorem dX2_readThings_80 : decode cX2_readThings 80 = .ok (.iinc 3 1, 3) := by decide +kernel
theorem dX2_readThings_83 : decode cX2_readThings 83 = .ok (.goto (-79), 3) := by decide +kernel
theorem dX2_readThings_86 : decode cX2_readThings 86 = .ok (.iload_n 2, 1) := by decide +kernel
theorem dX2_readThings_87 : decode cX2_readThings 87 = .ok (.ireturn, 1) := by decide +kernel
theorem dX2_readMakes_0 : decode cX2_readMakes 0 = .ok (.aload_n 0, 1) := by decide +kernel
theorem dX2_readMakes_1 : decode cX2_readMakes 1 = .ok (.getfield 15, 3) := by decide +kernel
theorem dX2_readMakes_4 : decode cX2_readMakes 4 = .ok (.getfield 120, 3) := by decide +kernel
theorem dX2_readMakes_7 : decode cX2_readMakes 7 = .ok (.istore_n 1, 1) := by decide +kernel
theorem dX2_readMakes_8 : decode cX2_readMakes 8 = .ok (.aload_n 0, 1) := by decide +kernel
theorem dX2_readMakes_9 : decode cX2_readMakes 9 = .ok (.iload_n 1, 1) := by decide +kernel
theorem dX2_readMakes_10 : decode cX2_readMakes 10 = .ok (.bipush 16, 2) := by decide +kernel
theorem dX2_readMakes_12 : decode cX2_readMakes 12 = .ok (.invokevirtual 92, 3) := by decide +kernel
theorem dX2_readMakes_15 : decode cX2_readMakes 15 = .ok (.ifCond .ne 5, 3) := by decide +kernel
theorem dX2_readMakes_18 : decode cX2_readMakes 18 = .ok (.iconst 0, 1) := by decide +kernel
theorem dX2_readMakes_19 : decode cX2_readMakes 19 = .ok (.ireturn, 1) := by decide +kernel
theorem dX2_readMakes_20 : decode cX2_readMakes 20 = .ok (.aload_n 0, 1) := by decide +kernel
theorem dX2_readMakes_21 : decode cX2_readMakes 21 = .ok (.getfield 9, 3) := by decide +kernel
theorem dX2_readMakes_24 : decode cX2_readMakes 24 = .ok (.aload_n 0, 1) := by decide +kernel
theorem dX2_readMakes_25 : decode cX2_readMakes 25 = .ok (.getfield 15, 3) := by decide +kernel
theorem dX2_readMakes_28 : decode cX2_readMakes 28 = .ok (.iconst 0, 1) := by decide +kernel
theorem dX2_readMakes_29 : decode cX2_readMakes 29 = .ok (.invokevirtual 123, 3) := by decide +kernel
theorem dX2_readMakes_32 : decode cX2_readMakes 32 = .ok (.istore_n 2, 1) := by decide +kernel
theorem dX2_readMakes_33 : decode cX2_readMakes 33 = .ok (.iload_n 2, 1) := by decide +kernel
theorem dX2_readMakes_34 : decode cX2_readMakes 34 = .ok (.iconst (-1), 1) := by decide +kernel
theorem dX2_readMakes_35 : decode cX2_readMakes 35 = .ok (.if_icmp .eq 14, 3) := by decide +kernel
theorem dX2_readMakes_38 : decode cX2_readMakes 38 = .ok (.aload_n 0, 1) := by decide +kernel
theorem dX2_readMakes_39 : decode cX2_readMakes 39 = .ok (.getfield 9, 3) := by decide +kernel
theorem dX2_readMakes_42 : decode cX2_readMakes 42 = .ok (.iconst 4, 1) := by decide +kernel
theorem dX2_readMakes_43 : decode cX2_readMakes 43 = .ok (.invokevirtual 126, 3) := by decide +kernel
theorem dX2_readMakes_46 : decode cX2_readMakes 46 = .ok (.ifCond .ne 5, 3) := by decide +kernel
theorem dX2_readMakes_49 : decode cX2_readMakes 49 = .ok (.iconst 0, 1) := by decide +kernel
theorem dX2_readMakes_50 : decode cX2_readMakes 50 = .ok (.ireturn, 1) := by decide +kernel
theorem dX2_readMakes_51 : decode cX2_readMakes 51 = .ok (.aload_n 0, 1) := by decide +kernel
theorem dX2_readMakes_52 : decode cX2_readMakes 52 = .ok (.iload_n 2, 1) := by decide +kernel
theorem dX2_readMakes_53 : decode cX2_readMakes 53 = .ok (.invokevirtual 129, 3) := by decide +kernel
theorem dX2_readMakes_56 : decode cX2_readMakes 56 = .ok (.istore_n 3, 1) := by decide +kernel
theorem dX2_readMakes_57 : decode cX2_readMakes 57 = .ok (.iload_n 3, 1) := by decide +kernel
theorem dX2_readMakes_58 : decode cX2_readMakes 58 = .ok (.iconst (-1), 1) := by decide +kernel
theorem dX2_readMakes_59 : decode cX2_readMakes 59 = .ok (.if_icmp .ne 5, 3) := by decide +kernel
theorem dX2_readMakes_62 : decode cX2_readMakes 62 = .ok (.iconst 0, 1) := by decide +kernel
theorem dX2_readMakes_63 : decode cX2_readMakes 63 = .ok (.ireturn, 1) := by decide +kernel
theorem dX2_readMakes_64 : decode cX2_readMakes 64 = .ok (.aload_n 0, 1) := by decide +kernel
theorem dX2_readMakes_65 : decode cX2_readMakes 65 = .ok (.getfield 15, 3) := by decide +kernel
theorem dX2_readMakes_68 : decode cX2_readMakes 68 = .ok (.getfield 133, 3) := by decide +kernel
theorem dX2_readMakes_71 : decode cX2_readMakes 71 = .ok (.iload_n 1, 1) := by decide +kernel
theorem dX2_readMakes_72 : decode cX2_readMakes 72 = .ok (.iload_n 2, 1) := by decide +kernel
theorem dX2_readMakes_73 : decode cX2_readMakes 73 = .ok (.iastore, 1) := by decide +kernel
theorem dX2_readMakes_74 : decode cX2_readMakes 74 = .ok (.aload_n 0, 1) := by decide +kernel
theorem dX2_readMakes_75 : decode cX2_readMakes 75 = .ok (.getfield 15, 3) := by decide +kernel
theorem dX2_readMakes_78 : decode cX2_readMakes 78 = .ok (.getfield 136, 3) := by decide +kernel
theorem dX2_readMakes_81 : decode cX2_readMakes 81 = .ok (.iload_n 1, 1) := by decide +kernel
theorem dX2_readMakes_82 : decode cX2_readMakes 82 = .ok (.iload_n 3, 1) := by decide +kernel
theorem dX2_readMakes_83 : decode cX2_readMakes 83 = .ok (.iastore, 1) := by decide +kernel
theorem dX2_readMakes_84 : decode cX2_readMakes 84 = .ok (.aload_n 0, 1) := by decide +kernel
theorem dX2_readMakes_85 : decode cX2_readMakes 85 = .ok (.getfield 15, 3) := by decide +kernel
theorem dX2_readMakes_88 : decode cX2_readMakes 88 = .ok (.dup, 1) := by decide +kernel
theorem dX2_readMakes_89 : decode cX2_readMakes 89 = .ok (.getfield 120, 3) := by decide +kernel
theorem dX2_readMakes_92 : decode cX2_readMakes 92 = .ok (.iconst 1, 1) := by decide +kernel
theorem dX2_readMakes_93 : decode cX2_readMakes 93 = .ok (.iadd, 1) := by decide +kernel
theorem dX2_readMakes_94 : decode cX2_readMakes 94 = .ok (.putfield 120, 3) := by decide +kernel
theorem dX2_readMakes_97 : decode cX2_readMakes 97 = .ok (.iconst 1, 1) := by decide +kernel
theorem dX2_readMakes_98 : decode cX2_readMakes 98 = .ok (.ireturn, 1) := by decide +kernel
theorem dX2_readWork_0 : decode cX2_readWork 0 = .ok (.aload_n 0, 1) := by decide +kernel
theorem dX2_readWork_1 : decode cX2_readWork 1 = .ok (.getfield 15, 3) := by decide +kernel
theorem dX2_readWork_4 : decode cX2_readWork 4 = .ok (.getfield 139, 3) := by decide +kernel
theorem dX2_readWork_7 : decode cX2_readWork 7 = .ok (.istore_n 1, 1) := by decide +kernel
theorem dX2_readWork_8 : decode cX2_readWork 8 = .ok (.aload_n 0, 1) := by decide +kernel
theorem dX2_readWork_9 : decode cX2_readWork 9 = .ok (.iload_n 1, 1) := by decide +kernel
theorem dX2_readWork_10 : decode cX2_readWork 10 = .ok (.bipush 6, 2) := by decide +kernel
theorem dX2_readWork_12 : decode cX2_readWork 12 = .ok (.invokevirtual 92, 3) := by decide +kernel
theorem dX2_readWork_15 : decode cX2_readWork 15 = .ok (.ifCond .eq 26, 3) := by decide +kernel
theorem dX2_readWork_18 : decode cX2_readWork 18 = .ok (.aload_n 0, 1) := by decide +kernel
theorem dX2_readWork_19 : decode cX2_readWork 19 = .ok (.bipush 12, 2) := by decide +kernel
theorem dX2_readWork_21 : decode cX2_readWork 21 = .ok (.iload_n 1, 1) := by decide +kernel
theorem dX2_readWork_22 : decode cX2_readWork 22 = .ok (.iadd, 1) := by decide +kernel
theorem dX2_readWork_23 : decode cX2_readWork 23 = .ok (.invokevirtual 96, 3) := by decide +kernel
theorem dX2_readWork_26 : decode cX2_readWork 26 = .ok (.ifCond .eq 15, 3) := by decide +kernel
theorem dX2_readWork_29 : decode cX2_readWork 29 = .ok (.aload_n 0, 1) := by decide +kernel
theorem dX2_readWork_30 : decode cX2_readWork 30 = .ok (.getfield 9, 3) := by decide +kernel
theorem dX2_readWork_33 : decode cX2_readWork 33 = .ok (.bipush 6, 2) := by decide +kernel
theorem dX2_readWork_35 : decode cX2_readWork 35 = .ok (.invokevirtual 126, 3) := by decide +kernel
theorem dX2_readWork_38 : decode cX2_readWork 38 = .ok (.ifCond .ne 5, 3) := by decide +kernel
theorem dX2_readWork_41 : decode cX2_readWork 41 = .ok (.iconst 0, 1) := by decide +kernel
theorem dX2_readWork_42 : decode cX2_readWork 42 = .ok (.ireturn, 1) := by decide +kernel
theorem dX2_readWork_43 : decode cX2_readWork 43 = .ok (.aload_n 0, 1) := by decide +kernel
theorem dX2_readWork_44 : decode cX2_readWork 44 = .ok (.iconst (-1), 1) := by decide +kernel
theorem dX2_readWork_45 : decode cX2_readWork 45 = .ok (.invokevirtual 129, 3) := by decide +kernel
theorem dX2_readWork_48 : decode cX2_readWork 48 = .ok (.istore_n 2, 1) := by decide +kernel
theorem dX2_readWork_49 : decode cX2_readWork 49 = .ok (.iload_n 2, 1) := by decide +kernel
theorem dX2_readWork_50 : decode cX2_readWork 50 = .ok (.iconst (-1), 1) := by decide +kernel
theorem dX2_readWork_51 : decode cX2_readWork 51 = .ok (.if_icmp .ne 5, 3) := by decide +kernel
theorem dX2_readWork_54 : decode cX2_readWork 54 = .ok (.iconst 0, 1) := by decide +kernel
theorem dX2_readWork_55 : decode cX2_readWork 55 = .ok (.ireturn, 1) := by decide +kernel
theorem dX2_readWork_56 : decode cX2_readWork 56 = .ok (.aload_n 0, 1) := by decide +kernel
theorem dX2_readWork_57 : decode cX2_readWork 57 = .ok (.getfield 15, 3) := by decide +kernel
theorem dX2_readWork_60 : decode cX2_readWork 60 = .ok (.getfield 142, 3) := by decide +kernel
theorem dX2_readWork_63 : decode cX2_readWork 63 = .ok (.iload_n 1, 1) := by decide +kernel
theorem dX2_readWork_64 : decode cX2_readWork 64 = .ok (.iload_n 2, 1) := by decide +kernel
theorem dX2_readWork_65 : decode cX2_readWork 65 = .ok (.iastore, 1) := by decide +kernel
theorem dX2_readWork_66 : decode cX2_readWork 66 = .ok (.aload_n 0, 1) := by decide +kernel
theorem dX2_readWork_67 : decode cX2_readWork 67 = .ok (.getfield 15, 3) := by decide +kernel
theorem dX2_readWork_70 : decode cX2_readWork 70 = .ok (.dup, 1) := by decide +kernel
theorem dX2_readWork_71 : decode cX2_readWork 71 = .ok (.getfield 139, 3) := by decide +kernel
theorem dX2_readWork_74 : decode cX2_readWork 74 = .ok (.iconst 1, 1) := by decide +kernel
theorem dX2_readWork_75 : decode cX2_readWork 75 = .ok (.iadd, 1) := by decide +kernel
theorem dX2_readWork_76 : decode cX2_readWork 76 = .ok (.putfield 139, 3) := by decide +kernel
theorem dX2_readWork_79 : decode cX2_readWork 79 = .ok (.iconst 1, 1) := by decide +kernel
theorem dX2_readWork_80 : decode cX2_readWork 80 = .ok (.ireturn, 1) := by decide +kernel
theorem dX2_readVoter_0 : decode cX2_readVoter 0 = .ok (.aload_n 0, 1) := by decide +kernel
theorem dX2_readVoter_1 : decode cX2_readVoter 1 = .ok (.getfield 15, 3) := by decide +kernel
theorem dX2_readVoter_4 : decode cX2_readVoter 4 = .ok (.getfield 145, 3) := by decide +kernel
theorem dX2_readVoter_7 : decode cX2_readVoter 7 = .ok (.istore_n 1, 1) := by decide +kernel
theorem dX2_readVoter_8 : decode cX2_readVoter 8 = .ok (.aload_n 0, 1) := by decide +kernel
theorem dX2_readVoter_9 : decode cX2_readVoter 9 = .ok (.iload_n 1, 1) := by decide +kernel
theorem dX2_readVoter_10 : decode cX2_readVoter 10 = .ok (.bipush 6, 2) := by decide +kernel
theorem dX2_readVoter_12 : decode cX2_readVoter 12 = .ok (.invokevirtual 92, 3) := by decide +kernel
theorem dX2_readVoter_15 : decode cX2_readVoter 15 = .ok (.ifCond .eq 14, 3) := by decide +kernel
theorem dX2_readVoter_18 : decode cX2_readVoter 18 = .ok (.aload_n 0, 1) := by decide +kernel
theorem dX2_readVoter_19 : decode cX2_readVoter 19 = .ok (.bipush 18, 2) := by decide +kernel
theorem dX2_readVoter_21 : decode cX2_readVoter 21 = .ok (.iload_n 1, 1) := by decide +kernel
theorem dX2_readVoter_22 : decode cX2_readVoter 22 = .ok (.iadd, 1) := by decide +kernel
theorem dX2_readVoter_23 : decode cX2_readVoter 23 = .ok (.invokevirtual 96, 3) := by decide +kernel
theorem dX2_readVoter_26 : decode cX2_readVoter 26 = .ok (.ifCond .ne 5, 3) := by decide +kernel
theorem dX2_readVoter_29 : decode cX2_readVoter 29 = .ok (.iconst 0, 1) := by decide +kernel
theorem dX2_readVoter_30 : decode cX2_readVoter 30 = .ok (.ireturn, 1) := by decide +kernel
theorem dX2_readVoter_31 : decode cX2_readVoter 31 = .ok (.aload_n 0, 1) := by decide +kernel
theorem dX2_readVoter_32 : decode cX2_readVoter 32 = .ok (.getfield 15, 3) := by decide +kernel
theorem dX2_readVoter_35 : decode cX2_readVoter 35 = .ok (.dup, 1) := by decide +kernel
theorem dX2_readVoter_36 : decode cX2_readVoter 36 = .ok (.getfield 145, 3) := by decide +kernel
theorem dX2_readVoter_39 : decode cX2_readVoter 39 = .ok (.iconst 1, 1) := by decide +kernel
theorem dX2_readVoter_40 : decode cX2_readVoter 40 = .ok (.iadd, 1) := by decide +kernel
theorem dX2_readVoter_41 : decode cX2_readVoter 41 = .ok (.putfield 145, 3) := by decide +kernel
theorem dX2_readVoter_44 : decode cX2_readVoter 44 = .ok (.iconst 1, 1) := by decide +kernel
theorem dX2_readVoter_45 : decode cX2_readVoter 45 = .ok (.ireturn, 1) := by decide +kernel
theorem dX2_readHates_0 : decode cX2_readHates 0 = .ok (.aload_n 0, 1) := by decide +kernel
theorem dX2_readHates_1 : decode cX2_readHates 1 = .ok (.getfield 9, 3) := by decide +kernel
theorem dX2_readHates_4 : decode cX2_readHates 4 = .ok (.invokevirtual 74, 3) := by decide +kernel
theorem dX2_readHates_7 : decode cX2_readHates 7 = .ok (.aload_n 0, 1) := by decide +kernel
theorem dX2_readHates_8 : decode cX2_readHates 8 = .ok (.getfield 9, 3) := by decide +kernel
theorem dX2_readHates_11 : decode cX2_readHates 11 = .ok (.aload_n 0, 1) := by decide +kernel
theorem dX2_readHates_12 : decode cX2_readHates 12 = .ok (.getfield 15, 3) := by decide +kernel
theorem dX2_readHates_15 : decode cX2_readHates 15 = .ok (.bipush 18, 2) := by decide +kernel
theorem dX2_readHates_17 : decode cX2_readHates 17 = .ok (.invokevirtual 123, 3) := by decide +kernel
theorem dX2_readHates_20 : decode cX2_readHates 20 = .ok (.istore_n 1, 1) := by decide +kernel
theorem dX2_readHates_21 : decode cX2_readHates 21 = .ok (.iload_n 1, 1) := by decide +kernel
theorem dX2_readHates_22 : decode cX2_readHates 22 = .ok (.iconst (-1), 1) := by decide +kernel
theorem dX2_readHates_23 : decode cX2_readHates 23 = .ok (.if_icmp .ne 7, 3) := by decide +kernel
theorem dX2_readHates_26 : decode cX2_readHates 26 = .ok (.iconst (-1), 1) := by decide +kernel
theorem dX2_readHates_27 : decode cX2_readHates 27 = .ok (.goto 15, 3) := by decide +kernel
theorem dX2_readHates_30 : decode cX2_readHates 30 = .ok (.aload_n 0, 1) := by decide +kernel
theorem dX2_readHates_31 : decode cX2_readHates 31 = .ok (.getfield 9, 3) := by decide +kernel
theorem dX2_readHates_34 : decode cX2_readHates 34 = .ok (.aload_n 0, 1) := by decide +kernel
theorem dX2_readHates_35 : decode cX2_readHates 35 = .ok (.getfield 15, 3) := by decide +kernel
theorem dX2_readHates_38 : decode cX2_readHates 38 = .ok (.iconst 0, 1) := by decide +kernel
theorem dX2_readHates_39 : decode cX2_readHates 39 = .ok (.invokevirtual 123, 3) := by decide +kernel
theorem dX2_readHates_42 : decode cX2_readHates 42 = .ok (.istore_n 2, 1) := by decide +kernel
theorem dX2_readHates_43 : decode cX2_readHates 43 = .ok (.iload_n 2, 1) := by decide +kernel
theorem dX2_readHates_44 : decode cX2_readHates 44 = .ok (.iconst (-1), 1) := by decide +kernel
theorem dX2_readHates_45 : decode cX2_readHates 45 = .ok (.if_icmp .ne 7, 3) := by decide +kernel
theorem dX2_readHates_48 : decode cX2_readHates 48 = .ok (.iconst (-1), 1) := by decide +kernel
theorem dX2_readHates_49 : decode cX2_readHates 49 = .ok (.goto 13, 3) := by decide +kernel
theorem dX2_readHates_52 : decode cX2_readHates 52 = .ok (.aload_n 0, 1) := by decide +kernel
theorem dX2_readHates_53 : decode cX2_readHates 53 = .ok (.getfield 9, 3) := by decide +kernel
theorem dX2_readHates_56 : decode cX2_readHates 56 = .ok (.iconst 0, 1) := by decide +kernel
theorem dX2_readHates_57 : decode cX2_readHates 57 = .ok (.bipush 9, 2) := by decide +kernel
theorem dX2_readHates_59 : decode cX2_readHates 59 = .ok (.invokevirtual 102, 3) := by decide +kernel
theorem dX2_readHates_62 : decode cX2_readHates 62 = .ok (.istore_n 3, 1) := by decide +kernel
theorem dX2_readHates_63 : decode cX2_readHates 63 = .ok (.iload_n 3, 1) := by decide +kernel
theorem dX2_readHates_64 : decode cX2_readHates 64 = .ok (.iconst (-1), 1) := by decide +kernel
theorem dX2_readHates_65 : decode cX2_readHates 65 = .ok (.if_icmp .ne 5, 3) := by decide +kernel
theorem dX2_readHates_68 : decode cX2_readHates 68 = .ok (.iconst 0, 1) := by decide +kernel
theorem dX2_readHates_69 : decode cX2_readHates 69 = .ok (.ireturn, 1) := by decide +kernel
theorem dX2_readHates_70 : decode cX2_readHates 70 = .ok (.aload_n 0, 1) := by decide +kernel
theorem dX2_readHates_71 : decode cX2_readHates 71 = .ok (.getfield 15, 3) := by decide +kernel
theorem dX2_readHates_74 : decode cX2_readHates 74 = .ok (.getfield 148, 3) := by decide +kernel
theorem dX2_readHates_77 : decode cX2_readHates 77 = .ok (.iload_n 1, 1) := by decide +kernel
theorem dX2_readHates_78 : decode cX2_readHates 78 = .ok (.bipush 12, 2) := by decide +kernel
theorem dX2_readHates_80 : decode cX2_readHates 80 = .ok (.imul, 1) := by decide +kernel
theorem dX2_readHates_81 : decode cX2_readHates 81 = .ok (.iload_n 2, 1) := by decide +kernel
theorem dX2_readHates_82 : decode cX2_readHates 82 = .ok (.iadd, 1) := by decide +kernel
theorem dX2_readHates_83 : decode cX2_readHates 83 = .ok (.iload_n 3, 1) := by decide +kernel
theorem dX2_readHates_84 : decode cX2_readHates 84 = .ok (.iastore, 1) := by decide +kernel
theorem dX2_readHates_85 : decode cX2_readHates 85 = .ok (.iconst 1, 1) := by decide +kernel
theorem dX2_readHates_86 : decode cX2_readHates 86 = .ok (.ireturn, 1) := by decide +kernel
theorem dX2_readAhead_0 : decode cX2_readAhead 0 = .ok (.aload_n 0, 1) := by decide +kernel
theorem dX2_readAhead_1 : decode cX2_readAhead 1 = .ok (.getfield 9, 3) := by decide +kernel
theorem dX2_readAhead_4 : decode cX2_readAhead 4 = .ok (.invokevirtual 74, 3) := by decide +kernel
theorem dX2_readAhead_7 : decode cX2_readAhead 7 = .ok (.aload_n 0, 1) := by decide +kernel
theorem dX2_readAhead_8 : decode cX2_readAhead 8 = .ok (.getfield 9, 3) := by decide +kernel
theorem dX2_readAhead_11 : decode cX2_readAhead 11 = .ok (.aload_n 0, 1) := by decide +kernel
theorem dX2_readAhead_12 : decode cX2_readAhead 12 = .ok (.getfield 15, 3) := by decide +kernel
theorem dX2_readAhead_15 : decode cX2_readAhead 15 = .ok (.iconst 0, 1) := by decide +kernel
theorem dX2_readAhead_16 : decode cX2_readAhead 16 = .ok (.invokevirtual 123, 3) := by decide +kernel
theorem dX2_readAhead_19 : decode cX2_readAhead 19 = .ok (.istore_n 1, 1) := by decide +kernel
theorem dX2_readAhead_20 : decode cX2_readAhead 20 = .ok (.iload_n 1, 1) := by decide +kernel
theorem dX2_readAhead_21 : decode cX2_readAhead 21 = .ok (.iconst (-1), 1) := by decide +kernel
theorem dX2_readAhead_22 : decode cX2_readAhead 22 = .ok (.if_icmp .ne 7, 3) := by decide +kernel
theorem dX2_readAhead_25 : decode cX2_readAhead 25 = .ok (.iconst (-1), 1) := by decide +kernel
theorem dX2_readAhead_26 : decode cX2_readAhead 26 = .ok (.goto 15, 3) := by decide +kernel
theorem dX2_readAhead_29 : decode cX2_readAhead 29 = .ok (.aload_n 0, 1) := by decide +kernel
theorem dX2_readAhead_30 : decode cX2_readAhead 30 = .ok (.getfield 9, 3) := by decide +kernel
theorem dX2_readAhead_33 : decode cX2_readAhead 33 = .ok (.aload_n 0, 1) := by decide +kernel
theorem dX2_readAhead_34 : decode cX2_readAhead 34 = .ok (.getfield 15, 3) := by decide +kernel
theorem dX2_readAhead_37 : decode cX2_readAhead 37 = .ok (.iconst 0, 1) := by decide +kernel
theorem dX2_readAhead_38 : decode cX2_readAhead 38 = .ok (.invokevirtual 116, 3) := by decide +kernel
theorem dX2_readAhead_41 : decode cX2_readAhead 41 = .ok (.istore_n 2, 1) := by decide +kernel
theorem dX2_readAhead_42 : decode cX2_readAhead 42 = .ok (.iload_n 2, 1) := by decide +kernel
theorem dX2_readAhead_43 : decode cX2_readAhead 43 = .ok (.iconst (-1), 1) := by decide +kernel
theorem dX2_readAhead_44 : decode cX2_readAhead 44 = .ok (.if_icmp .ne 5, 3) := by decide +kernel
theorem dX2_readAhead_47 : decode cX2_readAhead 47 = .ok (.iconst 0, 1) := by decide +kernel
theorem dX2_readAhead_48 : decode cX2_readAhead 48 = .ok (.ireturn, 1) := by decide +kernel
theorem dX2_readAhead_49 : decode cX2_readAhead 49 = .ok (.iload_n 2, 1) := by decide +kernel
theorem dX2_readAhead_50 : decode cX2_readAhead 50 = .ok (.iload_n 1, 1) := by decide +kernel
theorem dX2_readAhead_51 : decode cX2_readAhead 51 = .ok (.if_icmp .ne 12, 3) := by decide +kernel
theorem dX2_readAhead_54 : decode cX2_readAhead 54 = .ok (.aload_n 0, 1) := by decide +kernel
theorem dX2_readAhead_55 : decode cX2_readAhead 55 = .ok (.getfield 9, 3) := by decide +kernel
theorem dX2_readAhead_58 : decode cX2_readAhead 58 = .ok (.iconst 5, 1) := by decide +kernel
theorem dX2_readAhead_59 : decode cX2_readAhead 59 = .ok (.invokevirtual 46, 3) := by decide +kernel
theorem dX2_readAhead_62 : decode cX2_readAhead 62 = .ok (.ireturn, 1) := by decide +kernel
theorem dX2_readAhead_63 : decode cX2_readAhead 63 = .ok (.aload_n 0, 1) := by decide +kernel
theorem dX2_readAhead_64 : decode cX2_readAhead 64 = .ok (.getfield 9, 3) := by decide +kernel
theorem dX2_readAhead_67 : decode cX2_readAhead 67 = .ok (.invokevirtual 74, 3) := by decide +kernel
theorem dX2_readAhead_70 : decode cX2_readAhead 70 = .ok (.aload_n 0, 1) := by decide +kernel
theorem dX2_readAhead_71 : decode cX2_readAhead 71 = .ok (.getfield 15, 3) := by decide +kernel
theorem dX2_readAhead_74 : decode cX2_readAhead 74 = .ok (.getfield 151, 3) := by decide +kernel
theorem dX2_readAhead_77 : decode cX2_readAhead 77 = .ok (.iload_n 2, 1) := by decide +kernel
theorem dX2_readAhead_78 : decode cX2_readAhead 78 = .ok (.dup2, 1) := by decide +kernel
theorem dX2_readAhead_79 : decode cX2_readAhead 79 = .ok (.iaload, 1) := by decide +kernel
theorem dX2_readAhead_80 : decode cX2_readAhead 80 = .ok (.iconst 1, 1) := by decide +kernel
theorem dX2_readAhead_81 : decode cX2_readAhead 81 = .ok (.iload_n 1, 1) := by decide +kernel
theorem dX2_readAhead_82 : decode cX2_readAhead 82 = .ok (.ishl, 1) := by decide +kernel
theorem dX2_readAhead_83 : decode cX2_readAhead 83 = .ok (.ior, 1) := by decide +kernel
theorem dX2_readAhead_84 : decode cX2_readAhead 84 = .ok (.iastore, 1) := by decide +kernel
theorem dX2_readAhead_85 : decode cX2_readAhead 85 = .ok (.iconst 1, 1) := by decide +kernel
theorem dX2_readAhead_86 : decode cX2_readAhead 86 = .ok (.ireturn, 1) := by decide +kernel
theorem dX2_readLaw_0 : decode cX2_readLaw 0 = .ok (.aload_n 0, 1) := by decide +kernel
theorem dX2_readLaw_1 : decode cX2_readLaw 1 = .ok (.getfield 19, 3) := by decide +kernel
theorem dX2_readLaw_4 : decode cX2_readLaw 4 = .ok (.ifCond .eq 12, 3) := by decide +kernel
theorem dX2_readLaw_7 : decode cX2_readLaw 7 = .ok (.aload_n 0, 1) := by decide +kernel
theorem dX2_readLaw_8 : decode cX2_readLaw 8 = .ok (.getfield 9, 3) := by decide +kernel
theorem dX2_readLaw_11 : decode cX2_readLaw 11 = .ok (.iconst 5, 1) := by decide +kernel
theorem dX2_readLaw_12 : decode cX2_readLaw 12 = .ok (.invokevirtual 46, 3) := by decide +kernel
theorem dX2_readLaw_15 : decode cX2_readLaw 15 = .ok (.ireturn, 1) := by decide +kernel
theorem dX2_readLaw_16 : decode cX2_readLaw 16 = .ok (.aload_n 0, 1) := by decide +kernel
theorem dX2_readLaw_17 : decode cX2_readLaw 17 = .ok (.iconst 1, 1) := by decide +kernel
theorem dX2_readLaw_18 : decode cX2_readLaw 18 = .ok (.putfield 19, 3) := by decide +kernel
theorem dX2_readLaw_21 : decode cX2_readLaw 21 = .ok (.aload_n 0, 1) := by decide +kernel
theorem dX2_readLaw_22 : decode cX2_readLaw 22 = .ok (.getfield 9, 3) := by decide +kernel
theorem dX2_readLaw_25 : decode cX2_readLaw 25 = .ok (.invokevirtual 74, 3) := by decide +kernel
theorem dX2_readLaw_28 : decode cX2_readLaw 28 = .ok (.aload_n 0, 1) := by decide +kernel
theorem dX2_readLaw_29 : decode cX2_readLaw 29 = .ok (.getfield 9, 3) := by decide +kernel
theorem dX2_readLaw_32 : decode cX2_readLaw 32 = .ok (.iconst 0, 1) := by decide +kernel
theorem dX2_readLaw_33 : decode cX2_readLaw 33 = .ok (.iconst 2, 1) := by decide +kernel
theorem dX2_readLaw_34 : decode cX2_readLaw 34 = .ok (.invokevirtual 102, 3) := by decide +kernel
theorem dX2_readLaw_37 : decode cX2_readLaw 37 = .ok (.istore_n 1, 1) := by decide +kernel
theorem dX2_readLaw_38 : decode cX2_readLaw 38 = .ok (.iload_n 1, 1) := by decide +kernel
theorem dX2_readLaw_39 : decode cX2_readLaw 39 = .ok (.iconst (-1), 1) := by decide +kernel
theorem dX2_readLaw_40 : decode cX2_readLaw 40 = .ok (.if_icmp .ne 5, 3) := by decide +kernel
theorem dX2_readLaw_43 : decode cX2_readLaw 43 = .ok (.iconst 0, 1) := by decide +kernel
theorem dX2_readLaw_44 : decode cX2_readLaw 44 = .ok (.ireturn, 1) := by decide +kernel
theorem dX2_readLaw_45 : decode cX2_readLaw 45 = .ok (.aload_n 0, 1) := by decide +kernel
theorem dX2_readLaw_46 : decode cX2_readLaw 46 = .ok (.getfield 15, 3) := by decide +kernel
theorem dX2_readLaw_49 : decode cX2_readLaw 49 = .ok (.iload_n 1, 1) := by decide +kernel
theorem dX2_readLaw_50 : decode cX2_readLaw 50 = .ok (.putfield 154, 3) := by decide +kernel
theorem dX2_readLaw_53 : decode cX2_readLaw 53 = .ok (.iconst 1, 1) := by decide +kernel
theorem dX2_readLaw_54 : decode cX2_readLaw 54 = .ok (.ireturn, 1) := by decide +kernel
theorem dX3_init_0 : decode cX3_init 0 = .ok (.aload_n 0, 1) := by decide +kernel
theorem dX3_init_1 : decode cX3_init 1 = .ok (.invokespecial 3, 3) := by decide +kernel
theorem dX3_init_4 : decode cX3_init 4 = .ok (.aload_n 0, 1) := by decide +kernel
theorem dX3_init_5 : decode cX3_init 5 = .ok (.aload_n 1, 1) := by decide +kernel
theorem dX3_init_6 : decode cX3_init 6 = .ok (.putfield 9, 3) := by decide +kernel
theorem dX3_init_9 : decode cX3_init 9 = .ok (.aload_n 0, 1) := by decide +kernel
theorem dX3_init_10 : decode cX3_init 10 = .ok (.aload_n 2, 1) := by decide +kernel
theorem dX3_init_11 : decode cX3_init 11 = .ok (.putfield 15, 3) := by decide +kernel
theorem dX3_init_14 : decode cX3_init 14 = .ok (.aload_n 0, 1) := by decide +kernel
theorem dX3_init_15 : decode cX3_init 15 = .ok (.aload_n 3, 1) := by decide +kernel
theorem dX3_init_16 : decode cX3_init 16 = .ok (.putfield 19, 3) := by decide +kernel
theorem dX3_init_19 : decode cX3_init 19 = .ok (.aload_n 0, 1) := by decide +kernel
theorem dX3_init_20 : decode cX3_init 20 = .ok (.iconst 5, 1) := by decide +kernel
theorem dX3_init_21 : decode cX3_init 21 = .ok (.newarray .int, 2) := by decide +kernel
theorem dX3_init_23 : decode cX3_init 23 = .ok (.putfield 23, 3) := by decide +kernel
theorem dX3_init_26 : decode cX3_init 26 = .ok (.aload_n 0, 1) := by decide +kernel
theorem dX3_init_27 : decode cX3_init 27 = .ok (.bipush 60, 2) := by decide +kernel
theorem dX3_init_29 : decode cX3_init 29 = .ok (.newarray .int, 2) := by decide +kernel
theorem dX3_init_31 : decode cX3_init 31 = .ok (.putfield 29, 3) := by decide +kernel
theorem dX3_init_34 : decode cX3_init 34 = .ok (.aload_n 0, 1) := by decide +kernel
theorem dX3_init_35 : decode cX3_init 35 = .ok (.iconst 0, 1) := by decide +kernel
theorem dX3_init_36 : decode cX3_init 36 = .ok (.putfield 32, 3) := by decide +kernel
theorem dX3_init_39 : decode cX3_init 39 = .ok (.return_, 1) := by decide +kernel
theorem dX3_turnTo_0 : decode cX3_turnTo 0 = .ok (.aload_n 0, 1) := by decide +kernel
theorem dX3_turnTo_1 : decode cX3_turnTo 1 = .ok (.aload_n 1, 1) := by decide +kernel
theorem dX3_turnTo_2 : decode cX3_turnTo 2 = .ok (.putfield 9, 3) := by decide +kernel
theorem dX3_turnTo_5 : decode cX3_turnTo 5 = .ok (.return_, 1) := by decide +kernel
theorem dX3_goThrough_0 : decode cX3_goThrough 0 = .ok (.aload_n 0, 1) := by decide +kernel
theorem dX3_goThrough_1 : decode cX3_goThrough 1 = .ok (.getfield 23, 3) := by decide +kernel
theorem dX3_goThrough_4 : decode cX3_goThrough 4 = .ok (.iconst 0, 1) := by decide +kernel
theorem dX3_goThrough_5 : decode cX3_goThrough 5 = .ok (.invokestatic 36, 3) := by decide +kernel
theorem dX3_goThrough_8 : decode cX3_goThrough 8 = .ok (.aload_n 0, 1) := by decide +kernel
theorem dX3_goThrough_9 : decode cX3_goThrough 9 = .ok (.iload_n 1, 1) := by decide +kernel
theorem dX3_goThrough_10 : decode cX3_goThrough 10 = .ok (.putfield 32, 3) := by decide +kernel
theorem dX3_goThrough_13 : decode cX3_goThrough 13 = .ok (.aload_n 0, 1) := by decide +kernel
theorem dX3_goThrough_14 : decode cX3_goThrough 14 = .ok (.getfield 9, 3) := by decide +kernel
theorem dX3_goThrough_17 : decode cX3_goThrough 17 = .ok (.getfield 42, 3) := by decide +kernel
theorem dX3_goThrough_20 : decode cX3_goThrough 20 = .ok (.astore_n 2, 1) := by decide +kernel
theorem dX3_goThrough_21 : decode cX3_goThrough 21 = .ok (.iconst 0, 1) := by decide +kernel
theorem dX3_goThrough_22 : decode cX3_goThrough 22 = .ok (.istore_n 3, 1) := by decide +kernel
theorem dX3_goThrough_23 : decode cX3_goThrough 23 = .ok (.iconst 0, 1) := by decide +kernel
theorem dX3_goThrough_24 : decode cX3_goThrough 24 = .ok (.istore 4, 2) := by decide +kernel
theorem dX3_goThrough_26 : decode cX3_goThrough 26 = .ok (.iconst 0, 1) := by decide +kernel
theorem dX3_goThrough_27 : decode cX3_goThrough 27 = .ok (.istore 5, 2) := by decide +kernel
theorem dX3_goThrough_29 : decode cX3_goThrough 29 = .ok (.iload 5, 2) := by decide +kernel
theorem dX3_goThrough_31 : decode cX3_goThrough 31 = .ok (.ldc 48, 2) := by decide +kernel
theorem dX3_goThrough_33 : decode cX3_goThrough 33 = .ok (.if_icmp .ge 70, 3) := by decide +kernel
theorem dX3_goThrough_36 : decode cX3_goThrough 36 = .ok (.iload 4, 2) := by decide +kernel
theorem dX3_goThrough_38 : decode cX3_goThrough 38 = .ok (.aload_n 2, 1) := by decide +kernel
theorem dX3_goThrough_39 : decode cX3_goThrough 39 = .ok (.getfield 49, 3) := by decide +kernel
theorem dX3_goThrough_42 : decode cX3_goThrough 42 = .ok (.if_icmp .ge 61, 3) := by decide +kernel
theorem dX3_goThrough_45 : decode cX3_goThrough 45 = .ok (.aload_n 2, 1) := by decide +kernel
theorem dX3_goThrough_46 : decode cX3_goThrough 46 = .ok (.getfield 52, 3) := by decide +kernel
theorem dX3_goThrough_49 : decode cX3_goThrough 49 = .ok (.iload 4, 2) := by decide +kernel
theorem dX3_goThrough_51 : decode cX3_goThrough 51 = .ok (.iaload, 1) := by decide +kernel
theorem dX3_goThrough_52 : decode cX3_goThrough 52 = .ok (.bipush 10, 2) := by decide +kernel
theorem dX3_goThrough_54 : decode cX3_goThrough 54 = .ok (.if_icmp .ne 15, 3) := by decide +kernel
theorem dX3_goThrough_57 : decode cX3_goThrough 57 = .ok (.aload_n 0, 1) := by decide +kernel
theorem dX3_goThrough_58 : decode cX3_goThrough 58 = .ok (.aload_n 2, 1) := by decide +kernel
theorem dX3_goThrough_59 : decode cX3_goThrough 59 = .ok (.iload 4, 2) := by decide +kernel
theorem dX3_goThrough_61 : decode cX3_goThrough 61 = .ok (.invokevirtual 55, 3) := by decide +kernel
theorem dX3_goThrough_64 : decode cX3_goThrough 64 = .ok (.istore 4, 2) := by decide +kernel
theorem dX3_goThrough_66 : decode cX3_goThrough 66 = .ok (.goto 31, 3) := by decide +kernel
theorem dX3_goThrough_69 : decode cX3_goThrough 69 = .ok (.iload_n 3, 1) := by decide +kernel
theorem dX3_goThrough_70 : decode cX3_goThrough 70 = .ok (.sipush 300, 3) := by decide +kernel
theorem dX3_goThrough_73 : decode cX3_goThrough 73 = .ok (.if_icmp .lt 12, 3) := by decide +kernel
theorem dX3_goThrough_76 : decode cX3_goThrough 76 = .ok (.aload_n 0, 1) := by decide +kernel
theorem dX3_goThrough_77 : decode cX3_goThrough 77 = .ok (.getfield 23, 3) := by decide +kernel
theorem dX3_goThrough_80 : decode cX3_goThrough 80 = .ok (.iconst 4, 1) := by decide +kernel
theorem dX3_goThrough_81 : decode cX3_goThrough 81 = .ok (.iconst 1, 1) := by decide +kernel
theorem dX3_goThrough_82 : decode cX3_goThrough 82 = .ok (.iastore, 1) := by decide +kernel
theorem dX3_goThrough_83 : decode cX3_goThrough 83 = .ok (.iload_n 3, 1) := by decide +kernel
theorem dX3_goThrough_84 : decode cX3_goThrough 84 = .ok (.ireturn, 1) := by decide +kernel
theorem dX3_goThrough_85 : decode cX3_goThrough 85 = .ok (.iinc 3 1, 3) := by decide +kernel
theorem dX3_goThrough_88 : decode cX3_goThrough 88 = .ok (.aload_n 0, 1) := by decide +kernel
theorem dX3_goThrough_89 : decode cX3_goThrough 89 = .ok (.aload_n 2, 1) := by decide +kernel
theorem dX3_goThrough_90 : decode cX3_goThrough 90 = .ok (.iload 4, 2) := by decide +kernel
theorem dX3_goThrough_92 : decode cX3_goThrough 92 = .ok (.invokevirtual 59, 3) := by decide +kernel
theorem dX3_goThrough_95 : decode cX3_goThrough 95 = .ok (.istore 4, 2) := by decide +kernel
theorem dX3_goThrough_97 : decode cX3_goThrough 97 = .ok (.iinc 5 1, 3) := by decide +kernel
theorem dX3_goThrough_100 : decode cX3_goThrough 100 = .ok (.goto (-71), 3) := by decide +kernel
theorem dX3_goThrough_103 : decode cX3_goThrough 103 = .ok (.iload_n 3, 1) := by decide +kernel
theorem dX3_goThrough_104 : decode cX3_goThrough 104 = .ok (.ireturn, 1) := by decide +kernel
theorem dX3_lineBehindEnd_0 : decode cX3_lineBehindEnd 0 = .ok (.aload_n 1, 1) := by decide +kernel
theorem dX3_lineBehindEnd_1 : decode cX3_lineBehindEnd 1 = .ok (.getfield 62, 3) := by decide +kernel
theorem dX3_lineBehindEnd_4 : decode cX3_lineBehindEnd 4 = .ok (.iload_n 2, 1) := by decide +kernel
theorem dX3_lineBehindEnd_5 : decode cX3_lineBehindEnd 5 = .ok (.iaload, 1) := by decide +kernel
theorem dX3_lineBehindEnd_6 : decode cX3_lineBehindEnd 6 = .ok (.istore_n 3, 1) := by decide +kernel
theorem dX3_lineBehindEnd_7 : decode cX3_lineBehindEnd 7 = .ok (.aload_n 1, 1) := by decide +kernel
theorem dX3_lineBehindEnd_8 : decode cX3_lineBehindEnd 8 = .ok (.getfield 52, 3) := by decide +kernel
theorem dX3_lineBehindEnd_11 : decode cX3_lineBehindEnd 11 = .ok (.iload_n 3, 1) := by decide +kernel
theorem dX3_lineBehindEnd_12 : decode cX3_lineBehindEnd 12 = .ok (.iaload, 1) := by decide +kernel
theorem dX3_lineBehindEnd_13 : decode cX3_lineBehindEnd 13 = .ok (.bipush 6, 2) := by decide +kernel
theorem dX3_lineBehindEnd_15 : decode cX3_lineBehindEnd 15 = .ok (.if_icmp .ne 26, 3) := by decide +kernel
theorem dX3_lineBehindEnd_18 : decode cX3_lineBehindEnd 18 = .ok (.aload_n 0, 1) := by decide +kernel
theorem dX3_lineBehindEnd_19 : decode cX3_lineBehindEnd 19 = .ok (.getfield 29, 3) := by decide +kernel
theorem dX3_lineBehindEnd_22 : decode cX3_lineBehindEnd 22 = .ok (.iload_n 3, 1) := by decide +kernel
theorem dX3_lineBehindEnd_23 : decode cX3_lineBehindEnd 23 = .ok (.dup2, 1) := by decide +kernel
theorem dX3_lineBehindEnd_24 : decode cX3_lineBehindEnd 24 = .ok (.iaload, 1) := by decide +kernel
theorem dX3_lineBehindEnd_25 : decode cX3_lineBehindEnd 25 = .ok (.iconst 1, 1) := by decide +kernel
theorem dX3_lineBehindEnd_26 : decode cX3_lineBehindEnd 26 = .ok (.isub, 1) := by decide +kernel
theorem dX3_lineBehindEnd_27 : decode cX3_lineBehindEnd 27 = .ok (.iastore, 1) := by decide +kernel
theorem dX3_lineBehindEnd_28 : decode cX3_lineBehindEnd 28 = .ok (.aload_n 0, 1) := by decide +kernel
theorem dX3_lineBehindEnd_29 : decode cX3_lineBehindEnd 29 = .ok (.getfield 29, 3) := by decide +kernel
theorem dX3_lineBehindEnd_32 : decode cX3_lineBehindEnd 32 = .ok (.iload_n 3, 1) := by decide +kernel
theorem dX3_lineBehindEnd_33 : decode cX3_lineBehindEnd 33 = .ok (.iaload, 1) := by decide +kernel
theorem dX3_lineBehindEnd_34 : decode cX3_lineBehindEnd 34 = .ok (.ifCond .le 7, 3) := by decide +kernel
theorem dX3_lineBehindEnd_37 : decode cX3_lineBehindEnd 37 = .ok (.iload_n 3, 1) := by decide +kernel
theorem dX3_lineBehindEnd_38 : decode cX3_lineBehindEnd 38 = .ok (.iconst 1, 1) := by decide +kernel
theorem dX3_lineBehindEnd_39 : decode cX3_lineBehindEnd 39 = .ok (.iadd, 1) := by decide +kernel
theorem dX3_lineBehindEnd_40 : decode cX3_lineBehindEnd 40 = .ok (.ireturn, 1) := by decide +kernel
theorem dX3_lineBehindEnd_41 : decode cX3_lineBehindEnd 41 = .ok (.iload_n 2, 1) := by decide +kernel
theorem dX3_lineBehindEnd_42 : decode cX3_lineBehindEnd 42 = .ok (.iconst 1, 1) := by decide +kernel
theorem dX3_lineBehindEnd_43 : decode cX3_lineBehindEnd 43 = .ok (.iadd, 1) := by decide +kernel
theorem dX3_lineBehindEnd_44 : decode cX3_lineBehindEnd 44 = .ok (.ireturn, 1) := by decide +kernel
theorem dX3_lineBehindStep_0 : decode cX3_lineBehindStep 0 = .ok (.aload_n 1, 1) := by decide +kernel
theorem dX3_lineBehindStep_1 : decode cX3_lineBehindStep 1 = .ok (.getfield 65, 3) := by decide +kernel
theorem dX3_lineBehindStep_4 : decode cX3_lineBehindStep 4 = .ok (.iload_n 2, 1) := by decide +kernel
theorem dX3_lineBehindStep_5 : decode cX3_lineBehindStep 5 = .ok (.iaload, 1) := by decide +kernel
theorem dX3_lineBehindStep_6 : decode cX3_lineBehindStep 6 = .ok (.istore_n 3, 1) := by decide +kernel
theorem dX3_lineBehindStep_7 : decode cX3_lineBehindStep 7 = .ok (.aload_n 1, 1) := by decide +kernel
theorem dX3_lineBehindStep_8 : decode cX3_lineBehindStep 8 = .ok (.getfield 52, 3) := by decide +kernel
theorem dX3_lineBehindStep_11 : decode cX3_lineBehindStep 11 = .ok (.iload_n 2, 1) := by decide +kernel
theorem dX3_lineBehindStep_12 : decode cX3_lineBehindStep 12 = .ok (.iaload, 1) := by decide +kernel
theorem dX3_lineBehindStep_13 : decode cX3_lineBehindStep 13 = .ok (.tableswitch 117 0 6 #[43, 56, 64, 72, 90, 112, 97], 43) := by decide +kernel
theorem dX3_lineBehindStep_56 : decode cX3_lineBehindStep 56 = .ok (.aload_n 0, 1) := by decide +kernel
theorem dX3_lineBehindStep_57 : decode cX3_lineBehindStep 57 = .ok (.aload_n 1, 1) := by decide +kernel
theorem dX3_lineBehindStep_58 : decode cX3_lineBehindStep 58 = .ok (.getfield 68, 3) := by decide +kernel
theorem dX3_lineBehindStep_61 : decode cX3_lineBehindStep 61 = .ok (.iload_n 2, 1) := by decide +kernel
theorem dX3_lineBehindStep_62 : decode cX3_lineBehindStep 62 = .ok (.iaload, 1) := by decide +kernel
theorem dX3_lineBehindStep_63 : decode cX3_lineBehindStep 63 = .ok (.invokevirtual 71, 3) := by decide +kernel
theorem dX3_lineBehindStep_66 : decode cX3_lineBehindStep 66 = .ok (.goto 88, 3) := by decide +kernel
theorem dX3_lineBehindStep_69 : decode cX3_lineBehindStep 69 = .ok (.aload_n 0, 1) := by decide +kernel
theorem dX3_lineBehindStep_70 : decode cX3_lineBehindStep 70 = .ok (.iload_n 3, 1) := by decide +kernel
theorem dX3_lineBehindStep_71 : decode cX3_lineBehindStep 71 = .ok (.invokevirtual 75, 3) := by decide +kernel
theorem dX3_lineBehindStep_74 : decode cX3_lineBehindStep 74 = .ok (.goto 80, 3) := by decide +kernel
theorem dX3_lineBehindStep_77 : decode cX3_lineBehindStep 77 = .ok (.aload_n 0, 1) := by decide +kernel
theorem dX3_lineBehindStep_78 : decode cX3_lineBehindStep 78 = .ok (.iload_n 3, 1) := by decide +kernel
theorem dX3_lineBehindStep_79 : decode cX3_lineBehindStep 79 = .ok (.invokevirtual 78, 3) := by decide +kernel
theorem dX3_lineBehindStep_82 : decode cX3_lineBehindStep 82 = .ok (.goto 72, 3) := by decide +kernel
theorem dX3_lineBehindStep_85 : decode cX3_lineBehindStep 85 = .ok (.aload_n 0, 1) := by decide +kernel
theorem dX3_lineBehindStep_86 : decode cX3_lineBehindStep 86 = .ok (.getfield 9, 3) := by decide +kernel
theorem dX3_lineBehindStep_89 : decode cX3_lineBehindStep 89 = .ok (.dup, 1) := by decide +kernel
theorem dX3_lineBehindStep_90 : decode cX3_lineBehindStep 90 = .ok (.getfield 81, 3) := by decide +kernel
theorem dX3_lineBehindStep_93 : decode cX3_lineBehindStep 93 = .ok (.iconst 1, 1) := by decide +kernel
theorem dX3_lineBehindStep_94 : decode cX3_lineBehindStep 94 = .ok (.iload_n 3, 1) := by decide +kernel
theorem dX3_lineBehindStep_95 : decode cX3_lineBehindStep 95 = .ok (.ishl, 1) := by decide +kernel
theorem dX3_lineBehindStep_96 : decode cX3_lineBehindStep 96 = .ok (.ixor, 1) := by decide +kernel
theorem dX3_lineBehindStep_97 : decode cX3_lineBehindStep 97 = .ok (.putfield 81, 3) := by decide +kernel
theorem dX3_lineBehindStep_100 : decode cX3_lineBehindStep 100 = .ok (.goto 54, 3) := by decide +kernel
theorem dX3_lineBehindStep_103 : decode cX3_lineBehindStep 103 = .ok (.aload_n 0, 1) := by decide +kernel
theorem dX3_lineBehindStep_104 : decode cX3_lineBehindStep 104 = .ok (.invokevirtual 84, 3) := by decide +kernel
theorem dX3_lineBehindStep_107 : decode cX3_lineBehindStep 107 = .ok (.goto 47, 3) := by decide +kernel
theorem dX3_lineBehindStep_110 : decode cX3_lineBehindStep 110 = .ok (.aload_n 0, 1) := by decide +kernel
theorem dX3_lineBehindStep_111 : decode cX3_lineBehindStep 111 = .ok (.getfield 29, 3) := by decide +kernel
theorem dX3_lineBehindStep_114 : decode cX3_lineBehindStep 114 = .ok (.iload_n 2, 1) := by decide +kernel
theorem dX3_lineBehindStep_115 : decode cX3_lineBehindStep 115 = .ok (.aload_n 1, 1) := by decide +kernel
theorem dX3_lineBehindStep_116 : decode cX3_lineBehindStep 116 = .ok (.getfield 68, 3) := by decide +kernel
theorem dX3_lineBehindStep_119 : decode cX3_lineBehindStep 119 = .ok (.iload_n 2, 1) := by decide +kernel
theorem dX3_lineBehindStep_120 : decode cX3_lineBehindStep 120 = .ok (.iaload, 1) := by decide +kernel
theorem dX3_lineBehindStep_121 : decode cX3_lineBehindStep 121 = .ok (.iastore, 1) := by decide +kernel
theorem dX3_lineBehindStep_122 : decode cX3_lineBehindStep 122 = .ok (.goto 32, 3) := by decide +kernel
theorem dX3_lineBehindStep_125 : decode cX3_lineBehindStep 125 = .ok (.aload_n 1, 1) := by decide +kernel
theorem dX3_lineBehindStep_126 : decode cX3_lineBehindStep 126 = .ok (.getfield 49, 3) := by decide +kernel
theorem dX3_lineBehindStep_129 : decode cX3_lineBehindStep 129 = .ok (.ireturn, 1) := by decide +kernel
theorem dX3_lineBehindStep_130 : decode cX3_lineBehindStep 130 = .ok (.aload_n 0, 1) := by decide +kernel
theorem dX3_lineBehindStep_131 : decode cX3_lineBehindStep 131 = .ok (.aload_n 1, 1) := by decide +kernel
theorem dX3_lineBehindStep_132 : decode cX3_lineBehindStep 132 = .ok (.iload_n 2, 1) := by decide +kernel
theorem dX3_lineBehindStep_133 : decode cX3_lineBehindStep 133 = .ok (.invokevirtual 87, 3) := by decide +kernel
theorem dX3_lineBehindStep_136 : decode cX3_lineBehindStep 136 = .ok (.ifCond .eq 9, 3) := by decide +kernel
theorem dX3_lineBehindStep_139 : decode cX3_lineBehindStep 139 = .ok (.iload_n 2, 1) := by decide +kernel
theorem dX3_lineBehindStep_140 : decode cX3_lineBehindStep 140 = .ok (.iconst 1, 1) := by decide +kernel
theorem dX3_lineBehindStep_141 : decode cX3_lineBehindStep 141 = .ok (.iadd, 1) := by decide +kernel
theorem dX3_lineBehindStep_142 : decode cX3_lineBehindStep 142 = .ok (.goto 11, 3) := by decide +kernel
theorem dX3_lineBehindStep_145 : decode cX3_lineBehindStep 145 = .ok (.aload_n 1, 1) := by decide +kernel
theorem dX3_lineBehindStep_146 : decode cX3_lineBehindStep 146 = .ok (.getfield 62, 3) := by decide +kernel
theorem dX3_lineBehindStep_149 : decode cX3_lineBehindStep 149 = .ok (.iload_n 2, 1) := by decide +kernel
theorem dX3_lineBehindStep_150 : decode cX3_lineBehindStep 150 = .ok (.iaload, 1) := by decide +kernel
theorem dX3_lineBehindStep_151 : decode cX3_lineBehindStep 151 = .ok (.iconst 1, 1) := by decide +kernel
theorem dX3_lineBehindStep_152 : decode cX3_lineBehindStep 152 = .ok (.iadd, 1) := by decide +kernel
theorem dX3_lineBehindStep_153 : decode cX3_lineBehindStep 153 = .ok (.ireturn, 1) := by decide +kernel
theorem dX3_lineBehindStep_154 : decode cX3_lineBehindStep 154 = .ok (.iload_n 2, 1) := by decide +kernel
theorem dX3_lineBehindStep_155 : decode cX3_lineBehindStep 155 = .ok (.iconst 1, 1) := by decide +kernel
theorem dX3_lineBehindStep_156 : decode cX3_lineBehindStep 156 = .ok (.iadd, 1) := by decide +kernel
theorem dX3_lineBehindStep_157 : decode cX3_lineBehindStep 157 = .ok (.ireturn, 1) := by decide +kernel
theorem dX3_passYears_0 : decode cX3_passYears 0 = .ok (.aload_n 0, 1) := by decide +kernel
theorem dX3_passYears_1 : decode cX3_passYears 1 = .ok (.getfield 9, 3) := by decide +kernel
theorem dX3_passYears_4 : decode cX3_passYears 4 = .ok (.getfield 91, 3) := by decide +kernel
theorem dX3_passYears_7 : decode cX3_passYears 7 = .ok (.iload_n 1, 1) := by decide +kernel
theorem dX3_passYears_8 : decode cX3_passYears 8 = .ok (.iadd, 1) := by decide +kernel
theorem dX3_passYears_9 : decode cX3_passYears 9 = .ok (.sipush 9999, 3) := by decide +kernel
theorem dX3_passYears_12 : decode cX3_passYears 12 = .ok (.if_icmp .le 14, 3) := by decide +kernel
theorem dX3_passYears_15 : decode cX3_passYears 15 = .ok (.aload_n 0, 1) := by decide +kernel
theorem dX3_passYears_16 : decode cX3_passYears 16 = .ok (.getfield 23, 3) := by decide +kernel
theorem dX3_passYears_19 : decode cX3_passYears 19 = .ok (.iconst 0, 1) := by decide +kernel
theorem dX3_passYears_20 : decode cX3_passYears 20 = .ok (.dup2, 1) := by decide +kernel
theorem dX3_passYears_21 : decode cX3_passYears 21 = .ok (.iaload, 1) := by decide +kernel
theorem dX3_passYears_22 : decode cX3_passYears 22 = .ok (.iconst 1, 1) := by decide +kernel
theorem dX3_passYears_23 : decode cX3_passYears 23 = .ok (.iadd, 1) := by decide +kernel
theorem dX3_passYears_24 : decode cX3_passYears 24 = .ok (.iastore, 1) := by decide +kernel
theorem dX3_passYears_25 : decode cX3_passYears 25 = .ok (.return_, 1) := by decide +kernel
theorem dX3_passYears_26 : decode cX3_passYears 26 = .ok (.iconst 0, 1) := by decide +kernel
theorem dX3_passYears_27 : decode cX3_passYears 27 = .ok (.istore_n 2, 1) := by decide +kernel
theorem dX3_passYears_28 : decode cX3_passYears 28 = .ok (.iload_n 2, 1) := by decide +kernel
theorem dX3_passYears_29 : decode cX3_passYears 29 = .ok (.iload_n 1, 1) := by decide +kernel
theorem dX3_passYears_30 : decode cX3_passYears 30 = .ok (.if_icmp .ge 64, 3) := by decide +kernel
theorem dX3_passYears_33 : decode cX3_passYears 33 = .ok (.aload_n 0, 1) := by decide +kernel
theorem dX3_passYears_34 : decode cX3_passYears 34 = .ok (.getfield 19, 3) := by decide +kernel
theorem dX3_passYears_37 : decode cX3_passYears 37 = .ok (.aload_n 0, 1) := by decide +kernel
theorem dX3_passYears_38 : decode cX3_passYears 38 = .ok (.getfield 9, 3) := by decide +kernel
theorem dX3_passYears_41 : decode cX3_passYears 41 = .ok (.getfield 94, 3) := by decide +kernel
theorem dX3_passYears_44 : decode cX3_passYears 44 = .ok (.aload_n 0, 1) := by decide +kernel
theorem dX3_passYears_45 : decode cX3_passYears 45 = .ok (.getfield 9, 3) := by decide +kernel
theorem dX3_passYears_48 : decode cX3_passYears 48 = .ok (.getfield 81, 3) := by decide +kernel
theorem dX3_passYears_51 : decode cX3_passYears 51 = .ok (.invokevirtual 97, 3) := by decide +kernel
theorem dX3_passYears_54 : decode cX3_passYears 54 = .ok (.istore_n 3, 1) := by decide +kernel
theorem dX3_passYears_55 : decode cX3_passYears 55 = .ok (.aload_n 0, 1) := by decide +kernel
theorem dX3_passYears_56 : decode cX3_passYears 56 = .ok (.getfield 23, 3) := by decide +kernel
theorem dX3_passYears_59 : decode cX3_passYears 59 = .ok (.iload_n 3, 1) := by decide +kernel
theorem dX3_passYears_60 : decode cX3_passYears 60 = .ok (.aload_n 0, 1) := by decide +kernel
theorem dX3_passYears_61 : decode cX3_passYears 61 = .ok (.getfield 9, 3) := by decide +kernel
theorem dX3_passYears_64 : decode cX3_passYears 64 = .ok (.getfield 94, 3) := by decide +kernel
theorem dX3_passYears_67 : decode cX3_passYears 67 = .ok (.if_icmp .ne 7, 3) := by decide +kernel
theorem dX3_passYears_70 : decode cX3_passYears 70 = .ok (.iconst 0, 1) := by decide +kernel
theorem dX3_passYears_71 : decode cX3_passYears 71 = .ok (.goto 4, 3) := by decide +kernel
theorem dX3_passYears_74 : decode cX3_passYears 74 = .ok (.iconst 2, 1) := by decide +kernel
theorem dX3_passYears_75 : decode cX3_passYears 75 = .ok (.dup2, 1) := by decide +kernel
theorem dX3_passYears_76 : decode cX3_passYears 76 = .ok (.iaload, 1) := by decide +kernel
theorem dX3_passYears_77 : decode cX3_passYears 77 = .ok (.iconst 1, 1) := by decide +kernel
theorem dX3_passYears_78 : decode cX3_passYears 78 = .ok (.iadd, 1) := by decide +kernel
theorem dX3_passYears_79 : decode cX3_passYears 79 = .ok (.iastore, 1) := by decide +kernel
theorem dX3_passYears_80 : decode cX3_passYears 80 = .ok (.aload_n 0, 1) := by decide +kernel
theorem dX3_passYears_81 : decode cX3_passYears 81 = .ok (.getfield 9, 3) := by decide +kernel
theorem dX3_passYears_84 : decode cX3_passYears 84 = .ok (.iload_n 3, 1) := by decide +kernel
theorem dX3_passYears_85 : decode cX3_passYears 85 = .ok (.putfield 94, 3) := by decide +kernel
theorem dX3_passYears_88 : decode cX3_passYears 88 = .ok (.iinc 2 1, 3) := by decide +kernel
theorem dX3_passYears_91 : decode cX3_passYears 91 = .ok (.goto (-63), 3) := by decide +kernel
theorem dX3_passYears_94 : decode cX3_passYears 94 = .ok (.aload_n 0, 1) := by decide +kernel
theorem dX3_passYears_95 : decode cX3_passYears 95 = .ok (.getfield 9, 3) := by decide +kernel
theorem dX3_passYears_98 : decode cX3_passYears 98 = .ok (.dup, 1) := by decide +kernel
theorem dX3_passYears_99 : decode cX3_passYears 99 = .ok (.getfield 91, 3) := by decide +kernel
theorem dX3_passYears_102 : decode cX3_passYears 102 = .ok (.iload_n 1, 1) := by decide +kernel
theorem dX3_passYears_103 : decode cX3_passYears 103 = .ok (.iadd, 1) := by decide +kernel
theorem dX3_passYears_104 : decode cX3_passYears 104 = .ok (.putfield 91, 3) := by decide +kernel
theorem dX3_passYears_107 : decode cX3_passYears 107 = .ok (.aload_n 0, 1) := by decide +kernel
theorem dX3_passYears_108 : decode cX3_passYears 108 = .ok (.getfield 23, 3) := by decide +kernel
theorem dX3_passYears_111 : decode cX3_passYears 111 = .ok (.iconst 1, 1) := by decide +kernel
theorem dX3_passYears_112 : decode cX3_passYears 112 = .ok (.dup2, 1) := by decide +kernel
theorem dX3_passYears_113 : decode cX3_passYears 113 = .ok (.iaload, 1) := by decide +kernel
theorem dX3_passYears_114 : decode cX3_passYears 114 = .ok (.iload_n 1, 1) := by decide +kernel
theorem dX3_passYears_115 : decode cX3_passYears 115 = .ok (.iadd, 1) := by decide +kernel
theorem dX3_passYears_116 : decode cX3_passYears 116 = .ok (.iastore, 1) := by decide +kernel
theorem dX3_passYears_117 : decode cX3_passYears 117 = .ok (.return_, 1) := by decide +kernel
theorem dX3_tryUnmaking_0 : decode cX3_tryUnmaking 0 = .ok (.aload_n 0, 1) := by decide +kernel
theorem dX3_tryUnmaking_1 : decode cX3_tryUnmaking 1 = .ok (.getfield 9, 3) := by decide +kernel
theorem dX3_tryUnmaking_4 : decode cX3_tryUnmaking 4 = .ok (.getfield 94, 3) := by decide +kernel
theorem dX3_tryUnmaking_7 : decode cX3_tryUnmaking 7 = .ok (.aload_n 0, 1) := by decide +kernel
theorem dX3_tryUnmaking_8 : decode cX3_tryUnmaking 8 = .ok (.getfield 9, 3) := by decide +kernel
theorem dX3_tryUnmaking_11 : decode cX3_tryUnmaking 11 = .ok (.getfield 81, 3) := by decide +kernel
theorem dX3_tryUnmaking_14 : decode cX3_tryUnmaking 14 = .ok (.ior, 1) := by decide +kernel
theorem dX3_tryUnmaking_15 : decode cX3_tryUnmaking 15 = .ok (.iload_n 1, 1) := by decide +kernel
theorem dX3_tryUnmaking_16 : decode cX3_tryUnmaking 16 = .ok (.ishr, 1) := by decide +kernel
theorem dX3_tryUnmaking_17 : decode cX3_tryUnmaking 17 = .ok (.iconst 1, 1) := by decide +kernel
theorem dX3_tryUnmaking_18 : decode cX3_tryUnmaking 18 = .ok (.iand, 1) := by decide +kernel
theorem dX3_tryUnmaking_19 : decode cX3_tryUnmaking 19 = .ok (.ifCond .eq 14, 3) := by decide +kernel
theorem dX3_tryUnmaking_22 : decode cX3_tryUnmaking 22 = .ok (.aload_n 0, 1) := by decide +kernel
theorem dX3_tryUnmaking_23 : decode cX3_tryUnmaking 23 = .ok (.getfield 23, 3) := by decide +kernel
theorem dX3_tryUnmaking_26 : decode cX3_tryUnmaking 26 = .ok (.iconst 0, 1) := by decide +kernel
theorem dX3_tryUnmaking_27 : decode cX3_tryUnmaking 27 = .ok (.dup2, 1) := by decide +kernel
theorem dX3_tryUnmaking_28 : decode cX3_tryUnmaking 28 = .ok (.iaload, 1) := by decide +kernel
theorem dX3_tryUnmaking_29 : decode cX3_tryUnmaking 29 = .ok (.iconst 1, 1) := by decide +kernel
theorem dX3_tryUnmaking_30 : decode cX3_tryUnmaking 30 = .ok (.iadd, 1) := by decide +kernel
theorem dX3_tryUnmaking_31 : decode cX3_tryUnmaking 31 = .ok (.iastore, 1) := by decide +kernel
theorem dX3_tryUnmaking_32 : decode cX3_tryUnmaking 32 = .ok (.return_, 1) := by decide +kernel
theorem dX3_tryUnmaking_33 : decode cX3_tryUnmaking 33 = .ok (.aload_n 0, 1) := by decide +kernel
theorem dX3_tryUnmaking_34 : decode cX3_tryUnmaking 34 = .ok (.getfield 9, 3) := by decide +kernel
theorem dX3_tryUnmaking_37 : decode cX3_tryUnmaking 37 = .ok (.dup, 1) := by decide +kernel
theorem dX3_tryUnmaking_38 : decode cX3_tryUnmaking 38 = .ok (.getfield 94, 3) := by decide +kernel
theorem dX3_tryUnmaking_41 : decode cX3_tryUnmaking 41 = .ok (.iconst 1, 1) := by decide +kernel
theorem dX3_tryUnmaking_42 : decode cX3_tryUnmaking 42 = .ok (.iload_n 1, 1) := by decide +kernel
theorem dX3_tryUnmaking_43 : decode cX3_tryUnmaking 43 = .ok (.ishl, 1) := by decide +kernel
theorem dX3_tryUnmaking_44 : decode cX3_tryUnmaking 44 = .ok (.ior, 1) := by decide +kernel
theorem dX3_tryUnmaking_45 : decode cX3_tryUnmaking 45 = .ok (.putfield 94, 3) := by decide +kernel
theorem dX3_tryUnmaking_48 : decode cX3_tryUnmaking 48 = .ok (.aload_n 0, 1) := by decide +kernel
theorem dX3_tryUnmaking_49 : decode cX3_tryUnmaking 49 = .ok (.getfield 23, 3) := by decide +kernel
theorem dX3_tryUnmaking_52 : decode cX3_tryUnmaking 52 = .ok (.iconst 2, 1) := by decide +kernel
theorem dX3_tryUnmaking_53 : decode cX3_tryUnmaking 53 = .ok (.dup2, 1) := by decide +kernel
theorem dX3_tryUnmaking_54 : decode cX3_tryUnmaking 54 = .ok (.iaload, 1) := by decide +kernel
theorem dX3_tryUnmaking_55 : decode cX3_tryUnmaking 55 = .ok (.iconst 1, 1) := by decide +kernel
theorem dX3_tryUnmaking_56 : decode cX3_tryUnmaking 56 = .ok (.iadd, 1) := by decide +kernel
theorem dX3_tryUnmaking_57 : decode cX3_tryUnmaking 57 = .ok (.iastore, 1) := by decide +kernel
theorem dX3_tryUnmaking_58 : decode cX3_tryUnmaking 58 = .ok (.return_, 1) := by decide +kernel
theorem dX3_tryRemaking_0 : decode cX3_tryRemaking 0 = .ok (.aload_n 0, 1) := by decide +kernel
theorem dX3_tryRemaking_1 : decode cX3_tryRemaking 1 = .ok (.getfield 9, 3) := by decide +kernel
theorem dX3_tryRemaking_4 : decode cX3_tryRemaking 4 = .ok (.getfield 94, 3) := by decide +kernel
theorem dX3_tryRemaking_7 : decode cX3_tryRemaking 7 = .ok (.iload_n 1, 1) := by decide +kernel
theorem dX3_tryRemaking_8 : decode cX3_tryRemaking 8 = .ok (.ishr, 1) := by decide +kernel
theorem dX3_tryRemaking_9 : decode cX3_tryRemaking 9 = .ok (.iconst 1, 1) := by decide +kernel
theorem dX3_tryRemaking_10 : decode cX3_tryRemaking 10 = .ok (.iand, 1) := by decide +kernel
theorem dX3_tryRemaking_11 : decode cX3_tryRemaking 11 = .ok (.ifCond .ne 14, 3) := by decide +kernel
theorem dX3_tryRemaking_14 : decode cX3_tryRemaking 14 = .ok (.aload_n 0, 1) := by decide +kernel
theorem dX3_tryRemaking_15 : decode cX3_tryRemaking 15 = .ok (.getfield 23, 3) := by decide +kernel
theorem dX3_tryRemaking_18 : decode cX3_tryRemaking 18 = .ok (.iconst 0, 1) := by decide +kernel
theorem dX3_tryRemaking_19 : decode cX3_tryRemaking 19 = .ok (.dup2, 1) := by decide +kernel
theorem dX3_tryRemaking_20 : decode cX3_tryRemaking 20 = .ok (.iaload, 1) := by decide +kernel
theorem dX3_tryRemaking_21 : decode cX3_tryRemaking 21 = .ok (.iconst 1, 1) := by decide +kernel
theorem dX3_tryRemaking_22 : decode cX3_tryRemaking 22 = .ok (.iadd, 1) := by decide +kernel
theorem dX3_tryRemaking_23 : decode cX3_tryRemaking 23 = .ok (.iastore, 1) := by decide +kernel
theorem dX3_tryRemaking_24 : decode cX3_tryRemaking 24 = .ok (.return_, 1) := by decide +kernel
theorem dX3_tryRemaking_25 : decode cX3_tryRemaking 25 = .ok (.aload_n 0, 1) := by decide +kernel
theorem dX3_tryRemaking_26 : decode cX3_tryRemaking 26 = .ok (.getfield 9, 3) := by decide +kernel
theorem dX3_tryRemaking_29 : decode cX3_tryRemaking 29 = .ok (.dup, 1) := by decide +kernel
theorem dX3_tryRemaking_30 : decode cX3_tryRemaking 30 = .ok (.getfield 94, 3) := by decide +kernel
theorem dX3_tryRemaking_33 : decode cX3_tryRemaking 33 = .ok (.iconst 1, 1) := by decide +kernel
theorem dX3_tryRemaking_34 : decode cX3_tryRemaking 34 = .ok (.iload_n 1, 1) := by decide +kernel
theorem dX3_tryRemaking_35 : decode cX3_tryRemaking 35 = .ok (.ishl, 1) := by decide +kernel
theorem dX3_tryRemaking_36 : decode cX3_tryRemaking 36 = .ok (.iconst (-1), 1) := by decide +kernel
theorem dX3_tryRemaking_37 : decode cX3_tryRemaking 37 = .ok (.ixor, 1) := by decide +kernel
theorem dX3_tryRemaking_38 : decode cX3_tryRemaking 38 = .ok (.iand, 1) := by decide +kernel
theorem dX3_tryRemaking_39 : decode cX3_tryRemaking 39 = .ok (.putfield 94, 3) := by decide +kernel
theorem dX3_tryRemaking_42 : decode cX3_tryRemaking 42 = .ok (.return_, 1) := by decide +kernel
theorem dX3_tryJoking_0 : decode cX3_tryJoking 0 = .ok (.aload_n 0, 1) := by decide +kernel
theorem dX3_tryJoking_1 : decode cX3_tryJoking 1 = .ok (.getfield 19, 3) := by decide +kernel
theorem dX3_tryJoking_4 : decode cX3_tryJoking 4 = .ok (.invokevirtual 103, 3) := by decide +kernel
theorem dX3_tryJoking_7 : decode cX3_tryJoking 7 = .ok (.istore_n 1, 1) := by decide +kernel
theorem dX3_tryJoking_8 : decode cX3_tryJoking 8 = .ok (.iload_n 1, 1) := by decide +kernel
theorem dX3_tryJoking_9 : decode cX3_tryJoking 9 = .ok (.invokestatic 107, 3) := by decide +kernel
theorem dX3_tryJoking_12 : decode cX3_tryJoking 12 = .ok (.istore_n 2, 1) := by decide +kernel
theorem dX3_tryJoking_13 : decode cX3_tryJoking 13 = .ok (.iload_n 2, 1) := by decide +kernel
theorem dX3_tryJoking_14 : decode cX3_tryJoking 14 = .ok (.ifCond .ne 14, 3) := by decide +kernel
theorem dX3_tryJoking_17 : decode cX3_tryJoking 17 = .ok (.aload_n 0, 1) := by decide +kernel
theorem dX3_tryJoking_18 : decode cX3_tryJoking 18 = .ok (.getfield 23, 3) := by decide +kernel
theorem dX3_tryJoking_21 : decode cX3_tryJoking 21 = .ok (.iconst 0, 1) := by decide +kernel
theorem dX3_tryJoking_22 : decode cX3_tryJoking 22 = .ok (.dup2, 1) := by decide +kernel
theorem dX3_tryJoking_23 : decode cX3_tryJoking 23 = .ok (.iaload, 1) := by decide +kernel
theorem dX3_tryJoking_24 : decode cX3_tryJoking 24 = .ok (.iconst 1, 1) := by decide +kernel
theorem dX3_tryJoking_25 : decode cX3_tryJoking 25 = .ok (.iadd, 1) := by decide +kernel
theorem dX3_tryJoking_26 : decode cX3_tryJoking 26 = .ok (.iastore, 1) := by decide +kernel
theorem dX3_tryJoking_27 : decode cX3_tryJoking 27 = .ok (.return_, 1) := by decide +kernel
theorem dX3_tryJoking_28 : decode cX3_tryJoking 28 = .ok (.aload_n 0, 1) := by decide +kernel
theorem dX3_tryJoking_29 : decode cX3_tryJoking 29 = .ok (.iload_n 2, 1) := by decide +kernel
theorem dX3_tryJoking_30 : decode cX3_tryJoking 30 = .ok (.invokevirtual 113, 3) := by decide +kernel
theorem dX3_tryJoking_33 : decode cX3_tryJoking 33 = .ok (.istore_n 3, 1) := by decide +kernel
theorem dX3_tryJoking_34 : decode cX3_tryJoking 34 = .ok (.iconst 0, 1) := by decide +kernel
theorem dX3_tryJoking_35 : decode cX3_tryJoking 35 = .ok (.istore 4, 2) := by decide +kernel
theorem dX3_tryJoking_37 : decode cX3_tryJoking 37 = .ok (.iload 4, 2) := by decide +kernel
theorem dX3_tryJoking_39 : decode cX3_tryJoking 39 = .ok (.aload_n 0, 1) := by decide +kernel
theorem dX3_tryJoking_40 : decode cX3_tryJoking 40 = .ok (.getfield 9, 3) := by decide +kernel
theorem dX3_tryJoking_43 : decode cX3_tryJoking 43 = .ok (.getfield 116, 3) := by decide +kernel
theorem dX3_tryJoking_46 : decode cX3_tryJoking 46 = .ok (.if_icmp .ge 41, 3) := by decide +kernel
theorem dX3_tryJoking_49 : decode cX3_tryJoking 49 = .ok (.iload_n 1, 1) := by decide +kernel
theorem dX3_tryJoking_50 : decode cX3_tryJoking 50 = .ok (.iload 4, 2) := by decide +kernel
theorem dX3_tryJoking_52 : decode cX3_tryJoking 52 = .ok (.ishr, 1) := by decide +kernel
theorem dX3_tryJoking_53 : decode cX3_tryJoking 53 = .ok (.iconst 1, 1) := by decide +kernel
theorem dX3_tryJoking_54 : decode cX3_tryJoking 54 = .ok (.iand, 1) := by decide +kernel
theorem dX3_tryJoking_55 : decode cX3_tryJoking 55 = .ok (.ifCond .eq 26, 3) := by decide +kernel
theorem dX3_tryJoking_58 : decode cX3_tryJoking 58 = .ok (.iload_n 3, 1) := by decide +kernel
theorem dX3_tryJoking_59 : decode cX3_tryJoking 59 = .ok (.ifCond .ne 19, 3) := by decide +kernel
theorem dX3_tryJoking_62 : decode cX3_tryJoking 62 = .ok (.aload_n 0, 1) := by decide +kernel
theorem dX3_tryJoking_63 : decode cX3_tryJoking 63 = .ok (.getfield 9, 3) := by decide +kernel
theorem dX3_tryJoking_66 : decode cX3_tryJoking 66 = .ok (.dup, 1) := by decide +kernel
theorem dX3_tryJoking_67 : decode cX3_tryJoking 67 = .ok (.getfield 94, 3) := by decide +kernel
theorem dX3_tryJoking_70 : decode cX3_tryJoking 70 = .ok (.iconst 1, 1) := by decide +kernel
theorem dX3_tryJoking_71 : decode cX3_tryJoking 71 = .ok (.iload 4, 2) := by decide +kernel
theorem dX3_tryJoking_73 : decode cX3_tryJoking 73 = .ok (.ishl, 1) := by decide +kernel
theorem dX3_tryJoking_74 : decode cX3_tryJoking 74 = .ok (.ior, 1) := by decide +kernel
theorem dX3_tryJoking_75 : decode cX3_tryJoking 75 = .ok (.putfield 94, 3) := by decide +kernel
theorem dX3_tryJoking_78 : decode cX3_tryJoking 78 = .ok (.iinc 3 (-1), 3) := by decide +kernel
theorem dX3_tryJoking_81 : decode cX3_tryJoking 81 = .ok (.iinc 4 1, 3) := by decide +kernel
theorem dX3_tryJoking_84 : decode cX3_tryJoking 84 = .ok (.goto (-47), 3) := by decide +kernel
theorem dX3_tryJoking_87 : decode cX3_tryJoking 87 = .ok (.aload_n 0, 1) := by decide +kernel
theorem dX3_tryJoking_88 : decode cX3_tryJoking 88 = .ok (.getfield 23, 3) := by decide +kernel
theorem dX3_tryJoking_91 : decode cX3_tryJoking 91 = .ok (.iconst 2, 1) := by decide +kernel
theorem dX3_tryJoking_92 : decode cX3_tryJoking 92 = .ok (.dup2, 1) := by decide +kernel
theorem dX3_tryJoking_93 : decode cX3_tryJoking 93 = .ok (.iaload, 1) := by decide +kernel
theorem dX3_tryJoking_94 : decode cX3_tryJoking 94 = .ok (.iconst 1, 1) := by decide +kernel
theorem dX3_tryJoking_95 : decode cX3_tryJoking 95 = .ok (.iadd, 1) := by decide +kernel
theorem dX3_tryJoking_96 : decode cX3_tryJoking 96 = .ok (.iastore, 1) := by decide +kernel
theorem dX3_tryJoking_97 : decode cX3_tryJoking 97 = .ok (.aload_n 0, 1) := by decide +kernel
theorem dX3_tryJoking_98 : decode cX3_tryJoking 98 = .ok (.getfield 23, 3) := by decide +kernel
theorem dX3_tryJoking_101 : decode cX3_tryJoking 101 = .ok (.iconst 3, 1) := by decide +kernel
theorem dX3_tryJoking_102 : decode cX3_tryJoking 102 = .ok (.dup2, 1) := by decide +kernel
theorem dX3_tryJoking_103 : decode cX3_tryJoking 103 = .ok (.iaload, 1) := by decide +kernel
theorem dX3_tryJoking_104 : decode cX3_tryJoking 104 = .ok (.iconst 1, 1) := by decide +kernel
theorem dX3_tryJoking_105 : decode cX3_tryJoking 105 = .ok (.iadd, 1) := by decide +kernel
theorem dX3_tryJoking_106 : decode cX3_tryJoking 106 = .ok (.iastore, 1) := by decide +kernel
theorem dX3_tryJoking_107 : decode cX3_tryJoking 107 = .ok (.return_, 1) := by decide +kernel
theorem dX3_draw_0 : decode cX3_draw 0 = .ok (.aload_n 0, 1) := by decide +kernel
theorem dX3_draw_1 : decode cX3_draw 1 = .ok (.aload_n 0, 1) := by decide +kernel
theorem dX3_draw_2 : decode cX3_draw 2 = .ok (.getfield 32, 3) := by decide +kernel
theorem dX3_draw_5 : decode cX3_draw 5 = .ok (.sipush 2971, 3) := by decide +kernel
theorem dX3_draw_8 : decode cX3_draw 8 = .ok (.imul, 1) := by decide +kernel
theorem dX3_draw_9 : decode cX3_draw 9 = .ok (.sipush 10663, 3) := by decide +kernel
theorem dX3_draw_12 : decode cX3_draw 12 = .ok (.iadd, 1) := by decide +kernel
theorem dX3_draw_13 : decode cX3_draw 13 = .ok (.ldc 119, 2) := by decide +kernel
theorem dX3_draw_15 : decode cX3_draw 15 = .ok (.irem, 1) := by decide +kernel
theorem dX3_draw_16 : decode cX3_draw 16 = .ok (.putfield 32, 3) := by decide +kernel
theorem dX3_draw_19 : decode cX3_draw 19 = .ok (.iload_n 1, 1) := by decide +kernel
theorem dX3_draw_20 : decode cX3_draw 20 = .ok (.ifCond .le 15, 3) := by decide +kernel
theorem dX3_draw_23 : decode cX3_draw 23 = .ok (.aload_n 0, 1) := by decide +kernel
theorem dX3_draw_24 : decode cX3_draw 24 = .ok (.getfield 32, 3) := by decide +kernel
theorem dX3_draw_27 : decode cX3_draw 27 = .ok (.bipush 8, 2) := by decide +kernel
theorem dX3_draw_29 : decode cX3_draw 29 = .ok (.idiv, 1) := by decide +kernel
theorem dX3_draw_30 : decode cX3_draw 30 = .ok (.iload_n 1, 1) := by decide +kernel
theorem dX3_draw_31 : decode cX3_draw 31 = .ok (.irem, 1) := by decide +kernel
theorem dX3_draw_32 : decode cX3_draw 32 = .ok (.goto 4, 3) := by decide +kernel
theorem dX3_draw_35 : decode cX3_draw 35 = .ok (.iconst 0, 1) := by decide +kernel
theorem dX3_draw_36 : decode cX3_draw 36 = .ok (.ireturn, 1) := by decide +kernel
theorem dX3_isSo_0 : decode cX3_isSo 0 = .ok (.aload_n 1, 1) := by decide +kernel
theorem dX3_isSo_1 : decode cX3_isSo 1 = .ok (.getfield 65, 3) := by decide +kernel
theorem dX3_isSo_4 : decode cX3_isSo 4 = .ok (.iload_n 2, 1) := by decide +kernel
theorem dX3_isSo_5 : decode cX3_isSo 5 = .ok (.iaload, 1) := by decide +kernel
theorem dX3_isSo_6 : decode cX3_isSo 6 = .ok (.istore_n 3, 1) := by decide +kernel
theorem dX3_isSo_7 : decode cX3_isSo 7 = .ok (.aload_n 0, 1) := by decide +kernel
theorem dX3_isSo_8 : decode cX3_isSo 8 = .ok (.getfield 15, 3) := by decide +kernel
theorem dX3_isSo_11 : decode cX3_isSo 11 = .ok (.invokevirtual 120, 3) := by decide +kernel
theorem dX3_isSo_14 : decode cX3_isSo 14 = .ok (.istore 4, 2) := by decide +kernel
theorem dX3_isSo_16 : decode cX3_isSo 16 = .ok (.aload_n 1, 1) := by decide +kernel
theorem dX3_isSo_17 : decode cX3_isSo 17 = .ok (.getfield 52, 3) := by decide +kernel
theorem dX3_isSo_20 : decode cX3_isSo 20 = .ok (.iload_n 2, 1) := by decide +kernel
theorem dX3_isSo_21 : decode cX3_isSo 21 = .ok (.iaload, 1) := by decide +kernel
theorem dX3_isSo_22 : decode cX3_isSo 22 = .ok (.bipush 7, 2) := by decide +kernel
theorem dX3_isSo_24 : decode cX3_isSo 24 = .ok (.if_icmp .ne 18, 3) := by decide +kernel
theorem dX3_isSo_27 : decode cX3_isSo 27 = .ok (.iload 4, 2) := by decide +kernel
theorem dX3_isSo_29 : decode cX3_isSo 29 = .ok (.iload_n 3, 1) := by decide +kernel
theorem dX3_isSo_30 : decode cX3_isSo 30 = .ok (.ishr, 1) := by decide +kernel
theorem dX3_isSo_31 : decode cX3_isSo 31 = .ok (.iconst 1, 1) := by decide +kernel
theorem dX3_isSo_32 : decode cX3_isSo 32 = .ok (.iand, 1) := by decide +kernel
theorem dX3_isSo_33 : decode cX3_isSo 33 = .ok (.ifCond .eq 7, 3) := by decide +kernel
theorem dX3_isSo_36 : decode cX3_isSo 36 = .ok (.iconst 1, 1) := by decide +kernel
theorem dX3_isSo_37 : decode cX3_isSo 37 = .ok (.goto 4, 3) := by decide +kernel
theorem dX3_isSo_40 : decode cX3_isSo 40 = .ok (.iconst 0, 1) := by decide +kernel
theorem dX3_isSo_41 : decode cX3_isSo 41 = .ok (.ireturn, 1) := by decide +kernel
theorem dX3_isSo_42 : decode cX3_isSo 42 = .ok (.aload_n 1, 1) := by decide +kernel
theorem dX3_isSo_43 : decode cX3_isSo 43 = .ok (.getfield 52, 3) := by decide +kernel
theorem dX3_isSo_46 : decode cX3_isSo 46 = .ok (.iload_n 2, 1) := by decide +kernel
theorem dX3_isSo_47 : decode cX3_isSo 47 = .ok (.iaload, 1) := by decide +kernel
theorem dX3_isSo_48 : decode cX3_isSo 48 = .ok (.bipush 8, 2) := by decide +kernel
theorem dX3_isSo_50 : decode cX3_isSo 50 = .ok (.if_icmp .ne 25, 3) := by decide +kernel
theorem dX3_isSo_53 : decode cX3_isSo 53 = .ok (.aload_n 0, 1) := by decide +kernel
theorem dX3_isSo_54 : decode cX3_isSo 54 = .ok (.getfield 15, 3) := by decide +kernel
theorem dX3_isSo_57 : decode cX3_isSo 57 = .ok (.iload 4, 2) := by decide +kernel
theorem dX3_isSo_59 : decode cX3_isSo 59 = .ok (.invokevirtual 125, 3) := by decide +kernel
theorem dX3_isSo_62 : decode cX3_isSo 62 = .ok (.iload_n 3, 1) := by decide +kernel
theorem dX3_isSo_63 : decode cX3_isSo 63 = .ok (.ishr, 1) := by decide +kernel
theorem dX3_isSo_64 : decode cX3_isSo 64 = .ok (.iconst 1, 1) := by decide +kernel
theorem dX3_isSo_65 : decode cX3_isSo 65 = .ok (.iand, 1) := by decide +kernel
theorem dX3_isSo_66 : decode cX3_isSo 66 = .ok (.ifCond .eq 7, 3) := by decide +kernel
theorem dX3_isSo_69 : decode cX3_isSo 69 = .ok (.iconst 1, 1) := by decide +kernel
theorem dX3_isSo_70 : decode cX3_isSo 70 = .ok (.goto 4, 3) := by decide +kernel
theorem dX3_isSo_73 : decode cX3_isSo 73 = .ok (.iconst 0, 1) := by decide +kernel
theorem dX3_isSo_74 : decode cX3_isSo 74 = .ok (.ireturn, 1) := by decide +kernel
theorem dX3_isSo_75 : decode cX3_isSo 75 = .ok (.iload 4, 2) := by decide +kernel
theorem dX3_isSo_77 : decode cX3_isSo 77 = .ok (.aload_n 0, 1) := by decide +kernel
theorem dX3_isSo_78 : decode cX3_isSo 78 = .ok (.getfield 9, 3) := by decide +kernel
theorem dX3_isSo_81 : decode cX3_isSo 81 = .ok (.getfield 81, 3) := by decide +kernel
theorem dX3_isSo_84 : decode cX3_isSo 84 = .ok (.iconst (-1), 1) := by decide +kernel
theorem dX3_isSo_85 : decode cX3_isSo 85 = .ok (.ixor, 1) := by decide +kernel
theorem dX3_isSo_86 : decode cX3_isSo 86 = .ok (.iand, 1) := by decide +kernel
theorem dX3_isSo_87 : decode cX3_isSo 87 = .ok (.iload_n 3, 1) := by decide +kernel
theorem dX3_isSo_88 : decode cX3_isSo 88 = .ok (.ishr, 1) := by decide +kernel
theorem dX3_isSo_89 : decode cX3_isSo 89 = .ok (.iconst 1, 1) := by decide +kernel
theorem dX3_isSo_90 : decode cX3_isSo 90 = .ok (.iand, 1) := by decide +kernel
theorem dX3_isSo_91 : decode cX3_isSo 91 = .ok (.ifCond .eq 14, 3) := by decide +kernel
theorem dX3_isSo_94 : decode cX3_isSo 94 = .ok (.aload_n 0, 1) := by decide +kernel
theorem dX3_isSo_95 : decode cX3_isSo 95 = .ok (.getfield 19, 3) := by decide +kernel
theorem dX3_isSo_98 : decode cX3_isSo 98 = .ok (.iload_n 3, 1) := by decide +kernel
theorem dX3_isSo_99 : decode cX3_isSo 99 = .ok (.invokevirtual 128, 3) := by decide +kernel
theorem dX3_isSo_102 : decode cX3_isSo 102 = .ok (.goto 4, 3) := by decide +kernel
theorem dX3_isSo_105 : decode cX3_isSo 105 = .ok (.iconst 0, 1) := by decide +kernel
theorem dX3_isSo_106 : decode cX3_isSo 106 = .ok (.istore 5, 2) := by decide +kernel
theorem dX3_isSo_108 : decode cX3_isSo 108 = .ok (.aload_n 1, 1) := by decide +kernel
theorem dX3_isSo_109 : decode cX3_isSo 109 = .ok (.getfield 68, 3) := by decide +kernel
theorem dX3_isSo_112 : decode cX3_isSo 112 = .ok (.iload_n 2, 1) := by decide +kernel
theorem dX3_isSo_113 : decode cX3_isSo 113 = .ok (.iaload, 1) := by decide +kernel
theorem dX3_isSo_114 : decode cX3_isSo 114 = .ok (.istore 6, 2) := by decide +kernel
theorem dX3_isSo_116 : decode cX3_isSo 116 = .ok (.aload_n 1, 1) := by decide +kernel
theorem dX3_isSo_117 : decode cX3_isSo 117 = .ok (.getfield 131, 3) := by decide +kernel
theorem dX3_isSo_120 : decode cX3_isSo 120 = .ok (.iload_n 2, 1) := by decide +kernel
theorem dX3_isSo_121 : decode cX3_isSo 121 = .ok (.iaload, 1) := by decide +kernel
theorem dX3_isSo_122 : decode cX3_isSo 122 = .ok (.lookupswitch 52 #[(60, 26), (62, 39)], 26) := by decide +kernel
theorem dX3_isSo_148 : decode cX3_isSo 148 = .ok (.iload 5, 2) := by decide +kernel
theorem dX3_isSo_150 : decode cX3_isSo 150 = .ok (.iload 6, 2) := by decide +kernel
theorem dX3_isSo_152 : decode cX3_isSo 152 = .ok (.if_icmp .ge 7, 3) := by decide +kernel
theorem dX3_isSo_155 : decode cX3_isSo 155 = .ok (.iconst 1, 1) := by decide +kernel
theorem dX3_isSo_156 : decode cX3_isSo 156 = .ok (.goto 4, 3) := by decide +kernel
theorem dX3_isSo_159 : decode cX3_isSo 159 = .ok (.iconst 0, 1) := by decide +kernel
theorem dX3_isSo_160 : decode cX3_isSo 160 = .ok (.ireturn, 1) := by decide +kernel
theorem dX3_isSo_161 : decode cX3_isSo 161 = .ok (.iload 5, 2) := by decide +kernel
theorem dX3_isSo_163 : decode cX3_isSo 163 = .ok (.iload 6, 2) := by decide +kernel
theorem dX3_isSo_165 : decode cX3_isSo 165 = .ok (.if_icmp .le 7, 3) := by decide +kernel
theorem dX3_isSo_168 : decode cX3_isSo 168 = .ok (.iconst 1, 1) := by decide +kernel
theorem dX3_isSo_169 : decode cX3_isSo 169 = .ok (.goto 4, 3) := by decide +kernel
theorem dX3_isSo_172 : decode cX3_isSo 172 = .ok (.iconst 0, 1) := by decide +kernel
theorem dX3_isSo_173 : decode cX3_isSo 173 = .ok (.ireturn, 1) := by decide +kernel
theorem dX3_isSo_174 : decode cX3_isSo 174 = .ok (.iload 5, 2) := by decide +kernel
theorem dX3_isSo_176 : decode cX3_isSo 176 = .ok (.iload 6, 2) := by decide +kernel
theorem dX3_isSo_178 : decode cX3_isSo 178 = .ok (.if_icmp .ne 7, 3) := by decide +kernel
theorem dX3_isSo_181 : decode cX3_isSo 181 = .ok (.iconst 1, 1) := by decide +kernel
theorem dX3_isSo_182 : decode cX3_isSo 182 = .ok (.goto 4, 3) := by decide +kernel
theorem dX3_isSo_185 : decode cX3_isSo 185 = .ok (.iconst 0, 1) := by decide +kernel
theorem dX3_isSo_186 : decode cX3_isSo 186 = .ok (.ireturn, 1) := by decide +kernel
theorem dX4_init_0 : decode cX4_init 0 = .ok (.aload_n 0, 1) := by decide +kernel
theorem dX4_init_1 : decode cX4_init 1 = .ok (.invokespecial 3, 3) := by decide +kernel
theorem dX4_init_4 : decode cX4_init 4 = .ok (.aload_n 0, 1) := by decide +kernel
theorem dX4_init_5 : decode cX4_init 5 = .ok (.aload_n 1, 1) := by decide +kernel
theorem dX4_init_6 : decode cX4_init 6 = .ok (.putfield 9, 3) := by decide +kernel
theorem dX4_init_9 : decode cX4_init 9 = .ok (.aload_n 0, 1) := by decide +kernel
theorem dX4_init_10 : decode cX4_init 10 = .ok (.aload_n 2, 1) := by decide +kernel
theorem dX4_init_11 : decode cX4_init 11 = .ok (.putfield 15, 3) := by decide +kernel
theorem dX4_init_14 : decode cX4_init 14 = .ok (.aload_n 0, 1) := by decide +kernel
theorem dX4_init_15 : decode cX4_init 15 = .ok (.aload_n 3, 1) := by decide +kernel
theorem dX4_init_16 : decode cX4_init 16 = .ok (.putfield 19, 3) := by decide +kernel
theorem dX4_init_19 : decode cX4_init 19 = .ok (.aload_n 0, 1) := by decide +kernel
theorem dX4_init_20 : decode cX4_init 20 = .ok (.bipush 12, 2) := by decide +kernel
theorem dX4_init_22 : decode cX4_init 22 = .ok (.newarray .int, 2) := by decide +kernel
theorem dX4_init_24 : decode cX4_init 24 = .ok (.putfield 23, 3) := by decide +kernel
theorem dX4_init_27 : decode cX4_init 27 = .ok (.return_, 1) := by decide +kernel
theorem dX4_turnTo_0 : decode cX4_turnTo 0 = .ok (.aload_n 0, 1) := by decide +kernel
theorem dX4_turnTo_1 : decode cX4_turnTo 1 = .ok (.aload_n 1, 1) := by decide +kernel
theorem dX4_turnTo_2 : decode cX4_turnTo 2 = .ok (.putfield 9, 3) := by decide +kernel
theorem dX4_turnTo_5 : decode cX4_turnTo 5 = .ok (.return_, 1) := by decide +kernel
theorem dX4_causesOf_0 : decode cX4_causesOf 0 = .ok (.aload_n 0, 1) := by decide +kernel
theorem dX4_causesOf_1 : decode cX4_causesOf 1 = .ok (.getfield 15, 3) := by decide +kernel
theorem dX4_causesOf_4 : decode cX4_causesOf 4 = .ok (.invokevirtual 26, 3) := by decide +kernel
theorem dX4_causesOf_7 : decode cX4_causesOf 7 = .ok (.istore_n 2, 1) := by decide +kernel
theorem dX4_causesOf_8 : decode cX4_causesOf 8 = .ok (.iconst 0, 1) := by decide +kernel
theorem dX4_causesOf_9 : decode cX4_causesOf 9 = .ok (.istore_n 3, 1) := by decide +kernel
theorem dX4_causesOf_10 : decode cX4_causesOf 10 = .ok (.iconst 0, 1) := by decide +kernel
theorem dX4_causesOf_11 : decode cX4_causesOf 11 = .ok (.istore 4, 2) := by decide +kernel
theorem dX4_causesOf_13 : decode cX4_causesOf 13 = .ok (.iload 4, 2) := by decide +kernel
theorem dX4_causesOf_15 : decode cX4_causesOf 15 = .ok (.aload_n 0, 1) := by decide +kernel
theorem dX4_causesOf_16 : decode cX4_causesOf 16 = .ok (.getfield 9, 3) := by decide +kernel
theorem dX4_causesOf_19 : decode cX4_causesOf 19 = .ok (.getfield 32, 3) := by decide +kernel
theorem dX4_causesOf_22 : decode cX4_causesOf 22 = .ok (.if_icmp .ge 38, 3) := by decide +kernel
theorem dX4_causesOf_25 : decode cX4_causesOf 25 = .ok (.iload_n 2, 1) := by decide +kernel
theorem dX4_causesOf_26 : decode cX4_causesOf 26 = .ok (.iload 4, 2) := by decide +kernel
theorem dX4_causesOf_28 : decode cX4_causesOf 28 = .ok (.ishr, 1) := by decide +kernel
theorem dX4_causesOf_29 : decode cX4_causesOf 29 = .ok (.iconst 1, 1) := by decide +kernel
theorem dX4_causesOf_30 : decode cX4_causesOf 30 = .ok (.iand, 1) := by decide +kernel
theorem dX4_causesOf_31 : decode cX4_causesOf 31 = .ok (.ifCond .eq 23, 3) := by decide +kernel
theorem dX4_causesOf_34 : decode cX4_causesOf 34 = .ok (.aload_n 0, 1) := by decide +kernel
theorem dX4_causesOf_35 : decode cX4_causesOf 35 = .ok (.getfield 15, 3) := by decide +kernel
theorem dX4_causesOf_38 : decode cX4_causesOf 38 = .ok (.iload 4, 2) := by decide +kernel
theorem dX4_causesOf_40 : decode cX4_causesOf 40 = .ok (.invokevirtual 38, 3) := by decide +kernel
theorem dX4_causesOf_43 : decode cX4_causesOf 43 = .ok (.iload_n 1, 1) := by decide +kernel
theorem dX4_causesOf_44 : decode cX4_causesOf 44 = .ok (.if_icmp .ne 10, 3) := by decide +kernel
theorem dX4_causesOf_47 : decode cX4_causesOf 47 = .ok (.iload_n 3, 1) := by decide +kernel
theorem dX4_causesOf_48 : decode cX4_causesOf 48 = .ok (.iconst 1, 1) := by decide +kernel
theorem dX4_causesOf_49 : decode cX4_causesOf 49 = .ok (.iload 4, 2) := by decide +kernel
theorem dX4_causesOf_51 : decode cX4_causesOf 51 = .ok (.ishl, 1) := by decide +kernel
theorem dX4_causesOf_52 : decode cX4_causesOf 52 = .ok (.ior, 1) := by decide +kernel
theorem dX4_causesOf_53 : decode cX4_causesOf 53 = .ok (.istore_n 3, 1) := by decide +kernel
theorem dX4_causesOf_54 : decode cX4_causesOf 54 = .ok (.iinc 4 1, 3) := by decide +kernel
theorem dX4_causesOf_57 : decode cX4_causesOf 57 = .ok (.goto (-44), 3) := by decide +kernel
theorem dX4_causesOf_60 : decode cX4_causesOf 60 = .ok (.iload_n 3, 1) := by decide +kernel
theorem dX4_causesOf_61 : decode cX4_causesOf 61 = .ok (.ireturn, 1) := by decide +kernel
theorem dX4_findFelling_0 : decode cX4_findFelling 0 = .ok (.aload_n 0, 1) := by decide +kernel
theorem dX4_findFelling_1 : decode cX4_findFelling 1 = .ok (.getfield 23, 3) := by decide +kernel
theorem dX4_findFelling_4 : decode cX4_findFelling 4 = .ok (.iconst 0, 1) := by decide +kernel
theorem dX4_findFelling_5 : decode cX4_findFelling 5 = .ok (.invokestatic 42, 3) := by decide +kernel
theorem dX4_findFelling_8 : decode cX4_findFelling 8 = .ok (.iconst 0, 1) := by decide +kernel
theorem dX4_findFelling_9 : decode cX4_findFelling 9 = .ok (.istore_n 2, 1) := by decide +kernel
theorem dX4_findFelling_10 : decode cX4_findFelling 10 = .ok (.iload_n 2, 1) := by decide +kernel
theorem dX4_findFelling_11 : decode cX4_findFelling 11 = .ok (.aload_n 0, 1) := by decide +kernel
theorem dX4_findFelling_12 : decode cX4_findFelling 12 = .ok (.getfield 9, 3) := by decide +kernel
theorem dX4_findFelling_15 : decode cX4_findFelling 15 = .ok (.getfield 32, 3) := by decide +kernel
theorem dX4_findFelling_18 : decode cX4_findFelling 18 = .ok (.if_icmp .ge 69, 3) := by decide +kernel
theorem dX4_findFelling_21 : decode cX4_findFelling 21 = .ok (.iload_n 1, 1) := by decide +kernel
theorem dX4_findFelling_22 : decode cX4_findFelling 22 = .ok (.iload_n 2, 1) := by decide +kernel
theorem dX4_findFelling_23 : decode cX4_findFelling 23 = .ok (.ishr, 1) := by decide +kernel
theorem dX4_findFelling_24 : decode cX4_findFelling 24 = .ok (.iconst 1, 1) := by decide +kernel
theorem dX4_findFelling_25 : decode cX4_findFelling 25 = .ok (.iand, 1) := by decide +kernel
theorem dX4_findFelling_26 : decode cX4_findFelling 26 = .ok (.ifCond .eq 14, 3) := by decide +kernel
theorem dX4_findFelling_29 : decode cX4_findFelling 29 = .ok (.aload_n 0, 1) := by decide +kernel
theorem dX4_findFelling_30 : decode cX4_findFelling 30 = .ok (.getfield 15, 3) := by decide +kernel
theorem dX4_findFelling_33 : decode cX4_findFelling 33 = .ok (.iload_n 2, 1) := by decide +kernel
theorem dX4_findFelling_34 : decode cX4_findFelling 34 = .ok (.invokevirtual 38, 3) := by decide +kernel
theorem dX4_findFelling_37 : decode cX4_findFelling 37 = .ok (.goto 4, 3) := by decide +kernel
theorem dX4_findFelling_40 : decode cX4_findFelling 40 = .ok (.iconst 0, 1) := by decide +kernel
theorem dX4_findFelling_41 : decode cX4_findFelling 41 = .ok (.istore_n 3, 1) := by decide +kernel
theorem dX4_findFelling_42 : decode cX4_findFelling 42 = .ok (.iconst 0, 1) := by decide +kernel
theorem dX4_findFelling_43 : decode cX4_findFelling 43 = .ok (.istore 4, 2) := by decide +kernel
theorem dX4_findFelling_45 : decode cX4_findFelling 45 = .ok (.iload 4, 2) := by decide +kernel
theorem dX4_findFelling_47 : decode cX4_findFelling 47 = .ok (.aload_n 0, 1) := by decide +kernel
theorem dX4_findFelling_48 : decode cX4_findFelling 48 = .ok (.getfield 9, 3) := by decide +kernel
theorem dX4_findFelling_51 : decode cX4_findFelling 51 = .ok (.getfield 32, 3) := by decide +kernel
theorem dX4_findFelling_54 : decode cX4_findFelling 54 = .ok (.if_icmp .ge 27, 3) := by decide +kernel
theorem dX4_findFelling_57 : decode cX4_findFelling 57 = .ok (.aload_n 0, 1) := by decide +kernel
theorem dX4_findFelling_58 : decode cX4_findFelling 58 = .ok (.getfield 23, 3) := by decide +kernel
theorem dX4_findFelling_61 : decode cX4_findFelling 61 = .ok (.iload 4, 2) := by decide +kernel
theorem dX4_findFelling_63 : decode cX4_findFelling 63 = .ok (.dup2, 1) := by decide +kernel
theorem dX4_findFelling_64 : decode cX4_findFelling 64 = .ok (.iaload, 1) := by decide +kernel
theorem dX4_findFelling_65 : decode cX4_findFelling 65 = .ok (.iload_n 3, 1) := by decide +kernel
theorem dX4_findFelling_66 : decode cX4_findFelling 66 = .ok (.iload 4, 2) := by decide +kernel
theorem dX4_findFelling_68 : decode cX4_findFelling 68 = .ok (.ishr, 1) := by decide +kernel
theorem dX4_findFelling_69 : decode cX4_findFelling 69 = .ok (.iconst 1, 1) := by decide +kernel
theorem dX4_findFelling_70 : decode cX4_findFelling 70 = .ok (.iand, 1) := by decide +kernel
theorem dX4_findFelling_71 : decode cX4_findFelling 71 = .ok (.iload_n 2, 1) := by decide +kernel
theorem dX4_findFelling_72 : decode cX4_findFelling 72 = .ok (.ishl, 1) := by decide +kernel
theorem dX4_findFelling_73 : decode cX4_findFelling 73 = .ok (.ior, 1) := by decide +kernel
theorem dX4_findFelling_74 : decode cX4_findFelling 74 = .ok (.iastore, 1) := by decide +kernel
theorem dX4_findFelling_75 : decode cX4_findFelling 75 = .ok (.iinc 4 1, 3) := by decide +kernel
theorem dX4_findFelling_78 : decode cX4_findFelling 78 = .ok (.goto (-33), 3) := by decide +kernel
theorem dX4_findFelling_81 : decode cX4_findFelling 81 = .ok (.iinc 2 1, 3) := by decide +kernel
theorem dX4_findFelling_84 : decode cX4_findFelling 84 = .ok (.goto (-74), 3) := by decide +kernel
theorem dX4_findFelling_87 : decode cX4_findFelling 87 = .ok (.return_, 1) := by decide +kernel
theorem dX4_bestLook_0 : decode cX4_bestLook 0 = .ok (.aload_n 0, 1) := by decide +kernel
theorem dX4_bestLook_1 : decode cX4_bestLook 1 = .ok (.iload_n 1, 1) := by decide +kernel
theorem dX4_bestLook_2 : decode cX4_bestLook 2 = .ok (.invokevirtual 48, 3) := by decide +kernel
theorem dX4_bestLook_5 : decode cX4_bestLook 5 = .ok (.iconst (-1), 1) := by decide +kernel
theorem dX4_bestLook_6 : decode cX4_bestLook 6 = .ok (.istore_n 2, 1) := by decide +kernel
theorem dX4_bestLook_7 : decode cX4_bestLook 7 = .ok (.iload_n 1, 1) := by decide +kernel
theorem dX4_bestLook_8 : decode cX4_bestLook 8 = .ok (.invokestatic 52, 3) := by decide +kernel
theorem dX4_bestLook_11 : decode cX4_bestLook 11 = .ok (.istore_n 3, 1) := by decide +kernel
theorem dX4_bestLook_12 : decode cX4_bestLook 12 = .ok (.iconst 0, 1) := by decide +kernel
theorem dX4_bestLook_13 : decode cX4_bestLook 13 = .ok (.istore 4, 2) := by decide +kernel
theorem dX4_bestLook_15 : decode cX4_bestLook 15 = .ok (.iload 4, 2) := by decide +kernel
theorem dX4_bestLook_17 : decode cX4_bestLook 17 = .ok (.aload_n 0, 1) := by decide +kernel
theorem dX4_bestLook_18 : decode cX4_bestLook 18 = .ok (.getfield 9, 3) := by decide +kernel
theorem dX4_bestLook_21 : decode cX4_bestLook 21 = .ok (.getfield 32, 3) := by decide +kernel
theorem dX4_bestLook_24 : decode cX4_bestLook 24 = .ok (.if_icmp .ge 52, 3) := by decide +kernel
theorem dX4_bestLook_27 : decode cX4_bestLook 27 = .ok (.iload_n 1, 1) := by decide +kernel
theorem dX4_bestLook_28 : decode cX4_bestLook 28 = .ok (.aload_n 0, 1) := by decide +kernel
theorem dX4_bestLook_29 : decode cX4_bestLook 29 = .ok (.getfield 23, 3) := by decide +kernel
theorem dX4_bestLook_32 : decode cX4_bestLook 32 = .ok (.iload 4, 2) := by decide +kernel
theorem dX4_bestLook_34 : decode cX4_bestLook 34 = .ok (.iaload, 1) := by decide +kernel
theorem dX4_bestLook_35 : decode cX4_bestLook 35 = .ok (.iand, 1) := by decide +kernel
theorem dX4_bestLook_36 : decode cX4_bestLook 36 = .ok (.invokestatic 52, 3) := by decide +kernel
theorem dX4_bestLook_39 : decode cX4_bestLook 39 = .ok (.iload_n 1, 1) := by decide +kernel
theorem dX4_bestLook_40 : decode cX4_bestLook 40 = .ok (.aload_n 0, 1) := by decide +kernel
theorem dX4_bestLook_41 : decode cX4_bestLook 41 = .ok (.getfield 23, 3) := by decide +kernel
theorem dX4_bestLook_44 : decode cX4_bestLook 44 = .ok (.iload 4, 2) := by decide +kernel
theorem dX4_bestLook_46 : decode cX4_bestLook 46 = .ok (.iaload, 1) := by decide +kernel
theorem dX4_bestLook_47 : decode cX4_bestLook 47 = .ok (.iconst (-1), 1) := by decide +kernel
theorem dX4_bestLook_48 : decode cX4_bestLook 48 = .ok (.ixor, 1) := by decide +kernel
theorem dX4_bestLook_49 : decode cX4_bestLook 49 = .ok (.iand, 1) := by decide +kernel
theorem dX4_bestLook_50 : decode cX4_bestLook 50 = .ok (.invokestatic 52, 3) := by decide +kernel
theorem dX4_bestLook_53 : decode cX4_bestLook 53 = .ok (.invokestatic 57, 3) := by decide +kernel
theorem dX4_bestLook_56 : decode cX4_bestLook 56 = .ok (.istore 5, 2) := by decide +kernel
theorem dX4_bestLook_58 : decode cX4_bestLook 58 = .ok (.iload 5, 2) := by decide +kernel
theorem dX4_bestLook_60 : decode cX4_bestLook 60 = .ok (.iload_n 3, 1) := by decide +kernel
theorem dX4_bestLook_61 : decode cX4_bestLook 61 = .ok (.if_icmp .ge 9, 3) := by decide +kernel
theorem dX4_bestLook_64 : decode cX4_bestLook 64 = .ok (.iload 5, 2) := by decide +kernel
theorem dX4_bestLook_66 : decode cX4_bestLook 66 = .ok (.istore_n 3, 1) := by decide +kernel
theorem dX4_bestLook_67 : decode cX4_bestLook 67 = .ok (.iload 4, 2) := by decide +kernel
theorem dX4_bestLook_69 : decode cX4_bestLook 69 = .ok (.istore_n 2, 1) := by decide +kernel
theorem dX4_bestLook_70 : decode cX4_bestLook 70 = .ok (.iinc 4 1, 3) := by decide +kernel
theorem dX4_bestLook_73 : decode cX4_bestLook 73 = .ok (.goto (-58), 3) := by decide +kernel
theorem dX4_bestLook_76 : decode cX4_bestLook 76 = .ok (.iload_n 2, 1) := by decide +kernel
theorem dX4_bestLook_77 : decode cX4_bestLook 77 = .ok (.ireturn, 1) := by decide +kernel
theorem dX4_fewestLooks_0 : decode cX4_fewestLooks 0 = .ok (.iconst 0, 1) := by decide +kernel
theorem dX4_fewestLooks_1 : decode cX4_fewestLooks 1 = .ok (.istore_n 2, 1) := by decide +kernel
theorem dX4_fewestLooks_2 : decode cX4_fewestLooks 2 = .ok (.iload_n 2, 1) := by decide +kernel
theorem dX4_fewestLooks_3 : decode cX4_fewestLooks 3 = .ok (.aload_n 0, 1) := by decide +kernel
theorem dX4_fewestLooks_4 : decode cX4_fewestLooks 4 = .ok (.getfield 9, 3) := by decide +kernel
theorem dX4_fewestLooks_7 : decode cX4_fewestLooks 7 = .ok (.getfield 32, 3) := by decide +kernel
theorem dX4_fewestLooks_10 : decode cX4_fewestLooks 10 = .ok (.if_icmp .ge 40, 3) := by decide +kernel
theorem dX4_fewestLooks_13 : decode cX4_fewestLooks 13 = .ok (.iload_n 1, 1) := by decide +kernel
theorem dX4_fewestLooks_14 : decode cX4_fewestLooks 14 = .ok (.iload_n 2, 1) := by decide +kernel
theorem dX4_fewestLooks_15 : decode cX4_fewestLooks 15 = .ok (.ishr, 1) := by decide +kernel
theorem dX4_fewestLooks_16 : decode cX4_fewestLooks 16 = .ok (.iconst 1, 1) := by decide +kernel
theorem dX4_fewestLooks_17 : decode cX4_fewestLooks 17 = .ok (.iand, 1) := by decide +kernel
theorem dX4_fewestLooks_18 : decode cX4_fewestLooks 18 = .ok (.ifCond .eq 26, 3) := by decide +kernel
theorem dX4_fewestLooks_21 : decode cX4_fewestLooks 21 = .ok (.aload_n 0, 1) := by decide +kernel
theorem dX4_fewestLooks_22 : decode cX4_fewestLooks 22 = .ok (.aload_n 0, 1) := by decide +kernel
theorem dX4_fewestLooks_23 : decode cX4_fewestLooks 23 = .ok (.getfield 15, 3) := by decide +kernel
theorem dX4_fewestLooks_26 : decode cX4_fewestLooks 26 = .ok (.iload_n 2, 1) := by decide +kernel
theorem dX4_fewestLooks_27 : decode cX4_fewestLooks 27 = .ok (.invokevirtual 38, 3) := by decide +kernel
theorem dX4_fewestLooks_30 : decode cX4_fewestLooks 30 = .ok (.invokevirtual 63, 3) := by decide +kernel
theorem dX4_fewestLooks_33 : decode cX4_fewestLooks 33 = .ok (.iload_n 1, 1) := by decide +kernel
theorem dX4_fewestLooks_34 : decode cX4_fewestLooks 34 = .ok (.iand, 1) := by decide +kernel
theorem dX4_fewestLooks_35 : decode cX4_fewestLooks 35 = .ok (.invokestatic 52, 3) := by decide +kernel
theorem dX4_fewestLooks_38 : decode cX4_fewestLooks 38 = .ok (.iconst 1, 1) := by decide +kernel
theorem dX4_fewestLooks_39 : decode cX4_fewestLooks 39 = .ok (.if_icmp .le 5, 3) := by decide +kernel
theorem dX4_fewestLooks_42 : decode cX4_fewestLooks 42 = .ok (.iconst (-1), 1) := by decide +kernel
theorem dX4_fewestLooks_43 : decode cX4_fewestLooks 43 = .ok (.ireturn, 1) := by decide +kernel
theorem dX4_fewestLooks_44 : decode cX4_fewestLooks 44 = .ok (.iinc 2 1, 3) := by decide +kernel
theorem dX4_fewestLooks_47 : decode cX4_fewestLooks 47 = .ok (.goto (-45), 3) := by decide +kernel
theorem dX4_fewestLooks_50 : decode cX4_fewestLooks 50 = .ok (.aload_n 0, 1) := by decide +kernel
theorem dX4_fewestLooks_51 : decode cX4_fewestLooks 51 = .ok (.iload_n 1, 1) := by decide +kernel
theorem dX4_fewestLooks_52 : decode cX4_fewestLooks 52 = .ok (.invokevirtual 48, 3) := by decide +kernel
theorem dX4_fewestLooks_55 : decode cX4_fewestLooks 55 = .ok (.aload_n 0, 1) := by decide +kernel
theorem dX4_fewestLooks_56 : decode cX4_fewestLooks 56 = .ok (.getfield 19, 3) := by decide +kernel
theorem dX4_fewestLooks_59 : decode cX4_fewestLooks 59 = .ok (.iconst (-1), 1) := by decide +kernel
theorem dX4_fewestLooks_60 : decode cX4_fewestLooks 60 = .ok (.invokestatic 42, 3) := by decide +kernel
theorem dX4_fewestLooks_63 : decode cX4_fewestLooks 63 = .ok (.aload_n 0, 1) := by decide +kernel
theorem dX4_fewestLooks_64 : decode cX4_fewestLooks 64 = .ok (.iload_n 1, 1) := by decide +kernel
theorem dX4_fewestLooks_65 : decode cX4_fewestLooks 65 = .ok (.iconst 0, 1) := by decide +kernel
theorem dX4_fewestLooks_66 : decode cX4_fewestLooks 66 = .ok (.invokevirtual 66, 3) := by decide +kernel
theorem dX4_fewestLooks_69 : decode cX4_fewestLooks 69 = .ok (.ireturn, 1) := by decide +kernel
theorem dX4_looksFor_0 : decode cX4_looksFor 0 = .ok (.iload_n 1, 1) := by decide +kernel
theorem dX4_looksFor_1 : decode cX4_looksFor 1 = .ok (.invokestatic 52, 3) := by decide +kernel
theorem dX4_looksFor_4 : decode cX4_looksFor 4 = .ok (.iconst 1, 1) := by decide +kernel
theorem dX4_looksFor_5 : decode cX4_looksFor 5 = .ok (.if_icmp .le 9, 3) := by decide +kernel
theorem dX4_looksFor_8 : decode cX4_looksFor 8 = .ok (.iload_n 2, 1) := by decide +kernel
theorem dX4_looksFor_9 : decode cX4_looksFor 9 = .ok (.bipush 12, 2) := by decide +kernel
theorem dX4_looksFor_11 : decode cX4_looksFor 11 = .ok (.if_icmp .lt 5, 3) := by decide +kernel
theorem dX4_looksFor_14 : decode cX4_looksFor 14 = .ok (.iconst 0, 1) := by decide +kernel
theorem dX4_looksFor_15 : decode cX4_looksFor 15 = .ok (.ireturn, 1) := by decide +kernel
theorem dX4_looksFor_16 : decode cX4_looksFor 16 = .ok (.aload_n 0, 1) := by decide +kernel
theorem dX4_looksFor_17 : decode cX4_looksFor 17 = .ok (.getfield 19, 3) := by decide +kernel
theorem dX4_looksFor_20 : decode cX4_looksFor 20 = .ok (.iload_n 1, 1) := by decide +kernel
theorem dX4_looksFor_21 : decode cX4_looksFor 21 = .ok (.iaload, 1) := by decide +kernel
theorem dX4_looksFor_22 : decode cX4_looksFor 22 = .ok (.iconst (-1), 1) := by decide +kernel
theorem dX4_looksFor_23 : decode cX4_looksFor 23 = .ok (.if_icmp .eq 10, 3) := by decide +kernel
theorem dX4_looksFor_26 : decode cX4_looksFor 26 = .ok (.aload_n 0, 1) := by decide +kernel
theorem dX4_looksFor_27 : decode cX4_looksFor 27 = .ok (.getfield 19, 3) := by decide +kernel
theorem dX4_looksFor_30 : decode cX4_looksFor 30 = .ok (.iload_n 1, 1) := by decide +kernel
theorem dX4_looksFor_31 : decode cX4_looksFor 31 = .ok (.iaload, 1) := by decide +kernel
theorem dX4_looksFor_32 : decode cX4_looksFor 32 = .ok (.ireturn, 1) := by decide +kernel
theorem dX4_looksFor_33 : decode cX4_looksFor 33 = .ok (.bipush 12, 2) := by decide +kernel
theorem dX4_looksFor_35 : decode cX4_looksFor 35 = .ok (.istore_n 3, 1) := by decide +kernel
theorem dX4_looksFor_36 : decode cX4_looksFor 36 = .ok (.iconst 0, 1) := by decide +kernel
theorem dX4_looksFor_37 : decode cX4_looksFor 37 = .ok (.istore 4, 2) := by decide +kernel
theorem dX4_looksFor_39 : decode cX4_looksFor 39 = .ok (.iload 4, 2) := by decide +kernel
theorem dX4_looksFor_41 : decode cX4_looksFor 41 = .ok (.aload_n 0, 1) := by decide +kernel
theorem dX4_looksFor_42 : decode cX4_looksFor 42 = .ok (.getfield 9, 3) := by decide +kernel
theorem dX4_looksFor_45 : decode cX4_looksFor 45 = .ok (.getfield 32, 3) := by decide +kernel
theorem dX4_looksFor_48 : decode cX4_looksFor 48 = .ok (.if_icmp .ge 63, 3) := by decide +kernel
theorem dX4_looksFor_51 : decode cX4_looksFor 51 = .ok (.iload_n 1, 1) := by decide +kernel
theorem dX4_looksFor_52 : decode cX4_looksFor 52 = .ok (.aload_n 0, 1) := by decide +kernel
theorem dX4_looksFor_53 : decode cX4_looksFor 53 = .ok (.getfield 23, 3) := by decide +kernel
theorem dX4_looksFor_56 : decode cX4_looksFor 56 = .ok (.iload 4, 2) := by decide +kernel
theorem dX4_looksFor_58 : decode cX4_looksFor 58 = .ok (.iaload, 1) := by decide +kernel
theorem dX4_looksFor_59 : decode cX4_looksFor 59 = .ok (.iand, 1) := by decide +kernel
theorem dX4_looksFor_60 : decode cX4_looksFor 60 = .ok (.istore 5, 2) := by decide +kernel
theorem dX4_looksFor_62 : decode cX4_looksFor 62 = .ok (.iload 5, 2) := by decide +kernel
theorem dX4_looksFor_64 : decode cX4_looksFor 64 = .ok (.ifCond .eq 41, 3) := by decide +kernel
theorem dX4_looksFor_67 : decode cX4_looksFor 67 = .ok (.iload 5, 2) := by decide +kernel
theorem dX4_looksFor_69 : decode cX4_looksFor 69 = .ok (.iload_n 1, 1) := by decide +kernel
theorem dX4_looksFor_70 : decode cX4_looksFor 70 = .ok (.if_icmp .eq 35, 3) := by decide +kernel
theorem dX4_looksFor_73 : decode cX4_looksFor 73 = .ok (.iload_n 3, 1) := by decide +kernel
theorem dX4_looksFor_74 : decode cX4_looksFor 74 = .ok (.iconst 1, 1) := by decide +kernel
theorem dX4_looksFor_75 : decode cX4_looksFor 75 = .ok (.aload_n 0, 1) := by decide +kernel
theorem dX4_looksFor_76 : decode cX4_looksFor 76 = .ok (.iload 5, 2) := by decide +kernel
theorem dX4_looksFor_78 : decode cX4_looksFor 78 = .ok (.iload_n 2, 1) := by decide +kernel
theorem dX4_looksFor_79 : decode cX4_looksFor 79 = .ok (.iconst 1, 1) := by decide +kernel
theorem dX4_looksFor_80 : decode cX4_looksFor 80 = .ok (.iadd, 1) := by decide +kernel
theorem dX4_looksFor_81 : decode cX4_looksFor 81 = .ok (.invokevirtual 66, 3) := by decide +kernel
theorem dX4_looksFor_84 : decode cX4_looksFor 84 = .ok (.aload_n 0, 1) := by decide +kernel
theorem dX4_looksFor_85 : decode cX4_looksFor 85 = .ok (.iload_n 1, 1) := by decide +kernel
theorem dX4_looksFor_86 : decode cX4_looksFor 86 = .ok (.iload 5, 2) := by decide +kernel
theorem dX4_looksFor_88 : decode cX4_looksFor 88 = .ok (.iconst (-1), 1) := by decide +kernel
theorem dX4_looksFor_89 : decode cX4_looksFor 89 = .ok (.ixor, 1) := by decide +kernel
theorem dX4_looksFor_90 : decode cX4_looksFor 90 = .ok (.iand, 1) := by decide +kernel
theorem dX4_looksFor_91 : decode cX4_looksFor 91 = .ok (.iload_n 2, 1) := by decide +kernel
theorem dX4_looksFor_92 : decode cX4_looksFor 92 = .ok (.iconst 1, 1) := by decide +kernel
theorem dX4_looksFor_93 : decode cX4_looksFor 93 = .ok (.iadd, 1) := by decide +kernel
theorem dX4_looksFor_94 : decode cX4_looksFor 94 = .ok (.invokevirtual 66, 3) := by decide +kernel
theorem dX4_looksFor_97 : decode cX4_looksFor 97 = .ok (.invokestatic 57, 3) := by decide +kernel
theorem dX4_looksFor_100 : decode cX4_looksFor 100 = .ok (.iadd, 1) := by decide +kernel
theorem dX4_looksFor_101 : decode cX4_looksFor 101 = .ok (.invokestatic 69, 3) := by decide +kernel
theorem dX4_looksFor_104 : decode cX4_looksFor 104 = .ok (.istore_n 3, 1) := by decide +kernel
theorem dX4_looksFor_105 : decode cX4_looksFor 105 = .ok (.iinc 4 1, 3) := by decide +kernel
theorem dX4_looksFor_108 : decode cX4_looksFor 108 = .ok (.goto (-69), 3) := by decide +kernel
theorem dX4_looksFor_111 : decode cX4_looksFor 111 = .ok (.aload_n 0, 1) := by decide +kernel
theorem dX4_looksFor_112 : decode cX4_looksFor 112 = .ok (.getfield 19, 3) := by decide +kernel
theorem dX4_looksFor_115 : decode cX4_looksFor 115 = .ok (.iload_n 1, 1) := by decide +kernel
theorem dX4_looksFor_116 : decode cX4_looksFor 116 = .ok (.iload_n 3, 1) := by decide +kernel
theorem dX4_looksFor_117 : decode cX4_looksFor 117 = .ok (.iastore, 1) := by decide +kernel
theorem dX4_looksFor_118 : decode cX4_looksFor 118 = .ok (.iload_n 3, 1) := by decide +kernel
theorem dX4_looksFor_119 : decode cX4_looksFor 119 = .ok (.ireturn, 1) := by decide +kernel
theorem dX4_orders_0 : decode cX4_orders 0 = .ok (.aload_n 0, 1) := by decide +kernel
theorem dX4_orders_1 : decode cX4_orders 1 = .ok (.iconst (-1), 1) := by decide +kernel
theorem dX4_orders_2 : decode cX4_orders 2 = .ok (.iconst (-1), 1) := by decide +kernel
theorem dX4_orders_3 : decode cX4_orders 3 = .ok (.invokevirtual 72, 3) := by decide +kernel
theorem dX4_orders_6 : decode cX4_orders 6 = .ok (.ireturn, 1) := by decide +kernel
theorem dX4_ordersWith_0 : decode cX4_ordersWith 0 = .ok (.iconst 1, 1) := by decide +kernel
theorem dX4_ordersWith_1 : decode cX4_ordersWith 1 = .ok (.aload_n 0, 1) := by decide +kernel
theorem dX4_ordersWith_2 : decode cX4_ordersWith 2 = .ok (.getfield 9, 3) := by decide +kernel
theorem dX4_ordersWith_5 : decode cX4_ordersWith 5 = .ok (.getfield 32, 3) := by decide +kernel
theorem dX4_ordersWith_8 : decode cX4_ordersWith 8 = .ok (.ishl, 1) := by decide +kernel
theorem dX4_ordersWith_9 : decode cX4_ordersWith 9 = .ok (.istore_n 3, 1) := by decide +kernel
theorem dX4_ordersWith_10 : decode cX4_ordersWith 10 = .ok (.aload_n 0, 1) := by decide +kernel
theorem dX4_ordersWith_11 : decode cX4_ordersWith 11 = .ok (.getfield 19, 3) := by decide +kernel
theorem dX4_ordersWith_14 : decode cX4_ordersWith 14 = .ok (.iconst 0, 1) := by decide +kernel
theorem dX4_ordersWith_15 : decode cX4_ordersWith 15 = .ok (.iconst 1, 1) := by decide +kernel
theorem dX4_ordersWith_16 : decode cX4_ordersWith 16 = .ok (.iastore, 1) := by decide +kernel
theorem dX4_ordersWith_17 : decode cX4_ordersWith 17 = .ok (.iconst 1, 1) := by decide +kernel
theorem dX4_ordersWith_18 : decode cX4_ordersWith 18 = .ok (.istore 4, 2) := by decide +kernel
theorem dX4_ordersWith_20 : decode cX4_ordersWith 20 = .ok (.iload 4, 2) := by decide +kernel
theorem dX4_ordersWith_22 : decode cX4_ordersWith 22 = .ok (.iload_n 3, 1) := by decide +kernel
theorem dX4_ordersWith_23 : decode cX4_ordersWith 23 = .ok (.if_icmp .ge 108, 3) := by decide +kernel
theorem dX4_ordersWith_26 : decode cX4_ordersWith 26 = .ok (.iconst 0, 1) := by decide +kernel
theorem dX4_ordersWith_27 : decode cX4_ordersWith 27 = .ok (.istore 5, 2) := by decide +kernel
theorem dX4_ordersWith_29 : decode cX4_ordersWith 29 = .ok (.iconst 0, 1) := by decide +kernel
theorem dX4_ordersWith_30 : decode cX4_ordersWith 30 = .ok (.istore 6, 2) := by decide +kernel
theorem dX4_ordersWith_32 : decode cX4_ordersWith 32 = .ok (.iload 6, 2) := by decide +kernel
theorem dX4_ordersWith_34 : decode cX4_ordersWith 34 = .ok (.aload_n 0, 1) := by decide +kernel
theorem dX4_ordersWith_35 : decode cX4_ordersWith 35 = .ok (.getfield 9, 3) := by decide +kernel
theorem dX4_ordersWith_38 : decode cX4_ordersWith 38 = .ok (.getfield 32, 3) := by decide +kernel
theorem dX4_ordersWith_41 : decode cX4_ordersWith 41 = .ok (.if_icmp .ge 75, 3) := by decide +kernel
theorem dX4_ordersWith_44 : decode cX4_ordersWith 44 = .ok (.iload 4, 2) := by decide +kernel
theorem dX4_ordersWith_46 : decode cX4_ordersWith 46 = .ok (.iconst 1, 1) := by decide +kernel
theorem dX4_ordersWith_47 : decode cX4_ordersWith 47 = .ok (.iload 6, 2) := by decide +kernel
theorem dX4_ordersWith_49 : decode cX4_ordersWith 49 = .ok (.ishl, 1) := by decide +kernel
theorem dX4_ordersWith_50 : decode cX4_ordersWith 50 = .ok (.iconst (-1), 1) := by decide +kernel
theorem dX4_ordersWith_51 : decode cX4_ordersWith 51 = .ok (.ixor, 1) := by decide +kernel
theorem dX4_ordersWith_52 : decode cX4_ordersWith 52 = .ok (.iand, 1) := by decide +kernel
theorem dX4_ordersWith_53 : decode cX4_ordersWith 53 = .ok (.istore 7, 2) := by decide +kernel
theorem dX4_ordersWith_55 : decode cX4_ordersWith 55 = .ok (.aload_n 0, 1) := by decide +kernel
theorem dX4_ordersWith_56 : decode cX4_ordersWith 56 = .ok (.getfield 9, 3) := by decide +kernel
theorem dX4_ordersWith_59 : decode cX4_ordersWith 59 = .ok (.getfield 75, 3) := by decide +kernel
theorem dX4_ordersWith_62 : decode cX4_ordersWith 62 = .ok (.iload 6, 2) := by decide +kernel
theorem dX4_ordersWith_64 : decode cX4_ordersWith 64 = .ok (.iaload, 1) := by decide +kernel
theorem dX4_ordersWith_65 : decode cX4_ordersWith 65 = .ok (.iload 6, 2) := by decide +kernel
theorem dX4_ordersWith_67 : decode cX4_ordersWith 67 = .ok (.iload_n 2, 1) := by decide +kernel
theorem dX4_ordersWith_68 : decode cX4_ordersWith 68 = .ok (.if_icmp .ne 9, 3) := by decide +kernel
theorem dX4_ordersWith_71 : decode cX4_ordersWith 71 = .ok (.iconst 1, 1) := by decide +kernel
theorem dX4_ordersWith_72 : decode cX4_ordersWith 72 = .ok (.iload_n 1, 1) := by decide +kernel
theorem dX4_ordersWith_73 : decode cX4_ordersWith 73 = .ok (.ishl, 1) := by decide +kernel
theorem dX4_ordersWith_74 : decode cX4_ordersWith 74 = .ok (.goto 4, 3) := by decide +kernel
theorem dX4_ordersWith_77 : decode cX4_ordersWith 77 = .ok (.iconst 0, 1) := by decide +kernel
theorem dX4_ordersWith_78 : decode cX4_ordersWith 78 = .ok (.ior, 1) := by decide +kernel
theorem dX4_ordersWith_79 : decode cX4_ordersWith 79 = .ok (.istore 8, 2) := by decide +kernel
theorem dX4_ordersWith_81 : decode cX4_ordersWith 81 = .ok (.iload 7, 2) := by decide +kernel
theorem dX4_ordersWith_83 : decode cX4_ordersWith 83 = .ok (.iload 4, 2) := by decide +kernel
theorem dX4_ordersWith_85 : decode cX4_ordersWith 85 = .ok (.if_icmp .eq 25, 3) := by decide +kernel
theorem dX4_ordersWith_88 : decode cX4_ordersWith 88 = .ok (.iload 8, 2) := by decide +kernel
theorem dX4_ordersWith_90 : decode cX4_ordersWith 90 = .ok (.iload 7, 2) := by decide +kernel
theorem dX4_ordersWith_92 : decode cX4_ordersWith 92 = .ok (.iconst (-1), 1) := by decide +kernel
theorem dX4_ordersWith_93 : decode cX4_ordersWith 93 = .ok (.ixor, 1) := by decide +kernel
theorem dX4_ordersWith_94 : decode cX4_ordersWith 94 = .ok (.iand, 1) := by decide +kernel
theorem dX4_ordersWith_95 : decode cX4_ordersWith 95 = .ok (.ifCond .ne 15, 3) := by decide +kernel
theorem dX4_ordersWith_98 : decode cX4_ordersWith 98 = .ok (.iload 5, 2) := by decide +kernel
theorem dX4_ordersWith_100 : decode cX4_ordersWith 100 = .ok (.aload_n 0, 1) := by decide +kernel
theorem dX4_ordersWith_101 : decode cX4_ordersWith 101 = .ok (.getfield 19, 3) := by decide +kernel
theorem dX4_ordersWith_104 : decode cX4_ordersWith 104 = .ok (.iload 7, 2) := by decide +kernel
theorem dX4_ordersWith_106 : decode cX4_ordersWith 106 = .ok (.iaload, 1) := by decide +kernel
theorem dX4_ordersWith_107 : decode cX4_ordersWith 107 = .ok (.iadd, 1) := by decide +kernel
theorem dX4_ordersWith_108 : decode cX4_ordersWith 108 = .ok (.istore 5, 2) := by decide +kernel
theorem dX4_ordersWith_110 : decode cX4_ordersWith 110 = .ok (.iinc 6 1, 3) := by decide +kernel
theorem dX4_ordersWith_113 : decode cX4_ordersWith 113 = .ok (.goto (-81), 3) := by decide +kernel
theorem dX4_ordersWith_116 : decode cX4_ordersWith 116 = .ok (.aload_n 0, 1) := by decide +kernel
theorem dX4_ordersWith_117 : decode cX4_ordersWith 117 = .ok (.getfield 19, 3) := by decide +kernel
theorem dX4_ordersWith_120 : decode cX4_ordersWith 120 = .ok (.iload 4, 2) := by decide +kernel
theorem dX4_ordersWith_122 : decode cX4_ordersWith 122 = .ok (.iload 5, 2) := by decide +kernel
theorem dX4_ordersWith_124 : decode cX4_ordersWith 124 = .ok (.iastore, 1) := by decide +kernel
theorem dX4_ordersWith_125 : decode cX4_ordersWith 125 = .ok (.iinc 4 1, 3) := by decide +kernel
theorem dX4_ordersWith_128 : decode cX4_ordersWith 128 = .ok (.goto (-108), 3) := by decide +kernel
theorem dX4_ordersWith_131 : decode cX4_ordersWith 131 = .ok (.aload_n 0, 1) := by decide +kernel
theorem dX4_ordersWith_132 : decode cX4_ordersWith 132 = .ok (.getfield 19, 3) := by decide +kernel
theorem dX4_ordersWith_135 : decode cX4_ordersWith 135 = .ok (.iload_n 3, 1) := by decide +kernel
theorem dX4_ordersWith_136 : decode cX4_ordersWith 136 = .ok (.iconst 1, 1) := by decide +kernel
theorem dX4_ordersWith_137 : decode cX4_ordersWith 137 = .ok (.isub, 1) := by decide +kernel
theorem dX4_ordersWith_138 : decode cX4_ordersWith 138 = .ok (.iaload, 1) := by decide +kernel
theorem dX4_ordersWith_139 : decode cX4_ordersWith 139 = .ok (.ireturn, 1) := by decide +kernel
theorem dX4_openings_0 : decode cX4_openings 0 = .ok (.aload_n 0, 1) := by decide +kernel
theorem dX4_openings_1 : decode cX4_openings 1 = .ok (.invokevirtual 78, 3) := by decide +kernel
theorem dX4_openings_4 : decode cX4_openings 4 = .ok (.ifCond .ne 5, 3) := by decide +kernel
theorem dX4_openings_7 : decode cX4_openings 7 = .ok (.iconst 0, 1) := by decide +kernel
theorem dX4_openings_8 : decode cX4_openings 8 = .ok (.ireturn, 1) := by decide +kernel
theorem dX4_openings_9 : decode cX4_openings 9 = .ok (.iconst 0, 1) := by decide +kernel
theorem dX4_openings_10 : decode cX4_openings 10 = .ok (.istore_n 1, 1) := by decide +kernel
theorem dX4_openings_11 : decode cX4_openings 11 = .ok (.iconst 0, 1) := by decide +kernel
theorem dX4_openings_12 : decode cX4_openings 12 = .ok (.istore_n 2, 1) := by decide +kernel
theorem dX4_openings_13 : decode cX4_openings 13 = .ok (.iload_n 2, 1) := by decide +kernel
theorem dX4_openings_14 : decode cX4_openings 14 = .ok (.aload_n 0, 1) := by decide +kernel
theorem dX4_openings_15 : decode cX4_openings 15 = .ok (.getfield 9, 3) := by decide +kernel
theorem dX4_openings_18 : decode cX4_openings 18 = .ok (.getfield 32, 3) := by decide +kernel
theorem dX4_openings_21 : decode cX4_openings 21 = .ok (.if_icmp .ge 31, 3) := by decide +kernel
theorem dX4_openings_24 : decode cX4_openings 24 = .ok (.iload_n 1, 1) := by decide +kernel
theorem dX4_openings_25 : decode cX4_openings 25 = .ok (.aload_n 0, 1) := by decide +kernel
theorem dX4_openings_26 : decode cX4_openings 26 = .ok (.getfield 9, 3) := by decide +kernel
theorem dX4_openings_29 : decode cX4_openings 29 = .ok (.getfield 75, 3) := by decide +kernel
theorem dX4_openings_32 : decode cX4_openings 32 = .ok (.iload_n 2, 1) := by decide +kernel
theorem dX4_openings_33 : decode cX4_openings 33 = .ok (.iaload, 1) := by decide +kernel
theorem dX4_openings_34 : decode cX4_openings 34 = .ok (.ifCond .ne 9, 3) := by decide +kernel
theorem dX4_openings_37 : decode cX4_openings 37 = .ok (.iconst 1, 1) := by decide +kernel
theorem dX4_openings_38 : decode cX4_openings 38 = .ok (.iload_n 2, 1) := by decide +kernel
theorem dX4_openings_39 : decode cX4_openings 39 = .ok (.ishl, 1) := by decide +kernel
theorem dX4_openings_40 : decode cX4_openings 40 = .ok (.goto 4, 3) := by decide +kernel
theorem dX4_openings_43 : decode cX4_openings 43 = .ok (.iconst 0, 1) := by decide +kernel
theorem dX4_openings_44 : decode cX4_openings 44 = .ok (.ior, 1) := by decide +kernel
theorem dX4_openings_45 : decode cX4_openings 45 = .ok (.istore_n 1, 1) := by decide +kernel
theorem dX4_openings_46 : decode cX4_openings 46 = .ok (.iinc 2 1, 3) := by decide +kernel
theorem dX4_openings_49 : decode cX4_openings 49 = .ok (.goto (-36), 3) := by decide +kernel
theorem dX4_openings_52 : decode cX4_openings 52 = .ok (.iload_n 1, 1) := by decide +kernel
theorem dX4_openings_53 : decode cX4_openings 53 = .ok (.ireturn, 1) := by decide +kernel
theorem dX4_fewestUntrue_0 : decode cX4_fewestUntrue 0 = .ok (.iconst 1, 1) := by decide +kernel
theorem dX4_fewestUntrue_1 : decode cX4_fewestUntrue 1 = .ok (.aload_n 0, 1) := by decide +kernel
theorem dX4_fewestUntrue_2 : decode cX4_fewestUntrue 2 = .ok (.getfield 9, 3) := by decide +kernel
theorem dX4_fewestUntrue_5 : decode cX4_fewestUntrue 5 = .ok (.getfield 32, 3) := by decide +kernel
theorem dX4_fewestUntrue_8 : decode cX4_fewestUntrue 8 = .ok (.ishl, 1) := by decide +kernel
theorem dX4_fewestUntrue_9 : decode cX4_fewestUntrue 9 = .ok (.istore_n 1, 1) := by decide +kernel
theorem dX4_fewestUntrue_10 : decode cX4_fewestUntrue 10 = .ok (.aload_n 0, 1) := by decide +kernel
theorem dX4_fewestUntrue_11 : decode cX4_fewestUntrue 11 = .ok (.getfield 19, 3) := by decide +kernel
theorem dX4_fewestUntrue_14 : decode cX4_fewestUntrue 14 = .ok (.iconst 0, 1) := by decide +kernel
theorem dX4_fewestUntrue_15 : decode cX4_fewestUntrue 15 = .ok (.iconst 0, 1) := by decide +kernel
theorem dX4_fewestUntrue_16 : decode cX4_fewestUntrue 16 = .ok (.iastore, 1) := by decide +kernel
theorem dX4_fewestUntrue_17 : decode cX4_fewestUntrue 17 = .ok (.iconst 1, 1) := by decide +kernel
theorem dX4_fewestUntrue_18 : decode cX4_fewestUntrue 18 = .ok (.istore_n 2, 1) := by decide +kernel
theorem dX4_fewestUntrue_19 : decode cX4_fewestUntrue 19 = .ok (.iload_n 2, 1) := by decide +kernel
theorem dX4_fewestUntrue_20 : decode cX4_fewestUntrue 20 = .ok (.iload_n 1, 1) := by decide +kernel
theorem dX4_fewestUntrue_21 : decode cX4_fewestUntrue 21 = .ok (.if_icmp .ge 86, 3) := by decide +kernel
theorem dX4_fewestUntrue_24 : decode cX4_fewestUntrue 24 = .ok (.sipush 144, 3) := by decide +kernel
theorem dX4_fewestUntrue_27 : decode cX4_fewestUntrue 27 = .ok (.istore_n 3, 1) := by decide +kernel
theorem dX4_fewestUntrue_28 : decode cX4_fewestUntrue 28 = .ok (.iconst 0, 1) := by decide +kernel
theorem dX4_fewestUntrue_29 : decode cX4_fewestUntrue 29 = .ok (.istore 4, 2) := by decide +kernel
theorem dX4_fewestUntrue_31 : decode cX4_fewestUntrue 31 = .ok (.iload 4, 2) := by decide +kernel
theorem dX4_fewestUntrue_33 : decode cX4_fewestUntrue 33 = .ok (.aload_n 0, 1) := by decide +kernel
theorem dX4_fewestUntrue_34 : decode cX4_fewestUntrue 34 = .ok (.getfield 9, 3) := by decide +kernel
theorem dX4_fewestUntrue_37 : decode cX4_fewestUntrue 37 = .ok (.getfield 32, 3) := by decide +kernel
theorem dX4_fewestUntrue_40 : decode cX4_fewestUntrue 40 = .ok (.if_icmp .ge 54, 3) := by decide +kernel
theorem dX4_fewestUntrue_43 : decode cX4_fewestUntrue 43 = .ok (.iload_n 2, 1) := by decide +kernel
theorem dX4_fewestUntrue_44 : decode cX4_fewestUntrue 44 = .ok (.iconst 1, 1) := by decide +kernel
theorem dX4_fewestUntrue_45 : decode cX4_fewestUntrue 45 = .ok (.iload 4, 2) := by decide +kernel
theorem dX4_fewestUntrue_47 : decode cX4_fewestUntrue 47 = .ok (.ishl, 1) := by decide +kernel
theorem dX4_fewestUntrue_48 : decode cX4_fewestUntrue 48 = .ok (.iconst (-1), 1) := by decide +kernel
theorem dX4_fewestUntrue_49 : decode cX4_fewestUntrue 49 = .ok (.ixor, 1) := by decide +kernel
theorem dX4_fewestUntrue_50 : decode cX4_fewestUntrue 50 = .ok (.iand, 1) := by decide +kernel
theorem dX4_fewestUntrue_51 : decode cX4_fewestUntrue 51 = .ok (.istore 5, 2) := by decide +kernel
theorem dX4_fewestUntrue_53 : decode cX4_fewestUntrue 53 = .ok (.iload 5, 2) := by decide +kernel
theorem dX4_fewestUntrue_55 : decode cX4_fewestUntrue 55 = .ok (.iload_n 2, 1) := by decide +kernel
theorem dX4_fewestUntrue_56 : decode cX4_fewestUntrue 56 = .ok (.if_icmp .eq 32, 3) := by decide +kernel
theorem dX4_fewestUntrue_59 : decode cX4_fewestUntrue 59 = .ok (.iload_n 3, 1) := by decide +kernel
theorem dX4_fewestUntrue_60 : decode cX4_fewestUntrue 60 = .ok (.aload_n 0, 1) := by decide +kernel
theorem dX4_fewestUntrue_61 : decode cX4_fewestUntrue 61 = .ok (.getfield 19, 3) := by decide +kernel
theorem dX4_fewestUntrue_64 : decode cX4_fewestUntrue 64 = .ok (.iload 5, 2) := by decide +kernel
theorem dX4_fewestUntrue_66 : decode cX4_fewestUntrue 66 = .ok (.iaload, 1) := by decide +kernel
theorem dX4_fewestUntrue_67 : decode cX4_fewestUntrue 67 = .ok (.aload_n 0, 1) := by decide +kernel
theorem dX4_fewestUntrue_68 : decode cX4_fewestUntrue 68 = .ok (.getfield 9, 3) := by decide +kernel
theorem dX4_fewestUntrue_71 : decode cX4_fewestUntrue 71 = .ok (.getfield 75, 3) := by decide +kernel
theorem dX4_fewestUntrue_74 : decode cX4_fewestUntrue 74 = .ok (.iload 4, 2) := by decide +kernel
theorem dX4_fewestUntrue_76 : decode cX4_fewestUntrue 76 = .ok (.iaload, 1) := by decide +kernel
theorem dX4_fewestUntrue_77 : decode cX4_fewestUntrue 77 = .ok (.iload 5, 2) := by decide +kernel
theorem dX4_fewestUntrue_79 : decode cX4_fewestUntrue 79 = .ok (.iand, 1) := by decide +kernel
theorem dX4_fewestUntrue_80 : decode cX4_fewestUntrue 80 = .ok (.invokestatic 52, 3) := by decide +kernel
theorem dX4_fewestUntrue_83 : decode cX4_fewestUntrue 83 = .ok (.iadd, 1) := by decide +kernel
theorem dX4_fewestUntrue_84 : decode cX4_fewestUntrue 84 = .ok (.invokestatic 69, 3) := by decide +kernel
theorem dX4_fewestUntrue_87 : decode cX4_fewestUntrue 87 = .ok (.istore_n 3, 1) := by decide +kernel
theorem dX4_fewestUntrue_88 : decode cX4_fewestUntrue 88 = .ok (.iinc 4 1, 3) := by decide +kernel
theorem dX4_fewestUntrue_91 : decode cX4_fewestUntrue 91 = .ok (.goto (-60), 3) := by decide +kernel
theorem dX4_fewestUntrue_94 : decode cX4_fewestUntrue 94 = .ok (.aload_n 0, 1) := by decide +kernel
theorem dX4_fewestUntrue_95 : decode cX4_fewestUntrue 95 = .ok (.getfield 19, 3) := by decide +kernel
theorem dX4_fewestUntrue_98 : decode cX4_fewestUntrue 98 = .ok (.iload_n 2, 1) := by decide +kernel
theorem dX4_fewestUntrue_99 : decode cX4_fewestUntrue 99 = .ok (.iload_n 3, 1) := by decide +kernel
theorem dX4_fewestUntrue_100 : decode cX4_fewestUntrue 100 = .ok (.iastore, 1) := by decide +kernel
theorem dX4_fewestUntrue_101 : decode cX4_fewestUntrue 101 = .ok (.iinc 2 1, 3) := by decide +kernel
theorem dX4_fewestUntrue_104 : decode cX4_fewestUntrue 104 = .ok (.goto (-85), 3) := by decide +kernel
theorem dX4_fewestUntrue_107 : decode cX4_fewestUntrue 107 = .ok (.aload_n 0, 1) := by decide +kernel
theorem dX4_fewestUntrue_108 : decode cX4_fewestUntrue 108 = .ok (.getfield 19, 3) := by decide +kernel
theorem dX4_fewestUntrue_111 : decode cX4_fewestUntrue 111 = .ok (.iload_n 1, 1) := by decide +kernel
theorem dX4_fewestUntrue_112 : decode cX4_fewestUntrue 112 = .ok (.iconst 1, 1) := by decide +kernel
theorem dX4_fewestUntrue_113 : decode cX4_fewestUntrue 113 = .ok (.isub, 1) := by decide +kernel
theorem dX4_fewestUntrue_114 : decode cX4_fewestUntrue 114 = .ok (.iaload, 1) := by decide +kernel
theorem dX4_fewestUntrue_115 : decode cX4_fewestUntrue 115 = .ok (.ireturn, 1) := by decide +kernel
theorem dX5_init_0 : decode cX5_init 0 = .ok (.aload_n 0, 1) := by decide +kernel
theorem dX5_init_1 : decode cX5_init 1 = .ok (.invokespecial 3, 3) := by decide +kernel
theorem dX5_init_4 : decode cX5_init 4 = .ok (.aload_n 0, 1) := by decide +kernel
theorem dX5_init_5 : decode cX5_init 5 = .ok (.aload_n 1, 1) := by decide +kernel
theorem dX5_init_6 : decode cX5_init 6 = .ok (.putfield 9, 3) := by decide +kernel
theorem dX5_init_9 : decode cX5_init 9 = .ok (.aload_n 0, 1) := by decide +kernel
theorem dX5_init_10 : decode cX5_init 10 = .ok (.aload_n 2, 1) := by decide +kernel
theorem dX5_init_11 : decode cX5_init 11 = .ok (.putfield 15, 3) := by decide +kernel
theorem dX5_init_14 : decode cX5_init 14 = .ok (.aload_n 0, 1) := by decide +kernel
theorem dX5_init_15 : decode cX5_init 15 = .ok (.aload_n 3, 1) := by decide +kernel
theorem dX5_init_16 : decode cX5_init 16 = .ok (.putfield 19, 3) := by decide +kernel
theorem dX5_init_19 : decode cX5_init 19 = .ok (.aload_n 0, 1) := by decide +kernel
theorem dX5_init_20 : decode cX5_init 20 = .ok (.aload 4, 2) := by decide +kernel
theorem dX5_init_22 : decode cX5_init 22 = .ok (.putfield 23, 3) := by decide +kernel
theorem dX5_init_25 : decode cX5_init 25 = .ok (.aload_n 0, 1) := by decide +kernel
theorem dX5_init_26 : decode cX5_init 26 = .ok (.bipush 6, 2) := by decide +kernel
theorem dX5_init_28 : decode cX5_init 28 = .ok (.newarray .int, 2) := by decide +kernel
theorem dX5_init_30 : decode cX5_init 30 = .ok (.putfield 27, 3) := by decide +kernel
theorem dX5_init_33 : decode cX5_init 33 = .ok (.aload_n 0, 1) := by decide +kernel
theorem dX5_init_34 : decode cX5_init 34 = .ok (.iconst 0, 1) := by decide +kernel
theorem dX5_init_35 : decode cX5_init 35 = .ok (.putfield 30, 3) := by decide +kernel
theorem dX5_init_38 : decode cX5_init 38 = .ok (.aload_n 0, 1) := by decide +kernel
theorem dX5_init_39 : decode cX5_init 39 = .ok (.iconst 0, 1) := by decide +kernel
theorem dX5_init_40 : decode cX5_init 40 = .ok (.putfield 34, 3) := by decide +kernel
theorem dX5_init_43 : decode cX5_init 43 = .ok (.return_, 1) := by decide +kernel
theorem dX5_turnTo_0 : decode cX5_turnTo 0 = .ok (.aload_n 0, 1) := by decide +kernel
theorem dX5_turnTo_1 : decode cX5_turnTo 1 = .ok (.aload_n 1, 1) := by decide +kernel
theorem dX5_turnTo_2 : decode cX5_turnTo 2 = .ok (.putfield 9, 3) := by decide +kernel
theorem dX5_turnTo_5 : decode cX5_turnTo 5 = .ok (.return_, 1) := by decide +kernel
theorem dX5_yearsTillWithout_0 : decode cX5_yearsTillWithout 0 = .ok (.aload_n 0, 1) := by decide +kernel
theorem dX5_yearsTillWithout_1 : decode cX5_yearsTillWithout 1 = .ok (.getfield 9, 3) := by decide +kernel
theorem dX5_yearsTillWithout_4 : decode cX5_yearsTillWithout 4 = .ok (.getfield 37, 3) := by decide +kernel
theorem dX5_yearsTillWithout_7 : decode cX5_yearsTillWithout 7 = .ok (.istore_n 2, 1) := by decide +kernel
theorem dX5_yearsTillWithout_8 : decode cX5_yearsTillWithout 8 = .ok (.iconst 0, 1) := by decide +kernel
theorem dX5_yearsTillWithout_9 : decode cX5_yearsTillWithout 9 = .ok (.istore_n 3, 1) := by decide +kernel
theorem dX5_yearsTillWithout_10 : decode cX5_yearsTillWithout 10 = .ok (.iload_n 3, 1) := by decide +kernel
theorem dX5_yearsTillWithout_11 : decode cX5_yearsTillWithout 11 = .ok (.bipush 99, 2) := by decide +kernel
theorem dX5_yearsTillWithout_13 : decode cX5_yearsTillWithout 13 = .ok (.if_icmp .gt 42, 3) := by decide +kernel
theorem dX5_yearsTillWithout_16 : decode cX5_yearsTillWithout 16 = .ok (.iload_n 1, 1) := by decide +kernel
theorem dX5_yearsTillWithout_17 : decode cX5_yearsTillWithout 17 = .ok (.aload_n 0, 1) := by decide +kernel
theorem dX5_yearsTillWithout_18 : decode cX5_yearsTillWithout 18 = .ok (.getfield 15, 3) := by decide +kernel
theorem dX5_yearsTillWithout_21 : decode cX5_yearsTillWithout 21 = .ok (.iload_n 2, 1) := by decide +kernel
theorem dX5_yearsTillWithout_22 : decode cX5_yearsTillWithout 22 = .ok (.invokevirtual 42, 3) := by decide +kernel
theorem dX5_yearsTillWithout_25 : decode cX5_yearsTillWithout 25 = .ok (.iconst (-1), 1) := by decide +kernel
theorem dX5_yearsTillWithout_26 : decode cX5_yearsTillWithout 26 = .ok (.ixor, 1) := by decide +kernel
theorem dX5_yearsTillWithout_27 : decode cX5_yearsTillWithout 27 = .ok (.iand, 1) := by decide +kernel
theorem dX5_yearsTillWithout_28 : decode cX5_yearsTillWithout 28 = .ok (.ifCond .eq 5, 3) := by decide +kernel
theorem dX5_yearsTillWithout_31 : decode cX5_yearsTillWithout 31 = .ok (.iload_n 3, 1) := by decide +kernel
theorem dX5_yearsTillWithout_32 : decode cX5_yearsTillWithout 32 = .ok (.ireturn, 1) := by decide +kernel
theorem dX5_yearsTillWithout_33 : decode cX5_yearsTillWithout 33 = .ok (.aload_n 0, 1) := by decide +kernel
theorem dX5_yearsTillWithout_34 : decode cX5_yearsTillWithout 34 = .ok (.getfield 19, 3) := by decide +kernel
theorem dX5_yearsTillWithout_37 : decode cX5_yearsTillWithout 37 = .ok (.iload_n 2, 1) := by decide +kernel
theorem dX5_yearsTillWithout_38 : decode cX5_yearsTillWithout 38 = .ok (.aload_n 0, 1) := by decide +kernel
theorem dX5_yearsTillWithout_39 : decode cX5_yearsTillWithout 39 = .ok (.getfield 9, 3) := by decide +kernel
theorem dX5_yearsTillWithout_42 : decode cX5_yearsTillWithout 42 = .ok (.getfield 48, 3) := by decide +kernel
theorem dX5_yearsTillWithout_45 : decode cX5_yearsTillWithout 45 = .ok (.invokevirtual 51, 3) := by decide +kernel
theorem dX5_yearsTillWithout_48 : decode cX5_yearsTillWithout 48 = .ok (.istore_n 2, 1) := by decide +kernel
theorem dX5_yearsTillWithout_49 : decode cX5_yearsTillWithout 49 = .ok (.iinc 3 1, 3) := by decide +kernel
theorem dX5_yearsTillWithout_52 : decode cX5_yearsTillWithout 52 = .ok (.goto (-42), 3) := by decide +kernel
theorem dX5_yearsTillWithout_55 : decode cX5_yearsTillWithout 55 = .ok (.iconst (-1), 1) := by decide +kernel
theorem dX5_yearsTillWithout_56 : decode cX5_yearsTillWithout 56 = .ok (.ireturn, 1) := by decide +kernel
theorem dX5_keeps_0 : decode cX5_keeps 0 = .ok (.aload_n 0, 1) := by decide +kernel
theorem dX5_keeps_1 : decode cX5_keeps 1 = .ok (.getfield 9, 3) := by decide +kernel
theorem dX5_keeps_4 : decode cX5_keeps 4 = .ok (.getfield 37, 3) := by decide +kernel
theorem dX5_keeps_7 : decode cX5_keeps 7 = .ok (.istore 4, 2) := by decide +kernel
theorem dX5_keeps_9 : decode cX5_keeps 9 = .ok (.iconst 0, 1) := by decide +kernel
theorem dX5_keeps_10 : decode cX5_keeps 10 = .ok (.istore 5, 2) := by decide +kernel
theorem dX5_keeps_12 : decode cX5_keeps 12 = .ok (.iload 5, 2) := by decide +kernel
theorem dX5_keeps_14 : decode cX5_keeps 14 = .ok (.iload_n 3, 1) := by decide +kernel
theorem dX5_keeps_15 : decode cX5_keeps 15 = .ok (.if_icmp .gt 60, 3) := by decide +kernel
theorem dX5_keeps_18 : decode cX5_keeps 18 = .ok (.iload_n 1, 1) := by decide +kernel
theorem dX5_keeps_19 : decode cX5_keeps 19 = .ok (.aload_n 0, 1) := by decide +kernel
theorem dX5_keeps_20 : decode cX5_keeps 20 = .ok (.getfield 15, 3) := by decide +kernel
theorem dX5_keeps_23 : decode cX5_keeps 23 = .ok (.iload 4, 2) := by decide +kernel
theorem dX5_keeps_25 : decode cX5_keeps 25 = .ok (.invokevirtual 42, 3) := by decide +kernel
theorem dX5_keeps_28 : decode cX5_keeps 28 = .ok (.iconst (-1), 1) := by decide +kernel
theorem dX5_keeps_29 : decode cX5_keeps 29 = .ok (.ixor, 1) := by decide +kernel
theorem dX5_keeps_30 : decode cX5_keeps 30 = .ok (.iand, 1) := by decide +kernel
theorem dX5_keeps_31 : decode cX5_keeps 31 = .ok (.ifCond .eq 5, 3) := by decide +kernel
theorem dX5_keeps_34 : decode cX5_keeps 34 = .ok (.iconst 0, 1) := by decide +kernel
theorem dX5_keeps_35 : decode cX5_keeps 35 = .ok (.ireturn, 1) := by decide +kernel
theorem dX5_keeps_36 : decode cX5_keeps 36 = .ok (.aload_n 0, 1) := by decide +kernel
theorem dX5_keeps_37 : decode cX5_keeps 37 = .ok (.getfield 19, 3) := by decide +kernel
theorem dX5_keeps_40 : decode cX5_keeps 40 = .ok (.iload 4, 2) := by decide +kernel
theorem dX5_keeps_42 : decode cX5_keeps 42 = .ok (.aload_n 0, 1) := by decide +kernel
theorem dX5_keeps_43 : decode cX5_keeps 43 = .ok (.getfield 9, 3) := by decide +kernel
theorem dX5_keeps_46 : decode cX5_keeps 46 = .ok (.getfield 48, 3) := by decide +kernel
theorem dX5_keeps_49 : decode cX5_keeps 49 = .ok (.iload_n 2, 1) := by decide +kernel
theorem dX5_keeps_50 : decode cX5_keeps 50 = .ok (.ior, 1) := by decide +kernel
theorem dX5_keeps_51 : decode cX5_keeps 51 = .ok (.invokevirtual 51, 3) := by decide +kernel
theorem dX5_keeps_54 : decode cX5_keeps 54 = .ok (.istore 6, 2) := by decide +kernel
theorem dX5_keeps_56 : decode cX5_keeps 56 = .ok (.iload 6, 2) := by decide +kernel
theorem dX5_keeps_58 : decode cX5_keeps 58 = .ok (.iload 4, 2) := by decide +kernel
theorem dX5_keeps_60 : decode cX5_keeps 60 = .ok (.if_icmp .ne 5, 3) := by decide +kernel
theorem dX5_keeps_63 : decode cX5_keeps 63 = .ok (.iconst 1, 1) := by decide +kernel
theorem dX5_keeps_64 : decode cX5_keeps 64 = .ok (.ireturn, 1) := by decide +kernel
theorem dX5_keeps_65 : decode cX5_keeps 65 = .ok (.iload 6, 2) := by decide +kernel
theorem dX5_keeps_67 : decode cX5_keeps 67 = .ok (.istore 4, 2) := by decide +kernel
theorem dX5_keeps_69 : decode cX5_keeps 69 = .ok (.iinc 5 1, 3) := by decide +kernel
theorem dX5_keeps_72 : decode cX5_keeps 72 = .ok (.goto (-60), 3) := by decide +kernel
theorem dX5_keeps_75 : decode cX5_keeps 75 = .ok (.iconst 1, 1) := by decide +kernel
theorem dX5_keeps_76 : decode cX5_keeps 76 = .ok (.ireturn, 1) := by decide +kernel
theorem dX5_endsBy_0 : decode cX5_endsBy 0 = .ok (.iload_n 1, 1) := by decide +kernel
theorem dX5_endsBy_1 : decode cX5_endsBy 1 = .ok (.aload_n 0, 1) := by decide +kernel
theorem dX5_endsBy_2 : decode cX5_endsBy 2 = .ok (.getfield 15, 3) := by decide +kernel
theorem dX5_endsBy_5 : decode cX5_endsBy 5 = .ok (.aload_n 0, 1) := by decide +kernel
theorem dX5_endsBy_6 : decode cX5_endsBy 6 = .ok (.getfield 9, 3) := by decide +kernel
theorem dX5_endsBy_9 : decode cX5_endsBy 9 = .ok (.getfield 37, 3) := by decide +kernel
theorem dX5_endsBy_12 : decode cX5_endsBy 12 = .ok (.iload_n 2, 1) := by decide +kernel
theorem dX5_endsBy_13 : decode cX5_endsBy 13 = .ok (.ior, 1) := by decide +kernel
theorem dX5_endsBy_14 : decode cX5_endsBy 14 = .ok (.invokevirtual 42, 3) := by decide +kernel
theorem dX5_endsBy_17 : decode cX5_endsBy 17 = .ok (.iconst (-1), 1) := by decide +kernel
theorem dX5_endsBy_18 : decode cX5_endsBy 18 = .ok (.ixor, 1) := by decide +kernel
theorem dX5_endsBy_19 : decode cX5_endsBy 19 = .ok (.iand, 1) := by decide +kernel
theorem dX5_endsBy_20 : decode cX5_endsBy 20 = .ok (.ifCond .eq 7, 3) := by decide +kernel
theorem dX5_endsBy_23 : decode cX5_endsBy 23 = .ok (.iconst 1, 1) := by decide +kernel
theorem dX5_endsBy_24 : decode cX5_endsBy 24 = .ok (.goto 4, 3) := by decide +kernel
theorem dX5_endsBy_27 : decode cX5_endsBy 27 = .ok (.iconst 0, 1) := by decide +kernel
theorem dX5_endsBy_28 : decode cX5_endsBy 28 = .ok (.ireturn, 1) := by decide +kernel
theorem dX5_leastKeeping_0 : decode cX5_leastKeeping 0 = .ok (.aload_n 0, 1) := by decide +kernel
theorem dX5_leastKeeping_1 : decode cX5_leastKeeping 1 = .ok (.iload_n 1, 1) := by decide +kernel
theorem dX5_leastKeeping_2 : decode cX5_leastKeeping 2 = .ok (.iconst 0, 1) := by decide +kernel
theorem dX5_leastKeeping_3 : decode cX5_leastKeeping 3 = .ok (.invokevirtual 57, 3) := by decide +kernel
theorem dX5_leastKeeping_6 : decode cX5_leastKeeping 6 = .ok (.ifCond .eq 5, 3) := by decide +kernel
theorem dX5_leastKeeping_9 : decode cX5_leastKeeping 9 = .ok (.iconst (-1), 1) := by decide +kernel
theorem dX5_leastKeeping_10 : decode cX5_leastKeeping 10 = .ok (.ireturn, 1) := by decide +kernel
theorem dX5_leastKeeping_11 : decode cX5_leastKeeping 11 = .ok (.aload_n 0, 1) := by decide +kernel
theorem dX5_leastKeeping_12 : decode cX5_leastKeeping 12 = .ok (.getfield 19, 3) := by decide +kernel
theorem dX5_leastKeeping_15 : decode cX5_leastKeeping 15 = .ok (.invokevirtual 61, 3) := by decide +kernel
theorem dX5_leastKeeping_18 : decode cX5_leastKeeping 18 = .ok (.istore_n 3, 1) := by decide +kernel
theorem dX5_leastKeeping_19 : decode cX5_leastKeeping 19 = .ok (.iconst 0, 1) := by decide +kernel
theorem dX5_leastKeeping_20 : decode cX5_leastKeeping 20 = .ok (.istore 4, 2) := by decide +kernel
theorem dX5_leastKeeping_22 : decode cX5_leastKeeping 22 = .ok (.iconst 0, 1) := by decide +kernel
theorem dX5_leastKeeping_23 : decode cX5_leastKeeping 23 = .ok (.istore 5, 2) := by decide +kernel
theorem dX5_leastKeeping_25 : decode cX5_leastKeeping 25 = .ok (.iload 5, 2) := by decide +kernel
theorem dX5_leastKeeping_27 : decode cX5_leastKeeping 27 = .ok (.aload_n 0, 1) := by decide +kernel
theorem dX5_leastKeeping_28 : decode cX5_leastKeeping 28 = .ok (.getfield 9, 3) := by decide +kernel
theorem dX5_leastKeeping_31 : decode cX5_leastKeeping 31 = .ok (.getfield 65, 3) := by decide +kernel
theorem dX5_leastKeeping_34 : decode cX5_leastKeeping 34 = .ok (.if_icmp .ge 39, 3) := by decide +kernel
theorem dX5_leastKeeping_37 : decode cX5_leastKeeping 37 = .ok (.iload_n 3, 1) := by decide +kernel
theorem dX5_leastKeeping_38 : decode cX5_leastKeeping 38 = .ok (.iload 5, 2) := by decide +kernel
theorem dX5_leastKeeping_40 : decode cX5_leastKeeping 40 = .ok (.ishr, 1) := by decide +kernel
theorem dX5_leastKeeping_41 : decode cX5_leastKeeping 41 = .ok (.iconst 1, 1) := by decide +kernel
theorem dX5_leastKeeping_42 : decode cX5_leastKeeping 42 = .ok (.iand, 1) := by decide +kernel
theorem dX5_leastKeeping_43 : decode cX5_leastKeeping 43 = .ok (.ifCond .eq 24, 3) := by decide +kernel
theorem dX5_leastKeeping_46 : decode cX5_leastKeeping 46 = .ok (.aload_n 0, 1) := by decide +kernel
theorem dX5_leastKeeping_47 : decode cX5_leastKeeping 47 = .ok (.getfield 19, 3) := by decide +kernel
theorem dX5_leastKeeping_50 : decode cX5_leastKeeping 50 = .ok (.iload 5, 2) := by decide +kernel
theorem dX5_leastKeeping_52 : decode cX5_leastKeeping 52 = .ok (.invokevirtual 68, 3) := by decide +kernel
theorem dX5_leastKeeping_55 : decode cX5_leastKeeping 55 = .ok (.ifCond .le 12, 3) := by decide +kernel
theorem dX5_leastKeeping_58 : decode cX5_leastKeeping 58 = .ok (.iload 4, 2) := by decide +kernel
theorem dX5_leastKeeping_60 : decode cX5_leastKeeping 60 = .ok (.iconst 1, 1) := by decide +kernel
theorem dX5_leastKeeping_61 : decode cX5_leastKeeping 61 = .ok (.iload 5, 2) := by decide +kernel
theorem dX5_leastKeeping_63 : decode cX5_leastKeeping 63 = .ok (.ishl, 1) := by decide +kernel
theorem dX5_leastKeeping_64 : decode cX5_leastKeeping 64 = .ok (.ior, 1) := by decide +kernel
theorem dX5_leastKeeping_65 : decode cX5_leastKeeping 65 = .ok (.istore 4, 2) := by decide +kernel
theorem dX5_leastKeeping_67 : decode cX5_leastKeeping 67 = .ok (.iinc 5 1, 3) := by decide +kernel
theorem dX5_leastKeeping_70 : decode cX5_leastKeeping 70 = .ok (.goto (-45), 3) := by decide +kernel
theorem dX5_leastKeeping_73 : decode cX5_leastKeeping 73 = .ok (.aload_n 0, 1) := by decide +kernel
theorem dX5_leastKeeping_74 : decode cX5_leastKeeping 74 = .ok (.iload_n 1, 1) := by decide +kernel
theorem dX5_leastKeeping_75 : decode cX5_leastKeeping 75 = .ok (.iload 4, 2) := by decide +kernel
theorem dX5_leastKeeping_77 : decode cX5_leastKeeping 77 = .ok (.iload_n 2, 1) := by decide +kernel
theorem dX5_leastKeeping_78 : decode cX5_leastKeeping 78 = .ok (.invokevirtual 71, 3) := by decide +kernel
theorem dX5_leastKeeping_81 : decode cX5_leastKeeping 81 = .ok (.ireturn, 1) := by decide +kernel
theorem dX5_leastEnding_0 : decode cX5_leastEnding 0 = .ok (.aload_n 0, 1) := by decide +kernel
theorem dX5_leastEnding_1 : decode cX5_leastEnding 1 = .ok (.getfield 19, 3) := by decide +kernel
theorem dX5_leastEnding_4 : decode cX5_leastEnding 4 = .ok (.invokevirtual 61, 3) := by decide +kernel
theorem dX5_leastEnding_7 : decode cX5_leastEnding 7 = .ok (.istore_n 2, 1) := by decide +kernel
theorem dX5_leastEnding_8 : decode cX5_leastEnding 8 = .ok (.aload_n 0, 1) := by decide +kernel
theorem dX5_leastEnding_9 : decode cX5_leastEnding 9 = .ok (.iload_n 1, 1) := by decide +kernel
theorem dX5_leastEnding_10 : decode cX5_leastEnding 10 = .ok (.iload_n 2, 1) := by decide +kernel
theorem dX5_leastEnding_11 : decode cX5_leastEnding 11 = .ok (.invokevirtual 57, 3) := by decide +kernel
theorem dX5_leastEnding_14 : decode cX5_leastEnding 14 = .ok (.ifCond .eq 13, 3) := by decide +kernel
theorem dX5_leastEnding_17 : decode cX5_leastEnding 17 = .ok (.aload_n 0, 1) := by decide +kernel
theorem dX5_leastEnding_18 : decode cX5_leastEnding 18 = .ok (.iload_n 1, 1) := by decide +kernel
theorem dX5_leastEnding_19 : decode cX5_leastEnding 19 = .ok (.iload_n 2, 1) := by decide +kernel
theorem dX5_leastEnding_20 : decode cX5_leastEnding 20 = .ok (.iconst (-1), 1) := by decide +kernel
theorem dX5_leastEnding_21 : decode cX5_leastEnding 21 = .ok (.invokevirtual 71, 3) := by decide +kernel
theorem dX5_leastEnding_24 : decode cX5_leastEnding 24 = .ok (.goto 4, 3) := by decide +kernel
theorem dX5_leastEnding_27 : decode cX5_leastEnding 27 = .ok (.iconst (-1), 1) := by decide +kernel
theorem dX5_leastEnding_28 : decode cX5_leastEnding 28 = .ok (.ireturn, 1) := by decide +kernel
theorem dX5_least_0 : decode cX5_least 0 = .ok (.iload_n 2, 1) := by decide +kernel
theorem dX5_least_1 : decode cX5_least 1 = .ok (.invokestatic 75, 3) := by decide +kernel
theorem dX5_least_4 : decode cX5_least 4 = .ok (.istore 4, 2) := by decide +kernel
theorem dX5_least_6 : decode cX5_least 6 = .ok (.iconst 0, 1) := by decide +kernel
theorem dX5_least_7 : decode cX5_least 7 = .ok (.istore 5, 2) := by decide +kernel
theorem dX5_least_9 : decode cX5_least 9 = .ok (.iload 5, 2) := by decide +kernel
theorem dX5_least_11 : decode cX5_least 11 = .ok (.iload 4, 2) := by decide +kernel
theorem dX5_least_13 : decode cX5_least 13 = .ok (.if_icmp .gt 80, 3) := by decide +kernel
theorem dX5_least_16 : decode cX5_least 16 = .ok (.iconst 0, 1) := by decide +kernel
theorem dX5_least_17 : decode cX5_least 17 = .ok (.istore 6, 2) := by decide +kernel
theorem dX5_least_19 : decode cX5_least 19 = .ok (.iconst 0, 1) := by decide +kernel
theorem dX5_least_20 : decode cX5_least 20 = .ok (.istore 7, 2) := by decide +kernel
theorem dX5_least_22 : decode cX5_least 22 = .ok (.iload 7, 2) := by decide +kernel
theorem dX5_least_24 : decode cX5_least 24 = .ok (.iconst 1, 1) := by decide +kernel
theorem dX5_least_25 : decode cX5_least 25 = .ok (.iload 4, 2) := by decide +kernel
theorem dX5_least_27 : decode cX5_least 27 = .ok (.ishl, 1) := by decide +kernel
theorem dX5_least_28 : decode cX5_least 28 = .ok (.if_icmp .ge 59, 3) := by decide +kernel
theorem dX5_least_31 : decode cX5_least 31 = .ok (.iload 6, 2) := by decide +kernel
theorem dX5_least_33 : decode cX5_least 33 = .ok (.invokestatic 75, 3) := by decide +kernel
theorem dX5_least_36 : decode cX5_least 36 = .ok (.iload 5, 2) := by decide +kernel
theorem dX5_least_38 : decode cX5_least 38 = .ok (.if_icmp .ne 35, 3) := by decide +kernel
theorem dX5_least_41 : decode cX5_least 41 = .ok (.iload_n 3, 1) := by decide +kernel
theorem dX5_least_42 : decode cX5_least 42 = .ok (.iconst (-1), 1) := by decide +kernel
theorem dX5_least_43 : decode cX5_least 43 = .ok (.if_icmp .ne 16, 3) := by decide +kernel
theorem dX5_least_46 : decode cX5_least 46 = .ok (.aload_n 0, 1) := by decide +kernel
theorem dX5_least_47 : decode cX5_least 47 = .ok (.iload_n 1, 1) := by decide +kernel
theorem dX5_least_48 : decode cX5_least 48 = .ok (.iload 6, 2) := by decide +kernel
theorem dX5_least_50 : decode cX5_least 50 = .ok (.invokevirtual 57, 3) := by decide +kernel
theorem dX5_least_53 : decode cX5_least 53 = .ok (.ifCond .eq 20, 3) := by decide +kernel
theorem dX5_least_56 : decode cX5_least 56 = .ok (.goto 14, 3) := by decide +kernel
theorem dX5_least_59 : decode cX5_least 59 = .ok (.aload_n 0, 1) := by decide +kernel
theorem dX5_least_60 : decode cX5_least 60 = .ok (.iload_n 1, 1) := by decide +kernel
theorem dX5_least_61 : decode cX5_least 61 = .ok (.iload 6, 2) := by decide +kernel
theorem dX5_least_63 : decode cX5_least 63 = .ok (.iload_n 3, 1) := by decide +kernel
theorem dX5_least_64 : decode cX5_least 64 = .ok (.invokevirtual 80, 3) := by decide +kernel
theorem dX5_least_67 : decode cX5_least 67 = .ok (.ifCond .eq 6, 3) := by decide +kernel
theorem dX5_least_70 : decode cX5_least 70 = .ok (.iload 6, 2) := by decide +kernel
theorem dX5_least_72 : decode cX5_least 72 = .ok (.ireturn, 1) := by decide +kernel
theorem dX5_least_73 : decode cX5_least 73 = .ok (.iload 6, 2) := by decide +kernel
theorem dX5_least_75 : decode cX5_least 75 = .ok (.iload_n 2, 1) := by decide +kernel
theorem dX5_least_76 : decode cX5_least 76 = .ok (.invokestatic 84, 3) := by decide +kernel
theorem dX5_least_79 : decode cX5_least 79 = .ok (.istore 6, 2) := by decide +kernel
theorem dX5_least_81 : decode cX5_least 81 = .ok (.iinc 7 1, 3) := by decide +kernel
theorem dX5_least_84 : decode cX5_least 84 = .ok (.goto (-62), 3) := by decide +kernel
theorem dX5_least_87 : decode cX5_least 87 = .ok (.iinc 5 1, 3) := by decide +kernel
theorem dX5_least_90 : decode cX5_least 90 = .ok (.goto (-81), 3) := by decide +kernel
theorem dX5_least_93 : decode cX5_least 93 = .ok (.iconst (-1), 1) := by decide +kernel
theorem dX5_least_94 : decode cX5_least 94 = .ok (.ireturn, 1) := by decide +kernel
theorem dX5_nextWithin_0 : decode cX5_nextWithin 0 = .ok (.iload_n 0, 1) := by decide +kernel
theorem dX5_nextWithin_1 : decode cX5_nextWithin 1 = .ok (.iload_n 1, 1) := by decide +kernel
theorem dX5_nextWithin_2 : decode cX5_nextWithin 2 = .ok (.isub, 1) := by decide +kernel
theorem dX5_nextWithin_3 : decode cX5_nextWithin 3 = .ok (.iload_n 1, 1) := by decide +kernel
theorem dX5_nextWithin_4 : decode cX5_nextWithin 4 = .ok (.iand, 1) := by decide +kernel
theorem dX5_nextWithin_5 : decode cX5_nextWithin 5 = .ok (.ireturn, 1) := by decide +kernel
theorem dX5_listFor_0 : decode cX5_listFor 0 = .ok (.iload_n 1, 1) := by decide +kernel
theorem dX5_listFor_1 : decode cX5_listFor 1 = .ok (.invokestatic 75, 3) := by decide +kernel
theorem dX5_listFor_4 : decode cX5_listFor 4 = .ok (.istore_n 2, 1) := by decide +kernel
theorem dX5_listFor_5 : decode cX5_listFor 5 = .ok (.iload_n 1, 1) := by decide +kernel
theorem dX5_listFor_6 : decode cX5_listFor 6 = .ok (.istore_n 3, 1) := by decide +kernel
theorem dX5_listFor_7 : decode cX5_listFor 7 = .ok (.iconst 0, 1) := by decide +kernel
theorem dX5_listFor_8 : decode cX5_listFor 8 = .ok (.istore 4, 2) := by decide +kernel
theorem dX5_listFor_10 : decode cX5_listFor 10 = .ok (.iload 4, 2) := by decide +kernel
theorem dX5_listFor_12 : decode cX5_listFor 12 = .ok (.iconst 1, 1) := by decide +kernel
theorem dX5_listFor_13 : decode cX5_listFor 13 = .ok (.iload_n 2, 1) := by decide +kernel
theorem dX5_listFor_14 : decode cX5_listFor 14 = .ok (.ishl, 1) := by decide +kernel
theorem dX5_listFor_15 : decode cX5_listFor 15 = .ok (.if_icmp .ge 41, 3) := by decide +kernel
theorem dX5_listFor_18 : decode cX5_listFor 18 = .ok (.aload_n 0, 1) := by decide +kernel
theorem dX5_listFor_19 : decode cX5_listFor 19 = .ok (.getfield 23, 3) := by decide +kernel
theorem dX5_listFor_22 : decode cX5_listFor 22 = .ok (.iload_n 3, 1) := by decide +kernel
theorem dX5_listFor_23 : decode cX5_listFor 23 = .ok (.iload_n 3, 1) := by decide +kernel
theorem dX5_listFor_24 : decode cX5_listFor 24 = .ok (.iload_n 1, 1) := by decide +kernel
theorem dX5_listFor_25 : decode cX5_listFor 25 = .ok (.if_icmp .ne 7, 3) := by decide +kernel
theorem dX5_listFor_28 : decode cX5_listFor 28 = .ok (.iconst 0, 1) := by decide +kernel
theorem dX5_listFor_29 : decode cX5_listFor 29 = .ok (.goto 14, 3) := by decide +kernel
theorem dX5_listFor_32 : decode cX5_listFor 32 = .ok (.aload_n 0, 1) := by decide +kernel
theorem dX5_listFor_33 : decode cX5_listFor 33 = .ok (.iload_n 3, 1) := by decide +kernel
theorem dX5_listFor_34 : decode cX5_listFor 34 = .ok (.aload_n 0, 1) := by decide +kernel
theorem dX5_listFor_35 : decode cX5_listFor 35 = .ok (.iload_n 1, 1) := by decide +kernel
theorem dX5_listFor_36 : decode cX5_listFor 36 = .ok (.iload_n 3, 1) := by decide +kernel
theorem dX5_listFor_37 : decode cX5_listFor 37 = .ok (.invokevirtual 87, 3) := by decide +kernel
theorem dX5_listFor_40 : decode cX5_listFor 40 = .ok (.invokevirtual 90, 3) := by decide +kernel
theorem dX5_listFor_43 : decode cX5_listFor 43 = .ok (.iastore, 1) := by decide +kernel
theorem dX5_listFor_44 : decode cX5_listFor 44 = .ok (.iload_n 3, 1) := by decide +kernel
theorem dX5_listFor_45 : decode cX5_listFor 45 = .ok (.iconst 1, 1) := by decide +kernel
theorem dX5_listFor_46 : decode cX5_listFor 46 = .ok (.isub, 1) := by decide +kernel
theorem dX5_listFor_47 : decode cX5_listFor 47 = .ok (.iload_n 1, 1) := by decide +kernel
theorem dX5_listFor_48 : decode cX5_listFor 48 = .ok (.iand, 1) := by decide +kernel
theorem dX5_listFor_49 : decode cX5_listFor 49 = .ok (.istore_n 3, 1) := by decide +kernel
theorem dX5_listFor_50 : decode cX5_listFor 50 = .ok (.iinc 4 1, 3) := by decide +kernel
theorem dX5_listFor_53 : decode cX5_listFor 53 = .ok (.goto (-43), 3) := by decide +kernel
theorem dX5_listFor_56 : decode cX5_listFor 56 = .ok (.iconst 0, 1) := by decide +kernel
theorem dX5_listFor_57 : decode cX5_listFor 57 = .ok (.istore_n 3, 1) := by decide +kernel
theorem dX5_listFor_58 : decode cX5_listFor 58 = .ok (.aload_n 0, 1) := by decide +kernel
theorem dX5_listFor_59 : decode cX5_listFor 59 = .ok (.iconst 0, 1) := by decide +kernel
theorem dX5_listFor_60 : decode cX5_listFor 60 = .ok (.putfield 30, 3) := by decide +kernel
theorem dX5_listFor_63 : decode cX5_listFor 63 = .ok (.iconst 0, 1) := by decide +kernel
theorem dX5_listFor_64 : decode cX5_listFor 64 = .ok (.istore 4, 2) := by decide +kernel
theorem dX5_listFor_66 : decode cX5_listFor 66 = .ok (.iload 4, 2) := by decide +kernel
theorem dX5_listFor_68 : decode cX5_listFor 68 = .ok (.iload_n 2, 1) := by decide +kernel
theorem dX5_listFor_69 : decode cX5_listFor 69 = .ok (.if_icmp .ge 51, 3) := by decide +kernel
theorem dX5_listFor_72 : decode cX5_listFor 72 = .ok (.iload 4, 2) := by decide +kernel
theorem dX5_listFor_74 : decode cX5_listFor 74 = .ok (.bipush 6, 2) := by decide +kernel
theorem dX5_listFor_76 : decode cX5_listFor 76 = .ok (.if_icmp .ge 44, 3) := by decide +kernel
theorem dX5_listFor_79 : decode cX5_listFor 79 = .ok (.aload_n 0, 1) := by decide +kernel
theorem dX5_listFor_80 : decode cX5_listFor 80 = .ok (.getfield 27, 3) := by decide +kernel
theorem dX5_listFor_83 : decode cX5_listFor 83 = .ok (.iload 4, 2) := by decide +kernel
theorem dX5_listFor_85 : decode cX5_listFor 85 = .ok (.aload_n 0, 1) := by decide +kernel
theorem dX5_listFor_86 : decode cX5_listFor 86 = .ok (.iload_n 1, 1) := by decide +kernel
theorem dX5_listFor_87 : decode cX5_listFor 87 = .ok (.iload_n 3, 1) := by decide +kernel
theorem dX5_listFor_88 : decode cX5_listFor 88 = .ok (.invokevirtual 87, 3) := by decide +kernel
theorem dX5_listFor_91 : decode cX5_listFor 91 = .ok (.iastore, 1) := by decide +kernel
theorem dX5_listFor_92 : decode cX5_listFor 92 = .ok (.aload_n 0, 1) := by decide +kernel
theorem dX5_listFor_93 : decode cX5_listFor 93 = .ok (.dup, 1) := by decide +kernel
theorem dX5_listFor_94 : decode cX5_listFor 94 = .ok (.getfield 30, 3) := by decide +kernel
theorem dX5_listFor_97 : decode cX5_listFor 97 = .ok (.iconst 1, 1) := by decide +kernel
theorem dX5_listFor_98 : decode cX5_listFor 98 = .ok (.iadd, 1) := by decide +kernel
theorem dX5_listFor_99 : decode cX5_listFor 99 = .ok (.putfield 30, 3) := by decide +kernel
theorem dX5_listFor_102 : decode cX5_listFor 102 = .ok (.iload_n 3, 1) := by decide +kernel
theorem dX5_listFor_103 : decode cX5_listFor 103 = .ok (.iconst 1, 1) := by decide +kernel
theorem dX5_listFor_104 : decode cX5_listFor 104 = .ok (.aload_n 0, 1) := by decide +kernel
theorem dX5_listFor_105 : decode cX5_listFor 105 = .ok (.getfield 27, 3) := by decide +kernel
theorem dX5_listFor_108 : decode cX5_listFor 108 = .ok (.iload 4, 2) := by decide +kernel
theorem dX5_listFor_110 : decode cX5_listFor 110 = .ok (.iaload, 1) := by decide +kernel
theorem dX5_listFor_111 : decode cX5_listFor 111 = .ok (.ishl, 1) := by decide +kernel
theorem dX5_listFor_112 : decode cX5_listFor 112 = .ok (.ior, 1) := by decide +kernel
theorem dX5_listFor_113 : decode cX5_listFor 113 = .ok (.istore_n 3, 1) := by decide +kernel
theorem dX5_listFor_114 : decode cX5_listFor 114 = .ok (.iinc 4 1, 3) := by decide +kernel
theorem dX5_listFor_117 : decode cX5_listFor 117 = .ok (.goto (-51), 3) := by decide +kernel
theorem dX5_listFor_120 : decode cX5_listFor 120 = .ok (.aload_n 0, 1) := by decide +kernel
theorem dX5_listFor_121 : decode cX5_listFor 121 = .ok (.getfield 23, 3) := by decide +kernel
theorem dX5_listFor_124 : decode cX5_listFor 124 = .ok (.iconst 0, 1) := by decide +kernel
theorem dX5_listFor_125 : decode cX5_listFor 125 = .ok (.iaload, 1) := by decide +kernel
theorem dX5_listFor_126 : decode cX5_listFor 126 = .ok (.ireturn, 1) := by decide +kernel
theorem dX5_worthOfNext_0 : decode cX5_worthOfNext 0 = .ok (.iload_n 1, 1) := by decide +kernel
theorem dX5_worthOfNext_1 : decode cX5_worthOfNext 1 = .ok (.iconst 1, 1) := by decide +kernel
theorem dX5_worthOfNext_2 : decode cX5_worthOfNext 2 = .ok (.iload_n 2, 1) := by decide +kernel
theorem dX5_worthOfNext_3 : decode cX5_worthOfNext 3 = .ok (.ishl, 1) := by decide +kernel
theorem dX5_worthOfNext_4 : decode cX5_worthOfNext 4 = .ok (.ior, 1) := by decide +kernel
theorem dX5_worthOfNext_5 : decode cX5_worthOfNext 5 = .ok (.istore_n 3, 1) := by decide +kernel
theorem dX5_worthOfNext_6 : decode cX5_worthOfNext 6 = .ok (.aload_n 0, 1) := by decide +kernel
theorem dX5_worthOfNext_7 : decode cX5_worthOfNext 7 = .ok (.getfield 15, 3) := by decide +kernel
theorem dX5_worthOfNext_10 : decode cX5_worthOfNext 10 = .ok (.aload_n 0, 1) := by decide +kernel
theorem dX5_worthOfNext_11 : decode cX5_worthOfNext 11 = .ok (.getfield 15, 3) := by decide +kernel
theorem dX5_worthOfNext_14 : decode cX5_worthOfNext 14 = .ok (.aload_n 0, 1) := by decide +kernel
theorem dX5_worthOfNext_15 : decode cX5_worthOfNext 15 = .ok (.getfield 9, 3) := by decide +kernel
theorem dX5_worthOfNext_18 : decode cX5_worthOfNext 18 = .ok (.getfield 37, 3) := by decide +kernel
theorem dX5_worthOfNext_21 : decode cX5_worthOfNext 21 = .ok (.iload_n 3, 1) := by decide +kernel
theorem dX5_worthOfNext_22 : decode cX5_worthOfNext 22 = .ok (.ior, 1) := by decide +kernel
theorem dX5_worthOfNext_23 : decode cX5_worthOfNext 23 = .ok (.invokevirtual 42, 3) := by decide +kernel
theorem dX5_worthOfNext_26 : decode cX5_worthOfNext 26 = .ok (.invokevirtual 93, 3) := by decide +kernel
theorem dX5_worthOfNext_29 : decode cX5_worthOfNext 29 = .ok (.invokestatic 75, 3) := by decide +kernel
theorem dX5_worthOfNext_32 : decode cX5_worthOfNext 32 = .ok (.aload_n 0, 1) := by decide +kernel
theorem dX5_worthOfNext_33 : decode cX5_worthOfNext 33 = .ok (.getfield 23, 3) := by decide +kernel
theorem dX5_worthOfNext_36 : decode cX5_worthOfNext 36 = .ok (.iload_n 3, 1) := by decide +kernel
theorem dX5_worthOfNext_37 : decode cX5_worthOfNext 37 = .ok (.iaload, 1) := by decide +kernel
theorem dX5_worthOfNext_38 : decode cX5_worthOfNext 38 = .ok (.iadd, 1) := by decide +kernel
theorem dX5_worthOfNext_39 : decode cX5_worthOfNext 39 = .ok (.ireturn, 1) := by decide +kernel
theorem dX5_bestNext_0 : decode cX5_bestNext 0 = .ok (.iconst 0, 1) := by decide +kernel
theorem dX5_bestNext_1 : decode cX5_bestNext 1 = .ok (.istore_n 3, 1) := by decide +kernel
theorem dX5_bestNext_2 : decode cX5_bestNext 2 = .ok (.iconst (-1), 1) := by decide +kernel
theorem dX5_bestNext_3 : decode cX5_bestNext 3 = .ok (.istore 4, 2) := by decide +kernel
theorem dX5_bestNext_5 : decode cX5_bestNext 5 = .ok (.iconst 0, 1) := by decide +kernel
theorem dX5_bestNext_6 : decode cX5_bestNext 6 = .ok (.istore 5, 2) := by decide +kernel
theorem dX5_bestNext_8 : decode cX5_bestNext 8 = .ok (.iload 5, 2) := by decide +kernel
theorem dX5_bestNext_10 : decode cX5_bestNext 10 = .ok (.aload_n 0, 1) := by decide +kernel
theorem dX5_bestNext_11 : decode cX5_bestNext 11 = .ok (.getfield 9, 3) := by decide +kernel
theorem dX5_bestNext_14 : decode cX5_bestNext 14 = .ok (.getfield 65, 3) := by decide +kernel
theorem dX5_bestNext_17 : decode cX5_bestNext 17 = .ok (.if_icmp .ge 50, 3) := by decide +kernel
theorem dX5_bestNext_20 : decode cX5_bestNext 20 = .ok (.iload_n 1, 1) := by decide +kernel
theorem dX5_bestNext_21 : decode cX5_bestNext 21 = .ok (.iload 5, 2) := by decide +kernel
theorem dX5_bestNext_23 : decode cX5_bestNext 23 = .ok (.ishr, 1) := by decide +kernel
theorem dX5_bestNext_24 : decode cX5_bestNext 24 = .ok (.iconst 1, 1) := by decide +kernel
theorem dX5_bestNext_25 : decode cX5_bestNext 25 = .ok (.iand, 1) := by decide +kernel
theorem dX5_bestNext_26 : decode cX5_bestNext 26 = .ok (.ifCond .eq 35, 3) := by decide +kernel
theorem dX5_bestNext_29 : decode cX5_bestNext 29 = .ok (.iload_n 2, 1) := by decide +kernel
theorem dX5_bestNext_30 : decode cX5_bestNext 30 = .ok (.iload 5, 2) := by decide +kernel
theorem dX5_bestNext_32 : decode cX5_bestNext 32 = .ok (.ishr, 1) := by decide +kernel
theorem dX5_bestNext_33 : decode cX5_bestNext 33 = .ok (.iconst 1, 1) := by decide +kernel
theorem dX5_bestNext_34 : decode cX5_bestNext 34 = .ok (.iand, 1) := by decide +kernel
theorem dX5_bestNext_35 : decode cX5_bestNext 35 = .ok (.ifCond .ne 26, 3) := by decide +kernel
theorem dX5_bestNext_38 : decode cX5_bestNext 38 = .ok (.aload_n 0, 1) := by decide +kernel
theorem dX5_bestNext_39 : decode cX5_bestNext 39 = .ok (.iload_n 2, 1) := by decide +kernel
theorem dX5_bestNext_40 : decode cX5_bestNext 40 = .ok (.iload 5, 2) := by decide +kernel
theorem dX5_bestNext_42 : decode cX5_bestNext 42 = .ok (.invokevirtual 90, 3) := by decide +kernel
theorem dX5_bestNext_45 : decode cX5_bestNext 45 = .ok (.istore 6, 2) := by decide +kernel
theorem dX5_bestNext_47 : decode cX5_bestNext 47 = .ok (.iload 6, 2) := by decide +kernel
theorem dX5_bestNext_49 : decode cX5_bestNext 49 = .ok (.iload 4, 2) := by decide +kernel
theorem dX5_bestNext_51 : decode cX5_bestNext 51 = .ok (.if_icmp .le 10, 3) := by decide +kernel
theorem dX5_bestNext_54 : decode cX5_bestNext 54 = .ok (.iload 6, 2) := by decide +kernel
theorem dX5_bestNext_56 : decode cX5_bestNext 56 = .ok (.istore 4, 2) := by decide +kernel
theorem dX5_bestNext_58 : decode cX5_bestNext 58 = .ok (.iload 5, 2) := by decide +kernel
theorem dX5_bestNext_60 : decode cX5_bestNext 60 = .ok (.istore_n 3, 1) := by decide +kernel
theorem dX5_bestNext_61 : decode cX5_bestNext 61 = .ok (.iinc 5 1, 3) := by decide +kernel
theorem dX5_bestNext_64 : decode cX5_bestNext 64 = .ok (.goto (-56), 3) := by decide +kernel
theorem dX5_bestNext_67 : decode cX5_bestNext 67 = .ok (.iload_n 3, 1) := by decide +kernel
theorem dX5_bestNext_68 : decode cX5_bestNext 68 = .ok (.ireturn, 1) := by decide +kernel
theorem dX5_startGame_0 : decode cX5_startGame 0 = .ok (.aload_n 0, 1) := by decide +kernel
theorem dX5_startGame_1 : decode cX5_startGame 1 = .ok (.iload_n 1, 1) := by decide +kernel
theorem dX5_startGame_2 : decode cX5_startGame 2 = .ok (.putfield 34, 3) := by decide +kernel
theorem dX5_startGame_5 : decode cX5_startGame 5 = .ok (.aload_n 0, 1) := by decide +kernel
theorem dX5_startGame_6 : decode cX5_startGame 6 = .ok (.getfield 23, 3) := by decide +kernel
theorem dX5_startGame_9 : decode cX5_startGame 9 = .ok (.bipush 99, 2) := by decide +kernel
theorem dX5_startGame_11 : decode cX5_startGame 11 = .ok (.invokestatic 96, 3) := by decide +kernel
theorem dX5_startGame_14 : decode cX5_startGame 14 = .ok (.return_, 1) := by decide +kernel
theorem dX5_worthOfGame_0 : decode cX5_worthOfGame 0 = .ok (.aload_n 0, 1) := by decide +kernel
theorem dX5_worthOfGame_1 : decode cX5_worthOfGame 1 = .ok (.iload_n 1, 1) := by decide +kernel
theorem dX5_worthOfGame_2 : decode cX5_worthOfGame 2 = .ok (.invokevirtual 102, 3) := by decide +kernel
theorem dX5_worthOfGame_5 : decode cX5_worthOfGame 5 = .ok (.aload_n 0, 1) := by decide +kernel
theorem dX5_worthOfGame_6 : decode cX5_worthOfGame 6 = .ok (.aload_n 0, 1) := by decide +kernel
theorem dX5_worthOfGame_7 : decode cX5_worthOfGame 7 = .ok (.getfield 9, 3) := by decide +kernel
theorem dX5_worthOfGame_10 : decode cX5_worthOfGame 10 = .ok (.getfield 37, 3) := by decide +kernel
theorem dX5_worthOfGame_13 : decode cX5_worthOfGame 13 = .ok (.iload_n 2, 1) := by decide +kernel
theorem dX5_worthOfGame_14 : decode cX5_worthOfGame 14 = .ok (.iconst 1, 1) := by decide +kernel
theorem dX5_worthOfGame_15 : decode cX5_worthOfGame 15 = .ok (.invokevirtual 106, 3) := by decide +kernel
theorem dX5_worthOfGame_18 : decode cX5_worthOfGame 18 = .ok (.ireturn, 1) := by decide +kernel
theorem dX5_bestOpening_0 : decode cX5_bestOpening 0 = .ok (.aload_n 0, 1) := by decide +kernel
theorem dX5_bestOpening_1 : decode cX5_bestOpening 1 = .ok (.iload_n 1, 1) := by decide +kernel
theorem dX5_bestOpening_2 : decode cX5_bestOpening 2 = .ok (.invokevirtual 102, 3) := by decide +kernel
theorem dX5_bestOpening_5 : decode cX5_bestOpening 5 = .ok (.aload_n 0, 1) := by decide +kernel
theorem dX5_bestOpening_6 : decode cX5_bestOpening 6 = .ok (.getfield 19, 3) := by decide +kernel
theorem dX5_bestOpening_9 : decode cX5_bestOpening 9 = .ok (.invokevirtual 61, 3) := by decide +kernel
theorem dX5_bestOpening_12 : decode cX5_bestOpening 12 = .ok (.istore_n 3, 1) := by decide +kernel
theorem dX5_bestOpening_13 : decode cX5_bestOpening 13 = .ok (.iconst (-1), 1) := by decide +kernel
theorem dX5_bestOpening_14 : decode cX5_bestOpening 14 = .ok (.istore 4, 2) := by decide +kernel
theorem dX5_bestOpening_16 : decode cX5_bestOpening 16 = .ok (.bipush (-99), 2) := by decide +kernel
theorem dX5_bestOpening_18 : decode cX5_bestOpening 18 = .ok (.istore 5, 2) := by decide +kernel
theorem dX5_bestOpening_20 : decode cX5_bestOpening 20 = .ok (.iconst 0, 1) := by decide +kernel
theorem dX5_bestOpening_21 : decode cX5_bestOpening 21 = .ok (.istore 6, 2) := by decide +kernel
theorem dX5_bestOpening_23 : decode cX5_bestOpening 23 = .ok (.iload 6, 2) := by decide +kernel
theorem dX5_bestOpening_25 : decode cX5_bestOpening 25 = .ok (.aload_n 0, 1) := by decide +kernel
theorem dX5_bestOpening_26 : decode cX5_bestOpening 26 = .ok (.getfield 9, 3) := by decide +kernel
theorem dX5_bestOpening_29 : decode cX5_bestOpening 29 = .ok (.getfield 65, 3) := by decide +kernel
theorem dX5_bestOpening_32 : decode cX5_bestOpening 32 = .ok (.if_icmp .ge 55, 3) := by decide +kernel
theorem dX5_bestOpening_35 : decode cX5_bestOpening 35 = .ok (.iload_n 3, 1) := by decide +kernel
theorem dX5_bestOpening_36 : decode cX5_bestOpening 36 = .ok (.iload 6, 2) := by decide +kernel
theorem dX5_bestOpening_38 : decode cX5_bestOpening 38 = .ok (.ishr, 1) := by decide +kernel
theorem dX5_bestOpening_39 : decode cX5_bestOpening 39 = .ok (.iconst 1, 1) := by decide +kernel
theorem dX5_bestOpening_40 : decode cX5_bestOpening 40 = .ok (.iand, 1) := by decide +kernel
theorem dX5_bestOpening_41 : decode cX5_bestOpening 41 = .ok (.ifCond .eq 40, 3) := by decide +kernel
theorem dX5_bestOpening_44 : decode cX5_bestOpening 44 = .ok (.aload_n 0, 1) := by decide +kernel
theorem dX5_bestOpening_45 : decode cX5_bestOpening 45 = .ok (.aload_n 0, 1) := by decide +kernel
theorem dX5_bestOpening_46 : decode cX5_bestOpening 46 = .ok (.getfield 9, 3) := by decide +kernel
theorem dX5_bestOpening_49 : decode cX5_bestOpening 49 = .ok (.getfield 37, 3) := by decide +kernel
theorem dX5_bestOpening_52 : decode cX5_bestOpening 52 = .ok (.iconst 1, 1) := by decide +kernel
theorem dX5_bestOpening_53 : decode cX5_bestOpening 53 = .ok (.iload 6, 2) := by decide +kernel
theorem dX5_bestOpening_55 : decode cX5_bestOpening 55 = .ok (.ishl, 1) := by decide +kernel
theorem dX5_bestOpening_56 : decode cX5_bestOpening 56 = .ok (.ior, 1) := by decide +kernel
theorem dX5_bestOpening_57 : decode cX5_bestOpening 57 = .ok (.iload_n 2, 1) := by decide +kernel
theorem dX5_bestOpening_58 : decode cX5_bestOpening 58 = .ok (.iconst 1, 1) := by decide +kernel
theorem dX5_bestOpening_59 : decode cX5_bestOpening 59 = .ok (.isub, 1) := by decide +kernel
theorem dX5_bestOpening_60 : decode cX5_bestOpening 60 = .ok (.iconst 0, 1) := by decide +kernel
theorem dX5_bestOpening_61 : decode cX5_bestOpening 61 = .ok (.invokevirtual 106, 3) := by decide +kernel
theorem dX5_bestOpening_64 : decode cX5_bestOpening 64 = .ok (.istore 7, 2) := by decide +kernel
theorem dX5_bestOpening_66 : decode cX5_bestOpening 66 = .ok (.iload 7, 2) := by decide +kernel
theorem dX5_bestOpening_68 : decode cX5_bestOpening 68 = .ok (.iload 5, 2) := by decide +kernel
theorem dX5_bestOpening_70 : decode cX5_bestOpening 70 = .ok (.if_icmp .le 11, 3) := by decide +kernel
theorem dX5_bestOpening_73 : decode cX5_bestOpening 73 = .ok (.iload 7, 2) := by decide +kernel
theorem dX5_bestOpening_75 : decode cX5_bestOpening 75 = .ok (.istore 5, 2) := by decide +kernel
theorem dX5_bestOpening_77 : decode cX5_bestOpening 77 = .ok (.iload 6, 2) := by decide +kernel
theorem dX5_bestOpening_79 : decode cX5_bestOpening 79 = .ok (.istore 4, 2) := by decide +kernel
theorem dX5_bestOpening_81 : decode cX5_bestOpening 81 = .ok (.iinc 6 1, 3) := by decide +kernel
theorem dX5_bestOpening_84 : decode cX5_bestOpening 84 = .ok (.goto (-61), 3) := by decide +kernel
theorem dX5_bestOpening_87 : decode cX5_bestOpening 87 = .ok (.iload 4, 2) := by decide +kernel
theorem dX5_bestOpening_89 : decode cX5_bestOpening 89 = .ok (.ireturn, 1) := by decide +kernel
theorem dX5_score_0 : decode cX5_score 0 = .ok (.aload_n 0, 1) := by decide +kernel
theorem dX5_score_1 : decode cX5_score 1 = .ok (.getfield 15, 3) := by decide +kernel
theorem dX5_score_4 : decode cX5_score 4 = .ok (.iload_n 1, 1) := by decide +kernel
theorem dX5_score_5 : decode cX5_score 5 = .ok (.invokevirtual 93, 3) := by decide +kernel
theorem dX5_score_8 : decode cX5_score 8 = .ok (.istore_n 2, 1) := by decide +kernel
theorem dX5_score_9 : decode cX5_score 9 = .ok (.iload_n 2, 1) := by decide +kernel
theorem dX5_score_10 : decode cX5_score 10 = .ok (.aload_n 0, 1) := by decide +kernel
theorem dX5_score_11 : decode cX5_score 11 = .ok (.getfield 34, 3) := by decide +kernel
theorem dX5_score_14 : decode cX5_score 14 = .ok (.iand, 1) := by decide +kernel
theorem dX5_score_15 : decode cX5_score 15 = .ok (.invokestatic 75, 3) := by decide +kernel
theorem dX5_score_18 : decode cX5_score 18 = .ok (.iload_n 2, 1) := by decide +kernel
theorem dX5_score_19 : decode cX5_score 19 = .ok (.aload_n 0, 1) := by decide +kernel
theorem dX5_score_20 : decode cX5_score 20 = .ok (.getfield 34, 3) := by decide +kernel
theorem dX5_score_23 : decode cX5_score 23 = .ok (.iconst (-1), 1) := by decide +kernel
theorem dX5_score_24 : decode cX5_score 24 = .ok (.ixor, 1) := by decide +kernel
theorem dX5_score_25 : decode cX5_score 25 = .ok (.iand, 1) := by decide +kernel
theorem dX5_score_26 : decode cX5_score 26 = .ok (.invokestatic 75, 3) := by decide +kernel
theorem dX5_score_29 : decode cX5_score 29 = .ok (.isub, 1) := by decide +kernel
theorem dX5_score_30 : decode cX5_score 30 = .ok (.ireturn, 1) := by decide +kernel
theorem dX5_play_0 : decode cX5_play 0 = .ok (.aload_n 0, 1) := by decide +kernel
theorem dX5_play_1 : decode cX5_play 1 = .ok (.getfield 15, 3) := by decide +kernel
theorem dX5_play_4 : decode cX5_play 4 = .ok (.iload_n 1, 1) := by decide +kernel
theorem dX5_play_5 : decode cX5_play 5 = .ok (.invokevirtual 42, 3) := by decide +kernel
theorem dX5_play_8 : decode cX5_play 8 = .ok (.istore 4, 2) := by decide +kernel
theorem dX5_play_10 : decode cX5_play 10 = .ok (.iload 4, 2) := by decide +kernel
theorem dX5_play_12 : decode cX5_play 12 = .ok (.aload_n 0, 1) := by decide +kernel
theorem dX5_play_13 : decode cX5_play 13 = .ok (.getfield 9, 3) := by decide +kernel
theorem dX5_play_16 : decode cX5_play 16 = .ok (.getfield 48, 3) := by decide +kernel
theorem dX5_play_19 : decode cX5_play 19 = .ok (.iconst (-1), 1) := by decide +kernel
theorem dX5_play_20 : decode cX5_play 20 = .ok (.ixor, 1) := by decide +kernel
theorem dX5_play_21 : decode cX5_play 21 = .ok (.iand, 1) := by decide +kernel
theorem dX5_play_22 : decode cX5_play 22 = .ok (.istore 5, 2) := by decide +kernel
theorem dX5_play_24 : decode cX5_play 24 = .ok (.iload_n 2, 1) := by decide +kernel
theorem dX5_play_25 : decode cX5_play 25 = .ok (.ifCond .le 8, 3) := by decide +kernel
theorem dX5_play_28 : decode cX5_play 28 = .ok (.iload 5, 2) := by decide +kernel
theorem dX5_play_30 : decode cX5_play 30 = .ok (.ifCond .ne 10, 3) := by decide +kernel
theorem dX5_play_33 : decode cX5_play 33 = .ok (.aload_n 0, 1) := by decide +kernel
theorem dX5_play_34 : decode cX5_play 34 = .ok (.iload 4, 2) := by decide +kernel
theorem dX5_play_36 : decode cX5_play 36 = .ok (.invokevirtual 110, 3) := by decide +kernel
theorem dX5_play_39 : decode cX5_play 39 = .ok (.ireturn, 1) := by decide +kernel
theorem dX5_play_40 : decode cX5_play 40 = .ok (.aload_n 0, 1) := by decide +kernel
theorem dX5_play_41 : decode cX5_play 41 = .ok (.getfield 23, 3) := by decide +kernel
theorem dX5_play_44 : decode cX5_play 44 = .ok (.iload_n 1, 1) := by decide +kernel
theorem dX5_play_45 : decode cX5_play 45 = .ok (.iaload, 1) := by decide +kernel
theorem dX5_play_46 : decode cX5_play 46 = .ok (.bipush 99, 2) := by decide +kernel
theorem dX5_play_48 : decode cX5_play 48 = .ok (.if_icmp .eq 10, 3) := by decide +kernel
theorem dX5_play_51 : decode cX5_play 51 = .ok (.aload_n 0, 1) := by decide +kernel
theorem dX5_play_52 : decode cX5_play 52 = .ok (.getfield 23, 3) := by decide +kernel
theorem dX5_play_55 : decode cX5_play 55 = .ok (.iload_n 1, 1) := by decide +kernel
theorem dX5_play_56 : decode cX5_play 56 = .ok (.iaload, 1) := by decide +kernel
theorem dX5_play_57 : decode cX5_play 57 = .ok (.ireturn, 1) := by decide +kernel
theorem dX5_play_58 : decode cX5_play 58 = .ok (.iload_n 3, 1) := by decide +kernel
theorem dX5_play_59 : decode cX5_play 59 = .ok (.ifCond .eq 8, 3) := by decide +kernel
theorem dX5_play_62 : decode cX5_play 62 = .ok (.bipush (-99), 2) := by decide +kernel
theorem dX5_play_64 : decode cX5_play 64 = .ok (.goto 5, 3) := by decide +kernel
theorem dX5_play_67 : decode cX5_play 67 = .ok (.bipush 99, 2) := by decide +kernel
theorem dX5_play_69 : decode cX5_play 69 = .ok (.istore 6, 2) := by decide +kernel
theorem dX5_play_71 : decode cX5_play 71 = .ok (.iconst 0, 1) := by decide +kernel
theorem dX5_play_72 : decode cX5_play 72 = .ok (.istore 7, 2) := by decide +kernel
theorem dX5_play_74 : decode cX5_play 74 = .ok (.iload 7, 2) := by decide +kernel
theorem dX5_play_76 : decode cX5_play 76 = .ok (.aload_n 0, 1) := by decide +kernel
theorem dX5_play_77 : decode cX5_play 77 = .ok (.getfield 9, 3) := by decide +kernel
theorem dX5_play_80 : decode cX5_play 80 = .ok (.getfield 65, 3) := by decide +kernel
theorem dX5_play_83 : decode cX5_play 83 = .ok (.if_icmp .ge 66, 3) := by decide +kernel
theorem dX5_play_86 : decode cX5_play 86 = .ok (.iload 5, 2) := by decide +kernel
theorem dX5_play_88 : decode cX5_play 88 = .ok (.iload 7, 2) := by decide +kernel
theorem dX5_play_90 : decode cX5_play 90 = .ok (.ishr, 1) := by decide +kernel
theorem dX5_play_91 : decode cX5_play 91 = .ok (.iconst 1, 1) := by decide +kernel
theorem dX5_play_92 : decode cX5_play 92 = .ok (.iand, 1) := by decide +kernel
theorem dX5_play_93 : decode cX5_play 93 = .ok (.ifCond .eq 50, 3) := by decide +kernel
theorem dX5_play_96 : decode cX5_play 96 = .ok (.aload_n 0, 1) := by decide +kernel
theorem dX5_play_97 : decode cX5_play 97 = .ok (.iload_n 1, 1) := by decide +kernel
theorem dX5_play_98 : decode cX5_play 98 = .ok (.iconst 1, 1) := by decide +kernel
theorem dX5_play_99 : decode cX5_play 99 = .ok (.iload 7, 2) := by decide +kernel
theorem dX5_play_101 : decode cX5_play 101 = .ok (.ishl, 1) := by decide +kernel
theorem dX5_play_102 : decode cX5_play 102 = .ok (.ior, 1) := by decide +kernel
theorem dX5_play_103 : decode cX5_play 103 = .ok (.iload_n 2, 1) := by decide +kernel
theorem dX5_play_104 : decode cX5_play 104 = .ok (.iconst 1, 1) := by decide +kernel
theorem dX5_play_105 : decode cX5_play 105 = .ok (.isub, 1) := by decide +kernel
theorem dX5_play_106 : decode cX5_play 106 = .ok (.iload_n 3, 1) := by decide +kernel
theorem dX5_play_107 : decode cX5_play 107 = .ok (.ifCond .ne 7, 3) := by decide +kernel
theorem dX5_play_110 : decode cX5_play 110 = .ok (.iconst 1, 1) := by decide +kernel
theorem dX5_play_111 : decode cX5_play 111 = .ok (.goto 4, 3) := by decide +kernel
theorem dX5_play_114 : decode cX5_play 114 = .ok (.iconst 0, 1) := by decide +kernel
theorem dX5_play_115 : decode cX5_play 115 = .ok (.invokevirtual 106, 3) := by decide +kernel
theorem dX5_play_118 : decode cX5_play 118 = .ok (.istore 8, 2) := by decide +kernel
theorem dX5_play_120 : decode cX5_play 120 = .ok (.iload_n 3, 1) := by decide +kernel
theorem dX5_play_121 : decode cX5_play 121 = .ok (.ifCond .eq 13, 3) := by decide +kernel
theorem dX5_play_124 : decode cX5_play 124 = .ok (.iload 6, 2) := by decide +kernel
theorem dX5_play_126 : decode cX5_play 126 = .ok (.iload 8, 2) := by decide +kernel
theorem dX5_play_128 : decode cX5_play 128 = .ok (.invokestatic 113, 3) := by decide +kernel
theorem dX5_play_131 : decode cX5_play 131 = .ok (.goto 10, 3) := by decide +kernel
theorem dX5_play_134 : decode cX5_play 134 = .ok (.iload 6, 2) := by decide +kernel
theorem dX5_play_136 : decode cX5_play 136 = .ok (.iload 8, 2) := by decide +kernel
theorem dX5_play_138 : decode cX5_play 138 = .ok (.invokestatic 118, 3) := by decide +kernel
theorem dX5_play_141 : decode cX5_play 141 = .ok (.istore 6, 2) := by decide +kernel
theorem dX5_play_143 : decode cX5_play 143 = .ok (.iinc 7 1, 3) := by decide +kernel
theorem dX5_play_146 : decode cX5_play 146 = .ok (.goto (-72), 3) := by decide +kernel
theorem dX5_play_149 : decode cX5_play 149 = .ok (.aload_n 0, 1) := by decide +kernel
theorem dX5_play_150 : decode cX5_play 150 = .ok (.getfield 23, 3) := by decide +kernel
theorem dX5_play_153 : decode cX5_play 153 = .ok (.iload_n 1, 1) := by decide +kernel
theorem dX5_play_154 : decode cX5_play 154 = .ok (.iload 6, 2) := by decide +kernel
theorem dX5_play_156 : decode cX5_play 156 = .ok (.iastore, 1) := by decide +kernel
theorem dX5_play_157 : decode cX5_play 157 = .ok (.iload 6, 2) := by decide +kernel
theorem dX5_play_159 : decode cX5_play 159 = .ok (.ireturn, 1) := by decide +kernel
theorem dX5_leastMaking_0 : decode cX5_leastMaking 0 = .ok (.aload_n 0, 1) := by decide +kernel
theorem dX5_leastMaking_1 : decode cX5_leastMaking 1 = .ok (.getfield 15, 3) := by decide +kernel
theorem dX5_leastMaking_4 : decode cX5_leastMaking 4 = .ok (.invokevirtual 121, 3) := by decide +kernel
theorem dX5_leastMaking_7 : decode cX5_leastMaking 7 = .ok (.istore_n 2, 1) := by decide +kernel
theorem dX5_leastMaking_8 : decode cX5_leastMaking 8 = .ok (.iload_n 2, 1) := by decide +kernel
theorem dX5_leastMaking_9 : decode cX5_leastMaking 9 = .ok (.iload_n 1, 1) := by decide +kernel
theorem dX5_leastMaking_10 : decode cX5_leastMaking 10 = .ok (.ishr, 1) := by decide +kernel
theorem dX5_leastMaking_11 : decode cX5_leastMaking 11 = .ok (.iconst 1, 1) := by decide +kernel
theorem dX5_leastMaking_12 : decode cX5_leastMaking 12 = .ok (.iand, 1) := by decide +kernel
theorem dX5_leastMaking_13 : decode cX5_leastMaking 13 = .ok (.ifCond .ne 5, 3) := by decide +kernel
theorem dX5_leastMaking_16 : decode cX5_leastMaking 16 = .ok (.iconst (-1), 1) := by decide +kernel
theorem dX5_leastMaking_17 : decode cX5_leastMaking 17 = .ok (.ireturn, 1) := by decide +kernel
theorem dX5_leastMaking_18 : decode cX5_leastMaking 18 = .ok (.aload_n 0, 1) := by decide +kernel
theorem dX5_leastMaking_19 : decode cX5_leastMaking 19 = .ok (.getfield 15, 3) := by decide +kernel
theorem dX5_leastMaking_22 : decode cX5_leastMaking 22 = .ok (.getfield 124, 3) := by decide +kernel
theorem dX5_leastMaking_25 : decode cX5_leastMaking 25 = .ok (.iload_n 1, 1) := by decide +kernel
theorem dX5_leastMaking_26 : decode cX5_leastMaking 26 = .ok (.ishr, 1) := by decide +kernel
theorem dX5_leastMaking_27 : decode cX5_leastMaking 27 = .ok (.iconst 1, 1) := by decide +kernel
theorem dX5_leastMaking_28 : decode cX5_leastMaking 28 = .ok (.iand, 1) := by decide +kernel
theorem dX5_leastMaking_29 : decode cX5_leastMaking 29 = .ok (.ifCond .ne 5, 3) := by decide +kernel
theorem dX5_leastMaking_32 : decode cX5_leastMaking 32 = .ok (.iconst 0, 1) := by decide +kernel
theorem dX5_leastMaking_33 : decode cX5_leastMaking 33 = .ok (.ireturn, 1) := by decide +kernel
theorem dX5_leastMaking_34 : decode cX5_leastMaking 34 = .ok (.iload_n 2, 1) := by decide +kernel
theorem dX5_leastMaking_35 : decode cX5_leastMaking 35 = .ok (.aload_n 0, 1) := by decide +kernel
theorem dX5_leastMaking_36 : decode cX5_leastMaking 36 = .ok (.getfield 15, 3) := by decide +kernel
theorem dX5_leastMaking_39 : decode cX5_leastMaking 39 = .ok (.getfield 124, 3) := by decide +kernel
theorem dX5_leastMaking_42 : decode cX5_leastMaking 42 = .ok (.iand, 1) := by decide +kernel
theorem dX5_leastMaking_43 : decode cX5_leastMaking 43 = .ok (.istore_n 3, 1) := by decide +kernel
theorem dX5_leastMaking_44 : decode cX5_leastMaking 44 = .ok (.iconst 1, 1) := by decide +kernel
theorem dX5_leastMaking_45 : decode cX5_leastMaking 45 = .ok (.iload_n 3, 1) := by decide +kernel
theorem dX5_leastMaking_46 : decode cX5_leastMaking 46 = .ok (.invokestatic 75, 3) := by decide +kernel
theorem dX5_leastMaking_49 : decode cX5_leastMaking 49 = .ok (.ishl, 1) := by decide +kernel
theorem dX5_leastMaking_50 : decode cX5_leastMaking 50 = .ok (.istore 4, 2) := by decide +kernel
theorem dX5_leastMaking_52 : decode cX5_leastMaking 52 = .ok (.iconst (-1), 1) := by decide +kernel
theorem dX5_leastMaking_53 : decode cX5_leastMaking 53 = .ok (.istore 5, 2) := by decide +kernel
theorem dX5_leastMaking_55 : decode cX5_leastMaking 55 = .ok (.bipush 13, 2) := by decide +kernel
theorem dX5_leastMaking_57 : decode cX5_leastMaking 57 = .ok (.istore 6, 2) := by decide +kernel
theorem dX5_leastMaking_59 : decode cX5_leastMaking 59 = .ok (.iconst 0, 1) := by decide +kernel
theorem dX5_leastMaking_60 : decode cX5_leastMaking 60 = .ok (.istore 7, 2) := by decide +kernel
theorem dX5_leastMaking_62 : decode cX5_leastMaking 62 = .ok (.aload_n 0, 1) := by decide +kernel
theorem dX5_leastMaking_63 : decode cX5_leastMaking 63 = .ok (.getfield 23, 3) := by decide +kernel
theorem dX5_leastMaking_66 : decode cX5_leastMaking 66 = .ok (.iconst 0, 1) := by decide +kernel
theorem dX5_leastMaking_67 : decode cX5_leastMaking 67 = .ok (.iconst 0, 1) := by decide +kernel
theorem dX5_leastMaking_68 : decode cX5_leastMaking 68 = .ok (.iastore, 1) := by decide +kernel
theorem dX5_leastMaking_69 : decode cX5_leastMaking 69 = .ok (.iconst 1, 1) := by decide +kernel
theorem dX5_leastMaking_70 : decode cX5_leastMaking 70 = .ok (.istore 8, 2) := by decide +kernel
theorem dX5_leastMaking_72 : decode cX5_leastMaking 72 = .ok (.iload 8, 2) := by decide +kernel
theorem dX5_leastMaking_74 : decode cX5_leastMaking 74 = .ok (.iload 4, 2) := by decide +kernel
theorem dX5_leastMaking_76 : decode cX5_leastMaking 76 = .ok (.if_icmp .ge 107, 3) := by decide +kernel
theorem dX5_leastMaking_79 : decode cX5_leastMaking 79 = .ok (.iload 7, 2) := by decide +kernel
theorem dX5_leastMaking_81 : decode cX5_leastMaking 81 = .ok (.iload_n 3, 1) := by decide +kernel
theorem dX5_leastMaking_82 : decode cX5_leastMaking 82 = .ok (.invokestatic 84, 3) := by decide +kernel
theorem dX5_leastMaking_85 : decode cX5_leastMaking 85 = .ok (.istore 7, 2) := by decide +kernel
theorem dX5_leastMaking_87 : decode cX5_leastMaking 87 = .ok (.aload_n 0, 1) := by decide +kernel
theorem dX5_leastMaking_88 : decode cX5_leastMaking 88 = .ok (.getfield 23, 3) := by decide +kernel
theorem dX5_leastMaking_91 : decode cX5_leastMaking 91 = .ok (.iload 7, 2) := by decide +kernel
theorem dX5_leastMaking_93 : decode cX5_leastMaking 93 = .ok (.aload_n 0, 1) := by decide +kernel
theorem dX5_leastMaking_94 : decode cX5_leastMaking 94 = .ok (.iload 7, 2) := by decide +kernel
theorem dX5_leastMaking_96 : decode cX5_leastMaking 96 = .ok (.iload_n 2, 1) := by decide +kernel
theorem dX5_leastMaking_97 : decode cX5_leastMaking 97 = .ok (.aload_n 0, 1) := by decide +kernel
theorem dX5_leastMaking_98 : decode cX5_leastMaking 98 = .ok (.getfield 15, 3) := by decide +kernel
theorem dX5_leastMaking_101 : decode cX5_leastMaking 101 = .ok (.getfield 124, 3) := by decide +kernel
theorem dX5_leastMaking_104 : decode cX5_leastMaking 104 = .ok (.iconst (-1), 1) := by decide +kernel
theorem dX5_leastMaking_105 : decode cX5_leastMaking 105 = .ok (.ixor, 1) := by decide +kernel
theorem dX5_leastMaking_106 : decode cX5_leastMaking 106 = .ok (.iand, 1) := by decide +kernel
theorem dX5_leastMaking_107 : decode cX5_leastMaking 107 = .ok (.invokevirtual 127, 3) := by decide +kernel
theorem dX5_leastMaking_110 : decode cX5_leastMaking 110 = .ok (.iastore, 1) := by decide +kernel
theorem dX5_leastMaking_111 : decode cX5_leastMaking 111 = .ok (.iload 7, 2) := by decide +kernel
theorem dX5_leastMaking_113 : decode cX5_leastMaking 113 = .ok (.invokestatic 75, 3) := by decide +kernel
theorem dX5_leastMaking_116 : decode cX5_leastMaking 116 = .ok (.istore 9, 2) := by decide +kernel
theorem dX5_leastMaking_118 : decode cX5_leastMaking 118 = .ok (.aload_n 0, 1) := by decide +kernel
theorem dX5_leastMaking_119 : decode cX5_leastMaking 119 = .ok (.getfield 23, 3) := by decide +kernel
theorem dX5_leastMaking_122 : decode cX5_leastMaking 122 = .ok (.iload 7, 2) := by decide +kernel
theorem dX5_leastMaking_124 : decode cX5_leastMaking 124 = .ok (.iaload, 1) := by decide +kernel
theorem dX5_leastMaking_125 : decode cX5_leastMaking 125 = .ok (.iconst (-1), 1) := by decide +kernel
theorem dX5_leastMaking_126 : decode cX5_leastMaking 126 = .ok (.if_icmp .eq 51, 3) := by decide +kernel
theorem dX5_leastMaking_129 : decode cX5_leastMaking 129 = .ok (.iload 7, 2) := by decide +kernel
theorem dX5_leastMaking_131 : decode cX5_leastMaking 131 = .ok (.iload_n 1, 1) := by decide +kernel
theorem dX5_leastMaking_132 : decode cX5_leastMaking 132 = .ok (.ishr, 1) := by decide +kernel
theorem dX5_leastMaking_133 : decode cX5_leastMaking 133 = .ok (.iconst 1, 1) := by decide +kernel
theorem dX5_leastMaking_134 : decode cX5_leastMaking 134 = .ok (.iand, 1) := by decide +kernel
theorem dX5_leastMaking_135 : decode cX5_leastMaking 135 = .ok (.ifCond .eq 42, 3) := by decide +kernel
theorem dX5_leastMaking_138 : decode cX5_leastMaking 138 = .ok (.iload 9, 2) := by decide +kernel
theorem dX5_leastMaking_140 : decode cX5_leastMaking 140 = .ok (.iload 6, 2) := by decide +kernel
theorem dX5_leastMaking_142 : decode cX5_leastMaking 142 = .ok (.if_icmp .lt 22, 3) := by decide +kernel
theorem dX5_leastMaking_145 : decode cX5_leastMaking 145 = .ok (.iload 9, 2) := by decide +kernel
theorem dX5_leastMaking_147 : decode cX5_leastMaking 147 = .ok (.iload 6, 2) := by decide +kernel
theorem dX5_leastMaking_149 : decode cX5_leastMaking 149 = .ok (.if_icmp .ne 28, 3) := by decide +kernel
theorem dX5_leastMaking_152 : decode cX5_leastMaking 152 = .ok (.aload_n 0, 1) := by decide +kernel
theorem dX5_leastMaking_153 : decode cX5_leastMaking 153 = .ok (.getfield 23, 3) := by decide +kernel
theorem dX5_leastMaking_156 : decode cX5_leastMaking 156 = .ok (.iload 7, 2) := by decide +kernel
theorem dX5_leastMaking_158 : decode cX5_leastMaking 158 = .ok (.iaload, 1) := by decide +kernel
theorem dX5_leastMaking_159 : decode cX5_leastMaking 159 = .ok (.iload 5, 2) := by decide +kernel
theorem dX5_leastMaking_161 : decode cX5_leastMaking 161 = .ok (.if_icmp .ge 16, 3) := by decide +kernel
theorem dX5_leastMaking_164 : decode cX5_leastMaking 164 = .ok (.iload 9, 2) := by decide +kernel
theorem dX5_leastMaking_166 : decode cX5_leastMaking 166 = .ok (.istore 6, 2) := by decide +kernel
theorem dX5_leastMaking_168 : decode cX5_leastMaking 168 = .ok (.aload_n 0, 1) := by decide +kernel
theorem dX5_leastMaking_169 : decode cX5_leastMaking 169 = .ok (.getfield 23, 3) := by decide +kernel
theorem dX5_leastMaking_172 : decode cX5_leastMaking 172 = .ok (.iload 7, 2) := by decide +kernel
theorem dX5_leastMaking_174 : decode cX5_leastMaking 174 = .ok (.iaload, 1) := by decide +kernel
theorem dX5_leastMaking_175 : decode cX5_leastMaking 175 = .ok (.istore 5, 2) := by decide +kernel
theorem dX5_leastMaking_177 : decode cX5_leastMaking 177 = .ok (.iinc 8 1, 3) := by decide +kernel
theorem dX5_leastMaking_180 : decode cX5_leastMaking 180 = .ok (.goto (-108), 3) := by decide +kernel
theorem dX5_leastMaking_183 : decode cX5_leastMaking 183 = .ok (.iload 5, 2) := by decide +kernel
theorem dX5_leastMaking_185 : decode cX5_leastMaking 185 = .ok (.ireturn, 1) := by decide +kernel
theorem dX5_leastMakingAll_0 : decode cX5_leastMakingAll 0 = .ok (.iconst (-1), 1) := by decide +kernel
theorem dX5_leastMakingAll_1 : decode cX5_leastMakingAll 1 = .ok (.istore_n 3, 1) := by decide +kernel
theorem dX5_leastMakingAll_2 : decode cX5_leastMakingAll 2 = .ok (.iconst 0, 1) := by decide +kernel
theorem dX5_leastMakingAll_3 : decode cX5_leastMakingAll 3 = .ok (.istore 4, 2) := by decide +kernel
theorem dX5_leastMakingAll_5 : decode cX5_leastMakingAll 5 = .ok (.iload 4, 2) := by decide +kernel
theorem dX5_leastMakingAll_7 : decode cX5_leastMakingAll 7 = .ok (.aload_n 0, 1) := by decide +kernel
theorem dX5_leastMakingAll_8 : decode cX5_leastMakingAll 8 = .ok (.getfield 9, 3) := by decide +kernel
theorem dX5_leastMakingAll_11 : decode cX5_leastMakingAll 11 = .ok (.getfield 130, 3) := by decide +kernel
theorem dX5_leastMakingAll_14 : decode cX5_leastMakingAll 14 = .ok (.if_icmp .ge 100, 3) := by decide +kernel
theorem dX5_leastMakingAll_17 : decode cX5_leastMakingAll 17 = .ok (.iconst 1, 1) := by decide +kernel
theorem dX5_leastMakingAll_18 : decode cX5_leastMakingAll 18 = .ok (.aload_n 0, 1) := by decide +kernel
theorem dX5_leastMakingAll_19 : decode cX5_leastMakingAll 19 = .ok (.getfield 9, 3) := by decide +kernel
theorem dX5_leastMakingAll_22 : decode cX5_leastMakingAll 22 = .ok (.getfield 133, 3) := by decide +kernel
theorem dX5_leastMakingAll_25 : decode cX5_leastMakingAll 25 = .ok (.iload 4, 2) := by decide +kernel
theorem dX5_leastMakingAll_27 : decode cX5_leastMakingAll 27 = .ok (.iaload, 1) := by decide +kernel
theorem dX5_leastMakingAll_28 : decode cX5_leastMakingAll 28 = .ok (.ishl, 1) := by decide +kernel
theorem dX5_leastMakingAll_29 : decode cX5_leastMakingAll 29 = .ok (.istore 5, 2) := by decide +kernel
theorem dX5_leastMakingAll_31 : decode cX5_leastMakingAll 31 = .ok (.iload_n 1, 1) := by decide +kernel
theorem dX5_leastMakingAll_32 : decode cX5_leastMakingAll 32 = .ok (.iload 5, 2) := by decide +kernel
theorem dX5_leastMakingAll_34 : decode cX5_leastMakingAll 34 = .ok (.iconst (-1), 1) := by decide +kernel
theorem dX5_leastMakingAll_35 : decode cX5_leastMakingAll 35 = .ok (.ixor, 1) := by decide +kernel
theorem dX5_leastMakingAll_36 : decode cX5_leastMakingAll 36 = .ok (.iand, 1) := by decide +kernel
theorem dX5_leastMakingAll_37 : decode cX5_leastMakingAll 37 = .ok (.istore 6, 2) := by decide +kernel
theorem dX5_leastMakingAll_39 : decode cX5_leastMakingAll 39 = .ok (.iload_n 1, 1) := by decide +kernel
theorem dX5_leastMakingAll_40 : decode cX5_leastMakingAll 40 = .ok (.iload 5, 2) := by decide +kernel
theorem dX5_leastMakingAll_42 : decode cX5_leastMakingAll 42 = .ok (.iand, 1) := by decide +kernel
theorem dX5_leastMakingAll_43 : decode cX5_leastMakingAll 43 = .ok (.ifCond .eq 65, 3) := by decide +kernel
theorem dX5_leastMakingAll_46 : decode cX5_leastMakingAll 46 = .ok (.aload_n 0, 1) := by decide +kernel
theorem dX5_leastMakingAll_47 : decode cX5_leastMakingAll 47 = .ok (.getfield 23, 3) := by decide +kernel
theorem dX5_leastMakingAll_50 : decode cX5_leastMakingAll 50 = .ok (.iload 6, 2) := by decide +kernel
theorem dX5_leastMakingAll_52 : decode cX5_leastMakingAll 52 = .ok (.iaload, 1) := by decide +kernel
theorem dX5_leastMakingAll_53 : decode cX5_leastMakingAll 53 = .ok (.iconst (-1), 1) := by decide +kernel
theorem dX5_leastMakingAll_54 : decode cX5_leastMakingAll 54 = .ok (.if_icmp .eq 54, 3) := by decide +kernel
theorem dX5_leastMakingAll_57 : decode cX5_leastMakingAll 57 = .ok (.aload_n 0, 1) := by decide +kernel
theorem dX5_leastMakingAll_58 : decode cX5_leastMakingAll 58 = .ok (.getfield 9, 3) := by decide +kernel
theorem dX5_leastMakingAll_61 : decode cX5_leastMakingAll 61 = .ok (.getfield 136, 3) := by decide +kernel
theorem dX5_leastMakingAll_64 : decode cX5_leastMakingAll 64 = .ok (.iload 4, 2) := by decide +kernel
theorem dX5_leastMakingAll_66 : decode cX5_leastMakingAll 66 = .ok (.iaload, 1) := by decide +kernel
theorem dX5_leastMakingAll_67 : decode cX5_leastMakingAll 67 = .ok (.iload 6, 2) := by decide +kernel
theorem dX5_leastMakingAll_69 : decode cX5_leastMakingAll 69 = .ok (.iload_n 2, 1) := by decide +kernel
theorem dX5_leastMakingAll_70 : decode cX5_leastMakingAll 70 = .ok (.ior, 1) := by decide +kernel
theorem dX5_leastMakingAll_71 : decode cX5_leastMakingAll 71 = .ok (.iconst (-1), 1) := by decide +kernel
theorem dX5_leastMakingAll_72 : decode cX5_leastMakingAll 72 = .ok (.ixor, 1) := by decide +kernel
theorem dX5_leastMakingAll_73 : decode cX5_leastMakingAll 73 = .ok (.iand, 1) := by decide +kernel
theorem dX5_leastMakingAll_74 : decode cX5_leastMakingAll 74 = .ok (.ifCond .ne 34, 3) := by decide +kernel
theorem dX5_leastMakingAll_77 : decode cX5_leastMakingAll 77 = .ok (.aload_n 0, 1) := by decide +kernel
theorem dX5_leastMakingAll_78 : decode cX5_leastMakingAll 78 = .ok (.getfield 23, 3) := by decide +kernel
theorem dX5_leastMakingAll_81 : decode cX5_leastMakingAll 81 = .ok (.iload 6, 2) := by decide +kernel
theorem dX5_leastMakingAll_83 : decode cX5_leastMakingAll 83 = .ok (.iaload, 1) := by decide +kernel
theorem dX5_leastMakingAll_84 : decode cX5_leastMakingAll 84 = .ok (.iconst 1, 1) := by decide +kernel
theorem dX5_leastMakingAll_85 : decode cX5_leastMakingAll 85 = .ok (.iload 4, 2) := by decide +kernel
theorem dX5_leastMakingAll_87 : decode cX5_leastMakingAll 87 = .ok (.ishl, 1) := by decide +kernel
theorem dX5_leastMakingAll_88 : decode cX5_leastMakingAll 88 = .ok (.ior, 1) := by decide +kernel
theorem dX5_leastMakingAll_89 : decode cX5_leastMakingAll 89 = .ok (.istore 7, 2) := by decide +kernel
theorem dX5_leastMakingAll_91 : decode cX5_leastMakingAll 91 = .ok (.iload_n 3, 1) := by decide +kernel
theorem dX5_leastMakingAll_92 : decode cX5_leastMakingAll 92 = .ok (.iconst (-1), 1) := by decide +kernel
theorem dX5_leastMakingAll_93 : decode cX5_leastMakingAll 93 = .ok (.if_icmp .ne 8, 3) := by decide +kernel
theorem dX5_leastMakingAll_96 : decode cX5_leastMakingAll 96 = .ok (.iload 7, 2) := by decide +kernel
theorem dX5_leastMakingAll_98 : decode cX5_leastMakingAll 98 = .ok (.goto 9, 3) := by decide +kernel
theorem dX5_leastMakingAll_101 : decode cX5_leastMakingAll 101 = .ok (.iload_n 3, 1) := by decide +kernel
theorem dX5_leastMakingAll_102 : decode cX5_leastMakingAll 102 = .ok (.iload 7, 2) := by decide +kernel
theorem dX5_leastMakingAll_104 : decode cX5_leastMakingAll 104 = .ok (.invokestatic 118, 3) := by decide +kernel
theorem dX5_leastMakingAll_107 : decode cX5_leastMakingAll 107 = .ok (.istore_n 3, 1) := by decide +kernel
theorem dX5_leastMakingAll_108 : decode cX5_leastMakingAll 108 = .ok (.iinc 4 1, 3) := by decide +kernel
theorem dX5_leastMakingAll_111 : decode cX5_leastMakingAll 111 = .ok (.goto (-106), 3) := by decide +kernel
theorem dX5_leastMakingAll_114 : decode cX5_leastMakingAll 114 = .ok (.iload_n 3, 1) := by decide +kernel
theorem dX5_leastMakingAll_115 : decode cX5_leastMakingAll 115 = .ok (.ireturn, 1) := by decide +kernel
theorem dX6_init_0 : decode cX6_init 0 = .ok (.aload_n 0, 1) := by decide +kernel
theorem dX6_init_1 : decode cX6_init 1 = .ok (.invokespecial 3, 3) := by decide +kernel
theorem dX6_init_4 : decode cX6_init 4 = .ok (.aload_n 0, 1) := by decide +kernel
theorem dX6_init_5 : decode cX6_init 5 = .ok (.sipush 4096, 3) := by decide +kernel
theorem dX6_init_8 : decode cX6_init 8 = .ok (.newarray .int, 2) := by decide +kernel
theorem dX6_init_10 : decode cX6_init 10 = .ok (.putfield 9, 3) := by decide +kernel
theorem dX6_init_13 : decode cX6_init 13 = .ok (.aload_n 0, 1) := by decide +kernel
theorem dX6_init_14 : decode cX6_init 14 = .ok (.aload_n 1, 1) := by decide +kernel
theorem dX6_init_15 : decode cX6_init 15 = .ok (.putfield 15, 3) := by decide +kernel
theorem dX6_init_18 : decode cX6_init 18 = .ok (.aload_n 0, 1) := by decide +kernel
theorem dX6_init_19 : decode cX6_init 19 = .ok (.iconst 0, 1) := by decide +kernel
theorem dX6_init_20 : decode cX6_init 20 = .ok (.putfield 19, 3) := by decide +kernel
theorem dX6_init_23 : decode cX6_init 23 = .ok (.aload_n 0, 1) := by decide +kernel
theorem dX6_init_24 : decode cX6_init 24 = .ok (.iconst 1, 1) := by decide +kernel
theorem dX6_init_25 : decode cX6_init 25 = .ok (.putfield 23, 3) := by decide +kernel
theorem dX6_init_28 : decode cX6_init 28 = .ok (.return_, 1) := by decide +kernel
theorem dX6_turnTo_0 : decode cX6_turnTo 0 = .ok (.aload_n 0, 1) := by decide +kernel
theorem dX6_turnTo_1 : decode cX6_turnTo 1 = .ok (.aload_n 1, 1) := by decide +kernel
theorem dX6_turnTo_2 : decode cX6_turnTo 2 = .ok (.putfield 15, 3) := by decide +kernel
theorem dX6_turnTo_5 : decode cX6_turnTo 5 = .ok (.aload_n 0, 1) := by decide +kernel
theorem dX6_turnTo_6 : decode cX6_turnTo 6 = .ok (.dup, 1) := by decide +kernel
theorem dX6_turnTo_7 : decode cX6_turnTo 7 = .ok (.getfield 23, 3) := by decide +kernel
theorem dX6_turnTo_10 : decode cX6_turnTo 10 = .ok (.iconst 1, 1) := by decide +kernel
theorem dX6_turnTo_11 : decode cX6_turnTo 11 = .ok (.iadd, 1) := by decide +kernel
theorem dX6_turnTo_12 : decode cX6_turnTo 12 = .ok (.putfield 23, 3) := by decide +kernel
theorem dX6_turnTo_15 : decode cX6_turnTo 15 = .ok (.aload_n 0, 1) := by decide +kernel
theorem dX6_turnTo_16 : decode cX6_turnTo 16 = .ok (.iconst 0, 1) := by decide +kernel
theorem dX6_turnTo_17 : decode cX6_turnTo 17 = .ok (.putfield 19, 3) := by decide +kernel
theorem dX6_turnTo_20 : decode cX6_turnTo 20 = .ok (.iconst 0, 1) := by decide +kernel
theorem dX6_turnTo_21 : decode cX6_turnTo 21 = .ok (.istore_n 2, 1) := by decide +kernel
theorem dX6_turnTo_22 : decode cX6_turnTo 22 = .ok (.iload_n 2, 1) := by decide +kernel
theorem dX6_turnTo_23 : decode cX6_turnTo 23 = .ok (.aload_n 0, 1) := by decide +kernel
theorem dX6_turnTo_24 : decode cX6_turnTo 24 = .ok (.getfield 15, 3) := by decide +kernel
theorem dX6_turnTo_27 : decode cX6_turnTo 27 = .ok (.getfield 26, 3) := by decide +kernel
theorem dX6_turnTo_30 : decode cX6_turnTo 30 = .ok (.if_icmp .ge 29, 3) := by decide +kernel
theorem dX6_turnTo_33 : decode cX6_turnTo 33 = .ok (.aload_n 0, 1) := by decide +kernel
theorem dX6_turnTo_34 : decode cX6_turnTo 34 = .ok (.dup, 1) := by decide +kernel
theorem dX6_turnTo_35 : decode cX6_turnTo 35 = .ok (.getfield 19, 3) := by decide +kernel
theorem dX6_turnTo_38 : decode cX6_turnTo 38 = .ok (.iconst 1, 1) := by decide +kernel
theorem dX6_turnTo_39 : decode cX6_turnTo 39 = .ok (.aload_n 0, 1) := by decide +kernel
theorem dX6_turnTo_40 : decode cX6_turnTo 40 = .ok (.getfield 15, 3) := by decide +kernel
theorem dX6_turnTo_43 : decode cX6_turnTo 43 = .ok (.getfield 31, 3) := by decide +kernel
theorem dX6_turnTo_46 : decode cX6_turnTo 46 = .ok (.iload_n 2, 1) := by decide +kernel
theorem dX6_turnTo_47 : decode cX6_turnTo 47 = .ok (.iaload, 1) := by decide +kernel
theorem dX6_turnTo_48 : decode cX6_turnTo 48 = .ok (.ishl, 1) := by decide +kernel
theorem dX6_turnTo_49 : decode cX6_turnTo 49 = .ok (.ior, 1) := by decide +kernel
theorem dX6_turnTo_50 : decode cX6_turnTo 50 = .ok (.putfield 19, 3) := by decide +kernel
theorem dX6_turnTo_53 : decode cX6_turnTo 53 = .ok (.iinc 2 1, 3) := by decide +kernel
theorem dX6_turnTo_56 : decode cX6_turnTo 56 = .ok (.goto (-34), 3) := by decide +kernel
theorem dX6_turnTo_59 : decode cX6_turnTo 59 = .ok (.return_, 1) := by decide +kernel
theorem dX6_atPresent_0 : decode cX6_atPresent 0 = .ok (.aload_n 0, 1) := by decide +kernel
theorem dX6_atPresent_1 : decode cX6_atPresent 1 = .ok (.aload_n 0, 1) := by decide +kernel
theorem dX6_atPresent_2 : decode cX6_atPresent 2 = .ok (.getfield 15, 3) := by decide +kernel
theorem dX6_atPresent_5 : decode cX6_atPresent 5 = .ok (.getfield 34, 3) := by decide +kernel
theorem dX6_atPresent_8 : decode cX6_atPresent 8 = .ok (.invokevirtual 37, 3) := by decide +kernel
theorem dX6_atPresent_11 : decode cX6_atPresent 11 = .ok (.ireturn, 1) := by decide +kernel
theorem dX6_without_0 : decode cX6_without 0 = .ok (.aload_n 0, 1) := by decide +kernel
theorem dX6_without_1 : decode cX6_without 1 = .ok (.getfield 9, 3) := by decide +kernel
theorem dX6_without_4 : decode cX6_without 4 = .ok (.iload_n 1, 1) := by decide +kernel
theorem dX6_without_5 : decode cX6_without 5 = .ok (.iaload, 1) := by decide +kernel
theorem dX6_without_6 : decode cX6_without 6 = .ok (.istore_n 2, 1) := by decide +kernel
theorem dX6_without_7 : decode cX6_without 7 = .ok (.iload_n 2, 1) := by decide +kernel
theorem dX6_without_8 : decode cX6_without 8 = .ok (.bipush 12, 2) := by decide +kernel
theorem dX6_without_10 : decode cX6_without 10 = .ok (.iushr, 1) := by decide +kernel
theorem dX6_without_11 : decode cX6_without 11 = .ok (.aload_n 0, 1) := by decide +kernel
theorem dX6_without_12 : decode cX6_without 12 = .ok (.getfield 23, 3) := by decide +kernel
theorem dX6_without_15 : decode cX6_without 15 = .ok (.if_icmp .ne 9, 3) := by decide +kernel
theorem dX6_without_18 : decode cX6_without 18 = .ok (.iload_n 2, 1) := by decide +kernel
theorem dX6_without_19 : decode cX6_without 19 = .ok (.sipush 4095, 3) := by decide +kernel
theorem dX6_without_22 : decode cX6_without 22 = .ok (.iand, 1) := by decide +kernel
theorem dX6_without_23 : decode cX6_without 23 = .ok (.ireturn, 1) := by decide +kernel
theorem dX6_without_24 : decode cX6_without 24 = .ok (.aload_n 0, 1) := by decide +kernel
theorem dX6_without_25 : decode cX6_without 25 = .ok (.iload_n 1, 1) := by decide +kernel
theorem dX6_without_26 : decode cX6_without 26 = .ok (.invokevirtual 41, 3) := by decide +kernel
theorem dX6_without_29 : decode cX6_without 29 = .ok (.istore_n 3, 1) := by decide +kernel
theorem dX6_without_30 : decode cX6_without 30 = .ok (.aload_n 0, 1) := by decide +kernel
theorem dX6_without_31 : decode cX6_without 31 = .ok (.getfield 9, 3) := by decide +kernel
theorem dX6_without_34 : decode cX6_without 34 = .ok (.iload_n 1, 1) := by decide +kernel
theorem dX6_without_35 : decode cX6_without 35 = .ok (.aload_n 0, 1) := by decide +kernel
theorem dX6_without_36 : decode cX6_without 36 = .ok (.getfield 23, 3) := by decide +kernel
theorem dX6_without_39 : decode cX6_without 39 = .ok (.bipush 12, 2) := by decide +kernel
theorem dX6_without_41 : decode cX6_without 41 = .ok (.ishl, 1) := by decide +kernel
theorem dX6_without_42 : decode cX6_without 42 = .ok (.iload_n 3, 1) := by decide +kernel
theorem dX6_without_43 : decode cX6_without 43 = .ok (.ior, 1) := by decide +kernel
theorem dX6_without_44 : decode cX6_without 44 = .ok (.iastore, 1) := by decide +kernel
theorem dX6_without_45 : decode cX6_without 45 = .ok (.iload_n 3, 1) := by decide +kernel
theorem dX6_without_46 : decode cX6_without 46 = .ok (.ireturn, 1) := by decide +kernel
theorem dX6_build_0 : decode cX6_build 0 = .ok (.iconst 1, 1) := by decide +kernel
theorem dX6_build_1 : decode cX6_build 1 = .ok (.aload_n 0, 1) := by decide +kernel
theorem dX6_build_2 : decode cX6_build 2 = .ok (.getfield 15, 3) := by decide +kernel
theorem dX6_build_5 : decode cX6_build 5 = .ok (.getfield 44, 3) := by decide +kernel
theorem dX6_build_8 : decode cX6_build 8 = .ok (.ishl, 1) := by decide +kernel
theorem dX6_build_9 : decode cX6_build 9 = .ok (.iconst 1, 1) := by decide +kernel
theorem dX6_build_10 : decode cX6_build 10 = .ok (.isub, 1) := by decide +kernel
theorem dX6_build_11 : decode cX6_build 11 = .ok (.aload_n 0, 1) := by decide +kernel
theorem dX6_build_12 : decode cX6_build 12 = .ok (.getfield 19, 3) := by decide +kernel
theorem dX6_build_15 : decode cX6_build 15 = .ok (.iconst (-1), 1) := by decide +kernel
theorem dX6_build_16 : decode cX6_build 16 = .ok (.ixor, 1) := by decide +kernel
theorem dX6_build_17 : decode cX6_build 17 = .ok (.iand, 1) := by decide +kernel
theorem dX6_build_18 : decode cX6_build 18 = .ok (.iload_n 1, 1) := by decide +kernel
theorem dX6_build_19 : decode cX6_build 19 = .ok (.iconst (-1), 1) := by decide +kernel
theorem dX6_build_20 : decode cX6_build 20 = .ok (.ixor, 1) := by decide +kernel
theorem dX6_build_21 : decode cX6_build 21 = .ok (.iand, 1) := by decide +kernel
theorem dX6_build_22 : decode cX6_build 22 = .ok (.istore_n 2, 1) := by decide +kernel
theorem dX6_build_23 : decode cX6_build 23 = .ok (.iconst 1, 1) := by decide +kernel
theorem dX6_build_24 : decode cX6_build 24 = .ok (.istore_n 3, 1) := by decide +kernel
theorem dX6_build_25 : decode cX6_build 25 = .ok (.iconst 0, 1) := by decide +kernel
theorem dX6_build_26 : decode cX6_build 26 = .ok (.istore 4, 2) := by decide +kernel
theorem dX6_build_28 : decode cX6_build 28 = .ok (.iload 4, 2) := by decide +kernel
theorem dX6_build_30 : decode cX6_build 30 = .ok (.bipush 12, 2) := by decide +kernel
theorem dX6_build_32 : decode cX6_build 32 = .ok (.if_icmp .gt 83, 3) := by decide +kernel
theorem dX6_build_35 : decode cX6_build 35 = .ok (.iload_n 3, 1) := by decide +kernel
theorem dX6_build_36 : decode cX6_build 36 = .ok (.ifCond .eq 79, 3) := by decide +kernel
theorem dX6_build_39 : decode cX6_build 39 = .ok (.iconst 0, 1) := by decide +kernel
theorem dX6_build_40 : decode cX6_build 40 = .ok (.istore_n 3, 1) := by decide +kernel
theorem dX6_build_41 : decode cX6_build 41 = .ok (.iconst 0, 1) := by decide +kernel
theorem dX6_build_42 : decode cX6_build 42 = .ok (.istore 5, 2) := by decide +kernel
theorem dX6_build_44 : decode cX6_build 44 = .ok (.iload 5, 2) := by decide +kernel
theorem dX6_build_46 : decode cX6_build 46 = .ok (.aload_n 0, 1) := by decide +kernel
theorem dX6_build_47 : decode cX6_build 47 = .ok (.getfield 15, 3) := by decide +kernel
theorem dX6_build_50 : decode cX6_build 50 = .ok (.getfield 26, 3) := by decide +kernel
theorem dX6_build_53 : decode cX6_build 53 = .ok (.if_icmp .ge 56, 3) := by decide +kernel
theorem dX6_build_56 : decode cX6_build 56 = .ok (.iconst 1, 1) := by decide +kernel
theorem dX6_build_57 : decode cX6_build 57 = .ok (.aload_n 0, 1) := by decide +kernel
theorem dX6_build_58 : decode cX6_build 58 = .ok (.getfield 15, 3) := by decide +kernel
theorem dX6_build_61 : decode cX6_build 61 = .ok (.getfield 31, 3) := by decide +kernel
theorem dX6_build_64 : decode cX6_build 64 = .ok (.iload 5, 2) := by decide +kernel
theorem dX6_build_66 : decode cX6_build 66 = .ok (.iaload, 1) := by decide +kernel
theorem dX6_build_67 : decode cX6_build 67 = .ok (.ishl, 1) := by decide +kernel
theorem dX6_build_68 : decode cX6_build 68 = .ok (.istore 6, 2) := by decide +kernel
theorem dX6_build_70 : decode cX6_build 70 = .ok (.iload 6, 2) := by decide +kernel
theorem dX6_build_72 : decode cX6_build 72 = .ok (.iload_n 2, 1) := by decide +kernel
theorem dX6_build_73 : decode cX6_build 73 = .ok (.iload_n 1, 1) := by decide +kernel
theorem dX6_build_74 : decode cX6_build 74 = .ok (.ior, 1) := by decide +kernel
theorem dX6_build_75 : decode cX6_build 75 = .ok (.iand, 1) := by decide +kernel
theorem dX6_build_76 : decode cX6_build 76 = .ok (.ifCond .ne 27, 3) := by decide +kernel
theorem dX6_build_79 : decode cX6_build 79 = .ok (.aload_n 0, 1) := by decide +kernel
theorem dX6_build_80 : decode cX6_build 80 = .ok (.getfield 15, 3) := by decide +kernel
theorem dX6_build_83 : decode cX6_build 83 = .ok (.getfield 47, 3) := by decide +kernel
theorem dX6_build_86 : decode cX6_build 86 = .ok (.iload 5, 2) := by decide +kernel
theorem dX6_build_88 : decode cX6_build 88 = .ok (.iaload, 1) := by decide +kernel
theorem dX6_build_89 : decode cX6_build 89 = .ok (.iload_n 2, 1) := by decide +kernel
theorem dX6_build_90 : decode cX6_build 90 = .ok (.iconst (-1), 1) := by decide +kernel
theorem dX6_build_91 : decode cX6_build 91 = .ok (.ixor, 1) := by decide +kernel
theorem dX6_build_92 : decode cX6_build 92 = .ok (.iand, 1) := by decide +kernel
theorem dX6_build_93 : decode cX6_build 93 = .ok (.ifCond .ne 10, 3) := by decide +kernel
theorem dX6_build_96 : decode cX6_build 96 = .ok (.iload_n 2, 1) := by decide +kernel
theorem dX6_build_97 : decode cX6_build 97 = .ok (.iload 6, 2) := by decide +kernel
theorem dX6_build_99 : decode cX6_build 99 = .ok (.ior, 1) := by decide +kernel
theorem dX6_build_100 : decode cX6_build 100 = .ok (.istore_n 2, 1) := by decide +kernel
theorem dX6_build_101 : decode cX6_build 101 = .ok (.iconst 1, 1) := by decide +kernel
theorem dX6_build_102 : decode cX6_build 102 = .ok (.istore_n 3, 1) := by decide +kernel
theorem dX6_build_103 : decode cX6_build 103 = .ok (.iinc 5 1, 3) := by decide +kernel
theorem dX6_build_106 : decode cX6_build 106 = .ok (.goto (-62), 3) := by decide +kernel
theorem dX6_build_109 : decode cX6_build 109 = .ok (.iinc 4 1, 3) := by decide +kernel
theorem dX6_build_112 : decode cX6_build 112 = .ok (.goto (-84), 3) := by decide +kernel
theorem dX6_build_115 : decode cX6_build 115 = .ok (.iload_n 2, 1) := by decide +kernel
theorem dX6_build_116 : decode cX6_build 116 = .ok (.ireturn, 1) := by decide +kernel
theorem dX6_doable_0 : decode cX6_doable 0 = .ok (.iconst 0, 1) := by decide +kernel
theorem dX6_doable_1 : decode cX6_doable 1 = .ok (.istore_n 2, 1) := by decide +kernel
theorem dX6_doable_2 : decode cX6_doable 2 = .ok (.iconst 0, 1) := by decide +kernel
theorem dX6_doable_3 : decode cX6_doable 3 = .ok (.istore_n 3, 1) := by decide +kernel
theorem dX6_doable_4 : decode cX6_doable 4 = .ok (.iload_n 3, 1) := by decide +kernel
theorem dX6_doable_5 : decode cX6_doable 5 = .ok (.aload_n 0, 1) := by decide +kernel
theorem dX6_doable_6 : decode cX6_doable 6 = .ok (.getfield 15, 3) := by decide +kernel
theorem dX6_doable_9 : decode cX6_doable 9 = .ok (.getfield 50, 3) := by decide +kernel
theorem dX6_doable_12 : decode cX6_doable 12 = .ok (.if_icmp .ge 31, 3) := by decide +kernel
theorem dX6_doable_15 : decode cX6_doable 15 = .ok (.aload_n 0, 1) := by decide +kernel
theorem dX6_doable_16 : decode cX6_doable 16 = .ok (.getfield 15, 3) := by decide +kernel
theorem dX6_doable_19 : decode cX6_doable 19 = .ok (.getfield 53, 3) := by decide +kernel
theorem dX6_doable_22 : decode cX6_doable 22 = .ok (.iload_n 3, 1) := by decide +kernel
theorem dX6_doable_23 : decode cX6_doable 23 = .ok (.iaload, 1) := by decide +kernel
theorem dX6_doable_24 : decode cX6_doable 24 = .ok (.iload_n 1, 1) := by decide +kernel
theorem dX6_doable_25 : decode cX6_doable 25 = .ok (.iconst (-1), 1) := by decide +kernel
theorem dX6_doable_26 : decode cX6_doable 26 = .ok (.ixor, 1) := by decide +kernel
theorem dX6_doable_27 : decode cX6_doable 27 = .ok (.iand, 1) := by decide +kernel
theorem dX6_doable_28 : decode cX6_doable 28 = .ok (.ifCond .ne 9, 3) := by decide +kernel
theorem dX6_doable_31 : decode cX6_doable 31 = .ok (.iload_n 2, 1) := by decide +kernel
theorem dX6_doable_32 : decode cX6_doable 32 = .ok (.iconst 1, 1) := by decide +kernel
theorem dX6_doable_33 : decode cX6_doable 33 = .ok (.iload_n 3, 1) := by decide +kernel
theorem dX6_doable_34 : decode cX6_doable 34 = .ok (.ishl, 1) := by decide +kernel
theorem dX6_doable_35 : decode cX6_doable 35 = .ok (.ior, 1) := by decide +kernel
theorem dX6_doable_36 : decode cX6_doable 36 = .ok (.istore_n 2, 1) := by decide +kernel
theorem dX6_doable_37 : decode cX6_doable 37 = .ok (.iinc 3 1, 3) := by decide +kernel
theorem dX6_doable_40 : decode cX6_doable 40 = .ok (.goto (-36), 3) := by decide +kernel
theorem dX6_doable_43 : decode cX6_doable 43 = .ok (.iload_n 2, 1) := by decide +kernel
theorem dX6_doable_44 : decode cX6_doable 44 = .ok (.ireturn, 1) := by decide +kernel
theorem dX6_fallingWith_0 : decode cX6_fallingWith 0 = .ok (.aload_n 0, 1) := by decide +kernel
theorem dX6_fallingWith_1 : decode cX6_fallingWith 1 = .ok (.invokevirtual 56, 3) := by decide +kernel
theorem dX6_fallingWith_4 : decode cX6_fallingWith 4 = .ok (.aload_n 0, 1) := by decide +kernel
theorem dX6_fallingWith_5 : decode cX6_fallingWith 5 = .ok (.aload_n 0, 1) := by decide +kernel
theorem dX6_fallingWith_6 : decode cX6_fallingWith 6 = .ok (.getfield 15, 3) := by decide +kernel
theorem dX6_fallingWith_9 : decode cX6_fallingWith 9 = .ok (.getfield 34, 3) := by decide +kernel
theorem dX6_fallingWith_12 : decode cX6_fallingWith 12 = .ok (.iconst 1, 1) := by decide +kernel
theorem dX6_fallingWith_13 : decode cX6_fallingWith 13 = .ok (.iload_n 1, 1) := by decide +kernel
theorem dX6_fallingWith_14 : decode cX6_fallingWith 14 = .ok (.ishl, 1) := by decide +kernel
theorem dX6_fallingWith_15 : decode cX6_fallingWith 15 = .ok (.ior, 1) := by decide +kernel
theorem dX6_fallingWith_16 : decode cX6_fallingWith 16 = .ok (.invokevirtual 37, 3) := by decide +kernel
theorem dX6_fallingWith_19 : decode cX6_fallingWith 19 = .ok (.iconst (-1), 1) := by decide +kernel
theorem dX6_fallingWith_20 : decode cX6_fallingWith 20 = .ok (.ixor, 1) := by decide +kernel
theorem dX6_fallingWith_21 : decode cX6_fallingWith 21 = .ok (.iand, 1) := by decide +kernel
theorem dX6_fallingWith_22 : decode cX6_fallingWith 22 = .ok (.ireturn, 1) := by decide +kernel
theorem dX7_init_0 : decode cX7_init 0 = .ok (.aload_n 0, 1) := by decide +kernel
theorem dX7_init_1 : decode cX7_init 1 = .ok (.invokespecial 3, 3) := by decide +kernel
theorem dX7_init_4 : decode cX7_init 4 = .ok (.aload_n 0, 1) := by decide +kernel
theorem dX7_init_5 : decode cX7_init 5 = .ok (.bipush 60, 2) := by decide +kernel
theorem dX7_init_7 : decode cX7_init 7 = .ok (.newarray .int, 2) := by decide +kernel
theorem dX7_init_9 : decode cX7_init 9 = .ok (.putfield 9, 3) := by decide +kernel
theorem dX7_init_12 : decode cX7_init 12 = .ok (.aload_n 0, 1) := by decide +kernel
theorem dX7_init_13 : decode cX7_init 13 = .ok (.bipush 60, 2) := by decide +kernel
theorem dX7_init_15 : decode cX7_init 15 = .ok (.newarray .int, 2) := by decide +kernel
theorem dX7_init_17 : decode cX7_init 17 = .ok (.putfield 13, 3) := by decide +kernel
theorem dX7_init_20 : decode cX7_init 20 = .ok (.aload_n 0, 1) := by decide +kernel
theorem dX7_init_21 : decode cX7_init 21 = .ok (.bipush 60, 2) := by decide +kernel
theorem dX7_init_23 : decode cX7_init 23 = .ok (.newarray .int, 2) := by decide +kernel
theorem dX7_init_25 : decode cX7_init 25 = .ok (.putfield 16, 3) := by decide +kernel
theorem dX7_init_28 : decode cX7_init 28 = .ok (.aload_n 0, 1) := by decide +kernel
theorem dX7_init_29 : decode cX7_init 29 = .ok (.bipush 60, 2) := by decide +kernel
theorem dX7_init_31 : decode cX7_init 31 = .ok (.newarray .int, 2) := by decide +kernel
theorem dX7_init_33 : decode cX7_init 33 = .ok (.putfield 19, 3) := by decide +kernel
theorem dX7_init_36 : decode cX7_init 36 = .ok (.aload_n 0, 1) := by decide +kernel
theorem dX7_init_37 : decode cX7_init 37 = .ok (.bipush 60, 2) := by decide +kernel
theorem dX7_init_39 : decode cX7_init 39 = .ok (.newarray .int, 2) := by decide +kernel
theorem dX7_init_41 : decode cX7_init 41 = .ok (.putfield 22, 3) := by decide +kernel
theorem dX7_init_44 : decode cX7_init 44 = .ok (.aload_n 0, 1) := by decide +kernel
theorem dX7_init_45 : decode cX7_init 45 = .ok (.iconst 0, 1) := by decide +kernel
theorem dX7_init_46 : decode cX7_init 46 = .ok (.putfield 25, 3) := by decide +kernel
theorem dX7_init_49 : decode cX7_init 49 = .ok (.aload_n 0, 1) := by decide +kernel
theorem dX7_init_50 : decode cX7_init 50 = .ok (.iconst 0, 1) := by decide +kernel
theorem dX7_init_51 : decode cX7_init 51 = .ok (.putfield 29, 3) := by decide +kernel
theorem dX7_init_54 : decode cX7_init 54 = .ok (.aload_n 0, 1) := by decide +kernel
theorem dX7_init_55 : decode cX7_init 55 = .ok (.iconst 0, 1) := by decide +kernel
theorem dX7_init_56 : decode cX7_init 56 = .ok (.putfield 33, 3) := by decide +kernel
theorem dX7_init_59 : decode cX7_init 59 = .ok (.return_, 1) := by decide +kernel
theorem dX7_clear_0 : decode cX7_clear 0 = .ok (.aload_n 0, 1) := by decide +kernel
theorem dX7_clear_1 : decode cX7_clear 1 = .ok (.iconst 0, 1) := by decide +kernel
theorem dX7_clear_2 : decode cX7_clear 2 = .ok (.putfield 25, 3) := by decide +kernel
theorem dX7_clear_5 : decode cX7_clear 5 = .ok (.aload_n 0, 1) := by decide +kernel
theorem dX7_clear_6 : decode cX7_clear 6 = .ok (.iconst 0, 1) := by decide +kernel
theorem dX7_clear_7 : decode cX7_clear 7 = .ok (.putfield 29, 3) := by decide +kernel
theorem dX7_clear_10 : decode cX7_clear 10 = .ok (.aload_n 0, 1) := by decide +kernel
theorem dX7_clear_11 : decode cX7_clear 11 = .ok (.iconst 0, 1) := by decide +kernel
theorem dX7_clear_12 : decode cX7_clear 12 = .ok (.putfield 33, 3) := by decide +kernel
theorem dX7_clear_15 : decode cX7_clear 15 = .ok (.return_, 1) := by decide +kernel
theorem dX7_copyFrom_0 : decode cX7_copyFrom 0 = .ok (.aload_n 1, 1) := by decide +kernel
theorem dX7_copyFrom_1 : decode cX7_copyFrom 1 = .ok (.getfield 9, 3) := by decide +kernel
theorem dX7_copyFrom_4 : decode cX7_copyFrom 4 = .ok (.iconst 0, 1) := by decide +kernel
theorem dX7_copyFrom_5 : decode cX7_copyFrom 5 = .ok (.aload_n 0, 1) := by decide +kernel
theorem dX7_copyFrom_6 : decode cX7_copyFrom 6 = .ok (.getfield 9, 3) := by decide +kernel
theorem dX7_copyFrom_9 : decode cX7_copyFrom 9 = .ok (.iconst 0, 1) := by decide +kernel
theorem dX7_copyFrom_10 : decode cX7_copyFrom 10 = .ok (.bipush 60, 2) := by decide +kernel
theorem dX7_copyFrom_12 : decode cX7_copyFrom 12 = .ok (.invokestatic 36, 3) := by decide +kernel
theorem dX7_copyFrom_15 : decode cX7_copyFrom 15 = .ok (.aload_n 1, 1) := by decide +kernel
theorem dX7_copyFrom_16 : decode cX7_copyFrom 16 = .ok (.getfield 13, 3) := by decide +kernel
theorem dX7_copyFrom_19 : decode cX7_copyFrom 19 = .ok (.iconst 0, 1) := by decide +kernel
theorem dX7_copyFrom_20 : decode cX7_copyFrom 20 = .ok (.aload_n 0, 1) := by decide +kernel
theorem dX7_copyFrom_21 : decode cX7_copyFrom 21 = .ok (.getfield 13, 3) := by decide +kernel
theorem dX7_copyFrom_24 : decode cX7_copyFrom 24 = .ok (.iconst 0, 1) := by decide +kernel
theorem dX7_copyFrom_25 : decode cX7_copyFrom 25 = .ok (.bipush 60, 2) := by decide +kernel
theorem dX7_copyFrom_27 : decode cX7_copyFrom 27 = .ok (.invokestatic 36, 3) := by decide +kernel
theorem dX7_copyFrom_30 : decode cX7_copyFrom 30 = .ok (.aload_n 1, 1) := by decide +kernel
theorem dX7_copyFrom_31 : decode cX7_copyFrom 31 = .ok (.getfield 16, 3) := by decide +kernel
theorem dX7_copyFrom_34 : decode cX7_copyFrom 34 = .ok (.iconst 0, 1) := by decide +kernel
theorem dX7_copyFrom_35 : decode cX7_copyFrom 35 = .ok (.aload_n 0, 1) := by decide +kernel
theorem dX7_copyFrom_36 : decode cX7_copyFrom 36 = .ok (.getfield 16, 3) := by decide +kernel
theorem dX7_copyFrom_39 : decode cX7_copyFrom 39 = .ok (.iconst 0, 1) := by decide +kernel
theorem dX7_copyFrom_40 : decode cX7_copyFrom 40 = .ok (.bipush 60, 2) := by decide +kernel
theorem dX7_copyFrom_42 : decode cX7_copyFrom 42 = .ok (.invokestatic 36, 3) := by decide +kernel
theorem dX7_copyFrom_45 : decode cX7_copyFrom 45 = .ok (.aload_n 1, 1) := by decide +kernel
theorem dX7_copyFrom_46 : decode cX7_copyFrom 46 = .ok (.getfield 19, 3) := by decide +kernel
theorem dX7_copyFrom_49 : decode cX7_copyFrom 49 = .ok (.iconst 0, 1) := by decide +kernel
theorem dX7_copyFrom_50 : decode cX7_copyFrom 50 = .ok (.aload_n 0, 1) := by decide +kernel
theorem dX7_copyFrom_51 : decode cX7_copyFrom 51 = .ok (.getfield 19, 3) := by decide +kernel
theorem dX7_copyFrom_54 : decode cX7_copyFrom 54 = .ok (.iconst 0, 1) := by decide +kernel
theorem dX7_copyFrom_55 : decode cX7_copyFrom 55 = .ok (.bipush 60, 2) := by decide +kernel
theorem dX7_copyFrom_57 : decode cX7_copyFrom 57 = .ok (.invokestatic 36, 3) := by decide +kernel
theorem dX7_copyFrom_60 : decode cX7_copyFrom 60 = .ok (.aload_n 1, 1) := by decide +kernel
theorem dX7_copyFrom_61 : decode cX7_copyFrom 61 = .ok (.getfield 22, 3) := by decide +kernel
theorem dX7_copyFrom_64 : decode cX7_copyFrom 64 = .ok (.iconst 0, 1) := by decide +kernel
theorem dX7_copyFrom_65 : decode cX7_copyFrom 65 = .ok (.aload_n 0, 1) := by decide +kernel
theorem dX7_copyFrom_66 : decode cX7_copyFrom 66 = .ok (.getfield 22, 3) := by decide +kernel
theorem dX7_copyFrom_69 : decode cX7_copyFrom 69 = .ok (.iconst 0, 1) := by decide +kernel
theorem dX7_copyFrom_70 : decode cX7_copyFrom 70 = .ok (.bipush 60, 2) := by decide +kernel
theorem dX7_copyFrom_72 : decode cX7_copyFrom 72 = .ok (.invokestatic 36, 3) := by decide +kernel
theorem dX7_copyFrom_75 : decode cX7_copyFrom 75 = .ok (.aload_n 0, 1) := by decide +kernel
theorem dX7_copyFrom_76 : decode cX7_copyFrom 76 = .ok (.aload_n 1, 1) := by decide +kernel
theorem dX7_copyFrom_77 : decode cX7_copyFrom 77 = .ok (.getfield 25, 3) := by decide +kernel
theorem dX7_copyFrom_80 : decode cX7_copyFrom 80 = .ok (.putfield 25, 3) := by decide +kernel
theorem dX7_copyFrom_83 : decode cX7_copyFrom 83 = .ok (.aload_n 0, 1) := by decide +kernel
theorem dX7_copyFrom_84 : decode cX7_copyFrom 84 = .ok (.aload_n 1, 1) := by decide +kernel
theorem dX7_copyFrom_85 : decode cX7_copyFrom 85 = .ok (.getfield 29, 3) := by decide +kernel
theorem dX7_copyFrom_88 : decode cX7_copyFrom 88 = .ok (.putfield 29, 3) := by decide +kernel
theorem dX7_copyFrom_91 : decode cX7_copyFrom 91 = .ok (.aload_n 0, 1) := by decide +kernel
theorem dX7_copyFrom_92 : decode cX7_copyFrom 92 = .ok (.aload_n 1, 1) := by decide +kernel
theorem dX7_copyFrom_93 : decode cX7_copyFrom 93 = .ok (.getfield 33, 3) := by decide +kernel
theorem dX7_copyFrom_96 : decode cX7_copyFrom 96 = .ok (.putfield 33, 3) := by decide +kernel
theorem dX7_copyFrom_99 : decode cX7_copyFrom 99 = .ok (.return_, 1) := by decide +kernel
theorem dX8_init_0 : decode cX8_init 0 = .ok (.aload_n 0, 1) := by decide +kernel
theorem dX8_init_1 : decode cX8_init 1 = .ok (.invokespecial 3, 3) := by decide +kernel
theorem dX8_init_4 : decode cX8_init 4 = .ok (.aload_n 0, 1) := by decide +kernel
theorem dX8_init_5 : decode cX8_init 5 = .ok (.aload_n 1, 1) := by decide +kernel
theorem dX8_init_6 : decode cX8_init 6 = .ok (.putfield 9, 3) := by decide +kernel
theorem dX8_init_9 : decode cX8_init 9 = .ok (.aload_n 0, 1) := by decide +kernel
theorem dX8_init_10 : decode cX8_init 10 = .ok (.iconst 3, 1) := by decide +kernel
theorem dX8_init_11 : decode cX8_init 11 = .ok (.newarray .int, 2) := by decide +kernel
theorem dX8_init_13 : decode cX8_init 13 = .ok (.putfield 15, 3) := by decide +kernel
theorem dX8_init_16 : decode cX8_init 16 = .ok (.aload_n 0, 1) := by decide +kernel
theorem dX8_init_17 : decode cX8_init 17 = .ok (.iconst 0, 1) := by decide +kernel
theorem dX8_init_18 : decode cX8_init 18 = .ok (.putfield 19, 3) := by decide +kernel
theorem dX8_init_21 : decode cX8_init 21 = .ok (.aload_n 0, 1) := by decide +kernel
theorem dX8_init_22 : decode cX8_init 22 = .ok (.aload_n 2, 1) := by decide +kernel
theorem dX8_init_23 : decode cX8_init 23 = .ok (.putfield 23, 3) := by decide +kernel
theorem dX8_init_26 : decode cX8_init 26 = .ok (.aload_n 0, 1) := by decide +kernel
theorem dX8_init_27 : decode cX8_init 27 = .ok (.aload_n 2, 1) := by decide +kernel
theorem dX8_init_28 : decode cX8_init 28 = .ok (.getfield 27, 3) := by decide +kernel
theorem dX8_init_31 : decode cX8_init 31 = .ok (.putfield 33, 3) := by decide +kernel
theorem dX8_init_34 : decode cX8_init 34 = .ok (.return_, 1) := by decide +kernel
theorem dX8_takes_0 : decode cX8_takes 0 = .ok (.aload_n 0, 1) := by decide +kernel
theorem dX8_takes_1 : decode cX8_takes 1 = .ok (.aload_n 1, 1) := by decide +kernel
theorem dX8_takes_2 : decode cX8_takes 2 = .ok (.putfield 33, 3) := by decide +kernel
theorem dX8_takes_5 : decode cX8_takes 5 = .ok (.aload_n 0, 1) := by decide +kernel
theorem dX8_takes_6 : decode cX8_takes 6 = .ok (.aload_n 2, 1) := by decide +kernel
theorem dX8_takes_7 : decode cX8_takes 7 = .ok (.putfield 23, 3) := by decide +kernel
theorem dX8_takes_10 : decode cX8_takes 10 = .ok (.aload_n 0, 1) := by decide +kernel
theorem dX8_takes_11 : decode cX8_takes 11 = .ok (.getfield 33, 3) := by decide +kernel
theorem dX8_takes_14 : decode cX8_takes 14 = .ok (.invokevirtual 34, 3) := by decide +kernel
theorem dX8_takes_17 : decode cX8_takes 17 = .ok (.aload_n 0, 1) := by decide +kernel
theorem dX8_takes_18 : decode cX8_takes 18 = .ok (.iconst 0, 1) := by decide +kernel
theorem dX8_takes_19 : decode cX8_takes 19 = .ok (.putfield 19, 3) := by decide +kernel
theorem dX8_takes_22 : decode cX8_takes 22 = .ok (.aload_n 0, 1) := by decide +kernel
theorem dX8_takes_23 : decode cX8_takes 23 = .ok (.getfield 9, 3) := by decide +kernel
theorem dX8_takes_26 : decode cX8_takes 26 = .ok (.iload_n 3, 1) := by decide +kernel
theorem dX8_takes_27 : decode cX8_takes 27 = .ok (.invokevirtual 39, 3) := by decide +kernel
theorem dX8_takes_30 : decode cX8_takes 30 = .ok (.iconst 0, 1) := by decide +kernel
theorem dX8_takes_31 : decode cX8_takes 31 = .ok (.istore 4, 2) := by decide +kernel
theorem dX8_takes_33 : decode cX8_takes 33 = .ok (.iload 4, 2) := by decide +kernel
theorem dX8_takes_35 : decode cX8_takes 35 = .ok (.sipush 900, 3) := by decide +kernel
theorem dX8_takes_38 : decode cX8_takes 38 = .ok (.if_icmp .gt 91, 3) := by decide +kernel
theorem dX8_takes_41 : decode cX8_takes 41 = .ok (.aload_n 0, 1) := by decide +kernel
theorem dX8_takes_42 : decode cX8_takes 42 = .ok (.getfield 9, 3) := by decide +kernel
theorem dX8_takes_45 : decode cX8_takes 45 = .ok (.getfield 45, 3) := by decide +kernel
theorem dX8_takes_48 : decode cX8_takes 48 = .ok (.ifCond .eq 81, 3) := by decide +kernel
theorem dX8_takes_51 : decode cX8_takes 51 = .ok (.aload_n 0, 1) := by decide +kernel
theorem dX8_takes_52 : decode cX8_takes 52 = .ok (.getfield 9, 3) := by decide +kernel
theorem dX8_takes_55 : decode cX8_takes 55 = .ok (.bipush 21, 2) := by decide +kernel
theorem dX8_takes_57 : decode cX8_takes 57 = .ok (.invokevirtual 48, 3) := by decide +kernel
theorem dX8_takes_60 : decode cX8_takes 60 = .ok (.ifCond .eq 10, 3) := by decide +kernel
theorem dX8_takes_63 : decode cX8_takes 63 = .ok (.aload_n 0, 1) := by decide +kernel
theorem dX8_takes_64 : decode cX8_takes 64 = .ok (.invokevirtual 52, 3) := by decide +kernel
theorem dX8_takes_67 : decode cX8_takes 67 = .ok (.goto 22, 3) := by decide +kernel
theorem dX8_takes_70 : decode cX8_takes 70 = .ok (.aload_n 0, 1) := by decide +kernel
theorem dX8_takes_71 : decode cX8_takes 71 = .ok (.invokevirtual 56, 3) := by decide +kernel
theorem dX8_takes_74 : decode cX8_takes 74 = .ok (.ifCond .eq 14, 3) := by decide +kernel
theorem dX8_takes_77 : decode cX8_takes 77 = .ok (.aload_n 0, 1) := by decide +kernel
theorem dX8_takes_78 : decode cX8_takes 78 = .ok (.invokevirtual 59, 3) := by decide +kernel
theorem dX8_takes_81 : decode cX8_takes 81 = .ok (.ifCond .eq 7, 3) := by decide +kernel
theorem dX8_takes_84 : decode cX8_takes 84 = .ok (.iconst 1, 1) := by decide +kernel
theorem dX8_takes_85 : decode cX8_takes 85 = .ok (.goto 4, 3) := by decide +kernel
theorem dX8_takes_88 : decode cX8_takes 88 = .ok (.iconst 0, 1) := by decide +kernel
theorem dX8_takes_89 : decode cX8_takes 89 = .ok (.istore 5, 2) := by decide +kernel
theorem dX8_takes_91 : decode cX8_takes 91 = .ok (.iload 5, 2) := by decide +kernel
theorem dX8_takes_93 : decode cX8_takes 93 = .ok (.ifCond .eq 15, 3) := by decide +kernel
theorem dX8_takes_96 : decode cX8_takes 96 = .ok (.aload_n 0, 1) := by decide +kernel
theorem dX8_takes_97 : decode cX8_takes 97 = .ok (.getfield 9, 3) := by decide +kernel
theorem dX8_takes_100 : decode cX8_takes 100 = .ok (.bipush 59, 2) := by decide +kernel
theorem dX8_takes_102 : decode cX8_takes 102 = .ok (.invokevirtual 62, 3) := by decide +kernel
theorem dX8_takes_105 : decode cX8_takes 105 = .ok (.ifCond .ne 5, 3) := by decide +kernel
theorem dX8_takes_108 : decode cX8_takes 108 = .ok (.iconst 0, 1) := by decide +kernel
theorem dX8_takes_109 : decode cX8_takes 109 = .ok (.ireturn, 1) := by decide +kernel
theorem dX8_takes_110 : decode cX8_takes 110 = .ok (.aload_n 0, 1) := by decide +kernel
theorem dX8_takes_111 : decode cX8_takes 111 = .ok (.getfield 33, 3) := by decide +kernel
theorem dX8_takes_114 : decode cX8_takes 114 = .ok (.dup, 1) := by decide +kernel
theorem dX8_takes_115 : decode cX8_takes 115 = .ok (.getfield 66, 3) := by decide +kernel
theorem dX8_takes_118 : decode cX8_takes 118 = .ok (.iconst 1, 1) := by decide +kernel
theorem dX8_takes_119 : decode cX8_takes 119 = .ok (.iadd, 1) := by decide +kernel
theorem dX8_takes_120 : decode cX8_takes 120 = .ok (.putfield 66, 3) := by decide +kernel
theorem dX8_takes_123 : decode cX8_takes 123 = .ok (.iinc 4 1, 3) := by decide +kernel
theorem dX8_takes_126 : decode cX8_takes 126 = .ok (.goto (-93), 3) := by decide +kernel
theorem dX8_takes_129 : decode cX8_takes 129 = .ok (.aload_n 0, 1) := by decide +kernel
theorem dX8_takes_130 : decode cX8_takes 130 = .ok (.getfield 19, 3) := by decide +kernel
theorem dX8_takes_133 : decode cX8_takes 133 = .ok (.ifCond .le 12, 3) := by decide +kernel
theorem dX8_takes_136 : decode cX8_takes 136 = .ok (.aload_n 0, 1) := by decide +kernel
theorem dX8_takes_137 : decode cX8_takes 137 = .ok (.getfield 9, 3) := by decide +kernel
theorem dX8_takes_140 : decode cX8_takes 140 = .ok (.iconst 2, 1) := by decide +kernel
theorem dX8_takes_141 : decode cX8_takes 141 = .ok (.invokevirtual 69, 3) := by decide +kernel
theorem dX8_takes_144 : decode cX8_takes 144 = .ok (.ireturn, 1) := by decide +kernel
theorem dX8_takes_145 : decode cX8_takes 145 = .ok (.aload_n 0, 1) := by decide +kernel
theorem dX8_takes_146 : decode cX8_takes 146 = .ok (.getfield 33, 3) := by decide +kernel
theorem dX8_takes_149 : decode cX8_takes 149 = .ok (.iconst 1, 1) := by decide +kernel
theorem dX8_takes_150 : decode cX8_takes 150 = .ok (.putfield 72, 3) := by decide +kernel
theorem dX8_takes_153 : decode cX8_takes 153 = .ok (.iconst 1, 1) := by decide +kernel
theorem dX8_takes_154 : decode cX8_takes 154 = .ok (.ireturn, 1) := by decide +kernel
theorem dX8_readEnd_0 : decode cX8_readEnd 0 = .ok (.aload_n 0, 1) := by decide +kernel
theorem dX8_readEnd_1 : decode cX8_readEnd 1 = .ok (.getfield 19, 3) := by decide +kernel
theorem dX8_readEnd_4 : decode cX8_readEnd 4 = .ok (.ifCond .gt 12, 3) := by decide +kernel
theorem dX8_readEnd_7 : decode cX8_readEnd 7 = .ok (.aload_n 0, 1) := by decide +kernel
theorem dX8_readEnd_8 : decode cX8_readEnd 8 = .ok (.getfield 9, 3) := by decide +kernel
theorem dX8_readEnd_11 : decode cX8_readEnd 11 = .ok (.iconst 2, 1) := by decide +kernel
theorem dX8_readEnd_12 : decode cX8_readEnd 12 = .ok (.invokevirtual 69, 3) := by decide +kernel
theorem dX8_readEnd_15 : decode cX8_readEnd 15 = .ok (.ireturn, 1) := by decide +kernel
theorem dX8_readEnd_16 : decode cX8_readEnd 16 = .ok (.aload_n 0, 1) := by decide +kernel
theorem dX8_readEnd_17 : decode cX8_readEnd 17 = .ok (.dup, 1) := by decide +kernel
theorem dX8_readEnd_18 : decode cX8_readEnd 18 = .ok (.getfield 19, 3) := by decide +kernel
theorem dX8_readEnd_21 : decode cX8_readEnd 21 = .ok (.iconst 1, 1) := by decide +kernel
theorem dX8_readEnd_22 : decode cX8_readEnd 22 = .ok (.isub, 1) := by decide +kernel
theorem dX8_readEnd_23 : decode cX8_readEnd 23 = .ok (.putfield 19, 3) := by decide +kernel
theorem dX8_readEnd_26 : decode cX8_readEnd 26 = .ok (.aload_n 0, 1) := by decide +kernel
theorem dX8_readEnd_27 : decode cX8_readEnd 27 = .ok (.getfield 9, 3) := by decide +kernel
theorem dX8_readEnd_30 : decode cX8_readEnd 30 = .ok (.invokevirtual 76, 3) := by decide +kernel
theorem dX8_readEnd_33 : decode cX8_readEnd 33 = .ok (.aload_n 0, 1) := by decide +kernel
theorem dX8_readEnd_34 : decode cX8_readEnd 34 = .ok (.getfield 33, 3) := by decide +kernel
theorem dX8_readEnd_37 : decode cX8_readEnd 37 = .ok (.getfield 79, 3) := by decide +kernel
theorem dX8_readEnd_40 : decode cX8_readEnd 40 = .ok (.aload_n 0, 1) := by decide +kernel
theorem dX8_readEnd_41 : decode cX8_readEnd 41 = .ok (.getfield 33, 3) := by decide +kernel
theorem dX8_readEnd_44 : decode cX8_readEnd 44 = .ok (.getfield 66, 3) := by decide +kernel
theorem dX8_readEnd_47 : decode cX8_readEnd 47 = .ok (.bipush 10, 2) := by decide +kernel
theorem dX8_readEnd_49 : decode cX8_readEnd 49 = .ok (.iastore, 1) := by decide +kernel
theorem dX8_readEnd_50 : decode cX8_readEnd 50 = .ok (.aload_n 0, 1) := by decide +kernel
theorem dX8_readEnd_51 : decode cX8_readEnd 51 = .ok (.getfield 33, 3) := by decide +kernel
theorem dX8_readEnd_54 : decode cX8_readEnd 54 = .ok (.getfield 82, 3) := by decide +kernel
theorem dX8_readEnd_57 : decode cX8_readEnd 57 = .ok (.aload_n 0, 1) := by decide +kernel
theorem dX8_readEnd_58 : decode cX8_readEnd 58 = .ok (.getfield 33, 3) := by decide +kernel
theorem dX8_readEnd_61 : decode cX8_readEnd 61 = .ok (.getfield 66, 3) := by decide +kernel
theorem dX8_readEnd_64 : decode cX8_readEnd 64 = .ok (.aload_n 0, 1) := by decide +kernel
theorem dX8_readEnd_65 : decode cX8_readEnd 65 = .ok (.getfield 15, 3) := by decide +kernel
theorem dX8_readEnd_68 : decode cX8_readEnd 68 = .ok (.aload_n 0, 1) := by decide +kernel
theorem dX8_readEnd_69 : decode cX8_readEnd 69 = .ok (.getfield 19, 3) := by decide +kernel
theorem dX8_readEnd_72 : decode cX8_readEnd 72 = .ok (.iaload, 1) := by decide +kernel
theorem dX8_readEnd_73 : decode cX8_readEnd 73 = .ok (.iastore, 1) := by decide +kernel
theorem dX8_readEnd_74 : decode cX8_readEnd 74 = .ok (.aload_n 0, 1) := by decide +kernel
theorem dX8_readEnd_75 : decode cX8_readEnd 75 = .ok (.getfield 33, 3) := by decide +kernel
theorem dX8_readEnd_78 : decode cX8_readEnd 78 = .ok (.getfield 82, 3) := by decide +kernel
theorem dX8_readEnd_81 : decode cX8_readEnd 81 = .ok (.aload_n 0, 1) := by decide +kernel
theorem dX8_readEnd_82 : decode cX8_readEnd 82 = .ok (.getfield 15, 3) := by decide +kernel
theorem dX8_readEnd_85 : decode cX8_readEnd 85 = .ok (.aload_n 0, 1) := by decide +kernel
theorem dX8_readEnd_86 : decode cX8_readEnd 86 = .ok (.getfield 19, 3) := by decide +kernel
theorem dX8_readEnd_89 : decode cX8_readEnd 89 = .ok (.iaload, 1) := by decide +kernel
theorem dX8_readEnd_90 : decode cX8_readEnd 90 = .ok (.aload_n 0, 1) := by decide +kernel
theorem dX8_readEnd_91 : decode cX8_readEnd 91 = .ok (.getfield 33, 3) := by decide +kernel
theorem dX8_readEnd_94 : decode cX8_readEnd 94 = .ok (.getfield 66, 3) := by decide +kernel
theorem dX8_readEnd_97 : decode cX8_readEnd 97 = .ok (.iastore, 1) := by decide +kernel
theorem dX8_readEnd_98 : decode cX8_readEnd 98 = .ok (.iconst 1, 1) := by decide +kernel
theorem dX8_readEnd_99 : decode cX8_readEnd 99 = .ok (.ireturn, 1) := by decide +kernel
theorem dX8_beginStep_0 : decode cX8_beginStep 0 = .ok (.aload_n 0, 1) := by decide +kernel
theorem dX8_beginStep_1 : decode cX8_beginStep 1 = .ok (.invokevirtual 85, 3) := by decide +kernel
theorem dX8_beginStep_4 : decode cX8_beginStep 4 = .ok (.ifCond .ne 12, 3) := by decide +kernel
theorem dX8_beginStep_7 : decode cX8_beginStep 7 = .ok (.aload_n 0, 1) := by decide +kernel
theorem dX8_beginStep_8 : decode cX8_beginStep 8 = .ok (.getfield 9, 3) := by decide +kernel
theorem dX8_beginStep_11 : decode cX8_beginStep 11 = .ok (.iconst 2, 1) := by decide +kernel
theorem dX8_beginStep_12 : decode cX8_beginStep 12 = .ok (.invokevirtual 69, 3) := by decide +kernel
theorem dX8_beginStep_15 : decode cX8_beginStep 15 = .ok (.ireturn, 1) := by decide +kernel
theorem dX8_beginStep_16 : decode cX8_beginStep 16 = .ok (.aload_n 0, 1) := by decide +kernel
theorem dX8_beginStep_17 : decode cX8_beginStep 17 = .ok (.getfield 33, 3) := by decide +kernel
theorem dX8_beginStep_20 : decode cX8_beginStep 20 = .ok (.getfield 88, 3) := by decide +kernel
theorem dX8_beginStep_23 : decode cX8_beginStep 23 = .ok (.bipush 30, 2) := by decide +kernel
theorem dX8_beginStep_25 : decode cX8_beginStep 25 = .ok (.if_icmp .lt 13, 3) := by decide +kernel
theorem dX8_beginStep_28 : decode cX8_beginStep 28 = .ok (.aload_n 0, 1) := by decide +kernel
theorem dX8_beginStep_29 : decode cX8_beginStep 29 = .ok (.getfield 9, 3) := by decide +kernel
theorem dX8_beginStep_32 : decode cX8_beginStep 32 = .ok (.bipush 6, 2) := by decide +kernel
theorem dX8_beginStep_34 : decode cX8_beginStep 34 = .ok (.invokevirtual 69, 3) := by decide +kernel
theorem dX8_beginStep_37 : decode cX8_beginStep 37 = .ok (.ireturn, 1) := by decide +kernel
theorem dX8_beginStep_38 : decode cX8_beginStep 38 = .ok (.aload_n 0, 1) := by decide +kernel
theorem dX8_beginStep_39 : decode cX8_beginStep 39 = .ok (.getfield 33, 3) := by decide +kernel
theorem dX8_beginStep_42 : decode cX8_beginStep 42 = .ok (.dup, 1) := by decide +kernel
theorem dX8_beginStep_43 : decode cX8_beginStep 43 = .ok (.getfield 88, 3) := by decide +kernel
theorem dX8_beginStep_46 : decode cX8_beginStep 46 = .ok (.iconst 1, 1) := by decide +kernel
theorem dX8_beginStep_47 : decode cX8_beginStep 47 = .ok (.iadd, 1) := by decide +kernel
theorem dX8_beginStep_48 : decode cX8_beginStep 48 = .ok (.putfield 88, 3) := by decide +kernel
theorem dX8_beginStep_51 : decode cX8_beginStep 51 = .ok (.aload_n 0, 1) := by decide +kernel
theorem dX8_beginStep_52 : decode cX8_beginStep 52 = .ok (.getfield 9, 3) := by decide +kernel
theorem dX8_beginStep_55 : decode cX8_beginStep 55 = .ok (.getfield 91, 3) := by decide +kernel
theorem dX8_beginStep_58 : decode cX8_beginStep 58 = .ok (.bipush 16, 2) := by decide +kernel
theorem dX8_beginStep_60 : decode cX8_beginStep 60 = .ok (.if_icmp .eq 17, 3) := by decide +kernel
theorem dX8_beginStep_63 : decode cX8_beginStep 63 = .ok (.aload_n 0, 1) := by decide +kernel
theorem dX8_beginStep_64 : decode cX8_beginStep 64 = .ok (.getfield 9, 3) := by decide +kernel
theorem dX8_beginStep_67 : decode cX8_beginStep 67 = .ok (.getfield 91, 3) := by decide +kernel
theorem dX8_beginStep_70 : decode cX8_beginStep 70 = .ok (.bipush 20, 2) := by decide +kernel
theorem dX8_beginStep_72 : decode cX8_beginStep 72 = .ok (.if_icmp .eq 5, 3) := by decide +kernel
theorem dX8_beginStep_75 : decode cX8_beginStep 75 = .ok (.iconst 1, 1) := by decide +kernel
theorem dX8_beginStep_76 : decode cX8_beginStep 76 = .ok (.ireturn, 1) := by decide +kernel
theorem dX8_beginStep_77 : decode cX8_beginStep 77 = .ok (.aload_n 0, 1) := by decide +kernel
theorem dX8_beginStep_78 : decode cX8_beginStep 78 = .ok (.getfield 19, 3) := by decide +kernel
theorem dX8_beginStep_81 : decode cX8_beginStep 81 = .ok (.iconst 3, 1) := by decide +kernel
theorem dX8_beginStep_82 : decode cX8_beginStep 82 = .ok (.if_icmp .lt 13, 3) := by decide +kernel
theorem dX8_beginStep_85 : decode cX8_beginStep 85 = .ok (.aload_n 0, 1) := by decide +kernel
theorem dX8_beginStep_86 : decode cX8_beginStep 86 = .ok (.getfield 9, 3) := by decide +kernel
theorem dX8_beginStep_89 : decode cX8_beginStep 89 = .ok (.bipush 7, 2) := by decide +kernel
theorem dX8_beginStep_91 : decode cX8_beginStep 91 = .ok (.invokevirtual 69, 3) := by decide +kernel
theorem dX8_beginStep_94 : decode cX8_beginStep 94 = .ok (.ireturn, 1) := by decide +kernel
theorem dX8_beginStep_95 : decode cX8_beginStep 95 = .ok (.aload_n 0, 1) := by decide +kernel
theorem dX8_beginStep_96 : decode cX8_beginStep 96 = .ok (.getfield 15, 3) := by decide +kernel
theorem dX8_beginStep_99 : decode cX8_beginStep 99 = .ok (.aload_n 0, 1) := by decide +kernel
theorem dX8_beginStep_100 : decode cX8_beginStep 100 = .ok (.getfield 19, 3) := by decide +kernel
theorem dX8_beginStep_103 : decode cX8_beginStep 103 = .ok (.aload_n 0, 1) := by decide +kernel
theorem dX8_beginStep_104 : decode cX8_beginStep 104 = .ok (.getfield 33, 3) := by decide +kernel
theorem dX8_beginStep_107 : decode cX8_beginStep 107 = .ok (.getfield 66, 3) := by decide +kernel
theorem dX8_beginStep_110 : decode cX8_beginStep 110 = .ok (.iastore, 1) := by decide +kernel
theorem dX8_beginStep_111 : decode cX8_beginStep 111 = .ok (.aload_n 0, 1) := by decide +kernel
theorem dX8_beginStep_112 : decode cX8_beginStep 112 = .ok (.dup, 1) := by decide +kernel
theorem dX8_beginStep_113 : decode cX8_beginStep 113 = .ok (.getfield 19, 3) := by decide +kernel
theorem dX8_beginStep_116 : decode cX8_beginStep 116 = .ok (.iconst 1, 1) := by decide +kernel
theorem dX8_beginStep_117 : decode cX8_beginStep 117 = .ok (.iadd, 1) := by decide +kernel
theorem dX8_beginStep_118 : decode cX8_beginStep 118 = .ok (.putfield 19, 3) := by decide +kernel
theorem dX8_beginStep_121 : decode cX8_beginStep 121 = .ok (.iconst 1, 1) := by decide +kernel
theorem dX8_beginStep_122 : decode cX8_beginStep 122 = .ok (.ireturn, 1) := by decide +kernel
theorem dX8_isStep_0 : decode cX8_isStep 0 = .ok (.aload_n 0, 1) := by decide +kernel
theorem dX8_isStep_1 : decode cX8_isStep 1 = .ok (.getfield 9, 3) := by decide +kernel
theorem dX8_isStep_4 : decode cX8_isStep 4 = .ok (.getfield 45, 3) := by decide +kernel
theorem dX8_isStep_7 : decode cX8_isStep 7 = .ok (.iconst 3, 1) := by decide +kernel
theorem dX8_isStep_8 : decode cX8_isStep 8 = .ok (.if_icmp .ne 55, 3) := by decide +kernel
theorem dX8_isStep_11 : decode cX8_isStep 11 = .ok (.aload_n 0, 1) := by decide +kernel
theorem dX8_isStep_12 : decode cX8_isStep 12 = .ok (.getfield 9, 3) := by decide +kernel
theorem dX8_isStep_15 : decode cX8_isStep 15 = .ok (.getfield 91, 3) := by decide +kernel
theorem dX8_isStep_18 : decode cX8_isStep 18 = .ok (.bipush 11, 2) := by decide +kernel
theorem dX8_isStep_20 : decode cX8_isStep 20 = .ok (.if_icmp .lt 15, 3) := by decide +kernel
theorem dX8_isStep_23 : decode cX8_isStep 23 = .ok (.aload_n 0, 1) := by decide +kernel
theorem dX8_isStep_24 : decode cX8_isStep 24 = .ok (.getfield 9, 3) := by decide +kernel
theorem dX8_isStep_27 : decode cX8_isStep 27 = .ok (.getfield 91, 3) := by decide +kernel
theorem dX8_isStep_30 : decode cX8_isStep 30 = .ok (.bipush 16, 2) := by decide +kernel
theorem dX8_isStep_32 : decode cX8_isStep 32 = .ok (.if_icmp .le 27, 3) := by decide +kernel
theorem dX8_isStep_35 : decode cX8_isStep 35 = .ok (.aload_n 0, 1) := by decide +kernel
theorem dX8_isStep_36 : decode cX8_isStep 36 = .ok (.getfield 9, 3) := by decide +kernel
theorem dX8_isStep_39 : decode cX8_isStep 39 = .ok (.getfield 91, 3) := by decide +kernel
theorem dX8_isStep_42 : decode cX8_isStep 42 = .ok (.bipush 20, 2) := by decide +kernel
theorem dX8_isStep_44 : decode cX8_isStep 44 = .ok (.if_icmp .eq 15, 3) := by decide +kernel
theorem dX8_isStep_47 : decode cX8_isStep 47 = .ok (.aload_n 0, 1) := by decide +kernel
theorem dX8_isStep_48 : decode cX8_isStep 48 = .ok (.getfield 9, 3) := by decide +kernel
theorem dX8_isStep_51 : decode cX8_isStep 51 = .ok (.getfield 91, 3) := by decide +kernel
theorem dX8_isStep_54 : decode cX8_isStep 54 = .ok (.bipush 22, 2) := by decide +kernel
theorem dX8_isStep_56 : decode cX8_isStep 56 = .ok (.if_icmp .ne 7, 3) := by decide +kernel
theorem dX8_isStep_59 : decode cX8_isStep 59 = .ok (.iconst 1, 1) := by decide +kernel
theorem dX8_isStep_60 : decode cX8_isStep 60 = .ok (.goto 4, 3) := by decide +kernel
theorem dX8_isStep_63 : decode cX8_isStep 63 = .ok (.iconst 0, 1) := by decide +kernel
theorem dX8_isStep_64 : decode cX8_isStep 64 = .ok (.ireturn, 1) := by decide +kernel
theorem dX8_readStep_0 : decode cX8_readStep 0 = .ok (.aload_n 0, 1) := by decide +kernel
theorem dX8_readStep_1 : decode cX8_readStep 1 = .ok (.getfield 9, 3) := by decide +kernel
theorem dX8_readStep_4 : decode cX8_readStep 4 = .ok (.getfield 91, 3) := by decide +kernel
theorem dX8_readStep_7 : decode cX8_readStep 7 = .ok (.istore_n 1, 1) := by decide +kernel
theorem dX8_readStep_8 : decode cX8_readStep 8 = .ok (.aload_n 0, 1) := by decide +kernel
theorem dX8_readStep_9 : decode cX8_readStep 9 = .ok (.getfield 9, 3) := by decide +kernel
theorem dX8_readStep_12 : decode cX8_readStep 12 = .ok (.invokevirtual 76, 3) := by decide +kernel
theorem dX8_readStep_15 : decode cX8_readStep 15 = .ok (.iload_n 1, 1) := by decide +kernel
theorem dX8_readStep_16 : decode cX8_readStep 16 = .ok (.tableswitch 96 11 20 #[56, 64, 70, 76, 96, 82, 96, 96, 96, 87], 56) := by decide +kernel
theorem dX8_readStep_72 : decode cX8_readStep 72 = .ok (.aload_n 0, 1) := by decide +kernel
theorem dX8_readStep_73 : decode cX8_readStep 73 = .ok (.iconst 0, 1) := by decide +kernel
theorem dX8_readStep_74 : decode cX8_readStep 74 = .ok (.bipush 9, 2) := by decide +kernel
theorem dX8_readStep_76 : decode cX8_readStep 76 = .ok (.invokevirtual 94, 3) := by decide +kernel
theorem dX8_readStep_79 : decode cX8_readStep 79 = .ok (.ireturn, 1) := by decide +kernel
theorem dX8_readStep_80 : decode cX8_readStep 80 = .ok (.aload_n 0, 1) := by decide +kernel
theorem dX8_readStep_81 : decode cX8_readStep 81 = .ok (.iconst 1, 1) := by decide +kernel
theorem dX8_readStep_82 : decode cX8_readStep 82 = .ok (.invokevirtual 98, 3) := by decide +kernel
theorem dX8_readStep_85 : decode cX8_readStep 85 = .ok (.ireturn, 1) := by decide +kernel
theorem dX8_readStep_86 : decode cX8_readStep 86 = .ok (.aload_n 0, 1) := by decide +kernel
theorem dX8_readStep_87 : decode cX8_readStep 87 = .ok (.iconst 2, 1) := by decide +kernel
theorem dX8_readStep_88 : decode cX8_readStep 88 = .ok (.invokevirtual 98, 3) := by decide +kernel
theorem dX8_readStep_91 : decode cX8_readStep 91 = .ok (.ireturn, 1) := by decide +kernel
theorem dX8_readStep_92 : decode cX8_readStep 92 = .ok (.aload_n 0, 1) := by decide +kernel
theorem dX8_readStep_93 : decode cX8_readStep 93 = .ok (.iconst 3, 1) := by decide +kernel
theorem dX8_readStep_94 : decode cX8_readStep 94 = .ok (.invokevirtual 98, 3) := by decide +kernel
theorem dX8_readStep_97 : decode cX8_readStep 97 = .ok (.ireturn, 1) := by decide +kernel
theorem dX8_readStep_98 : decode cX8_readStep 98 = .ok (.aload_n 0, 1) := by decide +kernel
theorem dX8_readStep_99 : decode cX8_readStep 99 = .ok (.invokevirtual 101, 3) := by decide +kernel
theorem dX8_readStep_102 : decode cX8_readStep 102 = .ok (.ireturn, 1) := by decide +kernel
theorem dX8_readStep_103 : decode cX8_readStep 103 = .ok (.aload_n 0, 1) := by decide +kernel
theorem dX8_readStep_104 : decode cX8_readStep 104 = .ok (.bipush 6, 2) := by decide +kernel
theorem dX8_readStep_106 : decode cX8_readStep 106 = .ok (.bipush 99, 2) := by decide +kernel
theorem dX8_readStep_108 : decode cX8_readStep 108 = .ok (.invokevirtual 94, 3) := by decide +kernel
theorem dX8_readStep_111 : decode cX8_readStep 111 = .ok (.ireturn, 1) := by decide +kernel
theorem dX8_readStep_112 : decode cX8_readStep 112 = .ok (.aload_n 0, 1) := by decide +kernel
theorem dX8_readStep_113 : decode cX8_readStep 113 = .ok (.getfield 33, 3) := by decide +kernel
theorem dX8_readStep_116 : decode cX8_readStep 116 = .ok (.getfield 79, 3) := by decide +kernel
theorem dX8_readStep_119 : decode cX8_readStep 119 = .ok (.aload_n 0, 1) := by decide +kernel
theorem dX8_readStep_120 : decode cX8_readStep 120 = .ok (.getfield 33, 3) := by decide +kernel
theorem dX8_readStep_123 : decode cX8_readStep 123 = .ok (.getfield 66, 3) := by decide +kernel
theorem dX8_readStep_126 : decode cX8_readStep 126 = .ok (.iload_n 1, 1) := by decide +kernel
theorem dX8_readStep_127 : decode cX8_readStep 127 = .ok (.bipush 15, 2) := by decide +kernel
theorem dX8_readStep_129 : decode cX8_readStep 129 = .ok (.if_icmp .ne 7, 3) := by decide +kernel
theorem dX8_readStep_132 : decode cX8_readStep 132 = .ok (.iconst 4, 1) := by decide +kernel
theorem dX8_readStep_133 : decode cX8_readStep 133 = .ok (.goto 4, 3) := by decide +kernel
theorem dX8_readStep_136 : decode cX8_readStep 136 = .ok (.iconst 5, 1) := by decide +kernel
theorem dX8_readStep_137 : decode cX8_readStep 137 = .ok (.iastore, 1) := by decide +kernel
theorem dX8_readStep_138 : decode cX8_readStep 138 = .ok (.iconst 1, 1) := by decide +kernel
theorem dX8_readStep_139 : decode cX8_readStep 139 = .ok (.ireturn, 1) := by decide +kernel
theorem dX8_readAmount_0 : decode cX8_readAmount 0 = .ok (.aload_n 0, 1) := by decide +kernel
theorem dX8_readAmount_1 : decode cX8_readAmount 1 = .ok (.getfield 9, 3) := by decide +kernel
theorem dX8_readAmount_4 : decode cX8_readAmount 4 = .ok (.iconst 1, 1) := by decide +kernel
theorem dX8_readAmount_5 : decode cX8_readAmount 5 = .ok (.iload_n 2, 1) := by decide +kernel
theorem dX8_readAmount_6 : decode cX8_readAmount 6 = .ok (.invokevirtual 104, 3) := by decide +kernel
theorem dX8_readAmount_9 : decode cX8_readAmount 9 = .ok (.istore_n 3, 1) := by decide +kernel
theorem dX8_readAmount_10 : decode cX8_readAmount 10 = .ok (.aload_n 0, 1) := by decide +kernel
theorem dX8_readAmount_11 : decode cX8_readAmount 11 = .ok (.getfield 33, 3) := by decide +kernel
theorem dX8_readAmount_14 : decode cX8_readAmount 14 = .ok (.getfield 79, 3) := by decide +kernel
theorem dX8_readAmount_17 : decode cX8_readAmount 17 = .ok (.aload_n 0, 1) := by decide +kernel
theorem dX8_readAmount_18 : decode cX8_readAmount 18 = .ok (.getfield 33, 3) := by decide +kernel
theorem dX8_readAmount_21 : decode cX8_readAmount 21 = .ok (.getfield 66, 3) := by decide +kernel
theorem dX8_readAmount_24 : decode cX8_readAmount 24 = .ok (.iload_n 1, 1) := by decide +kernel
theorem dX8_readAmount_25 : decode cX8_readAmount 25 = .ok (.iastore, 1) := by decide +kernel
theorem dX8_readAmount_26 : decode cX8_readAmount 26 = .ok (.aload_n 0, 1) := by decide +kernel
theorem dX8_readAmount_27 : decode cX8_readAmount 27 = .ok (.getfield 33, 3) := by decide +kernel
theorem dX8_readAmount_30 : decode cX8_readAmount 30 = .ok (.getfield 108, 3) := by decide +kernel
theorem dX8_readAmount_33 : decode cX8_readAmount 33 = .ok (.aload_n 0, 1) := by decide +kernel
theorem dX8_readAmount_34 : decode cX8_readAmount 34 = .ok (.getfield 33, 3) := by decide +kernel
theorem dX8_readAmount_37 : decode cX8_readAmount 37 = .ok (.getfield 66, 3) := by decide +kernel
theorem dX8_readAmount_40 : decode cX8_readAmount 40 = .ok (.iload_n 3, 1) := by decide +kernel
theorem dX8_readAmount_41 : decode cX8_readAmount 41 = .ok (.iastore, 1) := by decide +kernel
theorem dX8_readAmount_42 : decode cX8_readAmount 42 = .ok (.iload_n 3, 1) := by decide +kernel
theorem dX8_readAmount_43 : decode cX8_readAmount 43 = .ok (.iconst (-1), 1) := by decide +kernel
theorem dX8_readAmount_44 : decode cX8_readAmount 44 = .ok (.if_icmp .eq 7, 3) := by decide +kernel
theorem dX8_readAmount_47 : decode cX8_readAmount 47 = .ok (.iconst 1, 1) := by decide +kernel
theorem dX8_readAmount_48 : decode cX8_readAmount 48 = .ok (.goto 4, 3) := by decide +kernel
theorem dX8_readAmount_51 : decode cX8_readAmount 51 = .ok (.iconst 0, 1) := by decide +kernel
theorem dX8_readAmount_52 : decode cX8_readAmount 52 = .ok (.ireturn, 1) := by decide +kernel
theorem dX8_readThing_0 : decode cX8_readThing 0 = .ok (.aload_n 0, 1) := by decide +kernel
theorem dX8_readThing_1 : decode cX8_readThing 1 = .ok (.getfield 9, 3) := by decide +kernel
theorem dX8_readThing_4 : decode cX8_readThing 4 = .ok (.aload_n 0, 1) := by decide +kernel
theorem dX8_readThing_5 : decode cX8_readThing 5 = .ok (.getfield 23, 3) := by decide +kernel
theorem dX8_readThing_8 : decode cX8_readThing 8 = .ok (.iconst 0, 1) := by decide +kernel
theorem dX8_readThing_9 : decode cX8_readThing 9 = .ok (.invokevirtual 111, 3) := by decide +kernel
theorem dX8_readThing_12 : decode cX8_readThing 12 = .ok (.istore_n 2, 1) := by decide +kernel
theorem dX8_readThing_13 : decode cX8_readThing 13 = .ok (.aload_n 0, 1) := by decide +kernel
theorem dX8_readThing_14 : decode cX8_readThing 14 = .ok (.getfield 33, 3) := by decide +kernel
theorem dX8_readThing_17 : decode cX8_readThing 17 = .ok (.getfield 79, 3) := by decide +kernel
theorem dX8_readThing_20 : decode cX8_readThing 20 = .ok (.aload_n 0, 1) := by decide +kernel
theorem dX8_readThing_21 : decode cX8_readThing 21 = .ok (.getfield 33, 3) := by decide +kernel
theorem dX8_readThing_24 : decode cX8_readThing 24 = .ok (.getfield 66, 3) := by decide +kernel
theorem dX8_readThing_27 : decode cX8_readThing 27 = .ok (.iload_n 1, 1) := by decide +kernel
theorem dX8_readThing_28 : decode cX8_readThing 28 = .ok (.iastore, 1) := by decide +kernel
theorem dX8_readThing_29 : decode cX8_readThing 29 = .ok (.aload_n 0, 1) := by decide +kernel
theorem dX8_readThing_30 : decode cX8_readThing 30 = .ok (.getfield 33, 3) := by decide +kernel
theorem dX8_readThing_33 : decode cX8_readThing 33 = .ok (.getfield 115, 3) := by decide +kernel
theorem dX8_readThing_36 : decode cX8_readThing 36 = .ok (.aload_n 0, 1) := by decide +kernel
theorem dX8_readThing_37 : decode cX8_readThing 37 = .ok (.getfield 33, 3) := by decide +kernel
theorem dX8_readThing_40 : decode cX8_readThing 40 = .ok (.getfield 66, 3) := by decide +kernel
theorem dX8_readThing_43 : decode cX8_readThing 43 = .ok (.iload_n 2, 1) := by decide +kernel
theorem dX8_readThing_44 : decode cX8_readThing 44 = .ok (.iastore, 1) := by decide +kernel
theorem dX8_readThing_45 : decode cX8_readThing 45 = .ok (.iload_n 2, 1) := by decide +kernel
theorem dX8_readThing_46 : decode cX8_readThing 46 = .ok (.iconst (-1), 1) := by decide +kernel
theorem dX8_readThing_47 : decode cX8_readThing 47 = .ok (.if_icmp .eq 7, 3) := by decide +kernel
theorem dX8_readThing_50 : decode cX8_readThing 50 = .ok (.iconst 1, 1) := by decide +kernel
theorem dX8_readThing_51 : decode cX8_readThing 51 = .ok (.goto 4, 3) := by decide +kernel
theorem dX8_readThing_54 : decode cX8_readThing 54 = .ok (.iconst 0, 1) := by decide +kernel
theorem dX8_readThing_55 : decode cX8_readThing 55 = .ok (.ireturn, 1) := by decide +kernel
theorem dX8_readTest_0 : decode cX8_readTest 0 = .ok (.aload_n 0, 1) := by decide +kernel
theorem dX8_readTest_1 : decode cX8_readTest 1 = .ok (.getfield 9, 3) := by decide +kernel
theorem dX8_readTest_4 : decode cX8_readTest 4 = .ok (.bipush 17, 2) := by decide +kernel
theorem dX8_readTest_6 : decode cX8_readTest 6 = .ok (.invokevirtual 48, 3) := by decide +kernel
theorem dX8_readTest_9 : decode cX8_readTest 9 = .ok (.ifCond .eq 8, 3) := by decide +kernel
theorem dX8_readTest_12 : decode cX8_readTest 12 = .ok (.bipush 7, 2) := by decide +kernel
theorem dX8_readTest_14 : decode cX8_readTest 14 = .ok (.goto 38, 3) := by decide +kernel
theorem dX8_readTest_17 : decode cX8_readTest 17 = .ok (.aload_n 0, 1) := by decide +kernel
theorem dX8_readTest_18 : decode cX8_readTest 18 = .ok (.getfield 9, 3) := by decide +kernel
theorem dX8_readTest_21 : decode cX8_readTest 21 = .ok (.bipush 18, 2) := by decide +kernel
theorem dX8_readTest_23 : decode cX8_readTest 23 = .ok (.invokevirtual 48, 3) := by decide +kernel
theorem dX8_readTest_26 : decode cX8_readTest 26 = .ok (.ifCond .eq 8, 3) := by decide +kernel
theorem dX8_readTest_29 : decode cX8_readTest 29 = .ok (.bipush 8, 2) := by decide +kernel
theorem dX8_readTest_31 : decode cX8_readTest 31 = .ok (.goto 21, 3) := by decide +kernel
theorem dX8_readTest_34 : decode cX8_readTest 34 = .ok (.aload_n 0, 1) := by decide +kernel
theorem dX8_readTest_35 : decode cX8_readTest 35 = .ok (.getfield 9, 3) := by decide +kernel
theorem dX8_readTest_38 : decode cX8_readTest 38 = .ok (.bipush 19, 2) := by decide +kernel
theorem dX8_readTest_40 : decode cX8_readTest 40 = .ok (.invokevirtual 48, 3) := by decide +kernel
theorem dX8_readTest_43 : decode cX8_readTest 43 = .ok (.ifCond .eq 8, 3) := by decide +kernel
theorem dX8_readTest_46 : decode cX8_readTest 46 = .ok (.bipush 9, 2) := by decide +kernel
theorem dX8_readTest_48 : decode cX8_readTest 48 = .ok (.goto 4, 3) := by decide +kernel
theorem dX8_readTest_51 : decode cX8_readTest 51 = .ok (.iconst (-1), 1) := by decide +kernel
theorem dX8_readTest_52 : decode cX8_readTest 52 = .ok (.istore_n 1, 1) := by decide +kernel
theorem dX8_readTest_53 : decode cX8_readTest 53 = .ok (.iload_n 1, 1) := by decide +kernel
theorem dX8_readTest_54 : decode cX8_readTest 54 = .ok (.iconst (-1), 1) := by decide +kernel
theorem dX8_readTest_55 : decode cX8_readTest 55 = .ok (.if_icmp .ne 12, 3) := by decide +kernel
theorem dX8_readTest_58 : decode cX8_readTest 58 = .ok (.aload_n 0, 1) := by decide +kernel
theorem dX8_readTest_59 : decode cX8_readTest 59 = .ok (.getfield 9, 3) := by decide +kernel
theorem dX8_readTest_62 : decode cX8_readTest 62 = .ok (.iconst 2, 1) := by decide +kernel
theorem dX8_readTest_63 : decode cX8_readTest 63 = .ok (.invokevirtual 69, 3) := by decide +kernel
theorem dX8_readTest_66 : decode cX8_readTest 66 = .ok (.ireturn, 1) := by decide +kernel
theorem dX8_readTest_67 : decode cX8_readTest 67 = .ok (.aload_n 0, 1) := by decide +kernel
theorem dX8_readTest_68 : decode cX8_readTest 68 = .ok (.getfield 9, 3) := by decide +kernel
theorem dX8_readTest_71 : decode cX8_readTest 71 = .ok (.invokevirtual 76, 3) := by decide +kernel
theorem dX8_readTest_74 : decode cX8_readTest 74 = .ok (.aload_n 0, 1) := by decide +kernel
theorem dX8_readTest_75 : decode cX8_readTest 75 = .ok (.getfield 9, 3) := by decide +kernel
theorem dX8_readTest_78 : decode cX8_readTest 78 = .ok (.aload_n 0, 1) := by decide +kernel
theorem dX8_readTest_79 : decode cX8_readTest 79 = .ok (.getfield 23, 3) := by decide +kernel
theorem dX8_readTest_82 : decode cX8_readTest 82 = .ok (.iload_n 1, 1) := by decide +kernel
theorem dX8_readTest_83 : decode cX8_readTest 83 = .ok (.bipush 8, 2) := by decide +kernel
theorem dX8_readTest_85 : decode cX8_readTest 85 = .ok (.if_icmp .ne 8, 3) := by decide +kernel
theorem dX8_readTest_88 : decode cX8_readTest 88 = .ok (.bipush 12, 2) := by decide +kernel
theorem dX8_readTest_90 : decode cX8_readTest 90 = .ok (.goto 4, 3) := by decide +kernel
theorem dX8_readTest_93 : decode cX8_readTest 93 = .ok (.iconst 0, 1) := by decide +kernel
theorem dX8_readTest_94 : decode cX8_readTest 94 = .ok (.invokevirtual 111, 3) := by decide +kernel
theorem dX8_readTest_97 : decode cX8_readTest 97 = .ok (.istore_n 2, 1) := by decide +kernel
theorem dX8_readTest_98 : decode cX8_readTest 98 = .ok (.aload_n 0, 1) := by decide +kernel
theorem dX8_readTest_99 : decode cX8_readTest 99 = .ok (.getfield 33, 3) := by decide +kernel
theorem dX8_readTest_102 : decode cX8_readTest 102 = .ok (.getfield 79, 3) := by decide +kernel
theorem dX8_readTest_105 : decode cX8_readTest 105 = .ok (.aload_n 0, 1) := by decide +kernel
theorem dX8_readTest_106 : decode cX8_readTest 106 = .ok (.getfield 33, 3) := by decide +kernel
theorem dX8_readTest_109 : decode cX8_readTest 109 = .ok (.getfield 66, 3) := by decide +kernel
theorem dX8_readTest_112 : decode cX8_readTest 112 = .ok (.iload_n 1, 1) := by decide +kernel
theorem dX8_readTest_113 : decode cX8_readTest 113 = .ok (.iastore, 1) := by decide +kernel
theorem dX8_readTest_114 : decode cX8_readTest 114 = .ok (.aload_n 0, 1) := by decide +kernel
theorem dX8_readTest_115 : decode cX8_readTest 115 = .ok (.getfield 33, 3) := by decide +kernel
theorem dX8_readTest_118 : decode cX8_readTest 118 = .ok (.getfield 115, 3) := by decide +kernel
theorem dX8_readTest_121 : decode cX8_readTest 121 = .ok (.aload_n 0, 1) := by decide +kernel
theorem dX8_readTest_122 : decode cX8_readTest 122 = .ok (.getfield 33, 3) := by decide +kernel
theorem dX8_readTest_125 : decode cX8_readTest 125 = .ok (.getfield 66, 3) := by decide +kernel
theorem dX8_readTest_128 : decode cX8_readTest 128 = .ok (.iload_n 2, 1) := by decide +kernel
theorem dX8_readTest_129 : decode cX8_readTest 129 = .ok (.iastore, 1) := by decide +kernel
theorem dX8_readTest_130 : decode cX8_readTest 130 = .ok (.iload_n 2, 1) := by decide +kernel
theorem dX8_readTest_131 : decode cX8_readTest 131 = .ok (.iconst (-1), 1) := by decide +kernel
theorem dX8_readTest_132 : decode cX8_readTest 132 = .ok (.if_icmp .eq 9, 3) := by decide +kernel
theorem dX8_readTest_135 : decode cX8_readTest 135 = .ok (.iload_n 1, 1) := by decide +kernel
theorem dX8_readTest_136 : decode cX8_readTest 136 = .ok (.bipush 9, 2) := by decide +kernel
theorem dX8_readTest_138 : decode cX8_readTest 138 = .ok (.if_icmp .eq 14, 3) := by decide +kernel
theorem dX8_readTest_141 : decode cX8_readTest 141 = .ok (.iload_n 2, 1) := by decide +kernel
theorem dX8_readTest_142 : decode cX8_readTest 142 = .ok (.iconst (-1), 1) := by decide +kernel
theorem dX8_readTest_143 : decode cX8_readTest 143 = .ok (.if_icmp .eq 7, 3) := by decide +kernel
theorem dX8_readTest_146 : decode cX8_readTest 146 = .ok (.iconst 1, 1) := by decide +kernel
theorem dX8_readTest_147 : decode cX8_readTest 147 = .ok (.goto 4, 3) := by decide +kernel
theorem dX8_readTest_150 : decode cX8_readTest 150 = .ok (.iconst 0, 1) := by decide +kernel
theorem dX8_readTest_151 : decode cX8_readTest 151 = .ok (.ireturn, 1) := by decide +kernel
theorem dX8_readTest_152 : decode cX8_readTest 152 = .ok (.aload_n 0, 1) := by decide +kernel
theorem dX8_readTest_153 : decode cX8_readTest 153 = .ok (.getfield 9, 3) := by decide +kernel
theorem dX8_readTest_156 : decode cX8_readTest 156 = .ok (.getfield 45, 3) := by decide +kernel
theorem dX8_readTest_159 : decode cX8_readTest 159 = .ok (.bipush 6, 2) := by decide +kernel
theorem dX8_readTest_161 : decode cX8_readTest 161 = .ok (.if_icmp .ne 15, 3) := by decide +kernel
theorem dX8_readTest_164 : decode cX8_readTest 164 = .ok (.aload_n 0, 1) := by decide +kernel
theorem dX8_readTest_165 : decode cX8_readTest 165 = .ok (.getfield 9, 3) := by decide +kernel
theorem dX8_readTest_168 : decode cX8_readTest 168 = .ok (.bipush 59, 2) := by decide +kernel
theorem dX8_readTest_170 : decode cX8_readTest 170 = .ok (.invokevirtual 118, 3) := by decide +kernel
theorem dX8_readTest_173 : decode cX8_readTest 173 = .ok (.ifCond .eq 12, 3) := by decide +kernel
theorem dX8_readTest_176 : decode cX8_readTest 176 = .ok (.aload_n 0, 1) := by decide +kernel
theorem dX8_readTest_177 : decode cX8_readTest 177 = .ok (.getfield 9, 3) := by decide +kernel
theorem dX8_readTest_180 : decode cX8_readTest 180 = .ok (.iconst 2, 1) := by decide +kernel
theorem dX8_readTest_181 : decode cX8_readTest 181 = .ok (.invokevirtual 69, 3) := by decide +kernel
theorem dX8_readTest_184 : decode cX8_readTest 184 = .ok (.ireturn, 1) := by decide +kernel
theorem dX8_readTest_185 : decode cX8_readTest 185 = .ok (.aload_n 0, 1) := by decide +kernel
theorem dX8_readTest_186 : decode cX8_readTest 186 = .ok (.getfield 33, 3) := by decide +kernel
theorem dX8_readTest_189 : decode cX8_readTest 189 = .ok (.getfield 121, 3) := by decide +kernel
theorem dX8_readTest_192 : decode cX8_readTest 192 = .ok (.aload_n 0, 1) := by decide +kernel
theorem dX8_readTest_193 : decode cX8_readTest 193 = .ok (.getfield 33, 3) := by decide +kernel
theorem dX8_readTest_196 : decode cX8_readTest 196 = .ok (.getfield 66, 3) := by decide +kernel
theorem dX8_readTest_199 : decode cX8_readTest 199 = .ok (.aload_n 0, 1) := by decide +kernel
theorem dX8_readTest_200 : decode cX8_readTest 200 = .ok (.getfield 9, 3) := by decide +kernel
theorem dX8_readTest_203 : decode cX8_readTest 203 = .ok (.getfield 91, 3) := by decide +kernel
theorem dX8_readTest_206 : decode cX8_readTest 206 = .ok (.iastore, 1) := by decide +kernel
theorem dX8_readTest_207 : decode cX8_readTest 207 = .ok (.aload_n 0, 1) := by decide +kernel
theorem dX8_readTest_208 : decode cX8_readTest 208 = .ok (.getfield 9, 3) := by decide +kernel
theorem dX8_readTest_211 : decode cX8_readTest 211 = .ok (.invokevirtual 76, 3) := by decide +kernel
theorem dX8_readTest_214 : decode cX8_readTest 214 = .ok (.aload_n 0, 1) := by decide +kernel
theorem dX8_readTest_215 : decode cX8_readTest 215 = .ok (.getfield 9, 3) := by decide +kernel
theorem dX8_readTest_218 : decode cX8_readTest 218 = .ok (.iconst 0, 1) := by decide +kernel
theorem dX8_readTest_219 : decode cX8_readTest 219 = .ok (.bipush 99, 2) := by decide +kernel
theorem dX8_readTest_221 : decode cX8_readTest 221 = .ok (.invokevirtual 104, 3) := by decide +kernel
theorem dX8_readTest_224 : decode cX8_readTest 224 = .ok (.istore_n 3, 1) := by decide +kernel
theorem dX8_readTest_225 : decode cX8_readTest 225 = .ok (.aload_n 0, 1) := by decide +kernel
theorem dX8_readTest_226 : decode cX8_readTest 226 = .ok (.getfield 33, 3) := by decide +kernel
theorem dX8_readTest_229 : decode cX8_readTest 229 = .ok (.getfield 108, 3) := by decide +kernel
theorem dX8_readTest_232 : decode cX8_readTest 232 = .ok (.aload_n 0, 1) := by decide +kernel
theorem dX8_readTest_233 : decode cX8_readTest 233 = .ok (.getfield 33, 3) := by decide +kernel
theorem dX8_readTest_236 : decode cX8_readTest 236 = .ok (.getfield 66, 3) := by decide +kernel
theorem dX8_readTest_239 : decode cX8_readTest 239 = .ok (.iload_n 3, 1) := by decide +kernel
theorem dX8_readTest_240 : decode cX8_readTest 240 = .ok (.iastore, 1) := by decide +kernel
theorem dX8_readTest_241 : decode cX8_readTest 241 = .ok (.iload_n 3, 1) := by decide +kernel
theorem dX8_readTest_242 : decode cX8_readTest 242 = .ok (.iconst (-1), 1) := by decide +kernel
theorem dX8_readTest_243 : decode cX8_readTest 243 = .ok (.if_icmp .eq 7, 3) := by decide +kernel
theorem dX8_readTest_246 : decode cX8_readTest 246 = .ok (.iconst 1, 1) := by decide +kernel
theorem dX8_readTest_247 : decode cX8_readTest 247 = .ok (.goto 4, 3) := by decide +kernel
theorem dX8_readTest_250 : decode cX8_readTest 250 = .ok (.iconst 0, 1) := by decide +kernel
theorem dX8_readTest_251 : decode cX8_readTest 251 = .ok (.ireturn, 1) := by decide +kernel
theorem dX9_init_0 : decode cX9_init 0 = .ok (.aload_n 0, 1) := by decide +kernel
theorem dX9_init_1 : decode cX9_init 1 = .ok (.invokespecial 3, 3) := by decide +kernel
theorem dX9_init_4 : decode cX9_init 4 = .ok (.aload_n 0, 1) := by decide +kernel
theorem dX9_init_5 : decode cX9_init 5 = .ok (.sipush 900, 3) := by decide +kernel
theorem dX9_init_8 : decode cX9_init 8 = .ok (.newarray .byte, 2) := by decide +kernel
theorem dX9_init_10 : decode cX9_init 10 = .ok (.putfield 11, 3) := by decide +kernel
theorem dX9_init_13 : decode cX9_init 13 = .ok (.aload_n 0, 1) := by decide +kernel
theorem dX9_init_14 : decode cX9_init 14 = .ok (.bipush 23, 2) := by decide +kernel
theorem dX9_init_16 : decode cX9_init 16 = .ok (.newarray .long, 2) := by decide +kernel
theorem dX9_init_18 : decode cX9_init 18 = .ok (.putfield 15, 3) := by decide +kernel
theorem dX9_init_21 : decode cX9_init 21 = .ok (.lconst 0, 1) := by decide +kernel
theorem dX9_init_22 : decode cX9_init 22 = .ok (.lstore_n 1, 1) := by decide +kernel
theorem dX9_init_23 : decode cX9_init 23 = .ok (.iconst 0, 1) := by decide +kernel
theorem dX9_init_24 : decode cX9_init 24 = .ok (.istore_n 3, 1) := by decide +kernel
theorem dX9_init_25 : decode cX9_init 25 = .ok (.iconst 0, 1) := by decide +kernel
theorem dX9_init_26 : decode cX9_init 26 = .ok (.istore 4, 2) := by decide +kernel
theorem dX9_init_28 : decode cX9_init 28 = .ok (.iload 4, 2) := by decide +kernel
theorem dX9_init_30 : decode cX9_init 30 = .ok (.ldc 19, 2) := by decide +kernel
theorem dX9_init_32 : decode cX9_init 32 = .ok (.invokevirtual 21, 3) := by decide +kernel
theorem dX9_init_35 : decode cX9_init 35 = .ok (.if_icmp .ge 59, 3) := by decide +kernel
theorem dX9_init_38 : decode cX9_init 38 = .ok (.iload_n 3, 1) := by decide +kernel
theorem dX9_init_39 : decode cX9_init 39 = .ok (.bipush 23, 2) := by decide +kernel
theorem dX9_init_41 : decode cX9_init 41 = .ok (.if_icmp .ge 53, 3) := by decide +kernel
theorem dX9_init_44 : decode cX9_init 44 = .ok (.ldc 19, 2) := by decide +kernel
theorem dX9_init_46 : decode cX9_init 46 = .ok (.iload 4, 2) := by decide +kernel
theorem dX9_init_48 : decode cX9_init 48 = .ok (.invokevirtual 27, 3) := by decide +kernel
theorem dX9_init_51 : decode cX9_init 51 = .ok (.istore 5, 2) := by decide +kernel
theorem dX9_init_53 : decode cX9_init 53 = .ok (.iload 5, 2) := by decide +kernel
theorem dX9_init_55 : decode cX9_init 55 = .ok (.bipush 32, 2) := by decide +kernel
theorem dX9_init_57 : decode cX9_init 57 = .ok (.if_icmp .ne 18, 3) := by decide +kernel
theorem dX9_init_60 : decode cX9_init 60 = .ok (.aload_n 0, 1) := by decide +kernel
theorem dX9_init_61 : decode cX9_init 61 = .ok (.getfield 15, 3) := by decide +kernel
theorem dX9_init_64 : decode cX9_init 64 = .ok (.iload_n 3, 1) := by decide +kernel
theorem dX9_init_65 : decode cX9_init 65 = .ok (.lload_n 1, 1) := by decide +kernel
theorem dX9_init_66 : decode cX9_init 66 = .ok (.lastore, 1) := by decide +kernel
theorem dX9_init_67 : decode cX9_init 67 = .ok (.lconst 0, 1) := by decide +kernel
theorem dX9_init_68 : decode cX9_init 68 = .ok (.lstore_n 1, 1) := by decide +kernel
theorem dX9_init_69 : decode cX9_init 69 = .ok (.iinc 3 1, 3) := by decide +kernel
theorem dX9_init_72 : decode cX9_init 72 = .ok (.goto 16, 3) := by decide +kernel
theorem dX9_init_75 : decode cX9_init 75 = .ok (.lload_n 1, 1) := by decide +kernel
theorem dX9_init_76 : decode cX9_init 76 = .ok (.iconst 5, 1) := by decide +kernel
theorem dX9_init_77 : decode cX9_init 77 = .ok (.lshl, 1) := by decide +kernel
theorem dX9_init_78 : decode cX9_init 78 = .ok (.iload 5, 2) := by decide +kernel
theorem dX9_init_80 : decode cX9_init 80 = .ok (.bipush 97, 2) := by decide +kernel
theorem dX9_init_82 : decode cX9_init 82 = .ok (.isub, 1) := by decide +kernel
theorem dX9_init_83 : decode cX9_init 83 = .ok (.iconst 1, 1) := by decide +kernel
theorem dX9_init_84 : decode cX9_init 84 = .ok (.iadd, 1) := by decide +kernel
theorem dX9_init_85 : decode cX9_init 85 = .ok (.i2l, 1) := by decide +kernel
theorem dX9_init_86 : decode cX9_init 86 = .ok (.lor, 1) := by decide +kernel
theorem dX9_init_87 : decode cX9_init 87 = .ok (.lstore_n 1, 1) := by decide +kernel
theorem dX9_init_88 : decode cX9_init 88 = .ok (.iinc 4 1, 3) := by decide +kernel
theorem dX9_init_91 : decode cX9_init 91 = .ok (.goto (-63), 3) := by decide +kernel
theorem dX9_init_94 : decode cX9_init 94 = .ok (.aload_n 0, 1) := by decide +kernel
theorem dX9_init_95 : decode cX9_init 95 = .ok (.iconst 0, 1) := by decide +kernel
theorem dX9_init_96 : decode cX9_init 96 = .ok (.putfield 31, 3) := by decide +kernel
theorem dX9_init_99 : decode cX9_init 99 = .ok (.aload_n 0, 1) := by decide +kernel
theorem dX9_init_100 : decode cX9_init 100 = .ok (.iconst 0, 1) := by decide +kernel
theorem dX9_init_101 : decode cX9_init 101 = .ok (.putfield 35, 3) := by decide +kernel
theorem dX9_init_104 : decode cX9_init 104 = .ok (.aload_n 0, 1) := by decide +kernel
theorem dX9_init_105 : decode cX9_init 105 = .ok (.iconst 0, 1) := by decide +kernel
theorem dX9_init_106 : decode cX9_init 106 = .ok (.putfield 37, 3) := by decide +kernel
theorem dX9_init_109 : decode cX9_init 109 = .ok (.aload_n 0, 1) := by decide +kernel
theorem dX9_init_110 : decode cX9_init 110 = .ok (.iconst 0, 1) := by decide +kernel
theorem dX9_init_111 : decode cX9_init 111 = .ok (.putfield 40, 3) := by decide +kernel
theorem dX9_init_114 : decode cX9_init 114 = .ok (.aload_n 0, 1) := by decide +kernel
theorem dX9_init_115 : decode cX9_init 115 = .ok (.iconst 0, 1) := by decide +kernel
theorem dX9_init_116 : decode cX9_init 116 = .ok (.putfield 43, 3) := by decide +kernel
theorem dX9_init_119 : decode cX9_init 119 = .ok (.aload_n 0, 1) := by decide +kernel
theorem dX9_init_120 : decode cX9_init 120 = .ok (.iconst 0, 1) := by decide +kernel
theorem dX9_init_121 : decode cX9_init 121 = .ok (.putfield 46, 3) := by decide +kernel
theorem dX9_init_124 : decode cX9_init 124 = .ok (.aload_n 0, 1) := by decide +kernel
theorem dX9_init_125 : decode cX9_init 125 = .ok (.lconst 0, 1) := by decide +kernel
theorem dX9_init_126 : decode cX9_init 126 = .ok (.putfield 49, 3) := by decide +kernel
theorem dX9_init_129 : decode cX9_init 129 = .ok (.aload_n 0, 1) := by decide +kernel
theorem dX9_init_130 : decode cX9_init 130 = .ok (.iconst 0, 1) := by decide +kernel
theorem dX9_init_131 : decode cX9_init 131 = .ok (.putfield 53, 3) := by decide +kernel
theorem dX9_init_134 : decode cX9_init 134 = .ok (.aload_n 0, 1) := by decide +kernel
theorem dX9_init_135 : decode cX9_init 135 = .ok (.iconst 0, 1) := by decide +kernel
theorem dX9_init_136 : decode cX9_init 136 = .ok (.putfield 56, 3) := by decide +kernel
theorem dX9_init_139 : decode cX9_init 139 = .ok (.return_, 1) := by decide +kernel
theorem dX9_hasRoom_0 : decode cX9_hasRoom 0 = .ok (.aload_n 0, 1) := by decide +kernel
theorem dX9_hasRoom_1 : decode cX9_hasRoom 1 = .ok (.getfield 31, 3) := by decide +kernel
theorem dX9_hasRoom_4 : decode cX9_hasRoom 4 = .ok (.bipush 20, 2) := by decide +kernel
theorem dX9_hasRoom_6 : decode cX9_hasRoom 6 = .ok (.iadd, 1) := by decide +kernel
theorem dX9_hasRoom_7 : decode cX9_hasRoom 7 = .ok (.sipush 900, 3) := by decide +kernel
theorem dX9_hasRoom_10 : decode cX9_hasRoom 10 = .ok (.if_icmp .gt 7, 3) := by decide +kernel
theorem dX9_hasRoom_13 : decode cX9_hasRoom 13 = .ok (.iconst 1, 1) := by decide +kernel
theorem dX9_hasRoom_14 : decode cX9_hasRoom 14 = .ok (.goto 4, 3) := by decide +kernel
theorem dX9_hasRoom_17 : decode cX9_hasRoom 17 = .ok (.iconst 0, 1) := by decide +kernel
theorem dX9_hasRoom_18 : decode cX9_hasRoom 18 = .ok (.ireturn, 1) := by decide +kernel
theorem dX9_add_0 : decode cX9_add 0 = .ok (.bipush 24, 2) := by decide +kernel
theorem dX9_add_2 : decode cX9_add 2 = .ok (.istore_n 2, 1) := by decide +kernel
theorem dX9_add_3 : decode cX9_add 3 = .ok (.iload_n 2, 1) := by decide +kernel
theorem dX9_add_4 : decode cX9_add 4 = .ok (.ifCond .lt 42, 3) := by decide +kernel
theorem dX9_add_7 : decode cX9_add 7 = .ok (.aload_n 0, 1) := by decide +kernel
theorem dX9_add_8 : decode cX9_add 8 = .ok (.getfield 31, 3) := by decide +kernel
theorem dX9_add_11 : decode cX9_add 11 = .ok (.sipush 900, 3) := by decide +kernel
theorem dX9_add_14 : decode cX9_add 14 = .ok (.if_icmp .ge 32, 3) := by decide +kernel
theorem dX9_add_17 : decode cX9_add 17 = .ok (.aload_n 0, 1) := by decide +kernel
theorem dX9_add_18 : decode cX9_add 18 = .ok (.getfield 11, 3) := by decide +kernel
theorem dX9_add_21 : decode cX9_add 21 = .ok (.aload_n 0, 1) := by decide +kernel
theorem dX9_add_22 : decode cX9_add 22 = .ok (.getfield 31, 3) := by decide +kernel
theorem dX9_add_25 : decode cX9_add 25 = .ok (.iload_n 1, 1) := by decide +kernel
theorem dX9_add_26 : decode cX9_add 26 = .ok (.iload_n 2, 1) := by decide +kernel
theorem dX9_add_27 : decode cX9_add 27 = .ok (.ishr, 1) := by decide +kernel
theorem dX9_add_28 : decode cX9_add 28 = .ok (.i2b, 1) := by decide +kernel
theorem dX9_add_29 : decode cX9_add 29 = .ok (.bastore, 1) := by decide +kernel
theorem dX9_add_30 : decode cX9_add 30 = .ok (.aload_n 0, 1) := by decide +kernel
theorem dX9_add_31 : decode cX9_add 31 = .ok (.dup, 1) := by decide +kernel
theorem dX9_add_32 : decode cX9_add 32 = .ok (.getfield 31, 3) := by decide +kernel
theorem dX9_add_35 : decode cX9_add 35 = .ok (.iconst 1, 1) := by decide +kernel
theorem dX9_add_36 : decode cX9_add 36 = .ok (.iadd, 1) := by decide +kernel
theorem dX9_add_37 : decode cX9_add 37 = .ok (.putfield 31, 3) := by decide +kernel
theorem dX9_add_40 : decode cX9_add 40 = .ok (.iinc 2 (-8), 3) := by decide +kernel
theorem dX9_add_43 : decode cX9_add 43 = .ok (.goto (-40), 3) := by decide +kernel
theorem dX9_add_46 : decode cX9_add 46 = .ok (.return_, 1) := by decide +kernel
theorem dX9_empty_0 : decode cX9_empty 0 = .ok (.aload_n 0, 1) := by decide +kernel
theorem dX9_empty_1 : decode cX9_empty 1 = .ok (.iconst 0, 1) := by decide +kernel
theorem dX9_empty_2 : decode cX9_empty 2 = .ok (.putfield 31, 3) := by decide +kernel
theorem dX9_empty_5 : decode cX9_empty 5 = .ok (.return_, 1) := by decide +kernel
theorem dX9_start_0 : decode cX9_start 0 = .ok (.aload_n 0, 1) := by decide +kernel
theorem dX9_start_1 : decode cX9_start 1 = .ok (.iload_n 1, 1) := by decide +kernel
theorem dX9_start_2 : decode cX9_start 2 = .ok (.putfield 35, 3) := by decide +kernel
theorem dX9_start_5 : decode cX9_start 5 = .ok (.aload_n 0, 1) := by decide +kernel
theorem dX9_start_6 : decode cX9_start 6 = .ok (.iconst 0, 1) := by decide +kernel
theorem dX9_start_7 : decode cX9_start 7 = .ok (.putfield 37, 3) := by decide +kernel
theorem dX9_start_10 : decode cX9_start 10 = .ok (.aload_n 0, 1) := by decide +kernel
theorem dX9_start_11 : decode cX9_start 11 = .ok (.iconst 0, 1) := by decide +kernel
theorem dX9_start_12 : decode cX9_start 12 = .ok (.putfield 53, 3) := by decide +kernel
theorem dX9_start_15 : decode cX9_start 15 = .ok (.aload_n 0, 1) := by decide +kernel
theorem dX9_start_16 : decode cX9_start 16 = .ok (.iconst (-1), 1) := by decide +kernel
theorem dX9_start_17 : decode cX9_start 17 = .ok (.putfield 56, 3) := by decide +kernel
theorem dX9_start_20 : decode cX9_start 20 = .ok (.aload_n 0, 1) := by decide +kernel
theorem dX9_start_21 : decode cX9_start 21 = .ok (.invokevirtual 59, 3) := by decide +kernel
theorem dX9_start_24 : decode cX9_start 24 = .ok (.return_, 1) := by decide +kernel
theorem dX9_advance_0 : decode cX9_advance 0 = .ok (.aload_n 0, 1) := by decide +kernel
theorem dX9_advance_1 : decode cX9_advance 1 = .ok (.getfield 37, 3) := by decide +kernel
theorem dX9_advance_4 : decode cX9_advance 4 = .ok (.aload_n 0, 1) := by decide +kernel
theorem dX9_advance_5 : decode cX9_advance 5 = .ok (.getfield 35, 3) := by decide +kernel
theorem dX9_advance_8 : decode cX9_advance 8 = .ok (.if_icmp .ge 44, 3) := by decide +kernel
theorem dX9_advance_11 : decode cX9_advance 11 = .ok (.aload_n 0, 1) := by decide +kernel
theorem dX9_advance_12 : decode cX9_advance 12 = .ok (.getfield 11, 3) := by decide +kernel
theorem dX9_advance_15 : decode cX9_advance 15 = .ok (.aload_n 0, 1) := by decide +kernel
theorem dX9_advance_16 : decode cX9_advance 16 = .ok (.getfield 37, 3) := by decide +kernel
theorem dX9_advance_19 : decode cX9_advance 19 = .ok (.baload, 1) := by decide +kernel
theorem dX9_advance_20 : decode cX9_advance 20 = .ok (.bipush 32, 2) := by decide +kernel
theorem dX9_advance_22 : decode cX9_advance 22 = .ok (.if_icmp .eq 17, 3) := by decide +kernel
theorem dX9_advance_25 : decode cX9_advance 25 = .ok (.aload_n 0, 1) := by decide +kernel
theorem dX9_advance_26 : decode cX9_advance 26 = .ok (.getfield 11, 3) := by decide +kernel
theorem dX9_advance_29 : decode cX9_advance 29 = .ok (.aload_n 0, 1) := by decide +kernel
theorem dX9_advance_30 : decode cX9_advance 30 = .ok (.getfield 37, 3) := by decide +kernel
theorem dX9_advance_33 : decode cX9_advance 33 = .ok (.baload, 1) := by decide +kernel
theorem dX9_advance_34 : decode cX9_advance 34 = .ok (.bipush 10, 2) := by decide +kernel
theorem dX9_advance_36 : decode cX9_advance 36 = .ok (.if_icmp .ne 16, 3) := by decide +kernel
theorem dX9_advance_39 : decode cX9_advance 39 = .ok (.aload_n 0, 1) := by decide +kernel
theorem dX9_advance_40 : decode cX9_advance 40 = .ok (.dup, 1) := by decide +kernel
theorem dX9_advance_41 : decode cX9_advance 41 = .ok (.getfield 37, 3) := by decide +kernel
theorem dX9_advance_44 : decode cX9_advance 44 = .ok (.iconst 1, 1) := by decide +kernel
theorem dX9_advance_45 : decode cX9_advance 45 = .ok (.iadd, 1) := by decide +kernel
theorem dX9_advance_46 : decode cX9_advance 46 = .ok (.putfield 37, 3) := by decide +kernel
theorem dX9_advance_49 : decode cX9_advance 49 = .ok (.goto (-49), 3) := by decide +kernel
theorem dX9_advance_52 : decode cX9_advance 52 = .ok (.aload_n 0, 1) := by decide +kernel
theorem dX9_advance_53 : decode cX9_advance 53 = .ok (.aload_n 0, 1) := by decide +kernel
theorem dX9_advance_54 : decode cX9_advance 54 = .ok (.getfield 37, 3) := by decide +kernel
theorem dX9_advance_57 : decode cX9_advance 57 = .ok (.putfield 43, 3) := by decide +kernel
theorem dX9_advance_60 : decode cX9_advance 60 = .ok (.aload_n 0, 1) := by decide +kernel
theorem dX9_advance_61 : decode cX9_advance 61 = .ok (.iconst (-1), 1) := by decide +kernel
theorem dX9_advance_62 : decode cX9_advance 62 = .ok (.putfield 46, 3) := by decide +kernel
theorem dX9_advance_65 : decode cX9_advance 65 = .ok (.aload_n 0, 1) := by decide +kernel
theorem dX9_advance_66 : decode cX9_advance 66 = .ok (.getfield 37, 3) := by decide +kernel
theorem dX9_advance_69 : decode cX9_advance 69 = .ok (.aload_n 0, 1) := by decide +kernel
theorem dX9_advance_70 : decode cX9_advance 70 = .ok (.getfield 35, 3) := by decide +kernel
theorem dX9_advance_73 : decode cX9_advance 73 = .ok (.if_icmp .lt 11, 3) := by decide +kernel
theorem dX9_advance_76 : decode cX9_advance 76 = .ok (.aload_n 0, 1) := by decide +kernel
theorem dX9_advance_77 : decode cX9_advance 77 = .ok (.iconst 0, 1) := by decide +kernel
theorem dX9_advance_78 : decode cX9_advance 78 = .ok (.putfield 40, 3) := by decide +kernel
theorem dX9_advance_81 : decode cX9_advance 81 = .ok (.goto 77, 3) := by decide +kernel
theorem dX9_advance_84 : decode cX9_advance 84 = .ok (.aload_n 0, 1) := by decide +kernel
theorem dX9_advance_85 : decode cX9_advance 85 = .ok (.getfield 11, 3) := by decide +kernel
theorem dX9_advance_88 : decode cX9_advance 88 = .ok (.aload_n 0, 1) := by decide +kernel
theorem dX9_advance_89 : decode cX9_advance 89 = .ok (.getfield 37, 3) := by decide +kernel
theorem dX9_advance_92 : decode cX9_advance 92 = .ok (.baload, 1) := by decide +kernel
theorem dX9_advance_93 : decode cX9_advance 93 = .ok (.bipush 97, 2) := by decide +kernel
theorem dX9_advance_95 : decode cX9_advance 95 = .ok (.if_icmp .lt 24, 3) := by decide +kernel
theorem dX9_advance_98 : decode cX9_advance 98 = .ok (.aload_n 0, 1) := by decide +kernel
theorem dX9_advance_99 : decode cX9_advance 99 = .ok (.getfield 11, 3) := by decide +kernel
theorem dX9_advance_102 : decode cX9_advance 102 = .ok (.aload_n 0, 1) := by decide +kernel
theorem dX9_advance_103 : decode cX9_advance 103 = .ok (.getfield 37, 3) := by decide +kernel
theorem dX9_advance_106 : decode cX9_advance 106 = .ok (.baload, 1) := by decide +kernel
theorem dX9_advance_107 : decode cX9_advance 107 = .ok (.bipush 122, 2) := by decide +kernel
theorem dX9_advance_109 : decode cX9_advance 109 = .ok (.if_icmp .gt 10, 3) := by decide +kernel
theorem dX9_advance_112 : decode cX9_advance 112 = .ok (.aload_n 0, 1) := by decide +kernel
theorem dX9_advance_113 : decode cX9_advance 113 = .ok (.invokevirtual 62, 3) := by decide +kernel
theorem dX9_advance_116 : decode cX9_advance 116 = .ok (.goto 42, 3) := by decide +kernel
theorem dX9_advance_119 : decode cX9_advance 119 = .ok (.aload_n 0, 1) := by decide +kernel
theorem dX9_advance_120 : decode cX9_advance 120 = .ok (.getfield 11, 3) := by decide +kernel
theorem dX9_advance_123 : decode cX9_advance 123 = .ok (.aload_n 0, 1) := by decide +kernel
theorem dX9_advance_124 : decode cX9_advance 124 = .ok (.getfield 37, 3) := by decide +kernel
theorem dX9_advance_127 : decode cX9_advance 127 = .ok (.baload, 1) := by decide +kernel
theorem dX9_advance_128 : decode cX9_advance 128 = .ok (.bipush 48, 2) := by decide +kernel
theorem dX9_advance_130 : decode cX9_advance 130 = .ok (.if_icmp .lt 24, 3) := by decide +kernel
theorem dX9_advance_133 : decode cX9_advance 133 = .ok (.aload_n 0, 1) := by decide +kernel
theorem dX9_advance_134 : decode cX9_advance 134 = .ok (.getfield 11, 3) := by decide +kernel
theorem dX9_advance_137 : decode cX9_advance 137 = .ok (.aload_n 0, 1) := by decide +kernel
theorem dX9_advance_138 : decode cX9_advance 138 = .ok (.getfield 37, 3) := by decide +kernel
theorem dX9_advance_141 : decode cX9_advance 141 = .ok (.baload, 1) := by decide +kernel
theorem dX9_advance_142 : decode cX9_advance 142 = .ok (.bipush 57, 2) := by decide +kernel
theorem dX9_advance_144 : decode cX9_advance 144 = .ok (.if_icmp .gt 10, 3) := by decide +kernel
theorem dX9_advance_147 : decode cX9_advance 147 = .ok (.aload_n 0, 1) := by decide +kernel
theorem dX9_advance_148 : decode cX9_advance 148 = .ok (.invokevirtual 65, 3) := by decide +kernel
theorem dX9_advance_151 : decode cX9_advance 151 = .ok (.goto 7, 3) := by decide +kernel
theorem dX9_advance_154 : decode cX9_advance 154 = .ok (.aload_n 0, 1) := by decide +kernel
theorem dX9_advance_155 : decode cX9_advance 155 = .ok (.invokevirtual 68, 3) := by decide +kernel
theorem dX9_advance_158 : decode cX9_advance 158 = .ok (.return_, 1) := by decide +kernel
theorem dX9_readWord_0 : decode cX9_readWord 0 = .ok (.aload_n 0, 1) := by decide +kernel
theorem dX9_readWord_1 : decode cX9_readWord 1 = .ok (.lconst 0, 1) := by decide +kernel
theorem dX9_readWord_2 : decode cX9_readWord 2 = .ok (.putfield 49, 3) := by decide +kernel
theorem dX9_readWord_5 : decode cX9_readWord 5 = .ok (.aload_n 0, 1) := by decide +kernel
theorem dX9_readWord_6 : decode cX9_readWord 6 = .ok (.getfield 37, 3) := by decide +kernel
theorem dX9_readWord_9 : decode cX9_readWord 9 = .ok (.aload_n 0, 1) := by decide +kernel
theorem dX9_readWord_10 : decode cX9_readWord 10 = .ok (.getfield 35, 3) := by decide +kernel
theorem dX9_readWord_13 : decode cX9_readWord 13 = .ok (.if_icmp .ge 70, 3) := by decide +kernel
theorem dX9_readWord_16 : decode cX9_readWord 16 = .ok (.aload_n 0, 1) := by decide +kernel
theorem dX9_readWord_17 : decode cX9_readWord 17 = .ok (.getfield 11, 3) := by decide +kernel
theorem dX9_readWord_20 : decode cX9_readWord 20 = .ok (.aload_n 0, 1) := by decide +kernel
theorem dX9_readWord_21 : decode cX9_readWord 21 = .ok (.getfield 37, 3) := by decide +kernel
theorem dX9_readWord_24 : decode cX9_readWord 24 = .ok (.baload, 1) := by decide +kernel
theorem dX9_readWord_25 : decode cX9_readWord 25 = .ok (.bipush 97, 2) := by decide +kernel
theorem dX9_readWord_27 : decode cX9_readWord 27 = .ok (.if_icmp .lt 56, 3) := by decide +kernel
theorem dX9_readWord_30 : decode cX9_readWord 30 = .ok (.aload_n 0, 1) := by decide +kernel
theorem dX9_readWord_31 : decode cX9_readWord 31 = .ok (.getfield 11, 3) := by decide +kernel
theorem dX9_readWord_34 : decode cX9_readWord 34 = .ok (.aload_n 0, 1) := by decide +kernel
theorem dX9_readWord_35 : decode cX9_readWord 35 = .ok (.getfield 37, 3) := by decide +kernel
theorem dX9_readWord_38 : decode cX9_readWord 38 = .ok (.baload, 1) := by decide +kernel
theorem dX9_readWord_39 : decode cX9_readWord 39 = .ok (.bipush 122, 2) := by decide +kernel
theorem dX9_readWord_41 : decode cX9_readWord 41 = .ok (.if_icmp .gt 42, 3) := by decide +kernel
theorem dX9_readWord_44 : decode cX9_readWord 44 = .ok (.aload_n 0, 1) := by decide +kernel
theorem dX9_readWord_45 : decode cX9_readWord 45 = .ok (.aload_n 0, 1) := by decide +kernel
theorem dX9_readWord_46 : decode cX9_readWord 46 = .ok (.getfield 49, 3) := by decide +kernel
theorem dX9_readWord_49 : decode cX9_readWord 49 = .ok (.iconst 5, 1) := by decide +kernel
theorem dX9_readWord_50 : decode cX9_readWord 50 = .ok (.lshl, 1) := by decide +kernel
theorem dX9_readWord_51 : decode cX9_readWord 51 = .ok (.aload_n 0, 1) := by decide +kernel
theorem dX9_readWord_52 : decode cX9_readWord 52 = .ok (.getfield 11, 3) := by decide +kernel
theorem dX9_readWord_55 : decode cX9_readWord 55 = .ok (.aload_n 0, 1) := by decide +kernel
theorem dX9_readWord_56 : decode cX9_readWord 56 = .ok (.getfield 37, 3) := by decide +kernel
theorem dX9_readWord_59 : decode cX9_readWord 59 = .ok (.baload, 1) := by decide +kernel
theorem dX9_readWord_60 : decode cX9_readWord 60 = .ok (.bipush 97, 2) := by decide +kernel
theorem dX9_readWord_62 : decode cX9_readWord 62 = .ok (.isub, 1) := by decide +kernel
theorem dX9_readWord_63 : decode cX9_readWord 63 = .ok (.iconst 1, 1) := by decide +kernel
theorem dX9_readWord_64 : decode cX9_readWord 64 = .ok (.iadd, 1) := by decide +kernel
theorem dX9_readWord_65 : decode cX9_readWord 65 = .ok (.i2l, 1) := by decide +kernel
theorem dX9_readWord_66 : decode cX9_readWord 66 = .ok (.lor, 1) := by decide +kernel
theorem dX9_readWord_67 : decode cX9_readWord 67 = .ok (.putfield 49, 3) := by decide +kernel
theorem dX9_readWord_70 : decode cX9_readWord 70 = .ok (.aload_n 0, 1) := by decide +kernel
theorem dX9_readWord_71 : decode cX9_readWord 71 = .ok (.dup, 1) := by decide +kernel
theorem dX9_readWord_72 : decode cX9_readWord 72 = .ok (.getfield 37, 3) := by decide +kernel
theorem dX9_readWord_75 : decode cX9_readWord 75 = .ok (.iconst 1, 1) := by decide +kernel
theorem dX9_readWord_76 : decode cX9_readWord 76 = .ok (.iadd, 1) := by decide +kernel
theorem dX9_readWord_77 : decode cX9_readWord 77 = .ok (.putfield 37, 3) := by decide +kernel
theorem dX9_readWord_80 : decode cX9_readWord 80 = .ok (.goto (-75), 3) := by decide +kernel
theorem dX9_readWord_83 : decode cX9_readWord 83 = .ok (.aload_n 0, 1) := by decide +kernel
theorem dX9_readWord_84 : decode cX9_readWord 84 = .ok (.getfield 37, 3) := by decide +kernel
theorem dX9_readWord_87 : decode cX9_readWord 87 = .ok (.aload_n 0, 1) := by decide +kernel
theorem dX9_readWord_88 : decode cX9_readWord 88 = .ok (.getfield 43, 3) := by decide +kernel
theorem dX9_readWord_91 : decode cX9_readWord 91 = .ok (.isub, 1) := by decide +kernel
theorem dX9_readWord_92 : decode cX9_readWord 92 = .ok (.bipush 8, 2) := by decide +kernel
theorem dX9_readWord_94 : decode cX9_readWord 94 = .ok (.if_icmp .le 9, 3) := by decide +kernel
theorem dX9_readWord_97 : decode cX9_readWord 97 = .ok (.aload_n 0, 1) := by decide +kernel
theorem dX9_readWord_98 : decode cX9_readWord 98 = .ok (.iconst 4, 1) := by decide +kernel
theorem dX9_readWord_99 : decode cX9_readWord 99 = .ok (.putfield 40, 3) := by decide +kernel
theorem dX9_readWord_102 : decode cX9_readWord 102 = .ok (.return_, 1) := by decide +kernel
theorem dX9_readWord_103 : decode cX9_readWord 103 = .ok (.aload_n 0, 1) := by decide +kernel
theorem dX9_readWord_104 : decode cX9_readWord 104 = .ok (.iconst 2, 1) := by decide +kernel
theorem dX9_readWord_105 : decode cX9_readWord 105 = .ok (.putfield 40, 3) := by decide +kernel
theorem dX9_readWord_108 : decode cX9_readWord 108 = .ok (.iconst 0, 1) := by decide +kernel
theorem dX9_readWord_109 : decode cX9_readWord 109 = .ok (.istore_n 1, 1) := by decide +kernel
theorem dX9_readWord_110 : decode cX9_readWord 110 = .ok (.iload_n 1, 1) := by decide +kernel
theorem dX9_readWord_111 : decode cX9_readWord 111 = .ok (.bipush 23, 2) := by decide +kernel
theorem dX9_readWord_113 : decode cX9_readWord 113 = .ok (.if_icmp .ge 41, 3) := by decide +kernel
theorem dX9_readWord_116 : decode cX9_readWord 116 = .ok (.aload_n 0, 1) := by decide +kernel
theorem dX9_readWord_117 : decode cX9_readWord 117 = .ok (.getfield 40, 3) := by decide +kernel
theorem dX9_readWord_120 : decode cX9_readWord 120 = .ok (.iconst 2, 1) := by decide +kernel
theorem dX9_readWord_121 : decode cX9_readWord 121 = .ok (.if_icmp .ne 33, 3) := by decide +kernel
theorem dX9_readWord_124 : decode cX9_readWord 124 = .ok (.aload_n 0, 1) := by decide +kernel
theorem dX9_readWord_125 : decode cX9_readWord 125 = .ok (.getfield 15, 3) := by decide +kernel
theorem dX9_readWord_128 : decode cX9_readWord 128 = .ok (.iload_n 1, 1) := by decide +kernel
theorem dX9_readWord_129 : decode cX9_readWord 129 = .ok (.laload, 1) := by decide +kernel
theorem dX9_readWord_130 : decode cX9_readWord 130 = .ok (.aload_n 0, 1) := by decide +kernel
theorem dX9_readWord_131 : decode cX9_readWord 131 = .ok (.getfield 49, 3) := by decide +kernel
theorem dX9_readWord_134 : decode cX9_readWord 134 = .ok (.lcmp, 1) := by decide +kernel
theorem dX9_readWord_135 : decode cX9_readWord 135 = .ok (.ifCond .ne 13, 3) := by decide +kernel
theorem dX9_readWord_138 : decode cX9_readWord 138 = .ok (.aload_n 0, 1) := by decide +kernel
theorem dX9_readWord_139 : decode cX9_readWord 139 = .ok (.iconst 3, 1) := by decide +kernel
theorem dX9_readWord_140 : decode cX9_readWord 140 = .ok (.putfield 40, 3) := by decide +kernel
theorem dX9_readWord_143 : decode cX9_readWord 143 = .ok (.aload_n 0, 1) := by decide +kernel
theorem dX9_readWord_144 : decode cX9_readWord 144 = .ok (.iload_n 1, 1) := by decide +kernel
theorem dX9_readWord_145 : decode cX9_readWord 145 = .ok (.putfield 46, 3) := by decide +kernel
theorem dX9_readWord_148 : decode cX9_readWord 148 = .ok (.iinc 1 1, 3) := by decide +kernel
theorem dX9_readWord_151 : decode cX9_readWord 151 = .ok (.goto (-41), 3) := by decide +kernel
theorem dX9_readWord_154 : decode cX9_readWord 154 = .ok (.return_, 1) := by decide +kernel
theorem dX9_readNumber_0 : decode cX9_readNumber 0 = .ok (.iconst 0, 1) := by decide +kernel
theorem dX9_readNumber_1 : decode cX9_readNumber 1 = .ok (.istore_n 1, 1) := by decide +kernel
theorem dX9_readNumber_2 : decode cX9_readNumber 2 = .ok (.aload_n 0, 1) := by decide +kernel
theorem dX9_readNumber_3 : decode cX9_readNumber 3 = .ok (.getfield 37, 3) := by decide +kernel
theorem dX9_readNumber_6 : decode cX9_readNumber 6 = .ok (.aload_n 0, 1) := by decide +kernel
theorem dX9_readNumber_7 : decode cX9_readNumber 7 = .ok (.getfield 35, 3) := by decide +kernel
theorem dX9_readNumber_10 : decode cX9_readNumber 10 = .ok (.if_icmp .ge 62, 3) := by decide +kernel
theorem dX9_readNumber_13 : decode cX9_readNumber 13 = .ok (.aload_n 0, 1) := by decide +kernel
theorem dX9_readNumber_14 : decode cX9_readNumber 14 = .ok (.getfield 11, 3) := by decide +kernel
theorem dX9_readNumber_17 : decode cX9_readNumber 17 = .ok (.aload_n 0, 1) := by decide +kernel
theorem dX9_readNumber_18 : decode cX9_readNumber 18 = .ok (.getfield 37, 3) := by decide +kernel
theorem dX9_readNumber_21 : decode cX9_readNumber 21 = .ok (.baload, 1) := by decide +kernel
theorem dX9_readNumber_22 : decode cX9_readNumber 22 = .ok (.bipush 48, 2) := by decide +kernel
theorem dX9_readNumber_24 : decode cX9_readNumber 24 = .ok (.if_icmp .lt 48, 3) := by decide +kernel
theorem dX9_readNumber_27 : decode cX9_readNumber 27 = .ok (.aload_n 0, 1) := by decide +kernel
theorem dX9_readNumber_28 : decode cX9_readNumber 28 = .ok (.getfield 11, 3) := by decide +kernel
theorem dX9_readNumber_31 : decode cX9_readNumber 31 = .ok (.aload_n 0, 1) := by decide +kernel
theorem dX9_readNumber_32 : decode cX9_readNumber 32 = .ok (.getfield 37, 3) := by decide +kernel
theorem dX9_readNumber_35 : decode cX9_readNumber 35 = .ok (.baload, 1) := by decide +kernel
theorem dX9_readNumber_36 : decode cX9_readNumber 36 = .ok (.bipush 57, 2) := by decide +kernel
theorem dX9_readNumber_38 : decode cX9_readNumber 38 = .ok (.if_icmp .gt 34, 3) := by decide +kernel
theorem dX9_readNumber_41 : decode cX9_readNumber 41 = .ok (.iload_n 1, 1) := by decide +kernel
theorem dX9_readNumber_42 : decode cX9_readNumber 42 = .ok (.bipush 10, 2) := by decide +kernel
theorem dX9_readNumber_44 : decode cX9_readNumber 44 = .ok (.imul, 1) := by decide +kernel
theorem dX9_readNumber_45 : decode cX9_readNumber 45 = .ok (.aload_n 0, 1) := by decide +kernel
theorem dX9_readNumber_46 : decode cX9_readNumber 46 = .ok (.getfield 11, 3) := by decide +kernel
theorem dX9_readNumber_49 : decode cX9_readNumber 49 = .ok (.aload_n 0, 1) := by decide +kernel
theorem dX9_readNumber_50 : decode cX9_readNumber 50 = .ok (.getfield 37, 3) := by decide +kernel
theorem dX9_readNumber_53 : decode cX9_readNumber 53 = .ok (.baload, 1) := by decide +kernel
theorem dX9_readNumber_54 : decode cX9_readNumber 54 = .ok (.iadd, 1) := by decide +kernel
theorem dX9_readNumber_55 : decode cX9_readNumber 55 = .ok (.bipush 48, 2) := by decide +kernel
theorem dX9_readNumber_57 : decode cX9_readNumber 57 = .ok (.isub, 1) := by decide +kernel
theorem dX9_readNumber_58 : decode cX9_readNumber 58 = .ok (.istore_n 1, 1) := by decide +kernel
theorem dX9_readNumber_59 : decode cX9_readNumber 59 = .ok (.aload_n 0, 1) := by decide +kernel
theorem dX9_readNumber_60 : decode cX9_readNumber 60 = .ok (.dup, 1) := by decide +kernel
theorem dX9_readNumber_61 : decode cX9_readNumber 61 = .ok (.getfield 37, 3) := by decide +kernel
theorem dX9_readNumber_64 : decode cX9_readNumber 64 = .ok (.iconst 1, 1) := by decide +kernel
theorem dX9_readNumber_65 : decode cX9_readNumber 65 = .ok (.iadd, 1) := by decide +kernel
theorem dX9_readNumber_66 : decode cX9_readNumber 66 = .ok (.putfield 37, 3) := by decide +kernel
theorem dX9_readNumber_69 : decode cX9_readNumber 69 = .ok (.goto (-67), 3) := by decide +kernel
theorem dX9_readNumber_72 : decode cX9_readNumber 72 = .ok (.aload_n 0, 1) := by decide +kernel
theorem dX9_readNumber_73 : decode cX9_readNumber 73 = .ok (.aload_n 0, 1) := by decide +kernel
theorem dX9_readNumber_74 : decode cX9_readNumber 74 = .ok (.getfield 37, 3) := by decide +kernel
theorem dX9_readNumber_77 : decode cX9_readNumber 77 = .ok (.aload_n 0, 1) := by decide +kernel
theorem dX9_readNumber_78 : decode cX9_readNumber 78 = .ok (.getfield 43, 3) := by decide +kernel
theorem dX9_readNumber_81 : decode cX9_readNumber 81 = .ok (.isub, 1) := by decide +kernel
theorem dX9_readNumber_82 : decode cX9_readNumber 82 = .ok (.iconst 4, 1) := by decide +kernel
theorem dX9_readNumber_83 : decode cX9_readNumber 83 = .ok (.if_icmp .le 7, 3) := by decide +kernel
theorem dX9_readNumber_86 : decode cX9_readNumber 86 = .ok (.iconst 1, 1) := by decide +kernel
theorem dX9_readNumber_87 : decode cX9_readNumber 87 = .ok (.goto 4, 3) := by decide +kernel
theorem dX9_readNumber_90 : decode cX9_readNumber 90 = .ok (.iconst 5, 1) := by decide +kernel
theorem dX9_readNumber_91 : decode cX9_readNumber 91 = .ok (.putfield 40, 3) := by decide +kernel
theorem dX9_readNumber_94 : decode cX9_readNumber 94 = .ok (.aload_n 0, 1) := by decide +kernel
theorem dX9_readNumber_95 : decode cX9_readNumber 95 = .ok (.iload_n 1, 1) := by decide +kernel
theorem dX9_readNumber_96 : decode cX9_readNumber 96 = .ok (.putfield 46, 3) := by decide +kernel
theorem dX9_readNumber_99 : decode cX9_readNumber 99 = .ok (.return_, 1) := by decide +kernel
theorem dX9_readSign_0 : decode cX9_readSign 0 = .ok (.aload_n 0, 1) := by decide +kernel
theorem dX9_readSign_1 : decode cX9_readSign 1 = .ok (.getfield 11, 3) := by decide +kernel
theorem dX9_readSign_4 : decode cX9_readSign 4 = .ok (.aload_n 0, 1) := by decide +kernel
theorem dX9_readSign_5 : decode cX9_readSign 5 = .ok (.getfield 37, 3) := by decide +kernel
theorem dX9_readSign_8 : decode cX9_readSign 8 = .ok (.baload, 1) := by decide +kernel
theorem dX9_readSign_9 : decode cX9_readSign 9 = .ok (.istore_n 1, 1) := by decide +kernel
theorem dX9_readSign_10 : decode cX9_readSign 10 = .ok (.aload_n 0, 1) := by decide +kernel
theorem dX9_readSign_11 : decode cX9_readSign 11 = .ok (.dup, 1) := by decide +kernel
theorem dX9_readSign_12 : decode cX9_readSign 12 = .ok (.getfield 37, 3) := by decide +kernel
theorem dX9_readSign_15 : decode cX9_readSign 15 = .ok (.iconst 1, 1) := by decide +kernel
theorem dX9_readSign_16 : decode cX9_readSign 16 = .ok (.iadd, 1) := by decide +kernel
theorem dX9_readSign_17 : decode cX9_readSign 17 = .ok (.putfield 37, 3) := by decide +kernel
theorem dX9_readSign_20 : decode cX9_readSign 20 = .ok (.aload_n 0, 1) := by decide +kernel
theorem dX9_readSign_21 : decode cX9_readSign 21 = .ok (.iload_n 1, 1) := by decide +kernel
theorem dX9_readSign_22 : decode cX9_readSign 22 = .ok (.bipush 59, 2) := by decide +kernel
theorem dX9_readSign_24 : decode cX9_readSign 24 = .ok (.if_icmp .eq 21, 3) := by decide +kernel
theorem dX9_readSign_27 : decode cX9_readSign 27 = .ok (.iload_n 1, 1) := by decide +kernel
theorem dX9_readSign_28 : decode cX9_readSign 28 = .ok (.bipush 60, 2) := by decide +kernel
theorem dX9_readSign_30 : decode cX9_readSign 30 = .ok (.if_icmp .eq 15, 3) := by decide +kernel
theorem dX9_readSign_33 : decode cX9_readSign 33 = .ok (.iload_n 1, 1) := by decide +kernel
theorem dX9_readSign_34 : decode cX9_readSign 34 = .ok (.bipush 62, 2) := by decide +kernel
theorem dX9_readSign_36 : decode cX9_readSign 36 = .ok (.if_icmp .eq 9, 3) := by decide +kernel
theorem dX9_readSign_39 : decode cX9_readSign 39 = .ok (.iload_n 1, 1) := by decide +kernel
theorem dX9_readSign_40 : decode cX9_readSign 40 = .ok (.bipush 61, 2) := by decide +kernel
theorem dX9_readSign_42 : decode cX9_readSign 42 = .ok (.if_icmp .ne 8, 3) := by decide +kernel
theorem dX9_readSign_45 : decode cX9_readSign 45 = .ok (.bipush 6, 2) := by decide +kernel
theorem dX9_readSign_47 : decode cX9_readSign 47 = .ok (.goto 4, 3) := by decide +kernel
theorem dX9_readSign_50 : decode cX9_readSign 50 = .ok (.iconst 1, 1) := by decide +kernel
theorem dX9_readSign_51 : decode cX9_readSign 51 = .ok (.putfield 40, 3) := by decide +kernel
theorem dX9_readSign_54 : decode cX9_readSign 54 = .ok (.aload_n 0, 1) := by decide +kernel
theorem dX9_readSign_55 : decode cX9_readSign 55 = .ok (.iload_n 1, 1) := by decide +kernel
theorem dX9_readSign_56 : decode cX9_readSign 56 = .ok (.putfield 46, 3) := by decide +kernel
theorem dX9_readSign_59 : decode cX9_readSign 59 = .ok (.return_, 1) := by decide +kernel
theorem dX9_fail_0 : decode cX9_fail 0 = .ok (.aload_n 0, 1) := by decide +kernel
theorem dX9_fail_1 : decode cX9_fail 1 = .ok (.aload_n 0, 1) := by decide +kernel
theorem dX9_fail_2 : decode cX9_fail 2 = .ok (.getfield 40, 3) := by decide +kernel
theorem dX9_fail_5 : decode cX9_fail 5 = .ok (.iconst 1, 1) := by decide +kernel
theorem dX9_fail_6 : decode cX9_fail 6 = .ok (.if_icmp .ne 7, 3) := by decide +kernel
theorem dX9_fail_9 : decode cX9_fail 9 = .ok (.iconst 1, 1) := by decide +kernel
theorem dX9_fail_10 : decode cX9_fail 10 = .ok (.goto 4, 3) := by decide +kernel
theorem dX9_fail_13 : decode cX9_fail 13 = .ok (.iload_n 1, 1) := by decide +kernel
theorem dX9_fail_14 : decode cX9_fail 14 = .ok (.putfield 53, 3) := by decide +kernel
theorem dX9_fail_17 : decode cX9_fail 17 = .ok (.aload_n 0, 1) := by decide +kernel
theorem dX9_fail_18 : decode cX9_fail 18 = .ok (.aload_n 0, 1) := by decide +kernel
theorem dX9_fail_19 : decode cX9_fail 19 = .ok (.getfield 43, 3) := by decide +kernel
theorem dX9_fail_22 : decode cX9_fail 22 = .ok (.putfield 56, 3) := by decide +kernel
theorem dX9_fail_25 : decode cX9_fail 25 = .ok (.iconst 0, 1) := by decide +kernel
theorem dX9_fail_26 : decode cX9_fail 26 = .ok (.ireturn, 1) := by decide +kernel
theorem dX9_isKeyword_0 : decode cX9_isKeyword 0 = .ok (.aload_n 0, 1) := by decide +kernel
theorem dX9_isKeyword_1 : decode cX9_isKeyword 1 = .ok (.getfield 40, 3) := by decide +kernel
theorem dX9_isKeyword_4 : decode cX9_isKeyword 4 = .ok (.iconst 3, 1) := by decide +kernel
theorem dX9_isKeyword_5 : decode cX9_isKeyword 5 = .ok (.if_icmp .ne 15, 3) := by decide +kernel
theorem dX9_isKeyword_8 : decode cX9_isKeyword 8 = .ok (.aload_n 0, 1) := by decide +kernel
theorem dX9_isKeyword_9 : decode cX9_isKeyword 9 = .ok (.getfield 46, 3) := by decide +kernel
theorem dX9_isKeyword_12 : decode cX9_isKeyword 12 = .ok (.iload_n 1, 1) := by decide +kernel
theorem dX9_isKeyword_13 : decode cX9_isKeyword 13 = .ok (.if_icmp .ne 7, 3) := by decide +kernel
theorem dX9_isKeyword_16 : decode cX9_isKeyword 16 = .ok (.iconst 1, 1) := by decide +kernel
theorem dX9_isKeyword_17 : decode cX9_isKeyword 17 = .ok (.goto 4, 3) := by decide +kernel
theorem dX9_isKeyword_20 : decode cX9_isKeyword 20 = .ok (.iconst 0, 1) := by decide +kernel
theorem dX9_isKeyword_21 : decode cX9_isKeyword 21 = .ok (.ireturn, 1) := by decide +kernel
theorem dX9_isSign_0 : decode cX9_isSign 0 = .ok (.aload_n 0, 1) := by decide +kernel
theorem dX9_isSign_1 : decode cX9_isSign 1 = .ok (.getfield 40, 3) := by decide +kernel
theorem dX9_isSign_4 : decode cX9_isSign 4 = .ok (.bipush 6, 2) := by decide +kernel
theorem dX9_isSign_6 : decode cX9_isSign 6 = .ok (.if_icmp .ne 15, 3) := by decide +kernel
theorem dX9_isSign_9 : decode cX9_isSign 9 = .ok (.aload_n 0, 1) := by decide +kernel
theorem dX9_isSign_10 : decode cX9_isSign 10 = .ok (.getfield 46, 3) := by decide +kernel
theorem dX9_isSign_13 : decode cX9_isSign 13 = .ok (.iload_n 1, 1) := by decide +kernel
theorem dX9_isSign_14 : decode cX9_isSign 14 = .ok (.if_icmp .ne 7, 3) := by decide +kernel
theorem dX9_isSign_17 : decode cX9_isSign 17 = .ok (.iconst 1, 1) := by decide +kernel
theorem dX9_isSign_18 : decode cX9_isSign 18 = .ok (.goto 4, 3) := by decide +kernel
theorem dX9_isSign_21 : decode cX9_isSign 21 = .ok (.iconst 0, 1) := by decide +kernel
theorem dX9_isSign_22 : decode cX9_isSign 22 = .ok (.ireturn, 1) := by decide +kernel
theorem dX9_passKeyword_0 : decode cX9_passKeyword 0 = .ok (.aload_n 0, 1) := by decide +kernel
theorem dX9_passKeyword_1 : decode cX9_passKeyword 1 = .ok (.iload_n 1, 1) := by decide +kernel
theorem dX9_passKeyword_2 : decode cX9_passKeyword 2 = .ok (.invokevirtual 71, 3) := by decide +kernel
theorem dX9_passKeyword_5 : decode cX9_passKeyword 5 = .ok (.ifCond .ne 9, 3) := by decide +kernel
theorem dX9_passKeyword_8 : decode cX9_passKeyword 8 = .ok (.aload_n 0, 1) := by decide +kernel
theorem dX9_passKeyword_9 : decode cX9_passKeyword 9 = .ok (.iconst 2, 1) := by decide +kernel
theorem dX9_passKeyword_10 : decode cX9_passKeyword 10 = .ok (.invokevirtual 75, 3) := by decide +kernel
theorem dX9_passKeyword_13 : decode cX9_passKeyword 13 = .ok (.ireturn, 1) := by decide +kernel
theorem dX9_passKeyword_14 : decode cX9_passKeyword 14 = .ok (.aload_n 0, 1) := by decide +kernel
theorem dX9_passKeyword_15 : decode cX9_passKeyword 15 = .ok (.invokevirtual 59, 3) := by decide +kernel
theorem dX9_passKeyword_18 : decode cX9_passKeyword 18 = .ok (.iconst 1, 1) := by decide +kernel
theorem dX9_passKeyword_19 : decode cX9_passKeyword 19 = .ok (.ireturn, 1) := by decide +kernel
theorem dX9_passSign_0 : decode cX9_passSign 0 = .ok (.aload_n 0, 1) := by decide +kernel
theorem dX9_passSign_1 : decode cX9_passSign 1 = .ok (.iload_n 1, 1) := by decide +kernel
theorem dX9_passSign_2 : decode cX9_passSign 2 = .ok (.invokevirtual 78, 3) := by decide +kernel
theorem dX9_passSign_5 : decode cX9_passSign 5 = .ok (.ifCond .ne 9, 3) := by decide +kernel
theorem dX9_passSign_8 : decode cX9_passSign 8 = .ok (.aload_n 0, 1) := by decide +kernel
theorem dX9_passSign_9 : decode cX9_passSign 9 = .ok (.iconst 2, 1) := by decide +kernel
theorem dX9_passSign_10 : decode cX9_passSign 10 = .ok (.invokevirtual 75, 3) := by decide +kernel
theorem dX9_passSign_13 : decode cX9_passSign 13 = .ok (.ireturn, 1) := by decide +kernel
theorem dX9_passSign_14 : decode cX9_passSign 14 = .ok (.aload_n 0, 1) := by decide +kernel
theorem dX9_passSign_15 : decode cX9_passSign 15 = .ok (.invokevirtual 59, 3) := by decide +kernel
theorem dX9_passSign_18 : decode cX9_passSign 18 = .ok (.iconst 1, 1) := by decide +kernel
theorem dX9_passSign_19 : decode cX9_passSign 19 = .ok (.ireturn, 1) := by decide +kernel
theorem dX9_passNumber_0 : decode cX9_passNumber 0 = .ok (.aload_n 0, 1) := by decide +kernel
theorem dX9_passNumber_1 : decode cX9_passNumber 1 = .ok (.getfield 40, 3) := by decide +kernel
theorem dX9_passNumber_4 : decode cX9_passNumber 4 = .ok (.iconst 5, 1) := by decide +kernel
theorem dX9_passNumber_5 : decode cX9_passNumber 5 = .ok (.if_icmp .eq 11, 3) := by decide +kernel
theorem dX9_passNumber_8 : decode cX9_passNumber 8 = .ok (.aload_n 0, 1) := by decide +kernel
theorem dX9_passNumber_9 : decode cX9_passNumber 9 = .ok (.iconst 2, 1) := by decide +kernel
theorem dX9_passNumber_10 : decode cX9_passNumber 10 = .ok (.invokevirtual 75, 3) := by decide +kernel
theorem dX9_passNumber_13 : decode cX9_passNumber 13 = .ok (.pop, 1) := by decide +kernel
theorem dX9_passNumber_14 : decode cX9_passNumber 14 = .ok (.iconst (-1), 1) := by decide +kernel
theorem dX9_passNumber_15 : decode cX9_passNumber 15 = .ok (.ireturn, 1) := by decide +kernel
theorem dX9_passNumber_16 : decode cX9_passNumber 16 = .ok (.aload_n 0, 1) := by decide +kernel
theorem dX9_passNumber_17 : decode cX9_passNumber 17 = .ok (.getfield 46, 3) := by decide +kernel
theorem dX9_passNumber_20 : decode cX9_passNumber 20 = .ok (.iload_n 1, 1) := by decide +kernel
theorem dX9_passNumber_21 : decode cX9_passNumber 21 = .ok (.if_icmp .lt 11, 3) := by decide +kernel
theorem dX9_passNumber_24 : decode cX9_passNumber 24 = .ok (.aload_n 0, 1) := by decide +kernel
theorem dX9_passNumber_25 : decode cX9_passNumber 25 = .ok (.getfield 46, 3) := by decide +kernel
theorem dX9_passNumber_28 : decode cX9_passNumber 28 = .ok (.iload_n 2, 1) := by decide +kernel
theorem dX9_passNumber_29 : decode cX9_passNumber 29 = .ok (.if_icmp .le 11, 3) := by decide +kernel
theorem dX9_passNumber_32 : decode cX9_passNumber 32 = .ok (.aload_n 0, 1) := by decide +kernel
theorem dX9_passNumber_33 : decode cX9_passNumber 33 = .ok (.iconst 4, 1) := by decide +kernel
theorem dX9_passNumber_34 : decode cX9_passNumber 34 = .ok (.invokevirtual 75, 3) := by decide +kernel
theorem dX9_passNumber_37 : decode cX9_passNumber 37 = .ok (.pop, 1) := by decide +kernel
theorem dX9_passNumber_38 : decode cX9_passNumber 38 = .ok (.iconst (-1), 1) := by decide +kernel
theorem dX9_passNumber_39 : decode cX9_passNumber 39 = .ok (.ireturn, 1) := by decide +kernel
theorem dX9_passNumber_40 : decode cX9_passNumber 40 = .ok (.aload_n 0, 1) := by decide +kernel
theorem dX9_passNumber_41 : decode cX9_passNumber 41 = .ok (.getfield 46, 3) := by decide +kernel
theorem dX9_passNumber_44 : decode cX9_passNumber 44 = .ok (.istore_n 3, 1) := by decide +kernel
theorem dX9_passNumber_45 : decode cX9_passNumber 45 = .ok (.aload_n 0, 1) := by decide +kernel
theorem dX9_passNumber_46 : decode cX9_passNumber 46 = .ok (.invokevirtual 59, 3) := by decide +kernel
theorem dX9_passNumber_49 : decode cX9_passNumber 49 = .ok (.iload_n 3, 1) := by decide +kernel
theorem dX9_passNumber_50 : decode cX9_passNumber 50 = .ok (.ireturn, 1) := by decide +kernel
theorem dX9_seeKnown_0 : decode cX9_seeKnown 0 = .ok (.aload_n 0, 1) := by decide +kernel
theorem dX9_seeKnown_1 : decode cX9_seeKnown 1 = .ok (.getfield 40, 3) := by decide +kernel
theorem dX9_seeKnown_4 : decode cX9_seeKnown 4 = .ok (.iconst 2, 1) := by decide +kernel
theorem dX9_seeKnown_5 : decode cX9_seeKnown 5 = .ok (.if_icmp .eq 11, 3) := by decide +kernel
theorem dX9_seeKnown_8 : decode cX9_seeKnown 8 = .ok (.aload_n 0, 1) := by decide +kernel
theorem dX9_seeKnown_9 : decode cX9_seeKnown 9 = .ok (.iconst 2, 1) := by decide +kernel
theorem dX9_seeKnown_10 : decode cX9_seeKnown 10 = .ok (.invokevirtual 75, 3) := by decide +kernel
theorem dX9_seeKnown_13 : decode cX9_seeKnown 13 = .ok (.pop, 1) := by decide +kernel
theorem dX9_seeKnown_14 : decode cX9_seeKnown 14 = .ok (.iconst (-1), 1) := by decide +kernel
theorem dX9_seeKnown_15 : decode cX9_seeKnown 15 = .ok (.ireturn, 1) := by decide +kernel
theorem dX9_seeKnown_16 : decode cX9_seeKnown 16 = .ok (.aload_n 1, 1) := by decide +kernel
theorem dX9_seeKnown_17 : decode cX9_seeKnown 17 = .ok (.aload_n 0, 1) := by decide +kernel
theorem dX9_seeKnown_18 : decode cX9_seeKnown 18 = .ok (.getfield 49, 3) := by decide +kernel
theorem dX9_seeKnown_21 : decode cX9_seeKnown 21 = .ok (.iload_n 2, 1) := by decide +kernel
theorem dX9_seeKnown_22 : decode cX9_seeKnown 22 = .ok (.invokevirtual 82, 3) := by decide +kernel
theorem dX9_seeKnown_25 : decode cX9_seeKnown 25 = .ok (.istore_n 3, 1) := by decide +kernel
theorem dX9_seeKnown_26 : decode cX9_seeKnown 26 = .ok (.iload_n 3, 1) := by decide +kernel
theorem dX9_seeKnown_27 : decode cX9_seeKnown 27 = .ok (.iconst (-1), 1) := by decide +kernel
theorem dX9_seeKnown_28 : decode cX9_seeKnown 28 = .ok (.if_icmp .ne 9, 3) := by decide +kernel
theorem dX9_seeKnown_31 : decode cX9_seeKnown 31 = .ok (.aload_n 0, 1) := by decide +kernel
theorem dX9_seeKnown_32 : decode cX9_seeKnown 32 = .ok (.iconst 3, 1) := by decide +kernel
theorem dX9_seeKnown_33 : decode cX9_seeKnown 33 = .ok (.invokevirtual 75, 3) := by decide +kernel
theorem dX9_seeKnown_36 : decode cX9_seeKnown 36 = .ok (.pop, 1) := by decide +kernel
theorem dX9_seeKnown_37 : decode cX9_seeKnown 37 = .ok (.iload_n 3, 1) := by decide +kernel
theorem dX9_seeKnown_38 : decode cX9_seeKnown 38 = .ok (.ireturn, 1) := by decide +kernel
theorem dX9_passKnown_0 : decode cX9_passKnown 0 = .ok (.aload_n 0, 1) := by decide +kernel
theorem dX9_passKnown_1 : decode cX9_passKnown 1 = .ok (.aload_n 1, 1) := by decide +kernel
theorem dX9_passKnown_2 : decode cX9_passKnown 2 = .ok (.iload_n 2, 1) := by decide +kernel
theorem dX9_passKnown_3 : decode cX9_passKnown 3 = .ok (.invokevirtual 88, 3) := by decide +kernel
theorem dX9_passKnown_6 : decode cX9_passKnown 6 = .ok (.istore_n 3, 1) := by decide +kernel
theorem dX9_passKnown_7 : decode cX9_passKnown 7 = .ok (.iload_n 3, 1) := by decide +kernel
theorem dX9_passKnown_8 : decode cX9_passKnown 8 = .ok (.iconst (-1), 1) := by decide +kernel
theorem dX9_passKnown_9 : decode cX9_passKnown 9 = .ok (.if_icmp .eq 7, 3) := by decide +kernel
theorem dX9_passKnown_12 : decode cX9_passKnown 12 = .ok (.aload_n 0, 1) := by decide +kernel
theorem dX9_passKnown_13 : decode cX9_passKnown 13 = .ok (.invokevirtual 59, 3) := by decide +kernel
theorem dX9_passKnown_16 : decode cX9_passKnown 16 = .ok (.iload_n 3, 1) := by decide +kernel
theorem dX9_passKnown_17 : decode cX9_passKnown 17 = .ok (.ireturn, 1) := by decide +kernel
theorem dX10_init_0 : decode cX10_init 0 = .ok (.aload_n 0, 1) := by decide +kernel
theorem dX10_init_1 : decode cX10_init 1 = .ok (.invokespecial 3, 3) := by decide +kernel
theorem dX10_init_4 : decode cX10_init 4 = .ok (.aload_n 0, 1) := by decide +kernel
theorem dX10_init_5 : decode cX10_init 5 = .ok (.iconst 4, 1) := by decide +kernel
theorem dX10_init_6 : decode cX10_init 6 = .ok (.bipush 60, 2) := by decide +kernel
theorem dX10_init_8 : decode cX10_init 8 = .ok (.multianewarray 11 2, 4) := by decide +kernel
theorem dX10_init_12 : decode cX10_init 12 = .ok (.putfield 13, 3) := by decide +kernel
theorem dX10_init_15 : decode cX10_init 15 = .ok (.aload_n 0, 1) := by decide +kernel
theorem dX10_init_16 : decode cX10_init 16 = .ok (.iconst 4, 1) := by decide +kernel
theorem dX10_init_17 : decode cX10_init 17 = .ok (.newarray .int, 2) := by decide +kernel
theorem dX10_init_19 : decode cX10_init 19 = .ok (.putfield 16, 3) := by decide +kernel
theorem dX10_init_22 : decode cX10_init 22 = .ok (.aload_n 0, 1) := by decide +kernel
theorem dX10_init_23 : decode cX10_init 23 = .ok (.iconst 4, 1) := by decide +kernel
theorem dX10_init_24 : decode cX10_init 24 = .ok (.newarray .int, 2) := by decide +kernel
theorem dX10_init_26 : decode cX10_init 26 = .ok (.putfield 20, 3) := by decide +kernel
theorem dX10_init_29 : decode cX10_init 29 = .ok (.aload_n 0, 1) := by decide +kernel
theorem dX10_init_30 : decode cX10_init 30 = .ok (.getfield 20, 3) := by decide +kernel
theorem dX10_init_33 : decode cX10_init 33 = .ok (.iconst (-1), 1) := by decide +kernel
theorem dX10_init_34 : decode cX10_init 34 = .ok (.invokestatic 23, 3) := by decide +kernel
theorem dX10_init_37 : decode cX10_init 37 = .ok (.return_, 1) := by decide +kernel
theorem dX10_isTray_0 : decode cX10_isTray 0 = .ok (.iload_n 1, 1) := by decide +kernel
theorem dX10_isTray_1 : decode cX10_isTray 1 = .ok (.ifCond .lt 12, 3) := by decide +kernel
theorem dX10_isTray_4 : decode cX10_isTray 4 = .ok (.iload_n 1, 1) := by decide +kernel
theorem dX10_isTray_5 : decode cX10_isTray 5 = .ok (.iconst 4, 1) := by decide +kernel
theorem dX10_isTray_6 : decode cX10_isTray 6 = .ok (.if_icmp .ge 7, 3) := by decide +kernel
theorem dX10_isTray_9 : decode cX10_isTray 9 = .ok (.iconst 1, 1) := by decide +kernel
theorem dX10_isTray_10 : decode cX10_isTray 10 = .ok (.goto 4, 3) := by decide +kernel
theorem dX10_isTray_13 : decode cX10_isTray 13 = .ok (.iconst 0, 1) := by decide +kernel
theorem dX10_isTray_14 : decode cX10_isTray 14 = .ok (.ireturn, 1) := by decide +kernel
theorem dX10_isSort_0 : decode cX10_isSort 0 = .ok (.iload_n 1, 1) := by decide +kernel
theorem dX10_isSort_1 : decode cX10_isSort 1 = .ok (.ifCond .lt 12, 3) := by decide +kernel
theorem dX10_isSort_4 : decode cX10_isSort 4 = .ok (.iload_n 1, 1) := by decide +kernel
theorem dX10_isSort_5 : decode cX10_isSort 5 = .ok (.iconst 4, 1) := by decide +kernel
theorem dX10_isSort_6 : decode cX10_isSort 6 = .ok (.if_icmp .ge 7, 3) := by decide +kernel
theorem dX10_isSort_9 : decode cX10_isSort 9 = .ok (.iconst 1, 1) := by decide +kernel
theorem dX10_isSort_10 : decode cX10_isSort 10 = .ok (.goto 4, 3) := by decide +kernel
theorem dX10_isSort_13 : decode cX10_isSort 13 = .ok (.iconst 0, 1) := by decide +kernel
theorem dX10_isSort_14 : decode cX10_isSort 14 = .ok (.ireturn, 1) := by decide +kernel
theorem dX10_isMissing_0 : decode cX10_isMissing 0 = .ok (.aload_n 0, 1) := by decide +kernel
theorem dX10_isMissing_1 : decode cX10_isMissing 1 = .ok (.getfield 20, 3) := by decide +kernel
theorem dX10_isMissing_4 : decode cX10_isMissing 4 = .ok (.iload_n 1, 1) := by decide +kernel
theorem dX10_isMissing_5 : decode cX10_isMissing 5 = .ok (.iaload, 1) := by decide +kernel
theorem dX10_isMissing_6 : decode cX10_isMissing 6 = .ok (.ifCond .ge 7, 3) := by decide +kernel
theorem dX10_isMissing_9 : decode cX10_isMissing 9 = .ok (.iconst 1, 1) := by decide +kernel
theorem dX10_isMissing_10 : decode cX10_isMissing 10 = .ok (.goto 4, 3) := by decide +kernel
theorem dX10_isMissing_13 : decode cX10_isMissing 13 = .ok (.iconst 0, 1) := by decide +kernel
theorem dX10_isMissing_14 : decode cX10_isMissing 14 = .ok (.ireturn, 1) := by decide +kernel
theorem dX10_areAlike_0 : decode cX10_areAlike 0 = .ok (.aload_n 0, 1) := by decide +kernel
theorem dX10_areAlike_1 : decode cX10_areAlike 1 = .ok (.getfield 16, 3) := by decide +kernel
theorem dX10_areAlike_4 : decode cX10_areAlike 4 = .ok (.iload_n 1, 1) := by decide +kernel
theorem dX10_areAlike_5 : decode cX10_areAlike 5 = .ok (.iaload, 1) := by decide +kernel
theorem dX10_areAlike_6 : decode cX10_areAlike 6 = .ok (.aload_n 0, 1) := by decide +kernel
theorem dX10_areAlike_7 : decode cX10_areAlike 7 = .ok (.getfield 16, 3) := by decide +kernel
theorem dX10_areAlike_10 : decode cX10_areAlike 10 = .ok (.iload_n 2, 1) := by decide +kernel
theorem dX10_areAlike_11 : decode cX10_areAlike 11 = .ok (.iaload, 1) := by decide +kernel
theorem dX10_areAlike_12 : decode cX10_areAlike 12 = .ok (.if_icmp .ne 7, 3) := by decide +kernel
theorem dX10_areAlike_15 : decode cX10_areAlike 15 = .ok (.iconst 1, 1) := by decide +kernel
theorem dX10_areAlike_16 : decode cX10_areAlike 16 = .ok (.goto 4, 3) := by decide +kernel
theorem dX10_areAlike_19 : decode cX10_areAlike 19 = .ok (.iconst 0, 1) := by decide +kernel
theorem dX10_areAlike_20 : decode cX10_areAlike 20 = .ok (.ireturn, 1) := by decide +kernel
theorem dX10_has_0 : decode cX10_has 0 = .ok (.iload_n 2, 1) := by decide +kernel
theorem dX10_has_1 : decode cX10_has 1 = .ok (.ifCond .lt 29, 3) := by decide +kernel
theorem dX10_has_4 : decode cX10_has 4 = .ok (.iload_n 3, 1) := by decide +kernel
theorem dX10_has_5 : decode cX10_has 5 = .ok (.aload_n 0, 1) := by decide +kernel
theorem dX10_has_6 : decode cX10_has 6 = .ok (.getfield 20, 3) := by decide +kernel
theorem dX10_has_9 : decode cX10_has 9 = .ok (.iload_n 1, 1) := by decide +kernel
theorem dX10_has_10 : decode cX10_has 10 = .ok (.iaload, 1) := by decide +kernel
theorem dX10_has_11 : decode cX10_has 11 = .ok (.if_icmp .gt 19, 3) := by decide +kernel
theorem dX10_has_14 : decode cX10_has 14 = .ok (.iload_n 2, 1) := by decide +kernel
theorem dX10_has_15 : decode cX10_has 15 = .ok (.aload_n 0, 1) := by decide +kernel
theorem dX10_has_16 : decode cX10_has 16 = .ok (.getfield 20, 3) := by decide +kernel
theorem dX10_has_19 : decode cX10_has 19 = .ok (.iload_n 1, 1) := by decide +kernel
theorem dX10_has_20 : decode cX10_has 20 = .ok (.iaload, 1) := by decide +kernel
theorem dX10_has_21 : decode cX10_has 21 = .ok (.iload_n 3, 1) := by decide +kernel
theorem dX10_has_22 : decode cX10_has 22 = .ok (.isub, 1) := by decide +kernel
theorem dX10_has_23 : decode cX10_has 23 = .ok (.if_icmp .gt 7, 3) := by decide +kernel
theorem dX10_has_26 : decode cX10_has 26 = .ok (.iconst 1, 1) := by decide +kernel
theorem dX10_has_27 : decode cX10_has 27 = .ok (.goto 4, 3) := by decide +kernel
theorem dX10_has_30 : decode cX10_has 30 = .ok (.iconst 0, 1) := by decide +kernel
theorem dX10_has_31 : decode cX10_has 31 = .ok (.ireturn, 1) := by decide +kernel
theorem dX10_lay_0 : decode cX10_lay 0 = .ok (.aload_n 0, 1) := by decide +kernel
theorem dX10_lay_1 : decode cX10_lay 1 = .ok (.getfield 16, 3) := by decide +kernel
theorem dX10_lay_4 : decode cX10_lay 4 = .ok (.iload_n 1, 1) := by decide +kernel
theorem dX10_lay_5 : decode cX10_lay 5 = .ok (.iload_n 2, 1) := by decide +kernel
theorem dX10_lay_6 : decode cX10_lay 6 = .ok (.iastore, 1) := by decide +kernel
theorem dX10_lay_7 : decode cX10_lay 7 = .ok (.aload_n 0, 1) := by decide +kernel
theorem dX10_lay_8 : decode cX10_lay 8 = .ok (.getfield 20, 3) := by decide +kernel
theorem dX10_lay_11 : decode cX10_lay 11 = .ok (.iload_n 1, 1) := by decide +kernel
theorem dX10_lay_12 : decode cX10_lay 12 = .ok (.iload_n 3, 1) := by decide +kernel
theorem dX10_lay_13 : decode cX10_lay 13 = .ok (.iastore, 1) := by decide +kernel
theorem dX10_lay_14 : decode cX10_lay 14 = .ok (.aload_n 0, 1) := by decide +kernel
theorem dX10_lay_15 : decode cX10_lay 15 = .ok (.getfield 13, 3) := by decide +kernel
theorem dX10_lay_18 : decode cX10_lay 18 = .ok (.iload_n 1, 1) := by decide +kernel
theorem dX10_lay_19 : decode cX10_lay 19 = .ok (.aaload, 1) := by decide +kernel
theorem dX10_lay_20 : decode cX10_lay 20 = .ok (.lconst 0, 1) := by decide +kernel
theorem dX10_lay_21 : decode cX10_lay 21 = .ok (.invokestatic 29, 3) := by decide +kernel
theorem dX10_lay_24 : decode cX10_lay 24 = .ok (.return_, 1) := by decide +kernel
theorem dX10_put_0 : decode cX10_put 0 = .ok (.aload_n 0, 1) := by decide +kernel
theorem dX10_put_1 : decode cX10_put 1 = .ok (.getfield 13, 3) := by decide +kernel
theorem dX10_put_4 : decode cX10_put 4 = .ok (.iload_n 1, 1) := by decide +kernel
theorem dX10_put_5 : decode cX10_put 5 = .ok (.aaload, 1) := by decide +kernel
theorem dX10_put_6 : decode cX10_put 6 = .ok (.iload_n 2, 1) := by decide +kernel
theorem dX10_put_7 : decode cX10_put 7 = .ok (.aload_n 0, 1) := by decide +kernel
theorem dX10_put_8 : decode cX10_put 8 = .ok (.getfield 16, 3) := by decide +kernel
theorem dX10_put_11 : decode cX10_put 11 = .ok (.iload_n 1, 1) := by decide +kernel
theorem dX10_put_12 : decode cX10_put 12 = .ok (.iaload, 1) := by decide +kernel
theorem dX10_put_13 : decode cX10_put 13 = .ok (.lload_n 3, 1) := by decide +kernel
theorem dX10_put_14 : decode cX10_put 14 = .ok (.invokestatic 32, 3) := by decide +kernel
theorem dX10_put_17 : decode cX10_put 17 = .ok (.lastore, 1) := by decide +kernel
theorem dX10_put_18 : decode cX10_put 18 = .ok (.return_, 1) := by decide +kernel
theorem dX10_number_0 : decode cX10_number 0 = .ok (.aload_n 0, 1) := by decide +kernel
theorem dX10_number_1 : decode cX10_number 1 = .ok (.getfield 13, 3) := by decide +kernel
theorem dX10_number_4 : decode cX10_number 4 = .ok (.iload_n 1, 1) := by decide +kernel
theorem dX10_number_5 : decode cX10_number 5 = .ok (.aaload, 1) := by decide +kernel
theorem dX10_number_6 : decode cX10_number 6 = .ok (.iload_n 2, 1) := by decide +kernel
theorem dX10_number_7 : decode cX10_number 7 = .ok (.laload, 1) := by decide +kernel
theorem dX10_number_8 : decode cX10_number 8 = .ok (.lreturn, 1) := by decide +kernel
theorem dX10_move_0 : decode cX10_move 0 = .ok (.aload_n 0, 1) := by decide +kernel
theorem dX10_move_1 : decode cX10_move 1 = .ok (.getfield 13, 3) := by decide +kernel
theorem dX10_move_4 : decode cX10_move 4 = .ok (.iload_n 1, 1) := by decide +kernel
theorem dX10_move_5 : decode cX10_move 5 = .ok (.aaload, 1) := by decide +kernel
theorem dX10_move_6 : decode cX10_move 6 = .ok (.iload_n 2, 1) := by decide +kernel
theorem dX10_move_7 : decode cX10_move 7 = .ok (.aload_n 0, 1) := by decide +kernel
theorem dX10_move_8 : decode cX10_move 8 = .ok (.getfield 13, 3) := by decide +kernel
theorem dX10_move_11 : decode cX10_move 11 = .ok (.iload_n 3, 1) := by decide +kernel
theorem dX10_move_12 : decode cX10_move 12 = .ok (.aaload, 1) := by decide +kernel
theorem dX10_move_13 : decode cX10_move 13 = .ok (.iload 4, 2) := by decide +kernel
theorem dX10_move_15 : decode cX10_move 15 = .ok (.iload 5, 2) := by decide +kernel
theorem dX10_move_17 : decode cX10_move 17 = .ok (.invokestatic 36, 3) := by decide +kernel
theorem dX10_move_20 : decode cX10_move 20 = .ok (.return_, 1) := by decide +kernel
theorem dX10_cut_0 : decode cX10_cut 0 = .ok (.iload_n 0, 1) := by decide +kernel
theorem dX10_cut_1 : decode cX10_cut 1 = .ok (.tableswitch 41 0 2 #[27, 32, 37], 27) := by decide +kernel
theorem dX10_cut_28 : decode cX10_cut 28 = .ok (.lload_n 1, 1) := by decide +kernel
theorem dX10_cut_29 : decode cX10_cut 29 = .ok (.l2i, 1) := by decide +kernel
theorem dX10_cut_30 : decode cX10_cut 30 = .ok (.i2b, 1) := by decide +kernel
theorem dX10_cut_31 : decode cX10_cut 31 = .ok (.i2l, 1) := by decide +kernel
theorem dX10_cut_32 : decode cX10_cut 32 = .ok (.lreturn, 1) := by decide +kernel
theorem dX10_cut_33 : decode cX10_cut 33 = .ok (.lload_n 1, 1) := by decide +kernel
theorem dX10_cut_34 : decode cX10_cut 34 = .ok (.l2i, 1) := by decide +kernel
theorem dX10_cut_35 : decode cX10_cut 35 = .ok (.i2s, 1) := by decide +kernel
theorem dX10_cut_36 : decode cX10_cut 36 = .ok (.i2l, 1) := by decide +kernel
theorem dX10_cut_37 : decode cX10_cut 37 = .ok (.lreturn, 1) := by decide +kernel
theorem dX10_cut_38 : decode cX10_cut 38 = .ok (.lload_n 1, 1) := by decide +kernel
theorem dX10_cut_39 : decode cX10_cut 39 = .ok (.l2i, 1) := by decide +kernel
theorem dX10_cut_40 : decode cX10_cut 40 = .ok (.i2l, 1) := by decide +kernel
theorem dX10_cut_41 : decode cX10_cut 41 = .ok (.lreturn, 1) := by decide +kernel
theorem dX10_cut_42 : decode cX10_cut 42 = .ok (.lload_n 1, 1) := by decide +kernel
theorem dX10_cut_43 : decode cX10_cut 43 = .ok (.lreturn, 1) := by decide +kernel
