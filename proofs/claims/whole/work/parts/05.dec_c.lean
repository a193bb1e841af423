theorem dX12_init_0 : decode cX12_init 0 = .ok (.aload_n 0, 1) := by decide +kernel
theorem dX12_init_1 : decode cX12_init 1 = .ok (.invokespecial 1, 3) := by decide +kernel
theorem dX12_init_4 : decode cX12_init 4 = .ok (.aload_n 0, 1) := by decide +kernel
theorem dX12_init_5 : decode cX12_init 5 = .ok (.lconst 1, 1) := by decide +kernel
theorem dX12_init_6 : decode cX12_init 6 = .ok (.putfield 7, 3) := by decide +kernel
theorem dX12_init_9 : decode cX12_init 9 = .ok (.aload_n 0, 1) := by decide +kernel
theorem dX12_init_10 : decode cX12_init 10 = .ok (.iconst 4, 1) := by decide +kernel
theorem dX12_init_11 : decode cX12_init 11 = .ok (.newarray .int, 2) := by decide +kernel
theorem dX12_init_13 : decode cX12_init 13 = .ok (.putfield 13, 3) := by decide +kernel
theorem dX12_init_16 : decode cX12_init 16 = .ok (.aload_n 0, 1) := by decide +kernel
theorem dX12_init_17 : decode cX12_init 17 = .ok (.iconst 4, 1) := by decide +kernel
theorem dX12_init_18 : decode cX12_init 18 = .ok (.newarray .int, 2) := by decide +kernel
theorem dX12_init_20 : decode cX12_init 20 = .ok (.putfield 17, 3) := by decide +kernel
theorem dX12_init_23 : decode cX12_init 23 = .ok (.aload_n 0, 1) := by decide +kernel
theorem dX12_init_24 : decode cX12_init 24 = .ok (.sipush 240, 3) := by decide +kernel
theorem dX12_init_27 : decode cX12_init 27 = .ok (.newarray .long, 2) := by decide +kernel
theorem dX12_init_29 : decode cX12_init 29 = .ok (.putfield 20, 3) := by decide +kernel
theorem dX12_init_32 : decode cX12_init 32 = .ok (.aload_n 0, 1) := by decide +kernel
theorem dX12_init_33 : decode cX12_init 33 = .ok (.sipush 900, 3) := by decide +kernel
theorem dX12_init_36 : decode cX12_init 36 = .ok (.newarray .byte, 2) := by decide +kernel
theorem dX12_init_38 : decode cX12_init 38 = .ok (.putfield 24, 3) := by decide +kernel
theorem dX12_init_41 : decode cX12_init 41 = .ok (.aload_n 0, 1) := by decide +kernel
theorem dX12_init_42 : decode cX12_init 42 = .ok (.iconst (-1), 1) := by decide +kernel
theorem dX12_init_43 : decode cX12_init 43 = .ok (.putfield 28, 3) := by decide +kernel
theorem dX12_init_46 : decode cX12_init 46 = .ok (.aload_n 0, 1) := by decide +kernel
theorem dX12_init_47 : decode cX12_init 47 = .ok (.iconst (-1), 1) := by decide +kernel
theorem dX12_init_48 : decode cX12_init 48 = .ok (.putfield 32, 3) := by decide +kernel
theorem dX12_init_51 : decode cX12_init 51 = .ok (.aload_n 0, 1) := by decide +kernel
theorem dX12_init_52 : decode cX12_init 52 = .ok (.sipush 2105, 3) := by decide +kernel
theorem dX12_init_55 : decode cX12_init 55 = .ok (.newarray .int, 2) := by decide +kernel
theorem dX12_init_57 : decode cX12_init 57 = .ok (.putfield 35, 3) := by decide +kernel
theorem dX12_init_60 : decode cX12_init 60 = .ok (.aload_n 0, 1) := by decide +kernel
theorem dX12_init_61 : decode cX12_init 61 = .ok (.sipush 142, 3) := by decide +kernel
theorem dX12_init_64 : decode cX12_init 64 = .ok (.newarray .int, 2) := by decide +kernel
theorem dX12_init_66 : decode cX12_init 66 = .ok (.putfield 38, 3) := by decide +kernel
theorem dX12_init_69 : decode cX12_init 69 = .ok (.aload_n 0, 1) := by decide +kernel
theorem dX12_init_70 : decode cX12_init 70 = .ok (.bipush 120, 2) := by decide +kernel
theorem dX12_init_72 : decode cX12_init 72 = .ok (.newarray .long, 2) := by decide +kernel
theorem dX12_init_74 : decode cX12_init 74 = .ok (.putfield 41, 3) := by decide +kernel
theorem dX12_init_77 : decode cX12_init 77 = .ok (.aload_n 0, 1) := by decide +kernel
theorem dX12_init_78 : decode cX12_init 78 = .ok (.bipush 12, 2) := by decide +kernel
theorem dX12_init_80 : decode cX12_init 80 = .ok (.newarray .int, 2) := by decide +kernel
theorem dX12_init_82 : decode cX12_init 82 = .ok (.putfield 44, 3) := by decide +kernel
theorem dX12_init_85 : decode cX12_init 85 = .ok (.aload_n 0, 1) := by decide +kernel
theorem dX12_init_86 : decode cX12_init 86 = .ok (.bipush 12, 2) := by decide +kernel
theorem dX12_init_88 : decode cX12_init 88 = .ok (.newarray .int, 2) := by decide +kernel
theorem dX12_init_90 : decode cX12_init 90 = .ok (.putfield 47, 3) := by decide +kernel
theorem dX12_init_93 : decode cX12_init 93 = .ok (.aload_n 0, 1) := by decide +kernel
theorem dX12_init_94 : decode cX12_init 94 = .ok (.bipush 12, 2) := by decide +kernel
theorem dX12_init_96 : decode cX12_init 96 = .ok (.newarray .int, 2) := by decide +kernel
theorem dX12_init_98 : decode cX12_init 98 = .ok (.putfield 50, 3) := by decide +kernel
theorem dX12_init_101 : decode cX12_init 101 = .ok (.aload_n 0, 1) := by decide +kernel
theorem dX12_init_102 : decode cX12_init 102 = .ok (.bipush 6, 2) := by decide +kernel
theorem dX12_init_104 : decode cX12_init 104 = .ok (.newarray .int, 2) := by decide +kernel
theorem dX12_init_106 : decode cX12_init 106 = .ok (.putfield 53, 3) := by decide +kernel
theorem dX12_init_109 : decode cX12_init 109 = .ok (.aload_n 0, 1) := by decide +kernel
theorem dX12_init_110 : decode cX12_init 110 = .ok (.bipush 6, 2) := by decide +kernel
theorem dX12_init_112 : decode cX12_init 112 = .ok (.newarray .int, 2) := by decide +kernel
theorem dX12_init_114 : decode cX12_init 114 = .ok (.putfield 56, 3) := by decide +kernel
theorem dX12_init_117 : decode cX12_init 117 = .ok (.aload_n 0, 1) := by decide +kernel
theorem dX12_init_118 : decode cX12_init 118 = .ok (.bipush 12, 2) := by decide +kernel
theorem dX12_init_120 : decode cX12_init 120 = .ok (.newarray .int, 2) := by decide +kernel
theorem dX12_init_122 : decode cX12_init 122 = .ok (.putfield 59, 3) := by decide +kernel
theorem dX12_init_125 : decode cX12_init 125 = .ok (.aload_n 0, 1) := by decide +kernel
theorem dX12_init_126 : decode cX12_init 126 = .ok (.sipush 4096, 3) := by decide +kernel
theorem dX12_init_129 : decode cX12_init 129 = .ok (.newarray .int, 2) := by decide +kernel
theorem dX12_init_131 : decode cX12_init 131 = .ok (.putfield 62, 3) := by decide +kernel
theorem dX12_init_134 : decode cX12_init 134 = .ok (.aload_n 0, 1) := by decide +kernel
theorem dX12_init_135 : decode cX12_init 135 = .ok (.sipush 4096, 3) := by decide +kernel
theorem dX12_init_138 : decode cX12_init 138 = .ok (.newarray .long, 2) := by decide +kernel
theorem dX12_init_140 : decode cX12_init 140 = .ok (.putfield 65, 3) := by decide +kernel
theorem dX12_init_143 : decode cX12_init 143 = .ok (.aload_n 0, 1) := by decide +kernel
theorem dX12_init_144 : decode cX12_init 144 = .ok (.sipush 4096, 3) := by decide +kernel
theorem dX12_init_147 : decode cX12_init 147 = .ok (.newarray .int, 2) := by decide +kernel
theorem dX12_init_149 : decode cX12_init 149 = .ok (.putfield 68, 3) := by decide +kernel
theorem dX12_init_152 : decode cX12_init 152 = .ok (.aload_n 0, 1) := by decide +kernel
theorem dX12_init_153 : decode cX12_init 153 = .ok (.iconst 5, 1) := by decide +kernel
theorem dX12_init_154 : decode cX12_init 154 = .ok (.newarray .int, 2) := by decide +kernel
theorem dX12_init_156 : decode cX12_init 156 = .ok (.putfield 71, 3) := by decide +kernel
theorem dX12_init_159 : decode cX12_init 159 = .ok (.iconst 0, 1) := by decide +kernel
theorem dX12_init_160 : decode cX12_init 160 = .ok (.istore_n 1, 1) := by decide +kernel
theorem dX12_init_161 : decode cX12_init 161 = .ok (.iload_n 1, 1) := by decide +kernel
theorem dX12_init_162 : decode cX12_init 162 = .ok (.iconst 4, 1) := by decide +kernel
theorem dX12_init_163 : decode cX12_init 163 = .ok (.if_icmp .ge 16, 3) := by decide +kernel
theorem dX12_init_166 : decode cX12_init 166 = .ok (.aload_n 0, 1) := by decide +kernel
theorem dX12_init_167 : decode cX12_init 167 = .ok (.getfield 17, 3) := by decide +kernel
theorem dX12_init_170 : decode cX12_init 170 = .ok (.iload_n 1, 1) := by decide +kernel
theorem dX12_init_171 : decode cX12_init 171 = .ok (.iconst (-1), 1) := by decide +kernel
theorem dX12_init_172 : decode cX12_init 172 = .ok (.iastore, 1) := by decide +kernel
theorem dX12_init_173 : decode cX12_init 173 = .ok (.iinc 1 1, 3) := by decide +kernel
theorem dX12_init_176 : decode cX12_init 176 = .ok (.goto (-15), 3) := by decide +kernel
theorem dX12_init_179 : decode cX12_init 179 = .ok (.return_, 1) := by decide +kernel
theorem dX12_status_0 : decode cX12_status 0 = .ok (.aload_n 0, 1) := by decide +kernel
theorem dX12_status_1 : decode cX12_status 1 = .ok (.iconst 0, 1) := by decide +kernel
theorem dX12_status_2 : decode cX12_status 2 = .ok (.putfield 74, 3) := by decide +kernel
theorem dX12_status_5 : decode cX12_status 5 = .ok (.aload_n 0, 1) := by decide +kernel
theorem dX12_status_6 : decode cX12_status 6 = .ok (.getfield 77, 3) := by decide +kernel
theorem dX12_status_9 : decode cX12_status 9 = .ok (.ireturn, 1) := by decide +kernel
theorem dX12_top_0 : decode cX12_top 0 = .ok (.aload_n 0, 1) := by decide +kernel
theorem dX12_top_1 : decode cX12_top 1 = .ok (.iconst 0, 1) := by decide +kernel
theorem dX12_top_2 : decode cX12_top 2 = .ok (.putfield 74, 3) := by decide +kernel
theorem dX12_top_5 : decode cX12_top 5 = .ok (.aload_n 0, 1) := by decide +kernel
theorem dX12_top_6 : decode cX12_top 6 = .ok (.getfield 80, 3) := by decide +kernel
theorem dX12_top_9 : decode cX12_top 9 = .ok (.lreturn, 1) := by decide +kernel
theorem dX12_bottom_0 : decode cX12_bottom 0 = .ok (.aload_n 0, 1) := by decide +kernel
theorem dX12_bottom_1 : decode cX12_bottom 1 = .ok (.iconst 0, 1) := by decide +kernel
theorem dX12_bottom_2 : decode cX12_bottom 2 = .ok (.putfield 74, 3) := by decide +kernel
theorem dX12_bottom_5 : decode cX12_bottom 5 = .ok (.aload_n 0, 1) := by decide +kernel
theorem dX12_bottom_6 : decode cX12_bottom 6 = .ok (.getfield 7, 3) := by decide +kernel
theorem dX12_bottom_9 : decode cX12_bottom 9 = .ok (.lreturn, 1) := by decide +kernel
theorem dX12_refuse_0 : decode cX12_refuse 0 = .ok (.aload_n 0, 1) := by decide +kernel
theorem dX12_refuse_1 : decode cX12_refuse 1 = .ok (.iload_n 1, 1) := by decide +kernel
theorem dX12_refuse_2 : decode cX12_refuse 2 = .ok (.putfield 77, 3) := by decide +kernel
theorem dX12_refuse_5 : decode cX12_refuse 5 = .ok (.iconst (-1), 1) := by decide +kernel
theorem dX12_refuse_6 : decode cX12_refuse 6 = .ok (.ireturn, 1) := by decide +kernel
theorem dX12_no_0 : decode cX12_no 0 = .ok (.aload_n 0, 1) := by decide +kernel
theorem dX12_no_1 : decode cX12_no 1 = .ok (.iload_n 1, 1) := by decide +kernel
theorem dX12_no_2 : decode cX12_no 2 = .ok (.putfield 77, 3) := by decide +kernel
theorem dX12_no_5 : decode cX12_no 5 = .ok (.iconst 0, 1) := by decide +kernel
theorem dX12_no_6 : decode cX12_no 6 = .ok (.ireturn, 1) := by decide +kernel
theorem dX12_isIn_0 : decode cX12_isIn 0 = .ok (.lload_n 0, 1) := by decide +kernel
theorem dX12_isIn_1 : decode cX12_isIn 1 = .ok (.lload_n 2, 1) := by decide +kernel
theorem dX12_isIn_2 : decode cX12_isIn 2 = .ok (.lcmp, 1) := by decide +kernel
theorem dX12_isIn_3 : decode cX12_isIn 3 = .ok (.ifCond .lt 14, 3) := by decide +kernel
theorem dX12_isIn_6 : decode cX12_isIn 6 = .ok (.lload_n 0, 1) := by decide +kernel
theorem dX12_isIn_7 : decode cX12_isIn 7 = .ok (.lload 4, 2) := by decide +kernel
theorem dX12_isIn_9 : decode cX12_isIn 9 = .ok (.lcmp, 1) := by decide +kernel
theorem dX12_isIn_10 : decode cX12_isIn 10 = .ok (.ifCond .gt 7, 3) := by decide +kernel
theorem dX12_isIn_13 : decode cX12_isIn 13 = .ok (.iconst 1, 1) := by decide +kernel
theorem dX12_isIn_14 : decode cX12_isIn 14 = .ok (.goto 4, 3) := by decide +kernel
theorem dX12_isIn_17 : decode cX12_isIn 17 = .ok (.iconst 0, 1) := by decide +kernel
theorem dX12_isIn_18 : decode cX12_isIn 18 = .ok (.ireturn, 1) := by decide +kernel
theorem dX12_fraction_0 : decode cX12_fraction 0 = .ok (.lload_n 1, 1) := by decide +kernel
theorem dX12_fraction_1 : decode cX12_fraction 1 = .ok (.invokestatic 83, 3) := by decide +kernel
theorem dX12_fraction_4 : decode cX12_fraction 4 = .ok (.lstore 5, 2) := by decide +kernel
theorem dX12_fraction_6 : decode cX12_fraction 6 = .ok (.lload_n 3, 1) := by decide +kernel
theorem dX12_fraction_7 : decode cX12_fraction 7 = .ok (.lstore 7, 2) := by decide +kernel
theorem dX12_fraction_9 : decode cX12_fraction 9 = .ok (.lload 7, 2) := by decide +kernel
theorem dX12_fraction_11 : decode cX12_fraction 11 = .ok (.lconst 0, 1) := by decide +kernel
theorem dX12_fraction_12 : decode cX12_fraction 12 = .ok (.lcmp, 1) := by decide +kernel
theorem dX12_fraction_13 : decode cX12_fraction 13 = .ok (.ifCond .eq 21, 3) := by decide +kernel
theorem dX12_fraction_16 : decode cX12_fraction 16 = .ok (.lload 5, 2) := by decide +kernel
theorem dX12_fraction_18 : decode cX12_fraction 18 = .ok (.lload 7, 2) := by decide +kernel
theorem dX12_fraction_20 : decode cX12_fraction 20 = .ok (.lrem, 1) := by decide +kernel
theorem dX12_fraction_21 : decode cX12_fraction 21 = .ok (.lstore 9, 2) := by decide +kernel
theorem dX12_fraction_23 : decode cX12_fraction 23 = .ok (.lload 7, 2) := by decide +kernel
theorem dX12_fraction_25 : decode cX12_fraction 25 = .ok (.lstore 5, 2) := by decide +kernel
theorem dX12_fraction_27 : decode cX12_fraction 27 = .ok (.lload 9, 2) := by decide +kernel
theorem dX12_fraction_29 : decode cX12_fraction 29 = .ok (.lstore 7, 2) := by decide +kernel
theorem dX12_fraction_31 : decode cX12_fraction 31 = .ok (.goto (-22), 3) := by decide +kernel
theorem dX12_fraction_34 : decode cX12_fraction 34 = .ok (.aload_n 0, 1) := by decide +kernel
theorem dX12_fraction_35 : decode cX12_fraction 35 = .ok (.lload_n 1, 1) := by decide +kernel
theorem dX12_fraction_36 : decode cX12_fraction 36 = .ok (.lload 5, 2) := by decide +kernel
theorem dX12_fraction_38 : decode cX12_fraction 38 = .ok (.ldiv, 1) := by decide +kernel
theorem dX12_fraction_39 : decode cX12_fraction 39 = .ok (.putfield 80, 3) := by decide +kernel
theorem dX12_fraction_42 : decode cX12_fraction 42 = .ok (.aload_n 0, 1) := by decide +kernel
theorem dX12_fraction_43 : decode cX12_fraction 43 = .ok (.lload_n 3, 1) := by decide +kernel
theorem dX12_fraction_44 : decode cX12_fraction 44 = .ok (.lload 5, 2) := by decide +kernel
theorem dX12_fraction_46 : decode cX12_fraction 46 = .ok (.ldiv, 1) := by decide +kernel
theorem dX12_fraction_47 : decode cX12_fraction 47 = .ok (.putfield 7, 3) := by decide +kernel
theorem dX12_fraction_50 : decode cX12_fraction 50 = .ok (.iconst 1, 1) := by decide +kernel
theorem dX12_fraction_51 : decode cX12_fraction 51 = .ok (.ireturn, 1) := by decide +kernel
theorem dX12_cut_0 : decode cX12_cut 0 = .ok (.iload_n 0, 1) := by decide +kernel
theorem dX12_cut_1 : decode cX12_cut 1 = .ok (.ifCond .ne 10, 3) := by decide +kernel
theorem dX12_cut_4 : decode cX12_cut 4 = .ok (.lload_n 1, 1) := by decide +kernel
theorem dX12_cut_5 : decode cX12_cut 5 = .ok (.l2i, 1) := by decide +kernel
theorem dX12_cut_6 : decode cX12_cut 6 = .ok (.i2b, 1) := by decide +kernel
theorem dX12_cut_7 : decode cX12_cut 7 = .ok (.i2l, 1) := by decide +kernel
theorem dX12_cut_8 : decode cX12_cut 8 = .ok (.goto 27, 3) := by decide +kernel
theorem dX12_cut_11 : decode cX12_cut 11 = .ok (.iload_n 0, 1) := by decide +kernel
theorem dX12_cut_12 : decode cX12_cut 12 = .ok (.iconst 1, 1) := by decide +kernel
theorem dX12_cut_13 : decode cX12_cut 13 = .ok (.if_icmp .ne 10, 3) := by decide +kernel
theorem dX12_cut_16 : decode cX12_cut 16 = .ok (.lload_n 1, 1) := by decide +kernel
theorem dX12_cut_17 : decode cX12_cut 17 = .ok (.l2i, 1) := by decide +kernel
theorem dX12_cut_18 : decode cX12_cut 18 = .ok (.i2s, 1) := by decide +kernel
theorem dX12_cut_19 : decode cX12_cut 19 = .ok (.i2l, 1) := by decide +kernel
theorem dX12_cut_20 : decode cX12_cut 20 = .ok (.goto 15, 3) := by decide +kernel
theorem dX12_cut_23 : decode cX12_cut 23 = .ok (.iload_n 0, 1) := by decide +kernel
theorem dX12_cut_24 : decode cX12_cut 24 = .ok (.iconst 2, 1) := by decide +kernel
theorem dX12_cut_25 : decode cX12_cut 25 = .ok (.if_icmp .ne 9, 3) := by decide +kernel
theorem dX12_cut_28 : decode cX12_cut 28 = .ok (.lload_n 1, 1) := by decide +kernel
theorem dX12_cut_29 : decode cX12_cut 29 = .ok (.l2i, 1) := by decide +kernel
theorem dX12_cut_30 : decode cX12_cut 30 = .ok (.i2l, 1) := by decide +kernel
theorem dX12_cut_31 : decode cX12_cut 31 = .ok (.goto 4, 3) := by decide +kernel
theorem dX12_cut_34 : decode cX12_cut 34 = .ok (.lload_n 1, 1) := by decide +kernel
theorem dX12_cut_35 : decode cX12_cut 35 = .ok (.lreturn, 1) := by decide +kernel
theorem dX12_tray_0 : decode cX12_tray 0 = .ok (.aload_n 0, 1) := by decide +kernel
theorem dX12_tray_1 : decode cX12_tray 1 = .ok (.iconst 0, 1) := by decide +kernel
theorem dX12_tray_2 : decode cX12_tray 2 = .ok (.putfield 74, 3) := by decide +kernel
theorem dX12_tray_5 : decode cX12_tray 5 = .ok (.aload_n 0, 1) := by decide +kernel
theorem dX12_tray_6 : decode cX12_tray 6 = .ok (.iconst 0, 1) := by decide +kernel
theorem dX12_tray_7 : decode cX12_tray 7 = .ok (.putfield 77, 3) := by decide +kernel
theorem dX12_tray_10 : decode cX12_tray 10 = .ok (.iload_n 1, 1) := by decide +kernel
theorem dX12_tray_11 : decode cX12_tray 11 = .ok (.ifCond .lt 17, 3) := by decide +kernel
theorem dX12_tray_14 : decode cX12_tray 14 = .ok (.iload_n 1, 1) := by decide +kernel
theorem dX12_tray_15 : decode cX12_tray 15 = .ok (.iconst 4, 1) := by decide +kernel
theorem dX12_tray_16 : decode cX12_tray 16 = .ok (.if_icmp .ge 12, 3) := by decide +kernel
theorem dX12_tray_19 : decode cX12_tray 19 = .ok (.iload_n 2, 1) := by decide +kernel
theorem dX12_tray_20 : decode cX12_tray 20 = .ok (.ifCond .lt 8, 3) := by decide +kernel
theorem dX12_tray_23 : decode cX12_tray 23 = .ok (.iload_n 2, 1) := by decide +kernel
theorem dX12_tray_24 : decode cX12_tray 24 = .ok (.iconst 3, 1) := by decide +kernel
theorem dX12_tray_25 : decode cX12_tray 25 = .ok (.if_icmp .le 9, 3) := by decide +kernel
theorem dX12_tray_28 : decode cX12_tray 28 = .ok (.aload_n 0, 1) := by decide +kernel
theorem dX12_tray_29 : decode cX12_tray 29 = .ok (.iconst 1, 1) := by decide +kernel
theorem dX12_tray_30 : decode cX12_tray 30 = .ok (.invokevirtual 89, 3) := by decide +kernel
theorem dX12_tray_33 : decode cX12_tray 33 = .ok (.ireturn, 1) := by decide +kernel
theorem dX12_tray_34 : decode cX12_tray 34 = .ok (.iload_n 3, 1) := by decide +kernel
theorem dX12_tray_35 : decode cX12_tray 35 = .ok (.bipush 60, 2) := by decide +kernel
theorem dX12_tray_37 : decode cX12_tray 37 = .ok (.if_icmp .le 9, 3) := by decide +kernel
theorem dX12_tray_40 : decode cX12_tray 40 = .ok (.aload_n 0, 1) := by decide +kernel
theorem dX12_tray_41 : decode cX12_tray 41 = .ok (.iconst 5, 1) := by decide +kernel
theorem dX12_tray_42 : decode cX12_tray 42 = .ok (.invokevirtual 89, 3) := by decide +kernel
theorem dX12_tray_45 : decode cX12_tray 45 = .ok (.ireturn, 1) := by decide +kernel
theorem dX12_tray_46 : decode cX12_tray 46 = .ok (.iload_n 3, 1) := by decide +kernel
theorem dX12_tray_47 : decode cX12_tray 47 = .ok (.ifCond .ge 10, 3) := by decide +kernel
theorem dX12_tray_50 : decode cX12_tray 50 = .ok (.aload_n 0, 1) := by decide +kernel
theorem dX12_tray_51 : decode cX12_tray 51 = .ok (.bipush 6, 2) := by decide +kernel
theorem dX12_tray_53 : decode cX12_tray 53 = .ok (.invokevirtual 89, 3) := by decide +kernel
theorem dX12_tray_56 : decode cX12_tray 56 = .ok (.ireturn, 1) := by decide +kernel
theorem dX12_tray_57 : decode cX12_tray 57 = .ok (.aload_n 0, 1) := by decide +kernel
theorem dX12_tray_58 : decode cX12_tray 58 = .ok (.getfield 13, 3) := by decide +kernel
theorem dX12_tray_61 : decode cX12_tray 61 = .ok (.iload_n 1, 1) := by decide +kernel
theorem dX12_tray_62 : decode cX12_tray 62 = .ok (.iload_n 2, 1) := by decide +kernel
theorem dX12_tray_63 : decode cX12_tray 63 = .ok (.iastore, 1) := by decide +kernel
theorem dX12_tray_64 : decode cX12_tray 64 = .ok (.aload_n 0, 1) := by decide +kernel
theorem dX12_tray_65 : decode cX12_tray 65 = .ok (.getfield 17, 3) := by decide +kernel
theorem dX12_tray_68 : decode cX12_tray 68 = .ok (.iload_n 1, 1) := by decide +kernel
theorem dX12_tray_69 : decode cX12_tray 69 = .ok (.iload_n 3, 1) := by decide +kernel
theorem dX12_tray_70 : decode cX12_tray 70 = .ok (.iastore, 1) := by decide +kernel
theorem dX12_tray_71 : decode cX12_tray 71 = .ok (.iconst 0, 1) := by decide +kernel
theorem dX12_tray_72 : decode cX12_tray 72 = .ok (.istore 4, 2) := by decide +kernel
theorem dX12_tray_74 : decode cX12_tray 74 = .ok (.iload 4, 2) := by decide +kernel
theorem dX12_tray_76 : decode cX12_tray 76 = .ok (.iload_n 3, 1) := by decide +kernel
theorem dX12_tray_77 : decode cX12_tray 77 = .ok (.if_icmp .ge 22, 3) := by decide +kernel
theorem dX12_tray_80 : decode cX12_tray 80 = .ok (.aload_n 0, 1) := by decide +kernel
theorem dX12_tray_81 : decode cX12_tray 81 = .ok (.getfield 20, 3) := by decide +kernel
theorem dX12_tray_84 : decode cX12_tray 84 = .ok (.bipush 60, 2) := by decide +kernel
theorem dX12_tray_86 : decode cX12_tray 86 = .ok (.iload_n 1, 1) := by decide +kernel
theorem dX12_tray_87 : decode cX12_tray 87 = .ok (.imul, 1) := by decide +kernel
theorem dX12_tray_88 : decode cX12_tray 88 = .ok (.iload 4, 2) := by decide +kernel
theorem dX12_tray_90 : decode cX12_tray 90 = .ok (.iadd, 1) := by decide +kernel
theorem dX12_tray_91 : decode cX12_tray 91 = .ok (.lconst 0, 1) := by decide +kernel
theorem dX12_tray_92 : decode cX12_tray 92 = .ok (.lastore, 1) := by decide +kernel
theorem dX12_tray_93 : decode cX12_tray 93 = .ok (.iinc 4 1, 3) := by decide +kernel
theorem dX12_tray_96 : decode cX12_tray 96 = .ok (.goto (-22), 3) := by decide +kernel
theorem dX12_tray_99 : decode cX12_tray 99 = .ok (.iconst 1, 1) := by decide +kernel
theorem dX12_tray_100 : decode cX12_tray 100 = .ok (.ireturn, 1) := by decide +kernel
theorem dX12_trayed_0 : decode cX12_trayed 0 = .ok (.iload_n 1, 1) := by decide +kernel
theorem dX12_trayed_1 : decode cX12_trayed 1 = .ok (.ifCond .lt 8, 3) := by decide +kernel
theorem dX12_trayed_4 : decode cX12_trayed 4 = .ok (.iload_n 1, 1) := by decide +kernel
theorem dX12_trayed_5 : decode cX12_trayed 5 = .ok (.iconst 4, 1) := by decide +kernel
theorem dX12_trayed_6 : decode cX12_trayed 6 = .ok (.if_icmp .lt 7, 3) := by decide +kernel
theorem dX12_trayed_9 : decode cX12_trayed 9 = .ok (.iconst 1, 1) := by decide +kernel
theorem dX12_trayed_10 : decode cX12_trayed 10 = .ok (.goto 17, 3) := by decide +kernel
theorem dX12_trayed_13 : decode cX12_trayed 13 = .ok (.aload_n 0, 1) := by decide +kernel
theorem dX12_trayed_14 : decode cX12_trayed 14 = .ok (.getfield 17, 3) := by decide +kernel
theorem dX12_trayed_17 : decode cX12_trayed 17 = .ok (.iload_n 1, 1) := by decide +kernel
theorem dX12_trayed_18 : decode cX12_trayed 18 = .ok (.iaload, 1) := by decide +kernel
theorem dX12_trayed_19 : decode cX12_trayed 19 = .ok (.ifCond .ge 7, 3) := by decide +kernel
theorem dX12_trayed_22 : decode cX12_trayed 22 = .ok (.iconst 3, 1) := by decide +kernel
theorem dX12_trayed_23 : decode cX12_trayed 23 = .ok (.goto 4, 3) := by decide +kernel
theorem dX12_trayed_26 : decode cX12_trayed 26 = .ok (.iconst 0, 1) := by decide +kernel
theorem dX12_trayed_27 : decode cX12_trayed 27 = .ok (.ireturn, 1) := by decide +kernel
theorem dX12_placed_0 : decode cX12_placed 0 = .ok (.aload_n 0, 1) := by decide +kernel
theorem dX12_placed_1 : decode cX12_placed 1 = .ok (.iload_n 1, 1) := by decide +kernel
theorem dX12_placed_2 : decode cX12_placed 2 = .ok (.invokevirtual 93, 3) := by decide +kernel
theorem dX12_placed_5 : decode cX12_placed 5 = .ok (.istore_n 3, 1) := by decide +kernel
theorem dX12_placed_6 : decode cX12_placed 6 = .ok (.iload_n 3, 1) := by decide +kernel
theorem dX12_placed_7 : decode cX12_placed 7 = .ok (.ifCond .le 7, 3) := by decide +kernel
theorem dX12_placed_10 : decode cX12_placed 10 = .ok (.iload_n 3, 1) := by decide +kernel
theorem dX12_placed_11 : decode cX12_placed 11 = .ok (.goto 22, 3) := by decide +kernel
theorem dX12_placed_14 : decode cX12_placed 14 = .ok (.iload_n 2, 1) := by decide +kernel
theorem dX12_placed_15 : decode cX12_placed 15 = .ok (.ifCond .lt 13, 3) := by decide +kernel
theorem dX12_placed_18 : decode cX12_placed 18 = .ok (.iload_n 2, 1) := by decide +kernel
theorem dX12_placed_19 : decode cX12_placed 19 = .ok (.aload_n 0, 1) := by decide +kernel
theorem dX12_placed_20 : decode cX12_placed 20 = .ok (.getfield 17, 3) := by decide +kernel
theorem dX12_placed_23 : decode cX12_placed 23 = .ok (.iload_n 1, 1) := by decide +kernel
theorem dX12_placed_24 : decode cX12_placed 24 = .ok (.iaload, 1) := by decide +kernel
theorem dX12_placed_25 : decode cX12_placed 25 = .ok (.if_icmp .lt 7, 3) := by decide +kernel
theorem dX12_placed_28 : decode cX12_placed 28 = .ok (.iconst 4, 1) := by decide +kernel
theorem dX12_placed_29 : decode cX12_placed 29 = .ok (.goto 4, 3) := by decide +kernel
theorem dX12_placed_32 : decode cX12_placed 32 = .ok (.iconst 0, 1) := by decide +kernel
theorem dX12_placed_33 : decode cX12_placed 33 = .ok (.ireturn, 1) := by decide +kernel
theorem dX12_write_0 : decode cX12_write 0 = .ok (.aload_n 0, 1) := by decide +kernel
theorem dX12_write_1 : decode cX12_write 1 = .ok (.iconst 0, 1) := by decide +kernel
theorem dX12_write_2 : decode cX12_write 2 = .ok (.putfield 74, 3) := by decide +kernel
theorem dX12_write_5 : decode cX12_write 5 = .ok (.aload_n 0, 1) := by decide +kernel
theorem dX12_write_6 : decode cX12_write 6 = .ok (.aload_n 0, 1) := by decide +kernel
theorem dX12_write_7 : decode cX12_write 7 = .ok (.iload_n 1, 1) := by decide +kernel
theorem dX12_write_8 : decode cX12_write 8 = .ok (.iload_n 2, 1) := by decide +kernel
theorem dX12_write_9 : decode cX12_write 9 = .ok (.invokevirtual 97, 3) := by decide +kernel
theorem dX12_write_12 : decode cX12_write 12 = .ok (.putfield 77, 3) := by decide +kernel
theorem dX12_write_15 : decode cX12_write 15 = .ok (.aload_n 0, 1) := by decide +kernel
theorem dX12_write_16 : decode cX12_write 16 = .ok (.getfield 77, 3) := by decide +kernel
theorem dX12_write_19 : decode cX12_write 19 = .ok (.ifCond .le 5, 3) := by decide +kernel
theorem dX12_write_22 : decode cX12_write 22 = .ok (.iconst 0, 1) := by decide +kernel
theorem dX12_write_23 : decode cX12_write 23 = .ok (.ireturn, 1) := by decide +kernel
theorem dX12_write_24 : decode cX12_write 24 = .ok (.aload_n 0, 1) := by decide +kernel
theorem dX12_write_25 : decode cX12_write 25 = .ok (.getfield 20, 3) := by decide +kernel
theorem dX12_write_28 : decode cX12_write 28 = .ok (.bipush 60, 2) := by decide +kernel
theorem dX12_write_30 : decode cX12_write 30 = .ok (.iload_n 1, 1) := by decide +kernel
theorem dX12_write_31 : decode cX12_write 31 = .ok (.imul, 1) := by decide +kernel
theorem dX12_write_32 : decode cX12_write 32 = .ok (.iload_n 2, 1) := by decide +kernel
theorem dX12_write_33 : decode cX12_write 33 = .ok (.iadd, 1) := by decide +kernel
theorem dX12_write_34 : decode cX12_write 34 = .ok (.aload_n 0, 1) := by decide +kernel
theorem dX12_write_35 : decode cX12_write 35 = .ok (.getfield 13, 3) := by decide +kernel
theorem dX12_write_38 : decode cX12_write 38 = .ok (.iload_n 1, 1) := by decide +kernel
theorem dX12_write_39 : decode cX12_write 39 = .ok (.iaload, 1) := by decide +kernel
theorem dX12_write_40 : decode cX12_write 40 = .ok (.lload_n 3, 1) := by decide +kernel
theorem dX12_write_41 : decode cX12_write 41 = .ok (.invokestatic 101, 3) := by decide +kernel
theorem dX12_write_44 : decode cX12_write 44 = .ok (.lastore, 1) := by decide +kernel
theorem dX12_write_45 : decode cX12_write 45 = .ok (.iconst 1, 1) := by decide +kernel
theorem dX12_write_46 : decode cX12_write 46 = .ok (.ireturn, 1) := by decide +kernel
theorem dX12_read_0 : decode cX12_read 0 = .ok (.aload_n 0, 1) := by decide +kernel
theorem dX12_read_1 : decode cX12_read 1 = .ok (.iconst 0, 1) := by decide +kernel
theorem dX12_read_2 : decode cX12_read 2 = .ok (.putfield 74, 3) := by decide +kernel
theorem dX12_read_5 : decode cX12_read 5 = .ok (.aload_n 0, 1) := by decide +kernel
theorem dX12_read_6 : decode cX12_read 6 = .ok (.aload_n 0, 1) := by decide +kernel
theorem dX12_read_7 : decode cX12_read 7 = .ok (.iload_n 1, 1) := by decide +kernel
theorem dX12_read_8 : decode cX12_read 8 = .ok (.iload_n 2, 1) := by decide +kernel
theorem dX12_read_9 : decode cX12_read 9 = .ok (.invokevirtual 97, 3) := by decide +kernel
theorem dX12_read_12 : decode cX12_read 12 = .ok (.putfield 77, 3) := by decide +kernel
theorem dX12_read_15 : decode cX12_read 15 = .ok (.aload_n 0, 1) := by decide +kernel
theorem dX12_read_16 : decode cX12_read 16 = .ok (.getfield 77, 3) := by decide +kernel
theorem dX12_read_19 : decode cX12_read 19 = .ok (.ifCond .le 9, 3) := by decide +kernel
theorem dX12_read_22 : decode cX12_read 22 = .ok (.ldc2_w 105, 3) := by decide +kernel
theorem dX12_read_25 : decode cX12_read 25 = .ok (.goto 14, 3) := by decide +kernel
theorem dX12_read_28 : decode cX12_read 28 = .ok (.aload_n 0, 1) := by decide +kernel
theorem dX12_read_29 : decode cX12_read 29 = .ok (.getfield 20, 3) := by decide +kernel
theorem dX12_read_32 : decode cX12_read 32 = .ok (.bipush 60, 2) := by decide +kernel
theorem dX12_read_34 : decode cX12_read 34 = .ok (.iload_n 1, 1) := by decide +kernel
theorem dX12_read_35 : decode cX12_read 35 = .ok (.imul, 1) := by decide +kernel
theorem dX12_read_36 : decode cX12_read 36 = .ok (.iload_n 2, 1) := by decide +kernel
theorem dX12_read_37 : decode cX12_read 37 = .ok (.iadd, 1) := by decide +kernel
theorem dX12_read_38 : decode cX12_read 38 = .ok (.laload, 1) := by decide +kernel
theorem dX12_read_39 : decode cX12_read 39 = .ok (.lreturn, 1) := by decide +kernel
theorem dX12_pour_0 : decode cX12_pour 0 = .ok (.aload_n 0, 1) := by decide +kernel
theorem dX12_pour_1 : decode cX12_pour 1 = .ok (.iconst 0, 1) := by decide +kernel
theorem dX12_pour_2 : decode cX12_pour 2 = .ok (.putfield 74, 3) := by decide +kernel
theorem dX12_pour_5 : decode cX12_pour 5 = .ok (.aload_n 0, 1) := by decide +kernel
theorem dX12_pour_6 : decode cX12_pour 6 = .ok (.iconst 0, 1) := by decide +kernel
theorem dX12_pour_7 : decode cX12_pour 7 = .ok (.putfield 77, 3) := by decide +kernel
theorem dX12_pour_10 : decode cX12_pour 10 = .ok (.iload_n 1, 1) := by decide +kernel
theorem dX12_pour_11 : decode cX12_pour 11 = .ok (.ifCond .lt 17, 3) := by decide +kernel
theorem dX12_pour_14 : decode cX12_pour 14 = .ok (.iload_n 1, 1) := by decide +kernel
theorem dX12_pour_15 : decode cX12_pour 15 = .ok (.iconst 4, 1) := by decide +kernel
theorem dX12_pour_16 : decode cX12_pour 16 = .ok (.if_icmp .ge 12, 3) := by decide +kernel
theorem dX12_pour_19 : decode cX12_pour 19 = .ok (.iload_n 3, 1) := by decide +kernel
theorem dX12_pour_20 : decode cX12_pour 20 = .ok (.ifCond .lt 8, 3) := by decide +kernel
theorem dX12_pour_23 : decode cX12_pour 23 = .ok (.iload_n 3, 1) := by decide +kernel
theorem dX12_pour_24 : decode cX12_pour 24 = .ok (.iconst 4, 1) := by decide +kernel
theorem dX12_pour_25 : decode cX12_pour 25 = .ok (.if_icmp .lt 9, 3) := by decide +kernel
theorem dX12_pour_28 : decode cX12_pour 28 = .ok (.aload_n 0, 1) := by decide +kernel
theorem dX12_pour_29 : decode cX12_pour 29 = .ok (.iconst 1, 1) := by decide +kernel
theorem dX12_pour_30 : decode cX12_pour 30 = .ok (.invokevirtual 89, 3) := by decide +kernel
theorem dX12_pour_33 : decode cX12_pour 33 = .ok (.ireturn, 1) := by decide +kernel
theorem dX12_pour_34 : decode cX12_pour 34 = .ok (.aload_n 0, 1) := by decide +kernel
theorem dX12_pour_35 : decode cX12_pour 35 = .ok (.getfield 17, 3) := by decide +kernel
theorem dX12_pour_38 : decode cX12_pour 38 = .ok (.iload_n 1, 1) := by decide +kernel
theorem dX12_pour_39 : decode cX12_pour 39 = .ok (.iaload, 1) := by decide +kernel
theorem dX12_pour_40 : decode cX12_pour 40 = .ok (.ifCond .lt 12, 3) := by decide +kernel
theorem dX12_pour_43 : decode cX12_pour 43 = .ok (.aload_n 0, 1) := by decide +kernel
theorem dX12_pour_44 : decode cX12_pour 44 = .ok (.getfield 17, 3) := by decide +kernel
theorem dX12_pour_47 : decode cX12_pour 47 = .ok (.iload_n 3, 1) := by decide +kernel
theorem dX12_pour_48 : decode cX12_pour 48 = .ok (.iaload, 1) := by decide +kernel
theorem dX12_pour_49 : decode cX12_pour 49 = .ok (.ifCond .ge 9, 3) := by decide +kernel
theorem dX12_pour_52 : decode cX12_pour 52 = .ok (.aload_n 0, 1) := by decide +kernel
theorem dX12_pour_53 : decode cX12_pour 53 = .ok (.iconst 3, 1) := by decide +kernel
theorem dX12_pour_54 : decode cX12_pour 54 = .ok (.invokevirtual 89, 3) := by decide +kernel
theorem dX12_pour_57 : decode cX12_pour 57 = .ok (.ireturn, 1) := by decide +kernel
theorem dX12_pour_58 : decode cX12_pour 58 = .ok (.aload_n 0, 1) := by decide +kernel
theorem dX12_pour_59 : decode cX12_pour 59 = .ok (.getfield 13, 3) := by decide +kernel
theorem dX12_pour_62 : decode cX12_pour 62 = .ok (.iload_n 1, 1) := by decide +kernel
theorem dX12_pour_63 : decode cX12_pour 63 = .ok (.iaload, 1) := by decide +kernel
theorem dX12_pour_64 : decode cX12_pour 64 = .ok (.aload_n 0, 1) := by decide +kernel
theorem dX12_pour_65 : decode cX12_pour 65 = .ok (.getfield 13, 3) := by decide +kernel
theorem dX12_pour_68 : decode cX12_pour 68 = .ok (.iload_n 3, 1) := by decide +kernel
theorem dX12_pour_69 : decode cX12_pour 69 = .ok (.iaload, 1) := by decide +kernel
theorem dX12_pour_70 : decode cX12_pour 70 = .ok (.if_icmp .eq 10, 3) := by decide +kernel
theorem dX12_pour_73 : decode cX12_pour 73 = .ok (.aload_n 0, 1) := by decide +kernel
theorem dX12_pour_74 : decode cX12_pour 74 = .ok (.bipush 11, 2) := by decide +kernel
theorem dX12_pour_76 : decode cX12_pour 76 = .ok (.invokevirtual 89, 3) := by decide +kernel
theorem dX12_pour_79 : decode cX12_pour 79 = .ok (.ireturn, 1) := by decide +kernel
theorem dX12_pour_80 : decode cX12_pour 80 = .ok (.iload 5, 2) := by decide +kernel
theorem dX12_pour_82 : decode cX12_pour 82 = .ok (.ifCond .ge 10, 3) := by decide +kernel
theorem dX12_pour_85 : decode cX12_pour 85 = .ok (.aload_n 0, 1) := by decide +kernel
theorem dX12_pour_86 : decode cX12_pour 86 = .ok (.bipush 6, 2) := by decide +kernel
theorem dX12_pour_88 : decode cX12_pour 88 = .ok (.invokevirtual 89, 3) := by decide +kernel
theorem dX12_pour_91 : decode cX12_pour 91 = .ok (.ireturn, 1) := by decide +kernel
theorem dX12_pour_92 : decode cX12_pour 92 = .ok (.iload_n 2, 1) := by decide +kernel
theorem dX12_pour_93 : decode cX12_pour 93 = .ok (.ifCond .lt 43, 3) := by decide +kernel
theorem dX12_pour_96 : decode cX12_pour 96 = .ok (.iload 4, 2) := by decide +kernel
theorem dX12_pour_98 : decode cX12_pour 98 = .ok (.ifCond .lt 38, 3) := by decide +kernel
theorem dX12_pour_101 : decode cX12_pour 101 = .ok (.iload_n 2, 1) := by decide +kernel
theorem dX12_pour_102 : decode cX12_pour 102 = .ok (.i2l, 1) := by decide +kernel
theorem dX12_pour_103 : decode cX12_pour 103 = .ok (.iload 5, 2) := by decide +kernel
theorem dX12_pour_105 : decode cX12_pour 105 = .ok (.i2l, 1) := by decide +kernel
theorem dX12_pour_106 : decode cX12_pour 106 = .ok (.ladd, 1) := by decide +kernel
theorem dX12_pour_107 : decode cX12_pour 107 = .ok (.aload_n 0, 1) := by decide +kernel
theorem dX12_pour_108 : decode cX12_pour 108 = .ok (.getfield 17, 3) := by decide +kernel
theorem dX12_pour_111 : decode cX12_pour 111 = .ok (.iload_n 1, 1) := by decide +kernel
theorem dX12_pour_112 : decode cX12_pour 112 = .ok (.iaload, 1) := by decide +kernel
theorem dX12_pour_113 : decode cX12_pour 113 = .ok (.i2l, 1) := by decide +kernel
theorem dX12_pour_114 : decode cX12_pour 114 = .ok (.lcmp, 1) := by decide +kernel
theorem dX12_pour_115 : decode cX12_pour 115 = .ok (.ifCond .gt 21, 3) := by decide +kernel
theorem dX12_pour_118 : decode cX12_pour 118 = .ok (.iload 4, 2) := by decide +kernel
theorem dX12_pour_120 : decode cX12_pour 120 = .ok (.i2l, 1) := by decide +kernel
theorem dX12_pour_121 : decode cX12_pour 121 = .ok (.iload 5, 2) := by decide +kernel
theorem dX12_pour_123 : decode cX12_pour 123 = .ok (.i2l, 1) := by decide +kernel
theorem dX12_pour_124 : decode cX12_pour 124 = .ok (.ladd, 1) := by decide +kernel
theorem dX12_pour_125 : decode cX12_pour 125 = .ok (.aload_n 0, 1) := by decide +kernel
theorem dX12_pour_126 : decode cX12_pour 126 = .ok (.getfield 17, 3) := by decide +kernel
theorem dX12_pour_129 : decode cX12_pour 129 = .ok (.iload_n 3, 1) := by decide +kernel
theorem dX12_pour_130 : decode cX12_pour 130 = .ok (.iaload, 1) := by decide +kernel
theorem dX12_pour_131 : decode cX12_pour 131 = .ok (.i2l, 1) := by decide +kernel
theorem dX12_pour_132 : decode cX12_pour 132 = .ok (.lcmp, 1) := by decide +kernel
theorem dX12_pour_133 : decode cX12_pour 133 = .ok (.ifCond .le 9, 3) := by decide +kernel
theorem dX12_pour_136 : decode cX12_pour 136 = .ok (.aload_n 0, 1) := by decide +kernel
theorem dX12_pour_137 : decode cX12_pour 137 = .ok (.iconst 4, 1) := by decide +kernel
theorem dX12_pour_138 : decode cX12_pour 138 = .ok (.invokevirtual 89, 3) := by decide +kernel
theorem dX12_pour_141 : decode cX12_pour 141 = .ok (.ireturn, 1) := by decide +kernel
theorem dX12_pour_142 : decode cX12_pour 142 = .ok (.iload_n 2, 1) := by decide +kernel
theorem dX12_pour_143 : decode cX12_pour 143 = .ok (.iload 4, 2) := by decide +kernel
theorem dX12_pour_145 : decode cX12_pour 145 = .ok (.if_icmp .ge 7, 3) := by decide +kernel
theorem dX12_pour_148 : decode cX12_pour 148 = .ok (.iconst 1, 1) := by decide +kernel
theorem dX12_pour_149 : decode cX12_pour 149 = .ok (.goto 4, 3) := by decide +kernel
theorem dX12_pour_152 : decode cX12_pour 152 = .ok (.iconst 0, 1) := by decide +kernel
theorem dX12_pour_153 : decode cX12_pour 153 = .ok (.istore 6, 2) := by decide +kernel
theorem dX12_pour_155 : decode cX12_pour 155 = .ok (.iconst 0, 1) := by decide +kernel
theorem dX12_pour_156 : decode cX12_pour 156 = .ok (.istore 7, 2) := by decide +kernel
theorem dX12_pour_158 : decode cX12_pour 158 = .ok (.iload 7, 2) := by decide +kernel
theorem dX12_pour_160 : decode cX12_pour 160 = .ok (.iload 5, 2) := by decide +kernel
theorem dX12_pour_162 : decode cX12_pour 162 = .ok (.if_icmp .ge 57, 3) := by decide +kernel
theorem dX12_pour_165 : decode cX12_pour 165 = .ok (.iload 6, 2) := by decide +kernel
theorem dX12_pour_167 : decode cX12_pour 167 = .ok (.ifCond .eq 13, 3) := by decide +kernel
theorem dX12_pour_170 : decode cX12_pour 170 = .ok (.iload 5, 2) := by decide +kernel
theorem dX12_pour_172 : decode cX12_pour 172 = .ok (.iconst 1, 1) := by decide +kernel
theorem dX12_pour_173 : decode cX12_pour 173 = .ok (.isub, 1) := by decide +kernel
theorem dX12_pour_174 : decode cX12_pour 174 = .ok (.iload 7, 2) := by decide +kernel
theorem dX12_pour_176 : decode cX12_pour 176 = .ok (.isub, 1) := by decide +kernel
theorem dX12_pour_177 : decode cX12_pour 177 = .ok (.goto 5, 3) := by decide +kernel
theorem dX12_pour_180 : decode cX12_pour 180 = .ok (.iload 7, 2) := by decide +kernel
theorem dX12_pour_182 : decode cX12_pour 182 = .ok (.istore 8, 2) := by decide +kernel
theorem dX12_pour_184 : decode cX12_pour 184 = .ok (.aload_n 0, 1) := by decide +kernel
theorem dX12_pour_185 : decode cX12_pour 185 = .ok (.getfield 20, 3) := by decide +kernel
theorem dX12_pour_188 : decode cX12_pour 188 = .ok (.bipush 60, 2) := by decide +kernel
theorem dX12_pour_190 : decode cX12_pour 190 = .ok (.iload_n 3, 1) := by decide +kernel
theorem dX12_pour_191 : decode cX12_pour 191 = .ok (.imul, 1) := by decide +kernel
theorem dX12_pour_192 : decode cX12_pour 192 = .ok (.iload 4, 2) := by decide +kernel
theorem dX12_pour_194 : decode cX12_pour 194 = .ok (.iadd, 1) := by decide +kernel
theorem dX12_pour_195 : decode cX12_pour 195 = .ok (.iload 8, 2) := by decide +kernel
theorem dX12_pour_197 : decode cX12_pour 197 = .ok (.iadd, 1) := by decide +kernel
theorem dX12_pour_198 : decode cX12_pour 198 = .ok (.aload_n 0, 1) := by decide +kernel
theorem dX12_pour_199 : decode cX12_pour 199 = .ok (.getfield 20, 3) := by decide +kernel
theorem dX12_pour_202 : decode cX12_pour 202 = .ok (.bipush 60, 2) := by decide +kernel
theorem dX12_pour_204 : decode cX12_pour 204 = .ok (.iload_n 1, 1) := by decide +kernel
theorem dX12_pour_205 : decode cX12_pour 205 = .ok (.imul, 1) := by decide +kernel
theorem dX12_pour_206 : decode cX12_pour 206 = .ok (.iload_n 2, 1) := by decide +kernel
theorem dX12_pour_207 : decode cX12_pour 207 = .ok (.iadd, 1) := by decide +kernel
theorem dX12_pour_208 : decode cX12_pour 208 = .ok (.iload 8, 2) := by decide +kernel
theorem dX12_pour_210 : decode cX12_pour 210 = .ok (.iadd, 1) := by decide +kernel
theorem dX12_pour_211 : decode cX12_pour 211 = .ok (.laload, 1) := by decide +kernel
theorem dX12_pour_212 : decode cX12_pour 212 = .ok (.lastore, 1) := by decide +kernel
theorem dX12_pour_213 : decode cX12_pour 213 = .ok (.iinc 7 1, 3) := by decide +kernel
theorem dX12_pour_216 : decode cX12_pour 216 = .ok (.goto (-58), 3) := by decide +kernel
theorem dX12_pour_219 : decode cX12_pour 219 = .ok (.iconst 1, 1) := by decide +kernel
theorem dX12_pour_220 : decode cX12_pour 220 = .ok (.ireturn, 1) := by decide +kernel
theorem dX12_isTray_0 : decode cX12_isTray 0 = .ok (.iload_n 1, 1) := by decide +kernel
theorem dX12_isTray_1 : decode cX12_isTray 1 = .ok (.i2l, 1) := by decide +kernel
theorem dX12_isTray_2 : decode cX12_isTray 2 = .ok (.lconst 0, 1) := by decide +kernel
theorem dX12_isTray_3 : decode cX12_isTray 3 = .ok (.ldc2_w 107, 3) := by decide +kernel
theorem dX12_isTray_6 : decode cX12_isTray 6 = .ok (.invokestatic 109, 3) := by decide +kernel
theorem dX12_isTray_9 : decode cX12_isTray 9 = .ok (.ireturn, 1) := by decide +kernel
theorem dX12_has_0 : decode cX12_has 0 = .ok (.iload_n 0, 1) := by decide +kernel
theorem dX12_has_1 : decode cX12_has 1 = .ok (.iload_n 1, 1) := by decide +kernel
theorem dX12_has_2 : decode cX12_has 2 = .ok (.ishr, 1) := by decide +kernel
theorem dX12_has_3 : decode cX12_has 3 = .ok (.iconst 1, 1) := by decide +kernel
theorem dX12_has_4 : decode cX12_has 4 = .ok (.iand, 1) := by decide +kernel
theorem dX12_has_5 : decode cX12_has 5 = .ok (.iconst 1, 1) := by decide +kernel
theorem dX12_has_6 : decode cX12_has 6 = .ok (.if_icmp .ne 7, 3) := by decide +kernel
theorem dX12_has_9 : decode cX12_has 9 = .ok (.iconst 1, 1) := by decide +kernel
theorem dX12_has_10 : decode cX12_has 10 = .ok (.goto 4, 3) := by decide +kernel
theorem dX12_has_13 : decode cX12_has 13 = .ok (.iconst 0, 1) := by decide +kernel
theorem dX12_has_14 : decode cX12_has 14 = .ok (.ireturn, 1) := by decide +kernel
theorem dX12_sizeOf_0 : decode cX12_sizeOf 0 = .ok (.iconst 0, 1) := by decide +kernel
theorem dX12_sizeOf_1 : decode cX12_sizeOf 1 = .ok (.istore_n 1, 1) := by decide +kernel
theorem dX12_sizeOf_2 : decode cX12_sizeOf 2 = .ok (.iconst 0, 1) := by decide +kernel
theorem dX12_sizeOf_3 : decode cX12_sizeOf 3 = .ok (.istore_n 2, 1) := by decide +kernel
theorem dX12_sizeOf_4 : decode cX12_sizeOf 4 = .ok (.iload_n 2, 1) := by decide +kernel
theorem dX12_sizeOf_5 : decode cX12_sizeOf 5 = .ok (.bipush 16, 2) := by decide +kernel
theorem dX12_sizeOf_7 : decode cX12_sizeOf 7 = .ok (.if_icmp .ge 25, 3) := by decide +kernel
theorem dX12_sizeOf_10 : decode cX12_sizeOf 10 = .ok (.iload_n 1, 1) := by decide +kernel
theorem dX12_sizeOf_11 : decode cX12_sizeOf 11 = .ok (.iload_n 0, 1) := by decide +kernel
theorem dX12_sizeOf_12 : decode cX12_sizeOf 12 = .ok (.iload_n 2, 1) := by decide +kernel
theorem dX12_sizeOf_13 : decode cX12_sizeOf 13 = .ok (.invokestatic 113, 3) := by decide +kernel
theorem dX12_sizeOf_16 : decode cX12_sizeOf 16 = .ok (.ifCond .eq 7, 3) := by decide +kernel
theorem dX12_sizeOf_19 : decode cX12_sizeOf 19 = .ok (.iconst 1, 1) := by decide +kernel
theorem dX12_sizeOf_20 : decode cX12_sizeOf 20 = .ok (.goto 4, 3) := by decide +kernel
theorem dX12_sizeOf_23 : decode cX12_sizeOf 23 = .ok (.iconst 0, 1) := by decide +kernel
theorem dX12_sizeOf_24 : decode cX12_sizeOf 24 = .ok (.iadd, 1) := by decide +kernel
theorem dX12_sizeOf_25 : decode cX12_sizeOf 25 = .ok (.istore_n 1, 1) := by decide +kernel
theorem dX12_sizeOf_26 : decode cX12_sizeOf 26 = .ok (.iinc 2 1, 3) := by decide +kernel
theorem dX12_sizeOf_29 : decode cX12_sizeOf 29 = .ok (.goto (-25), 3) := by decide +kernel
theorem dX12_sizeOf_32 : decode cX12_sizeOf 32 = .ok (.iload_n 1, 1) := by decide +kernel
theorem dX12_sizeOf_33 : decode cX12_sizeOf 33 = .ok (.ireturn, 1) := by decide +kernel
theorem dX12_look2_0 : decode cX12_look2 0 = .ok (.iload_n 1, 1) := by decide +kernel
theorem dX12_look2_1 : decode cX12_look2 1 = .ok (.aload_n 0, 1) := by decide +kernel
theorem dX12_look2_2 : decode cX12_look2 2 = .ok (.getfield 117, 3) := by decide +kernel
theorem dX12_look2_5 : decode cX12_look2 5 = .ok (.if_icmp .ge 16, 3) := by decide +kernel
theorem dX12_look2_8 : decode cX12_look2 8 = .ok (.aload_n 0, 1) := by decide +kernel
theorem dX12_look2_9 : decode cX12_look2 9 = .ok (.getfield 24, 3) := by decide +kernel
theorem dX12_look2_12 : decode cX12_look2 12 = .ok (.iload_n 1, 1) := by decide +kernel
theorem dX12_look2_13 : decode cX12_look2 13 = .ok (.baload, 1) := by decide +kernel
theorem dX12_look2_14 : decode cX12_look2 14 = .ok (.sipush 255, 3) := by decide +kernel
theorem dX12_look2_17 : decode cX12_look2 17 = .ok (.iand, 1) := by decide +kernel
theorem dX12_look2_18 : decode cX12_look2 18 = .ok (.goto 4, 3) := by decide +kernel
theorem dX12_look2_21 : decode cX12_look2 21 = .ok (.iconst 0, 1) := by decide +kernel
theorem dX12_look2_22 : decode cX12_look2 22 = .ok (.ireturn, 1) := by decide +kernel
theorem dX12_isLetter_0 : decode cX12_isLetter 0 = .ok (.iload_n 0, 1) := by decide +kernel
theorem dX12_isLetter_1 : decode cX12_isLetter 1 = .ok (.bipush 97, 2) := by decide +kernel
theorem dX12_isLetter_3 : decode cX12_isLetter 3 = .ok (.if_icmp .lt 13, 3) := by decide +kernel
theorem dX12_isLetter_6 : decode cX12_isLetter 6 = .ok (.iload_n 0, 1) := by decide +kernel
theorem dX12_isLetter_7 : decode cX12_isLetter 7 = .ok (.bipush 122, 2) := by decide +kernel
theorem dX12_isLetter_9 : decode cX12_isLetter 9 = .ok (.if_icmp .gt 7, 3) := by decide +kernel
theorem dX12_isLetter_12 : decode cX12_isLetter 12 = .ok (.iconst 1, 1) := by decide +kernel
theorem dX12_isLetter_13 : decode cX12_isLetter 13 = .ok (.goto 4, 3) := by decide +kernel
theorem dX12_isLetter_16 : decode cX12_isLetter 16 = .ok (.iconst 0, 1) := by decide +kernel
theorem dX12_isLetter_17 : decode cX12_isLetter 17 = .ok (.ireturn, 1) := by decide +kernel
theorem dX12_isDigit_0 : decode cX12_isDigit 0 = .ok (.iload_n 0, 1) := by decide +kernel
theorem dX12_isDigit_1 : decode cX12_isDigit 1 = .ok (.bipush 48, 2) := by decide +kernel
theorem dX12_isDigit_3 : decode cX12_isDigit 3 = .ok (.if_icmp .lt 13, 3) := by decide +kernel
theorem dX12_isDigit_6 : decode cX12_isDigit 6 = .ok (.iload_n 0, 1) := by decide +kernel
theorem dX12_isDigit_7 : decode cX12_isDigit 7 = .ok (.bipush 57, 2) := by decide +kernel
theorem dX12_isDigit_9 : decode cX12_isDigit 9 = .ok (.if_icmp .gt 7, 3) := by decide +kernel
theorem dX12_isDigit_12 : decode cX12_isDigit 12 = .ok (.iconst 1, 1) := by decide +kernel
theorem dX12_isDigit_13 : decode cX12_isDigit 13 = .ok (.goto 4, 3) := by decide +kernel
theorem dX12_isDigit_16 : decode cX12_isDigit 16 = .ok (.iconst 0, 1) := by decide +kernel
theorem dX12_isDigit_17 : decode cX12_isDigit 17 = .ok (.ireturn, 1) := by decide +kernel
theorem dX12_isSignByte_0 : decode cX12_isSignByte 0 = .ok (.iload_n 1, 1) := by decide +kernel
theorem dX12_isSignByte_1 : decode cX12_isSignByte 1 = .ok (.bipush 59, 2) := by decide +kernel
theorem dX12_isSignByte_3 : decode cX12_isSignByte 3 = .ok (.if_icmp .eq 21, 3) := by decide +kernel
theorem dX12_isSignByte_6 : decode cX12_isSignByte 6 = .ok (.iload_n 1, 1) := by decide +kernel
theorem dX12_isSignByte_7 : decode cX12_isSignByte 7 = .ok (.bipush 60, 2) := by decide +kernel
theorem dX12_isSignByte_9 : decode cX12_isSignByte 9 = .ok (.if_icmp .eq 15, 3) := by decide +kernel
theorem dX12_isSignByte_12 : decode cX12_isSignByte 12 = .ok (.iload_n 1, 1) := by decide +kernel
theorem dX12_isSignByte_13 : decode cX12_isSignByte 13 = .ok (.bipush 62, 2) := by decide +kernel
theorem dX12_isSignByte_15 : decode cX12_isSignByte 15 = .ok (.if_icmp .eq 9, 3) := by decide +kernel
theorem dX12_isSignByte_18 : decode cX12_isSignByte 18 = .ok (.iload_n 1, 1) := by decide +kernel
theorem dX12_isSignByte_19 : decode cX12_isSignByte 19 = .ok (.bipush 61, 2) := by decide +kernel
theorem dX12_isSignByte_21 : decode cX12_isSignByte 21 = .ok (.if_icmp .ne 7, 3) := by decide +kernel
theorem dX12_isSignByte_24 : decode cX12_isSignByte 24 = .ok (.iconst 1, 1) := by decide +kernel
theorem dX12_isSignByte_25 : decode cX12_isSignByte 25 = .ok (.goto 4, 3) := by decide +kernel
theorem dX12_isSignByte_28 : decode cX12_isSignByte 28 = .ok (.iconst 0, 1) := by decide +kernel
theorem dX12_isSignByte_29 : decode cX12_isSignByte 29 = .ok (.ireturn, 1) := by decide +kernel
theorem dX12_advance_0 : decode cX12_advance 0 = .ok (.aload_n 0, 1) := by decide +kernel
theorem dX12_advance_1 : decode cX12_advance 1 = .ok (.aload_n 0, 1) := by decide +kernel
theorem dX12_advance_2 : decode cX12_advance 2 = .ok (.getfield 120, 3) := by decide +kernel
theorem dX12_advance_5 : decode cX12_advance 5 = .ok (.putfield 123, 3) := by decide +kernel
theorem dX12_advance_8 : decode cX12_advance 8 = .ok (.aload_n 0, 1) := by decide +kernel
theorem dX12_advance_9 : decode cX12_advance 9 = .ok (.getfield 123, 3) := by decide +kernel
theorem dX12_advance_12 : decode cX12_advance 12 = .ok (.aload_n 0, 1) := by decide +kernel
theorem dX12_advance_13 : decode cX12_advance 13 = .ok (.getfield 117, 3) := by decide +kernel
theorem dX12_advance_16 : decode cX12_advance 16 = .ok (.if_icmp .ge 42, 3) := by decide +kernel
theorem dX12_advance_19 : decode cX12_advance 19 = .ok (.aload_n 0, 1) := by decide +kernel
theorem dX12_advance_20 : decode cX12_advance 20 = .ok (.aload_n 0, 1) := by decide +kernel
theorem dX12_advance_21 : decode cX12_advance 21 = .ok (.getfield 123, 3) := by decide +kernel
theorem dX12_advance_24 : decode cX12_advance 24 = .ok (.invokevirtual 126, 3) := by decide +kernel
theorem dX12_advance_27 : decode cX12_advance 27 = .ok (.bipush 10, 2) := by decide +kernel
theorem dX12_advance_29 : decode cX12_advance 29 = .ok (.if_icmp .eq 16, 3) := by decide +kernel
theorem dX12_advance_32 : decode cX12_advance 32 = .ok (.aload_n 0, 1) := by decide +kernel
theorem dX12_advance_33 : decode cX12_advance 33 = .ok (.aload_n 0, 1) := by decide +kernel
theorem dX12_advance_34 : decode cX12_advance 34 = .ok (.getfield 123, 3) := by decide +kernel
theorem dX12_advance_37 : decode cX12_advance 37 = .ok (.invokevirtual 126, 3) := by decide +kernel
theorem dX12_advance_40 : decode cX12_advance 40 = .ok (.bipush 32, 2) := by decide +kernel
theorem dX12_advance_42 : decode cX12_advance 42 = .ok (.if_icmp .ne 16, 3) := by decide +kernel
theorem dX12_advance_45 : decode cX12_advance 45 = .ok (.aload_n 0, 1) := by decide +kernel
theorem dX12_advance_46 : decode cX12_advance 46 = .ok (.dup, 1) := by decide +kernel
theorem dX12_advance_47 : decode cX12_advance 47 = .ok (.getfield 123, 3) := by decide +kernel
theorem dX12_advance_50 : decode cX12_advance 50 = .ok (.iconst 1, 1) := by decide +kernel
theorem dX12_advance_51 : decode cX12_advance 51 = .ok (.iadd, 1) := by decide +kernel
theorem dX12_advance_52 : decode cX12_advance 52 = .ok (.putfield 123, 3) := by decide +kernel
theorem dX12_advance_55 : decode cX12_advance 55 = .ok (.goto (-47), 3) := by decide +kernel
theorem dX12_advance_58 : decode cX12_advance 58 = .ok (.aload_n 0, 1) := by decide +kernel
theorem dX12_advance_59 : decode cX12_advance 59 = .ok (.aload_n 0, 1) := by decide +kernel
theorem dX12_advance_60 : decode cX12_advance 60 = .ok (.getfield 123, 3) := by decide +kernel
theorem dX12_advance_63 : decode cX12_advance 63 = .ok (.putfield 120, 3) := by decide +kernel
theorem dX12_advance_66 : decode cX12_advance 66 = .ok (.aload_n 0, 1) := by decide +kernel
theorem dX12_advance_67 : decode cX12_advance 67 = .ok (.getfield 123, 3) := by decide +kernel
theorem dX12_advance_70 : decode cX12_advance 70 = .ok (.aload_n 0, 1) := by decide +kernel
theorem dX12_advance_71 : decode cX12_advance 71 = .ok (.getfield 117, 3) := by decide +kernel
theorem dX12_advance_74 : decode cX12_advance 74 = .ok (.if_icmp .lt 9, 3) := by decide +kernel
theorem dX12_advance_77 : decode cX12_advance 77 = .ok (.aload_n 0, 1) := by decide +kernel
theorem dX12_advance_78 : decode cX12_advance 78 = .ok (.iconst 0, 1) := by decide +kernel
theorem dX12_advance_79 : decode cX12_advance 79 = .ok (.putfield 129, 3) := by decide +kernel
theorem dX12_advance_82 : decode cX12_advance 82 = .ok (.return_, 1) := by decide +kernel
theorem dX12_advance_83 : decode cX12_advance 83 = .ok (.aload_n 0, 1) := by decide +kernel
theorem dX12_advance_84 : decode cX12_advance 84 = .ok (.aload_n 0, 1) := by decide +kernel
theorem dX12_advance_85 : decode cX12_advance 85 = .ok (.getfield 123, 3) := by decide +kernel
theorem dX12_advance_88 : decode cX12_advance 88 = .ok (.invokevirtual 126, 3) := by decide +kernel
theorem dX12_advance_91 : decode cX12_advance 91 = .ok (.istore_n 1, 1) := by decide +kernel
theorem dX12_advance_92 : decode cX12_advance 92 = .ok (.iload_n 1, 1) := by decide +kernel
theorem dX12_advance_93 : decode cX12_advance 93 = .ok (.invokestatic 132, 3) := by decide +kernel
theorem dX12_advance_96 : decode cX12_advance 96 = .ok (.ifCond .eq 102, 3) := by decide +kernel
theorem dX12_advance_99 : decode cX12_advance 99 = .ok (.aload_n 0, 1) := by decide +kernel
theorem dX12_advance_100 : decode cX12_advance 100 = .ok (.iconst 1, 1) := by decide +kernel
theorem dX12_advance_101 : decode cX12_advance 101 = .ok (.putfield 129, 3) := by decide +kernel
theorem dX12_advance_104 : decode cX12_advance 104 = .ok (.aload_n 0, 1) := by decide +kernel
theorem dX12_advance_105 : decode cX12_advance 105 = .ok (.lconst 0, 1) := by decide +kernel
theorem dX12_advance_106 : decode cX12_advance 106 = .ok (.putfield 135, 3) := by decide +kernel
theorem dX12_advance_109 : decode cX12_advance 109 = .ok (.aload_n 0, 1) := by decide +kernel
theorem dX12_advance_110 : decode cX12_advance 110 = .ok (.aload_n 0, 1) := by decide +kernel
theorem dX12_advance_111 : decode cX12_advance 111 = .ok (.getfield 120, 3) := by decide +kernel
theorem dX12_advance_114 : decode cX12_advance 114 = .ok (.invokevirtual 126, 3) := by decide +kernel
theorem dX12_advance_117 : decode cX12_advance 117 = .ok (.invokestatic 132, 3) := by decide +kernel
theorem dX12_advance_120 : decode cX12_advance 120 = .ok (.ifCond .eq 62, 3) := by decide +kernel
theorem dX12_advance_123 : decode cX12_advance 123 = .ok (.aload_n 0, 1) := by decide +kernel
theorem dX12_advance_124 : decode cX12_advance 124 = .ok (.aload_n 0, 1) := by decide +kernel
theorem dX12_advance_125 : decode cX12_advance 125 = .ok (.getfield 120, 3) := by decide +kernel
theorem dX12_advance_128 : decode cX12_advance 128 = .ok (.aload_n 0, 1) := by decide +kernel
theorem dX12_advance_129 : decode cX12_advance 129 = .ok (.getfield 123, 3) := by decide +kernel
theorem dX12_advance_132 : decode cX12_advance 132 = .ok (.isub, 1) := by decide +kernel
theorem dX12_advance_133 : decode cX12_advance 133 = .ok (.bipush 8, 2) := by decide +kernel
theorem dX12_advance_135 : decode cX12_advance 135 = .ok (.if_icmp .ge 28, 3) := by decide +kernel
theorem dX12_advance_138 : decode cX12_advance 138 = .ok (.aload_n 0, 1) := by decide +kernel
theorem dX12_advance_139 : decode cX12_advance 139 = .ok (.getfield 135, 3) := by decide +kernel
theorem dX12_advance_142 : decode cX12_advance 142 = .ok (.ldc2_w 138, 3) := by decide +kernel
theorem dX12_advance_145 : decode cX12_advance 145 = .ok (.lmul, 1) := by decide +kernel
theorem dX12_advance_146 : decode cX12_advance 146 = .ok (.aload_n 0, 1) := by decide +kernel
theorem dX12_advance_147 : decode cX12_advance 147 = .ok (.aload_n 0, 1) := by decide +kernel
theorem dX12_advance_148 : decode cX12_advance 148 = .ok (.getfield 120, 3) := by decide +kernel
theorem dX12_advance_151 : decode cX12_advance 151 = .ok (.invokevirtual 126, 3) := by decide +kernel
theorem dX12_advance_154 : decode cX12_advance 154 = .ok (.i2l, 1) := by decide +kernel
theorem dX12_advance_155 : decode cX12_advance 155 = .ok (.ladd, 1) := by decide +kernel
theorem dX12_advance_156 : decode cX12_advance 156 = .ok (.ldc2_w 140, 3) := by decide +kernel
theorem dX12_advance_159 : decode cX12_advance 159 = .ok (.lsub, 1) := by decide +kernel
theorem dX12_advance_160 : decode cX12_advance 160 = .ok (.goto 6, 3) := by decide +kernel
theorem dX12_advance_163 : decode cX12_advance 163 = .ok (.ldc2_w 105, 3) := by decide +kernel
theorem dX12_advance_166 : decode cX12_advance 166 = .ok (.putfield 135, 3) := by decide +kernel
theorem dX12_advance_169 : decode cX12_advance 169 = .ok (.aload_n 0, 1) := by decide +kernel
theorem dX12_advance_170 : decode cX12_advance 170 = .ok (.dup, 1) := by decide +kernel
theorem dX12_advance_171 : decode cX12_advance 171 = .ok (.getfield 120, 3) := by decide +kernel
theorem dX12_advance_174 : decode cX12_advance 174 = .ok (.iconst 1, 1) := by decide +kernel
theorem dX12_advance_175 : decode cX12_advance 175 = .ok (.iadd, 1) := by decide +kernel
theorem dX12_advance_176 : decode cX12_advance 176 = .ok (.putfield 120, 3) := by decide +kernel
theorem dX12_advance_179 : decode cX12_advance 179 = .ok (.goto (-70), 3) := by decide +kernel
theorem dX12_advance_182 : decode cX12_advance 182 = .ok (.aload_n 0, 1) := by decide +kernel
theorem dX12_advance_183 : decode cX12_advance 183 = .ok (.aload_n 0, 1) := by decide +kernel
theorem dX12_advance_184 : decode cX12_advance 184 = .ok (.getfield 120, 3) := by decide +kernel
theorem dX12_advance_187 : decode cX12_advance 187 = .ok (.aload_n 0, 1) := by decide +kernel
theorem dX12_advance_188 : decode cX12_advance 188 = .ok (.getfield 123, 3) := by decide +kernel
theorem dX12_advance_191 : decode cX12_advance 191 = .ok (.isub, 1) := by decide +kernel
theorem dX12_advance_192 : decode cX12_advance 192 = .ok (.putfield 142, 3) := by decide +kernel
theorem dX12_advance_195 : decode cX12_advance 195 = .ok (.goto 135, 3) := by decide +kernel
theorem dX12_advance_198 : decode cX12_advance 198 = .ok (.iload_n 1, 1) := by decide +kernel
theorem dX12_advance_199 : decode cX12_advance 199 = .ok (.invokestatic 145, 3) := by decide +kernel
theorem dX12_advance_202 : decode cX12_advance 202 = .ok (.ifCond .eq 96, 3) := by decide +kernel
theorem dX12_advance_205 : decode cX12_advance 205 = .ok (.aload_n 0, 1) := by decide +kernel
theorem dX12_advance_206 : decode cX12_advance 206 = .ok (.iconst 0, 1) := by decide +kernel
theorem dX12_advance_207 : decode cX12_advance 207 = .ok (.putfield 148, 3) := by decide +kernel
theorem dX12_advance_210 : decode cX12_advance 210 = .ok (.aload_n 0, 1) := by decide +kernel
theorem dX12_advance_211 : decode cX12_advance 211 = .ok (.aload_n 0, 1) := by decide +kernel
theorem dX12_advance_212 : decode cX12_advance 212 = .ok (.getfield 120, 3) := by decide +kernel
theorem dX12_advance_215 : decode cX12_advance 215 = .ok (.invokevirtual 126, 3) := by decide +kernel
theorem dX12_advance_218 : decode cX12_advance 218 = .ok (.invokestatic 145, 3) := by decide +kernel
theorem dX12_advance_221 : decode cX12_advance 221 = .ok (.ifCond .eq 52, 3) := by decide +kernel
theorem dX12_advance_224 : decode cX12_advance 224 = .ok (.aload_n 0, 1) := by decide +kernel
theorem dX12_advance_225 : decode cX12_advance 225 = .ok (.getfield 120, 3) := by decide +kernel
theorem dX12_advance_228 : decode cX12_advance 228 = .ok (.aload_n 0, 1) := by decide +kernel
theorem dX12_advance_229 : decode cX12_advance 229 = .ok (.getfield 123, 3) := by decide +kernel
theorem dX12_advance_232 : decode cX12_advance 232 = .ok (.isub, 1) := by decide +kernel
theorem dX12_advance_233 : decode cX12_advance 233 = .ok (.iconst 4, 1) := by decide +kernel
theorem dX12_advance_234 : decode cX12_advance 234 = .ok (.if_icmp .ge 26, 3) := by decide +kernel
theorem dX12_advance_237 : decode cX12_advance 237 = .ok (.aload_n 0, 1) := by decide +kernel
theorem dX12_advance_238 : decode cX12_advance 238 = .ok (.bipush 10, 2) := by decide +kernel
theorem dX12_advance_240 : decode cX12_advance 240 = .ok (.aload_n 0, 1) := by decide +kernel
theorem dX12_advance_241 : decode cX12_advance 241 = .ok (.getfield 148, 3) := by decide +kernel
theorem dX12_advance_244 : decode cX12_advance 244 = .ok (.imul, 1) := by decide +kernel
theorem dX12_advance_245 : decode cX12_advance 245 = .ok (.aload_n 0, 1) := by decide +kernel
theorem dX12_advance_246 : decode cX12_advance 246 = .ok (.aload_n 0, 1) := by decide +kernel
theorem dX12_advance_247 : decode cX12_advance 247 = .ok (.getfield 120, 3) := by decide +kernel
theorem dX12_advance_250 : decode cX12_advance 250 = .ok (.invokevirtual 126, 3) := by decide +kernel
theorem dX12_advance_253 : decode cX12_advance 253 = .ok (.iadd, 1) := by decide +kernel
theorem dX12_advance_254 : decode cX12_advance 254 = .ok (.bipush 48, 2) := by decide +kernel
theorem dX12_advance_256 : decode cX12_advance 256 = .ok (.isub, 1) := by decide +kernel
theorem dX12_advance_257 : decode cX12_advance 257 = .ok (.putfield 148, 3) := by decide +kernel
theorem dX12_advance_260 : decode cX12_advance 260 = .ok (.aload_n 0, 1) := by decide +kernel
theorem dX12_advance_261 : decode cX12_advance 261 = .ok (.dup, 1) := by decide +kernel
theorem dX12_advance_262 : decode cX12_advance 262 = .ok (.getfield 120, 3) := by decide +kernel
theorem dX12_advance_265 : decode cX12_advance 265 = .ok (.iconst 1, 1) := by decide +kernel
theorem dX12_advance_266 : decode cX12_advance 266 = .ok (.iadd, 1) := by decide +kernel
theorem dX12_advance_267 : decode cX12_advance 267 = .ok (.putfield 120, 3) := by decide +kernel
theorem dX12_advance_270 : decode cX12_advance 270 = .ok (.goto (-60), 3) := by decide +kernel
theorem dX12_advance_273 : decode cX12_advance 273 = .ok (.aload_n 0, 1) := by decide +kernel
theorem dX12_advance_274 : decode cX12_advance 274 = .ok (.aload_n 0, 1) := by decide +kernel
theorem dX12_advance_275 : decode cX12_advance 275 = .ok (.getfield 120, 3) := by decide +kernel
theorem dX12_advance_278 : decode cX12_advance 278 = .ok (.aload_n 0, 1) := by decide +kernel
theorem dX12_advance_279 : decode cX12_advance 279 = .ok (.getfield 123, 3) := by decide +kernel
theorem dX12_advance_282 : decode cX12_advance 282 = .ok (.isub, 1) := by decide +kernel
theorem dX12_advance_283 : decode cX12_advance 283 = .ok (.iconst 4, 1) := by decide +kernel
theorem dX12_advance_284 : decode cX12_advance 284 = .ok (.if_icmp .le 7, 3) := by decide +kernel
theorem dX12_advance_287 : decode cX12_advance 287 = .ok (.iconst 4, 1) := by decide +kernel
theorem dX12_advance_288 : decode cX12_advance 288 = .ok (.goto 4, 3) := by decide +kernel
theorem dX12_advance_291 : decode cX12_advance 291 = .ok (.iconst 2, 1) := by decide +kernel
theorem dX12_advance_292 : decode cX12_advance 292 = .ok (.putfield 129, 3) := by decide +kernel
theorem dX12_advance_295 : decode cX12_advance 295 = .ok (.goto 35, 3) := by decide +kernel
theorem dX12_advance_298 : decode cX12_advance 298 = .ok (.aload_n 0, 1) := by decide +kernel
theorem dX12_advance_299 : decode cX12_advance 299 = .ok (.aload_n 0, 1) := by decide +kernel
theorem dX12_advance_300 : decode cX12_advance 300 = .ok (.getfield 123, 3) := by decide +kernel
theorem dX12_advance_303 : decode cX12_advance 303 = .ok (.iconst 1, 1) := by decide +kernel
theorem dX12_advance_304 : decode cX12_advance 304 = .ok (.iadd, 1) := by decide +kernel
theorem dX12_advance_305 : decode cX12_advance 305 = .ok (.putfield 120, 3) := by decide +kernel
theorem dX12_advance_308 : decode cX12_advance 308 = .ok (.aload_n 0, 1) := by decide +kernel
theorem dX12_advance_309 : decode cX12_advance 309 = .ok (.iload_n 1, 1) := by decide +kernel
theorem dX12_advance_310 : decode cX12_advance 310 = .ok (.putfield 148, 3) := by decide +kernel
theorem dX12_advance_313 : decode cX12_advance 313 = .ok (.aload_n 0, 1) := by decide +kernel
theorem dX12_advance_314 : decode cX12_advance 314 = .ok (.aload_n 0, 1) := by decide +kernel
theorem dX12_advance_315 : decode cX12_advance 315 = .ok (.iload_n 1, 1) := by decide +kernel
theorem dX12_advance_316 : decode cX12_advance 316 = .ok (.invokevirtual 151, 3) := by decide +kernel
theorem dX12_advance_319 : decode cX12_advance 319 = .ok (.ifCond .eq 7, 3) := by decide +kernel
theorem dX12_advance_322 : decode cX12_advance 322 = .ok (.iconst 3, 1) := by decide +kernel
theorem dX12_advance_323 : decode cX12_advance 323 = .ok (.goto 4, 3) := by decide +kernel
theorem dX12_advance_326 : decode cX12_advance 326 = .ok (.iconst 4, 1) := by decide +kernel
theorem dX12_advance_327 : decode cX12_advance 327 = .ok (.putfield 129, 3) := by decide +kernel
theorem dX12_advance_330 : decode cX12_advance 330 = .ok (.return_, 1) := by decide +kernel
theorem dX12_isSign_0 : decode cX12_isSign 0 = .ok (.aload_n 0, 1) := by decide +kernel
theorem dX12_isSign_1 : decode cX12_isSign 1 = .ok (.getfield 129, 3) := by decide +kernel
theorem dX12_isSign_4 : decode cX12_isSign 4 = .ok (.iconst 3, 1) := by decide +kernel
theorem dX12_isSign_5 : decode cX12_isSign 5 = .ok (.if_icmp .ne 15, 3) := by decide +kernel
theorem dX12_isSign_8 : decode cX12_isSign 8 = .ok (.aload_n 0, 1) := by decide +kernel
theorem dX12_isSign_9 : decode cX12_isSign 9 = .ok (.getfield 148, 3) := by decide +kernel
theorem dX12_isSign_12 : decode cX12_isSign 12 = .ok (.iload_n 1, 1) := by decide +kernel
theorem dX12_isSign_13 : decode cX12_isSign 13 = .ok (.if_icmp .ne 7, 3) := by decide +kernel
theorem dX12_isSign_16 : decode cX12_isSign 16 = .ok (.iconst 1, 1) := by decide +kernel
theorem dX12_isSign_17 : decode cX12_isSign 17 = .ok (.goto 4, 3) := by decide +kernel
theorem dX12_isSign_20 : decode cX12_isSign 20 = .ok (.iconst 0, 1) := by decide +kernel
theorem dX12_isSign_21 : decode cX12_isSign 21 = .ok (.ireturn, 1) := by decide +kernel
theorem dX12_spelled_0 : decode cX12_spelled 0 = .ok (.iload_n 0, 1) := by decide +kernel
theorem dX12_spelled_1 : decode cX12_spelled 1 = .ok (.i2l, 1) := by decide +kernel
theorem dX12_spelled_2 : decode cX12_spelled 2 = .ok (.ldc2_w 140, 3) := by decide +kernel
theorem dX12_spelled_5 : decode cX12_spelled 5 = .ok (.lsub, 1) := by decide +kernel
theorem dX12_spelled_6 : decode cX12_spelled 6 = .ok (.ldc2_w 138, 3) := by decide +kernel
theorem dX12_spelled_9 : decode cX12_spelled 9 = .ok (.lmul, 1) := by decide +kernel
theorem dX12_spelled_10 : decode cX12_spelled 10 = .ok (.iload_n 1, 1) := by decide +kernel
theorem dX12_spelled_11 : decode cX12_spelled 11 = .ok (.i2l, 1) := by decide +kernel
theorem dX12_spelled_12 : decode cX12_spelled 12 = .ok (.ladd, 1) := by decide +kernel
theorem dX12_spelled_13 : decode cX12_spelled 13 = .ok (.ldc2_w 140, 3) := by decide +kernel
theorem dX12_spelled_16 : decode cX12_spelled 16 = .ok (.lsub, 1) := by decide +kernel
theorem dX12_spelled_17 : decode cX12_spelled 17 = .ok (.lstore 6, 2) := by decide +kernel
theorem dX12_spelled_19 : decode cX12_spelled 19 = .ok (.iload_n 2, 1) := by decide +kernel
theorem dX12_spelled_20 : decode cX12_spelled 20 = .ok (.ifCond .le 19, 3) := by decide +kernel
theorem dX12_spelled_23 : decode cX12_spelled 23 = .ok (.lload 6, 2) := by decide +kernel
theorem dX12_spelled_25 : decode cX12_spelled 25 = .ok (.ldc2_w 138, 3) := by decide +kernel
theorem dX12_spelled_28 : decode cX12_spelled 28 = .ok (.lmul, 1) := by decide +kernel
theorem dX12_spelled_29 : decode cX12_spelled 29 = .ok (.iload_n 2, 1) := by decide +kernel
theorem dX12_spelled_30 : decode cX12_spelled 30 = .ok (.i2l, 1) := by decide +kernel
theorem dX12_spelled_31 : decode cX12_spelled 31 = .ok (.ladd, 1) := by decide +kernel
theorem dX12_spelled_32 : decode cX12_spelled 32 = .ok (.ldc2_w 140, 3) := by decide +kernel
theorem dX12_spelled_35 : decode cX12_spelled 35 = .ok (.lsub, 1) := by decide +kernel
theorem dX12_spelled_36 : decode cX12_spelled 36 = .ok (.goto 5, 3) := by decide +kernel
theorem dX12_spelled_39 : decode cX12_spelled 39 = .ok (.lload 6, 2) := by decide +kernel
theorem dX12_spelled_41 : decode cX12_spelled 41 = .ok (.lstore 6, 2) := by decide +kernel
theorem dX12_spelled_43 : decode cX12_spelled 43 = .ok (.iload_n 3, 1) := by decide +kernel
theorem dX12_spelled_44 : decode cX12_spelled 44 = .ok (.ifCond .le 19, 3) := by decide +kernel
theorem dX12_spelled_47 : decode cX12_spelled 47 = .ok (.lload 6, 2) := by decide +kernel
theorem dX12_spelled_49 : decode cX12_spelled 49 = .ok (.ldc2_w 138, 3) := by decide +kernel
theorem dX12_spelled_52 : decode cX12_spelled 52 = .ok (.lmul, 1) := by decide +kernel
theorem dX12_spelled_53 : decode cX12_spelled 53 = .ok (.iload_n 3, 1) := by decide +kernel
theorem dX12_spelled_54 : decode cX12_spelled 54 = .ok (.i2l, 1) := by decide +kernel
theorem dX12_spelled_55 : decode cX12_spelled 55 = .ok (.ladd, 1) := by decide +kernel
theorem dX12_spelled_56 : decode cX12_spelled 56 = .ok (.ldc2_w 140, 3) := by decide +kernel
theorem dX12_spelled_59 : decode cX12_spelled 59 = .ok (.lsub, 1) := by decide +kernel
theorem dX12_spelled_60 : decode cX12_spelled 60 = .ok (.goto 5, 3) := by decide +kernel
theorem dX12_spelled_63 : decode cX12_spelled 63 = .ok (.lload 6, 2) := by decide +kernel
theorem dX12_spelled_65 : decode cX12_spelled 65 = .ok (.lstore 6, 2) := by decide +kernel
theorem dX12_spelled_67 : decode cX12_spelled 67 = .ok (.iload 4, 2) := by decide +kernel
theorem dX12_spelled_69 : decode cX12_spelled 69 = .ok (.ifCond .le 20, 3) := by decide +kernel
theorem dX12_spelled_72 : decode cX12_spelled 72 = .ok (.lload 6, 2) := by decide +kernel
theorem dX12_spelled_74 : decode cX12_spelled 74 = .ok (.ldc2_w 138, 3) := by decide +kernel
theorem dX12_spelled_77 : decode cX12_spelled 77 = .ok (.lmul, 1) := by decide +kernel
theorem dX12_spelled_78 : decode cX12_spelled 78 = .ok (.iload 4, 2) := by decide +kernel
theorem dX12_spelled_80 : decode cX12_spelled 80 = .ok (.i2l, 1) := by decide +kernel
theorem dX12_spelled_81 : decode cX12_spelled 81 = .ok (.ladd, 1) := by decide +kernel
theorem dX12_spelled_82 : decode cX12_spelled 82 = .ok (.ldc2_w 140, 3) := by decide +kernel
theorem dX12_spelled_85 : decode cX12_spelled 85 = .ok (.lsub, 1) := by decide +kernel
theorem dX12_spelled_86 : decode cX12_spelled 86 = .ok (.goto 5, 3) := by decide +kernel
theorem dX12_spelled_89 : decode cX12_spelled 89 = .ok (.lload 6, 2) := by decide +kernel
theorem dX12_spelled_91 : decode cX12_spelled 91 = .ok (.lstore 6, 2) := by decide +kernel
theorem dX12_spelled_93 : decode cX12_spelled 93 = .ok (.iload 5, 2) := by decide +kernel
theorem dX12_spelled_95 : decode cX12_spelled 95 = .ok (.ifCond .le 20, 3) := by decide +kernel
theorem dX12_spelled_98 : decode cX12_spelled 98 = .ok (.lload 6, 2) := by decide +kernel
theorem dX12_spelled_100 : decode cX12_spelled 100 = .ok (.ldc2_w 138, 3) := by decide +kernel
theorem dX12_spelled_103 : decode cX12_spelled 103 = .ok (.lmul, 1) := by decide +kernel
theorem dX12_spelled_104 : decode cX12_spelled 104 = .ok (.iload 5, 2) := by decide +kernel
theorem dX12_spelled_106 : decode cX12_spelled 106 = .ok (.i2l, 1) := by decide +kernel
theorem dX12_spelled_107 : decode cX12_spelled 107 = .ok (.ladd, 1) := by decide +kernel
theorem dX12_spelled_108 : decode cX12_spelled 108 = .ok (.ldc2_w 140, 3) := by decide +kernel
theorem dX12_spelled_111 : decode cX12_spelled 111 = .ok (.lsub, 1) := by decide +kernel
theorem dX12_spelled_112 : decode cX12_spelled 112 = .ok (.goto 5, 3) := by decide +kernel
theorem dX12_spelled_115 : decode cX12_spelled 115 = .ok (.lload 6, 2) := by decide +kernel
theorem dX12_spelled_117 : decode cX12_spelled 117 = .ok (.lreturn, 1) := by decide +kernel
theorem dX12_isWord_0 : decode cX12_isWord 0 = .ok (.aload_n 0, 1) := by decide +kernel
theorem dX12_isWord_1 : decode cX12_isWord 1 = .ok (.getfield 129, 3) := by decide +kernel
theorem dX12_isWord_4 : decode cX12_isWord 4 = .ok (.iconst 1, 1) := by decide +kernel
theorem dX12_isWord_5 : decode cX12_isWord 5 = .ok (.if_icmp .ne 16, 3) := by decide +kernel
theorem dX12_isWord_8 : decode cX12_isWord 8 = .ok (.aload_n 0, 1) := by decide +kernel
theorem dX12_isWord_9 : decode cX12_isWord 9 = .ok (.getfield 135, 3) := by decide +kernel
theorem dX12_isWord_12 : decode cX12_isWord 12 = .ok (.lload_n 1, 1) := by decide +kernel
theorem dX12_isWord_13 : decode cX12_isWord 13 = .ok (.lcmp, 1) := by decide +kernel
theorem dX12_isWord_14 : decode cX12_isWord 14 = .ok (.ifCond .ne 7, 3) := by decide +kernel
theorem dX12_isWord_17 : decode cX12_isWord 17 = .ok (.iconst 1, 1) := by decide +kernel
theorem dX12_isWord_18 : decode cX12_isWord 18 = .ok (.goto 4, 3) := by decide +kernel
theorem dX12_isWord_21 : decode cX12_isWord 21 = .ok (.iconst 0, 1) := by decide +kernel
theorem dX12_isWord_22 : decode cX12_isWord 22 = .ok (.ireturn, 1) := by decide +kernel
theorem dX12_isThing_0 : decode cX12_isThing 0 = .ok (.aload_n 0, 1) := by decide +kernel
theorem dX12_isThing_1 : decode cX12_isThing 1 = .ok (.bipush 116, 2) := by decide +kernel
theorem dX12_isThing_3 : decode cX12_isThing 3 = .ok (.bipush 104, 2) := by decide +kernel
theorem dX12_isThing_5 : decode cX12_isThing 5 = .ok (.bipush 105, 2) := by decide +kernel
theorem dX12_isThing_7 : decode cX12_isThing 7 = .ok (.bipush 110, 2) := by decide +kernel
theorem dX12_isThing_9 : decode cX12_isThing 9 = .ok (.bipush 103, 2) := by decide +kernel
theorem dX12_isThing_11 : decode cX12_isThing 11 = .ok (.iconst 0, 1) := by decide +kernel
theorem dX12_isThing_12 : decode cX12_isThing 12 = .ok (.invokestatic 154, 3) := by decide +kernel
theorem dX12_isThing_15 : decode cX12_isThing 15 = .ok (.invokevirtual 158, 3) := by decide +kernel
theorem dX12_isThing_18 : decode cX12_isThing 18 = .ok (.ireturn, 1) := by decide +kernel
theorem dX12_isWorth_0 : decode cX12_isWorth 0 = .ok (.aload_n 0, 1) := by decide +kernel
theorem dX12_isWorth_1 : decode cX12_isWorth 1 = .ok (.bipush 119, 2) := by decide +kernel
theorem dX12_isWorth_3 : decode cX12_isWorth 3 = .ok (.bipush 111, 2) := by decide +kernel
theorem dX12_isWorth_5 : decode cX12_isWorth 5 = .ok (.bipush 114, 2) := by decide +kernel
theorem dX12_isWorth_7 : decode cX12_isWorth 7 = .ok (.bipush 116, 2) := by decide +kernel
theorem dX12_isWorth_9 : decode cX12_isWorth 9 = .ok (.bipush 104, 2) := by decide +kernel
theorem dX12_isWorth_11 : decode cX12_isWorth 11 = .ok (.iconst 0, 1) := by decide +kernel
theorem dX12_isWorth_12 : decode cX12_isWorth 12 = .ok (.invokestatic 154, 3) := by decide +kernel
theorem dX12_isWorth_15 : decode cX12_isWorth 15 = .ok (.invokevirtual 158, 3) := by decide +kernel
theorem dX12_isWorth_18 : decode cX12_isWorth 18 = .ok (.ireturn, 1) := by decide +kernel
theorem dX12_isExemptWord_0 : decode cX12_isExemptWord 0 = .ok (.aload_n 0, 1) := by decide +kernel
theorem dX12_isExemptWord_1 : decode cX12_isExemptWord 1 = .ok (.bipush 101, 2) := by decide +kernel
theorem dX12_isExemptWord_3 : decode cX12_isExemptWord 3 = .ok (.bipush 120, 2) := by decide +kernel
theorem dX12_isExemptWord_5 : decode cX12_isExemptWord 5 = .ok (.bipush 101, 2) := by decide +kernel
theorem dX12_isExemptWord_7 : decode cX12_isExemptWord 7 = .ok (.bipush 109, 2) := by decide +kernel
theorem dX12_isExemptWord_9 : decode cX12_isExemptWord 9 = .ok (.bipush 112, 2) := by decide +kernel
theorem dX12_isExemptWord_11 : decode cX12_isExemptWord 11 = .ok (.bipush 116, 2) := by decide +kernel
theorem dX12_isExemptWord_13 : decode cX12_isExemptWord 13 = .ok (.invokestatic 154, 3) := by decide +kernel
theorem dX12_isExemptWord_16 : decode cX12_isExemptWord 16 = .ok (.invokevirtual 158, 3) := by decide +kernel
theorem dX12_isExemptWord_19 : decode cX12_isExemptWord 19 = .ok (.ireturn, 1) := by decide +kernel
theorem dX12_isMakes_0 : decode cX12_isMakes 0 = .ok (.aload_n 0, 1) := by decide +kernel
theorem dX12_isMakes_1 : decode cX12_isMakes 1 = .ok (.bipush 109, 2) := by decide +kernel
theorem dX12_isMakes_3 : decode cX12_isMakes 3 = .ok (.bipush 97, 2) := by decide +kernel
theorem dX12_isMakes_5 : decode cX12_isMakes 5 = .ok (.bipush 107, 2) := by decide +kernel
theorem dX12_isMakes_7 : decode cX12_isMakes 7 = .ok (.bipush 101, 2) := by decide +kernel
theorem dX12_isMakes_9 : decode cX12_isMakes 9 = .ok (.bipush 115, 2) := by decide +kernel
theorem dX12_isMakes_11 : decode cX12_isMakes 11 = .ok (.iconst 0, 1) := by decide +kernel
theorem dX12_isMakes_12 : decode cX12_isMakes 12 = .ok (.invokestatic 154, 3) := by decide +kernel
theorem dX12_isMakes_15 : decode cX12_isMakes 15 = .ok (.invokevirtual 158, 3) := by decide +kernel
theorem dX12_isMakes_18 : decode cX12_isMakes 18 = .ok (.ireturn, 1) := by decide +kernel
theorem dX12_isFrom_0 : decode cX12_isFrom 0 = .ok (.aload_n 0, 1) := by decide +kernel
theorem dX12_isFrom_1 : decode cX12_isFrom 1 = .ok (.bipush 102, 2) := by decide +kernel
theorem dX12_isFrom_3 : decode cX12_isFrom 3 = .ok (.bipush 114, 2) := by decide +kernel
theorem dX12_isFrom_5 : decode cX12_isFrom 5 = .ok (.bipush 111, 2) := by decide +kernel
theorem dX12_isFrom_7 : decode cX12_isFrom 7 = .ok (.bipush 109, 2) := by decide +kernel
theorem dX12_isFrom_9 : decode cX12_isFrom 9 = .ok (.iconst 0, 1) := by decide +kernel
theorem dX12_isFrom_10 : decode cX12_isFrom 10 = .ok (.iconst 0, 1) := by decide +kernel
theorem dX12_isFrom_11 : decode cX12_isFrom 11 = .ok (.invokestatic 154, 3) := by decide +kernel
theorem dX12_isFrom_14 : decode cX12_isFrom 14 = .ok (.invokevirtual 158, 3) := by decide +kernel
theorem dX12_isFrom_17 : decode cX12_isFrom 17 = .ok (.ireturn, 1) := by decide +kernel
theorem dX12_isWork_0 : decode cX12_isWork 0 = .ok (.aload_n 0, 1) := by decide +kernel
theorem dX12_isWork_1 : decode cX12_isWork 1 = .ok (.bipush 119, 2) := by decide +kernel
theorem dX12_isWork_3 : decode cX12_isWork 3 = .ok (.bipush 111, 2) := by decide +kernel
theorem dX12_isWork_5 : decode cX12_isWork 5 = .ok (.bipush 114, 2) := by decide +kernel
theorem dX12_isWork_7 : decode cX12_isWork 7 = .ok (.bipush 107, 2) := by decide +kernel
theorem dX12_isWork_9 : decode cX12_isWork 9 = .ok (.iconst 0, 1) := by decide +kernel
theorem dX12_isWork_10 : decode cX12_isWork 10 = .ok (.iconst 0, 1) := by decide +kernel
theorem dX12_isWork_11 : decode cX12_isWork 11 = .ok (.invokestatic 154, 3) := by decide +kernel
theorem dX12_isWork_14 : decode cX12_isWork 14 = .ok (.invokevirtual 158, 3) := by decide +kernel
theorem dX12_isWork_17 : decode cX12_isWork 17 = .ok (.ireturn, 1) := by decide +kernel
theorem dX12_isNeeds_0 : decode cX12_isNeeds 0 = .ok (.aload_n 0, 1) := by decide +kernel
theorem dX12_isNeeds_1 : decode cX12_isNeeds 1 = .ok (.bipush 110, 2) := by decide +kernel
theorem dX12_isNeeds_3 : decode cX12_isNeeds 3 = .ok (.bipush 101, 2) := by decide +kernel
theorem dX12_isNeeds_5 : decode cX12_isNeeds 5 = .ok (.bipush 101, 2) := by decide +kernel
theorem dX12_isNeeds_7 : decode cX12_isNeeds 7 = .ok (.bipush 100, 2) := by decide +kernel
theorem dX12_isNeeds_9 : decode cX12_isNeeds 9 = .ok (.bipush 115, 2) := by decide +kernel
theorem dX12_isNeeds_11 : decode cX12_isNeeds 11 = .ok (.iconst 0, 1) := by decide +kernel
theorem dX12_isNeeds_12 : decode cX12_isNeeds 12 = .ok (.invokestatic 154, 3) := by decide +kernel
theorem dX12_isNeeds_15 : decode cX12_isNeeds 15 = .ok (.invokevirtual 158, 3) := by decide +kernel
theorem dX12_isNeeds_18 : decode cX12_isNeeds 18 = .ok (.ireturn, 1) := by decide +kernel
theorem dX12_isVoter_0 : decode cX12_isVoter 0 = .ok (.aload_n 0, 1) := by decide +kernel
theorem dX12_isVoter_1 : decode cX12_isVoter 1 = .ok (.bipush 118, 2) := by decide +kernel
theorem dX12_isVoter_3 : decode cX12_isVoter 3 = .ok (.bipush 111, 2) := by decide +kernel
theorem dX12_isVoter_5 : decode cX12_isVoter 5 = .ok (.bipush 116, 2) := by decide +kernel
theorem dX12_isVoter_7 : decode cX12_isVoter 7 = .ok (.bipush 101, 2) := by decide +kernel
theorem dX12_isVoter_9 : decode cX12_isVoter 9 = .ok (.bipush 114, 2) := by decide +kernel
theorem dX12_isVoter_11 : decode cX12_isVoter 11 = .ok (.iconst 0, 1) := by decide +kernel
theorem dX12_isVoter_12 : decode cX12_isVoter 12 = .ok (.invokestatic 154, 3) := by decide +kernel
theorem dX12_isVoter_15 : decode cX12_isVoter 15 = .ok (.invokevirtual 158, 3) := by decide +kernel
theorem dX12_isVoter_18 : decode cX12_isVoter 18 = .ok (.ireturn, 1) := by decide +kernel
theorem dX12_isHates_0 : decode cX12_isHates 0 = .ok (.aload_n 0, 1) := by decide +kernel
theorem dX12_isHates_1 : decode cX12_isHates 1 = .ok (.bipush 104, 2) := by decide +kernel
theorem dX12_isHates_3 : decode cX12_isHates 3 = .ok (.bipush 97, 2) := by decide +kernel
theorem dX12_isHates_5 : decode cX12_isHates 5 = .ok (.bipush 116, 2) := by decide +kernel
theorem dX12_isHates_7 : decode cX12_isHates 7 = .ok (.bipush 101, 2) := by decide +kernel
theorem dX12_isHates_9 : decode cX12_isHates 9 = .ok (.bipush 115, 2) := by decide +kernel
theorem dX12_isHates_11 : decode cX12_isHates 11 = .ok (.iconst 0, 1) := by decide +kernel
theorem dX12_isHates_12 : decode cX12_isHates 12 = .ok (.invokestatic 154, 3) := by decide +kernel
theorem dX12_isHates_15 : decode cX12_isHates 15 = .ok (.invokevirtual 158, 3) := by decide +kernel
theorem dX12_isHates_18 : decode cX12_isHates 18 = .ok (.ireturn, 1) := by decide +kernel
theorem dX12_isAhead_0 : decode cX12_isAhead 0 = .ok (.aload_n 0, 1) := by decide +kernel
theorem dX12_isAhead_1 : decode cX12_isAhead 1 = .ok (.bipush 97, 2) := by decide +kernel
theorem dX12_isAhead_3 : decode cX12_isAhead 3 = .ok (.bipush 104, 2) := by decide +kernel
theorem dX12_isAhead_5 : decode cX12_isAhead 5 = .ok (.bipush 101, 2) := by decide +kernel
theorem dX12_isAhead_7 : decode cX12_isAhead 7 = .ok (.bipush 97, 2) := by decide +kernel
theorem dX12_isAhead_9 : decode cX12_isAhead 9 = .ok (.bipush 100, 2) := by decide +kernel
theorem dX12_isAhead_11 : decode cX12_isAhead 11 = .ok (.iconst 0, 1) := by decide +kernel
theorem dX12_isAhead_12 : decode cX12_isAhead 12 = .ok (.invokestatic 154, 3) := by decide +kernel
theorem dX12_isAhead_15 : decode cX12_isAhead 15 = .ok (.invokevirtual 158, 3) := by decide +kernel
theorem dX12_isAhead_18 : decode cX12_isAhead 18 = .ok (.ireturn, 1) := by decide +kernel
theorem dX12_isLaw_0 : decode cX12_isLaw 0 = .ok (.aload_n 0, 1) := by decide +kernel
theorem dX12_isLaw_1 : decode cX12_isLaw 1 = .ok (.bipush 108, 2) := by decide +kernel
theorem dX12_isLaw_3 : decode cX12_isLaw 3 = .ok (.bipush 97, 2) := by decide +kernel
theorem dX12_isLaw_5 : decode cX12_isLaw 5 = .ok (.bipush 119, 2) := by decide +kernel
theorem dX12_isLaw_7 : decode cX12_isLaw 7 = .ok (.iconst 0, 1) := by decide +kernel
theorem dX12_isLaw_8 : decode cX12_isLaw 8 = .ok (.iconst 0, 1) := by decide +kernel
theorem dX12_isLaw_9 : decode cX12_isLaw 9 = .ok (.iconst 0, 1) := by decide +kernel
theorem dX12_isLaw_10 : decode cX12_isLaw 10 = .ok (.invokestatic 154, 3) := by decide +kernel
theorem dX12_isLaw_13 : decode cX12_isLaw 13 = .ok (.invokevirtual 158, 3) := by decide +kernel
theorem dX12_isLaw_16 : decode cX12_isLaw 16 = .ok (.ireturn, 1) := by decide +kernel
theorem dX12_stepWord_0 : decode cX12_stepWord 0 = .ok (.aload_n 0, 1) := by decide +kernel
theorem dX12_stepWord_1 : decode cX12_stepWord 1 = .ok (.bipush 121, 2) := by decide +kernel
theorem dX12_stepWord_3 : decode cX12_stepWord 3 = .ok (.bipush 101, 2) := by decide +kernel
theorem dX12_stepWord_5 : decode cX12_stepWord 5 = .ok (.bipush 97, 2) := by decide +kernel
theorem dX12_stepWord_7 : decode cX12_stepWord 7 = .ok (.bipush 114, 2) := by decide +kernel
theorem dX12_stepWord_9 : decode cX12_stepWord 9 = .ok (.iconst 0, 1) := by decide +kernel
theorem dX12_stepWord_10 : decode cX12_stepWord 10 = .ok (.iconst 0, 1) := by decide +kernel
theorem dX12_stepWord_11 : decode cX12_stepWord 11 = .ok (.invokestatic 154, 3) := by decide +kernel
theorem dX12_stepWord_14 : decode cX12_stepWord 14 = .ok (.invokevirtual 158, 3) := by decide +kernel
theorem dX12_stepWord_17 : decode cX12_stepWord 17 = .ok (.ifCond .eq 5, 3) := by decide +kernel
theorem dX12_stepWord_20 : decode cX12_stepWord 20 = .ok (.iconst 0, 1) := by decide +kernel
theorem dX12_stepWord_21 : decode cX12_stepWord 21 = .ok (.ireturn, 1) := by decide +kernel
theorem dX12_stepWord_22 : decode cX12_stepWord 22 = .ok (.aload_n 0, 1) := by decide +kernel
theorem dX12_stepWord_23 : decode cX12_stepWord 23 = .ok (.bipush 117, 2) := by decide +kernel
theorem dX12_stepWord_25 : decode cX12_stepWord 25 = .ok (.bipush 110, 2) := by decide +kernel
theorem dX12_stepWord_27 : decode cX12_stepWord 27 = .ok (.bipush 109, 2) := by decide +kernel
theorem dX12_stepWord_29 : decode cX12_stepWord 29 = .ok (.bipush 97, 2) := by decide +kernel
theorem dX12_stepWord_31 : decode cX12_stepWord 31 = .ok (.bipush 107, 2) := by decide +kernel
theorem dX12_stepWord_33 : decode cX12_stepWord 33 = .ok (.bipush 101, 2) := by decide +kernel
theorem dX12_stepWord_35 : decode cX12_stepWord 35 = .ok (.invokestatic 154, 3) := by decide +kernel
theorem dX12_stepWord_38 : decode cX12_stepWord 38 = .ok (.invokevirtual 158, 3) := by decide +kernel
theorem dX12_stepWord_41 : decode cX12_stepWord 41 = .ok (.ifCond .eq 5, 3) := by decide +kernel
theorem dX12_stepWord_44 : decode cX12_stepWord 44 = .ok (.iconst 1, 1) := by decide +kernel
theorem dX12_stepWord_45 : decode cX12_stepWord 45 = .ok (.ireturn, 1) := by decide +kernel
theorem dX12_stepWord_46 : decode cX12_stepWord 46 = .ok (.aload_n 0, 1) := by decide +kernel
theorem dX12_stepWord_47 : decode cX12_stepWord 47 = .ok (.bipush 114, 2) := by decide +kernel
theorem dX12_stepWord_49 : decode cX12_stepWord 49 = .ok (.bipush 101, 2) := by decide +kernel
theorem dX12_stepWord_51 : decode cX12_stepWord 51 = .ok (.bipush 109, 2) := by decide +kernel
theorem dX12_stepWord_53 : decode cX12_stepWord 53 = .ok (.bipush 97, 2) := by decide +kernel
theorem dX12_stepWord_55 : decode cX12_stepWord 55 = .ok (.bipush 107, 2) := by decide +kernel
theorem dX12_stepWord_57 : decode cX12_stepWord 57 = .ok (.bipush 101, 2) := by decide +kernel
theorem dX12_stepWord_59 : decode cX12_stepWord 59 = .ok (.invokestatic 154, 3) := by decide +kernel
theorem dX12_stepWord_62 : decode cX12_stepWord 62 = .ok (.invokevirtual 158, 3) := by decide +kernel
theorem dX12_stepWord_65 : decode cX12_stepWord 65 = .ok (.ifCond .eq 5, 3) := by decide +kernel
theorem dX12_stepWord_68 : decode cX12_stepWord 68 = .ok (.iconst 2, 1) := by decide +kernel
theorem dX12_stepWord_69 : decode cX12_stepWord 69 = .ok (.ireturn, 1) := by decide +kernel
theorem dX12_stepWord_70 : decode cX12_stepWord 70 = .ok (.aload_n 0, 1) := by decide +kernel
theorem dX12_stepWord_71 : decode cX12_stepWord 71 = .ok (.bipush 115, 2) := by decide +kernel
theorem dX12_stepWord_73 : decode cX12_stepWord 73 = .ok (.bipush 112, 2) := by decide +kernel
theorem dX12_stepWord_75 : decode cX12_stepWord 75 = .ok (.bipush 97, 2) := by decide +kernel
theorem dX12_stepWord_77 : decode cX12_stepWord 77 = .ok (.bipush 114, 2) := by decide +kernel
theorem dX12_stepWord_79 : decode cX12_stepWord 79 = .ok (.bipush 101, 2) := by decide +kernel
theorem dX12_stepWord_81 : decode cX12_stepWord 81 = .ok (.iconst 0, 1) := by decide +kernel
theorem dX12_stepWord_82 : decode cX12_stepWord 82 = .ok (.invokestatic 154, 3) := by decide +kernel
theorem dX12_stepWord_85 : decode cX12_stepWord 85 = .ok (.invokevirtual 158, 3) := by decide +kernel
theorem dX12_stepWord_88 : decode cX12_stepWord 88 = .ok (.ifCond .eq 5, 3) := by decide +kernel
theorem dX12_stepWord_91 : decode cX12_stepWord 91 = .ok (.iconst 3, 1) := by decide +kernel
theorem dX12_stepWord_92 : decode cX12_stepWord 92 = .ok (.ireturn, 1) := by decide +kernel
theorem dX12_stepWord_93 : decode cX12_stepWord 93 = .ok (.aload_n 0, 1) := by decide +kernel
theorem dX12_stepWord_94 : decode cX12_stepWord 94 = .ok (.bipush 106, 2) := by decide +kernel
theorem dX12_stepWord_96 : decode cX12_stepWord 96 = .ok (.bipush 111, 2) := by decide +kernel
theorem dX12_stepWord_98 : decode cX12_stepWord 98 = .ok (.bipush 107, 2) := by decide +kernel
theorem dX12_stepWord_100 : decode cX12_stepWord 100 = .ok (.bipush 101, 2) := by decide +kernel
theorem dX12_stepWord_102 : decode cX12_stepWord 102 = .ok (.iconst 0, 1) := by decide +kernel
theorem dX12_stepWord_103 : decode cX12_stepWord 103 = .ok (.iconst 0, 1) := by decide +kernel
theorem dX12_stepWord_104 : decode cX12_stepWord 104 = .ok (.invokestatic 154, 3) := by decide +kernel
theorem dX12_stepWord_107 : decode cX12_stepWord 107 = .ok (.invokevirtual 158, 3) := by decide +kernel
theorem dX12_stepWord_110 : decode cX12_stepWord 110 = .ok (.ifCond .eq 5, 3) := by decide +kernel
theorem dX12_stepWord_113 : decode cX12_stepWord 113 = .ok (.iconst 4, 1) := by decide +kernel
theorem dX12_stepWord_114 : decode cX12_stepWord 114 = .ok (.ireturn, 1) := by decide +kernel
theorem dX12_stepWord_115 : decode cX12_stepWord 115 = .ok (.aload_n 0, 1) := by decide +kernel
theorem dX12_stepWord_116 : decode cX12_stepWord 116 = .ok (.bipush 119, 2) := by decide +kernel
theorem dX12_stepWord_118 : decode cX12_stepWord 118 = .ok (.bipush 104, 2) := by decide +kernel
theorem dX12_stepWord_120 : decode cX12_stepWord 120 = .ok (.bipush 101, 2) := by decide +kernel
theorem dX12_stepWord_122 : decode cX12_stepWord 122 = .ok (.bipush 110, 2) := by decide +kernel
theorem dX12_stepWord_124 : decode cX12_stepWord 124 = .ok (.iconst 0, 1) := by decide +kernel
theorem dX12_stepWord_125 : decode cX12_stepWord 125 = .ok (.iconst 0, 1) := by decide +kernel
theorem dX12_stepWord_126 : decode cX12_stepWord 126 = .ok (.invokestatic 154, 3) := by decide +kernel
theorem dX12_stepWord_129 : decode cX12_stepWord 129 = .ok (.invokevirtual 158, 3) := by decide +kernel
theorem dX12_stepWord_132 : decode cX12_stepWord 132 = .ok (.ifCond .eq 5, 3) := by decide +kernel
theorem dX12_stepWord_135 : decode cX12_stepWord 135 = .ok (.iconst 5, 1) := by decide +kernel
theorem dX12_stepWord_136 : decode cX12_stepWord 136 = .ok (.ireturn, 1) := by decide +kernel
theorem dX12_stepWord_137 : decode cX12_stepWord 137 = .ok (.aload_n 0, 1) := by decide +kernel
theorem dX12_stepWord_138 : decode cX12_stepWord 138 = .ok (.bipush 108, 2) := by decide +kernel
theorem dX12_stepWord_140 : decode cX12_stepWord 140 = .ok (.bipush 111, 2) := by decide +kernel
theorem dX12_stepWord_142 : decode cX12_stepWord 142 = .ok (.bipush 111, 2) := by decide +kernel
theorem dX12_stepWord_144 : decode cX12_stepWord 144 = .ok (.bipush 112, 2) := by decide +kernel
theorem dX12_stepWord_146 : decode cX12_stepWord 146 = .ok (.iconst 0, 1) := by decide +kernel
theorem dX12_stepWord_147 : decode cX12_stepWord 147 = .ok (.iconst 0, 1) := by decide +kernel
theorem dX12_stepWord_148 : decode cX12_stepWord 148 = .ok (.invokestatic 154, 3) := by decide +kernel
theorem dX12_stepWord_151 : decode cX12_stepWord 151 = .ok (.invokevirtual 158, 3) := by decide +kernel
theorem dX12_stepWord_154 : decode cX12_stepWord 154 = .ok (.ifCond .eq 6, 3) := by decide +kernel
theorem dX12_stepWord_157 : decode cX12_stepWord 157 = .ok (.bipush 6, 2) := by decide +kernel
theorem dX12_stepWord_159 : decode cX12_stepWord 159 = .ok (.ireturn, 1) := by decide +kernel
theorem dX12_stepWord_160 : decode cX12_stepWord 160 = .ok (.aload_n 0, 1) := by decide +kernel
theorem dX12_stepWord_161 : decode cX12_stepWord 161 = .ok (.bipush 115, 2) := by decide +kernel
theorem dX12_stepWord_163 : decode cX12_stepWord 163 = .ok (.bipush 116, 2) := by decide +kernel
theorem dX12_stepWord_165 : decode cX12_stepWord 165 = .ok (.bipush 111, 2) := by decide +kernel
theorem dX12_stepWord_167 : decode cX12_stepWord 167 = .ok (.bipush 112, 2) := by decide +kernel
theorem dX12_stepWord_169 : decode cX12_stepWord 169 = .ok (.iconst 0, 1) := by decide +kernel
theorem dX12_stepWord_170 : decode cX12_stepWord 170 = .ok (.iconst 0, 1) := by decide +kernel
theorem dX12_stepWord_171 : decode cX12_stepWord 171 = .ok (.invokestatic 154, 3) := by decide +kernel
theorem dX12_stepWord_174 : decode cX12_stepWord 174 = .ok (.invokevirtual 158, 3) := by decide +kernel
theorem dX12_stepWord_177 : decode cX12_stepWord 177 = .ok (.ifCond .eq 8, 3) := by decide +kernel
theorem dX12_stepWord_180 : decode cX12_stepWord 180 = .ok (.bipush 7, 2) := by decide +kernel
theorem dX12_stepWord_182 : decode cX12_stepWord 182 = .ok (.goto 4, 3) := by decide +kernel
theorem dX12_stepWord_185 : decode cX12_stepWord 185 = .ok (.iconst (-1), 1) := by decide +kernel
theorem dX12_stepWord_186 : decode cX12_stepWord 186 = .ok (.ireturn, 1) := by decide +kernel
theorem dX12_testWord_0 : decode cX12_testWord 0 = .ok (.aload_n 0, 1) := by decide +kernel
theorem dX12_testWord_1 : decode cX12_testWord 1 = .ok (.bipush 115, 2) := by decide +kernel
theorem dX12_testWord_3 : decode cX12_testWord 3 = .ok (.bipush 116, 2) := by decide +kernel
theorem dX12_testWord_5 : decode cX12_testWord 5 = .ok (.bipush 97, 2) := by decide +kernel
theorem dX12_testWord_7 : decode cX12_testWord 7 = .ok (.bipush 110, 2) := by decide +kernel
theorem dX12_testWord_9 : decode cX12_testWord 9 = .ok (.bipush 100, 2) := by decide +kernel
theorem dX12_testWord_11 : decode cX12_testWord 11 = .ok (.bipush 115, 2) := by decide +kernel
theorem dX12_testWord_13 : decode cX12_testWord 13 = .ok (.invokestatic 154, 3) := by decide +kernel
theorem dX12_testWord_16 : decode cX12_testWord 16 = .ok (.invokevirtual 158, 3) := by decide +kernel
theorem dX12_testWord_19 : decode cX12_testWord 19 = .ok (.ifCond .eq 5, 3) := by decide +kernel
theorem dX12_testWord_22 : decode cX12_testWord 22 = .ok (.iconst 0, 1) := by decide +kernel
theorem dX12_testWord_23 : decode cX12_testWord 23 = .ok (.ireturn, 1) := by decide +kernel
theorem dX12_testWord_24 : decode cX12_testWord 24 = .ok (.aload_n 0, 1) := by decide +kernel
theorem dX12_testWord_25 : decode cX12_testWord 25 = .ok (.bipush 100, 2) := by decide +kernel
theorem dX12_testWord_27 : decode cX12_testWord 27 = .ok (.bipush 111, 2) := by decide +kernel
theorem dX12_testWord_29 : decode cX12_testWord 29 = .ok (.bipush 110, 2) := by decide +kernel
theorem dX12_testWord_31 : decode cX12_testWord 31 = .ok (.bipush 101, 2) := by decide +kernel
theorem dX12_testWord_33 : decode cX12_testWord 33 = .ok (.iconst 0, 1) := by decide +kernel
theorem dX12_testWord_34 : decode cX12_testWord 34 = .ok (.iconst 0, 1) := by decide +kernel
theorem dX12_testWord_35 : decode cX12_testWord 35 = .ok (.invokestatic 154, 3) := by decide +kernel
theorem dX12_testWord_38 : decode cX12_testWord 38 = .ok (.invokevirtual 158, 3) := by decide +kernel
theorem dX12_testWord_41 : decode cX12_testWord 41 = .ok (.ifCond .eq 5, 3) := by decide +kernel
theorem dX12_testWord_44 : decode cX12_testWord 44 = .ok (.iconst 1, 1) := by decide +kernel
theorem dX12_testWord_45 : decode cX12_testWord 45 = .ok (.ireturn, 1) := by decide +kernel
theorem dX12_testWord_46 : decode cX12_testWord 46 = .ok (.aload_n 0, 1) := by decide +kernel
theorem dX12_testWord_47 : decode cX12_testWord 47 = .ok (.bipush 118, 2) := by decide +kernel
theorem dX12_testWord_49 : decode cX12_testWord 49 = .ok (.bipush 111, 2) := by decide +kernel
theorem dX12_testWord_51 : decode cX12_testWord 51 = .ok (.bipush 116, 2) := by decide +kernel
theorem dX12_testWord_53 : decode cX12_testWord 53 = .ok (.bipush 101, 2) := by decide +kernel
theorem dX12_testWord_55 : decode cX12_testWord 55 = .ok (.bipush 115, 2) := by decide +kernel
theorem dX12_testWord_57 : decode cX12_testWord 57 = .ok (.iconst 0, 1) := by decide +kernel
theorem dX12_testWord_58 : decode cX12_testWord 58 = .ok (.invokestatic 154, 3) := by decide +kernel
theorem dX12_testWord_61 : decode cX12_testWord 61 = .ok (.invokevirtual 158, 3) := by decide +kernel
theorem dX12_testWord_64 : decode cX12_testWord 64 = .ok (.ifCond .eq 7, 3) := by decide +kernel
theorem dX12_testWord_67 : decode cX12_testWord 67 = .ok (.iconst 2, 1) := by decide +kernel
theorem dX12_testWord_68 : decode cX12_testWord 68 = .ok (.goto 4, 3) := by decide +kernel
theorem dX12_testWord_71 : decode cX12_testWord 71 = .ok (.iconst (-1), 1) := by decide +kernel
theorem dX12_testWord_72 : decode cX12_testWord 72 = .ok (.ireturn, 1) := by decide +kernel
theorem dX12_isEnd_0 : decode cX12_isEnd 0 = .ok (.aload_n 0, 1) := by decide +kernel
theorem dX12_isEnd_1 : decode cX12_isEnd 1 = .ok (.bipush 101, 2) := by decide +kernel
theorem dX12_isEnd_3 : decode cX12_isEnd 3 = .ok (.bipush 110, 2) := by decide +kernel
theorem dX12_isEnd_5 : decode cX12_isEnd 5 = .ok (.bipush 100, 2) := by decide +kernel
theorem dX12_isEnd_7 : decode cX12_isEnd 7 = .ok (.iconst 0, 1) := by decide +kernel
theorem dX12_isEnd_8 : decode cX12_isEnd 8 = .ok (.iconst 0, 1) := by decide +kernel
theorem dX12_isEnd_9 : decode cX12_isEnd 9 = .ok (.iconst 0, 1) := by decide +kernel
theorem dX12_isEnd_10 : decode cX12_isEnd 10 = .ok (.invokestatic 154, 3) := by decide +kernel
theorem dX12_isEnd_13 : decode cX12_isEnd 13 = .ok (.invokevirtual 158, 3) := by decide +kernel
theorem dX12_isEnd_16 : decode cX12_isEnd 16 = .ok (.ireturn, 1) := by decide +kernel
theorem dX12_isKept_0 : decode cX12_isKept 0 = .ok (.aload_n 0, 1) := by decide +kernel
theorem dX12_isKept_1 : decode cX12_isKept 1 = .ok (.invokevirtual 162, 3) := by decide +kernel
theorem dX12_isKept_4 : decode cX12_isKept 4 = .ok (.ifCond .ne 73, 3) := by decide +kernel
theorem dX12_isKept_7 : decode cX12_isKept 7 = .ok (.aload_n 0, 1) := by decide +kernel
theorem dX12_isKept_8 : decode cX12_isKept 8 = .ok (.invokevirtual 166, 3) := by decide +kernel
theorem dX12_isKept_11 : decode cX12_isKept 11 = .ok (.ifCond .ne 66, 3) := by decide +kernel
theorem dX12_isKept_14 : decode cX12_isKept 14 = .ok (.aload_n 0, 1) := by decide +kernel
theorem dX12_isKept_15 : decode cX12_isKept 15 = .ok (.invokevirtual 169, 3) := by decide +kernel
theorem dX12_isKept_18 : decode cX12_isKept 18 = .ok (.ifCond .ne 59, 3) := by decide +kernel
theorem dX12_isKept_21 : decode cX12_isKept 21 = .ok (.aload_n 0, 1) := by decide +kernel
theorem dX12_isKept_22 : decode cX12_isKept 22 = .ok (.invokevirtual 172, 3) := by decide +kernel
theorem dX12_isKept_25 : decode cX12_isKept 25 = .ok (.ifCond .ne 52, 3) := by decide +kernel
theorem dX12_isKept_28 : decode cX12_isKept 28 = .ok (.aload_n 0, 1) := by decide +kernel
theorem dX12_isKept_29 : decode cX12_isKept 29 = .ok (.invokevirtual 175, 3) := by decide +kernel
theorem dX12_isKept_32 : decode cX12_isKept 32 = .ok (.ifCond .ne 45, 3) := by decide +kernel
theorem dX12_isKept_35 : decode cX12_isKept 35 = .ok (.aload_n 0, 1) := by decide +kernel
theorem dX12_isKept_36 : decode cX12_isKept 36 = .ok (.invokevirtual 178, 3) := by decide +kernel
theorem dX12_isKept_39 : decode cX12_isKept 39 = .ok (.ifCond .ne 38, 3) := by decide +kernel
theorem dX12_isKept_42 : decode cX12_isKept 42 = .ok (.aload_n 0, 1) := by decide +kernel
theorem dX12_isKept_43 : decode cX12_isKept 43 = .ok (.invokevirtual 181, 3) := by decide +kernel
theorem dX12_isKept_46 : decode cX12_isKept 46 = .ok (.ifCond .ne 31, 3) := by decide +kernel
theorem dX12_isKept_49 : decode cX12_isKept 49 = .ok (.aload_n 0, 1) := by decide +kernel
theorem dX12_isKept_50 : decode cX12_isKept 50 = .ok (.invokevirtual 184, 3) := by decide +kernel
theorem dX12_isKept_53 : decode cX12_isKept 53 = .ok (.ifCond .ne 24, 3) := by decide +kernel
theorem dX12_isKept_56 : decode cX12_isKept 56 = .ok (.aload_n 0, 1) := by decide +kernel
theorem dX12_isKept_57 : decode cX12_isKept 57 = .ok (.invokevirtual 187, 3) := by decide +kernel
theorem dX12_isKept_60 : decode cX12_isKept 60 = .ok (.ifCond .ne 17, 3) := by decide +kernel
theorem dX12_isKept_63 : decode cX12_isKept 63 = .ok (.aload_n 0, 1) := by decide +kernel
theorem dX12_isKept_64 : decode cX12_isKept 64 = .ok (.invokevirtual 190, 3) := by decide +kernel
theorem dX12_isKept_67 : decode cX12_isKept 67 = .ok (.ifCond .ne 10, 3) := by decide +kernel
theorem dX12_isKept_70 : decode cX12_isKept 70 = .ok (.aload_n 0, 1) := by decide +kernel
theorem dX12_isKept_71 : decode cX12_isKept 71 = .ok (.invokevirtual 193, 3) := by decide +kernel
theorem dX12_isKept_74 : decode cX12_isKept 74 = .ok (.ifCond .eq 5, 3) := by decide +kernel
theorem dX12_isKept_77 : decode cX12_isKept 77 = .ok (.iconst 1, 1) := by decide +kernel
theorem dX12_isKept_78 : decode cX12_isKept 78 = .ok (.ireturn, 1) := by decide +kernel
theorem dX12_isKept_79 : decode cX12_isKept 79 = .ok (.aload_n 0, 1) := by decide +kernel
theorem dX12_isKept_80 : decode cX12_isKept 80 = .ok (.invokevirtual 196, 3) := by decide +kernel
theorem dX12_isKept_83 : decode cX12_isKept 83 = .ok (.ifCond .ge 17, 3) := by decide +kernel
theorem dX12_isKept_86 : decode cX12_isKept 86 = .ok (.aload_n 0, 1) := by decide +kernel
theorem dX12_isKept_87 : decode cX12_isKept 87 = .ok (.invokevirtual 200, 3) := by decide +kernel
theorem dX12_isKept_90 : decode cX12_isKept 90 = .ok (.ifCond .ge 10, 3) := by decide +kernel
theorem dX12_isKept_93 : decode cX12_isKept 93 = .ok (.aload_n 0, 1) := by decide +kernel
theorem dX12_isKept_94 : decode cX12_isKept 94 = .ok (.invokevirtual 203, 3) := by decide +kernel
theorem dX12_isKept_97 : decode cX12_isKept 97 = .ok (.ifCond .eq 7, 3) := by decide +kernel
theorem dX12_isKept_100 : decode cX12_isKept 100 = .ok (.iconst 1, 1) := by decide +kernel
theorem dX12_isKept_101 : decode cX12_isKept 101 = .ok (.goto 4, 3) := by decide +kernel
theorem dX12_isKept_104 : decode cX12_isKept 104 = .ok (.iconst 0, 1) := by decide +kernel
theorem dX12_isKept_105 : decode cX12_isKept 105 = .ok (.ireturn, 1) := by decide +kernel
theorem dX12_isName_0 : decode cX12_isName 0 = .ok (.aload_n 0, 1) := by decide +kernel
theorem dX12_isName_1 : decode cX12_isName 1 = .ok (.getfield 129, 3) := by decide +kernel
theorem dX12_isName_4 : decode cX12_isName 4 = .ok (.iconst 1, 1) := by decide +kernel
theorem dX12_isName_5 : decode cX12_isName 5 = .ok (.if_icmp .ne 23, 3) := by decide +kernel
theorem dX12_isName_8 : decode cX12_isName 8 = .ok (.aload_n 0, 1) := by decide +kernel
theorem dX12_isName_9 : decode cX12_isName 9 = .ok (.getfield 142, 3) := by decide +kernel
theorem dX12_isName_12 : decode cX12_isName 12 = .ok (.bipush 8, 2) := by decide +kernel
theorem dX12_isName_14 : decode cX12_isName 14 = .ok (.if_icmp .gt 14, 3) := by decide +kernel
theorem dX12_isName_17 : decode cX12_isName 17 = .ok (.aload_n 0, 1) := by decide +kernel
theorem dX12_isName_18 : decode cX12_isName 18 = .ok (.invokevirtual 206, 3) := by decide +kernel
theorem dX12_isName_21 : decode cX12_isName 21 = .ok (.ifCond .ne 7, 3) := by decide +kernel
theorem dX12_isName_24 : decode cX12_isName 24 = .ok (.iconst 1, 1) := by decide +kernel
theorem dX12_isName_25 : decode cX12_isName 25 = .ok (.goto 4, 3) := by decide +kernel
theorem dX12_isName_28 : decode cX12_isName 28 = .ok (.iconst 0, 1) := by decide +kernel
theorem dX12_isName_29 : decode cX12_isName 29 = .ok (.ireturn, 1) := by decide +kernel
theorem dX12_fail_0 : decode cX12_fail 0 = .ok (.aload_n 0, 1) := by decide +kernel
theorem dX12_fail_1 : decode cX12_fail 1 = .ok (.getfield 209, 3) := by decide +kernel
theorem dX12_fail_4 : decode cX12_fail 4 = .ok (.ifCond .le 4, 3) := by decide +kernel
theorem dX12_fail_7 : decode cX12_fail 7 = .ok (.return_, 1) := by decide +kernel
theorem dX12_fail_8 : decode cX12_fail 8 = .ok (.aload_n 0, 1) := by decide +kernel
theorem dX12_fail_9 : decode cX12_fail 9 = .ok (.iload_n 1, 1) := by decide +kernel
theorem dX12_fail_10 : decode cX12_fail 10 = .ok (.putfield 209, 3) := by decide +kernel
theorem dX12_fail_13 : decode cX12_fail 13 = .ok (.aload_n 0, 1) := by decide +kernel
theorem dX12_fail_14 : decode cX12_fail 14 = .ok (.iload_n 2, 1) := by decide +kernel
theorem dX12_fail_15 : decode cX12_fail 15 = .ok (.putfield 212, 3) := by decide +kernel
theorem dX12_fail_18 : decode cX12_fail 18 = .ok (.return_, 1) := by decide +kernel
theorem dX12_amiss_0 : decode cX12_amiss 0 = .ok (.aload_n 0, 1) := by decide +kernel
theorem dX12_amiss_1 : decode cX12_amiss 1 = .ok (.aload_n 0, 1) := by decide +kernel
theorem dX12_amiss_2 : decode cX12_amiss 2 = .ok (.getfield 129, 3) := by decide +kernel
theorem dX12_amiss_5 : decode cX12_amiss 5 = .ok (.iconst 4, 1) := by decide +kernel
theorem dX12_amiss_6 : decode cX12_amiss 6 = .ok (.if_icmp .ne 7, 3) := by decide +kernel
theorem dX12_amiss_9 : decode cX12_amiss 9 = .ok (.iconst 1, 1) := by decide +kernel
theorem dX12_amiss_10 : decode cX12_amiss 10 = .ok (.goto 4, 3) := by decide +kernel
theorem dX12_amiss_13 : decode cX12_amiss 13 = .ok (.iconst 2, 1) := by decide +kernel
theorem dX12_amiss_14 : decode cX12_amiss 14 = .ok (.aload_n 0, 1) := by decide +kernel
theorem dX12_amiss_15 : decode cX12_amiss 15 = .ok (.getfield 123, 3) := by decide +kernel
theorem dX12_amiss_18 : decode cX12_amiss 18 = .ok (.invokevirtual 215, 3) := by decide +kernel
theorem dX12_amiss_21 : decode cX12_amiss 21 = .ok (.return_, 1) := by decide +kernel
theorem dX12_must_0 : decode cX12_must 0 = .ok (.aload_n 0, 1) := by decide +kernel
theorem dX12_must_1 : decode cX12_must 1 = .ok (.getfield 209, 3) := by decide +kernel
theorem dX12_must_4 : decode cX12_must 4 = .ok (.ifCond .le 4, 3) := by decide +kernel
theorem dX12_must_7 : decode cX12_must 7 = .ok (.return_, 1) := by decide +kernel
theorem dX12_must_8 : decode cX12_must 8 = .ok (.iload_n 1, 1) := by decide +kernel
theorem dX12_must_9 : decode cX12_must 9 = .ok (.ifCond .eq 10, 3) := by decide +kernel
theorem dX12_must_12 : decode cX12_must 12 = .ok (.aload_n 0, 1) := by decide +kernel
theorem dX12_must_13 : decode cX12_must 13 = .ok (.invokevirtual 219, 3) := by decide +kernel
theorem dX12_must_16 : decode cX12_must 16 = .ok (.goto 7, 3) := by decide +kernel
theorem dX12_must_19 : decode cX12_must 19 = .ok (.aload_n 0, 1) := by decide +kernel
theorem dX12_must_20 : decode cX12_must 20 = .ok (.invokevirtual 222, 3) := by decide +kernel
theorem dX12_must_23 : decode cX12_must 23 = .ok (.return_, 1) := by decide +kernel
theorem dX12_count_0 : decode cX12_count 0 = .ok (.aload_n 0, 1) := by decide +kernel
theorem dX12_count_1 : decode cX12_count 1 = .ok (.getfield 209, 3) := by decide +kernel
theorem dX12_count_4 : decode cX12_count 4 = .ok (.ifCond .ne 15, 3) := by decide +kernel
theorem dX12_count_7 : decode cX12_count 7 = .ok (.aload_n 0, 1) := by decide +kernel
theorem dX12_count_8 : decode cX12_count 8 = .ok (.getfield 129, 3) := by decide +kernel
theorem dX12_count_11 : decode cX12_count 11 = .ok (.iconst 2, 1) := by decide +kernel
theorem dX12_count_12 : decode cX12_count 12 = .ok (.if_icmp .eq 7, 3) := by decide +kernel
theorem dX12_count_15 : decode cX12_count 15 = .ok (.aload_n 0, 1) := by decide +kernel
theorem dX12_count_16 : decode cX12_count 16 = .ok (.invokevirtual 222, 3) := by decide +kernel
theorem dX12_count_19 : decode cX12_count 19 = .ok (.aload_n 0, 1) := by decide +kernel
theorem dX12_count_20 : decode cX12_count 20 = .ok (.getfield 209, 3) := by decide +kernel
theorem dX12_count_23 : decode cX12_count 23 = .ok (.ifCond .ne 27, 3) := by decide +kernel
theorem dX12_count_26 : decode cX12_count 26 = .ok (.aload_n 0, 1) := by decide +kernel
theorem dX12_count_27 : decode cX12_count 27 = .ok (.getfield 148, 3) := by decide +kernel
theorem dX12_count_30 : decode cX12_count 30 = .ok (.i2l, 1) := by decide +kernel
theorem dX12_count_31 : decode cX12_count 31 = .ok (.iload_n 1, 1) := by decide +kernel
theorem dX12_count_32 : decode cX12_count 32 = .ok (.i2l, 1) := by decide +kernel
theorem dX12_count_33 : decode cX12_count 33 = .ok (.iload_n 2, 1) := by decide +kernel
theorem dX12_count_34 : decode cX12_count 34 = .ok (.i2l, 1) := by decide +kernel
theorem dX12_count_35 : decode cX12_count 35 = .ok (.invokestatic 109, 3) := by decide +kernel
theorem dX12_count_38 : decode cX12_count 38 = .ok (.ifCond .ne 12, 3) := by decide +kernel
theorem dX12_count_41 : decode cX12_count 41 = .ok (.aload_n 0, 1) := by decide +kernel
theorem dX12_count_42 : decode cX12_count 42 = .ok (.iconst 4, 1) := by decide +kernel
theorem dX12_count_43 : decode cX12_count 43 = .ok (.aload_n 0, 1) := by decide +kernel
theorem dX12_count_44 : decode cX12_count 44 = .ok (.getfield 123, 3) := by decide +kernel
theorem dX12_count_47 : decode cX12_count 47 = .ok (.invokevirtual 215, 3) := by decide +kernel
theorem dX12_count_50 : decode cX12_count 50 = .ok (.aload_n 0, 1) := by decide +kernel
theorem dX12_count_51 : decode cX12_count 51 = .ok (.getfield 209, 3) := by decide +kernel
theorem dX12_count_54 : decode cX12_count 54 = .ok (.ifCond .le 5, 3) := by decide +kernel
theorem dX12_count_57 : decode cX12_count 57 = .ok (.iconst 0, 1) := by decide +kernel
theorem dX12_count_58 : decode cX12_count 58 = .ok (.ireturn, 1) := by decide +kernel
theorem dX12_count_59 : decode cX12_count 59 = .ok (.aload_n 0, 1) := by decide +kernel
theorem dX12_count_60 : decode cX12_count 60 = .ok (.getfield 148, 3) := by decide +kernel
theorem dX12_count_63 : decode cX12_count 63 = .ok (.istore_n 3, 1) := by decide +kernel
theorem dX12_count_64 : decode cX12_count 64 = .ok (.aload_n 0, 1) := by decide +kernel
theorem dX12_count_65 : decode cX12_count 65 = .ok (.invokevirtual 219, 3) := by decide +kernel
theorem dX12_count_68 : decode cX12_count 68 = .ok (.iload_n 3, 1) := by decide +kernel
theorem dX12_count_69 : decode cX12_count 69 = .ok (.ireturn, 1) := by decide +kernel
theorem dX12_feed_0 : decode cX12_feed 0 = .ok (.aload_n 0, 1) := by decide +kernel
theorem dX12_feed_1 : decode cX12_feed 1 = .ok (.iconst 0, 1) := by decide +kernel
theorem dX12_feed_2 : decode cX12_feed 2 = .ok (.putfield 74, 3) := by decide +kernel
theorem dX12_feed_5 : decode cX12_feed 5 = .ok (.aload_n 0, 1) := by decide +kernel
theorem dX12_feed_6 : decode cX12_feed 6 = .ok (.getfield 225, 3) := by decide +kernel
theorem dX12_feed_9 : decode cX12_feed 9 = .ok (.bipush 20, 2) := by decide +kernel
theorem dX12_feed_11 : decode cX12_feed 11 = .ok (.iadd, 1) := by decide +kernel
theorem dX12_feed_12 : decode cX12_feed 12 = .ok (.sipush 900, 3) := by decide +kernel
theorem dX12_feed_15 : decode cX12_feed 15 = .ok (.if_icmp .le 5, 3) := by decide +kernel
theorem dX12_feed_18 : decode cX12_feed 18 = .ok (.iconst (-1), 1) := by decide +kernel
theorem dX12_feed_19 : decode cX12_feed 19 = .ok (.ireturn, 1) := by decide +kernel
theorem dX12_feed_20 : decode cX12_feed 20 = .ok (.aload_n 0, 1) := by decide +kernel
theorem dX12_feed_21 : decode cX12_feed 21 = .ok (.iload_n 1, 1) := by decide +kernel
theorem dX12_feed_22 : decode cX12_feed 22 = .ok (.invokevirtual 228, 3) := by decide +kernel
theorem dX12_feed_25 : decode cX12_feed 25 = .ok (.aload_n 0, 1) := by decide +kernel
theorem dX12_feed_26 : decode cX12_feed 26 = .ok (.iload_n 2, 1) := by decide +kernel
theorem dX12_feed_27 : decode cX12_feed 27 = .ok (.invokevirtual 228, 3) := by decide +kernel
theorem dX12_feed_30 : decode cX12_feed 30 = .ok (.aload_n 0, 1) := by decide +kernel
theorem dX12_feed_31 : decode cX12_feed 31 = .ok (.iload_n 3, 1) := by decide +kernel
theorem dX12_feed_32 : decode cX12_feed 32 = .ok (.invokevirtual 228, 3) := by decide +kernel
theorem dX12_feed_35 : decode cX12_feed 35 = .ok (.aload_n 0, 1) := by decide +kernel
theorem dX12_feed_36 : decode cX12_feed 36 = .ok (.iload 4, 2) := by decide +kernel
theorem dX12_feed_38 : decode cX12_feed 38 = .ok (.invokevirtual 228, 3) := by decide +kernel
theorem dX12_feed_41 : decode cX12_feed 41 = .ok (.aload_n 0, 1) := by decide +kernel
theorem dX12_feed_42 : decode cX12_feed 42 = .ok (.iload 5, 2) := by decide +kernel
theorem dX12_feed_44 : decode cX12_feed 44 = .ok (.invokevirtual 228, 3) := by decide +kernel
theorem dX12_feed_47 : decode cX12_feed 47 = .ok (.aload_n 0, 1) := by decide +kernel
theorem dX12_feed_48 : decode cX12_feed 48 = .ok (.getfield 225, 3) := by decide +kernel
theorem dX12_feed_51 : decode cX12_feed 51 = .ok (.ireturn, 1) := by decide +kernel
theorem dX12_lay_0 : decode cX12_lay 0 = .ok (.iconst 3, 1) := by decide +kernel
theorem dX12_lay_1 : decode cX12_lay 1 = .ok (.istore_n 2, 1) := by decide +kernel
theorem dX12_lay_2 : decode cX12_lay 2 = .ok (.iload_n 2, 1) := by decide +kernel
theorem dX12_lay_3 : decode cX12_lay 3 = .ok (.ifCond .lt 35, 3) := by decide +kernel
theorem dX12_lay_6 : decode cX12_lay 6 = .ok (.aload_n 0, 1) := by decide +kernel
theorem dX12_lay_7 : decode cX12_lay 7 = .ok (.getfield 24, 3) := by decide +kernel
theorem dX12_lay_10 : decode cX12_lay 10 = .ok (.aload_n 0, 1) := by decide +kernel
theorem dX12_lay_11 : decode cX12_lay 11 = .ok (.getfield 225, 3) := by decide +kernel
theorem dX12_lay_14 : decode cX12_lay 14 = .ok (.iload_n 1, 1) := by decide +kernel
theorem dX12_lay_15 : decode cX12_lay 15 = .ok (.bipush 8, 2) := by decide +kernel
theorem dX12_lay_17 : decode cX12_lay 17 = .ok (.iload_n 2, 1) := by decide +kernel
theorem dX12_lay_18 : decode cX12_lay 18 = .ok (.imul, 1) := by decide +kernel
theorem dX12_lay_19 : decode cX12_lay 19 = .ok (.ishr, 1) := by decide +kernel
theorem dX12_lay_20 : decode cX12_lay 20 = .ok (.i2b, 1) := by decide +kernel
theorem dX12_lay_21 : decode cX12_lay 21 = .ok (.bastore, 1) := by decide +kernel
theorem dX12_lay_22 : decode cX12_lay 22 = .ok (.aload_n 0, 1) := by decide +kernel
theorem dX12_lay_23 : decode cX12_lay 23 = .ok (.dup, 1) := by decide +kernel
theorem dX12_lay_24 : decode cX12_lay 24 = .ok (.getfield 225, 3) := by decide +kernel
theorem dX12_lay_27 : decode cX12_lay 27 = .ok (.iconst 1, 1) := by decide +kernel
theorem dX12_lay_28 : decode cX12_lay 28 = .ok (.iadd, 1) := by decide +kernel
theorem dX12_lay_29 : decode cX12_lay 29 = .ok (.putfield 225, 3) := by decide +kernel
theorem dX12_lay_32 : decode cX12_lay 32 = .ok (.iinc 2 (-1), 3) := by decide +kernel
theorem dX12_lay_35 : decode cX12_lay 35 = .ok (.goto (-33), 3) := by decide +kernel
theorem dX12_lay_38 : decode cX12_lay 38 = .ok (.return_, 1) := by decide +kernel
theorem dX12_starts_0 : decode cX12_starts 0 = .ok (.iload_n 1, 1) := by decide +kernel
theorem dX12_starts_1 : decode cX12_starts 1 = .ok (.ifCond .lt 16, 3) := by decide +kernel
theorem dX12_starts_4 : decode cX12_starts 4 = .ok (.iload_n 1, 1) := by decide +kernel
theorem dX12_starts_5 : decode cX12_starts 5 = .ok (.aload_n 0, 1) := by decide +kernel
theorem dX12_starts_6 : decode cX12_starts 6 = .ok (.getfield 225, 3) := by decide +kernel
theorem dX12_starts_9 : decode cX12_starts 9 = .ok (.if_icmp .gt 8, 3) := by decide +kernel
theorem dX12_starts_12 : decode cX12_starts 12 = .ok (.iload_n 1, 1) := by decide +kernel
theorem dX12_starts_13 : decode cX12_starts 13 = .ok (.iload_n 2, 1) := by decide +kernel
theorem dX12_starts_14 : decode cX12_starts 14 = .ok (.if_icmp .le 9, 3) := by decide +kernel
theorem dX12_starts_17 : decode cX12_starts 17 = .ok (.aload_n 0, 1) := by decide +kernel
theorem dX12_starts_18 : decode cX12_starts 18 = .ok (.iconst 5, 1) := by decide +kernel
theorem dX12_starts_19 : decode cX12_starts 19 = .ok (.invokevirtual 89, 3) := by decide +kernel
theorem dX12_starts_22 : decode cX12_starts 22 = .ok (.ireturn, 1) := by decide +kernel
theorem dX12_starts_23 : decode cX12_starts 23 = .ok (.aload_n 0, 1) := by decide +kernel
theorem dX12_starts_24 : decode cX12_starts 24 = .ok (.iload_n 1, 1) := by decide +kernel
theorem dX12_starts_25 : decode cX12_starts 25 = .ok (.putfield 117, 3) := by decide +kernel
theorem dX12_starts_28 : decode cX12_starts 28 = .ok (.aload_n 0, 1) := by decide +kernel
theorem dX12_starts_29 : decode cX12_starts 29 = .ok (.iconst 0, 1) := by decide +kernel
theorem dX12_starts_30 : decode cX12_starts 30 = .ok (.putfield 225, 3) := by decide +kernel
theorem dX12_starts_33 : decode cX12_starts 33 = .ok (.aload_n 0, 1) := by decide +kernel
theorem dX12_starts_34 : decode cX12_starts 34 = .ok (.iconst 0, 1) := by decide +kernel
theorem dX12_starts_35 : decode cX12_starts 35 = .ok (.putfield 120, 3) := by decide +kernel
theorem dX12_starts_38 : decode cX12_starts 38 = .ok (.aload_n 0, 1) := by decide +kernel
theorem dX12_starts_39 : decode cX12_starts 39 = .ok (.iconst 0, 1) := by decide +kernel
theorem dX12_starts_40 : decode cX12_starts 40 = .ok (.putfield 209, 3) := by decide +kernel
theorem dX12_starts_43 : decode cX12_starts 43 = .ok (.aload_n 0, 1) := by decide +kernel
theorem dX12_starts_44 : decode cX12_starts 44 = .ok (.invokevirtual 219, 3) := by decide +kernel
theorem dX12_starts_47 : decode cX12_starts 47 = .ok (.iconst 1, 1) := by decide +kernel
theorem dX12_starts_48 : decode cX12_starts 48 = .ok (.ireturn, 1) := by decide +kernel
theorem dX12_isWell_0 : decode cX12_isWell 0 = .ok (.aload_n 0, 1) := by decide +kernel
theorem dX12_isWell_1 : decode cX12_isWell 1 = .ok (.aload_n 0, 1) := by decide +kernel
theorem dX12_isWell_2 : decode cX12_isWell 2 = .ok (.getfield 209, 3) := by decide +kernel
theorem dX12_isWell_5 : decode cX12_isWell 5 = .ok (.putfield 28, 3) := by decide +kernel
theorem dX12_isWell_8 : decode cX12_isWell 8 = .ok (.aload_n 0, 1) := by decide +kernel
theorem dX12_isWell_9 : decode cX12_isWell 9 = .ok (.aload_n 0, 1) := by decide +kernel
theorem dX12_isWell_10 : decode cX12_isWell 10 = .ok (.getfield 209, 3) := by decide +kernel
theorem dX12_isWell_13 : decode cX12_isWell 13 = .ok (.ifCond .ne 7, 3) := by decide +kernel
theorem dX12_isWell_16 : decode cX12_isWell 16 = .ok (.iconst (-1), 1) := by decide +kernel
theorem dX12_isWell_17 : decode cX12_isWell 17 = .ok (.goto 7, 3) := by decide +kernel
theorem dX12_isWell_20 : decode cX12_isWell 20 = .ok (.aload_n 0, 1) := by decide +kernel
theorem dX12_isWell_21 : decode cX12_isWell 21 = .ok (.getfield 212, 3) := by decide +kernel
theorem dX12_isWell_24 : decode cX12_isWell 24 = .ok (.putfield 32, 3) := by decide +kernel
theorem dX12_isWell_27 : decode cX12_isWell 27 = .ok (.aload_n 0, 1) := by decide +kernel
theorem dX12_isWell_28 : decode cX12_isWell 28 = .ok (.getfield 209, 3) := by decide +kernel
theorem dX12_isWell_31 : decode cX12_isWell 31 = .ok (.ifCond .eq 12, 3) := by decide +kernel
theorem dX12_isWell_34 : decode cX12_isWell 34 = .ok (.aload_n 0, 1) := by decide +kernel
theorem dX12_isWell_35 : decode cX12_isWell 35 = .ok (.bipush 10, 2) := by decide +kernel
theorem dX12_isWell_37 : decode cX12_isWell 37 = .ok (.invokevirtual 89, 3) := by decide +kernel
theorem dX12_isWell_40 : decode cX12_isWell 40 = .ok (.ifCond .eq 7, 3) := by decide +kernel
theorem dX12_isWell_43 : decode cX12_isWell 43 = .ok (.iconst 1, 1) := by decide +kernel
theorem dX12_isWell_44 : decode cX12_isWell 44 = .ok (.goto 4, 3) := by decide +kernel
theorem dX12_isWell_47 : decode cX12_isWell 47 = .ok (.iconst 0, 1) := by decide +kernel
theorem dX12_isWell_48 : decode cX12_isWell 48 = .ok (.ireturn, 1) := by decide +kernel
theorem dX12_fault_0 : decode cX12_fault 0 = .ok (.aload_n 0, 1) := by decide +kernel
theorem dX12_fault_1 : decode cX12_fault 1 = .ok (.iconst 0, 1) := by decide +kernel
theorem dX12_fault_2 : decode cX12_fault 2 = .ok (.putfield 74, 3) := by decide +kernel
theorem dX12_fault_5 : decode cX12_fault 5 = .ok (.iload_n 1, 1) := by decide +kernel
theorem dX12_fault_6 : decode cX12_fault 6 = .ok (.ifCond .ne 10, 3) := by decide +kernel
theorem dX12_fault_9 : decode cX12_fault 9 = .ok (.aload_n 0, 1) := by decide +kernel
theorem dX12_fault_10 : decode cX12_fault 10 = .ok (.getfield 28, 3) := by decide +kernel
theorem dX12_fault_13 : decode cX12_fault 13 = .ok (.goto 16, 3) := by decide +kernel
theorem dX12_fault_16 : decode cX12_fault 16 = .ok (.iload_n 1, 1) := by decide +kernel
theorem dX12_fault_17 : decode cX12_fault 17 = .ok (.iconst 1, 1) := by decide +kernel
theorem dX12_fault_18 : decode cX12_fault 18 = .ok (.if_icmp .ne 10, 3) := by decide +kernel
theorem dX12_fault_21 : decode cX12_fault 21 = .ok (.aload_n 0, 1) := by decide +kernel
theorem dX12_fault_22 : decode cX12_fault 22 = .ok (.getfield 32, 3) := by decide +kernel
theorem dX12_fault_25 : decode cX12_fault 25 = .ok (.goto 4, 3) := by decide +kernel
theorem dX12_fault_28 : decode cX12_fault 28 = .ok (.iconst (-1), 1) := by decide +kernel
theorem dX12_fault_29 : decode cX12_fault 29 = .ok (.ireturn, 1) := by decide +kernel
theorem dX12_fromOf_0 : decode cX12_fromOf 0 = .ok (.iload_n 0, 1) := by decide +kernel
theorem dX12_fromOf_1 : decode cX12_fromOf 1 = .ok (.ifCond .ne 7, 3) := by decide +kernel
theorem dX12_fromOf_4 : decode cX12_fromOf 4 = .ok (.iconst 0, 1) := by decide +kernel
theorem dX12_fromOf_5 : decode cX12_fromOf 5 = .ok (.goto 15, 3) := by decide +kernel
theorem dX12_fromOf_8 : decode cX12_fromOf 8 = .ok (.iload_n 0, 1) := by decide +kernel
theorem dX12_fromOf_9 : decode cX12_fromOf 9 = .ok (.iconst 1, 1) := by decide +kernel
theorem dX12_fromOf_10 : decode cX12_fromOf 10 = .ok (.if_icmp .ne 8, 3) := by decide +kernel
theorem dX12_fromOf_13 : decode cX12_fromOf 13 = .ok (.bipush 12, 2) := by decide +kernel
theorem dX12_fromOf_15 : decode cX12_fromOf 15 = .ok (.goto 5, 3) := by decide +kernel
theorem dX12_fromOf_18 : decode cX12_fromOf 18 = .ok (.bipush 18, 2) := by decide +kernel
theorem dX12_fromOf_20 : decode cX12_fromOf 20 = .ok (.ireturn, 1) := by decide +kernel
theorem dX12_manyOf_0 : decode cX12_manyOf 0 = .ok (.iload_n 0, 1) := by decide +kernel
theorem dX12_manyOf_1 : decode cX12_manyOf 1 = .ok (.ifCond .ne 7, 3) := by decide +kernel
theorem dX12_manyOf_4 : decode cX12_manyOf 4 = .ok (.iconst 0, 1) := by decide +kernel
theorem dX12_manyOf_5 : decode cX12_manyOf 5 = .ok (.goto 13, 3) := by decide +kernel
theorem dX12_manyOf_8 : decode cX12_manyOf 8 = .ok (.iload_n 0, 1) := by decide +kernel
theorem dX12_manyOf_9 : decode cX12_manyOf 9 = .ok (.iconst 1, 1) := by decide +kernel
theorem dX12_manyOf_10 : decode cX12_manyOf 10 = .ok (.if_icmp .ne 7, 3) := by decide +kernel
theorem dX12_manyOf_13 : decode cX12_manyOf 13 = .ok (.iconst 2, 1) := by decide +kernel
theorem dX12_manyOf_14 : decode cX12_manyOf 14 = .ok (.goto 4, 3) := by decide +kernel
theorem dX12_manyOf_17 : decode cX12_manyOf 17 = .ok (.iconst 3, 1) := by decide +kernel
theorem dX12_manyOf_18 : decode cX12_manyOf 18 = .ok (.ireturn, 1) := by decide +kernel
theorem dX12_named_0 : decode cX12_named 0 = .ok (.iconst 0, 1) := by decide +kernel
theorem dX12_named_1 : decode cX12_named 1 = .ok (.istore_n 3, 1) := by decide +kernel
theorem dX12_named_2 : decode cX12_named 2 = .ok (.iload_n 3, 1) := by decide +kernel
theorem dX12_named_3 : decode cX12_named 3 = .ok (.aload_n 0, 1) := by decide +kernel
theorem dX12_named_4 : decode cX12_named 4 = .ok (.getfield 35, 3) := by decide +kernel
theorem dX12_named_7 : decode cX12_named 7 = .ok (.sipush 421, 3) := by decide +kernel
theorem dX12_named_10 : decode cX12_named 10 = .ok (.iload_n 1, 1) := by decide +kernel
theorem dX12_named_11 : decode cX12_named 11 = .ok (.imul, 1) := by decide +kernel
theorem dX12_named_12 : decode cX12_named 12 = .ok (.iload_n 2, 1) := by decide +kernel
theorem dX12_named_13 : decode cX12_named 13 = .ok (.invokestatic 232, 3) := by decide +kernel
theorem dX12_named_16 : decode cX12_named 16 = .ok (.iadd, 1) := by decide +kernel
theorem dX12_named_17 : decode cX12_named 17 = .ok (.iaload, 1) := by decide +kernel
theorem dX12_named_18 : decode cX12_named 18 = .ok (.if_icmp .ge 35, 3) := by decide +kernel
theorem dX12_named_21 : decode cX12_named 21 = .ok (.aload_n 0, 1) := by decide +kernel
theorem dX12_named_22 : decode cX12_named 22 = .ok (.getfield 41, 3) := by decide +kernel
theorem dX12_named_25 : decode cX12_named 25 = .ok (.bipush 24, 2) := by decide +kernel
theorem dX12_named_27 : decode cX12_named 27 = .ok (.iload_n 1, 1) := by decide +kernel
theorem dX12_named_28 : decode cX12_named 28 = .ok (.imul, 1) := by decide +kernel
theorem dX12_named_29 : decode cX12_named 29 = .ok (.iload_n 2, 1) := by decide +kernel
theorem dX12_named_30 : decode cX12_named 30 = .ok (.invokestatic 235, 3) := by decide +kernel
theorem dX12_named_33 : decode cX12_named 33 = .ok (.iadd, 1) := by decide +kernel
theorem dX12_named_34 : decode cX12_named 34 = .ok (.iload_n 3, 1) := by decide +kernel
theorem dX12_named_35 : decode cX12_named 35 = .ok (.iadd, 1) := by decide +kernel
theorem dX12_named_36 : decode cX12_named 36 = .ok (.laload, 1) := by decide +kernel
theorem dX12_named_37 : decode cX12_named 37 = .ok (.aload_n 0, 1) := by decide +kernel
theorem dX12_named_38 : decode cX12_named 38 = .ok (.getfield 135, 3) := by decide +kernel
theorem dX12_named_41 : decode cX12_named 41 = .ok (.lcmp, 1) := by decide +kernel
theorem dX12_named_42 : decode cX12_named 42 = .ok (.ifCond .ne 5, 3) := by decide +kernel
theorem dX12_named_45 : decode cX12_named 45 = .ok (.iload_n 3, 1) := by decide +kernel
theorem dX12_named_46 : decode cX12_named 46 = .ok (.ireturn, 1) := by decide +kernel
theorem dX12_named_47 : decode cX12_named 47 = .ok (.iinc 3 1, 3) := by decide +kernel
theorem dX12_named_50 : decode cX12_named 50 = .ok (.goto (-48), 3) := by decide +kernel
theorem dX12_named_53 : decode cX12_named 53 = .ok (.iconst (-1), 1) := by decide +kernel
theorem dX12_named_54 : decode cX12_named 54 = .ok (.ireturn, 1) := by decide +kernel
theorem dX12_readNew_0 : decode cX12_readNew 0 = .ok (.aload_n 0, 1) := by decide +kernel
theorem dX12_readNew_1 : decode cX12_readNew 1 = .ok (.getfield 35, 3) := by decide +kernel
theorem dX12_readNew_4 : decode cX12_readNew 4 = .ok (.sipush 1684, 3) := by decide +kernel
theorem dX12_readNew_7 : decode cX12_readNew 7 = .ok (.iload_n 1, 1) := by decide +kernel
theorem dX12_readNew_8 : decode cX12_readNew 8 = .ok (.invokestatic 232, 3) := by decide +kernel
theorem dX12_readNew_11 : decode cX12_readNew 11 = .ok (.iadd, 1) := by decide +kernel
theorem dX12_readNew_12 : decode cX12_readNew 12 = .ok (.iaload, 1) := by decide +kernel
theorem dX12_readNew_13 : decode cX12_readNew 13 = .ok (.istore_n 3, 1) := by decide +kernel
theorem dX12_readNew_14 : decode cX12_readNew 14 = .ok (.iload_n 3, 1) := by decide +kernel
theorem dX12_readNew_15 : decode cX12_readNew 15 = .ok (.iload_n 2, 1) := by decide +kernel
theorem dX12_readNew_16 : decode cX12_readNew 16 = .ok (.if_icmp .ne 13, 3) := by decide +kernel
theorem dX12_readNew_19 : decode cX12_readNew 19 = .ok (.aload_n 0, 1) := by decide +kernel
theorem dX12_readNew_20 : decode cX12_readNew 20 = .ok (.bipush 6, 2) := by decide +kernel
theorem dX12_readNew_22 : decode cX12_readNew 22 = .ok (.aload_n 0, 1) := by decide +kernel
theorem dX12_readNew_23 : decode cX12_readNew 23 = .ok (.getfield 123, 3) := by decide +kernel
theorem dX12_readNew_26 : decode cX12_readNew 26 = .ok (.invokevirtual 215, 3) := by decide +kernel
theorem dX12_readNew_29 : decode cX12_readNew 29 = .ok (.aload_n 0, 1) := by decide +kernel
theorem dX12_readNew_30 : decode cX12_readNew 30 = .ok (.getfield 209, 3) := by decide +kernel
theorem dX12_readNew_33 : decode cX12_readNew 33 = .ok (.ifCond .le 5, 3) := by decide +kernel
theorem dX12_readNew_36 : decode cX12_readNew 36 = .ok (.iconst 0, 1) := by decide +kernel
theorem dX12_readNew_37 : decode cX12_readNew 37 = .ok (.ireturn, 1) := by decide +kernel
theorem dX12_readNew_38 : decode cX12_readNew 38 = .ok (.aload_n 0, 1) := by decide +kernel
theorem dX12_readNew_39 : decode cX12_readNew 39 = .ok (.invokevirtual 219, 3) := by decide +kernel
theorem dX12_readNew_42 : decode cX12_readNew 42 = .ok (.aload_n 0, 1) := by decide +kernel
theorem dX12_readNew_43 : decode cX12_readNew 43 = .ok (.invokevirtual 238, 3) := by decide +kernel
theorem dX12_readNew_46 : decode cX12_readNew 46 = .ok (.ifCond .ne 7, 3) := by decide +kernel
theorem dX12_readNew_49 : decode cX12_readNew 49 = .ok (.aload_n 0, 1) := by decide +kernel
theorem dX12_readNew_50 : decode cX12_readNew 50 = .ok (.invokevirtual 222, 3) := by decide +kernel
theorem dX12_readNew_53 : decode cX12_readNew 53 = .ok (.aload_n 0, 1) := by decide +kernel
theorem dX12_readNew_54 : decode cX12_readNew 54 = .ok (.getfield 209, 3) := by decide +kernel
theorem dX12_readNew_57 : decode cX12_readNew 57 = .ok (.ifCond .ne 39, 3) := by decide +kernel
theorem dX12_readNew_60 : decode cX12_readNew 60 = .ok (.aload_n 0, 1) := by decide +kernel
theorem dX12_readNew_61 : decode cX12_readNew 61 = .ok (.iconst 4, 1) := by decide +kernel
theorem dX12_readNew_62 : decode cX12_readNew 62 = .ok (.iconst 0, 1) := by decide +kernel
theorem dX12_readNew_63 : decode cX12_readNew 63 = .ok (.invokevirtual 241, 3) := by decide +kernel
theorem dX12_readNew_66 : decode cX12_readNew 66 = .ok (.ifCond .ge 21, 3) := by decide +kernel
theorem dX12_readNew_69 : decode cX12_readNew 69 = .ok (.aload_n 0, 1) := by decide +kernel
theorem dX12_readNew_70 : decode cX12_readNew 70 = .ok (.iconst 4, 1) := by decide +kernel
theorem dX12_readNew_71 : decode cX12_readNew 71 = .ok (.iconst 1, 1) := by decide +kernel
theorem dX12_readNew_72 : decode cX12_readNew 72 = .ok (.invokevirtual 241, 3) := by decide +kernel
theorem dX12_readNew_75 : decode cX12_readNew 75 = .ok (.ifCond .ge 12, 3) := by decide +kernel
theorem dX12_readNew_78 : decode cX12_readNew 78 = .ok (.aload_n 0, 1) := by decide +kernel
theorem dX12_readNew_79 : decode cX12_readNew 79 = .ok (.iconst 4, 1) := by decide +kernel
theorem dX12_readNew_80 : decode cX12_readNew 80 = .ok (.iconst 2, 1) := by decide +kernel
theorem dX12_readNew_81 : decode cX12_readNew 81 = .ok (.invokevirtual 241, 3) := by decide +kernel
theorem dX12_readNew_84 : decode cX12_readNew 84 = .ok (.ifCond .lt 12, 3) := by decide +kernel
theorem dX12_readNew_87 : decode cX12_readNew 87 = .ok (.aload_n 0, 1) := by decide +kernel
theorem dX12_readNew_88 : decode cX12_readNew 88 = .ok (.iconst 3, 1) := by decide +kernel
theorem dX12_readNew_89 : decode cX12_readNew 89 = .ok (.aload_n 0, 1) := by decide +kernel
theorem dX12_readNew_90 : decode cX12_readNew 90 = .ok (.getfield 123, 3) := by decide +kernel
theorem dX12_readNew_93 : decode cX12_readNew 93 = .ok (.invokevirtual 215, 3) := by decide +kernel
theorem dX12_readNew_96 : decode cX12_readNew 96 = .ok (.aload_n 0, 1) := by decide +kernel
theorem dX12_readNew_97 : decode cX12_readNew 97 = .ok (.getfield 209, 3) := by decide +kernel
theorem dX12_readNew_100 : decode cX12_readNew 100 = .ok (.ifCond .le 5, 3) := by decide +kernel
theorem dX12_readNew_103 : decode cX12_readNew 103 = .ok (.iconst 0, 1) := by decide +kernel
theorem dX12_readNew_104 : decode cX12_readNew 104 = .ok (.ireturn, 1) := by decide +kernel
theorem dX12_readNew_105 : decode cX12_readNew 105 = .ok (.aload_n 0, 1) := by decide +kernel
theorem dX12_readNew_106 : decode cX12_readNew 106 = .ok (.getfield 41, 3) := by decide +kernel
theorem dX12_readNew_109 : decode cX12_readNew 109 = .ok (.bipush 96, 2) := by decide +kernel
theorem dX12_readNew_111 : decode cX12_readNew 111 = .ok (.iload_n 1, 1) := by decide +kernel
theorem dX12_readNew_112 : decode cX12_readNew 112 = .ok (.invokestatic 235, 3) := by decide +kernel
theorem dX12_readNew_115 : decode cX12_readNew 115 = .ok (.iadd, 1) := by decide +kernel
theorem dX12_readNew_116 : decode cX12_readNew 116 = .ok (.iload_n 3, 1) := by decide +kernel
theorem dX12_readNew_117 : decode cX12_readNew 117 = .ok (.iadd, 1) := by decide +kernel
theorem dX12_readNew_118 : decode cX12_readNew 118 = .ok (.aload_n 0, 1) := by decide +kernel
theorem dX12_readNew_119 : decode cX12_readNew 119 = .ok (.getfield 135, 3) := by decide +kernel
theorem dX12_readNew_122 : decode cX12_readNew 122 = .ok (.lastore, 1) := by decide +kernel
theorem dX12_readNew_123 : decode cX12_readNew 123 = .ok (.aload_n 0, 1) := by decide +kernel
theorem dX12_readNew_124 : decode cX12_readNew 124 = .ok (.invokevirtual 219, 3) := by decide +kernel
theorem dX12_readNew_127 : decode cX12_readNew 127 = .ok (.iload_n 3, 1) := by decide +kernel
theorem dX12_readNew_128 : decode cX12_readNew 128 = .ok (.ireturn, 1) := by decide +kernel
theorem dX12_readTold_0 : decode cX12_readTold 0 = .ok (.aload_n 0, 1) := by decide +kernel
theorem dX12_readTold_1 : decode cX12_readTold 1 = .ok (.getfield 209, 3) := by decide +kernel
theorem dX12_readTold_4 : decode cX12_readTold 4 = .ok (.ifCond .ne 14, 3) := by decide +kernel
theorem dX12_readTold_7 : decode cX12_readTold 7 = .ok (.aload_n 0, 1) := by decide +kernel
theorem dX12_readTold_8 : decode cX12_readTold 8 = .ok (.invokevirtual 238, 3) := by decide +kernel
theorem dX12_readTold_11 : decode cX12_readTold 11 = .ok (.ifCond .ne 7, 3) := by decide +kernel
theorem dX12_readTold_14 : decode cX12_readTold 14 = .ok (.aload_n 0, 1) := by decide +kernel
theorem dX12_readTold_15 : decode cX12_readTold 15 = .ok (.invokevirtual 222, 3) := by decide +kernel
theorem dX12_readTold_18 : decode cX12_readTold 18 = .ok (.aload_n 0, 1) := by decide +kernel
theorem dX12_readTold_19 : decode cX12_readTold 19 = .ok (.getfield 209, 3) := by decide +kernel
theorem dX12_readTold_22 : decode cX12_readTold 22 = .ok (.ifCond .le 5, 3) := by decide +kernel
theorem dX12_readTold_25 : decode cX12_readTold 25 = .ok (.iconst 0, 1) := by decide +kernel
theorem dX12_readTold_26 : decode cX12_readTold 26 = .ok (.ireturn, 1) := by decide +kernel
theorem dX12_readTold_27 : decode cX12_readTold 27 = .ok (.aload_n 0, 1) := by decide +kernel
theorem dX12_readTold_28 : decode cX12_readTold 28 = .ok (.iload_n 1, 1) := by decide +kernel
theorem dX12_readTold_29 : decode cX12_readTold 29 = .ok (.iload_n 2, 1) := by decide +kernel
theorem dX12_readTold_30 : decode cX12_readTold 30 = .ok (.invokevirtual 241, 3) := by decide +kernel
theorem dX12_readTold_33 : decode cX12_readTold 33 = .ok (.istore 4, 2) := by decide +kernel
theorem dX12_readTold_35 : decode cX12_readTold 35 = .ok (.iload 4, 2) := by decide +kernel
theorem dX12_readTold_37 : decode cX12_readTold 37 = .ok (.ifCond .ge 15, 3) := by decide +kernel
theorem dX12_readTold_40 : decode cX12_readTold 40 = .ok (.aload_n 0, 1) := by decide +kernel
theorem dX12_readTold_41 : decode cX12_readTold 41 = .ok (.iconst 3, 1) := by decide +kernel
theorem dX12_readTold_42 : decode cX12_readTold 42 = .ok (.aload_n 0, 1) := by decide +kernel
theorem dX12_readTold_43 : decode cX12_readTold 43 = .ok (.getfield 123, 3) := by decide +kernel
theorem dX12_readTold_46 : decode cX12_readTold 46 = .ok (.invokevirtual 215, 3) := by decide +kernel
theorem dX12_readTold_49 : decode cX12_readTold 49 = .ok (.goto 18, 3) := by decide +kernel
theorem dX12_readTold_52 : decode cX12_readTold 52 = .ok (.iload 4, 2) := by decide +kernel
theorem dX12_readTold_54 : decode cX12_readTold 54 = .ok (.iload_n 3, 1) := by decide +kernel
theorem dX12_readTold_55 : decode cX12_readTold 55 = .ok (.if_icmp .ne 12, 3) := by decide +kernel
theorem dX12_readTold_58 : decode cX12_readTold 58 = .ok (.aload_n 0, 1) := by decide +kernel
theorem dX12_readTold_59 : decode cX12_readTold 59 = .ok (.iconst 5, 1) := by decide +kernel
theorem dX12_readTold_60 : decode cX12_readTold 60 = .ok (.aload_n 0, 1) := by decide +kernel
theorem dX12_readTold_61 : decode cX12_readTold 61 = .ok (.getfield 123, 3) := by decide +kernel
theorem dX12_readTold_64 : decode cX12_readTold 64 = .ok (.invokevirtual 215, 3) := by decide +kernel
theorem dX12_readTold_67 : decode cX12_readTold 67 = .ok (.aload_n 0, 1) := by decide +kernel
theorem dX12_readTold_68 : decode cX12_readTold 68 = .ok (.iconst 1, 1) := by decide +kernel
theorem dX12_readTold_69 : decode cX12_readTold 69 = .ok (.invokevirtual 244, 3) := by decide +kernel
theorem dX12_readTold_72 : decode cX12_readTold 72 = .ok (.iconst 0, 1) := by decide +kernel
theorem dX12_readTold_73 : decode cX12_readTold 73 = .ok (.iload 4, 2) := by decide +kernel
theorem dX12_readTold_75 : decode cX12_readTold 75 = .ok (.invokestatic 248, 3) := by decide +kernel
theorem dX12_readTold_78 : decode cX12_readTold 78 = .ok (.ireturn, 1) := by decide +kernel
theorem dX12_readThings_0 : decode cX12_readThings 0 = .ok (.iconst 0, 1) := by decide +kernel
theorem dX12_readThings_1 : decode cX12_readThings 1 = .ok (.istore_n 2, 1) := by decide +kernel
theorem dX12_readThings_2 : decode cX12_readThings 2 = .ok (.iconst 1, 1) := by decide +kernel
theorem dX12_readThings_3 : decode cX12_readThings 3 = .ok (.istore_n 3, 1) := by decide +kernel
theorem dX12_readThings_4 : decode cX12_readThings 4 = .ok (.aload_n 0, 1) := by decide +kernel
theorem dX12_readThings_5 : decode cX12_readThings 5 = .ok (.getfield 209, 3) := by decide +kernel
theorem dX12_readThings_8 : decode cX12_readThings 8 = .ok (.ifCond .ne 36, 3) := by decide +kernel
theorem dX12_readThings_11 : decode cX12_readThings 11 = .ok (.iload_n 3, 1) := by decide +kernel
theorem dX12_readThings_12 : decode cX12_readThings 12 = .ok (.ifCond .eq 32, 3) := by decide +kernel
theorem dX12_readThings_15 : decode cX12_readThings 15 = .ok (.iload_n 2, 1) := by decide +kernel
theorem dX12_readThings_16 : decode cX12_readThings 16 = .ok (.iconst 1, 1) := by decide +kernel
theorem dX12_readThings_17 : decode cX12_readThings 17 = .ok (.aload_n 0, 1) := by decide +kernel
theorem dX12_readThings_18 : decode cX12_readThings 18 = .ok (.iconst 4, 1) := by decide +kernel
theorem dX12_readThings_19 : decode cX12_readThings 19 = .ok (.iconst 0, 1) := by decide +kernel
theorem dX12_readThings_20 : decode cX12_readThings 20 = .ok (.iload_n 1, 1) := by decide +kernel
theorem dX12_readThings_21 : decode cX12_readThings 21 = .ok (.invokevirtual 251, 3) := by decide +kernel
theorem dX12_readThings_24 : decode cX12_readThings 24 = .ok (.ishl, 1) := by decide +kernel
theorem dX12_readThings_25 : decode cX12_readThings 25 = .ok (.ior, 1) := by decide +kernel
theorem dX12_readThings_26 : decode cX12_readThings 26 = .ok (.istore_n 2, 1) := by decide +kernel
theorem dX12_readThings_27 : decode cX12_readThings 27 = .ok (.aload_n 0, 1) := by decide +kernel
theorem dX12_readThings_28 : decode cX12_readThings 28 = .ok (.getfield 129, 3) := by decide +kernel
theorem dX12_readThings_31 : decode cX12_readThings 31 = .ok (.iconst 1, 1) := by decide +kernel
theorem dX12_readThings_32 : decode cX12_readThings 32 = .ok (.if_icmp .ne 7, 3) := by decide +kernel
theorem dX12_readThings_35 : decode cX12_readThings 35 = .ok (.iconst 1, 1) := by decide +kernel
theorem dX12_readThings_36 : decode cX12_readThings 36 = .ok (.goto 4, 3) := by decide +kernel
theorem dX12_readThings_39 : decode cX12_readThings 39 = .ok (.iconst 0, 1) := by decide +kernel
theorem dX12_readThings_40 : decode cX12_readThings 40 = .ok (.istore_n 3, 1) := by decide +kernel
theorem dX12_readThings_41 : decode cX12_readThings 41 = .ok (.goto (-37), 3) := by decide +kernel
theorem dX12_readThings_44 : decode cX12_readThings 44 = .ok (.iload_n 2, 1) := by decide +kernel
theorem dX12_readThings_45 : decode cX12_readThings 45 = .ok (.ireturn, 1) := by decide +kernel
theorem dX12_readThing_0 : decode cX12_readThing 0 = .ok (.aload_n 0, 1) := by decide +kernel
theorem dX12_readThing_1 : decode cX12_readThing 1 = .ok (.iconst 0, 1) := by decide +kernel
theorem dX12_readThing_2 : decode cX12_readThing 2 = .ok (.bipush 12, 2) := by decide +kernel
theorem dX12_readThing_4 : decode cX12_readThing 4 = .ok (.invokevirtual 255, 3) := by decide +kernel
theorem dX12_readThing_7 : decode cX12_readThing 7 = .ok (.istore_n 1, 1) := by decide +kernel
theorem dX12_readThing_8 : decode cX12_readThing 8 = .ok (.aload_n 0, 1) := by decide +kernel
theorem dX12_readThing_9 : decode cX12_readThing 9 = .ok (.getfield 35, 3) := by decide +kernel
theorem dX12_readThing_12 : decode cX12_readThing 12 = .ok (.sipush 1692, 3) := by decide +kernel
theorem dX12_readThing_15 : decode cX12_readThing 15 = .ok (.iload_n 1, 1) := by decide +kernel
theorem dX12_readThing_16 : decode cX12_readThing 16 = .ok (.iadd, 1) := by decide +kernel
theorem dX12_readThing_17 : decode cX12_readThing 17 = .ok (.iconst 1, 1) := by decide +kernel
theorem dX12_readThing_18 : decode cX12_readThing 18 = .ok (.iastore, 1) := by decide +kernel
theorem dX12_readThing_19 : decode cX12_readThing 19 = .ok (.aload_n 0, 1) := by decide +kernel
theorem dX12_readThing_20 : decode cX12_readThing 20 = .ok (.getfield 209, 3) := by decide +kernel
theorem dX12_readThing_23 : decode cX12_readThing 23 = .ok (.ifCond .ne 31, 3) := by decide +kernel
theorem dX12_readThing_26 : decode cX12_readThing 26 = .ok (.aload_n 0, 1) := by decide +kernel
theorem dX12_readThing_27 : decode cX12_readThing 27 = .ok (.invokevirtual 166, 3) := by decide +kernel
theorem dX12_readThing_30 : decode cX12_readThing 30 = .ok (.ifCond .eq 24, 3) := by decide +kernel
theorem dX12_readThing_33 : decode cX12_readThing 33 = .ok (.aload_n 0, 1) := by decide +kernel
theorem dX12_readThing_34 : decode cX12_readThing 34 = .ok (.invokevirtual 219, 3) := by decide +kernel
theorem dX12_readThing_37 : decode cX12_readThing 37 = .ok (.aload_n 0, 1) := by decide +kernel
theorem dX12_readThing_38 : decode cX12_readThing 38 = .ok (.getfield 35, 3) := by decide +kernel
theorem dX12_readThing_41 : decode cX12_readThing 41 = .ok (.sipush 1692, 3) := by decide +kernel
theorem dX12_readThing_44 : decode cX12_readThing 44 = .ok (.iload_n 1, 1) := by decide +kernel
theorem dX12_readThing_45 : decode cX12_readThing 45 = .ok (.iadd, 1) := by decide +kernel
theorem dX12_readThing_46 : decode cX12_readThing 46 = .ok (.aload_n 0, 1) := by decide +kernel
theorem dX12_readThing_47 : decode cX12_readThing 47 = .ok (.iconst 0, 1) := by decide +kernel
theorem dX12_readThing_48 : decode cX12_readThing 48 = .ok (.bipush 99, 2) := by decide +kernel
theorem dX12_readThing_50 : decode cX12_readThing 50 = .ok (.invokevirtual 258, 3) := by decide +kernel
theorem dX12_readThing_53 : decode cX12_readThing 53 = .ok (.iastore, 1) := by decide +kernel
theorem dX12_readThing_54 : decode cX12_readThing 54 = .ok (.aload_n 0, 1) := by decide +kernel
theorem dX12_readThing_55 : decode cX12_readThing 55 = .ok (.getfield 209, 3) := by decide +kernel
theorem dX12_readThing_58 : decode cX12_readThing 58 = .ok (.ifCond .ne 28, 3) := by decide +kernel
theorem dX12_readThing_61 : decode cX12_readThing 61 = .ok (.aload_n 0, 1) := by decide +kernel
theorem dX12_readThing_62 : decode cX12_readThing 62 = .ok (.invokevirtual 169, 3) := by decide +kernel
theorem dX12_readThing_65 : decode cX12_readThing 65 = .ok (.ifCond .eq 21, 3) := by decide +kernel
theorem dX12_readThing_68 : decode cX12_readThing 68 = .ok (.aload_n 0, 1) := by decide +kernel
theorem dX12_readThing_69 : decode cX12_readThing 69 = .ok (.invokevirtual 219, 3) := by decide +kernel
theorem dX12_readThing_72 : decode cX12_readThing 72 = .ok (.aload_n 0, 1) := by decide +kernel
theorem dX12_readThing_73 : decode cX12_readThing 73 = .ok (.getfield 35, 3) := by decide +kernel
theorem dX12_readThing_76 : decode cX12_readThing 76 = .ok (.sipush 1691, 3) := by decide +kernel
theorem dX12_readThing_79 : decode cX12_readThing 79 = .ok (.dup2, 1) := by decide +kernel
theorem dX12_readThing_80 : decode cX12_readThing 80 = .ok (.iaload, 1) := by decide +kernel
theorem dX12_readThing_81 : decode cX12_readThing 81 = .ok (.iconst 1, 1) := by decide +kernel
theorem dX12_readThing_82 : decode cX12_readThing 82 = .ok (.iload_n 1, 1) := by decide +kernel
theorem dX12_readThing_83 : decode cX12_readThing 83 = .ok (.ishl, 1) := by decide +kernel
theorem dX12_readThing_84 : decode cX12_readThing 84 = .ok (.ior, 1) := by decide +kernel
theorem dX12_readThing_85 : decode cX12_readThing 85 = .ok (.iastore, 1) := by decide +kernel
theorem dX12_readThing_86 : decode cX12_readThing 86 = .ok (.aload_n 0, 1) := by decide +kernel
theorem dX12_readThing_87 : decode cX12_readThing 87 = .ok (.getfield 209, 3) := by decide +kernel
theorem dX12_readThing_90 : decode cX12_readThing 90 = .ok (.ifCond .ne 15, 3) := by decide +kernel
theorem dX12_readThing_93 : decode cX12_readThing 93 = .ok (.aload_n 0, 1) := by decide +kernel
theorem dX12_readThing_94 : decode cX12_readThing 94 = .ok (.getfield 35, 3) := by decide +kernel
theorem dX12_readThing_97 : decode cX12_readThing 97 = .ok (.sipush 1684, 3) := by decide +kernel
theorem dX12_readThing_100 : decode cX12_readThing 100 = .ok (.dup2, 1) := by decide +kernel
theorem dX12_readThing_101 : decode cX12_readThing 101 = .ok (.iaload, 1) := by decide +kernel
theorem dX12_readThing_102 : decode cX12_readThing 102 = .ok (.iconst 1, 1) := by decide +kernel
theorem dX12_readThing_103 : decode cX12_readThing 103 = .ok (.iadd, 1) := by decide +kernel
theorem dX12_readThing_104 : decode cX12_readThing 104 = .ok (.iastore, 1) := by decide +kernel
theorem dX12_readThing_105 : decode cX12_readThing 105 = .ok (.return_, 1) := by decide +kernel
theorem dX12_readMakes_0 : decode cX12_readMakes 0 = .ok (.aload_n 0, 1) := by decide +kernel
theorem dX12_readMakes_1 : decode cX12_readMakes 1 = .ok (.getfield 35, 3) := by decide +kernel
theorem dX12_readMakes_4 : decode cX12_readMakes 4 = .ok (.sipush 1685, 3) := by decide +kernel
theorem dX12_readMakes_7 : decode cX12_readMakes 7 = .ok (.iaload, 1) := by decide +kernel
theorem dX12_readMakes_8 : decode cX12_readMakes 8 = .ok (.istore_n 1, 1) := by decide +kernel
theorem dX12_readMakes_9 : decode cX12_readMakes 9 = .ok (.iload_n 1, 1) := by decide +kernel
theorem dX12_readMakes_10 : decode cX12_readMakes 10 = .ok (.bipush 16, 2) := by decide +kernel
theorem dX12_readMakes_12 : decode cX12_readMakes 12 = .ok (.if_icmp .ne 13, 3) := by decide +kernel
theorem dX12_readMakes_15 : decode cX12_readMakes 15 = .ok (.aload_n 0, 1) := by decide +kernel
theorem dX12_readMakes_16 : decode cX12_readMakes 16 = .ok (.bipush 6, 2) := by decide +kernel
theorem dX12_readMakes_18 : decode cX12_readMakes 18 = .ok (.aload_n 0, 1) := by decide +kernel
theorem dX12_readMakes_19 : decode cX12_readMakes 19 = .ok (.getfield 123, 3) := by decide +kernel
theorem dX12_readMakes_22 : decode cX12_readMakes 22 = .ok (.invokevirtual 215, 3) := by decide +kernel
theorem dX12_readMakes_25 : decode cX12_readMakes 25 = .ok (.aload_n 0, 1) := by decide +kernel
theorem dX12_readMakes_26 : decode cX12_readMakes 26 = .ok (.getfield 209, 3) := by decide +kernel
theorem dX12_readMakes_29 : decode cX12_readMakes 29 = .ok (.ifCond .le 4, 3) := by decide +kernel
theorem dX12_readMakes_32 : decode cX12_readMakes 32 = .ok (.return_, 1) := by decide +kernel
theorem dX12_readMakes_33 : decode cX12_readMakes 33 = .ok (.aload_n 0, 1) := by decide +kernel
theorem dX12_readMakes_34 : decode cX12_readMakes 34 = .ok (.invokevirtual 219, 3) := by decide +kernel
theorem dX12_readMakes_37 : decode cX12_readMakes 37 = .ok (.aload_n 0, 1) := by decide +kernel
theorem dX12_readMakes_38 : decode cX12_readMakes 38 = .ok (.iconst 4, 1) := by decide +kernel
theorem dX12_readMakes_39 : decode cX12_readMakes 39 = .ok (.iconst 0, 1) := by decide +kernel
theorem dX12_readMakes_40 : decode cX12_readMakes 40 = .ok (.iconst (-1), 1) := by decide +kernel
theorem dX12_readMakes_41 : decode cX12_readMakes 41 = .ok (.invokevirtual 251, 3) := by decide +kernel
theorem dX12_readMakes_44 : decode cX12_readMakes 44 = .ok (.istore_n 2, 1) := by decide +kernel
theorem dX12_readMakes_45 : decode cX12_readMakes 45 = .ok (.aload_n 0, 1) := by decide +kernel
theorem dX12_readMakes_46 : decode cX12_readMakes 46 = .ok (.aload_n 0, 1) := by decide +kernel
theorem dX12_readMakes_47 : decode cX12_readMakes 47 = .ok (.invokevirtual 175, 3) := by decide +kernel
theorem dX12_readMakes_50 : decode cX12_readMakes 50 = .ok (.invokevirtual 244, 3) := by decide +kernel
theorem dX12_readMakes_53 : decode cX12_readMakes 53 = .ok (.aload_n 0, 1) := by decide +kernel
theorem dX12_readMakes_54 : decode cX12_readMakes 54 = .ok (.iload_n 2, 1) := by decide +kernel
theorem dX12_readMakes_55 : decode cX12_readMakes 55 = .ok (.invokevirtual 261, 3) := by decide +kernel
theorem dX12_readMakes_58 : decode cX12_readMakes 58 = .ok (.istore_n 3, 1) := by decide +kernel
theorem dX12_readMakes_59 : decode cX12_readMakes 59 = .ok (.aload_n 0, 1) := by decide +kernel
theorem dX12_readMakes_60 : decode cX12_readMakes 60 = .ok (.getfield 209, 3) := by decide +kernel
theorem dX12_readMakes_63 : decode cX12_readMakes 63 = .ok (.ifCond .le 4, 3) := by decide +kernel
theorem dX12_readMakes_66 : decode cX12_readMakes 66 = .ok (.return_, 1) := by decide +kernel
theorem dX12_readMakes_67 : decode cX12_readMakes 67 = .ok (.aload_n 0, 1) := by decide +kernel
theorem dX12_readMakes_68 : decode cX12_readMakes 68 = .ok (.getfield 35, 3) := by decide +kernel
theorem dX12_readMakes_71 : decode cX12_readMakes 71 = .ok (.sipush 1704, 3) := by decide +kernel
theorem dX12_readMakes_74 : decode cX12_readMakes 74 = .ok (.iload_n 1, 1) := by decide +kernel
theorem dX12_readMakes_75 : decode cX12_readMakes 75 = .ok (.iadd, 1) := by decide +kernel
theorem dX12_readMakes_76 : decode cX12_readMakes 76 = .ok (.iload_n 2, 1) := by decide +kernel
theorem dX12_readMakes_77 : decode cX12_readMakes 77 = .ok (.iastore, 1) := by decide +kernel
theorem dX12_readMakes_78 : decode cX12_readMakes 78 = .ok (.aload_n 0, 1) := by decide +kernel
theorem dX12_readMakes_79 : decode cX12_readMakes 79 = .ok (.getfield 35, 3) := by decide +kernel
theorem dX12_readMakes_82 : decode cX12_readMakes 82 = .ok (.sipush 1720, 3) := by decide +kernel
theorem dX12_readMakes_85 : decode cX12_readMakes 85 = .ok (.iload_n 1, 1) := by decide +kernel
theorem dX12_readMakes_86 : decode cX12_readMakes 86 = .ok (.iadd, 1) := by decide +kernel
theorem dX12_readMakes_87 : decode cX12_readMakes 87 = .ok (.iload_n 3, 1) := by decide +kernel
theorem dX12_readMakes_88 : decode cX12_readMakes 88 = .ok (.iastore, 1) := by decide +kernel
theorem dX12_readMakes_89 : decode cX12_readMakes 89 = .ok (.aload_n 0, 1) := by decide +kernel
theorem dX12_readMakes_90 : decode cX12_readMakes 90 = .ok (.getfield 35, 3) := by decide +kernel
theorem dX12_readMakes_93 : decode cX12_readMakes 93 = .ok (.sipush 1685, 3) := by decide +kernel
theorem dX12_readMakes_96 : decode cX12_readMakes 96 = .ok (.dup2, 1) := by decide +kernel
theorem dX12_readMakes_97 : decode cX12_readMakes 97 = .ok (.iaload, 1) := by decide +kernel
theorem dX12_readMakes_98 : decode cX12_readMakes 98 = .ok (.iconst 1, 1) := by decide +kernel
theorem dX12_readMakes_99 : decode cX12_readMakes 99 = .ok (.iadd, 1) := by decide +kernel
theorem dX12_readMakes_100 : decode cX12_readMakes 100 = .ok (.iastore, 1) := by decide +kernel
theorem dX12_readMakes_101 : decode cX12_readMakes 101 = .ok (.return_, 1) := by decide +kernel
theorem dX12_readWork_0 : decode cX12_readWork 0 = .ok (.aload_n 0, 1) := by decide +kernel
theorem dX12_readWork_1 : decode cX12_readWork 1 = .ok (.iconst 1, 1) := by decide +kernel
theorem dX12_readWork_2 : decode cX12_readWork 2 = .ok (.bipush 6, 2) := by decide +kernel
theorem dX12_readWork_4 : decode cX12_readWork 4 = .ok (.invokevirtual 255, 3) := by decide +kernel
theorem dX12_readWork_7 : decode cX12_readWork 7 = .ok (.istore_n 1, 1) := by decide +kernel
theorem dX12_readWork_8 : decode cX12_readWork 8 = .ok (.aload_n 0, 1) := by decide +kernel
theorem dX12_readWork_9 : decode cX12_readWork 9 = .ok (.aload_n 0, 1) := by decide +kernel
theorem dX12_readWork_10 : decode cX12_readWork 10 = .ok (.invokevirtual 181, 3) := by decide +kernel
theorem dX12_readWork_13 : decode cX12_readWork 13 = .ok (.invokevirtual 244, 3) := by decide +kernel
theorem dX12_readWork_16 : decode cX12_readWork 16 = .ok (.aload_n 0, 1) := by decide +kernel
theorem dX12_readWork_17 : decode cX12_readWork 17 = .ok (.iconst (-1), 1) := by decide +kernel
theorem dX12_readWork_18 : decode cX12_readWork 18 = .ok (.invokevirtual 261, 3) := by decide +kernel
theorem dX12_readWork_21 : decode cX12_readWork 21 = .ok (.istore_n 2, 1) := by decide +kernel
theorem dX12_readWork_22 : decode cX12_readWork 22 = .ok (.aload_n 0, 1) := by decide +kernel
theorem dX12_readWork_23 : decode cX12_readWork 23 = .ok (.getfield 209, 3) := by decide +kernel
theorem dX12_readWork_26 : decode cX12_readWork 26 = .ok (.ifCond .le 4, 3) := by decide +kernel
theorem dX12_readWork_29 : decode cX12_readWork 29 = .ok (.return_, 1) := by decide +kernel
theorem dX12_readWork_30 : decode cX12_readWork 30 = .ok (.aload_n 0, 1) := by decide +kernel
theorem dX12_readWork_31 : decode cX12_readWork 31 = .ok (.getfield 35, 3) := by decide +kernel
theorem dX12_readWork_34 : decode cX12_readWork 34 = .ok (.sipush 1736, 3) := by decide +kernel
theorem dX12_readWork_37 : decode cX12_readWork 37 = .ok (.iload_n 1, 1) := by decide +kernel
theorem dX12_readWork_38 : decode cX12_readWork 38 = .ok (.iadd, 1) := by decide +kernel
theorem dX12_readWork_39 : decode cX12_readWork 39 = .ok (.iload_n 2, 1) := by decide +kernel
theorem dX12_readWork_40 : decode cX12_readWork 40 = .ok (.iastore, 1) := by decide +kernel
theorem dX12_readWork_41 : decode cX12_readWork 41 = .ok (.aload_n 0, 1) := by decide +kernel
theorem dX12_readWork_42 : decode cX12_readWork 42 = .ok (.getfield 35, 3) := by decide +kernel
theorem dX12_readWork_45 : decode cX12_readWork 45 = .ok (.sipush 1686, 3) := by decide +kernel
theorem dX12_readWork_48 : decode cX12_readWork 48 = .ok (.dup2, 1) := by decide +kernel
theorem dX12_readWork_49 : decode cX12_readWork 49 = .ok (.iaload, 1) := by decide +kernel
theorem dX12_readWork_50 : decode cX12_readWork 50 = .ok (.iconst 1, 1) := by decide +kernel
theorem dX12_readWork_51 : decode cX12_readWork 51 = .ok (.iadd, 1) := by decide +kernel
theorem dX12_readWork_52 : decode cX12_readWork 52 = .ok (.iastore, 1) := by decide +kernel
theorem dX12_readWork_53 : decode cX12_readWork 53 = .ok (.return_, 1) := by decide +kernel
theorem dX12_readVoter_0 : decode cX12_readVoter 0 = .ok (.aload_n 0, 1) := by decide +kernel
theorem dX12_readVoter_1 : decode cX12_readVoter 1 = .ok (.iconst 2, 1) := by decide +kernel
theorem dX12_readVoter_2 : decode cX12_readVoter 2 = .ok (.bipush 6, 2) := by decide +kernel
theorem dX12_readVoter_4 : decode cX12_readVoter 4 = .ok (.invokevirtual 255, 3) := by decide +kernel
theorem dX12_readVoter_7 : decode cX12_readVoter 7 = .ok (.pop, 1) := by decide +kernel
theorem dX12_readVoter_8 : decode cX12_readVoter 8 = .ok (.aload_n 0, 1) := by decide +kernel
theorem dX12_readVoter_9 : decode cX12_readVoter 9 = .ok (.getfield 209, 3) := by decide +kernel
theorem dX12_readVoter_12 : decode cX12_readVoter 12 = .ok (.ifCond .ne 15, 3) := by decide +kernel
theorem dX12_readVoter_15 : decode cX12_readVoter 15 = .ok (.aload_n 0, 1) := by decide +kernel
theorem dX12_readVoter_16 : decode cX12_readVoter 16 = .ok (.getfield 35, 3) := by decide +kernel
theorem dX12_readVoter_19 : decode cX12_readVoter 19 = .ok (.sipush 1687, 3) := by decide +kernel
theorem dX12_readVoter_22 : decode cX12_readVoter 22 = .ok (.dup2, 1) := by decide +kernel
theorem dX12_readVoter_23 : decode cX12_readVoter 23 = .ok (.iaload, 1) := by decide +kernel
theorem dX12_readVoter_24 : decode cX12_readVoter 24 = .ok (.iconst 1, 1) := by decide +kernel
theorem dX12_readVoter_25 : decode cX12_readVoter 25 = .ok (.iadd, 1) := by decide +kernel
theorem dX12_readVoter_26 : decode cX12_readVoter 26 = .ok (.iastore, 1) := by decide +kernel
theorem dX12_readVoter_27 : decode cX12_readVoter 27 = .ok (.return_, 1) := by decide +kernel
theorem dX12_readHates_0 : decode cX12_readHates 0 = .ok (.aload_n 0, 1) := by decide +kernel
theorem dX12_readHates_1 : decode cX12_readHates 1 = .ok (.invokevirtual 219, 3) := by decide +kernel
theorem dX12_readHates_4 : decode cX12_readHates 4 = .ok (.aload_n 0, 1) := by decide +kernel
theorem dX12_readHates_5 : decode cX12_readHates 5 = .ok (.iconst 4, 1) := by decide +kernel
theorem dX12_readHates_6 : decode cX12_readHates 6 = .ok (.iconst 2, 1) := by decide +kernel
theorem dX12_readHates_7 : decode cX12_readHates 7 = .ok (.iconst (-1), 1) := by decide +kernel
theorem dX12_readHates_8 : decode cX12_readHates 8 = .ok (.invokevirtual 251, 3) := by decide +kernel
theorem dX12_readHates_11 : decode cX12_readHates 11 = .ok (.istore_n 1, 1) := by decide +kernel
theorem dX12_readHates_12 : decode cX12_readHates 12 = .ok (.aload_n 0, 1) := by decide +kernel
theorem dX12_readHates_13 : decode cX12_readHates 13 = .ok (.iconst 4, 1) := by decide +kernel
theorem dX12_readHates_14 : decode cX12_readHates 14 = .ok (.iconst 0, 1) := by decide +kernel
theorem dX12_readHates_15 : decode cX12_readHates 15 = .ok (.iconst (-1), 1) := by decide +kernel
theorem dX12_readHates_16 : decode cX12_readHates 16 = .ok (.invokevirtual 251, 3) := by decide +kernel
theorem dX12_readHates_19 : decode cX12_readHates 19 = .ok (.istore_n 2, 1) := by decide +kernel
theorem dX12_readHates_20 : decode cX12_readHates 20 = .ok (.aload_n 0, 1) := by decide +kernel
theorem dX12_readHates_21 : decode cX12_readHates 21 = .ok (.iconst 0, 1) := by decide +kernel
theorem dX12_readHates_22 : decode cX12_readHates 22 = .ok (.bipush 9, 2) := by decide +kernel
theorem dX12_readHates_24 : decode cX12_readHates 24 = .ok (.invokevirtual 258, 3) := by decide +kernel
theorem dX12_readHates_27 : decode cX12_readHates 27 = .ok (.istore_n 3, 1) := by decide +kernel
theorem dX12_readHates_28 : decode cX12_readHates 28 = .ok (.aload_n 0, 1) := by decide +kernel
theorem dX12_readHates_29 : decode cX12_readHates 29 = .ok (.getfield 209, 3) := by decide +kernel
theorem dX12_readHates_32 : decode cX12_readHates 32 = .ok (.ifCond .ne 19, 3) := by decide +kernel
theorem dX12_readHates_35 : decode cX12_readHates 35 = .ok (.aload_n 0, 1) := by decide +kernel
theorem dX12_readHates_36 : decode cX12_readHates 36 = .ok (.getfield 35, 3) := by decide +kernel
theorem dX12_readHates_39 : decode cX12_readHates 39 = .ok (.sipush 1742, 3) := by decide +kernel
theorem dX12_readHates_42 : decode cX12_readHates 42 = .ok (.bipush 12, 2) := by decide +kernel
theorem dX12_readHates_44 : decode cX12_readHates 44 = .ok (.iload_n 1, 1) := by decide +kernel
theorem dX12_readHates_45 : decode cX12_readHates 45 = .ok (.imul, 1) := by decide +kernel
theorem dX12_readHates_46 : decode cX12_readHates 46 = .ok (.iadd, 1) := by decide +kernel
theorem dX12_readHates_47 : decode cX12_readHates 47 = .ok (.iload_n 2, 1) := by decide +kernel
theorem dX12_readHates_48 : decode cX12_readHates 48 = .ok (.iadd, 1) := by decide +kernel
theorem dX12_readHates_49 : decode cX12_readHates 49 = .ok (.iload_n 3, 1) := by decide +kernel
theorem dX12_readHates_50 : decode cX12_readHates 50 = .ok (.iastore, 1) := by decide +kernel
theorem dX12_readHates_51 : decode cX12_readHates 51 = .ok (.return_, 1) := by decide +kernel
theorem dX12_readAhead_0 : decode cX12_readAhead 0 = .ok (.aload_n 0, 1) := by decide +kernel
theorem dX12_readAhead_1 : decode cX12_readAhead 1 = .ok (.invokevirtual 219, 3) := by decide +kernel
theorem dX12_readAhead_4 : decode cX12_readAhead 4 = .ok (.aload_n 0, 1) := by decide +kernel
theorem dX12_readAhead_5 : decode cX12_readAhead 5 = .ok (.iconst 4, 1) := by decide +kernel
theorem dX12_readAhead_6 : decode cX12_readAhead 6 = .ok (.iconst 0, 1) := by decide +kernel
theorem dX12_readAhead_7 : decode cX12_readAhead 7 = .ok (.iconst (-1), 1) := by decide +kernel
theorem dX12_readAhead_8 : decode cX12_readAhead 8 = .ok (.invokevirtual 251, 3) := by decide +kernel
theorem dX12_readAhead_11 : decode cX12_readAhead 11 = .ok (.istore_n 1, 1) := by decide +kernel
theorem dX12_readAhead_12 : decode cX12_readAhead 12 = .ok (.aload_n 0, 1) := by decide +kernel
theorem dX12_readAhead_13 : decode cX12_readAhead 13 = .ok (.iconst 4, 1) := by decide +kernel
theorem dX12_readAhead_14 : decode cX12_readAhead 14 = .ok (.iconst 0, 1) := by decide +kernel
theorem dX12_readAhead_15 : decode cX12_readAhead 15 = .ok (.iload_n 1, 1) := by decide +kernel
theorem dX12_readAhead_16 : decode cX12_readAhead 16 = .ok (.invokevirtual 251, 3) := by decide +kernel
theorem dX12_readAhead_19 : decode cX12_readAhead 19 = .ok (.istore_n 2, 1) := by decide +kernel
theorem dX12_readAhead_20 : decode cX12_readAhead 20 = .ok (.aload_n 0, 1) := by decide +kernel
theorem dX12_readAhead_21 : decode cX12_readAhead 21 = .ok (.getfield 209, 3) := by decide +kernel
theorem dX12_readAhead_24 : decode cX12_readAhead 24 = .ok (.ifCond .ne 19, 3) := by decide +kernel
theorem dX12_readAhead_27 : decode cX12_readAhead 27 = .ok (.aload_n 0, 1) := by decide +kernel
theorem dX12_readAhead_28 : decode cX12_readAhead 28 = .ok (.getfield 35, 3) := by decide +kernel
theorem dX12_readAhead_31 : decode cX12_readAhead 31 = .ok (.sipush 1814, 3) := by decide +kernel
theorem dX12_readAhead_34 : decode cX12_readAhead 34 = .ok (.iload_n 2, 1) := by decide +kernel
theorem dX12_readAhead_35 : decode cX12_readAhead 35 = .ok (.iadd, 1) := by decide +kernel
theorem dX12_readAhead_36 : decode cX12_readAhead 36 = .ok (.dup2, 1) := by decide +kernel
theorem dX12_readAhead_37 : decode cX12_readAhead 37 = .ok (.iaload, 1) := by decide +kernel
theorem dX12_readAhead_38 : decode cX12_readAhead 38 = .ok (.iconst 1, 1) := by decide +kernel
theorem dX12_readAhead_39 : decode cX12_readAhead 39 = .ok (.iload_n 1, 1) := by decide +kernel
theorem dX12_readAhead_40 : decode cX12_readAhead 40 = .ok (.ishl, 1) := by decide +kernel
theorem dX12_readAhead_41 : decode cX12_readAhead 41 = .ok (.ior, 1) := by decide +kernel
theorem dX12_readAhead_42 : decode cX12_readAhead 42 = .ok (.iastore, 1) := by decide +kernel
theorem dX12_readAhead_43 : decode cX12_readAhead 43 = .ok (.return_, 1) := by decide +kernel
theorem dX12_readLaw_0 : decode cX12_readLaw 0 = .ok (.aload_n 0, 1) := by decide +kernel
theorem dX12_readLaw_1 : decode cX12_readLaw 1 = .ok (.getfield 264, 3) := by decide +kernel
theorem dX12_readLaw_4 : decode cX12_readLaw 4 = .ok (.ifCond .eq 12, 3) := by decide +kernel
theorem dX12_readLaw_7 : decode cX12_readLaw 7 = .ok (.aload_n 0, 1) := by decide +kernel
theorem dX12_readLaw_8 : decode cX12_readLaw 8 = .ok (.iconst 5, 1) := by decide +kernel
theorem dX12_readLaw_9 : decode cX12_readLaw 9 = .ok (.aload_n 0, 1) := by decide +kernel
theorem dX12_readLaw_10 : decode cX12_readLaw 10 = .ok (.getfield 123, 3) := by decide +kernel
theorem dX12_readLaw_13 : decode cX12_readLaw 13 = .ok (.invokevirtual 215, 3) := by decide +kernel
theorem dX12_readLaw_16 : decode cX12_readLaw 16 = .ok (.aload_n 0, 1) := by decide +kernel
theorem dX12_readLaw_17 : decode cX12_readLaw 17 = .ok (.getfield 209, 3) := by decide +kernel
theorem dX12_readLaw_20 : decode cX12_readLaw 20 = .ok (.ifCond .le 4, 3) := by decide +kernel
theorem dX12_readLaw_23 : decode cX12_readLaw 23 = .ok (.return_, 1) := by decide +kernel
theorem dX12_readLaw_24 : decode cX12_readLaw 24 = .ok (.aload_n 0, 1) := by decide +kernel
theorem dX12_readLaw_25 : decode cX12_readLaw 25 = .ok (.iconst 1, 1) := by decide +kernel
theorem dX12_readLaw_26 : decode cX12_readLaw 26 = .ok (.putfield 264, 3) := by decide +kernel
theorem dX12_readLaw_29 : decode cX12_readLaw 29 = .ok (.aload_n 0, 1) := by decide +kernel
theorem dX12_readLaw_30 : decode cX12_readLaw 30 = .ok (.invokevirtual 219, 3) := by decide +kernel
theorem dX12_readLaw_33 : decode cX12_readLaw 33 = .ok (.aload_n 0, 1) := by decide +kernel
theorem dX12_readLaw_34 : decode cX12_readLaw 34 = .ok (.getfield 35, 3) := by decide +kernel
theorem dX12_readLaw_37 : decode cX12_readLaw 37 = .ok (.sipush 1688, 3) := by decide +kernel
theorem dX12_readLaw_40 : decode cX12_readLaw 40 = .ok (.aload_n 0, 1) := by decide +kernel
theorem dX12_readLaw_41 : decode cX12_readLaw 41 = .ok (.iconst 0, 1) := by decide +kernel
theorem dX12_readLaw_42 : decode cX12_readLaw 42 = .ok (.iconst 2, 1) := by decide +kernel
theorem dX12_readLaw_43 : decode cX12_readLaw 43 = .ok (.invokevirtual 258, 3) := by decide +kernel
theorem dX12_readLaw_46 : decode cX12_readLaw 46 = .ok (.iastore, 1) := by decide +kernel
theorem dX12_readLaw_47 : decode cX12_readLaw 47 = .ok (.return_, 1) := by decide +kernel
theorem dX12_city_0 : decode cX12_city 0 = .ok (.aload_n 0, 1) := by decide +kernel
theorem dX12_city_1 : decode cX12_city 1 = .ok (.iconst 0, 1) := by decide +kernel
theorem dX12_city_2 : decode cX12_city 2 = .ok (.putfield 74, 3) := by decide +kernel
theorem dX12_city_5 : decode cX12_city 5 = .ok (.aload_n 0, 1) := by decide +kernel
theorem dX12_city_6 : decode cX12_city 6 = .ok (.iconst 0, 1) := by decide +kernel
theorem dX12_city_7 : decode cX12_city 7 = .ok (.putfield 77, 3) := by decide +kernel
theorem dX12_city_10 : decode cX12_city 10 = .ok (.aload_n 0, 1) := by decide +kernel
theorem dX12_city_11 : decode cX12_city 11 = .ok (.iload_n 1, 1) := by decide +kernel
theorem dX12_city_12 : decode cX12_city 12 = .ok (.sipush 900, 3) := by decide +kernel
theorem dX12_city_15 : decode cX12_city 15 = .ok (.invokevirtual 268, 3) := by decide +kernel
theorem dX12_city_18 : decode cX12_city 18 = .ok (.ifCond .ne 5, 3) := by decide +kernel
theorem dX12_city_21 : decode cX12_city 21 = .ok (.iconst (-1), 1) := by decide +kernel
theorem dX12_city_22 : decode cX12_city 22 = .ok (.ireturn, 1) := by decide +kernel
theorem dX12_city_23 : decode cX12_city 23 = .ok (.iconst 0, 1) := by decide +kernel
theorem dX12_city_24 : decode cX12_city 24 = .ok (.istore_n 2, 1) := by decide +kernel
theorem dX12_city_25 : decode cX12_city 25 = .ok (.iload_n 2, 1) := by decide +kernel
theorem dX12_city_26 : decode cX12_city 26 = .ok (.sipush 421, 3) := by decide +kernel
theorem dX12_city_29 : decode cX12_city 29 = .ok (.if_icmp .ge 20, 3) := by decide +kernel
theorem dX12_city_32 : decode cX12_city 32 = .ok (.aload_n 0, 1) := by decide +kernel
theorem dX12_city_33 : decode cX12_city 33 = .ok (.getfield 35, 3) := by decide +kernel
theorem dX12_city_36 : decode cX12_city 36 = .ok (.sipush 1684, 3) := by decide +kernel
theorem dX12_city_39 : decode cX12_city 39 = .ok (.iload_n 2, 1) := by decide +kernel
theorem dX12_city_40 : decode cX12_city 40 = .ok (.iadd, 1) := by decide +kernel
theorem dX12_city_41 : decode cX12_city 41 = .ok (.iconst 0, 1) := by decide +kernel
theorem dX12_city_42 : decode cX12_city 42 = .ok (.iastore, 1) := by decide +kernel
theorem dX12_city_43 : decode cX12_city 43 = .ok (.iinc 2 1, 3) := by decide +kernel
theorem dX12_city_46 : decode cX12_city 46 = .ok (.goto (-21), 3) := by decide +kernel
theorem dX12_city_49 : decode cX12_city 49 = .ok (.aload_n 0, 1) := by decide +kernel
theorem dX12_city_50 : decode cX12_city 50 = .ok (.iconst 0, 1) := by decide +kernel
theorem dX12_city_51 : decode cX12_city 51 = .ok (.putfield 264, 3) := by decide +kernel
theorem dX12_city_54 : decode cX12_city 54 = .ok (.aload_n 0, 1) := by decide +kernel
theorem dX12_city_55 : decode cX12_city 55 = .ok (.getfield 209, 3) := by decide +kernel
theorem dX12_city_58 : decode cX12_city 58 = .ok (.ifCond .ne 125, 3) := by decide +kernel
theorem dX12_city_61 : decode cX12_city 61 = .ok (.aload_n 0, 1) := by decide +kernel
theorem dX12_city_62 : decode cX12_city 62 = .ok (.getfield 129, 3) := by decide +kernel
theorem dX12_city_65 : decode cX12_city 65 = .ok (.ifCond .eq 118, 3) := by decide +kernel
theorem dX12_city_68 : decode cX12_city 68 = .ok (.aload_n 0, 1) := by decide +kernel
theorem dX12_city_69 : decode cX12_city 69 = .ok (.invokevirtual 162, 3) := by decide +kernel
theorem dX12_city_72 : decode cX12_city 72 = .ok (.ifCond .eq 10, 3) := by decide +kernel
theorem dX12_city_75 : decode cX12_city 75 = .ok (.aload_n 0, 1) := by decide +kernel
theorem dX12_city_76 : decode cX12_city 76 = .ok (.invokevirtual 271, 3) := by decide +kernel
theorem dX12_city_79 : decode cX12_city 79 = .ok (.goto 91, 3) := by decide +kernel
theorem dX12_city_82 : decode cX12_city 82 = .ok (.aload_n 0, 1) := by decide +kernel
theorem dX12_city_83 : decode cX12_city 83 = .ok (.invokevirtual 172, 3) := by decide +kernel
theorem dX12_city_86 : decode cX12_city 86 = .ok (.ifCond .eq 10, 3) := by decide +kernel
theorem dX12_city_89 : decode cX12_city 89 = .ok (.aload_n 0, 1) := by decide +kernel
theorem dX12_city_90 : decode cX12_city 90 = .ok (.invokevirtual 274, 3) := by decide +kernel
theorem dX12_city_93 : decode cX12_city 93 = .ok (.goto 77, 3) := by decide +kernel
theorem dX12_city_96 : decode cX12_city 96 = .ok (.aload_n 0, 1) := by decide +kernel
theorem dX12_city_97 : decode cX12_city 97 = .ok (.invokevirtual 178, 3) := by decide +kernel
theorem dX12_city_100 : decode cX12_city 100 = .ok (.ifCond .eq 10, 3) := by decide +kernel
theorem dX12_city_103 : decode cX12_city 103 = .ok (.aload_n 0, 1) := by decide +kernel
theorem dX12_city_104 : decode cX12_city 104 = .ok (.invokevirtual 277, 3) := by decide +kernel
theorem dX12_city_107 : decode cX12_city 107 = .ok (.goto 63, 3) := by decide +kernel
theorem dX12_city_110 : decode cX12_city 110 = .ok (.aload_n 0, 1) := by decide +kernel
theorem dX12_city_111 : decode cX12_city 111 = .ok (.invokevirtual 184, 3) := by decide +kernel
theorem dX12_city_114 : decode cX12_city 114 = .ok (.ifCond .eq 10, 3) := by decide +kernel
theorem dX12_city_117 : decode cX12_city 117 = .ok (.aload_n 0, 1) := by decide +kernel
theorem dX12_city_118 : decode cX12_city 118 = .ok (.invokevirtual 280, 3) := by decide +kernel
theorem dX12_city_121 : decode cX12_city 121 = .ok (.goto 49, 3) := by decide +kernel
theorem dX12_city_124 : decode cX12_city 124 = .ok (.aload_n 0, 1) := by decide +kernel
theorem dX12_city_125 : decode cX12_city 125 = .ok (.invokevirtual 187, 3) := by decide +kernel
theorem dX12_city_128 : decode cX12_city 128 = .ok (.ifCond .eq 10, 3) := by decide +kernel
theorem dX12_city_131 : decode cX12_city 131 = .ok (.aload_n 0, 1) := by decide +kernel
theorem dX12_city_132 : decode cX12_city 132 = .ok (.invokevirtual 283, 3) := by decide +kernel
theorem dX12_city_135 : decode cX12_city 135 = .ok (.goto 35, 3) := by decide +kernel
theorem dX12_city_138 : decode cX12_city 138 = .ok (.aload_n 0, 1) := by decide +kernel
theorem dX12_city_139 : decode cX12_city 139 = .ok (.invokevirtual 190, 3) := by decide +kernel
theorem dX12_city_142 : decode cX12_city 142 = .ok (.ifCond .eq 10, 3) := by decide +kernel
theorem dX12_city_145 : decode cX12_city 145 = .ok (.aload_n 0, 1) := by decide +kernel
theorem dX12_city_146 : decode cX12_city 146 = .ok (.invokevirtual 286, 3) := by decide +kernel
theorem dX12_city_149 : decode cX12_city 149 = .ok (.goto 21, 3) := by decide +kernel
theorem dX12_city_152 : decode cX12_city 152 = .ok (.aload_n 0, 1) := by decide +kernel
theorem dX12_city_153 : decode cX12_city 153 = .ok (.invokevirtual 193, 3) := by decide +kernel
theorem dX12_city_156 : decode cX12_city 156 = .ok (.ifCond .eq 10, 3) := by decide +kernel
theorem dX12_city_159 : decode cX12_city 159 = .ok (.aload_n 0, 1) := by decide +kernel
theorem dX12_city_160 : decode cX12_city 160 = .ok (.invokevirtual 289, 3) := by decide +kernel
theorem dX12_city_163 : decode cX12_city 163 = .ok (.goto 7, 3) := by decide +kernel
theorem dX12_city_166 : decode cX12_city 166 = .ok (.aload_n 0, 1) := by decide +kernel
theorem dX12_city_167 : decode cX12_city 167 = .ok (.invokevirtual 222, 3) := by decide +kernel
theorem dX12_city_170 : decode cX12_city 170 = .ok (.aload_n 0, 1) := by decide +kernel
theorem dX12_city_171 : decode cX12_city 171 = .ok (.aload_n 0, 1) := by decide +kernel
theorem dX12_city_172 : decode cX12_city 172 = .ok (.bipush 59, 2) := by decide +kernel
theorem dX12_city_174 : decode cX12_city 174 = .ok (.invokevirtual 292, 3) := by decide +kernel
theorem dX12_city_177 : decode cX12_city 177 = .ok (.invokevirtual 244, 3) := by decide +kernel
theorem dX12_city_180 : decode cX12_city 180 = .ok (.goto (-126), 3) := by decide +kernel
theorem dX12_city_183 : decode cX12_city 183 = .ok (.aload_n 0, 1) := by decide +kernel
theorem dX12_city_184 : decode cX12_city 184 = .ok (.invokevirtual 295, 3) := by decide +kernel
theorem dX12_city_187 : decode cX12_city 187 = .ok (.ifCond .ne 5, 3) := by decide +kernel
theorem dX12_city_190 : decode cX12_city 190 = .ok (.iconst (-1), 1) := by decide +kernel
theorem dX12_city_191 : decode cX12_city 191 = .ok (.ireturn, 1) := by decide +kernel
theorem dX12_city_192 : decode cX12_city 192 = .ok (.aload_n 0, 1) := by decide +kernel
theorem dX12_city_193 : decode cX12_city 193 = .ok (.iconst 4, 1) := by decide +kernel
theorem dX12_city_194 : decode cX12_city 194 = .ok (.iconst 0, 1) := by decide +kernel
theorem dX12_city_195 : decode cX12_city 195 = .ok (.invokevirtual 298, 3) := by decide +kernel
theorem dX12_city_198 : decode cX12_city 198 = .ok (.aload_n 0, 1) := by decide +kernel
theorem dX12_city_199 : decode cX12_city 199 = .ok (.getfield 35, 3) := by decide +kernel
theorem dX12_city_202 : decode cX12_city 202 = .ok (.iconst 0, 1) := by decide +kernel
theorem dX12_city_203 : decode cX12_city 203 = .ok (.iaload, 1) := by decide +kernel
theorem dX12_city_204 : decode cX12_city 204 = .ok (.ireturn, 1) := by decide +kernel
theorem dX12_readTest_0 : decode cX12_readTest 0 = .ok (.aload_n 0, 1) := by decide +kernel
theorem dX12_readTest_1 : decode cX12_readTest 1 = .ok (.invokevirtual 200, 3) := by decide +kernel
theorem dX12_readTest_4 : decode cX12_readTest 4 = .ok (.istore_n 2, 1) := by decide +kernel
theorem dX12_readTest_5 : decode cX12_readTest 5 = .ok (.aload_n 0, 1) := by decide +kernel
theorem dX12_readTest_6 : decode cX12_readTest 6 = .ok (.iload_n 2, 1) := by decide +kernel
theorem dX12_readTest_7 : decode cX12_readTest 7 = .ok (.ifCond .lt 7, 3) := by decide +kernel
theorem dX12_readTest_10 : decode cX12_readTest 10 = .ok (.iconst 1, 1) := by decide +kernel
theorem dX12_readTest_11 : decode cX12_readTest 11 = .ok (.goto 4, 3) := by decide +kernel
theorem dX12_readTest_14 : decode cX12_readTest 14 = .ok (.iconst 0, 1) := by decide +kernel
theorem dX12_readTest_15 : decode cX12_readTest 15 = .ok (.invokevirtual 244, 3) := by decide +kernel
theorem dX12_readTest_18 : decode cX12_readTest 18 = .ok (.aload_n 0, 1) := by decide +kernel
theorem dX12_readTest_19 : decode cX12_readTest 19 = .ok (.getfield 35, 3) := by decide +kernel
theorem dX12_readTest_22 : decode cX12_readTest 22 = .ok (.iload_n 1, 1) := by decide +kernel
theorem dX12_readTest_23 : decode cX12_readTest 23 = .ok (.bipush 6, 2) := by decide +kernel
theorem dX12_readTest_25 : decode cX12_readTest 25 = .ok (.iadd, 1) := by decide +kernel
theorem dX12_readTest_26 : decode cX12_readTest 26 = .ok (.iload_n 2, 1) := by decide +kernel
theorem dX12_readTest_27 : decode cX12_readTest 27 = .ok (.iastore, 1) := by decide +kernel
theorem dX12_readTest_28 : decode cX12_readTest 28 = .ok (.aload_n 0, 1) := by decide +kernel
theorem dX12_readTest_29 : decode cX12_readTest 29 = .ok (.getfield 35, 3) := by decide +kernel
theorem dX12_readTest_32 : decode cX12_readTest 32 = .ok (.iload_n 1, 1) := by decide +kernel
theorem dX12_readTest_33 : decode cX12_readTest 33 = .ok (.iconst 1, 1) := by decide +kernel
theorem dX12_readTest_34 : decode cX12_readTest 34 = .ok (.iadd, 1) := by decide +kernel
theorem dX12_readTest_35 : decode cX12_readTest 35 = .ok (.aload_n 0, 1) := by decide +kernel
theorem dX12_readTest_36 : decode cX12_readTest 36 = .ok (.iconst 0, 1) := by decide +kernel
theorem dX12_readTest_37 : decode cX12_readTest 37 = .ok (.iload_n 2, 1) := by decide +kernel
theorem dX12_readTest_38 : decode cX12_readTest 38 = .ok (.iconst 1, 1) := by decide +kernel
theorem dX12_readTest_39 : decode cX12_readTest 39 = .ok (.if_icmp .ne 7, 3) := by decide +kernel
theorem dX12_readTest_42 : decode cX12_readTest 42 = .ok (.iconst 1, 1) := by decide +kernel
theorem dX12_readTest_43 : decode cX12_readTest 43 = .ok (.goto 4, 3) := by decide +kernel
theorem dX12_readTest_46 : decode cX12_readTest 46 = .ok (.iconst 0, 1) := by decide +kernel
theorem dX12_readTest_47 : decode cX12_readTest 47 = .ok (.iconst (-1), 1) := by decide +kernel
theorem dX12_readTest_48 : decode cX12_readTest 48 = .ok (.invokevirtual 251, 3) := by decide +kernel
theorem dX12_readTest_51 : decode cX12_readTest 51 = .ok (.iastore, 1) := by decide +kernel
theorem dX12_readTest_52 : decode cX12_readTest 52 = .ok (.aload_n 0, 1) := by decide +kernel
theorem dX12_readTest_53 : decode cX12_readTest 53 = .ok (.getfield 209, 3) := by decide +kernel
theorem dX12_readTest_56 : decode cX12_readTest 56 = .ok (.ifCond .gt 8, 3) := by decide +kernel
theorem dX12_readTest_59 : decode cX12_readTest 59 = .ok (.iload_n 2, 1) := by decide +kernel
theorem dX12_readTest_60 : decode cX12_readTest 60 = .ok (.iconst 2, 1) := by decide +kernel
theorem dX12_readTest_61 : decode cX12_readTest 61 = .ok (.if_icmp .eq 4, 3) := by decide +kernel
theorem dX12_readTest_64 : decode cX12_readTest 64 = .ok (.return_, 1) := by decide +kernel
theorem dX12_readTest_65 : decode cX12_readTest 65 = .ok (.aload_n 0, 1) := by decide +kernel
theorem dX12_readTest_66 : decode cX12_readTest 66 = .ok (.getfield 35, 3) := by decide +kernel
theorem dX12_readTest_69 : decode cX12_readTest 69 = .ok (.iload_n 1, 1) := by decide +kernel
theorem dX12_readTest_70 : decode cX12_readTest 70 = .ok (.bipush 7, 2) := by decide +kernel
theorem dX12_readTest_72 : decode cX12_readTest 72 = .ok (.iadd, 1) := by decide +kernel
theorem dX12_readTest_73 : decode cX12_readTest 73 = .ok (.aload_n 0, 1) := by decide +kernel
theorem dX12_readTest_74 : decode cX12_readTest 74 = .ok (.getfield 129, 3) := by decide +kernel
theorem dX12_readTest_77 : decode cX12_readTest 77 = .ok (.iconst 3, 1) := by decide +kernel
theorem dX12_readTest_78 : decode cX12_readTest 78 = .ok (.if_icmp .ne 10, 3) := by decide +kernel
theorem dX12_readTest_81 : decode cX12_readTest 81 = .ok (.aload_n 0, 1) := by decide +kernel
theorem dX12_readTest_82 : decode cX12_readTest 82 = .ok (.getfield 148, 3) := by decide +kernel
theorem dX12_readTest_85 : decode cX12_readTest 85 = .ok (.goto 4, 3) := by decide +kernel
theorem dX12_readTest_88 : decode cX12_readTest 88 = .ok (.iconst 0, 1) := by decide +kernel
theorem dX12_readTest_89 : decode cX12_readTest 89 = .ok (.iastore, 1) := by decide +kernel
theorem dX12_readTest_90 : decode cX12_readTest 90 = .ok (.aload_n 0, 1) := by decide +kernel
theorem dX12_readTest_91 : decode cX12_readTest 91 = .ok (.aload_n 0, 1) := by decide +kernel
theorem dX12_readTest_92 : decode cX12_readTest 92 = .ok (.bipush 60, 2) := by decide +kernel
theorem dX12_readTest_94 : decode cX12_readTest 94 = .ok (.invokevirtual 292, 3) := by decide +kernel
theorem dX12_readTest_97 : decode cX12_readTest 97 = .ok (.ifCond .ne 21, 3) := by decide +kernel
theorem dX12_readTest_100 : decode cX12_readTest 100 = .ok (.aload_n 0, 1) := by decide +kernel
theorem dX12_readTest_101 : decode cX12_readTest 101 = .ok (.bipush 62, 2) := by decide +kernel
theorem dX12_readTest_103 : decode cX12_readTest 103 = .ok (.invokevirtual 292, 3) := by decide +kernel
theorem dX12_readTest_106 : decode cX12_readTest 106 = .ok (.ifCond .ne 12, 3) := by decide +kernel
theorem dX12_readTest_109 : decode cX12_readTest 109 = .ok (.aload_n 0, 1) := by decide +kernel
theorem dX12_readTest_110 : decode cX12_readTest 110 = .ok (.bipush 61, 2) := by decide +kernel
theorem dX12_readTest_112 : decode cX12_readTest 112 = .ok (.invokevirtual 292, 3) := by decide +kernel
theorem dX12_readTest_115 : decode cX12_readTest 115 = .ok (.ifCond .eq 7, 3) := by decide +kernel
theorem dX12_readTest_118 : decode cX12_readTest 118 = .ok (.iconst 1, 1) := by decide +kernel
theorem dX12_readTest_119 : decode cX12_readTest 119 = .ok (.goto 4, 3) := by decide +kernel
theorem dX12_readTest_122 : decode cX12_readTest 122 = .ok (.iconst 0, 1) := by decide +kernel
theorem dX12_readTest_123 : decode cX12_readTest 123 = .ok (.invokevirtual 244, 3) := by decide +kernel
theorem dX12_readTest_126 : decode cX12_readTest 126 = .ok (.aload_n 0, 1) := by decide +kernel
theorem dX12_readTest_127 : decode cX12_readTest 127 = .ok (.getfield 35, 3) := by decide +kernel
theorem dX12_readTest_130 : decode cX12_readTest 130 = .ok (.iload_n 1, 1) := by decide +kernel
theorem dX12_readTest_131 : decode cX12_readTest 131 = .ok (.iconst 2, 1) := by decide +kernel
theorem dX12_readTest_132 : decode cX12_readTest 132 = .ok (.iadd, 1) := by decide +kernel
theorem dX12_readTest_133 : decode cX12_readTest 133 = .ok (.aload_n 0, 1) := by decide +kernel
theorem dX12_readTest_134 : decode cX12_readTest 134 = .ok (.iconst 0, 1) := by decide +kernel
theorem dX12_readTest_135 : decode cX12_readTest 135 = .ok (.bipush 99, 2) := by decide +kernel
theorem dX12_readTest_137 : decode cX12_readTest 137 = .ok (.invokevirtual 258, 3) := by decide +kernel
theorem dX12_readTest_140 : decode cX12_readTest 140 = .ok (.iastore, 1) := by decide +kernel
theorem dX12_readTest_141 : decode cX12_readTest 141 = .ok (.return_, 1) := by decide +kernel
theorem dX12_readRest_0 : decode cX12_readRest 0 = .ok (.aload_n 0, 1) := by decide +kernel
theorem dX12_readRest_1 : decode cX12_readRest 1 = .ok (.getfield 35, 3) := by decide +kernel
theorem dX12_readRest_4 : decode cX12_readRest 4 = .ok (.iload_n 1, 1) := by decide +kernel
theorem dX12_readRest_5 : decode cX12_readRest 5 = .ok (.iaload, 1) := by decide +kernel
theorem dX12_readRest_6 : decode cX12_readRest 6 = .ok (.istore_n 2, 1) := by decide +kernel
theorem dX12_readRest_7 : decode cX12_readRest 7 = .ok (.iload_n 2, 1) := by decide +kernel
theorem dX12_readRest_8 : decode cX12_readRest 8 = .ok (.ifCond .ne 21, 3) := by decide +kernel
theorem dX12_readRest_11 : decode cX12_readRest 11 = .ok (.aload_n 0, 1) := by decide +kernel
theorem dX12_readRest_12 : decode cX12_readRest 12 = .ok (.getfield 35, 3) := by decide +kernel
theorem dX12_readRest_15 : decode cX12_readRest 15 = .ok (.iload_n 1, 1) := by decide +kernel
theorem dX12_readRest_16 : decode cX12_readRest 16 = .ok (.iconst 1, 1) := by decide +kernel
theorem dX12_readRest_17 : decode cX12_readRest 17 = .ok (.iadd, 1) := by decide +kernel
theorem dX12_readRest_18 : decode cX12_readRest 18 = .ok (.aload_n 0, 1) := by decide +kernel
theorem dX12_readRest_19 : decode cX12_readRest 19 = .ok (.iconst 1, 1) := by decide +kernel
theorem dX12_readRest_20 : decode cX12_readRest 20 = .ok (.bipush 9, 2) := by decide +kernel
theorem dX12_readRest_22 : decode cX12_readRest 22 = .ok (.invokevirtual 258, 3) := by decide +kernel
theorem dX12_readRest_25 : decode cX12_readRest 25 = .ok (.iastore, 1) := by decide +kernel
theorem dX12_readRest_26 : decode cX12_readRest 26 = .ok (.goto 60, 3) := by decide +kernel
theorem dX12_readRest_29 : decode cX12_readRest 29 = .ok (.iload_n 2, 1) := by decide +kernel
theorem dX12_readRest_30 : decode cX12_readRest 30 = .ok (.bipush 6, 2) := by decide +kernel
theorem dX12_readRest_32 : decode cX12_readRest 32 = .ok (.if_icmp .ne 21, 3) := by decide +kernel
theorem dX12_readRest_35 : decode cX12_readRest 35 = .ok (.aload_n 0, 1) := by decide +kernel
theorem dX12_readRest_36 : decode cX12_readRest 36 = .ok (.getfield 35, 3) := by decide +kernel
theorem dX12_readRest_39 : decode cX12_readRest 39 = .ok (.iload_n 1, 1) := by decide +kernel
theorem dX12_readRest_40 : decode cX12_readRest 40 = .ok (.iconst 1, 1) := by decide +kernel
theorem dX12_readRest_41 : decode cX12_readRest 41 = .ok (.iadd, 1) := by decide +kernel
theorem dX12_readRest_42 : decode cX12_readRest 42 = .ok (.aload_n 0, 1) := by decide +kernel
theorem dX12_readRest_43 : decode cX12_readRest 43 = .ok (.iconst 1, 1) := by decide +kernel
theorem dX12_readRest_44 : decode cX12_readRest 44 = .ok (.bipush 99, 2) := by decide +kernel
theorem dX12_readRest_46 : decode cX12_readRest 46 = .ok (.invokevirtual 258, 3) := by decide +kernel
theorem dX12_readRest_49 : decode cX12_readRest 49 = .ok (.iastore, 1) := by decide +kernel
theorem dX12_readRest_50 : decode cX12_readRest 50 = .ok (.goto 36, 3) := by decide +kernel
theorem dX12_readRest_53 : decode cX12_readRest 53 = .ok (.iload_n 2, 1) := by decide +kernel
theorem dX12_readRest_54 : decode cX12_readRest 54 = .ok (.iconst 5, 1) := by decide +kernel
theorem dX12_readRest_55 : decode cX12_readRest 55 = .ok (.if_icmp .ne 11, 3) := by decide +kernel
theorem dX12_readRest_58 : decode cX12_readRest 58 = .ok (.aload_n 0, 1) := by decide +kernel
theorem dX12_readRest_59 : decode cX12_readRest 59 = .ok (.iload_n 1, 1) := by decide +kernel
theorem dX12_readRest_60 : decode cX12_readRest 60 = .ok (.invokevirtual 301, 3) := by decide +kernel
theorem dX12_readRest_63 : decode cX12_readRest 63 = .ok (.goto 23, 3) := by decide +kernel
theorem dX12_readRest_66 : decode cX12_readRest 66 = .ok (.iload_n 2, 1) := by decide +kernel
theorem dX12_readRest_67 : decode cX12_readRest 67 = .ok (.iconst 4, 1) := by decide +kernel
theorem dX12_readRest_68 : decode cX12_readRest 68 = .ok (.if_icmp .ge 18, 3) := by decide +kernel
theorem dX12_readRest_71 : decode cX12_readRest 71 = .ok (.aload_n 0, 1) := by decide +kernel
theorem dX12_readRest_72 : decode cX12_readRest 72 = .ok (.getfield 35, 3) := by decide +kernel
theorem dX12_readRest_75 : decode cX12_readRest 75 = .ok (.iload_n 1, 1) := by decide +kernel
theorem dX12_readRest_76 : decode cX12_readRest 76 = .ok (.iconst 1, 1) := by decide +kernel
theorem dX12_readRest_77 : decode cX12_readRest 77 = .ok (.iadd, 1) := by decide +kernel
theorem dX12_readRest_78 : decode cX12_readRest 78 = .ok (.aload_n 0, 1) := by decide +kernel
theorem dX12_readRest_79 : decode cX12_readRest 79 = .ok (.iconst 0, 1) := by decide +kernel
theorem dX12_readRest_80 : decode cX12_readRest 80 = .ok (.iconst 0, 1) := by decide +kernel
theorem dX12_readRest_81 : decode cX12_readRest 81 = .ok (.iconst (-1), 1) := by decide +kernel
theorem dX12_readRest_82 : decode cX12_readRest 82 = .ok (.invokevirtual 251, 3) := by decide +kernel
theorem dX12_readRest_85 : decode cX12_readRest 85 = .ok (.iastore, 1) := by decide +kernel
theorem dX12_readRest_86 : decode cX12_readRest 86 = .ok (.return_, 1) := by decide +kernel
theorem dX12_readStep_0 : decode cX12_readStep 0 = .ok (.aload_n 0, 1) := by decide +kernel
theorem dX12_readStep_1 : decode cX12_readStep 1 = .ok (.invokevirtual 196, 3) := by decide +kernel
theorem dX12_readStep_4 : decode cX12_readStep 4 = .ok (.istore_n 2, 1) := by decide +kernel
theorem dX12_readStep_5 : decode cX12_readStep 5 = .ok (.iload_n 2, 1) := by decide +kernel
theorem dX12_readStep_6 : decode cX12_readStep 6 = .ok (.iconst 5, 1) := by decide +kernel
theorem dX12_readStep_7 : decode cX12_readStep 7 = .ok (.if_icmp .eq 9, 3) := by decide +kernel
theorem dX12_readStep_10 : decode cX12_readStep 10 = .ok (.iload_n 2, 1) := by decide +kernel
theorem dX12_readStep_11 : decode cX12_readStep 11 = .ok (.bipush 6, 2) := by decide +kernel
theorem dX12_readStep_13 : decode cX12_readStep 13 = .ok (.if_icmp .ne 7, 3) := by decide +kernel
theorem dX12_readStep_16 : decode cX12_readStep 16 = .ok (.iconst 1, 1) := by decide +kernel
theorem dX12_readStep_17 : decode cX12_readStep 17 = .ok (.goto 4, 3) := by decide +kernel
theorem dX12_readStep_20 : decode cX12_readStep 20 = .ok (.iconst 0, 1) := by decide +kernel
theorem dX12_readStep_21 : decode cX12_readStep 21 = .ok (.istore_n 3, 1) := by decide +kernel
theorem dX12_readStep_22 : decode cX12_readStep 22 = .ok (.iload_n 2, 1) := by decide +kernel
theorem dX12_readStep_23 : decode cX12_readStep 23 = .ok (.ifCond .ge 7, 3) := by decide +kernel
theorem dX12_readStep_26 : decode cX12_readStep 26 = .ok (.aload_n 0, 1) := by decide +kernel
theorem dX12_readStep_27 : decode cX12_readStep 27 = .ok (.invokevirtual 222, 3) := by decide +kernel
theorem dX12_readStep_30 : decode cX12_readStep 30 = .ok (.aload_n 0, 1) := by decide +kernel
theorem dX12_readStep_31 : decode cX12_readStep 31 = .ok (.getfield 209, 3) := by decide +kernel
theorem dX12_readStep_34 : decode cX12_readStep 34 = .ok (.ifCond .ne 22, 3) := by decide +kernel
theorem dX12_readStep_37 : decode cX12_readStep 37 = .ok (.aload_n 0, 1) := by decide +kernel
theorem dX12_readStep_38 : decode cX12_readStep 38 = .ok (.getfield 304, 3) := by decide +kernel
theorem dX12_readStep_41 : decode cX12_readStep 41 = .ok (.bipush 30, 2) := by decide +kernel
theorem dX12_readStep_43 : decode cX12_readStep 43 = .ok (.if_icmp .ne 13, 3) := by decide +kernel
theorem dX12_readStep_46 : decode cX12_readStep 46 = .ok (.aload_n 0, 1) := by decide +kernel
theorem dX12_readStep_47 : decode cX12_readStep 47 = .ok (.bipush 6, 2) := by decide +kernel
theorem dX12_readStep_49 : decode cX12_readStep 49 = .ok (.aload_n 0, 1) := by decide +kernel
theorem dX12_readStep_50 : decode cX12_readStep 50 = .ok (.getfield 123, 3) := by decide +kernel
theorem dX12_readStep_53 : decode cX12_readStep 53 = .ok (.invokevirtual 215, 3) := by decide +kernel
theorem dX12_readStep_56 : decode cX12_readStep 56 = .ok (.aload_n 0, 1) := by decide +kernel
theorem dX12_readStep_57 : decode cX12_readStep 57 = .ok (.getfield 209, 3) := by decide +kernel
theorem dX12_readStep_60 : decode cX12_readStep 60 = .ok (.ifCond .ne 22, 3) := by decide +kernel
theorem dX12_readStep_63 : decode cX12_readStep 63 = .ok (.iload_n 3, 1) := by decide +kernel
theorem dX12_readStep_64 : decode cX12_readStep 64 = .ok (.ifCond .eq 18, 3) := by decide +kernel
theorem dX12_readStep_67 : decode cX12_readStep 67 = .ok (.iload_n 1, 1) := by decide +kernel
theorem dX12_readStep_68 : decode cX12_readStep 68 = .ok (.iconst 3, 1) := by decide +kernel
theorem dX12_readStep_69 : decode cX12_readStep 69 = .ok (.if_icmp .ne 13, 3) := by decide +kernel
theorem dX12_readStep_72 : decode cX12_readStep 72 = .ok (.aload_n 0, 1) := by decide +kernel
theorem dX12_readStep_73 : decode cX12_readStep 73 = .ok (.bipush 7, 2) := by decide +kernel
theorem dX12_readStep_75 : decode cX12_readStep 75 = .ok (.aload_n 0, 1) := by decide +kernel
theorem dX12_readStep_76 : decode cX12_readStep 76 = .ok (.getfield 123, 3) := by decide +kernel
theorem dX12_readStep_79 : decode cX12_readStep 79 = .ok (.invokevirtual 215, 3) := by decide +kernel
theorem dX12_readStep_82 : decode cX12_readStep 82 = .ok (.aload_n 0, 1) := by decide +kernel
theorem dX12_readStep_83 : decode cX12_readStep 83 = .ok (.getfield 209, 3) := by decide +kernel
theorem dX12_readStep_86 : decode cX12_readStep 86 = .ok (.ifCond .le 4, 3) := by decide +kernel
theorem dX12_readStep_89 : decode cX12_readStep 89 = .ok (.return_, 1) := by decide +kernel
theorem dX12_readStep_90 : decode cX12_readStep 90 = .ok (.sipush 1828, 3) := by decide +kernel
theorem dX12_readStep_93 : decode cX12_readStep 93 = .ok (.bipush 9, 2) := by decide +kernel
theorem dX12_readStep_95 : decode cX12_readStep 95 = .ok (.aload_n 0, 1) := by decide +kernel
theorem dX12_readStep_96 : decode cX12_readStep 96 = .ok (.getfield 304, 3) := by decide +kernel
theorem dX12_readStep_99 : decode cX12_readStep 99 = .ok (.imul, 1) := by decide +kernel
theorem dX12_readStep_100 : decode cX12_readStep 100 = .ok (.iadd, 1) := by decide +kernel
theorem dX12_readStep_101 : decode cX12_readStep 101 = .ok (.istore 4, 2) := by decide +kernel
theorem dX12_readStep_103 : decode cX12_readStep 103 = .ok (.aload_n 0, 1) := by decide +kernel
theorem dX12_readStep_104 : decode cX12_readStep 104 = .ok (.dup, 1) := by decide +kernel
theorem dX12_readStep_105 : decode cX12_readStep 105 = .ok (.getfield 304, 3) := by decide +kernel
theorem dX12_readStep_108 : decode cX12_readStep 108 = .ok (.iconst 1, 1) := by decide +kernel
theorem dX12_readStep_109 : decode cX12_readStep 109 = .ok (.iadd, 1) := by decide +kernel
theorem dX12_readStep_110 : decode cX12_readStep 110 = .ok (.putfield 304, 3) := by decide +kernel
theorem dX12_readStep_113 : decode cX12_readStep 113 = .ok (.aload_n 0, 1) := by decide +kernel
theorem dX12_readStep_114 : decode cX12_readStep 114 = .ok (.invokevirtual 219, 3) := by decide +kernel
theorem dX12_readStep_117 : decode cX12_readStep 117 = .ok (.aload_n 0, 1) := by decide +kernel
theorem dX12_readStep_118 : decode cX12_readStep 118 = .ok (.getfield 35, 3) := by decide +kernel
theorem dX12_readStep_121 : decode cX12_readStep 121 = .ok (.iload 4, 2) := by decide +kernel
theorem dX12_readStep_123 : decode cX12_readStep 123 = .ok (.iload_n 2, 1) := by decide +kernel
theorem dX12_readStep_124 : decode cX12_readStep 124 = .ok (.iastore, 1) := by decide +kernel
theorem dX12_readStep_125 : decode cX12_readStep 125 = .ok (.aload_n 0, 1) := by decide +kernel
theorem dX12_readStep_126 : decode cX12_readStep 126 = .ok (.iload 4, 2) := by decide +kernel
theorem dX12_readStep_128 : decode cX12_readStep 128 = .ok (.invokevirtual 307, 3) := by decide +kernel
theorem dX12_readStep_131 : decode cX12_readStep 131 = .ok (.aload_n 0, 1) := by decide +kernel
theorem dX12_readStep_132 : decode cX12_readStep 132 = .ok (.aload_n 0, 1) := by decide +kernel
theorem dX12_readStep_133 : decode cX12_readStep 133 = .ok (.bipush 59, 2) := by decide +kernel
theorem dX12_readStep_135 : decode cX12_readStep 135 = .ok (.invokevirtual 292, 3) := by decide +kernel
theorem dX12_readStep_138 : decode cX12_readStep 138 = .ok (.invokevirtual 244, 3) := by decide +kernel
theorem dX12_readStep_141 : decode cX12_readStep 141 = .ok (.iload_n 3, 1) := by decide +kernel
theorem dX12_readStep_142 : decode cX12_readStep 142 = .ok (.ifCond .eq 27, 3) := by decide +kernel
theorem dX12_readStep_145 : decode cX12_readStep 145 = .ok (.aload_n 0, 1) := by decide +kernel
theorem dX12_readStep_146 : decode cX12_readStep 146 = .ok (.getfield 209, 3) := by decide +kernel
theorem dX12_readStep_149 : decode cX12_readStep 149 = .ok (.ifCond .ne 20, 3) := by decide +kernel
theorem dX12_readStep_152 : decode cX12_readStep 152 = .ok (.aload_n 0, 1) := by decide +kernel
theorem dX12_readStep_153 : decode cX12_readStep 153 = .ok (.invokevirtual 203, 3) := by decide +kernel
theorem dX12_readStep_156 : decode cX12_readStep 156 = .ok (.ifCond .ne 13, 3) := by decide +kernel
theorem dX12_readStep_159 : decode cX12_readStep 159 = .ok (.aload_n 0, 1) := by decide +kernel
theorem dX12_readStep_160 : decode cX12_readStep 160 = .ok (.iload_n 1, 1) := by decide +kernel
theorem dX12_readStep_161 : decode cX12_readStep 161 = .ok (.iconst 1, 1) := by decide +kernel
theorem dX12_readStep_162 : decode cX12_readStep 162 = .ok (.iadd, 1) := by decide +kernel
theorem dX12_readStep_163 : decode cX12_readStep 163 = .ok (.invokevirtual 310, 3) := by decide +kernel
theorem dX12_readStep_166 : decode cX12_readStep 166 = .ok (.goto (-25), 3) := by decide +kernel
theorem dX12_readStep_169 : decode cX12_readStep 169 = .ok (.iload_n 3, 1) := by decide +kernel
theorem dX12_readStep_170 : decode cX12_readStep 170 = .ok (.ifCond .eq 21, 3) := by decide +kernel
theorem dX12_readStep_173 : decode cX12_readStep 173 = .ok (.aload_n 0, 1) := by decide +kernel
theorem dX12_readStep_174 : decode cX12_readStep 174 = .ok (.aload_n 0, 1) := by decide +kernel
theorem dX12_readStep_175 : decode cX12_readStep 175 = .ok (.invokevirtual 203, 3) := by decide +kernel
theorem dX12_readStep_178 : decode cX12_readStep 178 = .ok (.invokevirtual 244, 3) := by decide +kernel
theorem dX12_readStep_181 : decode cX12_readStep 181 = .ok (.aload_n 0, 1) := by decide +kernel
theorem dX12_readStep_182 : decode cX12_readStep 182 = .ok (.aload_n 0, 1) := by decide +kernel
theorem dX12_readStep_183 : decode cX12_readStep 183 = .ok (.bipush 59, 2) := by decide +kernel
theorem dX12_readStep_185 : decode cX12_readStep 185 = .ok (.invokevirtual 292, 3) := by decide +kernel
theorem dX12_readStep_188 : decode cX12_readStep 188 = .ok (.invokevirtual 244, 3) := by decide +kernel
theorem dX12_readStep_191 : decode cX12_readStep 191 = .ok (.aload_n 0, 1) := by decide +kernel
theorem dX12_readStep_192 : decode cX12_readStep 192 = .ok (.getfield 35, 3) := by decide +kernel
theorem dX12_readStep_195 : decode cX12_readStep 195 = .ok (.iload 4, 2) := by decide +kernel
theorem dX12_readStep_197 : decode cX12_readStep 197 = .ok (.bipush 8, 2) := by decide +kernel
theorem dX12_readStep_199 : decode cX12_readStep 199 = .ok (.iadd, 1) := by decide +kernel
theorem dX12_readStep_200 : decode cX12_readStep 200 = .ok (.aload_n 0, 1) := by decide +kernel
theorem dX12_readStep_201 : decode cX12_readStep 201 = .ok (.getfield 304, 3) := by decide +kernel
theorem dX12_readStep_204 : decode cX12_readStep 204 = .ok (.iastore, 1) := by decide +kernel
theorem dX12_readStep_205 : decode cX12_readStep 205 = .ok (.return_, 1) := by decide +kernel
theorem dX12_centuries_0 : decode cX12_centuries 0 = .ok (.aload_n 0, 1) := by decide +kernel
theorem dX12_centuries_1 : decode cX12_centuries 1 = .ok (.iconst 0, 1) := by decide +kernel
theorem dX12_centuries_2 : decode cX12_centuries 2 = .ok (.putfield 74, 3) := by decide +kernel
theorem dX12_centuries_5 : decode cX12_centuries 5 = .ok (.aload_n 0, 1) := by decide +kernel
theorem dX12_centuries_6 : decode cX12_centuries 6 = .ok (.iconst 0, 1) := by decide +kernel
theorem dX12_centuries_7 : decode cX12_centuries 7 = .ok (.putfield 77, 3) := by decide +kernel
theorem dX12_centuries_10 : decode cX12_centuries 10 = .ok (.aload_n 0, 1) := by decide +kernel
theorem dX12_centuries_11 : decode cX12_centuries 11 = .ok (.iload_n 1, 1) := by decide +kernel
theorem dX12_centuries_12 : decode cX12_centuries 12 = .ok (.sipush 300, 3) := by decide +kernel
theorem dX12_centuries_15 : decode cX12_centuries 15 = .ok (.invokevirtual 268, 3) := by decide +kernel
theorem dX12_centuries_18 : decode cX12_centuries 18 = .ok (.ifCond .ne 5, 3) := by decide +kernel
theorem dX12_centuries_21 : decode cX12_centuries 21 = .ok (.iconst (-1), 1) := by decide +kernel
theorem dX12_centuries_22 : decode cX12_centuries 22 = .ok (.ireturn, 1) := by decide +kernel
theorem dX12_centuries_23 : decode cX12_centuries 23 = .ok (.aload_n 0, 1) := by decide +kernel
theorem dX12_centuries_24 : decode cX12_centuries 24 = .ok (.iconst 0, 1) := by decide +kernel
theorem dX12_centuries_25 : decode cX12_centuries 25 = .ok (.putfield 304, 3) := by decide +kernel
theorem dX12_centuries_28 : decode cX12_centuries 28 = .ok (.aload_n 0, 1) := by decide +kernel
theorem dX12_centuries_29 : decode cX12_centuries 29 = .ok (.getfield 209, 3) := by decide +kernel
theorem dX12_centuries_32 : decode cX12_centuries 32 = .ok (.ifCond .ne 18, 3) := by decide +kernel
theorem dX12_centuries_35 : decode cX12_centuries 35 = .ok (.aload_n 0, 1) := by decide +kernel
theorem dX12_centuries_36 : decode cX12_centuries 36 = .ok (.getfield 129, 3) := by decide +kernel
theorem dX12_centuries_39 : decode cX12_centuries 39 = .ok (.ifCond .eq 11, 3) := by decide +kernel
theorem dX12_centuries_42 : decode cX12_centuries 42 = .ok (.aload_n 0, 1) := by decide +kernel
theorem dX12_centuries_43 : decode cX12_centuries 43 = .ok (.iconst 0, 1) := by decide +kernel
theorem dX12_centuries_44 : decode cX12_centuries 44 = .ok (.invokevirtual 310, 3) := by decide +kernel
theorem dX12_centuries_47 : decode cX12_centuries 47 = .ok (.goto (-19), 3) := by decide +kernel
theorem dX12_centuries_50 : decode cX12_centuries 50 = .ok (.aload_n 0, 1) := by decide +kernel
theorem dX12_centuries_51 : decode cX12_centuries 51 = .ok (.invokevirtual 295, 3) := by decide +kernel
theorem dX12_centuries_54 : decode cX12_centuries 54 = .ok (.ifCond .ne 5, 3) := by decide +kernel
theorem dX12_centuries_57 : decode cX12_centuries 57 = .ok (.iconst (-1), 1) := by decide +kernel
theorem dX12_centuries_58 : decode cX12_centuries 58 = .ok (.ireturn, 1) := by decide +kernel
theorem dX12_centuries_59 : decode cX12_centuries 59 = .ok (.aload_n 0, 1) := by decide +kernel
theorem dX12_centuries_60 : decode cX12_centuries 60 = .ok (.getfield 35, 3) := by decide +kernel
theorem dX12_centuries_63 : decode cX12_centuries 63 = .ok (.sipush 142, 3) := by decide +kernel
theorem dX12_centuries_66 : decode cX12_centuries 66 = .ok (.iconst 1, 1) := by decide +kernel
theorem dX12_centuries_67 : decode cX12_centuries 67 = .ok (.iastore, 1) := by decide +kernel
theorem dX12_centuries_68 : decode cX12_centuries 68 = .ok (.aload_n 0, 1) := by decide +kernel
theorem dX12_centuries_69 : decode cX12_centuries 69 = .ok (.getfield 35, 3) := by decide +kernel
theorem dX12_centuries_72 : decode cX12_centuries 72 = .ok (.sipush 143, 3) := by decide +kernel
theorem dX12_centuries_75 : decode cX12_centuries 75 = .ok (.aload_n 0, 1) := by decide +kernel
theorem dX12_centuries_76 : decode cX12_centuries 76 = .ok (.getfield 304, 3) := by decide +kernel
theorem dX12_centuries_79 : decode cX12_centuries 79 = .ok (.iastore, 1) := by decide +kernel
theorem dX12_centuries_80 : decode cX12_centuries 80 = .ok (.iconst 0, 1) := by decide +kernel
theorem dX12_centuries_81 : decode cX12_centuries 81 = .ok (.istore_n 2, 1) := by decide +kernel
theorem dX12_centuries_82 : decode cX12_centuries 82 = .ok (.iload_n 2, 1) := by decide +kernel
theorem dX12_centuries_83 : decode cX12_centuries 83 = .ok (.bipush 9, 2) := by decide +kernel
theorem dX12_centuries_85 : decode cX12_centuries 85 = .ok (.aload_n 0, 1) := by decide +kernel
theorem dX12_centuries_86 : decode cX12_centuries 86 = .ok (.getfield 304, 3) := by decide +kernel
theorem dX12_centuries_89 : decode cX12_centuries 89 = .ok (.imul, 1) := by decide +kernel
theorem dX12_centuries_90 : decode cX12_centuries 90 = .ok (.if_icmp .ge 29, 3) := by decide +kernel
theorem dX12_centuries_93 : decode cX12_centuries 93 = .ok (.aload_n 0, 1) := by decide +kernel
theorem dX12_centuries_94 : decode cX12_centuries 94 = .ok (.getfield 35, 3) := by decide +kernel
theorem dX12_centuries_97 : decode cX12_centuries 97 = .ok (.sipush 144, 3) := by decide +kernel
theorem dX12_centuries_100 : decode cX12_centuries 100 = .ok (.iload_n 2, 1) := by decide +kernel
theorem dX12_centuries_101 : decode cX12_centuries 101 = .ok (.iadd, 1) := by decide +kernel
theorem dX12_centuries_102 : decode cX12_centuries 102 = .ok (.aload_n 0, 1) := by decide +kernel
theorem dX12_centuries_103 : decode cX12_centuries 103 = .ok (.getfield 35, 3) := by decide +kernel
theorem dX12_centuries_106 : decode cX12_centuries 106 = .ok (.sipush 1828, 3) := by decide +kernel
theorem dX12_centuries_109 : decode cX12_centuries 109 = .ok (.iload_n 2, 1) := by decide +kernel
theorem dX12_centuries_110 : decode cX12_centuries 110 = .ok (.iadd, 1) := by decide +kernel
theorem dX12_centuries_111 : decode cX12_centuries 111 = .ok (.iaload, 1) := by decide +kernel
theorem dX12_centuries_112 : decode cX12_centuries 112 = .ok (.iastore, 1) := by decide +kernel
theorem dX12_centuries_113 : decode cX12_centuries 113 = .ok (.iinc 2 1, 3) := by decide +kernel
theorem dX12_centuries_116 : decode cX12_centuries 116 = .ok (.goto (-34), 3) := by decide +kernel
theorem dX12_centuries_119 : decode cX12_centuries 119 = .ok (.aload_n 0, 1) := by decide +kernel
theorem dX12_centuries_120 : decode cX12_centuries 120 = .ok (.getfield 304, 3) := by decide +kernel
theorem dX12_centuries_123 : decode cX12_centuries 123 = .ok (.ireturn, 1) := by decide +kernel
theorem dX12_isThingAt_0 : decode cX12_isThingAt 0 = .ok (.iload_n 1, 1) := by decide +kernel
theorem dX12_isThingAt_1 : decode cX12_isThingAt 1 = .ok (.i2l, 1) := by decide +kernel
theorem dX12_isThingAt_2 : decode cX12_isThingAt 2 = .ok (.lconst 0, 1) := by decide +kernel
theorem dX12_isThingAt_3 : decode cX12_isThingAt 3 = .ok (.aload_n 0, 1) := by decide +kernel
theorem dX12_isThingAt_4 : decode cX12_isThingAt 4 = .ok (.getfield 35, 3) := by decide +kernel
theorem dX12_isThingAt_7 : decode cX12_isThingAt 7 = .ok (.iconst 0, 1) := by decide +kernel
theorem dX12_isThingAt_8 : decode cX12_isThingAt 8 = .ok (.iaload, 1) := by decide +kernel
theorem dX12_isThingAt_9 : decode cX12_isThingAt 9 = .ok (.iconst 1, 1) := by decide +kernel
theorem dX12_isThingAt_10 : decode cX12_isThingAt 10 = .ok (.isub, 1) := by decide +kernel
theorem dX12_isThingAt_11 : decode cX12_isThingAt 11 = .ok (.i2l, 1) := by decide +kernel
theorem dX12_isThingAt_12 : decode cX12_isThingAt 12 = .ok (.invokestatic 109, 3) := by decide +kernel
theorem dX12_isThingAt_15 : decode cX12_isThingAt 15 = .ok (.ireturn, 1) := by decide +kernel
theorem dX12_isWorkAt_0 : decode cX12_isWorkAt 0 = .ok (.iload_n 1, 1) := by decide +kernel
theorem dX12_isWorkAt_1 : decode cX12_isWorkAt 1 = .ok (.i2l, 1) := by decide +kernel
theorem dX12_isWorkAt_2 : decode cX12_isWorkAt 2 = .ok (.lconst 0, 1) := by decide +kernel
theorem dX12_isWorkAt_3 : decode cX12_isWorkAt 3 = .ok (.aload_n 0, 1) := by decide +kernel
theorem dX12_isWorkAt_4 : decode cX12_isWorkAt 4 = .ok (.getfield 35, 3) := by decide +kernel
theorem dX12_isWorkAt_7 : decode cX12_isWorkAt 7 = .ok (.iconst 2, 1) := by decide +kernel
theorem dX12_isWorkAt_8 : decode cX12_isWorkAt 8 = .ok (.iaload, 1) := by decide +kernel
theorem dX12_isWorkAt_9 : decode cX12_isWorkAt 9 = .ok (.iconst 1, 1) := by decide +kernel
theorem dX12_isWorkAt_10 : decode cX12_isWorkAt 10 = .ok (.isub, 1) := by decide +kernel
theorem dX12_isWorkAt_11 : decode cX12_isWorkAt 11 = .ok (.i2l, 1) := by decide +kernel
theorem dX12_isWorkAt_12 : decode cX12_isWorkAt 12 = .ok (.invokestatic 109, 3) := by decide +kernel
theorem dX12_isWorkAt_15 : decode cX12_isWorkAt 15 = .ok (.ireturn, 1) := by decide +kernel
theorem dX12_isVoterAt_0 : decode cX12_isVoterAt 0 = .ok (.iload_n 1, 1) := by decide +kernel
theorem dX12_isVoterAt_1 : decode cX12_isVoterAt 1 = .ok (.i2l, 1) := by decide +kernel
theorem dX12_isVoterAt_2 : decode cX12_isVoterAt 2 = .ok (.lconst 0, 1) := by decide +kernel
theorem dX12_isVoterAt_3 : decode cX12_isVoterAt 3 = .ok (.aload_n 0, 1) := by decide +kernel
theorem dX12_isVoterAt_4 : decode cX12_isVoterAt 4 = .ok (.getfield 35, 3) := by decide +kernel
theorem dX12_isVoterAt_7 : decode cX12_isVoterAt 7 = .ok (.iconst 3, 1) := by decide +kernel
theorem dX12_isVoterAt_8 : decode cX12_isVoterAt 8 = .ok (.iaload, 1) := by decide +kernel
theorem dX12_isVoterAt_9 : decode cX12_isVoterAt 9 = .ok (.iconst 1, 1) := by decide +kernel
theorem dX12_isVoterAt_10 : decode cX12_isVoterAt 10 = .ok (.isub, 1) := by decide +kernel
theorem dX12_isVoterAt_11 : decode cX12_isVoterAt 11 = .ok (.i2l, 1) := by decide +kernel
theorem dX12_isVoterAt_12 : decode cX12_isVoterAt 12 = .ok (.invokestatic 109, 3) := by decide +kernel
theorem dX12_isVoterAt_15 : decode cX12_isVoterAt 15 = .ok (.ireturn, 1) := by decide +kernel
theorem dX12_allThings_0 : decode cX12_allThings 0 = .ok (.iconst 1, 1) := by decide +kernel
theorem dX12_allThings_1 : decode cX12_allThings 1 = .ok (.aload_n 0, 1) := by decide +kernel
theorem dX12_allThings_2 : decode cX12_allThings 2 = .ok (.getfield 35, 3) := by decide +kernel
theorem dX12_allThings_5 : decode cX12_allThings 5 = .ok (.iconst 0, 1) := by decide +kernel
theorem dX12_allThings_6 : decode cX12_allThings 6 = .ok (.iaload, 1) := by decide +kernel
theorem dX12_allThings_7 : decode cX12_allThings 7 = .ok (.ishl, 1) := by decide +kernel
theorem dX12_allThings_8 : decode cX12_allThings 8 = .ok (.iconst 1, 1) := by decide +kernel
theorem dX12_allThings_9 : decode cX12_allThings 9 = .ok (.isub, 1) := by decide +kernel
theorem dX12_allThings_10 : decode cX12_allThings 10 = .ok (.ireturn, 1) := by decide +kernel
theorem dX12_isSet_0 : decode cX12_isSet 0 = .ok (.iload_n 1, 1) := by decide +kernel
theorem dX12_isSet_1 : decode cX12_isSet 1 = .ok (.i2l, 1) := by decide +kernel
theorem dX12_isSet_2 : decode cX12_isSet 2 = .ok (.lconst 0, 1) := by decide +kernel
theorem dX12_isSet_3 : decode cX12_isSet 3 = .ok (.aload_n 0, 1) := by decide +kernel
theorem dX12_isSet_4 : decode cX12_isSet 4 = .ok (.invokevirtual 313, 3) := by decide +kernel
theorem dX12_isSet_7 : decode cX12_isSet 7 = .ok (.i2l, 1) := by decide +kernel
theorem dX12_isSet_8 : decode cX12_isSet 8 = .ok (.invokestatic 109, 3) := by decide +kernel
theorem dX12_isSet_11 : decode cX12_isSet 11 = .ok (.ireturn, 1) := by decide +kernel
theorem dX12_madeThings_0 : decode cX12_madeThings 0 = .ok (.iconst 0, 1) := by decide +kernel
theorem dX12_madeThings_1 : decode cX12_madeThings 1 = .ok (.istore_n 1, 1) := by decide +kernel
theorem dX12_madeThings_2 : decode cX12_madeThings 2 = .ok (.iconst 0, 1) := by decide +kernel
theorem dX12_madeThings_3 : decode cX12_madeThings 3 = .ok (.istore_n 2, 1) := by decide +kernel
theorem dX12_madeThings_4 : decode cX12_madeThings 4 = .ok (.iload_n 2, 1) := by decide +kernel
theorem dX12_madeThings_5 : decode cX12_madeThings 5 = .ok (.aload_n 0, 1) := by decide +kernel
theorem dX12_madeThings_6 : decode cX12_madeThings 6 = .ok (.getfield 35, 3) := by decide +kernel
theorem dX12_madeThings_9 : decode cX12_madeThings 9 = .ok (.iconst 1, 1) := by decide +kernel
theorem dX12_madeThings_10 : decode cX12_madeThings 10 = .ok (.iaload, 1) := by decide +kernel
theorem dX12_madeThings_11 : decode cX12_madeThings 11 = .ok (.if_icmp .ge 23, 3) := by decide +kernel
theorem dX12_madeThings_14 : decode cX12_madeThings 14 = .ok (.iload_n 1, 1) := by decide +kernel
theorem dX12_madeThings_15 : decode cX12_madeThings 15 = .ok (.iconst 1, 1) := by decide +kernel
theorem dX12_madeThings_16 : decode cX12_madeThings 16 = .ok (.aload_n 0, 1) := by decide +kernel
theorem dX12_madeThings_17 : decode cX12_madeThings 17 = .ok (.getfield 35, 3) := by decide +kernel
theorem dX12_madeThings_20 : decode cX12_madeThings 20 = .ok (.bipush 20, 2) := by decide +kernel
theorem dX12_madeThings_22 : decode cX12_madeThings 22 = .ok (.iload_n 2, 1) := by decide +kernel
theorem dX12_madeThings_23 : decode cX12_madeThings 23 = .ok (.iadd, 1) := by decide +kernel
theorem dX12_madeThings_24 : decode cX12_madeThings 24 = .ok (.iaload, 1) := by decide +kernel
theorem dX12_madeThings_25 : decode cX12_madeThings 25 = .ok (.ishl, 1) := by decide +kernel
theorem dX12_madeThings_26 : decode cX12_madeThings 26 = .ok (.ior, 1) := by decide +kernel
theorem dX12_madeThings_27 : decode cX12_madeThings 27 = .ok (.istore_n 1, 1) := by decide +kernel
theorem dX12_madeThings_28 : decode cX12_madeThings 28 = .ok (.iinc 2 1, 3) := by decide +kernel
theorem dX12_madeThings_31 : decode cX12_madeThings 31 = .ok (.goto (-27), 3) := by decide +kernel
theorem dX12_madeThings_34 : decode cX12_madeThings 34 = .ok (.iload_n 1, 1) := by decide +kernel
theorem dX12_madeThings_35 : decode cX12_madeThings 35 = .ok (.ireturn, 1) := by decide +kernel
theorem dX12_standingBy_0 : decode cX12_standingBy 0 = .ok (.aload_n 0, 1) := by decide +kernel
theorem dX12_standingBy_1 : decode cX12_standingBy 1 = .ok (.invokevirtual 313, 3) := by decide +kernel
theorem dX12_standingBy_4 : decode cX12_standingBy 4 = .ok (.aload_n 0, 1) := by decide +kernel
theorem dX12_standingBy_5 : decode cX12_standingBy 5 = .ok (.invokevirtual 316, 3) := by decide +kernel
theorem dX12_standingBy_8 : decode cX12_standingBy 8 = .ok (.iconst (-1), 1) := by decide +kernel
theorem dX12_standingBy_9 : decode cX12_standingBy 9 = .ok (.ixor, 1) := by decide +kernel
theorem dX12_standingBy_10 : decode cX12_standingBy 10 = .ok (.iand, 1) := by decide +kernel
theorem dX12_standingBy_11 : decode cX12_standingBy 11 = .ok (.iload_n 1, 1) := by decide +kernel
theorem dX12_standingBy_12 : decode cX12_standingBy 12 = .ok (.iconst (-1), 1) := by decide +kernel
theorem dX12_standingBy_13 : decode cX12_standingBy 13 = .ok (.ixor, 1) := by decide +kernel
theorem dX12_standingBy_14 : decode cX12_standingBy 14 = .ok (.iand, 1) := by decide +kernel
theorem dX12_standingBy_15 : decode cX12_standingBy 15 = .ok (.istore_n 3, 1) := by decide +kernel
theorem dX12_standingBy_16 : decode cX12_standingBy 16 = .ok (.iconst (-1), 1) := by decide +kernel
theorem dX12_standingBy_17 : decode cX12_standingBy 17 = .ok (.istore 4, 2) := by decide +kernel
theorem dX12_standingBy_19 : decode cX12_standingBy 19 = .ok (.iload_n 3, 1) := by decide +kernel
theorem dX12_standingBy_20 : decode cX12_standingBy 20 = .ok (.iload 4, 2) := by decide +kernel
theorem dX12_standingBy_22 : decode cX12_standingBy 22 = .ok (.if_icmp .eq 99, 3) := by decide +kernel
theorem dX12_standingBy_25 : decode cX12_standingBy 25 = .ok (.iload_n 3, 1) := by decide +kernel
theorem dX12_standingBy_26 : decode cX12_standingBy 26 = .ok (.istore 4, 2) := by decide +kernel
theorem dX12_standingBy_28 : decode cX12_standingBy 28 = .ok (.iconst 0, 1) := by decide +kernel
theorem dX12_standingBy_29 : decode cX12_standingBy 29 = .ok (.istore 5, 2) := by decide +kernel
theorem dX12_standingBy_31 : decode cX12_standingBy 31 = .ok (.iload 5, 2) := by decide +kernel
theorem dX12_standingBy_33 : decode cX12_standingBy 33 = .ok (.aload_n 0, 1) := by decide +kernel
theorem dX12_standingBy_34 : decode cX12_standingBy 34 = .ok (.getfield 35, 3) := by decide +kernel
theorem dX12_standingBy_37 : decode cX12_standingBy 37 = .ok (.iconst 1, 1) := by decide +kernel
theorem dX12_standingBy_38 : decode cX12_standingBy 38 = .ok (.iaload, 1) := by decide +kernel
theorem dX12_standingBy_39 : decode cX12_standingBy 39 = .ok (.if_icmp .ge 79, 3) := by decide +kernel
theorem dX12_standingBy_42 : decode cX12_standingBy 42 = .ok (.iload_n 2, 1) := by decide +kernel
theorem dX12_standingBy_43 : decode cX12_standingBy 43 = .ok (.iload 5, 2) := by decide +kernel
theorem dX12_standingBy_45 : decode cX12_standingBy 45 = .ok (.invokestatic 113, 3) := by decide +kernel
theorem dX12_standingBy_48 : decode cX12_standingBy 48 = .ok (.ifCond .eq 41, 3) := by decide +kernel
theorem dX12_standingBy_51 : decode cX12_standingBy 51 = .ok (.aload_n 0, 1) := by decide +kernel
theorem dX12_standingBy_52 : decode cX12_standingBy 52 = .ok (.getfield 35, 3) := by decide +kernel
theorem dX12_standingBy_55 : decode cX12_standingBy 55 = .ok (.bipush 36, 2) := by decide +kernel
theorem dX12_standingBy_57 : decode cX12_standingBy 57 = .ok (.iload 5, 2) := by decide +kernel
theorem dX12_standingBy_59 : decode cX12_standingBy 59 = .ok (.iadd, 1) := by decide +kernel
theorem dX12_standingBy_60 : decode cX12_standingBy 60 = .ok (.iaload, 1) := by decide +kernel
theorem dX12_standingBy_61 : decode cX12_standingBy 61 = .ok (.iload_n 3, 1) := by decide +kernel
theorem dX12_standingBy_62 : decode cX12_standingBy 62 = .ok (.iconst (-1), 1) := by decide +kernel
theorem dX12_standingBy_63 : decode cX12_standingBy 63 = .ok (.ixor, 1) := by decide +kernel
theorem dX12_standingBy_64 : decode cX12_standingBy 64 = .ok (.iand, 1) := by decide +kernel
theorem dX12_standingBy_65 : decode cX12_standingBy 65 = .ok (.ifCond .ne 24, 3) := by decide +kernel
theorem dX12_standingBy_68 : decode cX12_standingBy 68 = .ok (.iload_n 1, 1) := by decide +kernel
theorem dX12_standingBy_69 : decode cX12_standingBy 69 = .ok (.aload_n 0, 1) := by decide +kernel
theorem dX12_standingBy_70 : decode cX12_standingBy 70 = .ok (.getfield 35, 3) := by decide +kernel
theorem dX12_standingBy_73 : decode cX12_standingBy 73 = .ok (.bipush 20, 2) := by decide +kernel
theorem dX12_standingBy_75 : decode cX12_standingBy 75 = .ok (.iload 5, 2) := by decide +kernel
theorem dX12_standingBy_77 : decode cX12_standingBy 77 = .ok (.iadd, 1) := by decide +kernel
theorem dX12_standingBy_78 : decode cX12_standingBy 78 = .ok (.iaload, 1) := by decide +kernel
theorem dX12_standingBy_79 : decode cX12_standingBy 79 = .ok (.invokestatic 113, 3) := by decide +kernel
theorem dX12_standingBy_82 : decode cX12_standingBy 82 = .ok (.ifCond .ne 7, 3) := by decide +kernel
theorem dX12_standingBy_85 : decode cX12_standingBy 85 = .ok (.iconst 1, 1) := by decide +kernel
theorem dX12_standingBy_86 : decode cX12_standingBy 86 = .ok (.goto 4, 3) := by decide +kernel
theorem dX12_standingBy_89 : decode cX12_standingBy 89 = .ok (.iconst 0, 1) := by decide +kernel
theorem dX12_standingBy_90 : decode cX12_standingBy 90 = .ok (.istore 6, 2) := by decide +kernel
theorem dX12_standingBy_92 : decode cX12_standingBy 92 = .ok (.iload 6, 2) := by decide +kernel
theorem dX12_standingBy_94 : decode cX12_standingBy 94 = .ok (.ifCond .eq 18, 3) := by decide +kernel
theorem dX12_standingBy_97 : decode cX12_standingBy 97 = .ok (.iload_n 3, 1) := by decide +kernel
theorem dX12_standingBy_98 : decode cX12_standingBy 98 = .ok (.iconst 1, 1) := by decide +kernel
theorem dX12_standingBy_99 : decode cX12_standingBy 99 = .ok (.aload_n 0, 1) := by decide +kernel
theorem dX12_standingBy_100 : decode cX12_standingBy 100 = .ok (.getfield 35, 3) := by decide +kernel
theorem dX12_standingBy_103 : decode cX12_standingBy 103 = .ok (.bipush 20, 2) := by decide +kernel
theorem dX12_standingBy_105 : decode cX12_standingBy 105 = .ok (.iload 5, 2) := by decide +kernel
theorem dX12_standingBy_107 : decode cX12_standingBy 107 = .ok (.iadd, 1) := by decide +kernel
theorem dX12_standingBy_108 : decode cX12_standingBy 108 = .ok (.iaload, 1) := by decide +kernel
theorem dX12_standingBy_109 : decode cX12_standingBy 109 = .ok (.ishl, 1) := by decide +kernel
theorem dX12_standingBy_110 : decode cX12_standingBy 110 = .ok (.ior, 1) := by decide +kernel
theorem dX12_standingBy_111 : decode cX12_standingBy 111 = .ok (.istore_n 3, 1) := by decide +kernel
theorem dX12_standingBy_112 : decode cX12_standingBy 112 = .ok (.iinc 5 1, 3) := by decide +kernel
theorem dX12_standingBy_115 : decode cX12_standingBy 115 = .ok (.goto (-84), 3) := by decide +kernel
theorem dX12_standingBy_118 : decode cX12_standingBy 118 = .ok (.goto (-99), 3) := by decide +kernel
theorem dX12_standingBy_121 : decode cX12_standingBy 121 = .ok (.iload_n 3, 1) := by decide +kernel
theorem dX12_standingBy_122 : decode cX12_standingBy 122 = .ok (.ireturn, 1) := by decide +kernel
theorem dX12_standing_0 : decode cX12_standing 0 = .ok (.aload_n 0, 1) := by decide +kernel
theorem dX12_standing_1 : decode cX12_standing 1 = .ok (.iload_n 1, 1) := by decide +kernel
theorem dX12_standing_2 : decode cX12_standing 2 = .ok (.iconst (-1), 1) := by decide +kernel
theorem dX12_standing_3 : decode cX12_standing 3 = .ok (.invokevirtual 319, 3) := by decide +kernel
theorem dX12_standing_6 : decode cX12_standing 6 = .ok (.ireturn, 1) := by decide +kernel
theorem dX12_now_0 : decode cX12_now 0 = .ok (.aload_n 0, 1) := by decide +kernel
theorem dX12_now_1 : decode cX12_now 1 = .ok (.aload_n 0, 1) := by decide +kernel
theorem dX12_now_2 : decode cX12_now 2 = .ok (.getfield 35, 3) := by decide +kernel
theorem dX12_now_5 : decode cX12_now 5 = .ok (.bipush 6, 2) := by decide +kernel
theorem dX12_now_7 : decode cX12_now 7 = .ok (.iaload, 1) := by decide +kernel
theorem dX12_now_8 : decode cX12_now 8 = .ok (.invokevirtual 322, 3) := by decide +kernel
theorem dX12_now_11 : decode cX12_now 11 = .ok (.ireturn, 1) := by decide +kernel
theorem dX12_doneBy_0 : decode cX12_doneBy 0 = .ok (.iconst 0, 1) := by decide +kernel
theorem dX12_doneBy_1 : decode cX12_doneBy 1 = .ok (.istore_n 2, 1) := by decide +kernel
theorem dX12_doneBy_2 : decode cX12_doneBy 2 = .ok (.iconst 0, 1) := by decide +kernel
theorem dX12_doneBy_3 : decode cX12_doneBy 3 = .ok (.istore_n 3, 1) := by decide +kernel
theorem dX12_doneBy_4 : decode cX12_doneBy 4 = .ok (.iload_n 3, 1) := by decide +kernel
theorem dX12_doneBy_5 : decode cX12_doneBy 5 = .ok (.aload_n 0, 1) := by decide +kernel
theorem dX12_doneBy_6 : decode cX12_doneBy 6 = .ok (.getfield 35, 3) := by decide +kernel
theorem dX12_doneBy_9 : decode cX12_doneBy 9 = .ok (.iconst 2, 1) := by decide +kernel
theorem dX12_doneBy_10 : decode cX12_doneBy 10 = .ok (.iaload, 1) := by decide +kernel
theorem dX12_doneBy_11 : decode cX12_doneBy 11 = .ok (.if_icmp .ge 35, 3) := by decide +kernel
theorem dX12_doneBy_14 : decode cX12_doneBy 14 = .ok (.iload_n 2, 1) := by decide +kernel
theorem dX12_doneBy_15 : decode cX12_doneBy 15 = .ok (.aload_n 0, 1) := by decide +kernel
theorem dX12_doneBy_16 : decode cX12_doneBy 16 = .ok (.getfield 35, 3) := by decide +kernel
theorem dX12_doneBy_19 : decode cX12_doneBy 19 = .ok (.bipush 52, 2) := by decide +kernel
theorem dX12_doneBy_21 : decode cX12_doneBy 21 = .ok (.iload_n 3, 1) := by decide +kernel
theorem dX12_doneBy_22 : decode cX12_doneBy 22 = .ok (.iadd, 1) := by decide +kernel
theorem dX12_doneBy_23 : decode cX12_doneBy 23 = .ok (.iaload, 1) := by decide +kernel
theorem dX12_doneBy_24 : decode cX12_doneBy 24 = .ok (.iload_n 1, 1) := by decide +kernel
theorem dX12_doneBy_25 : decode cX12_doneBy 25 = .ok (.iconst (-1), 1) := by decide +kernel
theorem dX12_doneBy_26 : decode cX12_doneBy 26 = .ok (.ixor, 1) := by decide +kernel
theorem dX12_doneBy_27 : decode cX12_doneBy 27 = .ok (.iand, 1) := by decide +kernel
theorem dX12_doneBy_28 : decode cX12_doneBy 28 = .ok (.ifCond .ne 9, 3) := by decide +kernel
theorem dX12_doneBy_31 : decode cX12_doneBy 31 = .ok (.iconst 1, 1) := by decide +kernel
theorem dX12_doneBy_32 : decode cX12_doneBy 32 = .ok (.iload_n 3, 1) := by decide +kernel
theorem dX12_doneBy_33 : decode cX12_doneBy 33 = .ok (.ishl, 1) := by decide +kernel
theorem dX12_doneBy_34 : decode cX12_doneBy 34 = .ok (.goto 4, 3) := by decide +kernel
theorem dX12_doneBy_37 : decode cX12_doneBy 37 = .ok (.iconst 0, 1) := by decide +kernel
theorem dX12_doneBy_38 : decode cX12_doneBy 38 = .ok (.ior, 1) := by decide +kernel
theorem dX12_doneBy_39 : decode cX12_doneBy 39 = .ok (.istore_n 2, 1) := by decide +kernel
theorem dX12_doneBy_40 : decode cX12_doneBy 40 = .ok (.iinc 3 1, 3) := by decide +kernel
theorem dX12_doneBy_43 : decode cX12_doneBy 43 = .ok (.goto (-39), 3) := by decide +kernel
theorem dX12_doneBy_46 : decode cX12_doneBy 46 = .ok (.iload_n 2, 1) := by decide +kernel
theorem dX12_doneBy_47 : decode cX12_doneBy 47 = .ok (.ireturn, 1) := by decide +kernel
theorem dX12_worthOf_0 : decode cX12_worthOf 0 = .ok (.iconst 0, 1) := by decide +kernel
theorem dX12_worthOf_1 : decode cX12_worthOf 1 = .ok (.istore_n 2, 1) := by decide +kernel
theorem dX12_worthOf_2 : decode cX12_worthOf 2 = .ok (.iconst 0, 1) := by decide +kernel
theorem dX12_worthOf_3 : decode cX12_worthOf 3 = .ok (.istore_n 3, 1) := by decide +kernel
theorem dX12_worthOf_4 : decode cX12_worthOf 4 = .ok (.iload_n 3, 1) := by decide +kernel
theorem dX12_worthOf_5 : decode cX12_worthOf 5 = .ok (.aload_n 0, 1) := by decide +kernel
theorem dX12_worthOf_6 : decode cX12_worthOf 6 = .ok (.getfield 35, 3) := by decide +kernel
theorem dX12_worthOf_9 : decode cX12_worthOf 9 = .ok (.iconst 0, 1) := by decide +kernel
theorem dX12_worthOf_10 : decode cX12_worthOf 10 = .ok (.iaload, 1) := by decide +kernel
theorem dX12_worthOf_11 : decode cX12_worthOf 11 = .ok (.if_icmp .ge 33, 3) := by decide +kernel
theorem dX12_worthOf_14 : decode cX12_worthOf 14 = .ok (.iload_n 2, 1) := by decide +kernel
theorem dX12_worthOf_15 : decode cX12_worthOf 15 = .ok (.iload_n 1, 1) := by decide +kernel
theorem dX12_worthOf_16 : decode cX12_worthOf 16 = .ok (.iload_n 3, 1) := by decide +kernel
theorem dX12_worthOf_17 : decode cX12_worthOf 17 = .ok (.invokestatic 113, 3) := by decide +kernel
theorem dX12_worthOf_20 : decode cX12_worthOf 20 = .ok (.ifCond .eq 15, 3) := by decide +kernel
theorem dX12_worthOf_23 : decode cX12_worthOf 23 = .ok (.aload_n 0, 1) := by decide +kernel
theorem dX12_worthOf_24 : decode cX12_worthOf 24 = .ok (.getfield 35, 3) := by decide +kernel
theorem dX12_worthOf_27 : decode cX12_worthOf 27 = .ok (.bipush 8, 2) := by decide +kernel
theorem dX12_worthOf_29 : decode cX12_worthOf 29 = .ok (.iload_n 3, 1) := by decide +kernel
theorem dX12_worthOf_30 : decode cX12_worthOf 30 = .ok (.iadd, 1) := by decide +kernel
theorem dX12_worthOf_31 : decode cX12_worthOf 31 = .ok (.iaload, 1) := by decide +kernel
theorem dX12_worthOf_32 : decode cX12_worthOf 32 = .ok (.goto 4, 3) := by decide +kernel
theorem dX12_worthOf_35 : decode cX12_worthOf 35 = .ok (.iconst 0, 1) := by decide +kernel
theorem dX12_worthOf_36 : decode cX12_worthOf 36 = .ok (.iadd, 1) := by decide +kernel
theorem dX12_worthOf_37 : decode cX12_worthOf 37 = .ok (.istore_n 2, 1) := by decide +kernel
theorem dX12_worthOf_38 : decode cX12_worthOf 38 = .ok (.iinc 3 1, 3) := by decide +kernel
theorem dX12_worthOf_41 : decode cX12_worthOf 41 = .ok (.goto (-37), 3) := by decide +kernel
theorem dX12_worthOf_44 : decode cX12_worthOf 44 = .ok (.iload_n 2, 1) := by decide +kernel
theorem dX12_worthOf_45 : decode cX12_worthOf 45 = .ok (.ireturn, 1) := by decide +kernel
theorem dX12_many_0 : decode cX12_many 0 = .ok (.aload_n 0, 1) := by decide +kernel
theorem dX12_many_1 : decode cX12_many 1 = .ok (.iconst 0, 1) := by decide +kernel
theorem dX12_many_2 : decode cX12_many 2 = .ok (.putfield 74, 3) := by decide +kernel
theorem dX12_many_5 : decode cX12_many 5 = .ok (.aload_n 0, 1) := by decide +kernel
theorem dX12_many_6 : decode cX12_many 6 = .ok (.iconst 0, 1) := by decide +kernel
theorem dX12_many_7 : decode cX12_many 7 = .ok (.putfield 77, 3) := by decide +kernel
theorem dX12_many_10 : decode cX12_many 10 = .ok (.iload_n 1, 1) := by decide +kernel
theorem dX12_many_11 : decode cX12_many 11 = .ok (.i2l, 1) := by decide +kernel
theorem dX12_many_12 : decode cX12_many 12 = .ok (.lconst 0, 1) := by decide +kernel
theorem dX12_many_13 : decode cX12_many 13 = .ok (.ldc2_w 325, 3) := by decide +kernel
theorem dX12_many_16 : decode cX12_many 16 = .ok (.invokestatic 109, 3) := by decide +kernel
theorem dX12_many_19 : decode cX12_many 19 = .ok (.ifCond .ne 9, 3) := by decide +kernel
theorem dX12_many_22 : decode cX12_many 22 = .ok (.aload_n 0, 1) := by decide +kernel
theorem dX12_many_23 : decode cX12_many 23 = .ok (.iconst 5, 1) := by decide +kernel
theorem dX12_many_24 : decode cX12_many 24 = .ok (.invokevirtual 327, 3) := by decide +kernel
theorem dX12_many_27 : decode cX12_many 27 = .ok (.ireturn, 1) := by decide +kernel
theorem dX12_many_28 : decode cX12_many 28 = .ok (.iload_n 1, 1) := by decide +kernel
theorem dX12_many_29 : decode cX12_many 29 = .ok (.bipush 6, 2) := by decide +kernel
theorem dX12_many_31 : decode cX12_many 31 = .ok (.if_icmp .ge 10, 3) := by decide +kernel
theorem dX12_many_34 : decode cX12_many 34 = .ok (.aload_n 0, 1) := by decide +kernel
theorem dX12_many_35 : decode cX12_many 35 = .ok (.getfield 35, 3) := by decide +kernel
theorem dX12_many_38 : decode cX12_many 38 = .ok (.iload_n 1, 1) := by decide +kernel
theorem dX12_many_39 : decode cX12_many 39 = .ok (.iaload, 1) := by decide +kernel
theorem dX12_many_40 : decode cX12_many 40 = .ok (.ireturn, 1) := by decide +kernel
theorem dX12_many_41 : decode cX12_many 41 = .ok (.aload_n 0, 1) := by decide +kernel
theorem dX12_many_42 : decode cX12_many 42 = .ok (.invokevirtual 330, 3) := by decide +kernel
theorem dX12_many_45 : decode cX12_many 45 = .ok (.istore_n 2, 1) := by decide +kernel
theorem dX12_many_46 : decode cX12_many 46 = .ok (.iload_n 1, 1) := by decide +kernel
theorem dX12_many_47 : decode cX12_many 47 = .ok (.bipush 6, 2) := by decide +kernel
theorem dX12_many_49 : decode cX12_many 49 = .ok (.if_icmp .ne 5, 3) := by decide +kernel
theorem dX12_many_52 : decode cX12_many 52 = .ok (.iload_n 2, 1) := by decide +kernel
theorem dX12_many_53 : decode cX12_many 53 = .ok (.ireturn, 1) := by decide +kernel
theorem dX12_many_54 : decode cX12_many 54 = .ok (.iload_n 1, 1) := by decide +kernel
theorem dX12_many_55 : decode cX12_many 55 = .ok (.bipush 7, 2) := by decide +kernel
theorem dX12_many_57 : decode cX12_many 57 = .ok (.if_icmp .ne 11, 3) := by decide +kernel
theorem dX12_many_60 : decode cX12_many 60 = .ok (.aload_n 0, 1) := by decide +kernel
theorem dX12_many_61 : decode cX12_many 61 = .ok (.getfield 35, 3) := by decide +kernel
theorem dX12_many_64 : decode cX12_many 64 = .ok (.bipush 6, 2) := by decide +kernel
theorem dX12_many_66 : decode cX12_many 66 = .ok (.iaload, 1) := by decide +kernel
theorem dX12_many_67 : decode cX12_many 67 = .ok (.ireturn, 1) := by decide +kernel
theorem dX12_many_68 : decode cX12_many 68 = .ok (.iload_n 1, 1) := by decide +kernel
theorem dX12_many_69 : decode cX12_many 69 = .ok (.bipush 8, 2) := by decide +kernel
theorem dX12_many_71 : decode cX12_many 71 = .ok (.if_icmp .ne 22, 3) := by decide +kernel
theorem dX12_many_74 : decode cX12_many 74 = .ok (.aload_n 0, 1) := by decide +kernel
theorem dX12_many_75 : decode cX12_many 75 = .ok (.invokevirtual 313, 3) := by decide +kernel
theorem dX12_many_78 : decode cX12_many 78 = .ok (.iload_n 2, 1) := by decide +kernel
theorem dX12_many_79 : decode cX12_many 79 = .ok (.iconst (-1), 1) := by decide +kernel
theorem dX12_many_80 : decode cX12_many 80 = .ok (.ixor, 1) := by decide +kernel
theorem dX12_many_81 : decode cX12_many 81 = .ok (.iand, 1) := by decide +kernel
theorem dX12_many_82 : decode cX12_many 82 = .ok (.aload_n 0, 1) := by decide +kernel
theorem dX12_many_83 : decode cX12_many 83 = .ok (.getfield 35, 3) := by decide +kernel
theorem dX12_many_86 : decode cX12_many 86 = .ok (.bipush 6, 2) := by decide +kernel
theorem dX12_many_88 : decode cX12_many 88 = .ok (.iaload, 1) := by decide +kernel
theorem dX12_many_89 : decode cX12_many 89 = .ok (.iconst (-1), 1) := by decide +kernel
theorem dX12_many_90 : decode cX12_many 90 = .ok (.ixor, 1) := by decide +kernel
theorem dX12_many_91 : decode cX12_many 91 = .ok (.iand, 1) := by decide +kernel
theorem dX12_many_92 : decode cX12_many 92 = .ok (.ireturn, 1) := by decide +kernel
theorem dX12_many_93 : decode cX12_many 93 = .ok (.iload_n 1, 1) := by decide +kernel
theorem dX12_many_94 : decode cX12_many 94 = .ok (.bipush 9, 2) := by decide +kernel
theorem dX12_many_96 : decode cX12_many 96 = .ok (.if_icmp .ne 13, 3) := by decide +kernel
theorem dX12_many_99 : decode cX12_many 99 = .ok (.aload_n 0, 1) := by decide +kernel
theorem dX12_many_100 : decode cX12_many 100 = .ok (.getfield 35, 3) := by decide +kernel
theorem dX12_many_103 : decode cX12_many 103 = .ok (.bipush 7, 2) := by decide +kernel
theorem dX12_many_105 : decode cX12_many 105 = .ok (.iaload, 1) := by decide +kernel
theorem dX12_many_106 : decode cX12_many 106 = .ok (.goto 22, 3) := by decide +kernel
theorem dX12_many_109 : decode cX12_many 109 = .ok (.iload_n 1, 1) := by decide +kernel
theorem dX12_many_110 : decode cX12_many 110 = .ok (.bipush 10, 2) := by decide +kernel
theorem dX12_many_112 : decode cX12_many 112 = .ok (.if_icmp .ne 11, 3) := by decide +kernel
theorem dX12_many_115 : decode cX12_many 115 = .ok (.aload_n 0, 1) := by decide +kernel
theorem dX12_many_116 : decode cX12_many 116 = .ok (.iload_n 2, 1) := by decide +kernel
theorem dX12_many_117 : decode cX12_many 117 = .ok (.invokevirtual 333, 3) := by decide +kernel
theorem dX12_many_120 : decode cX12_many 120 = .ok (.goto 8, 3) := by decide +kernel
theorem dX12_many_123 : decode cX12_many 123 = .ok (.aload_n 0, 1) := by decide +kernel
theorem dX12_many_124 : decode cX12_many 124 = .ok (.iload_n 2, 1) := by decide +kernel
theorem dX12_many_125 : decode cX12_many 125 = .ok (.invokevirtual 336, 3) := by decide +kernel
theorem dX12_many_128 : decode cX12_many 128 = .ok (.ireturn, 1) := by decide +kernel
theorem dX12_thing_0 : decode cX12_thing 0 = .ok (.aload_n 0, 1) := by decide +kernel
theorem dX12_thing_1 : decode cX12_thing 1 = .ok (.iconst 0, 1) := by decide +kernel
theorem dX12_thing_2 : decode cX12_thing 2 = .ok (.putfield 74, 3) := by decide +kernel
theorem dX12_thing_5 : decode cX12_thing 5 = .ok (.aload_n 0, 1) := by decide +kernel
theorem dX12_thing_6 : decode cX12_thing 6 = .ok (.iconst 0, 1) := by decide +kernel
theorem dX12_thing_7 : decode cX12_thing 7 = .ok (.putfield 77, 3) := by decide +kernel
theorem dX12_thing_10 : decode cX12_thing 10 = .ok (.aload_n 0, 1) := by decide +kernel
theorem dX12_thing_11 : decode cX12_thing 11 = .ok (.iload_n 1, 1) := by decide +kernel
theorem dX12_thing_12 : decode cX12_thing 12 = .ok (.invokevirtual 339, 3) := by decide +kernel
theorem dX12_thing_15 : decode cX12_thing 15 = .ok (.ifCond .ne 9, 3) := by decide +kernel
theorem dX12_thing_18 : decode cX12_thing 18 = .ok (.aload_n 0, 1) := by decide +kernel
theorem dX12_thing_19 : decode cX12_thing 19 = .ok (.iconst 2, 1) := by decide +kernel
theorem dX12_thing_20 : decode cX12_thing 20 = .ok (.invokevirtual 327, 3) := by decide +kernel
theorem dX12_thing_23 : decode cX12_thing 23 = .ok (.ireturn, 1) := by decide +kernel
theorem dX12_thing_24 : decode cX12_thing 24 = .ok (.iload_n 2, 1) := by decide +kernel
theorem dX12_thing_25 : decode cX12_thing 25 = .ok (.i2l, 1) := by decide +kernel
theorem dX12_thing_26 : decode cX12_thing 26 = .ok (.lconst 0, 1) := by decide +kernel
theorem dX12_thing_27 : decode cX12_thing 27 = .ok (.ldc2_w 107, 3) := by decide +kernel
theorem dX12_thing_30 : decode cX12_thing 30 = .ok (.invokestatic 109, 3) := by decide +kernel
theorem dX12_thing_33 : decode cX12_thing 33 = .ok (.ifCond .ne 9, 3) := by decide +kernel
theorem dX12_thing_36 : decode cX12_thing 36 = .ok (.aload_n 0, 1) := by decide +kernel
theorem dX12_thing_37 : decode cX12_thing 37 = .ok (.iconst 5, 1) := by decide +kernel
theorem dX12_thing_38 : decode cX12_thing 38 = .ok (.invokevirtual 327, 3) := by decide +kernel
theorem dX12_thing_41 : decode cX12_thing 41 = .ok (.ireturn, 1) := by decide +kernel
theorem dX12_thing_42 : decode cX12_thing 42 = .ok (.iload_n 2, 1) := by decide +kernel
theorem dX12_thing_43 : decode cX12_thing 43 = .ok (.ifCond .ne 13, 3) := by decide +kernel
theorem dX12_thing_46 : decode cX12_thing 46 = .ok (.aload_n 0, 1) := by decide +kernel
theorem dX12_thing_47 : decode cX12_thing 47 = .ok (.getfield 35, 3) := by decide +kernel
theorem dX12_thing_50 : decode cX12_thing 50 = .ok (.bipush 8, 2) := by decide +kernel
theorem dX12_thing_52 : decode cX12_thing 52 = .ok (.iload_n 1, 1) := by decide +kernel
theorem dX12_thing_53 : decode cX12_thing 53 = .ok (.iadd, 1) := by decide +kernel
theorem dX12_thing_54 : decode cX12_thing 54 = .ok (.iaload, 1) := by decide +kernel
theorem dX12_thing_55 : decode cX12_thing 55 = .ok (.ireturn, 1) := by decide +kernel
theorem dX12_thing_56 : decode cX12_thing 56 = .ok (.iload_n 2, 1) := by decide +kernel
theorem dX12_thing_57 : decode cX12_thing 57 = .ok (.iconst 1, 1) := by decide +kernel
theorem dX12_thing_58 : decode cX12_thing 58 = .ok (.if_icmp .ne 20, 3) := by decide +kernel
theorem dX12_thing_61 : decode cX12_thing 61 = .ok (.aload_n 0, 1) := by decide +kernel
theorem dX12_thing_62 : decode cX12_thing 62 = .ok (.invokevirtual 330, 3) := by decide +kernel
theorem dX12_thing_65 : decode cX12_thing 65 = .ok (.iload_n 1, 1) := by decide +kernel
theorem dX12_thing_66 : decode cX12_thing 66 = .ok (.invokestatic 113, 3) := by decide +kernel
theorem dX12_thing_69 : decode cX12_thing 69 = .ok (.ifCond .eq 7, 3) := by decide +kernel
theorem dX12_thing_72 : decode cX12_thing 72 = .ok (.iconst 1, 1) := by decide +kernel
theorem dX12_thing_73 : decode cX12_thing 73 = .ok (.goto 4, 3) := by decide +kernel
theorem dX12_thing_76 : decode cX12_thing 76 = .ok (.iconst 0, 1) := by decide +kernel
theorem dX12_thing_77 : decode cX12_thing 77 = .ok (.ireturn, 1) := by decide +kernel
theorem dX12_thing_78 : decode cX12_thing 78 = .ok (.iload_n 2, 1) := by decide +kernel
theorem dX12_thing_79 : decode cX12_thing 79 = .ok (.iconst 3, 1) := by decide +kernel
theorem dX12_thing_80 : decode cX12_thing 80 = .ok (.if_icmp .ne 14, 3) := by decide +kernel
theorem dX12_thing_83 : decode cX12_thing 83 = .ok (.aload_n 0, 1) := by decide +kernel
theorem dX12_thing_84 : decode cX12_thing 84 = .ok (.getfield 35, 3) := by decide +kernel
theorem dX12_thing_87 : decode cX12_thing 87 = .ok (.sipush 130, 3) := by decide +kernel
theorem dX12_thing_90 : decode cX12_thing 90 = .ok (.iload_n 1, 1) := by decide +kernel
theorem dX12_thing_91 : decode cX12_thing 91 = .ok (.iadd, 1) := by decide +kernel
theorem dX12_thing_92 : decode cX12_thing 92 = .ok (.iaload, 1) := by decide +kernel
theorem dX12_thing_93 : decode cX12_thing 93 = .ok (.ireturn, 1) := by decide +kernel
theorem dX12_thing_94 : decode cX12_thing 94 = .ok (.iconst 0, 1) := by decide +kernel
theorem dX12_thing_95 : decode cX12_thing 95 = .ok (.istore_n 3, 1) := by decide +kernel
theorem dX12_thing_96 : decode cX12_thing 96 = .ok (.iconst 0, 1) := by decide +kernel
theorem dX12_thing_97 : decode cX12_thing 97 = .ok (.istore 4, 2) := by decide +kernel
theorem dX12_thing_99 : decode cX12_thing 99 = .ok (.iload 4, 2) := by decide +kernel
theorem dX12_thing_101 : decode cX12_thing 101 = .ok (.aload_n 0, 1) := by decide +kernel
theorem dX12_thing_102 : decode cX12_thing 102 = .ok (.getfield 35, 3) := by decide +kernel
theorem dX12_thing_105 : decode cX12_thing 105 = .ok (.iconst 1, 1) := by decide +kernel
theorem dX12_thing_106 : decode cX12_thing 106 = .ok (.iaload, 1) := by decide +kernel
theorem dX12_thing_107 : decode cX12_thing 107 = .ok (.if_icmp .ge 34, 3) := by decide +kernel
theorem dX12_thing_110 : decode cX12_thing 110 = .ok (.iload_n 3, 1) := by decide +kernel
theorem dX12_thing_111 : decode cX12_thing 111 = .ok (.aload_n 0, 1) := by decide +kernel
theorem dX12_thing_112 : decode cX12_thing 112 = .ok (.getfield 35, 3) := by decide +kernel
theorem dX12_thing_115 : decode cX12_thing 115 = .ok (.bipush 20, 2) := by decide +kernel
theorem dX12_thing_117 : decode cX12_thing 117 = .ok (.iload 4, 2) := by decide +kernel
theorem dX12_thing_119 : decode cX12_thing 119 = .ok (.iadd, 1) := by decide +kernel
theorem dX12_thing_120 : decode cX12_thing 120 = .ok (.iaload, 1) := by decide +kernel
theorem dX12_thing_121 : decode cX12_thing 121 = .ok (.iload_n 1, 1) := by decide +kernel
theorem dX12_thing_122 : decode cX12_thing 122 = .ok (.if_icmp .ne 10, 3) := by decide +kernel
theorem dX12_thing_125 : decode cX12_thing 125 = .ok (.iconst 1, 1) := by decide +kernel
theorem dX12_thing_126 : decode cX12_thing 126 = .ok (.iload 4, 2) := by decide +kernel
theorem dX12_thing_128 : decode cX12_thing 128 = .ok (.ishl, 1) := by decide +kernel
theorem dX12_thing_129 : decode cX12_thing 129 = .ok (.goto 4, 3) := by decide +kernel
theorem dX12_thing_132 : decode cX12_thing 132 = .ok (.iconst 0, 1) := by decide +kernel
theorem dX12_thing_133 : decode cX12_thing 133 = .ok (.ior, 1) := by decide +kernel
theorem dX12_thing_134 : decode cX12_thing 134 = .ok (.istore_n 3, 1) := by decide +kernel
theorem dX12_thing_135 : decode cX12_thing 135 = .ok (.iinc 4 1, 3) := by decide +kernel
theorem dX12_thing_138 : decode cX12_thing 138 = .ok (.goto (-39), 3) := by decide +kernel
theorem dX12_thing_141 : decode cX12_thing 141 = .ok (.iload_n 3, 1) := by decide +kernel
theorem dX12_thing_142 : decode cX12_thing 142 = .ok (.ireturn, 1) := by decide +kernel
theorem dX12_making_0 : decode cX12_making 0 = .ok (.aload_n 0, 1) := by decide +kernel
theorem dX12_making_1 : decode cX12_making 1 = .ok (.iconst 0, 1) := by decide +kernel
theorem dX12_making_2 : decode cX12_making 2 = .ok (.putfield 74, 3) := by decide +kernel
theorem dX12_making_5 : decode cX12_making 5 = .ok (.aload_n 0, 1) := by decide +kernel
theorem dX12_making_6 : decode cX12_making 6 = .ok (.iconst 0, 1) := by decide +kernel
theorem dX12_making_7 : decode cX12_making 7 = .ok (.putfield 77, 3) := by decide +kernel
theorem dX12_making_10 : decode cX12_making 10 = .ok (.iload_n 1, 1) := by decide +kernel
theorem dX12_making_11 : decode cX12_making 11 = .ok (.i2l, 1) := by decide +kernel
theorem dX12_making_12 : decode cX12_making 12 = .ok (.lconst 0, 1) := by decide +kernel
theorem dX12_making_13 : decode cX12_making 13 = .ok (.aload_n 0, 1) := by decide +kernel
theorem dX12_making_14 : decode cX12_making 14 = .ok (.getfield 35, 3) := by decide +kernel
theorem dX12_making_17 : decode cX12_making 17 = .ok (.iconst 1, 1) := by decide +kernel
theorem dX12_making_18 : decode cX12_making 18 = .ok (.iaload, 1) := by decide +kernel
theorem dX12_making_19 : decode cX12_making 19 = .ok (.iconst 1, 1) := by decide +kernel
theorem dX12_making_20 : decode cX12_making 20 = .ok (.isub, 1) := by decide +kernel
theorem dX12_making_21 : decode cX12_making 21 = .ok (.i2l, 1) := by decide +kernel
theorem dX12_making_22 : decode cX12_making 22 = .ok (.invokestatic 109, 3) := by decide +kernel
theorem dX12_making_25 : decode cX12_making 25 = .ok (.ifCond .ne 9, 3) := by decide +kernel
theorem dX12_making_28 : decode cX12_making 28 = .ok (.aload_n 0, 1) := by decide +kernel
theorem dX12_making_29 : decode cX12_making 29 = .ok (.iconst 2, 1) := by decide +kernel
theorem dX12_making_30 : decode cX12_making 30 = .ok (.invokevirtual 327, 3) := by decide +kernel
theorem dX12_making_33 : decode cX12_making 33 = .ok (.ireturn, 1) := by decide +kernel
theorem dX12_making_34 : decode cX12_making 34 = .ok (.iload_n 2, 1) := by decide +kernel
theorem dX12_making_35 : decode cX12_making 35 = .ok (.ifCond .ne 15, 3) := by decide +kernel
theorem dX12_making_38 : decode cX12_making 38 = .ok (.aload_n 0, 1) := by decide +kernel
theorem dX12_making_39 : decode cX12_making 39 = .ok (.getfield 35, 3) := by decide +kernel
theorem dX12_making_42 : decode cX12_making 42 = .ok (.bipush 20, 2) := by decide +kernel
theorem dX12_making_44 : decode cX12_making 44 = .ok (.iload_n 1, 1) := by decide +kernel
theorem dX12_making_45 : decode cX12_making 45 = .ok (.iadd, 1) := by decide +kernel
theorem dX12_making_46 : decode cX12_making 46 = .ok (.iaload, 1) := by decide +kernel
theorem dX12_making_47 : decode cX12_making 47 = .ok (.goto 25, 3) := by decide +kernel
theorem dX12_making_50 : decode cX12_making 50 = .ok (.iload_n 2, 1) := by decide +kernel
theorem dX12_making_51 : decode cX12_making 51 = .ok (.iconst 1, 1) := by decide +kernel
theorem dX12_making_52 : decode cX12_making 52 = .ok (.if_icmp .ne 15, 3) := by decide +kernel
theorem dX12_making_55 : decode cX12_making 55 = .ok (.aload_n 0, 1) := by decide +kernel
theorem dX12_making_56 : decode cX12_making 56 = .ok (.getfield 35, 3) := by decide +kernel
theorem dX12_making_59 : decode cX12_making 59 = .ok (.bipush 36, 2) := by decide +kernel
theorem dX12_making_61 : decode cX12_making 61 = .ok (.iload_n 1, 1) := by decide +kernel
theorem dX12_making_62 : decode cX12_making 62 = .ok (.iadd, 1) := by decide +kernel
theorem dX12_making_63 : decode cX12_making 63 = .ok (.iaload, 1) := by decide +kernel
theorem dX12_making_64 : decode cX12_making 64 = .ok (.goto 8, 3) := by decide +kernel
theorem dX12_making_67 : decode cX12_making 67 = .ok (.aload_n 0, 1) := by decide +kernel
theorem dX12_making_68 : decode cX12_making 68 = .ok (.iconst 5, 1) := by decide +kernel
theorem dX12_making_69 : decode cX12_making 69 = .ok (.invokevirtual 327, 3) := by decide +kernel
theorem dX12_making_72 : decode cX12_making 72 = .ok (.ireturn, 1) := by decide +kernel
theorem dX12_needs_0 : decode cX12_needs 0 = .ok (.aload_n 0, 1) := by decide +kernel
theorem dX12_needs_1 : decode cX12_needs 1 = .ok (.iconst 0, 1) := by decide +kernel
theorem dX12_needs_2 : decode cX12_needs 2 = .ok (.putfield 74, 3) := by decide +kernel
theorem dX12_needs_5 : decode cX12_needs 5 = .ok (.aload_n 0, 1) := by decide +kernel
theorem dX12_needs_6 : decode cX12_needs 6 = .ok (.iconst 0, 1) := by decide +kernel
theorem dX12_needs_7 : decode cX12_needs 7 = .ok (.putfield 77, 3) := by decide +kernel
theorem dX12_needs_10 : decode cX12_needs 10 = .ok (.aload_n 0, 1) := by decide +kernel
theorem dX12_needs_11 : decode cX12_needs 11 = .ok (.iload_n 1, 1) := by decide +kernel
theorem dX12_needs_12 : decode cX12_needs 12 = .ok (.invokevirtual 342, 3) := by decide +kernel
theorem dX12_needs_15 : decode cX12_needs 15 = .ok (.ifCond .eq 15, 3) := by decide +kernel
theorem dX12_needs_18 : decode cX12_needs 18 = .ok (.aload_n 0, 1) := by decide +kernel
theorem dX12_needs_19 : decode cX12_needs 19 = .ok (.getfield 35, 3) := by decide +kernel
theorem dX12_needs_22 : decode cX12_needs 22 = .ok (.bipush 52, 2) := by decide +kernel
theorem dX12_needs_24 : decode cX12_needs 24 = .ok (.iload_n 1, 1) := by decide +kernel
theorem dX12_needs_25 : decode cX12_needs 25 = .ok (.iadd, 1) := by decide +kernel
theorem dX12_needs_26 : decode cX12_needs 26 = .ok (.iaload, 1) := by decide +kernel
theorem dX12_needs_27 : decode cX12_needs 27 = .ok (.goto 8, 3) := by decide +kernel
theorem dX12_needs_30 : decode cX12_needs 30 = .ok (.aload_n 0, 1) := by decide +kernel
theorem dX12_needs_31 : decode cX12_needs 31 = .ok (.iconst 2, 1) := by decide +kernel
theorem dX12_needs_32 : decode cX12_needs 32 = .ok (.invokevirtual 327, 3) := by decide +kernel
theorem dX12_needs_35 : decode cX12_needs 35 = .ok (.ireturn, 1) := by decide +kernel
theorem dX12_hate_0 : decode cX12_hate 0 = .ok (.aload_n 0, 1) := by decide +kernel
theorem dX12_hate_1 : decode cX12_hate 1 = .ok (.iconst 0, 1) := by decide +kernel
theorem dX12_hate_2 : decode cX12_hate 2 = .ok (.putfield 74, 3) := by decide +kernel
theorem dX12_hate_5 : decode cX12_hate 5 = .ok (.aload_n 0, 1) := by decide +kernel
theorem dX12_hate_6 : decode cX12_hate 6 = .ok (.iconst 0, 1) := by decide +kernel
theorem dX12_hate_7 : decode cX12_hate 7 = .ok (.putfield 77, 3) := by decide +kernel
theorem dX12_hate_10 : decode cX12_hate 10 = .ok (.aload_n 0, 1) := by decide +kernel
theorem dX12_hate_11 : decode cX12_hate 11 = .ok (.iload_n 1, 1) := by decide +kernel
theorem dX12_hate_12 : decode cX12_hate 12 = .ok (.invokevirtual 345, 3) := by decide +kernel
theorem dX12_hate_15 : decode cX12_hate 15 = .ok (.ifCond .eq 28, 3) := by decide +kernel
theorem dX12_hate_18 : decode cX12_hate 18 = .ok (.aload_n 0, 1) := by decide +kernel
theorem dX12_hate_19 : decode cX12_hate 19 = .ok (.iload_n 2, 1) := by decide +kernel
theorem dX12_hate_20 : decode cX12_hate 20 = .ok (.invokevirtual 339, 3) := by decide +kernel
theorem dX12_hate_23 : decode cX12_hate 23 = .ok (.ifCond .eq 20, 3) := by decide +kernel
theorem dX12_hate_26 : decode cX12_hate 26 = .ok (.aload_n 0, 1) := by decide +kernel
theorem dX12_hate_27 : decode cX12_hate 27 = .ok (.getfield 35, 3) := by decide +kernel
theorem dX12_hate_30 : decode cX12_hate 30 = .ok (.bipush 58, 2) := by decide +kernel
theorem dX12_hate_32 : decode cX12_hate 32 = .ok (.bipush 12, 2) := by decide +kernel
theorem dX12_hate_34 : decode cX12_hate 34 = .ok (.iload_n 1, 1) := by decide +kernel
theorem dX12_hate_35 : decode cX12_hate 35 = .ok (.imul, 1) := by decide +kernel
theorem dX12_hate_36 : decode cX12_hate 36 = .ok (.iadd, 1) := by decide +kernel
theorem dX12_hate_37 : decode cX12_hate 37 = .ok (.iload_n 2, 1) := by decide +kernel
theorem dX12_hate_38 : decode cX12_hate 38 = .ok (.iadd, 1) := by decide +kernel
theorem dX12_hate_39 : decode cX12_hate 39 = .ok (.iaload, 1) := by decide +kernel
theorem dX12_hate_40 : decode cX12_hate 40 = .ok (.goto 8, 3) := by decide +kernel
theorem dX12_hate_43 : decode cX12_hate 43 = .ok (.aload_n 0, 1) := by decide +kernel
theorem dX12_hate_44 : decode cX12_hate 44 = .ok (.iconst 2, 1) := by decide +kernel
theorem dX12_hate_45 : decode cX12_hate 45 = .ok (.invokevirtual 327, 3) := by decide +kernel
theorem dX12_hate_48 : decode cX12_hate 48 = .ok (.ireturn, 1) := by decide +kernel
theorem dX12_copyWorth_0 : decode cX12_copyWorth 0 = .ok (.aload_n 0, 1) := by decide +kernel
theorem dX12_copyWorth_1 : decode cX12_copyWorth 1 = .ok (.iconst 0, 1) := by decide +kernel
theorem dX12_copyWorth_2 : decode cX12_copyWorth 2 = .ok (.putfield 74, 3) := by decide +kernel
theorem dX12_copyWorth_5 : decode cX12_copyWorth 5 = .ok (.aload_n 0, 1) := by decide +kernel
theorem dX12_copyWorth_6 : decode cX12_copyWorth 6 = .ok (.iconst 0, 1) := by decide +kernel
theorem dX12_copyWorth_7 : decode cX12_copyWorth 7 = .ok (.putfield 77, 3) := by decide +kernel
theorem dX12_copyWorth_10 : decode cX12_copyWorth 10 = .ok (.aload_n 0, 1) := by decide +kernel
theorem dX12_copyWorth_11 : decode cX12_copyWorth 11 = .ok (.iload_n 1, 1) := by decide +kernel
theorem dX12_copyWorth_12 : decode cX12_copyWorth 12 = .ok (.invokevirtual 348, 3) := by decide +kernel
theorem dX12_copyWorth_15 : decode cX12_copyWorth 15 = .ok (.ifCond .ne 9, 3) := by decide +kernel
theorem dX12_copyWorth_18 : decode cX12_copyWorth 18 = .ok (.aload_n 0, 1) := by decide +kernel
theorem dX12_copyWorth_19 : decode cX12_copyWorth 19 = .ok (.iconst 1, 1) := by decide +kernel
theorem dX12_copyWorth_20 : decode cX12_copyWorth 20 = .ok (.invokevirtual 327, 3) := by decide +kernel
theorem dX12_copyWorth_23 : decode cX12_copyWorth 23 = .ok (.ireturn, 1) := by decide +kernel
theorem dX12_copyWorth_24 : decode cX12_copyWorth 24 = .ok (.aload_n 0, 1) := by decide +kernel
theorem dX12_copyWorth_25 : decode cX12_copyWorth 25 = .ok (.getfield 17, 3) := by decide +kernel
theorem dX12_copyWorth_28 : decode cX12_copyWorth 28 = .ok (.iload_n 1, 1) := by decide +kernel
theorem dX12_copyWorth_29 : decode cX12_copyWorth 29 = .ok (.iaload, 1) := by decide +kernel
theorem dX12_copyWorth_30 : decode cX12_copyWorth 30 = .ok (.ifCond .ge 9, 3) := by decide +kernel
theorem dX12_copyWorth_33 : decode cX12_copyWorth 33 = .ok (.aload_n 0, 1) := by decide +kernel
theorem dX12_copyWorth_34 : decode cX12_copyWorth 34 = .ok (.iconst 3, 1) := by decide +kernel
theorem dX12_copyWorth_35 : decode cX12_copyWorth 35 = .ok (.invokevirtual 327, 3) := by decide +kernel
theorem dX12_copyWorth_38 : decode cX12_copyWorth 38 = .ok (.ireturn, 1) := by decide +kernel
theorem dX12_copyWorth_39 : decode cX12_copyWorth 39 = .ok (.aload_n 0, 1) := by decide +kernel
theorem dX12_copyWorth_40 : decode cX12_copyWorth 40 = .ok (.getfield 17, 3) := by decide +kernel
theorem dX12_copyWorth_43 : decode cX12_copyWorth 43 = .ok (.iload_n 1, 1) := by decide +kernel
theorem dX12_copyWorth_44 : decode cX12_copyWorth 44 = .ok (.iaload, 1) := by decide +kernel
theorem dX12_copyWorth_45 : decode cX12_copyWorth 45 = .ok (.aload_n 0, 1) := by decide +kernel
theorem dX12_copyWorth_46 : decode cX12_copyWorth 46 = .ok (.getfield 35, 3) := by decide +kernel
theorem dX12_copyWorth_49 : decode cX12_copyWorth 49 = .ok (.iconst 0, 1) := by decide +kernel
theorem dX12_copyWorth_50 : decode cX12_copyWorth 50 = .ok (.iaload, 1) := by decide +kernel
theorem dX12_copyWorth_51 : decode cX12_copyWorth 51 = .ok (.if_icmp .ge 9, 3) := by decide +kernel
theorem dX12_copyWorth_54 : decode cX12_copyWorth 54 = .ok (.aload_n 0, 1) := by decide +kernel
theorem dX12_copyWorth_55 : decode cX12_copyWorth 55 = .ok (.iconst 4, 1) := by decide +kernel
theorem dX12_copyWorth_56 : decode cX12_copyWorth 56 = .ok (.invokevirtual 327, 3) := by decide +kernel
theorem dX12_copyWorth_59 : decode cX12_copyWorth 59 = .ok (.ireturn, 1) := by decide +kernel
theorem dX12_copyWorth_60 : decode cX12_copyWorth 60 = .ok (.aload_n 0, 1) := by decide +kernel
theorem dX12_copyWorth_61 : decode cX12_copyWorth 61 = .ok (.invokevirtual 330, 3) := by decide +kernel
theorem dX12_copyWorth_64 : decode cX12_copyWorth 64 = .ok (.istore_n 2, 1) := by decide +kernel
theorem dX12_copyWorth_65 : decode cX12_copyWorth 65 = .ok (.iconst 0, 1) := by decide +kernel
theorem dX12_copyWorth_66 : decode cX12_copyWorth 66 = .ok (.istore_n 3, 1) := by decide +kernel
theorem dX12_copyWorth_67 : decode cX12_copyWorth 67 = .ok (.iload_n 3, 1) := by decide +kernel
theorem dX12_copyWorth_68 : decode cX12_copyWorth 68 = .ok (.aload_n 0, 1) := by decide +kernel
theorem dX12_copyWorth_69 : decode cX12_copyWorth 69 = .ok (.getfield 35, 3) := by decide +kernel
theorem dX12_copyWorth_72 : decode cX12_copyWorth 72 = .ok (.iconst 0, 1) := by decide +kernel
theorem dX12_copyWorth_73 : decode cX12_copyWorth 73 = .ok (.iaload, 1) := by decide +kernel
theorem dX12_copyWorth_74 : decode cX12_copyWorth 74 = .ok (.if_icmp .ge 42, 3) := by decide +kernel
theorem dX12_copyWorth_77 : decode cX12_copyWorth 77 = .ok (.aload_n 0, 1) := by decide +kernel
theorem dX12_copyWorth_78 : decode cX12_copyWorth 78 = .ok (.getfield 20, 3) := by decide +kernel
theorem dX12_copyWorth_81 : decode cX12_copyWorth 81 = .ok (.bipush 60, 2) := by decide +kernel
theorem dX12_copyWorth_83 : decode cX12_copyWorth 83 = .ok (.iload_n 1, 1) := by decide +kernel
theorem dX12_copyWorth_84 : decode cX12_copyWorth 84 = .ok (.imul, 1) := by decide +kernel
theorem dX12_copyWorth_85 : decode cX12_copyWorth 85 = .ok (.iload_n 3, 1) := by decide +kernel
theorem dX12_copyWorth_86 : decode cX12_copyWorth 86 = .ok (.iadd, 1) := by decide +kernel
theorem dX12_copyWorth_87 : decode cX12_copyWorth 87 = .ok (.iload_n 2, 1) := by decide +kernel
theorem dX12_copyWorth_88 : decode cX12_copyWorth 88 = .ok (.iload_n 3, 1) := by decide +kernel
theorem dX12_copyWorth_89 : decode cX12_copyWorth 89 = .ok (.invokestatic 113, 3) := by decide +kernel
theorem dX12_copyWorth_92 : decode cX12_copyWorth 92 = .ok (.ifCond .eq 16, 3) := by decide +kernel
theorem dX12_copyWorth_95 : decode cX12_copyWorth 95 = .ok (.aload_n 0, 1) := by decide +kernel
theorem dX12_copyWorth_96 : decode cX12_copyWorth 96 = .ok (.getfield 35, 3) := by decide +kernel
theorem dX12_copyWorth_99 : decode cX12_copyWorth 99 = .ok (.bipush 8, 2) := by decide +kernel
theorem dX12_copyWorth_101 : decode cX12_copyWorth 101 = .ok (.iload_n 3, 1) := by decide +kernel
theorem dX12_copyWorth_102 : decode cX12_copyWorth 102 = .ok (.iadd, 1) := by decide +kernel
theorem dX12_copyWorth_103 : decode cX12_copyWorth 103 = .ok (.iaload, 1) := by decide +kernel
theorem dX12_copyWorth_104 : decode cX12_copyWorth 104 = .ok (.i2l, 1) := by decide +kernel
theorem dX12_copyWorth_105 : decode cX12_copyWorth 105 = .ok (.goto 4, 3) := by decide +kernel
theorem dX12_copyWorth_108 : decode cX12_copyWorth 108 = .ok (.lconst 0, 1) := by decide +kernel
theorem dX12_copyWorth_109 : decode cX12_copyWorth 109 = .ok (.lastore, 1) := by decide +kernel
theorem dX12_copyWorth_110 : decode cX12_copyWorth 110 = .ok (.iinc 3 1, 3) := by decide +kernel
theorem dX12_copyWorth_113 : decode cX12_copyWorth 113 = .ok (.goto (-46), 3) := by decide +kernel
theorem dX12_copyWorth_116 : decode cX12_copyWorth 116 = .ok (.aload_n 0, 1) := by decide +kernel
theorem dX12_copyWorth_117 : decode cX12_copyWorth 117 = .ok (.getfield 35, 3) := by decide +kernel
theorem dX12_copyWorth_120 : decode cX12_copyWorth 120 = .ok (.iconst 0, 1) := by decide +kernel
theorem dX12_copyWorth_121 : decode cX12_copyWorth 121 = .ok (.iaload, 1) := by decide +kernel
theorem dX12_copyWorth_122 : decode cX12_copyWorth 122 = .ok (.ireturn, 1) := by decide +kernel
theorem dX12_counts_0 : decode cX12_counts 0 = .ok (.iconst 0, 1) := by decide +kernel
theorem dX12_counts_1 : decode cX12_counts 1 = .ok (.istore_n 3, 1) := by decide +kernel
theorem dX12_counts_2 : decode cX12_counts 2 = .ok (.iload_n 3, 1) := by decide +kernel
theorem dX12_counts_3 : decode cX12_counts 3 = .ok (.bipush 12, 2) := by decide +kernel
theorem dX12_counts_5 : decode cX12_counts 5 = .ok (.if_icmp .ge 13, 3) := by decide +kernel
theorem dX12_counts_8 : decode cX12_counts 8 = .ok (.aload_n 2, 1) := by decide +kernel
theorem dX12_counts_9 : decode cX12_counts 9 = .ok (.iload_n 3, 1) := by decide +kernel
theorem dX12_counts_10 : decode cX12_counts 10 = .ok (.iconst 0, 1) := by decide +kernel
theorem dX12_counts_11 : decode cX12_counts 11 = .ok (.iastore, 1) := by decide +kernel
theorem dX12_counts_12 : decode cX12_counts 12 = .ok (.iinc 3 1, 3) := by decide +kernel
theorem dX12_counts_15 : decode cX12_counts 15 = .ok (.goto (-13), 3) := by decide +kernel
theorem dX12_counts_18 : decode cX12_counts 18 = .ok (.iconst 0, 1) := by decide +kernel
theorem dX12_counts_19 : decode cX12_counts 19 = .ok (.istore_n 3, 1) := by decide +kernel
theorem dX12_counts_20 : decode cX12_counts 20 = .ok (.iload_n 3, 1) := by decide +kernel
theorem dX12_counts_21 : decode cX12_counts 21 = .ok (.aload_n 0, 1) := by decide +kernel
theorem dX12_counts_22 : decode cX12_counts 22 = .ok (.getfield 35, 3) := by decide +kernel
theorem dX12_counts_25 : decode cX12_counts 25 = .ok (.iconst 3, 1) := by decide +kernel
theorem dX12_counts_26 : decode cX12_counts 26 = .ok (.iaload, 1) := by decide +kernel
theorem dX12_counts_27 : decode cX12_counts 27 = .ok (.if_icmp .ge 101, 3) := by decide +kernel
theorem dX12_counts_30 : decode cX12_counts 30 = .ok (.iconst (-1), 1) := by decide +kernel
theorem dX12_counts_31 : decode cX12_counts 31 = .ok (.istore 4, 2) := by decide +kernel
theorem dX12_counts_33 : decode cX12_counts 33 = .ok (.iconst 0, 1) := by decide +kernel
theorem dX12_counts_34 : decode cX12_counts 34 = .ok (.istore 5, 2) := by decide +kernel
theorem dX12_counts_36 : decode cX12_counts 36 = .ok (.iconst 0, 1) := by decide +kernel
theorem dX12_counts_37 : decode cX12_counts 37 = .ok (.istore 6, 2) := by decide +kernel
theorem dX12_counts_39 : decode cX12_counts 39 = .ok (.iload 6, 2) := by decide +kernel
theorem dX12_counts_41 : decode cX12_counts 41 = .ok (.aload_n 0, 1) := by decide +kernel
theorem dX12_counts_42 : decode cX12_counts 42 = .ok (.getfield 35, 3) := by decide +kernel
theorem dX12_counts_45 : decode cX12_counts 45 = .ok (.iconst 0, 1) := by decide +kernel
theorem dX12_counts_46 : decode cX12_counts 46 = .ok (.iaload, 1) := by decide +kernel
theorem dX12_counts_47 : decode cX12_counts 47 = .ok (.if_icmp .ge 62, 3) := by decide +kernel
theorem dX12_counts_50 : decode cX12_counts 50 = .ok (.iload_n 1, 1) := by decide +kernel
theorem dX12_counts_51 : decode cX12_counts 51 = .ok (.iload 6, 2) := by decide +kernel
theorem dX12_counts_53 : decode cX12_counts 53 = .ok (.invokestatic 113, 3) := by decide +kernel
theorem dX12_counts_56 : decode cX12_counts 56 = .ok (.ifCond .eq 47, 3) := by decide +kernel
theorem dX12_counts_59 : decode cX12_counts 59 = .ok (.aload_n 0, 1) := by decide +kernel
theorem dX12_counts_60 : decode cX12_counts 60 = .ok (.getfield 35, 3) := by decide +kernel
theorem dX12_counts_63 : decode cX12_counts 63 = .ok (.bipush 58, 2) := by decide +kernel
theorem dX12_counts_65 : decode cX12_counts 65 = .ok (.bipush 12, 2) := by decide +kernel
theorem dX12_counts_67 : decode cX12_counts 67 = .ok (.iload_n 3, 1) := by decide +kernel
theorem dX12_counts_68 : decode cX12_counts 68 = .ok (.imul, 1) := by decide +kernel
theorem dX12_counts_69 : decode cX12_counts 69 = .ok (.iadd, 1) := by decide +kernel
theorem dX12_counts_70 : decode cX12_counts 70 = .ok (.iload 6, 2) := by decide +kernel
theorem dX12_counts_72 : decode cX12_counts 72 = .ok (.iadd, 1) := by decide +kernel
theorem dX12_counts_73 : decode cX12_counts 73 = .ok (.iaload, 1) := by decide +kernel
theorem dX12_counts_74 : decode cX12_counts 74 = .ok (.iload 5, 2) := by decide +kernel
theorem dX12_counts_76 : decode cX12_counts 76 = .ok (.if_icmp .gt 6, 3) := by decide +kernel
theorem dX12_counts_79 : decode cX12_counts 79 = .ok (.goto 24, 3) := by decide +kernel
theorem dX12_counts_82 : decode cX12_counts 82 = .ok (.aload_n 0, 1) := by decide +kernel
theorem dX12_counts_83 : decode cX12_counts 83 = .ok (.getfield 35, 3) := by decide +kernel
theorem dX12_counts_86 : decode cX12_counts 86 = .ok (.bipush 58, 2) := by decide +kernel
theorem dX12_counts_88 : decode cX12_counts 88 = .ok (.bipush 12, 2) := by decide +kernel
theorem dX12_counts_90 : decode cX12_counts 90 = .ok (.iload_n 3, 1) := by decide +kernel
theorem dX12_counts_91 : decode cX12_counts 91 = .ok (.imul, 1) := by decide +kernel
theorem dX12_counts_92 : decode cX12_counts 92 = .ok (.iadd, 1) := by decide +kernel
theorem dX12_counts_93 : decode cX12_counts 93 = .ok (.iload 6, 2) := by decide +kernel
theorem dX12_counts_95 : decode cX12_counts 95 = .ok (.iadd, 1) := by decide +kernel
theorem dX12_counts_96 : decode cX12_counts 96 = .ok (.iaload, 1) := by decide +kernel
theorem dX12_counts_97 : decode cX12_counts 97 = .ok (.istore 5, 2) := by decide +kernel
theorem dX12_counts_99 : decode cX12_counts 99 = .ok (.iload 6, 2) := by decide +kernel
theorem dX12_counts_101 : decode cX12_counts 101 = .ok (.istore 4, 2) := by decide +kernel
theorem dX12_counts_103 : decode cX12_counts 103 = .ok (.iinc 6 1, 3) := by decide +kernel
theorem dX12_counts_106 : decode cX12_counts 106 = .ok (.goto (-67), 3) := by decide +kernel
theorem dX12_counts_109 : decode cX12_counts 109 = .ok (.iload 4, 2) := by decide +kernel
theorem dX12_counts_111 : decode cX12_counts 111 = .ok (.ifCond .lt 11, 3) := by decide +kernel
theorem dX12_counts_114 : decode cX12_counts 114 = .ok (.aload_n 2, 1) := by decide +kernel
theorem dX12_counts_115 : decode cX12_counts 115 = .ok (.iload 4, 2) := by decide +kernel
theorem dX12_counts_117 : decode cX12_counts 117 = .ok (.dup2, 1) := by decide +kernel
theorem dX12_counts_118 : decode cX12_counts 118 = .ok (.iaload, 1) := by decide +kernel
theorem dX12_counts_119 : decode cX12_counts 119 = .ok (.iconst 1, 1) := by decide +kernel
theorem dX12_counts_120 : decode cX12_counts 120 = .ok (.iadd, 1) := by decide +kernel
theorem dX12_counts_121 : decode cX12_counts 121 = .ok (.iastore, 1) := by decide +kernel
theorem dX12_counts_122 : decode cX12_counts 122 = .ok (.iinc 3 1, 3) := by decide +kernel
theorem dX12_counts_125 : decode cX12_counts 125 = .ok (.goto (-105), 3) := by decide +kernel
theorem dX12_counts_128 : decode cX12_counts 128 = .ok (.return_, 1) := by decide +kernel
theorem dX12_sums_0 : decode cX12_sums 0 = .ok (.iconst 0, 1) := by decide +kernel
theorem dX12_sums_1 : decode cX12_sums 1 = .ok (.istore_n 2, 1) := by decide +kernel
theorem dX12_sums_2 : decode cX12_sums 2 = .ok (.iload_n 2, 1) := by decide +kernel
theorem dX12_sums_3 : decode cX12_sums 3 = .ok (.bipush 12, 2) := by decide +kernel
theorem dX12_sums_5 : decode cX12_sums 5 = .ok (.if_icmp .ge 16, 3) := by decide +kernel
theorem dX12_sums_8 : decode cX12_sums 8 = .ok (.aload_n 0, 1) := by decide +kernel
theorem dX12_sums_9 : decode cX12_sums 9 = .ok (.getfield 44, 3) := by decide +kernel
theorem dX12_sums_12 : decode cX12_sums 12 = .ok (.iload_n 2, 1) := by decide +kernel
theorem dX12_sums_13 : decode cX12_sums 13 = .ok (.iconst 0, 1) := by decide +kernel
theorem dX12_sums_14 : decode cX12_sums 14 = .ok (.iastore, 1) := by decide +kernel
theorem dX12_sums_15 : decode cX12_sums 15 = .ok (.iinc 2 1, 3) := by decide +kernel
theorem dX12_sums_18 : decode cX12_sums 18 = .ok (.goto (-16), 3) := by decide +kernel
theorem dX12_sums_21 : decode cX12_sums 21 = .ok (.iconst 0, 1) := by decide +kernel
theorem dX12_sums_22 : decode cX12_sums 22 = .ok (.istore_n 2, 1) := by decide +kernel
theorem dX12_sums_23 : decode cX12_sums 23 = .ok (.iload_n 2, 1) := by decide +kernel
theorem dX12_sums_24 : decode cX12_sums 24 = .ok (.aload_n 0, 1) := by decide +kernel
theorem dX12_sums_25 : decode cX12_sums 25 = .ok (.getfield 35, 3) := by decide +kernel
theorem dX12_sums_28 : decode cX12_sums 28 = .ok (.iconst 3, 1) := by decide +kernel
theorem dX12_sums_29 : decode cX12_sums 29 = .ok (.iaload, 1) := by decide +kernel
theorem dX12_sums_30 : decode cX12_sums 30 = .ok (.if_icmp .ge 62, 3) := by decide +kernel
theorem dX12_sums_33 : decode cX12_sums 33 = .ok (.iconst 0, 1) := by decide +kernel
theorem dX12_sums_34 : decode cX12_sums 34 = .ok (.istore_n 3, 1) := by decide +kernel
theorem dX12_sums_35 : decode cX12_sums 35 = .ok (.iload_n 3, 1) := by decide +kernel
theorem dX12_sums_36 : decode cX12_sums 36 = .ok (.aload_n 0, 1) := by decide +kernel
theorem dX12_sums_37 : decode cX12_sums 37 = .ok (.getfield 35, 3) := by decide +kernel
theorem dX12_sums_40 : decode cX12_sums 40 = .ok (.iconst 0, 1) := by decide +kernel
theorem dX12_sums_41 : decode cX12_sums 41 = .ok (.iaload, 1) := by decide +kernel
theorem dX12_sums_42 : decode cX12_sums 42 = .ok (.if_icmp .ge 44, 3) := by decide +kernel
theorem dX12_sums_45 : decode cX12_sums 45 = .ok (.aload_n 0, 1) := by decide +kernel
theorem dX12_sums_46 : decode cX12_sums 46 = .ok (.getfield 44, 3) := by decide +kernel
theorem dX12_sums_49 : decode cX12_sums 49 = .ok (.iload_n 3, 1) := by decide +kernel
theorem dX12_sums_50 : decode cX12_sums 50 = .ok (.dup2, 1) := by decide +kernel
theorem dX12_sums_51 : decode cX12_sums 51 = .ok (.iaload, 1) := by decide +kernel
theorem dX12_sums_52 : decode cX12_sums 52 = .ok (.iload_n 1, 1) := by decide +kernel
theorem dX12_sums_53 : decode cX12_sums 53 = .ok (.iload_n 3, 1) := by decide +kernel
theorem dX12_sums_54 : decode cX12_sums 54 = .ok (.invokestatic 113, 3) := by decide +kernel
theorem dX12_sums_57 : decode cX12_sums 57 = .ok (.ifCond .eq 20, 3) := by decide +kernel
theorem dX12_sums_60 : decode cX12_sums 60 = .ok (.aload_n 0, 1) := by decide +kernel
theorem dX12_sums_61 : decode cX12_sums 61 = .ok (.getfield 35, 3) := by decide +kernel
theorem dX12_sums_64 : decode cX12_sums 64 = .ok (.bipush 58, 2) := by decide +kernel
theorem dX12_sums_66 : decode cX12_sums 66 = .ok (.bipush 12, 2) := by decide +kernel
theorem dX12_sums_68 : decode cX12_sums 68 = .ok (.iload_n 2, 1) := by decide +kernel
theorem dX12_sums_69 : decode cX12_sums 69 = .ok (.imul, 1) := by decide +kernel
theorem dX12_sums_70 : decode cX12_sums 70 = .ok (.iadd, 1) := by decide +kernel
theorem dX12_sums_71 : decode cX12_sums 71 = .ok (.iload_n 3, 1) := by decide +kernel
theorem dX12_sums_72 : decode cX12_sums 72 = .ok (.iadd, 1) := by decide +kernel
theorem dX12_sums_73 : decode cX12_sums 73 = .ok (.iaload, 1) := by decide +kernel
theorem dX12_sums_74 : decode cX12_sums 74 = .ok (.goto 4, 3) := by decide +kernel
theorem dX12_sums_77 : decode cX12_sums 77 = .ok (.iconst 0, 1) := by decide +kernel
theorem dX12_sums_78 : decode cX12_sums 78 = .ok (.iadd, 1) := by decide +kernel
theorem dX12_sums_79 : decode cX12_sums 79 = .ok (.iastore, 1) := by decide +kernel
theorem dX12_sums_80 : decode cX12_sums 80 = .ok (.iinc 3 1, 3) := by decide +kernel
theorem dX12_sums_83 : decode cX12_sums 83 = .ok (.goto (-48), 3) := by decide +kernel
theorem dX12_sums_86 : decode cX12_sums 86 = .ok (.iinc 2 1, 3) := by decide +kernel
theorem dX12_sums_89 : decode cX12_sums 89 = .ok (.goto (-66), 3) := by decide +kernel
theorem dX12_sums_92 : decode cX12_sums 92 = .ok (.return_, 1) := by decide +kernel
theorem dX12_mostVotes_0 : decode cX12_mostVotes 0 = .ok (.iconst (-1), 1) := by decide +kernel
theorem dX12_mostVotes_1 : decode cX12_mostVotes 1 = .ok (.istore_n 1, 1) := by decide +kernel
theorem dX12_mostVotes_2 : decode cX12_mostVotes 2 = .ok (.iconst 0, 1) := by decide +kernel
theorem dX12_mostVotes_3 : decode cX12_mostVotes 3 = .ok (.istore_n 2, 1) := by decide +kernel
theorem dX12_mostVotes_4 : decode cX12_mostVotes 4 = .ok (.iload_n 2, 1) := by decide +kernel
theorem dX12_mostVotes_5 : decode cX12_mostVotes 5 = .ok (.aload_n 0, 1) := by decide +kernel
theorem dX12_mostVotes_6 : decode cX12_mostVotes 6 = .ok (.getfield 35, 3) := by decide +kernel
theorem dX12_mostVotes_9 : decode cX12_mostVotes 9 = .ok (.iconst 0, 1) := by decide +kernel
theorem dX12_mostVotes_10 : decode cX12_mostVotes 10 = .ok (.iaload, 1) := by decide +kernel
theorem dX12_mostVotes_11 : decode cX12_mostVotes 11 = .ok (.if_icmp .ge 39, 3) := by decide +kernel
theorem dX12_mostVotes_14 : decode cX12_mostVotes 14 = .ok (.aload_n 0, 1) := by decide +kernel
theorem dX12_mostVotes_15 : decode cX12_mostVotes 15 = .ok (.getfield 44, 3) := by decide +kernel
theorem dX12_mostVotes_18 : decode cX12_mostVotes 18 = .ok (.iload_n 2, 1) := by decide +kernel
theorem dX12_mostVotes_19 : decode cX12_mostVotes 19 = .ok (.iaload, 1) := by decide +kernel
theorem dX12_mostVotes_20 : decode cX12_mostVotes 20 = .ok (.ifCond .le 24, 3) := by decide +kernel
theorem dX12_mostVotes_23 : decode cX12_mostVotes 23 = .ok (.iload_n 1, 1) := by decide +kernel
theorem dX12_mostVotes_24 : decode cX12_mostVotes 24 = .ok (.ifCond .lt 18, 3) := by decide +kernel
theorem dX12_mostVotes_27 : decode cX12_mostVotes 27 = .ok (.aload_n 0, 1) := by decide +kernel
theorem dX12_mostVotes_28 : decode cX12_mostVotes 28 = .ok (.getfield 44, 3) := by decide +kernel
theorem dX12_mostVotes_31 : decode cX12_mostVotes 31 = .ok (.iload_n 2, 1) := by decide +kernel
theorem dX12_mostVotes_32 : decode cX12_mostVotes 32 = .ok (.iaload, 1) := by decide +kernel
theorem dX12_mostVotes_33 : decode cX12_mostVotes 33 = .ok (.aload_n 0, 1) := by decide +kernel
theorem dX12_mostVotes_34 : decode cX12_mostVotes 34 = .ok (.getfield 44, 3) := by decide +kernel
theorem dX12_mostVotes_37 : decode cX12_mostVotes 37 = .ok (.iload_n 1, 1) := by decide +kernel
theorem dX12_mostVotes_38 : decode cX12_mostVotes 38 = .ok (.iaload, 1) := by decide +kernel
theorem dX12_mostVotes_39 : decode cX12_mostVotes 39 = .ok (.if_icmp .le 5, 3) := by decide +kernel
theorem dX12_mostVotes_42 : decode cX12_mostVotes 42 = .ok (.iload_n 2, 1) := by decide +kernel
theorem dX12_mostVotes_43 : decode cX12_mostVotes 43 = .ok (.istore_n 1, 1) := by decide +kernel
theorem dX12_mostVotes_44 : decode cX12_mostVotes 44 = .ok (.iinc 2 1, 3) := by decide +kernel
theorem dX12_mostVotes_47 : decode cX12_mostVotes 47 = .ok (.goto (-43), 3) := by decide +kernel
theorem dX12_mostVotes_50 : decode cX12_mostVotes 50 = .ok (.iload_n 1, 1) := by decide +kernel
theorem dX12_mostVotes_51 : decode cX12_mostVotes 51 = .ok (.ireturn, 1) := by decide +kernel
theorem dX12_lastOne_0 : decode cX12_lastOne 0 = .ok (.iload_n 1, 1) := by decide +kernel
theorem dX12_lastOne_1 : decode cX12_lastOne 1 = .ok (.istore_n 2, 1) := by decide +kernel
theorem dX12_lastOne_2 : decode cX12_lastOne 2 = .ok (.iconst 0, 1) := by decide +kernel
theorem dX12_lastOne_3 : decode cX12_lastOne 3 = .ok (.istore_n 3, 1) := by decide +kernel
theorem dX12_lastOne_4 : decode cX12_lastOne 4 = .ok (.iload_n 3, 1) := by decide +kernel
theorem dX12_lastOne_5 : decode cX12_lastOne 5 = .ok (.bipush 12, 2) := by decide +kernel
theorem dX12_lastOne_7 : decode cX12_lastOne 7 = .ok (.if_icmp .gt 130, 3) := by decide +kernel
theorem dX12_lastOne_10 : decode cX12_lastOne 10 = .ok (.aload_n 0, 1) := by decide +kernel
theorem dX12_lastOne_11 : decode cX12_lastOne 11 = .ok (.iload_n 2, 1) := by decide +kernel
theorem dX12_lastOne_12 : decode cX12_lastOne 12 = .ok (.aload_n 0, 1) := by decide +kernel
theorem dX12_lastOne_13 : decode cX12_lastOne 13 = .ok (.getfield 47, 3) := by decide +kernel
theorem dX12_lastOne_16 : decode cX12_lastOne 16 = .ok (.invokevirtual 351, 3) := by decide +kernel
theorem dX12_lastOne_19 : decode cX12_lastOne 19 = .ok (.iconst 0, 1) := by decide +kernel
theorem dX12_lastOne_20 : decode cX12_lastOne 20 = .ok (.istore 4, 2) := by decide +kernel
theorem dX12_lastOne_22 : decode cX12_lastOne 22 = .ok (.iconst (-1), 1) := by decide +kernel
theorem dX12_lastOne_23 : decode cX12_lastOne 23 = .ok (.istore 5, 2) := by decide +kernel
theorem dX12_lastOne_25 : decode cX12_lastOne 25 = .ok (.iconst 0, 1) := by decide +kernel
theorem dX12_lastOne_26 : decode cX12_lastOne 26 = .ok (.istore 6, 2) := by decide +kernel
theorem dX12_lastOne_28 : decode cX12_lastOne 28 = .ok (.iload 6, 2) := by decide +kernel
theorem dX12_lastOne_30 : decode cX12_lastOne 30 = .ok (.aload_n 0, 1) := by decide +kernel
theorem dX12_lastOne_31 : decode cX12_lastOne 31 = .ok (.getfield 35, 3) := by decide +kernel
theorem dX12_lastOne_34 : decode cX12_lastOne 34 = .ok (.iconst 0, 1) := by decide +kernel
theorem dX12_lastOne_35 : decode cX12_lastOne 35 = .ok (.iaload, 1) := by decide +kernel
theorem dX12_lastOne_36 : decode cX12_lastOne 36 = .ok (.if_icmp .ge 77, 3) := by decide +kernel
theorem dX12_lastOne_39 : decode cX12_lastOne 39 = .ok (.iload_n 2, 1) := by decide +kernel
theorem dX12_lastOne_40 : decode cX12_lastOne 40 = .ok (.iload 6, 2) := by decide +kernel
theorem dX12_lastOne_42 : decode cX12_lastOne 42 = .ok (.invokestatic 113, 3) := by decide +kernel
theorem dX12_lastOne_45 : decode cX12_lastOne 45 = .ok (.ifCond .ne 6, 3) := by decide +kernel
theorem dX12_lastOne_48 : decode cX12_lastOne 48 = .ok (.goto 59, 3) := by decide +kernel
theorem dX12_lastOne_51 : decode cX12_lastOne 51 = .ok (.aload_n 0, 1) := by decide +kernel
theorem dX12_lastOne_52 : decode cX12_lastOne 52 = .ok (.getfield 44, 3) := by decide +kernel
theorem dX12_lastOne_55 : decode cX12_lastOne 55 = .ok (.iload 6, 2) := by decide +kernel
theorem dX12_lastOne_57 : decode cX12_lastOne 57 = .ok (.aload_n 0, 1) := by decide +kernel
theorem dX12_lastOne_58 : decode cX12_lastOne 58 = .ok (.getfield 47, 3) := by decide +kernel
theorem dX12_lastOne_61 : decode cX12_lastOne 61 = .ok (.iload 6, 2) := by decide +kernel
theorem dX12_lastOne_63 : decode cX12_lastOne 63 = .ok (.iaload, 1) := by decide +kernel
theorem dX12_lastOne_64 : decode cX12_lastOne 64 = .ok (.iastore, 1) := by decide +kernel
theorem dX12_lastOne_65 : decode cX12_lastOne 65 = .ok (.aload_n 0, 1) := by decide +kernel
theorem dX12_lastOne_66 : decode cX12_lastOne 66 = .ok (.getfield 47, 3) := by decide +kernel
theorem dX12_lastOne_69 : decode cX12_lastOne 69 = .ok (.iload 6, 2) := by decide +kernel
theorem dX12_lastOne_71 : decode cX12_lastOne 71 = .ok (.iaload, 1) := by decide +kernel
theorem dX12_lastOne_72 : decode cX12_lastOne 72 = .ok (.ifCond .ne 6, 3) := by decide +kernel
theorem dX12_lastOne_75 : decode cX12_lastOne 75 = .ok (.goto 32, 3) := by decide +kernel
theorem dX12_lastOne_78 : decode cX12_lastOne 78 = .ok (.iinc 4 1, 3) := by decide +kernel
theorem dX12_lastOne_81 : decode cX12_lastOne 81 = .ok (.iload 5, 2) := by decide +kernel
theorem dX12_lastOne_83 : decode cX12_lastOne 83 = .ok (.ifCond .lt 20, 3) := by decide +kernel
theorem dX12_lastOne_86 : decode cX12_lastOne 86 = .ok (.aload_n 0, 1) := by decide +kernel
theorem dX12_lastOne_87 : decode cX12_lastOne 87 = .ok (.getfield 47, 3) := by decide +kernel
theorem dX12_lastOne_90 : decode cX12_lastOne 90 = .ok (.iload 6, 2) := by decide +kernel
theorem dX12_lastOne_92 : decode cX12_lastOne 92 = .ok (.iaload, 1) := by decide +kernel
theorem dX12_lastOne_93 : decode cX12_lastOne 93 = .ok (.aload_n 0, 1) := by decide +kernel
theorem dX12_lastOne_94 : decode cX12_lastOne 94 = .ok (.getfield 47, 3) := by decide +kernel
theorem dX12_lastOne_97 : decode cX12_lastOne 97 = .ok (.iload 5, 2) := by decide +kernel
theorem dX12_lastOne_99 : decode cX12_lastOne 99 = .ok (.iaload, 1) := by decide +kernel
theorem dX12_lastOne_100 : decode cX12_lastOne 100 = .ok (.if_icmp .gt 7, 3) := by decide +kernel
theorem dX12_lastOne_103 : decode cX12_lastOne 103 = .ok (.iload 6, 2) := by decide +kernel
theorem dX12_lastOne_105 : decode cX12_lastOne 105 = .ok (.istore 5, 2) := by decide +kernel
theorem dX12_lastOne_107 : decode cX12_lastOne 107 = .ok (.iinc 6 1, 3) := by decide +kernel
theorem dX12_lastOne_110 : decode cX12_lastOne 110 = .ok (.goto (-82), 3) := by decide +kernel
theorem dX12_lastOne_113 : decode cX12_lastOne 113 = .ok (.iload 4, 2) := by decide +kernel
theorem dX12_lastOne_115 : decode cX12_lastOne 115 = .ok (.iconst 2, 1) := by decide +kernel
theorem dX12_lastOne_116 : decode cX12_lastOne 116 = .ok (.if_icmp .ge 6, 3) := by decide +kernel
theorem dX12_lastOne_119 : decode cX12_lastOne 119 = .ok (.iload 5, 2) := by decide +kernel
theorem dX12_lastOne_121 : decode cX12_lastOne 121 = .ok (.ireturn, 1) := by decide +kernel
theorem dX12_lastOne_122 : decode cX12_lastOne 122 = .ok (.iload_n 2, 1) := by decide +kernel
theorem dX12_lastOne_123 : decode cX12_lastOne 123 = .ok (.iconst 1, 1) := by decide +kernel
theorem dX12_lastOne_124 : decode cX12_lastOne 124 = .ok (.iload 5, 2) := by decide +kernel
theorem dX12_lastOne_126 : decode cX12_lastOne 126 = .ok (.ishl, 1) := by decide +kernel
theorem dX12_lastOne_127 : decode cX12_lastOne 127 = .ok (.iconst (-1), 1) := by decide +kernel
theorem dX12_lastOne_128 : decode cX12_lastOne 128 = .ok (.ixor, 1) := by decide +kernel
theorem dX12_lastOne_129 : decode cX12_lastOne 129 = .ok (.iand, 1) := by decide +kernel
theorem dX12_lastOne_130 : decode cX12_lastOne 130 = .ok (.istore_n 2, 1) := by decide +kernel
theorem dX12_lastOne_131 : decode cX12_lastOne 131 = .ok (.iinc 3 1, 3) := by decide +kernel
theorem dX12_lastOne_134 : decode cX12_lastOne 134 = .ok (.goto (-130), 3) := by decide +kernel
theorem dX12_lastOne_137 : decode cX12_lastOne 137 = .ok (.iconst (-1), 1) := by decide +kernel
theorem dX12_lastOne_138 : decode cX12_lastOne 138 = .ok (.ireturn, 1) := by decide +kernel
theorem dX12_namedBy_0 : decode cX12_namedBy 0 = .ok (.iconst 0, 1) := by decide +kernel
theorem dX12_namedBy_1 : decode cX12_namedBy 1 = .ok (.istore_n 3, 1) := by decide +kernel
theorem dX12_namedBy_2 : decode cX12_namedBy 2 = .ok (.iload_n 3, 1) := by decide +kernel
theorem dX12_namedBy_3 : decode cX12_namedBy 3 = .ok (.bipush 12, 2) := by decide +kernel
theorem dX12_namedBy_5 : decode cX12_namedBy 5 = .ok (.if_icmp .ge 16, 3) := by decide +kernel
theorem dX12_namedBy_8 : decode cX12_namedBy 8 = .ok (.aload_n 0, 1) := by decide +kernel
theorem dX12_namedBy_9 : decode cX12_namedBy 9 = .ok (.getfield 44, 3) := by decide +kernel
theorem dX12_namedBy_12 : decode cX12_namedBy 12 = .ok (.iload_n 3, 1) := by decide +kernel
theorem dX12_namedBy_13 : decode cX12_namedBy 13 = .ok (.iconst 0, 1) := by decide +kernel
