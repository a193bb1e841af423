theorem dX12_namedBy_14 : decode cX12_namedBy 14 = .ok (.iastore, 1) := by decide +kernel
theorem dX12_namedBy_15 : decode cX12_namedBy 15 = .ok (.iinc 3 1, 3) := by decide +kernel
theorem dX12_namedBy_18 : decode cX12_namedBy 18 = .ok (.goto (-16), 3) := by decide +kernel
theorem dX12_namedBy_21 : decode cX12_namedBy 21 = .ok (.iload_n 1, 1) := by decide +kernel
theorem dX12_namedBy_22 : decode cX12_namedBy 22 = .ok (.iconst 2, 1) := by decide +kernel
theorem dX12_namedBy_23 : decode cX12_namedBy 23 = .ok (.if_icmp .ne 9, 3) := by decide +kernel
theorem dX12_namedBy_26 : decode cX12_namedBy 26 = .ok (.aload_n 0, 1) := by decide +kernel
theorem dX12_namedBy_27 : decode cX12_namedBy 27 = .ok (.iload_n 2, 1) := by decide +kernel
theorem dX12_namedBy_28 : decode cX12_namedBy 28 = .ok (.invokevirtual 355, 3) := by decide +kernel
theorem dX12_namedBy_31 : decode cX12_namedBy 31 = .ok (.ireturn, 1) := by decide +kernel
theorem dX12_namedBy_32 : decode cX12_namedBy 32 = .ok (.iload_n 1, 1) := by decide +kernel
theorem dX12_namedBy_33 : decode cX12_namedBy 33 = .ok (.iconst 1, 1) := by decide +kernel
theorem dX12_namedBy_34 : decode cX12_namedBy 34 = .ok (.if_icmp .ne 11, 3) := by decide +kernel
theorem dX12_namedBy_37 : decode cX12_namedBy 37 = .ok (.aload_n 0, 1) := by decide +kernel
theorem dX12_namedBy_38 : decode cX12_namedBy 38 = .ok (.iload_n 2, 1) := by decide +kernel
theorem dX12_namedBy_39 : decode cX12_namedBy 39 = .ok (.invokevirtual 358, 3) := by decide +kernel
theorem dX12_namedBy_42 : decode cX12_namedBy 42 = .ok (.goto 12, 3) := by decide +kernel
theorem dX12_namedBy_45 : decode cX12_namedBy 45 = .ok (.aload_n 0, 1) := by decide +kernel
theorem dX12_namedBy_46 : decode cX12_namedBy 46 = .ok (.iload_n 2, 1) := by decide +kernel
theorem dX12_namedBy_47 : decode cX12_namedBy 47 = .ok (.aload_n 0, 1) := by decide +kernel
theorem dX12_namedBy_48 : decode cX12_namedBy 48 = .ok (.getfield 44, 3) := by decide +kernel
theorem dX12_namedBy_51 : decode cX12_namedBy 51 = .ok (.invokevirtual 351, 3) := by decide +kernel
theorem dX12_namedBy_54 : decode cX12_namedBy 54 = .ok (.aload_n 0, 1) := by decide +kernel
theorem dX12_namedBy_55 : decode cX12_namedBy 55 = .ok (.invokevirtual 361, 3) := by decide +kernel
theorem dX12_namedBy_58 : decode cX12_namedBy 58 = .ok (.ireturn, 1) := by decide +kernel
theorem dX12_voted_0 : decode cX12_voted 0 = .ok (.aload_n 0, 1) := by decide +kernel
theorem dX12_voted_1 : decode cX12_voted 1 = .ok (.aload_n 0, 1) := by decide +kernel
theorem dX12_voted_2 : decode cX12_voted 2 = .ok (.getfield 35, 3) := by decide +kernel
theorem dX12_voted_5 : decode cX12_voted 5 = .ok (.iconst 4, 1) := by decide +kernel
theorem dX12_voted_6 : decode cX12_voted 6 = .ok (.iaload, 1) := by decide +kernel
theorem dX12_voted_7 : decode cX12_voted 7 = .ok (.aload_n 0, 1) := by decide +kernel
theorem dX12_voted_8 : decode cX12_voted 8 = .ok (.iload_n 1, 1) := by decide +kernel
theorem dX12_voted_9 : decode cX12_voted 9 = .ok (.invokevirtual 322, 3) := by decide +kernel
theorem dX12_voted_12 : decode cX12_voted 12 = .ok (.iload_n 2, 1) := by decide +kernel
theorem dX12_voted_13 : decode cX12_voted 13 = .ok (.iconst (-1), 1) := by decide +kernel
theorem dX12_voted_14 : decode cX12_voted 14 = .ok (.ixor, 1) := by decide +kernel
theorem dX12_voted_15 : decode cX12_voted 15 = .ok (.iand, 1) := by decide +kernel
theorem dX12_voted_16 : decode cX12_voted 16 = .ok (.invokevirtual 364, 3) := by decide +kernel
theorem dX12_voted_19 : decode cX12_voted 19 = .ok (.ireturn, 1) := by decide +kernel
theorem dX12_inVote_0 : decode cX12_inVote 0 = .ok (.aload_n 0, 1) := by decide +kernel
theorem dX12_inVote_1 : decode cX12_inVote 1 = .ok (.invokevirtual 330, 3) := by decide +kernel
theorem dX12_inVote_4 : decode cX12_inVote 4 = .ok (.aload_n 0, 1) := by decide +kernel
theorem dX12_inVote_5 : decode cX12_inVote 5 = .ok (.getfield 35, 3) := by decide +kernel
theorem dX12_inVote_8 : decode cX12_inVote 8 = .ok (.bipush 7, 2) := by decide +kernel
theorem dX12_inVote_10 : decode cX12_inVote 10 = .ok (.iaload, 1) := by decide +kernel
theorem dX12_inVote_11 : decode cX12_inVote 11 = .ok (.iconst (-1), 1) := by decide +kernel
theorem dX12_inVote_12 : decode cX12_inVote 12 = .ok (.ixor, 1) := by decide +kernel
theorem dX12_inVote_13 : decode cX12_inVote 13 = .ok (.iand, 1) := by decide +kernel
theorem dX12_inVote_14 : decode cX12_inVote 14 = .ok (.ireturn, 1) := by decide +kernel
theorem dX12_vote_0 : decode cX12_vote 0 = .ok (.aload_n 0, 1) := by decide +kernel
theorem dX12_vote_1 : decode cX12_vote 1 = .ok (.iconst 0, 1) := by decide +kernel
theorem dX12_vote_2 : decode cX12_vote 2 = .ok (.putfield 74, 3) := by decide +kernel
theorem dX12_vote_5 : decode cX12_vote 5 = .ok (.aload_n 0, 1) := by decide +kernel
theorem dX12_vote_6 : decode cX12_vote 6 = .ok (.iconst 0, 1) := by decide +kernel
theorem dX12_vote_7 : decode cX12_vote 7 = .ok (.putfield 77, 3) := by decide +kernel
theorem dX12_vote_10 : decode cX12_vote 10 = .ok (.aload_n 0, 1) := by decide +kernel
theorem dX12_vote_11 : decode cX12_vote 11 = .ok (.aload_n 0, 1) := by decide +kernel
theorem dX12_vote_12 : decode cX12_vote 12 = .ok (.getfield 35, 3) := by decide +kernel
theorem dX12_vote_15 : decode cX12_vote 15 = .ok (.bipush 6, 2) := by decide +kernel
theorem dX12_vote_17 : decode cX12_vote 17 = .ok (.iaload, 1) := by decide +kernel
theorem dX12_vote_18 : decode cX12_vote 18 = .ok (.aload_n 0, 1) := by decide +kernel
theorem dX12_vote_19 : decode cX12_vote 19 = .ok (.getfield 35, 3) := by decide +kernel
theorem dX12_vote_22 : decode cX12_vote 22 = .ok (.bipush 7, 2) := by decide +kernel
theorem dX12_vote_24 : decode cX12_vote 24 = .ok (.iaload, 1) := by decide +kernel
theorem dX12_vote_25 : decode cX12_vote 25 = .ok (.invokevirtual 367, 3) := by decide +kernel
theorem dX12_vote_28 : decode cX12_vote 28 = .ok (.istore_n 1, 1) := by decide +kernel
theorem dX12_vote_29 : decode cX12_vote 29 = .ok (.iload_n 1, 1) := by decide +kernel
theorem dX12_vote_30 : decode cX12_vote 30 = .ok (.ifCond .ge 12, 3) := by decide +kernel
theorem dX12_vote_33 : decode cX12_vote 33 = .ok (.aload_n 0, 1) := by decide +kernel
theorem dX12_vote_34 : decode cX12_vote 34 = .ok (.bipush 8, 2) := by decide +kernel
theorem dX12_vote_36 : decode cX12_vote 36 = .ok (.invokevirtual 327, 3) := by decide +kernel
theorem dX12_vote_39 : decode cX12_vote 39 = .ok (.goto 4, 3) := by decide +kernel
theorem dX12_vote_42 : decode cX12_vote 42 = .ok (.iload_n 1, 1) := by decide +kernel
theorem dX12_vote_43 : decode cX12_vote 43 = .ok (.ireturn, 1) := by decide +kernel
theorem dX12_votes_0 : decode cX12_votes 0 = .ok (.aload_n 0, 1) := by decide +kernel
theorem dX12_votes_1 : decode cX12_votes 1 = .ok (.iconst 0, 1) := by decide +kernel
theorem dX12_votes_2 : decode cX12_votes 2 = .ok (.putfield 74, 3) := by decide +kernel
theorem dX12_votes_5 : decode cX12_votes 5 = .ok (.aload_n 0, 1) := by decide +kernel
theorem dX12_votes_6 : decode cX12_votes 6 = .ok (.iconst 0, 1) := by decide +kernel
theorem dX12_votes_7 : decode cX12_votes 7 = .ok (.putfield 77, 3) := by decide +kernel
theorem dX12_votes_10 : decode cX12_votes 10 = .ok (.aload_n 0, 1) := by decide +kernel
theorem dX12_votes_11 : decode cX12_votes 11 = .ok (.iload_n 1, 1) := by decide +kernel
theorem dX12_votes_12 : decode cX12_votes 12 = .ok (.invokevirtual 339, 3) := by decide +kernel
theorem dX12_votes_15 : decode cX12_votes 15 = .ok (.ifCond .ne 9, 3) := by decide +kernel
theorem dX12_votes_18 : decode cX12_votes 18 = .ok (.aload_n 0, 1) := by decide +kernel
theorem dX12_votes_19 : decode cX12_votes 19 = .ok (.iconst 2, 1) := by decide +kernel
theorem dX12_votes_20 : decode cX12_votes 20 = .ok (.invokevirtual 327, 3) := by decide +kernel
theorem dX12_votes_23 : decode cX12_votes 23 = .ok (.ireturn, 1) := by decide +kernel
theorem dX12_votes_24 : decode cX12_votes 24 = .ok (.aload_n 0, 1) := by decide +kernel
theorem dX12_votes_25 : decode cX12_votes 25 = .ok (.aload_n 0, 1) := by decide +kernel
theorem dX12_votes_26 : decode cX12_votes 26 = .ok (.getfield 35, 3) := by decide +kernel
theorem dX12_votes_29 : decode cX12_votes 29 = .ok (.iconst 4, 1) := by decide +kernel
theorem dX12_votes_30 : decode cX12_votes 30 = .ok (.iaload, 1) := by decide +kernel
theorem dX12_votes_31 : decode cX12_votes 31 = .ok (.aload_n 0, 1) := by decide +kernel
theorem dX12_votes_32 : decode cX12_votes 32 = .ok (.invokevirtual 370, 3) := by decide +kernel
theorem dX12_votes_35 : decode cX12_votes 35 = .ok (.invokevirtual 364, 3) := by decide +kernel
theorem dX12_votes_38 : decode cX12_votes 38 = .ok (.pop, 1) := by decide +kernel
theorem dX12_votes_39 : decode cX12_votes 39 = .ok (.aload_n 0, 1) := by decide +kernel
theorem dX12_votes_40 : decode cX12_votes 40 = .ok (.getfield 44, 3) := by decide +kernel
theorem dX12_votes_43 : decode cX12_votes 43 = .ok (.iload_n 1, 1) := by decide +kernel
theorem dX12_votes_44 : decode cX12_votes 44 = .ok (.iaload, 1) := by decide +kernel
theorem dX12_votes_45 : decode cX12_votes 45 = .ok (.ireturn, 1) := by decide +kernel
theorem dX12_voteBy_0 : decode cX12_voteBy 0 = .ok (.aload_n 0, 1) := by decide +kernel
theorem dX12_voteBy_1 : decode cX12_voteBy 1 = .ok (.iconst 0, 1) := by decide +kernel
theorem dX12_voteBy_2 : decode cX12_voteBy 2 = .ok (.putfield 74, 3) := by decide +kernel
theorem dX12_voteBy_5 : decode cX12_voteBy 5 = .ok (.aload_n 0, 1) := by decide +kernel
theorem dX12_voteBy_6 : decode cX12_voteBy 6 = .ok (.iconst 0, 1) := by decide +kernel
theorem dX12_voteBy_7 : decode cX12_voteBy 7 = .ok (.putfield 77, 3) := by decide +kernel
theorem dX12_voteBy_10 : decode cX12_voteBy 10 = .ok (.iload_n 1, 1) := by decide +kernel
theorem dX12_voteBy_11 : decode cX12_voteBy 11 = .ok (.i2l, 1) := by decide +kernel
theorem dX12_voteBy_12 : decode cX12_voteBy 12 = .ok (.lconst 0, 1) := by decide +kernel
theorem dX12_voteBy_13 : decode cX12_voteBy 13 = .ok (.ldc2_w 373, 3) := by decide +kernel
theorem dX12_voteBy_16 : decode cX12_voteBy 16 = .ok (.invokestatic 109, 3) := by decide +kernel
theorem dX12_voteBy_19 : decode cX12_voteBy 19 = .ok (.ifCond .ne 9, 3) := by decide +kernel
theorem dX12_voteBy_22 : decode cX12_voteBy 22 = .ok (.aload_n 0, 1) := by decide +kernel
theorem dX12_voteBy_23 : decode cX12_voteBy 23 = .ok (.iconst 5, 1) := by decide +kernel
theorem dX12_voteBy_24 : decode cX12_voteBy 24 = .ok (.invokevirtual 327, 3) := by decide +kernel
theorem dX12_voteBy_27 : decode cX12_voteBy 27 = .ok (.ireturn, 1) := by decide +kernel
theorem dX12_voteBy_28 : decode cX12_voteBy 28 = .ok (.aload_n 0, 1) := by decide +kernel
theorem dX12_voteBy_29 : decode cX12_voteBy 29 = .ok (.iload_n 1, 1) := by decide +kernel
theorem dX12_voteBy_30 : decode cX12_voteBy 30 = .ok (.aload_n 0, 1) := by decide +kernel
theorem dX12_voteBy_31 : decode cX12_voteBy 31 = .ok (.invokevirtual 370, 3) := by decide +kernel
theorem dX12_voteBy_34 : decode cX12_voteBy 34 = .ok (.invokevirtual 364, 3) := by decide +kernel
theorem dX12_voteBy_37 : decode cX12_voteBy 37 = .ok (.istore_n 2, 1) := by decide +kernel
theorem dX12_voteBy_38 : decode cX12_voteBy 38 = .ok (.iload_n 2, 1) := by decide +kernel
theorem dX12_voteBy_39 : decode cX12_voteBy 39 = .ok (.ifCond .ge 12, 3) := by decide +kernel
theorem dX12_voteBy_42 : decode cX12_voteBy 42 = .ok (.aload_n 0, 1) := by decide +kernel
theorem dX12_voteBy_43 : decode cX12_voteBy 43 = .ok (.bipush 8, 2) := by decide +kernel
theorem dX12_voteBy_45 : decode cX12_voteBy 45 = .ok (.invokevirtual 327, 3) := by decide +kernel
theorem dX12_voteBy_48 : decode cX12_voteBy 48 = .ok (.goto 4, 3) := by decide +kernel
theorem dX12_voteBy_51 : decode cX12_voteBy 51 = .ok (.iload_n 2, 1) := by decide +kernel
theorem dX12_voteBy_52 : decode cX12_voteBy 52 = .ok (.ireturn, 1) := by decide +kernel
theorem dX12_sway_0 : decode cX12_sway 0 = .ok (.aload_n 0, 1) := by decide +kernel
theorem dX12_sway_1 : decode cX12_sway 1 = .ok (.iconst 0, 1) := by decide +kernel
theorem dX12_sway_2 : decode cX12_sway 2 = .ok (.putfield 74, 3) := by decide +kernel
theorem dX12_sway_5 : decode cX12_sway 5 = .ok (.aload_n 0, 1) := by decide +kernel
theorem dX12_sway_6 : decode cX12_sway 6 = .ok (.iconst 0, 1) := by decide +kernel
theorem dX12_sway_7 : decode cX12_sway 7 = .ok (.putfield 77, 3) := by decide +kernel
theorem dX12_sway_10 : decode cX12_sway 10 = .ok (.aload_n 0, 1) := by decide +kernel
theorem dX12_sway_11 : decode cX12_sway 11 = .ok (.iload_n 1, 1) := by decide +kernel
theorem dX12_sway_12 : decode cX12_sway 12 = .ok (.invokevirtual 345, 3) := by decide +kernel
theorem dX12_sway_15 : decode cX12_sway 15 = .ok (.ifCond .ne 9, 3) := by decide +kernel
theorem dX12_sway_18 : decode cX12_sway 18 = .ok (.aload_n 0, 1) := by decide +kernel
theorem dX12_sway_19 : decode cX12_sway 19 = .ok (.iconst 2, 1) := by decide +kernel
theorem dX12_sway_20 : decode cX12_sway 20 = .ok (.invokevirtual 327, 3) := by decide +kernel
theorem dX12_sway_23 : decode cX12_sway 23 = .ok (.ireturn, 1) := by decide +kernel
theorem dX12_sway_24 : decode cX12_sway 24 = .ok (.aload_n 0, 1) := by decide +kernel
theorem dX12_sway_25 : decode cX12_sway 25 = .ok (.getfield 35, 3) := by decide +kernel
theorem dX12_sway_28 : decode cX12_sway 28 = .ok (.iconst 4, 1) := by decide +kernel
theorem dX12_sway_29 : decode cX12_sway 29 = .ok (.iaload, 1) := by decide +kernel
theorem dX12_sway_30 : decode cX12_sway 30 = .ok (.iconst 2, 1) := by decide +kernel
theorem dX12_sway_31 : decode cX12_sway 31 = .ok (.if_icmp .ne 10, 3) := by decide +kernel
theorem dX12_sway_34 : decode cX12_sway 34 = .ok (.aload_n 0, 1) := by decide +kernel
theorem dX12_sway_35 : decode cX12_sway 35 = .ok (.bipush 9, 2) := by decide +kernel
theorem dX12_sway_37 : decode cX12_sway 37 = .ok (.invokevirtual 327, 3) := by decide +kernel
theorem dX12_sway_40 : decode cX12_sway 40 = .ok (.ireturn, 1) := by decide +kernel
theorem dX12_sway_41 : decode cX12_sway 41 = .ok (.aload_n 0, 1) := by decide +kernel
theorem dX12_sway_42 : decode cX12_sway 42 = .ok (.invokevirtual 370, 3) := by decide +kernel
theorem dX12_sway_45 : decode cX12_sway 45 = .ok (.istore_n 2, 1) := by decide +kernel
theorem dX12_sway_46 : decode cX12_sway 46 = .ok (.iconst 0, 1) := by decide +kernel
theorem dX12_sway_47 : decode cX12_sway 47 = .ok (.istore_n 3, 1) := by decide +kernel
theorem dX12_sway_48 : decode cX12_sway 48 = .ok (.iload_n 3, 1) := by decide +kernel
theorem dX12_sway_49 : decode cX12_sway 49 = .ok (.bipush 12, 2) := by decide +kernel
theorem dX12_sway_51 : decode cX12_sway 51 = .ok (.if_icmp .ge 29, 3) := by decide +kernel
theorem dX12_sway_54 : decode cX12_sway 54 = .ok (.aload_n 0, 1) := by decide +kernel
theorem dX12_sway_55 : decode cX12_sway 55 = .ok (.getfield 50, 3) := by decide +kernel
theorem dX12_sway_58 : decode cX12_sway 58 = .ok (.iload_n 3, 1) := by decide +kernel
theorem dX12_sway_59 : decode cX12_sway 59 = .ok (.aload_n 0, 1) := by decide +kernel
theorem dX12_sway_60 : decode cX12_sway 60 = .ok (.getfield 35, 3) := by decide +kernel
theorem dX12_sway_63 : decode cX12_sway 63 = .ok (.bipush 58, 2) := by decide +kernel
theorem dX12_sway_65 : decode cX12_sway 65 = .ok (.bipush 12, 2) := by decide +kernel
theorem dX12_sway_67 : decode cX12_sway 67 = .ok (.iload_n 1, 1) := by decide +kernel
theorem dX12_sway_68 : decode cX12_sway 68 = .ok (.imul, 1) := by decide +kernel
theorem dX12_sway_69 : decode cX12_sway 69 = .ok (.iadd, 1) := by decide +kernel
theorem dX12_sway_70 : decode cX12_sway 70 = .ok (.iload_n 3, 1) := by decide +kernel
theorem dX12_sway_71 : decode cX12_sway 71 = .ok (.iadd, 1) := by decide +kernel
theorem dX12_sway_72 : decode cX12_sway 72 = .ok (.iaload, 1) := by decide +kernel
theorem dX12_sway_73 : decode cX12_sway 73 = .ok (.iastore, 1) := by decide +kernel
theorem dX12_sway_74 : decode cX12_sway 74 = .ok (.iinc 3 1, 3) := by decide +kernel
theorem dX12_sway_77 : decode cX12_sway 77 = .ok (.goto (-29), 3) := by decide +kernel
theorem dX12_sway_80 : decode cX12_sway 80 = .ok (.iconst 0, 1) := by decide +kernel
theorem dX12_sway_81 : decode cX12_sway 81 = .ok (.istore_n 3, 1) := by decide +kernel
theorem dX12_sway_82 : decode cX12_sway 82 = .ok (.iconst 0, 1) := by decide +kernel
theorem dX12_sway_83 : decode cX12_sway 83 = .ok (.istore 4, 2) := by decide +kernel
theorem dX12_sway_85 : decode cX12_sway 85 = .ok (.iload 4, 2) := by decide +kernel
theorem dX12_sway_87 : decode cX12_sway 87 = .ok (.aload_n 0, 1) := by decide +kernel
theorem dX12_sway_88 : decode cX12_sway 88 = .ok (.getfield 35, 3) := by decide +kernel
theorem dX12_sway_91 : decode cX12_sway 91 = .ok (.iconst 0, 1) := by decide +kernel
theorem dX12_sway_92 : decode cX12_sway 92 = .ok (.iaload, 1) := by decide +kernel
theorem dX12_sway_93 : decode cX12_sway 93 = .ok (.if_icmp .ge 80, 3) := by decide +kernel
theorem dX12_sway_96 : decode cX12_sway 96 = .ok (.iconst 0, 1) := by decide +kernel
theorem dX12_sway_97 : decode cX12_sway 97 = .ok (.istore 5, 2) := by decide +kernel
theorem dX12_sway_99 : decode cX12_sway 99 = .ok (.iload 5, 2) := by decide +kernel
theorem dX12_sway_101 : decode cX12_sway 101 = .ok (.bipush 12, 2) := by decide +kernel
theorem dX12_sway_103 : decode cX12_sway 103 = .ok (.if_icmp .ge 37, 3) := by decide +kernel
theorem dX12_sway_106 : decode cX12_sway 106 = .ok (.aload_n 0, 1) := by decide +kernel
theorem dX12_sway_107 : decode cX12_sway 107 = .ok (.getfield 35, 3) := by decide +kernel
theorem dX12_sway_110 : decode cX12_sway 110 = .ok (.bipush 58, 2) := by decide +kernel
theorem dX12_sway_112 : decode cX12_sway 112 = .ok (.bipush 12, 2) := by decide +kernel
theorem dX12_sway_114 : decode cX12_sway 114 = .ok (.iload_n 1, 1) := by decide +kernel
theorem dX12_sway_115 : decode cX12_sway 115 = .ok (.imul, 1) := by decide +kernel
theorem dX12_sway_116 : decode cX12_sway 116 = .ok (.iadd, 1) := by decide +kernel
theorem dX12_sway_117 : decode cX12_sway 117 = .ok (.iload 5, 2) := by decide +kernel
theorem dX12_sway_119 : decode cX12_sway 119 = .ok (.iadd, 1) := by decide +kernel
theorem dX12_sway_120 : decode cX12_sway 120 = .ok (.iload 5, 2) := by decide +kernel
theorem dX12_sway_122 : decode cX12_sway 122 = .ok (.iload 4, 2) := by decide +kernel
theorem dX12_sway_124 : decode cX12_sway 124 = .ok (.if_icmp .ne 8, 3) := by decide +kernel
theorem dX12_sway_127 : decode cX12_sway 127 = .ok (.bipush 9, 2) := by decide +kernel
theorem dX12_sway_129 : decode cX12_sway 129 = .ok (.goto 4, 3) := by decide +kernel
theorem dX12_sway_132 : decode cX12_sway 132 = .ok (.iconst 0, 1) := by decide +kernel
theorem dX12_sway_133 : decode cX12_sway 133 = .ok (.iastore, 1) := by decide +kernel
theorem dX12_sway_134 : decode cX12_sway 134 = .ok (.iinc 5 1, 3) := by decide +kernel
theorem dX12_sway_137 : decode cX12_sway 137 = .ok (.goto (-38), 3) := by decide +kernel
theorem dX12_sway_140 : decode cX12_sway 140 = .ok (.iload_n 3, 1) := by decide +kernel
theorem dX12_sway_141 : decode cX12_sway 141 = .ok (.aload_n 0, 1) := by decide +kernel
theorem dX12_sway_142 : decode cX12_sway 142 = .ok (.aload_n 0, 1) := by decide +kernel
theorem dX12_sway_143 : decode cX12_sway 143 = .ok (.getfield 35, 3) := by decide +kernel
theorem dX12_sway_146 : decode cX12_sway 146 = .ok (.iconst 4, 1) := by decide +kernel
theorem dX12_sway_147 : decode cX12_sway 147 = .ok (.iaload, 1) := by decide +kernel
theorem dX12_sway_148 : decode cX12_sway 148 = .ok (.iload_n 2, 1) := by decide +kernel
theorem dX12_sway_149 : decode cX12_sway 149 = .ok (.invokevirtual 364, 3) := by decide +kernel
theorem dX12_sway_152 : decode cX12_sway 152 = .ok (.iload 4, 2) := by decide +kernel
theorem dX12_sway_154 : decode cX12_sway 154 = .ok (.if_icmp .ne 10, 3) := by decide +kernel
theorem dX12_sway_157 : decode cX12_sway 157 = .ok (.iconst 1, 1) := by decide +kernel
theorem dX12_sway_158 : decode cX12_sway 158 = .ok (.iload 4, 2) := by decide +kernel
theorem dX12_sway_160 : decode cX12_sway 160 = .ok (.ishl, 1) := by decide +kernel
theorem dX12_sway_161 : decode cX12_sway 161 = .ok (.goto 4, 3) := by decide +kernel
theorem dX12_sway_164 : decode cX12_sway 164 = .ok (.iconst 0, 1) := by decide +kernel
theorem dX12_sway_165 : decode cX12_sway 165 = .ok (.ior, 1) := by decide +kernel
theorem dX12_sway_166 : decode cX12_sway 166 = .ok (.istore_n 3, 1) := by decide +kernel
theorem dX12_sway_167 : decode cX12_sway 167 = .ok (.iinc 4 1, 3) := by decide +kernel
theorem dX12_sway_170 : decode cX12_sway 170 = .ok (.goto (-85), 3) := by decide +kernel
theorem dX12_sway_173 : decode cX12_sway 173 = .ok (.iconst 0, 1) := by decide +kernel
theorem dX12_sway_174 : decode cX12_sway 174 = .ok (.istore 4, 2) := by decide +kernel
theorem dX12_sway_176 : decode cX12_sway 176 = .ok (.iload 4, 2) := by decide +kernel
theorem dX12_sway_178 : decode cX12_sway 178 = .ok (.bipush 12, 2) := by decide +kernel
theorem dX12_sway_180 : decode cX12_sway 180 = .ok (.if_icmp .ge 31, 3) := by decide +kernel
theorem dX12_sway_183 : decode cX12_sway 183 = .ok (.aload_n 0, 1) := by decide +kernel
theorem dX12_sway_184 : decode cX12_sway 184 = .ok (.getfield 35, 3) := by decide +kernel
theorem dX12_sway_187 : decode cX12_sway 187 = .ok (.bipush 58, 2) := by decide +kernel
theorem dX12_sway_189 : decode cX12_sway 189 = .ok (.bipush 12, 2) := by decide +kernel
theorem dX12_sway_191 : decode cX12_sway 191 = .ok (.iload_n 1, 1) := by decide +kernel
theorem dX12_sway_192 : decode cX12_sway 192 = .ok (.imul, 1) := by decide +kernel
theorem dX12_sway_193 : decode cX12_sway 193 = .ok (.iadd, 1) := by decide +kernel
theorem dX12_sway_194 : decode cX12_sway 194 = .ok (.iload 4, 2) := by decide +kernel
theorem dX12_sway_196 : decode cX12_sway 196 = .ok (.iadd, 1) := by decide +kernel
theorem dX12_sway_197 : decode cX12_sway 197 = .ok (.aload_n 0, 1) := by decide +kernel
theorem dX12_sway_198 : decode cX12_sway 198 = .ok (.getfield 50, 3) := by decide +kernel
theorem dX12_sway_201 : decode cX12_sway 201 = .ok (.iload 4, 2) := by decide +kernel
theorem dX12_sway_203 : decode cX12_sway 203 = .ok (.iaload, 1) := by decide +kernel
theorem dX12_sway_204 : decode cX12_sway 204 = .ok (.iastore, 1) := by decide +kernel
theorem dX12_sway_205 : decode cX12_sway 205 = .ok (.iinc 4 1, 3) := by decide +kernel
theorem dX12_sway_208 : decode cX12_sway 208 = .ok (.goto (-32), 3) := by decide +kernel
theorem dX12_sway_211 : decode cX12_sway 211 = .ok (.iload_n 3, 1) := by decide +kernel
theorem dX12_sway_212 : decode cX12_sway 212 = .ok (.ireturn, 1) := by decide +kernel
theorem dX12_goesYear_0 : decode cX12_goesYear 0 = .ok (.aload_n 0, 1) := by decide +kernel
theorem dX12_goesYear_1 : decode cX12_goesYear 1 = .ok (.aload_n 0, 1) := by decide +kernel
theorem dX12_goesYear_2 : decode cX12_goesYear 2 = .ok (.getfield 35, 3) := by decide +kernel
theorem dX12_goesYear_5 : decode cX12_goesYear 5 = .ok (.bipush 6, 2) := by decide +kernel
theorem dX12_goesYear_7 : decode cX12_goesYear 7 = .ok (.iaload, 1) := by decide +kernel
theorem dX12_goesYear_8 : decode cX12_goesYear 8 = .ok (.aload_n 0, 1) := by decide +kernel
theorem dX12_goesYear_9 : decode cX12_goesYear 9 = .ok (.getfield 35, 3) := by decide +kernel
theorem dX12_goesYear_12 : decode cX12_goesYear 12 = .ok (.bipush 7, 2) := by decide +kernel
theorem dX12_goesYear_14 : decode cX12_goesYear 14 = .ok (.iaload, 1) := by decide +kernel
theorem dX12_goesYear_15 : decode cX12_goesYear 15 = .ok (.invokevirtual 367, 3) := by decide +kernel
theorem dX12_goesYear_18 : decode cX12_goesYear 18 = .ok (.istore_n 1, 1) := by decide +kernel
theorem dX12_goesYear_19 : decode cX12_goesYear 19 = .ok (.aload_n 0, 1) := by decide +kernel
theorem dX12_goesYear_20 : decode cX12_goesYear 20 = .ok (.getfield 35, 3) := by decide +kernel
theorem dX12_goesYear_23 : decode cX12_goesYear 23 = .ok (.iconst 5, 1) := by decide +kernel
theorem dX12_goesYear_24 : decode cX12_goesYear 24 = .ok (.dup2, 1) := by decide +kernel
theorem dX12_goesYear_25 : decode cX12_goesYear 25 = .ok (.iaload, 1) := by decide +kernel
theorem dX12_goesYear_26 : decode cX12_goesYear 26 = .ok (.iconst 1, 1) := by decide +kernel
theorem dX12_goesYear_27 : decode cX12_goesYear 27 = .ok (.iadd, 1) := by decide +kernel
theorem dX12_goesYear_28 : decode cX12_goesYear 28 = .ok (.iastore, 1) := by decide +kernel
theorem dX12_goesYear_29 : decode cX12_goesYear 29 = .ok (.iload_n 1, 1) := by decide +kernel
theorem dX12_goesYear_30 : decode cX12_goesYear 30 = .ok (.ifCond .lt 16, 3) := by decide +kernel
theorem dX12_goesYear_33 : decode cX12_goesYear 33 = .ok (.aload_n 0, 1) := by decide +kernel
theorem dX12_goesYear_34 : decode cX12_goesYear 34 = .ok (.getfield 35, 3) := by decide +kernel
theorem dX12_goesYear_37 : decode cX12_goesYear 37 = .ok (.bipush 6, 2) := by decide +kernel
theorem dX12_goesYear_39 : decode cX12_goesYear 39 = .ok (.dup2, 1) := by decide +kernel
theorem dX12_goesYear_40 : decode cX12_goesYear 40 = .ok (.iaload, 1) := by decide +kernel
theorem dX12_goesYear_41 : decode cX12_goesYear 41 = .ok (.iconst 1, 1) := by decide +kernel
theorem dX12_goesYear_42 : decode cX12_goesYear 42 = .ok (.iload_n 1, 1) := by decide +kernel
theorem dX12_goesYear_43 : decode cX12_goesYear 43 = .ok (.ishl, 1) := by decide +kernel
theorem dX12_goesYear_44 : decode cX12_goesYear 44 = .ok (.ior, 1) := by decide +kernel
theorem dX12_goesYear_45 : decode cX12_goesYear 45 = .ok (.iastore, 1) := by decide +kernel
theorem dX12_goesYear_46 : decode cX12_goesYear 46 = .ok (.iload_n 1, 1) := by decide +kernel
theorem dX12_goesYear_47 : decode cX12_goesYear 47 = .ok (.ifCond .lt 7, 3) := by decide +kernel
theorem dX12_goesYear_50 : decode cX12_goesYear 50 = .ok (.iconst 1, 1) := by decide +kernel
theorem dX12_goesYear_51 : decode cX12_goesYear 51 = .ok (.goto 4, 3) := by decide +kernel
theorem dX12_goesYear_54 : decode cX12_goesYear 54 = .ok (.iconst 0, 1) := by decide +kernel
theorem dX12_goesYear_55 : decode cX12_goesYear 55 = .ok (.ireturn, 1) := by decide +kernel
theorem dX12_year_0 : decode cX12_year 0 = .ok (.aload_n 0, 1) := by decide +kernel
theorem dX12_year_1 : decode cX12_year 1 = .ok (.iconst 0, 1) := by decide +kernel
theorem dX12_year_2 : decode cX12_year 2 = .ok (.putfield 74, 3) := by decide +kernel
theorem dX12_year_5 : decode cX12_year 5 = .ok (.aload_n 0, 1) := by decide +kernel
theorem dX12_year_6 : decode cX12_year 6 = .ok (.iconst 0, 1) := by decide +kernel
theorem dX12_year_7 : decode cX12_year 7 = .ok (.putfield 77, 3) := by decide +kernel
theorem dX12_year_10 : decode cX12_year 10 = .ok (.iload_n 1, 1) := by decide +kernel
theorem dX12_year_11 : decode cX12_year 11 = .ok (.i2l, 1) := by decide +kernel
theorem dX12_year_12 : decode cX12_year 12 = .ok (.lconst 1, 1) := by decide +kernel
theorem dX12_year_13 : decode cX12_year 13 = .ok (.ldc2_w 375, 3) := by decide +kernel
theorem dX12_year_16 : decode cX12_year 16 = .ok (.invokestatic 109, 3) := by decide +kernel
theorem dX12_year_19 : decode cX12_year 19 = .ok (.ifCond .ne 9, 3) := by decide +kernel
theorem dX12_year_22 : decode cX12_year 22 = .ok (.aload_n 0, 1) := by decide +kernel
theorem dX12_year_23 : decode cX12_year 23 = .ok (.iconst 5, 1) := by decide +kernel
theorem dX12_year_24 : decode cX12_year 24 = .ok (.invokevirtual 327, 3) := by decide +kernel
theorem dX12_year_27 : decode cX12_year 27 = .ok (.ireturn, 1) := by decide +kernel
theorem dX12_year_28 : decode cX12_year 28 = .ok (.aload_n 0, 1) := by decide +kernel
theorem dX12_year_29 : decode cX12_year 29 = .ok (.getfield 35, 3) := by decide +kernel
theorem dX12_year_32 : decode cX12_year 32 = .ok (.iconst 5, 1) := by decide +kernel
theorem dX12_year_33 : decode cX12_year 33 = .ok (.iaload, 1) := by decide +kernel
theorem dX12_year_34 : decode cX12_year 34 = .ok (.iload_n 1, 1) := by decide +kernel
theorem dX12_year_35 : decode cX12_year 35 = .ok (.iadd, 1) := by decide +kernel
theorem dX12_year_36 : decode cX12_year 36 = .ok (.sipush 9999, 3) := by decide +kernel
theorem dX12_year_39 : decode cX12_year 39 = .ok (.if_icmp .le 10, 3) := by decide +kernel
theorem dX12_year_42 : decode cX12_year 42 = .ok (.aload_n 0, 1) := by decide +kernel
theorem dX12_year_43 : decode cX12_year 43 = .ok (.bipush 7, 2) := by decide +kernel
theorem dX12_year_45 : decode cX12_year 45 = .ok (.invokevirtual 327, 3) := by decide +kernel
theorem dX12_year_48 : decode cX12_year 48 = .ok (.ireturn, 1) := by decide +kernel
theorem dX12_year_49 : decode cX12_year 49 = .ok (.aload_n 0, 1) := by decide +kernel
theorem dX12_year_50 : decode cX12_year 50 = .ok (.getfield 35, 3) := by decide +kernel
theorem dX12_year_53 : decode cX12_year 53 = .ok (.bipush 6, 2) := by decide +kernel
theorem dX12_year_55 : decode cX12_year 55 = .ok (.iaload, 1) := by decide +kernel
theorem dX12_year_56 : decode cX12_year 56 = .ok (.istore_n 2, 1) := by decide +kernel
theorem dX12_year_57 : decode cX12_year 57 = .ok (.iconst 0, 1) := by decide +kernel
theorem dX12_year_58 : decode cX12_year 58 = .ok (.istore_n 3, 1) := by decide +kernel
theorem dX12_year_59 : decode cX12_year 59 = .ok (.iload_n 3, 1) := by decide +kernel
theorem dX12_year_60 : decode cX12_year 60 = .ok (.iload_n 1, 1) := by decide +kernel
theorem dX12_year_61 : decode cX12_year 61 = .ok (.if_icmp .ge 14, 3) := by decide +kernel
theorem dX12_year_64 : decode cX12_year 64 = .ok (.aload_n 0, 1) := by decide +kernel
theorem dX12_year_65 : decode cX12_year 65 = .ok (.invokevirtual 377, 3) := by decide +kernel
theorem dX12_year_68 : decode cX12_year 68 = .ok (.pop, 1) := by decide +kernel
theorem dX12_year_69 : decode cX12_year 69 = .ok (.iinc 3 1, 3) := by decide +kernel
theorem dX12_year_72 : decode cX12_year 72 = .ok (.goto (-13), 3) := by decide +kernel
theorem dX12_year_75 : decode cX12_year 75 = .ok (.aload_n 0, 1) := by decide +kernel
theorem dX12_year_76 : decode cX12_year 76 = .ok (.getfield 35, 3) := by decide +kernel
theorem dX12_year_79 : decode cX12_year 79 = .ok (.bipush 6, 2) := by decide +kernel
theorem dX12_year_81 : decode cX12_year 81 = .ok (.iaload, 1) := by decide +kernel
theorem dX12_year_82 : decode cX12_year 82 = .ok (.iload_n 2, 1) := by decide +kernel
theorem dX12_year_83 : decode cX12_year 83 = .ok (.iconst (-1), 1) := by decide +kernel
theorem dX12_year_84 : decode cX12_year 84 = .ok (.ixor, 1) := by decide +kernel
theorem dX12_year_85 : decode cX12_year 85 = .ok (.iand, 1) := by decide +kernel
theorem dX12_year_86 : decode cX12_year 86 = .ok (.ireturn, 1) := by decide +kernel
theorem dX12_canUnmake_0 : decode cX12_canUnmake 0 = .ok (.aload_n 0, 1) := by decide +kernel
theorem dX12_canUnmake_1 : decode cX12_canUnmake 1 = .ok (.getfield 35, 3) := by decide +kernel
theorem dX12_canUnmake_4 : decode cX12_canUnmake 4 = .ok (.bipush 6, 2) := by decide +kernel
theorem dX12_canUnmake_6 : decode cX12_canUnmake 6 = .ok (.iaload, 1) := by decide +kernel
theorem dX12_canUnmake_7 : decode cX12_canUnmake 7 = .ok (.aload_n 0, 1) := by decide +kernel
theorem dX12_canUnmake_8 : decode cX12_canUnmake 8 = .ok (.getfield 35, 3) := by decide +kernel
theorem dX12_canUnmake_11 : decode cX12_canUnmake 11 = .ok (.bipush 7, 2) := by decide +kernel
theorem dX12_canUnmake_13 : decode cX12_canUnmake 13 = .ok (.iaload, 1) := by decide +kernel
theorem dX12_canUnmake_14 : decode cX12_canUnmake 14 = .ok (.ior, 1) := by decide +kernel
theorem dX12_canUnmake_15 : decode cX12_canUnmake 15 = .ok (.iload_n 1, 1) := by decide +kernel
theorem dX12_canUnmake_16 : decode cX12_canUnmake 16 = .ok (.invokestatic 113, 3) := by decide +kernel
theorem dX12_canUnmake_19 : decode cX12_canUnmake 19 = .ok (.ifCond .ne 7, 3) := by decide +kernel
theorem dX12_canUnmake_22 : decode cX12_canUnmake 22 = .ok (.iconst 1, 1) := by decide +kernel
theorem dX12_canUnmake_23 : decode cX12_canUnmake 23 = .ok (.goto 4, 3) := by decide +kernel
theorem dX12_canUnmake_26 : decode cX12_canUnmake 26 = .ok (.iconst 0, 1) := by decide +kernel
theorem dX12_canUnmake_27 : decode cX12_canUnmake 27 = .ok (.ireturn, 1) := by decide +kernel
theorem dX12_unmake_0 : decode cX12_unmake 0 = .ok (.aload_n 0, 1) := by decide +kernel
theorem dX12_unmake_1 : decode cX12_unmake 1 = .ok (.iconst 0, 1) := by decide +kernel
theorem dX12_unmake_2 : decode cX12_unmake 2 = .ok (.putfield 74, 3) := by decide +kernel
theorem dX12_unmake_5 : decode cX12_unmake 5 = .ok (.aload_n 0, 1) := by decide +kernel
theorem dX12_unmake_6 : decode cX12_unmake 6 = .ok (.iconst 0, 1) := by decide +kernel
theorem dX12_unmake_7 : decode cX12_unmake 7 = .ok (.putfield 77, 3) := by decide +kernel
theorem dX12_unmake_10 : decode cX12_unmake 10 = .ok (.aload_n 0, 1) := by decide +kernel
theorem dX12_unmake_11 : decode cX12_unmake 11 = .ok (.iload_n 1, 1) := by decide +kernel
theorem dX12_unmake_12 : decode cX12_unmake 12 = .ok (.invokevirtual 339, 3) := by decide +kernel
theorem dX12_unmake_15 : decode cX12_unmake 15 = .ok (.ifCond .ne 9, 3) := by decide +kernel
theorem dX12_unmake_18 : decode cX12_unmake 18 = .ok (.aload_n 0, 1) := by decide +kernel
theorem dX12_unmake_19 : decode cX12_unmake 19 = .ok (.iconst 2, 1) := by decide +kernel
theorem dX12_unmake_20 : decode cX12_unmake 20 = .ok (.invokevirtual 327, 3) := by decide +kernel
theorem dX12_unmake_23 : decode cX12_unmake 23 = .ok (.ireturn, 1) := by decide +kernel
theorem dX12_unmake_24 : decode cX12_unmake 24 = .ok (.aload_n 0, 1) := by decide +kernel
theorem dX12_unmake_25 : decode cX12_unmake 25 = .ok (.iload_n 1, 1) := by decide +kernel
theorem dX12_unmake_26 : decode cX12_unmake 26 = .ok (.invokevirtual 380, 3) := by decide +kernel
theorem dX12_unmake_29 : decode cX12_unmake 29 = .ok (.ifCond .ne 10, 3) := by decide +kernel
theorem dX12_unmake_32 : decode cX12_unmake 32 = .ok (.aload_n 0, 1) := by decide +kernel
theorem dX12_unmake_33 : decode cX12_unmake 33 = .ok (.bipush 9, 2) := by decide +kernel
theorem dX12_unmake_35 : decode cX12_unmake 35 = .ok (.invokevirtual 327, 3) := by decide +kernel
theorem dX12_unmake_38 : decode cX12_unmake 38 = .ok (.ireturn, 1) := by decide +kernel
theorem dX12_unmake_39 : decode cX12_unmake 39 = .ok (.aload_n 0, 1) := by decide +kernel
theorem dX12_unmake_40 : decode cX12_unmake 40 = .ok (.invokevirtual 330, 3) := by decide +kernel
theorem dX12_unmake_43 : decode cX12_unmake 43 = .ok (.istore_n 2, 1) := by decide +kernel
theorem dX12_unmake_44 : decode cX12_unmake 44 = .ok (.aload_n 0, 1) := by decide +kernel
theorem dX12_unmake_45 : decode cX12_unmake 45 = .ok (.getfield 35, 3) := by decide +kernel
theorem dX12_unmake_48 : decode cX12_unmake 48 = .ok (.bipush 6, 2) := by decide +kernel
theorem dX12_unmake_50 : decode cX12_unmake 50 = .ok (.dup2, 1) := by decide +kernel
theorem dX12_unmake_51 : decode cX12_unmake 51 = .ok (.iaload, 1) := by decide +kernel
theorem dX12_unmake_52 : decode cX12_unmake 52 = .ok (.iconst 1, 1) := by decide +kernel
theorem dX12_unmake_53 : decode cX12_unmake 53 = .ok (.iload_n 1, 1) := by decide +kernel
theorem dX12_unmake_54 : decode cX12_unmake 54 = .ok (.ishl, 1) := by decide +kernel
theorem dX12_unmake_55 : decode cX12_unmake 55 = .ok (.ior, 1) := by decide +kernel
theorem dX12_unmake_56 : decode cX12_unmake 56 = .ok (.iastore, 1) := by decide +kernel
theorem dX12_unmake_57 : decode cX12_unmake 57 = .ok (.iload_n 2, 1) := by decide +kernel
theorem dX12_unmake_58 : decode cX12_unmake 58 = .ok (.aload_n 0, 1) := by decide +kernel
theorem dX12_unmake_59 : decode cX12_unmake 59 = .ok (.invokevirtual 330, 3) := by decide +kernel
theorem dX12_unmake_62 : decode cX12_unmake 62 = .ok (.iconst (-1), 1) := by decide +kernel
theorem dX12_unmake_63 : decode cX12_unmake 63 = .ok (.ixor, 1) := by decide +kernel
theorem dX12_unmake_64 : decode cX12_unmake 64 = .ok (.iand, 1) := by decide +kernel
theorem dX12_unmake_65 : decode cX12_unmake 65 = .ok (.ireturn, 1) := by decide +kernel
theorem dX12_remake_0 : decode cX12_remake 0 = .ok (.aload_n 0, 1) := by decide +kernel
theorem dX12_remake_1 : decode cX12_remake 1 = .ok (.iconst 0, 1) := by decide +kernel
theorem dX12_remake_2 : decode cX12_remake 2 = .ok (.putfield 74, 3) := by decide +kernel
theorem dX12_remake_5 : decode cX12_remake 5 = .ok (.aload_n 0, 1) := by decide +kernel
theorem dX12_remake_6 : decode cX12_remake 6 = .ok (.iconst 0, 1) := by decide +kernel
theorem dX12_remake_7 : decode cX12_remake 7 = .ok (.putfield 77, 3) := by decide +kernel
theorem dX12_remake_10 : decode cX12_remake 10 = .ok (.aload_n 0, 1) := by decide +kernel
theorem dX12_remake_11 : decode cX12_remake 11 = .ok (.iload_n 1, 1) := by decide +kernel
theorem dX12_remake_12 : decode cX12_remake 12 = .ok (.invokevirtual 339, 3) := by decide +kernel
theorem dX12_remake_15 : decode cX12_remake 15 = .ok (.ifCond .ne 9, 3) := by decide +kernel
theorem dX12_remake_18 : decode cX12_remake 18 = .ok (.aload_n 0, 1) := by decide +kernel
theorem dX12_remake_19 : decode cX12_remake 19 = .ok (.iconst 2, 1) := by decide +kernel
theorem dX12_remake_20 : decode cX12_remake 20 = .ok (.invokevirtual 327, 3) := by decide +kernel
theorem dX12_remake_23 : decode cX12_remake 23 = .ok (.ireturn, 1) := by decide +kernel
theorem dX12_remake_24 : decode cX12_remake 24 = .ok (.aload_n 0, 1) := by decide +kernel
theorem dX12_remake_25 : decode cX12_remake 25 = .ok (.getfield 35, 3) := by decide +kernel
theorem dX12_remake_28 : decode cX12_remake 28 = .ok (.bipush 6, 2) := by decide +kernel
theorem dX12_remake_30 : decode cX12_remake 30 = .ok (.iaload, 1) := by decide +kernel
theorem dX12_remake_31 : decode cX12_remake 31 = .ok (.iload_n 1, 1) := by decide +kernel
theorem dX12_remake_32 : decode cX12_remake 32 = .ok (.invokestatic 113, 3) := by decide +kernel
theorem dX12_remake_35 : decode cX12_remake 35 = .ok (.ifCond .ne 10, 3) := by decide +kernel
theorem dX12_remake_38 : decode cX12_remake 38 = .ok (.aload_n 0, 1) := by decide +kernel
theorem dX12_remake_39 : decode cX12_remake 39 = .ok (.bipush 9, 2) := by decide +kernel
theorem dX12_remake_41 : decode cX12_remake 41 = .ok (.invokevirtual 327, 3) := by decide +kernel
theorem dX12_remake_44 : decode cX12_remake 44 = .ok (.ireturn, 1) := by decide +kernel
theorem dX12_remake_45 : decode cX12_remake 45 = .ok (.aload_n 0, 1) := by decide +kernel
theorem dX12_remake_46 : decode cX12_remake 46 = .ok (.invokevirtual 330, 3) := by decide +kernel
theorem dX12_remake_49 : decode cX12_remake 49 = .ok (.istore_n 2, 1) := by decide +kernel
theorem dX12_remake_50 : decode cX12_remake 50 = .ok (.aload_n 0, 1) := by decide +kernel
theorem dX12_remake_51 : decode cX12_remake 51 = .ok (.getfield 35, 3) := by decide +kernel
theorem dX12_remake_54 : decode cX12_remake 54 = .ok (.bipush 6, 2) := by decide +kernel
theorem dX12_remake_56 : decode cX12_remake 56 = .ok (.dup2, 1) := by decide +kernel
theorem dX12_remake_57 : decode cX12_remake 57 = .ok (.iaload, 1) := by decide +kernel
theorem dX12_remake_58 : decode cX12_remake 58 = .ok (.iconst 1, 1) := by decide +kernel
theorem dX12_remake_59 : decode cX12_remake 59 = .ok (.iload_n 1, 1) := by decide +kernel
theorem dX12_remake_60 : decode cX12_remake 60 = .ok (.ishl, 1) := by decide +kernel
theorem dX12_remake_61 : decode cX12_remake 61 = .ok (.iconst (-1), 1) := by decide +kernel
theorem dX12_remake_62 : decode cX12_remake 62 = .ok (.ixor, 1) := by decide +kernel
theorem dX12_remake_63 : decode cX12_remake 63 = .ok (.iand, 1) := by decide +kernel
theorem dX12_remake_64 : decode cX12_remake 64 = .ok (.iastore, 1) := by decide +kernel
theorem dX12_remake_65 : decode cX12_remake 65 = .ok (.aload_n 0, 1) := by decide +kernel
theorem dX12_remake_66 : decode cX12_remake 66 = .ok (.invokevirtual 330, 3) := by decide +kernel
theorem dX12_remake_69 : decode cX12_remake 69 = .ok (.iload_n 2, 1) := by decide +kernel
theorem dX12_remake_70 : decode cX12_remake 70 = .ok (.iconst (-1), 1) := by decide +kernel
theorem dX12_remake_71 : decode cX12_remake 71 = .ok (.ixor, 1) := by decide +kernel
theorem dX12_remake_72 : decode cX12_remake 72 = .ok (.iand, 1) := by decide +kernel
theorem dX12_remake_73 : decode cX12_remake 73 = .ok (.ireturn, 1) := by decide +kernel
theorem dX12_exempt_0 : decode cX12_exempt 0 = .ok (.aload_n 0, 1) := by decide +kernel
theorem dX12_exempt_1 : decode cX12_exempt 1 = .ok (.iconst 0, 1) := by decide +kernel
theorem dX12_exempt_2 : decode cX12_exempt 2 = .ok (.putfield 74, 3) := by decide +kernel
theorem dX12_exempt_5 : decode cX12_exempt 5 = .ok (.aload_n 0, 1) := by decide +kernel
theorem dX12_exempt_6 : decode cX12_exempt 6 = .ok (.iconst 0, 1) := by decide +kernel
theorem dX12_exempt_7 : decode cX12_exempt 7 = .ok (.putfield 77, 3) := by decide +kernel
theorem dX12_exempt_10 : decode cX12_exempt 10 = .ok (.aload_n 0, 1) := by decide +kernel
theorem dX12_exempt_11 : decode cX12_exempt 11 = .ok (.iload_n 1, 1) := by decide +kernel
theorem dX12_exempt_12 : decode cX12_exempt 12 = .ok (.invokevirtual 339, 3) := by decide +kernel
theorem dX12_exempt_15 : decode cX12_exempt 15 = .ok (.ifCond .ne 9, 3) := by decide +kernel
theorem dX12_exempt_18 : decode cX12_exempt 18 = .ok (.aload_n 0, 1) := by decide +kernel
theorem dX12_exempt_19 : decode cX12_exempt 19 = .ok (.iconst 2, 1) := by decide +kernel
theorem dX12_exempt_20 : decode cX12_exempt 20 = .ok (.invokevirtual 89, 3) := by decide +kernel
theorem dX12_exempt_23 : decode cX12_exempt 23 = .ok (.ireturn, 1) := by decide +kernel
theorem dX12_exempt_24 : decode cX12_exempt 24 = .ok (.aload_n 0, 1) := by decide +kernel
theorem dX12_exempt_25 : decode cX12_exempt 25 = .ok (.getfield 35, 3) := by decide +kernel
theorem dX12_exempt_28 : decode cX12_exempt 28 = .ok (.bipush 7, 2) := by decide +kernel
theorem dX12_exempt_30 : decode cX12_exempt 30 = .ok (.iaload, 1) := by decide +kernel
theorem dX12_exempt_31 : decode cX12_exempt 31 = .ok (.iload_n 1, 1) := by decide +kernel
theorem dX12_exempt_32 : decode cX12_exempt 32 = .ok (.invokestatic 113, 3) := by decide +kernel
theorem dX12_exempt_35 : decode cX12_exempt 35 = .ok (.iload_n 2, 1) := by decide +kernel
theorem dX12_exempt_36 : decode cX12_exempt 36 = .ok (.if_icmp .ne 10, 3) := by decide +kernel
theorem dX12_exempt_39 : decode cX12_exempt 39 = .ok (.aload_n 0, 1) := by decide +kernel
theorem dX12_exempt_40 : decode cX12_exempt 40 = .ok (.bipush 9, 2) := by decide +kernel
theorem dX12_exempt_42 : decode cX12_exempt 42 = .ok (.invokevirtual 89, 3) := by decide +kernel
theorem dX12_exempt_45 : decode cX12_exempt 45 = .ok (.ireturn, 1) := by decide +kernel
theorem dX12_exempt_46 : decode cX12_exempt 46 = .ok (.aload_n 0, 1) := by decide +kernel
theorem dX12_exempt_47 : decode cX12_exempt 47 = .ok (.getfield 35, 3) := by decide +kernel
theorem dX12_exempt_50 : decode cX12_exempt 50 = .ok (.bipush 7, 2) := by decide +kernel
theorem dX12_exempt_52 : decode cX12_exempt 52 = .ok (.dup2, 1) := by decide +kernel
theorem dX12_exempt_53 : decode cX12_exempt 53 = .ok (.iaload, 1) := by decide +kernel
theorem dX12_exempt_54 : decode cX12_exempt 54 = .ok (.iconst 1, 1) := by decide +kernel
theorem dX12_exempt_55 : decode cX12_exempt 55 = .ok (.iload_n 1, 1) := by decide +kernel
theorem dX12_exempt_56 : decode cX12_exempt 56 = .ok (.ishl, 1) := by decide +kernel
theorem dX12_exempt_57 : decode cX12_exempt 57 = .ok (.ixor, 1) := by decide +kernel
theorem dX12_exempt_58 : decode cX12_exempt 58 = .ok (.iastore, 1) := by decide +kernel
theorem dX12_exempt_59 : decode cX12_exempt 59 = .ok (.iconst 1, 1) := by decide +kernel
theorem dX12_exempt_60 : decode cX12_exempt 60 = .ok (.ireturn, 1) := by decide +kernel
theorem dX12_grudge_0 : decode cX12_grudge 0 = .ok (.aload_n 0, 1) := by decide +kernel
theorem dX12_grudge_1 : decode cX12_grudge 1 = .ok (.iconst 0, 1) := by decide +kernel
theorem dX12_grudge_2 : decode cX12_grudge 2 = .ok (.putfield 74, 3) := by decide +kernel
theorem dX12_grudge_5 : decode cX12_grudge 5 = .ok (.aload_n 0, 1) := by decide +kernel
theorem dX12_grudge_6 : decode cX12_grudge 6 = .ok (.iconst 0, 1) := by decide +kernel
theorem dX12_grudge_7 : decode cX12_grudge 7 = .ok (.putfield 77, 3) := by decide +kernel
theorem dX12_grudge_10 : decode cX12_grudge 10 = .ok (.aload_n 0, 1) := by decide +kernel
theorem dX12_grudge_11 : decode cX12_grudge 11 = .ok (.iload_n 1, 1) := by decide +kernel
theorem dX12_grudge_12 : decode cX12_grudge 12 = .ok (.invokevirtual 345, 3) := by decide +kernel
theorem dX12_grudge_15 : decode cX12_grudge 15 = .ok (.ifCond .eq 11, 3) := by decide +kernel
theorem dX12_grudge_18 : decode cX12_grudge 18 = .ok (.aload_n 0, 1) := by decide +kernel
theorem dX12_grudge_19 : decode cX12_grudge 19 = .ok (.iload_n 2, 1) := by decide +kernel
theorem dX12_grudge_20 : decode cX12_grudge 20 = .ok (.invokevirtual 339, 3) := by decide +kernel
theorem dX12_grudge_23 : decode cX12_grudge 23 = .ok (.ifCond .ne 9, 3) := by decide +kernel
theorem dX12_grudge_26 : decode cX12_grudge 26 = .ok (.aload_n 0, 1) := by decide +kernel
theorem dX12_grudge_27 : decode cX12_grudge 27 = .ok (.iconst 2, 1) := by decide +kernel
theorem dX12_grudge_28 : decode cX12_grudge 28 = .ok (.invokevirtual 89, 3) := by decide +kernel
theorem dX12_grudge_31 : decode cX12_grudge 31 = .ok (.ireturn, 1) := by decide +kernel
theorem dX12_grudge_32 : decode cX12_grudge 32 = .ok (.iload_n 3, 1) := by decide +kernel
theorem dX12_grudge_33 : decode cX12_grudge 33 = .ok (.i2l, 1) := by decide +kernel
theorem dX12_grudge_34 : decode cX12_grudge 34 = .ok (.lconst 0, 1) := by decide +kernel
theorem dX12_grudge_35 : decode cX12_grudge 35 = .ok (.ldc2_w 383, 3) := by decide +kernel
theorem dX12_grudge_38 : decode cX12_grudge 38 = .ok (.invokestatic 109, 3) := by decide +kernel
theorem dX12_grudge_41 : decode cX12_grudge 41 = .ok (.ifCond .ne 9, 3) := by decide +kernel
theorem dX12_grudge_44 : decode cX12_grudge 44 = .ok (.aload_n 0, 1) := by decide +kernel
theorem dX12_grudge_45 : decode cX12_grudge 45 = .ok (.iconst 5, 1) := by decide +kernel
theorem dX12_grudge_46 : decode cX12_grudge 46 = .ok (.invokevirtual 89, 3) := by decide +kernel
theorem dX12_grudge_49 : decode cX12_grudge 49 = .ok (.ireturn, 1) := by decide +kernel
theorem dX12_grudge_50 : decode cX12_grudge 50 = .ok (.aload_n 0, 1) := by decide +kernel
theorem dX12_grudge_51 : decode cX12_grudge 51 = .ok (.getfield 35, 3) := by decide +kernel
theorem dX12_grudge_54 : decode cX12_grudge 54 = .ok (.bipush 58, 2) := by decide +kernel
theorem dX12_grudge_56 : decode cX12_grudge 56 = .ok (.bipush 12, 2) := by decide +kernel
theorem dX12_grudge_58 : decode cX12_grudge 58 = .ok (.iload_n 1, 1) := by decide +kernel
theorem dX12_grudge_59 : decode cX12_grudge 59 = .ok (.imul, 1) := by decide +kernel
theorem dX12_grudge_60 : decode cX12_grudge 60 = .ok (.iadd, 1) := by decide +kernel
theorem dX12_grudge_61 : decode cX12_grudge 61 = .ok (.iload_n 2, 1) := by decide +kernel
theorem dX12_grudge_62 : decode cX12_grudge 62 = .ok (.iadd, 1) := by decide +kernel
theorem dX12_grudge_63 : decode cX12_grudge 63 = .ok (.iload_n 3, 1) := by decide +kernel
theorem dX12_grudge_64 : decode cX12_grudge 64 = .ok (.iastore, 1) := by decide +kernel
theorem dX12_grudge_65 : decode cX12_grudge 65 = .ok (.iconst 1, 1) := by decide +kernel
theorem dX12_grudge_66 : decode cX12_grudge 66 = .ok (.ireturn, 1) := by decide +kernel
theorem dX12_rule_0 : decode cX12_rule 0 = .ok (.aload_n 0, 1) := by decide +kernel
theorem dX12_rule_1 : decode cX12_rule 1 = .ok (.iconst 0, 1) := by decide +kernel
theorem dX12_rule_2 : decode cX12_rule 2 = .ok (.putfield 74, 3) := by decide +kernel
theorem dX12_rule_5 : decode cX12_rule 5 = .ok (.aload_n 0, 1) := by decide +kernel
theorem dX12_rule_6 : decode cX12_rule 6 = .ok (.iconst 0, 1) := by decide +kernel
theorem dX12_rule_7 : decode cX12_rule 7 = .ok (.putfield 77, 3) := by decide +kernel
theorem dX12_rule_10 : decode cX12_rule 10 = .ok (.iload_n 1, 1) := by decide +kernel
theorem dX12_rule_11 : decode cX12_rule 11 = .ok (.i2l, 1) := by decide +kernel
theorem dX12_rule_12 : decode cX12_rule 12 = .ok (.lconst 0, 1) := by decide +kernel
theorem dX12_rule_13 : decode cX12_rule 13 = .ok (.ldc2_w 373, 3) := by decide +kernel
theorem dX12_rule_16 : decode cX12_rule 16 = .ok (.invokestatic 109, 3) := by decide +kernel
theorem dX12_rule_19 : decode cX12_rule 19 = .ok (.ifCond .ne 9, 3) := by decide +kernel
theorem dX12_rule_22 : decode cX12_rule 22 = .ok (.aload_n 0, 1) := by decide +kernel
theorem dX12_rule_23 : decode cX12_rule 23 = .ok (.iconst 5, 1) := by decide +kernel
theorem dX12_rule_24 : decode cX12_rule 24 = .ok (.invokevirtual 89, 3) := by decide +kernel
theorem dX12_rule_27 : decode cX12_rule 27 = .ok (.ireturn, 1) := by decide +kernel
theorem dX12_rule_28 : decode cX12_rule 28 = .ok (.aload_n 0, 1) := by decide +kernel
theorem dX12_rule_29 : decode cX12_rule 29 = .ok (.getfield 35, 3) := by decide +kernel
theorem dX12_rule_32 : decode cX12_rule 32 = .ok (.iconst 4, 1) := by decide +kernel
theorem dX12_rule_33 : decode cX12_rule 33 = .ok (.iload_n 1, 1) := by decide +kernel
theorem dX12_rule_34 : decode cX12_rule 34 = .ok (.iastore, 1) := by decide +kernel
theorem dX12_rule_35 : decode cX12_rule 35 = .ok (.iconst 1, 1) := by decide +kernel
theorem dX12_rule_36 : decode cX12_rule 36 = .ok (.ireturn, 1) := by decide +kernel
theorem dX12_fallsWith_0 : decode cX12_fallsWith 0 = .ok (.aload_n 0, 1) := by decide +kernel
theorem dX12_fallsWith_1 : decode cX12_fallsWith 1 = .ok (.invokevirtual 330, 3) := by decide +kernel
theorem dX12_fallsWith_4 : decode cX12_fallsWith 4 = .ok (.aload_n 0, 1) := by decide +kernel
theorem dX12_fallsWith_5 : decode cX12_fallsWith 5 = .ok (.aload_n 0, 1) := by decide +kernel
theorem dX12_fallsWith_6 : decode cX12_fallsWith 6 = .ok (.getfield 35, 3) := by decide +kernel
theorem dX12_fallsWith_9 : decode cX12_fallsWith 9 = .ok (.bipush 6, 2) := by decide +kernel
theorem dX12_fallsWith_11 : decode cX12_fallsWith 11 = .ok (.iaload, 1) := by decide +kernel
theorem dX12_fallsWith_12 : decode cX12_fallsWith 12 = .ok (.iconst 1, 1) := by decide +kernel
theorem dX12_fallsWith_13 : decode cX12_fallsWith 13 = .ok (.iload_n 1, 1) := by decide +kernel
theorem dX12_fallsWith_14 : decode cX12_fallsWith 14 = .ok (.ishl, 1) := by decide +kernel
theorem dX12_fallsWith_15 : decode cX12_fallsWith 15 = .ok (.ior, 1) := by decide +kernel
theorem dX12_fallsWith_16 : decode cX12_fallsWith 16 = .ok (.invokevirtual 322, 3) := by decide +kernel
theorem dX12_fallsWith_19 : decode cX12_fallsWith 19 = .ok (.iconst (-1), 1) := by decide +kernel
theorem dX12_fallsWith_20 : decode cX12_fallsWith 20 = .ok (.ixor, 1) := by decide +kernel
theorem dX12_fallsWith_21 : decode cX12_fallsWith 21 = .ok (.iand, 1) := by decide +kernel
theorem dX12_fallsWith_22 : decode cX12_fallsWith 22 = .ok (.ireturn, 1) := by decide +kernel
theorem dX12_whyNoFall_0 : decode cX12_whyNoFall 0 = .ok (.aload_n 0, 1) := by decide +kernel
theorem dX12_whyNoFall_1 : decode cX12_whyNoFall 1 = .ok (.iload_n 1, 1) := by decide +kernel
theorem dX12_whyNoFall_2 : decode cX12_whyNoFall 2 = .ok (.invokevirtual 339, 3) := by decide +kernel
theorem dX12_whyNoFall_5 : decode cX12_whyNoFall 5 = .ok (.ifCond .ne 7, 3) := by decide +kernel
theorem dX12_whyNoFall_8 : decode cX12_whyNoFall 8 = .ok (.iconst 2, 1) := by decide +kernel
theorem dX12_whyNoFall_9 : decode cX12_whyNoFall 9 = .ok (.goto 20, 3) := by decide +kernel
theorem dX12_whyNoFall_12 : decode cX12_whyNoFall 12 = .ok (.aload_n 0, 1) := by decide +kernel
theorem dX12_whyNoFall_13 : decode cX12_whyNoFall 13 = .ok (.invokevirtual 330, 3) := by decide +kernel
theorem dX12_whyNoFall_16 : decode cX12_whyNoFall 16 = .ok (.iload_n 1, 1) := by decide +kernel
theorem dX12_whyNoFall_17 : decode cX12_whyNoFall 17 = .ok (.invokestatic 113, 3) := by decide +kernel
theorem dX12_whyNoFall_20 : decode cX12_whyNoFall 20 = .ok (.ifCond .eq 7, 3) := by decide +kernel
theorem dX12_whyNoFall_23 : decode cX12_whyNoFall 23 = .ok (.iconst 0, 1) := by decide +kernel
theorem dX12_whyNoFall_24 : decode cX12_whyNoFall 24 = .ok (.goto 5, 3) := by decide +kernel
theorem dX12_whyNoFall_27 : decode cX12_whyNoFall 27 = .ok (.bipush 9, 2) := by decide +kernel
theorem dX12_whyNoFall_29 : decode cX12_whyNoFall 29 = .ok (.ireturn, 1) := by decide +kernel
theorem dX12_falls_0 : decode cX12_falls 0 = .ok (.aload_n 0, 1) := by decide +kernel
theorem dX12_falls_1 : decode cX12_falls 1 = .ok (.iconst 0, 1) := by decide +kernel
theorem dX12_falls_2 : decode cX12_falls 2 = .ok (.putfield 74, 3) := by decide +kernel
theorem dX12_falls_5 : decode cX12_falls 5 = .ok (.aload_n 0, 1) := by decide +kernel
theorem dX12_falls_6 : decode cX12_falls 6 = .ok (.aload_n 0, 1) := by decide +kernel
theorem dX12_falls_7 : decode cX12_falls 7 = .ok (.iload_n 1, 1) := by decide +kernel
theorem dX12_falls_8 : decode cX12_falls 8 = .ok (.invokevirtual 385, 3) := by decide +kernel
theorem dX12_falls_11 : decode cX12_falls 11 = .ok (.putfield 77, 3) := by decide +kernel
theorem dX12_falls_14 : decode cX12_falls 14 = .ok (.aload_n 0, 1) := by decide +kernel
theorem dX12_falls_15 : decode cX12_falls 15 = .ok (.getfield 77, 3) := by decide +kernel
theorem dX12_falls_18 : decode cX12_falls 18 = .ok (.ifCond .le 7, 3) := by decide +kernel
theorem dX12_falls_21 : decode cX12_falls 21 = .ok (.iconst (-1), 1) := by decide +kernel
theorem dX12_falls_22 : decode cX12_falls 22 = .ok (.goto 8, 3) := by decide +kernel
theorem dX12_falls_25 : decode cX12_falls 25 = .ok (.aload_n 0, 1) := by decide +kernel
theorem dX12_falls_26 : decode cX12_falls 26 = .ok (.iload_n 1, 1) := by decide +kernel
theorem dX12_falls_27 : decode cX12_falls 27 = .ok (.invokevirtual 388, 3) := by decide +kernel
theorem dX12_falls_30 : decode cX12_falls 30 = .ok (.ireturn, 1) := by decide +kernel
theorem dX12_loss_0 : decode cX12_loss 0 = .ok (.aload_n 0, 1) := by decide +kernel
theorem dX12_loss_1 : decode cX12_loss 1 = .ok (.iconst 0, 1) := by decide +kernel
theorem dX12_loss_2 : decode cX12_loss 2 = .ok (.putfield 74, 3) := by decide +kernel
theorem dX12_loss_5 : decode cX12_loss 5 = .ok (.aload_n 0, 1) := by decide +kernel
theorem dX12_loss_6 : decode cX12_loss 6 = .ok (.aload_n 0, 1) := by decide +kernel
theorem dX12_loss_7 : decode cX12_loss 7 = .ok (.iload_n 1, 1) := by decide +kernel
theorem dX12_loss_8 : decode cX12_loss 8 = .ok (.invokevirtual 385, 3) := by decide +kernel
theorem dX12_loss_11 : decode cX12_loss 11 = .ok (.putfield 77, 3) := by decide +kernel
theorem dX12_loss_14 : decode cX12_loss 14 = .ok (.aload_n 0, 1) := by decide +kernel
theorem dX12_loss_15 : decode cX12_loss 15 = .ok (.getfield 77, 3) := by decide +kernel
theorem dX12_loss_18 : decode cX12_loss 18 = .ok (.ifCond .le 7, 3) := by decide +kernel
theorem dX12_loss_21 : decode cX12_loss 21 = .ok (.iconst (-1), 1) := by decide +kernel
theorem dX12_loss_22 : decode cX12_loss 22 = .ok (.goto 12, 3) := by decide +kernel
theorem dX12_loss_25 : decode cX12_loss 25 = .ok (.aload_n 0, 1) := by decide +kernel
theorem dX12_loss_26 : decode cX12_loss 26 = .ok (.aload_n 0, 1) := by decide +kernel
theorem dX12_loss_27 : decode cX12_loss 27 = .ok (.iload_n 1, 1) := by decide +kernel
theorem dX12_loss_28 : decode cX12_loss 28 = .ok (.invokevirtual 388, 3) := by decide +kernel
theorem dX12_loss_31 : decode cX12_loss 31 = .ok (.invokevirtual 336, 3) := by decide +kernel
theorem dX12_loss_34 : decode cX12_loss 34 = .ok (.ireturn, 1) := by decide +kernel
theorem dX12_keystone_0 : decode cX12_keystone 0 = .ok (.aload_n 0, 1) := by decide +kernel
theorem dX12_keystone_1 : decode cX12_keystone 1 = .ok (.iconst 0, 1) := by decide +kernel
theorem dX12_keystone_2 : decode cX12_keystone 2 = .ok (.putfield 74, 3) := by decide +kernel
theorem dX12_keystone_5 : decode cX12_keystone 5 = .ok (.aload_n 0, 1) := by decide +kernel
theorem dX12_keystone_6 : decode cX12_keystone 6 = .ok (.iconst 0, 1) := by decide +kernel
theorem dX12_keystone_7 : decode cX12_keystone 7 = .ok (.putfield 77, 3) := by decide +kernel
theorem dX12_keystone_10 : decode cX12_keystone 10 = .ok (.iconst (-1), 1) := by decide +kernel
theorem dX12_keystone_11 : decode cX12_keystone 11 = .ok (.istore_n 1, 1) := by decide +kernel
theorem dX12_keystone_12 : decode cX12_keystone 12 = .ok (.iconst 0, 1) := by decide +kernel
theorem dX12_keystone_13 : decode cX12_keystone 13 = .ok (.istore_n 2, 1) := by decide +kernel
theorem dX12_keystone_14 : decode cX12_keystone 14 = .ok (.iconst 0, 1) := by decide +kernel
theorem dX12_keystone_15 : decode cX12_keystone 15 = .ok (.istore_n 3, 1) := by decide +kernel
theorem dX12_keystone_16 : decode cX12_keystone 16 = .ok (.iload_n 3, 1) := by decide +kernel
theorem dX12_keystone_17 : decode cX12_keystone 17 = .ok (.aload_n 0, 1) := by decide +kernel
theorem dX12_keystone_18 : decode cX12_keystone 18 = .ok (.getfield 35, 3) := by decide +kernel
theorem dX12_keystone_21 : decode cX12_keystone 21 = .ok (.iconst 0, 1) := by decide +kernel
theorem dX12_keystone_22 : decode cX12_keystone 22 = .ok (.iaload, 1) := by decide +kernel
theorem dX12_keystone_23 : decode cX12_keystone 23 = .ok (.if_icmp .ge 52, 3) := by decide +kernel
theorem dX12_keystone_26 : decode cX12_keystone 26 = .ok (.aload_n 0, 1) := by decide +kernel
theorem dX12_keystone_27 : decode cX12_keystone 27 = .ok (.invokevirtual 330, 3) := by decide +kernel
theorem dX12_keystone_30 : decode cX12_keystone 30 = .ok (.iload_n 3, 1) := by decide +kernel
theorem dX12_keystone_31 : decode cX12_keystone 31 = .ok (.invokestatic 113, 3) := by decide +kernel
theorem dX12_keystone_34 : decode cX12_keystone 34 = .ok (.ifCond .ne 6, 3) := by decide +kernel
theorem dX12_keystone_37 : decode cX12_keystone 37 = .ok (.goto 32, 3) := by decide +kernel
theorem dX12_keystone_40 : decode cX12_keystone 40 = .ok (.aload_n 0, 1) := by decide +kernel
theorem dX12_keystone_41 : decode cX12_keystone 41 = .ok (.aload_n 0, 1) := by decide +kernel
theorem dX12_keystone_42 : decode cX12_keystone 42 = .ok (.iload_n 3, 1) := by decide +kernel
theorem dX12_keystone_43 : decode cX12_keystone 43 = .ok (.invokevirtual 388, 3) := by decide +kernel
theorem dX12_keystone_46 : decode cX12_keystone 46 = .ok (.invokevirtual 336, 3) := by decide +kernel
theorem dX12_keystone_49 : decode cX12_keystone 49 = .ok (.istore 4, 2) := by decide +kernel
theorem dX12_keystone_51 : decode cX12_keystone 51 = .ok (.iload_n 1, 1) := by decide +kernel
theorem dX12_keystone_52 : decode cX12_keystone 52 = .ok (.ifCond .lt 12, 3) := by decide +kernel
theorem dX12_keystone_55 : decode cX12_keystone 55 = .ok (.iload 4, 2) := by decide +kernel
theorem dX12_keystone_57 : decode cX12_keystone 57 = .ok (.iload_n 2, 1) := by decide +kernel
theorem dX12_keystone_58 : decode cX12_keystone 58 = .ok (.if_icmp .gt 6, 3) := by decide +kernel
theorem dX12_keystone_61 : decode cX12_keystone 61 = .ok (.goto 8, 3) := by decide +kernel
theorem dX12_keystone_64 : decode cX12_keystone 64 = .ok (.iload_n 3, 1) := by decide +kernel
theorem dX12_keystone_65 : decode cX12_keystone 65 = .ok (.istore_n 1, 1) := by decide +kernel
theorem dX12_keystone_66 : decode cX12_keystone 66 = .ok (.iload 4, 2) := by decide +kernel
theorem dX12_keystone_68 : decode cX12_keystone 68 = .ok (.istore_n 2, 1) := by decide +kernel
theorem dX12_keystone_69 : decode cX12_keystone 69 = .ok (.iinc 3 1, 3) := by decide +kernel
theorem dX12_keystone_72 : decode cX12_keystone 72 = .ok (.goto (-56), 3) := by decide +kernel
theorem dX12_keystone_75 : decode cX12_keystone 75 = .ok (.iload_n 1, 1) := by decide +kernel
theorem dX12_keystone_76 : decode cX12_keystone 76 = .ok (.ifCond .ge 12, 3) := by decide +kernel
theorem dX12_keystone_79 : decode cX12_keystone 79 = .ok (.aload_n 0, 1) := by decide +kernel
theorem dX12_keystone_80 : decode cX12_keystone 80 = .ok (.bipush 8, 2) := by decide +kernel
theorem dX12_keystone_82 : decode cX12_keystone 82 = .ok (.invokevirtual 327, 3) := by decide +kernel
theorem dX12_keystone_85 : decode cX12_keystone 85 = .ok (.goto 4, 3) := by decide +kernel
theorem dX12_keystone_88 : decode cX12_keystone 88 = .ok (.iload_n 1, 1) := by decide +kernel
theorem dX12_keystone_89 : decode cX12_keystone 89 = .ok (.ireturn, 1) := by decide +kernel
theorem dX12_after_0 : decode cX12_after 0 = .ok (.aload_n 0, 1) := by decide +kernel
theorem dX12_after_1 : decode cX12_after 1 = .ok (.iload_n 1, 1) := by decide +kernel
theorem dX12_after_2 : decode cX12_after 2 = .ok (.iload_n 2, 1) := by decide +kernel
theorem dX12_after_3 : decode cX12_after 3 = .ok (.invokevirtual 367, 3) := by decide +kernel
theorem dX12_after_6 : decode cX12_after 6 = .ok (.istore_n 3, 1) := by decide +kernel
theorem dX12_after_7 : decode cX12_after 7 = .ok (.iload_n 3, 1) := by decide +kernel
theorem dX12_after_8 : decode cX12_after 8 = .ok (.ifCond .ge 7, 3) := by decide +kernel
theorem dX12_after_11 : decode cX12_after 11 = .ok (.iload_n 1, 1) := by decide +kernel
theorem dX12_after_12 : decode cX12_after 12 = .ok (.goto 8, 3) := by decide +kernel
theorem dX12_after_15 : decode cX12_after 15 = .ok (.iload_n 1, 1) := by decide +kernel
theorem dX12_after_16 : decode cX12_after 16 = .ok (.iconst 1, 1) := by decide +kernel
theorem dX12_after_17 : decode cX12_after 17 = .ok (.iload_n 3, 1) := by decide +kernel
theorem dX12_after_18 : decode cX12_after 18 = .ok (.ishl, 1) := by decide +kernel
theorem dX12_after_19 : decode cX12_after 19 = .ok (.ior, 1) := by decide +kernel
theorem dX12_after_20 : decode cX12_after 20 = .ok (.ireturn, 1) := by decide +kernel
theorem dX12_yearWithout_0 : decode cX12_yearWithout 0 = .ok (.aload_n 0, 1) := by decide +kernel
theorem dX12_yearWithout_1 : decode cX12_yearWithout 1 = .ok (.getfield 35, 3) := by decide +kernel
theorem dX12_yearWithout_4 : decode cX12_yearWithout 4 = .ok (.bipush 6, 2) := by decide +kernel
theorem dX12_yearWithout_6 : decode cX12_yearWithout 6 = .ok (.iaload, 1) := by decide +kernel
theorem dX12_yearWithout_7 : decode cX12_yearWithout 7 = .ok (.istore_n 2, 1) := by decide +kernel
theorem dX12_yearWithout_8 : decode cX12_yearWithout 8 = .ok (.iconst 0, 1) := by decide +kernel
theorem dX12_yearWithout_9 : decode cX12_yearWithout 9 = .ok (.istore_n 3, 1) := by decide +kernel
theorem dX12_yearWithout_10 : decode cX12_yearWithout 10 = .ok (.iload_n 3, 1) := by decide +kernel
theorem dX12_yearWithout_11 : decode cX12_yearWithout 11 = .ok (.bipush 99, 2) := by decide +kernel
theorem dX12_yearWithout_13 : decode cX12_yearWithout 13 = .ok (.if_icmp .gt 36, 3) := by decide +kernel
theorem dX12_yearWithout_16 : decode cX12_yearWithout 16 = .ok (.iload_n 1, 1) := by decide +kernel
theorem dX12_yearWithout_17 : decode cX12_yearWithout 17 = .ok (.aload_n 0, 1) := by decide +kernel
theorem dX12_yearWithout_18 : decode cX12_yearWithout 18 = .ok (.iload_n 2, 1) := by decide +kernel
theorem dX12_yearWithout_19 : decode cX12_yearWithout 19 = .ok (.invokevirtual 322, 3) := by decide +kernel
theorem dX12_yearWithout_22 : decode cX12_yearWithout 22 = .ok (.iconst (-1), 1) := by decide +kernel
theorem dX12_yearWithout_23 : decode cX12_yearWithout 23 = .ok (.ixor, 1) := by decide +kernel
theorem dX12_yearWithout_24 : decode cX12_yearWithout 24 = .ok (.iand, 1) := by decide +kernel
theorem dX12_yearWithout_25 : decode cX12_yearWithout 25 = .ok (.ifCond .eq 5, 3) := by decide +kernel
theorem dX12_yearWithout_28 : decode cX12_yearWithout 28 = .ok (.iload_n 3, 1) := by decide +kernel
theorem dX12_yearWithout_29 : decode cX12_yearWithout 29 = .ok (.ireturn, 1) := by decide +kernel
theorem dX12_yearWithout_30 : decode cX12_yearWithout 30 = .ok (.aload_n 0, 1) := by decide +kernel
theorem dX12_yearWithout_31 : decode cX12_yearWithout 31 = .ok (.iload_n 2, 1) := by decide +kernel
theorem dX12_yearWithout_32 : decode cX12_yearWithout 32 = .ok (.aload_n 0, 1) := by decide +kernel
theorem dX12_yearWithout_33 : decode cX12_yearWithout 33 = .ok (.getfield 35, 3) := by decide +kernel
theorem dX12_yearWithout_36 : decode cX12_yearWithout 36 = .ok (.bipush 7, 2) := by decide +kernel
theorem dX12_yearWithout_38 : decode cX12_yearWithout 38 = .ok (.iaload, 1) := by decide +kernel
theorem dX12_yearWithout_39 : decode cX12_yearWithout 39 = .ok (.invokevirtual 391, 3) := by decide +kernel
theorem dX12_yearWithout_42 : decode cX12_yearWithout 42 = .ok (.istore_n 2, 1) := by decide +kernel
theorem dX12_yearWithout_43 : decode cX12_yearWithout 43 = .ok (.iinc 3 1, 3) := by decide +kernel
theorem dX12_yearWithout_46 : decode cX12_yearWithout 46 = .ok (.goto (-36), 3) := by decide +kernel
theorem dX12_yearWithout_49 : decode cX12_yearWithout 49 = .ok (.iconst (-1), 1) := by decide +kernel
theorem dX12_yearWithout_50 : decode cX12_yearWithout 50 = .ok (.ireturn, 1) := by decide +kernel
theorem dX12_goneBy_0 : decode cX12_goneBy 0 = .ok (.aload_n 0, 1) := by decide +kernel
theorem dX12_goneBy_1 : decode cX12_goneBy 1 = .ok (.iconst 0, 1) := by decide +kernel
theorem dX12_goneBy_2 : decode cX12_goneBy 2 = .ok (.putfield 74, 3) := by decide +kernel
theorem dX12_goneBy_5 : decode cX12_goneBy 5 = .ok (.aload_n 0, 1) := by decide +kernel
theorem dX12_goneBy_6 : decode cX12_goneBy 6 = .ok (.iconst 0, 1) := by decide +kernel
theorem dX12_goneBy_7 : decode cX12_goneBy 7 = .ok (.putfield 77, 3) := by decide +kernel
theorem dX12_goneBy_10 : decode cX12_goneBy 10 = .ok (.aload_n 0, 1) := by decide +kernel
theorem dX12_goneBy_11 : decode cX12_goneBy 11 = .ok (.iload_n 1, 1) := by decide +kernel
theorem dX12_goneBy_12 : decode cX12_goneBy 12 = .ok (.invokevirtual 339, 3) := by decide +kernel
theorem dX12_goneBy_15 : decode cX12_goneBy 15 = .ok (.ifCond .ne 9, 3) := by decide +kernel
theorem dX12_goneBy_18 : decode cX12_goneBy 18 = .ok (.aload_n 0, 1) := by decide +kernel
theorem dX12_goneBy_19 : decode cX12_goneBy 19 = .ok (.iconst 2, 1) := by decide +kernel
theorem dX12_goneBy_20 : decode cX12_goneBy 20 = .ok (.invokevirtual 327, 3) := by decide +kernel
theorem dX12_goneBy_23 : decode cX12_goneBy 23 = .ok (.ireturn, 1) := by decide +kernel
theorem dX12_goneBy_24 : decode cX12_goneBy 24 = .ok (.aload_n 0, 1) := by decide +kernel
theorem dX12_goneBy_25 : decode cX12_goneBy 25 = .ok (.iconst 1, 1) := by decide +kernel
theorem dX12_goneBy_26 : decode cX12_goneBy 26 = .ok (.iload_n 1, 1) := by decide +kernel
theorem dX12_goneBy_27 : decode cX12_goneBy 27 = .ok (.ishl, 1) := by decide +kernel
theorem dX12_goneBy_28 : decode cX12_goneBy 28 = .ok (.invokevirtual 394, 3) := by decide +kernel
theorem dX12_goneBy_31 : decode cX12_goneBy 31 = .ok (.istore_n 2, 1) := by decide +kernel
theorem dX12_goneBy_32 : decode cX12_goneBy 32 = .ok (.iload_n 2, 1) := by decide +kernel
theorem dX12_goneBy_33 : decode cX12_goneBy 33 = .ok (.ifCond .ge 12, 3) := by decide +kernel
theorem dX12_goneBy_36 : decode cX12_goneBy 36 = .ok (.aload_n 0, 1) := by decide +kernel
theorem dX12_goneBy_37 : decode cX12_goneBy 37 = .ok (.bipush 8, 2) := by decide +kernel
theorem dX12_goneBy_39 : decode cX12_goneBy 39 = .ok (.invokevirtual 327, 3) := by decide +kernel
theorem dX12_goneBy_42 : decode cX12_goneBy 42 = .ok (.goto 4, 3) := by decide +kernel
theorem dX12_goneBy_45 : decode cX12_goneBy 45 = .ok (.iload_n 2, 1) := by decide +kernel
theorem dX12_goneBy_46 : decode cX12_goneBy 46 = .ok (.ireturn, 1) := by decide +kernel
theorem dX12_ends_0 : decode cX12_ends 0 = .ok (.aload_n 0, 1) := by decide +kernel
theorem dX12_ends_1 : decode cX12_ends 1 = .ok (.iconst 0, 1) := by decide +kernel
theorem dX12_ends_2 : decode cX12_ends 2 = .ok (.putfield 74, 3) := by decide +kernel
theorem dX12_ends_5 : decode cX12_ends 5 = .ok (.aload_n 0, 1) := by decide +kernel
theorem dX12_ends_6 : decode cX12_ends 6 = .ok (.iconst 0, 1) := by decide +kernel
theorem dX12_ends_7 : decode cX12_ends 7 = .ok (.putfield 77, 3) := by decide +kernel
theorem dX12_ends_10 : decode cX12_ends 10 = .ok (.aload_n 0, 1) := by decide +kernel
theorem dX12_ends_11 : decode cX12_ends 11 = .ok (.iload_n 1, 1) := by decide +kernel
theorem dX12_ends_12 : decode cX12_ends 12 = .ok (.invokevirtual 342, 3) := by decide +kernel
theorem dX12_ends_15 : decode cX12_ends 15 = .ok (.ifCond .ne 9, 3) := by decide +kernel
theorem dX12_ends_18 : decode cX12_ends 18 = .ok (.aload_n 0, 1) := by decide +kernel
theorem dX12_ends_19 : decode cX12_ends 19 = .ok (.iconst 2, 1) := by decide +kernel
theorem dX12_ends_20 : decode cX12_ends 20 = .ok (.invokevirtual 327, 3) := by decide +kernel
theorem dX12_ends_23 : decode cX12_ends 23 = .ok (.ireturn, 1) := by decide +kernel
theorem dX12_ends_24 : decode cX12_ends 24 = .ok (.aload_n 0, 1) := by decide +kernel
theorem dX12_ends_25 : decode cX12_ends 25 = .ok (.aload_n 0, 1) := by decide +kernel
theorem dX12_ends_26 : decode cX12_ends 26 = .ok (.getfield 35, 3) := by decide +kernel
theorem dX12_ends_29 : decode cX12_ends 29 = .ok (.bipush 52, 2) := by decide +kernel
theorem dX12_ends_31 : decode cX12_ends 31 = .ok (.iload_n 1, 1) := by decide +kernel
theorem dX12_ends_32 : decode cX12_ends 32 = .ok (.iadd, 1) := by decide +kernel
theorem dX12_ends_33 : decode cX12_ends 33 = .ok (.iaload, 1) := by decide +kernel
theorem dX12_ends_34 : decode cX12_ends 34 = .ok (.invokevirtual 394, 3) := by decide +kernel
theorem dX12_ends_37 : decode cX12_ends 37 = .ok (.istore_n 2, 1) := by decide +kernel
theorem dX12_ends_38 : decode cX12_ends 38 = .ok (.iload_n 2, 1) := by decide +kernel
theorem dX12_ends_39 : decode cX12_ends 39 = .ok (.ifCond .ge 12, 3) := by decide +kernel
theorem dX12_ends_42 : decode cX12_ends 42 = .ok (.aload_n 0, 1) := by decide +kernel
theorem dX12_ends_43 : decode cX12_ends 43 = .ok (.bipush 8, 2) := by decide +kernel
theorem dX12_ends_45 : decode cX12_ends 45 = .ok (.invokevirtual 327, 3) := by decide +kernel
theorem dX12_ends_48 : decode cX12_ends 48 = .ok (.goto 4, 3) := by decide +kernel
theorem dX12_ends_51 : decode cX12_ends 51 = .ok (.iload_n 2, 1) := by decide +kernel
theorem dX12_ends_52 : decode cX12_ends 52 = .ok (.ireturn, 1) := by decide +kernel
theorem dX12_later_0 : decode cX12_later 0 = .ok (.aload_n 0, 1) := by decide +kernel
theorem dX12_later_1 : decode cX12_later 1 = .ok (.iconst 0, 1) := by decide +kernel
theorem dX12_later_2 : decode cX12_later 2 = .ok (.putfield 74, 3) := by decide +kernel
theorem dX12_later_5 : decode cX12_later 5 = .ok (.aload_n 0, 1) := by decide +kernel
theorem dX12_later_6 : decode cX12_later 6 = .ok (.iconst 0, 1) := by decide +kernel
theorem dX12_later_7 : decode cX12_later 7 = .ok (.putfield 77, 3) := by decide +kernel
theorem dX12_later_10 : decode cX12_later 10 = .ok (.iload_n 1, 1) := by decide +kernel
theorem dX12_later_11 : decode cX12_later 11 = .ok (.i2l, 1) := by decide +kernel
theorem dX12_later_12 : decode cX12_later 12 = .ok (.lconst 0, 1) := by decide +kernel
theorem dX12_later_13 : decode cX12_later 13 = .ok (.ldc2_w 375, 3) := by decide +kernel
theorem dX12_later_16 : decode cX12_later 16 = .ok (.invokestatic 109, 3) := by decide +kernel
theorem dX12_later_19 : decode cX12_later 19 = .ok (.ifCond .ne 9, 3) := by decide +kernel
theorem dX12_later_22 : decode cX12_later 22 = .ok (.aload_n 0, 1) := by decide +kernel
theorem dX12_later_23 : decode cX12_later 23 = .ok (.iconst 5, 1) := by decide +kernel
theorem dX12_later_24 : decode cX12_later 24 = .ok (.invokevirtual 327, 3) := by decide +kernel
theorem dX12_later_27 : decode cX12_later 27 = .ok (.ireturn, 1) := by decide +kernel
theorem dX12_later_28 : decode cX12_later 28 = .ok (.aload_n 0, 1) := by decide +kernel
theorem dX12_later_29 : decode cX12_later 29 = .ok (.getfield 35, 3) := by decide +kernel
theorem dX12_later_32 : decode cX12_later 32 = .ok (.bipush 6, 2) := by decide +kernel
theorem dX12_later_34 : decode cX12_later 34 = .ok (.iaload, 1) := by decide +kernel
theorem dX12_later_35 : decode cX12_later 35 = .ok (.istore_n 2, 1) := by decide +kernel
theorem dX12_later_36 : decode cX12_later 36 = .ok (.iconst 0, 1) := by decide +kernel
theorem dX12_later_37 : decode cX12_later 37 = .ok (.istore_n 3, 1) := by decide +kernel
theorem dX12_later_38 : decode cX12_later 38 = .ok (.iload_n 3, 1) := by decide +kernel
theorem dX12_later_39 : decode cX12_later 39 = .ok (.iload_n 1, 1) := by decide +kernel
theorem dX12_later_40 : decode cX12_later 40 = .ok (.if_icmp .ge 22, 3) := by decide +kernel
theorem dX12_later_43 : decode cX12_later 43 = .ok (.aload_n 0, 1) := by decide +kernel
theorem dX12_later_44 : decode cX12_later 44 = .ok (.iload_n 2, 1) := by decide +kernel
theorem dX12_later_45 : decode cX12_later 45 = .ok (.aload_n 0, 1) := by decide +kernel
theorem dX12_later_46 : decode cX12_later 46 = .ok (.getfield 35, 3) := by decide +kernel
theorem dX12_later_49 : decode cX12_later 49 = .ok (.bipush 7, 2) := by decide +kernel
theorem dX12_later_51 : decode cX12_later 51 = .ok (.iaload, 1) := by decide +kernel
theorem dX12_later_52 : decode cX12_later 52 = .ok (.invokevirtual 391, 3) := by decide +kernel
theorem dX12_later_55 : decode cX12_later 55 = .ok (.istore_n 2, 1) := by decide +kernel
theorem dX12_later_56 : decode cX12_later 56 = .ok (.iinc 3 1, 3) := by decide +kernel
theorem dX12_later_59 : decode cX12_later 59 = .ok (.goto (-21), 3) := by decide +kernel
theorem dX12_later_62 : decode cX12_later 62 = .ok (.aload_n 0, 1) := by decide +kernel
theorem dX12_later_63 : decode cX12_later 63 = .ok (.iload_n 2, 1) := by decide +kernel
theorem dX12_later_64 : decode cX12_later 64 = .ok (.invokevirtual 322, 3) := by decide +kernel
theorem dX12_later_67 : decode cX12_later 67 = .ok (.ireturn, 1) := by decide +kernel
theorem dX12_isKeptBy_0 : decode cX12_isKeptBy 0 = .ok (.aload_n 0, 1) := by decide +kernel
theorem dX12_isKeptBy_1 : decode cX12_isKeptBy 1 = .ok (.getfield 35, 3) := by decide +kernel
theorem dX12_isKeptBy_4 : decode cX12_isKeptBy 4 = .ok (.bipush 6, 2) := by decide +kernel
theorem dX12_isKeptBy_6 : decode cX12_isKeptBy 6 = .ok (.iaload, 1) := by decide +kernel
theorem dX12_isKeptBy_7 : decode cX12_isKeptBy 7 = .ok (.istore 4, 2) := by decide +kernel
theorem dX12_isKeptBy_9 : decode cX12_isKeptBy 9 = .ok (.iconst 0, 1) := by decide +kernel
theorem dX12_isKeptBy_10 : decode cX12_isKeptBy 10 = .ok (.istore 5, 2) := by decide +kernel
theorem dX12_isKeptBy_12 : decode cX12_isKeptBy 12 = .ok (.iload 5, 2) := by decide +kernel
theorem dX12_isKeptBy_14 : decode cX12_isKeptBy 14 = .ok (.iload_n 2, 1) := by decide +kernel
theorem dX12_isKeptBy_15 : decode cX12_isKeptBy 15 = .ok (.if_icmp .gt 39, 3) := by decide +kernel
theorem dX12_isKeptBy_18 : decode cX12_isKeptBy 18 = .ok (.iload_n 1, 1) := by decide +kernel
theorem dX12_isKeptBy_19 : decode cX12_isKeptBy 19 = .ok (.aload_n 0, 1) := by decide +kernel
theorem dX12_isKeptBy_20 : decode cX12_isKeptBy 20 = .ok (.iload 4, 2) := by decide +kernel
theorem dX12_isKeptBy_22 : decode cX12_isKeptBy 22 = .ok (.invokevirtual 322, 3) := by decide +kernel
theorem dX12_isKeptBy_25 : decode cX12_isKeptBy 25 = .ok (.iconst (-1), 1) := by decide +kernel
theorem dX12_isKeptBy_26 : decode cX12_isKeptBy 26 = .ok (.ixor, 1) := by decide +kernel
theorem dX12_isKeptBy_27 : decode cX12_isKeptBy 27 = .ok (.iand, 1) := by decide +kernel
theorem dX12_isKeptBy_28 : decode cX12_isKeptBy 28 = .ok (.ifCond .eq 5, 3) := by decide +kernel
theorem dX12_isKeptBy_31 : decode cX12_isKeptBy 31 = .ok (.iconst 0, 1) := by decide +kernel
theorem dX12_isKeptBy_32 : decode cX12_isKeptBy 32 = .ok (.ireturn, 1) := by decide +kernel
theorem dX12_isKeptBy_33 : decode cX12_isKeptBy 33 = .ok (.iload 5, 2) := by decide +kernel
theorem dX12_isKeptBy_35 : decode cX12_isKeptBy 35 = .ok (.iload_n 2, 1) := by decide +kernel
theorem dX12_isKeptBy_36 : decode cX12_isKeptBy 36 = .ok (.if_icmp .ge 12, 3) := by decide +kernel
theorem dX12_isKeptBy_39 : decode cX12_isKeptBy 39 = .ok (.aload_n 0, 1) := by decide +kernel
theorem dX12_isKeptBy_40 : decode cX12_isKeptBy 40 = .ok (.iload 4, 2) := by decide +kernel
theorem dX12_isKeptBy_42 : decode cX12_isKeptBy 42 = .ok (.iload_n 3, 1) := by decide +kernel
theorem dX12_isKeptBy_43 : decode cX12_isKeptBy 43 = .ok (.invokevirtual 391, 3) := by decide +kernel
theorem dX12_isKeptBy_46 : decode cX12_isKeptBy 46 = .ok (.istore 4, 2) := by decide +kernel
theorem dX12_isKeptBy_48 : decode cX12_isKeptBy 48 = .ok (.iinc 5 1, 3) := by decide +kernel
theorem dX12_isKeptBy_51 : decode cX12_isKeptBy 51 = .ok (.goto (-39), 3) := by decide +kernel
theorem dX12_isKeptBy_54 : decode cX12_isKeptBy 54 = .ok (.iconst 1, 1) := by decide +kernel
theorem dX12_isKeptBy_55 : decode cX12_isKeptBy 55 = .ok (.ireturn, 1) := by decide +kernel
theorem dX12_keeping_0 : decode cX12_keeping 0 = .ok (.aload_n 0, 1) := by decide +kernel
theorem dX12_keeping_1 : decode cX12_keeping 1 = .ok (.invokevirtual 313, 3) := by decide +kernel
theorem dX12_keeping_4 : decode cX12_keeping 4 = .ok (.aload_n 0, 1) := by decide +kernel
theorem dX12_keeping_5 : decode cX12_keeping 5 = .ok (.getfield 35, 3) := by decide +kernel
theorem dX12_keeping_8 : decode cX12_keeping 8 = .ok (.bipush 7, 2) := by decide +kernel
theorem dX12_keeping_10 : decode cX12_keeping 10 = .ok (.iaload, 1) := by decide +kernel
theorem dX12_keeping_11 : decode cX12_keeping 11 = .ok (.iconst (-1), 1) := by decide +kernel
theorem dX12_keeping_12 : decode cX12_keeping 12 = .ok (.ixor, 1) := by decide +kernel
theorem dX12_keeping_13 : decode cX12_keeping 13 = .ok (.iand, 1) := by decide +kernel
theorem dX12_keeping_14 : decode cX12_keeping 14 = .ok (.istore_n 3, 1) := by decide +kernel
theorem dX12_keeping_15 : decode cX12_keeping 15 = .ok (.iconst (-1), 1) := by decide +kernel
theorem dX12_keeping_16 : decode cX12_keeping 16 = .ok (.istore 4, 2) := by decide +kernel
theorem dX12_keeping_18 : decode cX12_keeping 18 = .ok (.iconst 0, 1) := by decide +kernel
theorem dX12_keeping_19 : decode cX12_keeping 19 = .ok (.istore 5, 2) := by decide +kernel
theorem dX12_keeping_21 : decode cX12_keeping 21 = .ok (.iload 5, 2) := by decide +kernel
theorem dX12_keeping_23 : decode cX12_keeping 23 = .ok (.iload_n 3, 1) := by decide +kernel
theorem dX12_keeping_24 : decode cX12_keeping 24 = .ok (.if_icmp .gt 70, 3) := by decide +kernel
theorem dX12_keeping_27 : decode cX12_keeping 27 = .ok (.iload 5, 2) := by decide +kernel
theorem dX12_keeping_29 : decode cX12_keeping 29 = .ok (.iload_n 3, 1) := by decide +kernel
theorem dX12_keeping_30 : decode cX12_keeping 30 = .ok (.iconst (-1), 1) := by decide +kernel
theorem dX12_keeping_31 : decode cX12_keeping 31 = .ok (.ixor, 1) := by decide +kernel
theorem dX12_keeping_32 : decode cX12_keeping 32 = .ok (.iand, 1) := by decide +kernel
theorem dX12_keeping_33 : decode cX12_keeping 33 = .ok (.ifCond .ne 55, 3) := by decide +kernel
theorem dX12_keeping_36 : decode cX12_keeping 36 = .ok (.iload 4, 2) := by decide +kernel
theorem dX12_keeping_38 : decode cX12_keeping 38 = .ok (.ifCond .lt 19, 3) := by decide +kernel
theorem dX12_keeping_41 : decode cX12_keeping 41 = .ok (.iload 5, 2) := by decide +kernel
theorem dX12_keeping_43 : decode cX12_keeping 43 = .ok (.invokestatic 397, 3) := by decide +kernel
theorem dX12_keeping_46 : decode cX12_keeping 46 = .ok (.iload 4, 2) := by decide +kernel
theorem dX12_keeping_48 : decode cX12_keeping 48 = .ok (.invokestatic 397, 3) := by decide +kernel
theorem dX12_keeping_51 : decode cX12_keeping 51 = .ok (.if_icmp .lt 6, 3) := by decide +kernel
theorem dX12_keeping_54 : decode cX12_keeping 54 = .ok (.goto 34, 3) := by decide +kernel
theorem dX12_keeping_57 : decode cX12_keeping 57 = .ok (.aload_n 0, 1) := by decide +kernel
theorem dX12_keeping_58 : decode cX12_keeping 58 = .ok (.aload_n 0, 1) := by decide +kernel
theorem dX12_keeping_59 : decode cX12_keeping 59 = .ok (.getfield 35, 3) := by decide +kernel
theorem dX12_keeping_62 : decode cX12_keeping 62 = .ok (.bipush 52, 2) := by decide +kernel
theorem dX12_keeping_64 : decode cX12_keeping 64 = .ok (.iload_n 1, 1) := by decide +kernel
theorem dX12_keeping_65 : decode cX12_keeping 65 = .ok (.iadd, 1) := by decide +kernel
theorem dX12_keeping_66 : decode cX12_keeping 66 = .ok (.iaload, 1) := by decide +kernel
theorem dX12_keeping_67 : decode cX12_keeping 67 = .ok (.iload_n 2, 1) := by decide +kernel
theorem dX12_keeping_68 : decode cX12_keeping 68 = .ok (.aload_n 0, 1) := by decide +kernel
theorem dX12_keeping_69 : decode cX12_keeping 69 = .ok (.getfield 35, 3) := by decide +kernel
theorem dX12_keeping_72 : decode cX12_keeping 72 = .ok (.bipush 7, 2) := by decide +kernel
theorem dX12_keeping_74 : decode cX12_keeping 74 = .ok (.iaload, 1) := by decide +kernel
theorem dX12_keeping_75 : decode cX12_keeping 75 = .ok (.iload 5, 2) := by decide +kernel
theorem dX12_keeping_77 : decode cX12_keeping 77 = .ok (.ior, 1) := by decide +kernel
theorem dX12_keeping_78 : decode cX12_keeping 78 = .ok (.invokevirtual 400, 3) := by decide +kernel
theorem dX12_keeping_81 : decode cX12_keeping 81 = .ok (.ifCond .eq 7, 3) := by decide +kernel
theorem dX12_keeping_84 : decode cX12_keeping 84 = .ok (.iload 5, 2) := by decide +kernel
theorem dX12_keeping_86 : decode cX12_keeping 86 = .ok (.istore 4, 2) := by decide +kernel
theorem dX12_keeping_88 : decode cX12_keeping 88 = .ok (.iinc 5 1, 3) := by decide +kernel
theorem dX12_keeping_91 : decode cX12_keeping 91 = .ok (.goto (-70), 3) := by decide +kernel
theorem dX12_keeping_94 : decode cX12_keeping 94 = .ok (.iload 4, 2) := by decide +kernel
theorem dX12_keeping_96 : decode cX12_keeping 96 = .ok (.ireturn, 1) := by decide +kernel
theorem dX12_whyNoKeep_0 : decode cX12_whyNoKeep 0 = .ok (.aload_n 0, 1) := by decide +kernel
theorem dX12_whyNoKeep_1 : decode cX12_whyNoKeep 1 = .ok (.iload_n 1, 1) := by decide +kernel
theorem dX12_whyNoKeep_2 : decode cX12_whyNoKeep 2 = .ok (.invokevirtual 342, 3) := by decide +kernel
theorem dX12_whyNoKeep_5 : decode cX12_whyNoKeep 5 = .ok (.ifCond .ne 7, 3) := by decide +kernel
theorem dX12_whyNoKeep_8 : decode cX12_whyNoKeep 8 = .ok (.iconst 2, 1) := by decide +kernel
theorem dX12_whyNoKeep_9 : decode cX12_whyNoKeep 9 = .ok (.goto 20, 3) := by decide +kernel
theorem dX12_whyNoKeep_12 : decode cX12_whyNoKeep 12 = .ok (.iload_n 2, 1) := by decide +kernel
theorem dX12_whyNoKeep_13 : decode cX12_whyNoKeep 13 = .ok (.i2l, 1) := by decide +kernel
theorem dX12_whyNoKeep_14 : decode cX12_whyNoKeep 14 = .ok (.lconst 0, 1) := by decide +kernel
theorem dX12_whyNoKeep_15 : decode cX12_whyNoKeep 15 = .ok (.ldc2_w 404, 3) := by decide +kernel
theorem dX12_whyNoKeep_18 : decode cX12_whyNoKeep 18 = .ok (.invokestatic 109, 3) := by decide +kernel
theorem dX12_whyNoKeep_21 : decode cX12_whyNoKeep 21 = .ok (.ifCond .eq 7, 3) := by decide +kernel
theorem dX12_whyNoKeep_24 : decode cX12_whyNoKeep 24 = .ok (.iconst 0, 1) := by decide +kernel
theorem dX12_whyNoKeep_25 : decode cX12_whyNoKeep 25 = .ok (.goto 4, 3) := by decide +kernel
theorem dX12_whyNoKeep_28 : decode cX12_whyNoKeep 28 = .ok (.iconst 5, 1) := by decide +kernel
theorem dX12_whyNoKeep_29 : decode cX12_whyNoKeep 29 = .ok (.ireturn, 1) := by decide +kernel
theorem dX12_keep_0 : decode cX12_keep 0 = .ok (.aload_n 0, 1) := by decide +kernel
theorem dX12_keep_1 : decode cX12_keep 1 = .ok (.iconst 0, 1) := by decide +kernel
theorem dX12_keep_2 : decode cX12_keep 2 = .ok (.putfield 74, 3) := by decide +kernel
theorem dX12_keep_5 : decode cX12_keep 5 = .ok (.aload_n 0, 1) := by decide +kernel
theorem dX12_keep_6 : decode cX12_keep 6 = .ok (.aload_n 0, 1) := by decide +kernel
theorem dX12_keep_7 : decode cX12_keep 7 = .ok (.iload_n 1, 1) := by decide +kernel
theorem dX12_keep_8 : decode cX12_keep 8 = .ok (.iload_n 2, 1) := by decide +kernel
theorem dX12_keep_9 : decode cX12_keep 9 = .ok (.invokevirtual 406, 3) := by decide +kernel
theorem dX12_keep_12 : decode cX12_keep 12 = .ok (.putfield 77, 3) := by decide +kernel
theorem dX12_keep_15 : decode cX12_keep 15 = .ok (.aload_n 0, 1) := by decide +kernel
theorem dX12_keep_16 : decode cX12_keep 16 = .ok (.getfield 77, 3) := by decide +kernel
theorem dX12_keep_19 : decode cX12_keep 19 = .ok (.ifCond .le 5, 3) := by decide +kernel
theorem dX12_keep_22 : decode cX12_keep 22 = .ok (.iconst (-1), 1) := by decide +kernel
theorem dX12_keep_23 : decode cX12_keep 23 = .ok (.ireturn, 1) := by decide +kernel
theorem dX12_keep_24 : decode cX12_keep 24 = .ok (.aload_n 0, 1) := by decide +kernel
theorem dX12_keep_25 : decode cX12_keep 25 = .ok (.iload_n 1, 1) := by decide +kernel
theorem dX12_keep_26 : decode cX12_keep 26 = .ok (.iload_n 2, 1) := by decide +kernel
theorem dX12_keep_27 : decode cX12_keep 27 = .ok (.invokevirtual 409, 3) := by decide +kernel
theorem dX12_keep_30 : decode cX12_keep 30 = .ok (.istore_n 3, 1) := by decide +kernel
theorem dX12_keep_31 : decode cX12_keep 31 = .ok (.iload_n 3, 1) := by decide +kernel
theorem dX12_keep_32 : decode cX12_keep 32 = .ok (.ifCond .ge 12, 3) := by decide +kernel
theorem dX12_keep_35 : decode cX12_keep 35 = .ok (.aload_n 0, 1) := by decide +kernel
theorem dX12_keep_36 : decode cX12_keep 36 = .ok (.bipush 8, 2) := by decide +kernel
theorem dX12_keep_38 : decode cX12_keep 38 = .ok (.invokevirtual 327, 3) := by decide +kernel
theorem dX12_keep_41 : decode cX12_keep 41 = .ok (.goto 7, 3) := by decide +kernel
theorem dX12_keep_44 : decode cX12_keep 44 = .ok (.iload_n 3, 1) := by decide +kernel
theorem dX12_keep_45 : decode cX12_keep 45 = .ok (.invokestatic 397, 3) := by decide +kernel
theorem dX12_keep_48 : decode cX12_keep 48 = .ok (.ireturn, 1) := by decide +kernel
theorem dX12_keepSet_0 : decode cX12_keepSet 0 = .ok (.aload_n 0, 1) := by decide +kernel
theorem dX12_keepSet_1 : decode cX12_keepSet 1 = .ok (.iconst 0, 1) := by decide +kernel
theorem dX12_keepSet_2 : decode cX12_keepSet 2 = .ok (.putfield 74, 3) := by decide +kernel
theorem dX12_keepSet_5 : decode cX12_keepSet 5 = .ok (.aload_n 0, 1) := by decide +kernel
theorem dX12_keepSet_6 : decode cX12_keepSet 6 = .ok (.aload_n 0, 1) := by decide +kernel
theorem dX12_keepSet_7 : decode cX12_keepSet 7 = .ok (.iload_n 1, 1) := by decide +kernel
theorem dX12_keepSet_8 : decode cX12_keepSet 8 = .ok (.iload_n 2, 1) := by decide +kernel
theorem dX12_keepSet_9 : decode cX12_keepSet 9 = .ok (.invokevirtual 406, 3) := by decide +kernel
theorem dX12_keepSet_12 : decode cX12_keepSet 12 = .ok (.putfield 77, 3) := by decide +kernel
theorem dX12_keepSet_15 : decode cX12_keepSet 15 = .ok (.aload_n 0, 1) := by decide +kernel
theorem dX12_keepSet_16 : decode cX12_keepSet 16 = .ok (.getfield 77, 3) := by decide +kernel
theorem dX12_keepSet_19 : decode cX12_keepSet 19 = .ok (.ifCond .le 5, 3) := by decide +kernel
theorem dX12_keepSet_22 : decode cX12_keepSet 22 = .ok (.iconst (-1), 1) := by decide +kernel
theorem dX12_keepSet_23 : decode cX12_keepSet 23 = .ok (.ireturn, 1) := by decide +kernel
theorem dX12_keepSet_24 : decode cX12_keepSet 24 = .ok (.aload_n 0, 1) := by decide +kernel
theorem dX12_keepSet_25 : decode cX12_keepSet 25 = .ok (.iload_n 1, 1) := by decide +kernel
theorem dX12_keepSet_26 : decode cX12_keepSet 26 = .ok (.iload_n 2, 1) := by decide +kernel
theorem dX12_keepSet_27 : decode cX12_keepSet 27 = .ok (.invokevirtual 409, 3) := by decide +kernel
theorem dX12_keepSet_30 : decode cX12_keepSet 30 = .ok (.istore_n 3, 1) := by decide +kernel
theorem dX12_keepSet_31 : decode cX12_keepSet 31 = .ok (.iload_n 3, 1) := by decide +kernel
theorem dX12_keepSet_32 : decode cX12_keepSet 32 = .ok (.ifCond .ge 12, 3) := by decide +kernel
theorem dX12_keepSet_35 : decode cX12_keepSet 35 = .ok (.aload_n 0, 1) := by decide +kernel
theorem dX12_keepSet_36 : decode cX12_keepSet 36 = .ok (.bipush 8, 2) := by decide +kernel
theorem dX12_keepSet_38 : decode cX12_keepSet 38 = .ok (.invokevirtual 327, 3) := by decide +kernel
theorem dX12_keepSet_41 : decode cX12_keepSet 41 = .ok (.goto 4, 3) := by decide +kernel
theorem dX12_keepSet_44 : decode cX12_keepSet 44 = .ok (.iload_n 3, 1) := by decide +kernel
theorem dX12_keepSet_45 : decode cX12_keepSet 45 = .ok (.ireturn, 1) := by decide +kernel
theorem dX12_striking_0 : decode cX12_striking 0 = .ok (.aload_n 0, 1) := by decide +kernel
theorem dX12_striking_1 : decode cX12_striking 1 = .ok (.invokevirtual 313, 3) := by decide +kernel
theorem dX12_striking_4 : decode cX12_striking 4 = .ok (.aload_n 0, 1) := by decide +kernel
theorem dX12_striking_5 : decode cX12_striking 5 = .ok (.getfield 35, 3) := by decide +kernel
theorem dX12_striking_8 : decode cX12_striking 8 = .ok (.bipush 7, 2) := by decide +kernel
theorem dX12_striking_10 : decode cX12_striking 10 = .ok (.iaload, 1) := by decide +kernel
theorem dX12_striking_11 : decode cX12_striking 11 = .ok (.iconst (-1), 1) := by decide +kernel
theorem dX12_striking_12 : decode cX12_striking 12 = .ok (.ixor, 1) := by decide +kernel
theorem dX12_striking_13 : decode cX12_striking 13 = .ok (.iand, 1) := by decide +kernel
theorem dX12_striking_14 : decode cX12_striking 14 = .ok (.istore_n 2, 1) := by decide +kernel
theorem dX12_striking_15 : decode cX12_striking 15 = .ok (.iconst (-1), 1) := by decide +kernel
theorem dX12_striking_16 : decode cX12_striking 16 = .ok (.istore_n 3, 1) := by decide +kernel
theorem dX12_striking_17 : decode cX12_striking 17 = .ok (.iconst 0, 1) := by decide +kernel
theorem dX12_striking_18 : decode cX12_striking 18 = .ok (.istore 4, 2) := by decide +kernel
theorem dX12_striking_20 : decode cX12_striking 20 = .ok (.iload 4, 2) := by decide +kernel
theorem dX12_striking_22 : decode cX12_striking 22 = .ok (.iload_n 2, 1) := by decide +kernel
theorem dX12_striking_23 : decode cX12_striking 23 = .ok (.if_icmp .gt 69, 3) := by decide +kernel
theorem dX12_striking_26 : decode cX12_striking 26 = .ok (.iload 4, 2) := by decide +kernel
theorem dX12_striking_28 : decode cX12_striking 28 = .ok (.iload_n 2, 1) := by decide +kernel
theorem dX12_striking_29 : decode cX12_striking 29 = .ok (.iconst (-1), 1) := by decide +kernel
theorem dX12_striking_30 : decode cX12_striking 30 = .ok (.ixor, 1) := by decide +kernel
theorem dX12_striking_31 : decode cX12_striking 31 = .ok (.iand, 1) := by decide +kernel
theorem dX12_striking_32 : decode cX12_striking 32 = .ok (.ifCond .ne 54, 3) := by decide +kernel
theorem dX12_striking_35 : decode cX12_striking 35 = .ok (.iload_n 3, 1) := by decide +kernel
theorem dX12_striking_36 : decode cX12_striking 36 = .ok (.ifCond .lt 18, 3) := by decide +kernel
theorem dX12_striking_39 : decode cX12_striking 39 = .ok (.iload 4, 2) := by decide +kernel
theorem dX12_striking_41 : decode cX12_striking 41 = .ok (.invokestatic 397, 3) := by decide +kernel
theorem dX12_striking_44 : decode cX12_striking 44 = .ok (.iload_n 3, 1) := by decide +kernel
theorem dX12_striking_45 : decode cX12_striking 45 = .ok (.invokestatic 397, 3) := by decide +kernel
theorem dX12_striking_48 : decode cX12_striking 48 = .ok (.if_icmp .lt 6, 3) := by decide +kernel
theorem dX12_striking_51 : decode cX12_striking 51 = .ok (.goto 35, 3) := by decide +kernel
theorem dX12_striking_54 : decode cX12_striking 54 = .ok (.aload_n 0, 1) := by decide +kernel
theorem dX12_striking_55 : decode cX12_striking 55 = .ok (.getfield 35, 3) := by decide +kernel
theorem dX12_striking_58 : decode cX12_striking 58 = .ok (.bipush 52, 2) := by decide +kernel
theorem dX12_striking_60 : decode cX12_striking 60 = .ok (.iload_n 1, 1) := by decide +kernel
theorem dX12_striking_61 : decode cX12_striking 61 = .ok (.iadd, 1) := by decide +kernel
theorem dX12_striking_62 : decode cX12_striking 62 = .ok (.iaload, 1) := by decide +kernel
theorem dX12_striking_63 : decode cX12_striking 63 = .ok (.aload_n 0, 1) := by decide +kernel
theorem dX12_striking_64 : decode cX12_striking 64 = .ok (.aload_n 0, 1) := by decide +kernel
theorem dX12_striking_65 : decode cX12_striking 65 = .ok (.getfield 35, 3) := by decide +kernel
theorem dX12_striking_68 : decode cX12_striking 68 = .ok (.bipush 6, 2) := by decide +kernel
theorem dX12_striking_70 : decode cX12_striking 70 = .ok (.iaload, 1) := by decide +kernel
theorem dX12_striking_71 : decode cX12_striking 71 = .ok (.iload 4, 2) := by decide +kernel
theorem dX12_striking_73 : decode cX12_striking 73 = .ok (.ior, 1) := by decide +kernel
theorem dX12_striking_74 : decode cX12_striking 74 = .ok (.invokevirtual 322, 3) := by decide +kernel
theorem dX12_striking_77 : decode cX12_striking 77 = .ok (.iconst (-1), 1) := by decide +kernel
theorem dX12_striking_78 : decode cX12_striking 78 = .ok (.ixor, 1) := by decide +kernel
theorem dX12_striking_79 : decode cX12_striking 79 = .ok (.iand, 1) := by decide +kernel
theorem dX12_striking_80 : decode cX12_striking 80 = .ok (.ifCond .eq 6, 3) := by decide +kernel
theorem dX12_striking_83 : decode cX12_striking 83 = .ok (.iload 4, 2) := by decide +kernel
theorem dX12_striking_85 : decode cX12_striking 85 = .ok (.istore_n 3, 1) := by decide +kernel
theorem dX12_striking_86 : decode cX12_striking 86 = .ok (.iinc 4 1, 3) := by decide +kernel
theorem dX12_striking_89 : decode cX12_striking 89 = .ok (.goto (-69), 3) := by decide +kernel
theorem dX12_striking_92 : decode cX12_striking 92 = .ok (.iload_n 3, 1) := by decide +kernel
theorem dX12_striking_93 : decode cX12_striking 93 = .ok (.ireturn, 1) := by decide +kernel
theorem dX12_strike_0 : decode cX12_strike 0 = .ok (.aload_n 0, 1) := by decide +kernel
theorem dX12_strike_1 : decode cX12_strike 1 = .ok (.iconst 0, 1) := by decide +kernel
theorem dX12_strike_2 : decode cX12_strike 2 = .ok (.putfield 74, 3) := by decide +kernel
theorem dX12_strike_5 : decode cX12_strike 5 = .ok (.aload_n 0, 1) := by decide +kernel
theorem dX12_strike_6 : decode cX12_strike 6 = .ok (.iconst 0, 1) := by decide +kernel
theorem dX12_strike_7 : decode cX12_strike 7 = .ok (.putfield 77, 3) := by decide +kernel
theorem dX12_strike_10 : decode cX12_strike 10 = .ok (.aload_n 0, 1) := by decide +kernel
theorem dX12_strike_11 : decode cX12_strike 11 = .ok (.iload_n 1, 1) := by decide +kernel
theorem dX12_strike_12 : decode cX12_strike 12 = .ok (.invokevirtual 342, 3) := by decide +kernel
theorem dX12_strike_15 : decode cX12_strike 15 = .ok (.ifCond .ne 9, 3) := by decide +kernel
theorem dX12_strike_18 : decode cX12_strike 18 = .ok (.aload_n 0, 1) := by decide +kernel
theorem dX12_strike_19 : decode cX12_strike 19 = .ok (.iconst 2, 1) := by decide +kernel
theorem dX12_strike_20 : decode cX12_strike 20 = .ok (.invokevirtual 327, 3) := by decide +kernel
theorem dX12_strike_23 : decode cX12_strike 23 = .ok (.ireturn, 1) := by decide +kernel
theorem dX12_strike_24 : decode cX12_strike 24 = .ok (.aload_n 0, 1) := by decide +kernel
theorem dX12_strike_25 : decode cX12_strike 25 = .ok (.iload_n 1, 1) := by decide +kernel
theorem dX12_strike_26 : decode cX12_strike 26 = .ok (.invokevirtual 412, 3) := by decide +kernel
theorem dX12_strike_29 : decode cX12_strike 29 = .ok (.istore_n 2, 1) := by decide +kernel
theorem dX12_strike_30 : decode cX12_strike 30 = .ok (.iload_n 2, 1) := by decide +kernel
theorem dX12_strike_31 : decode cX12_strike 31 = .ok (.ifCond .ge 12, 3) := by decide +kernel
theorem dX12_strike_34 : decode cX12_strike 34 = .ok (.aload_n 0, 1) := by decide +kernel
theorem dX12_strike_35 : decode cX12_strike 35 = .ok (.bipush 8, 2) := by decide +kernel
theorem dX12_strike_37 : decode cX12_strike 37 = .ok (.invokevirtual 327, 3) := by decide +kernel
theorem dX12_strike_40 : decode cX12_strike 40 = .ok (.goto 7, 3) := by decide +kernel
theorem dX12_strike_43 : decode cX12_strike 43 = .ok (.iload_n 2, 1) := by decide +kernel
theorem dX12_strike_44 : decode cX12_strike 44 = .ok (.invokestatic 397, 3) := by decide +kernel
theorem dX12_strike_47 : decode cX12_strike 47 = .ok (.ireturn, 1) := by decide +kernel
theorem dX12_strikeSet_0 : decode cX12_strikeSet 0 = .ok (.aload_n 0, 1) := by decide +kernel
theorem dX12_strikeSet_1 : decode cX12_strikeSet 1 = .ok (.iconst 0, 1) := by decide +kernel
theorem dX12_strikeSet_2 : decode cX12_strikeSet 2 = .ok (.putfield 74, 3) := by decide +kernel
theorem dX12_strikeSet_5 : decode cX12_strikeSet 5 = .ok (.aload_n 0, 1) := by decide +kernel
theorem dX12_strikeSet_6 : decode cX12_strikeSet 6 = .ok (.iconst 0, 1) := by decide +kernel
theorem dX12_strikeSet_7 : decode cX12_strikeSet 7 = .ok (.putfield 77, 3) := by decide +kernel
theorem dX12_strikeSet_10 : decode cX12_strikeSet 10 = .ok (.aload_n 0, 1) := by decide +kernel
theorem dX12_strikeSet_11 : decode cX12_strikeSet 11 = .ok (.iload_n 1, 1) := by decide +kernel
theorem dX12_strikeSet_12 : decode cX12_strikeSet 12 = .ok (.invokevirtual 342, 3) := by decide +kernel
theorem dX12_strikeSet_15 : decode cX12_strikeSet 15 = .ok (.ifCond .ne 9, 3) := by decide +kernel
theorem dX12_strikeSet_18 : decode cX12_strikeSet 18 = .ok (.aload_n 0, 1) := by decide +kernel
theorem dX12_strikeSet_19 : decode cX12_strikeSet 19 = .ok (.iconst 2, 1) := by decide +kernel
theorem dX12_strikeSet_20 : decode cX12_strikeSet 20 = .ok (.invokevirtual 327, 3) := by decide +kernel
theorem dX12_strikeSet_23 : decode cX12_strikeSet 23 = .ok (.ireturn, 1) := by decide +kernel
theorem dX12_strikeSet_24 : decode cX12_strikeSet 24 = .ok (.aload_n 0, 1) := by decide +kernel
theorem dX12_strikeSet_25 : decode cX12_strikeSet 25 = .ok (.iload_n 1, 1) := by decide +kernel
theorem dX12_strikeSet_26 : decode cX12_strikeSet 26 = .ok (.invokevirtual 412, 3) := by decide +kernel
theorem dX12_strikeSet_29 : decode cX12_strikeSet 29 = .ok (.istore_n 2, 1) := by decide +kernel
theorem dX12_strikeSet_30 : decode cX12_strikeSet 30 = .ok (.iload_n 2, 1) := by decide +kernel
theorem dX12_strikeSet_31 : decode cX12_strikeSet 31 = .ok (.ifCond .ge 12, 3) := by decide +kernel
theorem dX12_strikeSet_34 : decode cX12_strikeSet 34 = .ok (.aload_n 0, 1) := by decide +kernel
theorem dX12_strikeSet_35 : decode cX12_strikeSet 35 = .ok (.bipush 8, 2) := by decide +kernel
theorem dX12_strikeSet_37 : decode cX12_strikeSet 37 = .ok (.invokevirtual 327, 3) := by decide +kernel
theorem dX12_strikeSet_40 : decode cX12_strikeSet 40 = .ok (.goto 4, 3) := by decide +kernel
theorem dX12_strikeSet_43 : decode cX12_strikeSet 43 = .ok (.iload_n 2, 1) := by decide +kernel
theorem dX12_strikeSet_44 : decode cX12_strikeSet 44 = .ok (.ireturn, 1) := by decide +kernel
theorem dX12_orders_0 : decode cX12_orders 0 = .ok (.iload_n 1, 1) := by decide +kernel
theorem dX12_orders_1 : decode cX12_orders 1 = .ok (.ifCond .ne 61, 3) := by decide +kernel
theorem dX12_orders_4 : decode cX12_orders 4 = .ok (.aload_n 0, 1) := by decide +kernel
theorem dX12_orders_5 : decode cX12_orders 5 = .ok (.getfield 415, 3) := by decide +kernel
theorem dX12_orders_8 : decode cX12_orders 8 = .ok (.ifCond .lt 13, 3) := by decide +kernel
theorem dX12_orders_11 : decode cX12_orders 11 = .ok (.iload 4, 2) := by decide +kernel
theorem dX12_orders_13 : decode cX12_orders 13 = .ok (.aload_n 0, 1) := by decide +kernel
theorem dX12_orders_14 : decode cX12_orders 14 = .ok (.getfield 415, 3) := by decide +kernel
theorem dX12_orders_17 : decode cX12_orders 17 = .ok (.if_icmp .gt 4, 3) := by decide +kernel
theorem dX12_orders_20 : decode cX12_orders 20 = .ok (.return_, 1) := by decide +kernel
theorem dX12_orders_21 : decode cX12_orders 21 = .ok (.aload_n 0, 1) := by decide +kernel
theorem dX12_orders_22 : decode cX12_orders 22 = .ok (.iload 4, 2) := by decide +kernel
theorem dX12_orders_24 : decode cX12_orders 24 = .ok (.putfield 415, 3) := by decide +kernel
theorem dX12_orders_27 : decode cX12_orders 27 = .ok (.aload_n 0, 1) := by decide +kernel
theorem dX12_orders_28 : decode cX12_orders 28 = .ok (.iload_n 3, 1) := by decide +kernel
theorem dX12_orders_29 : decode cX12_orders 29 = .ok (.putfield 418, 3) := by decide +kernel
theorem dX12_orders_32 : decode cX12_orders 32 = .ok (.iconst 0, 1) := by decide +kernel
theorem dX12_orders_33 : decode cX12_orders 33 = .ok (.istore 5, 2) := by decide +kernel
theorem dX12_orders_35 : decode cX12_orders 35 = .ok (.iload 5, 2) := by decide +kernel
theorem dX12_orders_37 : decode cX12_orders 37 = .ok (.iload_n 3, 1) := by decide +kernel
theorem dX12_orders_38 : decode cX12_orders 38 = .ok (.if_icmp .ge 23, 3) := by decide +kernel
theorem dX12_orders_41 : decode cX12_orders 41 = .ok (.aload_n 0, 1) := by decide +kernel
theorem dX12_orders_42 : decode cX12_orders 42 = .ok (.getfield 56, 3) := by decide +kernel
theorem dX12_orders_45 : decode cX12_orders 45 = .ok (.iload 5, 2) := by decide +kernel
theorem dX12_orders_47 : decode cX12_orders 47 = .ok (.aload_n 0, 1) := by decide +kernel
theorem dX12_orders_48 : decode cX12_orders 48 = .ok (.getfield 53, 3) := by decide +kernel
theorem dX12_orders_51 : decode cX12_orders 51 = .ok (.iload 5, 2) := by decide +kernel
theorem dX12_orders_53 : decode cX12_orders 53 = .ok (.iaload, 1) := by decide +kernel
theorem dX12_orders_54 : decode cX12_orders 54 = .ok (.iastore, 1) := by decide +kernel
theorem dX12_orders_55 : decode cX12_orders 55 = .ok (.iinc 5 1, 3) := by decide +kernel
theorem dX12_orders_58 : decode cX12_orders 58 = .ok (.goto (-23), 3) := by decide +kernel
theorem dX12_orders_61 : decode cX12_orders 61 = .ok (.return_, 1) := by decide +kernel
theorem dX12_orders_62 : decode cX12_orders 62 = .ok (.iconst 0, 1) := by decide +kernel
theorem dX12_orders_63 : decode cX12_orders 63 = .ok (.istore 5, 2) := by decide +kernel
theorem dX12_orders_65 : decode cX12_orders 65 = .ok (.iload 5, 2) := by decide +kernel
theorem dX12_orders_67 : decode cX12_orders 67 = .ok (.aload_n 0, 1) := by decide +kernel
theorem dX12_orders_68 : decode cX12_orders 68 = .ok (.getfield 35, 3) := by decide +kernel
theorem dX12_orders_71 : decode cX12_orders 71 = .ok (.iconst 0, 1) := by decide +kernel
theorem dX12_orders_72 : decode cX12_orders 72 = .ok (.iaload, 1) := by decide +kernel
theorem dX12_orders_73 : decode cX12_orders 73 = .ok (.if_icmp .ge 70, 3) := by decide +kernel
theorem dX12_orders_76 : decode cX12_orders 76 = .ok (.iload_n 1, 1) := by decide +kernel
theorem dX12_orders_77 : decode cX12_orders 77 = .ok (.iload 5, 2) := by decide +kernel
theorem dX12_orders_79 : decode cX12_orders 79 = .ok (.invokestatic 113, 3) := by decide +kernel
theorem dX12_orders_82 : decode cX12_orders 82 = .ok (.ifCond .ne 6, 3) := by decide +kernel
theorem dX12_orders_85 : decode cX12_orders 85 = .ok (.goto 52, 3) := by decide +kernel
theorem dX12_orders_88 : decode cX12_orders 88 = .ok (.aload_n 0, 1) := by decide +kernel
theorem dX12_orders_89 : decode cX12_orders 89 = .ok (.getfield 53, 3) := by decide +kernel
theorem dX12_orders_92 : decode cX12_orders 92 = .ok (.iload_n 3, 1) := by decide +kernel
theorem dX12_orders_93 : decode cX12_orders 93 = .ok (.iload 5, 2) := by decide +kernel
theorem dX12_orders_95 : decode cX12_orders 95 = .ok (.iastore, 1) := by decide +kernel
theorem dX12_orders_96 : decode cX12_orders 96 = .ok (.iload_n 2, 1) := by decide +kernel
theorem dX12_orders_97 : decode cX12_orders 97 = .ok (.iconst 1, 1) := by decide +kernel
theorem dX12_orders_98 : decode cX12_orders 98 = .ok (.iload 5, 2) := by decide +kernel
theorem dX12_orders_100 : decode cX12_orders 100 = .ok (.ishl, 1) := by decide +kernel
theorem dX12_orders_101 : decode cX12_orders 101 = .ok (.ior, 1) := by decide +kernel
theorem dX12_orders_102 : decode cX12_orders 102 = .ok (.istore 6, 2) := by decide +kernel
theorem dX12_orders_104 : decode cX12_orders 104 = .ok (.aload_n 0, 1) := by decide +kernel
theorem dX12_orders_105 : decode cX12_orders 105 = .ok (.iload_n 1, 1) := by decide +kernel
theorem dX12_orders_106 : decode cX12_orders 106 = .ok (.iconst 1, 1) := by decide +kernel
theorem dX12_orders_107 : decode cX12_orders 107 = .ok (.iload 5, 2) := by decide +kernel
theorem dX12_orders_109 : decode cX12_orders 109 = .ok (.ishl, 1) := by decide +kernel
theorem dX12_orders_110 : decode cX12_orders 110 = .ok (.iconst (-1), 1) := by decide +kernel
theorem dX12_orders_111 : decode cX12_orders 111 = .ok (.ixor, 1) := by decide +kernel
theorem dX12_orders_112 : decode cX12_orders 112 = .ok (.iand, 1) := by decide +kernel
theorem dX12_orders_113 : decode cX12_orders 113 = .ok (.iload 6, 2) := by decide +kernel
theorem dX12_orders_115 : decode cX12_orders 115 = .ok (.iload_n 3, 1) := by decide +kernel
theorem dX12_orders_116 : decode cX12_orders 116 = .ok (.iconst 1, 1) := by decide +kernel
theorem dX12_orders_117 : decode cX12_orders 117 = .ok (.iadd, 1) := by decide +kernel
theorem dX12_orders_118 : decode cX12_orders 118 = .ok (.iload 4, 2) := by decide +kernel
theorem dX12_orders_120 : decode cX12_orders 120 = .ok (.aload_n 0, 1) := by decide +kernel
theorem dX12_orders_121 : decode cX12_orders 121 = .ok (.aload_n 0, 1) := by decide +kernel
theorem dX12_orders_122 : decode cX12_orders 122 = .ok (.iload 6, 2) := by decide +kernel
theorem dX12_orders_124 : decode cX12_orders 124 = .ok (.invokevirtual 322, 3) := by decide +kernel
theorem dX12_orders_127 : decode cX12_orders 127 = .ok (.invokevirtual 333, 3) := by decide +kernel
theorem dX12_orders_130 : decode cX12_orders 130 = .ok (.invokestatic 397, 3) := by decide +kernel
theorem dX12_orders_133 : decode cX12_orders 133 = .ok (.iadd, 1) := by decide +kernel
theorem dX12_orders_134 : decode cX12_orders 134 = .ok (.invokevirtual 421, 3) := by decide +kernel
theorem dX12_orders_137 : decode cX12_orders 137 = .ok (.iinc 5 1, 3) := by decide +kernel
theorem dX12_orders_140 : decode cX12_orders 140 = .ok (.goto (-75), 3) := by decide +kernel
theorem dX12_orders_143 : decode cX12_orders 143 = .ok (.return_, 1) := by decide +kernel
theorem dX12_agenda_0 : decode cX12_agenda 0 = .ok (.aload_n 0, 1) := by decide +kernel
theorem dX12_agenda_1 : decode cX12_agenda 1 = .ok (.iconst 0, 1) := by decide +kernel
theorem dX12_agenda_2 : decode cX12_agenda 2 = .ok (.putfield 74, 3) := by decide +kernel
theorem dX12_agenda_5 : decode cX12_agenda 5 = .ok (.aload_n 0, 1) := by decide +kernel
theorem dX12_agenda_6 : decode cX12_agenda 6 = .ok (.iconst 0, 1) := by decide +kernel
theorem dX12_agenda_7 : decode cX12_agenda 7 = .ok (.putfield 77, 3) := by decide +kernel
theorem dX12_agenda_10 : decode cX12_agenda 10 = .ok (.aload_n 0, 1) := by decide +kernel
theorem dX12_agenda_11 : decode cX12_agenda 11 = .ok (.iload_n 1, 1) := by decide +kernel
theorem dX12_agenda_12 : decode cX12_agenda 12 = .ok (.invokevirtual 425, 3) := by decide +kernel
theorem dX12_agenda_15 : decode cX12_agenda 15 = .ok (.ifCond .eq 18, 3) := by decide +kernel
theorem dX12_agenda_18 : decode cX12_agenda 18 = .ok (.iload_n 1, 1) := by decide +kernel
theorem dX12_agenda_19 : decode cX12_agenda 19 = .ok (.invokestatic 397, 3) := by decide +kernel
theorem dX12_agenda_22 : decode cX12_agenda 22 = .ok (.i2l, 1) := by decide +kernel
theorem dX12_agenda_23 : decode cX12_agenda 23 = .ok (.lconst 1, 1) := by decide +kernel
theorem dX12_agenda_24 : decode cX12_agenda 24 = .ok (.ldc2_w 428, 3) := by decide +kernel
theorem dX12_agenda_27 : decode cX12_agenda 27 = .ok (.invokestatic 109, 3) := by decide +kernel
theorem dX12_agenda_30 : decode cX12_agenda 30 = .ok (.ifCond .ne 9, 3) := by decide +kernel
theorem dX12_agenda_33 : decode cX12_agenda 33 = .ok (.aload_n 0, 1) := by decide +kernel
theorem dX12_agenda_34 : decode cX12_agenda 34 = .ok (.iconst 5, 1) := by decide +kernel
theorem dX12_agenda_35 : decode cX12_agenda 35 = .ok (.invokevirtual 327, 3) := by decide +kernel
theorem dX12_agenda_38 : decode cX12_agenda 38 = .ok (.ireturn, 1) := by decide +kernel
theorem dX12_agenda_39 : decode cX12_agenda 39 = .ok (.iload_n 1, 1) := by decide +kernel
theorem dX12_agenda_40 : decode cX12_agenda 40 = .ok (.aload_n 0, 1) := by decide +kernel
theorem dX12_agenda_41 : decode cX12_agenda 41 = .ok (.invokevirtual 330, 3) := by decide +kernel
theorem dX12_agenda_44 : decode cX12_agenda 44 = .ok (.iconst (-1), 1) := by decide +kernel
theorem dX12_agenda_45 : decode cX12_agenda 45 = .ok (.ixor, 1) := by decide +kernel
theorem dX12_agenda_46 : decode cX12_agenda 46 = .ok (.iand, 1) := by decide +kernel
theorem dX12_agenda_47 : decode cX12_agenda 47 = .ok (.ifCond .eq 10, 3) := by decide +kernel
theorem dX12_agenda_50 : decode cX12_agenda 50 = .ok (.aload_n 0, 1) := by decide +kernel
theorem dX12_agenda_51 : decode cX12_agenda 51 = .ok (.bipush 9, 2) := by decide +kernel
theorem dX12_agenda_53 : decode cX12_agenda 53 = .ok (.invokevirtual 327, 3) := by decide +kernel
theorem dX12_agenda_56 : decode cX12_agenda 56 = .ok (.ireturn, 1) := by decide +kernel
theorem dX12_agenda_57 : decode cX12_agenda 57 = .ok (.aload_n 0, 1) := by decide +kernel
theorem dX12_agenda_58 : decode cX12_agenda 58 = .ok (.iconst (-1), 1) := by decide +kernel
theorem dX12_agenda_59 : decode cX12_agenda 59 = .ok (.putfield 415, 3) := by decide +kernel
theorem dX12_agenda_62 : decode cX12_agenda 62 = .ok (.aload_n 0, 1) := by decide +kernel
theorem dX12_agenda_63 : decode cX12_agenda 63 = .ok (.iload_n 1, 1) := by decide +kernel
theorem dX12_agenda_64 : decode cX12_agenda 64 = .ok (.aload_n 0, 1) := by decide +kernel
theorem dX12_agenda_65 : decode cX12_agenda 65 = .ok (.getfield 35, 3) := by decide +kernel
theorem dX12_agenda_68 : decode cX12_agenda 68 = .ok (.bipush 6, 2) := by decide +kernel
theorem dX12_agenda_70 : decode cX12_agenda 70 = .ok (.iaload, 1) := by decide +kernel
theorem dX12_agenda_71 : decode cX12_agenda 71 = .ok (.iconst 0, 1) := by decide +kernel
theorem dX12_agenda_72 : decode cX12_agenda 72 = .ok (.iconst 0, 1) := by decide +kernel
theorem dX12_agenda_73 : decode cX12_agenda 73 = .ok (.invokevirtual 421, 3) := by decide +kernel
theorem dX12_agenda_76 : decode cX12_agenda 76 = .ok (.aload_n 0, 1) := by decide +kernel
theorem dX12_agenda_77 : decode cX12_agenda 77 = .ok (.getfield 415, 3) := by decide +kernel
theorem dX12_agenda_80 : decode cX12_agenda 80 = .ok (.ireturn, 1) := by decide +kernel
theorem dX12_agendaAt_0 : decode cX12_agendaAt 0 = .ok (.aload_n 0, 1) := by decide +kernel
theorem dX12_agendaAt_1 : decode cX12_agendaAt 1 = .ok (.iconst 0, 1) := by decide +kernel
theorem dX12_agendaAt_2 : decode cX12_agendaAt 2 = .ok (.putfield 74, 3) := by decide +kernel
theorem dX12_agendaAt_5 : decode cX12_agendaAt 5 = .ok (.aload_n 0, 1) := by decide +kernel
theorem dX12_agendaAt_6 : decode cX12_agendaAt 6 = .ok (.iconst 0, 1) := by decide +kernel
theorem dX12_agendaAt_7 : decode cX12_agendaAt 7 = .ok (.putfield 77, 3) := by decide +kernel
theorem dX12_agendaAt_10 : decode cX12_agendaAt 10 = .ok (.iload_n 1, 1) := by decide +kernel
theorem dX12_agendaAt_11 : decode cX12_agendaAt 11 = .ok (.i2l, 1) := by decide +kernel
theorem dX12_agendaAt_12 : decode cX12_agendaAt 12 = .ok (.lconst 0, 1) := by decide +kernel
theorem dX12_agendaAt_13 : decode cX12_agendaAt 13 = .ok (.aload_n 0, 1) := by decide +kernel
theorem dX12_agendaAt_14 : decode cX12_agendaAt 14 = .ok (.getfield 418, 3) := by decide +kernel
theorem dX12_agendaAt_17 : decode cX12_agendaAt 17 = .ok (.iconst 1, 1) := by decide +kernel
theorem dX12_agendaAt_18 : decode cX12_agendaAt 18 = .ok (.isub, 1) := by decide +kernel
theorem dX12_agendaAt_19 : decode cX12_agendaAt 19 = .ok (.i2l, 1) := by decide +kernel
theorem dX12_agendaAt_20 : decode cX12_agendaAt 20 = .ok (.invokestatic 109, 3) := by decide +kernel
theorem dX12_agendaAt_23 : decode cX12_agendaAt 23 = .ok (.ifCond .eq 12, 3) := by decide +kernel
theorem dX12_agendaAt_26 : decode cX12_agendaAt 26 = .ok (.aload_n 0, 1) := by decide +kernel
theorem dX12_agendaAt_27 : decode cX12_agendaAt 27 = .ok (.getfield 56, 3) := by decide +kernel
theorem dX12_agendaAt_30 : decode cX12_agendaAt 30 = .ok (.iload_n 1, 1) := by decide +kernel
theorem dX12_agendaAt_31 : decode cX12_agendaAt 31 = .ok (.iaload, 1) := by decide +kernel
theorem dX12_agendaAt_32 : decode cX12_agendaAt 32 = .ok (.goto 9, 3) := by decide +kernel
theorem dX12_agendaAt_35 : decode cX12_agendaAt 35 = .ok (.aload_n 0, 1) := by decide +kernel
theorem dX12_agendaAt_36 : decode cX12_agendaAt 36 = .ok (.bipush 8, 2) := by decide +kernel
theorem dX12_agendaAt_38 : decode cX12_agendaAt 38 = .ok (.invokevirtual 327, 3) := by decide +kernel
theorem dX12_agendaAt_41 : decode cX12_agendaAt 41 = .ok (.ireturn, 1) := by decide +kernel
theorem dX12_plays_0 : decode cX12_plays 0 = .ok (.aload_n 0, 1) := by decide +kernel
theorem dX12_plays_1 : decode cX12_plays 1 = .ok (.iload_n 2, 1) := by decide +kernel
theorem dX12_plays_2 : decode cX12_plays 2 = .ok (.invokevirtual 322, 3) := by decide +kernel
theorem dX12_plays_5 : decode cX12_plays 5 = .ok (.istore 6, 2) := by decide +kernel
theorem dX12_plays_7 : decode cX12_plays 7 = .ok (.iload_n 3, 1) := by decide +kernel
theorem dX12_plays_8 : decode cX12_plays 8 = .ok (.ifCond .ne 29, 3) := by decide +kernel
theorem dX12_plays_11 : decode cX12_plays 11 = .ok (.aload_n 0, 1) := by decide +kernel
theorem dX12_plays_12 : decode cX12_plays 12 = .ok (.iload 6, 2) := by decide +kernel
theorem dX12_plays_14 : decode cX12_plays 14 = .ok (.invokevirtual 333, 3) := by decide +kernel
theorem dX12_plays_17 : decode cX12_plays 17 = .ok (.istore 7, 2) := by decide +kernel
theorem dX12_plays_19 : decode cX12_plays 19 = .ok (.iload 7, 2) := by decide +kernel
theorem dX12_plays_21 : decode cX12_plays 21 = .ok (.iload_n 1, 1) := by decide +kernel
theorem dX12_plays_22 : decode cX12_plays 22 = .ok (.iand, 1) := by decide +kernel
theorem dX12_plays_23 : decode cX12_plays 23 = .ok (.invokestatic 397, 3) := by decide +kernel
theorem dX12_plays_26 : decode cX12_plays 26 = .ok (.iload 7, 2) := by decide +kernel
theorem dX12_plays_28 : decode cX12_plays 28 = .ok (.iload_n 1, 1) := by decide +kernel
theorem dX12_plays_29 : decode cX12_plays 29 = .ok (.iconst (-1), 1) := by decide +kernel
theorem dX12_plays_30 : decode cX12_plays 30 = .ok (.ixor, 1) := by decide +kernel
theorem dX12_plays_31 : decode cX12_plays 31 = .ok (.iand, 1) := by decide +kernel
theorem dX12_plays_32 : decode cX12_plays 32 = .ok (.invokestatic 397, 3) := by decide +kernel
theorem dX12_plays_35 : decode cX12_plays 35 = .ok (.isub, 1) := by decide +kernel
theorem dX12_plays_36 : decode cX12_plays 36 = .ok (.ireturn, 1) := by decide +kernel
theorem dX12_plays_37 : decode cX12_plays 37 = .ok (.iconst 0, 1) := by decide +kernel
theorem dX12_plays_38 : decode cX12_plays 38 = .ok (.istore 7, 2) := by decide +kernel
theorem dX12_plays_40 : decode cX12_plays 40 = .ok (.iconst (-1), 1) := by decide +kernel
theorem dX12_plays_41 : decode cX12_plays 41 = .ok (.istore 8, 2) := by decide +kernel
theorem dX12_plays_43 : decode cX12_plays 43 = .ok (.iconst 0, 1) := by decide +kernel
theorem dX12_plays_44 : decode cX12_plays 44 = .ok (.istore 9, 2) := by decide +kernel
theorem dX12_plays_46 : decode cX12_plays 46 = .ok (.iload 9, 2) := by decide +kernel
theorem dX12_plays_48 : decode cX12_plays 48 = .ok (.aload_n 0, 1) := by decide +kernel
theorem dX12_plays_49 : decode cX12_plays 49 = .ok (.getfield 35, 3) := by decide +kernel
theorem dX12_plays_52 : decode cX12_plays 52 = .ok (.iconst 0, 1) := by decide +kernel
theorem dX12_plays_53 : decode cX12_plays 53 = .ok (.iaload, 1) := by decide +kernel
theorem dX12_plays_54 : decode cX12_plays 54 = .ok (.if_icmp .ge 97, 3) := by decide +kernel
theorem dX12_plays_57 : decode cX12_plays 57 = .ok (.iload 6, 2) := by decide +kernel
theorem dX12_plays_59 : decode cX12_plays 59 = .ok (.aload_n 0, 1) := by decide +kernel
theorem dX12_plays_60 : decode cX12_plays 60 = .ok (.getfield 35, 3) := by decide +kernel
theorem dX12_plays_63 : decode cX12_plays 63 = .ok (.bipush 7, 2) := by decide +kernel
theorem dX12_plays_65 : decode cX12_plays 65 = .ok (.iaload, 1) := by decide +kernel
theorem dX12_plays_66 : decode cX12_plays 66 = .ok (.iconst (-1), 1) := by decide +kernel
theorem dX12_plays_67 : decode cX12_plays 67 = .ok (.ixor, 1) := by decide +kernel
theorem dX12_plays_68 : decode cX12_plays 68 = .ok (.iand, 1) := by decide +kernel
theorem dX12_plays_69 : decode cX12_plays 69 = .ok (.iload 9, 2) := by decide +kernel
theorem dX12_plays_71 : decode cX12_plays 71 = .ok (.invokestatic 113, 3) := by decide +kernel
theorem dX12_plays_74 : decode cX12_plays 74 = .ok (.ifCond .ne 6, 3) := by decide +kernel
theorem dX12_plays_77 : decode cX12_plays 77 = .ok (.goto 68, 3) := by decide +kernel
theorem dX12_plays_80 : decode cX12_plays 80 = .ok (.aload_n 0, 1) := by decide +kernel
theorem dX12_plays_81 : decode cX12_plays 81 = .ok (.iload_n 1, 1) := by decide +kernel
theorem dX12_plays_82 : decode cX12_plays 82 = .ok (.iload_n 2, 1) := by decide +kernel
theorem dX12_plays_83 : decode cX12_plays 83 = .ok (.iconst 1, 1) := by decide +kernel
theorem dX12_plays_84 : decode cX12_plays 84 = .ok (.iload 9, 2) := by decide +kernel
theorem dX12_plays_86 : decode cX12_plays 86 = .ok (.ishl, 1) := by decide +kernel
theorem dX12_plays_87 : decode cX12_plays 87 = .ok (.ior, 1) := by decide +kernel
theorem dX12_plays_88 : decode cX12_plays 88 = .ok (.iload_n 3, 1) := by decide +kernel
theorem dX12_plays_89 : decode cX12_plays 89 = .ok (.iconst 1, 1) := by decide +kernel
theorem dX12_plays_90 : decode cX12_plays 90 = .ok (.isub, 1) := by decide +kernel
theorem dX12_plays_91 : decode cX12_plays 91 = .ok (.iload 4, 2) := by decide +kernel
theorem dX12_plays_93 : decode cX12_plays 93 = .ok (.ifCond .ne 7, 3) := by decide +kernel
theorem dX12_plays_96 : decode cX12_plays 96 = .ok (.iconst 1, 1) := by decide +kernel
theorem dX12_plays_97 : decode cX12_plays 97 = .ok (.goto 4, 3) := by decide +kernel
theorem dX12_plays_100 : decode cX12_plays 100 = .ok (.iconst 0, 1) := by decide +kernel
theorem dX12_plays_101 : decode cX12_plays 101 = .ok (.iconst 0, 1) := by decide +kernel
theorem dX12_plays_102 : decode cX12_plays 102 = .ok (.invokevirtual 430, 3) := by decide +kernel
theorem dX12_plays_105 : decode cX12_plays 105 = .ok (.istore 10, 2) := by decide +kernel
theorem dX12_plays_107 : decode cX12_plays 107 = .ok (.iload 8, 2) := by decide +kernel
theorem dX12_plays_109 : decode cX12_plays 109 = .ok (.ifCond .lt 28, 3) := by decide +kernel
theorem dX12_plays_112 : decode cX12_plays 112 = .ok (.iload 4, 2) := by decide +kernel
theorem dX12_plays_114 : decode cX12_plays 114 = .ok (.ifCond .eq 13, 3) := by decide +kernel
theorem dX12_plays_117 : decode cX12_plays 117 = .ok (.iload 10, 2) := by decide +kernel
theorem dX12_plays_119 : decode cX12_plays 119 = .ok (.iload 7, 2) := by decide +kernel
theorem dX12_plays_121 : decode cX12_plays 121 = .ok (.if_icmp .gt 16, 3) := by decide +kernel
theorem dX12_plays_124 : decode cX12_plays 124 = .ok (.goto 21, 3) := by decide +kernel
theorem dX12_plays_127 : decode cX12_plays 127 = .ok (.iload 10, 2) := by decide +kernel
theorem dX12_plays_129 : decode cX12_plays 129 = .ok (.iload 7, 2) := by decide +kernel
theorem dX12_plays_131 : decode cX12_plays 131 = .ok (.if_icmp .lt 6, 3) := by decide +kernel
theorem dX12_plays_134 : decode cX12_plays 134 = .ok (.goto 11, 3) := by decide +kernel
theorem dX12_plays_137 : decode cX12_plays 137 = .ok (.iload 10, 2) := by decide +kernel
theorem dX12_plays_139 : decode cX12_plays 139 = .ok (.istore 7, 2) := by decide +kernel
theorem dX12_plays_141 : decode cX12_plays 141 = .ok (.iload 9, 2) := by decide +kernel
theorem dX12_plays_143 : decode cX12_plays 143 = .ok (.istore 8, 2) := by decide +kernel
theorem dX12_plays_145 : decode cX12_plays 145 = .ok (.iinc 9 1, 3) := by decide +kernel
theorem dX12_plays_148 : decode cX12_plays 148 = .ok (.goto (-102), 3) := by decide +kernel
theorem dX12_plays_151 : decode cX12_plays 151 = .ok (.iload 5, 2) := by decide +kernel
theorem dX12_plays_153 : decode cX12_plays 153 = .ok (.ifCond .eq 9, 3) := by decide +kernel
theorem dX12_plays_156 : decode cX12_plays 156 = .ok (.aload_n 0, 1) := by decide +kernel
theorem dX12_plays_157 : decode cX12_plays 157 = .ok (.iload 8, 2) := by decide +kernel
theorem dX12_plays_159 : decode cX12_plays 159 = .ok (.putfield 434, 3) := by decide +kernel
theorem dX12_plays_162 : decode cX12_plays 162 = .ok (.iload 8, 2) := by decide +kernel
theorem dX12_plays_164 : decode cX12_plays 164 = .ok (.ifCond .ge 26, 3) := by decide +kernel
theorem dX12_plays_167 : decode cX12_plays 167 = .ok (.aload_n 0, 1) := by decide +kernel
theorem dX12_plays_168 : decode cX12_plays 168 = .ok (.iload_n 1, 1) := by decide +kernel
theorem dX12_plays_169 : decode cX12_plays 169 = .ok (.iload_n 2, 1) := by decide +kernel
theorem dX12_plays_170 : decode cX12_plays 170 = .ok (.iload_n 3, 1) := by decide +kernel
theorem dX12_plays_171 : decode cX12_plays 171 = .ok (.iconst 1, 1) := by decide +kernel
theorem dX12_plays_172 : decode cX12_plays 172 = .ok (.isub, 1) := by decide +kernel
theorem dX12_plays_173 : decode cX12_plays 173 = .ok (.iload 4, 2) := by decide +kernel
theorem dX12_plays_175 : decode cX12_plays 175 = .ok (.ifCond .ne 7, 3) := by decide +kernel
theorem dX12_plays_178 : decode cX12_plays 178 = .ok (.iconst 1, 1) := by decide +kernel
theorem dX12_plays_179 : decode cX12_plays 179 = .ok (.goto 4, 3) := by decide +kernel
theorem dX12_plays_182 : decode cX12_plays 182 = .ok (.iconst 0, 1) := by decide +kernel
theorem dX12_plays_183 : decode cX12_plays 183 = .ok (.iconst 0, 1) := by decide +kernel
theorem dX12_plays_184 : decode cX12_plays 184 = .ok (.invokevirtual 430, 3) := by decide +kernel
theorem dX12_plays_187 : decode cX12_plays 187 = .ok (.goto 5, 3) := by decide +kernel
theorem dX12_plays_190 : decode cX12_plays 190 = .ok (.iload 7, 2) := by decide +kernel
theorem dX12_plays_192 : decode cX12_plays 192 = .ok (.ireturn, 1) := by decide +kernel
theorem dX12_whyNoGame_0 : decode cX12_whyNoGame 0 = .ok (.iload_n 1, 1) := by decide +kernel
theorem dX12_whyNoGame_1 : decode cX12_whyNoGame 1 = .ok (.i2l, 1) := by decide +kernel
theorem dX12_whyNoGame_2 : decode cX12_whyNoGame 2 = .ok (.lconst 0, 1) := by decide +kernel
theorem dX12_whyNoGame_3 : decode cX12_whyNoGame 3 = .ok (.iconst 1, 1) := by decide +kernel
theorem dX12_whyNoGame_4 : decode cX12_whyNoGame 4 = .ok (.aload_n 0, 1) := by decide +kernel
theorem dX12_whyNoGame_5 : decode cX12_whyNoGame 5 = .ok (.getfield 35, 3) := by decide +kernel
theorem dX12_whyNoGame_8 : decode cX12_whyNoGame 8 = .ok (.iconst 2, 1) := by decide +kernel
theorem dX12_whyNoGame_9 : decode cX12_whyNoGame 9 = .ok (.iaload, 1) := by decide +kernel
theorem dX12_whyNoGame_10 : decode cX12_whyNoGame 10 = .ok (.ishl, 1) := by decide +kernel
theorem dX12_whyNoGame_11 : decode cX12_whyNoGame 11 = .ok (.iconst 1, 1) := by decide +kernel
theorem dX12_whyNoGame_12 : decode cX12_whyNoGame 12 = .ok (.isub, 1) := by decide +kernel
theorem dX12_whyNoGame_13 : decode cX12_whyNoGame 13 = .ok (.i2l, 1) := by decide +kernel
theorem dX12_whyNoGame_14 : decode cX12_whyNoGame 14 = .ok (.invokestatic 109, 3) := by decide +kernel
theorem dX12_whyNoGame_17 : decode cX12_whyNoGame 17 = .ok (.ifCond .eq 19, 3) := by decide +kernel
theorem dX12_whyNoGame_20 : decode cX12_whyNoGame 20 = .ok (.iload_n 2, 1) := by decide +kernel
theorem dX12_whyNoGame_21 : decode cX12_whyNoGame 21 = .ok (.i2l, 1) := by decide +kernel
theorem dX12_whyNoGame_22 : decode cX12_whyNoGame 22 = .ok (.lconst 1, 1) := by decide +kernel
theorem dX12_whyNoGame_23 : decode cX12_whyNoGame 23 = .ok (.ldc2_w 437, 3) := by decide +kernel
theorem dX12_whyNoGame_26 : decode cX12_whyNoGame 26 = .ok (.invokestatic 109, 3) := by decide +kernel
theorem dX12_whyNoGame_29 : decode cX12_whyNoGame 29 = .ok (.ifCond .eq 7, 3) := by decide +kernel
theorem dX12_whyNoGame_32 : decode cX12_whyNoGame 32 = .ok (.iconst 0, 1) := by decide +kernel
theorem dX12_whyNoGame_33 : decode cX12_whyNoGame 33 = .ok (.goto 4, 3) := by decide +kernel
theorem dX12_whyNoGame_36 : decode cX12_whyNoGame 36 = .ok (.iconst 5, 1) := by decide +kernel
theorem dX12_whyNoGame_37 : decode cX12_whyNoGame 37 = .ok (.ireturn, 1) := by decide +kernel
theorem dX12_game_0 : decode cX12_game 0 = .ok (.aload_n 0, 1) := by decide +kernel
theorem dX12_game_1 : decode cX12_game 1 = .ok (.iconst 0, 1) := by decide +kernel
theorem dX12_game_2 : decode cX12_game 2 = .ok (.putfield 74, 3) := by decide +kernel
theorem dX12_game_5 : decode cX12_game 5 = .ok (.aload_n 0, 1) := by decide +kernel
theorem dX12_game_6 : decode cX12_game 6 = .ok (.aload_n 0, 1) := by decide +kernel
theorem dX12_game_7 : decode cX12_game 7 = .ok (.iload_n 1, 1) := by decide +kernel
theorem dX12_game_8 : decode cX12_game 8 = .ok (.iload_n 2, 1) := by decide +kernel
theorem dX12_game_9 : decode cX12_game 9 = .ok (.invokevirtual 439, 3) := by decide +kernel
theorem dX12_game_12 : decode cX12_game 12 = .ok (.putfield 77, 3) := by decide +kernel
theorem dX12_game_15 : decode cX12_game 15 = .ok (.aload_n 0, 1) := by decide +kernel
theorem dX12_game_16 : decode cX12_game 16 = .ok (.getfield 77, 3) := by decide +kernel
theorem dX12_game_19 : decode cX12_game 19 = .ok (.ifCond .le 7, 3) := by decide +kernel
theorem dX12_game_22 : decode cX12_game 22 = .ok (.iconst (-1), 1) := by decide +kernel
theorem dX12_game_23 : decode cX12_game 23 = .ok (.goto 18, 3) := by decide +kernel
theorem dX12_game_26 : decode cX12_game 26 = .ok (.aload_n 0, 1) := by decide +kernel
theorem dX12_game_27 : decode cX12_game 27 = .ok (.iload_n 1, 1) := by decide +kernel
theorem dX12_game_28 : decode cX12_game 28 = .ok (.aload_n 0, 1) := by decide +kernel
theorem dX12_game_29 : decode cX12_game 29 = .ok (.getfield 35, 3) := by decide +kernel
theorem dX12_game_32 : decode cX12_game 32 = .ok (.bipush 6, 2) := by decide +kernel
theorem dX12_game_34 : decode cX12_game 34 = .ok (.iaload, 1) := by decide +kernel
theorem dX12_game_35 : decode cX12_game 35 = .ok (.iload_n 2, 1) := by decide +kernel
theorem dX12_game_36 : decode cX12_game 36 = .ok (.iconst 1, 1) := by decide +kernel
theorem dX12_game_37 : decode cX12_game 37 = .ok (.iconst 1, 1) := by decide +kernel
theorem dX12_game_38 : decode cX12_game 38 = .ok (.invokevirtual 430, 3) := by decide +kernel
theorem dX12_game_41 : decode cX12_game 41 = .ok (.ireturn, 1) := by decide +kernel
theorem dX12_firstMove_0 : decode cX12_firstMove 0 = .ok (.aload_n 0, 1) := by decide +kernel
theorem dX12_firstMove_1 : decode cX12_firstMove 1 = .ok (.iconst 0, 1) := by decide +kernel
theorem dX12_firstMove_2 : decode cX12_firstMove 2 = .ok (.putfield 74, 3) := by decide +kernel
theorem dX12_firstMove_5 : decode cX12_firstMove 5 = .ok (.aload_n 0, 1) := by decide +kernel
theorem dX12_firstMove_6 : decode cX12_firstMove 6 = .ok (.aload_n 0, 1) := by decide +kernel
theorem dX12_firstMove_7 : decode cX12_firstMove 7 = .ok (.iload_n 1, 1) := by decide +kernel
theorem dX12_firstMove_8 : decode cX12_firstMove 8 = .ok (.iload_n 2, 1) := by decide +kernel
theorem dX12_firstMove_9 : decode cX12_firstMove 9 = .ok (.invokevirtual 439, 3) := by decide +kernel
theorem dX12_firstMove_12 : decode cX12_firstMove 12 = .ok (.putfield 77, 3) := by decide +kernel
theorem dX12_firstMove_15 : decode cX12_firstMove 15 = .ok (.aload_n 0, 1) := by decide +kernel
theorem dX12_firstMove_16 : decode cX12_firstMove 16 = .ok (.getfield 77, 3) := by decide +kernel
theorem dX12_firstMove_19 : decode cX12_firstMove 19 = .ok (.ifCond .le 5, 3) := by decide +kernel
theorem dX12_firstMove_22 : decode cX12_firstMove 22 = .ok (.iconst (-1), 1) := by decide +kernel
theorem dX12_firstMove_23 : decode cX12_firstMove 23 = .ok (.ireturn, 1) := by decide +kernel
theorem dX12_firstMove_24 : decode cX12_firstMove 24 = .ok (.aload_n 0, 1) := by decide +kernel
theorem dX12_firstMove_25 : decode cX12_firstMove 25 = .ok (.iload_n 1, 1) := by decide +kernel
theorem dX12_firstMove_26 : decode cX12_firstMove 26 = .ok (.aload_n 0, 1) := by decide +kernel
theorem dX12_firstMove_27 : decode cX12_firstMove 27 = .ok (.getfield 35, 3) := by decide +kernel
theorem dX12_firstMove_30 : decode cX12_firstMove 30 = .ok (.bipush 6, 2) := by decide +kernel
theorem dX12_firstMove_32 : decode cX12_firstMove 32 = .ok (.iaload, 1) := by decide +kernel
theorem dX12_firstMove_33 : decode cX12_firstMove 33 = .ok (.iload_n 2, 1) := by decide +kernel
theorem dX12_firstMove_34 : decode cX12_firstMove 34 = .ok (.iconst 1, 1) := by decide +kernel
theorem dX12_firstMove_35 : decode cX12_firstMove 35 = .ok (.iconst 1, 1) := by decide +kernel
theorem dX12_firstMove_36 : decode cX12_firstMove 36 = .ok (.invokevirtual 430, 3) := by decide +kernel
theorem dX12_firstMove_39 : decode cX12_firstMove 39 = .ok (.pop, 1) := by decide +kernel
theorem dX12_firstMove_40 : decode cX12_firstMove 40 = .ok (.aload_n 0, 1) := by decide +kernel
theorem dX12_firstMove_41 : decode cX12_firstMove 41 = .ok (.getfield 434, 3) := by decide +kernel
theorem dX12_firstMove_44 : decode cX12_firstMove 44 = .ok (.ifCond .ge 12, 3) := by decide +kernel
theorem dX12_firstMove_47 : decode cX12_firstMove 47 = .ok (.aload_n 0, 1) := by decide +kernel
theorem dX12_firstMove_48 : decode cX12_firstMove 48 = .ok (.bipush 8, 2) := by decide +kernel
theorem dX12_firstMove_50 : decode cX12_firstMove 50 = .ok (.invokevirtual 327, 3) := by decide +kernel
theorem dX12_firstMove_53 : decode cX12_firstMove 53 = .ok (.goto 7, 3) := by decide +kernel
theorem dX12_firstMove_56 : decode cX12_firstMove 56 = .ok (.aload_n 0, 1) := by decide +kernel
theorem dX12_firstMove_57 : decode cX12_firstMove 57 = .ok (.getfield 434, 3) := by decide +kernel
theorem dX12_firstMove_60 : decode cX12_firstMove 60 = .ok (.ireturn, 1) := by decide +kernel
theorem dX12_makingsFor_0 : decode cX12_makingsFor 0 = .ok (.aload_n 0, 1) := by decide +kernel
theorem dX12_makingsFor_1 : decode cX12_makingsFor 1 = .ok (.getfield 35, 3) := by decide +kernel
theorem dX12_makingsFor_4 : decode cX12_makingsFor 4 = .ok (.bipush 6, 2) := by decide +kernel
theorem dX12_makingsFor_6 : decode cX12_makingsFor 6 = .ok (.iaload, 1) := by decide +kernel
theorem dX12_makingsFor_7 : decode cX12_makingsFor 7 = .ok (.iload_n 1, 1) := by decide +kernel
theorem dX12_makingsFor_8 : decode cX12_makingsFor 8 = .ok (.invokestatic 113, 3) := by decide +kernel
theorem dX12_makingsFor_11 : decode cX12_makingsFor 11 = .ok (.ifCond .eq 5, 3) := by decide +kernel
theorem dX12_makingsFor_14 : decode cX12_makingsFor 14 = .ok (.iconst (-1), 1) := by decide +kernel
theorem dX12_makingsFor_15 : decode cX12_makingsFor 15 = .ok (.ireturn, 1) := by decide +kernel
theorem dX12_makingsFor_16 : decode cX12_makingsFor 16 = .ok (.iconst (-1), 1) := by decide +kernel
theorem dX12_makingsFor_17 : decode cX12_makingsFor 17 = .ok (.istore_n 2, 1) := by decide +kernel
theorem dX12_makingsFor_18 : decode cX12_makingsFor 18 = .ok (.iconst 0, 1) := by decide +kernel
theorem dX12_makingsFor_19 : decode cX12_makingsFor 19 = .ok (.istore_n 3, 1) := by decide +kernel
theorem dX12_makingsFor_20 : decode cX12_makingsFor 20 = .ok (.iload_n 3, 1) := by decide +kernel
theorem dX12_makingsFor_21 : decode cX12_makingsFor 21 = .ok (.iconst 1, 1) := by decide +kernel
theorem dX12_makingsFor_22 : decode cX12_makingsFor 22 = .ok (.aload_n 0, 1) := by decide +kernel
theorem dX12_makingsFor_23 : decode cX12_makingsFor 23 = .ok (.getfield 35, 3) := by decide +kernel
theorem dX12_makingsFor_26 : decode cX12_makingsFor 26 = .ok (.iconst 1, 1) := by decide +kernel
theorem dX12_makingsFor_27 : decode cX12_makingsFor 27 = .ok (.iaload, 1) := by decide +kernel
theorem dX12_makingsFor_28 : decode cX12_makingsFor 28 = .ok (.ishl, 1) := by decide +kernel
theorem dX12_makingsFor_29 : decode cX12_makingsFor 29 = .ok (.if_icmp .ge 48, 3) := by decide +kernel
theorem dX12_makingsFor_32 : decode cX12_makingsFor 32 = .ok (.iload_n 2, 1) := by decide +kernel
theorem dX12_makingsFor_33 : decode cX12_makingsFor 33 = .ok (.ifCond .lt 17, 3) := by decide +kernel
theorem dX12_makingsFor_36 : decode cX12_makingsFor 36 = .ok (.iload_n 3, 1) := by decide +kernel
theorem dX12_makingsFor_37 : decode cX12_makingsFor 37 = .ok (.invokestatic 397, 3) := by decide +kernel
theorem dX12_makingsFor_40 : decode cX12_makingsFor 40 = .ok (.iload_n 2, 1) := by decide +kernel
theorem dX12_makingsFor_41 : decode cX12_makingsFor 41 = .ok (.invokestatic 397, 3) := by decide +kernel
theorem dX12_makingsFor_44 : decode cX12_makingsFor 44 = .ok (.if_icmp .lt 6, 3) := by decide +kernel
theorem dX12_makingsFor_47 : decode cX12_makingsFor 47 = .ok (.goto 24, 3) := by decide +kernel
theorem dX12_makingsFor_50 : decode cX12_makingsFor 50 = .ok (.aload_n 0, 1) := by decide +kernel
theorem dX12_makingsFor_51 : decode cX12_makingsFor 51 = .ok (.aload_n 0, 1) := by decide +kernel
theorem dX12_makingsFor_52 : decode cX12_makingsFor 52 = .ok (.getfield 35, 3) := by decide +kernel
theorem dX12_makingsFor_55 : decode cX12_makingsFor 55 = .ok (.bipush 6, 2) := by decide +kernel
theorem dX12_makingsFor_57 : decode cX12_makingsFor 57 = .ok (.iaload, 1) := by decide +kernel
theorem dX12_makingsFor_58 : decode cX12_makingsFor 58 = .ok (.iload_n 3, 1) := by decide +kernel
theorem dX12_makingsFor_59 : decode cX12_makingsFor 59 = .ok (.invokevirtual 319, 3) := by decide +kernel
theorem dX12_makingsFor_62 : decode cX12_makingsFor 62 = .ok (.iload_n 1, 1) := by decide +kernel
theorem dX12_makingsFor_63 : decode cX12_makingsFor 63 = .ok (.invokestatic 113, 3) := by decide +kernel
theorem dX12_makingsFor_66 : decode cX12_makingsFor 66 = .ok (.ifCond .eq 5, 3) := by decide +kernel
theorem dX12_makingsFor_69 : decode cX12_makingsFor 69 = .ok (.iload_n 3, 1) := by decide +kernel
theorem dX12_makingsFor_70 : decode cX12_makingsFor 70 = .ok (.istore_n 2, 1) := by decide +kernel
theorem dX12_makingsFor_71 : decode cX12_makingsFor 71 = .ok (.iinc 3 1, 3) := by decide +kernel
theorem dX12_makingsFor_74 : decode cX12_makingsFor 74 = .ok (.goto (-54), 3) := by decide +kernel
theorem dX12_makingsFor_77 : decode cX12_makingsFor 77 = .ok (.iload_n 2, 1) := by decide +kernel
theorem dX12_makingsFor_78 : decode cX12_makingsFor 78 = .ok (.ireturn, 1) := by decide +kernel
theorem dX12_again_0 : decode cX12_again 0 = .ok (.aload_n 0, 1) := by decide +kernel
theorem dX12_again_1 : decode cX12_again 1 = .ok (.iconst 0, 1) := by decide +kernel
theorem dX12_again_2 : decode cX12_again 2 = .ok (.putfield 74, 3) := by decide +kernel
theorem dX12_again_5 : decode cX12_again 5 = .ok (.aload_n 0, 1) := by decide +kernel
theorem dX12_again_6 : decode cX12_again 6 = .ok (.iconst 0, 1) := by decide +kernel
theorem dX12_again_7 : decode cX12_again 7 = .ok (.putfield 77, 3) := by decide +kernel
theorem dX12_again_10 : decode cX12_again 10 = .ok (.aload_n 0, 1) := by decide +kernel
theorem dX12_again_11 : decode cX12_again 11 = .ok (.iload_n 1, 1) := by decide +kernel
theorem dX12_again_12 : decode cX12_again 12 = .ok (.invokevirtual 339, 3) := by decide +kernel
theorem dX12_again_15 : decode cX12_again 15 = .ok (.ifCond .ne 9, 3) := by decide +kernel
theorem dX12_again_18 : decode cX12_again 18 = .ok (.aload_n 0, 1) := by decide +kernel
theorem dX12_again_19 : decode cX12_again 19 = .ok (.iconst 2, 1) := by decide +kernel
theorem dX12_again_20 : decode cX12_again 20 = .ok (.invokevirtual 327, 3) := by decide +kernel
theorem dX12_again_23 : decode cX12_again 23 = .ok (.ireturn, 1) := by decide +kernel
theorem dX12_again_24 : decode cX12_again 24 = .ok (.aload_n 0, 1) := by decide +kernel
theorem dX12_again_25 : decode cX12_again 25 = .ok (.iload_n 1, 1) := by decide +kernel
theorem dX12_again_26 : decode cX12_again 26 = .ok (.invokevirtual 442, 3) := by decide +kernel
theorem dX12_again_29 : decode cX12_again 29 = .ok (.istore_n 2, 1) := by decide +kernel
theorem dX12_again_30 : decode cX12_again 30 = .ok (.iload_n 2, 1) := by decide +kernel
theorem dX12_again_31 : decode cX12_again 31 = .ok (.ifCond .ge 12, 3) := by decide +kernel
theorem dX12_again_34 : decode cX12_again 34 = .ok (.aload_n 0, 1) := by decide +kernel
theorem dX12_again_35 : decode cX12_again 35 = .ok (.bipush 8, 2) := by decide +kernel
theorem dX12_again_37 : decode cX12_again 37 = .ok (.invokevirtual 327, 3) := by decide +kernel
theorem dX12_again_40 : decode cX12_again 40 = .ok (.goto 7, 3) := by decide +kernel
theorem dX12_again_43 : decode cX12_again 43 = .ok (.iload_n 2, 1) := by decide +kernel
theorem dX12_again_44 : decode cX12_again 44 = .ok (.invokestatic 397, 3) := by decide +kernel
theorem dX12_again_47 : decode cX12_again 47 = .ok (.ireturn, 1) := by decide +kernel
theorem dX12_againSet_0 : decode cX12_againSet 0 = .ok (.aload_n 0, 1) := by decide +kernel
theorem dX12_againSet_1 : decode cX12_againSet 1 = .ok (.iconst 0, 1) := by decide +kernel
theorem dX12_againSet_2 : decode cX12_againSet 2 = .ok (.putfield 74, 3) := by decide +kernel
theorem dX12_againSet_5 : decode cX12_againSet 5 = .ok (.aload_n 0, 1) := by decide +kernel
theorem dX12_againSet_6 : decode cX12_againSet 6 = .ok (.iconst 0, 1) := by decide +kernel
theorem dX12_againSet_7 : decode cX12_againSet 7 = .ok (.putfield 77, 3) := by decide +kernel
theorem dX12_againSet_10 : decode cX12_againSet 10 = .ok (.aload_n 0, 1) := by decide +kernel
theorem dX12_againSet_11 : decode cX12_againSet 11 = .ok (.iload_n 1, 1) := by decide +kernel
theorem dX12_againSet_12 : decode cX12_againSet 12 = .ok (.invokevirtual 339, 3) := by decide +kernel
theorem dX12_againSet_15 : decode cX12_againSet 15 = .ok (.ifCond .ne 9, 3) := by decide +kernel
theorem dX12_againSet_18 : decode cX12_againSet 18 = .ok (.aload_n 0, 1) := by decide +kernel
theorem dX12_againSet_19 : decode cX12_againSet 19 = .ok (.iconst 2, 1) := by decide +kernel
theorem dX12_againSet_20 : decode cX12_againSet 20 = .ok (.invokevirtual 327, 3) := by decide +kernel
theorem dX12_againSet_23 : decode cX12_againSet 23 = .ok (.ireturn, 1) := by decide +kernel
theorem dX12_againSet_24 : decode cX12_againSet 24 = .ok (.aload_n 0, 1) := by decide +kernel
theorem dX12_againSet_25 : decode cX12_againSet 25 = .ok (.iload_n 1, 1) := by decide +kernel
theorem dX12_againSet_26 : decode cX12_againSet 26 = .ok (.invokevirtual 442, 3) := by decide +kernel
theorem dX12_againSet_29 : decode cX12_againSet 29 = .ok (.istore_n 2, 1) := by decide +kernel
theorem dX12_againSet_30 : decode cX12_againSet 30 = .ok (.iload_n 2, 1) := by decide +kernel
theorem dX12_againSet_31 : decode cX12_againSet 31 = .ok (.ifCond .ge 12, 3) := by decide +kernel
theorem dX12_againSet_34 : decode cX12_againSet 34 = .ok (.aload_n 0, 1) := by decide +kernel
theorem dX12_againSet_35 : decode cX12_againSet 35 = .ok (.bipush 8, 2) := by decide +kernel
theorem dX12_againSet_37 : decode cX12_againSet 37 = .ok (.invokevirtual 327, 3) := by decide +kernel
theorem dX12_againSet_40 : decode cX12_againSet 40 = .ok (.goto 4, 3) := by decide +kernel
theorem dX12_againSet_43 : decode cX12_againSet 43 = .ok (.iload_n 2, 1) := by decide +kernel
theorem dX12_againSet_44 : decode cX12_againSet 44 = .ok (.ireturn, 1) := by decide +kernel
theorem dX12_wasIt_0 : decode cX12_wasIt 0 = .ok (.aload_n 0, 1) := by decide +kernel
theorem dX12_wasIt_1 : decode cX12_wasIt 1 = .ok (.iconst 0, 1) := by decide +kernel
theorem dX12_wasIt_2 : decode cX12_wasIt 2 = .ok (.putfield 74, 3) := by decide +kernel
theorem dX12_wasIt_5 : decode cX12_wasIt 5 = .ok (.aload_n 0, 1) := by decide +kernel
theorem dX12_wasIt_6 : decode cX12_wasIt 6 = .ok (.iconst 0, 1) := by decide +kernel
theorem dX12_wasIt_7 : decode cX12_wasIt 7 = .ok (.putfield 77, 3) := by decide +kernel
theorem dX12_wasIt_10 : decode cX12_wasIt 10 = .ok (.aload_n 0, 1) := by decide +kernel
theorem dX12_wasIt_11 : decode cX12_wasIt 11 = .ok (.iload_n 1, 1) := by decide +kernel
theorem dX12_wasIt_12 : decode cX12_wasIt 12 = .ok (.invokevirtual 425, 3) := by decide +kernel
theorem dX12_wasIt_15 : decode cX12_wasIt 15 = .ok (.ifCond .ne 9, 3) := by decide +kernel
theorem dX12_wasIt_18 : decode cX12_wasIt 18 = .ok (.aload_n 0, 1) := by decide +kernel
theorem dX12_wasIt_19 : decode cX12_wasIt 19 = .ok (.iconst 5, 1) := by decide +kernel
theorem dX12_wasIt_20 : decode cX12_wasIt 20 = .ok (.invokevirtual 327, 3) := by decide +kernel
theorem dX12_wasIt_23 : decode cX12_wasIt 23 = .ok (.ireturn, 1) := by decide +kernel
theorem dX12_wasIt_24 : decode cX12_wasIt 24 = .ok (.iconst 0, 1) := by decide +kernel
theorem dX12_wasIt_25 : decode cX12_wasIt 25 = .ok (.istore_n 2, 1) := by decide +kernel
theorem dX12_wasIt_26 : decode cX12_wasIt 26 = .ok (.iconst 0, 1) := by decide +kernel
theorem dX12_wasIt_27 : decode cX12_wasIt 27 = .ok (.istore_n 3, 1) := by decide +kernel
theorem dX12_wasIt_28 : decode cX12_wasIt 28 = .ok (.iload_n 3, 1) := by decide +kernel
theorem dX12_wasIt_29 : decode cX12_wasIt 29 = .ok (.aload_n 0, 1) := by decide +kernel
theorem dX12_wasIt_30 : decode cX12_wasIt 30 = .ok (.getfield 35, 3) := by decide +kernel
theorem dX12_wasIt_33 : decode cX12_wasIt 33 = .ok (.iconst 0, 1) := by decide +kernel
theorem dX12_wasIt_34 : decode cX12_wasIt 34 = .ok (.iaload, 1) := by decide +kernel
theorem dX12_wasIt_35 : decode cX12_wasIt 35 = .ok (.if_icmp .ge 39, 3) := by decide +kernel
theorem dX12_wasIt_38 : decode cX12_wasIt 38 = .ok (.iload_n 2, 1) := by decide +kernel
theorem dX12_wasIt_39 : decode cX12_wasIt 39 = .ok (.aload_n 0, 1) := by decide +kernel
theorem dX12_wasIt_40 : decode cX12_wasIt 40 = .ok (.invokevirtual 330, 3) := by decide +kernel
theorem dX12_wasIt_43 : decode cX12_wasIt 43 = .ok (.iload_n 3, 1) := by decide +kernel
theorem dX12_wasIt_44 : decode cX12_wasIt 44 = .ok (.invokestatic 113, 3) := by decide +kernel
theorem dX12_wasIt_47 : decode cX12_wasIt 47 = .ok (.ifCond .eq 18, 3) := by decide +kernel
theorem dX12_wasIt_50 : decode cX12_wasIt 50 = .ok (.aload_n 0, 1) := by decide +kernel
theorem dX12_wasIt_51 : decode cX12_wasIt 51 = .ok (.iload_n 3, 1) := by decide +kernel
theorem dX12_wasIt_52 : decode cX12_wasIt 52 = .ok (.invokevirtual 388, 3) := by decide +kernel
theorem dX12_wasIt_55 : decode cX12_wasIt 55 = .ok (.iload_n 1, 1) := by decide +kernel
theorem dX12_wasIt_56 : decode cX12_wasIt 56 = .ok (.if_icmp .ne 9, 3) := by decide +kernel
theorem dX12_wasIt_59 : decode cX12_wasIt 59 = .ok (.iconst 1, 1) := by decide +kernel
theorem dX12_wasIt_60 : decode cX12_wasIt 60 = .ok (.iload_n 3, 1) := by decide +kernel
theorem dX12_wasIt_61 : decode cX12_wasIt 61 = .ok (.ishl, 1) := by decide +kernel
theorem dX12_wasIt_62 : decode cX12_wasIt 62 = .ok (.goto 4, 3) := by decide +kernel
theorem dX12_wasIt_65 : decode cX12_wasIt 65 = .ok (.iconst 0, 1) := by decide +kernel
theorem dX12_wasIt_66 : decode cX12_wasIt 66 = .ok (.ior, 1) := by decide +kernel
theorem dX12_wasIt_67 : decode cX12_wasIt 67 = .ok (.istore_n 2, 1) := by decide +kernel
theorem dX12_wasIt_68 : decode cX12_wasIt 68 = .ok (.iinc 3 1, 3) := by decide +kernel
theorem dX12_wasIt_71 : decode cX12_wasIt 71 = .ok (.goto (-43), 3) := by decide +kernel
theorem dX12_wasIt_74 : decode cX12_wasIt 74 = .ok (.iload_n 2, 1) := by decide +kernel
theorem dX12_wasIt_75 : decode cX12_wasIt 75 = .ok (.ireturn, 1) := by decide +kernel
theorem dX12_laysFalls_0 : decode cX12_laysFalls 0 = .ok (.iconst 0, 1) := by decide +kernel
theorem dX12_laysFalls_1 : decode cX12_laysFalls 1 = .ok (.istore_n 2, 1) := by decide +kernel
theorem dX12_laysFalls_2 : decode cX12_laysFalls 2 = .ok (.iload_n 2, 1) := by decide +kernel
theorem dX12_laysFalls_3 : decode cX12_laysFalls 3 = .ok (.aload_n 0, 1) := by decide +kernel
theorem dX12_laysFalls_4 : decode cX12_laysFalls 4 = .ok (.getfield 35, 3) := by decide +kernel
theorem dX12_laysFalls_7 : decode cX12_laysFalls 7 = .ok (.iconst 0, 1) := by decide +kernel
theorem dX12_laysFalls_8 : decode cX12_laysFalls 8 = .ok (.iaload, 1) := by decide +kernel
theorem dX12_laysFalls_9 : decode cX12_laysFalls 9 = .ok (.if_icmp .ge 16, 3) := by decide +kernel
theorem dX12_laysFalls_12 : decode cX12_laysFalls 12 = .ok (.aload_n 0, 1) := by decide +kernel
theorem dX12_laysFalls_13 : decode cX12_laysFalls 13 = .ok (.getfield 59, 3) := by decide +kernel
theorem dX12_laysFalls_16 : decode cX12_laysFalls 16 = .ok (.iload_n 2, 1) := by decide +kernel
theorem dX12_laysFalls_17 : decode cX12_laysFalls 17 = .ok (.iconst 0, 1) := by decide +kernel
theorem dX12_laysFalls_18 : decode cX12_laysFalls 18 = .ok (.iastore, 1) := by decide +kernel
theorem dX12_laysFalls_19 : decode cX12_laysFalls 19 = .ok (.iinc 2 1, 3) := by decide +kernel
theorem dX12_laysFalls_22 : decode cX12_laysFalls 22 = .ok (.goto (-20), 3) := by decide +kernel
theorem dX12_laysFalls_25 : decode cX12_laysFalls 25 = .ok (.iconst 0, 1) := by decide +kernel
theorem dX12_laysFalls_26 : decode cX12_laysFalls 26 = .ok (.istore_n 2, 1) := by decide +kernel
theorem dX12_laysFalls_27 : decode cX12_laysFalls 27 = .ok (.iload_n 2, 1) := by decide +kernel
theorem dX12_laysFalls_28 : decode cX12_laysFalls 28 = .ok (.aload_n 0, 1) := by decide +kernel
theorem dX12_laysFalls_29 : decode cX12_laysFalls 29 = .ok (.getfield 35, 3) := by decide +kernel
theorem dX12_laysFalls_32 : decode cX12_laysFalls 32 = .ok (.iconst 0, 1) := by decide +kernel
theorem dX12_laysFalls_33 : decode cX12_laysFalls 33 = .ok (.iaload, 1) := by decide +kernel
theorem dX12_laysFalls_34 : decode cX12_laysFalls 34 = .ok (.if_icmp .ge 72, 3) := by decide +kernel
theorem dX12_laysFalls_37 : decode cX12_laysFalls 37 = .ok (.iload_n 1, 1) := by decide +kernel
theorem dX12_laysFalls_38 : decode cX12_laysFalls 38 = .ok (.iload_n 2, 1) := by decide +kernel
theorem dX12_laysFalls_39 : decode cX12_laysFalls 39 = .ok (.invokestatic 113, 3) := by decide +kernel
theorem dX12_laysFalls_42 : decode cX12_laysFalls 42 = .ok (.ifCond .ne 6, 3) := by decide +kernel
theorem dX12_laysFalls_45 : decode cX12_laysFalls 45 = .ok (.goto 55, 3) := by decide +kernel
theorem dX12_laysFalls_48 : decode cX12_laysFalls 48 = .ok (.aload_n 0, 1) := by decide +kernel
theorem dX12_laysFalls_49 : decode cX12_laysFalls 49 = .ok (.iload_n 2, 1) := by decide +kernel
theorem dX12_laysFalls_50 : decode cX12_laysFalls 50 = .ok (.invokevirtual 388, 3) := by decide +kernel
theorem dX12_laysFalls_53 : decode cX12_laysFalls 53 = .ok (.istore_n 3, 1) := by decide +kernel
theorem dX12_laysFalls_54 : decode cX12_laysFalls 54 = .ok (.iconst 0, 1) := by decide +kernel
theorem dX12_laysFalls_55 : decode cX12_laysFalls 55 = .ok (.istore 4, 2) := by decide +kernel
theorem dX12_laysFalls_57 : decode cX12_laysFalls 57 = .ok (.iload 4, 2) := by decide +kernel
theorem dX12_laysFalls_59 : decode cX12_laysFalls 59 = .ok (.aload_n 0, 1) := by decide +kernel
theorem dX12_laysFalls_60 : decode cX12_laysFalls 60 = .ok (.getfield 35, 3) := by decide +kernel
theorem dX12_laysFalls_63 : decode cX12_laysFalls 63 = .ok (.iconst 0, 1) := by decide +kernel
theorem dX12_laysFalls_64 : decode cX12_laysFalls 64 = .ok (.iaload, 1) := by decide +kernel
theorem dX12_laysFalls_65 : decode cX12_laysFalls 65 = .ok (.if_icmp .ge 35, 3) := by decide +kernel
theorem dX12_laysFalls_68 : decode cX12_laysFalls 68 = .ok (.aload_n 0, 1) := by decide +kernel
theorem dX12_laysFalls_69 : decode cX12_laysFalls 69 = .ok (.getfield 59, 3) := by decide +kernel
theorem dX12_laysFalls_72 : decode cX12_laysFalls 72 = .ok (.iload 4, 2) := by decide +kernel
theorem dX12_laysFalls_74 : decode cX12_laysFalls 74 = .ok (.dup2, 1) := by decide +kernel
theorem dX12_laysFalls_75 : decode cX12_laysFalls 75 = .ok (.iaload, 1) := by decide +kernel
theorem dX12_laysFalls_76 : decode cX12_laysFalls 76 = .ok (.iload_n 3, 1) := by decide +kernel
theorem dX12_laysFalls_77 : decode cX12_laysFalls 77 = .ok (.iload 4, 2) := by decide +kernel
theorem dX12_laysFalls_79 : decode cX12_laysFalls 79 = .ok (.invokestatic 113, 3) := by decide +kernel
theorem dX12_laysFalls_82 : decode cX12_laysFalls 82 = .ok (.ifCond .eq 9, 3) := by decide +kernel
theorem dX12_laysFalls_85 : decode cX12_laysFalls 85 = .ok (.iconst 1, 1) := by decide +kernel
theorem dX12_laysFalls_86 : decode cX12_laysFalls 86 = .ok (.iload_n 2, 1) := by decide +kernel
theorem dX12_laysFalls_87 : decode cX12_laysFalls 87 = .ok (.ishl, 1) := by decide +kernel
theorem dX12_laysFalls_88 : decode cX12_laysFalls 88 = .ok (.goto 4, 3) := by decide +kernel
theorem dX12_laysFalls_91 : decode cX12_laysFalls 91 = .ok (.iconst 0, 1) := by decide +kernel
theorem dX12_laysFalls_92 : decode cX12_laysFalls 92 = .ok (.ior, 1) := by decide +kernel
theorem dX12_laysFalls_93 : decode cX12_laysFalls 93 = .ok (.iastore, 1) := by decide +kernel
theorem dX12_laysFalls_94 : decode cX12_laysFalls 94 = .ok (.iinc 4 1, 3) := by decide +kernel
theorem dX12_laysFalls_97 : decode cX12_laysFalls 97 = .ok (.goto (-40), 3) := by decide +kernel
theorem dX12_laysFalls_100 : decode cX12_laysFalls 100 = .ok (.iinc 2 1, 3) := by decide +kernel
theorem dX12_laysFalls_103 : decode cX12_laysFalls 103 = .ok (.goto (-76), 3) := by decide +kernel
theorem dX12_laysFalls_106 : decode cX12_laysFalls 106 = .ok (.return_, 1) := by decide +kernel
theorem dX12_tells_0 : decode cX12_tells 0 = .ok (.aload_n 0, 1) := by decide +kernel
theorem dX12_tells_1 : decode cX12_tells 1 = .ok (.iconst 0, 1) := by decide +kernel
theorem dX12_tells_2 : decode cX12_tells 2 = .ok (.putfield 74, 3) := by decide +kernel
theorem dX12_tells_5 : decode cX12_tells 5 = .ok (.aload_n 0, 1) := by decide +kernel
theorem dX12_tells_6 : decode cX12_tells 6 = .ok (.iconst 0, 1) := by decide +kernel
theorem dX12_tells_7 : decode cX12_tells 7 = .ok (.putfield 77, 3) := by decide +kernel
theorem dX12_tells_10 : decode cX12_tells 10 = .ok (.aload_n 0, 1) := by decide +kernel
theorem dX12_tells_11 : decode cX12_tells 11 = .ok (.iload_n 1, 1) := by decide +kernel
theorem dX12_tells_12 : decode cX12_tells 12 = .ok (.invokevirtual 425, 3) := by decide +kernel
theorem dX12_tells_15 : decode cX12_tells 15 = .ok (.ifCond .eq 22, 3) := by decide +kernel
theorem dX12_tells_18 : decode cX12_tells 18 = .ok (.iload_n 1, 1) := by decide +kernel
theorem dX12_tells_19 : decode cX12_tells 19 = .ok (.invokestatic 397, 3) := by decide +kernel
theorem dX12_tells_22 : decode cX12_tells 22 = .ok (.iconst 2, 1) := by decide +kernel
theorem dX12_tells_23 : decode cX12_tells 23 = .ok (.if_icmp .lt 14, 3) := by decide +kernel
theorem dX12_tells_26 : decode cX12_tells 26 = .ok (.iload_n 1, 1) := by decide +kernel
theorem dX12_tells_27 : decode cX12_tells 27 = .ok (.aload_n 0, 1) := by decide +kernel
theorem dX12_tells_28 : decode cX12_tells 28 = .ok (.invokevirtual 330, 3) := by decide +kernel
theorem dX12_tells_31 : decode cX12_tells 31 = .ok (.iconst (-1), 1) := by decide +kernel
theorem dX12_tells_32 : decode cX12_tells 32 = .ok (.ixor, 1) := by decide +kernel
theorem dX12_tells_33 : decode cX12_tells 33 = .ok (.iand, 1) := by decide +kernel
theorem dX12_tells_34 : decode cX12_tells 34 = .ok (.ifCond .eq 9, 3) := by decide +kernel
theorem dX12_tells_37 : decode cX12_tells 37 = .ok (.aload_n 0, 1) := by decide +kernel
theorem dX12_tells_38 : decode cX12_tells 38 = .ok (.iconst 5, 1) := by decide +kernel
theorem dX12_tells_39 : decode cX12_tells 39 = .ok (.invokevirtual 327, 3) := by decide +kernel
theorem dX12_tells_42 : decode cX12_tells 42 = .ok (.ireturn, 1) := by decide +kernel
theorem dX12_tells_43 : decode cX12_tells 43 = .ok (.aload_n 0, 1) := by decide +kernel
theorem dX12_tells_44 : decode cX12_tells 44 = .ok (.iload_n 1, 1) := by decide +kernel
theorem dX12_tells_45 : decode cX12_tells 45 = .ok (.invokevirtual 445, 3) := by decide +kernel
theorem dX12_tells_48 : decode cX12_tells 48 = .ok (.iconst (-1), 1) := by decide +kernel
theorem dX12_tells_49 : decode cX12_tells 49 = .ok (.istore_n 2, 1) := by decide +kernel
theorem dX12_tells_50 : decode cX12_tells 50 = .ok (.iload_n 1, 1) := by decide +kernel
theorem dX12_tells_51 : decode cX12_tells 51 = .ok (.invokestatic 397, 3) := by decide +kernel
theorem dX12_tells_54 : decode cX12_tells 54 = .ok (.istore_n 3, 1) := by decide +kernel
theorem dX12_tells_55 : decode cX12_tells 55 = .ok (.iconst 0, 1) := by decide +kernel
theorem dX12_tells_56 : decode cX12_tells 56 = .ok (.istore 4, 2) := by decide +kernel
theorem dX12_tells_58 : decode cX12_tells 58 = .ok (.iload 4, 2) := by decide +kernel
theorem dX12_tells_60 : decode cX12_tells 60 = .ok (.aload_n 0, 1) := by decide +kernel
theorem dX12_tells_61 : decode cX12_tells 61 = .ok (.getfield 35, 3) := by decide +kernel
theorem dX12_tells_64 : decode cX12_tells 64 = .ok (.iconst 0, 1) := by decide +kernel
theorem dX12_tells_65 : decode cX12_tells 65 = .ok (.iaload, 1) := by decide +kernel
theorem dX12_tells_66 : decode cX12_tells 66 = .ok (.if_icmp .ge 67, 3) := by decide +kernel
theorem dX12_tells_69 : decode cX12_tells 69 = .ok (.iload_n 1, 1) := by decide +kernel
theorem dX12_tells_70 : decode cX12_tells 70 = .ok (.aload_n 0, 1) := by decide +kernel
theorem dX12_tells_71 : decode cX12_tells 71 = .ok (.getfield 59, 3) := by decide +kernel
theorem dX12_tells_74 : decode cX12_tells 74 = .ok (.iload 4, 2) := by decide +kernel
theorem dX12_tells_76 : decode cX12_tells 76 = .ok (.iaload, 1) := by decide +kernel
theorem dX12_tells_77 : decode cX12_tells 77 = .ok (.iand, 1) := by decide +kernel
theorem dX12_tells_78 : decode cX12_tells 78 = .ok (.invokestatic 397, 3) := by decide +kernel
theorem dX12_tells_81 : decode cX12_tells 81 = .ok (.iload_n 1, 1) := by decide +kernel
theorem dX12_tells_82 : decode cX12_tells 82 = .ok (.aload_n 0, 1) := by decide +kernel
theorem dX12_tells_83 : decode cX12_tells 83 = .ok (.getfield 59, 3) := by decide +kernel
theorem dX12_tells_86 : decode cX12_tells 86 = .ok (.iload 4, 2) := by decide +kernel
theorem dX12_tells_88 : decode cX12_tells 88 = .ok (.iaload, 1) := by decide +kernel
theorem dX12_tells_89 : decode cX12_tells 89 = .ok (.iconst (-1), 1) := by decide +kernel
theorem dX12_tells_90 : decode cX12_tells 90 = .ok (.ixor, 1) := by decide +kernel
theorem dX12_tells_91 : decode cX12_tells 91 = .ok (.iand, 1) := by decide +kernel
theorem dX12_tells_92 : decode cX12_tells 92 = .ok (.invokestatic 397, 3) := by decide +kernel
theorem dX12_tells_95 : decode cX12_tells 95 = .ok (.invokestatic 248, 3) := by decide +kernel
theorem dX12_tells_98 : decode cX12_tells 98 = .ok (.istore 5, 2) := by decide +kernel
theorem dX12_tells_100 : decode cX12_tells 100 = .ok (.aload_n 0, 1) := by decide +kernel
theorem dX12_tells_101 : decode cX12_tells 101 = .ok (.invokevirtual 330, 3) := by decide +kernel
theorem dX12_tells_104 : decode cX12_tells 104 = .ok (.iload 4, 2) := by decide +kernel
theorem dX12_tells_106 : decode cX12_tells 106 = .ok (.invokestatic 113, 3) := by decide +kernel
theorem dX12_tells_109 : decode cX12_tells 109 = .ok (.ifCond .eq 18, 3) := by decide +kernel
theorem dX12_tells_112 : decode cX12_tells 112 = .ok (.iload 5, 2) := by decide +kernel
theorem dX12_tells_114 : decode cX12_tells 114 = .ok (.iload_n 3, 1) := by decide +kernel
theorem dX12_tells_115 : decode cX12_tells 115 = .ok (.if_icmp .lt 6, 3) := by decide +kernel
theorem dX12_tells_118 : decode cX12_tells 118 = .ok (.goto 9, 3) := by decide +kernel
theorem dX12_tells_121 : decode cX12_tells 121 = .ok (.iload 4, 2) := by decide +kernel
theorem dX12_tells_123 : decode cX12_tells 123 = .ok (.istore_n 2, 1) := by decide +kernel
theorem dX12_tells_124 : decode cX12_tells 124 = .ok (.iload 5, 2) := by decide +kernel
theorem dX12_tells_126 : decode cX12_tells 126 = .ok (.istore_n 3, 1) := by decide +kernel
theorem dX12_tells_127 : decode cX12_tells 127 = .ok (.iinc 4 1, 3) := by decide +kernel
theorem dX12_tells_130 : decode cX12_tells 130 = .ok (.goto (-72), 3) := by decide +kernel
theorem dX12_tells_133 : decode cX12_tells 133 = .ok (.iload_n 2, 1) := by decide +kernel
theorem dX12_tells_134 : decode cX12_tells 134 = .ok (.ifCond .ge 12, 3) := by decide +kernel
theorem dX12_tells_137 : decode cX12_tells 137 = .ok (.aload_n 0, 1) := by decide +kernel
theorem dX12_tells_138 : decode cX12_tells 138 = .ok (.bipush 8, 2) := by decide +kernel
theorem dX12_tells_140 : decode cX12_tells 140 = .ok (.invokevirtual 327, 3) := by decide +kernel
theorem dX12_tells_143 : decode cX12_tells 143 = .ok (.goto 4, 3) := by decide +kernel
theorem dX12_tells_146 : decode cX12_tells 146 = .ok (.iload_n 2, 1) := by decide +kernel
theorem dX12_tells_147 : decode cX12_tells 147 = .ok (.ireturn, 1) := by decide +kernel
theorem dX12_looksFor_0 : decode cX12_looksFor 0 = .ok (.iconst 1, 1) := by decide +kernel
theorem dX12_looksFor_1 : decode cX12_looksFor 1 = .ok (.istore_n 2, 1) := by decide +kernel
theorem dX12_looksFor_2 : decode cX12_looksFor 2 = .ok (.iload_n 2, 1) := by decide +kernel
theorem dX12_looksFor_3 : decode cX12_looksFor 3 = .ok (.iload_n 1, 1) := by decide +kernel
theorem dX12_looksFor_4 : decode cX12_looksFor 4 = .ok (.if_icmp .gt 161, 3) := by decide +kernel
theorem dX12_looksFor_7 : decode cX12_looksFor 7 = .ok (.iload_n 2, 1) := by decide +kernel
theorem dX12_looksFor_8 : decode cX12_looksFor 8 = .ok (.iload_n 1, 1) := by decide +kernel
theorem dX12_looksFor_9 : decode cX12_looksFor 9 = .ok (.iconst (-1), 1) := by decide +kernel
theorem dX12_looksFor_10 : decode cX12_looksFor 10 = .ok (.ixor, 1) := by decide +kernel
theorem dX12_looksFor_11 : decode cX12_looksFor 11 = .ok (.iand, 1) := by decide +kernel
theorem dX12_looksFor_12 : decode cX12_looksFor 12 = .ok (.ifCond .eq 6, 3) := by decide +kernel
theorem dX12_looksFor_15 : decode cX12_looksFor 15 = .ok (.goto 144, 3) := by decide +kernel
theorem dX12_looksFor_18 : decode cX12_looksFor 18 = .ok (.aload_n 0, 1) := by decide +kernel
theorem dX12_looksFor_19 : decode cX12_looksFor 19 = .ok (.getfield 62, 3) := by decide +kernel
theorem dX12_looksFor_22 : decode cX12_looksFor 22 = .ok (.iload_n 2, 1) := by decide +kernel
theorem dX12_looksFor_23 : decode cX12_looksFor 23 = .ok (.iload_n 2, 1) := by decide +kernel
theorem dX12_looksFor_24 : decode cX12_looksFor 24 = .ok (.invokestatic 397, 3) := by decide +kernel
theorem dX12_looksFor_27 : decode cX12_looksFor 27 = .ok (.iconst 1, 1) := by decide +kernel
theorem dX12_looksFor_28 : decode cX12_looksFor 28 = .ok (.if_icmp .ne 7, 3) := by decide +kernel
theorem dX12_looksFor_31 : decode cX12_looksFor 31 = .ok (.iconst 0, 1) := by decide +kernel
theorem dX12_looksFor_32 : decode cX12_looksFor 32 = .ok (.goto 4, 3) := by decide +kernel
theorem dX12_looksFor_35 : decode cX12_looksFor 35 = .ok (.iconst (-1), 1) := by decide +kernel
theorem dX12_looksFor_36 : decode cX12_looksFor 36 = .ok (.iastore, 1) := by decide +kernel
theorem dX12_looksFor_37 : decode cX12_looksFor 37 = .ok (.iconst 0, 1) := by decide +kernel
theorem dX12_looksFor_38 : decode cX12_looksFor 38 = .ok (.istore_n 3, 1) := by decide +kernel
theorem dX12_looksFor_39 : decode cX12_looksFor 39 = .ok (.iload_n 3, 1) := by decide +kernel
theorem dX12_looksFor_40 : decode cX12_looksFor 40 = .ok (.aload_n 0, 1) := by decide +kernel
theorem dX12_looksFor_41 : decode cX12_looksFor 41 = .ok (.getfield 35, 3) := by decide +kernel
theorem dX12_looksFor_44 : decode cX12_looksFor 44 = .ok (.iconst 0, 1) := by decide +kernel
theorem dX12_looksFor_45 : decode cX12_looksFor 45 = .ok (.iaload, 1) := by decide +kernel
theorem dX12_looksFor_46 : decode cX12_looksFor 46 = .ok (.if_icmp .ge 113, 3) := by decide +kernel
theorem dX12_looksFor_49 : decode cX12_looksFor 49 = .ok (.iload_n 2, 1) := by decide +kernel
theorem dX12_looksFor_50 : decode cX12_looksFor 50 = .ok (.aload_n 0, 1) := by decide +kernel
theorem dX12_looksFor_51 : decode cX12_looksFor 51 = .ok (.getfield 59, 3) := by decide +kernel
theorem dX12_looksFor_54 : decode cX12_looksFor 54 = .ok (.iload_n 3, 1) := by decide +kernel
theorem dX12_looksFor_55 : decode cX12_looksFor 55 = .ok (.iaload, 1) := by decide +kernel
theorem dX12_looksFor_56 : decode cX12_looksFor 56 = .ok (.iand, 1) := by decide +kernel
theorem dX12_looksFor_57 : decode cX12_looksFor 57 = .ok (.istore 4, 2) := by decide +kernel
theorem dX12_looksFor_59 : decode cX12_looksFor 59 = .ok (.iload 4, 2) := by decide +kernel
theorem dX12_looksFor_61 : decode cX12_looksFor 61 = .ok (.ifCond .eq 92, 3) := by decide +kernel
theorem dX12_looksFor_64 : decode cX12_looksFor 64 = .ok (.iload 4, 2) := by decide +kernel
theorem dX12_looksFor_66 : decode cX12_looksFor 66 = .ok (.iload_n 2, 1) := by decide +kernel
theorem dX12_looksFor_67 : decode cX12_looksFor 67 = .ok (.if_icmp .eq 86, 3) := by decide +kernel
theorem dX12_looksFor_70 : decode cX12_looksFor 70 = .ok (.aload_n 0, 1) := by decide +kernel
theorem dX12_looksFor_71 : decode cX12_looksFor 71 = .ok (.getfield 62, 3) := by decide +kernel
theorem dX12_looksFor_74 : decode cX12_looksFor 74 = .ok (.iload 4, 2) := by decide +kernel
theorem dX12_looksFor_76 : decode cX12_looksFor 76 = .ok (.iaload, 1) := by decide +kernel
theorem dX12_looksFor_77 : decode cX12_looksFor 77 = .ok (.ifCond .lt 76, 3) := by decide +kernel
theorem dX12_looksFor_80 : decode cX12_looksFor 80 = .ok (.aload_n 0, 1) := by decide +kernel
theorem dX12_looksFor_81 : decode cX12_looksFor 81 = .ok (.getfield 62, 3) := by decide +kernel
theorem dX12_looksFor_84 : decode cX12_looksFor 84 = .ok (.iload_n 2, 1) := by decide +kernel
theorem dX12_looksFor_85 : decode cX12_looksFor 85 = .ok (.iload 4, 2) := by decide +kernel
theorem dX12_looksFor_87 : decode cX12_looksFor 87 = .ok (.iconst (-1), 1) := by decide +kernel
theorem dX12_looksFor_88 : decode cX12_looksFor 88 = .ok (.ixor, 1) := by decide +kernel
theorem dX12_looksFor_89 : decode cX12_looksFor 89 = .ok (.iand, 1) := by decide +kernel
theorem dX12_looksFor_90 : decode cX12_looksFor 90 = .ok (.iaload, 1) := by decide +kernel
theorem dX12_looksFor_91 : decode cX12_looksFor 91 = .ok (.ifCond .ge 6, 3) := by decide +kernel
theorem dX12_looksFor_94 : decode cX12_looksFor 94 = .ok (.goto 59, 3) := by decide +kernel
theorem dX12_looksFor_97 : decode cX12_looksFor 97 = .ok (.iconst 1, 1) := by decide +kernel
theorem dX12_looksFor_98 : decode cX12_looksFor 98 = .ok (.aload_n 0, 1) := by decide +kernel
theorem dX12_looksFor_99 : decode cX12_looksFor 99 = .ok (.getfield 62, 3) := by decide +kernel
theorem dX12_looksFor_102 : decode cX12_looksFor 102 = .ok (.iload 4, 2) := by decide +kernel
theorem dX12_looksFor_104 : decode cX12_looksFor 104 = .ok (.iaload, 1) := by decide +kernel
theorem dX12_looksFor_105 : decode cX12_looksFor 105 = .ok (.aload_n 0, 1) := by decide +kernel
theorem dX12_looksFor_106 : decode cX12_looksFor 106 = .ok (.getfield 62, 3) := by decide +kernel
theorem dX12_looksFor_109 : decode cX12_looksFor 109 = .ok (.iload_n 2, 1) := by decide +kernel
theorem dX12_looksFor_110 : decode cX12_looksFor 110 = .ok (.iload 4, 2) := by decide +kernel
theorem dX12_looksFor_112 : decode cX12_looksFor 112 = .ok (.iconst (-1), 1) := by decide +kernel
theorem dX12_looksFor_113 : decode cX12_looksFor 113 = .ok (.ixor, 1) := by decide +kernel
theorem dX12_looksFor_114 : decode cX12_looksFor 114 = .ok (.iand, 1) := by decide +kernel
theorem dX12_looksFor_115 : decode cX12_looksFor 115 = .ok (.iaload, 1) := by decide +kernel
theorem dX12_looksFor_116 : decode cX12_looksFor 116 = .ok (.invokestatic 248, 3) := by decide +kernel
theorem dX12_looksFor_119 : decode cX12_looksFor 119 = .ok (.iadd, 1) := by decide +kernel
theorem dX12_looksFor_120 : decode cX12_looksFor 120 = .ok (.istore 5, 2) := by decide +kernel
theorem dX12_looksFor_122 : decode cX12_looksFor 122 = .ok (.aload_n 0, 1) := by decide +kernel
theorem dX12_looksFor_123 : decode cX12_looksFor 123 = .ok (.getfield 62, 3) := by decide +kernel
theorem dX12_looksFor_126 : decode cX12_looksFor 126 = .ok (.iload_n 2, 1) := by decide +kernel
theorem dX12_looksFor_127 : decode cX12_looksFor 127 = .ok (.aload_n 0, 1) := by decide +kernel
theorem dX12_looksFor_128 : decode cX12_looksFor 128 = .ok (.getfield 62, 3) := by decide +kernel
theorem dX12_looksFor_131 : decode cX12_looksFor 131 = .ok (.iload_n 2, 1) := by decide +kernel
theorem dX12_looksFor_132 : decode cX12_looksFor 132 = .ok (.iaload, 1) := by decide +kernel
theorem dX12_looksFor_133 : decode cX12_looksFor 133 = .ok (.ifCond .ge 8, 3) := by decide +kernel
theorem dX12_looksFor_136 : decode cX12_looksFor 136 = .ok (.iload 5, 2) := by decide +kernel
theorem dX12_looksFor_138 : decode cX12_looksFor 138 = .ok (.goto 14, 3) := by decide +kernel
theorem dX12_looksFor_141 : decode cX12_looksFor 141 = .ok (.aload_n 0, 1) := by decide +kernel
theorem dX12_looksFor_142 : decode cX12_looksFor 142 = .ok (.getfield 62, 3) := by decide +kernel
theorem dX12_looksFor_145 : decode cX12_looksFor 145 = .ok (.iload_n 2, 1) := by decide +kernel
theorem dX12_looksFor_146 : decode cX12_looksFor 146 = .ok (.iaload, 1) := by decide +kernel
theorem dX12_looksFor_147 : decode cX12_looksFor 147 = .ok (.iload 5, 2) := by decide +kernel
theorem dX12_looksFor_149 : decode cX12_looksFor 149 = .ok (.invokestatic 448, 3) := by decide +kernel
theorem dX12_looksFor_152 : decode cX12_looksFor 152 = .ok (.iastore, 1) := by decide +kernel
theorem dX12_looksFor_153 : decode cX12_looksFor 153 = .ok (.iinc 3 1, 3) := by decide +kernel
theorem dX12_looksFor_156 : decode cX12_looksFor 156 = .ok (.goto (-117), 3) := by decide +kernel
theorem dX12_looksFor_159 : decode cX12_looksFor 159 = .ok (.iinc 2 1, 3) := by decide +kernel
theorem dX12_looksFor_162 : decode cX12_looksFor 162 = .ok (.goto (-160), 3) := by decide +kernel
theorem dX12_looksFor_165 : decode cX12_looksFor 165 = .ok (.aload_n 0, 1) := by decide +kernel
theorem dX12_looksFor_166 : decode cX12_looksFor 166 = .ok (.getfield 62, 3) := by decide +kernel
theorem dX12_looksFor_169 : decode cX12_looksFor 169 = .ok (.iload_n 1, 1) := by decide +kernel
theorem dX12_looksFor_170 : decode cX12_looksFor 170 = .ok (.iaload, 1) := by decide +kernel
theorem dX12_looksFor_171 : decode cX12_looksFor 171 = .ok (.ireturn, 1) := by decide +kernel
theorem dX12_sure_0 : decode cX12_sure 0 = .ok (.aload_n 0, 1) := by decide +kernel
theorem dX12_sure_1 : decode cX12_sure 1 = .ok (.iconst 0, 1) := by decide +kernel
theorem dX12_sure_2 : decode cX12_sure 2 = .ok (.putfield 74, 3) := by decide +kernel
theorem dX12_sure_5 : decode cX12_sure 5 = .ok (.aload_n 0, 1) := by decide +kernel
theorem dX12_sure_6 : decode cX12_sure 6 = .ok (.iconst 0, 1) := by decide +kernel
theorem dX12_sure_7 : decode cX12_sure 7 = .ok (.putfield 77, 3) := by decide +kernel
theorem dX12_sure_10 : decode cX12_sure 10 = .ok (.aload_n 0, 1) := by decide +kernel
theorem dX12_sure_11 : decode cX12_sure 11 = .ok (.iload_n 1, 1) := by decide +kernel
theorem dX12_sure_12 : decode cX12_sure 12 = .ok (.invokevirtual 425, 3) := by decide +kernel
theorem dX12_sure_15 : decode cX12_sure 15 = .ok (.ifCond .eq 18, 3) := by decide +kernel
theorem dX12_sure_18 : decode cX12_sure 18 = .ok (.iload_n 1, 1) := by decide +kernel
theorem dX12_sure_19 : decode cX12_sure 19 = .ok (.ifCond .eq 14, 3) := by decide +kernel
theorem dX12_sure_22 : decode cX12_sure 22 = .ok (.iload_n 1, 1) := by decide +kernel
theorem dX12_sure_23 : decode cX12_sure 23 = .ok (.aload_n 0, 1) := by decide +kernel
theorem dX12_sure_24 : decode cX12_sure 24 = .ok (.invokevirtual 330, 3) := by decide +kernel
theorem dX12_sure_27 : decode cX12_sure 27 = .ok (.iconst (-1), 1) := by decide +kernel
theorem dX12_sure_28 : decode cX12_sure 28 = .ok (.ixor, 1) := by decide +kernel
theorem dX12_sure_29 : decode cX12_sure 29 = .ok (.iand, 1) := by decide +kernel
theorem dX12_sure_30 : decode cX12_sure 30 = .ok (.ifCond .eq 9, 3) := by decide +kernel
theorem dX12_sure_33 : decode cX12_sure 33 = .ok (.aload_n 0, 1) := by decide +kernel
theorem dX12_sure_34 : decode cX12_sure 34 = .ok (.iconst 5, 1) := by decide +kernel
theorem dX12_sure_35 : decode cX12_sure 35 = .ok (.invokevirtual 327, 3) := by decide +kernel
theorem dX12_sure_38 : decode cX12_sure 38 = .ok (.ireturn, 1) := by decide +kernel
theorem dX12_sure_39 : decode cX12_sure 39 = .ok (.aload_n 0, 1) := by decide +kernel
theorem dX12_sure_40 : decode cX12_sure 40 = .ok (.iload_n 1, 1) := by decide +kernel
theorem dX12_sure_41 : decode cX12_sure 41 = .ok (.invokevirtual 445, 3) := by decide +kernel
theorem dX12_sure_44 : decode cX12_sure 44 = .ok (.aload_n 0, 1) := by decide +kernel
theorem dX12_sure_45 : decode cX12_sure 45 = .ok (.iload_n 1, 1) := by decide +kernel
theorem dX12_sure_46 : decode cX12_sure 46 = .ok (.invokevirtual 451, 3) := by decide +kernel
theorem dX12_sure_49 : decode cX12_sure 49 = .ok (.istore_n 2, 1) := by decide +kernel
theorem dX12_sure_50 : decode cX12_sure 50 = .ok (.iload_n 2, 1) := by decide +kernel
theorem dX12_sure_51 : decode cX12_sure 51 = .ok (.ifCond .ge 12, 3) := by decide +kernel
theorem dX12_sure_54 : decode cX12_sure 54 = .ok (.aload_n 0, 1) := by decide +kernel
theorem dX12_sure_55 : decode cX12_sure 55 = .ok (.bipush 8, 2) := by decide +kernel
theorem dX12_sure_57 : decode cX12_sure 57 = .ok (.invokevirtual 327, 3) := by decide +kernel
theorem dX12_sure_60 : decode cX12_sure 60 = .ok (.goto 4, 3) := by decide +kernel
theorem dX12_sure_63 : decode cX12_sure 63 = .ok (.iload_n 2, 1) := by decide +kernel
theorem dX12_sure_64 : decode cX12_sure 64 = .ok (.ireturn, 1) := by decide +kernel
theorem dX12_countsHistories_0 : decode cX12_countsHistories 0 = .ok (.aload_n 0, 1) := by decide +kernel
theorem dX12_countsHistories_1 : decode cX12_countsHistories 1 = .ok (.invokevirtual 313, 3) := by decide +kernel
theorem dX12_countsHistories_4 : decode cX12_countsHistories 4 = .ok (.istore_n 1, 1) := by decide +kernel
theorem dX12_countsHistories_5 : decode cX12_countsHistories 5 = .ok (.iconst 0, 1) := by decide +kernel
theorem dX12_countsHistories_6 : decode cX12_countsHistories 6 = .ok (.istore_n 2, 1) := by decide +kernel
theorem dX12_countsHistories_7 : decode cX12_countsHistories 7 = .ok (.iload_n 2, 1) := by decide +kernel
theorem dX12_countsHistories_8 : decode cX12_countsHistories 8 = .ok (.iload_n 1, 1) := by decide +kernel
theorem dX12_countsHistories_9 : decode cX12_countsHistories 9 = .ok (.if_icmp .gt 24, 3) := by decide +kernel
theorem dX12_countsHistories_12 : decode cX12_countsHistories 12 = .ok (.aload_n 0, 1) := by decide +kernel
theorem dX12_countsHistories_13 : decode cX12_countsHistories 13 = .ok (.getfield 65, 3) := by decide +kernel
theorem dX12_countsHistories_16 : decode cX12_countsHistories 16 = .ok (.iload_n 2, 1) := by decide +kernel
theorem dX12_countsHistories_17 : decode cX12_countsHistories 17 = .ok (.iload_n 2, 1) := by decide +kernel
theorem dX12_countsHistories_18 : decode cX12_countsHistories 18 = .ok (.ifCond .ne 7, 3) := by decide +kernel
theorem dX12_countsHistories_21 : decode cX12_countsHistories 21 = .ok (.lconst 1, 1) := by decide +kernel
theorem dX12_countsHistories_22 : decode cX12_countsHistories 22 = .ok (.goto 4, 3) := by decide +kernel
theorem dX12_countsHistories_25 : decode cX12_countsHistories 25 = .ok (.lconst 0, 1) := by decide +kernel
theorem dX12_countsHistories_26 : decode cX12_countsHistories 26 = .ok (.lastore, 1) := by decide +kernel
theorem dX12_countsHistories_27 : decode cX12_countsHistories 27 = .ok (.iinc 2 1, 3) := by decide +kernel
theorem dX12_countsHistories_30 : decode cX12_countsHistories 30 = .ok (.goto (-23), 3) := by decide +kernel
theorem dX12_countsHistories_33 : decode cX12_countsHistories 33 = .ok (.iconst 0, 1) := by decide +kernel
theorem dX12_countsHistories_34 : decode cX12_countsHistories 34 = .ok (.istore_n 2, 1) := by decide +kernel
theorem dX12_countsHistories_35 : decode cX12_countsHistories 35 = .ok (.iload_n 2, 1) := by decide +kernel
theorem dX12_countsHistories_36 : decode cX12_countsHistories 36 = .ok (.iload_n 1, 1) := by decide +kernel
theorem dX12_countsHistories_37 : decode cX12_countsHistories 37 = .ok (.if_icmp .ge 71, 3) := by decide +kernel
theorem dX12_countsHistories_40 : decode cX12_countsHistories 40 = .ok (.iconst 0, 1) := by decide +kernel
theorem dX12_countsHistories_41 : decode cX12_countsHistories 41 = .ok (.istore_n 3, 1) := by decide +kernel
theorem dX12_countsHistories_42 : decode cX12_countsHistories 42 = .ok (.iload_n 3, 1) := by decide +kernel
theorem dX12_countsHistories_43 : decode cX12_countsHistories 43 = .ok (.aload_n 0, 1) := by decide +kernel
theorem dX12_countsHistories_44 : decode cX12_countsHistories 44 = .ok (.getfield 35, 3) := by decide +kernel
theorem dX12_countsHistories_47 : decode cX12_countsHistories 47 = .ok (.iconst 0, 1) := by decide +kernel
theorem dX12_countsHistories_48 : decode cX12_countsHistories 48 = .ok (.iaload, 1) := by decide +kernel
theorem dX12_countsHistories_49 : decode cX12_countsHistories 49 = .ok (.if_icmp .ge 53, 3) := by decide +kernel
theorem dX12_countsHistories_52 : decode cX12_countsHistories 52 = .ok (.iload_n 2, 1) := by decide +kernel
theorem dX12_countsHistories_53 : decode cX12_countsHistories 53 = .ok (.iload_n 3, 1) := by decide +kernel
theorem dX12_countsHistories_54 : decode cX12_countsHistories 54 = .ok (.invokestatic 113, 3) := by decide +kernel
theorem dX12_countsHistories_57 : decode cX12_countsHistories 57 = .ok (.ifCond .ne 39, 3) := by decide +kernel
theorem dX12_countsHistories_60 : decode cX12_countsHistories 60 = .ok (.aload_n 0, 1) := by decide +kernel
theorem dX12_countsHistories_61 : decode cX12_countsHistories 61 = .ok (.getfield 35, 3) := by decide +kernel
theorem dX12_countsHistories_64 : decode cX12_countsHistories 64 = .ok (.sipush 130, 3) := by decide +kernel
theorem dX12_countsHistories_67 : decode cX12_countsHistories 67 = .ok (.iload_n 3, 1) := by decide +kernel
theorem dX12_countsHistories_68 : decode cX12_countsHistories 68 = .ok (.iadd, 1) := by decide +kernel
theorem dX12_countsHistories_69 : decode cX12_countsHistories 69 = .ok (.iaload, 1) := by decide +kernel
theorem dX12_countsHistories_70 : decode cX12_countsHistories 70 = .ok (.iload_n 2, 1) := by decide +kernel
theorem dX12_countsHistories_71 : decode cX12_countsHistories 71 = .ok (.iconst (-1), 1) := by decide +kernel
theorem dX12_countsHistories_72 : decode cX12_countsHistories 72 = .ok (.ixor, 1) := by decide +kernel
theorem dX12_countsHistories_73 : decode cX12_countsHistories 73 = .ok (.iand, 1) := by decide +kernel
theorem dX12_countsHistories_74 : decode cX12_countsHistories 74 = .ok (.ifCond .ne 22, 3) := by decide +kernel
theorem dX12_countsHistories_77 : decode cX12_countsHistories 77 = .ok (.aload_n 0, 1) := by decide +kernel
theorem dX12_countsHistories_78 : decode cX12_countsHistories 78 = .ok (.getfield 65, 3) := by decide +kernel
theorem dX12_countsHistories_81 : decode cX12_countsHistories 81 = .ok (.iload_n 2, 1) := by decide +kernel
theorem dX12_countsHistories_82 : decode cX12_countsHistories 82 = .ok (.iconst 1, 1) := by decide +kernel
theorem dX12_countsHistories_83 : decode cX12_countsHistories 83 = .ok (.iload_n 3, 1) := by decide +kernel
theorem dX12_countsHistories_84 : decode cX12_countsHistories 84 = .ok (.ishl, 1) := by decide +kernel
theorem dX12_countsHistories_85 : decode cX12_countsHistories 85 = .ok (.ior, 1) := by decide +kernel
theorem dX12_countsHistories_86 : decode cX12_countsHistories 86 = .ok (.dup2, 1) := by decide +kernel
theorem dX12_countsHistories_87 : decode cX12_countsHistories 87 = .ok (.laload, 1) := by decide +kernel
theorem dX12_countsHistories_88 : decode cX12_countsHistories 88 = .ok (.aload_n 0, 1) := by decide +kernel
theorem dX12_countsHistories_89 : decode cX12_countsHistories 89 = .ok (.getfield 65, 3) := by decide +kernel
theorem dX12_countsHistories_92 : decode cX12_countsHistories 92 = .ok (.iload_n 2, 1) := by decide +kernel
theorem dX12_countsHistories_93 : decode cX12_countsHistories 93 = .ok (.laload, 1) := by decide +kernel
theorem dX12_countsHistories_94 : decode cX12_countsHistories 94 = .ok (.ladd, 1) := by decide +kernel
theorem dX12_countsHistories_95 : decode cX12_countsHistories 95 = .ok (.lastore, 1) := by decide +kernel
theorem dX12_countsHistories_96 : decode cX12_countsHistories 96 = .ok (.iinc 3 1, 3) := by decide +kernel
theorem dX12_countsHistories_99 : decode cX12_countsHistories 99 = .ok (.goto (-57), 3) := by decide +kernel
theorem dX12_countsHistories_102 : decode cX12_countsHistories 102 = .ok (.iinc 2 1, 3) := by decide +kernel
theorem dX12_countsHistories_105 : decode cX12_countsHistories 105 = .ok (.goto (-70), 3) := by decide +kernel
theorem dX12_countsHistories_108 : decode cX12_countsHistories 108 = .ok (.aload_n 0, 1) := by decide +kernel
theorem dX12_countsHistories_109 : decode cX12_countsHistories 109 = .ok (.getfield 65, 3) := by decide +kernel
theorem dX12_countsHistories_112 : decode cX12_countsHistories 112 = .ok (.iload_n 1, 1) := by decide +kernel
theorem dX12_countsHistories_113 : decode cX12_countsHistories 113 = .ok (.laload, 1) := by decide +kernel
theorem dX12_countsHistories_114 : decode cX12_countsHistories 114 = .ok (.lreturn, 1) := by decide +kernel
theorem dX12_histories_0 : decode cX12_histories 0 = .ok (.aload_n 0, 1) := by decide +kernel
theorem dX12_histories_1 : decode cX12_histories 1 = .ok (.iconst 0, 1) := by decide +kernel
theorem dX12_histories_2 : decode cX12_histories 2 = .ok (.putfield 74, 3) := by decide +kernel
theorem dX12_histories_5 : decode cX12_histories 5 = .ok (.aload_n 0, 1) := by decide +kernel
theorem dX12_histories_6 : decode cX12_histories 6 = .ok (.iconst 0, 1) := by decide +kernel
theorem dX12_histories_7 : decode cX12_histories 7 = .ok (.putfield 77, 3) := by decide +kernel
theorem dX12_histories_10 : decode cX12_histories 10 = .ok (.aload_n 0, 1) := by decide +kernel
theorem dX12_histories_11 : decode cX12_histories 11 = .ok (.invokevirtual 454, 3) := by decide +kernel
theorem dX12_histories_14 : decode cX12_histories 14 = .ok (.lreturn, 1) := by decide +kernel
theorem dX12_firsts_0 : decode cX12_firsts 0 = .ok (.aload_n 0, 1) := by decide +kernel
theorem dX12_firsts_1 : decode cX12_firsts 1 = .ok (.iconst 0, 1) := by decide +kernel
theorem dX12_firsts_2 : decode cX12_firsts 2 = .ok (.putfield 74, 3) := by decide +kernel
theorem dX12_firsts_5 : decode cX12_firsts 5 = .ok (.aload_n 0, 1) := by decide +kernel
theorem dX12_firsts_6 : decode cX12_firsts 6 = .ok (.iconst 0, 1) := by decide +kernel
theorem dX12_firsts_7 : decode cX12_firsts 7 = .ok (.putfield 77, 3) := by decide +kernel
theorem dX12_firsts_10 : decode cX12_firsts 10 = .ok (.aload_n 0, 1) := by decide +kernel
theorem dX12_firsts_11 : decode cX12_firsts 11 = .ok (.invokevirtual 454, 3) := by decide +kernel
theorem dX12_firsts_14 : decode cX12_firsts 14 = .ok (.lconst 0, 1) := by decide +kernel
theorem dX12_firsts_15 : decode cX12_firsts 15 = .ok (.lcmp, 1) := by decide +kernel
theorem dX12_firsts_16 : decode cX12_firsts 16 = .ok (.ifCond .ne 5, 3) := by decide +kernel
theorem dX12_firsts_19 : decode cX12_firsts 19 = .ok (.iconst 0, 1) := by decide +kernel
theorem dX12_firsts_20 : decode cX12_firsts 20 = .ok (.ireturn, 1) := by decide +kernel
theorem dX12_firsts_21 : decode cX12_firsts 21 = .ok (.iconst 0, 1) := by decide +kernel
theorem dX12_firsts_22 : decode cX12_firsts 22 = .ok (.istore_n 1, 1) := by decide +kernel
theorem dX12_firsts_23 : decode cX12_firsts 23 = .ok (.iconst 0, 1) := by decide +kernel
theorem dX12_firsts_24 : decode cX12_firsts 24 = .ok (.istore_n 2, 1) := by decide +kernel
theorem dX12_firsts_25 : decode cX12_firsts 25 = .ok (.iload_n 2, 1) := by decide +kernel
theorem dX12_firsts_26 : decode cX12_firsts 26 = .ok (.aload_n 0, 1) := by decide +kernel
theorem dX12_firsts_27 : decode cX12_firsts 27 = .ok (.getfield 35, 3) := by decide +kernel
theorem dX12_firsts_30 : decode cX12_firsts 30 = .ok (.iconst 0, 1) := by decide +kernel
theorem dX12_firsts_31 : decode cX12_firsts 31 = .ok (.iaload, 1) := by decide +kernel
theorem dX12_firsts_32 : decode cX12_firsts 32 = .ok (.if_icmp .ge 32, 3) := by decide +kernel
theorem dX12_firsts_35 : decode cX12_firsts 35 = .ok (.iload_n 1, 1) := by decide +kernel
theorem dX12_firsts_36 : decode cX12_firsts 36 = .ok (.aload_n 0, 1) := by decide +kernel
theorem dX12_firsts_37 : decode cX12_firsts 37 = .ok (.getfield 35, 3) := by decide +kernel
theorem dX12_firsts_40 : decode cX12_firsts 40 = .ok (.sipush 130, 3) := by decide +kernel
theorem dX12_firsts_43 : decode cX12_firsts 43 = .ok (.iload_n 2, 1) := by decide +kernel
theorem dX12_firsts_44 : decode cX12_firsts 44 = .ok (.iadd, 1) := by decide +kernel
theorem dX12_firsts_45 : decode cX12_firsts 45 = .ok (.iaload, 1) := by decide +kernel
theorem dX12_firsts_46 : decode cX12_firsts 46 = .ok (.ifCond .ne 9, 3) := by decide +kernel
theorem dX12_firsts_49 : decode cX12_firsts 49 = .ok (.iconst 1, 1) := by decide +kernel
theorem dX12_firsts_50 : decode cX12_firsts 50 = .ok (.iload_n 2, 1) := by decide +kernel
theorem dX12_firsts_51 : decode cX12_firsts 51 = .ok (.ishl, 1) := by decide +kernel
theorem dX12_firsts_52 : decode cX12_firsts 52 = .ok (.goto 4, 3) := by decide +kernel
theorem dX12_firsts_55 : decode cX12_firsts 55 = .ok (.iconst 0, 1) := by decide +kernel
theorem dX12_firsts_56 : decode cX12_firsts 56 = .ok (.ior, 1) := by decide +kernel
theorem dX12_firsts_57 : decode cX12_firsts 57 = .ok (.istore_n 1, 1) := by decide +kernel
theorem dX12_firsts_58 : decode cX12_firsts 58 = .ok (.iinc 2 1, 3) := by decide +kernel
theorem dX12_firsts_61 : decode cX12_firsts 61 = .ok (.goto (-36), 3) := by decide +kernel
theorem dX12_firsts_64 : decode cX12_firsts 64 = .ok (.iload_n 1, 1) := by decide +kernel
theorem dX12_firsts_65 : decode cX12_firsts 65 = .ok (.ireturn, 1) := by decide +kernel
theorem dX12_clash_0 : decode cX12_clash 0 = .ok (.aload_n 0, 1) := by decide +kernel
theorem dX12_clash_1 : decode cX12_clash 1 = .ok (.iconst 0, 1) := by decide +kernel
theorem dX12_clash_2 : decode cX12_clash 2 = .ok (.putfield 74, 3) := by decide +kernel
theorem dX12_clash_5 : decode cX12_clash 5 = .ok (.aload_n 0, 1) := by decide +kernel
theorem dX12_clash_6 : decode cX12_clash 6 = .ok (.iconst 0, 1) := by decide +kernel
theorem dX12_clash_7 : decode cX12_clash 7 = .ok (.putfield 77, 3) := by decide +kernel
theorem dX12_clash_10 : decode cX12_clash 10 = .ok (.aload_n 0, 1) := by decide +kernel
theorem dX12_clash_11 : decode cX12_clash 11 = .ok (.invokevirtual 313, 3) := by decide +kernel
theorem dX12_clash_14 : decode cX12_clash 14 = .ok (.istore_n 1, 1) := by decide +kernel
theorem dX12_clash_15 : decode cX12_clash 15 = .ok (.iconst 1, 1) := by decide +kernel
theorem dX12_clash_16 : decode cX12_clash 16 = .ok (.istore_n 2, 1) := by decide +kernel
theorem dX12_clash_17 : decode cX12_clash 17 = .ok (.iload_n 2, 1) := by decide +kernel
theorem dX12_clash_18 : decode cX12_clash 18 = .ok (.iload_n 1, 1) := by decide +kernel
theorem dX12_clash_19 : decode cX12_clash 19 = .ok (.if_icmp .gt 113, 3) := by decide +kernel
theorem dX12_clash_22 : decode cX12_clash 22 = .ok (.aload_n 0, 1) := by decide +kernel
theorem dX12_clash_23 : decode cX12_clash 23 = .ok (.getfield 68, 3) := by decide +kernel
theorem dX12_clash_26 : decode cX12_clash 26 = .ok (.iload_n 2, 1) := by decide +kernel
theorem dX12_clash_27 : decode cX12_clash 27 = .ok (.iconst (-1), 1) := by decide +kernel
theorem dX12_clash_28 : decode cX12_clash 28 = .ok (.iastore, 1) := by decide +kernel
theorem dX12_clash_29 : decode cX12_clash 29 = .ok (.iconst 0, 1) := by decide +kernel
theorem dX12_clash_30 : decode cX12_clash 30 = .ok (.istore_n 3, 1) := by decide +kernel
theorem dX12_clash_31 : decode cX12_clash 31 = .ok (.iload_n 3, 1) := by decide +kernel
theorem dX12_clash_32 : decode cX12_clash 32 = .ok (.aload_n 0, 1) := by decide +kernel
theorem dX12_clash_33 : decode cX12_clash 33 = .ok (.getfield 35, 3) := by decide +kernel
theorem dX12_clash_36 : decode cX12_clash 36 = .ok (.iconst 0, 1) := by decide +kernel
theorem dX12_clash_37 : decode cX12_clash 37 = .ok (.iaload, 1) := by decide +kernel
theorem dX12_clash_38 : decode cX12_clash 38 = .ok (.if_icmp .ge 88, 3) := by decide +kernel
theorem dX12_clash_41 : decode cX12_clash 41 = .ok (.iload_n 2, 1) := by decide +kernel
theorem dX12_clash_42 : decode cX12_clash 42 = .ok (.iload_n 3, 1) := by decide +kernel
theorem dX12_clash_43 : decode cX12_clash 43 = .ok (.invokestatic 113, 3) := by decide +kernel
theorem dX12_clash_46 : decode cX12_clash 46 = .ok (.ifCond .ne 6, 3) := by decide +kernel
theorem dX12_clash_49 : decode cX12_clash 49 = .ok (.goto 71, 3) := by decide +kernel
theorem dX12_clash_52 : decode cX12_clash 52 = .ok (.iload_n 2, 1) := by decide +kernel
theorem dX12_clash_53 : decode cX12_clash 53 = .ok (.iconst 1, 1) := by decide +kernel
theorem dX12_clash_54 : decode cX12_clash 54 = .ok (.iload_n 3, 1) := by decide +kernel
theorem dX12_clash_55 : decode cX12_clash 55 = .ok (.ishl, 1) := by decide +kernel
theorem dX12_clash_56 : decode cX12_clash 56 = .ok (.iconst (-1), 1) := by decide +kernel
theorem dX12_clash_57 : decode cX12_clash 57 = .ok (.ixor, 1) := by decide +kernel
theorem dX12_clash_58 : decode cX12_clash 58 = .ok (.iand, 1) := by decide +kernel
theorem dX12_clash_59 : decode cX12_clash 59 = .ok (.istore 4, 2) := by decide +kernel
theorem dX12_clash_61 : decode cX12_clash 61 = .ok (.aload_n 0, 1) := by decide +kernel
theorem dX12_clash_62 : decode cX12_clash 62 = .ok (.getfield 68, 3) := by decide +kernel
theorem dX12_clash_65 : decode cX12_clash 65 = .ok (.iload 4, 2) := by decide +kernel
theorem dX12_clash_67 : decode cX12_clash 67 = .ok (.iaload, 1) := by decide +kernel
theorem dX12_clash_68 : decode cX12_clash 68 = .ok (.aload_n 0, 1) := by decide +kernel
theorem dX12_clash_69 : decode cX12_clash 69 = .ok (.getfield 35, 3) := by decide +kernel
theorem dX12_clash_72 : decode cX12_clash 72 = .ok (.sipush 130, 3) := by decide +kernel
theorem dX12_clash_75 : decode cX12_clash 75 = .ok (.iload_n 3, 1) := by decide +kernel
theorem dX12_clash_76 : decode cX12_clash 76 = .ok (.iadd, 1) := by decide +kernel
theorem dX12_clash_77 : decode cX12_clash 77 = .ok (.iaload, 1) := by decide +kernel
theorem dX12_clash_78 : decode cX12_clash 78 = .ok (.iload 4, 2) := by decide +kernel
theorem dX12_clash_80 : decode cX12_clash 80 = .ok (.iconst (-1), 1) := by decide +kernel
theorem dX12_clash_81 : decode cX12_clash 81 = .ok (.ixor, 1) := by decide +kernel
theorem dX12_clash_82 : decode cX12_clash 82 = .ok (.iand, 1) := by decide +kernel
theorem dX12_clash_83 : decode cX12_clash 83 = .ok (.invokestatic 397, 3) := by decide +kernel
theorem dX12_clash_86 : decode cX12_clash 86 = .ok (.iadd, 1) := by decide +kernel
theorem dX12_clash_87 : decode cX12_clash 87 = .ok (.istore 5, 2) := by decide +kernel
theorem dX12_clash_89 : decode cX12_clash 89 = .ok (.aload_n 0, 1) := by decide +kernel
theorem dX12_clash_90 : decode cX12_clash 90 = .ok (.getfield 68, 3) := by decide +kernel
theorem dX12_clash_93 : decode cX12_clash 93 = .ok (.iload_n 2, 1) := by decide +kernel
theorem dX12_clash_94 : decode cX12_clash 94 = .ok (.aload_n 0, 1) := by decide +kernel
theorem dX12_clash_95 : decode cX12_clash 95 = .ok (.getfield 68, 3) := by decide +kernel
theorem dX12_clash_98 : decode cX12_clash 98 = .ok (.iload_n 2, 1) := by decide +kernel
theorem dX12_clash_99 : decode cX12_clash 99 = .ok (.iaload, 1) := by decide +kernel
theorem dX12_clash_100 : decode cX12_clash 100 = .ok (.ifCond .ge 8, 3) := by decide +kernel
theorem dX12_clash_103 : decode cX12_clash 103 = .ok (.iload 5, 2) := by decide +kernel
theorem dX12_clash_105 : decode cX12_clash 105 = .ok (.goto 14, 3) := by decide +kernel
theorem dX12_clash_108 : decode cX12_clash 108 = .ok (.aload_n 0, 1) := by decide +kernel
theorem dX12_clash_109 : decode cX12_clash 109 = .ok (.getfield 68, 3) := by decide +kernel
theorem dX12_clash_112 : decode cX12_clash 112 = .ok (.iload_n 2, 1) := by decide +kernel
theorem dX12_clash_113 : decode cX12_clash 113 = .ok (.iaload, 1) := by decide +kernel
theorem dX12_clash_114 : decode cX12_clash 114 = .ok (.iload 5, 2) := by decide +kernel
theorem dX12_clash_116 : decode cX12_clash 116 = .ok (.invokestatic 448, 3) := by decide +kernel
theorem dX12_clash_119 : decode cX12_clash 119 = .ok (.iastore, 1) := by decide +kernel
theorem dX12_clash_120 : decode cX12_clash 120 = .ok (.iinc 3 1, 3) := by decide +kernel
theorem dX12_clash_123 : decode cX12_clash 123 = .ok (.goto (-92), 3) := by decide +kernel
theorem dX12_clash_126 : decode cX12_clash 126 = .ok (.iinc 2 1, 3) := by decide +kernel
theorem dX12_clash_129 : decode cX12_clash 129 = .ok (.goto (-112), 3) := by decide +kernel
theorem dX12_clash_132 : decode cX12_clash 132 = .ok (.aload_n 0, 1) := by decide +kernel
theorem dX12_clash_133 : decode cX12_clash 133 = .ok (.getfield 68, 3) := by decide +kernel
theorem dX12_clash_136 : decode cX12_clash 136 = .ok (.iload_n 1, 1) := by decide +kernel
theorem dX12_clash_137 : decode cX12_clash 137 = .ok (.iaload, 1) := by decide +kernel
theorem dX12_clash_138 : decode cX12_clash 138 = .ok (.ireturn, 1) := by decide +kernel
theorem dX12_aheadOdds_0 : decode cX12_aheadOdds 0 = .ok (.aload_n 0, 1) := by decide +kernel
theorem dX12_aheadOdds_1 : decode cX12_aheadOdds 1 = .ok (.iconst 0, 1) := by decide +kernel
theorem dX12_aheadOdds_2 : decode cX12_aheadOdds 2 = .ok (.putfield 74, 3) := by decide +kernel
theorem dX12_aheadOdds_5 : decode cX12_aheadOdds 5 = .ok (.aload_n 0, 1) := by decide +kernel
theorem dX12_aheadOdds_6 : decode cX12_aheadOdds 6 = .ok (.iconst 0, 1) := by decide +kernel
theorem dX12_aheadOdds_7 : decode cX12_aheadOdds 7 = .ok (.putfield 77, 3) := by decide +kernel
theorem dX12_aheadOdds_10 : decode cX12_aheadOdds 10 = .ok (.aload_n 0, 1) := by decide +kernel
theorem dX12_aheadOdds_11 : decode cX12_aheadOdds 11 = .ok (.iload_n 1, 1) := by decide +kernel
theorem dX12_aheadOdds_12 : decode cX12_aheadOdds 12 = .ok (.invokevirtual 339, 3) := by decide +kernel
theorem dX12_aheadOdds_15 : decode cX12_aheadOdds 15 = .ok (.ifCond .eq 11, 3) := by decide +kernel
theorem dX12_aheadOdds_18 : decode cX12_aheadOdds 18 = .ok (.aload_n 0, 1) := by decide +kernel
theorem dX12_aheadOdds_19 : decode cX12_aheadOdds 19 = .ok (.iload_n 2, 1) := by decide +kernel
theorem dX12_aheadOdds_20 : decode cX12_aheadOdds 20 = .ok (.invokevirtual 339, 3) := by decide +kernel
theorem dX12_aheadOdds_23 : decode cX12_aheadOdds 23 = .ok (.ifCond .ne 9, 3) := by decide +kernel
theorem dX12_aheadOdds_26 : decode cX12_aheadOdds 26 = .ok (.aload_n 0, 1) := by decide +kernel
theorem dX12_aheadOdds_27 : decode cX12_aheadOdds 27 = .ok (.iconst 2, 1) := by decide +kernel
theorem dX12_aheadOdds_28 : decode cX12_aheadOdds 28 = .ok (.invokevirtual 89, 3) := by decide +kernel
theorem dX12_aheadOdds_31 : decode cX12_aheadOdds 31 = .ok (.ireturn, 1) := by decide +kernel
theorem dX12_aheadOdds_32 : decode cX12_aheadOdds 32 = .ok (.iload_n 1, 1) := by decide +kernel
theorem dX12_aheadOdds_33 : decode cX12_aheadOdds 33 = .ok (.iload_n 2, 1) := by decide +kernel
theorem dX12_aheadOdds_34 : decode cX12_aheadOdds 34 = .ok (.if_icmp .ne 10, 3) := by decide +kernel
theorem dX12_aheadOdds_37 : decode cX12_aheadOdds 37 = .ok (.aload_n 0, 1) := by decide +kernel
theorem dX12_aheadOdds_38 : decode cX12_aheadOdds 38 = .ok (.bipush 9, 2) := by decide +kernel
theorem dX12_aheadOdds_40 : decode cX12_aheadOdds 40 = .ok (.invokevirtual 89, 3) := by decide +kernel
theorem dX12_aheadOdds_43 : decode cX12_aheadOdds 43 = .ok (.ireturn, 1) := by decide +kernel
theorem dX12_aheadOdds_44 : decode cX12_aheadOdds 44 = .ok (.aload_n 0, 1) := by decide +kernel
theorem dX12_aheadOdds_45 : decode cX12_aheadOdds 45 = .ok (.invokevirtual 454, 3) := by decide +kernel
theorem dX12_aheadOdds_48 : decode cX12_aheadOdds 48 = .ok (.lstore_n 3, 1) := by decide +kernel
theorem dX12_aheadOdds_49 : decode cX12_aheadOdds 49 = .ok (.lload_n 3, 1) := by decide +kernel
theorem dX12_aheadOdds_50 : decode cX12_aheadOdds 50 = .ok (.lconst 0, 1) := by decide +kernel
theorem dX12_aheadOdds_51 : decode cX12_aheadOdds 51 = .ok (.lcmp, 1) := by decide +kernel
theorem dX12_aheadOdds_52 : decode cX12_aheadOdds 52 = .ok (.ifCond .ne 10, 3) := by decide +kernel
theorem dX12_aheadOdds_55 : decode cX12_aheadOdds 55 = .ok (.aload_n 0, 1) := by decide +kernel
theorem dX12_aheadOdds_56 : decode cX12_aheadOdds 56 = .ok (.bipush 8, 2) := by decide +kernel
theorem dX12_aheadOdds_58 : decode cX12_aheadOdds 58 = .ok (.invokevirtual 89, 3) := by decide +kernel
theorem dX12_aheadOdds_61 : decode cX12_aheadOdds 61 = .ok (.ireturn, 1) := by decide +kernel
theorem dX12_aheadOdds_62 : decode cX12_aheadOdds 62 = .ok (.aload_n 0, 1) := by decide +kernel
theorem dX12_aheadOdds_63 : decode cX12_aheadOdds 63 = .ok (.getfield 35, 3) := by decide +kernel
theorem dX12_aheadOdds_66 : decode cX12_aheadOdds 66 = .ok (.sipush 130, 3) := by decide +kernel
theorem dX12_aheadOdds_69 : decode cX12_aheadOdds 69 = .ok (.iload_n 2, 1) := by decide +kernel
theorem dX12_aheadOdds_70 : decode cX12_aheadOdds 70 = .ok (.iadd, 1) := by decide +kernel
theorem dX12_aheadOdds_71 : decode cX12_aheadOdds 71 = .ok (.iaload, 1) := by decide +kernel
theorem dX12_aheadOdds_72 : decode cX12_aheadOdds 72 = .ok (.istore 5, 2) := by decide +kernel
theorem dX12_aheadOdds_74 : decode cX12_aheadOdds 74 = .ok (.aload_n 0, 1) := by decide +kernel
theorem dX12_aheadOdds_75 : decode cX12_aheadOdds 75 = .ok (.getfield 35, 3) := by decide +kernel
theorem dX12_aheadOdds_78 : decode cX12_aheadOdds 78 = .ok (.sipush 130, 3) := by decide +kernel
theorem dX12_aheadOdds_81 : decode cX12_aheadOdds 81 = .ok (.iload_n 2, 1) := by decide +kernel
theorem dX12_aheadOdds_82 : decode cX12_aheadOdds 82 = .ok (.iadd, 1) := by decide +kernel
theorem dX12_aheadOdds_83 : decode cX12_aheadOdds 83 = .ok (.dup2, 1) := by decide +kernel
theorem dX12_aheadOdds_84 : decode cX12_aheadOdds 84 = .ok (.iaload, 1) := by decide +kernel
theorem dX12_aheadOdds_85 : decode cX12_aheadOdds 85 = .ok (.iconst 1, 1) := by decide +kernel
theorem dX12_aheadOdds_86 : decode cX12_aheadOdds 86 = .ok (.iload_n 1, 1) := by decide +kernel
theorem dX12_aheadOdds_87 : decode cX12_aheadOdds 87 = .ok (.ishl, 1) := by decide +kernel
theorem dX12_aheadOdds_88 : decode cX12_aheadOdds 88 = .ok (.ior, 1) := by decide +kernel
theorem dX12_aheadOdds_89 : decode cX12_aheadOdds 89 = .ok (.iastore, 1) := by decide +kernel
theorem dX12_aheadOdds_90 : decode cX12_aheadOdds 90 = .ok (.aload_n 0, 1) := by decide +kernel
theorem dX12_aheadOdds_91 : decode cX12_aheadOdds 91 = .ok (.invokevirtual 454, 3) := by decide +kernel
theorem dX12_aheadOdds_94 : decode cX12_aheadOdds 94 = .ok (.lstore 6, 2) := by decide +kernel
theorem dX12_aheadOdds_96 : decode cX12_aheadOdds 96 = .ok (.aload_n 0, 1) := by decide +kernel
theorem dX12_aheadOdds_97 : decode cX12_aheadOdds 97 = .ok (.getfield 35, 3) := by decide +kernel
theorem dX12_aheadOdds_100 : decode cX12_aheadOdds 100 = .ok (.sipush 130, 3) := by decide +kernel
theorem dX12_aheadOdds_103 : decode cX12_aheadOdds 103 = .ok (.iload_n 2, 1) := by decide +kernel
theorem dX12_aheadOdds_104 : decode cX12_aheadOdds 104 = .ok (.iadd, 1) := by decide +kernel
theorem dX12_aheadOdds_105 : decode cX12_aheadOdds 105 = .ok (.iload 5, 2) := by decide +kernel
theorem dX12_aheadOdds_107 : decode cX12_aheadOdds 107 = .ok (.iastore, 1) := by decide +kernel
theorem dX12_aheadOdds_108 : decode cX12_aheadOdds 108 = .ok (.aload_n 0, 1) := by decide +kernel
theorem dX12_aheadOdds_109 : decode cX12_aheadOdds 109 = .ok (.lload 6, 2) := by decide +kernel
theorem dX12_aheadOdds_111 : decode cX12_aheadOdds 111 = .ok (.lload_n 3, 1) := by decide +kernel
theorem dX12_aheadOdds_112 : decode cX12_aheadOdds 112 = .ok (.invokevirtual 458, 3) := by decide +kernel
theorem dX12_aheadOdds_115 : decode cX12_aheadOdds 115 = .ok (.ireturn, 1) := by decide +kernel
theorem dX12_draw_0 : decode cX12_draw 0 = .ok (.aload_n 0, 1) := by decide +kernel
theorem dX12_draw_1 : decode cX12_draw 1 = .ok (.aload_n 0, 1) := by decide +kernel
theorem dX12_draw_2 : decode cX12_draw 2 = .ok (.getfield 462, 3) := by decide +kernel
theorem dX12_draw_5 : decode cX12_draw 5 = .ok (.sipush 2971, 3) := by decide +kernel
theorem dX12_draw_8 : decode cX12_draw 8 = .ok (.imul, 1) := by decide +kernel
theorem dX12_draw_9 : decode cX12_draw 9 = .ok (.sipush 10663, 3) := by decide +kernel
theorem dX12_draw_12 : decode cX12_draw 12 = .ok (.iadd, 1) := by decide +kernel
theorem dX12_draw_13 : decode cX12_draw 13 = .ok (.ldc_w 465, 3) := by decide +kernel
theorem dX12_draw_16 : decode cX12_draw 16 = .ok (.irem, 1) := by decide +kernel
theorem dX12_draw_17 : decode cX12_draw 17 = .ok (.putfield 462, 3) := by decide +kernel
theorem dX12_draw_20 : decode cX12_draw 20 = .ok (.aload_n 0, 1) := by decide +kernel
theorem dX12_draw_21 : decode cX12_draw 21 = .ok (.getfield 462, 3) := by decide +kernel
theorem dX12_draw_24 : decode cX12_draw 24 = .ok (.bipush 8, 2) := by decide +kernel
theorem dX12_draw_26 : decode cX12_draw 26 = .ok (.idiv, 1) := by decide +kernel
theorem dX12_draw_27 : decode cX12_draw 27 = .ok (.iload_n 1, 1) := by decide +kernel
theorem dX12_draw_28 : decode cX12_draw 28 = .ok (.irem, 1) := by decide +kernel
theorem dX12_draw_29 : decode cX12_draw 29 = .ok (.ireturn, 1) := by decide +kernel
theorem dX12_missedYears_0 : decode cX12_missedYears 0 = .ok (.aload_n 0, 1) := by decide +kernel
theorem dX12_missedYears_1 : decode cX12_missedYears 1 = .ok (.getfield 35, 3) := by decide +kernel
theorem dX12_missedYears_4 : decode cX12_missedYears 4 = .ok (.iconst 5, 1) := by decide +kernel
theorem dX12_missedYears_5 : decode cX12_missedYears 5 = .ok (.iaload, 1) := by decide +kernel
theorem dX12_missedYears_6 : decode cX12_missedYears 6 = .ok (.iload_n 1, 1) := by decide +kernel
theorem dX12_missedYears_7 : decode cX12_missedYears 7 = .ok (.iadd, 1) := by decide +kernel
theorem dX12_missedYears_8 : decode cX12_missedYears 8 = .ok (.sipush 9999, 3) := by decide +kernel
theorem dX12_missedYears_11 : decode cX12_missedYears 11 = .ok (.if_icmp .le 5, 3) := by decide +kernel
theorem dX12_missedYears_14 : decode cX12_missedYears 14 = .ok (.iconst 1, 1) := by decide +kernel
theorem dX12_missedYears_15 : decode cX12_missedYears 15 = .ok (.ireturn, 1) := by decide +kernel
theorem dX12_missedYears_16 : decode cX12_missedYears 16 = .ok (.iconst 0, 1) := by decide +kernel
theorem dX12_missedYears_17 : decode cX12_missedYears 17 = .ok (.istore_n 2, 1) := by decide +kernel
theorem dX12_missedYears_18 : decode cX12_missedYears 18 = .ok (.iconst 0, 1) := by decide +kernel
theorem dX12_missedYears_19 : decode cX12_missedYears 19 = .ok (.istore_n 3, 1) := by decide +kernel
theorem dX12_missedYears_20 : decode cX12_missedYears 20 = .ok (.iload_n 3, 1) := by decide +kernel
theorem dX12_missedYears_21 : decode cX12_missedYears 21 = .ok (.iload_n 1, 1) := by decide +kernel
theorem dX12_missedYears_22 : decode cX12_missedYears 22 = .ok (.if_icmp .ge 47, 3) := by decide +kernel
theorem dX12_missedYears_25 : decode cX12_missedYears 25 = .ok (.aload_n 0, 1) := by decide +kernel
theorem dX12_missedYears_26 : decode cX12_missedYears 26 = .ok (.invokevirtual 377, 3) := by decide +kernel
theorem dX12_missedYears_29 : decode cX12_missedYears 29 = .ok (.istore 4, 2) := by decide +kernel
theorem dX12_missedYears_31 : decode cX12_missedYears 31 = .ok (.iload_n 2, 1) := by decide +kernel
theorem dX12_missedYears_32 : decode cX12_missedYears 32 = .ok (.iload 4, 2) := by decide +kernel
theorem dX12_missedYears_34 : decode cX12_missedYears 34 = .ok (.ifCond .eq 7, 3) := by decide +kernel
theorem dX12_missedYears_37 : decode cX12_missedYears 37 = .ok (.iconst 0, 1) := by decide +kernel
theorem dX12_missedYears_38 : decode cX12_missedYears 38 = .ok (.goto 4, 3) := by decide +kernel
theorem dX12_missedYears_41 : decode cX12_missedYears 41 = .ok (.iconst 1, 1) := by decide +kernel
theorem dX12_missedYears_42 : decode cX12_missedYears 42 = .ok (.iadd, 1) := by decide +kernel
theorem dX12_missedYears_43 : decode cX12_missedYears 43 = .ok (.istore_n 2, 1) := by decide +kernel
theorem dX12_missedYears_44 : decode cX12_missedYears 44 = .ok (.aload_n 0, 1) := by decide +kernel
theorem dX12_missedYears_45 : decode cX12_missedYears 45 = .ok (.dup, 1) := by decide +kernel
theorem dX12_missedYears_46 : decode cX12_missedYears 46 = .ok (.getfield 466, 3) := by decide +kernel
theorem dX12_missedYears_49 : decode cX12_missedYears 49 = .ok (.iload 4, 2) := by decide +kernel
theorem dX12_missedYears_51 : decode cX12_missedYears 51 = .ok (.ifCond .eq 7, 3) := by decide +kernel
theorem dX12_missedYears_54 : decode cX12_missedYears 54 = .ok (.iconst 1, 1) := by decide +kernel
theorem dX12_missedYears_55 : decode cX12_missedYears 55 = .ok (.goto 4, 3) := by decide +kernel
theorem dX12_missedYears_58 : decode cX12_missedYears 58 = .ok (.iconst 0, 1) := by decide +kernel
theorem dX12_missedYears_59 : decode cX12_missedYears 59 = .ok (.iadd, 1) := by decide +kernel
theorem dX12_missedYears_60 : decode cX12_missedYears 60 = .ok (.putfield 466, 3) := by decide +kernel
theorem dX12_missedYears_63 : decode cX12_missedYears 63 = .ok (.iinc 3 1, 3) := by decide +kernel
theorem dX12_missedYears_66 : decode cX12_missedYears 66 = .ok (.goto (-46), 3) := by decide +kernel
theorem dX12_missedYears_69 : decode cX12_missedYears 69 = .ok (.aload_n 0, 1) := by decide +kernel
theorem dX12_missedYears_70 : decode cX12_missedYears 70 = .ok (.dup, 1) := by decide +kernel
theorem dX12_missedYears_71 : decode cX12_missedYears 71 = .ok (.getfield 469, 3) := by decide +kernel
theorem dX12_missedYears_74 : decode cX12_missedYears 74 = .ok (.iload_n 1, 1) := by decide +kernel
theorem dX12_missedYears_75 : decode cX12_missedYears 75 = .ok (.iadd, 1) := by decide +kernel
theorem dX12_missedYears_76 : decode cX12_missedYears 76 = .ok (.putfield 469, 3) := by decide +kernel
theorem dX12_missedYears_79 : decode cX12_missedYears 79 = .ok (.iload_n 2, 1) := by decide +kernel
theorem dX12_missedYears_80 : decode cX12_missedYears 80 = .ok (.ireturn, 1) := by decide +kernel
theorem dX12_isJoked_0 : decode cX12_isJoked 0 = .ok (.aload_n 0, 1) := by decide +kernel
theorem dX12_isJoked_1 : decode cX12_isJoked 1 = .ok (.invokevirtual 370, 3) := by decide +kernel
theorem dX12_isJoked_4 : decode cX12_isJoked 4 = .ok (.istore_n 1, 1) := by decide +kernel
theorem dX12_isJoked_5 : decode cX12_isJoked 5 = .ok (.iload_n 1, 1) := by decide +kernel
theorem dX12_isJoked_6 : decode cX12_isJoked 6 = .ok (.ifCond .ne 5, 3) := by decide +kernel
theorem dX12_isJoked_9 : decode cX12_isJoked 9 = .ok (.iconst 0, 1) := by decide +kernel
theorem dX12_isJoked_10 : decode cX12_isJoked 10 = .ok (.ireturn, 1) := by decide +kernel
theorem dX12_isJoked_11 : decode cX12_isJoked 11 = .ok (.aload_n 0, 1) := by decide +kernel
theorem dX12_isJoked_12 : decode cX12_isJoked 12 = .ok (.iload_n 1, 1) := by decide +kernel
theorem dX12_isJoked_13 : decode cX12_isJoked 13 = .ok (.invokestatic 397, 3) := by decide +kernel
theorem dX12_isJoked_16 : decode cX12_isJoked 16 = .ok (.invokevirtual 472, 3) := by decide +kernel
theorem dX12_isJoked_19 : decode cX12_isJoked 19 = .ok (.istore_n 2, 1) := by decide +kernel
theorem dX12_isJoked_20 : decode cX12_isJoked 20 = .ok (.iconst 0, 1) := by decide +kernel
theorem dX12_isJoked_21 : decode cX12_isJoked 21 = .ok (.istore_n 3, 1) := by decide +kernel
theorem dX12_isJoked_22 : decode cX12_isJoked 22 = .ok (.iload_n 1, 1) := by decide +kernel
theorem dX12_isJoked_23 : decode cX12_isJoked 23 = .ok (.iload_n 3, 1) := by decide +kernel
theorem dX12_isJoked_24 : decode cX12_isJoked 24 = .ok (.invokestatic 113, 3) := by decide +kernel
theorem dX12_isJoked_27 : decode cX12_isJoked 27 = .ok (.ifCond .eq 7, 3) := by decide +kernel
theorem dX12_isJoked_30 : decode cX12_isJoked 30 = .ok (.iload_n 2, 1) := by decide +kernel
theorem dX12_isJoked_31 : decode cX12_isJoked 31 = .ok (.ifCond .le 25, 3) := by decide +kernel
theorem dX12_isJoked_34 : decode cX12_isJoked 34 = .ok (.iload_n 2, 1) := by decide +kernel
theorem dX12_isJoked_35 : decode cX12_isJoked 35 = .ok (.iload_n 1, 1) := by decide +kernel
theorem dX12_isJoked_36 : decode cX12_isJoked 36 = .ok (.iload_n 3, 1) := by decide +kernel
theorem dX12_isJoked_37 : decode cX12_isJoked 37 = .ok (.invokestatic 113, 3) := by decide +kernel
theorem dX12_isJoked_40 : decode cX12_isJoked 40 = .ok (.ifCond .eq 7, 3) := by decide +kernel
theorem dX12_isJoked_43 : decode cX12_isJoked 43 = .ok (.iconst 1, 1) := by decide +kernel
theorem dX12_isJoked_44 : decode cX12_isJoked 44 = .ok (.goto 4, 3) := by decide +kernel
theorem dX12_isJoked_47 : decode cX12_isJoked 47 = .ok (.iconst 0, 1) := by decide +kernel
theorem dX12_isJoked_48 : decode cX12_isJoked 48 = .ok (.isub, 1) := by decide +kernel
theorem dX12_isJoked_49 : decode cX12_isJoked 49 = .ok (.istore_n 2, 1) := by decide +kernel
theorem dX12_isJoked_50 : decode cX12_isJoked 50 = .ok (.iinc 3 1, 3) := by decide +kernel
theorem dX12_isJoked_53 : decode cX12_isJoked 53 = .ok (.goto (-31), 3) := by decide +kernel
theorem dX12_isJoked_56 : decode cX12_isJoked 56 = .ok (.aload_n 0, 1) := by decide +kernel
theorem dX12_isJoked_57 : decode cX12_isJoked 57 = .ok (.getfield 35, 3) := by decide +kernel
theorem dX12_isJoked_60 : decode cX12_isJoked 60 = .ok (.bipush 6, 2) := by decide +kernel
theorem dX12_isJoked_62 : decode cX12_isJoked 62 = .ok (.dup2, 1) := by decide +kernel
theorem dX12_isJoked_63 : decode cX12_isJoked 63 = .ok (.iaload, 1) := by decide +kernel
theorem dX12_isJoked_64 : decode cX12_isJoked 64 = .ok (.iconst 1, 1) := by decide +kernel
theorem dX12_isJoked_65 : decode cX12_isJoked 65 = .ok (.iload_n 3, 1) := by decide +kernel
theorem dX12_isJoked_66 : decode cX12_isJoked 66 = .ok (.ishl, 1) := by decide +kernel
theorem dX12_isJoked_67 : decode cX12_isJoked 67 = .ok (.ior, 1) := by decide +kernel
theorem dX12_isJoked_68 : decode cX12_isJoked 68 = .ok (.iastore, 1) := by decide +kernel
theorem dX12_isJoked_69 : decode cX12_isJoked 69 = .ok (.aload_n 0, 1) := by decide +kernel
theorem dX12_isJoked_70 : decode cX12_isJoked 70 = .ok (.dup, 1) := by decide +kernel
theorem dX12_isJoked_71 : decode cX12_isJoked 71 = .ok (.getfield 466, 3) := by decide +kernel
theorem dX12_isJoked_74 : decode cX12_isJoked 74 = .ok (.iconst 1, 1) := by decide +kernel
theorem dX12_isJoked_75 : decode cX12_isJoked 75 = .ok (.iadd, 1) := by decide +kernel
theorem dX12_isJoked_76 : decode cX12_isJoked 76 = .ok (.putfield 466, 3) := by decide +kernel
theorem dX12_isJoked_79 : decode cX12_isJoked 79 = .ok (.aload_n 0, 1) := by decide +kernel
theorem dX12_isJoked_80 : decode cX12_isJoked 80 = .ok (.dup, 1) := by decide +kernel
theorem dX12_isJoked_81 : decode cX12_isJoked 81 = .ok (.getfield 475, 3) := by decide +kernel
theorem dX12_isJoked_84 : decode cX12_isJoked 84 = .ok (.iconst 1, 1) := by decide +kernel
theorem dX12_isJoked_85 : decode cX12_isJoked 85 = .ok (.iadd, 1) := by decide +kernel
theorem dX12_isJoked_86 : decode cX12_isJoked 86 = .ok (.putfield 475, 3) := by decide +kernel
theorem dX12_isJoked_89 : decode cX12_isJoked 89 = .ok (.iconst 1, 1) := by decide +kernel
theorem dX12_isJoked_90 : decode cX12_isJoked 90 = .ok (.ireturn, 1) := by decide +kernel
theorem dX12_does_0 : decode cX12_does 0 = .ok (.aload_n 0, 1) := by decide +kernel
theorem dX12_does_1 : decode cX12_does 1 = .ok (.getfield 35, 3) := by decide +kernel
theorem dX12_does_4 : decode cX12_does 4 = .ok (.iload_n 1, 1) := by decide +kernel
theorem dX12_does_5 : decode cX12_does 5 = .ok (.iaload, 1) := by decide +kernel
theorem dX12_does_6 : decode cX12_does 6 = .ok (.istore_n 2, 1) := by decide +kernel
theorem dX12_does_7 : decode cX12_does 7 = .ok (.aload_n 0, 1) := by decide +kernel
theorem dX12_does_8 : decode cX12_does 8 = .ok (.getfield 35, 3) := by decide +kernel
theorem dX12_does_11 : decode cX12_does 11 = .ok (.iload_n 1, 1) := by decide +kernel
theorem dX12_does_12 : decode cX12_does 12 = .ok (.iconst 1, 1) := by decide +kernel
theorem dX12_does_13 : decode cX12_does 13 = .ok (.iadd, 1) := by decide +kernel
theorem dX12_does_14 : decode cX12_does 14 = .ok (.iaload, 1) := by decide +kernel
theorem dX12_does_15 : decode cX12_does 15 = .ok (.istore_n 3, 1) := by decide +kernel
theorem dX12_does_16 : decode cX12_does 16 = .ok (.iload_n 2, 1) := by decide +kernel
theorem dX12_does_17 : decode cX12_does 17 = .ok (.ifCond .ne 9, 3) := by decide +kernel
theorem dX12_does_20 : decode cX12_does 20 = .ok (.aload_n 0, 1) := by decide +kernel
theorem dX12_does_21 : decode cX12_does 21 = .ok (.iload_n 3, 1) := by decide +kernel
theorem dX12_does_22 : decode cX12_does 22 = .ok (.invokevirtual 478, 3) := by decide +kernel
theorem dX12_does_25 : decode cX12_does 25 = .ok (.ireturn, 1) := by decide +kernel
theorem dX12_does_26 : decode cX12_does 26 = .ok (.iload_n 2, 1) := by decide +kernel
theorem dX12_does_27 : decode cX12_does 27 = .ok (.iconst 4, 1) := by decide +kernel
theorem dX12_does_28 : decode cX12_does 28 = .ok (.if_icmp .ne 16, 3) := by decide +kernel
theorem dX12_does_31 : decode cX12_does 31 = .ok (.aload_n 0, 1) := by decide +kernel
theorem dX12_does_32 : decode cX12_does 32 = .ok (.invokevirtual 481, 3) := by decide +kernel
theorem dX12_does_35 : decode cX12_does 35 = .ok (.ifCond .eq 7, 3) := by decide +kernel
theorem dX12_does_38 : decode cX12_does 38 = .ok (.iconst 0, 1) := by decide +kernel
theorem dX12_does_39 : decode cX12_does 39 = .ok (.goto 4, 3) := by decide +kernel
theorem dX12_does_42 : decode cX12_does 42 = .ok (.iconst 1, 1) := by decide +kernel
theorem dX12_does_43 : decode cX12_does 43 = .ok (.ireturn, 1) := by decide +kernel
theorem dX12_does_44 : decode cX12_does 44 = .ok (.iload_n 2, 1) := by decide +kernel
theorem dX12_does_45 : decode cX12_does 45 = .ok (.iconst 3, 1) := by decide +kernel
theorem dX12_does_46 : decode cX12_does 46 = .ok (.if_icmp .ne 18, 3) := by decide +kernel
theorem dX12_does_49 : decode cX12_does 49 = .ok (.aload_n 0, 1) := by decide +kernel
theorem dX12_does_50 : decode cX12_does 50 = .ok (.getfield 35, 3) := by decide +kernel
theorem dX12_does_53 : decode cX12_does 53 = .ok (.bipush 7, 2) := by decide +kernel
theorem dX12_does_55 : decode cX12_does 55 = .ok (.dup2, 1) := by decide +kernel
theorem dX12_does_56 : decode cX12_does 56 = .ok (.iaload, 1) := by decide +kernel
theorem dX12_does_57 : decode cX12_does 57 = .ok (.iconst 1, 1) := by decide +kernel
theorem dX12_does_58 : decode cX12_does 58 = .ok (.iload_n 3, 1) := by decide +kernel
theorem dX12_does_59 : decode cX12_does 59 = .ok (.ishl, 1) := by decide +kernel
theorem dX12_does_60 : decode cX12_does 60 = .ok (.ixor, 1) := by decide +kernel
theorem dX12_does_61 : decode cX12_does 61 = .ok (.iastore, 1) := by decide +kernel
theorem dX12_does_62 : decode cX12_does 62 = .ok (.iconst 0, 1) := by decide +kernel
theorem dX12_does_63 : decode cX12_does 63 = .ok (.ireturn, 1) := by decide +kernel
theorem dX12_does_64 : decode cX12_does 64 = .ok (.iload_n 2, 1) := by decide +kernel
theorem dX12_does_65 : decode cX12_does 65 = .ok (.iconst 1, 1) := by decide +kernel
theorem dX12_does_66 : decode cX12_does 66 = .ok (.if_icmp .ne 11, 3) := by decide +kernel
theorem dX12_does_69 : decode cX12_does 69 = .ok (.aload_n 0, 1) := by decide +kernel
theorem dX12_does_70 : decode cX12_does 70 = .ok (.iload_n 3, 1) := by decide +kernel
theorem dX12_does_71 : decode cX12_does 71 = .ok (.invokevirtual 380, 3) := by decide +kernel
theorem dX12_does_74 : decode cX12_does 74 = .ok (.goto 14, 3) := by decide +kernel
theorem dX12_does_77 : decode cX12_does 77 = .ok (.aload_n 0, 1) := by decide +kernel
theorem dX12_does_78 : decode cX12_does 78 = .ok (.getfield 35, 3) := by decide +kernel
theorem dX12_does_81 : decode cX12_does 81 = .ok (.bipush 6, 2) := by decide +kernel
theorem dX12_does_83 : decode cX12_does 83 = .ok (.iaload, 1) := by decide +kernel
theorem dX12_does_84 : decode cX12_does 84 = .ok (.iload_n 3, 1) := by decide +kernel
theorem dX12_does_85 : decode cX12_does 85 = .ok (.invokestatic 113, 3) := by decide +kernel
theorem dX12_does_88 : decode cX12_does 88 = .ok (.istore 4, 2) := by decide +kernel
theorem dX12_does_90 : decode cX12_does 90 = .ok (.iload 4, 2) := by decide +kernel
theorem dX12_does_92 : decode cX12_does 92 = .ok (.ifCond .ne 5, 3) := by decide +kernel
theorem dX12_does_95 : decode cX12_does 95 = .ok (.iconst 1, 1) := by decide +kernel
theorem dX12_does_96 : decode cX12_does 96 = .ok (.ireturn, 1) := by decide +kernel
theorem dX12_does_97 : decode cX12_does 97 = .ok (.aload_n 0, 1) := by decide +kernel
theorem dX12_does_98 : decode cX12_does 98 = .ok (.getfield 35, 3) := by decide +kernel
theorem dX12_does_101 : decode cX12_does 101 = .ok (.bipush 6, 2) := by decide +kernel
theorem dX12_does_103 : decode cX12_does 103 = .ok (.dup2, 1) := by decide +kernel
theorem dX12_does_104 : decode cX12_does 104 = .ok (.iaload, 1) := by decide +kernel
theorem dX12_does_105 : decode cX12_does 105 = .ok (.iconst 1, 1) := by decide +kernel
theorem dX12_does_106 : decode cX12_does 106 = .ok (.iload_n 3, 1) := by decide +kernel
theorem dX12_does_107 : decode cX12_does 107 = .ok (.ishl, 1) := by decide +kernel
theorem dX12_does_108 : decode cX12_does 108 = .ok (.ixor, 1) := by decide +kernel
theorem dX12_does_109 : decode cX12_does 109 = .ok (.iastore, 1) := by decide +kernel
theorem dX12_does_110 : decode cX12_does 110 = .ok (.aload_n 0, 1) := by decide +kernel
theorem dX12_does_111 : decode cX12_does 111 = .ok (.dup, 1) := by decide +kernel
theorem dX12_does_112 : decode cX12_does 112 = .ok (.getfield 466, 3) := by decide +kernel
theorem dX12_does_115 : decode cX12_does 115 = .ok (.iload_n 2, 1) := by decide +kernel
theorem dX12_does_116 : decode cX12_does 116 = .ok (.iconst 1, 1) := by decide +kernel
theorem dX12_does_117 : decode cX12_does 117 = .ok (.if_icmp .ne 7, 3) := by decide +kernel
theorem dX12_does_120 : decode cX12_does 120 = .ok (.iconst 1, 1) := by decide +kernel
theorem dX12_does_121 : decode cX12_does 121 = .ok (.goto 4, 3) := by decide +kernel
theorem dX12_does_124 : decode cX12_does 124 = .ok (.iconst 0, 1) := by decide +kernel
theorem dX12_does_125 : decode cX12_does 125 = .ok (.iadd, 1) := by decide +kernel
theorem dX12_does_126 : decode cX12_does 126 = .ok (.putfield 466, 3) := by decide +kernel
theorem dX12_does_129 : decode cX12_does 129 = .ok (.iconst 0, 1) := by decide +kernel
theorem dX12_does_130 : decode cX12_does 130 = .ok (.ireturn, 1) := by decide +kernel
theorem dX12_isSo_0 : decode cX12_isSo 0 = .ok (.aload_n 0, 1) := by decide +kernel
theorem dX12_isSo_1 : decode cX12_isSo 1 = .ok (.getfield 35, 3) := by decide +kernel
theorem dX12_isSo_4 : decode cX12_isSo 4 = .ok (.iload_n 1, 1) := by decide +kernel
theorem dX12_isSo_5 : decode cX12_isSo 5 = .ok (.bipush 6, 2) := by decide +kernel
theorem dX12_isSo_7 : decode cX12_isSo 7 = .ok (.iadd, 1) := by decide +kernel
theorem dX12_isSo_8 : decode cX12_isSo 8 = .ok (.iaload, 1) := by decide +kernel
theorem dX12_isSo_9 : decode cX12_isSo 9 = .ok (.istore_n 2, 1) := by decide +kernel
theorem dX12_isSo_10 : decode cX12_isSo 10 = .ok (.iload_n 2, 1) := by decide +kernel
theorem dX12_isSo_11 : decode cX12_isSo 11 = .ok (.ifCond .ne 19, 3) := by decide +kernel
theorem dX12_isSo_14 : decode cX12_isSo 14 = .ok (.aload_n 0, 1) := by decide +kernel
theorem dX12_isSo_15 : decode cX12_isSo 15 = .ok (.invokevirtual 330, 3) := by decide +kernel
theorem dX12_isSo_18 : decode cX12_isSo 18 = .ok (.aload_n 0, 1) := by decide +kernel
theorem dX12_isSo_19 : decode cX12_isSo 19 = .ok (.getfield 35, 3) := by decide +kernel
theorem dX12_isSo_22 : decode cX12_isSo 22 = .ok (.iload_n 1, 1) := by decide +kernel
theorem dX12_isSo_23 : decode cX12_isSo 23 = .ok (.iconst 1, 1) := by decide +kernel
theorem dX12_isSo_24 : decode cX12_isSo 24 = .ok (.iadd, 1) := by decide +kernel
theorem dX12_isSo_25 : decode cX12_isSo 25 = .ok (.iaload, 1) := by decide +kernel
theorem dX12_isSo_26 : decode cX12_isSo 26 = .ok (.invokestatic 113, 3) := by decide +kernel
theorem dX12_isSo_29 : decode cX12_isSo 29 = .ok (.ireturn, 1) := by decide +kernel
theorem dX12_isSo_30 : decode cX12_isSo 30 = .ok (.iload_n 2, 1) := by decide +kernel
theorem dX12_isSo_31 : decode cX12_isSo 31 = .ok (.iconst 1, 1) := by decide +kernel
theorem dX12_isSo_32 : decode cX12_isSo 32 = .ok (.if_icmp .ne 23, 3) := by decide +kernel
theorem dX12_isSo_35 : decode cX12_isSo 35 = .ok (.aload_n 0, 1) := by decide +kernel
theorem dX12_isSo_36 : decode cX12_isSo 36 = .ok (.aload_n 0, 1) := by decide +kernel
theorem dX12_isSo_37 : decode cX12_isSo 37 = .ok (.invokevirtual 330, 3) := by decide +kernel
theorem dX12_isSo_40 : decode cX12_isSo 40 = .ok (.invokevirtual 333, 3) := by decide +kernel
theorem dX12_isSo_43 : decode cX12_isSo 43 = .ok (.aload_n 0, 1) := by decide +kernel
theorem dX12_isSo_44 : decode cX12_isSo 44 = .ok (.getfield 35, 3) := by decide +kernel
theorem dX12_isSo_47 : decode cX12_isSo 47 = .ok (.iload_n 1, 1) := by decide +kernel
theorem dX12_isSo_48 : decode cX12_isSo 48 = .ok (.iconst 1, 1) := by decide +kernel
theorem dX12_isSo_49 : decode cX12_isSo 49 = .ok (.iadd, 1) := by decide +kernel
theorem dX12_isSo_50 : decode cX12_isSo 50 = .ok (.iaload, 1) := by decide +kernel
theorem dX12_isSo_51 : decode cX12_isSo 51 = .ok (.invokestatic 113, 3) := by decide +kernel
theorem dX12_isSo_54 : decode cX12_isSo 54 = .ok (.ireturn, 1) := by decide +kernel
theorem dX12_isSo_55 : decode cX12_isSo 55 = .ok (.aload_n 0, 1) := by decide +kernel
theorem dX12_isSo_56 : decode cX12_isSo 56 = .ok (.aload_n 0, 1) := by decide +kernel
theorem dX12_isSo_57 : decode cX12_isSo 57 = .ok (.invokevirtual 370, 3) := by decide +kernel
theorem dX12_isSo_60 : decode cX12_isSo 60 = .ok (.invokevirtual 358, 3) := by decide +kernel
theorem dX12_isSo_63 : decode cX12_isSo 63 = .ok (.aload_n 0, 1) := by decide +kernel
theorem dX12_isSo_64 : decode cX12_isSo 64 = .ok (.getfield 44, 3) := by decide +kernel
theorem dX12_isSo_67 : decode cX12_isSo 67 = .ok (.aload_n 0, 1) := by decide +kernel
theorem dX12_isSo_68 : decode cX12_isSo 68 = .ok (.getfield 35, 3) := by decide +kernel
theorem dX12_isSo_71 : decode cX12_isSo 71 = .ok (.iload_n 1, 1) := by decide +kernel
theorem dX12_isSo_72 : decode cX12_isSo 72 = .ok (.iconst 1, 1) := by decide +kernel
theorem dX12_isSo_73 : decode cX12_isSo 73 = .ok (.iadd, 1) := by decide +kernel
theorem dX12_isSo_74 : decode cX12_isSo 74 = .ok (.iaload, 1) := by decide +kernel
theorem dX12_isSo_75 : decode cX12_isSo 75 = .ok (.iaload, 1) := by decide +kernel
theorem dX12_isSo_76 : decode cX12_isSo 76 = .ok (.istore_n 3, 1) := by decide +kernel
theorem dX12_isSo_77 : decode cX12_isSo 77 = .ok (.aload_n 0, 1) := by decide +kernel
theorem dX12_isSo_78 : decode cX12_isSo 78 = .ok (.getfield 35, 3) := by decide +kernel
theorem dX12_isSo_81 : decode cX12_isSo 81 = .ok (.iload_n 1, 1) := by decide +kernel
theorem dX12_isSo_82 : decode cX12_isSo 82 = .ok (.bipush 7, 2) := by decide +kernel
theorem dX12_isSo_84 : decode cX12_isSo 84 = .ok (.iadd, 1) := by decide +kernel
theorem dX12_isSo_85 : decode cX12_isSo 85 = .ok (.iaload, 1) := by decide +kernel
theorem dX12_isSo_86 : decode cX12_isSo 86 = .ok (.bipush 60, 2) := by decide +kernel
theorem dX12_isSo_88 : decode cX12_isSo 88 = .ok (.if_icmp .ne 23, 3) := by decide +kernel
theorem dX12_isSo_91 : decode cX12_isSo 91 = .ok (.iload_n 3, 1) := by decide +kernel
theorem dX12_isSo_92 : decode cX12_isSo 92 = .ok (.aload_n 0, 1) := by decide +kernel
theorem dX12_isSo_93 : decode cX12_isSo 93 = .ok (.getfield 35, 3) := by decide +kernel
theorem dX12_isSo_96 : decode cX12_isSo 96 = .ok (.iload_n 1, 1) := by decide +kernel
theorem dX12_isSo_97 : decode cX12_isSo 97 = .ok (.iconst 2, 1) := by decide +kernel
theorem dX12_isSo_98 : decode cX12_isSo 98 = .ok (.iadd, 1) := by decide +kernel
theorem dX12_isSo_99 : decode cX12_isSo 99 = .ok (.iaload, 1) := by decide +kernel
theorem dX12_isSo_100 : decode cX12_isSo 100 = .ok (.if_icmp .ge 7, 3) := by decide +kernel
theorem dX12_isSo_103 : decode cX12_isSo 103 = .ok (.iconst 1, 1) := by decide +kernel
theorem dX12_isSo_104 : decode cX12_isSo 104 = .ok (.goto 58, 3) := by decide +kernel
theorem dX12_isSo_107 : decode cX12_isSo 107 = .ok (.iconst 0, 1) := by decide +kernel
theorem dX12_isSo_108 : decode cX12_isSo 108 = .ok (.goto 54, 3) := by decide +kernel
theorem dX12_isSo_111 : decode cX12_isSo 111 = .ok (.aload_n 0, 1) := by decide +kernel
theorem dX12_isSo_112 : decode cX12_isSo 112 = .ok (.getfield 35, 3) := by decide +kernel
theorem dX12_isSo_115 : decode cX12_isSo 115 = .ok (.iload_n 1, 1) := by decide +kernel
theorem dX12_isSo_116 : decode cX12_isSo 116 = .ok (.bipush 7, 2) := by decide +kernel
theorem dX12_isSo_118 : decode cX12_isSo 118 = .ok (.iadd, 1) := by decide +kernel
theorem dX12_isSo_119 : decode cX12_isSo 119 = .ok (.iaload, 1) := by decide +kernel
theorem dX12_isSo_120 : decode cX12_isSo 120 = .ok (.bipush 62, 2) := by decide +kernel
theorem dX12_isSo_122 : decode cX12_isSo 122 = .ok (.if_icmp .ne 23, 3) := by decide +kernel
theorem dX12_isSo_125 : decode cX12_isSo 125 = .ok (.iload_n 3, 1) := by decide +kernel
theorem dX12_isSo_126 : decode cX12_isSo 126 = .ok (.aload_n 0, 1) := by decide +kernel
theorem dX12_isSo_127 : decode cX12_isSo 127 = .ok (.getfield 35, 3) := by decide +kernel
theorem dX12_isSo_130 : decode cX12_isSo 130 = .ok (.iload_n 1, 1) := by decide +kernel
theorem dX12_isSo_131 : decode cX12_isSo 131 = .ok (.iconst 2, 1) := by decide +kernel
theorem dX12_isSo_132 : decode cX12_isSo 132 = .ok (.iadd, 1) := by decide +kernel
theorem dX12_isSo_133 : decode cX12_isSo 133 = .ok (.iaload, 1) := by decide +kernel
theorem dX12_isSo_134 : decode cX12_isSo 134 = .ok (.if_icmp .le 7, 3) := by decide +kernel
theorem dX12_isSo_137 : decode cX12_isSo 137 = .ok (.iconst 1, 1) := by decide +kernel
theorem dX12_isSo_138 : decode cX12_isSo 138 = .ok (.goto 24, 3) := by decide +kernel
theorem dX12_isSo_141 : decode cX12_isSo 141 = .ok (.iconst 0, 1) := by decide +kernel
theorem dX12_isSo_142 : decode cX12_isSo 142 = .ok (.goto 20, 3) := by decide +kernel
theorem dX12_isSo_145 : decode cX12_isSo 145 = .ok (.iload_n 3, 1) := by decide +kernel
theorem dX12_isSo_146 : decode cX12_isSo 146 = .ok (.aload_n 0, 1) := by decide +kernel
theorem dX12_isSo_147 : decode cX12_isSo 147 = .ok (.getfield 35, 3) := by decide +kernel
theorem dX12_isSo_150 : decode cX12_isSo 150 = .ok (.iload_n 1, 1) := by decide +kernel
theorem dX12_isSo_151 : decode cX12_isSo 151 = .ok (.iconst 2, 1) := by decide +kernel
theorem dX12_isSo_152 : decode cX12_isSo 152 = .ok (.iadd, 1) := by decide +kernel
theorem dX12_isSo_153 : decode cX12_isSo 153 = .ok (.iaload, 1) := by decide +kernel
theorem dX12_isSo_154 : decode cX12_isSo 154 = .ok (.if_icmp .ne 7, 3) := by decide +kernel
theorem dX12_isSo_157 : decode cX12_isSo 157 = .ok (.iconst 1, 1) := by decide +kernel
theorem dX12_isSo_158 : decode cX12_isSo 158 = .ok (.goto 4, 3) := by decide +kernel
theorem dX12_isSo_161 : decode cX12_isSo 161 = .ok (.iconst 0, 1) := by decide +kernel
theorem dX12_isSo_162 : decode cX12_isSo 162 = .ok (.ireturn, 1) := by decide +kernel
theorem dX12_doOne_0 : decode cX12_doOne 0 = .ok (.aload_n 0, 1) := by decide +kernel
theorem dX12_doOne_1 : decode cX12_doOne 1 = .ok (.getfield 484, 3) := by decide +kernel
theorem dX12_doOne_4 : decode cX12_doOne 4 = .ok (.sipush 300, 3) := by decide +kernel
theorem dX12_doOne_7 : decode cX12_doOne 7 = .ok (.if_icmp .ne 14, 3) := by decide +kernel
theorem dX12_doOne_10 : decode cX12_doOne 10 = .ok (.aload_n 0, 1) := by decide +kernel
theorem dX12_doOne_11 : decode cX12_doOne 11 = .ok (.iconst 1, 1) := by decide +kernel
theorem dX12_doOne_12 : decode cX12_doOne 12 = .ok (.putfield 487, 3) := by decide +kernel
theorem dX12_doOne_15 : decode cX12_doOne 15 = .ok (.aload_n 0, 1) := by decide +kernel
theorem dX12_doOne_16 : decode cX12_doOne 16 = .ok (.iconst 1, 1) := by decide +kernel
theorem dX12_doOne_17 : decode cX12_doOne 17 = .ok (.putfield 490, 3) := by decide +kernel
theorem dX12_doOne_20 : decode cX12_doOne 20 = .ok (.return_, 1) := by decide +kernel
theorem dX12_doOne_21 : decode cX12_doOne 21 = .ok (.aload_n 0, 1) := by decide +kernel
theorem dX12_doOne_22 : decode cX12_doOne 22 = .ok (.dup, 1) := by decide +kernel
theorem dX12_doOne_23 : decode cX12_doOne 23 = .ok (.getfield 484, 3) := by decide +kernel
theorem dX12_doOne_26 : decode cX12_doOne 26 = .ok (.iconst 1, 1) := by decide +kernel
theorem dX12_doOne_27 : decode cX12_doOne 27 = .ok (.iadd, 1) := by decide +kernel
theorem dX12_doOne_28 : decode cX12_doOne 28 = .ok (.putfield 484, 3) := by decide +kernel
theorem dX12_doOne_31 : decode cX12_doOne 31 = .ok (.sipush 144, 3) := by decide +kernel
theorem dX12_doOne_34 : decode cX12_doOne 34 = .ok (.bipush 9, 2) := by decide +kernel
theorem dX12_doOne_36 : decode cX12_doOne 36 = .ok (.iload_n 1, 1) := by decide +kernel
theorem dX12_doOne_37 : decode cX12_doOne 37 = .ok (.imul, 1) := by decide +kernel
theorem dX12_doOne_38 : decode cX12_doOne 38 = .ok (.iadd, 1) := by decide +kernel
theorem dX12_doOne_39 : decode cX12_doOne 39 = .ok (.istore_n 2, 1) := by decide +kernel
theorem dX12_doOne_40 : decode cX12_doOne 40 = .ok (.aload_n 0, 1) := by decide +kernel
theorem dX12_doOne_41 : decode cX12_doOne 41 = .ok (.getfield 35, 3) := by decide +kernel
theorem dX12_doOne_44 : decode cX12_doOne 44 = .ok (.iload_n 2, 1) := by decide +kernel
theorem dX12_doOne_45 : decode cX12_doOne 45 = .ok (.iaload, 1) := by decide +kernel
theorem dX12_doOne_46 : decode cX12_doOne 46 = .ok (.istore_n 3, 1) := by decide +kernel
theorem dX12_doOne_47 : decode cX12_doOne 47 = .ok (.iload_n 3, 1) := by decide +kernel
theorem dX12_doOne_48 : decode cX12_doOne 48 = .ok (.iconst 5, 1) := by decide +kernel
theorem dX12_doOne_49 : decode cX12_doOne 49 = .ok (.if_icmp .ge 20, 3) := by decide +kernel
theorem dX12_doOne_52 : decode cX12_doOne 52 = .ok (.aload_n 0, 1) := by decide +kernel
theorem dX12_doOne_53 : decode cX12_doOne 53 = .ok (.dup, 1) := by decide +kernel
theorem dX12_doOne_54 : decode cX12_doOne 54 = .ok (.getfield 493, 3) := by decide +kernel
theorem dX12_doOne_57 : decode cX12_doOne 57 = .ok (.aload_n 0, 1) := by decide +kernel
theorem dX12_doOne_58 : decode cX12_doOne 58 = .ok (.iload_n 2, 1) := by decide +kernel
theorem dX12_doOne_59 : decode cX12_doOne 59 = .ok (.invokevirtual 496, 3) := by decide +kernel
theorem dX12_doOne_62 : decode cX12_doOne 62 = .ok (.iadd, 1) := by decide +kernel
theorem dX12_doOne_63 : decode cX12_doOne 63 = .ok (.putfield 493, 3) := by decide +kernel
theorem dX12_doOne_66 : decode cX12_doOne 66 = .ok (.goto 100, 3) := by decide +kernel
theorem dX12_doOne_69 : decode cX12_doOne 69 = .ok (.iload_n 3, 1) := by decide +kernel
theorem dX12_doOne_70 : decode cX12_doOne 70 = .ok (.iconst 5, 1) := by decide +kernel
theorem dX12_doOne_71 : decode cX12_doOne 71 = .ok (.if_icmp .ne 30, 3) := by decide +kernel
theorem dX12_doOne_74 : decode cX12_doOne 74 = .ok (.aload_n 0, 1) := by decide +kernel
theorem dX12_doOne_75 : decode cX12_doOne 75 = .ok (.iload_n 2, 1) := by decide +kernel
theorem dX12_doOne_76 : decode cX12_doOne 76 = .ok (.invokevirtual 499, 3) := by decide +kernel
theorem dX12_doOne_79 : decode cX12_doOne 79 = .ok (.ifCond .eq 22, 3) := by decide +kernel
theorem dX12_doOne_82 : decode cX12_doOne 82 = .ok (.aload_n 0, 1) := by decide +kernel
theorem dX12_doOne_83 : decode cX12_doOne 83 = .ok (.iload_n 1, 1) := by decide +kernel
theorem dX12_doOne_84 : decode cX12_doOne 84 = .ok (.iconst 1, 1) := by decide +kernel
theorem dX12_doOne_85 : decode cX12_doOne 85 = .ok (.iadd, 1) := by decide +kernel
theorem dX12_doOne_86 : decode cX12_doOne 86 = .ok (.aload_n 0, 1) := by decide +kernel
theorem dX12_doOne_87 : decode cX12_doOne 87 = .ok (.getfield 35, 3) := by decide +kernel
theorem dX12_doOne_90 : decode cX12_doOne 90 = .ok (.iload_n 2, 1) := by decide +kernel
theorem dX12_doOne_91 : decode cX12_doOne 91 = .ok (.bipush 8, 2) := by decide +kernel
theorem dX12_doOne_93 : decode cX12_doOne 93 = .ok (.iadd, 1) := by decide +kernel
theorem dX12_doOne_94 : decode cX12_doOne 94 = .ok (.iaload, 1) := by decide +kernel
theorem dX12_doOne_95 : decode cX12_doOne 95 = .ok (.invokevirtual 502, 3) := by decide +kernel
theorem dX12_doOne_98 : decode cX12_doOne 98 = .ok (.goto 68, 3) := by decide +kernel
theorem dX12_doOne_101 : decode cX12_doOne 101 = .ok (.iload_n 3, 1) := by decide +kernel
theorem dX12_doOne_102 : decode cX12_doOne 102 = .ok (.bipush 6, 2) := by decide +kernel
theorem dX12_doOne_104 : decode cX12_doOne 104 = .ok (.if_icmp .ne 51, 3) := by decide +kernel
theorem dX12_doOne_107 : decode cX12_doOne 107 = .ok (.iconst 0, 1) := by decide +kernel
theorem dX12_doOne_108 : decode cX12_doOne 108 = .ok (.istore 4, 2) := by decide +kernel
theorem dX12_doOne_110 : decode cX12_doOne 110 = .ok (.iload 4, 2) := by decide +kernel
theorem dX12_doOne_112 : decode cX12_doOne 112 = .ok (.aload_n 0, 1) := by decide +kernel
theorem dX12_doOne_113 : decode cX12_doOne 113 = .ok (.getfield 35, 3) := by decide +kernel
theorem dX12_doOne_116 : decode cX12_doOne 116 = .ok (.iload_n 2, 1) := by decide +kernel
theorem dX12_doOne_117 : decode cX12_doOne 117 = .ok (.iconst 1, 1) := by decide +kernel
theorem dX12_doOne_118 : decode cX12_doOne 118 = .ok (.iadd, 1) := by decide +kernel
theorem dX12_doOne_119 : decode cX12_doOne 119 = .ok (.iaload, 1) := by decide +kernel
theorem dX12_doOne_120 : decode cX12_doOne 120 = .ok (.if_icmp .ge 32, 3) := by decide +kernel
theorem dX12_doOne_123 : decode cX12_doOne 123 = .ok (.aload_n 0, 1) := by decide +kernel
theorem dX12_doOne_124 : decode cX12_doOne 124 = .ok (.getfield 487, 3) := by decide +kernel
theorem dX12_doOne_127 : decode cX12_doOne 127 = .ok (.ifCond .ne 25, 3) := by decide +kernel
theorem dX12_doOne_130 : decode cX12_doOne 130 = .ok (.aload_n 0, 1) := by decide +kernel
theorem dX12_doOne_131 : decode cX12_doOne 131 = .ok (.iload_n 1, 1) := by decide +kernel
theorem dX12_doOne_132 : decode cX12_doOne 132 = .ok (.iconst 1, 1) := by decide +kernel
theorem dX12_doOne_133 : decode cX12_doOne 133 = .ok (.iadd, 1) := by decide +kernel
theorem dX12_doOne_134 : decode cX12_doOne 134 = .ok (.aload_n 0, 1) := by decide +kernel
theorem dX12_doOne_135 : decode cX12_doOne 135 = .ok (.getfield 35, 3) := by decide +kernel
theorem dX12_doOne_138 : decode cX12_doOne 138 = .ok (.iload_n 2, 1) := by decide +kernel
theorem dX12_doOne_139 : decode cX12_doOne 139 = .ok (.bipush 8, 2) := by decide +kernel
theorem dX12_doOne_141 : decode cX12_doOne 141 = .ok (.iadd, 1) := by decide +kernel
theorem dX12_doOne_142 : decode cX12_doOne 142 = .ok (.iaload, 1) := by decide +kernel
theorem dX12_doOne_143 : decode cX12_doOne 143 = .ok (.invokevirtual 502, 3) := by decide +kernel
theorem dX12_doOne_146 : decode cX12_doOne 146 = .ok (.iinc 4 1, 3) := by decide +kernel
theorem dX12_doOne_149 : decode cX12_doOne 149 = .ok (.goto (-39), 3) := by decide +kernel
theorem dX12_doOne_152 : decode cX12_doOne 152 = .ok (.goto 14, 3) := by decide +kernel
theorem dX12_doOne_155 : decode cX12_doOne 155 = .ok (.iload_n 3, 1) := by decide +kernel
theorem dX12_doOne_156 : decode cX12_doOne 156 = .ok (.bipush 6, 2) := by decide +kernel
theorem dX12_doOne_158 : decode cX12_doOne 158 = .ok (.if_icmp .le 8, 3) := by decide +kernel
theorem dX12_doOne_161 : decode cX12_doOne 161 = .ok (.aload_n 0, 1) := by decide +kernel
theorem dX12_doOne_162 : decode cX12_doOne 162 = .ok (.iconst 1, 1) := by decide +kernel
theorem dX12_doOne_163 : decode cX12_doOne 163 = .ok (.putfield 487, 3) := by decide +kernel
theorem dX12_doOne_166 : decode cX12_doOne 166 = .ok (.return_, 1) := by decide +kernel
theorem dX12_doAll_0 : decode cX12_doAll 0 = .ok (.iload_n 1, 1) := by decide +kernel
theorem dX12_doAll_1 : decode cX12_doAll 1 = .ok (.istore_n 3, 1) := by decide +kernel
theorem dX12_doAll_2 : decode cX12_doAll 2 = .ok (.iload_n 3, 1) := by decide +kernel
theorem dX12_doAll_3 : decode cX12_doAll 3 = .ok (.iload_n 2, 1) := by decide +kernel
theorem dX12_doAll_4 : decode cX12_doAll 4 = .ok (.if_icmp .ge 35, 3) := by decide +kernel
theorem dX12_doAll_7 : decode cX12_doAll 7 = .ok (.aload_n 0, 1) := by decide +kernel
theorem dX12_doAll_8 : decode cX12_doAll 8 = .ok (.getfield 487, 3) := by decide +kernel
theorem dX12_doAll_11 : decode cX12_doAll 11 = .ok (.ifCond .ne 28, 3) := by decide +kernel
theorem dX12_doAll_14 : decode cX12_doAll 14 = .ok (.aload_n 0, 1) := by decide +kernel
theorem dX12_doAll_15 : decode cX12_doAll 15 = .ok (.iload_n 3, 1) := by decide +kernel
theorem dX12_doAll_16 : decode cX12_doAll 16 = .ok (.invokevirtual 505, 3) := by decide +kernel
theorem dX12_doAll_19 : decode cX12_doAll 19 = .ok (.aload_n 0, 1) := by decide +kernel
theorem dX12_doAll_20 : decode cX12_doAll 20 = .ok (.getfield 35, 3) := by decide +kernel
theorem dX12_doAll_23 : decode cX12_doAll 23 = .ok (.sipush 144, 3) := by decide +kernel
theorem dX12_doAll_26 : decode cX12_doAll 26 = .ok (.bipush 9, 2) := by decide +kernel
theorem dX12_doAll_28 : decode cX12_doAll 28 = .ok (.iload_n 3, 1) := by decide +kernel
theorem dX12_doAll_29 : decode cX12_doAll 29 = .ok (.imul, 1) := by decide +kernel
theorem dX12_doAll_30 : decode cX12_doAll 30 = .ok (.iadd, 1) := by decide +kernel
theorem dX12_doAll_31 : decode cX12_doAll 31 = .ok (.bipush 8, 2) := by decide +kernel
theorem dX12_doAll_33 : decode cX12_doAll 33 = .ok (.iadd, 1) := by decide +kernel
theorem dX12_doAll_34 : decode cX12_doAll 34 = .ok (.iaload, 1) := by decide +kernel
theorem dX12_doAll_35 : decode cX12_doAll 35 = .ok (.istore_n 3, 1) := by decide +kernel
theorem dX12_doAll_36 : decode cX12_doAll 36 = .ok (.goto (-34), 3) := by decide +kernel
theorem dX12_doAll_39 : decode cX12_doAll 39 = .ok (.return_, 1) := by decide +kernel
theorem dX12_runsCenturies_0 : decode cX12_runsCenturies 0 = .ok (.aload_n 0, 1) := by decide +kernel
theorem dX12_runsCenturies_1 : decode cX12_runsCenturies 1 = .ok (.iload_n 1, 1) := by decide +kernel
theorem dX12_runsCenturies_2 : decode cX12_runsCenturies 2 = .ok (.putfield 462, 3) := by decide +kernel
theorem dX12_runsCenturies_5 : decode cX12_runsCenturies 5 = .ok (.aload_n 0, 1) := by decide +kernel
theorem dX12_runsCenturies_6 : decode cX12_runsCenturies 6 = .ok (.iconst 0, 1) := by decide +kernel
theorem dX12_runsCenturies_7 : decode cX12_runsCenturies 7 = .ok (.putfield 484, 3) := by decide +kernel
theorem dX12_runsCenturies_10 : decode cX12_runsCenturies 10 = .ok (.aload_n 0, 1) := by decide +kernel
theorem dX12_runsCenturies_11 : decode cX12_runsCenturies 11 = .ok (.iconst 0, 1) := by decide +kernel
theorem dX12_runsCenturies_12 : decode cX12_runsCenturies 12 = .ok (.putfield 493, 3) := by decide +kernel
theorem dX12_runsCenturies_15 : decode cX12_runsCenturies 15 = .ok (.aload_n 0, 1) := by decide +kernel
theorem dX12_runsCenturies_16 : decode cX12_runsCenturies 16 = .ok (.iconst 0, 1) := by decide +kernel
theorem dX12_runsCenturies_17 : decode cX12_runsCenturies 17 = .ok (.putfield 469, 3) := by decide +kernel
theorem dX12_runsCenturies_20 : decode cX12_runsCenturies 20 = .ok (.aload_n 0, 1) := by decide +kernel
theorem dX12_runsCenturies_21 : decode cX12_runsCenturies 21 = .ok (.iconst 0, 1) := by decide +kernel
theorem dX12_runsCenturies_22 : decode cX12_runsCenturies 22 = .ok (.putfield 466, 3) := by decide +kernel
theorem dX12_runsCenturies_25 : decode cX12_runsCenturies 25 = .ok (.aload_n 0, 1) := by decide +kernel
theorem dX12_runsCenturies_26 : decode cX12_runsCenturies 26 = .ok (.iconst 0, 1) := by decide +kernel
theorem dX12_runsCenturies_27 : decode cX12_runsCenturies 27 = .ok (.putfield 475, 3) := by decide +kernel
theorem dX12_runsCenturies_30 : decode cX12_runsCenturies 30 = .ok (.aload_n 0, 1) := by decide +kernel
theorem dX12_runsCenturies_31 : decode cX12_runsCenturies 31 = .ok (.iconst 0, 1) := by decide +kernel
theorem dX12_runsCenturies_32 : decode cX12_runsCenturies 32 = .ok (.putfield 490, 3) := by decide +kernel
theorem dX12_runsCenturies_35 : decode cX12_runsCenturies 35 = .ok (.aload_n 0, 1) := by decide +kernel
theorem dX12_runsCenturies_36 : decode cX12_runsCenturies 36 = .ok (.iconst 0, 1) := by decide +kernel
theorem dX12_runsCenturies_37 : decode cX12_runsCenturies 37 = .ok (.putfield 487, 3) := by decide +kernel
theorem dX12_runsCenturies_40 : decode cX12_runsCenturies 40 = .ok (.aload_n 0, 1) := by decide +kernel
theorem dX12_runsCenturies_41 : decode cX12_runsCenturies 41 = .ok (.iconst 0, 1) := by decide +kernel
theorem dX12_runsCenturies_42 : decode cX12_runsCenturies 42 = .ok (.aload_n 0, 1) := by decide +kernel
theorem dX12_runsCenturies_43 : decode cX12_runsCenturies 43 = .ok (.getfield 35, 3) := by decide +kernel
theorem dX12_runsCenturies_46 : decode cX12_runsCenturies 46 = .ok (.sipush 143, 3) := by decide +kernel
theorem dX12_runsCenturies_49 : decode cX12_runsCenturies 49 = .ok (.iaload, 1) := by decide +kernel
theorem dX12_runsCenturies_50 : decode cX12_runsCenturies 50 = .ok (.invokevirtual 502, 3) := by decide +kernel
theorem dX12_runsCenturies_53 : decode cX12_runsCenturies 53 = .ok (.return_, 1) := by decide +kernel
theorem dX12_live_0 : decode cX12_live 0 = .ok (.aload_n 0, 1) := by decide +kernel
theorem dX12_live_1 : decode cX12_live 1 = .ok (.iconst 0, 1) := by decide +kernel
theorem dX12_live_2 : decode cX12_live 2 = .ok (.putfield 74, 3) := by decide +kernel
theorem dX12_live_5 : decode cX12_live 5 = .ok (.aload_n 0, 1) := by decide +kernel
theorem dX12_live_6 : decode cX12_live 6 = .ok (.iconst 0, 1) := by decide +kernel
theorem dX12_live_7 : decode cX12_live 7 = .ok (.putfield 77, 3) := by decide +kernel
theorem dX12_live_10 : decode cX12_live 10 = .ok (.iload_n 1, 1) := by decide +kernel
theorem dX12_live_11 : decode cX12_live 11 = .ok (.i2l, 1) := by decide +kernel
theorem dX12_live_12 : decode cX12_live 12 = .ok (.lconst 0, 1) := by decide +kernel
theorem dX12_live_13 : decode cX12_live 13 = .ok (.ldc2_w 508, 3) := by decide +kernel
theorem dX12_live_16 : decode cX12_live 16 = .ok (.invokestatic 109, 3) := by decide +kernel
theorem dX12_live_19 : decode cX12_live 19 = .ok (.ifCond .ne 9, 3) := by decide +kernel
theorem dX12_live_22 : decode cX12_live 22 = .ok (.aload_n 0, 1) := by decide +kernel
theorem dX12_live_23 : decode cX12_live 23 = .ok (.iconst 5, 1) := by decide +kernel
theorem dX12_live_24 : decode cX12_live 24 = .ok (.invokevirtual 327, 3) := by decide +kernel
theorem dX12_live_27 : decode cX12_live 27 = .ok (.ireturn, 1) := by decide +kernel
theorem dX12_live_28 : decode cX12_live 28 = .ok (.aload_n 0, 1) := by decide +kernel
theorem dX12_live_29 : decode cX12_live 29 = .ok (.getfield 35, 3) := by decide +kernel
theorem dX12_live_32 : decode cX12_live 32 = .ok (.sipush 142, 3) := by decide +kernel
theorem dX12_live_35 : decode cX12_live 35 = .ok (.iaload, 1) := by decide +kernel
theorem dX12_live_36 : decode cX12_live 36 = .ok (.ifCond .ne 10, 3) := by decide +kernel
theorem dX12_live_39 : decode cX12_live 39 = .ok (.aload_n 0, 1) := by decide +kernel
theorem dX12_live_40 : decode cX12_live 40 = .ok (.bipush 8, 2) := by decide +kernel
theorem dX12_live_42 : decode cX12_live 42 = .ok (.invokevirtual 327, 3) := by decide +kernel
theorem dX12_live_45 : decode cX12_live 45 = .ok (.ireturn, 1) := by decide +kernel
theorem dX12_live_46 : decode cX12_live 46 = .ok (.aload_n 0, 1) := by decide +kernel
theorem dX12_live_47 : decode cX12_live 47 = .ok (.iload_n 1, 1) := by decide +kernel
theorem dX12_live_48 : decode cX12_live 48 = .ok (.invokevirtual 510, 3) := by decide +kernel
theorem dX12_live_51 : decode cX12_live 51 = .ok (.aload_n 0, 1) := by decide +kernel
theorem dX12_live_52 : decode cX12_live 52 = .ok (.getfield 71, 3) := by decide +kernel
theorem dX12_live_55 : decode cX12_live 55 = .ok (.iconst 0, 1) := by decide +kernel
theorem dX12_live_56 : decode cX12_live 56 = .ok (.aload_n 0, 1) := by decide +kernel
theorem dX12_live_57 : decode cX12_live 57 = .ok (.getfield 493, 3) := by decide +kernel
theorem dX12_live_60 : decode cX12_live 60 = .ok (.iastore, 1) := by decide +kernel
theorem dX12_live_61 : decode cX12_live 61 = .ok (.aload_n 0, 1) := by decide +kernel
theorem dX12_live_62 : decode cX12_live 62 = .ok (.getfield 71, 3) := by decide +kernel
theorem dX12_live_65 : decode cX12_live 65 = .ok (.iconst 1, 1) := by decide +kernel
theorem dX12_live_66 : decode cX12_live 66 = .ok (.aload_n 0, 1) := by decide +kernel
theorem dX12_live_67 : decode cX12_live 67 = .ok (.getfield 469, 3) := by decide +kernel
theorem dX12_live_70 : decode cX12_live 70 = .ok (.iastore, 1) := by decide +kernel
theorem dX12_live_71 : decode cX12_live 71 = .ok (.aload_n 0, 1) := by decide +kernel
theorem dX12_live_72 : decode cX12_live 72 = .ok (.getfield 71, 3) := by decide +kernel
theorem dX12_live_75 : decode cX12_live 75 = .ok (.iconst 2, 1) := by decide +kernel
theorem dX12_live_76 : decode cX12_live 76 = .ok (.aload_n 0, 1) := by decide +kernel
theorem dX12_live_77 : decode cX12_live 77 = .ok (.getfield 466, 3) := by decide +kernel
theorem dX12_live_80 : decode cX12_live 80 = .ok (.iastore, 1) := by decide +kernel
theorem dX12_live_81 : decode cX12_live 81 = .ok (.aload_n 0, 1) := by decide +kernel
theorem dX12_live_82 : decode cX12_live 82 = .ok (.getfield 71, 3) := by decide +kernel
theorem dX12_live_85 : decode cX12_live 85 = .ok (.iconst 3, 1) := by decide +kernel
theorem dX12_live_86 : decode cX12_live 86 = .ok (.aload_n 0, 1) := by decide +kernel
theorem dX12_live_87 : decode cX12_live 87 = .ok (.getfield 475, 3) := by decide +kernel
theorem dX12_live_90 : decode cX12_live 90 = .ok (.iastore, 1) := by decide +kernel
theorem dX12_live_91 : decode cX12_live 91 = .ok (.aload_n 0, 1) := by decide +kernel
theorem dX12_live_92 : decode cX12_live 92 = .ok (.getfield 71, 3) := by decide +kernel
theorem dX12_live_95 : decode cX12_live 95 = .ok (.iconst 4, 1) := by decide +kernel
theorem dX12_live_96 : decode cX12_live 96 = .ok (.aload_n 0, 1) := by decide +kernel
theorem dX12_live_97 : decode cX12_live 97 = .ok (.getfield 490, 3) := by decide +kernel
theorem dX12_live_100 : decode cX12_live 100 = .ok (.iastore, 1) := by decide +kernel
theorem dX12_live_101 : decode cX12_live 101 = .ok (.aload_n 0, 1) := by decide +kernel
theorem dX12_live_102 : decode cX12_live 102 = .ok (.iconst 1, 1) := by decide +kernel
theorem dX12_live_103 : decode cX12_live 103 = .ok (.putfield 513, 3) := by decide +kernel
theorem dX12_live_106 : decode cX12_live 106 = .ok (.aload_n 0, 1) := by decide +kernel
theorem dX12_live_107 : decode cX12_live 107 = .ok (.getfield 484, 3) := by decide +kernel
theorem dX12_live_110 : decode cX12_live 110 = .ok (.ireturn, 1) := by decide +kernel
theorem dX12_lived_0 : decode cX12_lived 0 = .ok (.aload_n 0, 1) := by decide +kernel
theorem dX12_lived_1 : decode cX12_lived 1 = .ok (.iconst 0, 1) := by decide +kernel
theorem dX12_lived_2 : decode cX12_lived 2 = .ok (.putfield 74, 3) := by decide +kernel
theorem dX12_lived_5 : decode cX12_lived 5 = .ok (.aload_n 0, 1) := by decide +kernel
theorem dX12_lived_6 : decode cX12_lived 6 = .ok (.iconst 0, 1) := by decide +kernel
theorem dX12_lived_7 : decode cX12_lived 7 = .ok (.putfield 77, 3) := by decide +kernel
theorem dX12_lived_10 : decode cX12_lived 10 = .ok (.iload_n 1, 1) := by decide +kernel
theorem dX12_lived_11 : decode cX12_lived 11 = .ok (.i2l, 1) := by decide +kernel
theorem dX12_lived_12 : decode cX12_lived 12 = .ok (.lconst 0, 1) := by decide +kernel
theorem dX12_lived_13 : decode cX12_lived 13 = .ok (.ldc2_w 437, 3) := by decide +kernel
theorem dX12_lived_16 : decode cX12_lived 16 = .ok (.invokestatic 109, 3) := by decide +kernel
theorem dX12_lived_19 : decode cX12_lived 19 = .ok (.ifCond .ne 9, 3) := by decide +kernel
theorem dX12_lived_22 : decode cX12_lived 22 = .ok (.aload_n 0, 1) := by decide +kernel
theorem dX12_lived_23 : decode cX12_lived 23 = .ok (.iconst 5, 1) := by decide +kernel
theorem dX12_lived_24 : decode cX12_lived 24 = .ok (.invokevirtual 327, 3) := by decide +kernel
theorem dX12_lived_27 : decode cX12_lived 27 = .ok (.ireturn, 1) := by decide +kernel
theorem dX12_lived_28 : decode cX12_lived 28 = .ok (.aload_n 0, 1) := by decide +kernel
theorem dX12_lived_29 : decode cX12_lived 29 = .ok (.getfield 513, 3) := by decide +kernel
theorem dX12_lived_32 : decode cX12_lived 32 = .ok (.ifCond .eq 12, 3) := by decide +kernel
theorem dX12_lived_35 : decode cX12_lived 35 = .ok (.aload_n 0, 1) := by decide +kernel
theorem dX12_lived_36 : decode cX12_lived 36 = .ok (.getfield 71, 3) := by decide +kernel
theorem dX12_lived_39 : decode cX12_lived 39 = .ok (.iload_n 1, 1) := by decide +kernel
theorem dX12_lived_40 : decode cX12_lived 40 = .ok (.iaload, 1) := by decide +kernel
theorem dX12_lived_41 : decode cX12_lived 41 = .ok (.goto 9, 3) := by decide +kernel
theorem dX12_lived_44 : decode cX12_lived 44 = .ok (.aload_n 0, 1) := by decide +kernel
theorem dX12_lived_45 : decode cX12_lived 45 = .ok (.bipush 8, 2) := by decide +kernel
theorem dX12_lived_47 : decode cX12_lived 47 = .ok (.invokevirtual 327, 3) := by decide +kernel
theorem dX12_lived_50 : decode cX12_lived 50 = .ok (.ireturn, 1) := by decide +kernel
theorem dX12_mean_0 : decode cX12_mean 0 = .ok (.aload_n 0, 1) := by decide +kernel
theorem dX12_mean_1 : decode cX12_mean 1 = .ok (.iconst 0, 1) := by decide +kernel
theorem dX12_mean_2 : decode cX12_mean 2 = .ok (.putfield 74, 3) := by decide +kernel
theorem dX12_mean_5 : decode cX12_mean 5 = .ok (.aload_n 0, 1) := by decide +kernel
theorem dX12_mean_6 : decode cX12_mean 6 = .ok (.iconst 0, 1) := by decide +kernel
theorem dX12_mean_7 : decode cX12_mean 7 = .ok (.putfield 77, 3) := by decide +kernel
theorem dX12_mean_10 : decode cX12_mean 10 = .ok (.iload_n 2, 1) := by decide +kernel
theorem dX12_mean_11 : decode cX12_mean 11 = .ok (.i2l, 1) := by decide +kernel
theorem dX12_mean_12 : decode cX12_mean 12 = .ok (.lconst 1, 1) := by decide +kernel
theorem dX12_mean_13 : decode cX12_mean 13 = .ok (.ldc2_w 516, 3) := by decide +kernel
theorem dX12_mean_16 : decode cX12_mean 16 = .ok (.invokestatic 109, 3) := by decide +kernel
theorem dX12_mean_19 : decode cX12_mean 19 = .ok (.ifCond .eq 18, 3) := by decide +kernel
theorem dX12_mean_22 : decode cX12_mean 22 = .ok (.iload_n 1, 1) := by decide +kernel
theorem dX12_mean_23 : decode cX12_mean 23 = .ok (.i2l, 1) := by decide +kernel
theorem dX12_mean_24 : decode cX12_mean 24 = .ok (.lconst 0, 1) := by decide +kernel
theorem dX12_mean_25 : decode cX12_mean 25 = .ok (.sipush 10000, 3) := by decide +kernel
theorem dX12_mean_28 : decode cX12_mean 28 = .ok (.iload_n 2, 1) := by decide +kernel
theorem dX12_mean_29 : decode cX12_mean 29 = .ok (.isub, 1) := by decide +kernel
theorem dX12_mean_30 : decode cX12_mean 30 = .ok (.i2l, 1) := by decide +kernel
theorem dX12_mean_31 : decode cX12_mean 31 = .ok (.invokestatic 109, 3) := by decide +kernel
theorem dX12_mean_34 : decode cX12_mean 34 = .ok (.ifCond .ne 9, 3) := by decide +kernel
theorem dX12_mean_37 : decode cX12_mean 37 = .ok (.aload_n 0, 1) := by decide +kernel
theorem dX12_mean_38 : decode cX12_mean 38 = .ok (.iconst 5, 1) := by decide +kernel
theorem dX12_mean_39 : decode cX12_mean 39 = .ok (.invokevirtual 89, 3) := by decide +kernel
theorem dX12_mean_42 : decode cX12_mean 42 = .ok (.ireturn, 1) := by decide +kernel
theorem dX12_mean_43 : decode cX12_mean 43 = .ok (.aload_n 0, 1) := by decide +kernel
theorem dX12_mean_44 : decode cX12_mean 44 = .ok (.getfield 35, 3) := by decide +kernel
theorem dX12_mean_47 : decode cX12_mean 47 = .ok (.sipush 142, 3) := by decide +kernel
theorem dX12_mean_50 : decode cX12_mean 50 = .ok (.iaload, 1) := by decide +kernel
theorem dX12_mean_51 : decode cX12_mean 51 = .ok (.ifCond .ne 10, 3) := by decide +kernel
theorem dX12_mean_54 : decode cX12_mean 54 = .ok (.aload_n 0, 1) := by decide +kernel
theorem dX12_mean_55 : decode cX12_mean 55 = .ok (.bipush 8, 2) := by decide +kernel
theorem dX12_mean_57 : decode cX12_mean 57 = .ok (.invokevirtual 89, 3) := by decide +kernel
theorem dX12_mean_60 : decode cX12_mean 60 = .ok (.ireturn, 1) := by decide +kernel
theorem dX12_mean_61 : decode cX12_mean 61 = .ok (.iconst 0, 1) := by decide +kernel
theorem dX12_mean_62 : decode cX12_mean 62 = .ok (.istore_n 3, 1) := by decide +kernel
theorem dX12_mean_63 : decode cX12_mean 63 = .ok (.iload_n 3, 1) := by decide +kernel
theorem dX12_mean_64 : decode cX12_mean 64 = .ok (.sipush 142, 3) := by decide +kernel
theorem dX12_mean_67 : decode cX12_mean 67 = .ok (.if_icmp .ge 21, 3) := by decide +kernel
theorem dX12_mean_70 : decode cX12_mean 70 = .ok (.aload_n 0, 1) := by decide +kernel
theorem dX12_mean_71 : decode cX12_mean 71 = .ok (.getfield 38, 3) := by decide +kernel
theorem dX12_mean_74 : decode cX12_mean 74 = .ok (.iload_n 3, 1) := by decide +kernel
theorem dX12_mean_75 : decode cX12_mean 75 = .ok (.aload_n 0, 1) := by decide +kernel
theorem dX12_mean_76 : decode cX12_mean 76 = .ok (.getfield 35, 3) := by decide +kernel
theorem dX12_mean_79 : decode cX12_mean 79 = .ok (.iload_n 3, 1) := by decide +kernel
theorem dX12_mean_80 : decode cX12_mean 80 = .ok (.iaload, 1) := by decide +kernel
theorem dX12_mean_81 : decode cX12_mean 81 = .ok (.iastore, 1) := by decide +kernel
theorem dX12_mean_82 : decode cX12_mean 82 = .ok (.iinc 3 1, 3) := by decide +kernel
theorem dX12_mean_85 : decode cX12_mean 85 = .ok (.goto (-22), 3) := by decide +kernel
theorem dX12_mean_88 : decode cX12_mean 88 = .ok (.lconst 0, 1) := by decide +kernel
theorem dX12_mean_89 : decode cX12_mean 89 = .ok (.lstore_n 3, 1) := by decide +kernel
theorem dX12_mean_90 : decode cX12_mean 90 = .ok (.iconst 0, 1) := by decide +kernel
theorem dX12_mean_91 : decode cX12_mean 91 = .ok (.istore 5, 2) := by decide +kernel
theorem dX12_mean_93 : decode cX12_mean 93 = .ok (.iload 5, 2) := by decide +kernel
theorem dX12_mean_95 : decode cX12_mean 95 = .ok (.iload_n 2, 1) := by decide +kernel
theorem dX12_mean_96 : decode cX12_mean 96 = .ok (.if_icmp .ge 63, 3) := by decide +kernel
theorem dX12_mean_99 : decode cX12_mean 99 = .ok (.aload_n 0, 1) := by decide +kernel
theorem dX12_mean_100 : decode cX12_mean 100 = .ok (.iload_n 1, 1) := by decide +kernel
theorem dX12_mean_101 : decode cX12_mean 101 = .ok (.iload 5, 2) := by decide +kernel
theorem dX12_mean_103 : decode cX12_mean 103 = .ok (.iadd, 1) := by decide +kernel
theorem dX12_mean_104 : decode cX12_mean 104 = .ok (.invokevirtual 510, 3) := by decide +kernel
theorem dX12_mean_107 : decode cX12_mean 107 = .ok (.lload_n 3, 1) := by decide +kernel
theorem dX12_mean_108 : decode cX12_mean 108 = .ok (.aload_n 0, 1) := by decide +kernel
theorem dX12_mean_109 : decode cX12_mean 109 = .ok (.aload_n 0, 1) := by decide +kernel
theorem dX12_mean_110 : decode cX12_mean 110 = .ok (.invokevirtual 330, 3) := by decide +kernel
theorem dX12_mean_113 : decode cX12_mean 113 = .ok (.invokevirtual 333, 3) := by decide +kernel
theorem dX12_mean_116 : decode cX12_mean 116 = .ok (.invokestatic 397, 3) := by decide +kernel
theorem dX12_mean_119 : decode cX12_mean 119 = .ok (.i2l, 1) := by decide +kernel
theorem dX12_mean_120 : decode cX12_mean 120 = .ok (.ladd, 1) := by decide +kernel
theorem dX12_mean_121 : decode cX12_mean 121 = .ok (.lstore_n 3, 1) := by decide +kernel
theorem dX12_mean_122 : decode cX12_mean 122 = .ok (.iconst 0, 1) := by decide +kernel
theorem dX12_mean_123 : decode cX12_mean 123 = .ok (.istore 6, 2) := by decide +kernel
theorem dX12_mean_125 : decode cX12_mean 125 = .ok (.iload 6, 2) := by decide +kernel
theorem dX12_mean_127 : decode cX12_mean 127 = .ok (.sipush 142, 3) := by decide +kernel
theorem dX12_mean_130 : decode cX12_mean 130 = .ok (.if_icmp .ge 23, 3) := by decide +kernel
theorem dX12_mean_133 : decode cX12_mean 133 = .ok (.aload_n 0, 1) := by decide +kernel
theorem dX12_mean_134 : decode cX12_mean 134 = .ok (.getfield 35, 3) := by decide +kernel
theorem dX12_mean_137 : decode cX12_mean 137 = .ok (.iload 6, 2) := by decide +kernel
theorem dX12_mean_139 : decode cX12_mean 139 = .ok (.aload_n 0, 1) := by decide +kernel
theorem dX12_mean_140 : decode cX12_mean 140 = .ok (.getfield 38, 3) := by decide +kernel
theorem dX12_mean_143 : decode cX12_mean 143 = .ok (.iload 6, 2) := by decide +kernel
theorem dX12_mean_145 : decode cX12_mean 145 = .ok (.iaload, 1) := by decide +kernel
theorem dX12_mean_146 : decode cX12_mean 146 = .ok (.iastore, 1) := by decide +kernel
theorem dX12_mean_147 : decode cX12_mean 147 = .ok (.iinc 6 1, 3) := by decide +kernel
theorem dX12_mean_150 : decode cX12_mean 150 = .ok (.goto (-25), 3) := by decide +kernel
theorem dX12_mean_153 : decode cX12_mean 153 = .ok (.iinc 5 1, 3) := by decide +kernel
theorem dX12_mean_156 : decode cX12_mean 156 = .ok (.goto (-63), 3) := by decide +kernel
theorem dX12_mean_159 : decode cX12_mean 159 = .ok (.aload_n 0, 1) := by decide +kernel
theorem dX12_mean_160 : decode cX12_mean 160 = .ok (.lload_n 3, 1) := by decide +kernel
theorem dX12_mean_161 : decode cX12_mean 161 = .ok (.iload_n 2, 1) := by decide +kernel
theorem dX12_mean_162 : decode cX12_mean 162 = .ok (.i2l, 1) := by decide +kernel
theorem dX12_mean_163 : decode cX12_mean 163 = .ok (.invokevirtual 458, 3) := by decide +kernel
theorem dX12_mean_166 : decode cX12_mean 166 = .ok (.ireturn, 1) := by decide +kernel
theorem dX12_copy_0 : decode cX12_copy 0 = .ok (.iconst 0, 1) := by decide +kernel
theorem dX12_copy_1 : decode cX12_copy 1 = .ok (.istore_n 3, 1) := by decide +kernel
theorem dX12_copy_2 : decode cX12_copy 2 = .ok (.iload_n 3, 1) := by decide +kernel
theorem dX12_copy_3 : decode cX12_copy 3 = .ok (.sipush 421, 3) := by decide +kernel
theorem dX12_copy_6 : decode cX12_copy 6 = .ok (.if_icmp .ge 33, 3) := by decide +kernel
theorem dX12_copy_9 : decode cX12_copy 9 = .ok (.aload_n 0, 1) := by decide +kernel
theorem dX12_copy_10 : decode cX12_copy 10 = .ok (.getfield 35, 3) := by decide +kernel
theorem dX12_copy_13 : decode cX12_copy 13 = .ok (.sipush 421, 3) := by decide +kernel
theorem dX12_copy_16 : decode cX12_copy 16 = .ok (.iload_n 2, 1) := by decide +kernel
theorem dX12_copy_17 : decode cX12_copy 17 = .ok (.imul, 1) := by decide +kernel
theorem dX12_copy_18 : decode cX12_copy 18 = .ok (.iload_n 3, 1) := by decide +kernel
theorem dX12_copy_19 : decode cX12_copy 19 = .ok (.iadd, 1) := by decide +kernel
theorem dX12_copy_20 : decode cX12_copy 20 = .ok (.aload_n 0, 1) := by decide +kernel
theorem dX12_copy_21 : decode cX12_copy 21 = .ok (.getfield 35, 3) := by decide +kernel
theorem dX12_copy_24 : decode cX12_copy 24 = .ok (.sipush 421, 3) := by decide +kernel
theorem dX12_copy_27 : decode cX12_copy 27 = .ok (.iload_n 1, 1) := by decide +kernel
theorem dX12_copy_28 : decode cX12_copy 28 = .ok (.imul, 1) := by decide +kernel
theorem dX12_copy_29 : decode cX12_copy 29 = .ok (.iload_n 3, 1) := by decide +kernel
theorem dX12_copy_30 : decode cX12_copy 30 = .ok (.iadd, 1) := by decide +kernel
theorem dX12_copy_31 : decode cX12_copy 31 = .ok (.iaload, 1) := by decide +kernel
theorem dX12_copy_32 : decode cX12_copy 32 = .ok (.iastore, 1) := by decide +kernel
theorem dX12_copy_33 : decode cX12_copy 33 = .ok (.iinc 3 1, 3) := by decide +kernel
theorem dX12_copy_36 : decode cX12_copy 36 = .ok (.goto (-34), 3) := by decide +kernel
theorem dX12_copy_39 : decode cX12_copy 39 = .ok (.iconst 0, 1) := by decide +kernel
theorem dX12_copy_40 : decode cX12_copy 40 = .ok (.istore_n 3, 1) := by decide +kernel
theorem dX12_copy_41 : decode cX12_copy 41 = .ok (.iload_n 3, 1) := by decide +kernel
theorem dX12_copy_42 : decode cX12_copy 42 = .ok (.bipush 24, 2) := by decide +kernel
theorem dX12_copy_44 : decode cX12_copy 44 = .ok (.if_icmp .ge 31, 3) := by decide +kernel
theorem dX12_copy_47 : decode cX12_copy 47 = .ok (.aload_n 0, 1) := by decide +kernel
theorem dX12_copy_48 : decode cX12_copy 48 = .ok (.getfield 41, 3) := by decide +kernel
theorem dX12_copy_51 : decode cX12_copy 51 = .ok (.bipush 24, 2) := by decide +kernel
theorem dX12_copy_53 : decode cX12_copy 53 = .ok (.iload_n 2, 1) := by decide +kernel
theorem dX12_copy_54 : decode cX12_copy 54 = .ok (.imul, 1) := by decide +kernel
theorem dX12_copy_55 : decode cX12_copy 55 = .ok (.iload_n 3, 1) := by decide +kernel
theorem dX12_copy_56 : decode cX12_copy 56 = .ok (.iadd, 1) := by decide +kernel
theorem dX12_copy_57 : decode cX12_copy 57 = .ok (.aload_n 0, 1) := by decide +kernel
theorem dX12_copy_58 : decode cX12_copy 58 = .ok (.getfield 41, 3) := by decide +kernel
theorem dX12_copy_61 : decode cX12_copy 61 = .ok (.bipush 24, 2) := by decide +kernel
theorem dX12_copy_63 : decode cX12_copy 63 = .ok (.iload_n 1, 1) := by decide +kernel
theorem dX12_copy_64 : decode cX12_copy 64 = .ok (.imul, 1) := by decide +kernel
theorem dX12_copy_65 : decode cX12_copy 65 = .ok (.iload_n 3, 1) := by decide +kernel
theorem dX12_copy_66 : decode cX12_copy 66 = .ok (.iadd, 1) := by decide +kernel
theorem dX12_copy_67 : decode cX12_copy 67 = .ok (.laload, 1) := by decide +kernel
theorem dX12_copy_68 : decode cX12_copy 68 = .ok (.lastore, 1) := by decide +kernel
theorem dX12_copy_69 : decode cX12_copy 69 = .ok (.iinc 3 1, 3) := by decide +kernel
theorem dX12_copy_72 : decode cX12_copy 72 = .ok (.goto (-31), 3) := by decide +kernel
theorem dX12_copy_75 : decode cX12_copy 75 = .ok (.return_, 1) := by decide +kernel
theorem dX12_mark_0 : decode cX12_mark 0 = .ok (.aload_n 0, 1) := by decide +kernel
theorem dX12_mark_1 : decode cX12_mark 1 = .ok (.iconst 0, 1) := by decide +kernel
theorem dX12_mark_2 : decode cX12_mark 2 = .ok (.putfield 74, 3) := by decide +kernel
theorem dX12_mark_5 : decode cX12_mark 5 = .ok (.aload_n 0, 1) := by decide +kernel
theorem dX12_mark_6 : decode cX12_mark 6 = .ok (.iconst 0, 1) := by decide +kernel
theorem dX12_mark_7 : decode cX12_mark 7 = .ok (.putfield 77, 3) := by decide +kernel
theorem dX12_mark_10 : decode cX12_mark 10 = .ok (.aload_n 0, 1) := by decide +kernel
theorem dX12_mark_11 : decode cX12_mark 11 = .ok (.getfield 518, 3) := by decide +kernel
theorem dX12_mark_14 : decode cX12_mark 14 = .ok (.iconst 3, 1) := by decide +kernel
theorem dX12_mark_15 : decode cX12_mark 15 = .ok (.if_icmp .ne 10, 3) := by decide +kernel
theorem dX12_mark_18 : decode cX12_mark 18 = .ok (.aload_n 0, 1) := by decide +kernel
theorem dX12_mark_19 : decode cX12_mark 19 = .ok (.bipush 7, 2) := by decide +kernel
theorem dX12_mark_21 : decode cX12_mark 21 = .ok (.invokevirtual 327, 3) := by decide +kernel
theorem dX12_mark_24 : decode cX12_mark 24 = .ok (.ireturn, 1) := by decide +kernel
theorem dX12_mark_25 : decode cX12_mark 25 = .ok (.aload_n 0, 1) := by decide +kernel
theorem dX12_mark_26 : decode cX12_mark 26 = .ok (.dup, 1) := by decide +kernel
theorem dX12_mark_27 : decode cX12_mark 27 = .ok (.getfield 518, 3) := by decide +kernel
theorem dX12_mark_30 : decode cX12_mark 30 = .ok (.iconst 1, 1) := by decide +kernel
theorem dX12_mark_31 : decode cX12_mark 31 = .ok (.iadd, 1) := by decide +kernel
theorem dX12_mark_32 : decode cX12_mark 32 = .ok (.putfield 518, 3) := by decide +kernel
theorem dX12_mark_35 : decode cX12_mark 35 = .ok (.aload_n 0, 1) := by decide +kernel
theorem dX12_mark_36 : decode cX12_mark 36 = .ok (.iconst 0, 1) := by decide +kernel
theorem dX12_mark_37 : decode cX12_mark 37 = .ok (.aload_n 0, 1) := by decide +kernel
theorem dX12_mark_38 : decode cX12_mark 38 = .ok (.getfield 518, 3) := by decide +kernel
theorem dX12_mark_41 : decode cX12_mark 41 = .ok (.invokevirtual 298, 3) := by decide +kernel
theorem dX12_mark_44 : decode cX12_mark 44 = .ok (.aload_n 0, 1) := by decide +kernel
theorem dX12_mark_45 : decode cX12_mark 45 = .ok (.getfield 518, 3) := by decide +kernel
theorem dX12_mark_48 : decode cX12_mark 48 = .ok (.ireturn, 1) := by decide +kernel
theorem dX12_back_0 : decode cX12_back 0 = .ok (.aload_n 0, 1) := by decide +kernel
theorem dX12_back_1 : decode cX12_back 1 = .ok (.iconst 0, 1) := by decide +kernel
theorem dX12_back_2 : decode cX12_back 2 = .ok (.putfield 74, 3) := by decide +kernel
theorem dX12_back_5 : decode cX12_back 5 = .ok (.aload_n 0, 1) := by decide +kernel
theorem dX12_back_6 : decode cX12_back 6 = .ok (.iconst 0, 1) := by decide +kernel
theorem dX12_back_7 : decode cX12_back 7 = .ok (.putfield 77, 3) := by decide +kernel
theorem dX12_back_10 : decode cX12_back 10 = .ok (.aload_n 0, 1) := by decide +kernel
theorem dX12_back_11 : decode cX12_back 11 = .ok (.getfield 518, 3) := by decide +kernel
theorem dX12_back_14 : decode cX12_back 14 = .ok (.ifCond .ne 10, 3) := by decide +kernel
theorem dX12_back_17 : decode cX12_back 17 = .ok (.aload_n 0, 1) := by decide +kernel
theorem dX12_back_18 : decode cX12_back 18 = .ok (.bipush 8, 2) := by decide +kernel
theorem dX12_back_20 : decode cX12_back 20 = .ok (.invokevirtual 327, 3) := by decide +kernel
theorem dX12_back_23 : decode cX12_back 23 = .ok (.ireturn, 1) := by decide +kernel
theorem dX12_back_24 : decode cX12_back 24 = .ok (.aload_n 0, 1) := by decide +kernel
theorem dX12_back_25 : decode cX12_back 25 = .ok (.aload_n 0, 1) := by decide +kernel
theorem dX12_back_26 : decode cX12_back 26 = .ok (.getfield 518, 3) := by decide +kernel
theorem dX12_back_29 : decode cX12_back 29 = .ok (.iconst 0, 1) := by decide +kernel
theorem dX12_back_30 : decode cX12_back 30 = .ok (.invokevirtual 298, 3) := by decide +kernel
theorem dX12_back_33 : decode cX12_back 33 = .ok (.aload_n 0, 1) := by decide +kernel
theorem dX12_back_34 : decode cX12_back 34 = .ok (.dup, 1) := by decide +kernel
theorem dX12_back_35 : decode cX12_back 35 = .ok (.getfield 518, 3) := by decide +kernel
theorem dX12_back_38 : decode cX12_back 38 = .ok (.iconst 1, 1) := by decide +kernel
theorem dX12_back_39 : decode cX12_back 39 = .ok (.isub, 1) := by decide +kernel
theorem dX12_back_40 : decode cX12_back 40 = .ok (.putfield 518, 3) := by decide +kernel
theorem dX12_back_43 : decode cX12_back 43 = .ok (.aload_n 0, 1) := by decide +kernel
theorem dX12_back_44 : decode cX12_back 44 = .ok (.getfield 518, 3) := by decide +kernel
theorem dX12_back_47 : decode cX12_back 47 = .ok (.ireturn, 1) := by decide +kernel
