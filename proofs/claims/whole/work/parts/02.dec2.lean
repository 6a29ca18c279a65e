theorem dX4_matchBySum_13 : decode cX4_matchBySum 13 = .ok (.if_icmp .ge 91, 3) := by decide +kernel
theorem dX4_matchBySum_16 : decode cX4_matchBySum 16 = .ok (.iconst 0, 1) := by decide +kernel
theorem dX4_matchBySum_17 : decode cX4_matchBySum 17 = .ok (.istore_n 3, 1) := by decide +kernel
theorem dX4_matchBySum_18 : decode cX4_matchBySum 18 = .ok (.iload_n 3, 1) := by decide +kernel
theorem dX4_matchBySum_19 : decode cX4_matchBySum 19 = .ok (.aload_n 0, 1) := by decide +kernel
theorem dX4_matchBySum_20 : decode cX4_matchBySum 20 = .ok (.getfield 9, 3) := by decide +kernel
theorem dX4_matchBySum_23 : decode cX4_matchBySum 23 = .ok (.if_icmp .ge 53, 3) := by decide +kernel
theorem dX4_matchBySum_26 : decode cX4_matchBySum 26 = .ok (.aload_n 0, 1) := by decide +kernel
theorem dX4_matchBySum_27 : decode cX4_matchBySum 27 = .ok (.getfield 20, 3) := by decide +kernel
theorem dX4_matchBySum_30 : decode cX4_matchBySum 30 = .ok (.iload_n 2, 1) := by decide +kernel
theorem dX4_matchBySum_31 : decode cX4_matchBySum 31 = .ok (.iaload, 1) := by decide +kernel
theorem dX4_matchBySum_32 : decode cX4_matchBySum 32 = .ok (.bipush (-9), 2) := by decide +kernel
theorem dX4_matchBySum_34 : decode cX4_matchBySum 34 = .ok (.if_icmp .ne 42, 3) := by decide +kernel
theorem dX4_matchBySum_37 : decode cX4_matchBySum 37 = .ok (.aload_n 0, 1) := by decide +kernel
theorem dX4_matchBySum_38 : decode cX4_matchBySum 38 = .ok (.iload_n 2, 1) := by decide +kernel
theorem dX4_matchBySum_39 : decode cX4_matchBySum 39 = .ok (.iload_n 3, 1) := by decide +kernel
theorem dX4_matchBySum_40 : decode cX4_matchBySum 40 = .ok (.invokevirtual 64, 3) := by decide +kernel
theorem dX4_matchBySum_43 : decode cX4_matchBySum 43 = .ok (.ifCond .eq 27, 3) := by decide +kernel
theorem dX4_matchBySum_46 : decode cX4_matchBySum 46 = .ok (.aload_n 0, 1) := by decide +kernel
theorem dX4_matchBySum_47 : decode cX4_matchBySum 47 = .ok (.iload_n 2, 1) := by decide +kernel
theorem dX4_matchBySum_48 : decode cX4_matchBySum 48 = .ok (.iload_n 3, 1) := by decide +kernel
theorem dX4_matchBySum_49 : decode cX4_matchBySum 49 = .ok (.iload_n 1, 1) := by decide +kernel
theorem dX4_matchBySum_50 : decode cX4_matchBySum 50 = .ok (.invokevirtual 68, 3) := by decide +kernel
theorem dX4_matchBySum_53 : decode cX4_matchBySum 53 = .ok (.aload_n 0, 1) := by decide +kernel
theorem dX4_matchBySum_54 : decode cX4_matchBySum 54 = .ok (.getfield 36, 3) := by decide +kernel
theorem dX4_matchBySum_57 : decode cX4_matchBySum 57 = .ok (.iload_n 2, 1) := by decide +kernel
theorem dX4_matchBySum_58 : decode cX4_matchBySum 58 = .ok (.aaload, 1) := by decide +kernel
theorem dX4_matchBySum_59 : decode cX4_matchBySum 59 = .ok (.iload_n 1, 1) := by decide +kernel
theorem dX4_matchBySum_60 : decode cX4_matchBySum 60 = .ok (.iaload, 1) := by decide +kernel
theorem dX4_matchBySum_61 : decode cX4_matchBySum 61 = .ok (.if_icmp .ne 9, 3) := by decide +kernel
theorem dX4_matchBySum_64 : decode cX4_matchBySum 64 = .ok (.aload_n 0, 1) := by decide +kernel
theorem dX4_matchBySum_65 : decode cX4_matchBySum 65 = .ok (.iload_n 2, 1) := by decide +kernel
theorem dX4_matchBySum_66 : decode cX4_matchBySum 66 = .ok (.iload_n 3, 1) := by decide +kernel
theorem dX4_matchBySum_67 : decode cX4_matchBySum 67 = .ok (.invokevirtual 72, 3) := by decide +kernel
theorem dX4_matchBySum_70 : decode cX4_matchBySum 70 = .ok (.iinc 3 1, 3) := by decide +kernel
theorem dX4_matchBySum_73 : decode cX4_matchBySum 73 = .ok (.goto (-55), 3) := by decide +kernel
theorem dX4_matchBySum_76 : decode cX4_matchBySum 76 = .ok (.aload_n 0, 1) := by decide +kernel
theorem dX4_matchBySum_77 : decode cX4_matchBySum 77 = .ok (.getfield 20, 3) := by decide +kernel
theorem dX4_matchBySum_80 : decode cX4_matchBySum 80 = .ok (.iload_n 2, 1) := by decide +kernel
theorem dX4_matchBySum_81 : decode cX4_matchBySum 81 = .ok (.iaload, 1) := by decide +kernel
theorem dX4_matchBySum_82 : decode cX4_matchBySum 82 = .ok (.bipush (-9), 2) := by decide +kernel
theorem dX4_matchBySum_84 : decode cX4_matchBySum 84 = .ok (.if_icmp .eq 14, 3) := by decide +kernel
theorem dX4_matchBySum_87 : decode cX4_matchBySum 87 = .ok (.iload_n 1, 1) := by decide +kernel
theorem dX4_matchBySum_88 : decode cX4_matchBySum 88 = .ok (.iconst 1, 1) := by decide +kernel
theorem dX4_matchBySum_89 : decode cX4_matchBySum 89 = .ok (.aload_n 0, 1) := by decide +kernel
theorem dX4_matchBySum_90 : decode cX4_matchBySum 90 = .ok (.getfield 20, 3) := by decide +kernel
theorem dX4_matchBySum_93 : decode cX4_matchBySum 93 = .ok (.iload_n 2, 1) := by decide +kernel
theorem dX4_matchBySum_94 : decode cX4_matchBySum 94 = .ok (.iaload, 1) := by decide +kernel
theorem dX4_matchBySum_95 : decode cX4_matchBySum 95 = .ok (.ishl, 1) := by decide +kernel
theorem dX4_matchBySum_96 : decode cX4_matchBySum 96 = .ok (.ior, 1) := by decide +kernel
theorem dX4_matchBySum_97 : decode cX4_matchBySum 97 = .ok (.istore_n 1, 1) := by decide +kernel
theorem dX4_matchBySum_98 : decode cX4_matchBySum 98 = .ok (.iinc 2 1, 3) := by decide +kernel
theorem dX4_matchBySum_101 : decode cX4_matchBySum 101 = .ok (.goto (-93), 3) := by decide +kernel
theorem dX4_matchBySum_104 : decode cX4_matchBySum 104 = .ok (.return_, 1) := by decide +kernel
theorem dX4_findBestSums_0 : decode cX4_findBestSums 0 = .ok (.aload_n 0, 1) := by decide +kernel
theorem dX4_findBestSums_1 : decode cX4_findBestSums 1 = .ok (.getfield 36, 3) := by decide +kernel
theorem dX4_findBestSums_4 : decode cX4_findBestSums 4 = .ok (.aload_n 0, 1) := by decide +kernel
theorem dX4_findBestSums_5 : decode cX4_findBestSums 5 = .ok (.getfield 9, 3) := by decide +kernel
theorem dX4_findBestSums_8 : decode cX4_findBestSums 8 = .ok (.aaload, 1) := by decide +kernel
theorem dX4_findBestSums_9 : decode cX4_findBestSums 9 = .ok (.iconst 0, 1) := by decide +kernel
theorem dX4_findBestSums_10 : decode cX4_findBestSums 10 = .ok (.invokestatic 42, 3) := by decide +kernel
theorem dX4_findBestSums_13 : decode cX4_findBestSums 13 = .ok (.aload_n 0, 1) := by decide +kernel
theorem dX4_findBestSums_14 : decode cX4_findBestSums 14 = .ok (.getfield 9, 3) := by decide +kernel
theorem dX4_findBestSums_17 : decode cX4_findBestSums 17 = .ok (.iconst 1, 1) := by decide +kernel
theorem dX4_findBestSums_18 : decode cX4_findBestSums 18 = .ok (.isub, 1) := by decide +kernel
theorem dX4_findBestSums_19 : decode cX4_findBestSums 19 = .ok (.istore_n 1, 1) := by decide +kernel
theorem dX4_findBestSums_20 : decode cX4_findBestSums 20 = .ok (.iload_n 1, 1) := by decide +kernel
theorem dX4_findBestSums_21 : decode cX4_findBestSums 21 = .ok (.ifCond .lt 99, 3) := by decide +kernel
theorem dX4_findBestSums_24 : decode cX4_findBestSums 24 = .ok (.iconst 0, 1) := by decide +kernel
theorem dX4_findBestSums_25 : decode cX4_findBestSums 25 = .ok (.istore_n 2, 1) := by decide +kernel
theorem dX4_findBestSums_26 : decode cX4_findBestSums 26 = .ok (.iload_n 2, 1) := by decide +kernel
theorem dX4_findBestSums_27 : decode cX4_findBestSums 27 = .ok (.iconst 1, 1) := by decide +kernel
theorem dX4_findBestSums_28 : decode cX4_findBestSums 28 = .ok (.aload_n 0, 1) := by decide +kernel
theorem dX4_findBestSums_29 : decode cX4_findBestSums 29 = .ok (.getfield 9, 3) := by decide +kernel
theorem dX4_findBestSums_32 : decode cX4_findBestSums 32 = .ok (.ishl, 1) := by decide +kernel
theorem dX4_findBestSums_33 : decode cX4_findBestSums 33 = .ok (.if_icmp .ge 81, 3) := by decide +kernel
theorem dX4_findBestSums_36 : decode cX4_findBestSums 36 = .ok (.aload_n 0, 1) := by decide +kernel
theorem dX4_findBestSums_37 : decode cX4_findBestSums 37 = .ok (.getfield 36, 3) := by decide +kernel
theorem dX4_findBestSums_40 : decode cX4_findBestSums 40 = .ok (.iload_n 1, 1) := by decide +kernel
theorem dX4_findBestSums_41 : decode cX4_findBestSums 41 = .ok (.iconst 1, 1) := by decide +kernel
theorem dX4_findBestSums_42 : decode cX4_findBestSums 42 = .ok (.iadd, 1) := by decide +kernel
theorem dX4_findBestSums_43 : decode cX4_findBestSums 43 = .ok (.aaload, 1) := by decide +kernel
theorem dX4_findBestSums_44 : decode cX4_findBestSums 44 = .ok (.iload_n 2, 1) := by decide +kernel
theorem dX4_findBestSums_45 : decode cX4_findBestSums 45 = .ok (.iaload, 1) := by decide +kernel
theorem dX4_findBestSums_46 : decode cX4_findBestSums 46 = .ok (.istore_n 3, 1) := by decide +kernel
theorem dX4_findBestSums_47 : decode cX4_findBestSums 47 = .ok (.iconst 0, 1) := by decide +kernel
theorem dX4_findBestSums_48 : decode cX4_findBestSums 48 = .ok (.istore 4, 2) := by decide +kernel
theorem dX4_findBestSums_50 : decode cX4_findBestSums 50 = .ok (.iload 4, 2) := by decide +kernel
theorem dX4_findBestSums_52 : decode cX4_findBestSums 52 = .ok (.aload_n 0, 1) := by decide +kernel
theorem dX4_findBestSums_53 : decode cX4_findBestSums 53 = .ok (.getfield 9, 3) := by decide +kernel
theorem dX4_findBestSums_56 : decode cX4_findBestSums 56 = .ok (.if_icmp .ge 43, 3) := by decide +kernel
theorem dX4_findBestSums_59 : decode cX4_findBestSums 59 = .ok (.iload_n 2, 1) := by decide +kernel
theorem dX4_findBestSums_60 : decode cX4_findBestSums 60 = .ok (.iload 4, 2) := by decide +kernel
theorem dX4_findBestSums_62 : decode cX4_findBestSums 62 = .ok (.ishr, 1) := by decide +kernel
theorem dX4_findBestSums_63 : decode cX4_findBestSums 63 = .ok (.iconst 1, 1) := by decide +kernel
theorem dX4_findBestSums_64 : decode cX4_findBestSums 64 = .ok (.iand, 1) := by decide +kernel
theorem dX4_findBestSums_65 : decode cX4_findBestSums 65 = .ok (.ifCond .ne 28, 3) := by decide +kernel
theorem dX4_findBestSums_68 : decode cX4_findBestSums 68 = .ok (.aload_n 0, 1) := by decide +kernel
theorem dX4_findBestSums_69 : decode cX4_findBestSums 69 = .ok (.getfield 17, 3) := by decide +kernel
theorem dX4_findBestSums_72 : decode cX4_findBestSums 72 = .ok (.iload_n 1, 1) := by decide +kernel
theorem dX4_findBestSums_73 : decode cX4_findBestSums 73 = .ok (.aaload, 1) := by decide +kernel
theorem dX4_findBestSums_74 : decode cX4_findBestSums 74 = .ok (.iload 4, 2) := by decide +kernel
theorem dX4_findBestSums_76 : decode cX4_findBestSums 76 = .ok (.iaload, 1) := by decide +kernel
theorem dX4_findBestSums_77 : decode cX4_findBestSums 77 = .ok (.ifCond .le 16, 3) := by decide +kernel
theorem dX4_findBestSums_80 : decode cX4_findBestSums 80 = .ok (.iload_n 3, 1) := by decide +kernel
theorem dX4_findBestSums_81 : decode cX4_findBestSums 81 = .ok (.aload_n 0, 1) := by decide +kernel
theorem dX4_findBestSums_82 : decode cX4_findBestSums 82 = .ok (.iload_n 1, 1) := by decide +kernel
theorem dX4_findBestSums_83 : decode cX4_findBestSums 83 = .ok (.iload 4, 2) := by decide +kernel
theorem dX4_findBestSums_85 : decode cX4_findBestSums 85 = .ok (.iload_n 2, 1) := by decide +kernel
theorem dX4_findBestSums_86 : decode cX4_findBestSums 86 = .ok (.invokevirtual 68, 3) := by decide +kernel
theorem dX4_findBestSums_89 : decode cX4_findBestSums 89 = .ok (.invokestatic 76, 3) := by decide +kernel
theorem dX4_findBestSums_92 : decode cX4_findBestSums 92 = .ok (.istore_n 3, 1) := by decide +kernel
theorem dX4_findBestSums_93 : decode cX4_findBestSums 93 = .ok (.iinc 4 1, 3) := by decide +kernel
theorem dX4_findBestSums_96 : decode cX4_findBestSums 96 = .ok (.goto (-46), 3) := by decide +kernel
theorem dX4_findBestSums_99 : decode cX4_findBestSums 99 = .ok (.aload_n 0, 1) := by decide +kernel
theorem dX4_findBestSums_100 : decode cX4_findBestSums 100 = .ok (.getfield 36, 3) := by decide +kernel
theorem dX4_findBestSums_103 : decode cX4_findBestSums 103 = .ok (.iload_n 1, 1) := by decide +kernel
theorem dX4_findBestSums_104 : decode cX4_findBestSums 104 = .ok (.aaload, 1) := by decide +kernel
theorem dX4_findBestSums_105 : decode cX4_findBestSums 105 = .ok (.iload_n 2, 1) := by decide +kernel
theorem dX4_findBestSums_106 : decode cX4_findBestSums 106 = .ok (.iload_n 3, 1) := by decide +kernel
theorem dX4_findBestSums_107 : decode cX4_findBestSums 107 = .ok (.iastore, 1) := by decide +kernel
theorem dX4_findBestSums_108 : decode cX4_findBestSums 108 = .ok (.iinc 2 1, 3) := by decide +kernel
theorem dX4_findBestSums_111 : decode cX4_findBestSums 111 = .ok (.goto (-85), 3) := by decide +kernel
theorem dX4_findBestSums_114 : decode cX4_findBestSums 114 = .ok (.iinc 1 (-1), 3) := by decide +kernel
theorem dX4_findBestSums_117 : decode cX4_findBestSums 117 = .ok (.goto (-97), 3) := by decide +kernel
theorem dX4_findBestSums_120 : decode cX4_findBestSums 120 = .ok (.return_, 1) := by decide +kernel
theorem dX4_sumWith_0 : decode cX4_sumWith 0 = .ok (.aload_n 0, 1) := by decide +kernel
theorem dX4_sumWith_1 : decode cX4_sumWith 1 = .ok (.getfield 17, 3) := by decide +kernel
theorem dX4_sumWith_4 : decode cX4_sumWith 4 = .ok (.iload_n 1, 1) := by decide +kernel
theorem dX4_sumWith_5 : decode cX4_sumWith 5 = .ok (.aaload, 1) := by decide +kernel
theorem dX4_sumWith_6 : decode cX4_sumWith 6 = .ok (.iload_n 2, 1) := by decide +kernel
theorem dX4_sumWith_7 : decode cX4_sumWith 7 = .ok (.iaload, 1) := by decide +kernel
theorem dX4_sumWith_8 : decode cX4_sumWith 8 = .ok (.aload_n 0, 1) := by decide +kernel
theorem dX4_sumWith_9 : decode cX4_sumWith 9 = .ok (.getfield 36, 3) := by decide +kernel
theorem dX4_sumWith_12 : decode cX4_sumWith 12 = .ok (.iload_n 1, 1) := by decide +kernel
theorem dX4_sumWith_13 : decode cX4_sumWith 13 = .ok (.iconst 1, 1) := by decide +kernel
theorem dX4_sumWith_14 : decode cX4_sumWith 14 = .ok (.iadd, 1) := by decide +kernel
theorem dX4_sumWith_15 : decode cX4_sumWith 15 = .ok (.aaload, 1) := by decide +kernel
theorem dX4_sumWith_16 : decode cX4_sumWith 16 = .ok (.iload_n 3, 1) := by decide +kernel
theorem dX4_sumWith_17 : decode cX4_sumWith 17 = .ok (.iconst 1, 1) := by decide +kernel
theorem dX4_sumWith_18 : decode cX4_sumWith 18 = .ok (.iload_n 2, 1) := by decide +kernel
theorem dX4_sumWith_19 : decode cX4_sumWith 19 = .ok (.ishl, 1) := by decide +kernel
theorem dX4_sumWith_20 : decode cX4_sumWith 20 = .ok (.ior, 1) := by decide +kernel
theorem dX4_sumWith_21 : decode cX4_sumWith 21 = .ok (.iaload, 1) := by decide +kernel
theorem dX4_sumWith_22 : decode cX4_sumWith 22 = .ok (.iadd, 1) := by decide +kernel
theorem dX4_sumWith_23 : decode cX4_sumWith 23 = .ok (.ireturn, 1) := by decide +kernel
theorem dX4_matchByTurns_0 : decode cX4_matchByTurns 0 = .ok (.iconst 0, 1) := by decide +kernel
theorem dX4_matchByTurns_1 : decode cX4_matchByTurns 1 = .ok (.istore_n 1, 1) := by decide +kernel
theorem dX4_matchByTurns_2 : decode cX4_matchByTurns 2 = .ok (.iload_n 1, 1) := by decide +kernel
theorem dX4_matchByTurns_3 : decode cX4_matchByTurns 3 = .ok (.iconst 3, 1) := by decide +kernel
theorem dX4_matchByTurns_4 : decode cX4_matchByTurns 4 = .ok (.if_icmp .ge 103, 3) := by decide +kernel
theorem dX4_matchByTurns_7 : decode cX4_matchByTurns 7 = .ok (.iconst 0, 1) := by decide +kernel
theorem dX4_matchByTurns_8 : decode cX4_matchByTurns 8 = .ok (.istore_n 2, 1) := by decide +kernel
theorem dX4_matchByTurns_9 : decode cX4_matchByTurns 9 = .ok (.iload_n 2, 1) := by decide +kernel
theorem dX4_matchByTurns_10 : decode cX4_matchByTurns 10 = .ok (.aload_n 0, 1) := by decide +kernel
theorem dX4_matchByTurns_11 : decode cX4_matchByTurns 11 = .ok (.getfield 9, 3) := by decide +kernel
theorem dX4_matchByTurns_14 : decode cX4_matchByTurns 14 = .ok (.if_icmp .ge 20, 3) := by decide +kernel
theorem dX4_matchByTurns_17 : decode cX4_matchByTurns 17 = .ok (.aload_n 0, 1) := by decide +kernel
theorem dX4_matchByTurns_18 : decode cX4_matchByTurns 18 = .ok (.getfield 33, 3) := by decide +kernel
theorem dX4_matchByTurns_21 : decode cX4_matchByTurns 21 = .ok (.iload_n 2, 1) := by decide +kernel
theorem dX4_matchByTurns_22 : decode cX4_matchByTurns 22 = .ok (.aload_n 0, 1) := by decide +kernel
theorem dX4_matchByTurns_23 : decode cX4_matchByTurns 23 = .ok (.iload_n 2, 1) := by decide +kernel
theorem dX4_matchByTurns_24 : decode cX4_matchByTurns 24 = .ok (.invokevirtual 82, 3) := by decide +kernel
theorem dX4_matchByTurns_27 : decode cX4_matchByTurns 27 = .ok (.iastore, 1) := by decide +kernel
theorem dX4_matchByTurns_28 : decode cX4_matchByTurns 28 = .ok (.iinc 2 1, 3) := by decide +kernel
theorem dX4_matchByTurns_31 : decode cX4_matchByTurns 31 = .ok (.goto (-22), 3) := by decide +kernel
theorem dX4_matchByTurns_34 : decode cX4_matchByTurns 34 = .ok (.iconst 0, 1) := by decide +kernel
theorem dX4_matchByTurns_35 : decode cX4_matchByTurns 35 = .ok (.istore_n 2, 1) := by decide +kernel
theorem dX4_matchByTurns_36 : decode cX4_matchByTurns 36 = .ok (.iload_n 2, 1) := by decide +kernel
theorem dX4_matchByTurns_37 : decode cX4_matchByTurns 37 = .ok (.aload_n 0, 1) := by decide +kernel
theorem dX4_matchByTurns_38 : decode cX4_matchByTurns 38 = .ok (.getfield 9, 3) := by decide +kernel
theorem dX4_matchByTurns_41 : decode cX4_matchByTurns 41 = .ok (.if_icmp .ge 60, 3) := by decide +kernel
theorem dX4_matchByTurns_44 : decode cX4_matchByTurns 44 = .ok (.aload_n 0, 1) := by decide +kernel
theorem dX4_matchByTurns_45 : decode cX4_matchByTurns 45 = .ok (.iload_n 2, 1) := by decide +kernel
theorem dX4_matchByTurns_46 : decode cX4_matchByTurns 46 = .ok (.invokevirtual 86, 3) := by decide +kernel
theorem dX4_matchByTurns_49 : decode cX4_matchByTurns 49 = .ok (.istore_n 3, 1) := by decide +kernel
theorem dX4_matchByTurns_50 : decode cX4_matchByTurns 50 = .ok (.iload_n 3, 1) := by decide +kernel
theorem dX4_matchByTurns_51 : decode cX4_matchByTurns 51 = .ok (.bipush (-9), 2) := by decide +kernel
theorem dX4_matchByTurns_53 : decode cX4_matchByTurns 53 = .ok (.if_icmp .ne 6, 3) := by decide +kernel
theorem dX4_matchByTurns_56 : decode cX4_matchByTurns 56 = .ok (.goto 39, 3) := by decide +kernel
theorem dX4_matchByTurns_59 : decode cX4_matchByTurns 59 = .ok (.aload_n 0, 1) := by decide +kernel
theorem dX4_matchByTurns_60 : decode cX4_matchByTurns 60 = .ok (.iload_n 2, 1) := by decide +kernel
theorem dX4_matchByTurns_61 : decode cX4_matchByTurns 61 = .ok (.iload_n 3, 1) := by decide +kernel
theorem dX4_matchByTurns_62 : decode cX4_matchByTurns 62 = .ok (.invokevirtual 72, 3) := by decide +kernel
theorem dX4_matchByTurns_65 : decode cX4_matchByTurns 65 = .ok (.iload_n 1, 1) := by decide +kernel
theorem dX4_matchByTurns_66 : decode cX4_matchByTurns 66 = .ok (.ifCond .ne 29, 3) := by decide +kernel
theorem dX4_matchByTurns_69 : decode cX4_matchByTurns 69 = .ok (.aload_n 0, 1) := by decide +kernel
theorem dX4_matchByTurns_70 : decode cX4_matchByTurns 70 = .ok (.getfield 27, 3) := by decide +kernel
theorem dX4_matchByTurns_73 : decode cX4_matchByTurns 73 = .ok (.iload_n 2, 1) := by decide +kernel
theorem dX4_matchByTurns_74 : decode cX4_matchByTurns 74 = .ok (.aload_n 0, 1) := by decide +kernel
theorem dX4_matchByTurns_75 : decode cX4_matchByTurns 75 = .ok (.iload_n 3, 1) := by decide +kernel
theorem dX4_matchByTurns_76 : decode cX4_matchByTurns 76 = .ok (.iconst 1, 1) := by decide +kernel
theorem dX4_matchByTurns_77 : decode cX4_matchByTurns 77 = .ok (.iadd, 1) := by decide +kernel
theorem dX4_matchByTurns_78 : decode cX4_matchByTurns 78 = .ok (.invokevirtual 89, 3) := by decide +kernel
theorem dX4_matchByTurns_81 : decode cX4_matchByTurns 81 = .ok (.iastore, 1) := by decide +kernel
theorem dX4_matchByTurns_82 : decode cX4_matchByTurns 82 = .ok (.aload_n 0, 1) := by decide +kernel
theorem dX4_matchByTurns_83 : decode cX4_matchByTurns 83 = .ok (.getfield 30, 3) := by decide +kernel
theorem dX4_matchByTurns_86 : decode cX4_matchByTurns 86 = .ok (.iload_n 3, 1) := by decide +kernel
theorem dX4_matchByTurns_87 : decode cX4_matchByTurns 87 = .ok (.aload_n 0, 1) := by decide +kernel
theorem dX4_matchByTurns_88 : decode cX4_matchByTurns 88 = .ok (.iload_n 2, 1) := by decide +kernel
theorem dX4_matchByTurns_89 : decode cX4_matchByTurns 89 = .ok (.iconst 1, 1) := by decide +kernel
theorem dX4_matchByTurns_90 : decode cX4_matchByTurns 90 = .ok (.iadd, 1) := by decide +kernel
theorem dX4_matchByTurns_91 : decode cX4_matchByTurns 91 = .ok (.invokevirtual 89, 3) := by decide +kernel
theorem dX4_matchByTurns_94 : decode cX4_matchByTurns 94 = .ok (.iastore, 1) := by decide +kernel
theorem dX4_matchByTurns_95 : decode cX4_matchByTurns 95 = .ok (.iinc 2 1, 3) := by decide +kernel
theorem dX4_matchByTurns_98 : decode cX4_matchByTurns 98 = .ok (.goto (-62), 3) := by decide +kernel
theorem dX4_matchByTurns_101 : decode cX4_matchByTurns 101 = .ok (.iinc 1 1, 3) := by decide +kernel
theorem dX4_matchByTurns_104 : decode cX4_matchByTurns 104 = .ok (.goto (-102), 3) := by decide +kernel
theorem dX4_matchByTurns_107 : decode cX4_matchByTurns 107 = .ok (.return_, 1) := by decide +kernel
theorem dX4_firstThatAsks_0 : decode cX4_firstThatAsks 0 = .ok (.iconst 0, 1) := by decide +kernel
theorem dX4_firstThatAsks_1 : decode cX4_firstThatAsks 1 = .ok (.istore_n 2, 1) := by decide +kernel
theorem dX4_firstThatAsks_2 : decode cX4_firstThatAsks 2 = .ok (.iload_n 2, 1) := by decide +kernel
theorem dX4_firstThatAsks_3 : decode cX4_firstThatAsks 3 = .ok (.aload_n 0, 1) := by decide +kernel
theorem dX4_firstThatAsks_4 : decode cX4_firstThatAsks 4 = .ok (.getfield 9, 3) := by decide +kernel
theorem dX4_firstThatAsks_7 : decode cX4_firstThatAsks 7 = .ok (.if_icmp .ge 33, 3) := by decide +kernel
theorem dX4_firstThatAsks_10 : decode cX4_firstThatAsks 10 = .ok (.aload_n 0, 1) := by decide +kernel
theorem dX4_firstThatAsks_11 : decode cX4_firstThatAsks 11 = .ok (.aload_n 0, 1) := by decide +kernel
theorem dX4_firstThatAsks_12 : decode cX4_firstThatAsks 12 = .ok (.getfield 30, 3) := by decide +kernel
theorem dX4_firstThatAsks_15 : decode cX4_firstThatAsks 15 = .ok (.iload_n 1, 1) := by decide +kernel
theorem dX4_firstThatAsks_16 : decode cX4_firstThatAsks 16 = .ok (.iaload, 1) := by decide +kernel
theorem dX4_firstThatAsks_17 : decode cX4_firstThatAsks 17 = .ok (.iload_n 2, 1) := by decide +kernel
theorem dX4_firstThatAsks_18 : decode cX4_firstThatAsks 18 = .ok (.iadd, 1) := by decide +kernel
theorem dX4_firstThatAsks_19 : decode cX4_firstThatAsks 19 = .ok (.invokevirtual 89, 3) := by decide +kernel
theorem dX4_firstThatAsks_22 : decode cX4_firstThatAsks 22 = .ok (.istore_n 3, 1) := by decide +kernel
theorem dX4_firstThatAsks_23 : decode cX4_firstThatAsks 23 = .ok (.aload_n 0, 1) := by decide +kernel
theorem dX4_firstThatAsks_24 : decode cX4_firstThatAsks 24 = .ok (.iload_n 3, 1) := by decide +kernel
theorem dX4_firstThatAsks_25 : decode cX4_firstThatAsks 25 = .ok (.iload_n 1, 1) := by decide +kernel
theorem dX4_firstThatAsks_26 : decode cX4_firstThatAsks 26 = .ok (.invokevirtual 64, 3) := by decide +kernel
theorem dX4_firstThatAsks_29 : decode cX4_firstThatAsks 29 = .ok (.ifCond .eq 5, 3) := by decide +kernel
theorem dX4_firstThatAsks_32 : decode cX4_firstThatAsks 32 = .ok (.iload_n 3, 1) := by decide +kernel
theorem dX4_firstThatAsks_33 : decode cX4_firstThatAsks 33 = .ok (.ireturn, 1) := by decide +kernel
theorem dX4_firstThatAsks_34 : decode cX4_firstThatAsks 34 = .ok (.iinc 2 1, 3) := by decide +kernel
theorem dX4_firstThatAsks_37 : decode cX4_firstThatAsks 37 = .ok (.goto (-35), 3) := by decide +kernel
theorem dX4_firstThatAsks_40 : decode cX4_firstThatAsks 40 = .ok (.bipush (-9), 2) := by decide +kernel
theorem dX4_firstThatAsks_42 : decode cX4_firstThatAsks 42 = .ok (.ireturn, 1) := by decide +kernel
theorem dX4_firstThatTook_0 : decode cX4_firstThatTook 0 = .ok (.iconst 0, 1) := by decide +kernel
theorem dX4_firstThatTook_1 : decode cX4_firstThatTook 1 = .ok (.istore_n 2, 1) := by decide +kernel
theorem dX4_firstThatTook_2 : decode cX4_firstThatTook 2 = .ok (.iload_n 2, 1) := by decide +kernel
theorem dX4_firstThatTook_3 : decode cX4_firstThatTook 3 = .ok (.aload_n 0, 1) := by decide +kernel
theorem dX4_firstThatTook_4 : decode cX4_firstThatTook 4 = .ok (.getfield 9, 3) := by decide +kernel
theorem dX4_firstThatTook_7 : decode cX4_firstThatTook 7 = .ok (.if_icmp .ge 34, 3) := by decide +kernel
theorem dX4_firstThatTook_10 : decode cX4_firstThatTook 10 = .ok (.aload_n 0, 1) := by decide +kernel
theorem dX4_firstThatTook_11 : decode cX4_firstThatTook 11 = .ok (.aload_n 0, 1) := by decide +kernel
theorem dX4_firstThatTook_12 : decode cX4_firstThatTook 12 = .ok (.getfield 27, 3) := by decide +kernel
theorem dX4_firstThatTook_15 : decode cX4_firstThatTook 15 = .ok (.iload_n 1, 1) := by decide +kernel
theorem dX4_firstThatTook_16 : decode cX4_firstThatTook 16 = .ok (.iaload, 1) := by decide +kernel
theorem dX4_firstThatTook_17 : decode cX4_firstThatTook 17 = .ok (.iload_n 2, 1) := by decide +kernel
theorem dX4_firstThatTook_18 : decode cX4_firstThatTook 18 = .ok (.iadd, 1) := by decide +kernel
theorem dX4_firstThatTook_19 : decode cX4_firstThatTook 19 = .ok (.invokevirtual 89, 3) := by decide +kernel
theorem dX4_firstThatTook_22 : decode cX4_firstThatTook 22 = .ok (.istore_n 3, 1) := by decide +kernel
theorem dX4_firstThatTook_23 : decode cX4_firstThatTook 23 = .ok (.aload_n 0, 1) := by decide +kernel
theorem dX4_firstThatTook_24 : decode cX4_firstThatTook 24 = .ok (.getfield 33, 3) := by decide +kernel
theorem dX4_firstThatTook_27 : decode cX4_firstThatTook 27 = .ok (.iload_n 3, 1) := by decide +kernel
theorem dX4_firstThatTook_28 : decode cX4_firstThatTook 28 = .ok (.iaload, 1) := by decide +kernel
theorem dX4_firstThatTook_29 : decode cX4_firstThatTook 29 = .ok (.iload_n 1, 1) := by decide +kernel
theorem dX4_firstThatTook_30 : decode cX4_firstThatTook 30 = .ok (.if_icmp .ne 5, 3) := by decide +kernel
theorem dX4_firstThatTook_33 : decode cX4_firstThatTook 33 = .ok (.iload_n 3, 1) := by decide +kernel
theorem dX4_firstThatTook_34 : decode cX4_firstThatTook 34 = .ok (.ireturn, 1) := by decide +kernel
theorem dX4_firstThatTook_35 : decode cX4_firstThatTook 35 = .ok (.iinc 2 1, 3) := by decide +kernel
theorem dX4_firstThatTook_38 : decode cX4_firstThatTook 38 = .ok (.goto (-36), 3) := by decide +kernel
theorem dX4_firstThatTook_41 : decode cX4_firstThatTook 41 = .ok (.bipush (-9), 2) := by decide +kernel
theorem dX4_firstThatTook_43 : decode cX4_firstThatTook 43 = .ok (.ireturn, 1) := by decide +kernel
theorem dX4_matchCrosswise_0 : decode cX4_matchCrosswise 0 = .ok (.iconst 0, 1) := by decide +kernel
theorem dX4_matchCrosswise_1 : decode cX4_matchCrosswise 1 = .ok (.istore_n 1, 1) := by decide +kernel
theorem dX4_matchCrosswise_2 : decode cX4_matchCrosswise 2 = .ok (.iload_n 1, 1) := by decide +kernel
theorem dX4_matchCrosswise_3 : decode cX4_matchCrosswise 3 = .ok (.aload_n 0, 1) := by decide +kernel
theorem dX4_matchCrosswise_4 : decode cX4_matchCrosswise 4 = .ok (.getfield 9, 3) := by decide +kernel
theorem dX4_matchCrosswise_7 : decode cX4_matchCrosswise 7 = .ok (.if_icmp .ge 48, 3) := by decide +kernel
theorem dX4_matchCrosswise_10 : decode cX4_matchCrosswise 10 = .ok (.iconst 0, 1) := by decide +kernel
theorem dX4_matchCrosswise_11 : decode cX4_matchCrosswise 11 = .ok (.istore_n 2, 1) := by decide +kernel
theorem dX4_matchCrosswise_12 : decode cX4_matchCrosswise 12 = .ok (.iload_n 2, 1) := by decide +kernel
theorem dX4_matchCrosswise_13 : decode cX4_matchCrosswise 13 = .ok (.aload_n 0, 1) := by decide +kernel
theorem dX4_matchCrosswise_14 : decode cX4_matchCrosswise 14 = .ok (.getfield 9, 3) := by decide +kernel
theorem dX4_matchCrosswise_17 : decode cX4_matchCrosswise 17 = .ok (.if_icmp .ge 32, 3) := by decide +kernel
theorem dX4_matchCrosswise_20 : decode cX4_matchCrosswise 20 = .ok (.aload_n 0, 1) := by decide +kernel
theorem dX4_matchCrosswise_21 : decode cX4_matchCrosswise 21 = .ok (.iload_n 2, 1) := by decide +kernel
theorem dX4_matchCrosswise_22 : decode cX4_matchCrosswise 22 = .ok (.iload_n 1, 1) := by decide +kernel
theorem dX4_matchCrosswise_23 : decode cX4_matchCrosswise 23 = .ok (.iadd, 1) := by decide +kernel
theorem dX4_matchCrosswise_24 : decode cX4_matchCrosswise 24 = .ok (.invokevirtual 89, 3) := by decide +kernel
theorem dX4_matchCrosswise_27 : decode cX4_matchCrosswise 27 = .ok (.istore_n 3, 1) := by decide +kernel
theorem dX4_matchCrosswise_28 : decode cX4_matchCrosswise 28 = .ok (.aload_n 0, 1) := by decide +kernel
theorem dX4_matchCrosswise_29 : decode cX4_matchCrosswise 29 = .ok (.iload_n 2, 1) := by decide +kernel
theorem dX4_matchCrosswise_30 : decode cX4_matchCrosswise 30 = .ok (.iload_n 3, 1) := by decide +kernel
theorem dX4_matchCrosswise_31 : decode cX4_matchCrosswise 31 = .ok (.invokevirtual 64, 3) := by decide +kernel
theorem dX4_matchCrosswise_34 : decode cX4_matchCrosswise 34 = .ok (.ifCond .eq 9, 3) := by decide +kernel
theorem dX4_matchCrosswise_37 : decode cX4_matchCrosswise 37 = .ok (.aload_n 0, 1) := by decide +kernel
theorem dX4_matchCrosswise_38 : decode cX4_matchCrosswise 38 = .ok (.iload_n 2, 1) := by decide +kernel
theorem dX4_matchCrosswise_39 : decode cX4_matchCrosswise 39 = .ok (.iload_n 3, 1) := by decide +kernel
theorem dX4_matchCrosswise_40 : decode cX4_matchCrosswise 40 = .ok (.invokevirtual 72, 3) := by decide +kernel
theorem dX4_matchCrosswise_43 : decode cX4_matchCrosswise 43 = .ok (.iinc 2 1, 3) := by decide +kernel
theorem dX4_matchCrosswise_46 : decode cX4_matchCrosswise 46 = .ok (.goto (-34), 3) := by decide +kernel
theorem dX4_matchCrosswise_49 : decode cX4_matchCrosswise 49 = .ok (.iinc 1 1, 3) := by decide +kernel
theorem dX4_matchCrosswise_52 : decode cX4_matchCrosswise 52 = .ok (.goto (-50), 3) := by decide +kernel
theorem dX4_matchCrosswise_55 : decode cX4_matchCrosswise 55 = .ok (.return_, 1) := by decide +kernel
theorem dX4_aroundPorts_0 : decode cX4_aroundPorts 0 = .ok (.iload_n 1, 1) := by decide +kernel
theorem dX4_aroundPorts_1 : decode cX4_aroundPorts 1 = .ok (.aload_n 0, 1) := by decide +kernel
theorem dX4_aroundPorts_2 : decode cX4_aroundPorts 2 = .ok (.getfield 9, 3) := by decide +kernel
theorem dX4_aroundPorts_5 : decode cX4_aroundPorts 5 = .ok (.if_icmp .ge 7, 3) := by decide +kernel
theorem dX4_aroundPorts_8 : decode cX4_aroundPorts 8 = .ok (.iload_n 1, 1) := by decide +kernel
theorem dX4_aroundPorts_9 : decode cX4_aroundPorts 9 = .ok (.goto 9, 3) := by decide +kernel
theorem dX4_aroundPorts_12 : decode cX4_aroundPorts 12 = .ok (.iload_n 1, 1) := by decide +kernel
theorem dX4_aroundPorts_13 : decode cX4_aroundPorts 13 = .ok (.aload_n 0, 1) := by decide +kernel
theorem dX4_aroundPorts_14 : decode cX4_aroundPorts 14 = .ok (.getfield 9, 3) := by decide +kernel
theorem dX4_aroundPorts_17 : decode cX4_aroundPorts 17 = .ok (.isub, 1) := by decide +kernel
theorem dX4_aroundPorts_18 : decode cX4_aroundPorts 18 = .ok (.ireturn, 1) := by decide +kernel
theorem dX5_init_0 : decode cX5_init 0 = .ok (.aload_n 0, 1) := by decide +kernel
theorem dX5_init_1 : decode cX5_init 1 = .ok (.invokespecial 3, 3) := by decide +kernel
theorem dX5_init_4 : decode cX5_init 4 = .ok (.aload_n 0, 1) := by decide +kernel
theorem dX5_init_5 : decode cX5_init 5 = .ok (.iconst 4, 1) := by decide +kernel
theorem dX5_init_6 : decode cX5_init 6 = .ok (.newarray .int, 2) := by decide +kernel
theorem dX5_init_8 : decode cX5_init 8 = .ok (.dup, 1) := by decide +kernel
theorem dX5_init_9 : decode cX5_init 9 = .ok (.iconst 0, 1) := by decide +kernel
theorem dX5_init_10 : decode cX5_init 10 = .ok (.iconst (-1), 1) := by decide +kernel
theorem dX5_init_11 : decode cX5_init 11 = .ok (.iastore, 1) := by decide +kernel
theorem dX5_init_12 : decode cX5_init 12 = .ok (.dup, 1) := by decide +kernel
theorem dX5_init_13 : decode cX5_init 13 = .ok (.iconst 1, 1) := by decide +kernel
theorem dX5_init_14 : decode cX5_init 14 = .ok (.iconst (-1), 1) := by decide +kernel
theorem dX5_init_15 : decode cX5_init 15 = .ok (.iastore, 1) := by decide +kernel
theorem dX5_init_16 : decode cX5_init 16 = .ok (.dup, 1) := by decide +kernel
theorem dX5_init_17 : decode cX5_init 17 = .ok (.iconst 2, 1) := by decide +kernel
theorem dX5_init_18 : decode cX5_init 18 = .ok (.iconst (-1), 1) := by decide +kernel
theorem dX5_init_19 : decode cX5_init 19 = .ok (.iastore, 1) := by decide +kernel
theorem dX5_init_20 : decode cX5_init 20 = .ok (.dup, 1) := by decide +kernel
theorem dX5_init_21 : decode cX5_init 21 = .ok (.iconst 3, 1) := by decide +kernel
theorem dX5_init_22 : decode cX5_init 22 = .ok (.iconst (-1), 1) := by decide +kernel
theorem dX5_init_23 : decode cX5_init 23 = .ok (.iastore, 1) := by decide +kernel
theorem dX5_init_24 : decode cX5_init 24 = .ok (.putfield 11, 3) := by decide +kernel
theorem dX5_init_27 : decode cX5_init 27 = .ok (.aload_n 0, 1) := by decide +kernel
theorem dX5_init_28 : decode cX5_init 28 = .ok (.iconst 4, 1) := by decide +kernel
theorem dX5_init_29 : decode cX5_init 29 = .ok (.newarray .int, 2) := by decide +kernel
theorem dX5_init_31 : decode cX5_init 31 = .ok (.putfield 15, 3) := by decide +kernel
theorem dX5_init_34 : decode cX5_init 34 = .ok (.aload_n 0, 1) := by decide +kernel
theorem dX5_init_35 : decode cX5_init 35 = .ok (.iconst 4, 1) := by decide +kernel
theorem dX5_init_36 : decode cX5_init 36 = .ok (.bipush 60, 2) := by decide +kernel
theorem dX5_init_38 : decode cX5_init 38 = .ok (.multianewarray 18 2, 4) := by decide +kernel
theorem dX5_init_42 : decode cX5_init 42 = .ok (.putfield 20, 3) := by decide +kernel
theorem dX5_init_45 : decode cX5_init 45 = .ok (.return_, 1) := by decide +kernel
theorem dX5_layRow_0 : decode cX5_layRow 0 = .ok (.aload_n 0, 1) := by decide +kernel
theorem dX5_layRow_1 : decode cX5_layRow 1 = .ok (.getfield 11, 3) := by decide +kernel
theorem dX5_layRow_4 : decode cX5_layRow 4 = .ok (.iload_n 1, 1) := by decide +kernel
theorem dX5_layRow_5 : decode cX5_layRow 5 = .ok (.iload_n 2, 1) := by decide +kernel
theorem dX5_layRow_6 : decode cX5_layRow 6 = .ok (.iastore, 1) := by decide +kernel
theorem dX5_layRow_7 : decode cX5_layRow 7 = .ok (.aload_n 0, 1) := by decide +kernel
theorem dX5_layRow_8 : decode cX5_layRow 8 = .ok (.getfield 15, 3) := by decide +kernel
theorem dX5_layRow_11 : decode cX5_layRow 11 = .ok (.iload_n 1, 1) := by decide +kernel
theorem dX5_layRow_12 : decode cX5_layRow 12 = .ok (.iload_n 3, 1) := by decide +kernel
theorem dX5_layRow_13 : decode cX5_layRow 13 = .ok (.iastore, 1) := by decide +kernel
theorem dX5_layRow_14 : decode cX5_layRow 14 = .ok (.aload_n 0, 1) := by decide +kernel
theorem dX5_layRow_15 : decode cX5_layRow 15 = .ok (.getfield 20, 3) := by decide +kernel
theorem dX5_layRow_18 : decode cX5_layRow 18 = .ok (.iload_n 1, 1) := by decide +kernel
theorem dX5_layRow_19 : decode cX5_layRow 19 = .ok (.aaload, 1) := by decide +kernel
theorem dX5_layRow_20 : decode cX5_layRow 20 = .ok (.iconst 0, 1) := by decide +kernel
theorem dX5_layRow_21 : decode cX5_layRow 21 = .ok (.invokestatic 23, 3) := by decide +kernel
theorem dX5_layRow_24 : decode cX5_layRow 24 = .ok (.return_, 1) := by decide +kernel
theorem dX5_clear_0 : decode cX5_clear 0 = .ok (.aload_n 0, 1) := by decide +kernel
theorem dX5_clear_1 : decode cX5_clear 1 = .ok (.getfield 11, 3) := by decide +kernel
theorem dX5_clear_4 : decode cX5_clear 4 = .ok (.iload_n 1, 1) := by decide +kernel
theorem dX5_clear_5 : decode cX5_clear 5 = .ok (.iaload, 1) := by decide +kernel
theorem dX5_clear_6 : decode cX5_clear 6 = .ok (.iconst (-1), 1) := by decide +kernel
theorem dX5_clear_7 : decode cX5_clear 7 = .ok (.if_icmp .eq 7, 3) := by decide +kernel
theorem dX5_clear_10 : decode cX5_clear 10 = .ok (.iconst 1, 1) := by decide +kernel
theorem dX5_clear_11 : decode cX5_clear 11 = .ok (.goto 4, 3) := by decide +kernel
theorem dX5_clear_14 : decode cX5_clear 14 = .ok (.iconst 0, 1) := by decide +kernel
theorem dX5_clear_15 : decode cX5_clear 15 = .ok (.istore_n 2, 1) := by decide +kernel
theorem dX5_clear_16 : decode cX5_clear 16 = .ok (.aload_n 0, 1) := by decide +kernel
theorem dX5_clear_17 : decode cX5_clear 17 = .ok (.getfield 11, 3) := by decide +kernel
theorem dX5_clear_20 : decode cX5_clear 20 = .ok (.iload_n 1, 1) := by decide +kernel
theorem dX5_clear_21 : decode cX5_clear 21 = .ok (.iconst (-1), 1) := by decide +kernel
theorem dX5_clear_22 : decode cX5_clear 22 = .ok (.iastore, 1) := by decide +kernel
theorem dX5_clear_23 : decode cX5_clear 23 = .ok (.aload_n 0, 1) := by decide +kernel
theorem dX5_clear_24 : decode cX5_clear 24 = .ok (.getfield 15, 3) := by decide +kernel
theorem dX5_clear_27 : decode cX5_clear 27 = .ok (.iload_n 1, 1) := by decide +kernel
theorem dX5_clear_28 : decode cX5_clear 28 = .ok (.iconst 0, 1) := by decide +kernel
theorem dX5_clear_29 : decode cX5_clear 29 = .ok (.iastore, 1) := by decide +kernel
theorem dX5_clear_30 : decode cX5_clear 30 = .ok (.iload_n 2, 1) := by decide +kernel
theorem dX5_clear_31 : decode cX5_clear 31 = .ok (.ireturn, 1) := by decide +kernel
theorem dX5_faultOfCells_0 : decode cX5_faultOfCells 0 = .ok (.aload_n 0, 1) := by decide +kernel
theorem dX5_faultOfCells_1 : decode cX5_faultOfCells 1 = .ok (.getfield 11, 3) := by decide +kernel
theorem dX5_faultOfCells_4 : decode cX5_faultOfCells 4 = .ok (.iload_n 1, 1) := by decide +kernel
theorem dX5_faultOfCells_5 : decode cX5_faultOfCells 5 = .ok (.iaload, 1) := by decide +kernel
theorem dX5_faultOfCells_6 : decode cX5_faultOfCells 6 = .ok (.iconst (-1), 1) := by decide +kernel
theorem dX5_faultOfCells_7 : decode cX5_faultOfCells 7 = .ok (.if_icmp .ne 5, 3) := by decide +kernel
theorem dX5_faultOfCells_10 : decode cX5_faultOfCells 10 = .ok (.iconst 1, 1) := by decide +kernel
theorem dX5_faultOfCells_11 : decode cX5_faultOfCells 11 = .ok (.ireturn, 1) := by decide +kernel
theorem dX5_faultOfCells_12 : decode cX5_faultOfCells 12 = .ok (.aload_n 0, 1) := by decide +kernel
theorem dX5_faultOfCells_13 : decode cX5_faultOfCells 13 = .ok (.getfield 11, 3) := by decide +kernel
theorem dX5_faultOfCells_16 : decode cX5_faultOfCells 16 = .ok (.iload_n 1, 1) := by decide +kernel
theorem dX5_faultOfCells_17 : decode cX5_faultOfCells 17 = .ok (.iaload, 1) := by decide +kernel
theorem dX5_faultOfCells_18 : decode cX5_faultOfCells 18 = .ok (.iload_n 2, 1) := by decide +kernel
theorem dX5_faultOfCells_19 : decode cX5_faultOfCells 19 = .ok (.if_icmp .eq 5, 3) := by decide +kernel
theorem dX5_faultOfCells_22 : decode cX5_faultOfCells 22 = .ok (.iconst 2, 1) := by decide +kernel
theorem dX5_faultOfCells_23 : decode cX5_faultOfCells 23 = .ok (.ireturn, 1) := by decide +kernel
theorem dX5_faultOfCells_24 : decode cX5_faultOfCells 24 = .ok (.iload_n 3, 1) := by decide +kernel
theorem dX5_faultOfCells_25 : decode cX5_faultOfCells 25 = .ok (.iconst 0, 1) := by decide +kernel
theorem dX5_faultOfCells_26 : decode cX5_faultOfCells 26 = .ok (.aload_n 0, 1) := by decide +kernel
theorem dX5_faultOfCells_27 : decode cX5_faultOfCells 27 = .ok (.getfield 15, 3) := by decide +kernel
theorem dX5_faultOfCells_30 : decode cX5_faultOfCells 30 = .ok (.iload_n 1, 1) := by decide +kernel
theorem dX5_faultOfCells_31 : decode cX5_faultOfCells 31 = .ok (.iaload, 1) := by decide +kernel
theorem dX5_faultOfCells_32 : decode cX5_faultOfCells 32 = .ok (.iload 4, 2) := by decide +kernel
theorem dX5_faultOfCells_34 : decode cX5_faultOfCells 34 = .ok (.isub, 1) := by decide +kernel
theorem dX5_faultOfCells_35 : decode cX5_faultOfCells 35 = .ok (.invokestatic 29, 3) := by decide +kernel
theorem dX5_faultOfCells_38 : decode cX5_faultOfCells 38 = .ok (.ifCond .eq 7, 3) := by decide +kernel
theorem dX5_faultOfCells_41 : decode cX5_faultOfCells 41 = .ok (.iconst 0, 1) := by decide +kernel
theorem dX5_faultOfCells_42 : decode cX5_faultOfCells 42 = .ok (.goto 4, 3) := by decide +kernel
theorem dX5_faultOfCells_45 : decode cX5_faultOfCells 45 = .ok (.iconst 3, 1) := by decide +kernel
theorem dX5_faultOfCells_46 : decode cX5_faultOfCells 46 = .ok (.ireturn, 1) := by decide +kernel
theorem dX5_change_0 : decode cX5_change 0 = .ok (.aload_n 0, 1) := by decide +kernel
theorem dX5_change_1 : decode cX5_change 1 = .ok (.getfield 20, 3) := by decide +kernel
theorem dX5_change_4 : decode cX5_change 4 = .ok (.iload_n 1, 1) := by decide +kernel
theorem dX5_change_5 : decode cX5_change 5 = .ok (.aaload, 1) := by decide +kernel
theorem dX5_change_6 : decode cX5_change 6 = .ok (.iload_n 2, 1) := by decide +kernel
theorem dX5_change_7 : decode cX5_change 7 = .ok (.aload_n 0, 1) := by decide +kernel
theorem dX5_change_8 : decode cX5_change 8 = .ok (.getfield 11, 3) := by decide +kernel
theorem dX5_change_11 : decode cX5_change 11 = .ok (.iload_n 1, 1) := by decide +kernel
theorem dX5_change_12 : decode cX5_change 12 = .ok (.iaload, 1) := by decide +kernel
theorem dX5_change_13 : decode cX5_change 13 = .ok (.iload_n 3, 1) := by decide +kernel
theorem dX5_change_14 : decode cX5_change 14 = .ok (.invokestatic 33, 3) := by decide +kernel
theorem dX5_change_17 : decode cX5_change 17 = .ok (.iastore, 1) := by decide +kernel
theorem dX5_change_18 : decode cX5_change 18 = .ok (.return_, 1) := by decide +kernel
theorem dX5_read_0 : decode cX5_read 0 = .ok (.aload_n 0, 1) := by decide +kernel
theorem dX5_read_1 : decode cX5_read 1 = .ok (.getfield 20, 3) := by decide +kernel
theorem dX5_read_4 : decode cX5_read 4 = .ok (.iload_n 1, 1) := by decide +kernel
theorem dX5_read_5 : decode cX5_read 5 = .ok (.aaload, 1) := by decide +kernel
theorem dX5_read_6 : decode cX5_read 6 = .ok (.iload_n 2, 1) := by decide +kernel
theorem dX5_read_7 : decode cX5_read 7 = .ok (.aload_n 3, 1) := by decide +kernel
theorem dX5_read_8 : decode cX5_read 8 = .ok (.iconst 0, 1) := by decide +kernel
theorem dX5_read_9 : decode cX5_read 9 = .ok (.iload 4, 2) := by decide +kernel
theorem dX5_read_11 : decode cX5_read 11 = .ok (.invokestatic 37, 3) := by decide +kernel
theorem dX5_read_14 : decode cX5_read 14 = .ok (.return_, 1) := by decide +kernel
theorem dX5_write_0 : decode cX5_write 0 = .ok (.iconst 0, 1) := by decide +kernel
theorem dX5_write_1 : decode cX5_write 1 = .ok (.istore 5, 2) := by decide +kernel
theorem dX5_write_3 : decode cX5_write 3 = .ok (.iconst 0, 1) := by decide +kernel
theorem dX5_write_4 : decode cX5_write 4 = .ok (.istore 6, 2) := by decide +kernel
theorem dX5_write_6 : decode cX5_write 6 = .ok (.iload 6, 2) := by decide +kernel
theorem dX5_write_8 : decode cX5_write 8 = .ok (.iload 4, 2) := by decide +kernel
theorem dX5_write_10 : decode cX5_write 10 = .ok (.if_icmp .ge 43, 3) := by decide +kernel
theorem dX5_write_13 : decode cX5_write 13 = .ok (.aload_n 0, 1) := by decide +kernel
theorem dX5_write_14 : decode cX5_write 14 = .ok (.getfield 20, 3) := by decide +kernel
theorem dX5_write_17 : decode cX5_write 17 = .ok (.iload_n 1, 1) := by decide +kernel
theorem dX5_write_18 : decode cX5_write 18 = .ok (.aaload, 1) := by decide +kernel
theorem dX5_write_19 : decode cX5_write 19 = .ok (.iload_n 2, 1) := by decide +kernel
theorem dX5_write_20 : decode cX5_write 20 = .ok (.iload 6, 2) := by decide +kernel
theorem dX5_write_22 : decode cX5_write 22 = .ok (.iadd, 1) := by decide +kernel
theorem dX5_write_23 : decode cX5_write 23 = .ok (.iaload, 1) := by decide +kernel
theorem dX5_write_24 : decode cX5_write 24 = .ok (.aload_n 3, 1) := by decide +kernel
theorem dX5_write_25 : decode cX5_write 25 = .ok (.iload 6, 2) := by decide +kernel
theorem dX5_write_27 : decode cX5_write 27 = .ok (.iaload, 1) := by decide +kernel
theorem dX5_write_28 : decode cX5_write 28 = .ok (.if_icmp .eq 6, 3) := by decide +kernel
theorem dX5_write_31 : decode cX5_write 31 = .ok (.iinc 5 1, 3) := by decide +kernel
theorem dX5_write_34 : decode cX5_write 34 = .ok (.aload_n 0, 1) := by decide +kernel
theorem dX5_write_35 : decode cX5_write 35 = .ok (.iload_n 1, 1) := by decide +kernel
theorem dX5_write_36 : decode cX5_write 36 = .ok (.iload_n 2, 1) := by decide +kernel
theorem dX5_write_37 : decode cX5_write 37 = .ok (.iload 6, 2) := by decide +kernel
theorem dX5_write_39 : decode cX5_write 39 = .ok (.iadd, 1) := by decide +kernel
theorem dX5_write_40 : decode cX5_write 40 = .ok (.aload_n 3, 1) := by decide +kernel
theorem dX5_write_41 : decode cX5_write 41 = .ok (.iload 6, 2) := by decide +kernel
theorem dX5_write_43 : decode cX5_write 43 = .ok (.iaload, 1) := by decide +kernel
theorem dX5_write_44 : decode cX5_write 44 = .ok (.invokevirtual 43, 3) := by decide +kernel
theorem dX5_write_47 : decode cX5_write 47 = .ok (.iinc 6 1, 3) := by decide +kernel
theorem dX5_write_50 : decode cX5_write 50 = .ok (.goto (-44), 3) := by decide +kernel
theorem dX5_write_53 : decode cX5_write 53 = .ok (.iload 5, 2) := by decide +kernel
theorem dX5_write_55 : decode cX5_write 55 = .ok (.ireturn, 1) := by decide +kernel
theorem dX5_cut_0 : decode cX5_cut 0 = .ok (.iload_n 0, 1) := by decide +kernel
theorem dX5_cut_1 : decode cX5_cut 1 = .ok (.ifCond .ne 6, 3) := by decide +kernel
theorem dX5_cut_4 : decode cX5_cut 4 = .ok (.iload_n 1, 1) := by decide +kernel
theorem dX5_cut_5 : decode cX5_cut 5 = .ok (.i2b, 1) := by decide +kernel
theorem dX5_cut_6 : decode cX5_cut 6 = .ok (.ireturn, 1) := by decide +kernel
theorem dX5_cut_7 : decode cX5_cut 7 = .ok (.iload_n 0, 1) := by decide +kernel
theorem dX5_cut_8 : decode cX5_cut 8 = .ok (.iconst 1, 1) := by decide +kernel
theorem dX5_cut_9 : decode cX5_cut 9 = .ok (.if_icmp .ne 8, 3) := by decide +kernel
theorem dX5_cut_12 : decode cX5_cut 12 = .ok (.iload_n 1, 1) := by decide +kernel
theorem dX5_cut_13 : decode cX5_cut 13 = .ok (.i2s, 1) := by decide +kernel
theorem dX5_cut_14 : decode cX5_cut 14 = .ok (.goto 4, 3) := by decide +kernel
theorem dX5_cut_17 : decode cX5_cut 17 = .ok (.iload_n 1, 1) := by decide +kernel
theorem dX5_cut_18 : decode cX5_cut 18 = .ok (.ireturn, 1) := by decide +kernel
theorem dX6_init_0 : decode cX6_init 0 = .ok (.aload_n 0, 1) := by decide +kernel
theorem dX6_init_1 : decode cX6_init 1 = .ok (.invokespecial 3, 3) := by decide +kernel
theorem dX6_init_4 : decode cX6_init 4 = .ok (.aload_n 0, 1) := by decide +kernel
theorem dX6_init_5 : decode cX6_init 5 = .ok (.iconst 3, 1) := by decide +kernel
theorem dX6_init_6 : decode cX6_init 6 = .ok (.putfield 9, 3) := by decide +kernel
theorem dX6_init_9 : decode cX6_init 9 = .ok (.aload_n 0, 1) := by decide +kernel
theorem dX6_init_10 : decode cX6_init 10 = .ok (.iconst 2, 1) := by decide +kernel
theorem dX6_init_11 : decode cX6_init 11 = .ok (.putfield 15, 3) := by decide +kernel
theorem dX6_init_14 : decode cX6_init 14 = .ok (.aload_n 0, 1) := by decide +kernel
theorem dX6_init_15 : decode cX6_init 15 = .ok (.iconst 2, 1) := by decide +kernel
theorem dX6_init_16 : decode cX6_init 16 = .ok (.putfield 18, 3) := by decide +kernel
theorem dX6_init_19 : decode cX6_init 19 = .ok (.aload_n 0, 1) := by decide +kernel
theorem dX6_init_20 : decode cX6_init 20 = .ok (.iconst 0, 1) := by decide +kernel
theorem dX6_init_21 : decode cX6_init 21 = .ok (.putfield 21, 3) := by decide +kernel
theorem dX6_init_24 : decode cX6_init 24 = .ok (.aload_n 0, 1) := by decide +kernel
theorem dX6_init_25 : decode cX6_init 25 = .ok (.bipush 20, 2) := by decide +kernel
theorem dX6_init_27 : decode cX6_init 27 = .ok (.newarray .int, 2) := by decide +kernel
theorem dX6_init_29 : decode cX6_init 29 = .ok (.putfield 24, 3) := by decide +kernel
theorem dX6_init_32 : decode cX6_init 32 = .ok (.aload_n 0, 1) := by decide +kernel
theorem dX6_init_33 : decode cX6_init 33 = .ok (.bipush 20, 2) := by decide +kernel
theorem dX6_init_35 : decode cX6_init 35 = .ok (.newarray .int, 2) := by decide +kernel
theorem dX6_init_37 : decode cX6_init 37 = .ok (.putfield 28, 3) := by decide +kernel
theorem dX6_init_40 : decode cX6_init 40 = .ok (.aload_n 0, 1) := by decide +kernel
theorem dX6_init_41 : decode cX6_init 41 = .ok (.bipush 20, 2) := by decide +kernel
theorem dX6_init_43 : decode cX6_init 43 = .ok (.newarray .int, 2) := by decide +kernel
theorem dX6_init_45 : decode cX6_init 45 = .ok (.putfield 31, 3) := by decide +kernel
theorem dX6_init_48 : decode cX6_init 48 = .ok (.aload_n 0, 1) := by decide +kernel
theorem dX6_init_49 : decode cX6_init 49 = .ok (.bipush 20, 2) := by decide +kernel
theorem dX6_init_51 : decode cX6_init 51 = .ok (.newarray .int, 2) := by decide +kernel
theorem dX6_init_53 : decode cX6_init 53 = .ok (.putfield 34, 3) := by decide +kernel
theorem dX6_init_56 : decode cX6_init 56 = .ok (.aload_n 0, 1) := by decide +kernel
theorem dX6_init_57 : decode cX6_init 57 = .ok (.iconst 5, 1) := by decide +kernel
theorem dX6_init_58 : decode cX6_init 58 = .ok (.bipush 7, 2) := by decide +kernel
theorem dX6_init_60 : decode cX6_init 60 = .ok (.multianewarray 37 2, 4) := by decide +kernel
theorem dX6_init_64 : decode cX6_init 64 = .ok (.putfield 39, 3) := by decide +kernel
theorem dX6_init_67 : decode cX6_init 67 = .ok (.aload_n 0, 1) := by decide +kernel
theorem dX6_init_68 : decode cX6_init 68 = .ok (.iconst 5, 1) := by decide +kernel
theorem dX6_init_69 : decode cX6_init 69 = .ok (.bipush 7, 2) := by decide +kernel
theorem dX6_init_71 : decode cX6_init 71 = .ok (.multianewarray 37 2, 4) := by decide +kernel
theorem dX6_init_75 : decode cX6_init 75 = .ok (.putfield 42, 3) := by decide +kernel
theorem dX6_init_78 : decode cX6_init 78 = .ok (.aload_n 0, 1) := by decide +kernel
theorem dX6_init_79 : decode cX6_init 79 = .ok (.bipush 20, 2) := by decide +kernel
theorem dX6_init_81 : decode cX6_init 81 = .ok (.newarray .int, 2) := by decide +kernel
theorem dX6_init_83 : decode cX6_init 83 = .ok (.putfield 45, 3) := by decide +kernel
theorem dX6_init_86 : decode cX6_init 86 = .ok (.aload_n 0, 1) := by decide +kernel
theorem dX6_init_87 : decode cX6_init 87 = .ok (.bipush (-9), 2) := by decide +kernel
theorem dX6_init_89 : decode cX6_init 89 = .ok (.putfield 48, 3) := by decide +kernel
theorem dX6_init_92 : decode cX6_init 92 = .ok (.aload_n 0, 1) := by decide +kernel
theorem dX6_init_93 : decode cX6_init 93 = .ok (.bipush (-9), 2) := by decide +kernel
theorem dX6_init_95 : decode cX6_init 95 = .ok (.putfield 51, 3) := by decide +kernel
theorem dX6_init_98 : decode cX6_init 98 = .ok (.aload_n 0, 1) := by decide +kernel
theorem dX6_init_99 : decode cX6_init 99 = .ok (.invokevirtual 54, 3) := by decide +kernel
theorem dX6_init_102 : decode cX6_init 102 = .ok (.return_, 1) := by decide +kernel
theorem dX6_build_0 : decode cX6_build 0 = .ok (.aload_n 0, 1) := by decide +kernel
theorem dX6_build_1 : decode cX6_build 1 = .ok (.iload_n 1, 1) := by decide +kernel
theorem dX6_build_2 : decode cX6_build 2 = .ok (.putfield 9, 3) := by decide +kernel
theorem dX6_build_5 : decode cX6_build 5 = .ok (.aload_n 0, 1) := by decide +kernel
theorem dX6_build_6 : decode cX6_build 6 = .ok (.iload_n 2, 1) := by decide +kernel
theorem dX6_build_7 : decode cX6_build 7 = .ok (.putfield 15, 3) := by decide +kernel
theorem dX6_build_10 : decode cX6_build 10 = .ok (.aload_n 0, 1) := by decide +kernel
theorem dX6_build_11 : decode cX6_build 11 = .ok (.iload_n 3, 1) := by decide +kernel
theorem dX6_build_12 : decode cX6_build 12 = .ok (.putfield 18, 3) := by decide +kernel
theorem dX6_build_15 : decode cX6_build 15 = .ok (.aload_n 0, 1) := by decide +kernel
theorem dX6_build_16 : decode cX6_build 16 = .ok (.invokevirtual 54, 3) := by decide +kernel
theorem dX6_build_19 : decode cX6_build 19 = .ok (.return_, 1) := by decide +kernel
theorem dX6_inlets_0 : decode cX6_inlets 0 = .ok (.aload_n 0, 1) := by decide +kernel
theorem dX6_inlets_1 : decode cX6_inlets 1 = .ok (.getfield 9, 3) := by decide +kernel
theorem dX6_inlets_4 : decode cX6_inlets 4 = .ok (.aload_n 0, 1) := by decide +kernel
theorem dX6_inlets_5 : decode cX6_inlets 5 = .ok (.getfield 15, 3) := by decide +kernel
theorem dX6_inlets_8 : decode cX6_inlets 8 = .ok (.imul, 1) := by decide +kernel
theorem dX6_inlets_9 : decode cX6_inlets 9 = .ok (.ireturn, 1) := by decide +kernel
theorem dX6_isPlace_0 : decode cX6_isPlace 0 = .ok (.iload_n 1, 1) := by decide +kernel
theorem dX6_isPlace_1 : decode cX6_isPlace 1 = .ok (.iconst 0, 1) := by decide +kernel
theorem dX6_isPlace_2 : decode cX6_isPlace 2 = .ok (.aload_n 0, 1) := by decide +kernel
theorem dX6_isPlace_3 : decode cX6_isPlace 3 = .ok (.invokevirtual 57, 3) := by decide +kernel
theorem dX6_isPlace_6 : decode cX6_isPlace 6 = .ok (.iconst 1, 1) := by decide +kernel
theorem dX6_isPlace_7 : decode cX6_isPlace 7 = .ok (.isub, 1) := by decide +kernel
theorem dX6_isPlace_8 : decode cX6_isPlace 8 = .ok (.invokestatic 61, 3) := by decide +kernel
theorem dX6_isPlace_11 : decode cX6_isPlace 11 = .ok (.ireturn, 1) := by decide +kernel
theorem dX6_neverBlocks_0 : decode cX6_neverBlocks 0 = .ok (.aload_n 0, 1) := by decide +kernel
theorem dX6_neverBlocks_1 : decode cX6_neverBlocks 1 = .ok (.getfield 18, 3) := by decide +kernel
theorem dX6_neverBlocks_4 : decode cX6_neverBlocks 4 = .ok (.iconst 2, 1) := by decide +kernel
theorem dX6_neverBlocks_5 : decode cX6_neverBlocks 5 = .ok (.aload_n 0, 1) := by decide +kernel
theorem dX6_neverBlocks_6 : decode cX6_neverBlocks 6 = .ok (.getfield 15, 3) := by decide +kernel
theorem dX6_neverBlocks_9 : decode cX6_neverBlocks 9 = .ok (.imul, 1) := by decide +kernel
theorem dX6_neverBlocks_10 : decode cX6_neverBlocks 10 = .ok (.iconst 1, 1) := by decide +kernel
theorem dX6_neverBlocks_11 : decode cX6_neverBlocks 11 = .ok (.isub, 1) := by decide +kernel
theorem dX6_neverBlocks_12 : decode cX6_neverBlocks 12 = .ok (.if_icmp .ge 22, 3) := by decide +kernel
theorem dX6_neverBlocks_15 : decode cX6_neverBlocks 15 = .ok (.aload_n 0, 1) := by decide +kernel
theorem dX6_neverBlocks_16 : decode cX6_neverBlocks 16 = .ok (.getfield 9, 3) := by decide +kernel
theorem dX6_neverBlocks_19 : decode cX6_neverBlocks 19 = .ok (.iconst 1, 1) := by decide +kernel
theorem dX6_neverBlocks_20 : decode cX6_neverBlocks 20 = .ok (.if_icmp .ne 18, 3) := by decide +kernel
theorem dX6_neverBlocks_23 : decode cX6_neverBlocks 23 = .ok (.aload_n 0, 1) := by decide +kernel
theorem dX6_neverBlocks_24 : decode cX6_neverBlocks 24 = .ok (.getfield 18, 3) := by decide +kernel
theorem dX6_neverBlocks_27 : decode cX6_neverBlocks 27 = .ok (.aload_n 0, 1) := by decide +kernel
theorem dX6_neverBlocks_28 : decode cX6_neverBlocks 28 = .ok (.getfield 15, 3) := by decide +kernel
theorem dX6_neverBlocks_31 : decode cX6_neverBlocks 31 = .ok (.if_icmp .lt 7, 3) := by decide +kernel
theorem dX6_neverBlocks_34 : decode cX6_neverBlocks 34 = .ok (.iconst 1, 1) := by decide +kernel
theorem dX6_neverBlocks_35 : decode cX6_neverBlocks 35 = .ok (.goto 4, 3) := by decide +kernel
theorem dX6_neverBlocks_38 : decode cX6_neverBlocks 38 = .ok (.iconst 0, 1) := by decide +kernel
theorem dX6_neverBlocks_39 : decode cX6_neverBlocks 39 = .ok (.ireturn, 1) := by decide +kernel
theorem dX6_refusalOf_0 : decode cX6_refusalOf 0 = .ok (.aload_n 0, 1) := by decide +kernel
theorem dX6_refusalOf_1 : decode cX6_refusalOf 1 = .ok (.iload_n 1, 1) := by decide +kernel
theorem dX6_refusalOf_2 : decode cX6_refusalOf 2 = .ok (.invokevirtual 65, 3) := by decide +kernel
theorem dX6_refusalOf_5 : decode cX6_refusalOf 5 = .ok (.ifCond .eq 11, 3) := by decide +kernel
theorem dX6_refusalOf_8 : decode cX6_refusalOf 8 = .ok (.aload_n 0, 1) := by decide +kernel
theorem dX6_refusalOf_9 : decode cX6_refusalOf 9 = .ok (.iload_n 2, 1) := by decide +kernel
theorem dX6_refusalOf_10 : decode cX6_refusalOf 10 = .ok (.invokevirtual 65, 3) := by decide +kernel
theorem dX6_refusalOf_13 : decode cX6_refusalOf 13 = .ok (.ifCond .ne 5, 3) := by decide +kernel
theorem dX6_refusalOf_16 : decode cX6_refusalOf 16 = .ok (.iconst (-1), 1) := by decide +kernel
theorem dX6_refusalOf_17 : decode cX6_refusalOf 17 = .ok (.ireturn, 1) := by decide +kernel
theorem dX6_refusalOf_18 : decode cX6_refusalOf 18 = .ok (.aload_n 0, 1) := by decide +kernel
theorem dX6_refusalOf_19 : decode cX6_refusalOf 19 = .ok (.getfield 24, 3) := by decide +kernel
theorem dX6_refusalOf_22 : decode cX6_refusalOf 22 = .ok (.iload_n 1, 1) := by decide +kernel
theorem dX6_refusalOf_23 : decode cX6_refusalOf 23 = .ok (.iaload, 1) := by decide +kernel
theorem dX6_refusalOf_24 : decode cX6_refusalOf 24 = .ok (.bipush (-9), 2) := by decide +kernel
theorem dX6_refusalOf_26 : decode cX6_refusalOf 26 = .ok (.if_icmp .ne 14, 3) := by decide +kernel
theorem dX6_refusalOf_29 : decode cX6_refusalOf 29 = .ok (.aload_n 0, 1) := by decide +kernel
theorem dX6_refusalOf_30 : decode cX6_refusalOf 30 = .ok (.getfield 28, 3) := by decide +kernel
theorem dX6_refusalOf_33 : decode cX6_refusalOf 33 = .ok (.iload_n 2, 1) := by decide +kernel
theorem dX6_refusalOf_34 : decode cX6_refusalOf 34 = .ok (.iaload, 1) := by decide +kernel
theorem dX6_refusalOf_35 : decode cX6_refusalOf 35 = .ok (.bipush (-9), 2) := by decide +kernel
theorem dX6_refusalOf_37 : decode cX6_refusalOf 37 = .ok (.if_icmp .eq 8, 3) := by decide +kernel
theorem dX6_refusalOf_40 : decode cX6_refusalOf 40 = .ok (.bipush (-3), 2) := by decide +kernel
theorem dX6_refusalOf_42 : decode cX6_refusalOf 42 = .ok (.goto 4, 3) := by decide +kernel
theorem dX6_refusalOf_45 : decode cX6_refusalOf 45 = .ok (.iconst 0, 1) := by decide +kernel
theorem dX6_refusalOf_46 : decode cX6_refusalOf 46 = .ok (.ireturn, 1) := by decide +kernel
theorem dX6_setUpFirst_0 : decode cX6_setUpFirst 0 = .ok (.aload_n 0, 1) := by decide +kernel
theorem dX6_setUpFirst_1 : decode cX6_setUpFirst 1 = .ok (.iload_n 1, 1) := by decide +kernel
theorem dX6_setUpFirst_2 : decode cX6_setUpFirst 2 = .ok (.invokevirtual 69, 3) := by decide +kernel
theorem dX6_setUpFirst_5 : decode cX6_setUpFirst 5 = .ok (.istore_n 3, 1) := by decide +kernel
theorem dX6_setUpFirst_6 : decode cX6_setUpFirst 6 = .ok (.aload_n 0, 1) := by decide +kernel
theorem dX6_setUpFirst_7 : decode cX6_setUpFirst 7 = .ok (.iload_n 2, 1) := by decide +kernel
theorem dX6_setUpFirst_8 : decode cX6_setUpFirst 8 = .ok (.invokevirtual 69, 3) := by decide +kernel
theorem dX6_setUpFirst_11 : decode cX6_setUpFirst 11 = .ok (.istore 4, 2) := by decide +kernel
theorem dX6_setUpFirst_13 : decode cX6_setUpFirst 13 = .ok (.iconst 0, 1) := by decide +kernel
theorem dX6_setUpFirst_14 : decode cX6_setUpFirst 14 = .ok (.istore 5, 2) := by decide +kernel
theorem dX6_setUpFirst_16 : decode cX6_setUpFirst 16 = .ok (.iload 5, 2) := by decide +kernel
theorem dX6_setUpFirst_18 : decode cX6_setUpFirst 18 = .ok (.aload_n 0, 1) := by decide +kernel
theorem dX6_setUpFirst_19 : decode cX6_setUpFirst 19 = .ok (.getfield 18, 3) := by decide +kernel
theorem dX6_setUpFirst_22 : decode cX6_setUpFirst 22 = .ok (.if_icmp .ge 54, 3) := by decide +kernel
theorem dX6_setUpFirst_25 : decode cX6_setUpFirst 25 = .ok (.aload_n 0, 1) := by decide +kernel
theorem dX6_setUpFirst_26 : decode cX6_setUpFirst 26 = .ok (.getfield 39, 3) := by decide +kernel
theorem dX6_setUpFirst_29 : decode cX6_setUpFirst 29 = .ok (.iload_n 3, 1) := by decide +kernel
theorem dX6_setUpFirst_30 : decode cX6_setUpFirst 30 = .ok (.aaload, 1) := by decide +kernel
theorem dX6_setUpFirst_31 : decode cX6_setUpFirst 31 = .ok (.iload 5, 2) := by decide +kernel
theorem dX6_setUpFirst_33 : decode cX6_setUpFirst 33 = .ok (.iaload, 1) := by decide +kernel
theorem dX6_setUpFirst_34 : decode cX6_setUpFirst 34 = .ok (.bipush (-9), 2) := by decide +kernel
theorem dX6_setUpFirst_36 : decode cX6_setUpFirst 36 = .ok (.if_icmp .ne 34, 3) := by decide +kernel
theorem dX6_setUpFirst_39 : decode cX6_setUpFirst 39 = .ok (.aload_n 0, 1) := by decide +kernel
theorem dX6_setUpFirst_40 : decode cX6_setUpFirst 40 = .ok (.getfield 42, 3) := by decide +kernel
theorem dX6_setUpFirst_43 : decode cX6_setUpFirst 43 = .ok (.iload 4, 2) := by decide +kernel
theorem dX6_setUpFirst_45 : decode cX6_setUpFirst 45 = .ok (.aaload, 1) := by decide +kernel
theorem dX6_setUpFirst_46 : decode cX6_setUpFirst 46 = .ok (.iload 5, 2) := by decide +kernel
theorem dX6_setUpFirst_48 : decode cX6_setUpFirst 48 = .ok (.iaload, 1) := by decide +kernel
theorem dX6_setUpFirst_49 : decode cX6_setUpFirst 49 = .ok (.bipush (-9), 2) := by decide +kernel
theorem dX6_setUpFirst_51 : decode cX6_setUpFirst 51 = .ok (.if_icmp .ne 19, 3) := by decide +kernel
theorem dX6_setUpFirst_54 : decode cX6_setUpFirst 54 = .ok (.aload_n 0, 1) := by decide +kernel
theorem dX6_setUpFirst_55 : decode cX6_setUpFirst 55 = .ok (.iload_n 1, 1) := by decide +kernel
theorem dX6_setUpFirst_56 : decode cX6_setUpFirst 56 = .ok (.iload_n 2, 1) := by decide +kernel
theorem dX6_setUpFirst_57 : decode cX6_setUpFirst 57 = .ok (.invokevirtual 73, 3) := by decide +kernel
theorem dX6_setUpFirst_60 : decode cX6_setUpFirst 60 = .ok (.aload_n 0, 1) := by decide +kernel
theorem dX6_setUpFirst_61 : decode cX6_setUpFirst 61 = .ok (.iload_n 1, 1) := by decide +kernel
theorem dX6_setUpFirst_62 : decode cX6_setUpFirst 62 = .ok (.iload 5, 2) := by decide +kernel
theorem dX6_setUpFirst_64 : decode cX6_setUpFirst 64 = .ok (.invokevirtual 77, 3) := by decide +kernel
theorem dX6_setUpFirst_67 : decode cX6_setUpFirst 67 = .ok (.iload 5, 2) := by decide +kernel
theorem dX6_setUpFirst_69 : decode cX6_setUpFirst 69 = .ok (.ireturn, 1) := by decide +kernel
theorem dX6_setUpFirst_70 : decode cX6_setUpFirst 70 = .ok (.iinc 5 1, 3) := by decide +kernel
theorem dX6_setUpFirst_73 : decode cX6_setUpFirst 73 = .ok (.goto (-57), 3) := by decide +kernel
theorem dX6_setUpFirst_76 : decode cX6_setUpFirst 76 = .ok (.bipush (-9), 2) := by decide +kernel
theorem dX6_setUpFirst_78 : decode cX6_setUpFirst 78 = .ok (.ireturn, 1) := by decide +kernel
theorem dX6_setUpMended_0 : decode cX6_setUpMended 0 = .ok (.aload_n 0, 1) := by decide +kernel
theorem dX6_setUpMended_1 : decode cX6_setUpMended 1 = .ok (.iload_n 1, 1) := by decide +kernel
theorem dX6_setUpMended_2 : decode cX6_setUpMended 2 = .ok (.iload_n 2, 1) := by decide +kernel
theorem dX6_setUpMended_3 : decode cX6_setUpMended 3 = .ok (.invokevirtual 80, 3) := by decide +kernel
theorem dX6_setUpMended_6 : decode cX6_setUpMended 6 = .ok (.istore_n 3, 1) := by decide +kernel
theorem dX6_setUpMended_7 : decode cX6_setUpMended 7 = .ok (.iload_n 3, 1) := by decide +kernel
theorem dX6_setUpMended_8 : decode cX6_setUpMended 8 = .ok (.bipush (-9), 2) := by decide +kernel
theorem dX6_setUpMended_10 : decode cX6_setUpMended 10 = .ok (.if_icmp .ne 6, 3) := by decide +kernel
theorem dX6_setUpMended_13 : decode cX6_setUpMended 13 = .ok (.bipush (-9), 2) := by decide +kernel
theorem dX6_setUpMended_15 : decode cX6_setUpMended 15 = .ok (.ireturn, 1) := by decide +kernel
theorem dX6_setUpMended_16 : decode cX6_setUpMended 16 = .ok (.aload_n 0, 1) := by decide +kernel
theorem dX6_setUpMended_17 : decode cX6_setUpMended 17 = .ok (.iload_n 1, 1) := by decide +kernel
theorem dX6_setUpMended_18 : decode cX6_setUpMended 18 = .ok (.iload_n 2, 1) := by decide +kernel
theorem dX6_setUpMended_19 : decode cX6_setUpMended 19 = .ok (.invokevirtual 73, 3) := by decide +kernel
theorem dX6_setUpMended_22 : decode cX6_setUpMended 22 = .ok (.aload_n 0, 1) := by decide +kernel
theorem dX6_setUpMended_23 : decode cX6_setUpMended 23 = .ok (.iload_n 1, 1) := by decide +kernel
theorem dX6_setUpMended_24 : decode cX6_setUpMended 24 = .ok (.invokevirtual 84, 3) := by decide +kernel
theorem dX6_setUpMended_27 : decode cX6_setUpMended 27 = .ok (.iload_n 3, 1) := by decide +kernel
theorem dX6_setUpMended_28 : decode cX6_setUpMended 28 = .ok (.ireturn, 1) := by decide +kernel
theorem dX6_fewestMoves_0 : decode cX6_fewestMoves 0 = .ok (.aload_n 0, 1) := by decide +kernel
theorem dX6_fewestMoves_1 : decode cX6_fewestMoves 1 = .ok (.iload_n 1, 1) := by decide +kernel
theorem dX6_fewestMoves_2 : decode cX6_fewestMoves 2 = .ok (.invokevirtual 69, 3) := by decide +kernel
theorem dX6_fewestMoves_5 : decode cX6_fewestMoves 5 = .ok (.istore_n 3, 1) := by decide +kernel
theorem dX6_fewestMoves_6 : decode cX6_fewestMoves 6 = .ok (.aload_n 0, 1) := by decide +kernel
theorem dX6_fewestMoves_7 : decode cX6_fewestMoves 7 = .ok (.iload_n 2, 1) := by decide +kernel
theorem dX6_fewestMoves_8 : decode cX6_fewestMoves 8 = .ok (.invokevirtual 69, 3) := by decide +kernel
theorem dX6_fewestMoves_11 : decode cX6_fewestMoves 11 = .ok (.istore 4, 2) := by decide +kernel
theorem dX6_fewestMoves_13 : decode cX6_fewestMoves 13 = .ok (.bipush (-9), 2) := by decide +kernel
theorem dX6_fewestMoves_15 : decode cX6_fewestMoves 15 = .ok (.istore 5, 2) := by decide +kernel
theorem dX6_fewestMoves_17 : decode cX6_fewestMoves 17 = .ok (.iconst 0, 1) := by decide +kernel
theorem dX6_fewestMoves_18 : decode cX6_fewestMoves 18 = .ok (.istore 6, 2) := by decide +kernel
theorem dX6_fewestMoves_20 : decode cX6_fewestMoves 20 = .ok (.iload 6, 2) := by decide +kernel
theorem dX6_fewestMoves_22 : decode cX6_fewestMoves 22 = .ok (.aload_n 0, 1) := by decide +kernel
theorem dX6_fewestMoves_23 : decode cX6_fewestMoves 23 = .ok (.getfield 18, 3) := by decide +kernel
theorem dX6_fewestMoves_26 : decode cX6_fewestMoves 26 = .ok (.if_icmp .ge 101, 3) := by decide +kernel
theorem dX6_fewestMoves_29 : decode cX6_fewestMoves 29 = .ok (.iconst 0, 1) := by decide +kernel
theorem dX6_fewestMoves_30 : decode cX6_fewestMoves 30 = .ok (.istore 7, 2) := by decide +kernel
theorem dX6_fewestMoves_32 : decode cX6_fewestMoves 32 = .ok (.iload 7, 2) := by decide +kernel
theorem dX6_fewestMoves_34 : decode cX6_fewestMoves 34 = .ok (.aload_n 0, 1) := by decide +kernel
theorem dX6_fewestMoves_35 : decode cX6_fewestMoves 35 = .ok (.getfield 18, 3) := by decide +kernel
theorem dX6_fewestMoves_38 : decode cX6_fewestMoves 38 = .ok (.if_icmp .ge 83, 3) := by decide +kernel
theorem dX6_fewestMoves_41 : decode cX6_fewestMoves 41 = .ok (.aload_n 0, 1) := by decide +kernel
theorem dX6_fewestMoves_42 : decode cX6_fewestMoves 42 = .ok (.getfield 39, 3) := by decide +kernel
theorem dX6_fewestMoves_45 : decode cX6_fewestMoves 45 = .ok (.iload_n 3, 1) := by decide +kernel
theorem dX6_fewestMoves_46 : decode cX6_fewestMoves 46 = .ok (.aaload, 1) := by decide +kernel
theorem dX6_fewestMoves_47 : decode cX6_fewestMoves 47 = .ok (.iload 6, 2) := by decide +kernel
theorem dX6_fewestMoves_49 : decode cX6_fewestMoves 49 = .ok (.iaload, 1) := by decide +kernel
theorem dX6_fewestMoves_50 : decode cX6_fewestMoves 50 = .ok (.bipush (-9), 2) := by decide +kernel
theorem dX6_fewestMoves_52 : decode cX6_fewestMoves 52 = .ok (.if_icmp .ne 63, 3) := by decide +kernel
theorem dX6_fewestMoves_55 : decode cX6_fewestMoves 55 = .ok (.aload_n 0, 1) := by decide +kernel
theorem dX6_fewestMoves_56 : decode cX6_fewestMoves 56 = .ok (.getfield 42, 3) := by decide +kernel
theorem dX6_fewestMoves_59 : decode cX6_fewestMoves 59 = .ok (.iload 4, 2) := by decide +kernel
theorem dX6_fewestMoves_61 : decode cX6_fewestMoves 61 = .ok (.aaload, 1) := by decide +kernel
theorem dX6_fewestMoves_62 : decode cX6_fewestMoves 62 = .ok (.iload 7, 2) := by decide +kernel
theorem dX6_fewestMoves_64 : decode cX6_fewestMoves 64 = .ok (.iaload, 1) := by decide +kernel
theorem dX6_fewestMoves_65 : decode cX6_fewestMoves 65 = .ok (.bipush (-9), 2) := by decide +kernel
theorem dX6_fewestMoves_67 : decode cX6_fewestMoves 67 = .ok (.if_icmp .eq 6, 3) := by decide +kernel
theorem dX6_fewestMoves_70 : decode cX6_fewestMoves 70 = .ok (.goto 45, 3) := by decide +kernel
theorem dX6_fewestMoves_73 : decode cX6_fewestMoves 73 = .ok (.aload_n 0, 1) := by decide +kernel
theorem dX6_fewestMoves_74 : decode cX6_fewestMoves 74 = .ok (.iload 4, 2) := by decide +kernel
theorem dX6_fewestMoves_76 : decode cX6_fewestMoves 76 = .ok (.iload 6, 2) := by decide +kernel
theorem dX6_fewestMoves_78 : decode cX6_fewestMoves 78 = .ok (.iload 7, 2) := by decide +kernel
theorem dX6_fewestMoves_80 : decode cX6_fewestMoves 80 = .ok (.invokevirtual 88, 3) := by decide +kernel
theorem dX6_fewestMoves_83 : decode cX6_fewestMoves 83 = .ok (.istore 8, 2) := by decide +kernel
theorem dX6_fewestMoves_85 : decode cX6_fewestMoves 85 = .ok (.iload 5, 2) := by decide +kernel
theorem dX6_fewestMoves_87 : decode cX6_fewestMoves 87 = .ok (.bipush (-9), 2) := by decide +kernel
theorem dX6_fewestMoves_89 : decode cX6_fewestMoves 89 = .ok (.if_icmp .eq 10, 3) := by decide +kernel
theorem dX6_fewestMoves_92 : decode cX6_fewestMoves 92 = .ok (.iload 8, 2) := by decide +kernel
theorem dX6_fewestMoves_94 : decode cX6_fewestMoves 94 = .ok (.iload 5, 2) := by decide +kernel
theorem dX6_fewestMoves_96 : decode cX6_fewestMoves 96 = .ok (.if_icmp .ge 19, 3) := by decide +kernel
theorem dX6_fewestMoves_99 : decode cX6_fewestMoves 99 = .ok (.iload 8, 2) := by decide +kernel
theorem dX6_fewestMoves_101 : decode cX6_fewestMoves 101 = .ok (.istore 5, 2) := by decide +kernel
theorem dX6_fewestMoves_103 : decode cX6_fewestMoves 103 = .ok (.aload_n 0, 1) := by decide +kernel
theorem dX6_fewestMoves_104 : decode cX6_fewestMoves 104 = .ok (.iload 6, 2) := by decide +kernel
theorem dX6_fewestMoves_106 : decode cX6_fewestMoves 106 = .ok (.putfield 48, 3) := by decide +kernel
theorem dX6_fewestMoves_109 : decode cX6_fewestMoves 109 = .ok (.aload_n 0, 1) := by decide +kernel
theorem dX6_fewestMoves_110 : decode cX6_fewestMoves 110 = .ok (.iload 7, 2) := by decide +kernel
theorem dX6_fewestMoves_112 : decode cX6_fewestMoves 112 = .ok (.putfield 51, 3) := by decide +kernel
theorem dX6_fewestMoves_115 : decode cX6_fewestMoves 115 = .ok (.iinc 7 1, 3) := by decide +kernel
theorem dX6_fewestMoves_118 : decode cX6_fewestMoves 118 = .ok (.goto (-86), 3) := by decide +kernel
theorem dX6_fewestMoves_121 : decode cX6_fewestMoves 121 = .ok (.iinc 6 1, 3) := by decide +kernel
theorem dX6_fewestMoves_124 : decode cX6_fewestMoves 124 = .ok (.goto (-104), 3) := by decide +kernel
theorem dX6_fewestMoves_127 : decode cX6_fewestMoves 127 = .ok (.iload 5, 2) := by decide +kernel
theorem dX6_fewestMoves_129 : decode cX6_fewestMoves 129 = .ok (.ireturn, 1) := by decide +kernel
theorem dX6_takeOff_0 : decode cX6_takeOff 0 = .ok (.aload_n 0, 1) := by decide +kernel
theorem dX6_takeOff_1 : decode cX6_takeOff 1 = .ok (.getfield 31, 3) := by decide +kernel
theorem dX6_takeOff_4 : decode cX6_takeOff 4 = .ok (.iload_n 1, 1) := by decide +kernel
theorem dX6_takeOff_5 : decode cX6_takeOff 5 = .ok (.iaload, 1) := by decide +kernel
theorem dX6_takeOff_6 : decode cX6_takeOff 6 = .ok (.istore_n 2, 1) := by decide +kernel
theorem dX6_takeOff_7 : decode cX6_takeOff 7 = .ok (.aload_n 0, 1) := by decide +kernel
theorem dX6_takeOff_8 : decode cX6_takeOff 8 = .ok (.iload_n 1, 1) := by decide +kernel
theorem dX6_takeOff_9 : decode cX6_takeOff 9 = .ok (.invokevirtual 92, 3) := by decide +kernel
theorem dX6_takeOff_12 : decode cX6_takeOff 12 = .ok (.aload_n 0, 1) := by decide +kernel
theorem dX6_takeOff_13 : decode cX6_takeOff 13 = .ok (.getfield 28, 3) := by decide +kernel
theorem dX6_takeOff_16 : decode cX6_takeOff 16 = .ok (.aload_n 0, 1) := by decide +kernel
theorem dX6_takeOff_17 : decode cX6_takeOff 17 = .ok (.getfield 24, 3) := by decide +kernel
theorem dX6_takeOff_20 : decode cX6_takeOff 20 = .ok (.iload_n 1, 1) := by decide +kernel
theorem dX6_takeOff_21 : decode cX6_takeOff 21 = .ok (.iaload, 1) := by decide +kernel
theorem dX6_takeOff_22 : decode cX6_takeOff 22 = .ok (.bipush (-9), 2) := by decide +kernel
theorem dX6_takeOff_24 : decode cX6_takeOff 24 = .ok (.iastore, 1) := by decide +kernel
theorem dX6_takeOff_25 : decode cX6_takeOff 25 = .ok (.aload_n 0, 1) := by decide +kernel
theorem dX6_takeOff_26 : decode cX6_takeOff 26 = .ok (.getfield 24, 3) := by decide +kernel
theorem dX6_takeOff_29 : decode cX6_takeOff 29 = .ok (.iload_n 1, 1) := by decide +kernel
theorem dX6_takeOff_30 : decode cX6_takeOff 30 = .ok (.bipush (-9), 2) := by decide +kernel
theorem dX6_takeOff_32 : decode cX6_takeOff 32 = .ok (.iastore, 1) := by decide +kernel
theorem dX6_takeOff_33 : decode cX6_takeOff 33 = .ok (.aload_n 0, 1) := by decide +kernel
theorem dX6_takeOff_34 : decode cX6_takeOff 34 = .ok (.dup, 1) := by decide +kernel
theorem dX6_takeOff_35 : decode cX6_takeOff 35 = .ok (.getfield 21, 3) := by decide +kernel
theorem dX6_takeOff_38 : decode cX6_takeOff 38 = .ok (.iconst 1, 1) := by decide +kernel
theorem dX6_takeOff_39 : decode cX6_takeOff 39 = .ok (.isub, 1) := by decide +kernel
theorem dX6_takeOff_40 : decode cX6_takeOff 40 = .ok (.putfield 21, 3) := by decide +kernel
theorem dX6_takeOff_43 : decode cX6_takeOff 43 = .ok (.iload_n 2, 1) := by decide +kernel
theorem dX6_takeOff_44 : decode cX6_takeOff 44 = .ok (.ireturn, 1) := by decide +kernel
theorem dX6_layAllAnew_0 : decode cX6_layAllAnew 0 = .ok (.aload_n 0, 1) := by decide +kernel
theorem dX6_layAllAnew_1 : decode cX6_layAllAnew 1 = .ok (.getfield 31, 3) := by decide +kernel
theorem dX6_layAllAnew_4 : decode cX6_layAllAnew 4 = .ok (.iconst 0, 1) := by decide +kernel
theorem dX6_layAllAnew_5 : decode cX6_layAllAnew 5 = .ok (.aload_n 0, 1) := by decide +kernel
theorem dX6_layAllAnew_6 : decode cX6_layAllAnew 6 = .ok (.getfield 34, 3) := by decide +kernel
theorem dX6_layAllAnew_9 : decode cX6_layAllAnew 9 = .ok (.iconst 0, 1) := by decide +kernel
theorem dX6_layAllAnew_10 : decode cX6_layAllAnew 10 = .ok (.bipush 20, 2) := by decide +kernel
theorem dX6_layAllAnew_12 : decode cX6_layAllAnew 12 = .ok (.invokestatic 95, 3) := by decide +kernel
theorem dX6_layAllAnew_15 : decode cX6_layAllAnew 15 = .ok (.aload_n 0, 1) := by decide +kernel
theorem dX6_layAllAnew_16 : decode cX6_layAllAnew 16 = .ok (.invokevirtual 101, 3) := by decide +kernel
theorem dX6_layAllAnew_19 : decode cX6_layAllAnew 19 = .ok (.iconst 0, 1) := by decide +kernel
theorem dX6_layAllAnew_20 : decode cX6_layAllAnew 20 = .ok (.istore_n 1, 1) := by decide +kernel
theorem dX6_layAllAnew_21 : decode cX6_layAllAnew 21 = .ok (.iload_n 1, 1) := by decide +kernel
theorem dX6_layAllAnew_22 : decode cX6_layAllAnew 22 = .ok (.aload_n 0, 1) := by decide +kernel
theorem dX6_layAllAnew_23 : decode cX6_layAllAnew 23 = .ok (.invokevirtual 57, 3) := by decide +kernel
theorem dX6_layAllAnew_26 : decode cX6_layAllAnew 26 = .ok (.if_icmp .ge 35, 3) := by decide +kernel
theorem dX6_layAllAnew_29 : decode cX6_layAllAnew 29 = .ok (.aload_n 0, 1) := by decide +kernel
theorem dX6_layAllAnew_30 : decode cX6_layAllAnew 30 = .ok (.getfield 24, 3) := by decide +kernel
theorem dX6_layAllAnew_33 : decode cX6_layAllAnew 33 = .ok (.iload_n 1, 1) := by decide +kernel
theorem dX6_layAllAnew_34 : decode cX6_layAllAnew 34 = .ok (.iaload, 1) := by decide +kernel
theorem dX6_layAllAnew_35 : decode cX6_layAllAnew 35 = .ok (.bipush (-9), 2) := by decide +kernel
theorem dX6_layAllAnew_37 : decode cX6_layAllAnew 37 = .ok (.if_icmp .eq 18, 3) := by decide +kernel
theorem dX6_layAllAnew_40 : decode cX6_layAllAnew 40 = .ok (.aload_n 0, 1) := by decide +kernel
theorem dX6_layAllAnew_41 : decode cX6_layAllAnew 41 = .ok (.iload_n 1, 1) := by decide +kernel
theorem dX6_layAllAnew_42 : decode cX6_layAllAnew 42 = .ok (.invokevirtual 104, 3) := by decide +kernel
theorem dX6_layAllAnew_45 : decode cX6_layAllAnew 45 = .ok (.ifCond .ne 10, 3) := by decide +kernel
theorem dX6_layAllAnew_48 : decode cX6_layAllAnew 48 = .ok (.aload_n 0, 1) := by decide +kernel
theorem dX6_layAllAnew_49 : decode cX6_layAllAnew 49 = .ok (.invokevirtual 107, 3) := by decide +kernel
theorem dX6_layAllAnew_52 : decode cX6_layAllAnew 52 = .ok (.bipush (-3), 2) := by decide +kernel
theorem dX6_layAllAnew_54 : decode cX6_layAllAnew 54 = .ok (.ireturn, 1) := by decide +kernel
theorem dX6_layAllAnew_55 : decode cX6_layAllAnew 55 = .ok (.iinc 1 1, 3) := by decide +kernel
theorem dX6_layAllAnew_58 : decode cX6_layAllAnew 58 = .ok (.goto (-37), 3) := by decide +kernel
theorem dX6_layAllAnew_61 : decode cX6_layAllAnew 61 = .ok (.iconst 0, 1) := by decide +kernel
theorem dX6_layAllAnew_62 : decode cX6_layAllAnew 62 = .ok (.istore_n 1, 1) := by decide +kernel
theorem dX6_layAllAnew_63 : decode cX6_layAllAnew 63 = .ok (.iconst 0, 1) := by decide +kernel
theorem dX6_layAllAnew_64 : decode cX6_layAllAnew 64 = .ok (.istore_n 2, 1) := by decide +kernel
theorem dX6_layAllAnew_65 : decode cX6_layAllAnew 65 = .ok (.iload_n 2, 1) := by decide +kernel
theorem dX6_layAllAnew_66 : decode cX6_layAllAnew 66 = .ok (.aload_n 0, 1) := by decide +kernel
theorem dX6_layAllAnew_67 : decode cX6_layAllAnew 67 = .ok (.invokevirtual 57, 3) := by decide +kernel
theorem dX6_layAllAnew_70 : decode cX6_layAllAnew 70 = .ok (.if_icmp .ge 27, 3) := by decide +kernel
theorem dX6_layAllAnew_73 : decode cX6_layAllAnew 73 = .ok (.aload_n 0, 1) := by decide +kernel
theorem dX6_layAllAnew_74 : decode cX6_layAllAnew 74 = .ok (.getfield 31, 3) := by decide +kernel
theorem dX6_layAllAnew_77 : decode cX6_layAllAnew 77 = .ok (.iload_n 2, 1) := by decide +kernel
theorem dX6_layAllAnew_78 : decode cX6_layAllAnew 78 = .ok (.iaload, 1) := by decide +kernel
theorem dX6_layAllAnew_79 : decode cX6_layAllAnew 79 = .ok (.aload_n 0, 1) := by decide +kernel
theorem dX6_layAllAnew_80 : decode cX6_layAllAnew 80 = .ok (.getfield 34, 3) := by decide +kernel
theorem dX6_layAllAnew_83 : decode cX6_layAllAnew 83 = .ok (.iload_n 2, 1) := by decide +kernel
theorem dX6_layAllAnew_84 : decode cX6_layAllAnew 84 = .ok (.iaload, 1) := by decide +kernel
theorem dX6_layAllAnew_85 : decode cX6_layAllAnew 85 = .ok (.if_icmp .eq 6, 3) := by decide +kernel
theorem dX6_layAllAnew_88 : decode cX6_layAllAnew 88 = .ok (.iinc 1 1, 3) := by decide +kernel
theorem dX6_layAllAnew_91 : decode cX6_layAllAnew 91 = .ok (.iinc 2 1, 3) := by decide +kernel
theorem dX6_layAllAnew_94 : decode cX6_layAllAnew 94 = .ok (.goto (-29), 3) := by decide +kernel
theorem dX6_layAllAnew_97 : decode cX6_layAllAnew 97 = .ok (.iload_n 1, 1) := by decide +kernel
theorem dX6_layAllAnew_98 : decode cX6_layAllAnew 98 = .ok (.ireturn, 1) := by decide +kernel
theorem dX6_takenLinks_0 : decode cX6_takenLinks 0 = .ok (.iconst 0, 1) := by decide +kernel
theorem dX6_takenLinks_1 : decode cX6_takenLinks 1 = .ok (.istore_n 3, 1) := by decide +kernel
theorem dX6_takenLinks_2 : decode cX6_takenLinks 2 = .ok (.iconst 0, 1) := by decide +kernel
theorem dX6_takenLinks_3 : decode cX6_takenLinks 3 = .ok (.istore 4, 2) := by decide +kernel
theorem dX6_takenLinks_5 : decode cX6_takenLinks 5 = .ok (.iload 4, 2) := by decide +kernel
theorem dX6_takenLinks_7 : decode cX6_takenLinks 7 = .ok (.aload_n 0, 1) := by decide +kernel
theorem dX6_takenLinks_8 : decode cX6_takenLinks 8 = .ok (.getfield 9, 3) := by decide +kernel
theorem dX6_takenLinks_11 : decode cX6_takenLinks 11 = .ok (.if_icmp .ge 50, 3) := by decide +kernel
theorem dX6_takenLinks_14 : decode cX6_takenLinks 14 = .ok (.iload_n 2, 1) := by decide +kernel
theorem dX6_takenLinks_15 : decode cX6_takenLinks 15 = .ok (.ifCond .ne 15, 3) := by decide +kernel
theorem dX6_takenLinks_18 : decode cX6_takenLinks 18 = .ok (.aload_n 0, 1) := by decide +kernel
theorem dX6_takenLinks_19 : decode cX6_takenLinks 19 = .ok (.getfield 39, 3) := by decide +kernel
theorem dX6_takenLinks_22 : decode cX6_takenLinks 22 = .ok (.iload 4, 2) := by decide +kernel
theorem dX6_takenLinks_24 : decode cX6_takenLinks 24 = .ok (.aaload, 1) := by decide +kernel
theorem dX6_takenLinks_25 : decode cX6_takenLinks 25 = .ok (.iload_n 1, 1) := by decide +kernel
theorem dX6_takenLinks_26 : decode cX6_takenLinks 26 = .ok (.iaload, 1) := by decide +kernel
theorem dX6_takenLinks_27 : decode cX6_takenLinks 27 = .ok (.goto 12, 3) := by decide +kernel
theorem dX6_takenLinks_30 : decode cX6_takenLinks 30 = .ok (.aload_n 0, 1) := by decide +kernel
theorem dX6_takenLinks_31 : decode cX6_takenLinks 31 = .ok (.getfield 42, 3) := by decide +kernel
theorem dX6_takenLinks_34 : decode cX6_takenLinks 34 = .ok (.iload 4, 2) := by decide +kernel
theorem dX6_takenLinks_36 : decode cX6_takenLinks 36 = .ok (.aaload, 1) := by decide +kernel
theorem dX6_takenLinks_37 : decode cX6_takenLinks 37 = .ok (.iload_n 1, 1) := by decide +kernel
theorem dX6_takenLinks_38 : decode cX6_takenLinks 38 = .ok (.iaload, 1) := by decide +kernel
theorem dX6_takenLinks_39 : decode cX6_takenLinks 39 = .ok (.istore 5, 2) := by decide +kernel
theorem dX6_takenLinks_41 : decode cX6_takenLinks 41 = .ok (.iload 5, 2) := by decide +kernel
theorem dX6_takenLinks_43 : decode cX6_takenLinks 43 = .ok (.bipush (-9), 2) := by decide +kernel
theorem dX6_takenLinks_45 : decode cX6_takenLinks 45 = .ok (.if_icmp .eq 10, 3) := by decide +kernel
theorem dX6_takenLinks_48 : decode cX6_takenLinks 48 = .ok (.iload_n 3, 1) := by decide +kernel
theorem dX6_takenLinks_49 : decode cX6_takenLinks 49 = .ok (.iconst 1, 1) := by decide +kernel
theorem dX6_takenLinks_50 : decode cX6_takenLinks 50 = .ok (.iload 4, 2) := by decide +kernel
theorem dX6_takenLinks_52 : decode cX6_takenLinks 52 = .ok (.ishl, 1) := by decide +kernel
theorem dX6_takenLinks_53 : decode cX6_takenLinks 53 = .ok (.ior, 1) := by decide +kernel
theorem dX6_takenLinks_54 : decode cX6_takenLinks 54 = .ok (.istore_n 3, 1) := by decide +kernel
theorem dX6_takenLinks_55 : decode cX6_takenLinks 55 = .ok (.iinc 4 1, 3) := by decide +kernel
theorem dX6_takenLinks_58 : decode cX6_takenLinks 58 = .ok (.goto (-53), 3) := by decide +kernel
theorem dX6_takenLinks_61 : decode cX6_takenLinks 61 = .ok (.iload_n 3, 1) := by decide +kernel
theorem dX6_takenLinks_62 : decode cX6_takenLinks 62 = .ok (.ireturn, 1) := by decide +kernel
theorem dX6_shareLost_0 : decode cX6_shareLost 0 = .ok (.iload_n 2, 1) := by decide +kernel
theorem dX6_shareLost_1 : decode cX6_shareLost 1 = .ok (.i2l, 1) := by decide +kernel
theorem dX6_shareLost_2 : decode cX6_shareLost 2 = .ok (.iload_n 2, 1) := by decide +kernel
theorem dX6_shareLost_3 : decode cX6_shareLost 3 = .ok (.i2l, 1) := by decide +kernel
theorem dX6_shareLost_4 : decode cX6_shareLost 4 = .ok (.lmul, 1) := by decide +kernel
theorem dX6_shareLost_5 : decode cX6_shareLost 5 = .ok (.lstore 4, 2) := by decide +kernel
theorem dX6_shareLost_7 : decode cX6_shareLost 7 = .ok (.lload 4, 2) := by decide +kernel
theorem dX6_shareLost_9 : decode cX6_shareLost 9 = .ok (.iload_n 2, 1) := by decide +kernel
theorem dX6_shareLost_10 : decode cX6_shareLost 10 = .ok (.iload_n 1, 1) := by decide +kernel
theorem dX6_shareLost_11 : decode cX6_shareLost 11 = .ok (.isub, 1) := by decide +kernel
theorem dX6_shareLost_12 : decode cX6_shareLost 12 = .ok (.i2l, 1) := by decide +kernel
theorem dX6_shareLost_13 : decode cX6_shareLost 13 = .ok (.iload_n 2, 1) := by decide +kernel
theorem dX6_shareLost_14 : decode cX6_shareLost 14 = .ok (.iload_n 1, 1) := by decide +kernel
theorem dX6_shareLost_15 : decode cX6_shareLost 15 = .ok (.isub, 1) := by decide +kernel
theorem dX6_shareLost_16 : decode cX6_shareLost 16 = .ok (.i2l, 1) := by decide +kernel
theorem dX6_shareLost_17 : decode cX6_shareLost 17 = .ok (.lmul, 1) := by decide +kernel
theorem dX6_shareLost_18 : decode cX6_shareLost 18 = .ok (.lsub, 1) := by decide +kernel
theorem dX6_shareLost_19 : decode cX6_shareLost 19 = .ok (.lstore 6, 2) := by decide +kernel
theorem dX6_shareLost_21 : decode cX6_shareLost 21 = .ok (.lload 6, 2) := by decide +kernel
theorem dX6_shareLost_23 : decode cX6_shareLost 23 = .ok (.lload 4, 2) := by decide +kernel
theorem dX6_shareLost_25 : decode cX6_shareLost 25 = .ok (.invokestatic 110, 3) := by decide +kernel
theorem dX6_shareLost_28 : decode cX6_shareLost 28 = .ok (.lstore 8, 2) := by decide +kernel
theorem dX6_shareLost_30 : decode cX6_shareLost 30 = .ok (.lload 8, 2) := by decide +kernel
theorem dX6_shareLost_32 : decode cX6_shareLost 32 = .ok (.lconst 1, 1) := by decide +kernel
theorem dX6_shareLost_33 : decode cX6_shareLost 33 = .ok (.lcmp, 1) := by decide +kernel
theorem dX6_shareLost_34 : decode cX6_shareLost 34 = .ok (.ifCond .le 17, 3) := by decide +kernel
theorem dX6_shareLost_37 : decode cX6_shareLost 37 = .ok (.lload 6, 2) := by decide +kernel
theorem dX6_shareLost_39 : decode cX6_shareLost 39 = .ok (.lload 8, 2) := by decide +kernel
theorem dX6_shareLost_41 : decode cX6_shareLost 41 = .ok (.ldiv, 1) := by decide +kernel
theorem dX6_shareLost_42 : decode cX6_shareLost 42 = .ok (.lstore 6, 2) := by decide +kernel
theorem dX6_shareLost_44 : decode cX6_shareLost 44 = .ok (.lload 4, 2) := by decide +kernel
theorem dX6_shareLost_46 : decode cX6_shareLost 46 = .ok (.lload 8, 2) := by decide +kernel
theorem dX6_shareLost_48 : decode cX6_shareLost 48 = .ok (.ldiv, 1) := by decide +kernel
theorem dX6_shareLost_49 : decode cX6_shareLost 49 = .ok (.lstore 4, 2) := by decide +kernel
theorem dX6_shareLost_51 : decode cX6_shareLost 51 = .ok (.iload_n 3, 1) := by decide +kernel
theorem dX6_shareLost_52 : decode cX6_shareLost 52 = .ok (.ifCond .ne 8, 3) := by decide +kernel
theorem dX6_shareLost_55 : decode cX6_shareLost 55 = .ok (.lload 6, 2) := by decide +kernel
theorem dX6_shareLost_57 : decode cX6_shareLost 57 = .ok (.goto 5, 3) := by decide +kernel
theorem dX6_shareLost_60 : decode cX6_shareLost 60 = .ok (.lload 4, 2) := by decide +kernel
theorem dX6_shareLost_62 : decode cX6_shareLost 62 = .ok (.lstore 10, 2) := by decide +kernel
theorem dX6_shareLost_64 : decode cX6_shareLost 64 = .ok (.lconst 1, 1) := by decide +kernel
theorem dX6_shareLost_65 : decode cX6_shareLost 65 = .ok (.lstore 12, 2) := by decide +kernel
theorem dX6_shareLost_67 : decode cX6_shareLost 67 = .ok (.iconst 0, 1) := by decide +kernel
theorem dX6_shareLost_68 : decode cX6_shareLost 68 = .ok (.istore 14, 2) := by decide +kernel
theorem dX6_shareLost_70 : decode cX6_shareLost 70 = .ok (.iload 14, 2) := by decide +kernel
theorem dX6_shareLost_72 : decode cX6_shareLost 72 = .ok (.aload_n 0, 1) := by decide +kernel
theorem dX6_shareLost_73 : decode cX6_shareLost 73 = .ok (.getfield 18, 3) := by decide +kernel
theorem dX6_shareLost_76 : decode cX6_shareLost 76 = .ok (.if_icmp .ge 16, 3) := by decide +kernel
theorem dX6_shareLost_79 : decode cX6_shareLost 79 = .ok (.lload 12, 2) := by decide +kernel
theorem dX6_shareLost_81 : decode cX6_shareLost 81 = .ok (.lload 10, 2) := by decide +kernel
theorem dX6_shareLost_83 : decode cX6_shareLost 83 = .ok (.lmul, 1) := by decide +kernel
theorem dX6_shareLost_84 : decode cX6_shareLost 84 = .ok (.lstore 12, 2) := by decide +kernel
theorem dX6_shareLost_86 : decode cX6_shareLost 86 = .ok (.iinc 14 1, 3) := by decide +kernel
theorem dX6_shareLost_89 : decode cX6_shareLost 89 = .ok (.goto (-19), 3) := by decide +kernel
theorem dX6_shareLost_92 : decode cX6_shareLost 92 = .ok (.lload 12, 2) := by decide +kernel
theorem dX6_shareLost_94 : decode cX6_shareLost 94 = .ok (.lreturn, 1) := by decide +kernel
theorem dX6_commonDivisor_0 : decode cX6_commonDivisor 0 = .ok (.lload_n 0, 1) := by decide +kernel
theorem dX6_commonDivisor_1 : decode cX6_commonDivisor 1 = .ok (.lstore 4, 2) := by decide +kernel
theorem dX6_commonDivisor_3 : decode cX6_commonDivisor 3 = .ok (.lload_n 2, 1) := by decide +kernel
theorem dX6_commonDivisor_4 : decode cX6_commonDivisor 4 = .ok (.lstore 6, 2) := by decide +kernel
theorem dX6_commonDivisor_6 : decode cX6_commonDivisor 6 = .ok (.iconst 0, 1) := by decide +kernel
theorem dX6_commonDivisor_7 : decode cX6_commonDivisor 7 = .ok (.istore 8, 2) := by decide +kernel
theorem dX6_commonDivisor_9 : decode cX6_commonDivisor 9 = .ok (.iload 8, 2) := by decide +kernel
theorem dX6_commonDivisor_11 : decode cX6_commonDivisor 11 = .ok (.bipush 100, 2) := by decide +kernel
theorem dX6_commonDivisor_13 : decode cX6_commonDivisor 13 = .ok (.if_icmp .ge 31, 3) := by decide +kernel
theorem dX6_commonDivisor_16 : decode cX6_commonDivisor 16 = .ok (.lload 6, 2) := by decide +kernel
theorem dX6_commonDivisor_18 : decode cX6_commonDivisor 18 = .ok (.lconst 0, 1) := by decide +kernel
theorem dX6_commonDivisor_19 : decode cX6_commonDivisor 19 = .ok (.lcmp, 1) := by decide +kernel
theorem dX6_commonDivisor_20 : decode cX6_commonDivisor 20 = .ok (.ifCond .eq 24, 3) := by decide +kernel
theorem dX6_commonDivisor_23 : decode cX6_commonDivisor 23 = .ok (.lload 4, 2) := by decide +kernel
theorem dX6_commonDivisor_25 : decode cX6_commonDivisor 25 = .ok (.lload 6, 2) := by decide +kernel
theorem dX6_commonDivisor_27 : decode cX6_commonDivisor 27 = .ok (.lrem, 1) := by decide +kernel
theorem dX6_commonDivisor_28 : decode cX6_commonDivisor 28 = .ok (.lstore 9, 2) := by decide +kernel
theorem dX6_commonDivisor_30 : decode cX6_commonDivisor 30 = .ok (.lload 6, 2) := by decide +kernel
theorem dX6_commonDivisor_32 : decode cX6_commonDivisor 32 = .ok (.lstore 4, 2) := by decide +kernel
theorem dX6_commonDivisor_34 : decode cX6_commonDivisor 34 = .ok (.lload 9, 2) := by decide +kernel
theorem dX6_commonDivisor_36 : decode cX6_commonDivisor 36 = .ok (.lstore 6, 2) := by decide +kernel
theorem dX6_commonDivisor_38 : decode cX6_commonDivisor 38 = .ok (.iinc 8 1, 3) := by decide +kernel
theorem dX6_commonDivisor_41 : decode cX6_commonDivisor 41 = .ok (.goto (-32), 3) := by decide +kernel
theorem dX6_commonDivisor_44 : decode cX6_commonDivisor 44 = .ok (.lload 4, 2) := by decide +kernel
theorem dX6_commonDivisor_46 : decode cX6_commonDivisor 46 = .ok (.lreturn, 1) := by decide +kernel
theorem dX6_switchOf_0 : decode cX6_switchOf 0 = .ok (.aload_n 0, 1) := by decide +kernel
theorem dX6_switchOf_1 : decode cX6_switchOf 1 = .ok (.getfield 15, 3) := by decide +kernel
theorem dX6_switchOf_4 : decode cX6_switchOf 4 = .ok (.ifCond .le 12, 3) := by decide +kernel
theorem dX6_switchOf_7 : decode cX6_switchOf 7 = .ok (.iload_n 1, 1) := by decide +kernel
theorem dX6_switchOf_8 : decode cX6_switchOf 8 = .ok (.aload_n 0, 1) := by decide +kernel
theorem dX6_switchOf_9 : decode cX6_switchOf 9 = .ok (.getfield 15, 3) := by decide +kernel
theorem dX6_switchOf_12 : decode cX6_switchOf 12 = .ok (.idiv, 1) := by decide +kernel
theorem dX6_switchOf_13 : decode cX6_switchOf 13 = .ok (.goto 4, 3) := by decide +kernel
theorem dX6_switchOf_16 : decode cX6_switchOf 16 = .ok (.iconst 0, 1) := by decide +kernel
theorem dX6_switchOf_17 : decode cX6_switchOf 17 = .ok (.ireturn, 1) := by decide +kernel
theorem dX6_forgetCalls_0 : decode cX6_forgetCalls 0 = .ok (.aload_n 0, 1) := by decide +kernel
theorem dX6_forgetCalls_1 : decode cX6_forgetCalls 1 = .ok (.iconst 0, 1) := by decide +kernel
theorem dX6_forgetCalls_2 : decode cX6_forgetCalls 2 = .ok (.putfield 21, 3) := by decide +kernel
theorem dX6_forgetCalls_5 : decode cX6_forgetCalls 5 = .ok (.aload_n 0, 1) := by decide +kernel
theorem dX6_forgetCalls_6 : decode cX6_forgetCalls 6 = .ok (.getfield 24, 3) := by decide +kernel
theorem dX6_forgetCalls_9 : decode cX6_forgetCalls 9 = .ok (.bipush (-9), 2) := by decide +kernel
theorem dX6_forgetCalls_11 : decode cX6_forgetCalls 11 = .ok (.invokestatic 114, 3) := by decide +kernel
theorem dX6_forgetCalls_14 : decode cX6_forgetCalls 14 = .ok (.aload_n 0, 1) := by decide +kernel
theorem dX6_forgetCalls_15 : decode cX6_forgetCalls 15 = .ok (.getfield 28, 3) := by decide +kernel
theorem dX6_forgetCalls_18 : decode cX6_forgetCalls 18 = .ok (.bipush (-9), 2) := by decide +kernel
theorem dX6_forgetCalls_20 : decode cX6_forgetCalls 20 = .ok (.invokestatic 114, 3) := by decide +kernel
theorem dX6_forgetCalls_23 : decode cX6_forgetCalls 23 = .ok (.aload_n 0, 1) := by decide +kernel
theorem dX6_forgetCalls_24 : decode cX6_forgetCalls 24 = .ok (.getfield 31, 3) := by decide +kernel
theorem dX6_forgetCalls_27 : decode cX6_forgetCalls 27 = .ok (.bipush (-9), 2) := by decide +kernel
theorem dX6_forgetCalls_29 : decode cX6_forgetCalls 29 = .ok (.invokestatic 114, 3) := by decide +kernel
theorem dX6_forgetCalls_32 : decode cX6_forgetCalls 32 = .ok (.aload_n 0, 1) := by decide +kernel
theorem dX6_forgetCalls_33 : decode cX6_forgetCalls 33 = .ok (.invokevirtual 101, 3) := by decide +kernel
theorem dX6_forgetCalls_36 : decode cX6_forgetCalls 36 = .ok (.return_, 1) := by decide +kernel
theorem dX6_freeAllLinks_0 : decode cX6_freeAllLinks 0 = .ok (.iconst 0, 1) := by decide +kernel
theorem dX6_freeAllLinks_1 : decode cX6_freeAllLinks 1 = .ok (.istore_n 1, 1) := by decide +kernel
theorem dX6_freeAllLinks_2 : decode cX6_freeAllLinks 2 = .ok (.iload_n 1, 1) := by decide +kernel
theorem dX6_freeAllLinks_3 : decode cX6_freeAllLinks 3 = .ok (.iconst 5, 1) := by decide +kernel
theorem dX6_freeAllLinks_4 : decode cX6_freeAllLinks 4 = .ok (.if_icmp .ge 31, 3) := by decide +kernel
theorem dX6_freeAllLinks_7 : decode cX6_freeAllLinks 7 = .ok (.aload_n 0, 1) := by decide +kernel
theorem dX6_freeAllLinks_8 : decode cX6_freeAllLinks 8 = .ok (.getfield 39, 3) := by decide +kernel
theorem dX6_freeAllLinks_11 : decode cX6_freeAllLinks 11 = .ok (.iload_n 1, 1) := by decide +kernel
theorem dX6_freeAllLinks_12 : decode cX6_freeAllLinks 12 = .ok (.aaload, 1) := by decide +kernel
theorem dX6_freeAllLinks_13 : decode cX6_freeAllLinks 13 = .ok (.bipush (-9), 2) := by decide +kernel
theorem dX6_freeAllLinks_15 : decode cX6_freeAllLinks 15 = .ok (.invokestatic 114, 3) := by decide +kernel
theorem dX6_freeAllLinks_18 : decode cX6_freeAllLinks 18 = .ok (.aload_n 0, 1) := by decide +kernel
theorem dX6_freeAllLinks_19 : decode cX6_freeAllLinks 19 = .ok (.getfield 42, 3) := by decide +kernel
theorem dX6_freeAllLinks_22 : decode cX6_freeAllLinks 22 = .ok (.iload_n 1, 1) := by decide +kernel
theorem dX6_freeAllLinks_23 : decode cX6_freeAllLinks 23 = .ok (.aaload, 1) := by decide +kernel
theorem dX6_freeAllLinks_24 : decode cX6_freeAllLinks 24 = .ok (.bipush (-9), 2) := by decide +kernel
theorem dX6_freeAllLinks_26 : decode cX6_freeAllLinks 26 = .ok (.invokestatic 114, 3) := by decide +kernel
theorem dX6_freeAllLinks_29 : decode cX6_freeAllLinks 29 = .ok (.iinc 1 1, 3) := by decide +kernel
theorem dX6_freeAllLinks_32 : decode cX6_freeAllLinks 32 = .ok (.goto (-30), 3) := by decide +kernel
theorem dX6_freeAllLinks_35 : decode cX6_freeAllLinks 35 = .ok (.return_, 1) := by decide +kernel
theorem dX6_join_0 : decode cX6_join 0 = .ok (.aload_n 0, 1) := by decide +kernel
theorem dX6_join_1 : decode cX6_join 1 = .ok (.getfield 24, 3) := by decide +kernel
theorem dX6_join_4 : decode cX6_join 4 = .ok (.iload_n 1, 1) := by decide +kernel
theorem dX6_join_5 : decode cX6_join 5 = .ok (.iload_n 2, 1) := by decide +kernel
theorem dX6_join_6 : decode cX6_join 6 = .ok (.iastore, 1) := by decide +kernel
theorem dX6_join_7 : decode cX6_join 7 = .ok (.aload_n 0, 1) := by decide +kernel
theorem dX6_join_8 : decode cX6_join 8 = .ok (.getfield 28, 3) := by decide +kernel
theorem dX6_join_11 : decode cX6_join 11 = .ok (.iload_n 2, 1) := by decide +kernel
theorem dX6_join_12 : decode cX6_join 12 = .ok (.iload_n 1, 1) := by decide +kernel
theorem dX6_join_13 : decode cX6_join 13 = .ok (.iastore, 1) := by decide +kernel
theorem dX6_join_14 : decode cX6_join 14 = .ok (.aload_n 0, 1) := by decide +kernel
theorem dX6_join_15 : decode cX6_join 15 = .ok (.dup, 1) := by decide +kernel
theorem dX6_join_16 : decode cX6_join 16 = .ok (.getfield 21, 3) := by decide +kernel
theorem dX6_join_19 : decode cX6_join 19 = .ok (.iconst 1, 1) := by decide +kernel
theorem dX6_join_20 : decode cX6_join 20 = .ok (.iadd, 1) := by decide +kernel
theorem dX6_join_21 : decode cX6_join 21 = .ok (.putfield 21, 3) := by decide +kernel
theorem dX6_join_24 : decode cX6_join 24 = .ok (.return_, 1) := by decide +kernel
theorem dX6_goBy_0 : decode cX6_goBy 0 = .ok (.aload_n 0, 1) := by decide +kernel
theorem dX6_goBy_1 : decode cX6_goBy 1 = .ok (.getfield 31, 3) := by decide +kernel
theorem dX6_goBy_4 : decode cX6_goBy 4 = .ok (.iload_n 1, 1) := by decide +kernel
theorem dX6_goBy_5 : decode cX6_goBy 5 = .ok (.iload_n 2, 1) := by decide +kernel
theorem dX6_goBy_6 : decode cX6_goBy 6 = .ok (.iastore, 1) := by decide +kernel
theorem dX6_goBy_7 : decode cX6_goBy 7 = .ok (.aload_n 0, 1) := by decide +kernel
theorem dX6_goBy_8 : decode cX6_goBy 8 = .ok (.getfield 39, 3) := by decide +kernel
theorem dX6_goBy_11 : decode cX6_goBy 11 = .ok (.aload_n 0, 1) := by decide +kernel
theorem dX6_goBy_12 : decode cX6_goBy 12 = .ok (.iload_n 1, 1) := by decide +kernel
theorem dX6_goBy_13 : decode cX6_goBy 13 = .ok (.invokevirtual 69, 3) := by decide +kernel
theorem dX6_goBy_16 : decode cX6_goBy 16 = .ok (.aaload, 1) := by decide +kernel
theorem dX6_goBy_17 : decode cX6_goBy 17 = .ok (.iload_n 2, 1) := by decide +kernel
theorem dX6_goBy_18 : decode cX6_goBy 18 = .ok (.iload_n 1, 1) := by decide +kernel
theorem dX6_goBy_19 : decode cX6_goBy 19 = .ok (.iastore, 1) := by decide +kernel
theorem dX6_goBy_20 : decode cX6_goBy 20 = .ok (.aload_n 0, 1) := by decide +kernel
theorem dX6_goBy_21 : decode cX6_goBy 21 = .ok (.getfield 42, 3) := by decide +kernel
theorem dX6_goBy_24 : decode cX6_goBy 24 = .ok (.aload_n 0, 1) := by decide +kernel
theorem dX6_goBy_25 : decode cX6_goBy 25 = .ok (.aload_n 0, 1) := by decide +kernel
theorem dX6_goBy_26 : decode cX6_goBy 26 = .ok (.getfield 24, 3) := by decide +kernel
theorem dX6_goBy_29 : decode cX6_goBy 29 = .ok (.iload_n 1, 1) := by decide +kernel
theorem dX6_goBy_30 : decode cX6_goBy 30 = .ok (.iaload, 1) := by decide +kernel
theorem dX6_goBy_31 : decode cX6_goBy 31 = .ok (.invokevirtual 69, 3) := by decide +kernel
theorem dX6_goBy_34 : decode cX6_goBy 34 = .ok (.aaload, 1) := by decide +kernel
theorem dX6_goBy_35 : decode cX6_goBy 35 = .ok (.iload_n 2, 1) := by decide +kernel
theorem dX6_goBy_36 : decode cX6_goBy 36 = .ok (.iload_n 1, 1) := by decide +kernel
theorem dX6_goBy_37 : decode cX6_goBy 37 = .ok (.iastore, 1) := by decide +kernel
theorem dX6_goBy_38 : decode cX6_goBy 38 = .ok (.return_, 1) := by decide +kernel
theorem dX6_freeLinks_0 : decode cX6_freeLinks 0 = .ok (.aload_n 0, 1) := by decide +kernel
theorem dX6_freeLinks_1 : decode cX6_freeLinks 1 = .ok (.getfield 31, 3) := by decide +kernel
theorem dX6_freeLinks_4 : decode cX6_freeLinks 4 = .ok (.iload_n 1, 1) := by decide +kernel
theorem dX6_freeLinks_5 : decode cX6_freeLinks 5 = .ok (.iaload, 1) := by decide +kernel
theorem dX6_freeLinks_6 : decode cX6_freeLinks 6 = .ok (.istore_n 2, 1) := by decide +kernel
theorem dX6_freeLinks_7 : decode cX6_freeLinks 7 = .ok (.aload_n 0, 1) := by decide +kernel
theorem dX6_freeLinks_8 : decode cX6_freeLinks 8 = .ok (.getfield 39, 3) := by decide +kernel
theorem dX6_freeLinks_11 : decode cX6_freeLinks 11 = .ok (.aload_n 0, 1) := by decide +kernel
theorem dX6_freeLinks_12 : decode cX6_freeLinks 12 = .ok (.iload_n 1, 1) := by decide +kernel
theorem dX6_freeLinks_13 : decode cX6_freeLinks 13 = .ok (.invokevirtual 69, 3) := by decide +kernel
theorem dX6_freeLinks_16 : decode cX6_freeLinks 16 = .ok (.aaload, 1) := by decide +kernel
theorem dX6_freeLinks_17 : decode cX6_freeLinks 17 = .ok (.iload_n 2, 1) := by decide +kernel
theorem dX6_freeLinks_18 : decode cX6_freeLinks 18 = .ok (.bipush (-9), 2) := by decide +kernel
theorem dX6_freeLinks_20 : decode cX6_freeLinks 20 = .ok (.iastore, 1) := by decide +kernel
theorem dX6_freeLinks_21 : decode cX6_freeLinks 21 = .ok (.aload_n 0, 1) := by decide +kernel
theorem dX6_freeLinks_22 : decode cX6_freeLinks 22 = .ok (.getfield 42, 3) := by decide +kernel
theorem dX6_freeLinks_25 : decode cX6_freeLinks 25 = .ok (.aload_n 0, 1) := by decide +kernel
theorem dX6_freeLinks_26 : decode cX6_freeLinks 26 = .ok (.aload_n 0, 1) := by decide +kernel
theorem dX6_freeLinks_27 : decode cX6_freeLinks 27 = .ok (.getfield 24, 3) := by decide +kernel
theorem dX6_freeLinks_30 : decode cX6_freeLinks 30 = .ok (.iload_n 1, 1) := by decide +kernel
theorem dX6_freeLinks_31 : decode cX6_freeLinks 31 = .ok (.iaload, 1) := by decide +kernel
theorem dX6_freeLinks_32 : decode cX6_freeLinks 32 = .ok (.invokevirtual 69, 3) := by decide +kernel
theorem dX6_freeLinks_35 : decode cX6_freeLinks 35 = .ok (.aaload, 1) := by decide +kernel
theorem dX6_freeLinks_36 : decode cX6_freeLinks 36 = .ok (.iload_n 2, 1) := by decide +kernel
theorem dX6_freeLinks_37 : decode cX6_freeLinks 37 = .ok (.bipush (-9), 2) := by decide +kernel
theorem dX6_freeLinks_39 : decode cX6_freeLinks 39 = .ok (.iastore, 1) := by decide +kernel
theorem dX6_freeLinks_40 : decode cX6_freeLinks 40 = .ok (.aload_n 0, 1) := by decide +kernel
theorem dX6_freeLinks_41 : decode cX6_freeLinks 41 = .ok (.getfield 31, 3) := by decide +kernel
theorem dX6_freeLinks_44 : decode cX6_freeLinks 44 = .ok (.iload_n 1, 1) := by decide +kernel
theorem dX6_freeLinks_45 : decode cX6_freeLinks 45 = .ok (.bipush (-9), 2) := by decide +kernel
theorem dX6_freeLinks_47 : decode cX6_freeLinks 47 = .ok (.iastore, 1) := by decide +kernel
theorem dX6_freeLinks_48 : decode cX6_freeLinks 48 = .ok (.return_, 1) := by decide +kernel
theorem dX6_followChain_0 : decode cX6_followChain 0 = .ok (.iconst 0, 1) := by decide +kernel
theorem dX6_followChain_1 : decode cX6_followChain 1 = .ok (.istore 4, 2) := by decide +kernel
theorem dX6_followChain_3 : decode cX6_followChain 3 = .ok (.aload_n 0, 1) := by decide +kernel
theorem dX6_followChain_4 : decode cX6_followChain 4 = .ok (.getfield 42, 3) := by decide +kernel
theorem dX6_followChain_7 : decode cX6_followChain 7 = .ok (.iload_n 1, 1) := by decide +kernel
theorem dX6_followChain_8 : decode cX6_followChain 8 = .ok (.aaload, 1) := by decide +kernel
theorem dX6_followChain_9 : decode cX6_followChain 9 = .ok (.iload_n 2, 1) := by decide +kernel
theorem dX6_followChain_10 : decode cX6_followChain 10 = .ok (.iaload, 1) := by decide +kernel
theorem dX6_followChain_11 : decode cX6_followChain 11 = .ok (.istore 5, 2) := by decide +kernel
theorem dX6_followChain_13 : decode cX6_followChain 13 = .ok (.iconst 0, 1) := by decide +kernel
theorem dX6_followChain_14 : decode cX6_followChain 14 = .ok (.istore 6, 2) := by decide +kernel
theorem dX6_followChain_16 : decode cX6_followChain 16 = .ok (.iload 6, 2) := by decide +kernel
theorem dX6_followChain_18 : decode cX6_followChain 18 = .ok (.bipush 20, 2) := by decide +kernel
theorem dX6_followChain_20 : decode cX6_followChain 20 = .ok (.if_icmp .ge 86, 3) := by decide +kernel
theorem dX6_followChain_23 : decode cX6_followChain 23 = .ok (.iload 5, 2) := by decide +kernel
theorem dX6_followChain_25 : decode cX6_followChain 25 = .ok (.bipush (-9), 2) := by decide +kernel
theorem dX6_followChain_27 : decode cX6_followChain 27 = .ok (.if_icmp .eq 79, 3) := by decide +kernel
theorem dX6_followChain_30 : decode cX6_followChain 30 = .ok (.aload_n 0, 1) := by decide +kernel
theorem dX6_followChain_31 : decode cX6_followChain 31 = .ok (.getfield 45, 3) := by decide +kernel
theorem dX6_followChain_34 : decode cX6_followChain 34 = .ok (.iload 6, 2) := by decide +kernel
theorem dX6_followChain_36 : decode cX6_followChain 36 = .ok (.iload 5, 2) := by decide +kernel
theorem dX6_followChain_38 : decode cX6_followChain 38 = .ok (.iastore, 1) := by decide +kernel
theorem dX6_followChain_39 : decode cX6_followChain 39 = .ok (.iload 6, 2) := by decide +kernel
theorem dX6_followChain_41 : decode cX6_followChain 41 = .ok (.iconst 1, 1) := by decide +kernel
theorem dX6_followChain_42 : decode cX6_followChain 42 = .ok (.iadd, 1) := by decide +kernel
theorem dX6_followChain_43 : decode cX6_followChain 43 = .ok (.istore 4, 2) := by decide +kernel
theorem dX6_followChain_45 : decode cX6_followChain 45 = .ok (.iload 6, 2) := by decide +kernel
theorem dX6_followChain_47 : decode cX6_followChain 47 = .ok (.iconst 2, 1) := by decide +kernel
theorem dX6_followChain_48 : decode cX6_followChain 48 = .ok (.irem, 1) := by decide +kernel
theorem dX6_followChain_49 : decode cX6_followChain 49 = .ok (.ifCond .ne 7, 3) := by decide +kernel
theorem dX6_followChain_52 : decode cX6_followChain 52 = .ok (.iconst 1, 1) := by decide +kernel
theorem dX6_followChain_53 : decode cX6_followChain 53 = .ok (.goto 4, 3) := by decide +kernel
theorem dX6_followChain_56 : decode cX6_followChain 56 = .ok (.iconst 0, 1) := by decide +kernel
theorem dX6_followChain_57 : decode cX6_followChain 57 = .ok (.istore 7, 2) := by decide +kernel
theorem dX6_followChain_59 : decode cX6_followChain 59 = .ok (.iload 7, 2) := by decide +kernel
theorem dX6_followChain_61 : decode cX6_followChain 61 = .ok (.ifCond .eq 19, 3) := by decide +kernel
theorem dX6_followChain_64 : decode cX6_followChain 64 = .ok (.aload_n 0, 1) := by decide +kernel
theorem dX6_followChain_65 : decode cX6_followChain 65 = .ok (.getfield 39, 3) := by decide +kernel
theorem dX6_followChain_68 : decode cX6_followChain 68 = .ok (.aload_n 0, 1) := by decide +kernel
theorem dX6_followChain_69 : decode cX6_followChain 69 = .ok (.iload 5, 2) := by decide +kernel
theorem dX6_followChain_71 : decode cX6_followChain 71 = .ok (.invokevirtual 69, 3) := by decide +kernel
theorem dX6_followChain_74 : decode cX6_followChain 74 = .ok (.aaload, 1) := by decide +kernel
theorem dX6_followChain_75 : decode cX6_followChain 75 = .ok (.iload_n 3, 1) := by decide +kernel
theorem dX6_followChain_76 : decode cX6_followChain 76 = .ok (.iaload, 1) := by decide +kernel
theorem dX6_followChain_77 : decode cX6_followChain 77 = .ok (.goto 21, 3) := by decide +kernel
theorem dX6_followChain_80 : decode cX6_followChain 80 = .ok (.aload_n 0, 1) := by decide +kernel
theorem dX6_followChain_81 : decode cX6_followChain 81 = .ok (.getfield 42, 3) := by decide +kernel
theorem dX6_followChain_84 : decode cX6_followChain 84 = .ok (.aload_n 0, 1) := by decide +kernel
theorem dX6_followChain_85 : decode cX6_followChain 85 = .ok (.aload_n 0, 1) := by decide +kernel
theorem dX6_followChain_86 : decode cX6_followChain 86 = .ok (.getfield 24, 3) := by decide +kernel
theorem dX6_followChain_89 : decode cX6_followChain 89 = .ok (.iload 5, 2) := by decide +kernel
theorem dX6_followChain_91 : decode cX6_followChain 91 = .ok (.iaload, 1) := by decide +kernel
theorem dX6_followChain_92 : decode cX6_followChain 92 = .ok (.invokevirtual 69, 3) := by decide +kernel
theorem dX6_followChain_95 : decode cX6_followChain 95 = .ok (.aaload, 1) := by decide +kernel
theorem dX6_followChain_96 : decode cX6_followChain 96 = .ok (.iload_n 2, 1) := by decide +kernel
theorem dX6_followChain_97 : decode cX6_followChain 97 = .ok (.iaload, 1) := by decide +kernel
theorem dX6_followChain_98 : decode cX6_followChain 98 = .ok (.istore 5, 2) := by decide +kernel
theorem dX6_followChain_100 : decode cX6_followChain 100 = .ok (.iinc 6 1, 3) := by decide +kernel
theorem dX6_followChain_103 : decode cX6_followChain 103 = .ok (.goto (-87), 3) := by decide +kernel
theorem dX6_followChain_106 : decode cX6_followChain 106 = .ok (.iload 4, 2) := by decide +kernel
theorem dX6_followChain_108 : decode cX6_followChain 108 = .ok (.ireturn, 1) := by decide +kernel
theorem dX6_moveChain_0 : decode cX6_moveChain 0 = .ok (.aload_n 0, 1) := by decide +kernel
theorem dX6_moveChain_1 : decode cX6_moveChain 1 = .ok (.iload_n 1, 1) := by decide +kernel
theorem dX6_moveChain_2 : decode cX6_moveChain 2 = .ok (.iload_n 2, 1) := by decide +kernel
theorem dX6_moveChain_3 : decode cX6_moveChain 3 = .ok (.iload_n 3, 1) := by decide +kernel
theorem dX6_moveChain_4 : decode cX6_moveChain 4 = .ok (.invokevirtual 88, 3) := by decide +kernel
theorem dX6_moveChain_7 : decode cX6_moveChain 7 = .ok (.istore 4, 2) := by decide +kernel
theorem dX6_moveChain_9 : decode cX6_moveChain 9 = .ok (.iconst 0, 1) := by decide +kernel
theorem dX6_moveChain_10 : decode cX6_moveChain 10 = .ok (.istore 5, 2) := by decide +kernel
theorem dX6_moveChain_12 : decode cX6_moveChain 12 = .ok (.iload 5, 2) := by decide +kernel
theorem dX6_moveChain_14 : decode cX6_moveChain 14 = .ok (.iload 4, 2) := by decide +kernel
theorem dX6_moveChain_16 : decode cX6_moveChain 16 = .ok (.if_icmp .ge 20, 3) := by decide +kernel
theorem dX6_moveChain_19 : decode cX6_moveChain 19 = .ok (.aload_n 0, 1) := by decide +kernel
theorem dX6_moveChain_20 : decode cX6_moveChain 20 = .ok (.aload_n 0, 1) := by decide +kernel
theorem dX6_moveChain_21 : decode cX6_moveChain 21 = .ok (.getfield 45, 3) := by decide +kernel
theorem dX6_moveChain_24 : decode cX6_moveChain 24 = .ok (.iload 5, 2) := by decide +kernel
theorem dX6_moveChain_26 : decode cX6_moveChain 26 = .ok (.iaload, 1) := by decide +kernel
theorem dX6_moveChain_27 : decode cX6_moveChain 27 = .ok (.invokevirtual 92, 3) := by decide +kernel
theorem dX6_moveChain_30 : decode cX6_moveChain 30 = .ok (.iinc 5 1, 3) := by decide +kernel
theorem dX6_moveChain_33 : decode cX6_moveChain 33 = .ok (.goto (-21), 3) := by decide +kernel
theorem dX6_moveChain_36 : decode cX6_moveChain 36 = .ok (.iconst 0, 1) := by decide +kernel
theorem dX6_moveChain_37 : decode cX6_moveChain 37 = .ok (.istore 5, 2) := by decide +kernel
theorem dX6_moveChain_39 : decode cX6_moveChain 39 = .ok (.iload 5, 2) := by decide +kernel
theorem dX6_moveChain_41 : decode cX6_moveChain 41 = .ok (.iload 4, 2) := by decide +kernel
theorem dX6_moveChain_43 : decode cX6_moveChain 43 = .ok (.if_icmp .ge 32, 3) := by decide +kernel
theorem dX6_moveChain_46 : decode cX6_moveChain 46 = .ok (.aload_n 0, 1) := by decide +kernel
theorem dX6_moveChain_47 : decode cX6_moveChain 47 = .ok (.aload_n 0, 1) := by decide +kernel
theorem dX6_moveChain_48 : decode cX6_moveChain 48 = .ok (.getfield 45, 3) := by decide +kernel
theorem dX6_moveChain_51 : decode cX6_moveChain 51 = .ok (.iload 5, 2) := by decide +kernel
theorem dX6_moveChain_53 : decode cX6_moveChain 53 = .ok (.iaload, 1) := by decide +kernel
theorem dX6_moveChain_54 : decode cX6_moveChain 54 = .ok (.iload 5, 2) := by decide +kernel
theorem dX6_moveChain_56 : decode cX6_moveChain 56 = .ok (.iconst 2, 1) := by decide +kernel
theorem dX6_moveChain_57 : decode cX6_moveChain 57 = .ok (.irem, 1) := by decide +kernel
theorem dX6_moveChain_58 : decode cX6_moveChain 58 = .ok (.ifCond .ne 7, 3) := by decide +kernel
theorem dX6_moveChain_61 : decode cX6_moveChain 61 = .ok (.iload_n 3, 1) := by decide +kernel
theorem dX6_moveChain_62 : decode cX6_moveChain 62 = .ok (.goto 4, 3) := by decide +kernel
theorem dX6_moveChain_65 : decode cX6_moveChain 65 = .ok (.iload_n 2, 1) := by decide +kernel
theorem dX6_moveChain_66 : decode cX6_moveChain 66 = .ok (.invokevirtual 77, 3) := by decide +kernel
theorem dX6_moveChain_69 : decode cX6_moveChain 69 = .ok (.iinc 5 1, 3) := by decide +kernel
theorem dX6_moveChain_72 : decode cX6_moveChain 72 = .ok (.goto (-33), 3) := by decide +kernel
theorem dX6_moveChain_75 : decode cX6_moveChain 75 = .ok (.return_, 1) := by decide +kernel
theorem dX6_mendAgain_0 : decode cX6_mendAgain 0 = .ok (.aload_n 0, 1) := by decide +kernel
theorem dX6_mendAgain_1 : decode cX6_mendAgain 1 = .ok (.iload_n 1, 1) := by decide +kernel
theorem dX6_mendAgain_2 : decode cX6_mendAgain 2 = .ok (.aload_n 0, 1) := by decide +kernel
theorem dX6_mendAgain_3 : decode cX6_mendAgain 3 = .ok (.getfield 24, 3) := by decide +kernel
theorem dX6_mendAgain_6 : decode cX6_mendAgain 6 = .ok (.iload_n 1, 1) := by decide +kernel
theorem dX6_mendAgain_7 : decode cX6_mendAgain 7 = .ok (.iaload, 1) := by decide +kernel
theorem dX6_mendAgain_8 : decode cX6_mendAgain 8 = .ok (.invokevirtual 80, 3) := by decide +kernel
theorem dX6_mendAgain_11 : decode cX6_mendAgain 11 = .ok (.bipush (-9), 2) := by decide +kernel
theorem dX6_mendAgain_13 : decode cX6_mendAgain 13 = .ok (.if_icmp .ne 5, 3) := by decide +kernel
theorem dX6_mendAgain_16 : decode cX6_mendAgain 16 = .ok (.iconst 0, 1) := by decide +kernel
theorem dX6_mendAgain_17 : decode cX6_mendAgain 17 = .ok (.ireturn, 1) := by decide +kernel
theorem dX6_mendAgain_18 : decode cX6_mendAgain 18 = .ok (.aload_n 0, 1) := by decide +kernel
theorem dX6_mendAgain_19 : decode cX6_mendAgain 19 = .ok (.iload_n 1, 1) := by decide +kernel
theorem dX6_mendAgain_20 : decode cX6_mendAgain 20 = .ok (.invokevirtual 84, 3) := by decide +kernel
theorem dX6_mendAgain_23 : decode cX6_mendAgain 23 = .ok (.iconst 1, 1) := by decide +kernel
theorem dX6_mendAgain_24 : decode cX6_mendAgain 24 = .ok (.ireturn, 1) := by decide +kernel
theorem dX6_goByBest_0 : decode cX6_goByBest 0 = .ok (.aload_n 0, 1) := by decide +kernel
theorem dX6_goByBest_1 : decode cX6_goByBest 1 = .ok (.aload_n 0, 1) := by decide +kernel
theorem dX6_goByBest_2 : decode cX6_goByBest 2 = .ok (.aload_n 0, 1) := by decide +kernel
theorem dX6_goByBest_3 : decode cX6_goByBest 3 = .ok (.getfield 24, 3) := by decide +kernel
theorem dX6_goByBest_6 : decode cX6_goByBest 6 = .ok (.iload_n 1, 1) := by decide +kernel
theorem dX6_goByBest_7 : decode cX6_goByBest 7 = .ok (.iaload, 1) := by decide +kernel
theorem dX6_goByBest_8 : decode cX6_goByBest 8 = .ok (.invokevirtual 69, 3) := by decide +kernel
theorem dX6_goByBest_11 : decode cX6_goByBest 11 = .ok (.aload_n 0, 1) := by decide +kernel
theorem dX6_goByBest_12 : decode cX6_goByBest 12 = .ok (.getfield 48, 3) := by decide +kernel
theorem dX6_goByBest_15 : decode cX6_goByBest 15 = .ok (.aload_n 0, 1) := by decide +kernel
theorem dX6_goByBest_16 : decode cX6_goByBest 16 = .ok (.getfield 51, 3) := by decide +kernel
theorem dX6_goByBest_19 : decode cX6_goByBest 19 = .ok (.invokevirtual 120, 3) := by decide +kernel
theorem dX6_goByBest_22 : decode cX6_goByBest 22 = .ok (.aload_n 0, 1) := by decide +kernel
theorem dX6_goByBest_23 : decode cX6_goByBest 23 = .ok (.iload_n 1, 1) := by decide +kernel
theorem dX6_goByBest_24 : decode cX6_goByBest 24 = .ok (.aload_n 0, 1) := by decide +kernel
theorem dX6_goByBest_25 : decode cX6_goByBest 25 = .ok (.getfield 48, 3) := by decide +kernel
theorem dX6_goByBest_28 : decode cX6_goByBest 28 = .ok (.invokevirtual 77, 3) := by decide +kernel
theorem dX6_goByBest_31 : decode cX6_goByBest 31 = .ok (.return_, 1) := by decide +kernel
theorem dX6_goBackToEarlier_0 : decode cX6_goBackToEarlier 0 = .ok (.aload_n 0, 1) := by decide +kernel
theorem dX6_goBackToEarlier_1 : decode cX6_goBackToEarlier 1 = .ok (.invokevirtual 101, 3) := by decide +kernel
theorem dX6_goBackToEarlier_4 : decode cX6_goBackToEarlier 4 = .ok (.iconst 0, 1) := by decide +kernel
theorem dX6_goBackToEarlier_5 : decode cX6_goBackToEarlier 5 = .ok (.istore_n 1, 1) := by decide +kernel
theorem dX6_goBackToEarlier_6 : decode cX6_goBackToEarlier 6 = .ok (.iload_n 1, 1) := by decide +kernel
theorem dX6_goBackToEarlier_7 : decode cX6_goBackToEarlier 7 = .ok (.aload_n 0, 1) := by decide +kernel
theorem dX6_goBackToEarlier_8 : decode cX6_goBackToEarlier 8 = .ok (.invokevirtual 57, 3) := by decide +kernel
theorem dX6_goBackToEarlier_11 : decode cX6_goBackToEarlier 11 = .ok (.if_icmp .ge 31, 3) := by decide +kernel
theorem dX6_goBackToEarlier_14 : decode cX6_goBackToEarlier 14 = .ok (.aload_n 0, 1) := by decide +kernel
theorem dX6_goBackToEarlier_15 : decode cX6_goBackToEarlier 15 = .ok (.getfield 24, 3) := by decide +kernel
theorem dX6_goBackToEarlier_18 : decode cX6_goBackToEarlier 18 = .ok (.iload_n 1, 1) := by decide +kernel
theorem dX6_goBackToEarlier_19 : decode cX6_goBackToEarlier 19 = .ok (.iaload, 1) := by decide +kernel
theorem dX6_goBackToEarlier_20 : decode cX6_goBackToEarlier 20 = .ok (.bipush (-9), 2) := by decide +kernel
theorem dX6_goBackToEarlier_22 : decode cX6_goBackToEarlier 22 = .ok (.if_icmp .eq 14, 3) := by decide +kernel
theorem dX6_goBackToEarlier_25 : decode cX6_goBackToEarlier 25 = .ok (.aload_n 0, 1) := by decide +kernel
theorem dX6_goBackToEarlier_26 : decode cX6_goBackToEarlier 26 = .ok (.iload_n 1, 1) := by decide +kernel
theorem dX6_goBackToEarlier_27 : decode cX6_goBackToEarlier 27 = .ok (.aload_n 0, 1) := by decide +kernel
theorem dX6_goBackToEarlier_28 : decode cX6_goBackToEarlier 28 = .ok (.getfield 34, 3) := by decide +kernel
theorem dX6_goBackToEarlier_31 : decode cX6_goBackToEarlier 31 = .ok (.iload_n 1, 1) := by decide +kernel
theorem dX6_goBackToEarlier_32 : decode cX6_goBackToEarlier 32 = .ok (.iaload, 1) := by decide +kernel
theorem dX6_goBackToEarlier_33 : decode cX6_goBackToEarlier 33 = .ok (.invokevirtual 77, 3) := by decide +kernel
theorem dX6_goBackToEarlier_36 : decode cX6_goBackToEarlier 36 = .ok (.iinc 1 1, 3) := by decide +kernel
theorem dX6_goBackToEarlier_39 : decode cX6_goBackToEarlier 39 = .ok (.goto (-33), 3) := by decide +kernel
theorem dX6_goBackToEarlier_42 : decode cX6_goBackToEarlier 42 = .ok (.return_, 1) := by decide +kernel
theorem dX7_init_0 : decode cX7_init 0 = .ok (.aload_n 0, 1) := by decide +kernel
theorem dX7_init_1 : decode cX7_init 1 = .ok (.invokespecial 3, 3) := by decide +kernel
theorem dX7_init_4 : decode cX7_init 4 = .ok (.aload_n 0, 1) := by decide +kernel
theorem dX7_init_5 : decode cX7_init 5 = .ok (.new 9, 3) := by decide +kernel
theorem dX7_init_8 : decode cX7_init 8 = .ok (.dup, 1) := by decide +kernel
theorem dX7_init_9 : decode cX7_init 9 = .ok (.invokespecial 11, 3) := by decide +kernel
theorem dX7_init_12 : decode cX7_init 12 = .ok (.putfield 12, 3) := by decide +kernel
theorem dX7_init_15 : decode cX7_init 15 = .ok (.aload_n 0, 1) := by decide +kernel
theorem dX7_init_16 : decode cX7_init 16 = .ok (.new 18, 3) := by decide +kernel
theorem dX7_init_19 : decode cX7_init 19 = .ok (.dup, 1) := by decide +kernel
theorem dX7_init_20 : decode cX7_init 20 = .ok (.invokespecial 20, 3) := by decide +kernel
theorem dX7_init_23 : decode cX7_init 23 = .ok (.putfield 21, 3) := by decide +kernel
theorem dX7_init_26 : decode cX7_init 26 = .ok (.aload_n 0, 1) := by decide +kernel
theorem dX7_init_27 : decode cX7_init 27 = .ok (.new 25, 3) := by decide +kernel
theorem dX7_init_30 : decode cX7_init 30 = .ok (.dup, 1) := by decide +kernel
theorem dX7_init_31 : decode cX7_init 31 = .ok (.aload_n 0, 1) := by decide +kernel
theorem dX7_init_32 : decode cX7_init 32 = .ok (.getfield 21, 3) := by decide +kernel
theorem dX7_init_35 : decode cX7_init 35 = .ok (.invokespecial 27, 3) := by decide +kernel
theorem dX7_init_38 : decode cX7_init 38 = .ok (.putfield 30, 3) := by decide +kernel
theorem dX7_init_41 : decode cX7_init 41 = .ok (.aload_n 0, 1) := by decide +kernel
theorem dX7_init_42 : decode cX7_init 42 = .ok (.new 34, 3) := by decide +kernel
theorem dX7_init_45 : decode cX7_init 45 = .ok (.dup, 1) := by decide +kernel
theorem dX7_init_46 : decode cX7_init 46 = .ok (.invokespecial 36, 3) := by decide +kernel
theorem dX7_init_49 : decode cX7_init 49 = .ok (.putfield 37, 3) := by decide +kernel
theorem dX7_init_52 : decode cX7_init 52 = .ok (.aload_n 0, 1) := by decide +kernel
theorem dX7_init_53 : decode cX7_init 53 = .ok (.new 41, 3) := by decide +kernel
theorem dX7_init_56 : decode cX7_init 56 = .ok (.dup, 1) := by decide +kernel
theorem dX7_init_57 : decode cX7_init 57 = .ok (.invokespecial 43, 3) := by decide +kernel
theorem dX7_init_60 : decode cX7_init 60 = .ok (.putfield 44, 3) := by decide +kernel
theorem dX7_init_63 : decode cX7_init 63 = .ok (.aload_n 0, 1) := by decide +kernel
theorem dX7_init_64 : decode cX7_init 64 = .ok (.new 48, 3) := by decide +kernel
theorem dX7_init_67 : decode cX7_init 67 = .ok (.dup, 1) := by decide +kernel
theorem dX7_init_68 : decode cX7_init 68 = .ok (.invokespecial 50, 3) := by decide +kernel
theorem dX7_init_71 : decode cX7_init 71 = .ok (.putfield 51, 3) := by decide +kernel
theorem dX7_init_74 : decode cX7_init 74 = .ok (.aload_n 0, 1) := by decide +kernel
theorem dX7_init_75 : decode cX7_init 75 = .ok (.new 55, 3) := by decide +kernel
theorem dX7_init_78 : decode cX7_init 78 = .ok (.dup, 1) := by decide +kernel
theorem dX7_init_79 : decode cX7_init 79 = .ok (.invokespecial 57, 3) := by decide +kernel
theorem dX7_init_82 : decode cX7_init 82 = .ok (.putfield 58, 3) := by decide +kernel
theorem dX7_init_85 : decode cX7_init 85 = .ok (.aload_n 0, 1) := by decide +kernel
theorem dX7_init_86 : decode cX7_init 86 = .ok (.bipush 8, 2) := by decide +kernel
theorem dX7_init_88 : decode cX7_init 88 = .ok (.newarray .int, 2) := by decide +kernel
theorem dX7_init_90 : decode cX7_init 90 = .ok (.putfield 62, 3) := by decide +kernel
theorem dX7_init_93 : decode cX7_init 93 = .ok (.aload_n 0, 1) := by decide +kernel
theorem dX7_init_94 : decode cX7_init 94 = .ok (.iconst 0, 1) := by decide +kernel
theorem dX7_init_95 : decode cX7_init 95 = .ok (.putfield 66, 3) := by decide +kernel
theorem dX7_init_98 : decode cX7_init 98 = .ok (.return_, 1) := by decide +kernel
theorem dX7_net_0 : decode cX7_net 0 = .ok (.iload_n 1, 1) := by decide +kernel
theorem dX7_net_1 : decode cX7_net 1 = .ok (.iconst 1, 1) := by decide +kernel
theorem dX7_net_2 : decode cX7_net 2 = .ok (.iconst 5, 1) := by decide +kernel
theorem dX7_net_3 : decode cX7_net 3 = .ok (.invokestatic 70, 3) := by decide +kernel
theorem dX7_net_6 : decode cX7_net 6 = .ok (.ifCond .eq 22, 3) := by decide +kernel
theorem dX7_net_9 : decode cX7_net 9 = .ok (.iload_n 2, 1) := by decide +kernel
theorem dX7_net_10 : decode cX7_net 10 = .ok (.iconst 1, 1) := by decide +kernel
theorem dX7_net_11 : decode cX7_net 11 = .ok (.iconst 4, 1) := by decide +kernel
theorem dX7_net_12 : decode cX7_net 12 = .ok (.invokestatic 70, 3) := by decide +kernel
theorem dX7_net_15 : decode cX7_net 15 = .ok (.ifCond .eq 13, 3) := by decide +kernel
theorem dX7_net_18 : decode cX7_net 18 = .ok (.iload_n 3, 1) := by decide +kernel
theorem dX7_net_19 : decode cX7_net 19 = .ok (.iconst 1, 1) := by decide +kernel
theorem dX7_net_20 : decode cX7_net 20 = .ok (.bipush 7, 2) := by decide +kernel
theorem dX7_net_22 : decode cX7_net 22 = .ok (.invokestatic 70, 3) := by decide +kernel
theorem dX7_net_25 : decode cX7_net 25 = .ok (.ifCond .ne 6, 3) := by decide +kernel
theorem dX7_net_28 : decode cX7_net 28 = .ok (.bipush (-2), 2) := by decide +kernel
theorem dX7_net_30 : decode cX7_net 30 = .ok (.ireturn, 1) := by decide +kernel
theorem dX7_net_31 : decode cX7_net 31 = .ok (.aload_n 0, 1) := by decide +kernel
theorem dX7_net_32 : decode cX7_net 32 = .ok (.getfield 12, 3) := by decide +kernel
theorem dX7_net_35 : decode cX7_net 35 = .ok (.iload_n 1, 1) := by decide +kernel
theorem dX7_net_36 : decode cX7_net 36 = .ok (.iload_n 2, 1) := by decide +kernel
theorem dX7_net_37 : decode cX7_net 37 = .ok (.iload_n 3, 1) := by decide +kernel
theorem dX7_net_38 : decode cX7_net 38 = .ok (.invokevirtual 74, 3) := by decide +kernel
theorem dX7_net_41 : decode cX7_net 41 = .ok (.aload_n 0, 1) := by decide +kernel
theorem dX7_net_42 : decode cX7_net 42 = .ok (.getfield 12, 3) := by decide +kernel
theorem dX7_net_45 : decode cX7_net 45 = .ok (.invokevirtual 78, 3) := by decide +kernel
theorem dX7_net_48 : decode cX7_net 48 = .ok (.ireturn, 1) := by decide +kernel
theorem dX7_netOf_0 : decode cX7_netOf 0 = .ok (.iload_n 1, 1) := by decide +kernel
theorem dX7_netOf_1 : decode cX7_netOf 1 = .ok (.tableswitch 110 0 5 #[39, 47, 55, 63, 71, 87], 39) := by decide +kernel
theorem dX7_netOf_40 : decode cX7_netOf 40 = .ok (.aload_n 0, 1) := by decide +kernel
theorem dX7_netOf_41 : decode cX7_netOf 41 = .ok (.getfield 12, 3) := by decide +kernel
theorem dX7_netOf_44 : decode cX7_netOf 44 = .ok (.getfield 82, 3) := by decide +kernel
theorem dX7_netOf_47 : decode cX7_netOf 47 = .ok (.ireturn, 1) := by decide +kernel
theorem dX7_netOf_48 : decode cX7_netOf 48 = .ok (.aload_n 0, 1) := by decide +kernel
theorem dX7_netOf_49 : decode cX7_netOf 49 = .ok (.getfield 12, 3) := by decide +kernel
theorem dX7_netOf_52 : decode cX7_netOf 52 = .ok (.getfield 85, 3) := by decide +kernel
theorem dX7_netOf_55 : decode cX7_netOf 55 = .ok (.ireturn, 1) := by decide +kernel
theorem dX7_netOf_56 : decode cX7_netOf 56 = .ok (.aload_n 0, 1) := by decide +kernel
theorem dX7_netOf_57 : decode cX7_netOf 57 = .ok (.getfield 12, 3) := by decide +kernel
theorem dX7_netOf_60 : decode cX7_netOf 60 = .ok (.getfield 88, 3) := by decide +kernel
theorem dX7_netOf_63 : decode cX7_netOf 63 = .ok (.ireturn, 1) := by decide +kernel
theorem dX7_netOf_64 : decode cX7_netOf 64 = .ok (.aload_n 0, 1) := by decide +kernel
theorem dX7_netOf_65 : decode cX7_netOf 65 = .ok (.getfield 12, 3) := by decide +kernel
theorem dX7_netOf_68 : decode cX7_netOf 68 = .ok (.getfield 91, 3) := by decide +kernel
theorem dX7_netOf_71 : decode cX7_netOf 71 = .ok (.ireturn, 1) := by decide +kernel
theorem dX7_netOf_72 : decode cX7_netOf 72 = .ok (.aload_n 0, 1) := by decide +kernel
theorem dX7_netOf_73 : decode cX7_netOf 73 = .ok (.getfield 12, 3) := by decide +kernel
theorem dX7_netOf_76 : decode cX7_netOf 76 = .ok (.invokevirtual 94, 3) := by decide +kernel
theorem dX7_netOf_79 : decode cX7_netOf 79 = .ok (.ifCond .eq 7, 3) := by decide +kernel
theorem dX7_netOf_82 : decode cX7_netOf 82 = .ok (.iconst 1, 1) := by decide +kernel
theorem dX7_netOf_83 : decode cX7_netOf 83 = .ok (.goto 4, 3) := by decide +kernel
theorem dX7_netOf_86 : decode cX7_netOf 86 = .ok (.iconst 0, 1) := by decide +kernel
theorem dX7_netOf_87 : decode cX7_netOf 87 = .ok (.ireturn, 1) := by decide +kernel
theorem dX7_netOf_88 : decode cX7_netOf 88 = .ok (.aload_n 0, 1) := by decide +kernel
theorem dX7_netOf_89 : decode cX7_netOf 89 = .ok (.getfield 12, 3) := by decide +kernel
theorem dX7_netOf_92 : decode cX7_netOf 92 = .ok (.getfield 88, 3) := by decide +kernel
theorem dX7_netOf_95 : decode cX7_netOf 95 = .ok (.aload_n 0, 1) := by decide +kernel
theorem dX7_netOf_96 : decode cX7_netOf 96 = .ok (.getfield 12, 3) := by decide +kernel
theorem dX7_netOf_99 : decode cX7_netOf 99 = .ok (.getfield 85, 3) := by decide +kernel
theorem dX7_netOf_102 : decode cX7_netOf 102 = .ok (.if_icmp .lt 7, 3) := by decide +kernel
theorem dX7_netOf_105 : decode cX7_netOf 105 = .ok (.iconst 1, 1) := by decide +kernel
theorem dX7_netOf_106 : decode cX7_netOf 106 = .ok (.goto 4, 3) := by decide +kernel
theorem dX7_netOf_109 : decode cX7_netOf 109 = .ok (.iconst 0, 1) := by decide +kernel
theorem dX7_netOf_110 : decode cX7_netOf 110 = .ok (.ireturn, 1) := by decide +kernel
theorem dX7_netOf_111 : decode cX7_netOf 111 = .ok (.bipush (-2), 2) := by decide +kernel
theorem dX7_netOf_113 : decode cX7_netOf 113 = .ok (.ireturn, 1) := by decide +kernel
theorem dX7_call_0 : decode cX7_call 0 = .ok (.aload_n 0, 1) := by decide +kernel
theorem dX7_call_1 : decode cX7_call 1 = .ok (.getfield 12, 3) := by decide +kernel
theorem dX7_call_4 : decode cX7_call 4 = .ok (.iload_n 1, 1) := by decide +kernel
theorem dX7_call_5 : decode cX7_call 5 = .ok (.iload_n 2, 1) := by decide +kernel
theorem dX7_call_6 : decode cX7_call 6 = .ok (.invokevirtual 98, 3) := by decide +kernel
theorem dX7_call_9 : decode cX7_call 9 = .ok (.istore_n 3, 1) := by decide +kernel
theorem dX7_call_10 : decode cX7_call 10 = .ok (.iload_n 3, 1) := by decide +kernel
theorem dX7_call_11 : decode cX7_call 11 = .ok (.ifCond .eq 7, 3) := by decide +kernel
theorem dX7_call_14 : decode cX7_call 14 = .ok (.iload_n 3, 1) := by decide +kernel
theorem dX7_call_15 : decode cX7_call 15 = .ok (.goto 12, 3) := by decide +kernel
theorem dX7_call_18 : decode cX7_call 18 = .ok (.aload_n 0, 1) := by decide +kernel
theorem dX7_call_19 : decode cX7_call 19 = .ok (.getfield 12, 3) := by decide +kernel
theorem dX7_call_22 : decode cX7_call 22 = .ok (.iload_n 1, 1) := by decide +kernel
theorem dX7_call_23 : decode cX7_call 23 = .ok (.iload_n 2, 1) := by decide +kernel
theorem dX7_call_24 : decode cX7_call 24 = .ok (.invokevirtual 102, 3) := by decide +kernel
theorem dX7_call_27 : decode cX7_call 27 = .ok (.ireturn, 1) := by decide +kernel
theorem dX7_mend_0 : decode cX7_mend 0 = .ok (.aload_n 0, 1) := by decide +kernel
theorem dX7_mend_1 : decode cX7_mend 1 = .ok (.getfield 12, 3) := by decide +kernel
theorem dX7_mend_4 : decode cX7_mend 4 = .ok (.iload_n 1, 1) := by decide +kernel
theorem dX7_mend_5 : decode cX7_mend 5 = .ok (.iload_n 2, 1) := by decide +kernel
theorem dX7_mend_6 : decode cX7_mend 6 = .ok (.invokevirtual 98, 3) := by decide +kernel
theorem dX7_mend_9 : decode cX7_mend 9 = .ok (.istore_n 3, 1) := by decide +kernel
theorem dX7_mend_10 : decode cX7_mend 10 = .ok (.iload_n 3, 1) := by decide +kernel
theorem dX7_mend_11 : decode cX7_mend 11 = .ok (.ifCond .eq 7, 3) := by decide +kernel
theorem dX7_mend_14 : decode cX7_mend 14 = .ok (.iload_n 3, 1) := by decide +kernel
theorem dX7_mend_15 : decode cX7_mend 15 = .ok (.goto 12, 3) := by decide +kernel
theorem dX7_mend_18 : decode cX7_mend 18 = .ok (.aload_n 0, 1) := by decide +kernel
theorem dX7_mend_19 : decode cX7_mend 19 = .ok (.getfield 12, 3) := by decide +kernel
theorem dX7_mend_22 : decode cX7_mend 22 = .ok (.iload_n 1, 1) := by decide +kernel
theorem dX7_mend_23 : decode cX7_mend 23 = .ok (.iload_n 2, 1) := by decide +kernel
theorem dX7_mend_24 : decode cX7_mend 24 = .ok (.invokevirtual 105, 3) := by decide +kernel
theorem dX7_mend_27 : decode cX7_mend 27 = .ok (.ireturn, 1) := by decide +kernel
theorem dX7_moves_0 : decode cX7_moves 0 = .ok (.aload_n 0, 1) := by decide +kernel
theorem dX7_moves_1 : decode cX7_moves 1 = .ok (.getfield 12, 3) := by decide +kernel
theorem dX7_moves_4 : decode cX7_moves 4 = .ok (.iload_n 1, 1) := by decide +kernel
theorem dX7_moves_5 : decode cX7_moves 5 = .ok (.iload_n 2, 1) := by decide +kernel
theorem dX7_moves_6 : decode cX7_moves 6 = .ok (.invokevirtual 98, 3) := by decide +kernel
theorem dX7_moves_9 : decode cX7_moves 9 = .ok (.istore_n 3, 1) := by decide +kernel
theorem dX7_moves_10 : decode cX7_moves 10 = .ok (.iload_n 3, 1) := by decide +kernel
theorem dX7_moves_11 : decode cX7_moves 11 = .ok (.ifCond .eq 7, 3) := by decide +kernel
theorem dX7_moves_14 : decode cX7_moves 14 = .ok (.iload_n 3, 1) := by decide +kernel
theorem dX7_moves_15 : decode cX7_moves 15 = .ok (.goto 12, 3) := by decide +kernel
theorem dX7_moves_18 : decode cX7_moves 18 = .ok (.aload_n 0, 1) := by decide +kernel
theorem dX7_moves_19 : decode cX7_moves 19 = .ok (.getfield 12, 3) := by decide +kernel
theorem dX7_moves_22 : decode cX7_moves 22 = .ok (.iload_n 1, 1) := by decide +kernel
theorem dX7_moves_23 : decode cX7_moves 23 = .ok (.iload_n 2, 1) := by decide +kernel
theorem dX7_moves_24 : decode cX7_moves 24 = .ok (.invokevirtual 108, 3) := by decide +kernel
theorem dX7_moves_27 : decode cX7_moves 27 = .ok (.ireturn, 1) := by decide +kernel
theorem dX7_hang_0 : decode cX7_hang 0 = .ok (.aload_n 0, 1) := by decide +kernel
theorem dX7_hang_1 : decode cX7_hang 1 = .ok (.getfield 12, 3) := by decide +kernel
theorem dX7_hang_4 : decode cX7_hang 4 = .ok (.iload_n 1, 1) := by decide +kernel
theorem dX7_hang_5 : decode cX7_hang 5 = .ok (.invokevirtual 111, 3) := by decide +kernel
theorem dX7_hang_8 : decode cX7_hang 8 = .ok (.ifCond .ne 5, 3) := by decide +kernel
theorem dX7_hang_11 : decode cX7_hang 11 = .ok (.iconst (-1), 1) := by decide +kernel
theorem dX7_hang_12 : decode cX7_hang 12 = .ok (.ireturn, 1) := by decide +kernel
theorem dX7_hang_13 : decode cX7_hang 13 = .ok (.aload_n 0, 1) := by decide +kernel
theorem dX7_hang_14 : decode cX7_hang 14 = .ok (.getfield 12, 3) := by decide +kernel
theorem dX7_hang_17 : decode cX7_hang 17 = .ok (.getfield 115, 3) := by decide +kernel
theorem dX7_hang_20 : decode cX7_hang 20 = .ok (.iload_n 1, 1) := by decide +kernel
theorem dX7_hang_21 : decode cX7_hang 21 = .ok (.iaload, 1) := by decide +kernel
theorem dX7_hang_22 : decode cX7_hang 22 = .ok (.bipush (-9), 2) := by decide +kernel
theorem dX7_hang_24 : decode cX7_hang 24 = .ok (.if_icmp .ne 6, 3) := by decide +kernel
theorem dX7_hang_27 : decode cX7_hang 27 = .ok (.bipush (-3), 2) := by decide +kernel
theorem dX7_hang_29 : decode cX7_hang 29 = .ok (.ireturn, 1) := by decide +kernel
theorem dX7_hang_30 : decode cX7_hang 30 = .ok (.aload_n 0, 1) := by decide +kernel
theorem dX7_hang_31 : decode cX7_hang 31 = .ok (.getfield 12, 3) := by decide +kernel
theorem dX7_hang_34 : decode cX7_hang 34 = .ok (.iload_n 1, 1) := by decide +kernel
theorem dX7_hang_35 : decode cX7_hang 35 = .ok (.invokevirtual 118, 3) := by decide +kernel
theorem dX7_hang_38 : decode cX7_hang 38 = .ok (.ireturn, 1) := by decide +kernel
theorem dX7_anew_0 : decode cX7_anew 0 = .ok (.aload_n 0, 1) := by decide +kernel
theorem dX7_anew_1 : decode cX7_anew 1 = .ok (.getfield 12, 3) := by decide +kernel
theorem dX7_anew_4 : decode cX7_anew 4 = .ok (.invokevirtual 122, 3) := by decide +kernel
theorem dX7_anew_7 : decode cX7_anew 7 = .ok (.ireturn, 1) := by decide +kernel
theorem dX7_callOf_0 : decode cX7_callOf 0 = .ok (.aload_n 0, 1) := by decide +kernel
theorem dX7_callOf_1 : decode cX7_callOf 1 = .ok (.getfield 12, 3) := by decide +kernel
theorem dX7_callOf_4 : decode cX7_callOf 4 = .ok (.iload_n 1, 1) := by decide +kernel
theorem dX7_callOf_5 : decode cX7_callOf 5 = .ok (.invokevirtual 111, 3) := by decide +kernel
theorem dX7_callOf_8 : decode cX7_callOf 8 = .ok (.ifCond .ne 5, 3) := by decide +kernel
theorem dX7_callOf_11 : decode cX7_callOf 11 = .ok (.iconst (-1), 1) := by decide +kernel
theorem dX7_callOf_12 : decode cX7_callOf 12 = .ok (.ireturn, 1) := by decide +kernel
theorem dX7_callOf_13 : decode cX7_callOf 13 = .ok (.iload_n 2, 1) := by decide +kernel
theorem dX7_callOf_14 : decode cX7_callOf 14 = .ok (.iconst 0, 1) := by decide +kernel
theorem dX7_callOf_15 : decode cX7_callOf 15 = .ok (.iconst 1, 1) := by decide +kernel
theorem dX7_callOf_16 : decode cX7_callOf 16 = .ok (.invokestatic 70, 3) := by decide +kernel
theorem dX7_callOf_19 : decode cX7_callOf 19 = .ok (.ifCond .ne 6, 3) := by decide +kernel
theorem dX7_callOf_22 : decode cX7_callOf 22 = .ok (.bipush (-2), 2) := by decide +kernel
theorem dX7_callOf_24 : decode cX7_callOf 24 = .ok (.ireturn, 1) := by decide +kernel
theorem dX7_callOf_25 : decode cX7_callOf 25 = .ok (.iload_n 2, 1) := by decide +kernel
theorem dX7_callOf_26 : decode cX7_callOf 26 = .ok (.ifCond .ne 15, 3) := by decide +kernel
theorem dX7_callOf_29 : decode cX7_callOf 29 = .ok (.aload_n 0, 1) := by decide +kernel
theorem dX7_callOf_30 : decode cX7_callOf 30 = .ok (.getfield 12, 3) := by decide +kernel
theorem dX7_callOf_33 : decode cX7_callOf 33 = .ok (.getfield 115, 3) := by decide +kernel
theorem dX7_callOf_36 : decode cX7_callOf 36 = .ok (.iload_n 1, 1) := by decide +kernel
theorem dX7_callOf_37 : decode cX7_callOf 37 = .ok (.iaload, 1) := by decide +kernel
theorem dX7_callOf_38 : decode cX7_callOf 38 = .ok (.goto 12, 3) := by decide +kernel
theorem dX7_callOf_41 : decode cX7_callOf 41 = .ok (.aload_n 0, 1) := by decide +kernel
theorem dX7_callOf_42 : decode cX7_callOf 42 = .ok (.getfield 12, 3) := by decide +kernel
theorem dX7_callOf_45 : decode cX7_callOf 45 = .ok (.getfield 125, 3) := by decide +kernel
theorem dX7_callOf_48 : decode cX7_callOf 48 = .ok (.iload_n 1, 1) := by decide +kernel
theorem dX7_callOf_49 : decode cX7_callOf 49 = .ok (.iaload, 1) := by decide +kernel
theorem dX7_callOf_50 : decode cX7_callOf 50 = .ok (.ireturn, 1) := by decide +kernel
theorem dX7_links_0 : decode cX7_links 0 = .ok (.iload_n 1, 1) := by decide +kernel
theorem dX7_links_1 : decode cX7_links 1 = .ok (.iconst 0, 1) := by decide +kernel
theorem dX7_links_2 : decode cX7_links 2 = .ok (.aload_n 0, 1) := by decide +kernel
theorem dX7_links_3 : decode cX7_links 3 = .ok (.getfield 12, 3) := by decide +kernel
theorem dX7_links_6 : decode cX7_links 6 = .ok (.getfield 88, 3) := by decide +kernel
theorem dX7_links_9 : decode cX7_links 9 = .ok (.iconst 1, 1) := by decide +kernel
theorem dX7_links_10 : decode cX7_links 10 = .ok (.isub, 1) := by decide +kernel
theorem dX7_links_11 : decode cX7_links 11 = .ok (.invokestatic 70, 3) := by decide +kernel
theorem dX7_links_14 : decode cX7_links 14 = .ok (.ifCond .ne 5, 3) := by decide +kernel
theorem dX7_links_17 : decode cX7_links 17 = .ok (.iconst (-1), 1) := by decide +kernel
theorem dX7_links_18 : decode cX7_links 18 = .ok (.ireturn, 1) := by decide +kernel
theorem dX7_links_19 : decode cX7_links 19 = .ok (.iload_n 2, 1) := by decide +kernel
theorem dX7_links_20 : decode cX7_links 20 = .ok (.iconst 0, 1) := by decide +kernel
theorem dX7_links_21 : decode cX7_links 21 = .ok (.iconst 1, 1) := by decide +kernel
theorem dX7_links_22 : decode cX7_links 22 = .ok (.invokestatic 70, 3) := by decide +kernel
theorem dX7_links_25 : decode cX7_links 25 = .ok (.ifCond .ne 6, 3) := by decide +kernel
theorem dX7_links_28 : decode cX7_links 28 = .ok (.bipush (-2), 2) := by decide +kernel
theorem dX7_links_30 : decode cX7_links 30 = .ok (.ireturn, 1) := by decide +kernel
theorem dX7_links_31 : decode cX7_links 31 = .ok (.aload_n 0, 1) := by decide +kernel
theorem dX7_links_32 : decode cX7_links 32 = .ok (.getfield 12, 3) := by decide +kernel
theorem dX7_links_35 : decode cX7_links 35 = .ok (.iload_n 1, 1) := by decide +kernel
theorem dX7_links_36 : decode cX7_links 36 = .ok (.iload_n 2, 1) := by decide +kernel
theorem dX7_links_37 : decode cX7_links 37 = .ok (.invokevirtual 128, 3) := by decide +kernel
theorem dX7_links_40 : decode cX7_links 40 = .ok (.ireturn, 1) := by decide +kernel
theorem dX7_order_0 : decode cX7_order 0 = .ok (.aload_n 0, 1) := by decide +kernel
theorem dX7_order_1 : decode cX7_order 1 = .ok (.iconst 0, 1) := by decide +kernel
theorem dX7_order_2 : decode cX7_order 2 = .ok (.putfield 66, 3) := by decide +kernel
theorem dX7_order_5 : decode cX7_order 5 = .ok (.iload_n 2, 1) := by decide +kernel
theorem dX7_order_6 : decode cX7_order 6 = .ok (.iconst 0, 1) := by decide +kernel
theorem dX7_order_7 : decode cX7_order 7 = .ok (.iconst 3, 1) := by decide +kernel
theorem dX7_order_8 : decode cX7_order 8 = .ok (.invokestatic 70, 3) := by decide +kernel
theorem dX7_order_11 : decode cX7_order 11 = .ok (.ifCond .ne 5, 3) := by decide +kernel
theorem dX7_order_14 : decode cX7_order 14 = .ok (.iconst (-1), 1) := by decide +kernel
theorem dX7_order_15 : decode cX7_order 15 = .ok (.ireturn, 1) := by decide +kernel
theorem dX7_order_16 : decode cX7_order 16 = .ok (.iload_n 3, 1) := by decide +kernel
theorem dX7_order_17 : decode cX7_order 17 = .ok (.iconst 0, 1) := by decide +kernel
theorem dX7_order_18 : decode cX7_order 18 = .ok (.iconst 2, 1) := by decide +kernel
theorem dX7_order_19 : decode cX7_order 19 = .ok (.invokestatic 70, 3) := by decide +kernel
theorem dX7_order_22 : decode cX7_order 22 = .ok (.ifCond .eq 12, 3) := by decide +kernel
theorem dX7_order_25 : decode cX7_order 25 = .ok (.iload_n 1, 1) := by decide +kernel
theorem dX7_order_26 : decode cX7_order 26 = .ok (.iconst 1, 1) := by decide +kernel
theorem dX7_order_27 : decode cX7_order 27 = .ok (.iconst 3, 1) := by decide +kernel
theorem dX7_order_28 : decode cX7_order 28 = .ok (.invokestatic 70, 3) := by decide +kernel
theorem dX7_order_31 : decode cX7_order 31 = .ok (.ifCond .ne 6, 3) := by decide +kernel
theorem dX7_order_34 : decode cX7_order 34 = .ok (.bipush (-2), 2) := by decide +kernel
theorem dX7_order_36 : decode cX7_order 36 = .ok (.ireturn, 1) := by decide +kernel
theorem dX7_order_37 : decode cX7_order 37 = .ok (.iconst 1, 1) := by decide +kernel
theorem dX7_order_38 : decode cX7_order 38 = .ok (.iload_n 1, 1) := by decide +kernel
theorem dX7_order_39 : decode cX7_order 39 = .ok (.ishl, 1) := by decide +kernel
theorem dX7_order_40 : decode cX7_order 40 = .ok (.istore 5, 2) := by decide +kernel
theorem dX7_order_42 : decode cX7_order 42 = .ok (.aload_n 0, 1) := by decide +kernel
theorem dX7_order_43 : decode cX7_order 43 = .ok (.getfield 58, 3) := by decide +kernel
theorem dX7_order_46 : decode cX7_order 46 = .ok (.iload_n 2, 1) := by decide +kernel
theorem dX7_order_47 : decode cX7_order 47 = .ok (.iload_n 3, 1) := by decide +kernel
theorem dX7_order_48 : decode cX7_order 48 = .ok (.iload 4, 2) := by decide +kernel
theorem dX7_order_50 : decode cX7_order 50 = .ok (.iload 5, 2) := by decide +kernel
theorem dX7_order_52 : decode cX7_order 52 = .ok (.invokevirtual 131, 3) := by decide +kernel
theorem dX7_order_55 : decode cX7_order 55 = .ok (.istore 6, 2) := by decide +kernel
theorem dX7_order_57 : decode cX7_order 57 = .ok (.iload 6, 2) := by decide +kernel
theorem dX7_order_59 : decode cX7_order 59 = .ok (.ifCond .eq 10, 3) := by decide +kernel
theorem dX7_order_62 : decode cX7_order 62 = .ok (.aload_n 0, 1) := by decide +kernel
theorem dX7_order_63 : decode cX7_order 63 = .ok (.iload 6, 2) := by decide +kernel
theorem dX7_order_65 : decode cX7_order 65 = .ok (.invokevirtual 135, 3) := by decide +kernel
theorem dX7_order_68 : decode cX7_order 68 = .ok (.ireturn, 1) := by decide +kernel
theorem dX7_order_69 : decode cX7_order 69 = .ok (.aload_n 0, 1) := by decide +kernel
theorem dX7_order_70 : decode cX7_order 70 = .ok (.getfield 58, 3) := by decide +kernel
theorem dX7_order_73 : decode cX7_order 73 = .ok (.iload_n 2, 1) := by decide +kernel
theorem dX7_order_74 : decode cX7_order 74 = .ok (.iload 4, 2) := by decide +kernel
theorem dX7_order_76 : decode cX7_order 76 = .ok (.aload_n 0, 1) := by decide +kernel
theorem dX7_order_77 : decode cX7_order 77 = .ok (.getfield 62, 3) := by decide +kernel
theorem dX7_order_80 : decode cX7_order 80 = .ok (.iload 5, 2) := by decide +kernel
theorem dX7_order_82 : decode cX7_order 82 = .ok (.invokevirtual 138, 3) := by decide +kernel
theorem dX7_order_85 : decode cX7_order 85 = .ok (.aload_n 0, 1) := by decide +kernel
theorem dX7_order_86 : decode cX7_order 86 = .ok (.getfield 21, 3) := by decide +kernel
theorem dX7_order_89 : decode cX7_order 89 = .ok (.iload_n 1, 1) := by decide +kernel
theorem dX7_order_90 : decode cX7_order 90 = .ok (.aload_n 0, 1) := by decide +kernel
theorem dX7_order_91 : decode cX7_order 91 = .ok (.getfield 62, 3) := by decide +kernel
theorem dX7_order_94 : decode cX7_order 94 = .ok (.invokevirtual 142, 3) := by decide +kernel
theorem dX7_order_97 : decode cX7_order 97 = .ok (.ifCond .eq 8, 3) := by decide +kernel
theorem dX7_order_100 : decode cX7_order 100 = .ok (.iload 5, 2) := by decide +kernel
theorem dX7_order_102 : decode cX7_order 102 = .ok (.goto 5, 3) := by decide +kernel
theorem dX7_order_105 : decode cX7_order 105 = .ok (.bipush (-2), 2) := by decide +kernel
theorem dX7_order_107 : decode cX7_order 107 = .ok (.ireturn, 1) := by decide +kernel
theorem dX7_outlet_0 : decode cX7_outlet 0 = .ok (.iload_n 1, 1) := by decide +kernel
theorem dX7_outlet_1 : decode cX7_outlet 1 = .ok (.iconst 0, 1) := by decide +kernel
theorem dX7_outlet_2 : decode cX7_outlet 2 = .ok (.aload_n 0, 1) := by decide +kernel
theorem dX7_outlet_3 : decode cX7_outlet 3 = .ok (.getfield 21, 3) := by decide +kernel
theorem dX7_outlet_6 : decode cX7_outlet 6 = .ok (.invokevirtual 146, 3) := by decide +kernel
theorem dX7_outlet_9 : decode cX7_outlet 9 = .ok (.iconst 1, 1) := by decide +kernel
theorem dX7_outlet_10 : decode cX7_outlet 10 = .ok (.isub, 1) := by decide +kernel
theorem dX7_outlet_11 : decode cX7_outlet 11 = .ok (.invokestatic 70, 3) := by decide +kernel
theorem dX7_outlet_14 : decode cX7_outlet 14 = .ok (.ifCond .eq 15, 3) := by decide +kernel
theorem dX7_outlet_17 : decode cX7_outlet 17 = .ok (.aload_n 0, 1) := by decide +kernel
theorem dX7_outlet_18 : decode cX7_outlet 18 = .ok (.getfield 21, 3) := by decide +kernel
theorem dX7_outlet_21 : decode cX7_outlet 21 = .ok (.getfield 149, 3) := by decide +kernel
theorem dX7_outlet_24 : decode cX7_outlet 24 = .ok (.iload_n 1, 1) := by decide +kernel
theorem dX7_outlet_25 : decode cX7_outlet 25 = .ok (.iaload, 1) := by decide +kernel
theorem dX7_outlet_26 : decode cX7_outlet 26 = .ok (.goto 4, 3) := by decide +kernel
theorem dX7_outlet_29 : decode cX7_outlet 29 = .ok (.iconst (-1), 1) := by decide +kernel
theorem dX7_outlet_30 : decode cX7_outlet 30 = .ok (.ireturn, 1) := by decide +kernel
theorem dX7_ways_0 : decode cX7_ways 0 = .ok (.aload_n 0, 1) := by decide +kernel
theorem dX7_ways_1 : decode cX7_ways 1 = .ok (.getfield 21, 3) := by decide +kernel
theorem dX7_ways_4 : decode cX7_ways 4 = .ok (.invokevirtual 152, 3) := by decide +kernel
theorem dX7_ways_7 : decode cX7_ways 7 = .ok (.lreturn, 1) := by decide +kernel
theorem dX7_first_0 : decode cX7_first 0 = .ok (.aload_n 0, 1) := by decide +kernel
theorem dX7_first_1 : decode cX7_first 1 = .ok (.getfield 21, 3) := by decide +kernel
theorem dX7_first_4 : decode cX7_first 4 = .ok (.invokevirtual 156, 3) := by decide +kernel
theorem dX7_first_7 : decode cX7_first 7 = .ok (.lreturn, 1) := by decide +kernel
theorem dX7_carry_0 : decode cX7_carry 0 = .ok (.iload_n 1, 1) := by decide +kernel
theorem dX7_carry_1 : decode cX7_carry 1 = .ok (.iconst 1, 1) := by decide +kernel
theorem dX7_carry_2 : decode cX7_carry 2 = .ok (.iconst 3, 1) := by decide +kernel
theorem dX7_carry_3 : decode cX7_carry 3 = .ok (.invokestatic 70, 3) := by decide +kernel
theorem dX7_carry_6 : decode cX7_carry 6 = .ok (.ifCond .eq 15, 3) := by decide +kernel
theorem dX7_carry_9 : decode cX7_carry 9 = .ok (.lload_n 2, 1) := by decide +kernel
theorem dX7_carry_10 : decode cX7_carry 10 = .ok (.getstatic 159, 3) := by decide +kernel
theorem dX7_carry_13 : decode cX7_carry 13 = .ok (.iload_n 1, 1) := by decide +kernel
theorem dX7_carry_14 : decode cX7_carry 14 = .ok (.iaload, 1) := by decide +kernel
theorem dX7_carry_15 : decode cX7_carry 15 = .ok (.lushr, 1) := by decide +kernel
theorem dX7_carry_16 : decode cX7_carry 16 = .ok (.lconst 0, 1) := by decide +kernel
theorem dX7_carry_17 : decode cX7_carry 17 = .ok (.lcmp, 1) := by decide +kernel
theorem dX7_carry_18 : decode cX7_carry 18 = .ok (.ifCond .eq 6, 3) := by decide +kernel
theorem dX7_carry_21 : decode cX7_carry 21 = .ok (.bipush (-2), 2) := by decide +kernel
theorem dX7_carry_23 : decode cX7_carry 23 = .ok (.ireturn, 1) := by decide +kernel
theorem dX7_carry_24 : decode cX7_carry 24 = .ok (.aload_n 0, 1) := by decide +kernel
theorem dX7_carry_25 : decode cX7_carry 25 = .ok (.getfield 21, 3) := by decide +kernel
theorem dX7_carry_28 : decode cX7_carry 28 = .ok (.iload_n 1, 1) := by decide +kernel
theorem dX7_carry_29 : decode cX7_carry 29 = .ok (.lload_n 2, 1) := by decide +kernel
theorem dX7_carry_30 : decode cX7_carry 30 = .ok (.l2i, 1) := by decide +kernel
theorem dX7_carry_31 : decode cX7_carry 31 = .ok (.invokevirtual 162, 3) := by decide +kernel
theorem dX7_carry_34 : decode cX7_carry 34 = .ok (.aload_n 0, 1) := by decide +kernel
theorem dX7_carry_35 : decode cX7_carry 35 = .ok (.getfield 21, 3) := by decide +kernel
theorem dX7_carry_38 : decode cX7_carry 38 = .ok (.invokevirtual 146, 3) := by decide +kernel
theorem dX7_carry_41 : decode cX7_carry 41 = .ok (.ireturn, 1) := by decide +kernel
theorem dX7_line_0 : decode cX7_line 0 = .ok (.iload_n 1, 1) := by decide +kernel
theorem dX7_line_1 : decode cX7_line 1 = .ok (.iconst 0, 1) := by decide +kernel
theorem dX7_line_2 : decode cX7_line 2 = .ok (.aload_n 0, 1) := by decide +kernel
theorem dX7_line_3 : decode cX7_line 3 = .ok (.getfield 21, 3) := by decide +kernel
theorem dX7_line_6 : decode cX7_line 6 = .ok (.invokevirtual 146, 3) := by decide +kernel
theorem dX7_line_9 : decode cX7_line 9 = .ok (.iconst 1, 1) := by decide +kernel
theorem dX7_line_10 : decode cX7_line 10 = .ok (.isub, 1) := by decide +kernel
theorem dX7_line_11 : decode cX7_line 11 = .ok (.invokestatic 70, 3) := by decide +kernel
theorem dX7_line_14 : decode cX7_line 14 = .ok (.ifCond .eq 20, 3) := by decide +kernel
theorem dX7_line_17 : decode cX7_line 17 = .ok (.iload_n 2, 1) := by decide +kernel
theorem dX7_line_18 : decode cX7_line 18 = .ok (.iconst 0, 1) := by decide +kernel
theorem dX7_line_19 : decode cX7_line 19 = .ok (.aload_n 0, 1) := by decide +kernel
theorem dX7_line_20 : decode cX7_line 20 = .ok (.getfield 21, 3) := by decide +kernel
theorem dX7_line_23 : decode cX7_line 23 = .ok (.getfield 166, 3) := by decide +kernel
theorem dX7_line_26 : decode cX7_line 26 = .ok (.iconst 1, 1) := by decide +kernel
theorem dX7_line_27 : decode cX7_line 27 = .ok (.isub, 1) := by decide +kernel
theorem dX7_line_28 : decode cX7_line 28 = .ok (.invokestatic 70, 3) := by decide +kernel
theorem dX7_line_31 : decode cX7_line 31 = .ok (.ifCond .ne 5, 3) := by decide +kernel
theorem dX7_line_34 : decode cX7_line 34 = .ok (.iconst (-1), 1) := by decide +kernel
theorem dX7_line_35 : decode cX7_line 35 = .ok (.ireturn, 1) := by decide +kernel
theorem dX7_line_36 : decode cX7_line 36 = .ok (.aload_n 0, 1) := by decide +kernel
theorem dX7_line_37 : decode cX7_line 37 = .ok (.getfield 30, 3) := by decide +kernel
theorem dX7_line_40 : decode cX7_line 40 = .ok (.iload_n 1, 1) := by decide +kernel
theorem dX7_line_41 : decode cX7_line 41 = .ok (.iload_n 2, 1) := by decide +kernel
theorem dX7_line_42 : decode cX7_line 42 = .ok (.invokevirtual 169, 3) := by decide +kernel
theorem dX7_line_45 : decode cX7_line 45 = .ok (.ireturn, 1) := by decide +kernel
theorem dX7_clash_0 : decode cX7_clash 0 = .ok (.iload_n 1, 1) := by decide +kernel
theorem dX7_clash_1 : decode cX7_clash 1 = .ok (.iconst 0, 1) := by decide +kernel
theorem dX7_clash_2 : decode cX7_clash 2 = .ok (.aload_n 0, 1) := by decide +kernel
theorem dX7_clash_3 : decode cX7_clash 3 = .ok (.getfield 21, 3) := by decide +kernel
theorem dX7_clash_6 : decode cX7_clash 6 = .ok (.invokevirtual 146, 3) := by decide +kernel
theorem dX7_clash_9 : decode cX7_clash 9 = .ok (.iconst 1, 1) := by decide +kernel
theorem dX7_clash_10 : decode cX7_clash 10 = .ok (.isub, 1) := by decide +kernel
theorem dX7_clash_11 : decode cX7_clash 11 = .ok (.invokestatic 70, 3) := by decide +kernel
theorem dX7_clash_14 : decode cX7_clash 14 = .ok (.ifCond .eq 20, 3) := by decide +kernel
theorem dX7_clash_17 : decode cX7_clash 17 = .ok (.iload_n 2, 1) := by decide +kernel
theorem dX7_clash_18 : decode cX7_clash 18 = .ok (.iconst 0, 1) := by decide +kernel
theorem dX7_clash_19 : decode cX7_clash 19 = .ok (.aload_n 0, 1) := by decide +kernel
theorem dX7_clash_20 : decode cX7_clash 20 = .ok (.getfield 21, 3) := by decide +kernel
