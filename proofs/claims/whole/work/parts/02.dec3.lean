theorem dX7_clash_23 : decode cX7_clash 23 = .ok (.invokevirtual 146, 3) := by decide +kernel
theorem dX7_clash_26 : decode cX7_clash 26 = .ok (.iconst 1, 1) := by decide +kernel
theorem dX7_clash_27 : decode cX7_clash 27 = .ok (.isub, 1) := by decide +kernel
theorem dX7_clash_28 : decode cX7_clash 28 = .ok (.invokestatic 70, 3) := by decide +kernel
theorem dX7_clash_31 : decode cX7_clash 31 = .ok (.ifCond .ne 5, 3) := by decide +kernel
theorem dX7_clash_34 : decode cX7_clash 34 = .ok (.iconst (-1), 1) := by decide +kernel
theorem dX7_clash_35 : decode cX7_clash 35 = .ok (.ireturn, 1) := by decide +kernel
theorem dX7_clash_36 : decode cX7_clash 36 = .ok (.iload_n 1, 1) := by decide +kernel
theorem dX7_clash_37 : decode cX7_clash 37 = .ok (.iload_n 2, 1) := by decide +kernel
theorem dX7_clash_38 : decode cX7_clash 38 = .ok (.if_icmp .ne 8, 3) := by decide +kernel
theorem dX7_clash_41 : decode cX7_clash 41 = .ok (.bipush (-3), 2) := by decide +kernel
theorem dX7_clash_43 : decode cX7_clash 43 = .ok (.goto 12, 3) := by decide +kernel
theorem dX7_clash_46 : decode cX7_clash 46 = .ok (.aload_n 0, 1) := by decide +kernel
theorem dX7_clash_47 : decode cX7_clash 47 = .ok (.getfield 30, 3) := by decide +kernel
theorem dX7_clash_50 : decode cX7_clash 50 = .ok (.iload_n 1, 1) := by decide +kernel
theorem dX7_clash_51 : decode cX7_clash 51 = .ok (.iload_n 2, 1) := by decide +kernel
theorem dX7_clash_52 : decode cX7_clash 52 = .ok (.invokevirtual 172, 3) := by decide +kernel
theorem dX7_clash_55 : decode cX7_clash 55 = .ok (.ireturn, 1) := by decide +kernel
theorem dX7_rounds_0 : decode cX7_rounds 0 = .ok (.aload_n 0, 1) := by decide +kernel
theorem dX7_rounds_1 : decode cX7_rounds 1 = .ok (.getfield 30, 3) := by decide +kernel
theorem dX7_rounds_4 : decode cX7_rounds 4 = .ok (.invokevirtual 175, 3) := by decide +kernel
theorem dX7_rounds_7 : decode cX7_rounds 7 = .ok (.ireturn, 1) := by decide +kernel
theorem dX7_round_0 : decode cX7_round 0 = .ok (.iload_n 1, 1) := by decide +kernel
theorem dX7_round_1 : decode cX7_round 1 = .ok (.iconst 0, 1) := by decide +kernel
theorem dX7_round_2 : decode cX7_round 2 = .ok (.aload_n 0, 1) := by decide +kernel
theorem dX7_round_3 : decode cX7_round 3 = .ok (.getfield 21, 3) := by decide +kernel
theorem dX7_round_6 : decode cX7_round 6 = .ok (.invokevirtual 146, 3) := by decide +kernel
theorem dX7_round_9 : decode cX7_round 9 = .ok (.iconst 1, 1) := by decide +kernel
theorem dX7_round_10 : decode cX7_round 10 = .ok (.isub, 1) := by decide +kernel
theorem dX7_round_11 : decode cX7_round 11 = .ok (.invokestatic 70, 3) := by decide +kernel
theorem dX7_round_14 : decode cX7_round 14 = .ok (.ifCond .ne 5, 3) := by decide +kernel
theorem dX7_round_17 : decode cX7_round 17 = .ok (.iconst (-1), 1) := by decide +kernel
theorem dX7_round_18 : decode cX7_round 18 = .ok (.ireturn, 1) := by decide +kernel
theorem dX7_round_19 : decode cX7_round 19 = .ok (.aload_n 0, 1) := by decide +kernel
theorem dX7_round_20 : decode cX7_round 20 = .ok (.getfield 30, 3) := by decide +kernel
theorem dX7_round_23 : decode cX7_round 23 = .ok (.invokevirtual 175, 3) := by decide +kernel
theorem dX7_round_26 : decode cX7_round 26 = .ok (.pop, 1) := by decide +kernel
theorem dX7_round_27 : decode cX7_round 27 = .ok (.aload_n 0, 1) := by decide +kernel
theorem dX7_round_28 : decode cX7_round 28 = .ok (.getfield 30, 3) := by decide +kernel
theorem dX7_round_31 : decode cX7_round 31 = .ok (.getfield 178, 3) := by decide +kernel
theorem dX7_round_34 : decode cX7_round 34 = .ok (.iload_n 1, 1) := by decide +kernel
theorem dX7_round_35 : decode cX7_round 35 = .ok (.iaload, 1) := by decide +kernel
theorem dX7_round_36 : decode cX7_round 36 = .ok (.ireturn, 1) := by decide +kernel
theorem dX7_wires_0 : decode cX7_wires 0 = .ok (.iload_n 1, 1) := by decide +kernel
theorem dX7_wires_1 : decode cX7_wires 1 = .ok (.iconst 2, 1) := by decide +kernel
theorem dX7_wires_2 : decode cX7_wires 2 = .ok (.bipush 8, 2) := by decide +kernel
theorem dX7_wires_4 : decode cX7_wires 4 = .ok (.invokestatic 70, 3) := by decide +kernel
theorem dX7_wires_7 : decode cX7_wires 7 = .ok (.ifCond .ne 6, 3) := by decide +kernel
theorem dX7_wires_10 : decode cX7_wires 10 = .ok (.bipush (-2), 2) := by decide +kernel
theorem dX7_wires_12 : decode cX7_wires 12 = .ok (.ireturn, 1) := by decide +kernel
theorem dX7_wires_13 : decode cX7_wires 13 = .ok (.aload_n 0, 1) := by decide +kernel
theorem dX7_wires_14 : decode cX7_wires 14 = .ok (.getfield 37, 3) := by decide +kernel
theorem dX7_wires_17 : decode cX7_wires 17 = .ok (.getfield 181, 3) := by decide +kernel
theorem dX7_wires_20 : decode cX7_wires 20 = .ok (.istore_n 2, 1) := by decide +kernel
theorem dX7_wires_21 : decode cX7_wires 21 = .ok (.aload_n 0, 1) := by decide +kernel
theorem dX7_wires_22 : decode cX7_wires 22 = .ok (.getfield 37, 3) := by decide +kernel
theorem dX7_wires_25 : decode cX7_wires 25 = .ok (.iload_n 1, 1) := by decide +kernel
theorem dX7_wires_26 : decode cX7_wires 26 = .ok (.invokevirtual 184, 3) := by decide +kernel
theorem dX7_wires_29 : decode cX7_wires 29 = .ok (.iload_n 2, 1) := by decide +kernel
theorem dX7_wires_30 : decode cX7_wires 30 = .ok (.ireturn, 1) := by decide +kernel
theorem dX7_compare_0 : decode cX7_compare 0 = .ok (.iload_n 1, 1) := by decide +kernel
theorem dX7_compare_1 : decode cX7_compare 1 = .ok (.iconst 0, 1) := by decide +kernel
theorem dX7_compare_2 : decode cX7_compare 2 = .ok (.aload_n 0, 1) := by decide +kernel
theorem dX7_compare_3 : decode cX7_compare 3 = .ok (.getfield 37, 3) := by decide +kernel
theorem dX7_compare_6 : decode cX7_compare 6 = .ok (.getfield 188, 3) := by decide +kernel
theorem dX7_compare_9 : decode cX7_compare 9 = .ok (.iconst 1, 1) := by decide +kernel
theorem dX7_compare_10 : decode cX7_compare 10 = .ok (.isub, 1) := by decide +kernel
theorem dX7_compare_11 : decode cX7_compare 11 = .ok (.invokestatic 70, 3) := by decide +kernel
theorem dX7_compare_14 : decode cX7_compare 14 = .ok (.ifCond .eq 20, 3) := by decide +kernel
theorem dX7_compare_17 : decode cX7_compare 17 = .ok (.iload_n 2, 1) := by decide +kernel
theorem dX7_compare_18 : decode cX7_compare 18 = .ok (.iconst 0, 1) := by decide +kernel
theorem dX7_compare_19 : decode cX7_compare 19 = .ok (.aload_n 0, 1) := by decide +kernel
theorem dX7_compare_20 : decode cX7_compare 20 = .ok (.getfield 37, 3) := by decide +kernel
theorem dX7_compare_23 : decode cX7_compare 23 = .ok (.getfield 188, 3) := by decide +kernel
theorem dX7_compare_26 : decode cX7_compare 26 = .ok (.iconst 1, 1) := by decide +kernel
theorem dX7_compare_27 : decode cX7_compare 27 = .ok (.isub, 1) := by decide +kernel
theorem dX7_compare_28 : decode cX7_compare 28 = .ok (.invokestatic 70, 3) := by decide +kernel
theorem dX7_compare_31 : decode cX7_compare 31 = .ok (.ifCond .ne 5, 3) := by decide +kernel
theorem dX7_compare_34 : decode cX7_compare 34 = .ok (.iconst (-1), 1) := by decide +kernel
theorem dX7_compare_35 : decode cX7_compare 35 = .ok (.ireturn, 1) := by decide +kernel
theorem dX7_compare_36 : decode cX7_compare 36 = .ok (.iload_n 1, 1) := by decide +kernel
theorem dX7_compare_37 : decode cX7_compare 37 = .ok (.iload_n 2, 1) := by decide +kernel
theorem dX7_compare_38 : decode cX7_compare 38 = .ok (.if_icmp .ne 6, 3) := by decide +kernel
theorem dX7_compare_41 : decode cX7_compare 41 = .ok (.bipush (-2), 2) := by decide +kernel
theorem dX7_compare_43 : decode cX7_compare 43 = .ok (.ireturn, 1) := by decide +kernel
theorem dX7_compare_44 : decode cX7_compare 44 = .ok (.aload_n 0, 1) := by decide +kernel
theorem dX7_compare_45 : decode cX7_compare 45 = .ok (.getfield 37, 3) := by decide +kernel
theorem dX7_compare_48 : decode cX7_compare 48 = .ok (.getfield 181, 3) := by decide +kernel
theorem dX7_compare_51 : decode cX7_compare 51 = .ok (.bipush 30, 2) := by decide +kernel
theorem dX7_compare_53 : decode cX7_compare 53 = .ok (.if_icmp .lt 8, 3) := by decide +kernel
theorem dX7_compare_56 : decode cX7_compare 56 = .ok (.bipush (-4), 2) := by decide +kernel
theorem dX7_compare_58 : decode cX7_compare 58 = .ok (.goto 12, 3) := by decide +kernel
theorem dX7_compare_61 : decode cX7_compare 61 = .ok (.aload_n 0, 1) := by decide +kernel
theorem dX7_compare_62 : decode cX7_compare 62 = .ok (.getfield 37, 3) := by decide +kernel
theorem dX7_compare_65 : decode cX7_compare 65 = .ok (.iload_n 1, 1) := by decide +kernel
theorem dX7_compare_66 : decode cX7_compare 66 = .ok (.iload_n 2, 1) := by decide +kernel
theorem dX7_compare_67 : decode cX7_compare 67 = .ok (.invokevirtual 190, 3) := by decide +kernel
theorem dX7_compare_70 : decode cX7_compare 70 = .ok (.ireturn, 1) := by decide +kernel
theorem dX7_back_0 : decode cX7_back 0 = .ok (.aload_n 0, 1) := by decide +kernel
theorem dX7_back_1 : decode cX7_back 1 = .ok (.getfield 37, 3) := by decide +kernel
theorem dX7_back_4 : decode cX7_back 4 = .ok (.getfield 181, 3) := by decide +kernel
theorem dX7_back_7 : decode cX7_back 7 = .ok (.ifCond .ne 8, 3) := by decide +kernel
theorem dX7_back_10 : decode cX7_back 10 = .ok (.bipush (-3), 2) := by decide +kernel
theorem dX7_back_12 : decode cX7_back 12 = .ok (.goto 10, 3) := by decide +kernel
theorem dX7_back_15 : decode cX7_back 15 = .ok (.aload_n 0, 1) := by decide +kernel
theorem dX7_back_16 : decode cX7_back 16 = .ok (.getfield 37, 3) := by decide +kernel
theorem dX7_back_19 : decode cX7_back 19 = .ok (.invokevirtual 193, 3) := by decide +kernel
theorem dX7_back_22 : decode cX7_back 22 = .ok (.ireturn, 1) := by decide +kernel
theorem dX7_sorter_0 : decode cX7_sorter 0 = .ok (.iload_n 1, 1) := by decide +kernel
theorem dX7_sorter_1 : decode cX7_sorter 1 = .ok (.tableswitch 97 0 5 #[39, 47, 55, 73, 81, 89], 39) := by decide +kernel
theorem dX7_sorter_40 : decode cX7_sorter 40 = .ok (.aload_n 0, 1) := by decide +kernel
theorem dX7_sorter_41 : decode cX7_sorter 41 = .ok (.getfield 37, 3) := by decide +kernel
theorem dX7_sorter_44 : decode cX7_sorter 44 = .ok (.getfield 181, 3) := by decide +kernel
theorem dX7_sorter_47 : decode cX7_sorter 47 = .ok (.ireturn, 1) := by decide +kernel
theorem dX7_sorter_48 : decode cX7_sorter 48 = .ok (.aload_n 0, 1) := by decide +kernel
theorem dX7_sorter_49 : decode cX7_sorter 49 = .ok (.getfield 37, 3) := by decide +kernel
theorem dX7_sorter_52 : decode cX7_sorter 52 = .ok (.getfield 196, 3) := by decide +kernel
theorem dX7_sorter_55 : decode cX7_sorter 55 = .ok (.ireturn, 1) := by decide +kernel
theorem dX7_sorter_56 : decode cX7_sorter 56 = .ok (.aload_n 0, 1) := by decide +kernel
theorem dX7_sorter_57 : decode cX7_sorter 57 = .ok (.getfield 37, 3) := by decide +kernel
theorem dX7_sorter_60 : decode cX7_sorter 60 = .ok (.invokevirtual 199, 3) := by decide +kernel
theorem dX7_sorter_63 : decode cX7_sorter 63 = .ok (.bipush (-9), 2) := by decide +kernel
theorem dX7_sorter_65 : decode cX7_sorter 65 = .ok (.if_icmp .ne 7, 3) := by decide +kernel
theorem dX7_sorter_68 : decode cX7_sorter 68 = .ok (.iconst 1, 1) := by decide +kernel
theorem dX7_sorter_69 : decode cX7_sorter 69 = .ok (.goto 4, 3) := by decide +kernel
theorem dX7_sorter_72 : decode cX7_sorter 72 = .ok (.iconst 0, 1) := by decide +kernel
theorem dX7_sorter_73 : decode cX7_sorter 73 = .ok (.ireturn, 1) := by decide +kernel
theorem dX7_sorter_74 : decode cX7_sorter 74 = .ok (.aload_n 0, 1) := by decide +kernel
theorem dX7_sorter_75 : decode cX7_sorter 75 = .ok (.getfield 37, 3) := by decide +kernel
theorem dX7_sorter_78 : decode cX7_sorter 78 = .ok (.invokevirtual 199, 3) := by decide +kernel
theorem dX7_sorter_81 : decode cX7_sorter 81 = .ok (.ireturn, 1) := by decide +kernel
theorem dX7_sorter_82 : decode cX7_sorter 82 = .ok (.aload_n 0, 1) := by decide +kernel
theorem dX7_sorter_83 : decode cX7_sorter 83 = .ok (.getfield 37, 3) := by decide +kernel
theorem dX7_sorter_86 : decode cX7_sorter 86 = .ok (.invokevirtual 202, 3) := by decide +kernel
theorem dX7_sorter_89 : decode cX7_sorter 89 = .ok (.ireturn, 1) := by decide +kernel
theorem dX7_sorter_90 : decode cX7_sorter 90 = .ok (.aload_n 0, 1) := by decide +kernel
theorem dX7_sorter_91 : decode cX7_sorter 91 = .ok (.getfield 37, 3) := by decide +kernel
theorem dX7_sorter_94 : decode cX7_sorter 94 = .ok (.invokevirtual 205, 3) := by decide +kernel
theorem dX7_sorter_97 : decode cX7_sorter 97 = .ok (.ireturn, 1) := by decide +kernel
theorem dX7_sorter_98 : decode cX7_sorter 98 = .ok (.bipush (-2), 2) := by decide +kernel
theorem dX7_sorter_100 : decode cX7_sorter 100 = .ok (.ireturn, 1) := by decide +kernel
theorem dX7_comparer_0 : decode cX7_comparer 0 = .ok (.iload_n 1, 1) := by decide +kernel
theorem dX7_comparer_1 : decode cX7_comparer 1 = .ok (.iconst 0, 1) := by decide +kernel
theorem dX7_comparer_2 : decode cX7_comparer 2 = .ok (.aload_n 0, 1) := by decide +kernel
theorem dX7_comparer_3 : decode cX7_comparer 3 = .ok (.getfield 37, 3) := by decide +kernel
theorem dX7_comparer_6 : decode cX7_comparer 6 = .ok (.getfield 181, 3) := by decide +kernel
theorem dX7_comparer_9 : decode cX7_comparer 9 = .ok (.iconst 1, 1) := by decide +kernel
theorem dX7_comparer_10 : decode cX7_comparer 10 = .ok (.isub, 1) := by decide +kernel
theorem dX7_comparer_11 : decode cX7_comparer 11 = .ok (.invokestatic 70, 3) := by decide +kernel
theorem dX7_comparer_14 : decode cX7_comparer 14 = .ok (.ifCond .ne 5, 3) := by decide +kernel
theorem dX7_comparer_17 : decode cX7_comparer 17 = .ok (.iconst (-1), 1) := by decide +kernel
theorem dX7_comparer_18 : decode cX7_comparer 18 = .ok (.ireturn, 1) := by decide +kernel
theorem dX7_comparer_19 : decode cX7_comparer 19 = .ok (.iload_n 2, 1) := by decide +kernel
theorem dX7_comparer_20 : decode cX7_comparer 20 = .ok (.tableswitch 93 0 4 #[36, 46, 56, 66, 84], 36) := by decide +kernel
theorem dX7_comparer_56 : decode cX7_comparer 56 = .ok (.aload_n 0, 1) := by decide +kernel
theorem dX7_comparer_57 : decode cX7_comparer 57 = .ok (.getfield 37, 3) := by decide +kernel
theorem dX7_comparer_60 : decode cX7_comparer 60 = .ok (.getfield 208, 3) := by decide +kernel
theorem dX7_comparer_63 : decode cX7_comparer 63 = .ok (.iload_n 1, 1) := by decide +kernel
theorem dX7_comparer_64 : decode cX7_comparer 64 = .ok (.iaload, 1) := by decide +kernel
theorem dX7_comparer_65 : decode cX7_comparer 65 = .ok (.ireturn, 1) := by decide +kernel
theorem dX7_comparer_66 : decode cX7_comparer 66 = .ok (.aload_n 0, 1) := by decide +kernel
theorem dX7_comparer_67 : decode cX7_comparer 67 = .ok (.getfield 37, 3) := by decide +kernel
theorem dX7_comparer_70 : decode cX7_comparer 70 = .ok (.getfield 211, 3) := by decide +kernel
theorem dX7_comparer_73 : decode cX7_comparer 73 = .ok (.iload_n 1, 1) := by decide +kernel
theorem dX7_comparer_74 : decode cX7_comparer 74 = .ok (.iaload, 1) := by decide +kernel
theorem dX7_comparer_75 : decode cX7_comparer 75 = .ok (.ireturn, 1) := by decide +kernel
theorem dX7_comparer_76 : decode cX7_comparer 76 = .ok (.aload_n 0, 1) := by decide +kernel
theorem dX7_comparer_77 : decode cX7_comparer 77 = .ok (.getfield 37, 3) := by decide +kernel
theorem dX7_comparer_80 : decode cX7_comparer 80 = .ok (.getfield 214, 3) := by decide +kernel
theorem dX7_comparer_83 : decode cX7_comparer 83 = .ok (.iload_n 1, 1) := by decide +kernel
theorem dX7_comparer_84 : decode cX7_comparer 84 = .ok (.iaload, 1) := by decide +kernel
theorem dX7_comparer_85 : decode cX7_comparer 85 = .ok (.ireturn, 1) := by decide +kernel
theorem dX7_comparer_86 : decode cX7_comparer 86 = .ok (.aload_n 0, 1) := by decide +kernel
theorem dX7_comparer_87 : decode cX7_comparer 87 = .ok (.getfield 37, 3) := by decide +kernel
theorem dX7_comparer_90 : decode cX7_comparer 90 = .ok (.getfield 217, 3) := by decide +kernel
theorem dX7_comparer_93 : decode cX7_comparer 93 = .ok (.iload_n 1, 1) := by decide +kernel
theorem dX7_comparer_94 : decode cX7_comparer 94 = .ok (.baload, 1) := by decide +kernel
theorem dX7_comparer_95 : decode cX7_comparer 95 = .ok (.ifCond .eq 7, 3) := by decide +kernel
theorem dX7_comparer_98 : decode cX7_comparer 98 = .ok (.iconst 1, 1) := by decide +kernel
theorem dX7_comparer_99 : decode cX7_comparer 99 = .ok (.goto 4, 3) := by decide +kernel
theorem dX7_comparer_102 : decode cX7_comparer 102 = .ok (.iconst 0, 1) := by decide +kernel
theorem dX7_comparer_103 : decode cX7_comparer 103 = .ok (.ireturn, 1) := by decide +kernel
theorem dX7_comparer_104 : decode cX7_comparer 104 = .ok (.aload_n 0, 1) := by decide +kernel
theorem dX7_comparer_105 : decode cX7_comparer 105 = .ok (.getfield 37, 3) := by decide +kernel
theorem dX7_comparer_108 : decode cX7_comparer 108 = .ok (.iload_n 1, 1) := by decide +kernel
theorem dX7_comparer_109 : decode cX7_comparer 109 = .ok (.invokevirtual 221, 3) := by decide +kernel
theorem dX7_comparer_112 : decode cX7_comparer 112 = .ok (.ireturn, 1) := by decide +kernel
theorem dX7_comparer_113 : decode cX7_comparer 113 = .ok (.bipush (-2), 2) := by decide +kernel
theorem dX7_comparer_115 : decode cX7_comparer 115 = .ok (.ireturn, 1) := by decide +kernel
theorem dX7_sort_0 : decode cX7_sort 0 = .ok (.aload_n 0, 1) := by decide +kernel
theorem dX7_sort_1 : decode cX7_sort 1 = .ok (.iconst 0, 1) := by decide +kernel
theorem dX7_sort_2 : decode cX7_sort 2 = .ok (.putfield 66, 3) := by decide +kernel
theorem dX7_sort_5 : decode cX7_sort 5 = .ok (.iload_n 1, 1) := by decide +kernel
theorem dX7_sort_6 : decode cX7_sort 6 = .ok (.iconst 0, 1) := by decide +kernel
theorem dX7_sort_7 : decode cX7_sort 7 = .ok (.iconst 3, 1) := by decide +kernel
theorem dX7_sort_8 : decode cX7_sort 8 = .ok (.invokestatic 70, 3) := by decide +kernel
theorem dX7_sort_11 : decode cX7_sort 11 = .ok (.ifCond .ne 5, 3) := by decide +kernel
theorem dX7_sort_14 : decode cX7_sort 14 = .ok (.iconst (-1), 1) := by decide +kernel
theorem dX7_sort_15 : decode cX7_sort 15 = .ok (.ireturn, 1) := by decide +kernel
theorem dX7_sort_16 : decode cX7_sort 16 = .ok (.iload_n 2, 1) := by decide +kernel
theorem dX7_sort_17 : decode cX7_sort 17 = .ok (.iconst 0, 1) := by decide +kernel
theorem dX7_sort_18 : decode cX7_sort 18 = .ok (.iconst 2, 1) := by decide +kernel
theorem dX7_sort_19 : decode cX7_sort 19 = .ok (.invokestatic 70, 3) := by decide +kernel
theorem dX7_sort_22 : decode cX7_sort 22 = .ok (.ifCond .ne 6, 3) := by decide +kernel
theorem dX7_sort_25 : decode cX7_sort 25 = .ok (.bipush (-2), 2) := by decide +kernel
theorem dX7_sort_27 : decode cX7_sort 27 = .ok (.ireturn, 1) := by decide +kernel
theorem dX7_sort_28 : decode cX7_sort 28 = .ok (.aload_n 0, 1) := by decide +kernel
theorem dX7_sort_29 : decode cX7_sort 29 = .ok (.getfield 58, 3) := by decide +kernel
theorem dX7_sort_32 : decode cX7_sort 32 = .ok (.iload_n 1, 1) := by decide +kernel
theorem dX7_sort_33 : decode cX7_sort 33 = .ok (.iload_n 2, 1) := by decide +kernel
theorem dX7_sort_34 : decode cX7_sort 34 = .ok (.iload_n 3, 1) := by decide +kernel
theorem dX7_sort_35 : decode cX7_sort 35 = .ok (.aload_n 0, 1) := by decide +kernel
theorem dX7_sort_36 : decode cX7_sort 36 = .ok (.getfield 37, 3) := by decide +kernel
theorem dX7_sort_39 : decode cX7_sort 39 = .ok (.getfield 188, 3) := by decide +kernel
theorem dX7_sort_42 : decode cX7_sort 42 = .ok (.invokevirtual 131, 3) := by decide +kernel
theorem dX7_sort_45 : decode cX7_sort 45 = .ok (.istore 4, 2) := by decide +kernel
theorem dX7_sort_47 : decode cX7_sort 47 = .ok (.iload 4, 2) := by decide +kernel
theorem dX7_sort_49 : decode cX7_sort 49 = .ok (.ifCond .eq 10, 3) := by decide +kernel
theorem dX7_sort_52 : decode cX7_sort 52 = .ok (.aload_n 0, 1) := by decide +kernel
theorem dX7_sort_53 : decode cX7_sort 53 = .ok (.iload 4, 2) := by decide +kernel
theorem dX7_sort_55 : decode cX7_sort 55 = .ok (.invokevirtual 135, 3) := by decide +kernel
theorem dX7_sort_58 : decode cX7_sort 58 = .ok (.ireturn, 1) := by decide +kernel
theorem dX7_sort_59 : decode cX7_sort 59 = .ok (.aload_n 0, 1) := by decide +kernel
theorem dX7_sort_60 : decode cX7_sort 60 = .ok (.getfield 58, 3) := by decide +kernel
theorem dX7_sort_63 : decode cX7_sort 63 = .ok (.iload_n 1, 1) := by decide +kernel
theorem dX7_sort_64 : decode cX7_sort 64 = .ok (.iload_n 3, 1) := by decide +kernel
theorem dX7_sort_65 : decode cX7_sort 65 = .ok (.aload_n 0, 1) := by decide +kernel
theorem dX7_sort_66 : decode cX7_sort 66 = .ok (.getfield 62, 3) := by decide +kernel
theorem dX7_sort_69 : decode cX7_sort 69 = .ok (.aload_n 0, 1) := by decide +kernel
theorem dX7_sort_70 : decode cX7_sort 70 = .ok (.getfield 37, 3) := by decide +kernel
theorem dX7_sort_73 : decode cX7_sort 73 = .ok (.getfield 188, 3) := by decide +kernel
theorem dX7_sort_76 : decode cX7_sort 76 = .ok (.invokevirtual 138, 3) := by decide +kernel
theorem dX7_sort_79 : decode cX7_sort 79 = .ok (.aload_n 0, 1) := by decide +kernel
theorem dX7_sort_80 : decode cX7_sort 80 = .ok (.getfield 37, 3) := by decide +kernel
theorem dX7_sort_83 : decode cX7_sort 83 = .ok (.aload_n 0, 1) := by decide +kernel
theorem dX7_sort_84 : decode cX7_sort 84 = .ok (.getfield 62, 3) := by decide +kernel
theorem dX7_sort_87 : decode cX7_sort 87 = .ok (.invokevirtual 224, 3) := by decide +kernel
theorem dX7_sort_90 : decode cX7_sort 90 = .ok (.aload_n 0, 1) := by decide +kernel
theorem dX7_sort_91 : decode cX7_sort 91 = .ok (.getfield 58, 3) := by decide +kernel
theorem dX7_sort_94 : decode cX7_sort 94 = .ok (.iload_n 1, 1) := by decide +kernel
theorem dX7_sort_95 : decode cX7_sort 95 = .ok (.iload_n 3, 1) := by decide +kernel
theorem dX7_sort_96 : decode cX7_sort 96 = .ok (.aload_n 0, 1) := by decide +kernel
theorem dX7_sort_97 : decode cX7_sort 97 = .ok (.getfield 62, 3) := by decide +kernel
theorem dX7_sort_100 : decode cX7_sort 100 = .ok (.aload_n 0, 1) := by decide +kernel
theorem dX7_sort_101 : decode cX7_sort 101 = .ok (.getfield 37, 3) := by decide +kernel
theorem dX7_sort_104 : decode cX7_sort 104 = .ok (.getfield 188, 3) := by decide +kernel
theorem dX7_sort_107 : decode cX7_sort 107 = .ok (.invokevirtual 228, 3) := by decide +kernel
theorem dX7_sort_110 : decode cX7_sort 110 = .ok (.ireturn, 1) := by decide +kernel
theorem dX7_bar_0 : decode cX7_bar 0 = .ok (.iload_n 1, 1) := by decide +kernel
theorem dX7_bar_1 : decode cX7_bar 1 = .ok (.iconst 1, 1) := by decide +kernel
theorem dX7_bar_2 : decode cX7_bar 2 = .ok (.iconst 5, 1) := by decide +kernel
theorem dX7_bar_3 : decode cX7_bar 3 = .ok (.invokestatic 70, 3) := by decide +kernel
theorem dX7_bar_6 : decode cX7_bar 6 = .ok (.ifCond .ne 6, 3) := by decide +kernel
theorem dX7_bar_9 : decode cX7_bar 9 = .ok (.bipush (-2), 2) := by decide +kernel
theorem dX7_bar_11 : decode cX7_bar 11 = .ok (.ireturn, 1) := by decide +kernel
theorem dX7_bar_12 : decode cX7_bar 12 = .ok (.aload_n 0, 1) := by decide +kernel
theorem dX7_bar_13 : decode cX7_bar 13 = .ok (.getfield 51, 3) := by decide +kernel
theorem dX7_bar_16 : decode cX7_bar 16 = .ok (.getfield 232, 3) := by decide +kernel
theorem dX7_bar_19 : decode cX7_bar 19 = .ok (.istore_n 2, 1) := by decide +kernel
theorem dX7_bar_20 : decode cX7_bar 20 = .ok (.aload_n 0, 1) := by decide +kernel
theorem dX7_bar_21 : decode cX7_bar 21 = .ok (.getfield 44, 3) := by decide +kernel
theorem dX7_bar_24 : decode cX7_bar 24 = .ok (.iload_n 1, 1) := by decide +kernel
theorem dX7_bar_25 : decode cX7_bar 25 = .ok (.invokevirtual 235, 3) := by decide +kernel
theorem dX7_bar_28 : decode cX7_bar 28 = .ok (.aload_n 0, 1) := by decide +kernel
theorem dX7_bar_29 : decode cX7_bar 29 = .ok (.getfield 51, 3) := by decide +kernel
theorem dX7_bar_32 : decode cX7_bar 32 = .ok (.iload_n 1, 1) := by decide +kernel
theorem dX7_bar_33 : decode cX7_bar 33 = .ok (.invokevirtual 236, 3) := by decide +kernel
theorem dX7_bar_36 : decode cX7_bar 36 = .ok (.iload_n 2, 1) := by decide +kernel
theorem dX7_bar_37 : decode cX7_bar 37 = .ok (.ireturn, 1) := by decide +kernel
theorem dX7_traffic_0 : decode cX7_traffic 0 = .ok (.aload_n 0, 1) := by decide +kernel
theorem dX7_traffic_1 : decode cX7_traffic 1 = .ok (.iload_n 1, 1) := by decide +kernel
theorem dX7_traffic_2 : decode cX7_traffic 2 = .ok (.invokevirtual 237, 3) := by decide +kernel
theorem dX7_traffic_5 : decode cX7_traffic 5 = .ok (.ifCond .eq 11, 3) := by decide +kernel
theorem dX7_traffic_8 : decode cX7_traffic 8 = .ok (.aload_n 0, 1) := by decide +kernel
theorem dX7_traffic_9 : decode cX7_traffic 9 = .ok (.iload_n 2, 1) := by decide +kernel
theorem dX7_traffic_10 : decode cX7_traffic 10 = .ok (.invokevirtual 237, 3) := by decide +kernel
theorem dX7_traffic_13 : decode cX7_traffic 13 = .ok (.ifCond .ne 5, 3) := by decide +kernel
theorem dX7_traffic_16 : decode cX7_traffic 16 = .ok (.iconst (-1), 1) := by decide +kernel
theorem dX7_traffic_17 : decode cX7_traffic 17 = .ok (.ireturn, 1) := by decide +kernel
theorem dX7_traffic_18 : decode cX7_traffic 18 = .ok (.iload_n 3, 1) := by decide +kernel
theorem dX7_traffic_19 : decode cX7_traffic 19 = .ok (.iconst 0, 1) := by decide +kernel
theorem dX7_traffic_20 : decode cX7_traffic 20 = .ok (.bipush 50, 2) := by decide +kernel
theorem dX7_traffic_22 : decode cX7_traffic 22 = .ok (.invokestatic 70, 3) := by decide +kernel
theorem dX7_traffic_25 : decode cX7_traffic 25 = .ok (.ifCond .eq 16, 3) := by decide +kernel
theorem dX7_traffic_28 : decode cX7_traffic 28 = .ok (.aload_n 0, 1) := by decide +kernel
theorem dX7_traffic_29 : decode cX7_traffic 29 = .ok (.getfield 44, 3) := by decide +kernel
theorem dX7_traffic_32 : decode cX7_traffic 32 = .ok (.iload_n 1, 1) := by decide +kernel
theorem dX7_traffic_33 : decode cX7_traffic 33 = .ok (.iload_n 2, 1) := by decide +kernel
theorem dX7_traffic_34 : decode cX7_traffic 34 = .ok (.iload_n 3, 1) := by decide +kernel
theorem dX7_traffic_35 : decode cX7_traffic 35 = .ok (.invokevirtual 240, 3) := by decide +kernel
theorem dX7_traffic_38 : decode cX7_traffic 38 = .ok (.goto 5, 3) := by decide +kernel
theorem dX7_traffic_41 : decode cX7_traffic 41 = .ok (.bipush (-2), 2) := by decide +kernel
theorem dX7_traffic_43 : decode cX7_traffic 43 = .ok (.ireturn, 1) := by decide +kernel
theorem dX7_span_0 : decode cX7_span 0 = .ok (.aload_n 0, 1) := by decide +kernel
theorem dX7_span_1 : decode cX7_span 1 = .ok (.getfield 44, 3) := by decide +kernel
theorem dX7_span_4 : decode cX7_span 4 = .ok (.invokevirtual 244, 3) := by decide +kernel
theorem dX7_span_7 : decode cX7_span 7 = .ok (.ireturn, 1) := by decide +kernel
theorem dX7_parted_0 : decode cX7_parted 0 = .ok (.iload_n 1, 1) := by decide +kernel
theorem dX7_parted_1 : decode cX7_parted 1 = .ok (.iconst 0, 1) := by decide +kernel
theorem dX7_parted_2 : decode cX7_parted 2 = .ok (.aload_n 0, 1) := by decide +kernel
theorem dX7_parted_3 : decode cX7_parted 3 = .ok (.getfield 44, 3) := by decide +kernel
theorem dX7_parted_6 : decode cX7_parted 6 = .ok (.invokevirtual 244, 3) := by decide +kernel
theorem dX7_parted_9 : decode cX7_parted 9 = .ok (.iconst 1, 1) := by decide +kernel
theorem dX7_parted_10 : decode cX7_parted 10 = .ok (.isub, 1) := by decide +kernel
theorem dX7_parted_11 : decode cX7_parted 11 = .ok (.invokestatic 70, 3) := by decide +kernel
theorem dX7_parted_14 : decode cX7_parted 14 = .ok (.ifCond .eq 11, 3) := by decide +kernel
theorem dX7_parted_17 : decode cX7_parted 17 = .ok (.aload_n 0, 1) := by decide +kernel
theorem dX7_parted_18 : decode cX7_parted 18 = .ok (.iload_n 2, 1) := by decide +kernel
theorem dX7_parted_19 : decode cX7_parted 19 = .ok (.invokevirtual 237, 3) := by decide +kernel
theorem dX7_parted_22 : decode cX7_parted 22 = .ok (.ifCond .ne 5, 3) := by decide +kernel
theorem dX7_parted_25 : decode cX7_parted 25 = .ok (.iconst (-1), 1) := by decide +kernel
theorem dX7_parted_26 : decode cX7_parted 26 = .ok (.ireturn, 1) := by decide +kernel
theorem dX7_parted_27 : decode cX7_parted 27 = .ok (.aload_n 0, 1) := by decide +kernel
theorem dX7_parted_28 : decode cX7_parted 28 = .ok (.getfield 44, 3) := by decide +kernel
theorem dX7_parted_31 : decode cX7_parted 31 = .ok (.iload_n 1, 1) := by decide +kernel
theorem dX7_parted_32 : decode cX7_parted 32 = .ok (.iload_n 2, 1) := by decide +kernel
theorem dX7_parted_33 : decode cX7_parted 33 = .ok (.invokevirtual 247, 3) := by decide +kernel
theorem dX7_parted_36 : decode cX7_parted 36 = .ok (.ireturn, 1) := by decide +kernel
theorem dX7_changes_0 : decode cX7_changes 0 = .ok (.aload_n 0, 1) := by decide +kernel
theorem dX7_changes_1 : decode cX7_changes 1 = .ok (.getfield 44, 3) := by decide +kernel
theorem dX7_changes_4 : decode cX7_changes 4 = .ok (.invokevirtual 250, 3) := by decide +kernel
theorem dX7_changes_7 : decode cX7_changes 7 = .ok (.ireturn, 1) := by decide +kernel
theorem dX7_slot_0 : decode cX7_slot 0 = .ok (.aload_n 0, 1) := by decide +kernel
theorem dX7_slot_1 : decode cX7_slot 1 = .ok (.iconst 0, 1) := by decide +kernel
theorem dX7_slot_2 : decode cX7_slot 2 = .ok (.putfield 66, 3) := by decide +kernel
theorem dX7_slot_5 : decode cX7_slot 5 = .ok (.iload_n 2, 1) := by decide +kernel
theorem dX7_slot_6 : decode cX7_slot 6 = .ok (.iconst 0, 1) := by decide +kernel
theorem dX7_slot_7 : decode cX7_slot 7 = .ok (.iconst 3, 1) := by decide +kernel
theorem dX7_slot_8 : decode cX7_slot 8 = .ok (.invokestatic 70, 3) := by decide +kernel
theorem dX7_slot_11 : decode cX7_slot 11 = .ok (.ifCond .ne 5, 3) := by decide +kernel
theorem dX7_slot_14 : decode cX7_slot 14 = .ok (.iconst (-1), 1) := by decide +kernel
theorem dX7_slot_15 : decode cX7_slot 15 = .ok (.ireturn, 1) := by decide +kernel
theorem dX7_slot_16 : decode cX7_slot 16 = .ok (.iload_n 3, 1) := by decide +kernel
theorem dX7_slot_17 : decode cX7_slot 17 = .ok (.iconst 0, 1) := by decide +kernel
theorem dX7_slot_18 : decode cX7_slot 18 = .ok (.iconst 2, 1) := by decide +kernel
theorem dX7_slot_19 : decode cX7_slot 19 = .ok (.invokestatic 70, 3) := by decide +kernel
theorem dX7_slot_22 : decode cX7_slot 22 = .ok (.ifCond .eq 12, 3) := by decide +kernel
theorem dX7_slot_25 : decode cX7_slot 25 = .ok (.iload_n 1, 1) := by decide +kernel
theorem dX7_slot_26 : decode cX7_slot 26 = .ok (.iconst 0, 1) := by decide +kernel
theorem dX7_slot_27 : decode cX7_slot 27 = .ok (.iconst 2, 1) := by decide +kernel
theorem dX7_slot_28 : decode cX7_slot 28 = .ok (.invokestatic 70, 3) := by decide +kernel
theorem dX7_slot_31 : decode cX7_slot 31 = .ok (.ifCond .ne 6, 3) := by decide +kernel
theorem dX7_slot_34 : decode cX7_slot 34 = .ok (.bipush (-2), 2) := by decide +kernel
theorem dX7_slot_36 : decode cX7_slot 36 = .ok (.ireturn, 1) := by decide +kernel
theorem dX7_slot_37 : decode cX7_slot 37 = .ok (.aload_n 0, 1) := by decide +kernel
theorem dX7_slot_38 : decode cX7_slot 38 = .ok (.getfield 58, 3) := by decide +kernel
theorem dX7_slot_41 : decode cX7_slot 41 = .ok (.iload_n 2, 1) := by decide +kernel
theorem dX7_slot_42 : decode cX7_slot 42 = .ok (.iload_n 3, 1) := by decide +kernel
theorem dX7_slot_43 : decode cX7_slot 43 = .ok (.iload 4, 2) := by decide +kernel
theorem dX7_slot_45 : decode cX7_slot 45 = .ok (.aload_n 0, 1) := by decide +kernel
theorem dX7_slot_46 : decode cX7_slot 46 = .ok (.getfield 51, 3) := by decide +kernel
theorem dX7_slot_49 : decode cX7_slot 49 = .ok (.getfield 232, 3) := by decide +kernel
theorem dX7_slot_52 : decode cX7_slot 52 = .ok (.invokevirtual 131, 3) := by decide +kernel
theorem dX7_slot_55 : decode cX7_slot 55 = .ok (.istore 5, 2) := by decide +kernel
theorem dX7_slot_57 : decode cX7_slot 57 = .ok (.iload 5, 2) := by decide +kernel
theorem dX7_slot_59 : decode cX7_slot 59 = .ok (.ifCond .eq 10, 3) := by decide +kernel
theorem dX7_slot_62 : decode cX7_slot 62 = .ok (.aload_n 0, 1) := by decide +kernel
theorem dX7_slot_63 : decode cX7_slot 63 = .ok (.iload 5, 2) := by decide +kernel
theorem dX7_slot_65 : decode cX7_slot 65 = .ok (.invokevirtual 135, 3) := by decide +kernel
theorem dX7_slot_68 : decode cX7_slot 68 = .ok (.ireturn, 1) := by decide +kernel
theorem dX7_slot_69 : decode cX7_slot 69 = .ok (.aload_n 0, 1) := by decide +kernel
theorem dX7_slot_70 : decode cX7_slot 70 = .ok (.getfield 58, 3) := by decide +kernel
theorem dX7_slot_73 : decode cX7_slot 73 = .ok (.iload_n 2, 1) := by decide +kernel
theorem dX7_slot_74 : decode cX7_slot 74 = .ok (.iload 4, 2) := by decide +kernel
theorem dX7_slot_76 : decode cX7_slot 76 = .ok (.aload_n 0, 1) := by decide +kernel
theorem dX7_slot_77 : decode cX7_slot 77 = .ok (.getfield 62, 3) := by decide +kernel
theorem dX7_slot_80 : decode cX7_slot 80 = .ok (.aload_n 0, 1) := by decide +kernel
theorem dX7_slot_81 : decode cX7_slot 81 = .ok (.getfield 51, 3) := by decide +kernel
theorem dX7_slot_84 : decode cX7_slot 84 = .ok (.getfield 232, 3) := by decide +kernel
theorem dX7_slot_87 : decode cX7_slot 87 = .ok (.invokevirtual 138, 3) := by decide +kernel
theorem dX7_slot_90 : decode cX7_slot 90 = .ok (.aload_n 0, 1) := by decide +kernel
theorem dX7_slot_91 : decode cX7_slot 91 = .ok (.getfield 51, 3) := by decide +kernel
theorem dX7_slot_94 : decode cX7_slot 94 = .ok (.aload_n 0, 1) := by decide +kernel
theorem dX7_slot_95 : decode cX7_slot 95 = .ok (.getfield 62, 3) := by decide +kernel
theorem dX7_slot_98 : decode cX7_slot 98 = .ok (.invokevirtual 253, 3) := by decide +kernel
theorem dX7_slot_101 : decode cX7_slot 101 = .ok (.istore 6, 2) := by decide +kernel
theorem dX7_slot_103 : decode cX7_slot 103 = .ok (.iload 6, 2) := by decide +kernel
theorem dX7_slot_105 : decode cX7_slot 105 = .ok (.ifCond .eq 8, 3) := by decide +kernel
theorem dX7_slot_108 : decode cX7_slot 108 = .ok (.iload 6, 2) := by decide +kernel
theorem dX7_slot_110 : decode cX7_slot 110 = .ok (.goto 15, 3) := by decide +kernel
theorem dX7_slot_113 : decode cX7_slot 113 = .ok (.aload_n 0, 1) := by decide +kernel
theorem dX7_slot_114 : decode cX7_slot 114 = .ok (.getfield 51, 3) := by decide +kernel
theorem dX7_slot_117 : decode cX7_slot 117 = .ok (.iload_n 1, 1) := by decide +kernel
theorem dX7_slot_118 : decode cX7_slot 118 = .ok (.aload_n 0, 1) := by decide +kernel
theorem dX7_slot_119 : decode cX7_slot 119 = .ok (.getfield 62, 3) := by decide +kernel
theorem dX7_slot_122 : decode cX7_slot 122 = .ok (.invokevirtual 256, 3) := by decide +kernel
theorem dX7_slot_125 : decode cX7_slot 125 = .ok (.ireturn, 1) := by decide +kernel
theorem dX7_queue_0 : decode cX7_queue 0 = .ok (.iload_n 3, 1) := by decide +kernel
theorem dX7_queue_1 : decode cX7_queue 1 = .ok (.iconst 0, 1) := by decide +kernel
theorem dX7_queue_2 : decode cX7_queue 2 = .ok (.iconst 3, 1) := by decide +kernel
theorem dX7_queue_3 : decode cX7_queue 3 = .ok (.invokestatic 70, 3) := by decide +kernel
theorem dX7_queue_6 : decode cX7_queue 6 = .ok (.ifCond .ne 6, 3) := by decide +kernel
theorem dX7_queue_9 : decode cX7_queue 9 = .ok (.bipush (-2), 2) := by decide +kernel
theorem dX7_queue_11 : decode cX7_queue 11 = .ok (.ireturn, 1) := by decide +kernel
theorem dX7_queue_12 : decode cX7_queue 12 = .ok (.aload_n 0, 1) := by decide +kernel
theorem dX7_queue_13 : decode cX7_queue 13 = .ok (.iload_n 1, 1) := by decide +kernel
theorem dX7_queue_14 : decode cX7_queue 14 = .ok (.invokevirtual 237, 3) := by decide +kernel
theorem dX7_queue_17 : decode cX7_queue 17 = .ok (.ifCond .eq 15, 3) := by decide +kernel
theorem dX7_queue_20 : decode cX7_queue 20 = .ok (.iload_n 3, 1) := by decide +kernel
theorem dX7_queue_21 : decode cX7_queue 21 = .ok (.ifCond .ne 13, 3) := by decide +kernel
theorem dX7_queue_24 : decode cX7_queue 24 = .ok (.aload_n 0, 1) := by decide +kernel
theorem dX7_queue_25 : decode cX7_queue 25 = .ok (.iload_n 2, 1) := by decide +kernel
theorem dX7_queue_26 : decode cX7_queue 26 = .ok (.invokevirtual 237, 3) := by decide +kernel
theorem dX7_queue_29 : decode cX7_queue 29 = .ok (.ifCond .ne 5, 3) := by decide +kernel
theorem dX7_queue_32 : decode cX7_queue 32 = .ok (.iconst (-1), 1) := by decide +kernel
theorem dX7_queue_33 : decode cX7_queue 33 = .ok (.ireturn, 1) := by decide +kernel
theorem dX7_queue_34 : decode cX7_queue 34 = .ok (.iload_n 3, 1) := by decide +kernel
theorem dX7_queue_35 : decode cX7_queue 35 = .ok (.tableswitch 57 0 2 #[25, 37, 47], 25) := by decide +kernel
theorem dX7_queue_60 : decode cX7_queue 60 = .ok (.aload_n 0, 1) := by decide +kernel
theorem dX7_queue_61 : decode cX7_queue 61 = .ok (.getfield 51, 3) := by decide +kernel
theorem dX7_queue_64 : decode cX7_queue 64 = .ok (.getfield 260, 3) := by decide +kernel
theorem dX7_queue_67 : decode cX7_queue 67 = .ok (.iload_n 1, 1) := by decide +kernel
theorem dX7_queue_68 : decode cX7_queue 68 = .ok (.aaload, 1) := by decide +kernel
theorem dX7_queue_69 : decode cX7_queue 69 = .ok (.iload_n 2, 1) := by decide +kernel
theorem dX7_queue_70 : decode cX7_queue 70 = .ok (.iaload, 1) := by decide +kernel
theorem dX7_queue_71 : decode cX7_queue 71 = .ok (.ireturn, 1) := by decide +kernel
theorem dX7_queue_72 : decode cX7_queue 72 = .ok (.aload_n 0, 1) := by decide +kernel
theorem dX7_queue_73 : decode cX7_queue 73 = .ok (.getfield 51, 3) := by decide +kernel
theorem dX7_queue_76 : decode cX7_queue 76 = .ok (.getfield 264, 3) := by decide +kernel
theorem dX7_queue_79 : decode cX7_queue 79 = .ok (.iload_n 1, 1) := by decide +kernel
theorem dX7_queue_80 : decode cX7_queue 80 = .ok (.iaload, 1) := by decide +kernel
theorem dX7_queue_81 : decode cX7_queue 81 = .ok (.ireturn, 1) := by decide +kernel
theorem dX7_queue_82 : decode cX7_queue 82 = .ok (.aload_n 0, 1) := by decide +kernel
theorem dX7_queue_83 : decode cX7_queue 83 = .ok (.getfield 51, 3) := by decide +kernel
theorem dX7_queue_86 : decode cX7_queue 86 = .ok (.getfield 267, 3) := by decide +kernel
theorem dX7_queue_89 : decode cX7_queue 89 = .ok (.iload_n 1, 1) := by decide +kernel
theorem dX7_queue_90 : decode cX7_queue 90 = .ok (.iaload, 1) := by decide +kernel
theorem dX7_queue_91 : decode cX7_queue 91 = .ok (.ireturn, 1) := by decide +kernel
theorem dX7_queue_92 : decode cX7_queue 92 = .ok (.aload_n 0, 1) := by decide +kernel
theorem dX7_queue_93 : decode cX7_queue 93 = .ok (.getfield 51, 3) := by decide +kernel
theorem dX7_queue_96 : decode cX7_queue 96 = .ok (.getfield 270, 3) := by decide +kernel
theorem dX7_queue_99 : decode cX7_queue 99 = .ok (.iload_n 1, 1) := by decide +kernel
theorem dX7_queue_100 : decode cX7_queue 100 = .ok (.iaload, 1) := by decide +kernel
theorem dX7_queue_101 : decode cX7_queue 101 = .ok (.ireturn, 1) := by decide +kernel
theorem dX7_waiting_0 : decode cX7_waiting 0 = .ok (.aload_n 0, 1) := by decide +kernel
theorem dX7_waiting_1 : decode cX7_waiting 1 = .ok (.getfield 51, 3) := by decide +kernel
theorem dX7_waiting_4 : decode cX7_waiting 4 = .ok (.invokevirtual 273, 3) := by decide +kernel
theorem dX7_waiting_7 : decode cX7_waiting 7 = .ok (.ireturn, 1) := by decide +kernel
theorem dX7_lost_0 : decode cX7_lost 0 = .ok (.iload_n 2, 1) := by decide +kernel
theorem dX7_lost_1 : decode cX7_lost 1 = .ok (.iconst 1, 1) := by decide +kernel
theorem dX7_lost_2 : decode cX7_lost 2 = .ok (.bipush 20, 2) := by decide +kernel
theorem dX7_lost_4 : decode cX7_lost 4 = .ok (.invokestatic 70, 3) := by decide +kernel
theorem dX7_lost_7 : decode cX7_lost 7 = .ok (.ifCond .eq 21, 3) := by decide +kernel
theorem dX7_lost_10 : decode cX7_lost 10 = .ok (.iload_n 1, 1) := by decide +kernel
theorem dX7_lost_11 : decode cX7_lost 11 = .ok (.iconst 0, 1) := by decide +kernel
theorem dX7_lost_12 : decode cX7_lost 12 = .ok (.iload_n 2, 1) := by decide +kernel
theorem dX7_lost_13 : decode cX7_lost 13 = .ok (.invokestatic 70, 3) := by decide +kernel
theorem dX7_lost_16 : decode cX7_lost 16 = .ok (.ifCond .eq 12, 3) := by decide +kernel
theorem dX7_lost_19 : decode cX7_lost 19 = .ok (.iload_n 3, 1) := by decide +kernel
theorem dX7_lost_20 : decode cX7_lost 20 = .ok (.iconst 0, 1) := by decide +kernel
theorem dX7_lost_21 : decode cX7_lost 21 = .ok (.iconst 1, 1) := by decide +kernel
theorem dX7_lost_22 : decode cX7_lost 22 = .ok (.invokestatic 70, 3) := by decide +kernel
theorem dX7_lost_25 : decode cX7_lost 25 = .ok (.ifCond .ne 7, 3) := by decide +kernel
theorem dX7_lost_28 : decode cX7_lost 28 = .ok (.ldc2_w 276, 3) := by decide +kernel
theorem dX7_lost_31 : decode cX7_lost 31 = .ok (.lreturn, 1) := by decide +kernel
theorem dX7_lost_32 : decode cX7_lost 32 = .ok (.aload_n 0, 1) := by decide +kernel
theorem dX7_lost_33 : decode cX7_lost 33 = .ok (.getfield 12, 3) := by decide +kernel
theorem dX7_lost_36 : decode cX7_lost 36 = .ok (.iload_n 1, 1) := by decide +kernel
theorem dX7_lost_37 : decode cX7_lost 37 = .ok (.iload_n 2, 1) := by decide +kernel
theorem dX7_lost_38 : decode cX7_lost 38 = .ok (.iload_n 3, 1) := by decide +kernel
theorem dX7_lost_39 : decode cX7_lost 39 = .ok (.invokevirtual 278, 3) := by decide +kernel
theorem dX7_lost_42 : decode cX7_lost 42 = .ok (.lreturn, 1) := by decide +kernel
theorem dX7_sheet_0 : decode cX7_sheet 0 = .ok (.aload_n 0, 1) := by decide +kernel
theorem dX7_sheet_1 : decode cX7_sheet 1 = .ok (.iconst 0, 1) := by decide +kernel
theorem dX7_sheet_2 : decode cX7_sheet 2 = .ok (.putfield 66, 3) := by decide +kernel
theorem dX7_sheet_5 : decode cX7_sheet 5 = .ok (.iload_n 1, 1) := by decide +kernel
theorem dX7_sheet_6 : decode cX7_sheet 6 = .ok (.iconst 0, 1) := by decide +kernel
theorem dX7_sheet_7 : decode cX7_sheet 7 = .ok (.iconst 3, 1) := by decide +kernel
theorem dX7_sheet_8 : decode cX7_sheet 8 = .ok (.invokestatic 70, 3) := by decide +kernel
theorem dX7_sheet_11 : decode cX7_sheet 11 = .ok (.ifCond .ne 5, 3) := by decide +kernel
theorem dX7_sheet_14 : decode cX7_sheet 14 = .ok (.iconst (-1), 1) := by decide +kernel
theorem dX7_sheet_15 : decode cX7_sheet 15 = .ok (.ireturn, 1) := by decide +kernel
theorem dX7_sheet_16 : decode cX7_sheet 16 = .ok (.iload_n 2, 1) := by decide +kernel
theorem dX7_sheet_17 : decode cX7_sheet 17 = .ok (.iconst 0, 1) := by decide +kernel
theorem dX7_sheet_18 : decode cX7_sheet 18 = .ok (.iconst 2, 1) := by decide +kernel
theorem dX7_sheet_19 : decode cX7_sheet 19 = .ok (.invokestatic 70, 3) := by decide +kernel
theorem dX7_sheet_22 : decode cX7_sheet 22 = .ok (.ifCond .eq 9, 3) := by decide +kernel
theorem dX7_sheet_25 : decode cX7_sheet 25 = .ok (.iload_n 3, 1) := by decide +kernel
theorem dX7_sheet_26 : decode cX7_sheet 26 = .ok (.bipush 60, 2) := by decide +kernel
theorem dX7_sheet_28 : decode cX7_sheet 28 = .ok (.if_icmp .le 6, 3) := by decide +kernel
theorem dX7_sheet_31 : decode cX7_sheet 31 = .ok (.bipush (-2), 2) := by decide +kernel
theorem dX7_sheet_33 : decode cX7_sheet 33 = .ok (.ireturn, 1) := by decide +kernel
theorem dX7_sheet_34 : decode cX7_sheet 34 = .ok (.iload_n 3, 1) := by decide +kernel
theorem dX7_sheet_35 : decode cX7_sheet 35 = .ok (.ifCond .ge 9, 3) := by decide +kernel
theorem dX7_sheet_38 : decode cX7_sheet 38 = .ok (.aload_n 0, 1) := by decide +kernel
theorem dX7_sheet_39 : decode cX7_sheet 39 = .ok (.iconst 4, 1) := by decide +kernel
theorem dX7_sheet_40 : decode cX7_sheet 40 = .ok (.invokevirtual 135, 3) := by decide +kernel
theorem dX7_sheet_43 : decode cX7_sheet 43 = .ok (.ireturn, 1) := by decide +kernel
theorem dX7_sheet_44 : decode cX7_sheet 44 = .ok (.aload_n 0, 1) := by decide +kernel
theorem dX7_sheet_45 : decode cX7_sheet 45 = .ok (.getfield 58, 3) := by decide +kernel
theorem dX7_sheet_48 : decode cX7_sheet 48 = .ok (.iload_n 1, 1) := by decide +kernel
theorem dX7_sheet_49 : decode cX7_sheet 49 = .ok (.iload_n 2, 1) := by decide +kernel
theorem dX7_sheet_50 : decode cX7_sheet 50 = .ok (.iload_n 3, 1) := by decide +kernel
theorem dX7_sheet_51 : decode cX7_sheet 51 = .ok (.invokevirtual 282, 3) := by decide +kernel
theorem dX7_sheet_54 : decode cX7_sheet 54 = .ok (.iconst 1, 1) := by decide +kernel
theorem dX7_sheet_55 : decode cX7_sheet 55 = .ok (.ireturn, 1) := by decide +kernel
theorem dX7_lose_0 : decode cX7_lose 0 = .ok (.iload_n 1, 1) := by decide +kernel
theorem dX7_lose_1 : decode cX7_lose 1 = .ok (.iconst 0, 1) := by decide +kernel
theorem dX7_lose_2 : decode cX7_lose 2 = .ok (.iconst 3, 1) := by decide +kernel
theorem dX7_lose_3 : decode cX7_lose 3 = .ok (.invokestatic 70, 3) := by decide +kernel
theorem dX7_lose_6 : decode cX7_lose 6 = .ok (.ifCond .ne 5, 3) := by decide +kernel
theorem dX7_lose_9 : decode cX7_lose 9 = .ok (.iconst (-1), 1) := by decide +kernel
theorem dX7_lose_10 : decode cX7_lose 10 = .ok (.ireturn, 1) := by decide +kernel
theorem dX7_lose_11 : decode cX7_lose 11 = .ok (.aload_n 0, 1) := by decide +kernel
theorem dX7_lose_12 : decode cX7_lose 12 = .ok (.getfield 58, 3) := by decide +kernel
theorem dX7_lose_15 : decode cX7_lose 15 = .ok (.iload_n 1, 1) := by decide +kernel
theorem dX7_lose_16 : decode cX7_lose 16 = .ok (.invokevirtual 285, 3) := by decide +kernel
theorem dX7_lose_19 : decode cX7_lose 19 = .ok (.ifCond .eq 7, 3) := by decide +kernel
theorem dX7_lose_22 : decode cX7_lose 22 = .ok (.iconst 1, 1) := by decide +kernel
theorem dX7_lose_23 : decode cX7_lose 23 = .ok (.goto 4, 3) := by decide +kernel
theorem dX7_lose_26 : decode cX7_lose 26 = .ok (.iconst 0, 1) := by decide +kernel
theorem dX7_lose_27 : decode cX7_lose 27 = .ok (.ireturn, 1) := by decide +kernel
theorem dX7_put_0 : decode cX7_put 0 = .ok (.aload_n 0, 1) := by decide +kernel
theorem dX7_put_1 : decode cX7_put 1 = .ok (.iconst 0, 1) := by decide +kernel
theorem dX7_put_2 : decode cX7_put 2 = .ok (.putfield 66, 3) := by decide +kernel
theorem dX7_put_5 : decode cX7_put 5 = .ok (.iload_n 1, 1) := by decide +kernel
theorem dX7_put_6 : decode cX7_put 6 = .ok (.iconst 0, 1) := by decide +kernel
theorem dX7_put_7 : decode cX7_put 7 = .ok (.iconst 3, 1) := by decide +kernel
theorem dX7_put_8 : decode cX7_put 8 = .ok (.invokestatic 70, 3) := by decide +kernel
theorem dX7_put_11 : decode cX7_put 11 = .ok (.ifCond .ne 5, 3) := by decide +kernel
theorem dX7_put_14 : decode cX7_put 14 = .ok (.iconst (-1), 1) := by decide +kernel
theorem dX7_put_15 : decode cX7_put 15 = .ok (.ireturn, 1) := by decide +kernel
theorem dX7_put_16 : decode cX7_put 16 = .ok (.aload_n 0, 1) := by decide +kernel
theorem dX7_put_17 : decode cX7_put 17 = .ok (.getfield 58, 3) := by decide +kernel
theorem dX7_put_20 : decode cX7_put 20 = .ok (.iload_n 1, 1) := by decide +kernel
theorem dX7_put_21 : decode cX7_put 21 = .ok (.aload_n 0, 1) := by decide +kernel
theorem dX7_put_22 : decode cX7_put 22 = .ok (.getfield 58, 3) := by decide +kernel
theorem dX7_put_25 : decode cX7_put 25 = .ok (.getfield 288, 3) := by decide +kernel
theorem dX7_put_28 : decode cX7_put 28 = .ok (.iload_n 1, 1) := by decide +kernel
theorem dX7_put_29 : decode cX7_put 29 = .ok (.iaload, 1) := by decide +kernel
theorem dX7_put_30 : decode cX7_put 30 = .ok (.iload_n 2, 1) := by decide +kernel
theorem dX7_put_31 : decode cX7_put 31 = .ok (.iconst 1, 1) := by decide +kernel
theorem dX7_put_32 : decode cX7_put 32 = .ok (.invokevirtual 131, 3) := by decide +kernel
theorem dX7_put_35 : decode cX7_put 35 = .ok (.istore 4, 2) := by decide +kernel
theorem dX7_put_37 : decode cX7_put 37 = .ok (.iload 4, 2) := by decide +kernel
theorem dX7_put_39 : decode cX7_put 39 = .ok (.ifCond .eq 10, 3) := by decide +kernel
theorem dX7_put_42 : decode cX7_put 42 = .ok (.aload_n 0, 1) := by decide +kernel
theorem dX7_put_43 : decode cX7_put 43 = .ok (.iload 4, 2) := by decide +kernel
theorem dX7_put_45 : decode cX7_put 45 = .ok (.invokevirtual 135, 3) := by decide +kernel
theorem dX7_put_48 : decode cX7_put 48 = .ok (.ireturn, 1) := by decide +kernel
theorem dX7_put_49 : decode cX7_put 49 = .ok (.aload_n 0, 1) := by decide +kernel
theorem dX7_put_50 : decode cX7_put 50 = .ok (.getfield 58, 3) := by decide +kernel
theorem dX7_put_53 : decode cX7_put 53 = .ok (.iload_n 1, 1) := by decide +kernel
theorem dX7_put_54 : decode cX7_put 54 = .ok (.iload_n 2, 1) := by decide +kernel
theorem dX7_put_55 : decode cX7_put 55 = .ok (.iload_n 3, 1) := by decide +kernel
theorem dX7_put_56 : decode cX7_put 56 = .ok (.invokevirtual 291, 3) := by decide +kernel
theorem dX7_put_59 : decode cX7_put 59 = .ok (.iconst 1, 1) := by decide +kernel
theorem dX7_put_60 : decode cX7_put 60 = .ok (.ireturn, 1) := by decide +kernel
theorem dX7_cell_0 : decode cX7_cell 0 = .ok (.aload_n 0, 1) := by decide +kernel
theorem dX7_cell_1 : decode cX7_cell 1 = .ok (.iconst 0, 1) := by decide +kernel
theorem dX7_cell_2 : decode cX7_cell 2 = .ok (.putfield 66, 3) := by decide +kernel
theorem dX7_cell_5 : decode cX7_cell 5 = .ok (.iload_n 1, 1) := by decide +kernel
theorem dX7_cell_6 : decode cX7_cell 6 = .ok (.iconst 0, 1) := by decide +kernel
theorem dX7_cell_7 : decode cX7_cell 7 = .ok (.iconst 3, 1) := by decide +kernel
theorem dX7_cell_8 : decode cX7_cell 8 = .ok (.invokestatic 70, 3) := by decide +kernel
theorem dX7_cell_11 : decode cX7_cell 11 = .ok (.ifCond .eq 12, 3) := by decide +kernel
theorem dX7_cell_14 : decode cX7_cell 14 = .ok (.iload_n 3, 1) := by decide +kernel
theorem dX7_cell_15 : decode cX7_cell 15 = .ok (.iconst 0, 1) := by decide +kernel
theorem dX7_cell_16 : decode cX7_cell 16 = .ok (.iconst 2, 1) := by decide +kernel
theorem dX7_cell_17 : decode cX7_cell 17 = .ok (.invokestatic 70, 3) := by decide +kernel
theorem dX7_cell_20 : decode cX7_cell 20 = .ok (.ifCond .ne 7, 3) := by decide +kernel
theorem dX7_cell_23 : decode cX7_cell 23 = .ok (.ldc2_w 276, 3) := by decide +kernel
theorem dX7_cell_26 : decode cX7_cell 26 = .ok (.lreturn, 1) := by decide +kernel
theorem dX7_cell_27 : decode cX7_cell 27 = .ok (.aload_n 0, 1) := by decide +kernel
theorem dX7_cell_28 : decode cX7_cell 28 = .ok (.aload_n 0, 1) := by decide +kernel
theorem dX7_cell_29 : decode cX7_cell 29 = .ok (.getfield 58, 3) := by decide +kernel
theorem dX7_cell_32 : decode cX7_cell 32 = .ok (.iload_n 1, 1) := by decide +kernel
theorem dX7_cell_33 : decode cX7_cell 33 = .ok (.iload_n 3, 1) := by decide +kernel
theorem dX7_cell_34 : decode cX7_cell 34 = .ok (.iload_n 2, 1) := by decide +kernel
theorem dX7_cell_35 : decode cX7_cell 35 = .ok (.iconst 1, 1) := by decide +kernel
theorem dX7_cell_36 : decode cX7_cell 36 = .ok (.invokevirtual 131, 3) := by decide +kernel
theorem dX7_cell_39 : decode cX7_cell 39 = .ok (.putfield 66, 3) := by decide +kernel
theorem dX7_cell_42 : decode cX7_cell 42 = .ok (.aload_n 0, 1) := by decide +kernel
theorem dX7_cell_43 : decode cX7_cell 43 = .ok (.getfield 66, 3) := by decide +kernel
theorem dX7_cell_46 : decode cX7_cell 46 = .ok (.ifCond .ne 18, 3) := by decide +kernel
theorem dX7_cell_49 : decode cX7_cell 49 = .ok (.aload_n 0, 1) := by decide +kernel
theorem dX7_cell_50 : decode cX7_cell 50 = .ok (.getfield 58, 3) := by decide +kernel
theorem dX7_cell_53 : decode cX7_cell 53 = .ok (.getfield 293, 3) := by decide +kernel
theorem dX7_cell_56 : decode cX7_cell 56 = .ok (.iload_n 1, 1) := by decide +kernel
theorem dX7_cell_57 : decode cX7_cell 57 = .ok (.aaload, 1) := by decide +kernel
theorem dX7_cell_58 : decode cX7_cell 58 = .ok (.iload_n 2, 1) := by decide +kernel
theorem dX7_cell_59 : decode cX7_cell 59 = .ok (.iaload, 1) := by decide +kernel
theorem dX7_cell_60 : decode cX7_cell 60 = .ok (.i2l, 1) := by decide +kernel
theorem dX7_cell_61 : decode cX7_cell 61 = .ok (.goto 6, 3) := by decide +kernel
theorem dX7_cell_64 : decode cX7_cell 64 = .ok (.ldc2_w 276, 3) := by decide +kernel
theorem dX7_cell_67 : decode cX7_cell 67 = .ok (.lreturn, 1) := by decide +kernel
theorem dX7_tell_0 : decode cX7_tell 0 = .ok (.iload_n 1, 1) := by decide +kernel
theorem dX7_tell_1 : decode cX7_tell 1 = .ok (.iconst 0, 1) := by decide +kernel
theorem dX7_tell_2 : decode cX7_tell 2 = .ok (.aload_n 0, 1) := by decide +kernel
theorem dX7_tell_3 : decode cX7_tell 3 = .ok (.getfield 37, 3) := by decide +kernel
theorem dX7_tell_6 : decode cX7_tell 6 = .ok (.getfield 181, 3) := by decide +kernel
theorem dX7_tell_9 : decode cX7_tell 9 = .ok (.iconst 1, 1) := by decide +kernel
theorem dX7_tell_10 : decode cX7_tell 10 = .ok (.isub, 1) := by decide +kernel
theorem dX7_tell_11 : decode cX7_tell 11 = .ok (.invokestatic 70, 3) := by decide +kernel
theorem dX7_tell_14 : decode cX7_tell 14 = .ok (.ifCond .eq 14, 3) := by decide +kernel
theorem dX7_tell_17 : decode cX7_tell 17 = .ok (.aload_n 0, 1) := by decide +kernel
theorem dX7_tell_18 : decode cX7_tell 18 = .ok (.getfield 37, 3) := by decide +kernel
theorem dX7_tell_21 : decode cX7_tell 21 = .ok (.iload_n 1, 1) := by decide +kernel
theorem dX7_tell_22 : decode cX7_tell 22 = .ok (.invokevirtual 296, 3) := by decide +kernel
theorem dX7_tell_25 : decode cX7_tell 25 = .ok (.goto 4, 3) := by decide +kernel
theorem dX7_tell_28 : decode cX7_tell 28 = .ok (.iconst (-1), 1) := by decide +kernel
theorem dX7_tell_29 : decode cX7_tell 29 = .ok (.ireturn, 1) := by decide +kernel
theorem dX7_show_0 : decode cX7_show 0 = .ok (.iload_n 1, 1) := by decide +kernel
theorem dX7_show_1 : decode cX7_show 1 = .ok (.iconst 0, 1) := by decide +kernel
theorem dX7_show_2 : decode cX7_show 2 = .ok (.aload_n 0, 1) := by decide +kernel
theorem dX7_show_3 : decode cX7_show 3 = .ok (.getfield 37, 3) := by decide +kernel
theorem dX7_show_6 : decode cX7_show 6 = .ok (.getfield 181, 3) := by decide +kernel
theorem dX7_show_9 : decode cX7_show 9 = .ok (.iconst 1, 1) := by decide +kernel
theorem dX7_show_10 : decode cX7_show 10 = .ok (.isub, 1) := by decide +kernel
theorem dX7_show_11 : decode cX7_show 11 = .ok (.invokestatic 70, 3) := by decide +kernel
theorem dX7_show_14 : decode cX7_show 14 = .ok (.ifCond .eq 14, 3) := by decide +kernel
theorem dX7_show_17 : decode cX7_show 17 = .ok (.aload_n 0, 1) := by decide +kernel
theorem dX7_show_18 : decode cX7_show 18 = .ok (.getfield 37, 3) := by decide +kernel
theorem dX7_show_21 : decode cX7_show 21 = .ok (.iload_n 1, 1) := by decide +kernel
theorem dX7_show_22 : decode cX7_show 22 = .ok (.invokevirtual 299, 3) := by decide +kernel
theorem dX7_show_25 : decode cX7_show 25 = .ok (.goto 4, 3) := by decide +kernel
theorem dX7_show_28 : decode cX7_show 28 = .ok (.iconst (-1), 1) := by decide +kernel
theorem dX7_show_29 : decode cX7_show 29 = .ok (.ireturn, 1) := by decide +kernel
theorem dX7_as_0 : decode cX7_as 0 = .ok (.aload_n 0, 1) := by decide +kernel
theorem dX7_as_1 : decode cX7_as 1 = .ok (.iconst 0, 1) := by decide +kernel
theorem dX7_as_2 : decode cX7_as 2 = .ok (.putfield 66, 3) := by decide +kernel
theorem dX7_as_5 : decode cX7_as 5 = .ok (.iload_n 1, 1) := by decide +kernel
theorem dX7_as_6 : decode cX7_as 6 = .ok (.iconst 0, 1) := by decide +kernel
theorem dX7_as_7 : decode cX7_as 7 = .ok (.aload_n 0, 1) := by decide +kernel
theorem dX7_as_8 : decode cX7_as 8 = .ok (.getfield 37, 3) := by decide +kernel
theorem dX7_as_11 : decode cX7_as 11 = .ok (.getfield 181, 3) := by decide +kernel
theorem dX7_as_14 : decode cX7_as 14 = .ok (.iconst 1, 1) := by decide +kernel
theorem dX7_as_15 : decode cX7_as 15 = .ok (.isub, 1) := by decide +kernel
theorem dX7_as_16 : decode cX7_as 16 = .ok (.invokestatic 70, 3) := by decide +kernel
theorem dX7_as_19 : decode cX7_as 19 = .ok (.ifCond .ne 5, 3) := by decide +kernel
theorem dX7_as_22 : decode cX7_as 22 = .ok (.iconst (-1), 1) := by decide +kernel
theorem dX7_as_23 : decode cX7_as 23 = .ok (.ireturn, 1) := by decide +kernel
theorem dX7_as_24 : decode cX7_as 24 = .ok (.iload_n 2, 1) := by decide +kernel
theorem dX7_as_25 : decode cX7_as 25 = .ok (.iconst 0, 1) := by decide +kernel
theorem dX7_as_26 : decode cX7_as 26 = .ok (.iconst 2, 1) := by decide +kernel
theorem dX7_as_27 : decode cX7_as 27 = .ok (.invokestatic 70, 3) := by decide +kernel
theorem dX7_as_30 : decode cX7_as 30 = .ok (.ifCond .ne 6, 3) := by decide +kernel
theorem dX7_as_33 : decode cX7_as 33 = .ok (.bipush (-2), 2) := by decide +kernel
theorem dX7_as_35 : decode cX7_as 35 = .ok (.ireturn, 1) := by decide +kernel
theorem dX7_as_36 : decode cX7_as 36 = .ok (.iload_n 2, 1) := by decide +kernel
theorem dX7_as_37 : decode cX7_as 37 = .ok (.aload_n 0, 1) := by decide +kernel
theorem dX7_as_38 : decode cX7_as 38 = .ok (.getfield 37, 3) := by decide +kernel
theorem dX7_as_41 : decode cX7_as 41 = .ok (.iload_n 1, 1) := by decide +kernel
theorem dX7_as_42 : decode cX7_as 42 = .ok (.invokevirtual 221, 3) := by decide +kernel
theorem dX7_as_45 : decode cX7_as 45 = .ok (.if_icmp .le 11, 3) := by decide +kernel
theorem dX7_as_48 : decode cX7_as 48 = .ok (.aload_n 0, 1) := by decide +kernel
theorem dX7_as_49 : decode cX7_as 49 = .ok (.iconst 2, 1) := by decide +kernel
theorem dX7_as_50 : decode cX7_as 50 = .ok (.invokevirtual 135, 3) := by decide +kernel
theorem dX7_as_53 : decode cX7_as 53 = .ok (.goto 4, 3) := by decide +kernel
theorem dX7_as_56 : decode cX7_as 56 = .ok (.iconst 1, 1) := by decide +kernel
theorem dX7_as_57 : decode cX7_as 57 = .ok (.ireturn, 1) := by decide +kernel
theorem dX7_trace_0 : decode cX7_trace 0 = .ok (.aload_n 0, 1) := by decide +kernel
theorem dX7_trace_1 : decode cX7_trace 1 = .ok (.getfield 37, 3) := by decide +kernel
theorem dX7_trace_4 : decode cX7_trace 4 = .ok (.getfield 302, 3) := by decide +kernel
theorem dX7_trace_7 : decode cX7_trace 7 = .ok (.ireturn, 1) := by decide +kernel
theorem dX7_fault_0 : decode cX7_fault 0 = .ok (.aload_n 0, 1) := by decide +kernel
theorem dX7_fault_1 : decode cX7_fault 1 = .ok (.getfield 66, 3) := by decide +kernel
theorem dX7_fault_4 : decode cX7_fault 4 = .ok (.ireturn, 1) := by decide +kernel
theorem dX7_many_0 : decode cX7_many 0 = .ok (.iload_n 1, 1) := by decide +kernel
theorem dX7_many_1 : decode cX7_many 1 = .ok (.tableswitch 75 0 4 #[35, 43, 51, 59, 67], 35) := by decide +kernel
theorem dX7_many_36 : decode cX7_many 36 = .ok (.aload_n 0, 1) := by decide +kernel
theorem dX7_many_37 : decode cX7_many 37 = .ok (.getfield 12, 3) := by decide +kernel
theorem dX7_many_40 : decode cX7_many 40 = .ok (.getfield 91, 3) := by decide +kernel
theorem dX7_many_43 : decode cX7_many 43 = .ok (.ireturn, 1) := by decide +kernel
theorem dX7_many_44 : decode cX7_many 44 = .ok (.aload_n 0, 1) := by decide +kernel
theorem dX7_many_45 : decode cX7_many 45 = .ok (.getfield 37, 3) := by decide +kernel
theorem dX7_many_48 : decode cX7_many 48 = .ok (.getfield 181, 3) := by decide +kernel
theorem dX7_many_51 : decode cX7_many 51 = .ok (.ireturn, 1) := by decide +kernel
theorem dX7_many_52 : decode cX7_many 52 = .ok (.aload_n 0, 1) := by decide +kernel
theorem dX7_many_53 : decode cX7_many 53 = .ok (.getfield 37, 3) := by decide +kernel
theorem dX7_many_56 : decode cX7_many 56 = .ok (.getfield 188, 3) := by decide +kernel
theorem dX7_many_59 : decode cX7_many 59 = .ok (.ireturn, 1) := by decide +kernel
theorem dX7_many_60 : decode cX7_many 60 = .ok (.aload_n 0, 1) := by decide +kernel
theorem dX7_many_61 : decode cX7_many 61 = .ok (.getfield 51, 3) := by decide +kernel
theorem dX7_many_64 : decode cX7_many 64 = .ok (.getfield 232, 3) := by decide +kernel
theorem dX7_many_67 : decode cX7_many 67 = .ok (.ireturn, 1) := by decide +kernel
theorem dX7_many_68 : decode cX7_many 68 = .ok (.aload_n 0, 1) := by decide +kernel
theorem dX7_many_69 : decode cX7_many 69 = .ok (.getfield 21, 3) := by decide +kernel
theorem dX7_many_72 : decode cX7_many 72 = .ok (.getfield 166, 3) := by decide +kernel
theorem dX7_many_75 : decode cX7_many 75 = .ok (.ireturn, 1) := by decide +kernel
theorem dX7_many_76 : decode cX7_many 76 = .ok (.bipush (-2), 2) := by decide +kernel
theorem dX7_many_78 : decode cX7_many 78 = .ok (.ireturn, 1) := by decide +kernel
theorem dX7_within_0 : decode cX7_within 0 = .ok (.iload_n 0, 1) := by decide +kernel
theorem dX7_within_1 : decode cX7_within 1 = .ok (.iload_n 1, 1) := by decide +kernel
theorem dX7_within_2 : decode cX7_within 2 = .ok (.if_icmp .lt 12, 3) := by decide +kernel
theorem dX7_within_5 : decode cX7_within 5 = .ok (.iload_n 0, 1) := by decide +kernel
theorem dX7_within_6 : decode cX7_within 6 = .ok (.iload_n 2, 1) := by decide +kernel
theorem dX7_within_7 : decode cX7_within 7 = .ok (.if_icmp .gt 7, 3) := by decide +kernel
theorem dX7_within_10 : decode cX7_within 10 = .ok (.iconst 1, 1) := by decide +kernel
theorem dX7_within_11 : decode cX7_within 11 = .ok (.goto 4, 3) := by decide +kernel
theorem dX7_within_14 : decode cX7_within 14 = .ok (.iconst 0, 1) := by decide +kernel
theorem dX7_within_15 : decode cX7_within 15 = .ok (.ireturn, 1) := by decide +kernel
theorem dX7_isPort_0 : decode cX7_isPort 0 = .ok (.iload_n 1, 1) := by decide +kernel
theorem dX7_isPort_1 : decode cX7_isPort 1 = .ok (.iconst 0, 1) := by decide +kernel
theorem dX7_isPort_2 : decode cX7_isPort 2 = .ok (.aload_n 0, 1) := by decide +kernel
theorem dX7_isPort_3 : decode cX7_isPort 3 = .ok (.getfield 51, 3) := by decide +kernel
theorem dX7_isPort_6 : decode cX7_isPort 6 = .ok (.getfield 232, 3) := by decide +kernel
theorem dX7_isPort_9 : decode cX7_isPort 9 = .ok (.iconst 1, 1) := by decide +kernel
theorem dX7_isPort_10 : decode cX7_isPort 10 = .ok (.isub, 1) := by decide +kernel
theorem dX7_isPort_11 : decode cX7_isPort 11 = .ok (.invokestatic 70, 3) := by decide +kernel
theorem dX7_isPort_14 : decode cX7_isPort 14 = .ok (.ireturn, 1) := by decide +kernel
theorem dX7_faulted_0 : decode cX7_faulted 0 = .ok (.aload_n 0, 1) := by decide +kernel
theorem dX7_faulted_1 : decode cX7_faulted 1 = .ok (.iload_n 1, 1) := by decide +kernel
theorem dX7_faulted_2 : decode cX7_faulted 2 = .ok (.putfield 66, 3) := by decide +kernel
theorem dX7_faulted_5 : decode cX7_faulted 5 = .ok (.bipush (-10), 2) := by decide +kernel
theorem dX7_faulted_7 : decode cX7_faulted 7 = .ok (.iload_n 1, 1) := by decide +kernel
theorem dX7_faulted_8 : decode cX7_faulted 8 = .ok (.isub, 1) := by decide +kernel
theorem dX7_faulted_9 : decode cX7_faulted 9 = .ok (.ireturn, 1) := by decide +kernel
theorem dX8_init_0 : decode cX8_init 0 = .ok (.aload_n 0, 1) := by decide +kernel
theorem dX8_init_1 : decode cX8_init 1 = .ok (.invokespecial 1, 3) := by decide +kernel
theorem dX8_init_4 : decode cX8_init 4 = .ok (.aload_n 0, 1) := by decide +kernel
theorem dX8_init_5 : decode cX8_init 5 = .ok (.iconst 3, 1) := by decide +kernel
theorem dX8_init_6 : decode cX8_init 6 = .ok (.putfield 7, 3) := by decide +kernel
theorem dX8_init_9 : decode cX8_init 9 = .ok (.aload_n 0, 1) := by decide +kernel
theorem dX8_init_10 : decode cX8_init 10 = .ok (.iconst 2, 1) := by decide +kernel
theorem dX8_init_11 : decode cX8_init 11 = .ok (.putfield 13, 3) := by decide +kernel
theorem dX8_init_14 : decode cX8_init 14 = .ok (.aload_n 0, 1) := by decide +kernel
theorem dX8_init_15 : decode cX8_init 15 = .ok (.iconst 2, 1) := by decide +kernel
theorem dX8_init_16 : decode cX8_init 16 = .ok (.putfield 16, 3) := by decide +kernel
theorem dX8_init_19 : decode cX8_init 19 = .ok (.aload_n 0, 1) := by decide +kernel
theorem dX8_init_20 : decode cX8_init 20 = .ok (.bipush 20, 2) := by decide +kernel
theorem dX8_init_22 : decode cX8_init 22 = .ok (.newarray .int, 2) := by decide +kernel
theorem dX8_init_24 : decode cX8_init 24 = .ok (.putfield 19, 3) := by decide +kernel
theorem dX8_init_27 : decode cX8_init 27 = .ok (.aload_n 0, 1) := by decide +kernel
theorem dX8_init_28 : decode cX8_init 28 = .ok (.bipush 20, 2) := by decide +kernel
theorem dX8_init_30 : decode cX8_init 30 = .ok (.newarray .int, 2) := by decide +kernel
theorem dX8_init_32 : decode cX8_init 32 = .ok (.putfield 23, 3) := by decide +kernel
theorem dX8_init_35 : decode cX8_init 35 = .ok (.aload_n 0, 1) := by decide +kernel
theorem dX8_init_36 : decode cX8_init 36 = .ok (.bipush 20, 2) := by decide +kernel
theorem dX8_init_38 : decode cX8_init 38 = .ok (.newarray .int, 2) := by decide +kernel
theorem dX8_init_40 : decode cX8_init 40 = .ok (.putfield 26, 3) := by decide +kernel
theorem dX8_init_43 : decode cX8_init 43 = .ok (.aload_n 0, 1) := by decide +kernel
theorem dX8_init_44 : decode cX8_init 44 = .ok (.bipush 20, 2) := by decide +kernel
theorem dX8_init_46 : decode cX8_init 46 = .ok (.newarray .int, 2) := by decide +kernel
theorem dX8_init_48 : decode cX8_init 48 = .ok (.putfield 29, 3) := by decide +kernel
theorem dX8_init_51 : decode cX8_init 51 = .ok (.aload_n 0, 1) := by decide +kernel
theorem dX8_init_52 : decode cX8_init 52 = .ok (.bipush 20, 2) := by decide +kernel
theorem dX8_init_54 : decode cX8_init 54 = .ok (.newarray .int, 2) := by decide +kernel
theorem dX8_init_56 : decode cX8_init 56 = .ok (.putfield 32, 3) := by decide +kernel
theorem dX8_init_59 : decode cX8_init 59 = .ok (.aload_n 0, 1) := by decide +kernel
theorem dX8_init_60 : decode cX8_init 60 = .ok (.iconst 1, 1) := by decide +kernel
theorem dX8_init_61 : decode cX8_init 61 = .ok (.putfield 35, 3) := by decide +kernel
theorem dX8_init_64 : decode cX8_init 64 = .ok (.aload_n 0, 1) := by decide +kernel
theorem dX8_init_65 : decode cX8_init 65 = .ok (.bipush 8, 2) := by decide +kernel
theorem dX8_init_67 : decode cX8_init 67 = .ok (.newarray .int, 2) := by decide +kernel
theorem dX8_init_69 : decode cX8_init 69 = .ok (.dup, 1) := by decide +kernel
theorem dX8_init_70 : decode cX8_init 70 = .ok (.iconst 0, 1) := by decide +kernel
theorem dX8_init_71 : decode cX8_init 71 = .ok (.iconst 0, 1) := by decide +kernel
theorem dX8_init_72 : decode cX8_init 72 = .ok (.iastore, 1) := by decide +kernel
theorem dX8_init_73 : decode cX8_init 73 = .ok (.dup, 1) := by decide +kernel
theorem dX8_init_74 : decode cX8_init 74 = .ok (.iconst 1, 1) := by decide +kernel
theorem dX8_init_75 : decode cX8_init 75 = .ok (.iconst 1, 1) := by decide +kernel
theorem dX8_init_76 : decode cX8_init 76 = .ok (.iastore, 1) := by decide +kernel
theorem dX8_init_77 : decode cX8_init 77 = .ok (.dup, 1) := by decide +kernel
theorem dX8_init_78 : decode cX8_init 78 = .ok (.iconst 2, 1) := by decide +kernel
theorem dX8_init_79 : decode cX8_init 79 = .ok (.iconst 0, 1) := by decide +kernel
theorem dX8_init_80 : decode cX8_init 80 = .ok (.iastore, 1) := by decide +kernel
theorem dX8_init_81 : decode cX8_init 81 = .ok (.dup, 1) := by decide +kernel
theorem dX8_init_82 : decode cX8_init 82 = .ok (.iconst 3, 1) := by decide +kernel
theorem dX8_init_83 : decode cX8_init 83 = .ok (.iconst 0, 1) := by decide +kernel
theorem dX8_init_84 : decode cX8_init 84 = .ok (.iastore, 1) := by decide +kernel
theorem dX8_init_85 : decode cX8_init 85 = .ok (.dup, 1) := by decide +kernel
theorem dX8_init_86 : decode cX8_init 86 = .ok (.iconst 4, 1) := by decide +kernel
theorem dX8_init_87 : decode cX8_init 87 = .ok (.iconst 0, 1) := by decide +kernel
theorem dX8_init_88 : decode cX8_init 88 = .ok (.iastore, 1) := by decide +kernel
theorem dX8_init_89 : decode cX8_init 89 = .ok (.dup, 1) := by decide +kernel
theorem dX8_init_90 : decode cX8_init 90 = .ok (.iconst 5, 1) := by decide +kernel
theorem dX8_init_91 : decode cX8_init 91 = .ok (.iconst 0, 1) := by decide +kernel
theorem dX8_init_92 : decode cX8_init 92 = .ok (.iastore, 1) := by decide +kernel
theorem dX8_init_93 : decode cX8_init 93 = .ok (.dup, 1) := by decide +kernel
theorem dX8_init_94 : decode cX8_init 94 = .ok (.bipush 6, 2) := by decide +kernel
theorem dX8_init_96 : decode cX8_init 96 = .ok (.iconst 0, 1) := by decide +kernel
theorem dX8_init_97 : decode cX8_init 97 = .ok (.iastore, 1) := by decide +kernel
theorem dX8_init_98 : decode cX8_init 98 = .ok (.dup, 1) := by decide +kernel
theorem dX8_init_99 : decode cX8_init 99 = .ok (.bipush 7, 2) := by decide +kernel
theorem dX8_init_101 : decode cX8_init 101 = .ok (.iconst 0, 1) := by decide +kernel
theorem dX8_init_102 : decode cX8_init 102 = .ok (.iastore, 1) := by decide +kernel
theorem dX8_init_103 : decode cX8_init 103 = .ok (.putfield 38, 3) := by decide +kernel
theorem dX8_init_106 : decode cX8_init 106 = .ok (.aload_n 0, 1) := by decide +kernel
theorem dX8_init_107 : decode cX8_init 107 = .ok (.bipush 8, 2) := by decide +kernel
theorem dX8_init_109 : decode cX8_init 109 = .ok (.newarray .int, 2) := by decide +kernel
theorem dX8_init_111 : decode cX8_init 111 = .ok (.putfield 41, 3) := by decide +kernel
theorem dX8_init_114 : decode cX8_init 114 = .ok (.aload_n 0, 1) := by decide +kernel
theorem dX8_init_115 : decode cX8_init 115 = .ok (.bipush 8, 2) := by decide +kernel
theorem dX8_init_117 : decode cX8_init 117 = .ok (.newarray .int, 2) := by decide +kernel
theorem dX8_init_119 : decode cX8_init 119 = .ok (.putfield 44, 3) := by decide +kernel
theorem dX8_init_122 : decode cX8_init 122 = .ok (.aload_n 0, 1) := by decide +kernel
theorem dX8_init_123 : decode cX8_init 123 = .ok (.bipush 8, 2) := by decide +kernel
theorem dX8_init_125 : decode cX8_init 125 = .ok (.newarray .int, 2) := by decide +kernel
theorem dX8_init_127 : decode cX8_init 127 = .ok (.putfield 47, 3) := by decide +kernel
theorem dX8_init_130 : decode cX8_init 130 = .ok (.aload_n 0, 1) := by decide +kernel
theorem dX8_init_131 : decode cX8_init 131 = .ok (.iconst 4, 1) := by decide +kernel
theorem dX8_init_132 : decode cX8_init 132 = .ok (.newarray .int, 2) := by decide +kernel
theorem dX8_init_134 : decode cX8_init 134 = .ok (.dup, 1) := by decide +kernel
theorem dX8_init_135 : decode cX8_init 135 = .ok (.iconst 0, 1) := by decide +kernel
theorem dX8_init_136 : decode cX8_init 136 = .ok (.bipush (-9), 2) := by decide +kernel
theorem dX8_init_138 : decode cX8_init 138 = .ok (.iastore, 1) := by decide +kernel
theorem dX8_init_139 : decode cX8_init 139 = .ok (.dup, 1) := by decide +kernel
theorem dX8_init_140 : decode cX8_init 140 = .ok (.iconst 1, 1) := by decide +kernel
theorem dX8_init_141 : decode cX8_init 141 = .ok (.bipush (-9), 2) := by decide +kernel
theorem dX8_init_143 : decode cX8_init 143 = .ok (.iastore, 1) := by decide +kernel
theorem dX8_init_144 : decode cX8_init 144 = .ok (.dup, 1) := by decide +kernel
theorem dX8_init_145 : decode cX8_init 145 = .ok (.iconst 2, 1) := by decide +kernel
theorem dX8_init_146 : decode cX8_init 146 = .ok (.bipush (-9), 2) := by decide +kernel
theorem dX8_init_148 : decode cX8_init 148 = .ok (.iastore, 1) := by decide +kernel
theorem dX8_init_149 : decode cX8_init 149 = .ok (.dup, 1) := by decide +kernel
theorem dX8_init_150 : decode cX8_init 150 = .ok (.iconst 3, 1) := by decide +kernel
theorem dX8_init_151 : decode cX8_init 151 = .ok (.bipush (-9), 2) := by decide +kernel
theorem dX8_init_153 : decode cX8_init 153 = .ok (.iastore, 1) := by decide +kernel
theorem dX8_init_154 : decode cX8_init 154 = .ok (.putfield 50, 3) := by decide +kernel
theorem dX8_init_157 : decode cX8_init 157 = .ok (.aload_n 0, 1) := by decide +kernel
theorem dX8_init_158 : decode cX8_init 158 = .ok (.iconst 4, 1) := by decide +kernel
theorem dX8_init_159 : decode cX8_init 159 = .ok (.newarray .int, 2) := by decide +kernel
theorem dX8_init_161 : decode cX8_init 161 = .ok (.putfield 53, 3) := by decide +kernel
theorem dX8_init_164 : decode cX8_init 164 = .ok (.aload_n 0, 1) := by decide +kernel
theorem dX8_init_165 : decode cX8_init 165 = .ok (.sipush 240, 3) := by decide +kernel
theorem dX8_init_168 : decode cX8_init 168 = .ok (.newarray .int, 2) := by decide +kernel
theorem dX8_init_170 : decode cX8_init 170 = .ok (.putfield 56, 3) := by decide +kernel
theorem dX8_init_173 : decode cX8_init 173 = .ok (.aload_n 0, 1) := by decide +kernel
theorem dX8_init_174 : decode cX8_init 174 = .ok (.bipush 8, 2) := by decide +kernel
theorem dX8_init_176 : decode cX8_init 176 = .ok (.newarray .int, 2) := by decide +kernel
theorem dX8_init_178 : decode cX8_init 178 = .ok (.putfield 59, 3) := by decide +kernel
theorem dX8_init_181 : decode cX8_init 181 = .ok (.aload_n 0, 1) := by decide +kernel
theorem dX8_init_182 : decode cX8_init 182 = .ok (.iconst 4, 1) := by decide +kernel
theorem dX8_init_183 : decode cX8_init 183 = .ok (.putfield 62, 3) := by decide +kernel
theorem dX8_init_186 : decode cX8_init 186 = .ok (.aload_n 0, 1) := by decide +kernel
theorem dX8_init_187 : decode cX8_init 187 = .ok (.bipush 30, 2) := by decide +kernel
theorem dX8_init_189 : decode cX8_init 189 = .ok (.newarray .int, 2) := by decide +kernel
theorem dX8_init_191 : decode cX8_init 191 = .ok (.putfield 65, 3) := by decide +kernel
theorem dX8_init_194 : decode cX8_init 194 = .ok (.aload_n 0, 1) := by decide +kernel
theorem dX8_init_195 : decode cX8_init 195 = .ok (.bipush 30, 2) := by decide +kernel
theorem dX8_init_197 : decode cX8_init 197 = .ok (.newarray .int, 2) := by decide +kernel
theorem dX8_init_199 : decode cX8_init 199 = .ok (.putfield 68, 3) := by decide +kernel
theorem dX8_init_202 : decode cX8_init 202 = .ok (.aload_n 0, 1) := by decide +kernel
theorem dX8_init_203 : decode cX8_init 203 = .ok (.bipush 8, 2) := by decide +kernel
theorem dX8_init_205 : decode cX8_init 205 = .ok (.newarray .int, 2) := by decide +kernel
theorem dX8_init_207 : decode cX8_init 207 = .ok (.putfield 71, 3) := by decide +kernel
theorem dX8_init_210 : decode cX8_init 210 = .ok (.aload_n 0, 1) := by decide +kernel
theorem dX8_init_211 : decode cX8_init 211 = .ok (.bipush 8, 2) := by decide +kernel
theorem dX8_init_213 : decode cX8_init 213 = .ok (.newarray .int, 2) := by decide +kernel
theorem dX8_init_215 : decode cX8_init 215 = .ok (.putfield 74, 3) := by decide +kernel
theorem dX8_init_218 : decode cX8_init 218 = .ok (.aload_n 0, 1) := by decide +kernel
theorem dX8_init_219 : decode cX8_init 219 = .ok (.iconst 3, 1) := by decide +kernel
theorem dX8_init_220 : decode cX8_init 220 = .ok (.putfield 77, 3) := by decide +kernel
theorem dX8_init_223 : decode cX8_init 223 = .ok (.aload_n 0, 1) := by decide +kernel
theorem dX8_init_224 : decode cX8_init 224 = .ok (.bipush 25, 2) := by decide +kernel
theorem dX8_init_226 : decode cX8_init 226 = .ok (.newarray .int, 2) := by decide +kernel
theorem dX8_init_228 : decode cX8_init 228 = .ok (.putfield 80, 3) := by decide +kernel
theorem dX8_init_231 : decode cX8_init 231 = .ok (.aload_n 0, 1) := by decide +kernel
theorem dX8_init_232 : decode cX8_init 232 = .ok (.bipush 25, 2) := by decide +kernel
theorem dX8_init_234 : decode cX8_init 234 = .ok (.newarray .int, 2) := by decide +kernel
theorem dX8_init_236 : decode cX8_init 236 = .ok (.putfield 83, 3) := by decide +kernel
theorem dX8_init_239 : decode cX8_init 239 = .ok (.aload_n 0, 1) := by decide +kernel
theorem dX8_init_240 : decode cX8_init 240 = .ok (.bipush 25, 2) := by decide +kernel
theorem dX8_init_242 : decode cX8_init 242 = .ok (.newarray .int, 2) := by decide +kernel
theorem dX8_init_244 : decode cX8_init 244 = .ok (.putfield 86, 3) := by decide +kernel
theorem dX8_init_247 : decode cX8_init 247 = .ok (.aload_n 0, 1) := by decide +kernel
theorem dX8_init_248 : decode cX8_init 248 = .ok (.iconst 5, 1) := by decide +kernel
theorem dX8_init_249 : decode cX8_init 249 = .ok (.newarray .int, 2) := by decide +kernel
theorem dX8_init_251 : decode cX8_init 251 = .ok (.putfield 89, 3) := by decide +kernel
theorem dX8_init_254 : decode cX8_init 254 = .ok (.aload_n 0, 1) := by decide +kernel
theorem dX8_init_255 : decode cX8_init 255 = .ok (.iconst 5, 1) := by decide +kernel
theorem dX8_init_256 : decode cX8_init 256 = .ok (.newarray .int, 2) := by decide +kernel
theorem dX8_init_258 : decode cX8_init 258 = .ok (.putfield 92, 3) := by decide +kernel
theorem dX8_init_261 : decode cX8_init 261 = .ok (.aload_n 0, 1) := by decide +kernel
theorem dX8_init_262 : decode cX8_init 262 = .ok (.iconst 5, 1) := by decide +kernel
theorem dX8_init_263 : decode cX8_init 263 = .ok (.newarray .int, 2) := by decide +kernel
theorem dX8_init_265 : decode cX8_init 265 = .ok (.putfield 95, 3) := by decide +kernel
theorem dX8_init_268 : decode cX8_init 268 = .ok (.aload_n 0, 1) := by decide +kernel
theorem dX8_init_269 : decode cX8_init 269 = .ok (.iconst 5, 1) := by decide +kernel
theorem dX8_init_270 : decode cX8_init 270 = .ok (.newarray .int, 2) := by decide +kernel
theorem dX8_init_272 : decode cX8_init 272 = .ok (.dup, 1) := by decide +kernel
theorem dX8_init_273 : decode cX8_init 273 = .ok (.iconst 0, 1) := by decide +kernel
theorem dX8_init_274 : decode cX8_init 274 = .ok (.bipush (-9), 2) := by decide +kernel
theorem dX8_init_276 : decode cX8_init 276 = .ok (.iastore, 1) := by decide +kernel
theorem dX8_init_277 : decode cX8_init 277 = .ok (.dup, 1) := by decide +kernel
theorem dX8_init_278 : decode cX8_init 278 = .ok (.iconst 1, 1) := by decide +kernel
theorem dX8_init_279 : decode cX8_init 279 = .ok (.bipush (-9), 2) := by decide +kernel
theorem dX8_init_281 : decode cX8_init 281 = .ok (.iastore, 1) := by decide +kernel
theorem dX8_init_282 : decode cX8_init 282 = .ok (.dup, 1) := by decide +kernel
theorem dX8_init_283 : decode cX8_init 283 = .ok (.iconst 2, 1) := by decide +kernel
theorem dX8_init_284 : decode cX8_init 284 = .ok (.bipush (-9), 2) := by decide +kernel
theorem dX8_init_286 : decode cX8_init 286 = .ok (.iastore, 1) := by decide +kernel
theorem dX8_init_287 : decode cX8_init 287 = .ok (.dup, 1) := by decide +kernel
theorem dX8_init_288 : decode cX8_init 288 = .ok (.iconst 3, 1) := by decide +kernel
theorem dX8_init_289 : decode cX8_init 289 = .ok (.bipush (-9), 2) := by decide +kernel
theorem dX8_init_291 : decode cX8_init 291 = .ok (.iastore, 1) := by decide +kernel
theorem dX8_init_292 : decode cX8_init 292 = .ok (.dup, 1) := by decide +kernel
theorem dX8_init_293 : decode cX8_init 293 = .ok (.iconst 4, 1) := by decide +kernel
theorem dX8_init_294 : decode cX8_init 294 = .ok (.bipush (-9), 2) := by decide +kernel
theorem dX8_init_296 : decode cX8_init 296 = .ok (.iastore, 1) := by decide +kernel
theorem dX8_init_297 : decode cX8_init 297 = .ok (.putfield 98, 3) := by decide +kernel
theorem dX8_init_300 : decode cX8_init 300 = .ok (.aload_n 0, 1) := by decide +kernel
theorem dX8_init_301 : decode cX8_init 301 = .ok (.iconst 5, 1) := by decide +kernel
theorem dX8_init_302 : decode cX8_init 302 = .ok (.newarray .int, 2) := by decide +kernel
theorem dX8_init_304 : decode cX8_init 304 = .ok (.putfield 101, 3) := by decide +kernel
theorem dX8_init_307 : decode cX8_init 307 = .ok (.aload_n 0, 1) := by decide +kernel
theorem dX8_init_308 : decode cX8_init 308 = .ok (.iconst 5, 1) := by decide +kernel
theorem dX8_init_309 : decode cX8_init 309 = .ok (.newarray .int, 2) := by decide +kernel
theorem dX8_init_311 : decode cX8_init 311 = .ok (.putfield 104, 3) := by decide +kernel
theorem dX8_init_314 : decode cX8_init 314 = .ok (.return_, 1) := by decide +kernel
theorem dX8_fails_0 : decode cX8_fails 0 = .ok (.aload_n 0, 1) := by decide +kernel
theorem dX8_fails_1 : decode cX8_fails 1 = .ok (.iload_n 1, 1) := by decide +kernel
theorem dX8_fails_2 : decode cX8_fails 2 = .ok (.putfield 107, 3) := by decide +kernel
theorem dX8_fails_5 : decode cX8_fails 5 = .ok (.bipush (-10), 2) := by decide +kernel
theorem dX8_fails_7 : decode cX8_fails 7 = .ok (.iload_n 1, 1) := by decide +kernel
theorem dX8_fails_8 : decode cX8_fails 8 = .ok (.isub, 1) := by decide +kernel
theorem dX8_fails_9 : decode cX8_fails 9 = .ok (.ireturn, 1) := by decide +kernel
theorem dX8_fallsOut_0 : decode cX8_fallsOut 0 = .ok (.aload_n 0, 1) := by decide +kernel
theorem dX8_fallsOut_1 : decode cX8_fallsOut 1 = .ok (.iload_n 1, 1) := by decide +kernel
theorem dX8_fallsOut_2 : decode cX8_fallsOut 2 = .ok (.putfield 107, 3) := by decide +kernel
theorem dX8_fallsOut_5 : decode cX8_fallsOut 5 = .ok (.ldc2_w 110, 3) := by decide +kernel
theorem dX8_fallsOut_8 : decode cX8_fallsOut 8 = .ok (.lreturn, 1) := by decide +kernel
theorem dX8_within_0 : decode cX8_within 0 = .ok (.iload_n 0, 1) := by decide +kernel
theorem dX8_within_1 : decode cX8_within 1 = .ok (.iload_n 1, 1) := by decide +kernel
theorem dX8_within_2 : decode cX8_within 2 = .ok (.if_icmp .lt 12, 3) := by decide +kernel
theorem dX8_within_5 : decode cX8_within 5 = .ok (.iload_n 0, 1) := by decide +kernel
theorem dX8_within_6 : decode cX8_within 6 = .ok (.iload_n 2, 1) := by decide +kernel
theorem dX8_within_7 : decode cX8_within 7 = .ok (.if_icmp .gt 7, 3) := by decide +kernel
theorem dX8_within_10 : decode cX8_within 10 = .ok (.iconst 1, 1) := by decide +kernel
theorem dX8_within_11 : decode cX8_within 11 = .ok (.goto 4, 3) := by decide +kernel
theorem dX8_within_14 : decode cX8_within 14 = .ok (.iconst 0, 1) := by decide +kernel
theorem dX8_within_15 : decode cX8_within 15 = .ok (.ireturn, 1) := by decide +kernel
theorem dX8_lines_0 : decode cX8_lines 0 = .ok (.aload_n 0, 1) := by decide +kernel
theorem dX8_lines_1 : decode cX8_lines 1 = .ok (.getfield 7, 3) := by decide +kernel
theorem dX8_lines_4 : decode cX8_lines 4 = .ok (.aload_n 0, 1) := by decide +kernel
theorem dX8_lines_5 : decode cX8_lines 5 = .ok (.getfield 13, 3) := by decide +kernel
theorem dX8_lines_8 : decode cX8_lines 8 = .ok (.imul, 1) := by decide +kernel
theorem dX8_lines_9 : decode cX8_lines 9 = .ok (.ireturn, 1) := by decide +kernel
theorem dX8_isLine_0 : decode cX8_isLine 0 = .ok (.iload_n 1, 1) := by decide +kernel
theorem dX8_isLine_1 : decode cX8_isLine 1 = .ok (.ifCond .lt 15, 3) := by decide +kernel
theorem dX8_isLine_4 : decode cX8_isLine 4 = .ok (.iload_n 1, 1) := by decide +kernel
theorem dX8_isLine_5 : decode cX8_isLine 5 = .ok (.aload_n 0, 1) := by decide +kernel
theorem dX8_isLine_6 : decode cX8_isLine 6 = .ok (.invokevirtual 112, 3) := by decide +kernel
theorem dX8_isLine_9 : decode cX8_isLine 9 = .ok (.if_icmp .ge 7, 3) := by decide +kernel
theorem dX8_isLine_12 : decode cX8_isLine 12 = .ok (.iconst 1, 1) := by decide +kernel
theorem dX8_isLine_13 : decode cX8_isLine 13 = .ok (.goto 4, 3) := by decide +kernel
theorem dX8_isLine_16 : decode cX8_isLine 16 = .ok (.iconst 0, 1) := by decide +kernel
theorem dX8_isLine_17 : decode cX8_isLine 17 = .ok (.ireturn, 1) := by decide +kernel
theorem dX8_calls_0 : decode cX8_calls 0 = .ok (.iconst 0, 1) := by decide +kernel
theorem dX8_calls_1 : decode cX8_calls 1 = .ok (.istore_n 1, 1) := by decide +kernel
theorem dX8_calls_2 : decode cX8_calls 2 = .ok (.iconst 0, 1) := by decide +kernel
theorem dX8_calls_3 : decode cX8_calls 3 = .ok (.istore_n 2, 1) := by decide +kernel
theorem dX8_calls_4 : decode cX8_calls 4 = .ok (.iload_n 2, 1) := by decide +kernel
theorem dX8_calls_5 : decode cX8_calls 5 = .ok (.bipush 20, 2) := by decide +kernel
theorem dX8_calls_7 : decode cX8_calls 7 = .ok (.if_icmp .ge 26, 3) := by decide +kernel
theorem dX8_calls_10 : decode cX8_calls 10 = .ok (.iload_n 1, 1) := by decide +kernel
theorem dX8_calls_11 : decode cX8_calls 11 = .ok (.aload_n 0, 1) := by decide +kernel
theorem dX8_calls_12 : decode cX8_calls 12 = .ok (.getfield 19, 3) := by decide +kernel
theorem dX8_calls_15 : decode cX8_calls 15 = .ok (.iload_n 2, 1) := by decide +kernel
theorem dX8_calls_16 : decode cX8_calls 16 = .ok (.iaload, 1) := by decide +kernel
theorem dX8_calls_17 : decode cX8_calls 17 = .ok (.ifCond .le 7, 3) := by decide +kernel
theorem dX8_calls_20 : decode cX8_calls 20 = .ok (.iconst 1, 1) := by decide +kernel
theorem dX8_calls_21 : decode cX8_calls 21 = .ok (.goto 4, 3) := by decide +kernel
theorem dX8_calls_24 : decode cX8_calls 24 = .ok (.iconst 0, 1) := by decide +kernel
theorem dX8_calls_25 : decode cX8_calls 25 = .ok (.iadd, 1) := by decide +kernel
theorem dX8_calls_26 : decode cX8_calls 26 = .ok (.istore_n 1, 1) := by decide +kernel
theorem dX8_calls_27 : decode cX8_calls 27 = .ok (.iinc 2 1, 3) := by decide +kernel
theorem dX8_calls_30 : decode cX8_calls 30 = .ok (.goto (-26), 3) := by decide +kernel
theorem dX8_calls_33 : decode cX8_calls 33 = .ok (.iload_n 1, 1) := by decide +kernel
theorem dX8_calls_34 : decode cX8_calls 34 = .ok (.ireturn, 1) := by decide +kernel
theorem dX8_net_0 : decode cX8_net 0 = .ok (.iload_n 1, 1) := by decide +kernel
theorem dX8_net_1 : decode cX8_net 1 = .ok (.iconst 1, 1) := by decide +kernel
theorem dX8_net_2 : decode cX8_net 2 = .ok (.iconst 5, 1) := by decide +kernel
theorem dX8_net_3 : decode cX8_net 3 = .ok (.invokestatic 116, 3) := by decide +kernel
theorem dX8_net_6 : decode cX8_net 6 = .ok (.ifCond .eq 22, 3) := by decide +kernel
theorem dX8_net_9 : decode cX8_net 9 = .ok (.iload_n 2, 1) := by decide +kernel
theorem dX8_net_10 : decode cX8_net 10 = .ok (.iconst 1, 1) := by decide +kernel
theorem dX8_net_11 : decode cX8_net 11 = .ok (.iconst 4, 1) := by decide +kernel
theorem dX8_net_12 : decode cX8_net 12 = .ok (.invokestatic 116, 3) := by decide +kernel
theorem dX8_net_15 : decode cX8_net 15 = .ok (.ifCond .eq 13, 3) := by decide +kernel
theorem dX8_net_18 : decode cX8_net 18 = .ok (.iload_n 3, 1) := by decide +kernel
theorem dX8_net_19 : decode cX8_net 19 = .ok (.iconst 1, 1) := by decide +kernel
theorem dX8_net_20 : decode cX8_net 20 = .ok (.bipush 7, 2) := by decide +kernel
theorem dX8_net_22 : decode cX8_net 22 = .ok (.invokestatic 116, 3) := by decide +kernel
theorem dX8_net_25 : decode cX8_net 25 = .ok (.ifCond .ne 6, 3) := by decide +kernel
theorem dX8_net_28 : decode cX8_net 28 = .ok (.bipush (-2), 2) := by decide +kernel
theorem dX8_net_30 : decode cX8_net 30 = .ok (.ireturn, 1) := by decide +kernel
theorem dX8_net_31 : decode cX8_net 31 = .ok (.aload_n 0, 1) := by decide +kernel
theorem dX8_net_32 : decode cX8_net 32 = .ok (.iload_n 1, 1) := by decide +kernel
theorem dX8_net_33 : decode cX8_net 33 = .ok (.putfield 7, 3) := by decide +kernel
theorem dX8_net_36 : decode cX8_net 36 = .ok (.aload_n 0, 1) := by decide +kernel
theorem dX8_net_37 : decode cX8_net 37 = .ok (.iload_n 2, 1) := by decide +kernel
theorem dX8_net_38 : decode cX8_net 38 = .ok (.putfield 13, 3) := by decide +kernel
theorem dX8_net_41 : decode cX8_net 41 = .ok (.aload_n 0, 1) := by decide +kernel
theorem dX8_net_42 : decode cX8_net 42 = .ok (.iload_n 3, 1) := by decide +kernel
theorem dX8_net_43 : decode cX8_net 43 = .ok (.putfield 16, 3) := by decide +kernel
theorem dX8_net_46 : decode cX8_net 46 = .ok (.iconst 0, 1) := by decide +kernel
theorem dX8_net_47 : decode cX8_net 47 = .ok (.istore 4, 2) := by decide +kernel
theorem dX8_net_49 : decode cX8_net 49 = .ok (.iload 4, 2) := by decide +kernel
theorem dX8_net_51 : decode cX8_net 51 = .ok (.bipush 20, 2) := by decide +kernel
theorem dX8_net_53 : decode cX8_net 53 = .ok (.if_icmp .ge 17, 3) := by decide +kernel
theorem dX8_net_56 : decode cX8_net 56 = .ok (.aload_n 0, 1) := by decide +kernel
theorem dX8_net_57 : decode cX8_net 57 = .ok (.getfield 19, 3) := by decide +kernel
theorem dX8_net_60 : decode cX8_net 60 = .ok (.iload 4, 2) := by decide +kernel
theorem dX8_net_62 : decode cX8_net 62 = .ok (.iconst 0, 1) := by decide +kernel
theorem dX8_net_63 : decode cX8_net 63 = .ok (.iastore, 1) := by decide +kernel
theorem dX8_net_64 : decode cX8_net 64 = .ok (.iinc 4 1, 3) := by decide +kernel
theorem dX8_net_67 : decode cX8_net 67 = .ok (.goto (-18), 3) := by decide +kernel
theorem dX8_net_70 : decode cX8_net 70 = .ok (.aload_n 0, 1) := by decide +kernel
theorem dX8_net_71 : decode cX8_net 71 = .ok (.invokevirtual 112, 3) := by decide +kernel
theorem dX8_net_74 : decode cX8_net 74 = .ok (.ireturn, 1) := by decide +kernel
theorem dX8_netOf_0 : decode cX8_netOf 0 = .ok (.iload_n 1, 1) := by decide +kernel
theorem dX8_netOf_1 : decode cX8_netOf 1 = .ok (.tableswitch 116 0 5 #[39, 44, 49, 54, 59, 99], 39) := by decide +kernel
theorem dX8_netOf_40 : decode cX8_netOf 40 = .ok (.aload_n 0, 1) := by decide +kernel
theorem dX8_netOf_41 : decode cX8_netOf 41 = .ok (.getfield 7, 3) := by decide +kernel
theorem dX8_netOf_44 : decode cX8_netOf 44 = .ok (.ireturn, 1) := by decide +kernel
theorem dX8_netOf_45 : decode cX8_netOf 45 = .ok (.aload_n 0, 1) := by decide +kernel
theorem dX8_netOf_46 : decode cX8_netOf 46 = .ok (.getfield 13, 3) := by decide +kernel
theorem dX8_netOf_49 : decode cX8_netOf 49 = .ok (.ireturn, 1) := by decide +kernel
theorem dX8_netOf_50 : decode cX8_netOf 50 = .ok (.aload_n 0, 1) := by decide +kernel
theorem dX8_netOf_51 : decode cX8_netOf 51 = .ok (.getfield 16, 3) := by decide +kernel
theorem dX8_netOf_54 : decode cX8_netOf 54 = .ok (.ireturn, 1) := by decide +kernel
theorem dX8_netOf_55 : decode cX8_netOf 55 = .ok (.aload_n 0, 1) := by decide +kernel
theorem dX8_netOf_56 : decode cX8_netOf 56 = .ok (.invokevirtual 120, 3) := by decide +kernel
theorem dX8_netOf_59 : decode cX8_netOf 59 = .ok (.ireturn, 1) := by decide +kernel
theorem dX8_netOf_60 : decode cX8_netOf 60 = .ok (.aload_n 0, 1) := by decide +kernel
theorem dX8_netOf_61 : decode cX8_netOf 61 = .ok (.getfield 16, 3) := by decide +kernel
theorem dX8_netOf_64 : decode cX8_netOf 64 = .ok (.iconst 2, 1) := by decide +kernel
theorem dX8_netOf_65 : decode cX8_netOf 65 = .ok (.aload_n 0, 1) := by decide +kernel
theorem dX8_netOf_66 : decode cX8_netOf 66 = .ok (.getfield 13, 3) := by decide +kernel
theorem dX8_netOf_69 : decode cX8_netOf 69 = .ok (.imul, 1) := by decide +kernel
theorem dX8_netOf_70 : decode cX8_netOf 70 = .ok (.iconst 1, 1) := by decide +kernel
theorem dX8_netOf_71 : decode cX8_netOf 71 = .ok (.isub, 1) := by decide +kernel
theorem dX8_netOf_72 : decode cX8_netOf 72 = .ok (.if_icmp .ge 22, 3) := by decide +kernel
theorem dX8_netOf_75 : decode cX8_netOf 75 = .ok (.aload_n 0, 1) := by decide +kernel
theorem dX8_netOf_76 : decode cX8_netOf 76 = .ok (.getfield 7, 3) := by decide +kernel
theorem dX8_netOf_79 : decode cX8_netOf 79 = .ok (.iconst 1, 1) := by decide +kernel
theorem dX8_netOf_80 : decode cX8_netOf 80 = .ok (.if_icmp .ne 18, 3) := by decide +kernel
theorem dX8_netOf_83 : decode cX8_netOf 83 = .ok (.aload_n 0, 1) := by decide +kernel
theorem dX8_netOf_84 : decode cX8_netOf 84 = .ok (.getfield 16, 3) := by decide +kernel
theorem dX8_netOf_87 : decode cX8_netOf 87 = .ok (.aload_n 0, 1) := by decide +kernel
theorem dX8_netOf_88 : decode cX8_netOf 88 = .ok (.getfield 13, 3) := by decide +kernel
theorem dX8_netOf_91 : decode cX8_netOf 91 = .ok (.if_icmp .lt 7, 3) := by decide +kernel
theorem dX8_netOf_94 : decode cX8_netOf 94 = .ok (.iconst 1, 1) := by decide +kernel
theorem dX8_netOf_95 : decode cX8_netOf 95 = .ok (.goto 4, 3) := by decide +kernel
theorem dX8_netOf_98 : decode cX8_netOf 98 = .ok (.iconst 0, 1) := by decide +kernel
theorem dX8_netOf_99 : decode cX8_netOf 99 = .ok (.ireturn, 1) := by decide +kernel
theorem dX8_netOf_100 : decode cX8_netOf 100 = .ok (.aload_n 0, 1) := by decide +kernel
theorem dX8_netOf_101 : decode cX8_netOf 101 = .ok (.getfield 16, 3) := by decide +kernel
theorem dX8_netOf_104 : decode cX8_netOf 104 = .ok (.aload_n 0, 1) := by decide +kernel
theorem dX8_netOf_105 : decode cX8_netOf 105 = .ok (.getfield 13, 3) := by decide +kernel
theorem dX8_netOf_108 : decode cX8_netOf 108 = .ok (.if_icmp .lt 7, 3) := by decide +kernel
theorem dX8_netOf_111 : decode cX8_netOf 111 = .ok (.iconst 1, 1) := by decide +kernel
theorem dX8_netOf_112 : decode cX8_netOf 112 = .ok (.goto 4, 3) := by decide +kernel
theorem dX8_netOf_115 : decode cX8_netOf 115 = .ok (.iconst 0, 1) := by decide +kernel
theorem dX8_netOf_116 : decode cX8_netOf 116 = .ok (.ireturn, 1) := by decide +kernel
theorem dX8_netOf_117 : decode cX8_netOf 117 = .ok (.bipush (-2), 2) := by decide +kernel
theorem dX8_netOf_119 : decode cX8_netOf 119 = .ok (.ireturn, 1) := by decide +kernel
theorem dX8_atLeft_0 : decode cX8_atLeft 0 = .ok (.aload_n 0, 1) := by decide +kernel
theorem dX8_atLeft_1 : decode cX8_atLeft 1 = .ok (.getfield 13, 3) := by decide +kernel
theorem dX8_atLeft_4 : decode cX8_atLeft 4 = .ok (.iload_n 1, 1) := by decide +kernel
theorem dX8_atLeft_5 : decode cX8_atLeft 5 = .ok (.imul, 1) := by decide +kernel
theorem dX8_atLeft_6 : decode cX8_atLeft 6 = .ok (.istore_n 3, 1) := by decide +kernel
theorem dX8_atLeft_7 : decode cX8_atLeft 7 = .ok (.iload_n 3, 1) := by decide +kernel
theorem dX8_atLeft_8 : decode cX8_atLeft 8 = .ok (.aload_n 0, 1) := by decide +kernel
theorem dX8_atLeft_9 : decode cX8_atLeft 9 = .ok (.getfield 13, 3) := by decide +kernel
theorem dX8_atLeft_12 : decode cX8_atLeft 12 = .ok (.iload_n 1, 1) := by decide +kernel
theorem dX8_atLeft_13 : decode cX8_atLeft 13 = .ok (.imul, 1) := by decide +kernel
theorem dX8_atLeft_14 : decode cX8_atLeft 14 = .ok (.aload_n 0, 1) := by decide +kernel
theorem dX8_atLeft_15 : decode cX8_atLeft 15 = .ok (.getfield 13, 3) := by decide +kernel
theorem dX8_atLeft_18 : decode cX8_atLeft 18 = .ok (.iadd, 1) := by decide +kernel
theorem dX8_atLeft_19 : decode cX8_atLeft 19 = .ok (.if_icmp .ge 30, 3) := by decide +kernel
theorem dX8_atLeft_22 : decode cX8_atLeft 22 = .ok (.aload_n 0, 1) := by decide +kernel
theorem dX8_atLeft_23 : decode cX8_atLeft 23 = .ok (.getfield 19, 3) := by decide +kernel
theorem dX8_atLeft_26 : decode cX8_atLeft 26 = .ok (.iload_n 3, 1) := by decide +kernel
theorem dX8_atLeft_27 : decode cX8_atLeft 27 = .ok (.iaload, 1) := by decide +kernel
theorem dX8_atLeft_28 : decode cX8_atLeft 28 = .ok (.ifCond .le 15, 3) := by decide +kernel
theorem dX8_atLeft_31 : decode cX8_atLeft 31 = .ok (.aload_n 0, 1) := by decide +kernel
theorem dX8_atLeft_32 : decode cX8_atLeft 32 = .ok (.getfield 23, 3) := by decide +kernel
theorem dX8_atLeft_35 : decode cX8_atLeft 35 = .ok (.iload_n 3, 1) := by decide +kernel
theorem dX8_atLeft_36 : decode cX8_atLeft 36 = .ok (.iaload, 1) := by decide +kernel
theorem dX8_atLeft_37 : decode cX8_atLeft 37 = .ok (.iload_n 2, 1) := by decide +kernel
theorem dX8_atLeft_38 : decode cX8_atLeft 38 = .ok (.if_icmp .ne 5, 3) := by decide +kernel
theorem dX8_atLeft_41 : decode cX8_atLeft 41 = .ok (.iload_n 3, 1) := by decide +kernel
theorem dX8_atLeft_42 : decode cX8_atLeft 42 = .ok (.ireturn, 1) := by decide +kernel
theorem dX8_atLeft_43 : decode cX8_atLeft 43 = .ok (.iinc 3 1, 3) := by decide +kernel
theorem dX8_atLeft_46 : decode cX8_atLeft 46 = .ok (.goto (-39), 3) := by decide +kernel
theorem dX8_atLeft_49 : decode cX8_atLeft 49 = .ok (.bipush (-9), 2) := by decide +kernel
theorem dX8_atLeft_51 : decode cX8_atLeft 51 = .ok (.ireturn, 1) := by decide +kernel
theorem dX8_atRight_0 : decode cX8_atRight 0 = .ok (.iconst 0, 1) := by decide +kernel
theorem dX8_atRight_1 : decode cX8_atRight 1 = .ok (.istore_n 3, 1) := by decide +kernel
theorem dX8_atRight_2 : decode cX8_atRight 2 = .ok (.iload_n 3, 1) := by decide +kernel
theorem dX8_atRight_3 : decode cX8_atRight 3 = .ok (.aload_n 0, 1) := by decide +kernel
theorem dX8_atRight_4 : decode cX8_atRight 4 = .ok (.invokevirtual 112, 3) := by decide +kernel
theorem dX8_atRight_7 : decode cX8_atRight 7 = .ok (.if_icmp .ge 47, 3) := by decide +kernel
theorem dX8_atRight_10 : decode cX8_atRight 10 = .ok (.aload_n 0, 1) := by decide +kernel
theorem dX8_atRight_11 : decode cX8_atRight 11 = .ok (.getfield 19, 3) := by decide +kernel
theorem dX8_atRight_14 : decode cX8_atRight 14 = .ok (.iload_n 3, 1) := by decide +kernel
theorem dX8_atRight_15 : decode cX8_atRight 15 = .ok (.iaload, 1) := by decide +kernel
theorem dX8_atRight_16 : decode cX8_atRight 16 = .ok (.ifCond .le 32, 3) := by decide +kernel
theorem dX8_atRight_19 : decode cX8_atRight 19 = .ok (.aload_n 0, 1) := by decide +kernel
theorem dX8_atRight_20 : decode cX8_atRight 20 = .ok (.getfield 19, 3) := by decide +kernel
theorem dX8_atRight_23 : decode cX8_atRight 23 = .ok (.iload_n 3, 1) := by decide +kernel
theorem dX8_atRight_24 : decode cX8_atRight 24 = .ok (.iaload, 1) := by decide +kernel
theorem dX8_atRight_25 : decode cX8_atRight 25 = .ok (.iconst 1, 1) := by decide +kernel
theorem dX8_atRight_26 : decode cX8_atRight 26 = .ok (.isub, 1) := by decide +kernel
theorem dX8_atRight_27 : decode cX8_atRight 27 = .ok (.aload_n 0, 1) := by decide +kernel
theorem dX8_atRight_28 : decode cX8_atRight 28 = .ok (.getfield 13, 3) := by decide +kernel
theorem dX8_atRight_31 : decode cX8_atRight 31 = .ok (.idiv, 1) := by decide +kernel
theorem dX8_atRight_32 : decode cX8_atRight 32 = .ok (.iload_n 1, 1) := by decide +kernel
theorem dX8_atRight_33 : decode cX8_atRight 33 = .ok (.if_icmp .ne 15, 3) := by decide +kernel
theorem dX8_atRight_36 : decode cX8_atRight 36 = .ok (.aload_n 0, 1) := by decide +kernel
theorem dX8_atRight_37 : decode cX8_atRight 37 = .ok (.getfield 23, 3) := by decide +kernel
theorem dX8_atRight_40 : decode cX8_atRight 40 = .ok (.iload_n 3, 1) := by decide +kernel
theorem dX8_atRight_41 : decode cX8_atRight 41 = .ok (.iaload, 1) := by decide +kernel
theorem dX8_atRight_42 : decode cX8_atRight 42 = .ok (.iload_n 2, 1) := by decide +kernel
theorem dX8_atRight_43 : decode cX8_atRight 43 = .ok (.if_icmp .ne 5, 3) := by decide +kernel
theorem dX8_atRight_46 : decode cX8_atRight 46 = .ok (.iload_n 3, 1) := by decide +kernel
theorem dX8_atRight_47 : decode cX8_atRight 47 = .ok (.ireturn, 1) := by decide +kernel
theorem dX8_atRight_48 : decode cX8_atRight 48 = .ok (.iinc 3 1, 3) := by decide +kernel
theorem dX8_atRight_51 : decode cX8_atRight 51 = .ok (.goto (-49), 3) := by decide +kernel
theorem dX8_atRight_54 : decode cX8_atRight 54 = .ok (.bipush (-9), 2) := by decide +kernel
theorem dX8_atRight_56 : decode cX8_atRight 56 = .ok (.ireturn, 1) := by decide +kernel
theorem dX8_isTaken_0 : decode cX8_isTaken 0 = .ok (.iconst 0, 1) := by decide +kernel
theorem dX8_isTaken_1 : decode cX8_isTaken 1 = .ok (.istore_n 3, 1) := by decide +kernel
theorem dX8_isTaken_2 : decode cX8_isTaken 2 = .ok (.iload_n 3, 1) := by decide +kernel
theorem dX8_isTaken_3 : decode cX8_isTaken 3 = .ok (.aload_n 0, 1) := by decide +kernel
theorem dX8_isTaken_4 : decode cX8_isTaken 4 = .ok (.invokevirtual 112, 3) := by decide +kernel
theorem dX8_isTaken_7 : decode cX8_isTaken 7 = .ok (.if_icmp .ge 23, 3) := by decide +kernel
theorem dX8_isTaken_10 : decode cX8_isTaken 10 = .ok (.aload_n 0, 1) := by decide +kernel
theorem dX8_isTaken_11 : decode cX8_isTaken 11 = .ok (.getfield 19, 3) := by decide +kernel
theorem dX8_isTaken_14 : decode cX8_isTaken 14 = .ok (.iload_n 3, 1) := by decide +kernel
theorem dX8_isTaken_15 : decode cX8_isTaken 15 = .ok (.iaload, 1) := by decide +kernel
theorem dX8_isTaken_16 : decode cX8_isTaken 16 = .ok (.iload_n 2, 1) := by decide +kernel
theorem dX8_isTaken_17 : decode cX8_isTaken 17 = .ok (.iconst 1, 1) := by decide +kernel
theorem dX8_isTaken_18 : decode cX8_isTaken 18 = .ok (.iadd, 1) := by decide +kernel
theorem dX8_isTaken_19 : decode cX8_isTaken 19 = .ok (.if_icmp .ne 5, 3) := by decide +kernel
theorem dX8_isTaken_22 : decode cX8_isTaken 22 = .ok (.iconst 1, 1) := by decide +kernel
theorem dX8_isTaken_23 : decode cX8_isTaken 23 = .ok (.ireturn, 1) := by decide +kernel
theorem dX8_isTaken_24 : decode cX8_isTaken 24 = .ok (.iinc 3 1, 3) := by decide +kernel
theorem dX8_isTaken_27 : decode cX8_isTaken 27 = .ok (.goto (-25), 3) := by decide +kernel
theorem dX8_isTaken_30 : decode cX8_isTaken 30 = .ok (.aload_n 0, 1) := by decide +kernel
theorem dX8_isTaken_31 : decode cX8_isTaken 31 = .ok (.getfield 19, 3) := by decide +kernel
theorem dX8_isTaken_34 : decode cX8_isTaken 34 = .ok (.iload_n 1, 1) := by decide +kernel
theorem dX8_isTaken_35 : decode cX8_isTaken 35 = .ok (.iaload, 1) := by decide +kernel
theorem dX8_isTaken_36 : decode cX8_isTaken 36 = .ok (.ifCond .le 7, 3) := by decide +kernel
theorem dX8_isTaken_39 : decode cX8_isTaken 39 = .ok (.iconst 1, 1) := by decide +kernel
theorem dX8_isTaken_40 : decode cX8_isTaken 40 = .ok (.goto 4, 3) := by decide +kernel
theorem dX8_isTaken_43 : decode cX8_isTaken 43 = .ok (.iconst 0, 1) := by decide +kernel
theorem dX8_isTaken_44 : decode cX8_isTaken 44 = .ok (.ireturn, 1) := by decide +kernel
theorem dX8_setUp_0 : decode cX8_setUp 0 = .ok (.aload_n 0, 1) := by decide +kernel
theorem dX8_setUp_1 : decode cX8_setUp 1 = .ok (.getfield 19, 3) := by decide +kernel
theorem dX8_setUp_4 : decode cX8_setUp 4 = .ok (.iload_n 1, 1) := by decide +kernel
theorem dX8_setUp_5 : decode cX8_setUp 5 = .ok (.iload_n 2, 1) := by decide +kernel
theorem dX8_setUp_6 : decode cX8_setUp 6 = .ok (.iconst 1, 1) := by decide +kernel
theorem dX8_setUp_7 : decode cX8_setUp 7 = .ok (.iadd, 1) := by decide +kernel
theorem dX8_setUp_8 : decode cX8_setUp 8 = .ok (.iastore, 1) := by decide +kernel
theorem dX8_setUp_9 : decode cX8_setUp 9 = .ok (.aload_n 0, 1) := by decide +kernel
theorem dX8_setUp_10 : decode cX8_setUp 10 = .ok (.getfield 23, 3) := by decide +kernel
theorem dX8_setUp_13 : decode cX8_setUp 13 = .ok (.iload_n 1, 1) := by decide +kernel
theorem dX8_setUp_14 : decode cX8_setUp 14 = .ok (.iload_n 3, 1) := by decide +kernel
theorem dX8_setUp_15 : decode cX8_setUp 15 = .ok (.iastore, 1) := by decide +kernel
theorem dX8_setUp_16 : decode cX8_setUp 16 = .ok (.iload_n 3, 1) := by decide +kernel
theorem dX8_setUp_17 : decode cX8_setUp 17 = .ok (.ireturn, 1) := by decide +kernel
theorem dX8_call_0 : decode cX8_call 0 = .ok (.aload_n 0, 1) := by decide +kernel
theorem dX8_call_1 : decode cX8_call 1 = .ok (.iload_n 1, 1) := by decide +kernel
theorem dX8_call_2 : decode cX8_call 2 = .ok (.invokevirtual 123, 3) := by decide +kernel
theorem dX8_call_5 : decode cX8_call 5 = .ok (.ifCond .eq 11, 3) := by decide +kernel
theorem dX8_call_8 : decode cX8_call 8 = .ok (.aload_n 0, 1) := by decide +kernel
theorem dX8_call_9 : decode cX8_call 9 = .ok (.iload_n 2, 1) := by decide +kernel
theorem dX8_call_10 : decode cX8_call 10 = .ok (.invokevirtual 123, 3) := by decide +kernel
theorem dX8_call_13 : decode cX8_call 13 = .ok (.ifCond .ne 5, 3) := by decide +kernel
theorem dX8_call_16 : decode cX8_call 16 = .ok (.iconst (-1), 1) := by decide +kernel
theorem dX8_call_17 : decode cX8_call 17 = .ok (.ireturn, 1) := by decide +kernel
theorem dX8_call_18 : decode cX8_call 18 = .ok (.aload_n 0, 1) := by decide +kernel
theorem dX8_call_19 : decode cX8_call 19 = .ok (.iload_n 1, 1) := by decide +kernel
theorem dX8_call_20 : decode cX8_call 20 = .ok (.iload_n 2, 1) := by decide +kernel
theorem dX8_call_21 : decode cX8_call 21 = .ok (.invokevirtual 127, 3) := by decide +kernel
theorem dX8_call_24 : decode cX8_call 24 = .ok (.ifCond .eq 6, 3) := by decide +kernel
theorem dX8_call_27 : decode cX8_call 27 = .ok (.bipush (-3), 2) := by decide +kernel
theorem dX8_call_29 : decode cX8_call 29 = .ok (.ireturn, 1) := by decide +kernel
theorem dX8_call_30 : decode cX8_call 30 = .ok (.iconst 0, 1) := by decide +kernel
theorem dX8_call_31 : decode cX8_call 31 = .ok (.istore_n 3, 1) := by decide +kernel
theorem dX8_call_32 : decode cX8_call 32 = .ok (.iload_n 3, 1) := by decide +kernel
theorem dX8_call_33 : decode cX8_call 33 = .ok (.aload_n 0, 1) := by decide +kernel
theorem dX8_call_34 : decode cX8_call 34 = .ok (.getfield 16, 3) := by decide +kernel
theorem dX8_call_37 : decode cX8_call 37 = .ok (.if_icmp .ge 49, 3) := by decide +kernel
theorem dX8_call_40 : decode cX8_call 40 = .ok (.aload_n 0, 1) := by decide +kernel
theorem dX8_call_41 : decode cX8_call 41 = .ok (.iload_n 1, 1) := by decide +kernel
theorem dX8_call_42 : decode cX8_call 42 = .ok (.aload_n 0, 1) := by decide +kernel
theorem dX8_call_43 : decode cX8_call 43 = .ok (.getfield 13, 3) := by decide +kernel
theorem dX8_call_46 : decode cX8_call 46 = .ok (.idiv, 1) := by decide +kernel
theorem dX8_call_47 : decode cX8_call 47 = .ok (.iload_n 3, 1) := by decide +kernel
theorem dX8_call_48 : decode cX8_call 48 = .ok (.invokevirtual 131, 3) := by decide +kernel
theorem dX8_call_51 : decode cX8_call 51 = .ok (.bipush (-9), 2) := by decide +kernel
theorem dX8_call_53 : decode cX8_call 53 = .ok (.if_icmp .ne 27, 3) := by decide +kernel
theorem dX8_call_56 : decode cX8_call 56 = .ok (.aload_n 0, 1) := by decide +kernel
theorem dX8_call_57 : decode cX8_call 57 = .ok (.iload_n 2, 1) := by decide +kernel
theorem dX8_call_58 : decode cX8_call 58 = .ok (.aload_n 0, 1) := by decide +kernel
theorem dX8_call_59 : decode cX8_call 59 = .ok (.getfield 13, 3) := by decide +kernel
theorem dX8_call_62 : decode cX8_call 62 = .ok (.idiv, 1) := by decide +kernel
theorem dX8_call_63 : decode cX8_call 63 = .ok (.iload_n 3, 1) := by decide +kernel
theorem dX8_call_64 : decode cX8_call 64 = .ok (.invokevirtual 135, 3) := by decide +kernel
theorem dX8_call_67 : decode cX8_call 67 = .ok (.bipush (-9), 2) := by decide +kernel
theorem dX8_call_69 : decode cX8_call 69 = .ok (.if_icmp .ne 11, 3) := by decide +kernel
theorem dX8_call_72 : decode cX8_call 72 = .ok (.aload_n 0, 1) := by decide +kernel
theorem dX8_call_73 : decode cX8_call 73 = .ok (.iload_n 1, 1) := by decide +kernel
theorem dX8_call_74 : decode cX8_call 74 = .ok (.iload_n 2, 1) := by decide +kernel
theorem dX8_call_75 : decode cX8_call 75 = .ok (.iload_n 3, 1) := by decide +kernel
theorem dX8_call_76 : decode cX8_call 76 = .ok (.invokevirtual 138, 3) := by decide +kernel
theorem dX8_call_79 : decode cX8_call 79 = .ok (.ireturn, 1) := by decide +kernel
theorem dX8_call_80 : decode cX8_call 80 = .ok (.iinc 3 1, 3) := by decide +kernel
theorem dX8_call_83 : decode cX8_call 83 = .ok (.goto (-51), 3) := by decide +kernel
theorem dX8_call_86 : decode cX8_call 86 = .ok (.bipush (-9), 2) := by decide +kernel
theorem dX8_call_88 : decode cX8_call 88 = .ok (.ireturn, 1) := by decide +kernel
theorem dX8_chainOf_0 : decode cX8_chainOf 0 = .ok (.iload_n 2, 1) := by decide +kernel
theorem dX8_chainOf_1 : decode cX8_chainOf 1 = .ok (.iload_n 3, 1) := by decide +kernel
theorem dX8_chainOf_2 : decode cX8_chainOf 2 = .ok (.if_icmp .ne 5, 3) := by decide +kernel
theorem dX8_chainOf_5 : decode cX8_chainOf 5 = .ok (.iconst 0, 1) := by decide +kernel
theorem dX8_chainOf_6 : decode cX8_chainOf 6 = .ok (.ireturn, 1) := by decide +kernel
theorem dX8_chainOf_7 : decode cX8_chainOf 7 = .ok (.iconst 0, 1) := by decide +kernel
theorem dX8_chainOf_8 : decode cX8_chainOf 8 = .ok (.istore 4, 2) := by decide +kernel
theorem dX8_chainOf_10 : decode cX8_chainOf 10 = .ok (.aload_n 0, 1) := by decide +kernel
theorem dX8_chainOf_11 : decode cX8_chainOf 11 = .ok (.iload_n 1, 1) := by decide +kernel
theorem dX8_chainOf_12 : decode cX8_chainOf 12 = .ok (.iload_n 2, 1) := by decide +kernel
theorem dX8_chainOf_13 : decode cX8_chainOf 13 = .ok (.invokevirtual 135, 3) := by decide +kernel
theorem dX8_chainOf_16 : decode cX8_chainOf 16 = .ok (.istore 5, 2) := by decide +kernel
theorem dX8_chainOf_18 : decode cX8_chainOf 18 = .ok (.iload 5, 2) := by decide +kernel
theorem dX8_chainOf_20 : decode cX8_chainOf 20 = .ok (.bipush (-9), 2) := by decide +kernel
theorem dX8_chainOf_22 : decode cX8_chainOf 22 = .ok (.if_icmp .eq 62, 3) := by decide +kernel
theorem dX8_chainOf_25 : decode cX8_chainOf 25 = .ok (.aload_n 0, 1) := by decide +kernel
theorem dX8_chainOf_26 : decode cX8_chainOf 26 = .ok (.getfield 26, 3) := by decide +kernel
theorem dX8_chainOf_29 : decode cX8_chainOf 29 = .ok (.iload 4, 2) := by decide +kernel
theorem dX8_chainOf_31 : decode cX8_chainOf 31 = .ok (.iload 5, 2) := by decide +kernel
theorem dX8_chainOf_33 : decode cX8_chainOf 33 = .ok (.iastore, 1) := by decide +kernel
theorem dX8_chainOf_34 : decode cX8_chainOf 34 = .ok (.iinc 4 1, 3) := by decide +kernel
theorem dX8_chainOf_37 : decode cX8_chainOf 37 = .ok (.iload 4, 2) := by decide +kernel
theorem dX8_chainOf_39 : decode cX8_chainOf 39 = .ok (.iconst 2, 1) := by decide +kernel
theorem dX8_chainOf_40 : decode cX8_chainOf 40 = .ok (.irem, 1) := by decide +kernel
theorem dX8_chainOf_41 : decode cX8_chainOf 41 = .ok (.iconst 1, 1) := by decide +kernel
theorem dX8_chainOf_42 : decode cX8_chainOf 42 = .ok (.if_icmp .ne 18, 3) := by decide +kernel
theorem dX8_chainOf_45 : decode cX8_chainOf 45 = .ok (.aload_n 0, 1) := by decide +kernel
theorem dX8_chainOf_46 : decode cX8_chainOf 46 = .ok (.iload 5, 2) := by decide +kernel
theorem dX8_chainOf_48 : decode cX8_chainOf 48 = .ok (.aload_n 0, 1) := by decide +kernel
theorem dX8_chainOf_49 : decode cX8_chainOf 49 = .ok (.getfield 13, 3) := by decide +kernel
theorem dX8_chainOf_52 : decode cX8_chainOf 52 = .ok (.idiv, 1) := by decide +kernel
theorem dX8_chainOf_53 : decode cX8_chainOf 53 = .ok (.iload_n 3, 1) := by decide +kernel
theorem dX8_chainOf_54 : decode cX8_chainOf 54 = .ok (.invokevirtual 131, 3) := by decide +kernel
theorem dX8_chainOf_57 : decode cX8_chainOf 57 = .ok (.goto 22, 3) := by decide +kernel
theorem dX8_chainOf_60 : decode cX8_chainOf 60 = .ok (.aload_n 0, 1) := by decide +kernel
theorem dX8_chainOf_61 : decode cX8_chainOf 61 = .ok (.aload_n 0, 1) := by decide +kernel
theorem dX8_chainOf_62 : decode cX8_chainOf 62 = .ok (.getfield 19, 3) := by decide +kernel
theorem dX8_chainOf_65 : decode cX8_chainOf 65 = .ok (.iload 5, 2) := by decide +kernel
theorem dX8_chainOf_67 : decode cX8_chainOf 67 = .ok (.iaload, 1) := by decide +kernel
theorem dX8_chainOf_68 : decode cX8_chainOf 68 = .ok (.iconst 1, 1) := by decide +kernel
theorem dX8_chainOf_69 : decode cX8_chainOf 69 = .ok (.isub, 1) := by decide +kernel
theorem dX8_chainOf_70 : decode cX8_chainOf 70 = .ok (.aload_n 0, 1) := by decide +kernel
theorem dX8_chainOf_71 : decode cX8_chainOf 71 = .ok (.getfield 13, 3) := by decide +kernel
theorem dX8_chainOf_74 : decode cX8_chainOf 74 = .ok (.idiv, 1) := by decide +kernel
theorem dX8_chainOf_75 : decode cX8_chainOf 75 = .ok (.iload_n 2, 1) := by decide +kernel
theorem dX8_chainOf_76 : decode cX8_chainOf 76 = .ok (.invokevirtual 135, 3) := by decide +kernel
theorem dX8_chainOf_79 : decode cX8_chainOf 79 = .ok (.istore 5, 2) := by decide +kernel
theorem dX8_chainOf_81 : decode cX8_chainOf 81 = .ok (.goto (-63), 3) := by decide +kernel
theorem dX8_chainOf_84 : decode cX8_chainOf 84 = .ok (.iload 4, 2) := by decide +kernel
theorem dX8_chainOf_86 : decode cX8_chainOf 86 = .ok (.ireturn, 1) := by decide +kernel
theorem dX8_fewest_0 : decode cX8_fewest 0 = .ok (.bipush (-9), 2) := by decide +kernel
theorem dX8_fewest_2 : decode cX8_fewest 2 = .ok (.istore_n 3, 1) := by decide +kernel
theorem dX8_fewest_3 : decode cX8_fewest 3 = .ok (.iconst 0, 1) := by decide +kernel
theorem dX8_fewest_4 : decode cX8_fewest 4 = .ok (.istore 4, 2) := by decide +kernel
theorem dX8_fewest_6 : decode cX8_fewest 6 = .ok (.iload 4, 2) := by decide +kernel
theorem dX8_fewest_8 : decode cX8_fewest 8 = .ok (.aload_n 0, 1) := by decide +kernel
theorem dX8_fewest_9 : decode cX8_fewest 9 = .ok (.getfield 16, 3) := by decide +kernel
theorem dX8_fewest_12 : decode cX8_fewest 12 = .ok (.if_icmp .ge 110, 3) := by decide +kernel
theorem dX8_fewest_15 : decode cX8_fewest 15 = .ok (.aload_n 0, 1) := by decide +kernel
theorem dX8_fewest_16 : decode cX8_fewest 16 = .ok (.iload_n 1, 1) := by decide +kernel
theorem dX8_fewest_17 : decode cX8_fewest 17 = .ok (.aload_n 0, 1) := by decide +kernel
theorem dX8_fewest_18 : decode cX8_fewest 18 = .ok (.getfield 13, 3) := by decide +kernel
theorem dX8_fewest_21 : decode cX8_fewest 21 = .ok (.idiv, 1) := by decide +kernel
theorem dX8_fewest_22 : decode cX8_fewest 22 = .ok (.iload 4, 2) := by decide +kernel
theorem dX8_fewest_24 : decode cX8_fewest 24 = .ok (.invokevirtual 131, 3) := by decide +kernel
theorem dX8_fewest_27 : decode cX8_fewest 27 = .ok (.bipush (-9), 2) := by decide +kernel
theorem dX8_fewest_29 : decode cX8_fewest 29 = .ok (.if_icmp .eq 6, 3) := by decide +kernel
theorem dX8_fewest_32 : decode cX8_fewest 32 = .ok (.goto 84, 3) := by decide +kernel
theorem dX8_fewest_35 : decode cX8_fewest 35 = .ok (.iconst 0, 1) := by decide +kernel
theorem dX8_fewest_36 : decode cX8_fewest 36 = .ok (.istore 5, 2) := by decide +kernel
theorem dX8_fewest_38 : decode cX8_fewest 38 = .ok (.iload 5, 2) := by decide +kernel
theorem dX8_fewest_40 : decode cX8_fewest 40 = .ok (.aload_n 0, 1) := by decide +kernel
theorem dX8_fewest_41 : decode cX8_fewest 41 = .ok (.getfield 16, 3) := by decide +kernel
theorem dX8_fewest_44 : decode cX8_fewest 44 = .ok (.if_icmp .ge 72, 3) := by decide +kernel
theorem dX8_fewest_47 : decode cX8_fewest 47 = .ok (.aload_n 0, 1) := by decide +kernel
theorem dX8_fewest_48 : decode cX8_fewest 48 = .ok (.iload_n 2, 1) := by decide +kernel
theorem dX8_fewest_49 : decode cX8_fewest 49 = .ok (.aload_n 0, 1) := by decide +kernel
theorem dX8_fewest_50 : decode cX8_fewest 50 = .ok (.getfield 13, 3) := by decide +kernel
theorem dX8_fewest_53 : decode cX8_fewest 53 = .ok (.idiv, 1) := by decide +kernel
theorem dX8_fewest_54 : decode cX8_fewest 54 = .ok (.iload 5, 2) := by decide +kernel
theorem dX8_fewest_56 : decode cX8_fewest 56 = .ok (.invokevirtual 135, 3) := by decide +kernel
theorem dX8_fewest_59 : decode cX8_fewest 59 = .ok (.bipush (-9), 2) := by decide +kernel
theorem dX8_fewest_61 : decode cX8_fewest 61 = .ok (.if_icmp .eq 6, 3) := by decide +kernel
theorem dX8_fewest_64 : decode cX8_fewest 64 = .ok (.goto 46, 3) := by decide +kernel
theorem dX8_fewest_67 : decode cX8_fewest 67 = .ok (.aload_n 0, 1) := by decide +kernel
theorem dX8_fewest_68 : decode cX8_fewest 68 = .ok (.iload_n 2, 1) := by decide +kernel
theorem dX8_fewest_69 : decode cX8_fewest 69 = .ok (.aload_n 0, 1) := by decide +kernel
theorem dX8_fewest_70 : decode cX8_fewest 70 = .ok (.getfield 13, 3) := by decide +kernel
theorem dX8_fewest_73 : decode cX8_fewest 73 = .ok (.idiv, 1) := by decide +kernel
theorem dX8_fewest_74 : decode cX8_fewest 74 = .ok (.iload 4, 2) := by decide +kernel
theorem dX8_fewest_76 : decode cX8_fewest 76 = .ok (.iload 5, 2) := by decide +kernel
theorem dX8_fewest_78 : decode cX8_fewest 78 = .ok (.invokevirtual 142, 3) := by decide +kernel
theorem dX8_fewest_81 : decode cX8_fewest 81 = .ok (.istore 6, 2) := by decide +kernel
theorem dX8_fewest_83 : decode cX8_fewest 83 = .ok (.iload_n 3, 1) := by decide +kernel
theorem dX8_fewest_84 : decode cX8_fewest 84 = .ok (.bipush (-9), 2) := by decide +kernel
theorem dX8_fewest_86 : decode cX8_fewest 86 = .ok (.if_icmp .eq 9, 3) := by decide +kernel
theorem dX8_fewest_89 : decode cX8_fewest 89 = .ok (.iload 6, 2) := by decide +kernel
theorem dX8_fewest_91 : decode cX8_fewest 91 = .ok (.iload_n 3, 1) := by decide +kernel
theorem dX8_fewest_92 : decode cX8_fewest 92 = .ok (.if_icmp .ge 18, 3) := by decide +kernel
theorem dX8_fewest_95 : decode cX8_fewest 95 = .ok (.iload 6, 2) := by decide +kernel
theorem dX8_fewest_97 : decode cX8_fewest 97 = .ok (.istore_n 3, 1) := by decide +kernel
theorem dX8_fewest_98 : decode cX8_fewest 98 = .ok (.aload_n 0, 1) := by decide +kernel
theorem dX8_fewest_99 : decode cX8_fewest 99 = .ok (.iload 4, 2) := by decide +kernel
theorem dX8_fewest_101 : decode cX8_fewest 101 = .ok (.putfield 145, 3) := by decide +kernel
theorem dX8_fewest_104 : decode cX8_fewest 104 = .ok (.aload_n 0, 1) := by decide +kernel
theorem dX8_fewest_105 : decode cX8_fewest 105 = .ok (.iload 5, 2) := by decide +kernel
theorem dX8_fewest_107 : decode cX8_fewest 107 = .ok (.putfield 148, 3) := by decide +kernel
theorem dX8_fewest_110 : decode cX8_fewest 110 = .ok (.iinc 5 1, 3) := by decide +kernel
theorem dX8_fewest_113 : decode cX8_fewest 113 = .ok (.goto (-75), 3) := by decide +kernel
theorem dX8_fewest_116 : decode cX8_fewest 116 = .ok (.iinc 4 1, 3) := by decide +kernel
theorem dX8_fewest_119 : decode cX8_fewest 119 = .ok (.goto (-113), 3) := by decide +kernel
theorem dX8_fewest_122 : decode cX8_fewest 122 = .ok (.iload_n 3, 1) := by decide +kernel
theorem dX8_fewest_123 : decode cX8_fewest 123 = .ok (.ireturn, 1) := by decide +kernel
theorem dX8_mendOne_0 : decode cX8_mendOne 0 = .ok (.aload_n 0, 1) := by decide +kernel
theorem dX8_mendOne_1 : decode cX8_mendOne 1 = .ok (.iload_n 1, 1) := by decide +kernel
theorem dX8_mendOne_2 : decode cX8_mendOne 2 = .ok (.iload_n 2, 1) := by decide +kernel
theorem dX8_mendOne_3 : decode cX8_mendOne 3 = .ok (.invokevirtual 151, 3) := by decide +kernel
theorem dX8_mendOne_6 : decode cX8_mendOne 6 = .ok (.istore_n 3, 1) := by decide +kernel
theorem dX8_mendOne_7 : decode cX8_mendOne 7 = .ok (.iload_n 3, 1) := by decide +kernel
theorem dX8_mendOne_8 : decode cX8_mendOne 8 = .ok (.bipush (-9), 2) := by decide +kernel
theorem dX8_mendOne_10 : decode cX8_mendOne 10 = .ok (.if_icmp .ne 6, 3) := by decide +kernel
theorem dX8_mendOne_13 : decode cX8_mendOne 13 = .ok (.bipush (-9), 2) := by decide +kernel
theorem dX8_mendOne_15 : decode cX8_mendOne 15 = .ok (.ireturn, 1) := by decide +kernel
theorem dX8_mendOne_16 : decode cX8_mendOne 16 = .ok (.aload_n 0, 1) := by decide +kernel
theorem dX8_mendOne_17 : decode cX8_mendOne 17 = .ok (.iload_n 2, 1) := by decide +kernel
theorem dX8_mendOne_18 : decode cX8_mendOne 18 = .ok (.aload_n 0, 1) := by decide +kernel
theorem dX8_mendOne_19 : decode cX8_mendOne 19 = .ok (.getfield 13, 3) := by decide +kernel
theorem dX8_mendOne_22 : decode cX8_mendOne 22 = .ok (.idiv, 1) := by decide +kernel
theorem dX8_mendOne_23 : decode cX8_mendOne 23 = .ok (.aload_n 0, 1) := by decide +kernel
theorem dX8_mendOne_24 : decode cX8_mendOne 24 = .ok (.getfield 145, 3) := by decide +kernel
theorem dX8_mendOne_27 : decode cX8_mendOne 27 = .ok (.aload_n 0, 1) := by decide +kernel
theorem dX8_mendOne_28 : decode cX8_mendOne 28 = .ok (.getfield 148, 3) := by decide +kernel
theorem dX8_mendOne_31 : decode cX8_mendOne 31 = .ok (.invokevirtual 142, 3) := by decide +kernel
theorem dX8_mendOne_34 : decode cX8_mendOne 34 = .ok (.istore_n 3, 1) := by decide +kernel
theorem dX8_mendOne_35 : decode cX8_mendOne 35 = .ok (.iconst 0, 1) := by decide +kernel
theorem dX8_mendOne_36 : decode cX8_mendOne 36 = .ok (.istore 4, 2) := by decide +kernel
theorem dX8_mendOne_38 : decode cX8_mendOne 38 = .ok (.iload 4, 2) := by decide +kernel
theorem dX8_mendOne_40 : decode cX8_mendOne 40 = .ok (.iload_n 3, 1) := by decide +kernel
theorem dX8_mendOne_41 : decode cX8_mendOne 41 = .ok (.if_icmp .ge 39, 3) := by decide +kernel
theorem dX8_mendOne_44 : decode cX8_mendOne 44 = .ok (.aload_n 0, 1) := by decide +kernel
theorem dX8_mendOne_45 : decode cX8_mendOne 45 = .ok (.getfield 23, 3) := by decide +kernel
theorem dX8_mendOne_48 : decode cX8_mendOne 48 = .ok (.aload_n 0, 1) := by decide +kernel
theorem dX8_mendOne_49 : decode cX8_mendOne 49 = .ok (.getfield 26, 3) := by decide +kernel
theorem dX8_mendOne_52 : decode cX8_mendOne 52 = .ok (.iload 4, 2) := by decide +kernel
theorem dX8_mendOne_54 : decode cX8_mendOne 54 = .ok (.iaload, 1) := by decide +kernel
theorem dX8_mendOne_55 : decode cX8_mendOne 55 = .ok (.iload 4, 2) := by decide +kernel
theorem dX8_mendOne_57 : decode cX8_mendOne 57 = .ok (.iconst 2, 1) := by decide +kernel
theorem dX8_mendOne_58 : decode cX8_mendOne 58 = .ok (.irem, 1) := by decide +kernel
theorem dX8_mendOne_59 : decode cX8_mendOne 59 = .ok (.ifCond .ne 10, 3) := by decide +kernel
theorem dX8_mendOne_62 : decode cX8_mendOne 62 = .ok (.aload_n 0, 1) := by decide +kernel
theorem dX8_mendOne_63 : decode cX8_mendOne 63 = .ok (.getfield 148, 3) := by decide +kernel
theorem dX8_mendOne_66 : decode cX8_mendOne 66 = .ok (.goto 7, 3) := by decide +kernel
theorem dX8_mendOne_69 : decode cX8_mendOne 69 = .ok (.aload_n 0, 1) := by decide +kernel
theorem dX8_mendOne_70 : decode cX8_mendOne 70 = .ok (.getfield 145, 3) := by decide +kernel
theorem dX8_mendOne_73 : decode cX8_mendOne 73 = .ok (.iastore, 1) := by decide +kernel
theorem dX8_mendOne_74 : decode cX8_mendOne 74 = .ok (.iinc 4 1, 3) := by decide +kernel
theorem dX8_mendOne_77 : decode cX8_mendOne 77 = .ok (.goto (-39), 3) := by decide +kernel
theorem dX8_mendOne_80 : decode cX8_mendOne 80 = .ok (.aload_n 0, 1) := by decide +kernel
theorem dX8_mendOne_81 : decode cX8_mendOne 81 = .ok (.iload_n 1, 1) := by decide +kernel
theorem dX8_mendOne_82 : decode cX8_mendOne 82 = .ok (.iload_n 2, 1) := by decide +kernel
theorem dX8_mendOne_83 : decode cX8_mendOne 83 = .ok (.aload_n 0, 1) := by decide +kernel
theorem dX8_mendOne_84 : decode cX8_mendOne 84 = .ok (.getfield 145, 3) := by decide +kernel
theorem dX8_mendOne_87 : decode cX8_mendOne 87 = .ok (.invokevirtual 138, 3) := by decide +kernel
theorem dX8_mendOne_90 : decode cX8_mendOne 90 = .ok (.istore 4, 2) := by decide +kernel
theorem dX8_mendOne_92 : decode cX8_mendOne 92 = .ok (.iload_n 3, 1) := by decide +kernel
theorem dX8_mendOne_93 : decode cX8_mendOne 93 = .ok (.ireturn, 1) := by decide +kernel
theorem dX8_mend_0 : decode cX8_mend 0 = .ok (.aload_n 0, 1) := by decide +kernel
theorem dX8_mend_1 : decode cX8_mend 1 = .ok (.iload_n 1, 1) := by decide +kernel
theorem dX8_mend_2 : decode cX8_mend 2 = .ok (.invokevirtual 123, 3) := by decide +kernel
theorem dX8_mend_5 : decode cX8_mend 5 = .ok (.ifCond .eq 11, 3) := by decide +kernel
theorem dX8_mend_8 : decode cX8_mend 8 = .ok (.aload_n 0, 1) := by decide +kernel
theorem dX8_mend_9 : decode cX8_mend 9 = .ok (.iload_n 2, 1) := by decide +kernel
theorem dX8_mend_10 : decode cX8_mend 10 = .ok (.invokevirtual 123, 3) := by decide +kernel
theorem dX8_mend_13 : decode cX8_mend 13 = .ok (.ifCond .ne 5, 3) := by decide +kernel
theorem dX8_mend_16 : decode cX8_mend 16 = .ok (.iconst (-1), 1) := by decide +kernel
theorem dX8_mend_17 : decode cX8_mend 17 = .ok (.ireturn, 1) := by decide +kernel
theorem dX8_mend_18 : decode cX8_mend 18 = .ok (.aload_n 0, 1) := by decide +kernel
theorem dX8_mend_19 : decode cX8_mend 19 = .ok (.iload_n 1, 1) := by decide +kernel
theorem dX8_mend_20 : decode cX8_mend 20 = .ok (.iload_n 2, 1) := by decide +kernel
theorem dX8_mend_21 : decode cX8_mend 21 = .ok (.invokevirtual 127, 3) := by decide +kernel
theorem dX8_mend_24 : decode cX8_mend 24 = .ok (.ifCond .eq 8, 3) := by decide +kernel
theorem dX8_mend_27 : decode cX8_mend 27 = .ok (.bipush (-3), 2) := by decide +kernel
theorem dX8_mend_29 : decode cX8_mend 29 = .ok (.goto 9, 3) := by decide +kernel
theorem dX8_mend_32 : decode cX8_mend 32 = .ok (.aload_n 0, 1) := by decide +kernel
theorem dX8_mend_33 : decode cX8_mend 33 = .ok (.iload_n 1, 1) := by decide +kernel
theorem dX8_mend_34 : decode cX8_mend 34 = .ok (.iload_n 2, 1) := by decide +kernel
theorem dX8_mend_35 : decode cX8_mend 35 = .ok (.invokevirtual 154, 3) := by decide +kernel
theorem dX8_mend_38 : decode cX8_mend 38 = .ok (.ireturn, 1) := by decide +kernel
theorem dX8_moves_0 : decode cX8_moves 0 = .ok (.aload_n 0, 1) := by decide +kernel
theorem dX8_moves_1 : decode cX8_moves 1 = .ok (.iload_n 1, 1) := by decide +kernel
theorem dX8_moves_2 : decode cX8_moves 2 = .ok (.invokevirtual 123, 3) := by decide +kernel
theorem dX8_moves_5 : decode cX8_moves 5 = .ok (.ifCond .eq 11, 3) := by decide +kernel
theorem dX8_moves_8 : decode cX8_moves 8 = .ok (.aload_n 0, 1) := by decide +kernel
theorem dX8_moves_9 : decode cX8_moves 9 = .ok (.iload_n 2, 1) := by decide +kernel
theorem dX8_moves_10 : decode cX8_moves 10 = .ok (.invokevirtual 123, 3) := by decide +kernel
theorem dX8_moves_13 : decode cX8_moves 13 = .ok (.ifCond .ne 5, 3) := by decide +kernel
theorem dX8_moves_16 : decode cX8_moves 16 = .ok (.iconst (-1), 1) := by decide +kernel
theorem dX8_moves_17 : decode cX8_moves 17 = .ok (.ireturn, 1) := by decide +kernel
theorem dX8_moves_18 : decode cX8_moves 18 = .ok (.aload_n 0, 1) := by decide +kernel
theorem dX8_moves_19 : decode cX8_moves 19 = .ok (.iload_n 1, 1) := by decide +kernel
theorem dX8_moves_20 : decode cX8_moves 20 = .ok (.iload_n 2, 1) := by decide +kernel
theorem dX8_moves_21 : decode cX8_moves 21 = .ok (.invokevirtual 127, 3) := by decide +kernel
theorem dX8_moves_24 : decode cX8_moves 24 = .ok (.ifCond .eq 8, 3) := by decide +kernel
theorem dX8_moves_27 : decode cX8_moves 27 = .ok (.bipush (-3), 2) := by decide +kernel
theorem dX8_moves_29 : decode cX8_moves 29 = .ok (.goto 9, 3) := by decide +kernel
theorem dX8_moves_32 : decode cX8_moves 32 = .ok (.aload_n 0, 1) := by decide +kernel
theorem dX8_moves_33 : decode cX8_moves 33 = .ok (.iload_n 1, 1) := by decide +kernel
theorem dX8_moves_34 : decode cX8_moves 34 = .ok (.iload_n 2, 1) := by decide +kernel
theorem dX8_moves_35 : decode cX8_moves 35 = .ok (.invokevirtual 151, 3) := by decide +kernel
theorem dX8_moves_38 : decode cX8_moves 38 = .ok (.ireturn, 1) := by decide +kernel
theorem dX8_hang_0 : decode cX8_hang 0 = .ok (.aload_n 0, 1) := by decide +kernel
theorem dX8_hang_1 : decode cX8_hang 1 = .ok (.iload_n 1, 1) := by decide +kernel
theorem dX8_hang_2 : decode cX8_hang 2 = .ok (.invokevirtual 123, 3) := by decide +kernel
theorem dX8_hang_5 : decode cX8_hang 5 = .ok (.ifCond .ne 5, 3) := by decide +kernel
theorem dX8_hang_8 : decode cX8_hang 8 = .ok (.iconst (-1), 1) := by decide +kernel
theorem dX8_hang_9 : decode cX8_hang 9 = .ok (.ireturn, 1) := by decide +kernel
theorem dX8_hang_10 : decode cX8_hang 10 = .ok (.aload_n 0, 1) := by decide +kernel
theorem dX8_hang_11 : decode cX8_hang 11 = .ok (.getfield 19, 3) := by decide +kernel
theorem dX8_hang_14 : decode cX8_hang 14 = .ok (.iload_n 1, 1) := by decide +kernel
theorem dX8_hang_15 : decode cX8_hang 15 = .ok (.iaload, 1) := by decide +kernel
theorem dX8_hang_16 : decode cX8_hang 16 = .ok (.ifCond .ne 6, 3) := by decide +kernel
theorem dX8_hang_19 : decode cX8_hang 19 = .ok (.bipush (-3), 2) := by decide +kernel
theorem dX8_hang_21 : decode cX8_hang 21 = .ok (.ireturn, 1) := by decide +kernel
theorem dX8_hang_22 : decode cX8_hang 22 = .ok (.aload_n 0, 1) := by decide +kernel
theorem dX8_hang_23 : decode cX8_hang 23 = .ok (.getfield 19, 3) := by decide +kernel
theorem dX8_hang_26 : decode cX8_hang 26 = .ok (.iload_n 1, 1) := by decide +kernel
theorem dX8_hang_27 : decode cX8_hang 27 = .ok (.iconst 0, 1) := by decide +kernel
theorem dX8_hang_28 : decode cX8_hang 28 = .ok (.iastore, 1) := by decide +kernel
theorem dX8_hang_29 : decode cX8_hang 29 = .ok (.aload_n 0, 1) := by decide +kernel
theorem dX8_hang_30 : decode cX8_hang 30 = .ok (.getfield 23, 3) := by decide +kernel
theorem dX8_hang_33 : decode cX8_hang 33 = .ok (.iload_n 1, 1) := by decide +kernel
theorem dX8_hang_34 : decode cX8_hang 34 = .ok (.iaload, 1) := by decide +kernel
theorem dX8_hang_35 : decode cX8_hang 35 = .ok (.ireturn, 1) := by decide +kernel
theorem dX8_anew_0 : decode cX8_anew 0 = .ok (.iconst 0, 1) := by decide +kernel
theorem dX8_anew_1 : decode cX8_anew 1 = .ok (.istore_n 1, 1) := by decide +kernel
theorem dX8_anew_2 : decode cX8_anew 2 = .ok (.iload_n 1, 1) := by decide +kernel
theorem dX8_anew_3 : decode cX8_anew 3 = .ok (.bipush 20, 2) := by decide +kernel
theorem dX8_anew_5 : decode cX8_anew 5 = .ok (.if_icmp .ge 40, 3) := by decide +kernel
theorem dX8_anew_8 : decode cX8_anew 8 = .ok (.aload_n 0, 1) := by decide +kernel
theorem dX8_anew_9 : decode cX8_anew 9 = .ok (.getfield 29, 3) := by decide +kernel
theorem dX8_anew_12 : decode cX8_anew 12 = .ok (.iload_n 1, 1) := by decide +kernel
theorem dX8_anew_13 : decode cX8_anew 13 = .ok (.aload_n 0, 1) := by decide +kernel
theorem dX8_anew_14 : decode cX8_anew 14 = .ok (.getfield 19, 3) := by decide +kernel
theorem dX8_anew_17 : decode cX8_anew 17 = .ok (.iload_n 1, 1) := by decide +kernel
theorem dX8_anew_18 : decode cX8_anew 18 = .ok (.iaload, 1) := by decide +kernel
theorem dX8_anew_19 : decode cX8_anew 19 = .ok (.iastore, 1) := by decide +kernel
theorem dX8_anew_20 : decode cX8_anew 20 = .ok (.aload_n 0, 1) := by decide +kernel
theorem dX8_anew_21 : decode cX8_anew 21 = .ok (.getfield 32, 3) := by decide +kernel
theorem dX8_anew_24 : decode cX8_anew 24 = .ok (.iload_n 1, 1) := by decide +kernel
theorem dX8_anew_25 : decode cX8_anew 25 = .ok (.aload_n 0, 1) := by decide +kernel
theorem dX8_anew_26 : decode cX8_anew 26 = .ok (.getfield 23, 3) := by decide +kernel
theorem dX8_anew_29 : decode cX8_anew 29 = .ok (.iload_n 1, 1) := by decide +kernel
theorem dX8_anew_30 : decode cX8_anew 30 = .ok (.iaload, 1) := by decide +kernel
theorem dX8_anew_31 : decode cX8_anew 31 = .ok (.iastore, 1) := by decide +kernel
theorem dX8_anew_32 : decode cX8_anew 32 = .ok (.aload_n 0, 1) := by decide +kernel
theorem dX8_anew_33 : decode cX8_anew 33 = .ok (.getfield 19, 3) := by decide +kernel
theorem dX8_anew_36 : decode cX8_anew 36 = .ok (.iload_n 1, 1) := by decide +kernel
theorem dX8_anew_37 : decode cX8_anew 37 = .ok (.iconst 0, 1) := by decide +kernel
theorem dX8_anew_38 : decode cX8_anew 38 = .ok (.iastore, 1) := by decide +kernel
theorem dX8_anew_39 : decode cX8_anew 39 = .ok (.iinc 1 1, 3) := by decide +kernel
theorem dX8_anew_42 : decode cX8_anew 42 = .ok (.goto (-40), 3) := by decide +kernel
theorem dX8_anew_45 : decode cX8_anew 45 = .ok (.iconst 1, 1) := by decide +kernel
theorem dX8_anew_46 : decode cX8_anew 46 = .ok (.istore_n 1, 1) := by decide +kernel
theorem dX8_anew_47 : decode cX8_anew 47 = .ok (.iconst 0, 1) := by decide +kernel
theorem dX8_anew_48 : decode cX8_anew 48 = .ok (.istore_n 2, 1) := by decide +kernel
theorem dX8_anew_49 : decode cX8_anew 49 = .ok (.iload_n 2, 1) := by decide +kernel
theorem dX8_anew_50 : decode cX8_anew 50 = .ok (.aload_n 0, 1) := by decide +kernel
theorem dX8_anew_51 : decode cX8_anew 51 = .ok (.invokevirtual 112, 3) := by decide +kernel
theorem dX8_anew_54 : decode cX8_anew 54 = .ok (.if_icmp .ge 46, 3) := by decide +kernel
theorem dX8_anew_57 : decode cX8_anew 57 = .ok (.iload_n 1, 1) := by decide +kernel
theorem dX8_anew_58 : decode cX8_anew 58 = .ok (.ifCond .eq 42, 3) := by decide +kernel
theorem dX8_anew_61 : decode cX8_anew 61 = .ok (.aload_n 0, 1) := by decide +kernel
theorem dX8_anew_62 : decode cX8_anew 62 = .ok (.getfield 29, 3) := by decide +kernel
theorem dX8_anew_65 : decode cX8_anew 65 = .ok (.iload_n 2, 1) := by decide +kernel
theorem dX8_anew_66 : decode cX8_anew 66 = .ok (.iaload, 1) := by decide +kernel
theorem dX8_anew_67 : decode cX8_anew 67 = .ok (.ifCond .eq 21, 3) := by decide +kernel
theorem dX8_anew_70 : decode cX8_anew 70 = .ok (.aload_n 0, 1) := by decide +kernel
theorem dX8_anew_71 : decode cX8_anew 71 = .ok (.iload_n 2, 1) := by decide +kernel
theorem dX8_anew_72 : decode cX8_anew 72 = .ok (.aload_n 0, 1) := by decide +kernel
theorem dX8_anew_73 : decode cX8_anew 73 = .ok (.getfield 29, 3) := by decide +kernel
theorem dX8_anew_76 : decode cX8_anew 76 = .ok (.iload_n 2, 1) := by decide +kernel
theorem dX8_anew_77 : decode cX8_anew 77 = .ok (.iaload, 1) := by decide +kernel
theorem dX8_anew_78 : decode cX8_anew 78 = .ok (.iconst 1, 1) := by decide +kernel
theorem dX8_anew_79 : decode cX8_anew 79 = .ok (.isub, 1) := by decide +kernel
theorem dX8_anew_80 : decode cX8_anew 80 = .ok (.invokevirtual 154, 3) := by decide +kernel
theorem dX8_anew_83 : decode cX8_anew 83 = .ok (.bipush (-9), 2) := by decide +kernel
theorem dX8_anew_85 : decode cX8_anew 85 = .ok (.if_icmp .eq 7, 3) := by decide +kernel
theorem dX8_anew_88 : decode cX8_anew 88 = .ok (.iconst 1, 1) := by decide +kernel
theorem dX8_anew_89 : decode cX8_anew 89 = .ok (.goto 4, 3) := by decide +kernel
theorem dX8_anew_92 : decode cX8_anew 92 = .ok (.iconst 0, 1) := by decide +kernel
theorem dX8_anew_93 : decode cX8_anew 93 = .ok (.istore_n 1, 1) := by decide +kernel
theorem dX8_anew_94 : decode cX8_anew 94 = .ok (.iinc 2 1, 3) := by decide +kernel
theorem dX8_anew_97 : decode cX8_anew 97 = .ok (.goto (-48), 3) := by decide +kernel
theorem dX8_anew_100 : decode cX8_anew 100 = .ok (.iconst 0, 1) := by decide +kernel
theorem dX8_anew_101 : decode cX8_anew 101 = .ok (.istore_n 2, 1) := by decide +kernel
theorem dX8_anew_102 : decode cX8_anew 102 = .ok (.iconst 0, 1) := by decide +kernel
theorem dX8_anew_103 : decode cX8_anew 103 = .ok (.istore_n 3, 1) := by decide +kernel
theorem dX8_anew_104 : decode cX8_anew 104 = .ok (.iload_n 3, 1) := by decide +kernel
theorem dX8_anew_105 : decode cX8_anew 105 = .ok (.bipush 20, 2) := by decide +kernel
theorem dX8_anew_107 : decode cX8_anew 107 = .ok (.if_icmp .ge 69, 3) := by decide +kernel
theorem dX8_anew_110 : decode cX8_anew 110 = .ok (.iload_n 1, 1) := by decide +kernel
theorem dX8_anew_111 : decode cX8_anew 111 = .ok (.ifCond .ne 27, 3) := by decide +kernel
theorem dX8_anew_114 : decode cX8_anew 114 = .ok (.aload_n 0, 1) := by decide +kernel
theorem dX8_anew_115 : decode cX8_anew 115 = .ok (.getfield 19, 3) := by decide +kernel
theorem dX8_anew_118 : decode cX8_anew 118 = .ok (.iload_n 3, 1) := by decide +kernel
theorem dX8_anew_119 : decode cX8_anew 119 = .ok (.aload_n 0, 1) := by decide +kernel
theorem dX8_anew_120 : decode cX8_anew 120 = .ok (.getfield 29, 3) := by decide +kernel
theorem dX8_anew_123 : decode cX8_anew 123 = .ok (.iload_n 3, 1) := by decide +kernel
theorem dX8_anew_124 : decode cX8_anew 124 = .ok (.iaload, 1) := by decide +kernel
theorem dX8_anew_125 : decode cX8_anew 125 = .ok (.iastore, 1) := by decide +kernel
theorem dX8_anew_126 : decode cX8_anew 126 = .ok (.aload_n 0, 1) := by decide +kernel
theorem dX8_anew_127 : decode cX8_anew 127 = .ok (.getfield 23, 3) := by decide +kernel
theorem dX8_anew_130 : decode cX8_anew 130 = .ok (.iload_n 3, 1) := by decide +kernel
theorem dX8_anew_131 : decode cX8_anew 131 = .ok (.aload_n 0, 1) := by decide +kernel
theorem dX8_anew_132 : decode cX8_anew 132 = .ok (.getfield 32, 3) := by decide +kernel
theorem dX8_anew_135 : decode cX8_anew 135 = .ok (.iload_n 3, 1) := by decide +kernel
theorem dX8_anew_136 : decode cX8_anew 136 = .ok (.iaload, 1) := by decide +kernel
theorem dX8_anew_137 : decode cX8_anew 137 = .ok (.iastore, 1) := by decide +kernel
theorem dX8_anew_138 : decode cX8_anew 138 = .ok (.iload_n 2, 1) := by decide +kernel
theorem dX8_anew_139 : decode cX8_anew 139 = .ok (.aload_n 0, 1) := by decide +kernel
theorem dX8_anew_140 : decode cX8_anew 140 = .ok (.getfield 19, 3) := by decide +kernel
theorem dX8_anew_143 : decode cX8_anew 143 = .ok (.iload_n 3, 1) := by decide +kernel
theorem dX8_anew_144 : decode cX8_anew 144 = .ok (.iaload, 1) := by decide +kernel
theorem dX8_anew_145 : decode cX8_anew 145 = .ok (.ifCond .le 22, 3) := by decide +kernel
theorem dX8_anew_148 : decode cX8_anew 148 = .ok (.aload_n 0, 1) := by decide +kernel
theorem dX8_anew_149 : decode cX8_anew 149 = .ok (.getfield 23, 3) := by decide +kernel
theorem dX8_anew_152 : decode cX8_anew 152 = .ok (.iload_n 3, 1) := by decide +kernel
theorem dX8_anew_153 : decode cX8_anew 153 = .ok (.iaload, 1) := by decide +kernel
theorem dX8_anew_154 : decode cX8_anew 154 = .ok (.aload_n 0, 1) := by decide +kernel
theorem dX8_anew_155 : decode cX8_anew 155 = .ok (.getfield 32, 3) := by decide +kernel
theorem dX8_anew_158 : decode cX8_anew 158 = .ok (.iload_n 3, 1) := by decide +kernel
theorem dX8_anew_159 : decode cX8_anew 159 = .ok (.iaload, 1) := by decide +kernel
theorem dX8_anew_160 : decode cX8_anew 160 = .ok (.if_icmp .eq 7, 3) := by decide +kernel
theorem dX8_anew_163 : decode cX8_anew 163 = .ok (.iconst 1, 1) := by decide +kernel
theorem dX8_anew_164 : decode cX8_anew 164 = .ok (.goto 4, 3) := by decide +kernel
theorem dX8_anew_167 : decode cX8_anew 167 = .ok (.iconst 0, 1) := by decide +kernel
theorem dX8_anew_168 : decode cX8_anew 168 = .ok (.iadd, 1) := by decide +kernel
theorem dX8_anew_169 : decode cX8_anew 169 = .ok (.istore_n 2, 1) := by decide +kernel
theorem dX8_anew_170 : decode cX8_anew 170 = .ok (.iinc 3 1, 3) := by decide +kernel
theorem dX8_anew_173 : decode cX8_anew 173 = .ok (.goto (-69), 3) := by decide +kernel
theorem dX8_anew_176 : decode cX8_anew 176 = .ok (.iload_n 1, 1) := by decide +kernel
theorem dX8_anew_177 : decode cX8_anew 177 = .ok (.ifCond .eq 7, 3) := by decide +kernel
theorem dX8_anew_180 : decode cX8_anew 180 = .ok (.iload_n 2, 1) := by decide +kernel
theorem dX8_anew_181 : decode cX8_anew 181 = .ok (.goto 5, 3) := by decide +kernel
theorem dX8_anew_184 : decode cX8_anew 184 = .ok (.bipush (-3), 2) := by decide +kernel
theorem dX8_anew_186 : decode cX8_anew 186 = .ok (.ireturn, 1) := by decide +kernel
theorem dX8_callOf_0 : decode cX8_callOf 0 = .ok (.aload_n 0, 1) := by decide +kernel
theorem dX8_callOf_1 : decode cX8_callOf 1 = .ok (.iload_n 1, 1) := by decide +kernel
theorem dX8_callOf_2 : decode cX8_callOf 2 = .ok (.invokevirtual 123, 3) := by decide +kernel
theorem dX8_callOf_5 : decode cX8_callOf 5 = .ok (.ifCond .ne 5, 3) := by decide +kernel
theorem dX8_callOf_8 : decode cX8_callOf 8 = .ok (.iconst (-1), 1) := by decide +kernel
theorem dX8_callOf_9 : decode cX8_callOf 9 = .ok (.ireturn, 1) := by decide +kernel
theorem dX8_callOf_10 : decode cX8_callOf 10 = .ok (.iload_n 2, 1) := by decide +kernel
theorem dX8_callOf_11 : decode cX8_callOf 11 = .ok (.iconst 0, 1) := by decide +kernel
theorem dX8_callOf_12 : decode cX8_callOf 12 = .ok (.iconst 1, 1) := by decide +kernel
theorem dX8_callOf_13 : decode cX8_callOf 13 = .ok (.invokestatic 116, 3) := by decide +kernel
theorem dX8_callOf_16 : decode cX8_callOf 16 = .ok (.ifCond .ne 6, 3) := by decide +kernel
theorem dX8_callOf_19 : decode cX8_callOf 19 = .ok (.bipush (-2), 2) := by decide +kernel
theorem dX8_callOf_21 : decode cX8_callOf 21 = .ok (.ireturn, 1) := by decide +kernel
theorem dX8_callOf_22 : decode cX8_callOf 22 = .ok (.aload_n 0, 1) := by decide +kernel
theorem dX8_callOf_23 : decode cX8_callOf 23 = .ok (.getfield 19, 3) := by decide +kernel
theorem dX8_callOf_26 : decode cX8_callOf 26 = .ok (.iload_n 1, 1) := by decide +kernel
theorem dX8_callOf_27 : decode cX8_callOf 27 = .ok (.iaload, 1) := by decide +kernel
theorem dX8_callOf_28 : decode cX8_callOf 28 = .ok (.ifCond .ne 8, 3) := by decide +kernel
theorem dX8_callOf_31 : decode cX8_callOf 31 = .ok (.bipush (-9), 2) := by decide +kernel
theorem dX8_callOf_33 : decode cX8_callOf 33 = .ok (.goto 24, 3) := by decide +kernel
theorem dX8_callOf_36 : decode cX8_callOf 36 = .ok (.iload_n 2, 1) := by decide +kernel
theorem dX8_callOf_37 : decode cX8_callOf 37 = .ok (.ifCond .ne 14, 3) := by decide +kernel
theorem dX8_callOf_40 : decode cX8_callOf 40 = .ok (.aload_n 0, 1) := by decide +kernel
theorem dX8_callOf_41 : decode cX8_callOf 41 = .ok (.getfield 19, 3) := by decide +kernel
theorem dX8_callOf_44 : decode cX8_callOf 44 = .ok (.iload_n 1, 1) := by decide +kernel
theorem dX8_callOf_45 : decode cX8_callOf 45 = .ok (.iaload, 1) := by decide +kernel
theorem dX8_callOf_46 : decode cX8_callOf 46 = .ok (.iconst 1, 1) := by decide +kernel
theorem dX8_callOf_47 : decode cX8_callOf 47 = .ok (.isub, 1) := by decide +kernel
theorem dX8_callOf_48 : decode cX8_callOf 48 = .ok (.goto 9, 3) := by decide +kernel
theorem dX8_callOf_51 : decode cX8_callOf 51 = .ok (.aload_n 0, 1) := by decide +kernel
theorem dX8_callOf_52 : decode cX8_callOf 52 = .ok (.getfield 23, 3) := by decide +kernel
theorem dX8_callOf_55 : decode cX8_callOf 55 = .ok (.iload_n 1, 1) := by decide +kernel
theorem dX8_callOf_56 : decode cX8_callOf 56 = .ok (.iaload, 1) := by decide +kernel
theorem dX8_callOf_57 : decode cX8_callOf 57 = .ok (.ireturn, 1) := by decide +kernel
theorem dX8_links_0 : decode cX8_links 0 = .ok (.iload_n 1, 1) := by decide +kernel
theorem dX8_links_1 : decode cX8_links 1 = .ok (.iconst 0, 1) := by decide +kernel
theorem dX8_links_2 : decode cX8_links 2 = .ok (.aload_n 0, 1) := by decide +kernel
theorem dX8_links_3 : decode cX8_links 3 = .ok (.getfield 16, 3) := by decide +kernel
theorem dX8_links_6 : decode cX8_links 6 = .ok (.iconst 1, 1) := by decide +kernel
theorem dX8_links_7 : decode cX8_links 7 = .ok (.isub, 1) := by decide +kernel
theorem dX8_links_8 : decode cX8_links 8 = .ok (.invokestatic 116, 3) := by decide +kernel
theorem dX8_links_11 : decode cX8_links 11 = .ok (.ifCond .ne 5, 3) := by decide +kernel
theorem dX8_links_14 : decode cX8_links 14 = .ok (.iconst (-1), 1) := by decide +kernel
theorem dX8_links_15 : decode cX8_links 15 = .ok (.ireturn, 1) := by decide +kernel
theorem dX8_links_16 : decode cX8_links 16 = .ok (.iload_n 2, 1) := by decide +kernel
theorem dX8_links_17 : decode cX8_links 17 = .ok (.iconst 0, 1) := by decide +kernel
theorem dX8_links_18 : decode cX8_links 18 = .ok (.iconst 1, 1) := by decide +kernel
theorem dX8_links_19 : decode cX8_links 19 = .ok (.invokestatic 116, 3) := by decide +kernel
