theorem dX8_sumOf_46 : decode cX8_sumOf 46 = .ok (.iinc 4 1, 3) := by decide +kernel
theorem dX8_sumOf_49 : decode cX8_sumOf 49 = .ok (.goto (-44), 3) := by decide +kernel
theorem dX8_sumOf_52 : decode cX8_sumOf 52 = .ok (.iload_n 3, 1) := by decide +kernel
theorem dX8_sumOf_53 : decode cX8_sumOf 53 = .ok (.ireturn, 1) := by decide +kernel
theorem dX8_spanLeft_0 : decode cX8_spanLeft 0 = .ok (.iconst 0, 1) := by decide +kernel
theorem dX8_spanLeft_1 : decode cX8_spanLeft 1 = .ok (.istore_n 1, 1) := by decide +kernel
theorem dX8_spanLeft_2 : decode cX8_spanLeft 2 = .ok (.iconst 0, 1) := by decide +kernel
theorem dX8_spanLeft_3 : decode cX8_spanLeft 3 = .ok (.istore_n 2, 1) := by decide +kernel
theorem dX8_spanLeft_4 : decode cX8_spanLeft 4 = .ok (.iload_n 2, 1) := by decide +kernel
theorem dX8_spanLeft_5 : decode cX8_spanLeft 5 = .ok (.aload_n 0, 1) := by decide +kernel
theorem dX8_spanLeft_6 : decode cX8_spanLeft 6 = .ok (.getfield 77, 3) := by decide +kernel
theorem dX8_spanLeft_9 : decode cX8_spanLeft 9 = .ok (.if_icmp .ge 51, 3) := by decide +kernel
theorem dX8_spanLeft_12 : decode cX8_spanLeft 12 = .ok (.aload_n 0, 1) := by decide +kernel
theorem dX8_spanLeft_13 : decode cX8_spanLeft 13 = .ok (.iconst 1, 1) := by decide +kernel
theorem dX8_spanLeft_14 : decode cX8_spanLeft 14 = .ok (.iload_n 2, 1) := by decide +kernel
theorem dX8_spanLeft_15 : decode cX8_spanLeft 15 = .ok (.invokevirtual 261, 3) := by decide +kernel
theorem dX8_spanLeft_18 : decode cX8_spanLeft 18 = .ok (.iload_n 1, 1) := by decide +kernel
theorem dX8_spanLeft_19 : decode cX8_spanLeft 19 = .ok (.if_icmp .le 12, 3) := by decide +kernel
theorem dX8_spanLeft_22 : decode cX8_spanLeft 22 = .ok (.aload_n 0, 1) := by decide +kernel
theorem dX8_spanLeft_23 : decode cX8_spanLeft 23 = .ok (.iconst 1, 1) := by decide +kernel
theorem dX8_spanLeft_24 : decode cX8_spanLeft 24 = .ok (.iload_n 2, 1) := by decide +kernel
theorem dX8_spanLeft_25 : decode cX8_spanLeft 25 = .ok (.invokevirtual 261, 3) := by decide +kernel
theorem dX8_spanLeft_28 : decode cX8_spanLeft 28 = .ok (.goto 4, 3) := by decide +kernel
theorem dX8_spanLeft_31 : decode cX8_spanLeft 31 = .ok (.iload_n 1, 1) := by decide +kernel
theorem dX8_spanLeft_32 : decode cX8_spanLeft 32 = .ok (.istore_n 1, 1) := by decide +kernel
theorem dX8_spanLeft_33 : decode cX8_spanLeft 33 = .ok (.aload_n 0, 1) := by decide +kernel
theorem dX8_spanLeft_34 : decode cX8_spanLeft 34 = .ok (.iconst 0, 1) := by decide +kernel
theorem dX8_spanLeft_35 : decode cX8_spanLeft 35 = .ok (.iload_n 2, 1) := by decide +kernel
theorem dX8_spanLeft_36 : decode cX8_spanLeft 36 = .ok (.invokevirtual 261, 3) := by decide +kernel
theorem dX8_spanLeft_39 : decode cX8_spanLeft 39 = .ok (.iload_n 1, 1) := by decide +kernel
theorem dX8_spanLeft_40 : decode cX8_spanLeft 40 = .ok (.if_icmp .le 12, 3) := by decide +kernel
theorem dX8_spanLeft_43 : decode cX8_spanLeft 43 = .ok (.aload_n 0, 1) := by decide +kernel
theorem dX8_spanLeft_44 : decode cX8_spanLeft 44 = .ok (.iconst 0, 1) := by decide +kernel
theorem dX8_spanLeft_45 : decode cX8_spanLeft 45 = .ok (.iload_n 2, 1) := by decide +kernel
theorem dX8_spanLeft_46 : decode cX8_spanLeft 46 = .ok (.invokevirtual 261, 3) := by decide +kernel
theorem dX8_spanLeft_49 : decode cX8_spanLeft 49 = .ok (.goto 4, 3) := by decide +kernel
theorem dX8_spanLeft_52 : decode cX8_spanLeft 52 = .ok (.iload_n 1, 1) := by decide +kernel
theorem dX8_spanLeft_53 : decode cX8_spanLeft 53 = .ok (.istore_n 1, 1) := by decide +kernel
theorem dX8_spanLeft_54 : decode cX8_spanLeft 54 = .ok (.iinc 2 1, 3) := by decide +kernel
theorem dX8_spanLeft_57 : decode cX8_spanLeft 57 = .ok (.goto (-53), 3) := by decide +kernel
theorem dX8_spanLeft_60 : decode cX8_spanLeft 60 = .ok (.iload_n 1, 1) := by decide +kernel
theorem dX8_spanLeft_61 : decode cX8_spanLeft 61 = .ok (.ireturn, 1) := by decide +kernel
theorem dX8_layLeft_0 : decode cX8_layLeft 0 = .ok (.iconst 0, 1) := by decide +kernel
theorem dX8_layLeft_1 : decode cX8_layLeft 1 = .ok (.istore_n 1, 1) := by decide +kernel
theorem dX8_layLeft_2 : decode cX8_layLeft 2 = .ok (.iload_n 1, 1) := by decide +kernel
theorem dX8_layLeft_3 : decode cX8_layLeft 3 = .ok (.bipush 25, 2) := by decide +kernel
theorem dX8_layLeft_5 : decode cX8_layLeft 5 = .ok (.if_icmp .ge 21, 3) := by decide +kernel
theorem dX8_layLeft_8 : decode cX8_layLeft 8 = .ok (.aload_n 0, 1) := by decide +kernel
theorem dX8_layLeft_9 : decode cX8_layLeft 9 = .ok (.getfield 83, 3) := by decide +kernel
theorem dX8_layLeft_12 : decode cX8_layLeft 12 = .ok (.iload_n 1, 1) := by decide +kernel
theorem dX8_layLeft_13 : decode cX8_layLeft 13 = .ok (.aload_n 0, 1) := by decide +kernel
theorem dX8_layLeft_14 : decode cX8_layLeft 14 = .ok (.getfield 80, 3) := by decide +kernel
theorem dX8_layLeft_17 : decode cX8_layLeft 17 = .ok (.iload_n 1, 1) := by decide +kernel
theorem dX8_layLeft_18 : decode cX8_layLeft 18 = .ok (.iaload, 1) := by decide +kernel
theorem dX8_layLeft_19 : decode cX8_layLeft 19 = .ok (.iastore, 1) := by decide +kernel
theorem dX8_layLeft_20 : decode cX8_layLeft 20 = .ok (.iinc 1 1, 3) := by decide +kernel
theorem dX8_layLeft_23 : decode cX8_layLeft 23 = .ok (.goto (-21), 3) := by decide +kernel
theorem dX8_layLeft_26 : decode cX8_layLeft 26 = .ok (.return_, 1) := by decide +kernel
theorem dX8_span_0 : decode cX8_span 0 = .ok (.aload_n 0, 1) := by decide +kernel
theorem dX8_span_1 : decode cX8_span 1 = .ok (.invokevirtual 265, 3) := by decide +kernel
theorem dX8_span_4 : decode cX8_span 4 = .ok (.aload_n 0, 1) := by decide +kernel
theorem dX8_span_5 : decode cX8_span 5 = .ok (.invokevirtual 268, 3) := by decide +kernel
theorem dX8_span_8 : decode cX8_span 8 = .ok (.ireturn, 1) := by decide +kernel
theorem dX8_isFree_0 : decode cX8_isFree 0 = .ok (.iconst 0, 1) := by decide +kernel
theorem dX8_isFree_1 : decode cX8_isFree 1 = .ok (.istore_n 2, 1) := by decide +kernel
theorem dX8_isFree_2 : decode cX8_isFree 2 = .ok (.iload_n 2, 1) := by decide +kernel
theorem dX8_isFree_3 : decode cX8_isFree 3 = .ok (.iload_n 1, 1) := by decide +kernel
theorem dX8_isFree_4 : decode cX8_isFree 4 = .ok (.if_icmp .ge 26, 3) := by decide +kernel
theorem dX8_isFree_7 : decode cX8_isFree 7 = .ok (.aload_n 0, 1) := by decide +kernel
theorem dX8_isFree_8 : decode cX8_isFree 8 = .ok (.getfield 95, 3) := by decide +kernel
theorem dX8_isFree_11 : decode cX8_isFree 11 = .ok (.iload_n 2, 1) := by decide +kernel
theorem dX8_isFree_12 : decode cX8_isFree 12 = .ok (.iaload, 1) := by decide +kernel
theorem dX8_isFree_13 : decode cX8_isFree 13 = .ok (.aload_n 0, 1) := by decide +kernel
theorem dX8_isFree_14 : decode cX8_isFree 14 = .ok (.getfield 95, 3) := by decide +kernel
theorem dX8_isFree_17 : decode cX8_isFree 17 = .ok (.iload_n 1, 1) := by decide +kernel
theorem dX8_isFree_18 : decode cX8_isFree 18 = .ok (.iaload, 1) := by decide +kernel
theorem dX8_isFree_19 : decode cX8_isFree 19 = .ok (.if_icmp .ne 5, 3) := by decide +kernel
theorem dX8_isFree_22 : decode cX8_isFree 22 = .ok (.iconst 0, 1) := by decide +kernel
theorem dX8_isFree_23 : decode cX8_isFree 23 = .ok (.ireturn, 1) := by decide +kernel
theorem dX8_isFree_24 : decode cX8_isFree 24 = .ok (.iinc 2 1, 3) := by decide +kernel
theorem dX8_isFree_27 : decode cX8_isFree 27 = .ok (.goto (-25), 3) := by decide +kernel
theorem dX8_isFree_30 : decode cX8_isFree 30 = .ok (.iconst 1, 1) := by decide +kernel
theorem dX8_isFree_31 : decode cX8_isFree 31 = .ok (.ireturn, 1) := by decide +kernel
theorem dX8_isTight_0 : decode cX8_isTight 0 = .ok (.iconst 0, 1) := by decide +kernel
theorem dX8_isTight_1 : decode cX8_isTight 1 = .ok (.istore_n 2, 1) := by decide +kernel
theorem dX8_isTight_2 : decode cX8_isTight 2 = .ok (.iconst 0, 1) := by decide +kernel
theorem dX8_isTight_3 : decode cX8_isTight 3 = .ok (.istore_n 3, 1) := by decide +kernel
theorem dX8_isTight_4 : decode cX8_isTight 4 = .ok (.iload_n 3, 1) := by decide +kernel
theorem dX8_isTight_5 : decode cX8_isTight 5 = .ok (.aload_n 0, 1) := by decide +kernel
theorem dX8_isTight_6 : decode cX8_isTight 6 = .ok (.getfield 77, 3) := by decide +kernel
theorem dX8_isTight_9 : decode cX8_isTight 9 = .ok (.if_icmp .ge 48, 3) := by decide +kernel
theorem dX8_isTight_12 : decode cX8_isTight 12 = .ok (.aload_n 0, 1) := by decide +kernel
theorem dX8_isTight_13 : decode cX8_isTight 13 = .ok (.getfield 95, 3) := by decide +kernel
theorem dX8_isTight_16 : decode cX8_isTight 16 = .ok (.iload_n 3, 1) := by decide +kernel
theorem dX8_isTight_17 : decode cX8_isTight 17 = .ok (.iaload, 1) := by decide +kernel
theorem dX8_isTight_18 : decode cX8_isTight 18 = .ok (.aload_n 0, 1) := by decide +kernel
theorem dX8_isTight_19 : decode cX8_isTight 19 = .ok (.getfield 77, 3) := by decide +kernel
theorem dX8_isTight_22 : decode cX8_isTight 22 = .ok (.if_icmp .ge 17, 3) := by decide +kernel
theorem dX8_isTight_25 : decode cX8_isTight 25 = .ok (.iload_n 2, 1) := by decide +kernel
theorem dX8_isTight_26 : decode cX8_isTight 26 = .ok (.iconst 1, 1) := by decide +kernel
theorem dX8_isTight_27 : decode cX8_isTight 27 = .ok (.aload_n 0, 1) := by decide +kernel
theorem dX8_isTight_28 : decode cX8_isTight 28 = .ok (.getfield 95, 3) := by decide +kernel
theorem dX8_isTight_31 : decode cX8_isTight 31 = .ok (.iload_n 3, 1) := by decide +kernel
theorem dX8_isTight_32 : decode cX8_isTight 32 = .ok (.iaload, 1) := by decide +kernel
theorem dX8_isTight_33 : decode cX8_isTight 33 = .ok (.ishl, 1) := by decide +kernel
theorem dX8_isTight_34 : decode cX8_isTight 34 = .ok (.ior, 1) := by decide +kernel
theorem dX8_isTight_35 : decode cX8_isTight 35 = .ok (.istore_n 2, 1) := by decide +kernel
theorem dX8_isTight_36 : decode cX8_isTight 36 = .ok (.goto 15, 3) := by decide +kernel
theorem dX8_isTight_39 : decode cX8_isTight 39 = .ok (.aload_n 0, 1) := by decide +kernel
theorem dX8_isTight_40 : decode cX8_isTight 40 = .ok (.iconst 1, 1) := by decide +kernel
theorem dX8_isTight_41 : decode cX8_isTight 41 = .ok (.iload_n 3, 1) := by decide +kernel
theorem dX8_isTight_42 : decode cX8_isTight 42 = .ok (.invokevirtual 261, 3) := by decide +kernel
theorem dX8_isTight_45 : decode cX8_isTight 45 = .ok (.iload_n 1, 1) := by decide +kernel
theorem dX8_isTight_46 : decode cX8_isTight 46 = .ok (.if_icmp .ne 5, 3) := by decide +kernel
theorem dX8_isTight_49 : decode cX8_isTight 49 = .ok (.iconst 0, 1) := by decide +kernel
theorem dX8_isTight_50 : decode cX8_isTight 50 = .ok (.ireturn, 1) := by decide +kernel
theorem dX8_isTight_51 : decode cX8_isTight 51 = .ok (.iinc 3 1, 3) := by decide +kernel
theorem dX8_isTight_54 : decode cX8_isTight 54 = .ok (.goto (-50), 3) := by decide +kernel
theorem dX8_isTight_57 : decode cX8_isTight 57 = .ok (.iconst 0, 1) := by decide +kernel
theorem dX8_isTight_58 : decode cX8_isTight 58 = .ok (.istore_n 3, 1) := by decide +kernel
theorem dX8_isTight_59 : decode cX8_isTight 59 = .ok (.iload_n 3, 1) := by decide +kernel
theorem dX8_isTight_60 : decode cX8_isTight 60 = .ok (.aload_n 0, 1) := by decide +kernel
theorem dX8_isTight_61 : decode cX8_isTight 61 = .ok (.getfield 77, 3) := by decide +kernel
theorem dX8_isTight_64 : decode cX8_isTight 64 = .ok (.if_icmp .ge 29, 3) := by decide +kernel
theorem dX8_isTight_67 : decode cX8_isTight 67 = .ok (.aload_n 0, 1) := by decide +kernel
theorem dX8_isTight_68 : decode cX8_isTight 68 = .ok (.iconst 0, 1) := by decide +kernel
theorem dX8_isTight_69 : decode cX8_isTight 69 = .ok (.iload_n 3, 1) := by decide +kernel
theorem dX8_isTight_70 : decode cX8_isTight 70 = .ok (.invokevirtual 261, 3) := by decide +kernel
theorem dX8_isTight_73 : decode cX8_isTight 73 = .ok (.iload_n 1, 1) := by decide +kernel
theorem dX8_isTight_74 : decode cX8_isTight 74 = .ok (.if_icmp .ne 13, 3) := by decide +kernel
theorem dX8_isTight_77 : decode cX8_isTight 77 = .ok (.iload_n 2, 1) := by decide +kernel
theorem dX8_isTight_78 : decode cX8_isTight 78 = .ok (.iload_n 3, 1) := by decide +kernel
theorem dX8_isTight_79 : decode cX8_isTight 79 = .ok (.ishr, 1) := by decide +kernel
theorem dX8_isTight_80 : decode cX8_isTight 80 = .ok (.iconst 1, 1) := by decide +kernel
theorem dX8_isTight_81 : decode cX8_isTight 81 = .ok (.iand, 1) := by decide +kernel
theorem dX8_isTight_82 : decode cX8_isTight 82 = .ok (.ifCond .ne 5, 3) := by decide +kernel
theorem dX8_isTight_85 : decode cX8_isTight 85 = .ok (.iconst 0, 1) := by decide +kernel
theorem dX8_isTight_86 : decode cX8_isTight 86 = .ok (.ireturn, 1) := by decide +kernel
theorem dX8_isTight_87 : decode cX8_isTight 87 = .ok (.iinc 3 1, 3) := by decide +kernel
theorem dX8_isTight_90 : decode cX8_isTight 90 = .ok (.goto (-31), 3) := by decide +kernel
theorem dX8_isTight_93 : decode cX8_isTight 93 = .ok (.iconst 1, 1) := by decide +kernel
theorem dX8_isTight_94 : decode cX8_isTight 94 = .ok (.ireturn, 1) := by decide +kernel
theorem dX8_goOn_0 : decode cX8_goOn 0 = .ok (.aload_n 0, 1) := by decide +kernel
theorem dX8_goOn_1 : decode cX8_goOn 1 = .ok (.getfield 271, 3) := by decide +kernel
theorem dX8_goOn_4 : decode cX8_goOn 4 = .ok (.ifCond .lt 144, 3) := by decide +kernel
theorem dX8_goOn_7 : decode cX8_goOn 7 = .ok (.aload_n 0, 1) := by decide +kernel
theorem dX8_goOn_8 : decode cX8_goOn 8 = .ok (.getfield 95, 3) := by decide +kernel
theorem dX8_goOn_11 : decode cX8_goOn 11 = .ok (.aload_n 0, 1) := by decide +kernel
theorem dX8_goOn_12 : decode cX8_goOn 12 = .ok (.getfield 271, 3) := by decide +kernel
theorem dX8_goOn_15 : decode cX8_goOn 15 = .ok (.dup2, 1) := by decide +kernel
theorem dX8_goOn_16 : decode cX8_goOn 16 = .ok (.iaload, 1) := by decide +kernel
theorem dX8_goOn_17 : decode cX8_goOn 17 = .ok (.iconst 1, 1) := by decide +kernel
theorem dX8_goOn_18 : decode cX8_goOn 18 = .ok (.iadd, 1) := by decide +kernel
theorem dX8_goOn_19 : decode cX8_goOn 19 = .ok (.iastore, 1) := by decide +kernel
theorem dX8_goOn_20 : decode cX8_goOn 20 = .ok (.aload_n 0, 1) := by decide +kernel
theorem dX8_goOn_21 : decode cX8_goOn 21 = .ok (.getfield 95, 3) := by decide +kernel
theorem dX8_goOn_24 : decode cX8_goOn 24 = .ok (.aload_n 0, 1) := by decide +kernel
theorem dX8_goOn_25 : decode cX8_goOn 25 = .ok (.getfield 271, 3) := by decide +kernel
theorem dX8_goOn_28 : decode cX8_goOn 28 = .ok (.iaload, 1) := by decide +kernel
theorem dX8_goOn_29 : decode cX8_goOn 29 = .ok (.aload_n 0, 1) := by decide +kernel
theorem dX8_goOn_30 : decode cX8_goOn 30 = .ok (.getfield 77, 3) := by decide +kernel
theorem dX8_goOn_33 : decode cX8_goOn 33 = .ok (.if_icmp .le 16, 3) := by decide +kernel
theorem dX8_goOn_36 : decode cX8_goOn 36 = .ok (.aload_n 0, 1) := by decide +kernel
theorem dX8_goOn_37 : decode cX8_goOn 37 = .ok (.dup, 1) := by decide +kernel
theorem dX8_goOn_38 : decode cX8_goOn 38 = .ok (.getfield 271, 3) := by decide +kernel
theorem dX8_goOn_41 : decode cX8_goOn 41 = .ok (.iconst 1, 1) := by decide +kernel
theorem dX8_goOn_42 : decode cX8_goOn 42 = .ok (.isub, 1) := by decide +kernel
theorem dX8_goOn_43 : decode cX8_goOn 43 = .ok (.putfield 271, 3) := by decide +kernel
theorem dX8_goOn_46 : decode cX8_goOn 46 = .ok (.goto (-46), 3) := by decide +kernel
theorem dX8_goOn_49 : decode cX8_goOn 49 = .ok (.aload_n 0, 1) := by decide +kernel
theorem dX8_goOn_50 : decode cX8_goOn 50 = .ok (.getfield 95, 3) := by decide +kernel
theorem dX8_goOn_53 : decode cX8_goOn 53 = .ok (.aload_n 0, 1) := by decide +kernel
theorem dX8_goOn_54 : decode cX8_goOn 54 = .ok (.getfield 271, 3) := by decide +kernel
theorem dX8_goOn_57 : decode cX8_goOn 57 = .ok (.iaload, 1) := by decide +kernel
theorem dX8_goOn_58 : decode cX8_goOn 58 = .ok (.aload_n 0, 1) := by decide +kernel
theorem dX8_goOn_59 : decode cX8_goOn 59 = .ok (.getfield 77, 3) := by decide +kernel
theorem dX8_goOn_62 : decode cX8_goOn 62 = .ok (.if_icmp .eq 35, 3) := by decide +kernel
theorem dX8_goOn_65 : decode cX8_goOn 65 = .ok (.aload_n 1, 1) := by decide +kernel
theorem dX8_goOn_66 : decode cX8_goOn 66 = .ok (.iconst 5, 1) := by decide +kernel
theorem dX8_goOn_67 : decode cX8_goOn 67 = .ok (.aload_n 0, 1) := by decide +kernel
theorem dX8_goOn_68 : decode cX8_goOn 68 = .ok (.getfield 271, 3) := by decide +kernel
theorem dX8_goOn_71 : decode cX8_goOn 71 = .ok (.imul, 1) := by decide +kernel
theorem dX8_goOn_72 : decode cX8_goOn 72 = .ok (.aload_n 0, 1) := by decide +kernel
theorem dX8_goOn_73 : decode cX8_goOn 73 = .ok (.getfield 95, 3) := by decide +kernel
theorem dX8_goOn_76 : decode cX8_goOn 76 = .ok (.aload_n 0, 1) := by decide +kernel
theorem dX8_goOn_77 : decode cX8_goOn 77 = .ok (.getfield 271, 3) := by decide +kernel
theorem dX8_goOn_80 : decode cX8_goOn 80 = .ok (.iaload, 1) := by decide +kernel
theorem dX8_goOn_81 : decode cX8_goOn 81 = .ok (.iadd, 1) := by decide +kernel
theorem dX8_goOn_82 : decode cX8_goOn 82 = .ok (.iaload, 1) := by decide +kernel
theorem dX8_goOn_83 : decode cX8_goOn 83 = .ok (.ifCond .le 18, 3) := by decide +kernel
theorem dX8_goOn_86 : decode cX8_goOn 86 = .ok (.aload_n 0, 1) := by decide +kernel
theorem dX8_goOn_87 : decode cX8_goOn 87 = .ok (.aload_n 0, 1) := by decide +kernel
theorem dX8_goOn_88 : decode cX8_goOn 88 = .ok (.getfield 271, 3) := by decide +kernel
theorem dX8_goOn_91 : decode cX8_goOn 91 = .ok (.invokevirtual 274, 3) := by decide +kernel
theorem dX8_goOn_94 : decode cX8_goOn 94 = .ok (.ifCond .eq 7, 3) := by decide +kernel
theorem dX8_goOn_97 : decode cX8_goOn 97 = .ok (.iconst 1, 1) := by decide +kernel
theorem dX8_goOn_98 : decode cX8_goOn 98 = .ok (.goto 4, 3) := by decide +kernel
theorem dX8_goOn_101 : decode cX8_goOn 101 = .ok (.iconst 0, 1) := by decide +kernel
theorem dX8_goOn_102 : decode cX8_goOn 102 = .ok (.istore_n 2, 1) := by decide +kernel
theorem dX8_goOn_103 : decode cX8_goOn 103 = .ok (.iload_n 2, 1) := by decide +kernel
theorem dX8_goOn_104 : decode cX8_goOn 104 = .ok (.ifCond .ne 6, 3) := by decide +kernel
theorem dX8_goOn_107 : decode cX8_goOn 107 = .ok (.goto (-107), 3) := by decide +kernel
theorem dX8_goOn_110 : decode cX8_goOn 110 = .ok (.aload_n 0, 1) := by decide +kernel
theorem dX8_goOn_111 : decode cX8_goOn 111 = .ok (.getfield 271, 3) := by decide +kernel
theorem dX8_goOn_114 : decode cX8_goOn 114 = .ok (.aload_n 0, 1) := by decide +kernel
theorem dX8_goOn_115 : decode cX8_goOn 115 = .ok (.getfield 77, 3) := by decide +kernel
theorem dX8_goOn_118 : decode cX8_goOn 118 = .ok (.iconst 1, 1) := by decide +kernel
theorem dX8_goOn_119 : decode cX8_goOn 119 = .ok (.isub, 1) := by decide +kernel
theorem dX8_goOn_120 : decode cX8_goOn 120 = .ok (.if_icmp .ne 5, 3) := by decide +kernel
theorem dX8_goOn_123 : decode cX8_goOn 123 = .ok (.iconst 1, 1) := by decide +kernel
theorem dX8_goOn_124 : decode cX8_goOn 124 = .ok (.ireturn, 1) := by decide +kernel
theorem dX8_goOn_125 : decode cX8_goOn 125 = .ok (.aload_n 0, 1) := by decide +kernel
theorem dX8_goOn_126 : decode cX8_goOn 126 = .ok (.dup, 1) := by decide +kernel
theorem dX8_goOn_127 : decode cX8_goOn 127 = .ok (.getfield 271, 3) := by decide +kernel
theorem dX8_goOn_130 : decode cX8_goOn 130 = .ok (.iconst 1, 1) := by decide +kernel
theorem dX8_goOn_131 : decode cX8_goOn 131 = .ok (.iadd, 1) := by decide +kernel
theorem dX8_goOn_132 : decode cX8_goOn 132 = .ok (.putfield 271, 3) := by decide +kernel
theorem dX8_goOn_135 : decode cX8_goOn 135 = .ok (.aload_n 0, 1) := by decide +kernel
theorem dX8_goOn_136 : decode cX8_goOn 136 = .ok (.getfield 95, 3) := by decide +kernel
theorem dX8_goOn_139 : decode cX8_goOn 139 = .ok (.aload_n 0, 1) := by decide +kernel
theorem dX8_goOn_140 : decode cX8_goOn 140 = .ok (.getfield 271, 3) := by decide +kernel
theorem dX8_goOn_143 : decode cX8_goOn 143 = .ok (.iconst (-1), 1) := by decide +kernel
theorem dX8_goOn_144 : decode cX8_goOn 144 = .ok (.iastore, 1) := by decide +kernel
theorem dX8_goOn_145 : decode cX8_goOn 145 = .ok (.goto (-145), 3) := by decide +kernel
theorem dX8_goOn_148 : decode cX8_goOn 148 = .ok (.iconst 0, 1) := by decide +kernel
theorem dX8_goOn_149 : decode cX8_goOn 149 = .ok (.ireturn, 1) := by decide +kernel
theorem dX8_begin_0 : decode cX8_begin 0 = .ok (.aload_n 0, 1) := by decide +kernel
theorem dX8_begin_1 : decode cX8_begin 1 = .ok (.iconst 0, 1) := by decide +kernel
theorem dX8_begin_2 : decode cX8_begin 2 = .ok (.putfield 271, 3) := by decide +kernel
theorem dX8_begin_5 : decode cX8_begin 5 = .ok (.aload_n 0, 1) := by decide +kernel
theorem dX8_begin_6 : decode cX8_begin 6 = .ok (.getfield 95, 3) := by decide +kernel
theorem dX8_begin_9 : decode cX8_begin 9 = .ok (.iconst 0, 1) := by decide +kernel
theorem dX8_begin_10 : decode cX8_begin 10 = .ok (.iconst (-1), 1) := by decide +kernel
theorem dX8_begin_11 : decode cX8_begin 11 = .ok (.iastore, 1) := by decide +kernel
theorem dX8_begin_12 : decode cX8_begin 12 = .ok (.return_, 1) := by decide +kernel
theorem dX8_takeRound_0 : decode cX8_takeRound 0 = .ok (.aload_n 0, 1) := by decide +kernel
theorem dX8_takeRound_1 : decode cX8_takeRound 1 = .ok (.invokevirtual 268, 3) := by decide +kernel
theorem dX8_takeRound_4 : decode cX8_takeRound 4 = .ok (.istore_n 1, 1) := by decide +kernel
theorem dX8_takeRound_5 : decode cX8_takeRound 5 = .ok (.aload_n 0, 1) := by decide +kernel
theorem dX8_takeRound_6 : decode cX8_takeRound 6 = .ok (.invokevirtual 277, 3) := by decide +kernel
theorem dX8_takeRound_9 : decode cX8_takeRound 9 = .ok (.aload_n 0, 1) := by decide +kernel
theorem dX8_takeRound_10 : decode cX8_takeRound 10 = .ok (.aload_n 0, 1) := by decide +kernel
theorem dX8_takeRound_11 : decode cX8_takeRound 11 = .ok (.getfield 83, 3) := by decide +kernel
theorem dX8_takeRound_14 : decode cX8_takeRound 14 = .ok (.invokevirtual 280, 3) := by decide +kernel
theorem dX8_takeRound_17 : decode cX8_takeRound 17 = .ok (.istore_n 2, 1) := by decide +kernel
theorem dX8_takeRound_18 : decode cX8_takeRound 18 = .ok (.iload_n 2, 1) := by decide +kernel
theorem dX8_takeRound_19 : decode cX8_takeRound 19 = .ok (.ifCond .eq 23, 3) := by decide +kernel
theorem dX8_takeRound_22 : decode cX8_takeRound 22 = .ok (.aload_n 0, 1) := by decide +kernel
theorem dX8_takeRound_23 : decode cX8_takeRound 23 = .ok (.iload_n 1, 1) := by decide +kernel
theorem dX8_takeRound_24 : decode cX8_takeRound 24 = .ok (.invokevirtual 284, 3) := by decide +kernel
theorem dX8_takeRound_27 : decode cX8_takeRound 27 = .ok (.ifCond .ne 15, 3) := by decide +kernel
theorem dX8_takeRound_30 : decode cX8_takeRound 30 = .ok (.aload_n 0, 1) := by decide +kernel
theorem dX8_takeRound_31 : decode cX8_takeRound 31 = .ok (.aload_n 0, 1) := by decide +kernel
theorem dX8_takeRound_32 : decode cX8_takeRound 32 = .ok (.getfield 83, 3) := by decide +kernel
theorem dX8_takeRound_35 : decode cX8_takeRound 35 = .ok (.invokevirtual 280, 3) := by decide +kernel
theorem dX8_takeRound_38 : decode cX8_takeRound 38 = .ok (.istore_n 2, 1) := by decide +kernel
theorem dX8_takeRound_39 : decode cX8_takeRound 39 = .ok (.goto (-21), 3) := by decide +kernel
theorem dX8_takeRound_42 : decode cX8_takeRound 42 = .ok (.iconst 0, 1) := by decide +kernel
theorem dX8_takeRound_43 : decode cX8_takeRound 43 = .ok (.istore_n 3, 1) := by decide +kernel
theorem dX8_takeRound_44 : decode cX8_takeRound 44 = .ok (.iload_n 3, 1) := by decide +kernel
theorem dX8_takeRound_45 : decode cX8_takeRound 45 = .ok (.aload_n 0, 1) := by decide +kernel
theorem dX8_takeRound_46 : decode cX8_takeRound 46 = .ok (.getfield 77, 3) := by decide +kernel
theorem dX8_takeRound_49 : decode cX8_takeRound 49 = .ok (.if_icmp .ge 41, 3) := by decide +kernel
theorem dX8_takeRound_52 : decode cX8_takeRound 52 = .ok (.aload_n 0, 1) := by decide +kernel
theorem dX8_takeRound_53 : decode cX8_takeRound 53 = .ok (.getfield 95, 3) := by decide +kernel
theorem dX8_takeRound_56 : decode cX8_takeRound 56 = .ok (.iload_n 3, 1) := by decide +kernel
theorem dX8_takeRound_57 : decode cX8_takeRound 57 = .ok (.iaload, 1) := by decide +kernel
theorem dX8_takeRound_58 : decode cX8_takeRound 58 = .ok (.aload_n 0, 1) := by decide +kernel
theorem dX8_takeRound_59 : decode cX8_takeRound 59 = .ok (.getfield 77, 3) := by decide +kernel
theorem dX8_takeRound_62 : decode cX8_takeRound 62 = .ok (.if_icmp .ge 22, 3) := by decide +kernel
theorem dX8_takeRound_65 : decode cX8_takeRound 65 = .ok (.aload_n 0, 1) := by decide +kernel
theorem dX8_takeRound_66 : decode cX8_takeRound 66 = .ok (.getfield 83, 3) := by decide +kernel
theorem dX8_takeRound_69 : decode cX8_takeRound 69 = .ok (.iconst 5, 1) := by decide +kernel
theorem dX8_takeRound_70 : decode cX8_takeRound 70 = .ok (.iload_n 3, 1) := by decide +kernel
theorem dX8_takeRound_71 : decode cX8_takeRound 71 = .ok (.imul, 1) := by decide +kernel
theorem dX8_takeRound_72 : decode cX8_takeRound 72 = .ok (.aload_n 0, 1) := by decide +kernel
theorem dX8_takeRound_73 : decode cX8_takeRound 73 = .ok (.getfield 95, 3) := by decide +kernel
theorem dX8_takeRound_76 : decode cX8_takeRound 76 = .ok (.iload_n 3, 1) := by decide +kernel
theorem dX8_takeRound_77 : decode cX8_takeRound 77 = .ok (.iaload, 1) := by decide +kernel
theorem dX8_takeRound_78 : decode cX8_takeRound 78 = .ok (.iadd, 1) := by decide +kernel
theorem dX8_takeRound_79 : decode cX8_takeRound 79 = .ok (.dup2, 1) := by decide +kernel
theorem dX8_takeRound_80 : decode cX8_takeRound 80 = .ok (.iaload, 1) := by decide +kernel
theorem dX8_takeRound_81 : decode cX8_takeRound 81 = .ok (.iconst 1, 1) := by decide +kernel
theorem dX8_takeRound_82 : decode cX8_takeRound 82 = .ok (.isub, 1) := by decide +kernel
theorem dX8_takeRound_83 : decode cX8_takeRound 83 = .ok (.iastore, 1) := by decide +kernel
theorem dX8_takeRound_84 : decode cX8_takeRound 84 = .ok (.iinc 3 1, 3) := by decide +kernel
theorem dX8_takeRound_87 : decode cX8_takeRound 87 = .ok (.goto (-43), 3) := by decide +kernel
theorem dX8_takeRound_90 : decode cX8_takeRound 90 = .ok (.return_, 1) := by decide +kernel
theorem dX8_parted_0 : decode cX8_parted 0 = .ok (.aload_n 0, 1) := by decide +kernel
theorem dX8_parted_1 : decode cX8_parted 1 = .ok (.invokevirtual 287, 3) := by decide +kernel
theorem dX8_parted_4 : decode cX8_parted 4 = .ok (.istore_n 3, 1) := by decide +kernel
theorem dX8_parted_5 : decode cX8_parted 5 = .ok (.iload_n 1, 1) := by decide +kernel
theorem dX8_parted_6 : decode cX8_parted 6 = .ok (.iconst 0, 1) := by decide +kernel
theorem dX8_parted_7 : decode cX8_parted 7 = .ok (.iload_n 3, 1) := by decide +kernel
theorem dX8_parted_8 : decode cX8_parted 8 = .ok (.iconst 1, 1) := by decide +kernel
theorem dX8_parted_9 : decode cX8_parted 9 = .ok (.isub, 1) := by decide +kernel
theorem dX8_parted_10 : decode cX8_parted 10 = .ok (.invokestatic 116, 3) := by decide +kernel
theorem dX8_parted_13 : decode cX8_parted 13 = .ok (.ifCond .eq 11, 3) := by decide +kernel
theorem dX8_parted_16 : decode cX8_parted 16 = .ok (.aload_n 0, 1) := by decide +kernel
theorem dX8_parted_17 : decode cX8_parted 17 = .ok (.iload_n 2, 1) := by decide +kernel
theorem dX8_parted_18 : decode cX8_parted 18 = .ok (.invokevirtual 258, 3) := by decide +kernel
theorem dX8_parted_21 : decode cX8_parted 21 = .ok (.ifCond .ne 5, 3) := by decide +kernel
theorem dX8_parted_24 : decode cX8_parted 24 = .ok (.iconst (-1), 1) := by decide +kernel
theorem dX8_parted_25 : decode cX8_parted 25 = .ok (.ireturn, 1) := by decide +kernel
theorem dX8_parted_26 : decode cX8_parted 26 = .ok (.iconst 0, 1) := by decide +kernel
theorem dX8_parted_27 : decode cX8_parted 27 = .ok (.istore 4, 2) := by decide +kernel
theorem dX8_parted_29 : decode cX8_parted 29 = .ok (.iload 4, 2) := by decide +kernel
theorem dX8_parted_31 : decode cX8_parted 31 = .ok (.iload_n 1, 1) := by decide +kernel
theorem dX8_parted_32 : decode cX8_parted 32 = .ok (.if_icmp .gt 13, 3) := by decide +kernel
theorem dX8_parted_35 : decode cX8_parted 35 = .ok (.aload_n 0, 1) := by decide +kernel
theorem dX8_parted_36 : decode cX8_parted 36 = .ok (.invokevirtual 290, 3) := by decide +kernel
theorem dX8_parted_39 : decode cX8_parted 39 = .ok (.iinc 4 1, 3) := by decide +kernel
theorem dX8_parted_42 : decode cX8_parted 42 = .ok (.goto (-13), 3) := by decide +kernel
theorem dX8_parted_45 : decode cX8_parted 45 = .ok (.aload_n 0, 1) := by decide +kernel
theorem dX8_parted_46 : decode cX8_parted 46 = .ok (.getfield 95, 3) := by decide +kernel
theorem dX8_parted_49 : decode cX8_parted 49 = .ok (.iload_n 2, 1) := by decide +kernel
theorem dX8_parted_50 : decode cX8_parted 50 = .ok (.iaload, 1) := by decide +kernel
theorem dX8_parted_51 : decode cX8_parted 51 = .ok (.aload_n 0, 1) := by decide +kernel
theorem dX8_parted_52 : decode cX8_parted 52 = .ok (.getfield 77, 3) := by decide +kernel
theorem dX8_parted_55 : decode cX8_parted 55 = .ok (.if_icmp .ne 8, 3) := by decide +kernel
theorem dX8_parted_58 : decode cX8_parted 58 = .ok (.bipush (-9), 2) := by decide +kernel
theorem dX8_parted_60 : decode cX8_parted 60 = .ok (.goto 9, 3) := by decide +kernel
theorem dX8_parted_63 : decode cX8_parted 63 = .ok (.aload_n 0, 1) := by decide +kernel
theorem dX8_parted_64 : decode cX8_parted 64 = .ok (.getfield 95, 3) := by decide +kernel
theorem dX8_parted_67 : decode cX8_parted 67 = .ok (.iload_n 2, 1) := by decide +kernel
theorem dX8_parted_68 : decode cX8_parted 68 = .ok (.iaload, 1) := by decide +kernel
theorem dX8_parted_69 : decode cX8_parted 69 = .ok (.ireturn, 1) := by decide +kernel
theorem dX8_changes_0 : decode cX8_changes 0 = .ok (.aload_n 0, 1) := by decide +kernel
theorem dX8_changes_1 : decode cX8_changes 1 = .ok (.invokevirtual 287, 3) := by decide +kernel
theorem dX8_changes_4 : decode cX8_changes 4 = .ok (.istore_n 1, 1) := by decide +kernel
theorem dX8_changes_5 : decode cX8_changes 5 = .ok (.iconst 0, 1) := by decide +kernel
theorem dX8_changes_6 : decode cX8_changes 6 = .ok (.istore_n 2, 1) := by decide +kernel
theorem dX8_changes_7 : decode cX8_changes 7 = .ok (.iconst 0, 1) := by decide +kernel
theorem dX8_changes_8 : decode cX8_changes 8 = .ok (.istore_n 3, 1) := by decide +kernel
theorem dX8_changes_9 : decode cX8_changes 9 = .ok (.iload_n 3, 1) := by decide +kernel
theorem dX8_changes_10 : decode cX8_changes 10 = .ok (.iload_n 1, 1) := by decide +kernel
theorem dX8_changes_11 : decode cX8_changes 11 = .ok (.if_icmp .ge 96, 3) := by decide +kernel
theorem dX8_changes_14 : decode cX8_changes 14 = .ok (.aload_n 0, 1) := by decide +kernel
theorem dX8_changes_15 : decode cX8_changes 15 = .ok (.invokevirtual 290, 3) := by decide +kernel
theorem dX8_changes_18 : decode cX8_changes 18 = .ok (.iload_n 3, 1) := by decide +kernel
theorem dX8_changes_19 : decode cX8_changes 19 = .ok (.ifCond .ne 7, 3) := by decide +kernel
theorem dX8_changes_22 : decode cX8_changes 22 = .ok (.iconst 1, 1) := by decide +kernel
theorem dX8_changes_23 : decode cX8_changes 23 = .ok (.goto 4, 3) := by decide +kernel
theorem dX8_changes_26 : decode cX8_changes 26 = .ok (.iconst 0, 1) := by decide +kernel
theorem dX8_changes_27 : decode cX8_changes 27 = .ok (.istore 4, 2) := by decide +kernel
theorem dX8_changes_29 : decode cX8_changes 29 = .ok (.iconst 0, 1) := by decide +kernel
theorem dX8_changes_30 : decode cX8_changes 30 = .ok (.istore 5, 2) := by decide +kernel
theorem dX8_changes_32 : decode cX8_changes 32 = .ok (.iload 5, 2) := by decide +kernel
theorem dX8_changes_34 : decode cX8_changes 34 = .ok (.aload_n 0, 1) := by decide +kernel
theorem dX8_changes_35 : decode cX8_changes 35 = .ok (.getfield 77, 3) := by decide +kernel
theorem dX8_changes_38 : decode cX8_changes 38 = .ok (.if_icmp .ge 50, 3) := by decide +kernel
theorem dX8_changes_41 : decode cX8_changes 41 = .ok (.iload 4, 2) := by decide +kernel
theorem dX8_changes_43 : decode cX8_changes 43 = .ok (.aload_n 0, 1) := by decide +kernel
theorem dX8_changes_44 : decode cX8_changes 44 = .ok (.getfield 95, 3) := by decide +kernel
theorem dX8_changes_47 : decode cX8_changes 47 = .ok (.iload 5, 2) := by decide +kernel
theorem dX8_changes_49 : decode cX8_changes 49 = .ok (.iaload, 1) := by decide +kernel
theorem dX8_changes_50 : decode cX8_changes 50 = .ok (.aload_n 0, 1) := by decide +kernel
theorem dX8_changes_51 : decode cX8_changes 51 = .ok (.getfield 101, 3) := by decide +kernel
theorem dX8_changes_54 : decode cX8_changes 54 = .ok (.iload 5, 2) := by decide +kernel
theorem dX8_changes_56 : decode cX8_changes 56 = .ok (.iaload, 1) := by decide +kernel
theorem dX8_changes_57 : decode cX8_changes 57 = .ok (.if_icmp .eq 7, 3) := by decide +kernel
theorem dX8_changes_60 : decode cX8_changes 60 = .ok (.iconst 1, 1) := by decide +kernel
theorem dX8_changes_61 : decode cX8_changes 61 = .ok (.goto 4, 3) := by decide +kernel
theorem dX8_changes_64 : decode cX8_changes 64 = .ok (.iconst 0, 1) := by decide +kernel
theorem dX8_changes_65 : decode cX8_changes 65 = .ok (.ior, 1) := by decide +kernel
theorem dX8_changes_66 : decode cX8_changes 66 = .ok (.istore 4, 2) := by decide +kernel
theorem dX8_changes_68 : decode cX8_changes 68 = .ok (.aload_n 0, 1) := by decide +kernel
theorem dX8_changes_69 : decode cX8_changes 69 = .ok (.getfield 101, 3) := by decide +kernel
theorem dX8_changes_72 : decode cX8_changes 72 = .ok (.iload 5, 2) := by decide +kernel
theorem dX8_changes_74 : decode cX8_changes 74 = .ok (.aload_n 0, 1) := by decide +kernel
theorem dX8_changes_75 : decode cX8_changes 75 = .ok (.getfield 95, 3) := by decide +kernel
theorem dX8_changes_78 : decode cX8_changes 78 = .ok (.iload 5, 2) := by decide +kernel
theorem dX8_changes_80 : decode cX8_changes 80 = .ok (.iaload, 1) := by decide +kernel
theorem dX8_changes_81 : decode cX8_changes 81 = .ok (.iastore, 1) := by decide +kernel
theorem dX8_changes_82 : decode cX8_changes 82 = .ok (.iinc 5 1, 3) := by decide +kernel
theorem dX8_changes_85 : decode cX8_changes 85 = .ok (.goto (-53), 3) := by decide +kernel
theorem dX8_changes_88 : decode cX8_changes 88 = .ok (.iload_n 2, 1) := by decide +kernel
theorem dX8_changes_89 : decode cX8_changes 89 = .ok (.iload 4, 2) := by decide +kernel
theorem dX8_changes_91 : decode cX8_changes 91 = .ok (.ifCond .eq 7, 3) := by decide +kernel
theorem dX8_changes_94 : decode cX8_changes 94 = .ok (.iconst 1, 1) := by decide +kernel
theorem dX8_changes_95 : decode cX8_changes 95 = .ok (.goto 4, 3) := by decide +kernel
theorem dX8_changes_98 : decode cX8_changes 98 = .ok (.iconst 0, 1) := by decide +kernel
theorem dX8_changes_99 : decode cX8_changes 99 = .ok (.iadd, 1) := by decide +kernel
theorem dX8_changes_100 : decode cX8_changes 100 = .ok (.istore_n 2, 1) := by decide +kernel
theorem dX8_changes_101 : decode cX8_changes 101 = .ok (.iinc 3 1, 3) := by decide +kernel
theorem dX8_changes_104 : decode cX8_changes 104 = .ok (.goto (-95), 3) := by decide +kernel
theorem dX8_changes_107 : decode cX8_changes 107 = .ok (.iload_n 2, 1) := by decide +kernel
theorem dX8_changes_108 : decode cX8_changes 108 = .ok (.ireturn, 1) := by decide +kernel
theorem dX8_matchGreatest_0 : decode cX8_matchGreatest 0 = .ok (.iconst (-1), 1) := by decide +kernel
theorem dX8_matchGreatest_1 : decode cX8_matchGreatest 1 = .ok (.istore_n 1, 1) := by decide +kernel
theorem dX8_matchGreatest_2 : decode cX8_matchGreatest 2 = .ok (.aload_n 0, 1) := by decide +kernel
theorem dX8_matchGreatest_3 : decode cX8_matchGreatest 3 = .ok (.invokevirtual 277, 3) := by decide +kernel
theorem dX8_matchGreatest_6 : decode cX8_matchGreatest 6 = .ok (.aload_n 0, 1) := by decide +kernel
theorem dX8_matchGreatest_7 : decode cX8_matchGreatest 7 = .ok (.aload_n 0, 1) := by decide +kernel
theorem dX8_matchGreatest_8 : decode cX8_matchGreatest 8 = .ok (.getfield 86, 3) := by decide +kernel
theorem dX8_matchGreatest_11 : decode cX8_matchGreatest 11 = .ok (.invokevirtual 280, 3) := by decide +kernel
theorem dX8_matchGreatest_14 : decode cX8_matchGreatest 14 = .ok (.ifCond .eq 112, 3) := by decide +kernel
theorem dX8_matchGreatest_17 : decode cX8_matchGreatest 17 = .ok (.iconst 0, 1) := by decide +kernel
theorem dX8_matchGreatest_18 : decode cX8_matchGreatest 18 = .ok (.istore_n 2, 1) := by decide +kernel
theorem dX8_matchGreatest_19 : decode cX8_matchGreatest 19 = .ok (.iconst 0, 1) := by decide +kernel
theorem dX8_matchGreatest_20 : decode cX8_matchGreatest 20 = .ok (.istore_n 3, 1) := by decide +kernel
theorem dX8_matchGreatest_21 : decode cX8_matchGreatest 21 = .ok (.iload_n 3, 1) := by decide +kernel
theorem dX8_matchGreatest_22 : decode cX8_matchGreatest 22 = .ok (.aload_n 0, 1) := by decide +kernel
theorem dX8_matchGreatest_23 : decode cX8_matchGreatest 23 = .ok (.getfield 77, 3) := by decide +kernel
theorem dX8_matchGreatest_26 : decode cX8_matchGreatest 26 = .ok (.if_icmp .ge 44, 3) := by decide +kernel
theorem dX8_matchGreatest_29 : decode cX8_matchGreatest 29 = .ok (.iload_n 2, 1) := by decide +kernel
theorem dX8_matchGreatest_30 : decode cX8_matchGreatest 30 = .ok (.aload_n 0, 1) := by decide +kernel
theorem dX8_matchGreatest_31 : decode cX8_matchGreatest 31 = .ok (.getfield 95, 3) := by decide +kernel
theorem dX8_matchGreatest_34 : decode cX8_matchGreatest 34 = .ok (.iload_n 3, 1) := by decide +kernel
theorem dX8_matchGreatest_35 : decode cX8_matchGreatest 35 = .ok (.iaload, 1) := by decide +kernel
theorem dX8_matchGreatest_36 : decode cX8_matchGreatest 36 = .ok (.aload_n 0, 1) := by decide +kernel
theorem dX8_matchGreatest_37 : decode cX8_matchGreatest 37 = .ok (.getfield 77, 3) := by decide +kernel
theorem dX8_matchGreatest_40 : decode cX8_matchGreatest 40 = .ok (.if_icmp .ge 21, 3) := by decide +kernel
theorem dX8_matchGreatest_43 : decode cX8_matchGreatest 43 = .ok (.aload_n 0, 1) := by decide +kernel
theorem dX8_matchGreatest_44 : decode cX8_matchGreatest 44 = .ok (.getfield 86, 3) := by decide +kernel
theorem dX8_matchGreatest_47 : decode cX8_matchGreatest 47 = .ok (.iconst 5, 1) := by decide +kernel
theorem dX8_matchGreatest_48 : decode cX8_matchGreatest 48 = .ok (.iload_n 3, 1) := by decide +kernel
theorem dX8_matchGreatest_49 : decode cX8_matchGreatest 49 = .ok (.imul, 1) := by decide +kernel
theorem dX8_matchGreatest_50 : decode cX8_matchGreatest 50 = .ok (.aload_n 0, 1) := by decide +kernel
theorem dX8_matchGreatest_51 : decode cX8_matchGreatest 51 = .ok (.getfield 95, 3) := by decide +kernel
theorem dX8_matchGreatest_54 : decode cX8_matchGreatest 54 = .ok (.iload_n 3, 1) := by decide +kernel
theorem dX8_matchGreatest_55 : decode cX8_matchGreatest 55 = .ok (.iaload, 1) := by decide +kernel
theorem dX8_matchGreatest_56 : decode cX8_matchGreatest 56 = .ok (.iadd, 1) := by decide +kernel
theorem dX8_matchGreatest_57 : decode cX8_matchGreatest 57 = .ok (.iaload, 1) := by decide +kernel
theorem dX8_matchGreatest_58 : decode cX8_matchGreatest 58 = .ok (.goto 4, 3) := by decide +kernel
theorem dX8_matchGreatest_61 : decode cX8_matchGreatest 61 = .ok (.iconst 0, 1) := by decide +kernel
theorem dX8_matchGreatest_62 : decode cX8_matchGreatest 62 = .ok (.iadd, 1) := by decide +kernel
theorem dX8_matchGreatest_63 : decode cX8_matchGreatest 63 = .ok (.istore_n 2, 1) := by decide +kernel
theorem dX8_matchGreatest_64 : decode cX8_matchGreatest 64 = .ok (.iinc 3 1, 3) := by decide +kernel
theorem dX8_matchGreatest_67 : decode cX8_matchGreatest 67 = .ok (.goto (-46), 3) := by decide +kernel
theorem dX8_matchGreatest_70 : decode cX8_matchGreatest 70 = .ok (.iload_n 2, 1) := by decide +kernel
theorem dX8_matchGreatest_71 : decode cX8_matchGreatest 71 = .ok (.iload_n 1, 1) := by decide +kernel
theorem dX8_matchGreatest_72 : decode cX8_matchGreatest 72 = .ok (.if_icmp .le 51, 3) := by decide +kernel
theorem dX8_matchGreatest_75 : decode cX8_matchGreatest 75 = .ok (.iload_n 2, 1) := by decide +kernel
theorem dX8_matchGreatest_76 : decode cX8_matchGreatest 76 = .ok (.istore_n 1, 1) := by decide +kernel
theorem dX8_matchGreatest_77 : decode cX8_matchGreatest 77 = .ok (.iconst 0, 1) := by decide +kernel
theorem dX8_matchGreatest_78 : decode cX8_matchGreatest 78 = .ok (.istore_n 3, 1) := by decide +kernel
theorem dX8_matchGreatest_79 : decode cX8_matchGreatest 79 = .ok (.iload_n 3, 1) := by decide +kernel
theorem dX8_matchGreatest_80 : decode cX8_matchGreatest 80 = .ok (.aload_n 0, 1) := by decide +kernel
theorem dX8_matchGreatest_81 : decode cX8_matchGreatest 81 = .ok (.getfield 77, 3) := by decide +kernel
theorem dX8_matchGreatest_84 : decode cX8_matchGreatest 84 = .ok (.if_icmp .ge 39, 3) := by decide +kernel
theorem dX8_matchGreatest_87 : decode cX8_matchGreatest 87 = .ok (.aload_n 0, 1) := by decide +kernel
theorem dX8_matchGreatest_88 : decode cX8_matchGreatest 88 = .ok (.getfield 98, 3) := by decide +kernel
theorem dX8_matchGreatest_91 : decode cX8_matchGreatest 91 = .ok (.iload_n 3, 1) := by decide +kernel
theorem dX8_matchGreatest_92 : decode cX8_matchGreatest 92 = .ok (.aload_n 0, 1) := by decide +kernel
theorem dX8_matchGreatest_93 : decode cX8_matchGreatest 93 = .ok (.getfield 95, 3) := by decide +kernel
theorem dX8_matchGreatest_96 : decode cX8_matchGreatest 96 = .ok (.iload_n 3, 1) := by decide +kernel
theorem dX8_matchGreatest_97 : decode cX8_matchGreatest 97 = .ok (.iaload, 1) := by decide +kernel
theorem dX8_matchGreatest_98 : decode cX8_matchGreatest 98 = .ok (.aload_n 0, 1) := by decide +kernel
theorem dX8_matchGreatest_99 : decode cX8_matchGreatest 99 = .ok (.getfield 77, 3) := by decide +kernel
theorem dX8_matchGreatest_102 : decode cX8_matchGreatest 102 = .ok (.if_icmp .ge 12, 3) := by decide +kernel
theorem dX8_matchGreatest_105 : decode cX8_matchGreatest 105 = .ok (.aload_n 0, 1) := by decide +kernel
theorem dX8_matchGreatest_106 : decode cX8_matchGreatest 106 = .ok (.getfield 95, 3) := by decide +kernel
theorem dX8_matchGreatest_109 : decode cX8_matchGreatest 109 = .ok (.iload_n 3, 1) := by decide +kernel
theorem dX8_matchGreatest_110 : decode cX8_matchGreatest 110 = .ok (.iaload, 1) := by decide +kernel
theorem dX8_matchGreatest_111 : decode cX8_matchGreatest 111 = .ok (.goto 5, 3) := by decide +kernel
theorem dX8_matchGreatest_114 : decode cX8_matchGreatest 114 = .ok (.bipush (-9), 2) := by decide +kernel
theorem dX8_matchGreatest_116 : decode cX8_matchGreatest 116 = .ok (.iastore, 1) := by decide +kernel
theorem dX8_matchGreatest_117 : decode cX8_matchGreatest 117 = .ok (.iinc 3 1, 3) := by decide +kernel
theorem dX8_matchGreatest_120 : decode cX8_matchGreatest 120 = .ok (.goto (-41), 3) := by decide +kernel
theorem dX8_matchGreatest_123 : decode cX8_matchGreatest 123 = .ok (.goto (-117), 3) := by decide +kernel
theorem dX8_matchGreatest_126 : decode cX8_matchGreatest 126 = .ok (.return_, 1) := by decide +kernel
theorem dX8_isMatched_0 : decode cX8_isMatched 0 = .ok (.iconst 0, 1) := by decide +kernel
theorem dX8_isMatched_1 : decode cX8_isMatched 1 = .ok (.istore_n 2, 1) := by decide +kernel
theorem dX8_isMatched_2 : decode cX8_isMatched 2 = .ok (.iload_n 2, 1) := by decide +kernel
theorem dX8_isMatched_3 : decode cX8_isMatched 3 = .ok (.aload_n 0, 1) := by decide +kernel
theorem dX8_isMatched_4 : decode cX8_isMatched 4 = .ok (.getfield 77, 3) := by decide +kernel
theorem dX8_isMatched_7 : decode cX8_isMatched 7 = .ok (.if_icmp .ge 21, 3) := by decide +kernel
theorem dX8_isMatched_10 : decode cX8_isMatched 10 = .ok (.aload_n 0, 1) := by decide +kernel
theorem dX8_isMatched_11 : decode cX8_isMatched 11 = .ok (.getfield 98, 3) := by decide +kernel
theorem dX8_isMatched_14 : decode cX8_isMatched 14 = .ok (.iload_n 2, 1) := by decide +kernel
theorem dX8_isMatched_15 : decode cX8_isMatched 15 = .ok (.iaload, 1) := by decide +kernel
theorem dX8_isMatched_16 : decode cX8_isMatched 16 = .ok (.iload_n 1, 1) := by decide +kernel
theorem dX8_isMatched_17 : decode cX8_isMatched 17 = .ok (.if_icmp .ne 5, 3) := by decide +kernel
theorem dX8_isMatched_20 : decode cX8_isMatched 20 = .ok (.iconst 1, 1) := by decide +kernel
theorem dX8_isMatched_21 : decode cX8_isMatched 21 = .ok (.ireturn, 1) := by decide +kernel
theorem dX8_isMatched_22 : decode cX8_isMatched 22 = .ok (.iinc 2 1, 3) := by decide +kernel
theorem dX8_isMatched_25 : decode cX8_isMatched 25 = .ok (.goto (-23), 3) := by decide +kernel
theorem dX8_isMatched_28 : decode cX8_isMatched 28 = .ok (.iconst 0, 1) := by decide +kernel
theorem dX8_isMatched_29 : decode cX8_isMatched 29 = .ok (.ireturn, 1) := by decide +kernel
theorem dX8_takenBy_0 : decode cX8_takenBy 0 = .ok (.iconst 0, 1) := by decide +kernel
theorem dX8_takenBy_1 : decode cX8_takenBy 1 = .ok (.istore_n 2, 1) := by decide +kernel
theorem dX8_takenBy_2 : decode cX8_takenBy 2 = .ok (.iload_n 2, 1) := by decide +kernel
theorem dX8_takenBy_3 : decode cX8_takenBy 3 = .ok (.aload_n 0, 1) := by decide +kernel
theorem dX8_takenBy_4 : decode cX8_takenBy 4 = .ok (.getfield 77, 3) := by decide +kernel
theorem dX8_takenBy_7 : decode cX8_takenBy 7 = .ok (.if_icmp .ge 49, 3) := by decide +kernel
theorem dX8_takenBy_10 : decode cX8_takenBy 10 = .ok (.aload_n 0, 1) := by decide +kernel
theorem dX8_takenBy_11 : decode cX8_takenBy 11 = .ok (.getfield 92, 3) := by decide +kernel
theorem dX8_takenBy_14 : decode cX8_takenBy 14 = .ok (.iload_n 1, 1) := by decide +kernel
theorem dX8_takenBy_15 : decode cX8_takenBy 15 = .ok (.iaload, 1) := by decide +kernel
theorem dX8_takenBy_16 : decode cX8_takenBy 16 = .ok (.iload_n 2, 1) := by decide +kernel
theorem dX8_takenBy_17 : decode cX8_takenBy 17 = .ok (.iadd, 1) := by decide +kernel
theorem dX8_takenBy_18 : decode cX8_takenBy 18 = .ok (.aload_n 0, 1) := by decide +kernel
theorem dX8_takenBy_19 : decode cX8_takenBy 19 = .ok (.getfield 77, 3) := by decide +kernel
theorem dX8_takenBy_22 : decode cX8_takenBy 22 = .ok (.irem, 1) := by decide +kernel
theorem dX8_takenBy_23 : decode cX8_takenBy 23 = .ok (.istore_n 3, 1) := by decide +kernel
theorem dX8_takenBy_24 : decode cX8_takenBy 24 = .ok (.aload_n 0, 1) := by decide +kernel
theorem dX8_takenBy_25 : decode cX8_takenBy 25 = .ok (.getfield 98, 3) := by decide +kernel
theorem dX8_takenBy_28 : decode cX8_takenBy 28 = .ok (.iload_n 3, 1) := by decide +kernel
theorem dX8_takenBy_29 : decode cX8_takenBy 29 = .ok (.iaload, 1) := by decide +kernel
theorem dX8_takenBy_30 : decode cX8_takenBy 30 = .ok (.bipush (-9), 2) := by decide +kernel
theorem dX8_takenBy_32 : decode cX8_takenBy 32 = .ok (.if_icmp .ne 18, 3) := by decide +kernel
theorem dX8_takenBy_35 : decode cX8_takenBy 35 = .ok (.aload_n 0, 1) := by decide +kernel
theorem dX8_takenBy_36 : decode cX8_takenBy 36 = .ok (.getfield 86, 3) := by decide +kernel
theorem dX8_takenBy_39 : decode cX8_takenBy 39 = .ok (.iconst 5, 1) := by decide +kernel
theorem dX8_takenBy_40 : decode cX8_takenBy 40 = .ok (.iload_n 3, 1) := by decide +kernel
theorem dX8_takenBy_41 : decode cX8_takenBy 41 = .ok (.imul, 1) := by decide +kernel
theorem dX8_takenBy_42 : decode cX8_takenBy 42 = .ok (.iload_n 1, 1) := by decide +kernel
theorem dX8_takenBy_43 : decode cX8_takenBy 43 = .ok (.iadd, 1) := by decide +kernel
theorem dX8_takenBy_44 : decode cX8_takenBy 44 = .ok (.iaload, 1) := by decide +kernel
theorem dX8_takenBy_45 : decode cX8_takenBy 45 = .ok (.ifCond .le 5, 3) := by decide +kernel
theorem dX8_takenBy_48 : decode cX8_takenBy 48 = .ok (.iload_n 3, 1) := by decide +kernel
theorem dX8_takenBy_49 : decode cX8_takenBy 49 = .ok (.ireturn, 1) := by decide +kernel
theorem dX8_takenBy_50 : decode cX8_takenBy 50 = .ok (.iinc 2 1, 3) := by decide +kernel
theorem dX8_takenBy_53 : decode cX8_takenBy 53 = .ok (.goto (-51), 3) := by decide +kernel
theorem dX8_takenBy_56 : decode cX8_takenBy 56 = .ok (.bipush (-9), 2) := by decide +kernel
theorem dX8_takenBy_58 : decode cX8_takenBy 58 = .ok (.ireturn, 1) := by decide +kernel
theorem dX8_matchByTurns_0 : decode cX8_matchByTurns 0 = .ok (.iconst 0, 1) := by decide +kernel
theorem dX8_matchByTurns_1 : decode cX8_matchByTurns 1 = .ok (.istore_n 1, 1) := by decide +kernel
theorem dX8_matchByTurns_2 : decode cX8_matchByTurns 2 = .ok (.iload_n 1, 1) := by decide +kernel
theorem dX8_matchByTurns_3 : decode cX8_matchByTurns 3 = .ok (.iconst 3, 1) := by decide +kernel
theorem dX8_matchByTurns_4 : decode cX8_matchByTurns 4 = .ok (.if_icmp .ge 179, 3) := by decide +kernel
theorem dX8_matchByTurns_7 : decode cX8_matchByTurns 7 = .ok (.iconst 0, 1) := by decide +kernel
theorem dX8_matchByTurns_8 : decode cX8_matchByTurns 8 = .ok (.istore_n 2, 1) := by decide +kernel
theorem dX8_matchByTurns_9 : decode cX8_matchByTurns 9 = .ok (.iload_n 2, 1) := by decide +kernel
theorem dX8_matchByTurns_10 : decode cX8_matchByTurns 10 = .ok (.aload_n 0, 1) := by decide +kernel
theorem dX8_matchByTurns_11 : decode cX8_matchByTurns 11 = .ok (.getfield 77, 3) := by decide +kernel
theorem dX8_matchByTurns_14 : decode cX8_matchByTurns 14 = .ok (.if_icmp .ge 33, 3) := by decide +kernel
theorem dX8_matchByTurns_17 : decode cX8_matchByTurns 17 = .ok (.aload_n 0, 1) := by decide +kernel
theorem dX8_matchByTurns_18 : decode cX8_matchByTurns 18 = .ok (.getfield 104, 3) := by decide +kernel
theorem dX8_matchByTurns_21 : decode cX8_matchByTurns 21 = .ok (.iload_n 2, 1) := by decide +kernel
theorem dX8_matchByTurns_22 : decode cX8_matchByTurns 22 = .ok (.aload_n 0, 1) := by decide +kernel
theorem dX8_matchByTurns_23 : decode cX8_matchByTurns 23 = .ok (.iload_n 2, 1) := by decide +kernel
theorem dX8_matchByTurns_24 : decode cX8_matchByTurns 24 = .ok (.invokevirtual 293, 3) := by decide +kernel
theorem dX8_matchByTurns_27 : decode cX8_matchByTurns 27 = .ok (.ifCond .eq 8, 3) := by decide +kernel
theorem dX8_matchByTurns_30 : decode cX8_matchByTurns 30 = .ok (.bipush (-9), 2) := by decide +kernel
theorem dX8_matchByTurns_32 : decode cX8_matchByTurns 32 = .ok (.goto 8, 3) := by decide +kernel
theorem dX8_matchByTurns_35 : decode cX8_matchByTurns 35 = .ok (.aload_n 0, 1) := by decide +kernel
theorem dX8_matchByTurns_36 : decode cX8_matchByTurns 36 = .ok (.iload_n 2, 1) := by decide +kernel
theorem dX8_matchByTurns_37 : decode cX8_matchByTurns 37 = .ok (.invokevirtual 296, 3) := by decide +kernel
theorem dX8_matchByTurns_40 : decode cX8_matchByTurns 40 = .ok (.iastore, 1) := by decide +kernel
theorem dX8_matchByTurns_41 : decode cX8_matchByTurns 41 = .ok (.iinc 2 1, 3) := by decide +kernel
theorem dX8_matchByTurns_44 : decode cX8_matchByTurns 44 = .ok (.goto (-35), 3) := by decide +kernel
theorem dX8_matchByTurns_47 : decode cX8_matchByTurns 47 = .ok (.iconst 0, 1) := by decide +kernel
theorem dX8_matchByTurns_48 : decode cX8_matchByTurns 48 = .ok (.istore_n 2, 1) := by decide +kernel
theorem dX8_matchByTurns_49 : decode cX8_matchByTurns 49 = .ok (.iload_n 2, 1) := by decide +kernel
theorem dX8_matchByTurns_50 : decode cX8_matchByTurns 50 = .ok (.aload_n 0, 1) := by decide +kernel
theorem dX8_matchByTurns_51 : decode cX8_matchByTurns 51 = .ok (.getfield 77, 3) := by decide +kernel
theorem dX8_matchByTurns_54 : decode cX8_matchByTurns 54 = .ok (.if_icmp .ge 123, 3) := by decide +kernel
theorem dX8_matchByTurns_57 : decode cX8_matchByTurns 57 = .ok (.iconst 0, 1) := by decide +kernel
theorem dX8_matchByTurns_58 : decode cX8_matchByTurns 58 = .ok (.istore_n 3, 1) := by decide +kernel
theorem dX8_matchByTurns_59 : decode cX8_matchByTurns 59 = .ok (.iload_n 3, 1) := by decide +kernel
theorem dX8_matchByTurns_60 : decode cX8_matchByTurns 60 = .ok (.aload_n 0, 1) := by decide +kernel
theorem dX8_matchByTurns_61 : decode cX8_matchByTurns 61 = .ok (.getfield 77, 3) := by decide +kernel
theorem dX8_matchByTurns_64 : decode cX8_matchByTurns 64 = .ok (.if_icmp .ge 54, 3) := by decide +kernel
theorem dX8_matchByTurns_67 : decode cX8_matchByTurns 67 = .ok (.aload_n 0, 1) := by decide +kernel
theorem dX8_matchByTurns_68 : decode cX8_matchByTurns 68 = .ok (.getfield 98, 3) := by decide +kernel
theorem dX8_matchByTurns_71 : decode cX8_matchByTurns 71 = .ok (.iload_n 2, 1) := by decide +kernel
theorem dX8_matchByTurns_72 : decode cX8_matchByTurns 72 = .ok (.iaload, 1) := by decide +kernel
theorem dX8_matchByTurns_73 : decode cX8_matchByTurns 73 = .ok (.bipush (-9), 2) := by decide +kernel
theorem dX8_matchByTurns_75 : decode cX8_matchByTurns 75 = .ok (.if_icmp .ne 43, 3) := by decide +kernel
theorem dX8_matchByTurns_78 : decode cX8_matchByTurns 78 = .ok (.aload_n 0, 1) := by decide +kernel
theorem dX8_matchByTurns_79 : decode cX8_matchByTurns 79 = .ok (.getfield 89, 3) := by decide +kernel
theorem dX8_matchByTurns_82 : decode cX8_matchByTurns 82 = .ok (.iload_n 2, 1) := by decide +kernel
theorem dX8_matchByTurns_83 : decode cX8_matchByTurns 83 = .ok (.iaload, 1) := by decide +kernel
theorem dX8_matchByTurns_84 : decode cX8_matchByTurns 84 = .ok (.iload_n 3, 1) := by decide +kernel
theorem dX8_matchByTurns_85 : decode cX8_matchByTurns 85 = .ok (.iadd, 1) := by decide +kernel
theorem dX8_matchByTurns_86 : decode cX8_matchByTurns 86 = .ok (.aload_n 0, 1) := by decide +kernel
theorem dX8_matchByTurns_87 : decode cX8_matchByTurns 87 = .ok (.getfield 77, 3) := by decide +kernel
theorem dX8_matchByTurns_90 : decode cX8_matchByTurns 90 = .ok (.irem, 1) := by decide +kernel
theorem dX8_matchByTurns_91 : decode cX8_matchByTurns 91 = .ok (.istore 4, 2) := by decide +kernel
theorem dX8_matchByTurns_93 : decode cX8_matchByTurns 93 = .ok (.aload_n 0, 1) := by decide +kernel
theorem dX8_matchByTurns_94 : decode cX8_matchByTurns 94 = .ok (.getfield 104, 3) := by decide +kernel
theorem dX8_matchByTurns_97 : decode cX8_matchByTurns 97 = .ok (.iload 4, 2) := by decide +kernel
theorem dX8_matchByTurns_99 : decode cX8_matchByTurns 99 = .ok (.iaload, 1) := by decide +kernel
theorem dX8_matchByTurns_100 : decode cX8_matchByTurns 100 = .ok (.iload_n 2, 1) := by decide +kernel
theorem dX8_matchByTurns_101 : decode cX8_matchByTurns 101 = .ok (.if_icmp .ne 11, 3) := by decide +kernel
theorem dX8_matchByTurns_104 : decode cX8_matchByTurns 104 = .ok (.aload_n 0, 1) := by decide +kernel
theorem dX8_matchByTurns_105 : decode cX8_matchByTurns 105 = .ok (.getfield 98, 3) := by decide +kernel
theorem dX8_matchByTurns_108 : decode cX8_matchByTurns 108 = .ok (.iload_n 2, 1) := by decide +kernel
theorem dX8_matchByTurns_109 : decode cX8_matchByTurns 109 = .ok (.iload 4, 2) := by decide +kernel
theorem dX8_matchByTurns_111 : decode cX8_matchByTurns 111 = .ok (.iastore, 1) := by decide +kernel
theorem dX8_matchByTurns_112 : decode cX8_matchByTurns 112 = .ok (.iinc 3 1, 3) := by decide +kernel
theorem dX8_matchByTurns_115 : decode cX8_matchByTurns 115 = .ok (.goto (-56), 3) := by decide +kernel
theorem dX8_matchByTurns_118 : decode cX8_matchByTurns 118 = .ok (.iload_n 1, 1) := by decide +kernel
theorem dX8_matchByTurns_119 : decode cX8_matchByTurns 119 = .ok (.ifCond .ne 52, 3) := by decide +kernel
theorem dX8_matchByTurns_122 : decode cX8_matchByTurns 122 = .ok (.aload_n 0, 1) := by decide +kernel
theorem dX8_matchByTurns_123 : decode cX8_matchByTurns 123 = .ok (.getfield 98, 3) := by decide +kernel
theorem dX8_matchByTurns_126 : decode cX8_matchByTurns 126 = .ok (.iload_n 2, 1) := by decide +kernel
theorem dX8_matchByTurns_127 : decode cX8_matchByTurns 127 = .ok (.iaload, 1) := by decide +kernel
theorem dX8_matchByTurns_128 : decode cX8_matchByTurns 128 = .ok (.bipush (-9), 2) := by decide +kernel
theorem dX8_matchByTurns_130 : decode cX8_matchByTurns 130 = .ok (.if_icmp .eq 41, 3) := by decide +kernel
theorem dX8_matchByTurns_133 : decode cX8_matchByTurns 133 = .ok (.aload_n 0, 1) := by decide +kernel
theorem dX8_matchByTurns_134 : decode cX8_matchByTurns 134 = .ok (.getfield 89, 3) := by decide +kernel
theorem dX8_matchByTurns_137 : decode cX8_matchByTurns 137 = .ok (.iload_n 2, 1) := by decide +kernel
theorem dX8_matchByTurns_138 : decode cX8_matchByTurns 138 = .ok (.aload_n 0, 1) := by decide +kernel
theorem dX8_matchByTurns_139 : decode cX8_matchByTurns 139 = .ok (.getfield 98, 3) := by decide +kernel
theorem dX8_matchByTurns_142 : decode cX8_matchByTurns 142 = .ok (.iload_n 2, 1) := by decide +kernel
theorem dX8_matchByTurns_143 : decode cX8_matchByTurns 143 = .ok (.iaload, 1) := by decide +kernel
theorem dX8_matchByTurns_144 : decode cX8_matchByTurns 144 = .ok (.iconst 1, 1) := by decide +kernel
theorem dX8_matchByTurns_145 : decode cX8_matchByTurns 145 = .ok (.iadd, 1) := by decide +kernel
theorem dX8_matchByTurns_146 : decode cX8_matchByTurns 146 = .ok (.aload_n 0, 1) := by decide +kernel
theorem dX8_matchByTurns_147 : decode cX8_matchByTurns 147 = .ok (.getfield 77, 3) := by decide +kernel
theorem dX8_matchByTurns_150 : decode cX8_matchByTurns 150 = .ok (.irem, 1) := by decide +kernel
theorem dX8_matchByTurns_151 : decode cX8_matchByTurns 151 = .ok (.iastore, 1) := by decide +kernel
theorem dX8_matchByTurns_152 : decode cX8_matchByTurns 152 = .ok (.aload_n 0, 1) := by decide +kernel
theorem dX8_matchByTurns_153 : decode cX8_matchByTurns 153 = .ok (.getfield 92, 3) := by decide +kernel
theorem dX8_matchByTurns_156 : decode cX8_matchByTurns 156 = .ok (.aload_n 0, 1) := by decide +kernel
theorem dX8_matchByTurns_157 : decode cX8_matchByTurns 157 = .ok (.getfield 98, 3) := by decide +kernel
theorem dX8_matchByTurns_160 : decode cX8_matchByTurns 160 = .ok (.iload_n 2, 1) := by decide +kernel
theorem dX8_matchByTurns_161 : decode cX8_matchByTurns 161 = .ok (.iaload, 1) := by decide +kernel
theorem dX8_matchByTurns_162 : decode cX8_matchByTurns 162 = .ok (.iload_n 2, 1) := by decide +kernel
theorem dX8_matchByTurns_163 : decode cX8_matchByTurns 163 = .ok (.iconst 1, 1) := by decide +kernel
theorem dX8_matchByTurns_164 : decode cX8_matchByTurns 164 = .ok (.iadd, 1) := by decide +kernel
theorem dX8_matchByTurns_165 : decode cX8_matchByTurns 165 = .ok (.aload_n 0, 1) := by decide +kernel
theorem dX8_matchByTurns_166 : decode cX8_matchByTurns 166 = .ok (.getfield 77, 3) := by decide +kernel
theorem dX8_matchByTurns_169 : decode cX8_matchByTurns 169 = .ok (.irem, 1) := by decide +kernel
theorem dX8_matchByTurns_170 : decode cX8_matchByTurns 170 = .ok (.iastore, 1) := by decide +kernel
theorem dX8_matchByTurns_171 : decode cX8_matchByTurns 171 = .ok (.iinc 2 1, 3) := by decide +kernel
theorem dX8_matchByTurns_174 : decode cX8_matchByTurns 174 = .ok (.goto (-125), 3) := by decide +kernel
theorem dX8_matchByTurns_177 : decode cX8_matchByTurns 177 = .ok (.iinc 1 1, 3) := by decide +kernel
theorem dX8_matchByTurns_180 : decode cX8_matchByTurns 180 = .ok (.goto (-178), 3) := by decide +kernel
theorem dX8_matchByTurns_183 : decode cX8_matchByTurns 183 = .ok (.return_, 1) := by decide +kernel
theorem dX8_matchCrosswise_0 : decode cX8_matchCrosswise 0 = .ok (.iconst 0, 1) := by decide +kernel
theorem dX8_matchCrosswise_1 : decode cX8_matchCrosswise 1 = .ok (.istore_n 1, 1) := by decide +kernel
theorem dX8_matchCrosswise_2 : decode cX8_matchCrosswise 2 = .ok (.iload_n 1, 1) := by decide +kernel
theorem dX8_matchCrosswise_3 : decode cX8_matchCrosswise 3 = .ok (.aload_n 0, 1) := by decide +kernel
theorem dX8_matchCrosswise_4 : decode cX8_matchCrosswise 4 = .ok (.getfield 77, 3) := by decide +kernel
theorem dX8_matchCrosswise_7 : decode cX8_matchCrosswise 7 = .ok (.if_icmp .ge 73, 3) := by decide +kernel
theorem dX8_matchCrosswise_10 : decode cX8_matchCrosswise 10 = .ok (.iconst 0, 1) := by decide +kernel
theorem dX8_matchCrosswise_11 : decode cX8_matchCrosswise 11 = .ok (.istore_n 2, 1) := by decide +kernel
theorem dX8_matchCrosswise_12 : decode cX8_matchCrosswise 12 = .ok (.iload_n 2, 1) := by decide +kernel
theorem dX8_matchCrosswise_13 : decode cX8_matchCrosswise 13 = .ok (.aload_n 0, 1) := by decide +kernel
theorem dX8_matchCrosswise_14 : decode cX8_matchCrosswise 14 = .ok (.getfield 77, 3) := by decide +kernel
theorem dX8_matchCrosswise_17 : decode cX8_matchCrosswise 17 = .ok (.if_icmp .ge 57, 3) := by decide +kernel
theorem dX8_matchCrosswise_20 : decode cX8_matchCrosswise 20 = .ok (.iload_n 2, 1) := by decide +kernel
theorem dX8_matchCrosswise_21 : decode cX8_matchCrosswise 21 = .ok (.iload_n 1, 1) := by decide +kernel
theorem dX8_matchCrosswise_22 : decode cX8_matchCrosswise 22 = .ok (.iadd, 1) := by decide +kernel
theorem dX8_matchCrosswise_23 : decode cX8_matchCrosswise 23 = .ok (.aload_n 0, 1) := by decide +kernel
theorem dX8_matchCrosswise_24 : decode cX8_matchCrosswise 24 = .ok (.getfield 77, 3) := by decide +kernel
theorem dX8_matchCrosswise_27 : decode cX8_matchCrosswise 27 = .ok (.irem, 1) := by decide +kernel
theorem dX8_matchCrosswise_28 : decode cX8_matchCrosswise 28 = .ok (.istore_n 3, 1) := by decide +kernel
theorem dX8_matchCrosswise_29 : decode cX8_matchCrosswise 29 = .ok (.aload_n 0, 1) := by decide +kernel
theorem dX8_matchCrosswise_30 : decode cX8_matchCrosswise 30 = .ok (.getfield 98, 3) := by decide +kernel
theorem dX8_matchCrosswise_33 : decode cX8_matchCrosswise 33 = .ok (.iload_n 2, 1) := by decide +kernel
theorem dX8_matchCrosswise_34 : decode cX8_matchCrosswise 34 = .ok (.iaload, 1) := by decide +kernel
theorem dX8_matchCrosswise_35 : decode cX8_matchCrosswise 35 = .ok (.bipush (-9), 2) := by decide +kernel
theorem dX8_matchCrosswise_37 : decode cX8_matchCrosswise 37 = .ok (.if_icmp .ne 31, 3) := by decide +kernel
theorem dX8_matchCrosswise_40 : decode cX8_matchCrosswise 40 = .ok (.aload_n 0, 1) := by decide +kernel
theorem dX8_matchCrosswise_41 : decode cX8_matchCrosswise 41 = .ok (.iload_n 3, 1) := by decide +kernel
theorem dX8_matchCrosswise_42 : decode cX8_matchCrosswise 42 = .ok (.invokevirtual 293, 3) := by decide +kernel
theorem dX8_matchCrosswise_45 : decode cX8_matchCrosswise 45 = .ok (.ifCond .ne 23, 3) := by decide +kernel
theorem dX8_matchCrosswise_48 : decode cX8_matchCrosswise 48 = .ok (.aload_n 0, 1) := by decide +kernel
theorem dX8_matchCrosswise_49 : decode cX8_matchCrosswise 49 = .ok (.getfield 86, 3) := by decide +kernel
theorem dX8_matchCrosswise_52 : decode cX8_matchCrosswise 52 = .ok (.iconst 5, 1) := by decide +kernel
theorem dX8_matchCrosswise_53 : decode cX8_matchCrosswise 53 = .ok (.iload_n 2, 1) := by decide +kernel
theorem dX8_matchCrosswise_54 : decode cX8_matchCrosswise 54 = .ok (.imul, 1) := by decide +kernel
theorem dX8_matchCrosswise_55 : decode cX8_matchCrosswise 55 = .ok (.iload_n 3, 1) := by decide +kernel
theorem dX8_matchCrosswise_56 : decode cX8_matchCrosswise 56 = .ok (.iadd, 1) := by decide +kernel
theorem dX8_matchCrosswise_57 : decode cX8_matchCrosswise 57 = .ok (.iaload, 1) := by decide +kernel
theorem dX8_matchCrosswise_58 : decode cX8_matchCrosswise 58 = .ok (.ifCond .le 10, 3) := by decide +kernel
theorem dX8_matchCrosswise_61 : decode cX8_matchCrosswise 61 = .ok (.aload_n 0, 1) := by decide +kernel
theorem dX8_matchCrosswise_62 : decode cX8_matchCrosswise 62 = .ok (.getfield 98, 3) := by decide +kernel
theorem dX8_matchCrosswise_65 : decode cX8_matchCrosswise 65 = .ok (.iload_n 2, 1) := by decide +kernel
theorem dX8_matchCrosswise_66 : decode cX8_matchCrosswise 66 = .ok (.iload_n 3, 1) := by decide +kernel
theorem dX8_matchCrosswise_67 : decode cX8_matchCrosswise 67 = .ok (.iastore, 1) := by decide +kernel
theorem dX8_matchCrosswise_68 : decode cX8_matchCrosswise 68 = .ok (.iinc 2 1, 3) := by decide +kernel
theorem dX8_matchCrosswise_71 : decode cX8_matchCrosswise 71 = .ok (.goto (-59), 3) := by decide +kernel
theorem dX8_matchCrosswise_74 : decode cX8_matchCrosswise 74 = .ok (.iinc 1 1, 3) := by decide +kernel
theorem dX8_matchCrosswise_77 : decode cX8_matchCrosswise 77 = .ok (.goto (-75), 3) := by decide +kernel
theorem dX8_matchCrosswise_80 : decode cX8_matchCrosswise 80 = .ok (.return_, 1) := by decide +kernel
theorem dX8_slot_0 : decode cX8_slot 0 = .ok (.aload_n 0, 1) := by decide +kernel
theorem dX8_slot_1 : decode cX8_slot 1 = .ok (.iconst 0, 1) := by decide +kernel
theorem dX8_slot_2 : decode cX8_slot 2 = .ok (.putfield 107, 3) := by decide +kernel
theorem dX8_slot_5 : decode cX8_slot 5 = .ok (.iload_n 2, 1) := by decide +kernel
theorem dX8_slot_6 : decode cX8_slot 6 = .ok (.invokestatic 191, 3) := by decide +kernel
theorem dX8_slot_9 : decode cX8_slot 9 = .ok (.ifCond .ne 5, 3) := by decide +kernel
theorem dX8_slot_12 : decode cX8_slot 12 = .ok (.iconst (-1), 1) := by decide +kernel
theorem dX8_slot_13 : decode cX8_slot 13 = .ok (.ireturn, 1) := by decide +kernel
theorem dX8_slot_14 : decode cX8_slot 14 = .ok (.iload_n 3, 1) := by decide +kernel
theorem dX8_slot_15 : decode cX8_slot 15 = .ok (.invokestatic 194, 3) := by decide +kernel
theorem dX8_slot_18 : decode cX8_slot 18 = .ok (.ifCond .eq 12, 3) := by decide +kernel
theorem dX8_slot_21 : decode cX8_slot 21 = .ok (.iload_n 1, 1) := by decide +kernel
theorem dX8_slot_22 : decode cX8_slot 22 = .ok (.iconst 0, 1) := by decide +kernel
theorem dX8_slot_23 : decode cX8_slot 23 = .ok (.iconst 2, 1) := by decide +kernel
theorem dX8_slot_24 : decode cX8_slot 24 = .ok (.invokestatic 116, 3) := by decide +kernel
theorem dX8_slot_27 : decode cX8_slot 27 = .ok (.ifCond .ne 6, 3) := by decide +kernel
theorem dX8_slot_30 : decode cX8_slot 30 = .ok (.bipush (-2), 2) := by decide +kernel
theorem dX8_slot_32 : decode cX8_slot 32 = .ok (.ireturn, 1) := by decide +kernel
theorem dX8_slot_33 : decode cX8_slot 33 = .ok (.aload_n 0, 1) := by decide +kernel
theorem dX8_slot_34 : decode cX8_slot 34 = .ok (.iload_n 2, 1) := by decide +kernel
theorem dX8_slot_35 : decode cX8_slot 35 = .ok (.iload_n 3, 1) := by decide +kernel
theorem dX8_slot_36 : decode cX8_slot 36 = .ok (.iload 4, 2) := by decide +kernel
theorem dX8_slot_38 : decode cX8_slot 38 = .ok (.aload_n 0, 1) := by decide +kernel
theorem dX8_slot_39 : decode cX8_slot 39 = .ok (.getfield 77, 3) := by decide +kernel
theorem dX8_slot_42 : decode cX8_slot 42 = .ok (.invokevirtual 197, 3) := by decide +kernel
theorem dX8_slot_45 : decode cX8_slot 45 = .ok (.istore 5, 2) := by decide +kernel
theorem dX8_slot_47 : decode cX8_slot 47 = .ok (.iload 5, 2) := by decide +kernel
theorem dX8_slot_49 : decode cX8_slot 49 = .ok (.ifCond .eq 6, 3) := by decide +kernel
theorem dX8_slot_52 : decode cX8_slot 52 = .ok (.iload 5, 2) := by decide +kernel
theorem dX8_slot_54 : decode cX8_slot 54 = .ok (.ireturn, 1) := by decide +kernel
theorem dX8_slot_55 : decode cX8_slot 55 = .ok (.bipush 60, 2) := by decide +kernel
theorem dX8_slot_57 : decode cX8_slot 57 = .ok (.iload_n 2, 1) := by decide +kernel
theorem dX8_slot_58 : decode cX8_slot 58 = .ok (.imul, 1) := by decide +kernel
theorem dX8_slot_59 : decode cX8_slot 59 = .ok (.iload 4, 2) := by decide +kernel
theorem dX8_slot_61 : decode cX8_slot 61 = .ok (.iadd, 1) := by decide +kernel
theorem dX8_slot_62 : decode cX8_slot 62 = .ok (.istore 6, 2) := by decide +kernel
theorem dX8_slot_64 : decode cX8_slot 64 = .ok (.iconst 0, 1) := by decide +kernel
theorem dX8_slot_65 : decode cX8_slot 65 = .ok (.istore 7, 2) := by decide +kernel
theorem dX8_slot_67 : decode cX8_slot 67 = .ok (.iload 7, 2) := by decide +kernel
theorem dX8_slot_69 : decode cX8_slot 69 = .ok (.aload_n 0, 1) := by decide +kernel
theorem dX8_slot_70 : decode cX8_slot 70 = .ok (.getfield 77, 3) := by decide +kernel
theorem dX8_slot_73 : decode cX8_slot 73 = .ok (.if_icmp .ge 35, 3) := by decide +kernel
theorem dX8_slot_76 : decode cX8_slot 76 = .ok (.aload_n 0, 1) := by decide +kernel
theorem dX8_slot_77 : decode cX8_slot 77 = .ok (.getfield 56, 3) := by decide +kernel
theorem dX8_slot_80 : decode cX8_slot 80 = .ok (.iload 6, 2) := by decide +kernel
theorem dX8_slot_82 : decode cX8_slot 82 = .ok (.iload 7, 2) := by decide +kernel
theorem dX8_slot_84 : decode cX8_slot 84 = .ok (.iadd, 1) := by decide +kernel
theorem dX8_slot_85 : decode cX8_slot 85 = .ok (.iaload, 1) := by decide +kernel
theorem dX8_slot_86 : decode cX8_slot 86 = .ok (.iconst (-1), 1) := by decide +kernel
theorem dX8_slot_87 : decode cX8_slot 87 = .ok (.aload_n 0, 1) := by decide +kernel
theorem dX8_slot_88 : decode cX8_slot 88 = .ok (.getfield 77, 3) := by decide +kernel
theorem dX8_slot_91 : decode cX8_slot 91 = .ok (.iconst 1, 1) := by decide +kernel
theorem dX8_slot_92 : decode cX8_slot 92 = .ok (.isub, 1) := by decide +kernel
theorem dX8_slot_93 : decode cX8_slot 93 = .ok (.invokestatic 116, 3) := by decide +kernel
theorem dX8_slot_96 : decode cX8_slot 96 = .ok (.ifCond .ne 6, 3) := by decide +kernel
theorem dX8_slot_99 : decode cX8_slot 99 = .ok (.bipush (-2), 2) := by decide +kernel
theorem dX8_slot_101 : decode cX8_slot 101 = .ok (.ireturn, 1) := by decide +kernel
theorem dX8_slot_102 : decode cX8_slot 102 = .ok (.iinc 7 1, 3) := by decide +kernel
theorem dX8_slot_105 : decode cX8_slot 105 = .ok (.goto (-38), 3) := by decide +kernel
theorem dX8_slot_108 : decode cX8_slot 108 = .ok (.iconst 0, 1) := by decide +kernel
theorem dX8_slot_109 : decode cX8_slot 109 = .ok (.istore 7, 2) := by decide +kernel
theorem dX8_slot_111 : decode cX8_slot 111 = .ok (.iload 7, 2) := by decide +kernel
theorem dX8_slot_113 : decode cX8_slot 113 = .ok (.aload_n 0, 1) := by decide +kernel
theorem dX8_slot_114 : decode cX8_slot 114 = .ok (.getfield 77, 3) := by decide +kernel
theorem dX8_slot_117 : decode cX8_slot 117 = .ok (.if_icmp .ge 51, 3) := by decide +kernel
theorem dX8_slot_120 : decode cX8_slot 120 = .ok (.aload_n 0, 1) := by decide +kernel
theorem dX8_slot_121 : decode cX8_slot 121 = .ok (.getfield 56, 3) := by decide +kernel
theorem dX8_slot_124 : decode cX8_slot 124 = .ok (.iload 6, 2) := by decide +kernel
theorem dX8_slot_126 : decode cX8_slot 126 = .ok (.iload 7, 2) := by decide +kernel
theorem dX8_slot_128 : decode cX8_slot 128 = .ok (.iadd, 1) := by decide +kernel
theorem dX8_slot_129 : decode cX8_slot 129 = .ok (.iaload, 1) := by decide +kernel
theorem dX8_slot_130 : decode cX8_slot 130 = .ok (.ifCond .lt 32, 3) := by decide +kernel
theorem dX8_slot_133 : decode cX8_slot 133 = .ok (.aload_n 0, 1) := by decide +kernel
theorem dX8_slot_134 : decode cX8_slot 134 = .ok (.getfield 86, 3) := by decide +kernel
theorem dX8_slot_137 : decode cX8_slot 137 = .ok (.iconst 5, 1) := by decide +kernel
theorem dX8_slot_138 : decode cX8_slot 138 = .ok (.iload 7, 2) := by decide +kernel
theorem dX8_slot_140 : decode cX8_slot 140 = .ok (.imul, 1) := by decide +kernel
theorem dX8_slot_141 : decode cX8_slot 141 = .ok (.aload_n 0, 1) := by decide +kernel
theorem dX8_slot_142 : decode cX8_slot 142 = .ok (.getfield 56, 3) := by decide +kernel
theorem dX8_slot_145 : decode cX8_slot 145 = .ok (.iload 6, 2) := by decide +kernel
theorem dX8_slot_147 : decode cX8_slot 147 = .ok (.iload 7, 2) := by decide +kernel
theorem dX8_slot_149 : decode cX8_slot 149 = .ok (.iadd, 1) := by decide +kernel
theorem dX8_slot_150 : decode cX8_slot 150 = .ok (.iaload, 1) := by decide +kernel
theorem dX8_slot_151 : decode cX8_slot 151 = .ok (.iadd, 1) := by decide +kernel
theorem dX8_slot_152 : decode cX8_slot 152 = .ok (.iaload, 1) := by decide +kernel
theorem dX8_slot_153 : decode cX8_slot 153 = .ok (.sipush 1000, 3) := by decide +kernel
theorem dX8_slot_156 : decode cX8_slot 156 = .ok (.if_icmp .ne 6, 3) := by decide +kernel
theorem dX8_slot_159 : decode cX8_slot 159 = .ok (.bipush (-4), 2) := by decide +kernel
theorem dX8_slot_161 : decode cX8_slot 161 = .ok (.ireturn, 1) := by decide +kernel
theorem dX8_slot_162 : decode cX8_slot 162 = .ok (.iinc 7 1, 3) := by decide +kernel
theorem dX8_slot_165 : decode cX8_slot 165 = .ok (.goto (-54), 3) := by decide +kernel
theorem dX8_slot_168 : decode cX8_slot 168 = .ok (.iconst 0, 1) := by decide +kernel
theorem dX8_slot_169 : decode cX8_slot 169 = .ok (.istore 7, 2) := by decide +kernel
theorem dX8_slot_171 : decode cX8_slot 171 = .ok (.iload 7, 2) := by decide +kernel
theorem dX8_slot_173 : decode cX8_slot 173 = .ok (.aload_n 0, 1) := by decide +kernel
theorem dX8_slot_174 : decode cX8_slot 174 = .ok (.getfield 77, 3) := by decide +kernel
theorem dX8_slot_177 : decode cX8_slot 177 = .ok (.if_icmp .ge 55, 3) := by decide +kernel
theorem dX8_slot_180 : decode cX8_slot 180 = .ok (.aload_n 0, 1) := by decide +kernel
theorem dX8_slot_181 : decode cX8_slot 181 = .ok (.getfield 56, 3) := by decide +kernel
theorem dX8_slot_184 : decode cX8_slot 184 = .ok (.iload 6, 2) := by decide +kernel
theorem dX8_slot_186 : decode cX8_slot 186 = .ok (.iload 7, 2) := by decide +kernel
theorem dX8_slot_188 : decode cX8_slot 188 = .ok (.iadd, 1) := by decide +kernel
theorem dX8_slot_189 : decode cX8_slot 189 = .ok (.iaload, 1) := by decide +kernel
theorem dX8_slot_190 : decode cX8_slot 190 = .ok (.ifCond .lt 27, 3) := by decide +kernel
theorem dX8_slot_193 : decode cX8_slot 193 = .ok (.aload_n 0, 1) := by decide +kernel
theorem dX8_slot_194 : decode cX8_slot 194 = .ok (.getfield 86, 3) := by decide +kernel
theorem dX8_slot_197 : decode cX8_slot 197 = .ok (.iconst 5, 1) := by decide +kernel
theorem dX8_slot_198 : decode cX8_slot 198 = .ok (.iload 7, 2) := by decide +kernel
theorem dX8_slot_200 : decode cX8_slot 200 = .ok (.imul, 1) := by decide +kernel
theorem dX8_slot_201 : decode cX8_slot 201 = .ok (.aload_n 0, 1) := by decide +kernel
theorem dX8_slot_202 : decode cX8_slot 202 = .ok (.getfield 56, 3) := by decide +kernel
theorem dX8_slot_205 : decode cX8_slot 205 = .ok (.iload 6, 2) := by decide +kernel
theorem dX8_slot_207 : decode cX8_slot 207 = .ok (.iload 7, 2) := by decide +kernel
theorem dX8_slot_209 : decode cX8_slot 209 = .ok (.iadd, 1) := by decide +kernel
theorem dX8_slot_210 : decode cX8_slot 210 = .ok (.iaload, 1) := by decide +kernel
theorem dX8_slot_211 : decode cX8_slot 211 = .ok (.iadd, 1) := by decide +kernel
theorem dX8_slot_212 : decode cX8_slot 212 = .ok (.dup2, 1) := by decide +kernel
theorem dX8_slot_213 : decode cX8_slot 213 = .ok (.iaload, 1) := by decide +kernel
theorem dX8_slot_214 : decode cX8_slot 214 = .ok (.iconst 1, 1) := by decide +kernel
theorem dX8_slot_215 : decode cX8_slot 215 = .ok (.iadd, 1) := by decide +kernel
theorem dX8_slot_216 : decode cX8_slot 216 = .ok (.iastore, 1) := by decide +kernel
theorem dX8_slot_217 : decode cX8_slot 217 = .ok (.aload_n 0, 1) := by decide +kernel
theorem dX8_slot_218 : decode cX8_slot 218 = .ok (.getfield 98, 3) := by decide +kernel
theorem dX8_slot_221 : decode cX8_slot 221 = .ok (.iload 7, 2) := by decide +kernel
theorem dX8_slot_223 : decode cX8_slot 223 = .ok (.bipush (-9), 2) := by decide +kernel
theorem dX8_slot_225 : decode cX8_slot 225 = .ok (.iastore, 1) := by decide +kernel
theorem dX8_slot_226 : decode cX8_slot 226 = .ok (.iinc 7 1, 3) := by decide +kernel
theorem dX8_slot_229 : decode cX8_slot 229 = .ok (.goto (-58), 3) := by decide +kernel
theorem dX8_slot_232 : decode cX8_slot 232 = .ok (.iload_n 1, 1) := by decide +kernel
theorem dX8_slot_233 : decode cX8_slot 233 = .ok (.ifCond .ne 10, 3) := by decide +kernel
theorem dX8_slot_236 : decode cX8_slot 236 = .ok (.aload_n 0, 1) := by decide +kernel
theorem dX8_slot_237 : decode cX8_slot 237 = .ok (.invokevirtual 299, 3) := by decide +kernel
theorem dX8_slot_240 : decode cX8_slot 240 = .ok (.goto 19, 3) := by decide +kernel
theorem dX8_slot_243 : decode cX8_slot 243 = .ok (.iload_n 1, 1) := by decide +kernel
theorem dX8_slot_244 : decode cX8_slot 244 = .ok (.iconst 1, 1) := by decide +kernel
theorem dX8_slot_245 : decode cX8_slot 245 = .ok (.if_icmp .ne 10, 3) := by decide +kernel
theorem dX8_slot_248 : decode cX8_slot 248 = .ok (.aload_n 0, 1) := by decide +kernel
theorem dX8_slot_249 : decode cX8_slot 249 = .ok (.invokevirtual 302, 3) := by decide +kernel
theorem dX8_slot_252 : decode cX8_slot 252 = .ok (.goto 7, 3) := by decide +kernel
theorem dX8_slot_255 : decode cX8_slot 255 = .ok (.aload_n 0, 1) := by decide +kernel
theorem dX8_slot_256 : decode cX8_slot 256 = .ok (.invokevirtual 305, 3) := by decide +kernel
theorem dX8_slot_259 : decode cX8_slot 259 = .ok (.iconst 0, 1) := by decide +kernel
theorem dX8_slot_260 : decode cX8_slot 260 = .ok (.istore 7, 2) := by decide +kernel
theorem dX8_slot_262 : decode cX8_slot 262 = .ok (.iconst 0, 1) := by decide +kernel
theorem dX8_slot_263 : decode cX8_slot 263 = .ok (.istore 8, 2) := by decide +kernel
theorem dX8_slot_265 : decode cX8_slot 265 = .ok (.iload 8, 2) := by decide +kernel
theorem dX8_slot_267 : decode cX8_slot 267 = .ok (.aload_n 0, 1) := by decide +kernel
theorem dX8_slot_268 : decode cX8_slot 268 = .ok (.getfield 77, 3) := by decide +kernel
theorem dX8_slot_271 : decode cX8_slot 271 = .ok (.if_icmp .ge 45, 3) := by decide +kernel
theorem dX8_slot_274 : decode cX8_slot 274 = .ok (.aload_n 0, 1) := by decide +kernel
theorem dX8_slot_275 : decode cX8_slot 275 = .ok (.getfield 98, 3) := by decide +kernel
theorem dX8_slot_278 : decode cX8_slot 278 = .ok (.iload 8, 2) := by decide +kernel
theorem dX8_slot_280 : decode cX8_slot 280 = .ok (.iaload, 1) := by decide +kernel
theorem dX8_slot_281 : decode cX8_slot 281 = .ok (.bipush (-9), 2) := by decide +kernel
theorem dX8_slot_283 : decode cX8_slot 283 = .ok (.if_icmp .eq 27, 3) := by decide +kernel
theorem dX8_slot_286 : decode cX8_slot 286 = .ok (.aload_n 0, 1) := by decide +kernel
theorem dX8_slot_287 : decode cX8_slot 287 = .ok (.getfield 86, 3) := by decide +kernel
theorem dX8_slot_290 : decode cX8_slot 290 = .ok (.iconst 5, 1) := by decide +kernel
theorem dX8_slot_291 : decode cX8_slot 291 = .ok (.iload 8, 2) := by decide +kernel
theorem dX8_slot_293 : decode cX8_slot 293 = .ok (.imul, 1) := by decide +kernel
theorem dX8_slot_294 : decode cX8_slot 294 = .ok (.aload_n 0, 1) := by decide +kernel
theorem dX8_slot_295 : decode cX8_slot 295 = .ok (.getfield 98, 3) := by decide +kernel
theorem dX8_slot_298 : decode cX8_slot 298 = .ok (.iload 8, 2) := by decide +kernel
theorem dX8_slot_300 : decode cX8_slot 300 = .ok (.iaload, 1) := by decide +kernel
theorem dX8_slot_301 : decode cX8_slot 301 = .ok (.iadd, 1) := by decide +kernel
theorem dX8_slot_302 : decode cX8_slot 302 = .ok (.dup2, 1) := by decide +kernel
theorem dX8_slot_303 : decode cX8_slot 303 = .ok (.iaload, 1) := by decide +kernel
theorem dX8_slot_304 : decode cX8_slot 304 = .ok (.iconst 1, 1) := by decide +kernel
theorem dX8_slot_305 : decode cX8_slot 305 = .ok (.isub, 1) := by decide +kernel
theorem dX8_slot_306 : decode cX8_slot 306 = .ok (.iastore, 1) := by decide +kernel
theorem dX8_slot_307 : decode cX8_slot 307 = .ok (.iinc 7 1, 3) := by decide +kernel
theorem dX8_slot_310 : decode cX8_slot 310 = .ok (.iinc 8 1, 3) := by decide +kernel
theorem dX8_slot_313 : decode cX8_slot 313 = .ok (.goto (-48), 3) := by decide +kernel
theorem dX8_slot_316 : decode cX8_slot 316 = .ok (.iload 7, 2) := by decide +kernel
theorem dX8_slot_318 : decode cX8_slot 318 = .ok (.ireturn, 1) := by decide +kernel
theorem dX8_queue_0 : decode cX8_queue 0 = .ok (.iload_n 3, 1) := by decide +kernel
theorem dX8_queue_1 : decode cX8_queue 1 = .ok (.iconst 0, 1) := by decide +kernel
theorem dX8_queue_2 : decode cX8_queue 2 = .ok (.iconst 3, 1) := by decide +kernel
theorem dX8_queue_3 : decode cX8_queue 3 = .ok (.invokestatic 116, 3) := by decide +kernel
theorem dX8_queue_6 : decode cX8_queue 6 = .ok (.ifCond .ne 6, 3) := by decide +kernel
theorem dX8_queue_9 : decode cX8_queue 9 = .ok (.bipush (-2), 2) := by decide +kernel
theorem dX8_queue_11 : decode cX8_queue 11 = .ok (.ireturn, 1) := by decide +kernel
theorem dX8_queue_12 : decode cX8_queue 12 = .ok (.aload_n 0, 1) := by decide +kernel
theorem dX8_queue_13 : decode cX8_queue 13 = .ok (.iload_n 1, 1) := by decide +kernel
theorem dX8_queue_14 : decode cX8_queue 14 = .ok (.invokevirtual 258, 3) := by decide +kernel
theorem dX8_queue_17 : decode cX8_queue 17 = .ok (.ifCond .eq 15, 3) := by decide +kernel
theorem dX8_queue_20 : decode cX8_queue 20 = .ok (.iload_n 3, 1) := by decide +kernel
theorem dX8_queue_21 : decode cX8_queue 21 = .ok (.ifCond .ne 13, 3) := by decide +kernel
theorem dX8_queue_24 : decode cX8_queue 24 = .ok (.aload_n 0, 1) := by decide +kernel
theorem dX8_queue_25 : decode cX8_queue 25 = .ok (.iload_n 2, 1) := by decide +kernel
theorem dX8_queue_26 : decode cX8_queue 26 = .ok (.invokevirtual 258, 3) := by decide +kernel
theorem dX8_queue_29 : decode cX8_queue 29 = .ok (.ifCond .ne 5, 3) := by decide +kernel
theorem dX8_queue_32 : decode cX8_queue 32 = .ok (.iconst (-1), 1) := by decide +kernel
theorem dX8_queue_33 : decode cX8_queue 33 = .ok (.ireturn, 1) := by decide +kernel
theorem dX8_queue_34 : decode cX8_queue 34 = .ok (.iload_n 3, 1) := by decide +kernel
theorem dX8_queue_35 : decode cX8_queue 35 = .ok (.tableswitch 50 0 2 #[25, 36, 43], 25) := by decide +kernel
theorem dX8_queue_60 : decode cX8_queue 60 = .ok (.aload_n 0, 1) := by decide +kernel
theorem dX8_queue_61 : decode cX8_queue 61 = .ok (.getfield 86, 3) := by decide +kernel
theorem dX8_queue_64 : decode cX8_queue 64 = .ok (.iconst 5, 1) := by decide +kernel
theorem dX8_queue_65 : decode cX8_queue 65 = .ok (.iload_n 1, 1) := by decide +kernel
theorem dX8_queue_66 : decode cX8_queue 66 = .ok (.imul, 1) := by decide +kernel
theorem dX8_queue_67 : decode cX8_queue 67 = .ok (.iload_n 2, 1) := by decide +kernel
theorem dX8_queue_68 : decode cX8_queue 68 = .ok (.iadd, 1) := by decide +kernel
theorem dX8_queue_69 : decode cX8_queue 69 = .ok (.iaload, 1) := by decide +kernel
theorem dX8_queue_70 : decode cX8_queue 70 = .ok (.ireturn, 1) := by decide +kernel
theorem dX8_queue_71 : decode cX8_queue 71 = .ok (.aload_n 0, 1) := by decide +kernel
theorem dX8_queue_72 : decode cX8_queue 72 = .ok (.getfield 98, 3) := by decide +kernel
theorem dX8_queue_75 : decode cX8_queue 75 = .ok (.iload_n 1, 1) := by decide +kernel
theorem dX8_queue_76 : decode cX8_queue 76 = .ok (.iaload, 1) := by decide +kernel
theorem dX8_queue_77 : decode cX8_queue 77 = .ok (.ireturn, 1) := by decide +kernel
theorem dX8_queue_78 : decode cX8_queue 78 = .ok (.aload_n 0, 1) := by decide +kernel
theorem dX8_queue_79 : decode cX8_queue 79 = .ok (.getfield 89, 3) := by decide +kernel
theorem dX8_queue_82 : decode cX8_queue 82 = .ok (.iload_n 1, 1) := by decide +kernel
theorem dX8_queue_83 : decode cX8_queue 83 = .ok (.iaload, 1) := by decide +kernel
theorem dX8_queue_84 : decode cX8_queue 84 = .ok (.ireturn, 1) := by decide +kernel
theorem dX8_queue_85 : decode cX8_queue 85 = .ok (.aload_n 0, 1) := by decide +kernel
theorem dX8_queue_86 : decode cX8_queue 86 = .ok (.getfield 92, 3) := by decide +kernel
theorem dX8_queue_89 : decode cX8_queue 89 = .ok (.iload_n 1, 1) := by decide +kernel
theorem dX8_queue_90 : decode cX8_queue 90 = .ok (.iaload, 1) := by decide +kernel
theorem dX8_queue_91 : decode cX8_queue 91 = .ok (.ireturn, 1) := by decide +kernel
theorem dX8_waiting_0 : decode cX8_waiting 0 = .ok (.iconst 0, 1) := by decide +kernel
theorem dX8_waiting_1 : decode cX8_waiting 1 = .ok (.istore_n 1, 1) := by decide +kernel
theorem dX8_waiting_2 : decode cX8_waiting 2 = .ok (.iconst 0, 1) := by decide +kernel
theorem dX8_waiting_3 : decode cX8_waiting 3 = .ok (.istore_n 2, 1) := by decide +kernel
theorem dX8_waiting_4 : decode cX8_waiting 4 = .ok (.iload_n 2, 1) := by decide +kernel
theorem dX8_waiting_5 : decode cX8_waiting 5 = .ok (.bipush 25, 2) := by decide +kernel
theorem dX8_waiting_7 : decode cX8_waiting 7 = .ok (.if_icmp .ge 18, 3) := by decide +kernel
theorem dX8_waiting_10 : decode cX8_waiting 10 = .ok (.iload_n 1, 1) := by decide +kernel
theorem dX8_waiting_11 : decode cX8_waiting 11 = .ok (.aload_n 0, 1) := by decide +kernel
theorem dX8_waiting_12 : decode cX8_waiting 12 = .ok (.getfield 86, 3) := by decide +kernel
theorem dX8_waiting_15 : decode cX8_waiting 15 = .ok (.iload_n 2, 1) := by decide +kernel
theorem dX8_waiting_16 : decode cX8_waiting 16 = .ok (.iaload, 1) := by decide +kernel
theorem dX8_waiting_17 : decode cX8_waiting 17 = .ok (.iadd, 1) := by decide +kernel
theorem dX8_waiting_18 : decode cX8_waiting 18 = .ok (.istore_n 1, 1) := by decide +kernel
theorem dX8_waiting_19 : decode cX8_waiting 19 = .ok (.iinc 2 1, 3) := by decide +kernel
theorem dX8_waiting_22 : decode cX8_waiting 22 = .ok (.goto (-18), 3) := by decide +kernel
theorem dX8_waiting_25 : decode cX8_waiting 25 = .ok (.iload_n 1, 1) := by decide +kernel
theorem dX8_waiting_26 : decode cX8_waiting 26 = .ok (.ireturn, 1) := by decide +kernel
theorem dX8_lost_0 : decode cX8_lost 0 = .ok (.iload_n 2, 1) := by decide +kernel
theorem dX8_lost_1 : decode cX8_lost 1 = .ok (.iconst 1, 1) := by decide +kernel
theorem dX8_lost_2 : decode cX8_lost 2 = .ok (.bipush 20, 2) := by decide +kernel
theorem dX8_lost_4 : decode cX8_lost 4 = .ok (.invokestatic 116, 3) := by decide +kernel
theorem dX8_lost_7 : decode cX8_lost 7 = .ok (.ifCond .eq 21, 3) := by decide +kernel
theorem dX8_lost_10 : decode cX8_lost 10 = .ok (.iload_n 1, 1) := by decide +kernel
theorem dX8_lost_11 : decode cX8_lost 11 = .ok (.iconst 0, 1) := by decide +kernel
theorem dX8_lost_12 : decode cX8_lost 12 = .ok (.iload_n 2, 1) := by decide +kernel
theorem dX8_lost_13 : decode cX8_lost 13 = .ok (.invokestatic 116, 3) := by decide +kernel
theorem dX8_lost_16 : decode cX8_lost 16 = .ok (.ifCond .eq 12, 3) := by decide +kernel
theorem dX8_lost_19 : decode cX8_lost 19 = .ok (.iload_n 3, 1) := by decide +kernel
theorem dX8_lost_20 : decode cX8_lost 20 = .ok (.iconst 0, 1) := by decide +kernel
theorem dX8_lost_21 : decode cX8_lost 21 = .ok (.iconst 1, 1) := by decide +kernel
theorem dX8_lost_22 : decode cX8_lost 22 = .ok (.invokestatic 116, 3) := by decide +kernel
theorem dX8_lost_25 : decode cX8_lost 25 = .ok (.ifCond .ne 7, 3) := by decide +kernel
theorem dX8_lost_28 : decode cX8_lost 28 = .ok (.ldc2_w 110, 3) := by decide +kernel
theorem dX8_lost_31 : decode cX8_lost 31 = .ok (.lreturn, 1) := by decide +kernel
theorem dX8_lost_32 : decode cX8_lost 32 = .ok (.lconst 1, 1) := by decide +kernel
theorem dX8_lost_33 : decode cX8_lost 33 = .ok (.lstore 4, 2) := by decide +kernel
theorem dX8_lost_35 : decode cX8_lost 35 = .ok (.lconst 1, 1) := by decide +kernel
theorem dX8_lost_36 : decode cX8_lost 36 = .ok (.lstore 6, 2) := by decide +kernel
theorem dX8_lost_38 : decode cX8_lost 38 = .ok (.iconst 0, 1) := by decide +kernel
theorem dX8_lost_39 : decode cX8_lost 39 = .ok (.istore 8, 2) := by decide +kernel
theorem dX8_lost_41 : decode cX8_lost 41 = .ok (.iload 8, 2) := by decide +kernel
theorem dX8_lost_43 : decode cX8_lost 43 = .ok (.aload_n 0, 1) := by decide +kernel
theorem dX8_lost_44 : decode cX8_lost 44 = .ok (.getfield 16, 3) := by decide +kernel
theorem dX8_lost_47 : decode cX8_lost 47 = .ok (.if_icmp .ge 38, 3) := by decide +kernel
theorem dX8_lost_50 : decode cX8_lost 50 = .ok (.lload 4, 2) := by decide +kernel
theorem dX8_lost_52 : decode cX8_lost 52 = .ok (.iload_n 2, 1) := by decide +kernel
theorem dX8_lost_53 : decode cX8_lost 53 = .ok (.i2l, 1) := by decide +kernel
theorem dX8_lost_54 : decode cX8_lost 54 = .ok (.iload_n 2, 1) := by decide +kernel
theorem dX8_lost_55 : decode cX8_lost 55 = .ok (.i2l, 1) := by decide +kernel
theorem dX8_lost_56 : decode cX8_lost 56 = .ok (.lmul, 1) := by decide +kernel
theorem dX8_lost_57 : decode cX8_lost 57 = .ok (.iload_n 2, 1) := by decide +kernel
theorem dX8_lost_58 : decode cX8_lost 58 = .ok (.iload_n 1, 1) := by decide +kernel
theorem dX8_lost_59 : decode cX8_lost 59 = .ok (.isub, 1) := by decide +kernel
theorem dX8_lost_60 : decode cX8_lost 60 = .ok (.iload_n 2, 1) := by decide +kernel
theorem dX8_lost_61 : decode cX8_lost 61 = .ok (.iload_n 1, 1) := by decide +kernel
theorem dX8_lost_62 : decode cX8_lost 62 = .ok (.isub, 1) := by decide +kernel
theorem dX8_lost_63 : decode cX8_lost 63 = .ok (.imul, 1) := by decide +kernel
theorem dX8_lost_64 : decode cX8_lost 64 = .ok (.i2l, 1) := by decide +kernel
theorem dX8_lost_65 : decode cX8_lost 65 = .ok (.lsub, 1) := by decide +kernel
theorem dX8_lost_66 : decode cX8_lost 66 = .ok (.lmul, 1) := by decide +kernel
theorem dX8_lost_67 : decode cX8_lost 67 = .ok (.lstore 4, 2) := by decide +kernel
theorem dX8_lost_69 : decode cX8_lost 69 = .ok (.lload 6, 2) := by decide +kernel
theorem dX8_lost_71 : decode cX8_lost 71 = .ok (.iload_n 2, 1) := by decide +kernel
theorem dX8_lost_72 : decode cX8_lost 72 = .ok (.i2l, 1) := by decide +kernel
theorem dX8_lost_73 : decode cX8_lost 73 = .ok (.iload_n 2, 1) := by decide +kernel
theorem dX8_lost_74 : decode cX8_lost 74 = .ok (.i2l, 1) := by decide +kernel
theorem dX8_lost_75 : decode cX8_lost 75 = .ok (.lmul, 1) := by decide +kernel
theorem dX8_lost_76 : decode cX8_lost 76 = .ok (.lmul, 1) := by decide +kernel
theorem dX8_lost_77 : decode cX8_lost 77 = .ok (.lstore 6, 2) := by decide +kernel
theorem dX8_lost_79 : decode cX8_lost 79 = .ok (.iinc 8 1, 3) := by decide +kernel
theorem dX8_lost_82 : decode cX8_lost 82 = .ok (.goto (-41), 3) := by decide +kernel
theorem dX8_lost_85 : decode cX8_lost 85 = .ok (.lload 4, 2) := by decide +kernel
theorem dX8_lost_87 : decode cX8_lost 87 = .ok (.lstore 8, 2) := by decide +kernel
theorem dX8_lost_89 : decode cX8_lost 89 = .ok (.lload 6, 2) := by decide +kernel
theorem dX8_lost_91 : decode cX8_lost 91 = .ok (.lstore 10, 2) := by decide +kernel
theorem dX8_lost_93 : decode cX8_lost 93 = .ok (.lload 10, 2) := by decide +kernel
theorem dX8_lost_95 : decode cX8_lost 95 = .ok (.lconst 0, 1) := by decide +kernel
theorem dX8_lost_96 : decode cX8_lost 96 = .ok (.lcmp, 1) := by decide +kernel
theorem dX8_lost_97 : decode cX8_lost 97 = .ok (.ifCond .eq 21, 3) := by decide +kernel
theorem dX8_lost_100 : decode cX8_lost 100 = .ok (.lload 8, 2) := by decide +kernel
theorem dX8_lost_102 : decode cX8_lost 102 = .ok (.lload 10, 2) := by decide +kernel
theorem dX8_lost_104 : decode cX8_lost 104 = .ok (.lrem, 1) := by decide +kernel
theorem dX8_lost_105 : decode cX8_lost 105 = .ok (.lstore 12, 2) := by decide +kernel
theorem dX8_lost_107 : decode cX8_lost 107 = .ok (.lload 10, 2) := by decide +kernel
theorem dX8_lost_109 : decode cX8_lost 109 = .ok (.lstore 8, 2) := by decide +kernel
theorem dX8_lost_111 : decode cX8_lost 111 = .ok (.lload 12, 2) := by decide +kernel
theorem dX8_lost_113 : decode cX8_lost 113 = .ok (.lstore 10, 2) := by decide +kernel
theorem dX8_lost_115 : decode cX8_lost 115 = .ok (.goto (-22), 3) := by decide +kernel
theorem dX8_lost_118 : decode cX8_lost 118 = .ok (.iload_n 3, 1) := by decide +kernel
theorem dX8_lost_119 : decode cX8_lost 119 = .ok (.ifCond .ne 11, 3) := by decide +kernel
theorem dX8_lost_122 : decode cX8_lost 122 = .ok (.lload 4, 2) := by decide +kernel
theorem dX8_lost_124 : decode cX8_lost 124 = .ok (.lload 8, 2) := by decide +kernel
theorem dX8_lost_126 : decode cX8_lost 126 = .ok (.ldiv, 1) := by decide +kernel
theorem dX8_lost_127 : decode cX8_lost 127 = .ok (.goto 8, 3) := by decide +kernel
theorem dX8_lost_130 : decode cX8_lost 130 = .ok (.lload 6, 2) := by decide +kernel
theorem dX8_lost_132 : decode cX8_lost 132 = .ok (.lload 8, 2) := by decide +kernel
theorem dX8_lost_134 : decode cX8_lost 134 = .ok (.ldiv, 1) := by decide +kernel
theorem dX8_lost_135 : decode cX8_lost 135 = .ok (.lreturn, 1) := by decide +kernel
theorem dX8_sheet_0 : decode cX8_sheet 0 = .ok (.aload_n 0, 1) := by decide +kernel
theorem dX8_sheet_1 : decode cX8_sheet 1 = .ok (.iconst 0, 1) := by decide +kernel
theorem dX8_sheet_2 : decode cX8_sheet 2 = .ok (.putfield 107, 3) := by decide +kernel
theorem dX8_sheet_5 : decode cX8_sheet 5 = .ok (.iload_n 1, 1) := by decide +kernel
theorem dX8_sheet_6 : decode cX8_sheet 6 = .ok (.invokestatic 191, 3) := by decide +kernel
theorem dX8_sheet_9 : decode cX8_sheet 9 = .ok (.ifCond .ne 5, 3) := by decide +kernel
theorem dX8_sheet_12 : decode cX8_sheet 12 = .ok (.iconst (-1), 1) := by decide +kernel
theorem dX8_sheet_13 : decode cX8_sheet 13 = .ok (.ireturn, 1) := by decide +kernel
theorem dX8_sheet_14 : decode cX8_sheet 14 = .ok (.iload_n 2, 1) := by decide +kernel
theorem dX8_sheet_15 : decode cX8_sheet 15 = .ok (.invokestatic 194, 3) := by decide +kernel
theorem dX8_sheet_18 : decode cX8_sheet 18 = .ok (.ifCond .eq 9, 3) := by decide +kernel
theorem dX8_sheet_21 : decode cX8_sheet 21 = .ok (.iload_n 3, 1) := by decide +kernel
theorem dX8_sheet_22 : decode cX8_sheet 22 = .ok (.bipush 60, 2) := by decide +kernel
theorem dX8_sheet_24 : decode cX8_sheet 24 = .ok (.if_icmp .le 6, 3) := by decide +kernel
theorem dX8_sheet_27 : decode cX8_sheet 27 = .ok (.bipush (-2), 2) := by decide +kernel
theorem dX8_sheet_29 : decode cX8_sheet 29 = .ok (.ireturn, 1) := by decide +kernel
theorem dX8_sheet_30 : decode cX8_sheet 30 = .ok (.iload_n 3, 1) := by decide +kernel
theorem dX8_sheet_31 : decode cX8_sheet 31 = .ok (.ifCond .ge 9, 3) := by decide +kernel
theorem dX8_sheet_34 : decode cX8_sheet 34 = .ok (.aload_n 0, 1) := by decide +kernel
theorem dX8_sheet_35 : decode cX8_sheet 35 = .ok (.iconst 4, 1) := by decide +kernel
theorem dX8_sheet_36 : decode cX8_sheet 36 = .ok (.invokevirtual 187, 3) := by decide +kernel
theorem dX8_sheet_39 : decode cX8_sheet 39 = .ok (.ireturn, 1) := by decide +kernel
theorem dX8_sheet_40 : decode cX8_sheet 40 = .ok (.aload_n 0, 1) := by decide +kernel
theorem dX8_sheet_41 : decode cX8_sheet 41 = .ok (.getfield 50, 3) := by decide +kernel
theorem dX8_sheet_44 : decode cX8_sheet 44 = .ok (.iload_n 1, 1) := by decide +kernel
theorem dX8_sheet_45 : decode cX8_sheet 45 = .ok (.iload_n 2, 1) := by decide +kernel
theorem dX8_sheet_46 : decode cX8_sheet 46 = .ok (.iastore, 1) := by decide +kernel
theorem dX8_sheet_47 : decode cX8_sheet 47 = .ok (.aload_n 0, 1) := by decide +kernel
theorem dX8_sheet_48 : decode cX8_sheet 48 = .ok (.getfield 53, 3) := by decide +kernel
theorem dX8_sheet_51 : decode cX8_sheet 51 = .ok (.iload_n 1, 1) := by decide +kernel
theorem dX8_sheet_52 : decode cX8_sheet 52 = .ok (.iload_n 3, 1) := by decide +kernel
theorem dX8_sheet_53 : decode cX8_sheet 53 = .ok (.iastore, 1) := by decide +kernel
theorem dX8_sheet_54 : decode cX8_sheet 54 = .ok (.iconst 0, 1) := by decide +kernel
theorem dX8_sheet_55 : decode cX8_sheet 55 = .ok (.istore 4, 2) := by decide +kernel
theorem dX8_sheet_57 : decode cX8_sheet 57 = .ok (.iload 4, 2) := by decide +kernel
theorem dX8_sheet_59 : decode cX8_sheet 59 = .ok (.bipush 60, 2) := by decide +kernel
theorem dX8_sheet_61 : decode cX8_sheet 61 = .ok (.if_icmp .ge 22, 3) := by decide +kernel
theorem dX8_sheet_64 : decode cX8_sheet 64 = .ok (.aload_n 0, 1) := by decide +kernel
theorem dX8_sheet_65 : decode cX8_sheet 65 = .ok (.getfield 56, 3) := by decide +kernel
theorem dX8_sheet_68 : decode cX8_sheet 68 = .ok (.bipush 60, 2) := by decide +kernel
theorem dX8_sheet_70 : decode cX8_sheet 70 = .ok (.iload_n 1, 1) := by decide +kernel
theorem dX8_sheet_71 : decode cX8_sheet 71 = .ok (.imul, 1) := by decide +kernel
theorem dX8_sheet_72 : decode cX8_sheet 72 = .ok (.iload 4, 2) := by decide +kernel
theorem dX8_sheet_74 : decode cX8_sheet 74 = .ok (.iadd, 1) := by decide +kernel
theorem dX8_sheet_75 : decode cX8_sheet 75 = .ok (.iconst 0, 1) := by decide +kernel
theorem dX8_sheet_76 : decode cX8_sheet 76 = .ok (.iastore, 1) := by decide +kernel
theorem dX8_sheet_77 : decode cX8_sheet 77 = .ok (.iinc 4 1, 3) := by decide +kernel
theorem dX8_sheet_80 : decode cX8_sheet 80 = .ok (.goto (-23), 3) := by decide +kernel
theorem dX8_sheet_83 : decode cX8_sheet 83 = .ok (.iconst 1, 1) := by decide +kernel
theorem dX8_sheet_84 : decode cX8_sheet 84 = .ok (.ireturn, 1) := by decide +kernel
theorem dX8_lose_0 : decode cX8_lose 0 = .ok (.iload_n 1, 1) := by decide +kernel
theorem dX8_lose_1 : decode cX8_lose 1 = .ok (.invokestatic 191, 3) := by decide +kernel
theorem dX8_lose_4 : decode cX8_lose 4 = .ok (.ifCond .ne 5, 3) := by decide +kernel
theorem dX8_lose_7 : decode cX8_lose 7 = .ok (.iconst (-1), 1) := by decide +kernel
theorem dX8_lose_8 : decode cX8_lose 8 = .ok (.ireturn, 1) := by decide +kernel
theorem dX8_lose_9 : decode cX8_lose 9 = .ok (.aload_n 0, 1) := by decide +kernel
theorem dX8_lose_10 : decode cX8_lose 10 = .ok (.getfield 50, 3) := by decide +kernel
theorem dX8_lose_13 : decode cX8_lose 13 = .ok (.iload_n 1, 1) := by decide +kernel
theorem dX8_lose_14 : decode cX8_lose 14 = .ok (.iaload, 1) := by decide +kernel
theorem dX8_lose_15 : decode cX8_lose 15 = .ok (.bipush (-9), 2) := by decide +kernel
theorem dX8_lose_17 : decode cX8_lose 17 = .ok (.if_icmp .ne 7, 3) := by decide +kernel
theorem dX8_lose_20 : decode cX8_lose 20 = .ok (.iconst 0, 1) := by decide +kernel
theorem dX8_lose_21 : decode cX8_lose 21 = .ok (.goto 4, 3) := by decide +kernel
theorem dX8_lose_24 : decode cX8_lose 24 = .ok (.iconst 1, 1) := by decide +kernel
theorem dX8_lose_25 : decode cX8_lose 25 = .ok (.istore_n 2, 1) := by decide +kernel
theorem dX8_lose_26 : decode cX8_lose 26 = .ok (.aload_n 0, 1) := by decide +kernel
theorem dX8_lose_27 : decode cX8_lose 27 = .ok (.getfield 50, 3) := by decide +kernel
theorem dX8_lose_30 : decode cX8_lose 30 = .ok (.iload_n 1, 1) := by decide +kernel
theorem dX8_lose_31 : decode cX8_lose 31 = .ok (.bipush (-9), 2) := by decide +kernel
theorem dX8_lose_33 : decode cX8_lose 33 = .ok (.iastore, 1) := by decide +kernel
theorem dX8_lose_34 : decode cX8_lose 34 = .ok (.iload_n 2, 1) := by decide +kernel
theorem dX8_lose_35 : decode cX8_lose 35 = .ok (.ireturn, 1) := by decide +kernel
theorem dX8_put_0 : decode cX8_put 0 = .ok (.aload_n 0, 1) := by decide +kernel
theorem dX8_put_1 : decode cX8_put 1 = .ok (.iconst 0, 1) := by decide +kernel
theorem dX8_put_2 : decode cX8_put 2 = .ok (.putfield 107, 3) := by decide +kernel
theorem dX8_put_5 : decode cX8_put 5 = .ok (.iload_n 1, 1) := by decide +kernel
theorem dX8_put_6 : decode cX8_put 6 = .ok (.invokestatic 191, 3) := by decide +kernel
theorem dX8_put_9 : decode cX8_put 9 = .ok (.ifCond .ne 5, 3) := by decide +kernel
theorem dX8_put_12 : decode cX8_put 12 = .ok (.iconst (-1), 1) := by decide +kernel
theorem dX8_put_13 : decode cX8_put 13 = .ok (.ireturn, 1) := by decide +kernel
theorem dX8_put_14 : decode cX8_put 14 = .ok (.aload_n 0, 1) := by decide +kernel
theorem dX8_put_15 : decode cX8_put 15 = .ok (.getfield 50, 3) := by decide +kernel
theorem dX8_put_18 : decode cX8_put 18 = .ok (.iload_n 1, 1) := by decide +kernel
theorem dX8_put_19 : decode cX8_put 19 = .ok (.iaload, 1) := by decide +kernel
theorem dX8_put_20 : decode cX8_put 20 = .ok (.bipush (-9), 2) := by decide +kernel
theorem dX8_put_22 : decode cX8_put 22 = .ok (.if_icmp .ne 9, 3) := by decide +kernel
theorem dX8_put_25 : decode cX8_put 25 = .ok (.aload_n 0, 1) := by decide +kernel
theorem dX8_put_26 : decode cX8_put 26 = .ok (.iconst 1, 1) := by decide +kernel
theorem dX8_put_27 : decode cX8_put 27 = .ok (.invokevirtual 187, 3) := by decide +kernel
theorem dX8_put_30 : decode cX8_put 30 = .ok (.ireturn, 1) := by decide +kernel
theorem dX8_put_31 : decode cX8_put 31 = .ok (.iload_n 2, 1) := by decide +kernel
theorem dX8_put_32 : decode cX8_put 32 = .ok (.iconst 0, 1) := by decide +kernel
theorem dX8_put_33 : decode cX8_put 33 = .ok (.aload_n 0, 1) := by decide +kernel
theorem dX8_put_34 : decode cX8_put 34 = .ok (.getfield 53, 3) := by decide +kernel
theorem dX8_put_37 : decode cX8_put 37 = .ok (.iload_n 1, 1) := by decide +kernel
theorem dX8_put_38 : decode cX8_put 38 = .ok (.iaload, 1) := by decide +kernel
theorem dX8_put_39 : decode cX8_put 39 = .ok (.iconst 1, 1) := by decide +kernel
theorem dX8_put_40 : decode cX8_put 40 = .ok (.isub, 1) := by decide +kernel
theorem dX8_put_41 : decode cX8_put 41 = .ok (.invokestatic 116, 3) := by decide +kernel
theorem dX8_put_44 : decode cX8_put 44 = .ok (.ifCond .ne 9, 3) := by decide +kernel
theorem dX8_put_47 : decode cX8_put 47 = .ok (.aload_n 0, 1) := by decide +kernel
theorem dX8_put_48 : decode cX8_put 48 = .ok (.iconst 3, 1) := by decide +kernel
theorem dX8_put_49 : decode cX8_put 49 = .ok (.invokevirtual 187, 3) := by decide +kernel
theorem dX8_put_52 : decode cX8_put 52 = .ok (.ireturn, 1) := by decide +kernel
theorem dX8_put_53 : decode cX8_put 53 = .ok (.aload_n 0, 1) := by decide +kernel
theorem dX8_put_54 : decode cX8_put 54 = .ok (.getfield 56, 3) := by decide +kernel
theorem dX8_put_57 : decode cX8_put 57 = .ok (.bipush 60, 2) := by decide +kernel
theorem dX8_put_59 : decode cX8_put 59 = .ok (.iload_n 1, 1) := by decide +kernel
theorem dX8_put_60 : decode cX8_put 60 = .ok (.imul, 1) := by decide +kernel
theorem dX8_put_61 : decode cX8_put 61 = .ok (.iload_n 2, 1) := by decide +kernel
theorem dX8_put_62 : decode cX8_put 62 = .ok (.iadd, 1) := by decide +kernel
theorem dX8_put_63 : decode cX8_put 63 = .ok (.aload_n 0, 1) := by decide +kernel
theorem dX8_put_64 : decode cX8_put 64 = .ok (.getfield 50, 3) := by decide +kernel
theorem dX8_put_67 : decode cX8_put 67 = .ok (.iload_n 1, 1) := by decide +kernel
theorem dX8_put_68 : decode cX8_put 68 = .ok (.iaload, 1) := by decide +kernel
theorem dX8_put_69 : decode cX8_put 69 = .ok (.ifCond .ne 8, 3) := by decide +kernel
theorem dX8_put_72 : decode cX8_put 72 = .ok (.iload_n 3, 1) := by decide +kernel
theorem dX8_put_73 : decode cX8_put 73 = .ok (.i2b, 1) := by decide +kernel
theorem dX8_put_74 : decode cX8_put 74 = .ok (.goto 19, 3) := by decide +kernel
theorem dX8_put_77 : decode cX8_put 77 = .ok (.aload_n 0, 1) := by decide +kernel
theorem dX8_put_78 : decode cX8_put 78 = .ok (.getfield 50, 3) := by decide +kernel
theorem dX8_put_81 : decode cX8_put 81 = .ok (.iload_n 1, 1) := by decide +kernel
theorem dX8_put_82 : decode cX8_put 82 = .ok (.iaload, 1) := by decide +kernel
theorem dX8_put_83 : decode cX8_put 83 = .ok (.iconst 1, 1) := by decide +kernel
theorem dX8_put_84 : decode cX8_put 84 = .ok (.if_icmp .ne 8, 3) := by decide +kernel
theorem dX8_put_87 : decode cX8_put 87 = .ok (.iload_n 3, 1) := by decide +kernel
theorem dX8_put_88 : decode cX8_put 88 = .ok (.i2s, 1) := by decide +kernel
theorem dX8_put_89 : decode cX8_put 89 = .ok (.goto 4, 3) := by decide +kernel
theorem dX8_put_92 : decode cX8_put 92 = .ok (.iload_n 3, 1) := by decide +kernel
theorem dX8_put_93 : decode cX8_put 93 = .ok (.iastore, 1) := by decide +kernel
theorem dX8_put_94 : decode cX8_put 94 = .ok (.iconst 1, 1) := by decide +kernel
theorem dX8_put_95 : decode cX8_put 95 = .ok (.ireturn, 1) := by decide +kernel
theorem dX8_cell_0 : decode cX8_cell 0 = .ok (.aload_n 0, 1) := by decide +kernel
theorem dX8_cell_1 : decode cX8_cell 1 = .ok (.iconst 0, 1) := by decide +kernel
theorem dX8_cell_2 : decode cX8_cell 2 = .ok (.putfield 107, 3) := by decide +kernel
theorem dX8_cell_5 : decode cX8_cell 5 = .ok (.iload_n 1, 1) := by decide +kernel
theorem dX8_cell_6 : decode cX8_cell 6 = .ok (.invokestatic 191, 3) := by decide +kernel
theorem dX8_cell_9 : decode cX8_cell 9 = .ok (.ifCond .eq 10, 3) := by decide +kernel
theorem dX8_cell_12 : decode cX8_cell 12 = .ok (.iload_n 3, 1) := by decide +kernel
theorem dX8_cell_13 : decode cX8_cell 13 = .ok (.invokestatic 194, 3) := by decide +kernel
theorem dX8_cell_16 : decode cX8_cell 16 = .ok (.ifCond .ne 7, 3) := by decide +kernel
theorem dX8_cell_19 : decode cX8_cell 19 = .ok (.ldc2_w 110, 3) := by decide +kernel
theorem dX8_cell_22 : decode cX8_cell 22 = .ok (.lreturn, 1) := by decide +kernel
theorem dX8_cell_23 : decode cX8_cell 23 = .ok (.aload_n 0, 1) := by decide +kernel
theorem dX8_cell_24 : decode cX8_cell 24 = .ok (.getfield 50, 3) := by decide +kernel
theorem dX8_cell_27 : decode cX8_cell 27 = .ok (.iload_n 1, 1) := by decide +kernel
theorem dX8_cell_28 : decode cX8_cell 28 = .ok (.iaload, 1) := by decide +kernel
theorem dX8_cell_29 : decode cX8_cell 29 = .ok (.bipush (-9), 2) := by decide +kernel
theorem dX8_cell_31 : decode cX8_cell 31 = .ok (.if_icmp .eq 19, 3) := by decide +kernel
theorem dX8_cell_34 : decode cX8_cell 34 = .ok (.aload_n 0, 1) := by decide +kernel
theorem dX8_cell_35 : decode cX8_cell 35 = .ok (.getfield 50, 3) := by decide +kernel
theorem dX8_cell_38 : decode cX8_cell 38 = .ok (.iload_n 1, 1) := by decide +kernel
theorem dX8_cell_39 : decode cX8_cell 39 = .ok (.iaload, 1) := by decide +kernel
theorem dX8_cell_40 : decode cX8_cell 40 = .ok (.iload_n 3, 1) := by decide +kernel
theorem dX8_cell_41 : decode cX8_cell 41 = .ok (.if_icmp .eq 9, 3) := by decide +kernel
theorem dX8_cell_44 : decode cX8_cell 44 = .ok (.aload_n 0, 1) := by decide +kernel
theorem dX8_cell_45 : decode cX8_cell 45 = .ok (.iconst 2, 1) := by decide +kernel
theorem dX8_cell_46 : decode cX8_cell 46 = .ok (.invokevirtual 308, 3) := by decide +kernel
theorem dX8_cell_49 : decode cX8_cell 49 = .ok (.lreturn, 1) := by decide +kernel
theorem dX8_cell_50 : decode cX8_cell 50 = .ok (.aload_n 0, 1) := by decide +kernel
theorem dX8_cell_51 : decode cX8_cell 51 = .ok (.getfield 50, 3) := by decide +kernel
theorem dX8_cell_54 : decode cX8_cell 54 = .ok (.iload_n 1, 1) := by decide +kernel
theorem dX8_cell_55 : decode cX8_cell 55 = .ok (.iaload, 1) := by decide +kernel
theorem dX8_cell_56 : decode cX8_cell 56 = .ok (.bipush (-9), 2) := by decide +kernel
theorem dX8_cell_58 : decode cX8_cell 58 = .ok (.if_icmp .ne 9, 3) := by decide +kernel
theorem dX8_cell_61 : decode cX8_cell 61 = .ok (.aload_n 0, 1) := by decide +kernel
theorem dX8_cell_62 : decode cX8_cell 62 = .ok (.iconst 1, 1) := by decide +kernel
theorem dX8_cell_63 : decode cX8_cell 63 = .ok (.invokevirtual 308, 3) := by decide +kernel
theorem dX8_cell_66 : decode cX8_cell 66 = .ok (.lreturn, 1) := by decide +kernel
theorem dX8_cell_67 : decode cX8_cell 67 = .ok (.iload_n 2, 1) := by decide +kernel
theorem dX8_cell_68 : decode cX8_cell 68 = .ok (.iconst 0, 1) := by decide +kernel
theorem dX8_cell_69 : decode cX8_cell 69 = .ok (.aload_n 0, 1) := by decide +kernel
theorem dX8_cell_70 : decode cX8_cell 70 = .ok (.getfield 53, 3) := by decide +kernel
theorem dX8_cell_73 : decode cX8_cell 73 = .ok (.iload_n 1, 1) := by decide +kernel
theorem dX8_cell_74 : decode cX8_cell 74 = .ok (.iaload, 1) := by decide +kernel
theorem dX8_cell_75 : decode cX8_cell 75 = .ok (.iconst 1, 1) := by decide +kernel
theorem dX8_cell_76 : decode cX8_cell 76 = .ok (.isub, 1) := by decide +kernel
theorem dX8_cell_77 : decode cX8_cell 77 = .ok (.invokestatic 116, 3) := by decide +kernel
theorem dX8_cell_80 : decode cX8_cell 80 = .ok (.ifCond .ne 9, 3) := by decide +kernel
theorem dX8_cell_83 : decode cX8_cell 83 = .ok (.aload_n 0, 1) := by decide +kernel
theorem dX8_cell_84 : decode cX8_cell 84 = .ok (.iconst 3, 1) := by decide +kernel
theorem dX8_cell_85 : decode cX8_cell 85 = .ok (.invokevirtual 308, 3) := by decide +kernel
theorem dX8_cell_88 : decode cX8_cell 88 = .ok (.lreturn, 1) := by decide +kernel
theorem dX8_cell_89 : decode cX8_cell 89 = .ok (.aload_n 0, 1) := by decide +kernel
theorem dX8_cell_90 : decode cX8_cell 90 = .ok (.getfield 56, 3) := by decide +kernel
theorem dX8_cell_93 : decode cX8_cell 93 = .ok (.bipush 60, 2) := by decide +kernel
theorem dX8_cell_95 : decode cX8_cell 95 = .ok (.iload_n 1, 1) := by decide +kernel
theorem dX8_cell_96 : decode cX8_cell 96 = .ok (.imul, 1) := by decide +kernel
theorem dX8_cell_97 : decode cX8_cell 97 = .ok (.iload_n 2, 1) := by decide +kernel
theorem dX8_cell_98 : decode cX8_cell 98 = .ok (.iadd, 1) := by decide +kernel
theorem dX8_cell_99 : decode cX8_cell 99 = .ok (.iaload, 1) := by decide +kernel
theorem dX8_cell_100 : decode cX8_cell 100 = .ok (.i2l, 1) := by decide +kernel
theorem dX8_cell_101 : decode cX8_cell 101 = .ok (.lreturn, 1) := by decide +kernel
theorem dX8_begins_0 : decode cX8_begins 0 = .ok (.aload_n 0, 1) := by decide +kernel
theorem dX8_begins_1 : decode cX8_begins 1 = .ok (.bipush 31, 2) := by decide +kernel
theorem dX8_begins_3 : decode cX8_begins 3 = .ok (.aload_n 0, 1) := by decide +kernel
theorem dX8_begins_4 : decode cX8_begins 4 = .ok (.getfield 312, 3) := by decide +kernel
theorem dX8_begins_7 : decode cX8_begins 7 = .ok (.imul, 1) := by decide +kernel
theorem dX8_begins_8 : decode cX8_begins 8 = .ok (.iload_n 1, 1) := by decide +kernel
theorem dX8_begins_9 : decode cX8_begins 9 = .ok (.iadd, 1) := by decide +kernel
theorem dX8_begins_10 : decode cX8_begins 10 = .ok (.putfield 312, 3) := by decide +kernel
theorem dX8_begins_13 : decode cX8_begins 13 = .ok (.return_, 1) := by decide +kernel
theorem dX8_tell_0 : decode cX8_tell 0 = .ok (.aload_n 0, 1) := by decide +kernel
theorem dX8_tell_1 : decode cX8_tell 1 = .ok (.iload_n 1, 1) := by decide +kernel
theorem dX8_tell_2 : decode cX8_tell 2 = .ok (.invokevirtual 252, 3) := by decide +kernel
theorem dX8_tell_5 : decode cX8_tell 5 = .ok (.ifCond .ne 5, 3) := by decide +kernel
theorem dX8_tell_8 : decode cX8_tell 8 = .ok (.iconst (-1), 1) := by decide +kernel
theorem dX8_tell_9 : decode cX8_tell 9 = .ok (.ireturn, 1) := by decide +kernel
theorem dX8_tell_10 : decode cX8_tell 10 = .ok (.aload_n 0, 1) := by decide +kernel
theorem dX8_tell_11 : decode cX8_tell 11 = .ok (.iload_n 1, 1) := by decide +kernel
theorem dX8_tell_12 : decode cX8_tell 12 = .ok (.invokevirtual 255, 3) := by decide +kernel
theorem dX8_tell_15 : decode cX8_tell 15 = .ok (.lookupswitch 85 #[(1, 25), (2, 49)], 25) := by decide +kernel
theorem dX8_tell_40 : decode cX8_tell 40 = .ok (.aload_n 0, 1) := by decide +kernel
theorem dX8_tell_41 : decode cX8_tell 41 = .ok (.iconst 2, 1) := by decide +kernel
theorem dX8_tell_42 : decode cX8_tell 42 = .ok (.invokevirtual 315, 3) := by decide +kernel
theorem dX8_tell_45 : decode cX8_tell 45 = .ok (.aload_n 0, 1) := by decide +kernel
theorem dX8_tell_46 : decode cX8_tell 46 = .ok (.iconst 1, 1) := by decide +kernel
theorem dX8_tell_47 : decode cX8_tell 47 = .ok (.invokevirtual 315, 3) := by decide +kernel
theorem dX8_tell_50 : decode cX8_tell 50 = .ok (.aload_n 0, 1) := by decide +kernel
theorem dX8_tell_51 : decode cX8_tell 51 = .ok (.getfield 65, 3) := by decide +kernel
theorem dX8_tell_54 : decode cX8_tell 54 = .ok (.iload_n 1, 1) := by decide +kernel
theorem dX8_tell_55 : decode cX8_tell 55 = .ok (.iaload, 1) := by decide +kernel
theorem dX8_tell_56 : decode cX8_tell 56 = .ok (.aload_n 0, 1) := by decide +kernel
theorem dX8_tell_57 : decode cX8_tell 57 = .ok (.getfield 68, 3) := by decide +kernel
theorem dX8_tell_60 : decode cX8_tell 60 = .ok (.iload_n 1, 1) := by decide +kernel
theorem dX8_tell_61 : decode cX8_tell 61 = .ok (.iaload, 1) := by decide +kernel
theorem dX8_tell_62 : decode cX8_tell 62 = .ok (.iadd, 1) := by decide +kernel
theorem dX8_tell_63 : decode cX8_tell 63 = .ok (.ireturn, 1) := by decide +kernel
theorem dX8_tell_64 : decode cX8_tell 64 = .ok (.aload_n 0, 1) := by decide +kernel
theorem dX8_tell_65 : decode cX8_tell 65 = .ok (.iconst 3, 1) := by decide +kernel
theorem dX8_tell_66 : decode cX8_tell 66 = .ok (.invokevirtual 315, 3) := by decide +kernel
theorem dX8_tell_69 : decode cX8_tell 69 = .ok (.aload_n 0, 1) := by decide +kernel
theorem dX8_tell_70 : decode cX8_tell 70 = .ok (.iconst 2, 1) := by decide +kernel
theorem dX8_tell_71 : decode cX8_tell 71 = .ok (.invokevirtual 315, 3) := by decide +kernel
theorem dX8_tell_74 : decode cX8_tell 74 = .ok (.aload_n 0, 1) := by decide +kernel
theorem dX8_tell_75 : decode cX8_tell 75 = .ok (.iconst 1, 1) := by decide +kernel
theorem dX8_tell_76 : decode cX8_tell 76 = .ok (.invokevirtual 315, 3) := by decide +kernel
theorem dX8_tell_79 : decode cX8_tell 79 = .ok (.aload_n 0, 1) := by decide +kernel
theorem dX8_tell_80 : decode cX8_tell 80 = .ok (.iconst 1, 1) := by decide +kernel
theorem dX8_tell_81 : decode cX8_tell 81 = .ok (.invokevirtual 315, 3) := by decide +kernel
theorem dX8_tell_84 : decode cX8_tell 84 = .ok (.iconst 2, 1) := by decide +kernel
theorem dX8_tell_85 : decode cX8_tell 85 = .ok (.aload_n 0, 1) := by decide +kernel
theorem dX8_tell_86 : decode cX8_tell 86 = .ok (.getfield 65, 3) := by decide +kernel
theorem dX8_tell_89 : decode cX8_tell 89 = .ok (.iload_n 1, 1) := by decide +kernel
theorem dX8_tell_90 : decode cX8_tell 90 = .ok (.iaload, 1) := by decide +kernel
theorem dX8_tell_91 : decode cX8_tell 91 = .ok (.imul, 1) := by decide +kernel
theorem dX8_tell_92 : decode cX8_tell 92 = .ok (.aload_n 0, 1) := by decide +kernel
theorem dX8_tell_93 : decode cX8_tell 93 = .ok (.getfield 68, 3) := by decide +kernel
theorem dX8_tell_96 : decode cX8_tell 96 = .ok (.iload_n 1, 1) := by decide +kernel
theorem dX8_tell_97 : decode cX8_tell 97 = .ok (.iaload, 1) := by decide +kernel
theorem dX8_tell_98 : decode cX8_tell 98 = .ok (.iadd, 1) := by decide +kernel
theorem dX8_tell_99 : decode cX8_tell 99 = .ok (.ireturn, 1) := by decide +kernel
theorem dX8_tell_100 : decode cX8_tell 100 = .ok (.aload_n 0, 1) := by decide +kernel
theorem dX8_tell_101 : decode cX8_tell 101 = .ok (.iconst 1, 1) := by decide +kernel
theorem dX8_tell_102 : decode cX8_tell 102 = .ok (.invokevirtual 315, 3) := by decide +kernel
theorem dX8_tell_105 : decode cX8_tell 105 = .ok (.aload_n 0, 1) := by decide +kernel
theorem dX8_tell_106 : decode cX8_tell 106 = .ok (.getfield 65, 3) := by decide +kernel
theorem dX8_tell_109 : decode cX8_tell 109 = .ok (.iload_n 1, 1) := by decide +kernel
theorem dX8_tell_110 : decode cX8_tell 110 = .ok (.iaload, 1) := by decide +kernel
theorem dX8_tell_111 : decode cX8_tell 111 = .ok (.ireturn, 1) := by decide +kernel
theorem dX8_show_0 : decode cX8_show 0 = .ok (.aload_n 0, 1) := by decide +kernel
theorem dX8_show_1 : decode cX8_show 1 = .ok (.iload_n 1, 1) := by decide +kernel
theorem dX8_show_2 : decode cX8_show 2 = .ok (.invokevirtual 252, 3) := by decide +kernel
theorem dX8_show_5 : decode cX8_show 5 = .ok (.ifCond .ne 5, 3) := by decide +kernel
theorem dX8_show_8 : decode cX8_show 8 = .ok (.iconst (-1), 1) := by decide +kernel
theorem dX8_show_9 : decode cX8_show 9 = .ok (.ireturn, 1) := by decide +kernel
theorem dX8_show_10 : decode cX8_show 10 = .ok (.aload_n 0, 1) := by decide +kernel
theorem dX8_show_11 : decode cX8_show 11 = .ok (.aload_n 0, 1) := by decide +kernel
theorem dX8_show_12 : decode cX8_show 12 = .ok (.iload_n 1, 1) := by decide +kernel
theorem dX8_show_13 : decode cX8_show 13 = .ok (.invokevirtual 255, 3) := by decide +kernel
theorem dX8_show_16 : decode cX8_show 16 = .ok (.iconst 2, 1) := by decide +kernel
theorem dX8_show_17 : decode cX8_show 17 = .ok (.if_icmp .ne 7, 3) := by decide +kernel
theorem dX8_show_20 : decode cX8_show 20 = .ok (.iconst 5, 1) := by decide +kernel
theorem dX8_show_21 : decode cX8_show 21 = .ok (.goto 4, 3) := by decide +kernel
theorem dX8_show_24 : decode cX8_show 24 = .ok (.iconst 4, 1) := by decide +kernel
theorem dX8_show_25 : decode cX8_show 25 = .ok (.invokevirtual 315, 3) := by decide +kernel
theorem dX8_show_28 : decode cX8_show 28 = .ok (.aload_n 0, 1) := by decide +kernel
theorem dX8_show_29 : decode cX8_show 29 = .ok (.iload_n 1, 1) := by decide +kernel
theorem dX8_show_30 : decode cX8_show 30 = .ok (.invokevirtual 255, 3) := by decide +kernel
theorem dX8_show_33 : decode cX8_show 33 = .ok (.iconst 2, 1) := by decide +kernel
theorem dX8_show_34 : decode cX8_show 34 = .ok (.if_icmp .ne 8, 3) := by decide +kernel
theorem dX8_show_37 : decode cX8_show 37 = .ok (.bipush 30, 2) := by decide +kernel
theorem dX8_show_39 : decode cX8_show 39 = .ok (.goto 4, 3) := by decide +kernel
theorem dX8_show_42 : decode cX8_show 42 = .ok (.iload_n 1, 1) := by decide +kernel
theorem dX8_show_43 : decode cX8_show 43 = .ok (.ireturn, 1) := by decide +kernel
theorem dX8_as_0 : decode cX8_as 0 = .ok (.aload_n 0, 1) := by decide +kernel
theorem dX8_as_1 : decode cX8_as 1 = .ok (.iconst 0, 1) := by decide +kernel
theorem dX8_as_2 : decode cX8_as 2 = .ok (.putfield 107, 3) := by decide +kernel
theorem dX8_as_5 : decode cX8_as 5 = .ok (.aload_n 0, 1) := by decide +kernel
theorem dX8_as_6 : decode cX8_as 6 = .ok (.iload_n 1, 1) := by decide +kernel
theorem dX8_as_7 : decode cX8_as 7 = .ok (.invokevirtual 252, 3) := by decide +kernel
theorem dX8_as_10 : decode cX8_as 10 = .ok (.ifCond .ne 5, 3) := by decide +kernel
theorem dX8_as_13 : decode cX8_as 13 = .ok (.iconst (-1), 1) := by decide +kernel
theorem dX8_as_14 : decode cX8_as 14 = .ok (.ireturn, 1) := by decide +kernel
theorem dX8_as_15 : decode cX8_as 15 = .ok (.iload_n 2, 1) := by decide +kernel
theorem dX8_as_16 : decode cX8_as 16 = .ok (.iconst 0, 1) := by decide +kernel
theorem dX8_as_17 : decode cX8_as 17 = .ok (.iconst 2, 1) := by decide +kernel
theorem dX8_as_18 : decode cX8_as 18 = .ok (.invokestatic 116, 3) := by decide +kernel
theorem dX8_as_21 : decode cX8_as 21 = .ok (.ifCond .ne 6, 3) := by decide +kernel
theorem dX8_as_24 : decode cX8_as 24 = .ok (.bipush (-2), 2) := by decide +kernel
theorem dX8_as_26 : decode cX8_as 26 = .ok (.ireturn, 1) := by decide +kernel
theorem dX8_as_27 : decode cX8_as 27 = .ok (.aload_n 0, 1) := by decide +kernel
theorem dX8_as_28 : decode cX8_as 28 = .ok (.iload_n 1, 1) := by decide +kernel
theorem dX8_as_29 : decode cX8_as 29 = .ok (.invokevirtual 255, 3) := by decide +kernel
theorem dX8_as_32 : decode cX8_as 32 = .ok (.iload_n 2, 1) := by decide +kernel
theorem dX8_as_33 : decode cX8_as 33 = .ok (.if_icmp .lt 7, 3) := by decide +kernel
theorem dX8_as_36 : decode cX8_as 36 = .ok (.iconst 1, 1) := by decide +kernel
theorem dX8_as_37 : decode cX8_as 37 = .ok (.goto 8, 3) := by decide +kernel
theorem dX8_as_40 : decode cX8_as 40 = .ok (.aload_n 0, 1) := by decide +kernel
theorem dX8_as_41 : decode cX8_as 41 = .ok (.iconst 2, 1) := by decide +kernel
theorem dX8_as_42 : decode cX8_as 42 = .ok (.invokevirtual 187, 3) := by decide +kernel
theorem dX8_as_45 : decode cX8_as 45 = .ok (.ireturn, 1) := by decide +kernel
theorem dX8_trace_0 : decode cX8_trace 0 = .ok (.aload_n 0, 1) := by decide +kernel
theorem dX8_trace_1 : decode cX8_trace 1 = .ok (.getfield 312, 3) := by decide +kernel
theorem dX8_trace_4 : decode cX8_trace 4 = .ok (.ireturn, 1) := by decide +kernel
theorem dX8_fault_0 : decode cX8_fault 0 = .ok (.aload_n 0, 1) := by decide +kernel
theorem dX8_fault_1 : decode cX8_fault 1 = .ok (.getfield 107, 3) := by decide +kernel
theorem dX8_fault_4 : decode cX8_fault 4 = .ok (.ireturn, 1) := by decide +kernel
theorem dX8_many_0 : decode cX8_many 0 = .ok (.iload_n 1, 1) := by decide +kernel
theorem dX8_many_1 : decode cX8_many 1 = .ok (.tableswitch 60 0 4 #[35, 40, 45, 50, 55], 35) := by decide +kernel
theorem dX8_many_36 : decode cX8_many 36 = .ok (.aload_n 0, 1) := by decide +kernel
theorem dX8_many_37 : decode cX8_many 37 = .ok (.invokevirtual 120, 3) := by decide +kernel
theorem dX8_many_40 : decode cX8_many 40 = .ok (.ireturn, 1) := by decide +kernel
theorem dX8_many_41 : decode cX8_many 41 = .ok (.aload_n 0, 1) := by decide +kernel
theorem dX8_many_42 : decode cX8_many 42 = .ok (.getfield 234, 3) := by decide +kernel
theorem dX8_many_45 : decode cX8_many 45 = .ok (.ireturn, 1) := by decide +kernel
theorem dX8_many_46 : decode cX8_many 46 = .ok (.aload_n 0, 1) := by decide +kernel
theorem dX8_many_47 : decode cX8_many 47 = .ok (.getfield 62, 3) := by decide +kernel
theorem dX8_many_50 : decode cX8_many 50 = .ok (.ireturn, 1) := by decide +kernel
theorem dX8_many_51 : decode cX8_many 51 = .ok (.aload_n 0, 1) := by decide +kernel
theorem dX8_many_52 : decode cX8_many 52 = .ok (.getfield 77, 3) := by decide +kernel
theorem dX8_many_55 : decode cX8_many 55 = .ok (.ireturn, 1) := by decide +kernel
theorem dX8_many_56 : decode cX8_many 56 = .ok (.aload_n 0, 1) := by decide +kernel
theorem dX8_many_57 : decode cX8_many 57 = .ok (.getfield 35, 3) := by decide +kernel
theorem dX8_many_60 : decode cX8_many 60 = .ok (.ireturn, 1) := by decide +kernel
theorem dX8_many_61 : decode cX8_many 61 = .ok (.bipush (-2), 2) := by decide +kernel
theorem dX8_many_63 : decode cX8_many 63 = .ok (.ireturn, 1) := by decide +kernel
