theorem dX8_links_22 : decode cX8_links 22 = .ok (.ifCond .ne 6, 3) := by decide +kernel
theorem dX8_links_25 : decode cX8_links 25 = .ok (.bipush (-2), 2) := by decide +kernel
theorem dX8_links_27 : decode cX8_links 27 = .ok (.ireturn, 1) := by decide +kernel
theorem dX8_links_28 : decode cX8_links 28 = .ok (.iconst 0, 1) := by decide +kernel
theorem dX8_links_29 : decode cX8_links 29 = .ok (.istore_n 3, 1) := by decide +kernel
theorem dX8_links_30 : decode cX8_links 30 = .ok (.iconst 0, 1) := by decide +kernel
theorem dX8_links_31 : decode cX8_links 31 = .ok (.istore 4, 2) := by decide +kernel
theorem dX8_links_33 : decode cX8_links 33 = .ok (.iload 4, 2) := by decide +kernel
theorem dX8_links_35 : decode cX8_links 35 = .ok (.aload_n 0, 1) := by decide +kernel
theorem dX8_links_36 : decode cX8_links 36 = .ok (.getfield 7, 3) := by decide +kernel
theorem dX8_links_39 : decode cX8_links 39 = .ok (.if_icmp .ge 46, 3) := by decide +kernel
theorem dX8_links_42 : decode cX8_links 42 = .ok (.iload_n 3, 1) := by decide +kernel
theorem dX8_links_43 : decode cX8_links 43 = .ok (.iload_n 2, 1) := by decide +kernel
theorem dX8_links_44 : decode cX8_links 44 = .ok (.ifCond .ne 13, 3) := by decide +kernel
theorem dX8_links_47 : decode cX8_links 47 = .ok (.aload_n 0, 1) := by decide +kernel
theorem dX8_links_48 : decode cX8_links 48 = .ok (.iload 4, 2) := by decide +kernel
theorem dX8_links_50 : decode cX8_links 50 = .ok (.iload_n 1, 1) := by decide +kernel
theorem dX8_links_51 : decode cX8_links 51 = .ok (.invokevirtual 131, 3) := by decide +kernel
theorem dX8_links_54 : decode cX8_links 54 = .ok (.goto 10, 3) := by decide +kernel
theorem dX8_links_57 : decode cX8_links 57 = .ok (.aload_n 0, 1) := by decide +kernel
theorem dX8_links_58 : decode cX8_links 58 = .ok (.iload 4, 2) := by decide +kernel
theorem dX8_links_60 : decode cX8_links 60 = .ok (.iload_n 1, 1) := by decide +kernel
theorem dX8_links_61 : decode cX8_links 61 = .ok (.invokevirtual 135, 3) := by decide +kernel
theorem dX8_links_64 : decode cX8_links 64 = .ok (.bipush (-9), 2) := by decide +kernel
theorem dX8_links_66 : decode cX8_links 66 = .ok (.if_icmp .ne 7, 3) := by decide +kernel
theorem dX8_links_69 : decode cX8_links 69 = .ok (.iconst 0, 1) := by decide +kernel
theorem dX8_links_70 : decode cX8_links 70 = .ok (.goto 7, 3) := by decide +kernel
theorem dX8_links_73 : decode cX8_links 73 = .ok (.iconst 1, 1) := by decide +kernel
theorem dX8_links_74 : decode cX8_links 74 = .ok (.iload 4, 2) := by decide +kernel
theorem dX8_links_76 : decode cX8_links 76 = .ok (.ishl, 1) := by decide +kernel
theorem dX8_links_77 : decode cX8_links 77 = .ok (.ior, 1) := by decide +kernel
theorem dX8_links_78 : decode cX8_links 78 = .ok (.istore_n 3, 1) := by decide +kernel
theorem dX8_links_79 : decode cX8_links 79 = .ok (.iinc 4 1, 3) := by decide +kernel
theorem dX8_links_82 : decode cX8_links 82 = .ok (.goto (-49), 3) := by decide +kernel
theorem dX8_links_85 : decode cX8_links 85 = .ok (.iload_n 3, 1) := by decide +kernel
theorem dX8_links_86 : decode cX8_links 86 = .ok (.ireturn, 1) := by decide +kernel
theorem dX8_wide_0 : decode cX8_wide 0 = .ok (.iconst 1, 1) := by decide +kernel
theorem dX8_wide_1 : decode cX8_wide 1 = .ok (.aload_n 0, 1) := by decide +kernel
theorem dX8_wide_2 : decode cX8_wide 2 = .ok (.getfield 35, 3) := by decide +kernel
theorem dX8_wide_5 : decode cX8_wide 5 = .ok (.ishl, 1) := by decide +kernel
theorem dX8_wide_6 : decode cX8_wide 6 = .ok (.ireturn, 1) := by decide +kernel
theorem dX8_halve_0 : decode cX8_halve 0 = .ok (.iload_n 3, 1) := by decide +kernel
theorem dX8_halve_1 : decode cX8_halve 1 = .ok (.iconst 2, 1) := by decide +kernel
theorem dX8_halve_2 : decode cX8_halve 2 = .ok (.idiv, 1) := by decide +kernel
theorem dX8_halve_3 : decode cX8_halve 3 = .ok (.istore 7, 2) := by decide +kernel
theorem dX8_halve_5 : decode cX8_halve 5 = .ok (.iconst 0, 1) := by decide +kernel
theorem dX8_halve_6 : decode cX8_halve 6 = .ok (.istore 8, 2) := by decide +kernel
theorem dX8_halve_8 : decode cX8_halve 8 = .ok (.aload_n 0, 1) := by decide +kernel
theorem dX8_halve_9 : decode cX8_halve 9 = .ok (.iconst 0, 1) := by decide +kernel
theorem dX8_halve_10 : decode cX8_halve 10 = .ok (.putfield 157, 3) := by decide +kernel
theorem dX8_halve_13 : decode cX8_halve 13 = .ok (.iconst 0, 1) := by decide +kernel
theorem dX8_halve_14 : decode cX8_halve 14 = .ok (.istore 9, 2) := by decide +kernel
theorem dX8_halve_16 : decode cX8_halve 16 = .ok (.iload 9, 2) := by decide +kernel
theorem dX8_halve_18 : decode cX8_halve 18 = .ok (.iload_n 3, 1) := by decide +kernel
theorem dX8_halve_19 : decode cX8_halve 19 = .ok (.if_icmp .ge 111, 3) := by decide +kernel
theorem dX8_halve_22 : decode cX8_halve 22 = .ok (.iload 4, 2) := by decide +kernel
theorem dX8_halve_24 : decode cX8_halve 24 = .ok (.iload 9, 2) := by decide +kernel
theorem dX8_halve_26 : decode cX8_halve 26 = .ok (.iconst 2, 1) := by decide +kernel
theorem dX8_halve_27 : decode cX8_halve 27 = .ok (.idiv, 1) := by decide +kernel
theorem dX8_halve_28 : decode cX8_halve 28 = .ok (.ishr, 1) := by decide +kernel
theorem dX8_halve_29 : decode cX8_halve 29 = .ok (.iconst 1, 1) := by decide +kernel
theorem dX8_halve_30 : decode cX8_halve 30 = .ok (.iand, 1) := by decide +kernel
theorem dX8_halve_31 : decode cX8_halve 31 = .ok (.iload 9, 2) := by decide +kernel
theorem dX8_halve_33 : decode cX8_halve 33 = .ok (.iconst 1, 1) := by decide +kernel
theorem dX8_halve_34 : decode cX8_halve 34 = .ok (.iand, 1) := by decide +kernel
theorem dX8_halve_35 : decode cX8_halve 35 = .ok (.ixor, 1) := by decide +kernel
theorem dX8_halve_36 : decode cX8_halve 36 = .ok (.istore 10, 2) := by decide +kernel
theorem dX8_halve_38 : decode cX8_halve 38 = .ok (.aload_n 1, 1) := by decide +kernel
theorem dX8_halve_39 : decode cX8_halve 39 = .ok (.iload_n 2, 1) := by decide +kernel
theorem dX8_halve_40 : decode cX8_halve 40 = .ok (.iload 9, 2) := by decide +kernel
theorem dX8_halve_42 : decode cX8_halve 42 = .ok (.iadd, 1) := by decide +kernel
theorem dX8_halve_43 : decode cX8_halve 43 = .ok (.iaload, 1) := by decide +kernel
theorem dX8_halve_44 : decode cX8_halve 44 = .ok (.istore 11, 2) := by decide +kernel
theorem dX8_halve_46 : decode cX8_halve 46 = .ok (.iconst 1, 1) := by decide +kernel
theorem dX8_halve_47 : decode cX8_halve 47 = .ok (.iconst 2, 1) := by decide +kernel
theorem dX8_halve_48 : decode cX8_halve 48 = .ok (.iload 11, 2) := by decide +kernel
theorem dX8_halve_50 : decode cX8_halve 50 = .ok (.iconst 2, 1) := by decide +kernel
theorem dX8_halve_51 : decode cX8_halve 51 = .ok (.idiv, 1) := by decide +kernel
theorem dX8_halve_52 : decode cX8_halve 52 = .ok (.imul, 1) := by decide +kernel
theorem dX8_halve_53 : decode cX8_halve 53 = .ok (.iload 10, 2) := by decide +kernel
theorem dX8_halve_55 : decode cX8_halve 55 = .ok (.iadd, 1) := by decide +kernel
theorem dX8_halve_56 : decode cX8_halve 56 = .ok (.ishl, 1) := by decide +kernel
theorem dX8_halve_57 : decode cX8_halve 57 = .ok (.istore 12, 2) := by decide +kernel
theorem dX8_halve_59 : decode cX8_halve 59 = .ok (.iload 8, 2) := by decide +kernel
theorem dX8_halve_61 : decode cX8_halve 61 = .ok (.iload 12, 2) := by decide +kernel
theorem dX8_halve_63 : decode cX8_halve 63 = .ok (.iand, 1) := by decide +kernel
theorem dX8_halve_64 : decode cX8_halve 64 = .ok (.ifCond .eq 5, 3) := by decide +kernel
theorem dX8_halve_67 : decode cX8_halve 67 = .ok (.iconst 0, 1) := by decide +kernel
theorem dX8_halve_68 : decode cX8_halve 68 = .ok (.ireturn, 1) := by decide +kernel
theorem dX8_halve_69 : decode cX8_halve 69 = .ok (.iload 8, 2) := by decide +kernel
theorem dX8_halve_71 : decode cX8_halve 71 = .ok (.iload 12, 2) := by decide +kernel
theorem dX8_halve_73 : decode cX8_halve 73 = .ok (.ior, 1) := by decide +kernel
theorem dX8_halve_74 : decode cX8_halve 74 = .ok (.istore 8, 2) := by decide +kernel
theorem dX8_halve_76 : decode cX8_halve 76 = .ok (.aload 5, 2) := by decide +kernel
theorem dX8_halve_78 : decode cX8_halve 78 = .ok (.iload 6, 2) := by decide +kernel
theorem dX8_halve_80 : decode cX8_halve 80 = .ok (.iload 7, 2) := by decide +kernel
theorem dX8_halve_82 : decode cX8_halve 82 = .ok (.iload 10, 2) := by decide +kernel
theorem dX8_halve_84 : decode cX8_halve 84 = .ok (.imul, 1) := by decide +kernel
theorem dX8_halve_85 : decode cX8_halve 85 = .ok (.iadd, 1) := by decide +kernel
theorem dX8_halve_86 : decode cX8_halve 86 = .ok (.iload 9, 2) := by decide +kernel
theorem dX8_halve_88 : decode cX8_halve 88 = .ok (.iconst 2, 1) := by decide +kernel
theorem dX8_halve_89 : decode cX8_halve 89 = .ok (.idiv, 1) := by decide +kernel
theorem dX8_halve_90 : decode cX8_halve 90 = .ok (.iadd, 1) := by decide +kernel
theorem dX8_halve_91 : decode cX8_halve 91 = .ok (.iload 11, 2) := by decide +kernel
theorem dX8_halve_93 : decode cX8_halve 93 = .ok (.iconst 2, 1) := by decide +kernel
theorem dX8_halve_94 : decode cX8_halve 94 = .ok (.idiv, 1) := by decide +kernel
theorem dX8_halve_95 : decode cX8_halve 95 = .ok (.iastore, 1) := by decide +kernel
theorem dX8_halve_96 : decode cX8_halve 96 = .ok (.aload_n 0, 1) := by decide +kernel
theorem dX8_halve_97 : decode cX8_halve 97 = .ok (.dup, 1) := by decide +kernel
theorem dX8_halve_98 : decode cX8_halve 98 = .ok (.getfield 157, 3) := by decide +kernel
theorem dX8_halve_101 : decode cX8_halve 101 = .ok (.iload 11, 2) := by decide +kernel
theorem dX8_halve_103 : decode cX8_halve 103 = .ok (.iconst 1, 1) := by decide +kernel
theorem dX8_halve_104 : decode cX8_halve 104 = .ok (.iand, 1) := by decide +kernel
theorem dX8_halve_105 : decode cX8_halve 105 = .ok (.iload 10, 2) := by decide +kernel
theorem dX8_halve_107 : decode cX8_halve 107 = .ok (.if_icmp .eq 12, 3) := by decide +kernel
theorem dX8_halve_110 : decode cX8_halve 110 = .ok (.iconst 1, 1) := by decide +kernel
theorem dX8_halve_111 : decode cX8_halve 111 = .ok (.iload 11, 2) := by decide +kernel
theorem dX8_halve_113 : decode cX8_halve 113 = .ok (.iconst 2, 1) := by decide +kernel
theorem dX8_halve_114 : decode cX8_halve 114 = .ok (.idiv, 1) := by decide +kernel
theorem dX8_halve_115 : decode cX8_halve 115 = .ok (.ishl, 1) := by decide +kernel
theorem dX8_halve_116 : decode cX8_halve 116 = .ok (.goto 4, 3) := by decide +kernel
theorem dX8_halve_119 : decode cX8_halve 119 = .ok (.iconst 0, 1) := by decide +kernel
theorem dX8_halve_120 : decode cX8_halve 120 = .ok (.ior, 1) := by decide +kernel
theorem dX8_halve_121 : decode cX8_halve 121 = .ok (.putfield 157, 3) := by decide +kernel
theorem dX8_halve_124 : decode cX8_halve 124 = .ok (.iinc 9 1, 3) := by decide +kernel
theorem dX8_halve_127 : decode cX8_halve 127 = .ok (.goto (-111), 3) := by decide +kernel
theorem dX8_halve_130 : decode cX8_halve 130 = .ok (.iconst 1, 1) := by decide +kernel
theorem dX8_halve_131 : decode cX8_halve 131 = .ok (.ireturn, 1) := by decide +kernel
theorem dX8_firstOfTwo_0 : decode cX8_firstOfTwo 0 = .ok (.aload_n 0, 1) := by decide +kernel
theorem dX8_firstOfTwo_1 : decode cX8_firstOfTwo 1 = .ok (.iload_n 1, 1) := by decide +kernel
theorem dX8_firstOfTwo_2 : decode cX8_firstOfTwo 2 = .ok (.iaload, 1) := by decide +kernel
theorem dX8_firstOfTwo_3 : decode cX8_firstOfTwo 3 = .ok (.ifCond .ne 7, 3) := by decide +kernel
theorem dX8_firstOfTwo_6 : decode cX8_firstOfTwo 6 = .ok (.lconst 0, 1) := by decide +kernel
theorem dX8_firstOfTwo_7 : decode cX8_firstOfTwo 7 = .ok (.goto 4, 3) := by decide +kernel
theorem dX8_firstOfTwo_10 : decode cX8_firstOfTwo 10 = .ok (.lconst 1, 1) := by decide +kernel
theorem dX8_firstOfTwo_11 : decode cX8_firstOfTwo 11 = .ok (.lreturn, 1) := by decide +kernel
theorem dX8_findFour_0 : decode cX8_findFour 0 = .ok (.aload_n 0, 1) := by decide +kernel
theorem dX8_findFour_1 : decode cX8_findFour 1 = .ok (.lconst 0, 1) := by decide +kernel
theorem dX8_findFour_2 : decode cX8_findFour 2 = .ok (.putfield 160, 3) := by decide +kernel
theorem dX8_findFour_5 : decode cX8_findFour 5 = .ok (.aload_n 0, 1) := by decide +kernel
theorem dX8_findFour_6 : decode cX8_findFour 6 = .ok (.ldc2_w 164, 3) := by decide +kernel
theorem dX8_findFour_9 : decode cX8_findFour 9 = .ok (.putfield 166, 3) := by decide +kernel
theorem dX8_findFour_12 : decode cX8_findFour 12 = .ok (.iconst 0, 1) := by decide +kernel
theorem dX8_findFour_13 : decode cX8_findFour 13 = .ok (.istore_n 3, 1) := by decide +kernel
theorem dX8_findFour_14 : decode cX8_findFour 14 = .ok (.iload_n 3, 1) := by decide +kernel
theorem dX8_findFour_15 : decode cX8_findFour 15 = .ok (.iconst 4, 1) := by decide +kernel
theorem dX8_findFour_16 : decode cX8_findFour 16 = .ok (.if_icmp .ge 104, 3) := by decide +kernel
theorem dX8_findFour_19 : decode cX8_findFour 19 = .ok (.aload_n 0, 1) := by decide +kernel
theorem dX8_findFour_20 : decode cX8_findFour 20 = .ok (.aload_n 1, 1) := by decide +kernel
theorem dX8_findFour_21 : decode cX8_findFour 21 = .ok (.iload_n 2, 1) := by decide +kernel
theorem dX8_findFour_22 : decode cX8_findFour 22 = .ok (.iconst 4, 1) := by decide +kernel
theorem dX8_findFour_23 : decode cX8_findFour 23 = .ok (.iload_n 3, 1) := by decide +kernel
theorem dX8_findFour_24 : decode cX8_findFour 24 = .ok (.aload_n 0, 1) := by decide +kernel
theorem dX8_findFour_25 : decode cX8_findFour 25 = .ok (.getfield 47, 3) := by decide +kernel
theorem dX8_findFour_28 : decode cX8_findFour 28 = .ok (.iconst 0, 1) := by decide +kernel
theorem dX8_findFour_29 : decode cX8_findFour 29 = .ok (.invokevirtual 169, 3) := by decide +kernel
theorem dX8_findFour_32 : decode cX8_findFour 32 = .ok (.ifCond .ne 6, 3) := by decide +kernel
theorem dX8_findFour_35 : decode cX8_findFour 35 = .ok (.goto 79, 3) := by decide +kernel
theorem dX8_findFour_38 : decode cX8_findFour 38 = .ok (.iload_n 3, 1) := by decide +kernel
theorem dX8_findFour_39 : decode cX8_findFour 39 = .ok (.i2l, 1) := by decide +kernel
theorem dX8_findFour_40 : decode cX8_findFour 40 = .ok (.aload_n 0, 1) := by decide +kernel
theorem dX8_findFour_41 : decode cX8_findFour 41 = .ok (.getfield 157, 3) := by decide +kernel
theorem dX8_findFour_44 : decode cX8_findFour 44 = .ok (.i2l, 1) := by decide +kernel
theorem dX8_findFour_45 : decode cX8_findFour 45 = .ok (.iconst 2, 1) := by decide +kernel
theorem dX8_findFour_46 : decode cX8_findFour 46 = .ok (.lshl, 1) := by decide +kernel
theorem dX8_findFour_47 : decode cX8_findFour 47 = .ok (.lor, 1) := by decide +kernel
theorem dX8_findFour_48 : decode cX8_findFour 48 = .ok (.aload_n 0, 1) := by decide +kernel
theorem dX8_findFour_49 : decode cX8_findFour 49 = .ok (.getfield 47, 3) := by decide +kernel
theorem dX8_findFour_52 : decode cX8_findFour 52 = .ok (.iconst 0, 1) := by decide +kernel
theorem dX8_findFour_53 : decode cX8_findFour 53 = .ok (.invokestatic 173, 3) := by decide +kernel
theorem dX8_findFour_56 : decode cX8_findFour 56 = .ok (.iconst 4, 1) := by decide +kernel
theorem dX8_findFour_57 : decode cX8_findFour 57 = .ok (.lshl, 1) := by decide +kernel
theorem dX8_findFour_58 : decode cX8_findFour 58 = .ok (.lor, 1) := by decide +kernel
theorem dX8_findFour_59 : decode cX8_findFour 59 = .ok (.aload_n 0, 1) := by decide +kernel
theorem dX8_findFour_60 : decode cX8_findFour 60 = .ok (.getfield 47, 3) := by decide +kernel
theorem dX8_findFour_63 : decode cX8_findFour 63 = .ok (.iconst 2, 1) := by decide +kernel
theorem dX8_findFour_64 : decode cX8_findFour 64 = .ok (.invokestatic 173, 3) := by decide +kernel
theorem dX8_findFour_67 : decode cX8_findFour 67 = .ok (.iconst 5, 1) := by decide +kernel
theorem dX8_findFour_68 : decode cX8_findFour 68 = .ok (.lshl, 1) := by decide +kernel
theorem dX8_findFour_69 : decode cX8_findFour 69 = .ok (.lor, 1) := by decide +kernel
theorem dX8_findFour_70 : decode cX8_findFour 70 = .ok (.lstore 4, 2) := by decide +kernel
theorem dX8_findFour_72 : decode cX8_findFour 72 = .ok (.aload_n 0, 1) := by decide +kernel
theorem dX8_findFour_73 : decode cX8_findFour 73 = .ok (.dup, 1) := by decide +kernel
theorem dX8_findFour_74 : decode cX8_findFour 74 = .ok (.getfield 160, 3) := by decide +kernel
theorem dX8_findFour_77 : decode cX8_findFour 77 = .ok (.lconst 1, 1) := by decide +kernel
theorem dX8_findFour_78 : decode cX8_findFour 78 = .ok (.ladd, 1) := by decide +kernel
theorem dX8_findFour_79 : decode cX8_findFour 79 = .ok (.putfield 160, 3) := by decide +kernel
theorem dX8_findFour_82 : decode cX8_findFour 82 = .ok (.aload_n 0, 1) := by decide +kernel
theorem dX8_findFour_83 : decode cX8_findFour 83 = .ok (.aload_n 0, 1) := by decide +kernel
theorem dX8_findFour_84 : decode cX8_findFour 84 = .ok (.getfield 166, 3) := by decide +kernel
theorem dX8_findFour_87 : decode cX8_findFour 87 = .ok (.lconst 0, 1) := by decide +kernel
theorem dX8_findFour_88 : decode cX8_findFour 88 = .ok (.lcmp, 1) := by decide +kernel
theorem dX8_findFour_89 : decode cX8_findFour 89 = .ok (.ifCond .lt 13, 3) := by decide +kernel
theorem dX8_findFour_92 : decode cX8_findFour 92 = .ok (.lload 4, 2) := by decide +kernel
theorem dX8_findFour_94 : decode cX8_findFour 94 = .ok (.aload_n 0, 1) := by decide +kernel
theorem dX8_findFour_95 : decode cX8_findFour 95 = .ok (.getfield 166, 3) := by decide +kernel
theorem dX8_findFour_98 : decode cX8_findFour 98 = .ok (.lcmp, 1) := by decide +kernel
theorem dX8_findFour_99 : decode cX8_findFour 99 = .ok (.ifCond .ge 8, 3) := by decide +kernel
theorem dX8_findFour_102 : decode cX8_findFour 102 = .ok (.lload 4, 2) := by decide +kernel
theorem dX8_findFour_104 : decode cX8_findFour 104 = .ok (.goto 7, 3) := by decide +kernel
theorem dX8_findFour_107 : decode cX8_findFour 107 = .ok (.aload_n 0, 1) := by decide +kernel
theorem dX8_findFour_108 : decode cX8_findFour 108 = .ok (.getfield 166, 3) := by decide +kernel
theorem dX8_findFour_111 : decode cX8_findFour 111 = .ok (.putfield 166, 3) := by decide +kernel
theorem dX8_findFour_114 : decode cX8_findFour 114 = .ok (.iinc 3 1, 3) := by decide +kernel
theorem dX8_findFour_117 : decode cX8_findFour 117 = .ok (.goto (-103), 3) := by decide +kernel
theorem dX8_findFour_120 : decode cX8_findFour 120 = .ok (.return_, 1) := by decide +kernel
theorem dX8_findEight_0 : decode cX8_findEight 0 = .ok (.lconst 0, 1) := by decide +kernel
theorem dX8_findEight_1 : decode cX8_findEight 1 = .ok (.lstore_n 1, 1) := by decide +kernel
theorem dX8_findEight_2 : decode cX8_findEight 2 = .ok (.ldc2_w 164, 3) := by decide +kernel
theorem dX8_findEight_5 : decode cX8_findEight 5 = .ok (.lstore_n 3, 1) := by decide +kernel
theorem dX8_findEight_6 : decode cX8_findEight 6 = .ok (.iconst 0, 1) := by decide +kernel
theorem dX8_findEight_7 : decode cX8_findEight 7 = .ok (.istore 5, 2) := by decide +kernel
theorem dX8_findEight_9 : decode cX8_findEight 9 = .ok (.iload 5, 2) := by decide +kernel
theorem dX8_findEight_11 : decode cX8_findEight 11 = .ok (.bipush 16, 2) := by decide +kernel
theorem dX8_findEight_13 : decode cX8_findEight 13 = .ok (.if_icmp .ge 124, 3) := by decide +kernel
theorem dX8_findEight_16 : decode cX8_findEight 16 = .ok (.aload_n 0, 1) := by decide +kernel
theorem dX8_findEight_17 : decode cX8_findEight 17 = .ok (.aload_n 0, 1) := by decide +kernel
theorem dX8_findEight_18 : decode cX8_findEight 18 = .ok (.getfield 38, 3) := by decide +kernel
theorem dX8_findEight_21 : decode cX8_findEight 21 = .ok (.iconst 0, 1) := by decide +kernel
theorem dX8_findEight_22 : decode cX8_findEight 22 = .ok (.bipush 8, 2) := by decide +kernel
theorem dX8_findEight_24 : decode cX8_findEight 24 = .ok (.iload 5, 2) := by decide +kernel
theorem dX8_findEight_26 : decode cX8_findEight 26 = .ok (.aload_n 0, 1) := by decide +kernel
theorem dX8_findEight_27 : decode cX8_findEight 27 = .ok (.getfield 44, 3) := by decide +kernel
theorem dX8_findEight_30 : decode cX8_findEight 30 = .ok (.iconst 0, 1) := by decide +kernel
theorem dX8_findEight_31 : decode cX8_findEight 31 = .ok (.invokevirtual 169, 3) := by decide +kernel
theorem dX8_findEight_34 : decode cX8_findEight 34 = .ok (.ifCond .ne 6, 3) := by decide +kernel
theorem dX8_findEight_37 : decode cX8_findEight 37 = .ok (.goto 94, 3) := by decide +kernel
theorem dX8_findEight_40 : decode cX8_findEight 40 = .ok (.iload 5, 2) := by decide +kernel
theorem dX8_findEight_42 : decode cX8_findEight 42 = .ok (.i2l, 1) := by decide +kernel
theorem dX8_findEight_43 : decode cX8_findEight 43 = .ok (.aload_n 0, 1) := by decide +kernel
theorem dX8_findEight_44 : decode cX8_findEight 44 = .ok (.getfield 157, 3) := by decide +kernel
theorem dX8_findEight_47 : decode cX8_findEight 47 = .ok (.i2l, 1) := by decide +kernel
theorem dX8_findEight_48 : decode cX8_findEight 48 = .ok (.iconst 4, 1) := by decide +kernel
theorem dX8_findEight_49 : decode cX8_findEight 49 = .ok (.lshl, 1) := by decide +kernel
theorem dX8_findEight_50 : decode cX8_findEight 50 = .ok (.lor, 1) := by decide +kernel
theorem dX8_findEight_51 : decode cX8_findEight 51 = .ok (.lstore 6, 2) := by decide +kernel
theorem dX8_findEight_53 : decode cX8_findEight 53 = .ok (.aload_n 0, 1) := by decide +kernel
theorem dX8_findEight_54 : decode cX8_findEight 54 = .ok (.aload_n 0, 1) := by decide +kernel
theorem dX8_findEight_55 : decode cX8_findEight 55 = .ok (.getfield 44, 3) := by decide +kernel
theorem dX8_findEight_58 : decode cX8_findEight 58 = .ok (.iconst 0, 1) := by decide +kernel
theorem dX8_findEight_59 : decode cX8_findEight 59 = .ok (.invokevirtual 177, 3) := by decide +kernel
theorem dX8_findEight_62 : decode cX8_findEight 62 = .ok (.aload_n 0, 1) := by decide +kernel
theorem dX8_findEight_63 : decode cX8_findEight 63 = .ok (.getfield 160, 3) := by decide +kernel
theorem dX8_findEight_66 : decode cX8_findEight 66 = .ok (.lstore 8, 2) := by decide +kernel
theorem dX8_findEight_68 : decode cX8_findEight 68 = .ok (.lload 6, 2) := by decide +kernel
theorem dX8_findEight_70 : decode cX8_findEight 70 = .ok (.aload_n 0, 1) := by decide +kernel
theorem dX8_findEight_71 : decode cX8_findEight 71 = .ok (.getfield 166, 3) := by decide +kernel
theorem dX8_findEight_74 : decode cX8_findEight 74 = .ok (.bipush 8, 2) := by decide +kernel
theorem dX8_findEight_76 : decode cX8_findEight 76 = .ok (.lshl, 1) := by decide +kernel
theorem dX8_findEight_77 : decode cX8_findEight 77 = .ok (.lor, 1) := by decide +kernel
theorem dX8_findEight_78 : decode cX8_findEight 78 = .ok (.lstore 6, 2) := by decide +kernel
theorem dX8_findEight_80 : decode cX8_findEight 80 = .ok (.aload_n 0, 1) := by decide +kernel
theorem dX8_findEight_81 : decode cX8_findEight 81 = .ok (.aload_n 0, 1) := by decide +kernel
theorem dX8_findEight_82 : decode cX8_findEight 82 = .ok (.getfield 44, 3) := by decide +kernel
theorem dX8_findEight_85 : decode cX8_findEight 85 = .ok (.iconst 4, 1) := by decide +kernel
theorem dX8_findEight_86 : decode cX8_findEight 86 = .ok (.invokevirtual 177, 3) := by decide +kernel
theorem dX8_findEight_89 : decode cX8_findEight 89 = .ok (.lload_n 1, 1) := by decide +kernel
theorem dX8_findEight_90 : decode cX8_findEight 90 = .ok (.lload 8, 2) := by decide +kernel
theorem dX8_findEight_92 : decode cX8_findEight 92 = .ok (.aload_n 0, 1) := by decide +kernel
theorem dX8_findEight_93 : decode cX8_findEight 93 = .ok (.getfield 160, 3) := by decide +kernel
theorem dX8_findEight_96 : decode cX8_findEight 96 = .ok (.lmul, 1) := by decide +kernel
theorem dX8_findEight_97 : decode cX8_findEight 97 = .ok (.ladd, 1) := by decide +kernel
theorem dX8_findEight_98 : decode cX8_findEight 98 = .ok (.lstore_n 1, 1) := by decide +kernel
theorem dX8_findEight_99 : decode cX8_findEight 99 = .ok (.lload 6, 2) := by decide +kernel
theorem dX8_findEight_101 : decode cX8_findEight 101 = .ok (.aload_n 0, 1) := by decide +kernel
theorem dX8_findEight_102 : decode cX8_findEight 102 = .ok (.getfield 166, 3) := by decide +kernel
theorem dX8_findEight_105 : decode cX8_findEight 105 = .ok (.bipush 14, 2) := by decide +kernel
theorem dX8_findEight_107 : decode cX8_findEight 107 = .ok (.lshl, 1) := by decide +kernel
theorem dX8_findEight_108 : decode cX8_findEight 108 = .ok (.lor, 1) := by decide +kernel
theorem dX8_findEight_109 : decode cX8_findEight 109 = .ok (.lstore 6, 2) := by decide +kernel
theorem dX8_findEight_111 : decode cX8_findEight 111 = .ok (.lload_n 3, 1) := by decide +kernel
theorem dX8_findEight_112 : decode cX8_findEight 112 = .ok (.lconst 0, 1) := by decide +kernel
theorem dX8_findEight_113 : decode cX8_findEight 113 = .ok (.lcmp, 1) := by decide +kernel
theorem dX8_findEight_114 : decode cX8_findEight 114 = .ok (.ifCond .lt 10, 3) := by decide +kernel
theorem dX8_findEight_117 : decode cX8_findEight 117 = .ok (.lload 6, 2) := by decide +kernel
theorem dX8_findEight_119 : decode cX8_findEight 119 = .ok (.lload_n 3, 1) := by decide +kernel
theorem dX8_findEight_120 : decode cX8_findEight 120 = .ok (.lcmp, 1) := by decide +kernel
theorem dX8_findEight_121 : decode cX8_findEight 121 = .ok (.ifCond .ge 8, 3) := by decide +kernel
theorem dX8_findEight_124 : decode cX8_findEight 124 = .ok (.lload 6, 2) := by decide +kernel
theorem dX8_findEight_126 : decode cX8_findEight 126 = .ok (.goto 4, 3) := by decide +kernel
theorem dX8_findEight_129 : decode cX8_findEight 129 = .ok (.lload_n 3, 1) := by decide +kernel
theorem dX8_findEight_130 : decode cX8_findEight 130 = .ok (.lstore_n 3, 1) := by decide +kernel
theorem dX8_findEight_131 : decode cX8_findEight 131 = .ok (.iinc 5 1, 3) := by decide +kernel
theorem dX8_findEight_134 : decode cX8_findEight 134 = .ok (.goto (-125), 3) := by decide +kernel
theorem dX8_findEight_137 : decode cX8_findEight 137 = .ok (.aload_n 0, 1) := by decide +kernel
theorem dX8_findEight_138 : decode cX8_findEight 138 = .ok (.lload_n 1, 1) := by decide +kernel
theorem dX8_findEight_139 : decode cX8_findEight 139 = .ok (.putfield 160, 3) := by decide +kernel
theorem dX8_findEight_142 : decode cX8_findEight 142 = .ok (.aload_n 0, 1) := by decide +kernel
theorem dX8_findEight_143 : decode cX8_findEight 143 = .ok (.lload_n 3, 1) := by decide +kernel
theorem dX8_findEight_144 : decode cX8_findEight 144 = .ok (.putfield 166, 3) := by decide +kernel
theorem dX8_findEight_147 : decode cX8_findEight 147 = .ok (.return_, 1) := by decide +kernel
theorem dX8_find_0 : decode cX8_find 0 = .ok (.aload_n 0, 1) := by decide +kernel
theorem dX8_find_1 : decode cX8_find 1 = .ok (.getfield 35, 3) := by decide +kernel
theorem dX8_find_4 : decode cX8_find 4 = .ok (.iconst 1, 1) := by decide +kernel
theorem dX8_find_5 : decode cX8_find 5 = .ok (.if_icmp .ne 23, 3) := by decide +kernel
theorem dX8_find_8 : decode cX8_find 8 = .ok (.aload_n 0, 1) := by decide +kernel
theorem dX8_find_9 : decode cX8_find 9 = .ok (.lconst 1, 1) := by decide +kernel
theorem dX8_find_10 : decode cX8_find 10 = .ok (.putfield 160, 3) := by decide +kernel
theorem dX8_find_13 : decode cX8_find 13 = .ok (.aload_n 0, 1) := by decide +kernel
theorem dX8_find_14 : decode cX8_find 14 = .ok (.aload_n 0, 1) := by decide +kernel
theorem dX8_find_15 : decode cX8_find 15 = .ok (.getfield 38, 3) := by decide +kernel
theorem dX8_find_18 : decode cX8_find 18 = .ok (.iconst 0, 1) := by decide +kernel
theorem dX8_find_19 : decode cX8_find 19 = .ok (.invokestatic 173, 3) := by decide +kernel
theorem dX8_find_22 : decode cX8_find 22 = .ok (.putfield 166, 3) := by decide +kernel
theorem dX8_find_25 : decode cX8_find 25 = .ok (.goto 27, 3) := by decide +kernel
theorem dX8_find_28 : decode cX8_find 28 = .ok (.aload_n 0, 1) := by decide +kernel
theorem dX8_find_29 : decode cX8_find 29 = .ok (.getfield 35, 3) := by decide +kernel
theorem dX8_find_32 : decode cX8_find 32 = .ok (.iconst 2, 1) := by decide +kernel
theorem dX8_find_33 : decode cX8_find 33 = .ok (.if_icmp .ne 15, 3) := by decide +kernel
theorem dX8_find_36 : decode cX8_find 36 = .ok (.aload_n 0, 1) := by decide +kernel
theorem dX8_find_37 : decode cX8_find 37 = .ok (.aload_n 0, 1) := by decide +kernel
theorem dX8_find_38 : decode cX8_find 38 = .ok (.getfield 38, 3) := by decide +kernel
theorem dX8_find_41 : decode cX8_find 41 = .ok (.iconst 0, 1) := by decide +kernel
theorem dX8_find_42 : decode cX8_find 42 = .ok (.invokevirtual 177, 3) := by decide +kernel
theorem dX8_find_45 : decode cX8_find 45 = .ok (.goto 7, 3) := by decide +kernel
theorem dX8_find_48 : decode cX8_find 48 = .ok (.aload_n 0, 1) := by decide +kernel
theorem dX8_find_49 : decode cX8_find 49 = .ok (.invokevirtual 181, 3) := by decide +kernel
theorem dX8_find_52 : decode cX8_find 52 = .ok (.return_, 1) := by decide +kernel
theorem dX8_ways_0 : decode cX8_ways 0 = .ok (.aload_n 0, 1) := by decide +kernel
theorem dX8_ways_1 : decode cX8_ways 1 = .ok (.invokevirtual 184, 3) := by decide +kernel
theorem dX8_ways_4 : decode cX8_ways 4 = .ok (.aload_n 0, 1) := by decide +kernel
theorem dX8_ways_5 : decode cX8_ways 5 = .ok (.getfield 160, 3) := by decide +kernel
theorem dX8_ways_8 : decode cX8_ways 8 = .ok (.lreturn, 1) := by decide +kernel
theorem dX8_first_0 : decode cX8_first 0 = .ok (.aload_n 0, 1) := by decide +kernel
theorem dX8_first_1 : decode cX8_first 1 = .ok (.invokevirtual 184, 3) := by decide +kernel
theorem dX8_first_4 : decode cX8_first 4 = .ok (.aload_n 0, 1) := by decide +kernel
theorem dX8_first_5 : decode cX8_first 5 = .ok (.getfield 166, 3) := by decide +kernel
theorem dX8_first_8 : decode cX8_first 8 = .ok (.lreturn, 1) := by decide +kernel
theorem dX8_against_0 : decode cX8_against 0 = .ok (.aload_n 0, 1) := by decide +kernel
theorem dX8_against_1 : decode cX8_against 1 = .ok (.getfield 50, 3) := by decide +kernel
theorem dX8_against_4 : decode cX8_against 4 = .ok (.iload_n 1, 1) := by decide +kernel
theorem dX8_against_5 : decode cX8_against 5 = .ok (.iaload, 1) := by decide +kernel
theorem dX8_against_6 : decode cX8_against 6 = .ok (.bipush (-9), 2) := by decide +kernel
theorem dX8_against_8 : decode cX8_against 8 = .ok (.if_icmp .eq 19, 3) := by decide +kernel
theorem dX8_against_11 : decode cX8_against 11 = .ok (.aload_n 0, 1) := by decide +kernel
theorem dX8_against_12 : decode cX8_against 12 = .ok (.getfield 50, 3) := by decide +kernel
theorem dX8_against_15 : decode cX8_against 15 = .ok (.iload_n 1, 1) := by decide +kernel
theorem dX8_against_16 : decode cX8_against 16 = .ok (.iaload, 1) := by decide +kernel
theorem dX8_against_17 : decode cX8_against 17 = .ok (.iload_n 2, 1) := by decide +kernel
theorem dX8_against_18 : decode cX8_against 18 = .ok (.if_icmp .eq 9, 3) := by decide +kernel
theorem dX8_against_21 : decode cX8_against 21 = .ok (.aload_n 0, 1) := by decide +kernel
theorem dX8_against_22 : decode cX8_against 22 = .ok (.iconst 2, 1) := by decide +kernel
theorem dX8_against_23 : decode cX8_against 23 = .ok (.invokevirtual 187, 3) := by decide +kernel
theorem dX8_against_26 : decode cX8_against 26 = .ok (.ireturn, 1) := by decide +kernel
theorem dX8_against_27 : decode cX8_against 27 = .ok (.aload_n 0, 1) := by decide +kernel
theorem dX8_against_28 : decode cX8_against 28 = .ok (.getfield 50, 3) := by decide +kernel
theorem dX8_against_31 : decode cX8_against 31 = .ok (.iload_n 1, 1) := by decide +kernel
theorem dX8_against_32 : decode cX8_against 32 = .ok (.iaload, 1) := by decide +kernel
theorem dX8_against_33 : decode cX8_against 33 = .ok (.bipush (-9), 2) := by decide +kernel
theorem dX8_against_35 : decode cX8_against 35 = .ok (.if_icmp .ne 9, 3) := by decide +kernel
theorem dX8_against_38 : decode cX8_against 38 = .ok (.aload_n 0, 1) := by decide +kernel
theorem dX8_against_39 : decode cX8_against 39 = .ok (.iconst 1, 1) := by decide +kernel
theorem dX8_against_40 : decode cX8_against 40 = .ok (.invokevirtual 187, 3) := by decide +kernel
theorem dX8_against_43 : decode cX8_against 43 = .ok (.ireturn, 1) := by decide +kernel
theorem dX8_against_44 : decode cX8_against 44 = .ok (.iload_n 3, 1) := by decide +kernel
theorem dX8_against_45 : decode cX8_against 45 = .ok (.ifCond .lt 26, 3) := by decide +kernel
theorem dX8_against_48 : decode cX8_against 48 = .ok (.iload_n 3, 1) := by decide +kernel
theorem dX8_against_49 : decode cX8_against 49 = .ok (.aload_n 0, 1) := by decide +kernel
theorem dX8_against_50 : decode cX8_against 50 = .ok (.getfield 53, 3) := by decide +kernel
theorem dX8_against_53 : decode cX8_against 53 = .ok (.iload_n 1, 1) := by decide +kernel
theorem dX8_against_54 : decode cX8_against 54 = .ok (.iaload, 1) := by decide +kernel
theorem dX8_against_55 : decode cX8_against 55 = .ok (.if_icmp .gt 16, 3) := by decide +kernel
theorem dX8_against_58 : decode cX8_against 58 = .ok (.iload 4, 2) := by decide +kernel
theorem dX8_against_60 : decode cX8_against 60 = .ok (.aload_n 0, 1) := by decide +kernel
theorem dX8_against_61 : decode cX8_against 61 = .ok (.getfield 53, 3) := by decide +kernel
theorem dX8_against_64 : decode cX8_against 64 = .ok (.iload_n 1, 1) := by decide +kernel
theorem dX8_against_65 : decode cX8_against 65 = .ok (.iaload, 1) := by decide +kernel
theorem dX8_against_66 : decode cX8_against 66 = .ok (.iload_n 3, 1) := by decide +kernel
theorem dX8_against_67 : decode cX8_against 67 = .ok (.isub, 1) := by decide +kernel
theorem dX8_against_68 : decode cX8_against 68 = .ok (.if_icmp .le 9, 3) := by decide +kernel
theorem dX8_against_71 : decode cX8_against 71 = .ok (.aload_n 0, 1) := by decide +kernel
theorem dX8_against_72 : decode cX8_against 72 = .ok (.iconst 3, 1) := by decide +kernel
theorem dX8_against_73 : decode cX8_against 73 = .ok (.invokevirtual 187, 3) := by decide +kernel
theorem dX8_against_76 : decode cX8_against 76 = .ok (.ireturn, 1) := by decide +kernel
theorem dX8_against_77 : decode cX8_against 77 = .ok (.iconst 0, 1) := by decide +kernel
theorem dX8_against_78 : decode cX8_against 78 = .ok (.ireturn, 1) := by decide +kernel
theorem dX8_isSheet_0 : decode cX8_isSheet 0 = .ok (.iload_n 0, 1) := by decide +kernel
theorem dX8_isSheet_1 : decode cX8_isSheet 1 = .ok (.iconst 0, 1) := by decide +kernel
theorem dX8_isSheet_2 : decode cX8_isSheet 2 = .ok (.iconst 3, 1) := by decide +kernel
theorem dX8_isSheet_3 : decode cX8_isSheet 3 = .ok (.invokestatic 116, 3) := by decide +kernel
theorem dX8_isSheet_6 : decode cX8_isSheet 6 = .ok (.ireturn, 1) := by decide +kernel
theorem dX8_isLane_0 : decode cX8_isLane 0 = .ok (.iload_n 0, 1) := by decide +kernel
theorem dX8_isLane_1 : decode cX8_isLane 1 = .ok (.iconst 0, 1) := by decide +kernel
theorem dX8_isLane_2 : decode cX8_isLane 2 = .ok (.iconst 2, 1) := by decide +kernel
theorem dX8_isLane_3 : decode cX8_isLane 3 = .ok (.invokestatic 116, 3) := by decide +kernel
theorem dX8_isLane_6 : decode cX8_isLane 6 = .ok (.ireturn, 1) := by decide +kernel
theorem dX8_order_0 : decode cX8_order 0 = .ok (.aload_n 0, 1) := by decide +kernel
theorem dX8_order_1 : decode cX8_order 1 = .ok (.iconst 0, 1) := by decide +kernel
theorem dX8_order_2 : decode cX8_order 2 = .ok (.putfield 107, 3) := by decide +kernel
theorem dX8_order_5 : decode cX8_order 5 = .ok (.iload_n 2, 1) := by decide +kernel
theorem dX8_order_6 : decode cX8_order 6 = .ok (.invokestatic 191, 3) := by decide +kernel
theorem dX8_order_9 : decode cX8_order 9 = .ok (.ifCond .ne 5, 3) := by decide +kernel
theorem dX8_order_12 : decode cX8_order 12 = .ok (.iconst (-1), 1) := by decide +kernel
theorem dX8_order_13 : decode cX8_order 13 = .ok (.ireturn, 1) := by decide +kernel
theorem dX8_order_14 : decode cX8_order 14 = .ok (.iload_n 3, 1) := by decide +kernel
theorem dX8_order_15 : decode cX8_order 15 = .ok (.invokestatic 194, 3) := by decide +kernel
theorem dX8_order_18 : decode cX8_order 18 = .ok (.ifCond .eq 12, 3) := by decide +kernel
theorem dX8_order_21 : decode cX8_order 21 = .ok (.iload_n 1, 1) := by decide +kernel
theorem dX8_order_22 : decode cX8_order 22 = .ok (.iconst 1, 1) := by decide +kernel
theorem dX8_order_23 : decode cX8_order 23 = .ok (.iconst 3, 1) := by decide +kernel
theorem dX8_order_24 : decode cX8_order 24 = .ok (.invokestatic 116, 3) := by decide +kernel
theorem dX8_order_27 : decode cX8_order 27 = .ok (.ifCond .ne 6, 3) := by decide +kernel
theorem dX8_order_30 : decode cX8_order 30 = .ok (.bipush (-2), 2) := by decide +kernel
theorem dX8_order_32 : decode cX8_order 32 = .ok (.ireturn, 1) := by decide +kernel
theorem dX8_order_33 : decode cX8_order 33 = .ok (.iconst 1, 1) := by decide +kernel
theorem dX8_order_34 : decode cX8_order 34 = .ok (.iload_n 1, 1) := by decide +kernel
theorem dX8_order_35 : decode cX8_order 35 = .ok (.ishl, 1) := by decide +kernel
theorem dX8_order_36 : decode cX8_order 36 = .ok (.istore 5, 2) := by decide +kernel
theorem dX8_order_38 : decode cX8_order 38 = .ok (.aload_n 0, 1) := by decide +kernel
theorem dX8_order_39 : decode cX8_order 39 = .ok (.iload_n 2, 1) := by decide +kernel
theorem dX8_order_40 : decode cX8_order 40 = .ok (.iload_n 3, 1) := by decide +kernel
theorem dX8_order_41 : decode cX8_order 41 = .ok (.iload 4, 2) := by decide +kernel
theorem dX8_order_43 : decode cX8_order 43 = .ok (.iload 5, 2) := by decide +kernel
theorem dX8_order_45 : decode cX8_order 45 = .ok (.invokevirtual 197, 3) := by decide +kernel
theorem dX8_order_48 : decode cX8_order 48 = .ok (.istore 6, 2) := by decide +kernel
theorem dX8_order_50 : decode cX8_order 50 = .ok (.iload 6, 2) := by decide +kernel
theorem dX8_order_52 : decode cX8_order 52 = .ok (.ifCond .eq 6, 3) := by decide +kernel
theorem dX8_order_55 : decode cX8_order 55 = .ok (.iload 6, 2) := by decide +kernel
theorem dX8_order_57 : decode cX8_order 57 = .ok (.ireturn, 1) := by decide +kernel
theorem dX8_order_58 : decode cX8_order 58 = .ok (.bipush 60, 2) := by decide +kernel
theorem dX8_order_60 : decode cX8_order 60 = .ok (.iload_n 2, 1) := by decide +kernel
theorem dX8_order_61 : decode cX8_order 61 = .ok (.imul, 1) := by decide +kernel
theorem dX8_order_62 : decode cX8_order 62 = .ok (.iload 4, 2) := by decide +kernel
theorem dX8_order_64 : decode cX8_order 64 = .ok (.iadd, 1) := by decide +kernel
theorem dX8_order_65 : decode cX8_order 65 = .ok (.istore 7, 2) := by decide +kernel
theorem dX8_order_67 : decode cX8_order 67 = .ok (.iconst 0, 1) := by decide +kernel
theorem dX8_order_68 : decode cX8_order 68 = .ok (.istore 8, 2) := by decide +kernel
theorem dX8_order_70 : decode cX8_order 70 = .ok (.iconst 0, 1) := by decide +kernel
theorem dX8_order_71 : decode cX8_order 71 = .ok (.istore 9, 2) := by decide +kernel
theorem dX8_order_73 : decode cX8_order 73 = .ok (.iload 9, 2) := by decide +kernel
theorem dX8_order_75 : decode cX8_order 75 = .ok (.iload 5, 2) := by decide +kernel
theorem dX8_order_77 : decode cX8_order 77 = .ok (.if_icmp .ge 57, 3) := by decide +kernel
theorem dX8_order_80 : decode cX8_order 80 = .ok (.aload_n 0, 1) := by decide +kernel
theorem dX8_order_81 : decode cX8_order 81 = .ok (.getfield 56, 3) := by decide +kernel
theorem dX8_order_84 : decode cX8_order 84 = .ok (.iload 7, 2) := by decide +kernel
theorem dX8_order_86 : decode cX8_order 86 = .ok (.iload 9, 2) := by decide +kernel
theorem dX8_order_88 : decode cX8_order 88 = .ok (.iadd, 1) := by decide +kernel
theorem dX8_order_89 : decode cX8_order 89 = .ok (.iaload, 1) := by decide +kernel
theorem dX8_order_90 : decode cX8_order 90 = .ok (.istore 10, 2) := by decide +kernel
theorem dX8_order_92 : decode cX8_order 92 = .ok (.iload 10, 2) := by decide +kernel
theorem dX8_order_94 : decode cX8_order 94 = .ok (.iconst 0, 1) := by decide +kernel
theorem dX8_order_95 : decode cX8_order 95 = .ok (.iload 5, 2) := by decide +kernel
theorem dX8_order_97 : decode cX8_order 97 = .ok (.iconst 1, 1) := by decide +kernel
theorem dX8_order_98 : decode cX8_order 98 = .ok (.isub, 1) := by decide +kernel
theorem dX8_order_99 : decode cX8_order 99 = .ok (.invokestatic 116, 3) := by decide +kernel
theorem dX8_order_102 : decode cX8_order 102 = .ok (.ifCond .eq 14, 3) := by decide +kernel
theorem dX8_order_105 : decode cX8_order 105 = .ok (.iload 8, 2) := by decide +kernel
theorem dX8_order_107 : decode cX8_order 107 = .ok (.iload 10, 2) := by decide +kernel
theorem dX8_order_109 : decode cX8_order 109 = .ok (.ishr, 1) := by decide +kernel
theorem dX8_order_110 : decode cX8_order 110 = .ok (.iconst 1, 1) := by decide +kernel
theorem dX8_order_111 : decode cX8_order 111 = .ok (.iand, 1) := by decide +kernel
theorem dX8_order_112 : decode cX8_order 112 = .ok (.iconst 1, 1) := by decide +kernel
theorem dX8_order_113 : decode cX8_order 113 = .ok (.if_icmp .ne 6, 3) := by decide +kernel
theorem dX8_order_116 : decode cX8_order 116 = .ok (.bipush (-2), 2) := by decide +kernel
theorem dX8_order_118 : decode cX8_order 118 = .ok (.ireturn, 1) := by decide +kernel
theorem dX8_order_119 : decode cX8_order 119 = .ok (.iload 8, 2) := by decide +kernel
theorem dX8_order_121 : decode cX8_order 121 = .ok (.iconst 1, 1) := by decide +kernel
theorem dX8_order_122 : decode cX8_order 122 = .ok (.iload 10, 2) := by decide +kernel
theorem dX8_order_124 : decode cX8_order 124 = .ok (.ishl, 1) := by decide +kernel
theorem dX8_order_125 : decode cX8_order 125 = .ok (.ior, 1) := by decide +kernel
theorem dX8_order_126 : decode cX8_order 126 = .ok (.istore 8, 2) := by decide +kernel
theorem dX8_order_128 : decode cX8_order 128 = .ok (.iinc 9 1, 3) := by decide +kernel
theorem dX8_order_131 : decode cX8_order 131 = .ok (.goto (-58), 3) := by decide +kernel
theorem dX8_order_134 : decode cX8_order 134 = .ok (.aload_n 0, 1) := by decide +kernel
theorem dX8_order_135 : decode cX8_order 135 = .ok (.iload_n 1, 1) := by decide +kernel
theorem dX8_order_136 : decode cX8_order 136 = .ok (.putfield 35, 3) := by decide +kernel
theorem dX8_order_139 : decode cX8_order 139 = .ok (.iconst 0, 1) := by decide +kernel
theorem dX8_order_140 : decode cX8_order 140 = .ok (.istore 9, 2) := by decide +kernel
theorem dX8_order_142 : decode cX8_order 142 = .ok (.iload 9, 2) := by decide +kernel
theorem dX8_order_144 : decode cX8_order 144 = .ok (.iload 5, 2) := by decide +kernel
theorem dX8_order_146 : decode cX8_order 146 = .ok (.if_icmp .ge 26, 3) := by decide +kernel
theorem dX8_order_149 : decode cX8_order 149 = .ok (.aload_n 0, 1) := by decide +kernel
theorem dX8_order_150 : decode cX8_order 150 = .ok (.getfield 38, 3) := by decide +kernel
theorem dX8_order_153 : decode cX8_order 153 = .ok (.iload 9, 2) := by decide +kernel
theorem dX8_order_155 : decode cX8_order 155 = .ok (.aload_n 0, 1) := by decide +kernel
theorem dX8_order_156 : decode cX8_order 156 = .ok (.getfield 56, 3) := by decide +kernel
theorem dX8_order_159 : decode cX8_order 159 = .ok (.iload 7, 2) := by decide +kernel
theorem dX8_order_161 : decode cX8_order 161 = .ok (.iload 9, 2) := by decide +kernel
theorem dX8_order_163 : decode cX8_order 163 = .ok (.iadd, 1) := by decide +kernel
theorem dX8_order_164 : decode cX8_order 164 = .ok (.iaload, 1) := by decide +kernel
theorem dX8_order_165 : decode cX8_order 165 = .ok (.iastore, 1) := by decide +kernel
theorem dX8_order_166 : decode cX8_order 166 = .ok (.iinc 9 1, 3) := by decide +kernel
theorem dX8_order_169 : decode cX8_order 169 = .ok (.goto (-27), 3) := by decide +kernel
theorem dX8_order_172 : decode cX8_order 172 = .ok (.iload 5, 2) := by decide +kernel
theorem dX8_order_174 : decode cX8_order 174 = .ok (.ireturn, 1) := by decide +kernel
theorem dX8_isEnd_0 : decode cX8_isEnd 0 = .ok (.iload_n 1, 1) := by decide +kernel
theorem dX8_isEnd_1 : decode cX8_isEnd 1 = .ok (.ifCond .lt 15, 3) := by decide +kernel
theorem dX8_isEnd_4 : decode cX8_isEnd 4 = .ok (.iload_n 1, 1) := by decide +kernel
theorem dX8_isEnd_5 : decode cX8_isEnd 5 = .ok (.aload_n 0, 1) := by decide +kernel
theorem dX8_isEnd_6 : decode cX8_isEnd 6 = .ok (.invokevirtual 201, 3) := by decide +kernel
theorem dX8_isEnd_9 : decode cX8_isEnd 9 = .ok (.if_icmp .ge 7, 3) := by decide +kernel
theorem dX8_isEnd_12 : decode cX8_isEnd 12 = .ok (.iconst 1, 1) := by decide +kernel
theorem dX8_isEnd_13 : decode cX8_isEnd 13 = .ok (.goto 4, 3) := by decide +kernel
theorem dX8_isEnd_16 : decode cX8_isEnd 16 = .ok (.iconst 0, 1) := by decide +kernel
theorem dX8_isEnd_17 : decode cX8_isEnd 17 = .ok (.ireturn, 1) := by decide +kernel
theorem dX8_outlet_0 : decode cX8_outlet 0 = .ok (.aload_n 0, 1) := by decide +kernel
theorem dX8_outlet_1 : decode cX8_outlet 1 = .ok (.iload_n 1, 1) := by decide +kernel
theorem dX8_outlet_2 : decode cX8_outlet 2 = .ok (.invokevirtual 204, 3) := by decide +kernel
theorem dX8_outlet_5 : decode cX8_outlet 5 = .ok (.ifCond .eq 12, 3) := by decide +kernel
theorem dX8_outlet_8 : decode cX8_outlet 8 = .ok (.aload_n 0, 1) := by decide +kernel
theorem dX8_outlet_9 : decode cX8_outlet 9 = .ok (.getfield 38, 3) := by decide +kernel
theorem dX8_outlet_12 : decode cX8_outlet 12 = .ok (.iload_n 1, 1) := by decide +kernel
theorem dX8_outlet_13 : decode cX8_outlet 13 = .ok (.iaload, 1) := by decide +kernel
theorem dX8_outlet_14 : decode cX8_outlet 14 = .ok (.goto 4, 3) := by decide +kernel
theorem dX8_outlet_17 : decode cX8_outlet 17 = .ok (.iconst (-1), 1) := by decide +kernel
theorem dX8_outlet_18 : decode cX8_outlet 18 = .ok (.ireturn, 1) := by decide +kernel
theorem dX8_carriedTwo_0 : decode cX8_carriedTwo 0 = .ok (.iload_n 0, 1) := by decide +kernel
theorem dX8_carriedTwo_1 : decode cX8_carriedTwo 1 = .ok (.iload_n 1, 1) := by decide +kernel
theorem dX8_carriedTwo_2 : decode cX8_carriedTwo 2 = .ok (.iconst 1, 1) := by decide +kernel
theorem dX8_carriedTwo_3 : decode cX8_carriedTwo 3 = .ok (.iand, 1) := by decide +kernel
theorem dX8_carriedTwo_4 : decode cX8_carriedTwo 4 = .ok (.ixor, 1) := by decide +kernel
theorem dX8_carriedTwo_5 : decode cX8_carriedTwo 5 = .ok (.ireturn, 1) := by decide +kernel
theorem dX8_carriedFour_0 : decode cX8_carriedFour 0 = .ok (.iload_n 1, 1) := by decide +kernel
theorem dX8_carriedFour_1 : decode cX8_carriedFour 1 = .ok (.iload_n 0, 1) := by decide +kernel
theorem dX8_carriedFour_2 : decode cX8_carriedFour 2 = .ok (.iconst 2, 1) := by decide +kernel
theorem dX8_carriedFour_3 : decode cX8_carriedFour 3 = .ok (.idiv, 1) := by decide +kernel
theorem dX8_carriedFour_4 : decode cX8_carriedFour 4 = .ok (.ishr, 1) := by decide +kernel
theorem dX8_carriedFour_5 : decode cX8_carriedFour 5 = .ok (.iconst 1, 1) := by decide +kernel
theorem dX8_carriedFour_6 : decode cX8_carriedFour 6 = .ok (.iand, 1) := by decide +kernel
theorem dX8_carriedFour_7 : decode cX8_carriedFour 7 = .ok (.iload_n 0, 1) := by decide +kernel
theorem dX8_carriedFour_8 : decode cX8_carriedFour 8 = .ok (.iconst 1, 1) := by decide +kernel
theorem dX8_carriedFour_9 : decode cX8_carriedFour 9 = .ok (.iand, 1) := by decide +kernel
theorem dX8_carriedFour_10 : decode cX8_carriedFour 10 = .ok (.ixor, 1) := by decide +kernel
theorem dX8_carriedFour_11 : decode cX8_carriedFour 11 = .ok (.istore_n 2, 1) := by decide +kernel
theorem dX8_carriedFour_12 : decode cX8_carriedFour 12 = .ok (.iload_n 0, 1) := by decide +kernel
theorem dX8_carriedFour_13 : decode cX8_carriedFour 13 = .ok (.iconst 2, 1) := by decide +kernel
theorem dX8_carriedFour_14 : decode cX8_carriedFour 14 = .ok (.idiv, 1) := by decide +kernel
theorem dX8_carriedFour_15 : decode cX8_carriedFour 15 = .ok (.iload_n 1, 1) := by decide +kernel
theorem dX8_carriedFour_16 : decode cX8_carriedFour 16 = .ok (.iconst 4, 1) := by decide +kernel
theorem dX8_carriedFour_17 : decode cX8_carriedFour 17 = .ok (.iload_n 2, 1) := by decide +kernel
theorem dX8_carriedFour_18 : decode cX8_carriedFour 18 = .ok (.iadd, 1) := by decide +kernel
theorem dX8_carriedFour_19 : decode cX8_carriedFour 19 = .ok (.ishr, 1) := by decide +kernel
theorem dX8_carriedFour_20 : decode cX8_carriedFour 20 = .ok (.invokestatic 207, 3) := by decide +kernel
theorem dX8_carriedFour_23 : decode cX8_carriedFour 23 = .ok (.istore_n 3, 1) := by decide +kernel
theorem dX8_carriedFour_24 : decode cX8_carriedFour 24 = .ok (.iconst 2, 1) := by decide +kernel
theorem dX8_carriedFour_25 : decode cX8_carriedFour 25 = .ok (.iload_n 3, 1) := by decide +kernel
theorem dX8_carriedFour_26 : decode cX8_carriedFour 26 = .ok (.imul, 1) := by decide +kernel
theorem dX8_carriedFour_27 : decode cX8_carriedFour 27 = .ok (.iload_n 2, 1) := by decide +kernel
theorem dX8_carriedFour_28 : decode cX8_carriedFour 28 = .ok (.iload_n 1, 1) := by decide +kernel
theorem dX8_carriedFour_29 : decode cX8_carriedFour 29 = .ok (.iconst 2, 1) := by decide +kernel
theorem dX8_carriedFour_30 : decode cX8_carriedFour 30 = .ok (.iload_n 3, 1) := by decide +kernel
theorem dX8_carriedFour_31 : decode cX8_carriedFour 31 = .ok (.iadd, 1) := by decide +kernel
theorem dX8_carriedFour_32 : decode cX8_carriedFour 32 = .ok (.ishr, 1) := by decide +kernel
theorem dX8_carriedFour_33 : decode cX8_carriedFour 33 = .ok (.iconst 1, 1) := by decide +kernel
theorem dX8_carriedFour_34 : decode cX8_carriedFour 34 = .ok (.iand, 1) := by decide +kernel
theorem dX8_carriedFour_35 : decode cX8_carriedFour 35 = .ok (.ixor, 1) := by decide +kernel
theorem dX8_carriedFour_36 : decode cX8_carriedFour 36 = .ok (.iadd, 1) := by decide +kernel
theorem dX8_carriedFour_37 : decode cX8_carriedFour 37 = .ok (.ireturn, 1) := by decide +kernel
theorem dX8_carriedEight_0 : decode cX8_carriedEight 0 = .ok (.iload_n 1, 1) := by decide +kernel
theorem dX8_carriedEight_1 : decode cX8_carriedEight 1 = .ok (.iload_n 0, 1) := by decide +kernel
theorem dX8_carriedEight_2 : decode cX8_carriedEight 2 = .ok (.iconst 2, 1) := by decide +kernel
theorem dX8_carriedEight_3 : decode cX8_carriedEight 3 = .ok (.idiv, 1) := by decide +kernel
theorem dX8_carriedEight_4 : decode cX8_carriedEight 4 = .ok (.ishr, 1) := by decide +kernel
theorem dX8_carriedEight_5 : decode cX8_carriedEight 5 = .ok (.iconst 1, 1) := by decide +kernel
theorem dX8_carriedEight_6 : decode cX8_carriedEight 6 = .ok (.iand, 1) := by decide +kernel
theorem dX8_carriedEight_7 : decode cX8_carriedEight 7 = .ok (.iload_n 0, 1) := by decide +kernel
theorem dX8_carriedEight_8 : decode cX8_carriedEight 8 = .ok (.iconst 1, 1) := by decide +kernel
theorem dX8_carriedEight_9 : decode cX8_carriedEight 9 = .ok (.iand, 1) := by decide +kernel
theorem dX8_carriedEight_10 : decode cX8_carriedEight 10 = .ok (.ixor, 1) := by decide +kernel
theorem dX8_carriedEight_11 : decode cX8_carriedEight 11 = .ok (.istore_n 2, 1) := by decide +kernel
theorem dX8_carriedEight_12 : decode cX8_carriedEight 12 = .ok (.iload_n 0, 1) := by decide +kernel
theorem dX8_carriedEight_13 : decode cX8_carriedEight 13 = .ok (.iconst 2, 1) := by decide +kernel
theorem dX8_carriedEight_14 : decode cX8_carriedEight 14 = .ok (.idiv, 1) := by decide +kernel
theorem dX8_carriedEight_15 : decode cX8_carriedEight 15 = .ok (.iload_n 1, 1) := by decide +kernel
theorem dX8_carriedEight_16 : decode cX8_carriedEight 16 = .ok (.bipush 8, 2) := by decide +kernel
theorem dX8_carriedEight_18 : decode cX8_carriedEight 18 = .ok (.bipush 6, 2) := by decide +kernel
theorem dX8_carriedEight_20 : decode cX8_carriedEight 20 = .ok (.iload_n 2, 1) := by decide +kernel
theorem dX8_carriedEight_21 : decode cX8_carriedEight 21 = .ok (.imul, 1) := by decide +kernel
theorem dX8_carriedEight_22 : decode cX8_carriedEight 22 = .ok (.iadd, 1) := by decide +kernel
theorem dX8_carriedEight_23 : decode cX8_carriedEight 23 = .ok (.ishr, 1) := by decide +kernel
theorem dX8_carriedEight_24 : decode cX8_carriedEight 24 = .ok (.invokestatic 210, 3) := by decide +kernel
theorem dX8_carriedEight_27 : decode cX8_carriedEight 27 = .ok (.istore_n 3, 1) := by decide +kernel
theorem dX8_carriedEight_28 : decode cX8_carriedEight 28 = .ok (.iconst 2, 1) := by decide +kernel
theorem dX8_carriedEight_29 : decode cX8_carriedEight 29 = .ok (.iload_n 3, 1) := by decide +kernel
theorem dX8_carriedEight_30 : decode cX8_carriedEight 30 = .ok (.imul, 1) := by decide +kernel
theorem dX8_carriedEight_31 : decode cX8_carriedEight 31 = .ok (.iload_n 2, 1) := by decide +kernel
theorem dX8_carriedEight_32 : decode cX8_carriedEight 32 = .ok (.iload_n 1, 1) := by decide +kernel
theorem dX8_carriedEight_33 : decode cX8_carriedEight 33 = .ok (.iconst 4, 1) := by decide +kernel
theorem dX8_carriedEight_34 : decode cX8_carriedEight 34 = .ok (.iload_n 3, 1) := by decide +kernel
theorem dX8_carriedEight_35 : decode cX8_carriedEight 35 = .ok (.iadd, 1) := by decide +kernel
theorem dX8_carriedEight_36 : decode cX8_carriedEight 36 = .ok (.ishr, 1) := by decide +kernel
theorem dX8_carriedEight_37 : decode cX8_carriedEight 37 = .ok (.iconst 1, 1) := by decide +kernel
theorem dX8_carriedEight_38 : decode cX8_carriedEight 38 = .ok (.iand, 1) := by decide +kernel
theorem dX8_carriedEight_39 : decode cX8_carriedEight 39 = .ok (.ixor, 1) := by decide +kernel
theorem dX8_carriedEight_40 : decode cX8_carriedEight 40 = .ok (.iadd, 1) := by decide +kernel
theorem dX8_carriedEight_41 : decode cX8_carriedEight 41 = .ok (.ireturn, 1) := by decide +kernel
theorem dX8_carry_0 : decode cX8_carry 0 = .ok (.iload_n 1, 1) := by decide +kernel
theorem dX8_carry_1 : decode cX8_carry 1 = .ok (.iconst 1, 1) := by decide +kernel
theorem dX8_carry_2 : decode cX8_carry 2 = .ok (.iconst 3, 1) := by decide +kernel
theorem dX8_carry_3 : decode cX8_carry 3 = .ok (.invokestatic 116, 3) := by decide +kernel
theorem dX8_carry_6 : decode cX8_carry 6 = .ok (.ifCond .eq 37, 3) := by decide +kernel
theorem dX8_carry_9 : decode cX8_carry 9 = .ok (.lload_n 2, 1) := by decide +kernel
theorem dX8_carry_10 : decode cX8_carry 10 = .ok (.lconst 0, 1) := by decide +kernel
theorem dX8_carry_11 : decode cX8_carry 11 = .ok (.lcmp, 1) := by decide +kernel
theorem dX8_carry_12 : decode cX8_carry 12 = .ok (.ifCond .lt 31, 3) := by decide +kernel
theorem dX8_carry_15 : decode cX8_carry 15 = .ok (.lload_n 2, 1) := by decide +kernel
theorem dX8_carry_16 : decode cX8_carry 16 = .ok (.lconst 1, 1) := by decide +kernel
theorem dX8_carry_17 : decode cX8_carry 17 = .ok (.iload_n 1, 1) := by decide +kernel
theorem dX8_carry_18 : decode cX8_carry 18 = .ok (.iconst 1, 1) := by decide +kernel
theorem dX8_carry_19 : decode cX8_carry 19 = .ok (.if_icmp .ne 7, 3) := by decide +kernel
theorem dX8_carry_22 : decode cX8_carry 22 = .ok (.iconst 1, 1) := by decide +kernel
theorem dX8_carry_23 : decode cX8_carry 23 = .ok (.goto 15, 3) := by decide +kernel
theorem dX8_carry_26 : decode cX8_carry 26 = .ok (.iload_n 1, 1) := by decide +kernel
theorem dX8_carry_27 : decode cX8_carry 27 = .ok (.iconst 2, 1) := by decide +kernel
theorem dX8_carry_28 : decode cX8_carry 28 = .ok (.if_icmp .ne 8, 3) := by decide +kernel
theorem dX8_carry_31 : decode cX8_carry 31 = .ok (.bipush 6, 2) := by decide +kernel
theorem dX8_carry_33 : decode cX8_carry 33 = .ok (.goto 5, 3) := by decide +kernel
theorem dX8_carry_36 : decode cX8_carry 36 = .ok (.bipush 20, 2) := by decide +kernel
theorem dX8_carry_38 : decode cX8_carry 38 = .ok (.lshl, 1) := by decide +kernel
theorem dX8_carry_39 : decode cX8_carry 39 = .ok (.lcmp, 1) := by decide +kernel
theorem dX8_carry_40 : decode cX8_carry 40 = .ok (.ifCond .lt 6, 3) := by decide +kernel
theorem dX8_carry_43 : decode cX8_carry 43 = .ok (.bipush (-2), 2) := by decide +kernel
theorem dX8_carry_45 : decode cX8_carry 45 = .ok (.ireturn, 1) := by decide +kernel
theorem dX8_carry_46 : decode cX8_carry 46 = .ok (.aload_n 0, 1) := by decide +kernel
theorem dX8_carry_47 : decode cX8_carry 47 = .ok (.iload_n 1, 1) := by decide +kernel
theorem dX8_carry_48 : decode cX8_carry 48 = .ok (.putfield 35, 3) := by decide +kernel
theorem dX8_carry_51 : decode cX8_carry 51 = .ok (.lload_n 2, 1) := by decide +kernel
theorem dX8_carry_52 : decode cX8_carry 52 = .ok (.l2i, 1) := by decide +kernel
theorem dX8_carry_53 : decode cX8_carry 53 = .ok (.istore 4, 2) := by decide +kernel
theorem dX8_carry_55 : decode cX8_carry 55 = .ok (.iconst 0, 1) := by decide +kernel
theorem dX8_carry_56 : decode cX8_carry 56 = .ok (.istore 5, 2) := by decide +kernel
theorem dX8_carry_58 : decode cX8_carry 58 = .ok (.iload 5, 2) := by decide +kernel
theorem dX8_carry_60 : decode cX8_carry 60 = .ok (.aload_n 0, 1) := by decide +kernel
theorem dX8_carry_61 : decode cX8_carry 61 = .ok (.invokevirtual 201, 3) := by decide +kernel
theorem dX8_carry_64 : decode cX8_carry 64 = .ok (.if_icmp .ge 53, 3) := by decide +kernel
theorem dX8_carry_67 : decode cX8_carry 67 = .ok (.aload_n 0, 1) := by decide +kernel
theorem dX8_carry_68 : decode cX8_carry 68 = .ok (.getfield 38, 3) := by decide +kernel
theorem dX8_carry_71 : decode cX8_carry 71 = .ok (.iload 5, 2) := by decide +kernel
theorem dX8_carry_73 : decode cX8_carry 73 = .ok (.iload_n 1, 1) := by decide +kernel
theorem dX8_carry_74 : decode cX8_carry 74 = .ok (.iconst 1, 1) := by decide +kernel
theorem dX8_carry_75 : decode cX8_carry 75 = .ok (.if_icmp .ne 13, 3) := by decide +kernel
theorem dX8_carry_78 : decode cX8_carry 78 = .ok (.iload 5, 2) := by decide +kernel
theorem dX8_carry_80 : decode cX8_carry 80 = .ok (.iload 4, 2) := by decide +kernel
theorem dX8_carry_82 : decode cX8_carry 82 = .ok (.invokestatic 207, 3) := by decide +kernel
theorem dX8_carry_85 : decode cX8_carry 85 = .ok (.goto 25, 3) := by decide +kernel
theorem dX8_carry_88 : decode cX8_carry 88 = .ok (.iload_n 1, 1) := by decide +kernel
theorem dX8_carry_89 : decode cX8_carry 89 = .ok (.iconst 2, 1) := by decide +kernel
theorem dX8_carry_90 : decode cX8_carry 90 = .ok (.if_icmp .ne 13, 3) := by decide +kernel
theorem dX8_carry_93 : decode cX8_carry 93 = .ok (.iload 5, 2) := by decide +kernel
theorem dX8_carry_95 : decode cX8_carry 95 = .ok (.iload 4, 2) := by decide +kernel
theorem dX8_carry_97 : decode cX8_carry 97 = .ok (.invokestatic 210, 3) := by decide +kernel
theorem dX8_carry_100 : decode cX8_carry 100 = .ok (.goto 10, 3) := by decide +kernel
theorem dX8_carry_103 : decode cX8_carry 103 = .ok (.iload 5, 2) := by decide +kernel
theorem dX8_carry_105 : decode cX8_carry 105 = .ok (.iload 4, 2) := by decide +kernel
theorem dX8_carry_107 : decode cX8_carry 107 = .ok (.invokestatic 213, 3) := by decide +kernel
theorem dX8_carry_110 : decode cX8_carry 110 = .ok (.iastore, 1) := by decide +kernel
theorem dX8_carry_111 : decode cX8_carry 111 = .ok (.iinc 5 1, 3) := by decide +kernel
theorem dX8_carry_114 : decode cX8_carry 114 = .ok (.goto (-56), 3) := by decide +kernel
theorem dX8_carry_117 : decode cX8_carry 117 = .ok (.aload_n 0, 1) := by decide +kernel
theorem dX8_carry_118 : decode cX8_carry 118 = .ok (.invokevirtual 201, 3) := by decide +kernel
theorem dX8_carry_121 : decode cX8_carry 121 = .ok (.ireturn, 1) := by decide +kernel
theorem dX8_lineOf_0 : decode cX8_lineOf 0 = .ok (.iload_n 1, 1) := by decide +kernel
theorem dX8_lineOf_1 : decode cX8_lineOf 1 = .ok (.istore_n 3, 1) := by decide +kernel
theorem dX8_lineOf_2 : decode cX8_lineOf 2 = .ok (.iconst 0, 1) := by decide +kernel
theorem dX8_lineOf_3 : decode cX8_lineOf 3 = .ok (.istore 4, 2) := by decide +kernel
theorem dX8_lineOf_5 : decode cX8_lineOf 5 = .ok (.iload 4, 2) := by decide +kernel
theorem dX8_lineOf_7 : decode cX8_lineOf 7 = .ok (.iload_n 2, 1) := by decide +kernel
theorem dX8_lineOf_8 : decode cX8_lineOf 8 = .ok (.if_icmp .gt 61, 3) := by decide +kernel
theorem dX8_lineOf_11 : decode cX8_lineOf 11 = .ok (.iconst 2, 1) := by decide +kernel
theorem dX8_lineOf_12 : decode cX8_lineOf 12 = .ok (.iload_n 3, 1) := by decide +kernel
theorem dX8_lineOf_13 : decode cX8_lineOf 13 = .ok (.imul, 1) := by decide +kernel
theorem dX8_lineOf_14 : decode cX8_lineOf 14 = .ok (.aload_n 0, 1) := by decide +kernel
theorem dX8_lineOf_15 : decode cX8_lineOf 15 = .ok (.invokevirtual 201, 3) := by decide +kernel
theorem dX8_lineOf_18 : decode cX8_lineOf 18 = .ok (.if_icmp .lt 16, 3) := by decide +kernel
theorem dX8_lineOf_21 : decode cX8_lineOf 21 = .ok (.iconst 2, 1) := by decide +kernel
theorem dX8_lineOf_22 : decode cX8_lineOf 22 = .ok (.iload_n 3, 1) := by decide +kernel
theorem dX8_lineOf_23 : decode cX8_lineOf 23 = .ok (.imul, 1) := by decide +kernel
theorem dX8_lineOf_24 : decode cX8_lineOf 24 = .ok (.aload_n 0, 1) := by decide +kernel
theorem dX8_lineOf_25 : decode cX8_lineOf 25 = .ok (.invokevirtual 201, 3) := by decide +kernel
theorem dX8_lineOf_28 : decode cX8_lineOf 28 = .ok (.isub, 1) := by decide +kernel
theorem dX8_lineOf_29 : decode cX8_lineOf 29 = .ok (.iconst 1, 1) := by decide +kernel
theorem dX8_lineOf_30 : decode cX8_lineOf 30 = .ok (.iadd, 1) := by decide +kernel
theorem dX8_lineOf_31 : decode cX8_lineOf 31 = .ok (.goto 6, 3) := by decide +kernel
theorem dX8_lineOf_34 : decode cX8_lineOf 34 = .ok (.iconst 2, 1) := by decide +kernel
theorem dX8_lineOf_35 : decode cX8_lineOf 35 = .ok (.iload_n 3, 1) := by decide +kernel
theorem dX8_lineOf_36 : decode cX8_lineOf 36 = .ok (.imul, 1) := by decide +kernel
theorem dX8_lineOf_37 : decode cX8_lineOf 37 = .ok (.istore_n 3, 1) := by decide +kernel
theorem dX8_lineOf_38 : decode cX8_lineOf 38 = .ok (.iconst 2, 1) := by decide +kernel
theorem dX8_lineOf_39 : decode cX8_lineOf 39 = .ok (.iload_n 3, 1) := by decide +kernel
theorem dX8_lineOf_40 : decode cX8_lineOf 40 = .ok (.iconst 2, 1) := by decide +kernel
theorem dX8_lineOf_41 : decode cX8_lineOf 41 = .ok (.idiv, 1) := by decide +kernel
theorem dX8_lineOf_42 : decode cX8_lineOf 42 = .ok (.imul, 1) := by decide +kernel
theorem dX8_lineOf_43 : decode cX8_lineOf 43 = .ok (.aload_n 0, 1) := by decide +kernel
theorem dX8_lineOf_44 : decode cX8_lineOf 44 = .ok (.getfield 38, 3) := by decide +kernel
theorem dX8_lineOf_47 : decode cX8_lineOf 47 = .ok (.iload_n 1, 1) := by decide +kernel
theorem dX8_lineOf_48 : decode cX8_lineOf 48 = .ok (.iaload, 1) := by decide +kernel
theorem dX8_lineOf_49 : decode cX8_lineOf 49 = .ok (.aload_n 0, 1) := by decide +kernel
theorem dX8_lineOf_50 : decode cX8_lineOf 50 = .ok (.getfield 35, 3) := by decide +kernel
theorem dX8_lineOf_53 : decode cX8_lineOf 53 = .ok (.iconst 1, 1) := by decide +kernel
theorem dX8_lineOf_54 : decode cX8_lineOf 54 = .ok (.isub, 1) := by decide +kernel
theorem dX8_lineOf_55 : decode cX8_lineOf 55 = .ok (.iload 4, 2) := by decide +kernel
theorem dX8_lineOf_57 : decode cX8_lineOf 57 = .ok (.isub, 1) := by decide +kernel
theorem dX8_lineOf_58 : decode cX8_lineOf 58 = .ok (.ishr, 1) := by decide +kernel
theorem dX8_lineOf_59 : decode cX8_lineOf 59 = .ok (.iconst 1, 1) := by decide +kernel
theorem dX8_lineOf_60 : decode cX8_lineOf 60 = .ok (.iand, 1) := by decide +kernel
theorem dX8_lineOf_61 : decode cX8_lineOf 61 = .ok (.iadd, 1) := by decide +kernel
theorem dX8_lineOf_62 : decode cX8_lineOf 62 = .ok (.istore_n 3, 1) := by decide +kernel
theorem dX8_lineOf_63 : decode cX8_lineOf 63 = .ok (.iinc 4 1, 3) := by decide +kernel
theorem dX8_lineOf_66 : decode cX8_lineOf 66 = .ok (.goto (-61), 3) := by decide +kernel
theorem dX8_lineOf_69 : decode cX8_lineOf 69 = .ok (.iload_n 3, 1) := by decide +kernel
theorem dX8_lineOf_70 : decode cX8_lineOf 70 = .ok (.ireturn, 1) := by decide +kernel
theorem dX8_line_0 : decode cX8_line 0 = .ok (.aload_n 0, 1) := by decide +kernel
theorem dX8_line_1 : decode cX8_line 1 = .ok (.iload_n 1, 1) := by decide +kernel
theorem dX8_line_2 : decode cX8_line 2 = .ok (.invokevirtual 204, 3) := by decide +kernel
theorem dX8_line_5 : decode cX8_line 5 = .ok (.ifCond .eq 26, 3) := by decide +kernel
theorem dX8_line_8 : decode cX8_line 8 = .ok (.iload_n 2, 1) := by decide +kernel
theorem dX8_line_9 : decode cX8_line 9 = .ok (.iconst 0, 1) := by decide +kernel
theorem dX8_line_10 : decode cX8_line 10 = .ok (.aload_n 0, 1) := by decide +kernel
theorem dX8_line_11 : decode cX8_line 11 = .ok (.getfield 35, 3) := by decide +kernel
theorem dX8_line_14 : decode cX8_line 14 = .ok (.iconst 1, 1) := by decide +kernel
theorem dX8_line_15 : decode cX8_line 15 = .ok (.isub, 1) := by decide +kernel
theorem dX8_line_16 : decode cX8_line 16 = .ok (.invokestatic 116, 3) := by decide +kernel
theorem dX8_line_19 : decode cX8_line 19 = .ok (.ifCond .eq 12, 3) := by decide +kernel
theorem dX8_line_22 : decode cX8_line 22 = .ok (.aload_n 0, 1) := by decide +kernel
theorem dX8_line_23 : decode cX8_line 23 = .ok (.iload_n 1, 1) := by decide +kernel
theorem dX8_line_24 : decode cX8_line 24 = .ok (.iload_n 2, 1) := by decide +kernel
theorem dX8_line_25 : decode cX8_line 25 = .ok (.invokevirtual 216, 3) := by decide +kernel
theorem dX8_line_28 : decode cX8_line 28 = .ok (.goto 4, 3) := by decide +kernel
theorem dX8_line_31 : decode cX8_line 31 = .ok (.iconst (-1), 1) := by decide +kernel
theorem dX8_line_32 : decode cX8_line 32 = .ok (.ireturn, 1) := by decide +kernel
theorem dX8_clashOf_0 : decode cX8_clashOf 0 = .ok (.iconst 0, 1) := by decide +kernel
theorem dX8_clashOf_1 : decode cX8_clashOf 1 = .ok (.istore_n 3, 1) := by decide +kernel
theorem dX8_clashOf_2 : decode cX8_clashOf 2 = .ok (.iload_n 3, 1) := by decide +kernel
theorem dX8_clashOf_3 : decode cX8_clashOf 3 = .ok (.aload_n 0, 1) := by decide +kernel
theorem dX8_clashOf_4 : decode cX8_clashOf 4 = .ok (.getfield 35, 3) := by decide +kernel
theorem dX8_clashOf_7 : decode cX8_clashOf 7 = .ok (.if_icmp .ge 26, 3) := by decide +kernel
theorem dX8_clashOf_10 : decode cX8_clashOf 10 = .ok (.aload_n 0, 1) := by decide +kernel
theorem dX8_clashOf_11 : decode cX8_clashOf 11 = .ok (.iload_n 1, 1) := by decide +kernel
theorem dX8_clashOf_12 : decode cX8_clashOf 12 = .ok (.iload_n 3, 1) := by decide +kernel
theorem dX8_clashOf_13 : decode cX8_clashOf 13 = .ok (.invokevirtual 216, 3) := by decide +kernel
theorem dX8_clashOf_16 : decode cX8_clashOf 16 = .ok (.aload_n 0, 1) := by decide +kernel
theorem dX8_clashOf_17 : decode cX8_clashOf 17 = .ok (.iload_n 2, 1) := by decide +kernel
theorem dX8_clashOf_18 : decode cX8_clashOf 18 = .ok (.iload_n 3, 1) := by decide +kernel
theorem dX8_clashOf_19 : decode cX8_clashOf 19 = .ok (.invokevirtual 216, 3) := by decide +kernel
theorem dX8_clashOf_22 : decode cX8_clashOf 22 = .ok (.if_icmp .ne 5, 3) := by decide +kernel
theorem dX8_clashOf_25 : decode cX8_clashOf 25 = .ok (.iload_n 3, 1) := by decide +kernel
theorem dX8_clashOf_26 : decode cX8_clashOf 26 = .ok (.ireturn, 1) := by decide +kernel
theorem dX8_clashOf_27 : decode cX8_clashOf 27 = .ok (.iinc 3 1, 3) := by decide +kernel
theorem dX8_clashOf_30 : decode cX8_clashOf 30 = .ok (.goto (-28), 3) := by decide +kernel
theorem dX8_clashOf_33 : decode cX8_clashOf 33 = .ok (.bipush (-9), 2) := by decide +kernel
theorem dX8_clashOf_35 : decode cX8_clashOf 35 = .ok (.ireturn, 1) := by decide +kernel
theorem dX8_clash_0 : decode cX8_clash 0 = .ok (.aload_n 0, 1) := by decide +kernel
theorem dX8_clash_1 : decode cX8_clash 1 = .ok (.iload_n 1, 1) := by decide +kernel
theorem dX8_clash_2 : decode cX8_clash 2 = .ok (.invokevirtual 204, 3) := by decide +kernel
theorem dX8_clash_5 : decode cX8_clash 5 = .ok (.ifCond .eq 11, 3) := by decide +kernel
theorem dX8_clash_8 : decode cX8_clash 8 = .ok (.aload_n 0, 1) := by decide +kernel
theorem dX8_clash_9 : decode cX8_clash 9 = .ok (.iload_n 2, 1) := by decide +kernel
theorem dX8_clash_10 : decode cX8_clash 10 = .ok (.invokevirtual 204, 3) := by decide +kernel
theorem dX8_clash_13 : decode cX8_clash 13 = .ok (.ifCond .ne 5, 3) := by decide +kernel
theorem dX8_clash_16 : decode cX8_clash 16 = .ok (.iconst (-1), 1) := by decide +kernel
theorem dX8_clash_17 : decode cX8_clash 17 = .ok (.ireturn, 1) := by decide +kernel
theorem dX8_clash_18 : decode cX8_clash 18 = .ok (.iload_n 1, 1) := by decide +kernel
theorem dX8_clash_19 : decode cX8_clash 19 = .ok (.iload_n 2, 1) := by decide +kernel
theorem dX8_clash_20 : decode cX8_clash 20 = .ok (.if_icmp .ne 8, 3) := by decide +kernel
theorem dX8_clash_23 : decode cX8_clash 23 = .ok (.bipush (-3), 2) := by decide +kernel
theorem dX8_clash_25 : decode cX8_clash 25 = .ok (.goto 9, 3) := by decide +kernel
theorem dX8_clash_28 : decode cX8_clash 28 = .ok (.aload_n 0, 1) := by decide +kernel
theorem dX8_clash_29 : decode cX8_clash 29 = .ok (.iload_n 1, 1) := by decide +kernel
theorem dX8_clash_30 : decode cX8_clash 30 = .ok (.iload_n 2, 1) := by decide +kernel
theorem dX8_clash_31 : decode cX8_clash 31 = .ok (.invokevirtual 219, 3) := by decide +kernel
theorem dX8_clash_34 : decode cX8_clash 34 = .ok (.ireturn, 1) := by decide +kernel
theorem dX8_mayBe_0 : decode cX8_mayBe 0 = .ok (.iconst 0, 1) := by decide +kernel
theorem dX8_mayBe_1 : decode cX8_mayBe 1 = .ok (.istore_n 2, 1) := by decide +kernel
theorem dX8_mayBe_2 : decode cX8_mayBe 2 = .ok (.iload_n 2, 1) := by decide +kernel
theorem dX8_mayBe_3 : decode cX8_mayBe 3 = .ok (.iload_n 1, 1) := by decide +kernel
theorem dX8_mayBe_4 : decode cX8_mayBe 4 = .ok (.if_icmp .ge 37, 3) := by decide +kernel
theorem dX8_mayBe_7 : decode cX8_mayBe 7 = .ok (.aload_n 0, 1) := by decide +kernel
theorem dX8_mayBe_8 : decode cX8_mayBe 8 = .ok (.getfield 59, 3) := by decide +kernel
theorem dX8_mayBe_11 : decode cX8_mayBe 11 = .ok (.iload_n 2, 1) := by decide +kernel
theorem dX8_mayBe_12 : decode cX8_mayBe 12 = .ok (.iaload, 1) := by decide +kernel
theorem dX8_mayBe_13 : decode cX8_mayBe 13 = .ok (.aload_n 0, 1) := by decide +kernel
theorem dX8_mayBe_14 : decode cX8_mayBe 14 = .ok (.getfield 59, 3) := by decide +kernel
theorem dX8_mayBe_17 : decode cX8_mayBe 17 = .ok (.iload_n 1, 1) := by decide +kernel
theorem dX8_mayBe_18 : decode cX8_mayBe 18 = .ok (.iaload, 1) := by decide +kernel
theorem dX8_mayBe_19 : decode cX8_mayBe 19 = .ok (.if_icmp .ne 16, 3) := by decide +kernel
theorem dX8_mayBe_22 : decode cX8_mayBe 22 = .ok (.aload_n 0, 1) := by decide +kernel
theorem dX8_mayBe_23 : decode cX8_mayBe 23 = .ok (.iload_n 1, 1) := by decide +kernel
theorem dX8_mayBe_24 : decode cX8_mayBe 24 = .ok (.iload_n 2, 1) := by decide +kernel
theorem dX8_mayBe_25 : decode cX8_mayBe 25 = .ok (.invokevirtual 219, 3) := by decide +kernel
theorem dX8_mayBe_28 : decode cX8_mayBe 28 = .ok (.bipush (-9), 2) := by decide +kernel
theorem dX8_mayBe_30 : decode cX8_mayBe 30 = .ok (.if_icmp .eq 5, 3) := by decide +kernel
theorem dX8_mayBe_33 : decode cX8_mayBe 33 = .ok (.iconst 0, 1) := by decide +kernel
theorem dX8_mayBe_34 : decode cX8_mayBe 34 = .ok (.ireturn, 1) := by decide +kernel
theorem dX8_mayBe_35 : decode cX8_mayBe 35 = .ok (.iinc 2 1, 3) := by decide +kernel
theorem dX8_mayBe_38 : decode cX8_mayBe 38 = .ok (.goto (-36), 3) := by decide +kernel
theorem dX8_mayBe_41 : decode cX8_mayBe 41 = .ok (.iconst 1, 1) := by decide +kernel
theorem dX8_mayBe_42 : decode cX8_mayBe 42 = .ok (.ireturn, 1) := by decide +kernel
theorem dX8_setsAhead_0 : decode cX8_setsAhead 0 = .ok (.iconst 0, 1) := by decide +kernel
theorem dX8_setsAhead_1 : decode cX8_setsAhead 1 = .ok (.istore_n 2, 1) := by decide +kernel
theorem dX8_setsAhead_2 : decode cX8_setsAhead 2 = .ok (.iconst 0, 1) := by decide +kernel
theorem dX8_setsAhead_3 : decode cX8_setsAhead 3 = .ok (.istore_n 3, 1) := by decide +kernel
theorem dX8_setsAhead_4 : decode cX8_setsAhead 4 = .ok (.iload_n 3, 1) := by decide +kernel
theorem dX8_setsAhead_5 : decode cX8_setsAhead 5 = .ok (.iload_n 1, 1) := by decide +kernel
theorem dX8_setsAhead_6 : decode cX8_setsAhead 6 = .ok (.if_icmp .ge 34, 3) := by decide +kernel
theorem dX8_setsAhead_9 : decode cX8_setsAhead 9 = .ok (.aload_n 0, 1) := by decide +kernel
theorem dX8_setsAhead_10 : decode cX8_setsAhead 10 = .ok (.getfield 59, 3) := by decide +kernel
theorem dX8_setsAhead_13 : decode cX8_setsAhead 13 = .ok (.iload_n 3, 1) := by decide +kernel
theorem dX8_setsAhead_14 : decode cX8_setsAhead 14 = .ok (.iaload, 1) := by decide +kernel
theorem dX8_setsAhead_15 : decode cX8_setsAhead 15 = .ok (.iconst 1, 1) := by decide +kernel
theorem dX8_setsAhead_16 : decode cX8_setsAhead 16 = .ok (.iadd, 1) := by decide +kernel
theorem dX8_setsAhead_17 : decode cX8_setsAhead 17 = .ok (.iload_n 2, 1) := by decide +kernel
theorem dX8_setsAhead_18 : decode cX8_setsAhead 18 = .ok (.if_icmp .le 14, 3) := by decide +kernel
theorem dX8_setsAhead_21 : decode cX8_setsAhead 21 = .ok (.aload_n 0, 1) := by decide +kernel
theorem dX8_setsAhead_22 : decode cX8_setsAhead 22 = .ok (.getfield 59, 3) := by decide +kernel
theorem dX8_setsAhead_25 : decode cX8_setsAhead 25 = .ok (.iload_n 3, 1) := by decide +kernel
theorem dX8_setsAhead_26 : decode cX8_setsAhead 26 = .ok (.iaload, 1) := by decide +kernel
theorem dX8_setsAhead_27 : decode cX8_setsAhead 27 = .ok (.iconst 1, 1) := by decide +kernel
theorem dX8_setsAhead_28 : decode cX8_setsAhead 28 = .ok (.iadd, 1) := by decide +kernel
theorem dX8_setsAhead_29 : decode cX8_setsAhead 29 = .ok (.goto 4, 3) := by decide +kernel
theorem dX8_setsAhead_32 : decode cX8_setsAhead 32 = .ok (.iload_n 2, 1) := by decide +kernel
theorem dX8_setsAhead_33 : decode cX8_setsAhead 33 = .ok (.istore_n 2, 1) := by decide +kernel
theorem dX8_setsAhead_34 : decode cX8_setsAhead 34 = .ok (.iinc 3 1, 3) := by decide +kernel
theorem dX8_setsAhead_37 : decode cX8_setsAhead 37 = .ok (.goto (-33), 3) := by decide +kernel
theorem dX8_setsAhead_40 : decode cX8_setsAhead 40 = .ok (.iload_n 2, 1) := by decide +kernel
theorem dX8_setsAhead_41 : decode cX8_setsAhead 41 = .ok (.ireturn, 1) := by decide +kernel
theorem dX8_areEnough_0 : decode cX8_areEnough 0 = .ok (.iconst 0, 1) := by decide +kernel
theorem dX8_areEnough_1 : decode cX8_areEnough 1 = .ok (.istore_n 2, 1) := by decide +kernel
theorem dX8_areEnough_2 : decode cX8_areEnough 2 = .ok (.aload_n 0, 1) := by decide +kernel
theorem dX8_areEnough_3 : decode cX8_areEnough 3 = .ok (.getfield 59, 3) := by decide +kernel
theorem dX8_areEnough_6 : decode cX8_areEnough 6 = .ok (.iconst 0, 1) := by decide +kernel
theorem dX8_areEnough_7 : decode cX8_areEnough 7 = .ok (.iconst (-1), 1) := by decide +kernel
theorem dX8_areEnough_8 : decode cX8_areEnough 8 = .ok (.iastore, 1) := by decide +kernel
theorem dX8_areEnough_9 : decode cX8_areEnough 9 = .ok (.iload_n 2, 1) := by decide +kernel
theorem dX8_areEnough_10 : decode cX8_areEnough 10 = .ok (.ifCond .lt 79, 3) := by decide +kernel
theorem dX8_areEnough_13 : decode cX8_areEnough 13 = .ok (.aload_n 0, 1) := by decide +kernel
theorem dX8_areEnough_14 : decode cX8_areEnough 14 = .ok (.getfield 59, 3) := by decide +kernel
theorem dX8_areEnough_17 : decode cX8_areEnough 17 = .ok (.iload_n 2, 1) := by decide +kernel
theorem dX8_areEnough_18 : decode cX8_areEnough 18 = .ok (.dup2, 1) := by decide +kernel
theorem dX8_areEnough_19 : decode cX8_areEnough 19 = .ok (.iaload, 1) := by decide +kernel
theorem dX8_areEnough_20 : decode cX8_areEnough 20 = .ok (.iconst 1, 1) := by decide +kernel
theorem dX8_areEnough_21 : decode cX8_areEnough 21 = .ok (.iadd, 1) := by decide +kernel
theorem dX8_areEnough_22 : decode cX8_areEnough 22 = .ok (.iastore, 1) := by decide +kernel
theorem dX8_areEnough_23 : decode cX8_areEnough 23 = .ok (.aload_n 0, 1) := by decide +kernel
theorem dX8_areEnough_24 : decode cX8_areEnough 24 = .ok (.getfield 59, 3) := by decide +kernel
theorem dX8_areEnough_27 : decode cX8_areEnough 27 = .ok (.iload_n 2, 1) := by decide +kernel
theorem dX8_areEnough_28 : decode cX8_areEnough 28 = .ok (.iaload, 1) := by decide +kernel
theorem dX8_areEnough_29 : decode cX8_areEnough 29 = .ok (.aload_n 0, 1) := by decide +kernel
theorem dX8_areEnough_30 : decode cX8_areEnough 30 = .ok (.iload_n 2, 1) := by decide +kernel
theorem dX8_areEnough_31 : decode cX8_areEnough 31 = .ok (.invokevirtual 222, 3) := by decide +kernel
theorem dX8_areEnough_34 : decode cX8_areEnough 34 = .ok (.if_icmp .gt 13, 3) := by decide +kernel
theorem dX8_areEnough_37 : decode cX8_areEnough 37 = .ok (.aload_n 0, 1) := by decide +kernel
theorem dX8_areEnough_38 : decode cX8_areEnough 38 = .ok (.getfield 59, 3) := by decide +kernel
theorem dX8_areEnough_41 : decode cX8_areEnough 41 = .ok (.iload_n 2, 1) := by decide +kernel
theorem dX8_areEnough_42 : decode cX8_areEnough 42 = .ok (.iaload, 1) := by decide +kernel
theorem dX8_areEnough_43 : decode cX8_areEnough 43 = .ok (.iload_n 1, 1) := by decide +kernel
theorem dX8_areEnough_44 : decode cX8_areEnough 44 = .ok (.if_icmp .lt 9, 3) := by decide +kernel
theorem dX8_areEnough_47 : decode cX8_areEnough 47 = .ok (.iinc 2 (-1), 3) := by decide +kernel
theorem dX8_areEnough_50 : decode cX8_areEnough 50 = .ok (.goto (-41), 3) := by decide +kernel
theorem dX8_areEnough_53 : decode cX8_areEnough 53 = .ok (.aload_n 0, 1) := by decide +kernel
theorem dX8_areEnough_54 : decode cX8_areEnough 54 = .ok (.iload_n 2, 1) := by decide +kernel
theorem dX8_areEnough_55 : decode cX8_areEnough 55 = .ok (.invokevirtual 225, 3) := by decide +kernel
theorem dX8_areEnough_58 : decode cX8_areEnough 58 = .ok (.ifCond .ne 6, 3) := by decide +kernel
theorem dX8_areEnough_61 : decode cX8_areEnough 61 = .ok (.goto (-52), 3) := by decide +kernel
theorem dX8_areEnough_64 : decode cX8_areEnough 64 = .ok (.iload_n 2, 1) := by decide +kernel
theorem dX8_areEnough_65 : decode cX8_areEnough 65 = .ok (.aload_n 0, 1) := by decide +kernel
theorem dX8_areEnough_66 : decode cX8_areEnough 66 = .ok (.invokevirtual 201, 3) := by decide +kernel
theorem dX8_areEnough_69 : decode cX8_areEnough 69 = .ok (.iconst 1, 1) := by decide +kernel
theorem dX8_areEnough_70 : decode cX8_areEnough 70 = .ok (.isub, 1) := by decide +kernel
theorem dX8_areEnough_71 : decode cX8_areEnough 71 = .ok (.if_icmp .ne 5, 3) := by decide +kernel
theorem dX8_areEnough_74 : decode cX8_areEnough 74 = .ok (.iconst 1, 1) := by decide +kernel
theorem dX8_areEnough_75 : decode cX8_areEnough 75 = .ok (.ireturn, 1) := by decide +kernel
theorem dX8_areEnough_76 : decode cX8_areEnough 76 = .ok (.iinc 2 1, 3) := by decide +kernel
theorem dX8_areEnough_79 : decode cX8_areEnough 79 = .ok (.aload_n 0, 1) := by decide +kernel
theorem dX8_areEnough_80 : decode cX8_areEnough 80 = .ok (.getfield 59, 3) := by decide +kernel
theorem dX8_areEnough_83 : decode cX8_areEnough 83 = .ok (.iload_n 2, 1) := by decide +kernel
theorem dX8_areEnough_84 : decode cX8_areEnough 84 = .ok (.iconst (-1), 1) := by decide +kernel
theorem dX8_areEnough_85 : decode cX8_areEnough 85 = .ok (.iastore, 1) := by decide +kernel
theorem dX8_areEnough_86 : decode cX8_areEnough 86 = .ok (.goto (-77), 3) := by decide +kernel
theorem dX8_areEnough_89 : decode cX8_areEnough 89 = .ok (.iconst 0, 1) := by decide +kernel
theorem dX8_areEnough_90 : decode cX8_areEnough 90 = .ok (.ireturn, 1) := by decide +kernel
theorem dX8_findRounds_0 : decode cX8_findRounds 0 = .ok (.iconst 1, 1) := by decide +kernel
theorem dX8_findRounds_1 : decode cX8_findRounds 1 = .ok (.istore_n 1, 1) := by decide +kernel
theorem dX8_findRounds_2 : decode cX8_findRounds 2 = .ok (.aload_n 0, 1) := by decide +kernel
theorem dX8_findRounds_3 : decode cX8_findRounds 3 = .ok (.iload_n 1, 1) := by decide +kernel
theorem dX8_findRounds_4 : decode cX8_findRounds 4 = .ok (.invokevirtual 228, 3) := by decide +kernel
theorem dX8_findRounds_7 : decode cX8_findRounds 7 = .ok (.ifCond .ne 9, 3) := by decide +kernel
theorem dX8_findRounds_10 : decode cX8_findRounds 10 = .ok (.iinc 1 1, 3) := by decide +kernel
theorem dX8_findRounds_13 : decode cX8_findRounds 13 = .ok (.goto (-11), 3) := by decide +kernel
theorem dX8_findRounds_16 : decode cX8_findRounds 16 = .ok (.iload_n 1, 1) := by decide +kernel
theorem dX8_findRounds_17 : decode cX8_findRounds 17 = .ok (.ireturn, 1) := by decide +kernel
theorem dX8_rounds_0 : decode cX8_rounds 0 = .ok (.aload_n 0, 1) := by decide +kernel
theorem dX8_rounds_1 : decode cX8_rounds 1 = .ok (.invokevirtual 231, 3) := by decide +kernel
theorem dX8_rounds_4 : decode cX8_rounds 4 = .ok (.ireturn, 1) := by decide +kernel
theorem dX8_round_0 : decode cX8_round 0 = .ok (.aload_n 0, 1) := by decide +kernel
theorem dX8_round_1 : decode cX8_round 1 = .ok (.iload_n 1, 1) := by decide +kernel
theorem dX8_round_2 : decode cX8_round 2 = .ok (.invokevirtual 204, 3) := by decide +kernel
theorem dX8_round_5 : decode cX8_round 5 = .ok (.ifCond .ne 5, 3) := by decide +kernel
theorem dX8_round_8 : decode cX8_round 8 = .ok (.iconst (-1), 1) := by decide +kernel
theorem dX8_round_9 : decode cX8_round 9 = .ok (.ireturn, 1) := by decide +kernel
theorem dX8_round_10 : decode cX8_round 10 = .ok (.aload_n 0, 1) := by decide +kernel
theorem dX8_round_11 : decode cX8_round 11 = .ok (.invokevirtual 231, 3) := by decide +kernel
theorem dX8_round_14 : decode cX8_round 14 = .ok (.istore_n 2, 1) := by decide +kernel
theorem dX8_round_15 : decode cX8_round 15 = .ok (.aload_n 0, 1) := by decide +kernel
theorem dX8_round_16 : decode cX8_round 16 = .ok (.getfield 59, 3) := by decide +kernel
theorem dX8_round_19 : decode cX8_round 19 = .ok (.iload_n 1, 1) := by decide +kernel
theorem dX8_round_20 : decode cX8_round 20 = .ok (.iaload, 1) := by decide +kernel
theorem dX8_round_21 : decode cX8_round 21 = .ok (.ireturn, 1) := by decide +kernel
theorem dX8_wires_0 : decode cX8_wires 0 = .ok (.iload_n 1, 1) := by decide +kernel
theorem dX8_wires_1 : decode cX8_wires 1 = .ok (.iconst 2, 1) := by decide +kernel
theorem dX8_wires_2 : decode cX8_wires 2 = .ok (.bipush 8, 2) := by decide +kernel
theorem dX8_wires_4 : decode cX8_wires 4 = .ok (.invokestatic 116, 3) := by decide +kernel
theorem dX8_wires_7 : decode cX8_wires 7 = .ok (.ifCond .ne 6, 3) := by decide +kernel
theorem dX8_wires_10 : decode cX8_wires 10 = .ok (.bipush (-2), 2) := by decide +kernel
theorem dX8_wires_12 : decode cX8_wires 12 = .ok (.ireturn, 1) := by decide +kernel
theorem dX8_wires_13 : decode cX8_wires 13 = .ok (.aload_n 0, 1) := by decide +kernel
theorem dX8_wires_14 : decode cX8_wires 14 = .ok (.getfield 234, 3) := by decide +kernel
theorem dX8_wires_17 : decode cX8_wires 17 = .ok (.istore_n 2, 1) := by decide +kernel
theorem dX8_wires_18 : decode cX8_wires 18 = .ok (.aload_n 0, 1) := by decide +kernel
theorem dX8_wires_19 : decode cX8_wires 19 = .ok (.iload_n 1, 1) := by decide +kernel
theorem dX8_wires_20 : decode cX8_wires 20 = .ok (.putfield 62, 3) := by decide +kernel
theorem dX8_wires_23 : decode cX8_wires 23 = .ok (.aload_n 0, 1) := by decide +kernel
theorem dX8_wires_24 : decode cX8_wires 24 = .ok (.iconst 0, 1) := by decide +kernel
theorem dX8_wires_25 : decode cX8_wires 25 = .ok (.putfield 234, 3) := by decide +kernel
theorem dX8_wires_28 : decode cX8_wires 28 = .ok (.iload_n 2, 1) := by decide +kernel
theorem dX8_wires_29 : decode cX8_wires 29 = .ok (.ireturn, 1) := by decide +kernel
theorem dX8_isWire_0 : decode cX8_isWire 0 = .ok (.iload_n 1, 1) := by decide +kernel
theorem dX8_isWire_1 : decode cX8_isWire 1 = .ok (.ifCond .lt 15, 3) := by decide +kernel
theorem dX8_isWire_4 : decode cX8_isWire 4 = .ok (.iload_n 1, 1) := by decide +kernel
theorem dX8_isWire_5 : decode cX8_isWire 5 = .ok (.aload_n 0, 1) := by decide +kernel
theorem dX8_isWire_6 : decode cX8_isWire 6 = .ok (.getfield 62, 3) := by decide +kernel
theorem dX8_isWire_9 : decode cX8_isWire 9 = .ok (.if_icmp .ge 7, 3) := by decide +kernel
theorem dX8_isWire_12 : decode cX8_isWire 12 = .ok (.iconst 1, 1) := by decide +kernel
theorem dX8_isWire_13 : decode cX8_isWire 13 = .ok (.goto 4, 3) := by decide +kernel
theorem dX8_isWire_16 : decode cX8_isWire 16 = .ok (.iconst 0, 1) := by decide +kernel
theorem dX8_isWire_17 : decode cX8_isWire 17 = .ok (.ireturn, 1) := by decide +kernel
theorem dX8_compare_0 : decode cX8_compare 0 = .ok (.aload_n 0, 1) := by decide +kernel
theorem dX8_compare_1 : decode cX8_compare 1 = .ok (.iload_n 1, 1) := by decide +kernel
theorem dX8_compare_2 : decode cX8_compare 2 = .ok (.invokevirtual 237, 3) := by decide +kernel
theorem dX8_compare_5 : decode cX8_compare 5 = .ok (.ifCond .eq 11, 3) := by decide +kernel
theorem dX8_compare_8 : decode cX8_compare 8 = .ok (.aload_n 0, 1) := by decide +kernel
theorem dX8_compare_9 : decode cX8_compare 9 = .ok (.iload_n 2, 1) := by decide +kernel
theorem dX8_compare_10 : decode cX8_compare 10 = .ok (.invokevirtual 237, 3) := by decide +kernel
theorem dX8_compare_13 : decode cX8_compare 13 = .ok (.ifCond .ne 5, 3) := by decide +kernel
theorem dX8_compare_16 : decode cX8_compare 16 = .ok (.iconst (-1), 1) := by decide +kernel
theorem dX8_compare_17 : decode cX8_compare 17 = .ok (.ireturn, 1) := by decide +kernel
theorem dX8_compare_18 : decode cX8_compare 18 = .ok (.iload_n 1, 1) := by decide +kernel
theorem dX8_compare_19 : decode cX8_compare 19 = .ok (.iload_n 2, 1) := by decide +kernel
theorem dX8_compare_20 : decode cX8_compare 20 = .ok (.if_icmp .ne 6, 3) := by decide +kernel
theorem dX8_compare_23 : decode cX8_compare 23 = .ok (.bipush (-2), 2) := by decide +kernel
theorem dX8_compare_25 : decode cX8_compare 25 = .ok (.ireturn, 1) := by decide +kernel
theorem dX8_compare_26 : decode cX8_compare 26 = .ok (.aload_n 0, 1) := by decide +kernel
theorem dX8_compare_27 : decode cX8_compare 27 = .ok (.getfield 234, 3) := by decide +kernel
theorem dX8_compare_30 : decode cX8_compare 30 = .ok (.bipush 30, 2) := by decide +kernel
theorem dX8_compare_32 : decode cX8_compare 32 = .ok (.if_icmp .ne 6, 3) := by decide +kernel
theorem dX8_compare_35 : decode cX8_compare 35 = .ok (.bipush (-4), 2) := by decide +kernel
theorem dX8_compare_37 : decode cX8_compare 37 = .ok (.ireturn, 1) := by decide +kernel
theorem dX8_compare_38 : decode cX8_compare 38 = .ok (.aload_n 0, 1) := by decide +kernel
theorem dX8_compare_39 : decode cX8_compare 39 = .ok (.getfield 65, 3) := by decide +kernel
theorem dX8_compare_42 : decode cX8_compare 42 = .ok (.aload_n 0, 1) := by decide +kernel
theorem dX8_compare_43 : decode cX8_compare 43 = .ok (.getfield 234, 3) := by decide +kernel
theorem dX8_compare_46 : decode cX8_compare 46 = .ok (.iload_n 1, 1) := by decide +kernel
theorem dX8_compare_47 : decode cX8_compare 47 = .ok (.iastore, 1) := by decide +kernel
theorem dX8_compare_48 : decode cX8_compare 48 = .ok (.aload_n 0, 1) := by decide +kernel
theorem dX8_compare_49 : decode cX8_compare 49 = .ok (.getfield 68, 3) := by decide +kernel
theorem dX8_compare_52 : decode cX8_compare 52 = .ok (.aload_n 0, 1) := by decide +kernel
theorem dX8_compare_53 : decode cX8_compare 53 = .ok (.getfield 234, 3) := by decide +kernel
theorem dX8_compare_56 : decode cX8_compare 56 = .ok (.iload_n 2, 1) := by decide +kernel
theorem dX8_compare_57 : decode cX8_compare 57 = .ok (.iastore, 1) := by decide +kernel
theorem dX8_compare_58 : decode cX8_compare 58 = .ok (.aload_n 0, 1) := by decide +kernel
theorem dX8_compare_59 : decode cX8_compare 59 = .ok (.dup, 1) := by decide +kernel
theorem dX8_compare_60 : decode cX8_compare 60 = .ok (.getfield 234, 3) := by decide +kernel
theorem dX8_compare_63 : decode cX8_compare 63 = .ok (.iconst 1, 1) := by decide +kernel
theorem dX8_compare_64 : decode cX8_compare 64 = .ok (.iadd, 1) := by decide +kernel
theorem dX8_compare_65 : decode cX8_compare 65 = .ok (.putfield 234, 3) := by decide +kernel
theorem dX8_compare_68 : decode cX8_compare 68 = .ok (.aload_n 0, 1) := by decide +kernel
theorem dX8_compare_69 : decode cX8_compare 69 = .ok (.getfield 234, 3) := by decide +kernel
theorem dX8_compare_72 : decode cX8_compare 72 = .ok (.iconst 1, 1) := by decide +kernel
theorem dX8_compare_73 : decode cX8_compare 73 = .ok (.isub, 1) := by decide +kernel
theorem dX8_compare_74 : decode cX8_compare 74 = .ok (.ireturn, 1) := by decide +kernel
theorem dX8_back_0 : decode cX8_back 0 = .ok (.aload_n 0, 1) := by decide +kernel
theorem dX8_back_1 : decode cX8_back 1 = .ok (.getfield 234, 3) := by decide +kernel
theorem dX8_back_4 : decode cX8_back 4 = .ok (.ifCond .ne 6, 3) := by decide +kernel
theorem dX8_back_7 : decode cX8_back 7 = .ok (.bipush (-3), 2) := by decide +kernel
theorem dX8_back_9 : decode cX8_back 9 = .ok (.ireturn, 1) := by decide +kernel
theorem dX8_back_10 : decode cX8_back 10 = .ok (.aload_n 0, 1) := by decide +kernel
theorem dX8_back_11 : decode cX8_back 11 = .ok (.dup, 1) := by decide +kernel
theorem dX8_back_12 : decode cX8_back 12 = .ok (.getfield 234, 3) := by decide +kernel
theorem dX8_back_15 : decode cX8_back 15 = .ok (.iconst 1, 1) := by decide +kernel
theorem dX8_back_16 : decode cX8_back 16 = .ok (.isub, 1) := by decide +kernel
theorem dX8_back_17 : decode cX8_back 17 = .ok (.putfield 234, 3) := by decide +kernel
theorem dX8_back_20 : decode cX8_back 20 = .ok (.aload_n 0, 1) := by decide +kernel
theorem dX8_back_21 : decode cX8_back 21 = .ok (.getfield 234, 3) := by decide +kernel
theorem dX8_back_24 : decode cX8_back 24 = .ok (.ireturn, 1) := by decide +kernel
theorem dX8_through_0 : decode cX8_through 0 = .ok (.iload_n 1, 1) := by decide +kernel
theorem dX8_through_1 : decode cX8_through 1 = .ok (.istore_n 3, 1) := by decide +kernel
theorem dX8_through_2 : decode cX8_through 2 = .ok (.iconst 0, 1) := by decide +kernel
theorem dX8_through_3 : decode cX8_through 3 = .ok (.istore 4, 2) := by decide +kernel
theorem dX8_through_5 : decode cX8_through 5 = .ok (.iload 4, 2) := by decide +kernel
theorem dX8_through_7 : decode cX8_through 7 = .ok (.iload_n 2, 1) := by decide +kernel
theorem dX8_through_8 : decode cX8_through 8 = .ok (.if_icmp .ge 58, 3) := by decide +kernel
theorem dX8_through_11 : decode cX8_through 11 = .ok (.aload_n 0, 1) := by decide +kernel
theorem dX8_through_12 : decode cX8_through 12 = .ok (.getfield 65, 3) := by decide +kernel
theorem dX8_through_15 : decode cX8_through 15 = .ok (.iload 4, 2) := by decide +kernel
theorem dX8_through_17 : decode cX8_through 17 = .ok (.iaload, 1) := by decide +kernel
theorem dX8_through_18 : decode cX8_through 18 = .ok (.istore 5, 2) := by decide +kernel
theorem dX8_through_20 : decode cX8_through 20 = .ok (.aload_n 0, 1) := by decide +kernel
theorem dX8_through_21 : decode cX8_through 21 = .ok (.getfield 68, 3) := by decide +kernel
theorem dX8_through_24 : decode cX8_through 24 = .ok (.iload 4, 2) := by decide +kernel
theorem dX8_through_26 : decode cX8_through 26 = .ok (.iaload, 1) := by decide +kernel
theorem dX8_through_27 : decode cX8_through 27 = .ok (.istore 6, 2) := by decide +kernel
theorem dX8_through_29 : decode cX8_through 29 = .ok (.iload_n 3, 1) := by decide +kernel
theorem dX8_through_30 : decode cX8_through 30 = .ok (.iload 5, 2) := by decide +kernel
theorem dX8_through_32 : decode cX8_through 32 = .ok (.ishr, 1) := by decide +kernel
theorem dX8_through_33 : decode cX8_through 33 = .ok (.iconst 1, 1) := by decide +kernel
theorem dX8_through_34 : decode cX8_through 34 = .ok (.iand, 1) := by decide +kernel
theorem dX8_through_35 : decode cX8_through 35 = .ok (.iconst 1, 1) := by decide +kernel
theorem dX8_through_36 : decode cX8_through 36 = .ok (.if_icmp .ne 24, 3) := by decide +kernel
theorem dX8_through_39 : decode cX8_through 39 = .ok (.iload_n 3, 1) := by decide +kernel
theorem dX8_through_40 : decode cX8_through 40 = .ok (.iload 6, 2) := by decide +kernel
theorem dX8_through_42 : decode cX8_through 42 = .ok (.ishr, 1) := by decide +kernel
theorem dX8_through_43 : decode cX8_through 43 = .ok (.iconst 1, 1) := by decide +kernel
theorem dX8_through_44 : decode cX8_through 44 = .ok (.iand, 1) := by decide +kernel
theorem dX8_through_45 : decode cX8_through 45 = .ok (.ifCond .ne 15, 3) := by decide +kernel
theorem dX8_through_48 : decode cX8_through 48 = .ok (.iload_n 3, 1) := by decide +kernel
theorem dX8_through_49 : decode cX8_through 49 = .ok (.iconst 1, 1) := by decide +kernel
theorem dX8_through_50 : decode cX8_through 50 = .ok (.iload 5, 2) := by decide +kernel
theorem dX8_through_52 : decode cX8_through 52 = .ok (.ishl, 1) := by decide +kernel
theorem dX8_through_53 : decode cX8_through 53 = .ok (.iconst 1, 1) := by decide +kernel
theorem dX8_through_54 : decode cX8_through 54 = .ok (.iload 6, 2) := by decide +kernel
theorem dX8_through_56 : decode cX8_through 56 = .ok (.ishl, 1) := by decide +kernel
theorem dX8_through_57 : decode cX8_through 57 = .ok (.ior, 1) := by decide +kernel
theorem dX8_through_58 : decode cX8_through 58 = .ok (.ixor, 1) := by decide +kernel
theorem dX8_through_59 : decode cX8_through 59 = .ok (.istore_n 3, 1) := by decide +kernel
theorem dX8_through_60 : decode cX8_through 60 = .ok (.iinc 4 1, 3) := by decide +kernel
theorem dX8_through_63 : decode cX8_through 63 = .ok (.goto (-58), 3) := by decide +kernel
theorem dX8_through_66 : decode cX8_through 66 = .ok (.iload_n 3, 1) := by decide +kernel
theorem dX8_through_67 : decode cX8_through 67 = .ok (.ireturn, 1) := by decide +kernel
theorem dX8_isInOrder_0 : decode cX8_isInOrder 0 = .ok (.iconst 0, 1) := by decide +kernel
theorem dX8_isInOrder_1 : decode cX8_isInOrder 1 = .ok (.istore_n 2, 1) := by decide +kernel
theorem dX8_isInOrder_2 : decode cX8_isInOrder 2 = .ok (.iload_n 2, 1) := by decide +kernel
theorem dX8_isInOrder_3 : decode cX8_isInOrder 3 = .ok (.iconst 1, 1) := by decide +kernel
theorem dX8_isInOrder_4 : decode cX8_isInOrder 4 = .ok (.iadd, 1) := by decide +kernel
theorem dX8_isInOrder_5 : decode cX8_isInOrder 5 = .ok (.aload_n 0, 1) := by decide +kernel
theorem dX8_isInOrder_6 : decode cX8_isInOrder 6 = .ok (.getfield 62, 3) := by decide +kernel
theorem dX8_isInOrder_9 : decode cX8_isInOrder 9 = .ok (.if_icmp .ge 26, 3) := by decide +kernel
theorem dX8_isInOrder_12 : decode cX8_isInOrder 12 = .ok (.iload_n 1, 1) := by decide +kernel
theorem dX8_isInOrder_13 : decode cX8_isInOrder 13 = .ok (.iload_n 2, 1) := by decide +kernel
theorem dX8_isInOrder_14 : decode cX8_isInOrder 14 = .ok (.ishr, 1) := by decide +kernel
theorem dX8_isInOrder_15 : decode cX8_isInOrder 15 = .ok (.iconst 1, 1) := by decide +kernel
theorem dX8_isInOrder_16 : decode cX8_isInOrder 16 = .ok (.iand, 1) := by decide +kernel
theorem dX8_isInOrder_17 : decode cX8_isInOrder 17 = .ok (.iload_n 1, 1) := by decide +kernel
theorem dX8_isInOrder_18 : decode cX8_isInOrder 18 = .ok (.iload_n 2, 1) := by decide +kernel
theorem dX8_isInOrder_19 : decode cX8_isInOrder 19 = .ok (.iconst 1, 1) := by decide +kernel
theorem dX8_isInOrder_20 : decode cX8_isInOrder 20 = .ok (.iadd, 1) := by decide +kernel
theorem dX8_isInOrder_21 : decode cX8_isInOrder 21 = .ok (.ishr, 1) := by decide +kernel
theorem dX8_isInOrder_22 : decode cX8_isInOrder 22 = .ok (.iconst 1, 1) := by decide +kernel
theorem dX8_isInOrder_23 : decode cX8_isInOrder 23 = .ok (.iand, 1) := by decide +kernel
theorem dX8_isInOrder_24 : decode cX8_isInOrder 24 = .ok (.if_icmp .le 5, 3) := by decide +kernel
theorem dX8_isInOrder_27 : decode cX8_isInOrder 27 = .ok (.iconst 0, 1) := by decide +kernel
theorem dX8_isInOrder_28 : decode cX8_isInOrder 28 = .ok (.ireturn, 1) := by decide +kernel
theorem dX8_isInOrder_29 : decode cX8_isInOrder 29 = .ok (.iinc 2 1, 3) := by decide +kernel
theorem dX8_isInOrder_32 : decode cX8_isInOrder 32 = .ok (.goto (-30), 3) := by decide +kernel
theorem dX8_isInOrder_35 : decode cX8_isInOrder 35 = .ok (.iconst 1, 1) := by decide +kernel
theorem dX8_isInOrder_36 : decode cX8_isInOrder 36 = .ok (.ireturn, 1) := by decide +kernel
theorem dX8_isIdle_0 : decode cX8_isIdle 0 = .ok (.iconst 0, 1) := by decide +kernel
theorem dX8_isIdle_1 : decode cX8_isIdle 1 = .ok (.istore_n 2, 1) := by decide +kernel
theorem dX8_isIdle_2 : decode cX8_isIdle 2 = .ok (.iload_n 2, 1) := by decide +kernel
theorem dX8_isIdle_3 : decode cX8_isIdle 3 = .ok (.iconst 1, 1) := by decide +kernel
theorem dX8_isIdle_4 : decode cX8_isIdle 4 = .ok (.aload_n 0, 1) := by decide +kernel
theorem dX8_isIdle_5 : decode cX8_isIdle 5 = .ok (.getfield 62, 3) := by decide +kernel
theorem dX8_isIdle_8 : decode cX8_isIdle 8 = .ok (.ishl, 1) := by decide +kernel
theorem dX8_isIdle_9 : decode cX8_isIdle 9 = .ok (.if_icmp .ge 45, 3) := by decide +kernel
theorem dX8_isIdle_12 : decode cX8_isIdle 12 = .ok (.aload_n 0, 1) := by decide +kernel
theorem dX8_isIdle_13 : decode cX8_isIdle 13 = .ok (.iload_n 2, 1) := by decide +kernel
theorem dX8_isIdle_14 : decode cX8_isIdle 14 = .ok (.iload_n 1, 1) := by decide +kernel
theorem dX8_isIdle_15 : decode cX8_isIdle 15 = .ok (.invokevirtual 240, 3) := by decide +kernel
theorem dX8_isIdle_18 : decode cX8_isIdle 18 = .ok (.istore_n 3, 1) := by decide +kernel
theorem dX8_isIdle_19 : decode cX8_isIdle 19 = .ok (.iload_n 3, 1) := by decide +kernel
theorem dX8_isIdle_20 : decode cX8_isIdle 20 = .ok (.aload_n 0, 1) := by decide +kernel
theorem dX8_isIdle_21 : decode cX8_isIdle 21 = .ok (.getfield 65, 3) := by decide +kernel
theorem dX8_isIdle_24 : decode cX8_isIdle 24 = .ok (.iload_n 1, 1) := by decide +kernel
theorem dX8_isIdle_25 : decode cX8_isIdle 25 = .ok (.iaload, 1) := by decide +kernel
theorem dX8_isIdle_26 : decode cX8_isIdle 26 = .ok (.ishr, 1) := by decide +kernel
theorem dX8_isIdle_27 : decode cX8_isIdle 27 = .ok (.iconst 1, 1) := by decide +kernel
theorem dX8_isIdle_28 : decode cX8_isIdle 28 = .ok (.iand, 1) := by decide +kernel
theorem dX8_isIdle_29 : decode cX8_isIdle 29 = .ok (.iconst 1, 1) := by decide +kernel
theorem dX8_isIdle_30 : decode cX8_isIdle 30 = .ok (.if_icmp .ne 18, 3) := by decide +kernel
theorem dX8_isIdle_33 : decode cX8_isIdle 33 = .ok (.iload_n 3, 1) := by decide +kernel
theorem dX8_isIdle_34 : decode cX8_isIdle 34 = .ok (.aload_n 0, 1) := by decide +kernel
theorem dX8_isIdle_35 : decode cX8_isIdle 35 = .ok (.getfield 68, 3) := by decide +kernel
theorem dX8_isIdle_38 : decode cX8_isIdle 38 = .ok (.iload_n 1, 1) := by decide +kernel
theorem dX8_isIdle_39 : decode cX8_isIdle 39 = .ok (.iaload, 1) := by decide +kernel
theorem dX8_isIdle_40 : decode cX8_isIdle 40 = .ok (.ishr, 1) := by decide +kernel
theorem dX8_isIdle_41 : decode cX8_isIdle 41 = .ok (.iconst 1, 1) := by decide +kernel
theorem dX8_isIdle_42 : decode cX8_isIdle 42 = .ok (.iand, 1) := by decide +kernel
theorem dX8_isIdle_43 : decode cX8_isIdle 43 = .ok (.ifCond .ne 5, 3) := by decide +kernel
theorem dX8_isIdle_46 : decode cX8_isIdle 46 = .ok (.iconst 0, 1) := by decide +kernel
theorem dX8_isIdle_47 : decode cX8_isIdle 47 = .ok (.ireturn, 1) := by decide +kernel
theorem dX8_isIdle_48 : decode cX8_isIdle 48 = .ok (.iinc 2 1, 3) := by decide +kernel
theorem dX8_isIdle_51 : decode cX8_isIdle 51 = .ok (.goto (-49), 3) := by decide +kernel
theorem dX8_isIdle_54 : decode cX8_isIdle 54 = .ok (.iconst 1, 1) := by decide +kernel
theorem dX8_isIdle_55 : decode cX8_isIdle 55 = .ok (.ireturn, 1) := by decide +kernel
theorem dX8_step_0 : decode cX8_step 0 = .ok (.iconst 0, 1) := by decide +kernel
theorem dX8_step_1 : decode cX8_step 1 = .ok (.istore_n 2, 1) := by decide +kernel
theorem dX8_step_2 : decode cX8_step 2 = .ok (.iconst 0, 1) := by decide +kernel
theorem dX8_step_3 : decode cX8_step 3 = .ok (.istore_n 3, 1) := by decide +kernel
theorem dX8_step_4 : decode cX8_step 4 = .ok (.iload_n 3, 1) := by decide +kernel
theorem dX8_step_5 : decode cX8_step 5 = .ok (.bipush 8, 2) := by decide +kernel
theorem dX8_step_7 : decode cX8_step 7 = .ok (.if_icmp .ge 16, 3) := by decide +kernel
theorem dX8_step_10 : decode cX8_step 10 = .ok (.aload_n 0, 1) := by decide +kernel
theorem dX8_step_11 : decode cX8_step 11 = .ok (.getfield 71, 3) := by decide +kernel
theorem dX8_step_14 : decode cX8_step 14 = .ok (.iload_n 3, 1) := by decide +kernel
theorem dX8_step_15 : decode cX8_step 15 = .ok (.iconst 0, 1) := by decide +kernel
theorem dX8_step_16 : decode cX8_step 16 = .ok (.iastore, 1) := by decide +kernel
theorem dX8_step_17 : decode cX8_step 17 = .ok (.iinc 3 1, 3) := by decide +kernel
theorem dX8_step_20 : decode cX8_step 20 = .ok (.goto (-16), 3) := by decide +kernel
theorem dX8_step_23 : decode cX8_step 23 = .ok (.iconst 0, 1) := by decide +kernel
theorem dX8_step_24 : decode cX8_step 24 = .ok (.istore_n 3, 1) := by decide +kernel
theorem dX8_step_25 : decode cX8_step 25 = .ok (.iload_n 3, 1) := by decide +kernel
theorem dX8_step_26 : decode cX8_step 26 = .ok (.aload_n 0, 1) := by decide +kernel
theorem dX8_step_27 : decode cX8_step 27 = .ok (.getfield 234, 3) := by decide +kernel
theorem dX8_step_30 : decode cX8_step 30 = .ok (.if_icmp .ge 116, 3) := by decide +kernel
theorem dX8_step_33 : decode cX8_step 33 = .ok (.aload_n 0, 1) := by decide +kernel
theorem dX8_step_34 : decode cX8_step 34 = .ok (.getfield 71, 3) := by decide +kernel
theorem dX8_step_37 : decode cX8_step 37 = .ok (.aload_n 0, 1) := by decide +kernel
theorem dX8_step_38 : decode cX8_step 38 = .ok (.getfield 65, 3) := by decide +kernel
theorem dX8_step_41 : decode cX8_step 41 = .ok (.iload_n 3, 1) := by decide +kernel
theorem dX8_step_42 : decode cX8_step 42 = .ok (.iaload, 1) := by decide +kernel
theorem dX8_step_43 : decode cX8_step 43 = .ok (.iaload, 1) := by decide +kernel
theorem dX8_step_44 : decode cX8_step 44 = .ok (.aload_n 0, 1) := by decide +kernel
theorem dX8_step_45 : decode cX8_step 45 = .ok (.getfield 71, 3) := by decide +kernel
theorem dX8_step_48 : decode cX8_step 48 = .ok (.aload_n 0, 1) := by decide +kernel
theorem dX8_step_49 : decode cX8_step 49 = .ok (.getfield 68, 3) := by decide +kernel
theorem dX8_step_52 : decode cX8_step 52 = .ok (.iload_n 3, 1) := by decide +kernel
theorem dX8_step_53 : decode cX8_step 53 = .ok (.iaload, 1) := by decide +kernel
theorem dX8_step_54 : decode cX8_step 54 = .ok (.iaload, 1) := by decide +kernel
theorem dX8_step_55 : decode cX8_step 55 = .ok (.if_icmp .le 17, 3) := by decide +kernel
theorem dX8_step_58 : decode cX8_step 58 = .ok (.aload_n 0, 1) := by decide +kernel
theorem dX8_step_59 : decode cX8_step 59 = .ok (.getfield 71, 3) := by decide +kernel
theorem dX8_step_62 : decode cX8_step 62 = .ok (.aload_n 0, 1) := by decide +kernel
theorem dX8_step_63 : decode cX8_step 63 = .ok (.getfield 65, 3) := by decide +kernel
theorem dX8_step_66 : decode cX8_step 66 = .ok (.iload_n 3, 1) := by decide +kernel
theorem dX8_step_67 : decode cX8_step 67 = .ok (.iaload, 1) := by decide +kernel
theorem dX8_step_68 : decode cX8_step 68 = .ok (.iaload, 1) := by decide +kernel
theorem dX8_step_69 : decode cX8_step 69 = .ok (.goto 14, 3) := by decide +kernel
theorem dX8_step_72 : decode cX8_step 72 = .ok (.aload_n 0, 1) := by decide +kernel
theorem dX8_step_73 : decode cX8_step 73 = .ok (.getfield 71, 3) := by decide +kernel
theorem dX8_step_76 : decode cX8_step 76 = .ok (.aload_n 0, 1) := by decide +kernel
theorem dX8_step_77 : decode cX8_step 77 = .ok (.getfield 68, 3) := by decide +kernel
theorem dX8_step_80 : decode cX8_step 80 = .ok (.iload_n 3, 1) := by decide +kernel
theorem dX8_step_81 : decode cX8_step 81 = .ok (.iaload, 1) := by decide +kernel
theorem dX8_step_82 : decode cX8_step 82 = .ok (.iaload, 1) := by decide +kernel
theorem dX8_step_83 : decode cX8_step 83 = .ok (.istore 4, 2) := by decide +kernel
theorem dX8_step_85 : decode cX8_step 85 = .ok (.iload_n 3, 1) := by decide +kernel
theorem dX8_step_86 : decode cX8_step 86 = .ok (.iload_n 1, 1) := by decide +kernel
theorem dX8_step_87 : decode cX8_step 87 = .ok (.if_icmp .ne 6, 3) := by decide +kernel
theorem dX8_step_90 : decode cX8_step 90 = .ok (.iload 4, 2) := by decide +kernel
theorem dX8_step_92 : decode cX8_step 92 = .ok (.ireturn, 1) := by decide +kernel
theorem dX8_step_93 : decode cX8_step 93 = .ok (.aload_n 0, 1) := by decide +kernel
theorem dX8_step_94 : decode cX8_step 94 = .ok (.getfield 71, 3) := by decide +kernel
theorem dX8_step_97 : decode cX8_step 97 = .ok (.aload_n 0, 1) := by decide +kernel
theorem dX8_step_98 : decode cX8_step 98 = .ok (.getfield 65, 3) := by decide +kernel
theorem dX8_step_101 : decode cX8_step 101 = .ok (.iload_n 3, 1) := by decide +kernel
theorem dX8_step_102 : decode cX8_step 102 = .ok (.iaload, 1) := by decide +kernel
theorem dX8_step_103 : decode cX8_step 103 = .ok (.iload 4, 2) := by decide +kernel
theorem dX8_step_105 : decode cX8_step 105 = .ok (.iconst 1, 1) := by decide +kernel
theorem dX8_step_106 : decode cX8_step 106 = .ok (.iadd, 1) := by decide +kernel
theorem dX8_step_107 : decode cX8_step 107 = .ok (.iastore, 1) := by decide +kernel
theorem dX8_step_108 : decode cX8_step 108 = .ok (.aload_n 0, 1) := by decide +kernel
theorem dX8_step_109 : decode cX8_step 109 = .ok (.getfield 71, 3) := by decide +kernel
theorem dX8_step_112 : decode cX8_step 112 = .ok (.aload_n 0, 1) := by decide +kernel
theorem dX8_step_113 : decode cX8_step 113 = .ok (.getfield 68, 3) := by decide +kernel
theorem dX8_step_116 : decode cX8_step 116 = .ok (.iload_n 3, 1) := by decide +kernel
theorem dX8_step_117 : decode cX8_step 117 = .ok (.iaload, 1) := by decide +kernel
theorem dX8_step_118 : decode cX8_step 118 = .ok (.iload 4, 2) := by decide +kernel
theorem dX8_step_120 : decode cX8_step 120 = .ok (.iconst 1, 1) := by decide +kernel
theorem dX8_step_121 : decode cX8_step 121 = .ok (.iadd, 1) := by decide +kernel
theorem dX8_step_122 : decode cX8_step 122 = .ok (.iastore, 1) := by decide +kernel
theorem dX8_step_123 : decode cX8_step 123 = .ok (.iload 4, 2) := by decide +kernel
theorem dX8_step_125 : decode cX8_step 125 = .ok (.iconst 1, 1) := by decide +kernel
theorem dX8_step_126 : decode cX8_step 126 = .ok (.iadd, 1) := by decide +kernel
theorem dX8_step_127 : decode cX8_step 127 = .ok (.iload_n 2, 1) := by decide +kernel
theorem dX8_step_128 : decode cX8_step 128 = .ok (.if_icmp .le 10, 3) := by decide +kernel
theorem dX8_step_131 : decode cX8_step 131 = .ok (.iload 4, 2) := by decide +kernel
theorem dX8_step_133 : decode cX8_step 133 = .ok (.iconst 1, 1) := by decide +kernel
theorem dX8_step_134 : decode cX8_step 134 = .ok (.iadd, 1) := by decide +kernel
theorem dX8_step_135 : decode cX8_step 135 = .ok (.goto 4, 3) := by decide +kernel
theorem dX8_step_138 : decode cX8_step 138 = .ok (.iload_n 2, 1) := by decide +kernel
theorem dX8_step_139 : decode cX8_step 139 = .ok (.istore_n 2, 1) := by decide +kernel
theorem dX8_step_140 : decode cX8_step 140 = .ok (.iinc 3 1, 3) := by decide +kernel
theorem dX8_step_143 : decode cX8_step 143 = .ok (.goto (-118), 3) := by decide +kernel
theorem dX8_step_146 : decode cX8_step 146 = .ok (.iload_n 2, 1) := by decide +kernel
theorem dX8_step_147 : decode cX8_step 147 = .ok (.ireturn, 1) := by decide +kernel
theorem dX8_sorter_0 : decode cX8_sorter 0 = .ok (.iload_n 1, 1) := by decide +kernel
theorem dX8_sorter_1 : decode cX8_sorter 1 = .ok (.iconst 0, 1) := by decide +kernel
theorem dX8_sorter_2 : decode cX8_sorter 2 = .ok (.iconst 5, 1) := by decide +kernel
theorem dX8_sorter_3 : decode cX8_sorter 3 = .ok (.invokestatic 116, 3) := by decide +kernel
theorem dX8_sorter_6 : decode cX8_sorter 6 = .ok (.ifCond .ne 6, 3) := by decide +kernel
theorem dX8_sorter_9 : decode cX8_sorter 9 = .ok (.bipush (-2), 2) := by decide +kernel
theorem dX8_sorter_11 : decode cX8_sorter 11 = .ok (.ireturn, 1) := by decide +kernel
theorem dX8_sorter_12 : decode cX8_sorter 12 = .ok (.iload_n 1, 1) := by decide +kernel
theorem dX8_sorter_13 : decode cX8_sorter 13 = .ok (.iconst 2, 1) := by decide +kernel
theorem dX8_sorter_14 : decode cX8_sorter 14 = .ok (.if_icmp .ge 23, 3) := by decide +kernel
theorem dX8_sorter_17 : decode cX8_sorter 17 = .ok (.iload_n 1, 1) := by decide +kernel
theorem dX8_sorter_18 : decode cX8_sorter 18 = .ok (.ifCond .ne 10, 3) := by decide +kernel
theorem dX8_sorter_21 : decode cX8_sorter 21 = .ok (.aload_n 0, 1) := by decide +kernel
theorem dX8_sorter_22 : decode cX8_sorter 22 = .ok (.getfield 234, 3) := by decide +kernel
theorem dX8_sorter_25 : decode cX8_sorter 25 = .ok (.goto 11, 3) := by decide +kernel
theorem dX8_sorter_28 : decode cX8_sorter 28 = .ok (.aload_n 0, 1) := by decide +kernel
theorem dX8_sorter_29 : decode cX8_sorter 29 = .ok (.aload_n 0, 1) := by decide +kernel
theorem dX8_sorter_30 : decode cX8_sorter 30 = .ok (.getfield 234, 3) := by decide +kernel
theorem dX8_sorter_33 : decode cX8_sorter 33 = .ok (.invokevirtual 243, 3) := by decide +kernel
theorem dX8_sorter_36 : decode cX8_sorter 36 = .ok (.ireturn, 1) := by decide +kernel
theorem dX8_sorter_37 : decode cX8_sorter 37 = .ok (.iconst 0, 1) := by decide +kernel
theorem dX8_sorter_38 : decode cX8_sorter 38 = .ok (.istore_n 2, 1) := by decide +kernel
theorem dX8_sorter_39 : decode cX8_sorter 39 = .ok (.iload_n 1, 1) := by decide +kernel
theorem dX8_sorter_40 : decode cX8_sorter 40 = .ok (.iconst 5, 1) := by decide +kernel
theorem dX8_sorter_41 : decode cX8_sorter 41 = .ok (.if_icmp .ne 37, 3) := by decide +kernel
theorem dX8_sorter_44 : decode cX8_sorter 44 = .ok (.iconst 0, 1) := by decide +kernel
theorem dX8_sorter_45 : decode cX8_sorter 45 = .ok (.istore_n 3, 1) := by decide +kernel
theorem dX8_sorter_46 : decode cX8_sorter 46 = .ok (.iload_n 3, 1) := by decide +kernel
theorem dX8_sorter_47 : decode cX8_sorter 47 = .ok (.aload_n 0, 1) := by decide +kernel
theorem dX8_sorter_48 : decode cX8_sorter 48 = .ok (.getfield 234, 3) := by decide +kernel
theorem dX8_sorter_51 : decode cX8_sorter 51 = .ok (.if_icmp .ge 25, 3) := by decide +kernel
theorem dX8_sorter_54 : decode cX8_sorter 54 = .ok (.iload_n 2, 1) := by decide +kernel
theorem dX8_sorter_55 : decode cX8_sorter 55 = .ok (.aload_n 0, 1) := by decide +kernel
theorem dX8_sorter_56 : decode cX8_sorter 56 = .ok (.iload_n 3, 1) := by decide +kernel
theorem dX8_sorter_57 : decode cX8_sorter 57 = .ok (.invokevirtual 246, 3) := by decide +kernel
theorem dX8_sorter_60 : decode cX8_sorter 60 = .ok (.ifCond .eq 7, 3) := by decide +kernel
theorem dX8_sorter_63 : decode cX8_sorter 63 = .ok (.iconst 1, 1) := by decide +kernel
theorem dX8_sorter_64 : decode cX8_sorter 64 = .ok (.goto 4, 3) := by decide +kernel
theorem dX8_sorter_67 : decode cX8_sorter 67 = .ok (.iconst 0, 1) := by decide +kernel
theorem dX8_sorter_68 : decode cX8_sorter 68 = .ok (.iadd, 1) := by decide +kernel
theorem dX8_sorter_69 : decode cX8_sorter 69 = .ok (.istore_n 2, 1) := by decide +kernel
theorem dX8_sorter_70 : decode cX8_sorter 70 = .ok (.iinc 3 1, 3) := by decide +kernel
theorem dX8_sorter_73 : decode cX8_sorter 73 = .ok (.goto (-27), 3) := by decide +kernel
theorem dX8_sorter_76 : decode cX8_sorter 76 = .ok (.iload_n 2, 1) := by decide +kernel
theorem dX8_sorter_77 : decode cX8_sorter 77 = .ok (.ireturn, 1) := by decide +kernel
theorem dX8_sorter_78 : decode cX8_sorter 78 = .ok (.bipush (-9), 2) := by decide +kernel
theorem dX8_sorter_80 : decode cX8_sorter 80 = .ok (.istore_n 3, 1) := by decide +kernel
theorem dX8_sorter_81 : decode cX8_sorter 81 = .ok (.iconst 1, 1) := by decide +kernel
theorem dX8_sorter_82 : decode cX8_sorter 82 = .ok (.aload_n 0, 1) := by decide +kernel
theorem dX8_sorter_83 : decode cX8_sorter 83 = .ok (.getfield 62, 3) := by decide +kernel
theorem dX8_sorter_86 : decode cX8_sorter 86 = .ok (.ishl, 1) := by decide +kernel
theorem dX8_sorter_87 : decode cX8_sorter 87 = .ok (.iconst 1, 1) := by decide +kernel
theorem dX8_sorter_88 : decode cX8_sorter 88 = .ok (.isub, 1) := by decide +kernel
theorem dX8_sorter_89 : decode cX8_sorter 89 = .ok (.istore 4, 2) := by decide +kernel
theorem dX8_sorter_91 : decode cX8_sorter 91 = .ok (.iload 4, 2) := by decide +kernel
theorem dX8_sorter_93 : decode cX8_sorter 93 = .ok (.ifCond .lt 35, 3) := by decide +kernel
theorem dX8_sorter_96 : decode cX8_sorter 96 = .ok (.aload_n 0, 1) := by decide +kernel
theorem dX8_sorter_97 : decode cX8_sorter 97 = .ok (.aload_n 0, 1) := by decide +kernel
theorem dX8_sorter_98 : decode cX8_sorter 98 = .ok (.iload 4, 2) := by decide +kernel
theorem dX8_sorter_100 : decode cX8_sorter 100 = .ok (.aload_n 0, 1) := by decide +kernel
theorem dX8_sorter_101 : decode cX8_sorter 101 = .ok (.getfield 234, 3) := by decide +kernel
theorem dX8_sorter_104 : decode cX8_sorter 104 = .ok (.invokevirtual 240, 3) := by decide +kernel
theorem dX8_sorter_107 : decode cX8_sorter 107 = .ok (.invokevirtual 249, 3) := by decide +kernel
theorem dX8_sorter_110 : decode cX8_sorter 110 = .ok (.ifCond .eq 9, 3) := by decide +kernel
theorem dX8_sorter_113 : decode cX8_sorter 113 = .ok (.iinc 2 1, 3) := by decide +kernel
theorem dX8_sorter_116 : decode cX8_sorter 116 = .ok (.goto 6, 3) := by decide +kernel
theorem dX8_sorter_119 : decode cX8_sorter 119 = .ok (.iload 4, 2) := by decide +kernel
theorem dX8_sorter_121 : decode cX8_sorter 121 = .ok (.istore_n 3, 1) := by decide +kernel
theorem dX8_sorter_122 : decode cX8_sorter 122 = .ok (.iinc 4 (-1), 3) := by decide +kernel
theorem dX8_sorter_125 : decode cX8_sorter 125 = .ok (.goto (-34), 3) := by decide +kernel
theorem dX8_sorter_128 : decode cX8_sorter 128 = .ok (.iload_n 1, 1) := by decide +kernel
theorem dX8_sorter_129 : decode cX8_sorter 129 = .ok (.iconst 2, 1) := by decide +kernel
theorem dX8_sorter_130 : decode cX8_sorter 130 = .ok (.if_icmp .ne 17, 3) := by decide +kernel
theorem dX8_sorter_133 : decode cX8_sorter 133 = .ok (.iload_n 3, 1) := by decide +kernel
theorem dX8_sorter_134 : decode cX8_sorter 134 = .ok (.bipush (-9), 2) := by decide +kernel
theorem dX8_sorter_136 : decode cX8_sorter 136 = .ok (.if_icmp .ne 7, 3) := by decide +kernel
theorem dX8_sorter_139 : decode cX8_sorter 139 = .ok (.iconst 1, 1) := by decide +kernel
theorem dX8_sorter_140 : decode cX8_sorter 140 = .ok (.goto 17, 3) := by decide +kernel
theorem dX8_sorter_143 : decode cX8_sorter 143 = .ok (.iconst 0, 1) := by decide +kernel
theorem dX8_sorter_144 : decode cX8_sorter 144 = .ok (.goto 13, 3) := by decide +kernel
theorem dX8_sorter_147 : decode cX8_sorter 147 = .ok (.iload_n 1, 1) := by decide +kernel
theorem dX8_sorter_148 : decode cX8_sorter 148 = .ok (.iconst 3, 1) := by decide +kernel
theorem dX8_sorter_149 : decode cX8_sorter 149 = .ok (.if_icmp .ne 7, 3) := by decide +kernel
theorem dX8_sorter_152 : decode cX8_sorter 152 = .ok (.iload_n 3, 1) := by decide +kernel
theorem dX8_sorter_153 : decode cX8_sorter 153 = .ok (.goto 4, 3) := by decide +kernel
theorem dX8_sorter_156 : decode cX8_sorter 156 = .ok (.iload_n 2, 1) := by decide +kernel
theorem dX8_sorter_157 : decode cX8_sorter 157 = .ok (.ireturn, 1) := by decide +kernel
theorem dX8_isComparer_0 : decode cX8_isComparer 0 = .ok (.iload_n 1, 1) := by decide +kernel
theorem dX8_isComparer_1 : decode cX8_isComparer 1 = .ok (.ifCond .lt 15, 3) := by decide +kernel
theorem dX8_isComparer_4 : decode cX8_isComparer 4 = .ok (.iload_n 1, 1) := by decide +kernel
theorem dX8_isComparer_5 : decode cX8_isComparer 5 = .ok (.aload_n 0, 1) := by decide +kernel
theorem dX8_isComparer_6 : decode cX8_isComparer 6 = .ok (.getfield 234, 3) := by decide +kernel
theorem dX8_isComparer_9 : decode cX8_isComparer 9 = .ok (.if_icmp .ge 7, 3) := by decide +kernel
theorem dX8_isComparer_12 : decode cX8_isComparer 12 = .ok (.iconst 1, 1) := by decide +kernel
theorem dX8_isComparer_13 : decode cX8_isComparer 13 = .ok (.goto 4, 3) := by decide +kernel
theorem dX8_isComparer_16 : decode cX8_isComparer 16 = .ok (.iconst 0, 1) := by decide +kernel
theorem dX8_isComparer_17 : decode cX8_isComparer 17 = .ok (.ireturn, 1) := by decide +kernel
theorem dX8_kindOf_0 : decode cX8_kindOf 0 = .ok (.aload_n 0, 1) := by decide +kernel
theorem dX8_kindOf_1 : decode cX8_kindOf 1 = .ok (.getfield 65, 3) := by decide +kernel
theorem dX8_kindOf_4 : decode cX8_kindOf 4 = .ok (.iload_n 1, 1) := by decide +kernel
theorem dX8_kindOf_5 : decode cX8_kindOf 5 = .ok (.iaload, 1) := by decide +kernel
theorem dX8_kindOf_6 : decode cX8_kindOf 6 = .ok (.aload_n 0, 1) := by decide +kernel
theorem dX8_kindOf_7 : decode cX8_kindOf 7 = .ok (.getfield 68, 3) := by decide +kernel
theorem dX8_kindOf_10 : decode cX8_kindOf 10 = .ok (.iload_n 1, 1) := by decide +kernel
theorem dX8_kindOf_11 : decode cX8_kindOf 11 = .ok (.iaload, 1) := by decide +kernel
theorem dX8_kindOf_12 : decode cX8_kindOf 12 = .ok (.if_icmp .le 7, 3) := by decide +kernel
theorem dX8_kindOf_15 : decode cX8_kindOf 15 = .ok (.iconst 2, 1) := by decide +kernel
theorem dX8_kindOf_16 : decode cX8_kindOf 16 = .ok (.goto 25, 3) := by decide +kernel
theorem dX8_kindOf_19 : decode cX8_kindOf 19 = .ok (.aload_n 0, 1) := by decide +kernel
theorem dX8_kindOf_20 : decode cX8_kindOf 20 = .ok (.getfield 68, 3) := by decide +kernel
theorem dX8_kindOf_23 : decode cX8_kindOf 23 = .ok (.iload_n 1, 1) := by decide +kernel
theorem dX8_kindOf_24 : decode cX8_kindOf 24 = .ok (.iaload, 1) := by decide +kernel
theorem dX8_kindOf_25 : decode cX8_kindOf 25 = .ok (.aload_n 0, 1) := by decide +kernel
theorem dX8_kindOf_26 : decode cX8_kindOf 26 = .ok (.getfield 65, 3) := by decide +kernel
theorem dX8_kindOf_29 : decode cX8_kindOf 29 = .ok (.iload_n 1, 1) := by decide +kernel
theorem dX8_kindOf_30 : decode cX8_kindOf 30 = .ok (.iaload, 1) := by decide +kernel
theorem dX8_kindOf_31 : decode cX8_kindOf 31 = .ok (.isub, 1) := by decide +kernel
theorem dX8_kindOf_32 : decode cX8_kindOf 32 = .ok (.iconst 1, 1) := by decide +kernel
theorem dX8_kindOf_33 : decode cX8_kindOf 33 = .ok (.if_icmp .le 7, 3) := by decide +kernel
theorem dX8_kindOf_36 : decode cX8_kindOf 36 = .ok (.iconst 1, 1) := by decide +kernel
theorem dX8_kindOf_37 : decode cX8_kindOf 37 = .ok (.goto 4, 3) := by decide +kernel
theorem dX8_kindOf_40 : decode cX8_kindOf 40 = .ok (.iconst 0, 1) := by decide +kernel
theorem dX8_kindOf_41 : decode cX8_kindOf 41 = .ok (.ireturn, 1) := by decide +kernel
theorem dX8_comparer_0 : decode cX8_comparer 0 = .ok (.aload_n 0, 1) := by decide +kernel
theorem dX8_comparer_1 : decode cX8_comparer 1 = .ok (.iload_n 1, 1) := by decide +kernel
theorem dX8_comparer_2 : decode cX8_comparer 2 = .ok (.invokevirtual 252, 3) := by decide +kernel
theorem dX8_comparer_5 : decode cX8_comparer 5 = .ok (.ifCond .ne 5, 3) := by decide +kernel
theorem dX8_comparer_8 : decode cX8_comparer 8 = .ok (.iconst (-1), 1) := by decide +kernel
theorem dX8_comparer_9 : decode cX8_comparer 9 = .ok (.ireturn, 1) := by decide +kernel
theorem dX8_comparer_10 : decode cX8_comparer 10 = .ok (.iload_n 2, 1) := by decide +kernel
theorem dX8_comparer_11 : decode cX8_comparer 11 = .ok (.tableswitch 73 0 4 #[33, 40, 47, 53, 67], 33) := by decide +kernel
theorem dX8_comparer_44 : decode cX8_comparer 44 = .ok (.aload_n 0, 1) := by decide +kernel
theorem dX8_comparer_45 : decode cX8_comparer 45 = .ok (.getfield 65, 3) := by decide +kernel
theorem dX8_comparer_48 : decode cX8_comparer 48 = .ok (.iload_n 1, 1) := by decide +kernel
theorem dX8_comparer_49 : decode cX8_comparer 49 = .ok (.iaload, 1) := by decide +kernel
theorem dX8_comparer_50 : decode cX8_comparer 50 = .ok (.ireturn, 1) := by decide +kernel
theorem dX8_comparer_51 : decode cX8_comparer 51 = .ok (.aload_n 0, 1) := by decide +kernel
theorem dX8_comparer_52 : decode cX8_comparer 52 = .ok (.getfield 68, 3) := by decide +kernel
theorem dX8_comparer_55 : decode cX8_comparer 55 = .ok (.iload_n 1, 1) := by decide +kernel
theorem dX8_comparer_56 : decode cX8_comparer 56 = .ok (.iaload, 1) := by decide +kernel
theorem dX8_comparer_57 : decode cX8_comparer 57 = .ok (.ireturn, 1) := by decide +kernel
theorem dX8_comparer_58 : decode cX8_comparer 58 = .ok (.aload_n 0, 1) := by decide +kernel
theorem dX8_comparer_59 : decode cX8_comparer 59 = .ok (.iload_n 1, 1) := by decide +kernel
theorem dX8_comparer_60 : decode cX8_comparer 60 = .ok (.invokevirtual 243, 3) := by decide +kernel
theorem dX8_comparer_63 : decode cX8_comparer 63 = .ok (.ireturn, 1) := by decide +kernel
theorem dX8_comparer_64 : decode cX8_comparer 64 = .ok (.aload_n 0, 1) := by decide +kernel
theorem dX8_comparer_65 : decode cX8_comparer 65 = .ok (.iload_n 1, 1) := by decide +kernel
theorem dX8_comparer_66 : decode cX8_comparer 66 = .ok (.invokevirtual 246, 3) := by decide +kernel
theorem dX8_comparer_69 : decode cX8_comparer 69 = .ok (.ifCond .eq 7, 3) := by decide +kernel
theorem dX8_comparer_72 : decode cX8_comparer 72 = .ok (.iconst 1, 1) := by decide +kernel
theorem dX8_comparer_73 : decode cX8_comparer 73 = .ok (.goto 4, 3) := by decide +kernel
theorem dX8_comparer_76 : decode cX8_comparer 76 = .ok (.iconst 0, 1) := by decide +kernel
theorem dX8_comparer_77 : decode cX8_comparer 77 = .ok (.ireturn, 1) := by decide +kernel
theorem dX8_comparer_78 : decode cX8_comparer 78 = .ok (.aload_n 0, 1) := by decide +kernel
theorem dX8_comparer_79 : decode cX8_comparer 79 = .ok (.iload_n 1, 1) := by decide +kernel
theorem dX8_comparer_80 : decode cX8_comparer 80 = .ok (.invokevirtual 255, 3) := by decide +kernel
theorem dX8_comparer_83 : decode cX8_comparer 83 = .ok (.ireturn, 1) := by decide +kernel
theorem dX8_comparer_84 : decode cX8_comparer 84 = .ok (.bipush (-2), 2) := by decide +kernel
theorem dX8_comparer_86 : decode cX8_comparer 86 = .ok (.ireturn, 1) := by decide +kernel
theorem dX8_sort_0 : decode cX8_sort 0 = .ok (.aload_n 0, 1) := by decide +kernel
theorem dX8_sort_1 : decode cX8_sort 1 = .ok (.iconst 0, 1) := by decide +kernel
theorem dX8_sort_2 : decode cX8_sort 2 = .ok (.putfield 107, 3) := by decide +kernel
theorem dX8_sort_5 : decode cX8_sort 5 = .ok (.iload_n 1, 1) := by decide +kernel
theorem dX8_sort_6 : decode cX8_sort 6 = .ok (.invokestatic 191, 3) := by decide +kernel
theorem dX8_sort_9 : decode cX8_sort 9 = .ok (.ifCond .ne 5, 3) := by decide +kernel
theorem dX8_sort_12 : decode cX8_sort 12 = .ok (.iconst (-1), 1) := by decide +kernel
theorem dX8_sort_13 : decode cX8_sort 13 = .ok (.ireturn, 1) := by decide +kernel
theorem dX8_sort_14 : decode cX8_sort 14 = .ok (.iload_n 2, 1) := by decide +kernel
theorem dX8_sort_15 : decode cX8_sort 15 = .ok (.invokestatic 194, 3) := by decide +kernel
theorem dX8_sort_18 : decode cX8_sort 18 = .ok (.ifCond .ne 6, 3) := by decide +kernel
theorem dX8_sort_21 : decode cX8_sort 21 = .ok (.bipush (-2), 2) := by decide +kernel
theorem dX8_sort_23 : decode cX8_sort 23 = .ok (.ireturn, 1) := by decide +kernel
theorem dX8_sort_24 : decode cX8_sort 24 = .ok (.aload_n 0, 1) := by decide +kernel
theorem dX8_sort_25 : decode cX8_sort 25 = .ok (.iload_n 1, 1) := by decide +kernel
theorem dX8_sort_26 : decode cX8_sort 26 = .ok (.iload_n 2, 1) := by decide +kernel
theorem dX8_sort_27 : decode cX8_sort 27 = .ok (.iload_n 3, 1) := by decide +kernel
theorem dX8_sort_28 : decode cX8_sort 28 = .ok (.aload_n 0, 1) := by decide +kernel
theorem dX8_sort_29 : decode cX8_sort 29 = .ok (.getfield 62, 3) := by decide +kernel
theorem dX8_sort_32 : decode cX8_sort 32 = .ok (.invokevirtual 197, 3) := by decide +kernel
theorem dX8_sort_35 : decode cX8_sort 35 = .ok (.istore 4, 2) := by decide +kernel
theorem dX8_sort_37 : decode cX8_sort 37 = .ok (.iload 4, 2) := by decide +kernel
theorem dX8_sort_39 : decode cX8_sort 39 = .ok (.ifCond .eq 6, 3) := by decide +kernel
theorem dX8_sort_42 : decode cX8_sort 42 = .ok (.iload 4, 2) := by decide +kernel
theorem dX8_sort_44 : decode cX8_sort 44 = .ok (.ireturn, 1) := by decide +kernel
theorem dX8_sort_45 : decode cX8_sort 45 = .ok (.bipush 60, 2) := by decide +kernel
theorem dX8_sort_47 : decode cX8_sort 47 = .ok (.iload_n 1, 1) := by decide +kernel
theorem dX8_sort_48 : decode cX8_sort 48 = .ok (.imul, 1) := by decide +kernel
theorem dX8_sort_49 : decode cX8_sort 49 = .ok (.iload_n 3, 1) := by decide +kernel
theorem dX8_sort_50 : decode cX8_sort 50 = .ok (.iadd, 1) := by decide +kernel
theorem dX8_sort_51 : decode cX8_sort 51 = .ok (.istore 5, 2) := by decide +kernel
theorem dX8_sort_53 : decode cX8_sort 53 = .ok (.iconst 0, 1) := by decide +kernel
theorem dX8_sort_54 : decode cX8_sort 54 = .ok (.istore 6, 2) := by decide +kernel
theorem dX8_sort_56 : decode cX8_sort 56 = .ok (.iload 6, 2) := by decide +kernel
theorem dX8_sort_58 : decode cX8_sort 58 = .ok (.aload_n 0, 1) := by decide +kernel
theorem dX8_sort_59 : decode cX8_sort 59 = .ok (.getfield 62, 3) := by decide +kernel
theorem dX8_sort_62 : decode cX8_sort 62 = .ok (.if_icmp .ge 26, 3) := by decide +kernel
theorem dX8_sort_65 : decode cX8_sort 65 = .ok (.aload_n 0, 1) := by decide +kernel
theorem dX8_sort_66 : decode cX8_sort 66 = .ok (.getfield 74, 3) := by decide +kernel
theorem dX8_sort_69 : decode cX8_sort 69 = .ok (.iload 6, 2) := by decide +kernel
theorem dX8_sort_71 : decode cX8_sort 71 = .ok (.aload_n 0, 1) := by decide +kernel
theorem dX8_sort_72 : decode cX8_sort 72 = .ok (.getfield 56, 3) := by decide +kernel
theorem dX8_sort_75 : decode cX8_sort 75 = .ok (.iload 5, 2) := by decide +kernel
theorem dX8_sort_77 : decode cX8_sort 77 = .ok (.iload 6, 2) := by decide +kernel
theorem dX8_sort_79 : decode cX8_sort 79 = .ok (.iadd, 1) := by decide +kernel
theorem dX8_sort_80 : decode cX8_sort 80 = .ok (.iaload, 1) := by decide +kernel
theorem dX8_sort_81 : decode cX8_sort 81 = .ok (.iastore, 1) := by decide +kernel
theorem dX8_sort_82 : decode cX8_sort 82 = .ok (.iinc 6 1, 3) := by decide +kernel
theorem dX8_sort_85 : decode cX8_sort 85 = .ok (.goto (-29), 3) := by decide +kernel
theorem dX8_sort_88 : decode cX8_sort 88 = .ok (.iconst 0, 1) := by decide +kernel
theorem dX8_sort_89 : decode cX8_sort 89 = .ok (.istore 6, 2) := by decide +kernel
theorem dX8_sort_91 : decode cX8_sort 91 = .ok (.iload 6, 2) := by decide +kernel
theorem dX8_sort_93 : decode cX8_sort 93 = .ok (.aload_n 0, 1) := by decide +kernel
theorem dX8_sort_94 : decode cX8_sort 94 = .ok (.getfield 234, 3) := by decide +kernel
theorem dX8_sort_97 : decode cX8_sort 97 = .ok (.if_icmp .ge 82, 3) := by decide +kernel
theorem dX8_sort_100 : decode cX8_sort 100 = .ok (.iload 5, 2) := by decide +kernel
theorem dX8_sort_102 : decode cX8_sort 102 = .ok (.aload_n 0, 1) := by decide +kernel
theorem dX8_sort_103 : decode cX8_sort 103 = .ok (.getfield 65, 3) := by decide +kernel
theorem dX8_sort_106 : decode cX8_sort 106 = .ok (.iload 6, 2) := by decide +kernel
theorem dX8_sort_108 : decode cX8_sort 108 = .ok (.iaload, 1) := by decide +kernel
theorem dX8_sort_109 : decode cX8_sort 109 = .ok (.iadd, 1) := by decide +kernel
theorem dX8_sort_110 : decode cX8_sort 110 = .ok (.istore 7, 2) := by decide +kernel
theorem dX8_sort_112 : decode cX8_sort 112 = .ok (.iload 5, 2) := by decide +kernel
theorem dX8_sort_114 : decode cX8_sort 114 = .ok (.aload_n 0, 1) := by decide +kernel
theorem dX8_sort_115 : decode cX8_sort 115 = .ok (.getfield 68, 3) := by decide +kernel
theorem dX8_sort_118 : decode cX8_sort 118 = .ok (.iload 6, 2) := by decide +kernel
theorem dX8_sort_120 : decode cX8_sort 120 = .ok (.iaload, 1) := by decide +kernel
theorem dX8_sort_121 : decode cX8_sort 121 = .ok (.iadd, 1) := by decide +kernel
theorem dX8_sort_122 : decode cX8_sort 122 = .ok (.istore 8, 2) := by decide +kernel
theorem dX8_sort_124 : decode cX8_sort 124 = .ok (.aload_n 0, 1) := by decide +kernel
theorem dX8_sort_125 : decode cX8_sort 125 = .ok (.getfield 56, 3) := by decide +kernel
theorem dX8_sort_128 : decode cX8_sort 128 = .ok (.iload 7, 2) := by decide +kernel
theorem dX8_sort_130 : decode cX8_sort 130 = .ok (.iaload, 1) := by decide +kernel
theorem dX8_sort_131 : decode cX8_sort 131 = .ok (.aload_n 0, 1) := by decide +kernel
theorem dX8_sort_132 : decode cX8_sort 132 = .ok (.getfield 56, 3) := by decide +kernel
theorem dX8_sort_135 : decode cX8_sort 135 = .ok (.iload 8, 2) := by decide +kernel
theorem dX8_sort_137 : decode cX8_sort 137 = .ok (.iaload, 1) := by decide +kernel
theorem dX8_sort_138 : decode cX8_sort 138 = .ok (.if_icmp .le 35, 3) := by decide +kernel
theorem dX8_sort_141 : decode cX8_sort 141 = .ok (.aload_n 0, 1) := by decide +kernel
theorem dX8_sort_142 : decode cX8_sort 142 = .ok (.getfield 56, 3) := by decide +kernel
theorem dX8_sort_145 : decode cX8_sort 145 = .ok (.iload 7, 2) := by decide +kernel
theorem dX8_sort_147 : decode cX8_sort 147 = .ok (.iaload, 1) := by decide +kernel
theorem dX8_sort_148 : decode cX8_sort 148 = .ok (.istore 9, 2) := by decide +kernel
theorem dX8_sort_150 : decode cX8_sort 150 = .ok (.aload_n 0, 1) := by decide +kernel
theorem dX8_sort_151 : decode cX8_sort 151 = .ok (.getfield 56, 3) := by decide +kernel
theorem dX8_sort_154 : decode cX8_sort 154 = .ok (.iload 7, 2) := by decide +kernel
theorem dX8_sort_156 : decode cX8_sort 156 = .ok (.aload_n 0, 1) := by decide +kernel
theorem dX8_sort_157 : decode cX8_sort 157 = .ok (.getfield 56, 3) := by decide +kernel
theorem dX8_sort_160 : decode cX8_sort 160 = .ok (.iload 8, 2) := by decide +kernel
theorem dX8_sort_162 : decode cX8_sort 162 = .ok (.iaload, 1) := by decide +kernel
theorem dX8_sort_163 : decode cX8_sort 163 = .ok (.iastore, 1) := by decide +kernel
theorem dX8_sort_164 : decode cX8_sort 164 = .ok (.aload_n 0, 1) := by decide +kernel
theorem dX8_sort_165 : decode cX8_sort 165 = .ok (.getfield 56, 3) := by decide +kernel
theorem dX8_sort_168 : decode cX8_sort 168 = .ok (.iload 8, 2) := by decide +kernel
theorem dX8_sort_170 : decode cX8_sort 170 = .ok (.iload 9, 2) := by decide +kernel
theorem dX8_sort_172 : decode cX8_sort 172 = .ok (.iastore, 1) := by decide +kernel
theorem dX8_sort_173 : decode cX8_sort 173 = .ok (.iinc 6 1, 3) := by decide +kernel
theorem dX8_sort_176 : decode cX8_sort 176 = .ok (.goto (-85), 3) := by decide +kernel
theorem dX8_sort_179 : decode cX8_sort 179 = .ok (.iconst 0, 1) := by decide +kernel
theorem dX8_sort_180 : decode cX8_sort 180 = .ok (.istore 6, 2) := by decide +kernel
theorem dX8_sort_182 : decode cX8_sort 182 = .ok (.iconst 0, 1) := by decide +kernel
theorem dX8_sort_183 : decode cX8_sort 183 = .ok (.istore 7, 2) := by decide +kernel
theorem dX8_sort_185 : decode cX8_sort 185 = .ok (.iload 7, 2) := by decide +kernel
theorem dX8_sort_187 : decode cX8_sort 187 = .ok (.aload_n 0, 1) := by decide +kernel
theorem dX8_sort_188 : decode cX8_sort 188 = .ok (.getfield 62, 3) := by decide +kernel
theorem dX8_sort_191 : decode cX8_sort 191 = .ok (.if_icmp .ge 39, 3) := by decide +kernel
theorem dX8_sort_194 : decode cX8_sort 194 = .ok (.iload 6, 2) := by decide +kernel
theorem dX8_sort_196 : decode cX8_sort 196 = .ok (.aload_n 0, 1) := by decide +kernel
theorem dX8_sort_197 : decode cX8_sort 197 = .ok (.getfield 74, 3) := by decide +kernel
theorem dX8_sort_200 : decode cX8_sort 200 = .ok (.iload 7, 2) := by decide +kernel
theorem dX8_sort_202 : decode cX8_sort 202 = .ok (.iaload, 1) := by decide +kernel
theorem dX8_sort_203 : decode cX8_sort 203 = .ok (.aload_n 0, 1) := by decide +kernel
theorem dX8_sort_204 : decode cX8_sort 204 = .ok (.getfield 56, 3) := by decide +kernel
theorem dX8_sort_207 : decode cX8_sort 207 = .ok (.iload 5, 2) := by decide +kernel
theorem dX8_sort_209 : decode cX8_sort 209 = .ok (.iload 7, 2) := by decide +kernel
theorem dX8_sort_211 : decode cX8_sort 211 = .ok (.iadd, 1) := by decide +kernel
theorem dX8_sort_212 : decode cX8_sort 212 = .ok (.iaload, 1) := by decide +kernel
theorem dX8_sort_213 : decode cX8_sort 213 = .ok (.if_icmp .eq 7, 3) := by decide +kernel
theorem dX8_sort_216 : decode cX8_sort 216 = .ok (.iconst 1, 1) := by decide +kernel
theorem dX8_sort_217 : decode cX8_sort 217 = .ok (.goto 4, 3) := by decide +kernel
theorem dX8_sort_220 : decode cX8_sort 220 = .ok (.iconst 0, 1) := by decide +kernel
theorem dX8_sort_221 : decode cX8_sort 221 = .ok (.iadd, 1) := by decide +kernel
theorem dX8_sort_222 : decode cX8_sort 222 = .ok (.istore 6, 2) := by decide +kernel
theorem dX8_sort_224 : decode cX8_sort 224 = .ok (.iinc 7 1, 3) := by decide +kernel
theorem dX8_sort_227 : decode cX8_sort 227 = .ok (.goto (-42), 3) := by decide +kernel
theorem dX8_sort_230 : decode cX8_sort 230 = .ok (.iload 6, 2) := by decide +kernel
theorem dX8_sort_232 : decode cX8_sort 232 = .ok (.ireturn, 1) := by decide +kernel
theorem dX8_bar_0 : decode cX8_bar 0 = .ok (.iload_n 1, 1) := by decide +kernel
theorem dX8_bar_1 : decode cX8_bar 1 = .ok (.iconst 1, 1) := by decide +kernel
theorem dX8_bar_2 : decode cX8_bar 2 = .ok (.iconst 5, 1) := by decide +kernel
theorem dX8_bar_3 : decode cX8_bar 3 = .ok (.invokestatic 116, 3) := by decide +kernel
theorem dX8_bar_6 : decode cX8_bar 6 = .ok (.ifCond .ne 6, 3) := by decide +kernel
theorem dX8_bar_9 : decode cX8_bar 9 = .ok (.bipush (-2), 2) := by decide +kernel
theorem dX8_bar_11 : decode cX8_bar 11 = .ok (.ireturn, 1) := by decide +kernel
theorem dX8_bar_12 : decode cX8_bar 12 = .ok (.aload_n 0, 1) := by decide +kernel
theorem dX8_bar_13 : decode cX8_bar 13 = .ok (.getfield 77, 3) := by decide +kernel
theorem dX8_bar_16 : decode cX8_bar 16 = .ok (.istore_n 2, 1) := by decide +kernel
theorem dX8_bar_17 : decode cX8_bar 17 = .ok (.aload_n 0, 1) := by decide +kernel
theorem dX8_bar_18 : decode cX8_bar 18 = .ok (.iload_n 1, 1) := by decide +kernel
theorem dX8_bar_19 : decode cX8_bar 19 = .ok (.putfield 77, 3) := by decide +kernel
theorem dX8_bar_22 : decode cX8_bar 22 = .ok (.iconst 0, 1) := by decide +kernel
theorem dX8_bar_23 : decode cX8_bar 23 = .ok (.istore_n 3, 1) := by decide +kernel
theorem dX8_bar_24 : decode cX8_bar 24 = .ok (.iload_n 3, 1) := by decide +kernel
theorem dX8_bar_25 : decode cX8_bar 25 = .ok (.bipush 25, 2) := by decide +kernel
theorem dX8_bar_27 : decode cX8_bar 27 = .ok (.if_icmp .ge 23, 3) := by decide +kernel
theorem dX8_bar_30 : decode cX8_bar 30 = .ok (.aload_n 0, 1) := by decide +kernel
theorem dX8_bar_31 : decode cX8_bar 31 = .ok (.getfield 80, 3) := by decide +kernel
theorem dX8_bar_34 : decode cX8_bar 34 = .ok (.iload_n 3, 1) := by decide +kernel
theorem dX8_bar_35 : decode cX8_bar 35 = .ok (.iconst 0, 1) := by decide +kernel
theorem dX8_bar_36 : decode cX8_bar 36 = .ok (.iastore, 1) := by decide +kernel
theorem dX8_bar_37 : decode cX8_bar 37 = .ok (.aload_n 0, 1) := by decide +kernel
theorem dX8_bar_38 : decode cX8_bar 38 = .ok (.getfield 86, 3) := by decide +kernel
theorem dX8_bar_41 : decode cX8_bar 41 = .ok (.iload_n 3, 1) := by decide +kernel
theorem dX8_bar_42 : decode cX8_bar 42 = .ok (.iconst 0, 1) := by decide +kernel
theorem dX8_bar_43 : decode cX8_bar 43 = .ok (.iastore, 1) := by decide +kernel
theorem dX8_bar_44 : decode cX8_bar 44 = .ok (.iinc 3 1, 3) := by decide +kernel
theorem dX8_bar_47 : decode cX8_bar 47 = .ok (.goto (-23), 3) := by decide +kernel
theorem dX8_bar_50 : decode cX8_bar 50 = .ok (.iconst 0, 1) := by decide +kernel
theorem dX8_bar_51 : decode cX8_bar 51 = .ok (.istore_n 3, 1) := by decide +kernel
theorem dX8_bar_52 : decode cX8_bar 52 = .ok (.iload_n 3, 1) := by decide +kernel
theorem dX8_bar_53 : decode cX8_bar 53 = .ok (.iconst 5, 1) := by decide +kernel
theorem dX8_bar_54 : decode cX8_bar 54 = .ok (.if_icmp .ge 31, 3) := by decide +kernel
theorem dX8_bar_57 : decode cX8_bar 57 = .ok (.aload_n 0, 1) := by decide +kernel
theorem dX8_bar_58 : decode cX8_bar 58 = .ok (.getfield 89, 3) := by decide +kernel
theorem dX8_bar_61 : decode cX8_bar 61 = .ok (.iload_n 3, 1) := by decide +kernel
theorem dX8_bar_62 : decode cX8_bar 62 = .ok (.iconst 0, 1) := by decide +kernel
theorem dX8_bar_63 : decode cX8_bar 63 = .ok (.iastore, 1) := by decide +kernel
theorem dX8_bar_64 : decode cX8_bar 64 = .ok (.aload_n 0, 1) := by decide +kernel
theorem dX8_bar_65 : decode cX8_bar 65 = .ok (.getfield 92, 3) := by decide +kernel
theorem dX8_bar_68 : decode cX8_bar 68 = .ok (.iload_n 3, 1) := by decide +kernel
theorem dX8_bar_69 : decode cX8_bar 69 = .ok (.iconst 0, 1) := by decide +kernel
theorem dX8_bar_70 : decode cX8_bar 70 = .ok (.iastore, 1) := by decide +kernel
theorem dX8_bar_71 : decode cX8_bar 71 = .ok (.aload_n 0, 1) := by decide +kernel
theorem dX8_bar_72 : decode cX8_bar 72 = .ok (.getfield 98, 3) := by decide +kernel
theorem dX8_bar_75 : decode cX8_bar 75 = .ok (.iload_n 3, 1) := by decide +kernel
theorem dX8_bar_76 : decode cX8_bar 76 = .ok (.bipush (-9), 2) := by decide +kernel
theorem dX8_bar_78 : decode cX8_bar 78 = .ok (.iastore, 1) := by decide +kernel
theorem dX8_bar_79 : decode cX8_bar 79 = .ok (.iinc 3 1, 3) := by decide +kernel
theorem dX8_bar_82 : decode cX8_bar 82 = .ok (.goto (-30), 3) := by decide +kernel
theorem dX8_bar_85 : decode cX8_bar 85 = .ok (.iload_n 2, 1) := by decide +kernel
theorem dX8_bar_86 : decode cX8_bar 86 = .ok (.ireturn, 1) := by decide +kernel
theorem dX8_isPort_0 : decode cX8_isPort 0 = .ok (.iload_n 1, 1) := by decide +kernel
theorem dX8_isPort_1 : decode cX8_isPort 1 = .ok (.ifCond .lt 15, 3) := by decide +kernel
theorem dX8_isPort_4 : decode cX8_isPort 4 = .ok (.iload_n 1, 1) := by decide +kernel
theorem dX8_isPort_5 : decode cX8_isPort 5 = .ok (.aload_n 0, 1) := by decide +kernel
theorem dX8_isPort_6 : decode cX8_isPort 6 = .ok (.getfield 77, 3) := by decide +kernel
theorem dX8_isPort_9 : decode cX8_isPort 9 = .ok (.if_icmp .ge 7, 3) := by decide +kernel
theorem dX8_isPort_12 : decode cX8_isPort 12 = .ok (.iconst 1, 1) := by decide +kernel
theorem dX8_isPort_13 : decode cX8_isPort 13 = .ok (.goto 4, 3) := by decide +kernel
theorem dX8_isPort_16 : decode cX8_isPort 16 = .ok (.iconst 0, 1) := by decide +kernel
theorem dX8_isPort_17 : decode cX8_isPort 17 = .ok (.ireturn, 1) := by decide +kernel
theorem dX8_traffic_0 : decode cX8_traffic 0 = .ok (.aload_n 0, 1) := by decide +kernel
theorem dX8_traffic_1 : decode cX8_traffic 1 = .ok (.iload_n 1, 1) := by decide +kernel
theorem dX8_traffic_2 : decode cX8_traffic 2 = .ok (.invokevirtual 258, 3) := by decide +kernel
theorem dX8_traffic_5 : decode cX8_traffic 5 = .ok (.ifCond .eq 11, 3) := by decide +kernel
theorem dX8_traffic_8 : decode cX8_traffic 8 = .ok (.aload_n 0, 1) := by decide +kernel
theorem dX8_traffic_9 : decode cX8_traffic 9 = .ok (.iload_n 2, 1) := by decide +kernel
theorem dX8_traffic_10 : decode cX8_traffic 10 = .ok (.invokevirtual 258, 3) := by decide +kernel
theorem dX8_traffic_13 : decode cX8_traffic 13 = .ok (.ifCond .ne 5, 3) := by decide +kernel
theorem dX8_traffic_16 : decode cX8_traffic 16 = .ok (.iconst (-1), 1) := by decide +kernel
theorem dX8_traffic_17 : decode cX8_traffic 17 = .ok (.ireturn, 1) := by decide +kernel
theorem dX8_traffic_18 : decode cX8_traffic 18 = .ok (.iload_n 3, 1) := by decide +kernel
theorem dX8_traffic_19 : decode cX8_traffic 19 = .ok (.iconst 0, 1) := by decide +kernel
theorem dX8_traffic_20 : decode cX8_traffic 20 = .ok (.bipush 50, 2) := by decide +kernel
theorem dX8_traffic_22 : decode cX8_traffic 22 = .ok (.invokestatic 116, 3) := by decide +kernel
theorem dX8_traffic_25 : decode cX8_traffic 25 = .ok (.ifCond .ne 6, 3) := by decide +kernel
theorem dX8_traffic_28 : decode cX8_traffic 28 = .ok (.bipush (-2), 2) := by decide +kernel
theorem dX8_traffic_30 : decode cX8_traffic 30 = .ok (.ireturn, 1) := by decide +kernel
theorem dX8_traffic_31 : decode cX8_traffic 31 = .ok (.aload_n 0, 1) := by decide +kernel
theorem dX8_traffic_32 : decode cX8_traffic 32 = .ok (.getfield 80, 3) := by decide +kernel
theorem dX8_traffic_35 : decode cX8_traffic 35 = .ok (.iconst 5, 1) := by decide +kernel
theorem dX8_traffic_36 : decode cX8_traffic 36 = .ok (.iload_n 1, 1) := by decide +kernel
theorem dX8_traffic_37 : decode cX8_traffic 37 = .ok (.imul, 1) := by decide +kernel
theorem dX8_traffic_38 : decode cX8_traffic 38 = .ok (.iload_n 2, 1) := by decide +kernel
theorem dX8_traffic_39 : decode cX8_traffic 39 = .ok (.iadd, 1) := by decide +kernel
theorem dX8_traffic_40 : decode cX8_traffic 40 = .ok (.iaload, 1) := by decide +kernel
theorem dX8_traffic_41 : decode cX8_traffic 41 = .ok (.istore 4, 2) := by decide +kernel
theorem dX8_traffic_43 : decode cX8_traffic 43 = .ok (.aload_n 0, 1) := by decide +kernel
theorem dX8_traffic_44 : decode cX8_traffic 44 = .ok (.getfield 80, 3) := by decide +kernel
theorem dX8_traffic_47 : decode cX8_traffic 47 = .ok (.iconst 5, 1) := by decide +kernel
theorem dX8_traffic_48 : decode cX8_traffic 48 = .ok (.iload_n 1, 1) := by decide +kernel
theorem dX8_traffic_49 : decode cX8_traffic 49 = .ok (.imul, 1) := by decide +kernel
theorem dX8_traffic_50 : decode cX8_traffic 50 = .ok (.iload_n 2, 1) := by decide +kernel
theorem dX8_traffic_51 : decode cX8_traffic 51 = .ok (.iadd, 1) := by decide +kernel
theorem dX8_traffic_52 : decode cX8_traffic 52 = .ok (.iload_n 3, 1) := by decide +kernel
theorem dX8_traffic_53 : decode cX8_traffic 53 = .ok (.iastore, 1) := by decide +kernel
theorem dX8_traffic_54 : decode cX8_traffic 54 = .ok (.iload 4, 2) := by decide +kernel
theorem dX8_traffic_56 : decode cX8_traffic 56 = .ok (.ireturn, 1) := by decide +kernel
theorem dX8_sumOf_0 : decode cX8_sumOf 0 = .ok (.iconst 0, 1) := by decide +kernel
theorem dX8_sumOf_1 : decode cX8_sumOf 1 = .ok (.istore_n 3, 1) := by decide +kernel
theorem dX8_sumOf_2 : decode cX8_sumOf 2 = .ok (.iconst 0, 1) := by decide +kernel
theorem dX8_sumOf_3 : decode cX8_sumOf 3 = .ok (.istore 4, 2) := by decide +kernel
theorem dX8_sumOf_5 : decode cX8_sumOf 5 = .ok (.iload 4, 2) := by decide +kernel
theorem dX8_sumOf_7 : decode cX8_sumOf 7 = .ok (.aload_n 0, 1) := by decide +kernel
theorem dX8_sumOf_8 : decode cX8_sumOf 8 = .ok (.getfield 77, 3) := by decide +kernel
theorem dX8_sumOf_11 : decode cX8_sumOf 11 = .ok (.if_icmp .ge 41, 3) := by decide +kernel
theorem dX8_sumOf_14 : decode cX8_sumOf 14 = .ok (.iload_n 3, 1) := by decide +kernel
theorem dX8_sumOf_15 : decode cX8_sumOf 15 = .ok (.iload_n 1, 1) := by decide +kernel
theorem dX8_sumOf_16 : decode cX8_sumOf 16 = .ok (.ifCond .eq 17, 3) := by decide +kernel
theorem dX8_sumOf_19 : decode cX8_sumOf 19 = .ok (.aload_n 0, 1) := by decide +kernel
theorem dX8_sumOf_20 : decode cX8_sumOf 20 = .ok (.getfield 83, 3) := by decide +kernel
theorem dX8_sumOf_23 : decode cX8_sumOf 23 = .ok (.iconst 5, 1) := by decide +kernel
theorem dX8_sumOf_24 : decode cX8_sumOf 24 = .ok (.iload_n 2, 1) := by decide +kernel
theorem dX8_sumOf_25 : decode cX8_sumOf 25 = .ok (.imul, 1) := by decide +kernel
theorem dX8_sumOf_26 : decode cX8_sumOf 26 = .ok (.iload 4, 2) := by decide +kernel
theorem dX8_sumOf_28 : decode cX8_sumOf 28 = .ok (.iadd, 1) := by decide +kernel
theorem dX8_sumOf_29 : decode cX8_sumOf 29 = .ok (.iaload, 1) := by decide +kernel
theorem dX8_sumOf_30 : decode cX8_sumOf 30 = .ok (.goto 14, 3) := by decide +kernel
theorem dX8_sumOf_33 : decode cX8_sumOf 33 = .ok (.aload_n 0, 1) := by decide +kernel
theorem dX8_sumOf_34 : decode cX8_sumOf 34 = .ok (.getfield 83, 3) := by decide +kernel
theorem dX8_sumOf_37 : decode cX8_sumOf 37 = .ok (.iconst 5, 1) := by decide +kernel
theorem dX8_sumOf_38 : decode cX8_sumOf 38 = .ok (.iload 4, 2) := by decide +kernel
theorem dX8_sumOf_40 : decode cX8_sumOf 40 = .ok (.imul, 1) := by decide +kernel
theorem dX8_sumOf_41 : decode cX8_sumOf 41 = .ok (.iload_n 2, 1) := by decide +kernel
theorem dX8_sumOf_42 : decode cX8_sumOf 42 = .ok (.iadd, 1) := by decide +kernel
theorem dX8_sumOf_43 : decode cX8_sumOf 43 = .ok (.iaload, 1) := by decide +kernel
theorem dX8_sumOf_44 : decode cX8_sumOf 44 = .ok (.iadd, 1) := by decide +kernel
theorem dX8_sumOf_45 : decode cX8_sumOf 45 = .ok (.istore_n 3, 1) := by decide +kernel
