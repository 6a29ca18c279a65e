theorem dX0_changesRows_52 : decode cX0_changesRows 52 = .ok (.iinc 5 1, 3) := by decide +kernel
theorem dX0_changesRows_55 : decode cX0_changesRows 55 = .ok (.goto (-50), 3) := by decide +kernel
theorem dX0_changesRows_58 : decode cX0_changesRows 58 = .ok (.lload_n 3, 1) := by decide +kernel
theorem dX0_changesRows_59 : decode cX0_changesRows 59 = .ok (.lconst 0, 1) := by decide +kernel
theorem dX0_changesRows_60 : decode cX0_changesRows 60 = .ok (.lcmp, 1) := by decide +kernel
theorem dX0_changesRows_61 : decode cX0_changesRows 61 = .ok (.ifCond .eq 7, 3) := by decide +kernel
theorem dX0_changesRows_64 : decode cX0_changesRows 64 = .ok (.iconst 1, 1) := by decide +kernel
theorem dX0_changesRows_65 : decode cX0_changesRows 65 = .ok (.goto 4, 3) := by decide +kernel
theorem dX0_changesRows_68 : decode cX0_changesRows 68 = .ok (.iconst 0, 1) := by decide +kernel
theorem dX0_changesRows_69 : decode cX0_changesRows 69 = .ok (.ireturn, 1) := by decide +kernel
theorem dX0_unsortedIn_0 : decode cX0_unsortedIn 0 = .ok (.lconst 0, 1) := by decide +kernel
theorem dX0_unsortedIn_1 : decode cX0_unsortedIn 1 = .ok (.lstore_n 2, 1) := by decide +kernel
theorem dX0_unsortedIn_2 : decode cX0_unsortedIn 2 = .ok (.iconst 0, 1) := by decide +kernel
theorem dX0_unsortedIn_3 : decode cX0_unsortedIn 3 = .ok (.istore 4, 2) := by decide +kernel
theorem dX0_unsortedIn_5 : decode cX0_unsortedIn 5 = .ok (.iload 4, 2) := by decide +kernel
theorem dX0_unsortedIn_7 : decode cX0_unsortedIn 7 = .ok (.iconst 1, 1) := by decide +kernel
theorem dX0_unsortedIn_8 : decode cX0_unsortedIn 8 = .ok (.iadd, 1) := by decide +kernel
theorem dX0_unsortedIn_9 : decode cX0_unsortedIn 9 = .ok (.aload_n 0, 1) := by decide +kernel
theorem dX0_unsortedIn_10 : decode cX0_unsortedIn 10 = .ok (.getfield 9, 3) := by decide +kernel
theorem dX0_unsortedIn_13 : decode cX0_unsortedIn 13 = .ok (.if_icmp .ge 37, 3) := by decide +kernel
theorem dX0_unsortedIn_16 : decode cX0_unsortedIn 16 = .ok (.lload_n 2, 1) := by decide +kernel
theorem dX0_unsortedIn_17 : decode cX0_unsortedIn 17 = .ok (.aload_n 0, 1) := by decide +kernel
theorem dX0_unsortedIn_18 : decode cX0_unsortedIn 18 = .ok (.getfield 43, 3) := by decide +kernel
theorem dX0_unsortedIn_21 : decode cX0_unsortedIn 21 = .ok (.iload 4, 2) := by decide +kernel
theorem dX0_unsortedIn_23 : decode cX0_unsortedIn 23 = .ok (.aaload, 1) := by decide +kernel
theorem dX0_unsortedIn_24 : decode cX0_unsortedIn 24 = .ok (.iload_n 1, 1) := by decide +kernel
theorem dX0_unsortedIn_25 : decode cX0_unsortedIn 25 = .ok (.laload, 1) := by decide +kernel
theorem dX0_unsortedIn_26 : decode cX0_unsortedIn 26 = .ok (.aload_n 0, 1) := by decide +kernel
theorem dX0_unsortedIn_27 : decode cX0_unsortedIn 27 = .ok (.getfield 43, 3) := by decide +kernel
theorem dX0_unsortedIn_30 : decode cX0_unsortedIn 30 = .ok (.iload 4, 2) := by decide +kernel
theorem dX0_unsortedIn_32 : decode cX0_unsortedIn 32 = .ok (.iconst 1, 1) := by decide +kernel
theorem dX0_unsortedIn_33 : decode cX0_unsortedIn 33 = .ok (.iadd, 1) := by decide +kernel
theorem dX0_unsortedIn_34 : decode cX0_unsortedIn 34 = .ok (.aaload, 1) := by decide +kernel
theorem dX0_unsortedIn_35 : decode cX0_unsortedIn 35 = .ok (.iload_n 1, 1) := by decide +kernel
theorem dX0_unsortedIn_36 : decode cX0_unsortedIn 36 = .ok (.laload, 1) := by decide +kernel
theorem dX0_unsortedIn_37 : decode cX0_unsortedIn 37 = .ok (.ldc2_w 106, 3) := by decide +kernel
theorem dX0_unsortedIn_40 : decode cX0_unsortedIn 40 = .ok (.lxor, 1) := by decide +kernel
theorem dX0_unsortedIn_41 : decode cX0_unsortedIn 41 = .ok (.land, 1) := by decide +kernel
theorem dX0_unsortedIn_42 : decode cX0_unsortedIn 42 = .ok (.lor, 1) := by decide +kernel
theorem dX0_unsortedIn_43 : decode cX0_unsortedIn 43 = .ok (.lstore_n 2, 1) := by decide +kernel
theorem dX0_unsortedIn_44 : decode cX0_unsortedIn 44 = .ok (.iinc 4 1, 3) := by decide +kernel
theorem dX0_unsortedIn_47 : decode cX0_unsortedIn 47 = .ok (.goto (-42), 3) := by decide +kernel
theorem dX0_unsortedIn_50 : decode cX0_unsortedIn 50 = .ok (.iconst 1, 1) := by decide +kernel
theorem dX0_unsortedIn_51 : decode cX0_unsortedIn 51 = .ok (.aload_n 0, 1) := by decide +kernel
theorem dX0_unsortedIn_52 : decode cX0_unsortedIn 52 = .ok (.getfield 9, 3) := by decide +kernel
theorem dX0_unsortedIn_55 : decode cX0_unsortedIn 55 = .ok (.ishl, 1) := by decide +kernel
theorem dX0_unsortedIn_56 : decode cX0_unsortedIn 56 = .ok (.istore 4, 2) := by decide +kernel
theorem dX0_unsortedIn_58 : decode cX0_unsortedIn 58 = .ok (.iload 4, 2) := by decide +kernel
theorem dX0_unsortedIn_60 : decode cX0_unsortedIn 60 = .ok (.bipush 64, 2) := by decide +kernel
theorem dX0_unsortedIn_62 : decode cX0_unsortedIn 62 = .ok (.if_icmp .ge 14, 3) := by decide +kernel
theorem dX0_unsortedIn_65 : decode cX0_unsortedIn 65 = .ok (.lload_n 2, 1) := by decide +kernel
theorem dX0_unsortedIn_66 : decode cX0_unsortedIn 66 = .ok (.lconst 1, 1) := by decide +kernel
theorem dX0_unsortedIn_67 : decode cX0_unsortedIn 67 = .ok (.iload 4, 2) := by decide +kernel
theorem dX0_unsortedIn_69 : decode cX0_unsortedIn 69 = .ok (.lshl, 1) := by decide +kernel
theorem dX0_unsortedIn_70 : decode cX0_unsortedIn 70 = .ok (.lconst 1, 1) := by decide +kernel
theorem dX0_unsortedIn_71 : decode cX0_unsortedIn 71 = .ok (.lsub, 1) := by decide +kernel
theorem dX0_unsortedIn_72 : decode cX0_unsortedIn 72 = .ok (.land, 1) := by decide +kernel
theorem dX0_unsortedIn_73 : decode cX0_unsortedIn 73 = .ok (.goto 4, 3) := by decide +kernel
theorem dX0_unsortedIn_76 : decode cX0_unsortedIn 76 = .ok (.lload_n 2, 1) := by decide +kernel
theorem dX0_unsortedIn_77 : decode cX0_unsortedIn 77 = .ok (.lreturn, 1) := by decide +kernel
theorem dX1_init_0 : decode cX1_init 0 = .ok (.aload_n 0, 1) := by decide +kernel
theorem dX1_init_1 : decode cX1_init 1 = .ok (.invokespecial 3, 3) := by decide +kernel
theorem dX1_init_4 : decode cX1_init 4 = .ok (.aload_n 0, 1) := by decide +kernel
theorem dX1_init_5 : decode cX1_init 5 = .ok (.iconst 1, 1) := by decide +kernel
theorem dX1_init_6 : decode cX1_init 6 = .ok (.putfield 9, 3) := by decide +kernel
theorem dX1_init_9 : decode cX1_init 9 = .ok (.aload_n 0, 1) := by decide +kernel
theorem dX1_init_10 : decode cX1_init 10 = .ok (.bipush 8, 2) := by decide +kernel
theorem dX1_init_12 : decode cX1_init 12 = .ok (.newarray .int, 2) := by decide +kernel
theorem dX1_init_14 : decode cX1_init 14 = .ok (.dup, 1) := by decide +kernel
theorem dX1_init_15 : decode cX1_init 15 = .ok (.iconst 0, 1) := by decide +kernel
theorem dX1_init_16 : decode cX1_init 16 = .ok (.iconst 0, 1) := by decide +kernel
theorem dX1_init_17 : decode cX1_init 17 = .ok (.iastore, 1) := by decide +kernel
theorem dX1_init_18 : decode cX1_init 18 = .ok (.dup, 1) := by decide +kernel
theorem dX1_init_19 : decode cX1_init 19 = .ok (.iconst 1, 1) := by decide +kernel
theorem dX1_init_20 : decode cX1_init 20 = .ok (.iconst 1, 1) := by decide +kernel
theorem dX1_init_21 : decode cX1_init 21 = .ok (.iastore, 1) := by decide +kernel
theorem dX1_init_22 : decode cX1_init 22 = .ok (.dup, 1) := by decide +kernel
theorem dX1_init_23 : decode cX1_init 23 = .ok (.iconst 2, 1) := by decide +kernel
theorem dX1_init_24 : decode cX1_init 24 = .ok (.iconst 0, 1) := by decide +kernel
theorem dX1_init_25 : decode cX1_init 25 = .ok (.iastore, 1) := by decide +kernel
theorem dX1_init_26 : decode cX1_init 26 = .ok (.dup, 1) := by decide +kernel
theorem dX1_init_27 : decode cX1_init 27 = .ok (.iconst 3, 1) := by decide +kernel
theorem dX1_init_28 : decode cX1_init 28 = .ok (.iconst 0, 1) := by decide +kernel
theorem dX1_init_29 : decode cX1_init 29 = .ok (.iastore, 1) := by decide +kernel
theorem dX1_init_30 : decode cX1_init 30 = .ok (.dup, 1) := by decide +kernel
theorem dX1_init_31 : decode cX1_init 31 = .ok (.iconst 4, 1) := by decide +kernel
theorem dX1_init_32 : decode cX1_init 32 = .ok (.iconst 0, 1) := by decide +kernel
theorem dX1_init_33 : decode cX1_init 33 = .ok (.iastore, 1) := by decide +kernel
theorem dX1_init_34 : decode cX1_init 34 = .ok (.dup, 1) := by decide +kernel
theorem dX1_init_35 : decode cX1_init 35 = .ok (.iconst 5, 1) := by decide +kernel
theorem dX1_init_36 : decode cX1_init 36 = .ok (.iconst 0, 1) := by decide +kernel
theorem dX1_init_37 : decode cX1_init 37 = .ok (.iastore, 1) := by decide +kernel
theorem dX1_init_38 : decode cX1_init 38 = .ok (.dup, 1) := by decide +kernel
theorem dX1_init_39 : decode cX1_init 39 = .ok (.bipush 6, 2) := by decide +kernel
theorem dX1_init_41 : decode cX1_init 41 = .ok (.iconst 0, 1) := by decide +kernel
theorem dX1_init_42 : decode cX1_init 42 = .ok (.iastore, 1) := by decide +kernel
theorem dX1_init_43 : decode cX1_init 43 = .ok (.dup, 1) := by decide +kernel
theorem dX1_init_44 : decode cX1_init 44 = .ok (.bipush 7, 2) := by decide +kernel
theorem dX1_init_46 : decode cX1_init 46 = .ok (.iconst 0, 1) := by decide +kernel
theorem dX1_init_47 : decode cX1_init 47 = .ok (.iastore, 1) := by decide +kernel
theorem dX1_init_48 : decode cX1_init 48 = .ok (.putfield 15, 3) := by decide +kernel
theorem dX1_init_51 : decode cX1_init 51 = .ok (.aload_n 0, 1) := by decide +kernel
theorem dX1_init_52 : decode cX1_init 52 = .ok (.iconst 4, 1) := by decide +kernel
theorem dX1_init_53 : decode cX1_init 53 = .ok (.bipush 8, 2) := by decide +kernel
theorem dX1_init_55 : decode cX1_init 55 = .ok (.multianewarray 19 2, 4) := by decide +kernel
theorem dX1_init_59 : decode cX1_init 59 = .ok (.putfield 21, 3) := by decide +kernel
theorem dX1_init_62 : decode cX1_init 62 = .ok (.return_, 1) := by decide +kernel
theorem dX1_width_0 : decode cX1_width 0 = .ok (.iconst 1, 1) := by decide +kernel
theorem dX1_width_1 : decode cX1_width 1 = .ok (.aload_n 0, 1) := by decide +kernel
theorem dX1_width_2 : decode cX1_width 2 = .ok (.getfield 9, 3) := by decide +kernel
theorem dX1_width_5 : decode cX1_width 5 = .ok (.ishl, 1) := by decide +kernel
theorem dX1_width_6 : decode cX1_width 6 = .ok (.ireturn, 1) := by decide +kernel
theorem dX1_takeOrder_0 : decode cX1_takeOrder 0 = .ok (.iconst 1, 1) := by decide +kernel
theorem dX1_takeOrder_1 : decode cX1_takeOrder 1 = .ok (.iload_n 1, 1) := by decide +kernel
theorem dX1_takeOrder_2 : decode cX1_takeOrder 2 = .ok (.ishl, 1) := by decide +kernel
theorem dX1_takeOrder_3 : decode cX1_takeOrder 3 = .ok (.istore_n 3, 1) := by decide +kernel
theorem dX1_takeOrder_4 : decode cX1_takeOrder 4 = .ok (.iconst 0, 1) := by decide +kernel
theorem dX1_takeOrder_5 : decode cX1_takeOrder 5 = .ok (.istore 4, 2) := by decide +kernel
theorem dX1_takeOrder_7 : decode cX1_takeOrder 7 = .ok (.iconst 0, 1) := by decide +kernel
theorem dX1_takeOrder_8 : decode cX1_takeOrder 8 = .ok (.istore 5, 2) := by decide +kernel
theorem dX1_takeOrder_10 : decode cX1_takeOrder 10 = .ok (.iload 5, 2) := by decide +kernel
theorem dX1_takeOrder_12 : decode cX1_takeOrder 12 = .ok (.iload_n 3, 1) := by decide +kernel
theorem dX1_takeOrder_13 : decode cX1_takeOrder 13 = .ok (.if_icmp .ge 36, 3) := by decide +kernel
theorem dX1_takeOrder_16 : decode cX1_takeOrder 16 = .ok (.aload_n 2, 1) := by decide +kernel
theorem dX1_takeOrder_17 : decode cX1_takeOrder 17 = .ok (.iload 5, 2) := by decide +kernel
theorem dX1_takeOrder_19 : decode cX1_takeOrder 19 = .ok (.iaload, 1) := by decide +kernel
theorem dX1_takeOrder_20 : decode cX1_takeOrder 20 = .ok (.iconst 0, 1) := by decide +kernel
theorem dX1_takeOrder_21 : decode cX1_takeOrder 21 = .ok (.iload_n 3, 1) := by decide +kernel
theorem dX1_takeOrder_22 : decode cX1_takeOrder 22 = .ok (.iconst 1, 1) := by decide +kernel
theorem dX1_takeOrder_23 : decode cX1_takeOrder 23 = .ok (.isub, 1) := by decide +kernel
theorem dX1_takeOrder_24 : decode cX1_takeOrder 24 = .ok (.invokestatic 24, 3) := by decide +kernel
theorem dX1_takeOrder_27 : decode cX1_takeOrder 27 = .ok (.ifCond .ne 5, 3) := by decide +kernel
theorem dX1_takeOrder_30 : decode cX1_takeOrder 30 = .ok (.iconst 0, 1) := by decide +kernel
theorem dX1_takeOrder_31 : decode cX1_takeOrder 31 = .ok (.ireturn, 1) := by decide +kernel
theorem dX1_takeOrder_32 : decode cX1_takeOrder 32 = .ok (.iload 4, 2) := by decide +kernel
theorem dX1_takeOrder_34 : decode cX1_takeOrder 34 = .ok (.iconst 1, 1) := by decide +kernel
theorem dX1_takeOrder_35 : decode cX1_takeOrder 35 = .ok (.aload_n 2, 1) := by decide +kernel
theorem dX1_takeOrder_36 : decode cX1_takeOrder 36 = .ok (.iload 5, 2) := by decide +kernel
theorem dX1_takeOrder_38 : decode cX1_takeOrder 38 = .ok (.iaload, 1) := by decide +kernel
theorem dX1_takeOrder_39 : decode cX1_takeOrder 39 = .ok (.ishl, 1) := by decide +kernel
theorem dX1_takeOrder_40 : decode cX1_takeOrder 40 = .ok (.ior, 1) := by decide +kernel
theorem dX1_takeOrder_41 : decode cX1_takeOrder 41 = .ok (.istore 4, 2) := by decide +kernel
theorem dX1_takeOrder_43 : decode cX1_takeOrder 43 = .ok (.iinc 5 1, 3) := by decide +kernel
theorem dX1_takeOrder_46 : decode cX1_takeOrder 46 = .ok (.goto (-36), 3) := by decide +kernel
theorem dX1_takeOrder_49 : decode cX1_takeOrder 49 = .ok (.iload 4, 2) := by decide +kernel
theorem dX1_takeOrder_51 : decode cX1_takeOrder 51 = .ok (.iconst 1, 1) := by decide +kernel
theorem dX1_takeOrder_52 : decode cX1_takeOrder 52 = .ok (.iload_n 3, 1) := by decide +kernel
theorem dX1_takeOrder_53 : decode cX1_takeOrder 53 = .ok (.ishl, 1) := by decide +kernel
theorem dX1_takeOrder_54 : decode cX1_takeOrder 54 = .ok (.iconst 1, 1) := by decide +kernel
theorem dX1_takeOrder_55 : decode cX1_takeOrder 55 = .ok (.isub, 1) := by decide +kernel
theorem dX1_takeOrder_56 : decode cX1_takeOrder 56 = .ok (.if_icmp .eq 5, 3) := by decide +kernel
theorem dX1_takeOrder_59 : decode cX1_takeOrder 59 = .ok (.iconst 0, 1) := by decide +kernel
theorem dX1_takeOrder_60 : decode cX1_takeOrder 60 = .ok (.ireturn, 1) := by decide +kernel
theorem dX1_takeOrder_61 : decode cX1_takeOrder 61 = .ok (.aload_n 0, 1) := by decide +kernel
theorem dX1_takeOrder_62 : decode cX1_takeOrder 62 = .ok (.iload_n 1, 1) := by decide +kernel
theorem dX1_takeOrder_63 : decode cX1_takeOrder 63 = .ok (.putfield 9, 3) := by decide +kernel
theorem dX1_takeOrder_66 : decode cX1_takeOrder 66 = .ok (.aload_n 2, 1) := by decide +kernel
theorem dX1_takeOrder_67 : decode cX1_takeOrder 67 = .ok (.iconst 0, 1) := by decide +kernel
theorem dX1_takeOrder_68 : decode cX1_takeOrder 68 = .ok (.aload_n 0, 1) := by decide +kernel
theorem dX1_takeOrder_69 : decode cX1_takeOrder 69 = .ok (.getfield 15, 3) := by decide +kernel
theorem dX1_takeOrder_72 : decode cX1_takeOrder 72 = .ok (.iconst 0, 1) := by decide +kernel
theorem dX1_takeOrder_73 : decode cX1_takeOrder 73 = .ok (.iload_n 3, 1) := by decide +kernel
theorem dX1_takeOrder_74 : decode cX1_takeOrder 74 = .ok (.invokestatic 28, 3) := by decide +kernel
theorem dX1_takeOrder_77 : decode cX1_takeOrder 77 = .ok (.iconst 1, 1) := by decide +kernel
theorem dX1_takeOrder_78 : decode cX1_takeOrder 78 = .ok (.ireturn, 1) := by decide +kernel
theorem dX1_carryBy_0 : decode cX1_carryBy 0 = .ok (.aload_n 0, 1) := by decide +kernel
theorem dX1_carryBy_1 : decode cX1_carryBy 1 = .ok (.iload_n 1, 1) := by decide +kernel
theorem dX1_carryBy_2 : decode cX1_carryBy 2 = .ok (.putfield 9, 3) := by decide +kernel
theorem dX1_carryBy_5 : decode cX1_carryBy 5 = .ok (.iconst 0, 1) := by decide +kernel
theorem dX1_carryBy_6 : decode cX1_carryBy 6 = .ok (.istore_n 3, 1) := by decide +kernel
theorem dX1_carryBy_7 : decode cX1_carryBy 7 = .ok (.iload_n 3, 1) := by decide +kernel
theorem dX1_carryBy_8 : decode cX1_carryBy 8 = .ok (.aload_n 0, 1) := by decide +kernel
theorem dX1_carryBy_9 : decode cX1_carryBy 9 = .ok (.invokevirtual 34, 3) := by decide +kernel
theorem dX1_carryBy_12 : decode cX1_carryBy 12 = .ok (.if_icmp .ge 21, 3) := by decide +kernel
theorem dX1_carryBy_15 : decode cX1_carryBy 15 = .ok (.aload_n 0, 1) := by decide +kernel
theorem dX1_carryBy_16 : decode cX1_carryBy 16 = .ok (.getfield 15, 3) := by decide +kernel
theorem dX1_carryBy_19 : decode cX1_carryBy 19 = .ok (.iload_n 3, 1) := by decide +kernel
theorem dX1_carryBy_20 : decode cX1_carryBy 20 = .ok (.iload_n 1, 1) := by decide +kernel
theorem dX1_carryBy_21 : decode cX1_carryBy 21 = .ok (.iload_n 2, 1) := by decide +kernel
theorem dX1_carryBy_22 : decode cX1_carryBy 22 = .ok (.iload_n 3, 1) := by decide +kernel
theorem dX1_carryBy_23 : decode cX1_carryBy 23 = .ok (.invokestatic 38, 3) := by decide +kernel
theorem dX1_carryBy_26 : decode cX1_carryBy 26 = .ok (.iastore, 1) := by decide +kernel
theorem dX1_carryBy_27 : decode cX1_carryBy 27 = .ok (.iinc 3 1, 3) := by decide +kernel
theorem dX1_carryBy_30 : decode cX1_carryBy 30 = .ok (.goto (-23), 3) := by decide +kernel
theorem dX1_carryBy_33 : decode cX1_carryBy 33 = .ok (.return_, 1) := by decide +kernel
theorem dX1_countSettings_0 : decode cX1_countSettings 0 = .ok (.aload_n 0, 1) := by decide +kernel
theorem dX1_countSettings_1 : decode cX1_countSettings 1 = .ok (.getfield 15, 3) := by decide +kernel
theorem dX1_countSettings_4 : decode cX1_countSettings 4 = .ok (.iconst 0, 1) := by decide +kernel
theorem dX1_countSettings_5 : decode cX1_countSettings 5 = .ok (.aload_n 0, 1) := by decide +kernel
theorem dX1_countSettings_6 : decode cX1_countSettings 6 = .ok (.getfield 21, 3) := by decide +kernel
theorem dX1_countSettings_9 : decode cX1_countSettings 9 = .ok (.aload_n 0, 1) := by decide +kernel
theorem dX1_countSettings_10 : decode cX1_countSettings 10 = .ok (.getfield 9, 3) := by decide +kernel
theorem dX1_countSettings_13 : decode cX1_countSettings 13 = .ok (.aaload, 1) := by decide +kernel
theorem dX1_countSettings_14 : decode cX1_countSettings 14 = .ok (.iconst 0, 1) := by decide +kernel
theorem dX1_countSettings_15 : decode cX1_countSettings 15 = .ok (.aload_n 0, 1) := by decide +kernel
theorem dX1_countSettings_16 : decode cX1_countSettings 16 = .ok (.invokevirtual 34, 3) := by decide +kernel
theorem dX1_countSettings_19 : decode cX1_countSettings 19 = .ok (.invokestatic 28, 3) := by decide +kernel
theorem dX1_countSettings_22 : decode cX1_countSettings 22 = .ok (.aload_n 0, 1) := by decide +kernel
theorem dX1_countSettings_23 : decode cX1_countSettings 23 = .ok (.aload_n 0, 1) := by decide +kernel
theorem dX1_countSettings_24 : decode cX1_countSettings 24 = .ok (.getfield 9, 3) := by decide +kernel
theorem dX1_countSettings_27 : decode cX1_countSettings 27 = .ok (.iconst 0, 1) := by decide +kernel
theorem dX1_countSettings_28 : decode cX1_countSettings 28 = .ok (.invokevirtual 42, 3) := by decide +kernel
theorem dX1_countSettings_31 : decode cX1_countSettings 31 = .ok (.lreturn, 1) := by decide +kernel
theorem dX1_leastSettings_0 : decode cX1_leastSettings 0 = .ok (.aload_n 0, 1) := by decide +kernel
theorem dX1_leastSettings_1 : decode cX1_leastSettings 1 = .ok (.getfield 15, 3) := by decide +kernel
theorem dX1_leastSettings_4 : decode cX1_leastSettings 4 = .ok (.iconst 0, 1) := by decide +kernel
theorem dX1_leastSettings_5 : decode cX1_leastSettings 5 = .ok (.aload_n 0, 1) := by decide +kernel
theorem dX1_leastSettings_6 : decode cX1_leastSettings 6 = .ok (.getfield 21, 3) := by decide +kernel
theorem dX1_leastSettings_9 : decode cX1_leastSettings 9 = .ok (.aload_n 0, 1) := by decide +kernel
theorem dX1_leastSettings_10 : decode cX1_leastSettings 10 = .ok (.getfield 9, 3) := by decide +kernel
theorem dX1_leastSettings_13 : decode cX1_leastSettings 13 = .ok (.aaload, 1) := by decide +kernel
theorem dX1_leastSettings_14 : decode cX1_leastSettings 14 = .ok (.iconst 0, 1) := by decide +kernel
theorem dX1_leastSettings_15 : decode cX1_leastSettings 15 = .ok (.aload_n 0, 1) := by decide +kernel
theorem dX1_leastSettings_16 : decode cX1_leastSettings 16 = .ok (.invokevirtual 34, 3) := by decide +kernel
theorem dX1_leastSettings_19 : decode cX1_leastSettings 19 = .ok (.invokestatic 28, 3) := by decide +kernel
theorem dX1_leastSettings_22 : decode cX1_leastSettings 22 = .ok (.aload_n 0, 1) := by decide +kernel
theorem dX1_leastSettings_23 : decode cX1_leastSettings 23 = .ok (.aload_n 0, 1) := by decide +kernel
theorem dX1_leastSettings_24 : decode cX1_leastSettings 24 = .ok (.getfield 9, 3) := by decide +kernel
theorem dX1_leastSettings_27 : decode cX1_leastSettings 27 = .ok (.iconst 0, 1) := by decide +kernel
theorem dX1_leastSettings_28 : decode cX1_leastSettings 28 = .ok (.invokevirtual 46, 3) := by decide +kernel
theorem dX1_leastSettings_31 : decode cX1_leastSettings 31 = .ok (.lreturn, 1) := by decide +kernel
theorem dX1_carried_0 : decode cX1_carried 0 = .ok (.iload_n 0, 1) := by decide +kernel
theorem dX1_carried_1 : decode cX1_carried 1 = .ok (.iconst 1, 1) := by decide +kernel
theorem dX1_carried_2 : decode cX1_carried 2 = .ok (.if_icmp .gt 9, 3) := by decide +kernel
theorem dX1_carried_5 : decode cX1_carried 5 = .ok (.iload_n 2, 1) := by decide +kernel
theorem dX1_carried_6 : decode cX1_carried 6 = .ok (.iload_n 1, 1) := by decide +kernel
theorem dX1_carried_7 : decode cX1_carried 7 = .ok (.iconst 1, 1) := by decide +kernel
theorem dX1_carried_8 : decode cX1_carried 8 = .ok (.iand, 1) := by decide +kernel
theorem dX1_carried_9 : decode cX1_carried 9 = .ok (.ixor, 1) := by decide +kernel
theorem dX1_carried_10 : decode cX1_carried 10 = .ok (.ireturn, 1) := by decide +kernel
theorem dX1_carried_11 : decode cX1_carried 11 = .ok (.iconst 1, 1) := by decide +kernel
theorem dX1_carried_12 : decode cX1_carried 12 = .ok (.iload_n 0, 1) := by decide +kernel
theorem dX1_carried_13 : decode cX1_carried 13 = .ok (.ishl, 1) := by decide +kernel
theorem dX1_carried_14 : decode cX1_carried 14 = .ok (.istore_n 3, 1) := by decide +kernel
theorem dX1_carried_15 : decode cX1_carried 15 = .ok (.iload_n 2, 1) := by decide +kernel
theorem dX1_carried_16 : decode cX1_carried 16 = .ok (.iconst 1, 1) := by decide +kernel
theorem dX1_carried_17 : decode cX1_carried 17 = .ok (.iand, 1) := by decide +kernel
theorem dX1_carried_18 : decode cX1_carried 18 = .ok (.iload_n 1, 1) := by decide +kernel
theorem dX1_carried_19 : decode cX1_carried 19 = .ok (.iload_n 2, 1) := by decide +kernel
theorem dX1_carried_20 : decode cX1_carried 20 = .ok (.iconst 1, 1) := by decide +kernel
theorem dX1_carried_21 : decode cX1_carried 21 = .ok (.ishr, 1) := by decide +kernel
theorem dX1_carried_22 : decode cX1_carried 22 = .ok (.invokestatic 49, 3) := by decide +kernel
theorem dX1_carried_25 : decode cX1_carried 25 = .ok (.ixor, 1) := by decide +kernel
theorem dX1_carried_26 : decode cX1_carried 26 = .ok (.istore 4, 2) := by decide +kernel
theorem dX1_carried_28 : decode cX1_carried 28 = .ok (.iload_n 1, 1) := by decide +kernel
theorem dX1_carried_29 : decode cX1_carried 29 = .ok (.iload_n 3, 1) := by decide +kernel
theorem dX1_carried_30 : decode cX1_carried 30 = .ok (.iload 4, 2) := by decide +kernel
theorem dX1_carried_32 : decode cX1_carried 32 = .ok (.getstatic 53, 3) := by decide +kernel
theorem dX1_carried_35 : decode cX1_carried 35 = .ok (.iload_n 0, 1) := by decide +kernel
theorem dX1_carried_36 : decode cX1_carried 36 = .ok (.iconst 1, 1) := by decide +kernel
theorem dX1_carried_37 : decode cX1_carried 37 = .ok (.isub, 1) := by decide +kernel
theorem dX1_carried_38 : decode cX1_carried 38 = .ok (.iaload, 1) := by decide +kernel
theorem dX1_carried_39 : decode cX1_carried 39 = .ok (.imul, 1) := by decide +kernel
theorem dX1_carried_40 : decode cX1_carried 40 = .ok (.iadd, 1) := by decide +kernel
theorem dX1_carried_41 : decode cX1_carried 41 = .ok (.ishr, 1) := by decide +kernel
theorem dX1_carried_42 : decode cX1_carried 42 = .ok (.istore 5, 2) := by decide +kernel
theorem dX1_carried_44 : decode cX1_carried 44 = .ok (.iload_n 0, 1) := by decide +kernel
theorem dX1_carried_45 : decode cX1_carried 45 = .ok (.iconst 1, 1) := by decide +kernel
theorem dX1_carried_46 : decode cX1_carried 46 = .ok (.isub, 1) := by decide +kernel
theorem dX1_carried_47 : decode cX1_carried 47 = .ok (.iload 5, 2) := by decide +kernel
theorem dX1_carried_49 : decode cX1_carried 49 = .ok (.iload_n 2, 1) := by decide +kernel
theorem dX1_carried_50 : decode cX1_carried 50 = .ok (.iconst 1, 1) := by decide +kernel
theorem dX1_carried_51 : decode cX1_carried 51 = .ok (.ishr, 1) := by decide +kernel
theorem dX1_carried_52 : decode cX1_carried 52 = .ok (.invokestatic 38, 3) := by decide +kernel
theorem dX1_carried_55 : decode cX1_carried 55 = .ok (.istore 6, 2) := by decide +kernel
theorem dX1_carried_57 : decode cX1_carried 57 = .ok (.iconst 2, 1) := by decide +kernel
theorem dX1_carried_58 : decode cX1_carried 58 = .ok (.iload 6, 2) := by decide +kernel
theorem dX1_carried_60 : decode cX1_carried 60 = .ok (.imul, 1) := by decide +kernel
theorem dX1_carried_61 : decode cX1_carried 61 = .ok (.iload 4, 2) := by decide +kernel
theorem dX1_carried_63 : decode cX1_carried 63 = .ok (.iload_n 1, 1) := by decide +kernel
theorem dX1_carried_64 : decode cX1_carried 64 = .ok (.iload_n 3, 1) := by decide +kernel
theorem dX1_carried_65 : decode cX1_carried 65 = .ok (.iconst 2, 1) := by decide +kernel
theorem dX1_carried_66 : decode cX1_carried 66 = .ok (.idiv, 1) := by decide +kernel
theorem dX1_carried_67 : decode cX1_carried 67 = .ok (.iload 6, 2) := by decide +kernel
theorem dX1_carried_69 : decode cX1_carried 69 = .ok (.iadd, 1) := by decide +kernel
theorem dX1_carried_70 : decode cX1_carried 70 = .ok (.invokestatic 49, 3) := by decide +kernel
theorem dX1_carried_73 : decode cX1_carried 73 = .ok (.ixor, 1) := by decide +kernel
theorem dX1_carried_74 : decode cX1_carried 74 = .ok (.iadd, 1) := by decide +kernel
theorem dX1_carried_75 : decode cX1_carried 75 = .ok (.ireturn, 1) := by decide +kernel
theorem dX1_settingsOf_0 : decode cX1_settingsOf 0 = .ok (.iload_n 1, 1) := by decide +kernel
theorem dX1_settingsOf_1 : decode cX1_settingsOf 1 = .ok (.iconst 1, 1) := by decide +kernel
theorem dX1_settingsOf_2 : decode cX1_settingsOf 2 = .ok (.if_icmp .gt 5, 3) := by decide +kernel
theorem dX1_settingsOf_5 : decode cX1_settingsOf 5 = .ok (.lconst 1, 1) := by decide +kernel
theorem dX1_settingsOf_6 : decode cX1_settingsOf 6 = .ok (.lreturn, 1) := by decide +kernel
theorem dX1_settingsOf_7 : decode cX1_settingsOf 7 = .ok (.iconst 1, 1) := by decide +kernel
theorem dX1_settingsOf_8 : decode cX1_settingsOf 8 = .ok (.iload_n 1, 1) := by decide +kernel
theorem dX1_settingsOf_9 : decode cX1_settingsOf 9 = .ok (.iconst 1, 1) := by decide +kernel
theorem dX1_settingsOf_10 : decode cX1_settingsOf 10 = .ok (.isub, 1) := by decide +kernel
theorem dX1_settingsOf_11 : decode cX1_settingsOf 11 = .ok (.ishl, 1) := by decide +kernel
theorem dX1_settingsOf_12 : decode cX1_settingsOf 12 = .ok (.istore_n 3, 1) := by decide +kernel
theorem dX1_settingsOf_13 : decode cX1_settingsOf 13 = .ok (.lconst 0, 1) := by decide +kernel
theorem dX1_settingsOf_14 : decode cX1_settingsOf 14 = .ok (.lstore 4, 2) := by decide +kernel
theorem dX1_settingsOf_16 : decode cX1_settingsOf 16 = .ok (.iconst 0, 1) := by decide +kernel
theorem dX1_settingsOf_17 : decode cX1_settingsOf 17 = .ok (.istore 6, 2) := by decide +kernel
theorem dX1_settingsOf_19 : decode cX1_settingsOf 19 = .ok (.iload 6, 2) := by decide +kernel
theorem dX1_settingsOf_21 : decode cX1_settingsOf 21 = .ok (.iconst 1, 1) := by decide +kernel
theorem dX1_settingsOf_22 : decode cX1_settingsOf 22 = .ok (.iload_n 3, 1) := by decide +kernel
theorem dX1_settingsOf_23 : decode cX1_settingsOf 23 = .ok (.ishl, 1) := by decide +kernel
theorem dX1_settingsOf_24 : decode cX1_settingsOf 24 = .ok (.if_icmp .ge 44, 3) := by decide +kernel
theorem dX1_settingsOf_27 : decode cX1_settingsOf 27 = .ok (.aload_n 0, 1) := by decide +kernel
theorem dX1_settingsOf_28 : decode cX1_settingsOf 28 = .ok (.iload 6, 2) := by decide +kernel
theorem dX1_settingsOf_30 : decode cX1_settingsOf 30 = .ok (.iload_n 1, 1) := by decide +kernel
theorem dX1_settingsOf_31 : decode cX1_settingsOf 31 = .ok (.iload_n 2, 1) := by decide +kernel
theorem dX1_settingsOf_32 : decode cX1_settingsOf 32 = .ok (.invokevirtual 56, 3) := by decide +kernel
theorem dX1_settingsOf_35 : decode cX1_settingsOf 35 = .ok (.bipush (-9), 2) := by decide +kernel
theorem dX1_settingsOf_37 : decode cX1_settingsOf 37 = .ok (.if_icmp .eq 25, 3) := by decide +kernel
theorem dX1_settingsOf_40 : decode cX1_settingsOf 40 = .ok (.lload 4, 2) := by decide +kernel
theorem dX1_settingsOf_42 : decode cX1_settingsOf 42 = .ok (.aload_n 0, 1) := by decide +kernel
theorem dX1_settingsOf_43 : decode cX1_settingsOf 43 = .ok (.iload_n 1, 1) := by decide +kernel
theorem dX1_settingsOf_44 : decode cX1_settingsOf 44 = .ok (.iconst 1, 1) := by decide +kernel
theorem dX1_settingsOf_45 : decode cX1_settingsOf 45 = .ok (.isub, 1) := by decide +kernel
theorem dX1_settingsOf_46 : decode cX1_settingsOf 46 = .ok (.iconst 0, 1) := by decide +kernel
theorem dX1_settingsOf_47 : decode cX1_settingsOf 47 = .ok (.invokevirtual 42, 3) := by decide +kernel
theorem dX1_settingsOf_50 : decode cX1_settingsOf 50 = .ok (.aload_n 0, 1) := by decide +kernel
theorem dX1_settingsOf_51 : decode cX1_settingsOf 51 = .ok (.iload_n 1, 1) := by decide +kernel
theorem dX1_settingsOf_52 : decode cX1_settingsOf 52 = .ok (.iconst 1, 1) := by decide +kernel
theorem dX1_settingsOf_53 : decode cX1_settingsOf 53 = .ok (.isub, 1) := by decide +kernel
theorem dX1_settingsOf_54 : decode cX1_settingsOf 54 = .ok (.iload_n 3, 1) := by decide +kernel
theorem dX1_settingsOf_55 : decode cX1_settingsOf 55 = .ok (.invokevirtual 42, 3) := by decide +kernel
theorem dX1_settingsOf_58 : decode cX1_settingsOf 58 = .ok (.lmul, 1) := by decide +kernel
theorem dX1_settingsOf_59 : decode cX1_settingsOf 59 = .ok (.ladd, 1) := by decide +kernel
theorem dX1_settingsOf_60 : decode cX1_settingsOf 60 = .ok (.lstore 4, 2) := by decide +kernel
theorem dX1_settingsOf_62 : decode cX1_settingsOf 62 = .ok (.iinc 6 1, 3) := by decide +kernel
theorem dX1_settingsOf_65 : decode cX1_settingsOf 65 = .ok (.goto (-46), 3) := by decide +kernel
theorem dX1_settingsOf_68 : decode cX1_settingsOf 68 = .ok (.lload 4, 2) := by decide +kernel
theorem dX1_settingsOf_70 : decode cX1_settingsOf 70 = .ok (.lreturn, 1) := by decide +kernel
theorem dX1_leastOf_0 : decode cX1_leastOf 0 = .ok (.iload_n 1, 1) := by decide +kernel
theorem dX1_leastOf_1 : decode cX1_leastOf 1 = .ok (.iconst 1, 1) := by decide +kernel
theorem dX1_leastOf_2 : decode cX1_leastOf 2 = .ok (.if_icmp .gt 13, 3) := by decide +kernel
theorem dX1_leastOf_5 : decode cX1_leastOf 5 = .ok (.aload_n 0, 1) := by decide +kernel
theorem dX1_leastOf_6 : decode cX1_leastOf 6 = .ok (.getfield 21, 3) := by decide +kernel
theorem dX1_leastOf_9 : decode cX1_leastOf 9 = .ok (.iconst 1, 1) := by decide +kernel
theorem dX1_leastOf_10 : decode cX1_leastOf 10 = .ok (.aaload, 1) := by decide +kernel
theorem dX1_leastOf_11 : decode cX1_leastOf 11 = .ok (.iload_n 2, 1) := by decide +kernel
theorem dX1_leastOf_12 : decode cX1_leastOf 12 = .ok (.iaload, 1) := by decide +kernel
theorem dX1_leastOf_13 : decode cX1_leastOf 13 = .ok (.i2l, 1) := by decide +kernel
theorem dX1_leastOf_14 : decode cX1_leastOf 14 = .ok (.lreturn, 1) := by decide +kernel
theorem dX1_leastOf_15 : decode cX1_leastOf 15 = .ok (.iconst 1, 1) := by decide +kernel
theorem dX1_leastOf_16 : decode cX1_leastOf 16 = .ok (.iload_n 1, 1) := by decide +kernel
theorem dX1_leastOf_17 : decode cX1_leastOf 17 = .ok (.ishl, 1) := by decide +kernel
theorem dX1_leastOf_18 : decode cX1_leastOf 18 = .ok (.istore_n 3, 1) := by decide +kernel
theorem dX1_leastOf_19 : decode cX1_leastOf 19 = .ok (.iload_n 3, 1) := by decide +kernel
theorem dX1_leastOf_20 : decode cX1_leastOf 20 = .ok (.iconst 2, 1) := by decide +kernel
theorem dX1_leastOf_21 : decode cX1_leastOf 21 = .ok (.idiv, 1) := by decide +kernel
theorem dX1_leastOf_22 : decode cX1_leastOf 22 = .ok (.istore 4, 2) := by decide +kernel
theorem dX1_leastOf_24 : decode cX1_leastOf 24 = .ok (.ldc2_w 59, 3) := by decide +kernel
theorem dX1_leastOf_27 : decode cX1_leastOf 27 = .ok (.lstore 5, 2) := by decide +kernel
theorem dX1_leastOf_29 : decode cX1_leastOf 29 = .ok (.iconst 0, 1) := by decide +kernel
theorem dX1_leastOf_30 : decode cX1_leastOf 30 = .ok (.istore 7, 2) := by decide +kernel
theorem dX1_leastOf_32 : decode cX1_leastOf 32 = .ok (.iload 7, 2) := by decide +kernel
theorem dX1_leastOf_34 : decode cX1_leastOf 34 = .ok (.iconst 1, 1) := by decide +kernel
theorem dX1_leastOf_35 : decode cX1_leastOf 35 = .ok (.iload 4, 2) := by decide +kernel
theorem dX1_leastOf_37 : decode cX1_leastOf 37 = .ok (.ishl, 1) := by decide +kernel
theorem dX1_leastOf_38 : decode cX1_leastOf 38 = .ok (.if_icmp .ge 94, 3) := by decide +kernel
theorem dX1_leastOf_41 : decode cX1_leastOf 41 = .ok (.aload_n 0, 1) := by decide +kernel
theorem dX1_leastOf_42 : decode cX1_leastOf 42 = .ok (.iload 7, 2) := by decide +kernel
theorem dX1_leastOf_44 : decode cX1_leastOf 44 = .ok (.iload_n 1, 1) := by decide +kernel
theorem dX1_leastOf_45 : decode cX1_leastOf 45 = .ok (.iload_n 2, 1) := by decide +kernel
theorem dX1_leastOf_46 : decode cX1_leastOf 46 = .ok (.invokevirtual 56, 3) := by decide +kernel
theorem dX1_leastOf_49 : decode cX1_leastOf 49 = .ok (.istore 8, 2) := by decide +kernel
theorem dX1_leastOf_51 : decode cX1_leastOf 51 = .ok (.iload 8, 2) := by decide +kernel
theorem dX1_leastOf_53 : decode cX1_leastOf 53 = .ok (.bipush (-9), 2) := by decide +kernel
theorem dX1_leastOf_55 : decode cX1_leastOf 55 = .ok (.if_icmp .ne 6, 3) := by decide +kernel
theorem dX1_leastOf_58 : decode cX1_leastOf 58 = .ok (.goto 68, 3) := by decide +kernel
theorem dX1_leastOf_61 : decode cX1_leastOf 61 = .ok (.aload_n 0, 1) := by decide +kernel
theorem dX1_leastOf_62 : decode cX1_leastOf 62 = .ok (.iload_n 1, 1) := by decide +kernel
theorem dX1_leastOf_63 : decode cX1_leastOf 63 = .ok (.iconst 1, 1) := by decide +kernel
theorem dX1_leastOf_64 : decode cX1_leastOf 64 = .ok (.isub, 1) := by decide +kernel
theorem dX1_leastOf_65 : decode cX1_leastOf 65 = .ok (.iconst 0, 1) := by decide +kernel
theorem dX1_leastOf_66 : decode cX1_leastOf 66 = .ok (.invokevirtual 46, 3) := by decide +kernel
theorem dX1_leastOf_69 : decode cX1_leastOf 69 = .ok (.aload_n 0, 1) := by decide +kernel
theorem dX1_leastOf_70 : decode cX1_leastOf 70 = .ok (.iload_n 1, 1) := by decide +kernel
theorem dX1_leastOf_71 : decode cX1_leastOf 71 = .ok (.iconst 1, 1) := by decide +kernel
theorem dX1_leastOf_72 : decode cX1_leastOf 72 = .ok (.isub, 1) := by decide +kernel
theorem dX1_leastOf_73 : decode cX1_leastOf 73 = .ok (.iload 4, 2) := by decide +kernel
theorem dX1_leastOf_75 : decode cX1_leastOf 75 = .ok (.invokevirtual 46, 3) := by decide +kernel
theorem dX1_leastOf_78 : decode cX1_leastOf 78 = .ok (.getstatic 53, 3) := by decide +kernel
theorem dX1_leastOf_81 : decode cX1_leastOf 81 = .ok (.iload_n 1, 1) := by decide +kernel
theorem dX1_leastOf_82 : decode cX1_leastOf 82 = .ok (.iconst 1, 1) := by decide +kernel
theorem dX1_leastOf_83 : decode cX1_leastOf 83 = .ok (.isub, 1) := by decide +kernel
theorem dX1_leastOf_84 : decode cX1_leastOf 84 = .ok (.iaload, 1) := by decide +kernel
theorem dX1_leastOf_85 : decode cX1_leastOf 85 = .ok (.lshl, 1) := by decide +kernel
theorem dX1_leastOf_86 : decode cX1_leastOf 86 = .ok (.lor, 1) := by decide +kernel
theorem dX1_leastOf_87 : decode cX1_leastOf 87 = .ok (.lstore 9, 2) := by decide +kernel
theorem dX1_leastOf_89 : decode cX1_leastOf 89 = .ok (.iload 7, 2) := by decide +kernel
theorem dX1_leastOf_91 : decode cX1_leastOf 91 = .ok (.iload 8, 2) := by decide +kernel
theorem dX1_leastOf_93 : decode cX1_leastOf 93 = .ok (.iload 4, 2) := by decide +kernel
theorem dX1_leastOf_95 : decode cX1_leastOf 95 = .ok (.ishl, 1) := by decide +kernel
theorem dX1_leastOf_96 : decode cX1_leastOf 96 = .ok (.ior, 1) := by decide +kernel
theorem dX1_leastOf_97 : decode cX1_leastOf 97 = .ok (.i2l, 1) := by decide +kernel
theorem dX1_leastOf_98 : decode cX1_leastOf 98 = .ok (.lload 9, 2) := by decide +kernel
theorem dX1_leastOf_100 : decode cX1_leastOf 100 = .ok (.iload_n 3, 1) := by decide +kernel
theorem dX1_leastOf_101 : decode cX1_leastOf 101 = .ok (.lshl, 1) := by decide +kernel
theorem dX1_leastOf_102 : decode cX1_leastOf 102 = .ok (.lor, 1) := by decide +kernel
theorem dX1_leastOf_103 : decode cX1_leastOf 103 = .ok (.lstore 11, 2) := by decide +kernel
theorem dX1_leastOf_105 : decode cX1_leastOf 105 = .ok (.lload 5, 2) := by decide +kernel
theorem dX1_leastOf_107 : decode cX1_leastOf 107 = .ok (.ldc2_w 59, 3) := by decide +kernel
theorem dX1_leastOf_110 : decode cX1_leastOf 110 = .ok (.lcmp, 1) := by decide +kernel
theorem dX1_leastOf_111 : decode cX1_leastOf 111 = .ok (.ifCond .eq 11, 3) := by decide +kernel
theorem dX1_leastOf_114 : decode cX1_leastOf 114 = .ok (.lload 11, 2) := by decide +kernel
theorem dX1_leastOf_116 : decode cX1_leastOf 116 = .ok (.lload 5, 2) := by decide +kernel
theorem dX1_leastOf_118 : decode cX1_leastOf 118 = .ok (.lcmp, 1) := by decide +kernel
theorem dX1_leastOf_119 : decode cX1_leastOf 119 = .ok (.ifCond .ge 7, 3) := by decide +kernel
theorem dX1_leastOf_122 : decode cX1_leastOf 122 = .ok (.lload 11, 2) := by decide +kernel
theorem dX1_leastOf_124 : decode cX1_leastOf 124 = .ok (.lstore 5, 2) := by decide +kernel
theorem dX1_leastOf_126 : decode cX1_leastOf 126 = .ok (.iinc 7 1, 3) := by decide +kernel
theorem dX1_leastOf_129 : decode cX1_leastOf 129 = .ok (.goto (-97), 3) := by decide +kernel
theorem dX1_leastOf_132 : decode cX1_leastOf 132 = .ok (.lload 5, 2) := by decide +kernel
theorem dX1_leastOf_134 : decode cX1_leastOf 134 = .ok (.lreturn, 1) := by decide +kernel
theorem dX1_splitBy_0 : decode cX1_splitBy 0 = .ok (.iconst 1, 1) := by decide +kernel
theorem dX1_splitBy_1 : decode cX1_splitBy 1 = .ok (.iload_n 2, 1) := by decide +kernel
theorem dX1_splitBy_2 : decode cX1_splitBy 2 = .ok (.ishl, 1) := by decide +kernel
theorem dX1_splitBy_3 : decode cX1_splitBy 3 = .ok (.istore 4, 2) := by decide +kernel
theorem dX1_splitBy_5 : decode cX1_splitBy 5 = .ok (.iload 4, 2) := by decide +kernel
theorem dX1_splitBy_7 : decode cX1_splitBy 7 = .ok (.iconst 2, 1) := by decide +kernel
theorem dX1_splitBy_8 : decode cX1_splitBy 8 = .ok (.idiv, 1) := by decide +kernel
theorem dX1_splitBy_9 : decode cX1_splitBy 9 = .ok (.istore 5, 2) := by decide +kernel
theorem dX1_splitBy_11 : decode cX1_splitBy 11 = .ok (.iconst 0, 1) := by decide +kernel
theorem dX1_splitBy_12 : decode cX1_splitBy 12 = .ok (.istore 6, 2) := by decide +kernel
theorem dX1_splitBy_14 : decode cX1_splitBy 14 = .ok (.iconst 0, 1) := by decide +kernel
theorem dX1_splitBy_15 : decode cX1_splitBy 15 = .ok (.istore 7, 2) := by decide +kernel
theorem dX1_splitBy_17 : decode cX1_splitBy 17 = .ok (.iconst 0, 1) := by decide +kernel
theorem dX1_splitBy_18 : decode cX1_splitBy 18 = .ok (.istore 8, 2) := by decide +kernel
theorem dX1_splitBy_20 : decode cX1_splitBy 20 = .ok (.iload 8, 2) := by decide +kernel
theorem dX1_splitBy_22 : decode cX1_splitBy 22 = .ok (.iload 4, 2) := by decide +kernel
theorem dX1_splitBy_24 : decode cX1_splitBy 24 = .ok (.if_icmp .ge 112, 3) := by decide +kernel
theorem dX1_splitBy_27 : decode cX1_splitBy 27 = .ok (.aload_n 0, 1) := by decide +kernel
theorem dX1_splitBy_28 : decode cX1_splitBy 28 = .ok (.getfield 21, 3) := by decide +kernel
theorem dX1_splitBy_31 : decode cX1_splitBy 31 = .ok (.iload_n 2, 1) := by decide +kernel
theorem dX1_splitBy_32 : decode cX1_splitBy 32 = .ok (.aaload, 1) := by decide +kernel
theorem dX1_splitBy_33 : decode cX1_splitBy 33 = .ok (.iload_n 3, 1) := by decide +kernel
theorem dX1_splitBy_34 : decode cX1_splitBy 34 = .ok (.iload 8, 2) := by decide +kernel
theorem dX1_splitBy_36 : decode cX1_splitBy 36 = .ok (.iadd, 1) := by decide +kernel
theorem dX1_splitBy_37 : decode cX1_splitBy 37 = .ok (.iaload, 1) := by decide +kernel
theorem dX1_splitBy_38 : decode cX1_splitBy 38 = .ok (.istore 9, 2) := by decide +kernel
theorem dX1_splitBy_40 : decode cX1_splitBy 40 = .ok (.iload 8, 2) := by decide +kernel
theorem dX1_splitBy_42 : decode cX1_splitBy 42 = .ok (.iconst 1, 1) := by decide +kernel
theorem dX1_splitBy_43 : decode cX1_splitBy 43 = .ok (.iand, 1) := by decide +kernel
theorem dX1_splitBy_44 : decode cX1_splitBy 44 = .ok (.iload_n 1, 1) := by decide +kernel
theorem dX1_splitBy_45 : decode cX1_splitBy 45 = .ok (.iload 8, 2) := by decide +kernel
theorem dX1_splitBy_47 : decode cX1_splitBy 47 = .ok (.iconst 1, 1) := by decide +kernel
theorem dX1_splitBy_48 : decode cX1_splitBy 48 = .ok (.ishr, 1) := by decide +kernel
theorem dX1_splitBy_49 : decode cX1_splitBy 49 = .ok (.invokestatic 49, 3) := by decide +kernel
theorem dX1_splitBy_52 : decode cX1_splitBy 52 = .ok (.ixor, 1) := by decide +kernel
theorem dX1_splitBy_53 : decode cX1_splitBy 53 = .ok (.istore 10, 2) := by decide +kernel
theorem dX1_splitBy_55 : decode cX1_splitBy 55 = .ok (.iload 10, 2) := by decide +kernel
theorem dX1_splitBy_57 : decode cX1_splitBy 57 = .ok (.iload 5, 2) := by decide +kernel
theorem dX1_splitBy_59 : decode cX1_splitBy 59 = .ok (.imul, 1) := by decide +kernel
theorem dX1_splitBy_60 : decode cX1_splitBy 60 = .ok (.iload 9, 2) := by decide +kernel
theorem dX1_splitBy_62 : decode cX1_splitBy 62 = .ok (.iconst 1, 1) := by decide +kernel
theorem dX1_splitBy_63 : decode cX1_splitBy 63 = .ok (.ishr, 1) := by decide +kernel
theorem dX1_splitBy_64 : decode cX1_splitBy 64 = .ok (.iadd, 1) := by decide +kernel
theorem dX1_splitBy_65 : decode cX1_splitBy 65 = .ok (.istore 11, 2) := by decide +kernel
theorem dX1_splitBy_67 : decode cX1_splitBy 67 = .ok (.iload 7, 2) := by decide +kernel
theorem dX1_splitBy_69 : decode cX1_splitBy 69 = .ok (.iload 11, 2) := by decide +kernel
theorem dX1_splitBy_71 : decode cX1_splitBy 71 = .ok (.invokestatic 49, 3) := by decide +kernel
theorem dX1_splitBy_74 : decode cX1_splitBy 74 = .ok (.iconst 1, 1) := by decide +kernel
theorem dX1_splitBy_75 : decode cX1_splitBy 75 = .ok (.if_icmp .ne 6, 3) := by decide +kernel
theorem dX1_splitBy_78 : decode cX1_splitBy 78 = .ok (.bipush (-9), 2) := by decide +kernel
theorem dX1_splitBy_80 : decode cX1_splitBy 80 = .ok (.ireturn, 1) := by decide +kernel
theorem dX1_splitBy_81 : decode cX1_splitBy 81 = .ok (.iload 7, 2) := by decide +kernel
theorem dX1_splitBy_83 : decode cX1_splitBy 83 = .ok (.iconst 1, 1) := by decide +kernel
theorem dX1_splitBy_84 : decode cX1_splitBy 84 = .ok (.iload 11, 2) := by decide +kernel
theorem dX1_splitBy_86 : decode cX1_splitBy 86 = .ok (.ishl, 1) := by decide +kernel
theorem dX1_splitBy_87 : decode cX1_splitBy 87 = .ok (.ior, 1) := by decide +kernel
theorem dX1_splitBy_88 : decode cX1_splitBy 88 = .ok (.istore 7, 2) := by decide +kernel
theorem dX1_splitBy_90 : decode cX1_splitBy 90 = .ok (.iload 6, 2) := by decide +kernel
theorem dX1_splitBy_92 : decode cX1_splitBy 92 = .ok (.iload 10, 2) := by decide +kernel
theorem dX1_splitBy_94 : decode cX1_splitBy 94 = .ok (.iload 9, 2) := by decide +kernel
theorem dX1_splitBy_96 : decode cX1_splitBy 96 = .ok (.iconst 1, 1) := by decide +kernel
theorem dX1_splitBy_97 : decode cX1_splitBy 97 = .ok (.iand, 1) := by decide +kernel
theorem dX1_splitBy_98 : decode cX1_splitBy 98 = .ok (.ixor, 1) := by decide +kernel
theorem dX1_splitBy_99 : decode cX1_splitBy 99 = .ok (.iload 9, 2) := by decide +kernel
theorem dX1_splitBy_101 : decode cX1_splitBy 101 = .ok (.iconst 1, 1) := by decide +kernel
theorem dX1_splitBy_102 : decode cX1_splitBy 102 = .ok (.ishr, 1) := by decide +kernel
theorem dX1_splitBy_103 : decode cX1_splitBy 103 = .ok (.ishl, 1) := by decide +kernel
theorem dX1_splitBy_104 : decode cX1_splitBy 104 = .ok (.ior, 1) := by decide +kernel
theorem dX1_splitBy_105 : decode cX1_splitBy 105 = .ok (.istore 6, 2) := by decide +kernel
theorem dX1_splitBy_107 : decode cX1_splitBy 107 = .ok (.aload_n 0, 1) := by decide +kernel
theorem dX1_splitBy_108 : decode cX1_splitBy 108 = .ok (.getfield 21, 3) := by decide +kernel
theorem dX1_splitBy_111 : decode cX1_splitBy 111 = .ok (.iload_n 2, 1) := by decide +kernel
theorem dX1_splitBy_112 : decode cX1_splitBy 112 = .ok (.iconst 1, 1) := by decide +kernel
theorem dX1_splitBy_113 : decode cX1_splitBy 113 = .ok (.isub, 1) := by decide +kernel
theorem dX1_splitBy_114 : decode cX1_splitBy 114 = .ok (.aaload, 1) := by decide +kernel
theorem dX1_splitBy_115 : decode cX1_splitBy 115 = .ok (.iload 10, 2) := by decide +kernel
theorem dX1_splitBy_117 : decode cX1_splitBy 117 = .ok (.iload 5, 2) := by decide +kernel
theorem dX1_splitBy_119 : decode cX1_splitBy 119 = .ok (.imul, 1) := by decide +kernel
theorem dX1_splitBy_120 : decode cX1_splitBy 120 = .ok (.iload 8, 2) := by decide +kernel
theorem dX1_splitBy_122 : decode cX1_splitBy 122 = .ok (.iconst 1, 1) := by decide +kernel
theorem dX1_splitBy_123 : decode cX1_splitBy 123 = .ok (.ishr, 1) := by decide +kernel
theorem dX1_splitBy_124 : decode cX1_splitBy 124 = .ok (.iadd, 1) := by decide +kernel
theorem dX1_splitBy_125 : decode cX1_splitBy 125 = .ok (.iload 9, 2) := by decide +kernel
theorem dX1_splitBy_127 : decode cX1_splitBy 127 = .ok (.iconst 1, 1) := by decide +kernel
theorem dX1_splitBy_128 : decode cX1_splitBy 128 = .ok (.ishr, 1) := by decide +kernel
theorem dX1_splitBy_129 : decode cX1_splitBy 129 = .ok (.iastore, 1) := by decide +kernel
theorem dX1_splitBy_130 : decode cX1_splitBy 130 = .ok (.iinc 8 1, 3) := by decide +kernel
theorem dX1_splitBy_133 : decode cX1_splitBy 133 = .ok (.goto (-113), 3) := by decide +kernel
theorem dX1_splitBy_136 : decode cX1_splitBy 136 = .ok (.iload 6, 2) := by decide +kernel
theorem dX1_splitBy_138 : decode cX1_splitBy 138 = .ok (.ireturn, 1) := by decide +kernel
theorem dX1_bit_0 : decode cX1_bit 0 = .ok (.iload_n 0, 1) := by decide +kernel
theorem dX1_bit_1 : decode cX1_bit 1 = .ok (.iload_n 1, 1) := by decide +kernel
theorem dX1_bit_2 : decode cX1_bit 2 = .ok (.ishr, 1) := by decide +kernel
theorem dX1_bit_3 : decode cX1_bit 3 = .ok (.iconst 1, 1) := by decide +kernel
theorem dX1_bit_4 : decode cX1_bit 4 = .ok (.iand, 1) := by decide +kernel
theorem dX1_bit_5 : decode cX1_bit 5 = .ok (.ireturn, 1) := by decide +kernel
theorem dX2_init_0 : decode cX2_init 0 = .ok (.aload_n 0, 1) := by decide +kernel
theorem dX2_init_1 : decode cX2_init 1 = .ok (.invokespecial 3, 3) := by decide +kernel
theorem dX2_init_4 : decode cX2_init 4 = .ok (.aload_n 0, 1) := by decide +kernel
theorem dX2_init_5 : decode cX2_init 5 = .ok (.bipush 8, 2) := by decide +kernel
theorem dX2_init_7 : decode cX2_init 7 = .ok (.newarray .int, 2) := by decide +kernel
theorem dX2_init_9 : decode cX2_init 9 = .ok (.putfield 9, 3) := by decide +kernel
theorem dX2_init_12 : decode cX2_init 12 = .ok (.aload_n 0, 1) := by decide +kernel
theorem dX2_init_13 : decode cX2_init 13 = .ok (.bipush 8, 2) := by decide +kernel
theorem dX2_init_15 : decode cX2_init 15 = .ok (.newarray .int, 2) := by decide +kernel
theorem dX2_init_17 : decode cX2_init 17 = .ok (.putfield 15, 3) := by decide +kernel
theorem dX2_init_20 : decode cX2_init 20 = .ok (.aload_n 0, 1) := by decide +kernel
theorem dX2_init_21 : decode cX2_init 21 = .ok (.bipush 8, 2) := by decide +kernel
theorem dX2_init_23 : decode cX2_init 23 = .ok (.newarray .int, 2) := by decide +kernel
theorem dX2_init_25 : decode cX2_init 25 = .ok (.putfield 18, 3) := by decide +kernel
theorem dX2_init_28 : decode cX2_init 28 = .ok (.aload_n 0, 1) := by decide +kernel
theorem dX2_init_29 : decode cX2_init 29 = .ok (.aload_n 1, 1) := by decide +kernel
theorem dX2_init_30 : decode cX2_init 30 = .ok (.putfield 21, 3) := by decide +kernel
theorem dX2_init_33 : decode cX2_init 33 = .ok (.return_, 1) := by decide +kernel
theorem dX2_lineBehind_0 : decode cX2_lineBehind 0 = .ok (.iload_n 1, 1) := by decide +kernel
theorem dX2_lineBehind_1 : decode cX2_lineBehind 1 = .ok (.istore_n 3, 1) := by decide +kernel
theorem dX2_lineBehind_2 : decode cX2_lineBehind 2 = .ok (.iconst 0, 1) := by decide +kernel
theorem dX2_lineBehind_3 : decode cX2_lineBehind 3 = .ok (.istore 4, 2) := by decide +kernel
theorem dX2_lineBehind_5 : decode cX2_lineBehind 5 = .ok (.iload 4, 2) := by decide +kernel
theorem dX2_lineBehind_7 : decode cX2_lineBehind 7 = .ok (.iload_n 2, 1) := by decide +kernel
theorem dX2_lineBehind_8 : decode cX2_lineBehind 8 = .ok (.if_icmp .gt 47, 3) := by decide +kernel
theorem dX2_lineBehind_11 : decode cX2_lineBehind 11 = .ok (.aload_n 0, 1) := by decide +kernel
theorem dX2_lineBehind_12 : decode cX2_lineBehind 12 = .ok (.getfield 21, 3) := by decide +kernel
theorem dX2_lineBehind_15 : decode cX2_lineBehind 15 = .ok (.getfield 25, 3) := by decide +kernel
theorem dX2_lineBehind_18 : decode cX2_lineBehind 18 = .ok (.iload_n 1, 1) := by decide +kernel
theorem dX2_lineBehind_19 : decode cX2_lineBehind 19 = .ok (.iaload, 1) := by decide +kernel
theorem dX2_lineBehind_20 : decode cX2_lineBehind 20 = .ok (.aload_n 0, 1) := by decide +kernel
theorem dX2_lineBehind_21 : decode cX2_lineBehind 21 = .ok (.getfield 21, 3) := by decide +kernel
theorem dX2_lineBehind_24 : decode cX2_lineBehind 24 = .ok (.getfield 30, 3) := by decide +kernel
theorem dX2_lineBehind_27 : decode cX2_lineBehind 27 = .ok (.iconst 1, 1) := by decide +kernel
theorem dX2_lineBehind_28 : decode cX2_lineBehind 28 = .ok (.isub, 1) := by decide +kernel
theorem dX2_lineBehind_29 : decode cX2_lineBehind 29 = .ok (.iload 4, 2) := by decide +kernel
theorem dX2_lineBehind_31 : decode cX2_lineBehind 31 = .ok (.isub, 1) := by decide +kernel
theorem dX2_lineBehind_32 : decode cX2_lineBehind 32 = .ok (.ishr, 1) := by decide +kernel
theorem dX2_lineBehind_33 : decode cX2_lineBehind 33 = .ok (.iconst 1, 1) := by decide +kernel
theorem dX2_lineBehind_34 : decode cX2_lineBehind 34 = .ok (.iand, 1) := by decide +kernel
theorem dX2_lineBehind_35 : decode cX2_lineBehind 35 = .ok (.istore 5, 2) := by decide +kernel
theorem dX2_lineBehind_37 : decode cX2_lineBehind 37 = .ok (.aload_n 0, 1) := by decide +kernel
theorem dX2_lineBehind_38 : decode cX2_lineBehind 38 = .ok (.iload_n 3, 1) := by decide +kernel
theorem dX2_lineBehind_39 : decode cX2_lineBehind 39 = .ok (.invokevirtual 34, 3) := by decide +kernel
theorem dX2_lineBehind_42 : decode cX2_lineBehind 42 = .ok (.bipush (-2), 2) := by decide +kernel
theorem dX2_lineBehind_44 : decode cX2_lineBehind 44 = .ok (.iand, 1) := by decide +kernel
theorem dX2_lineBehind_45 : decode cX2_lineBehind 45 = .ok (.iload 5, 2) := by decide +kernel
theorem dX2_lineBehind_47 : decode cX2_lineBehind 47 = .ok (.ior, 1) := by decide +kernel
theorem dX2_lineBehind_48 : decode cX2_lineBehind 48 = .ok (.istore_n 3, 1) := by decide +kernel
theorem dX2_lineBehind_49 : decode cX2_lineBehind 49 = .ok (.iinc 4 1, 3) := by decide +kernel
theorem dX2_lineBehind_52 : decode cX2_lineBehind 52 = .ok (.goto (-47), 3) := by decide +kernel
theorem dX2_lineBehind_55 : decode cX2_lineBehind 55 = .ok (.iload_n 3, 1) := by decide +kernel
theorem dX2_lineBehind_56 : decode cX2_lineBehind 56 = .ok (.ireturn, 1) := by decide +kernel
theorem dX2_rowOfClash_0 : decode cX2_rowOfClash 0 = .ok (.iconst 0, 1) := by decide +kernel
theorem dX2_rowOfClash_1 : decode cX2_rowOfClash 1 = .ok (.istore_n 3, 1) := by decide +kernel
theorem dX2_rowOfClash_2 : decode cX2_rowOfClash 2 = .ok (.iload_n 3, 1) := by decide +kernel
theorem dX2_rowOfClash_3 : decode cX2_rowOfClash 3 = .ok (.aload_n 0, 1) := by decide +kernel
theorem dX2_rowOfClash_4 : decode cX2_rowOfClash 4 = .ok (.getfield 21, 3) := by decide +kernel
theorem dX2_rowOfClash_7 : decode cX2_rowOfClash 7 = .ok (.getfield 30, 3) := by decide +kernel
theorem dX2_rowOfClash_10 : decode cX2_rowOfClash 10 = .ok (.if_icmp .ge 26, 3) := by decide +kernel
theorem dX2_rowOfClash_13 : decode cX2_rowOfClash 13 = .ok (.aload_n 0, 1) := by decide +kernel
theorem dX2_rowOfClash_14 : decode cX2_rowOfClash 14 = .ok (.iload_n 1, 1) := by decide +kernel
theorem dX2_rowOfClash_15 : decode cX2_rowOfClash 15 = .ok (.iload_n 3, 1) := by decide +kernel
theorem dX2_rowOfClash_16 : decode cX2_rowOfClash 16 = .ok (.invokevirtual 38, 3) := by decide +kernel
theorem dX2_rowOfClash_19 : decode cX2_rowOfClash 19 = .ok (.aload_n 0, 1) := by decide +kernel
theorem dX2_rowOfClash_20 : decode cX2_rowOfClash 20 = .ok (.iload_n 2, 1) := by decide +kernel
theorem dX2_rowOfClash_21 : decode cX2_rowOfClash 21 = .ok (.iload_n 3, 1) := by decide +kernel
theorem dX2_rowOfClash_22 : decode cX2_rowOfClash 22 = .ok (.invokevirtual 38, 3) := by decide +kernel
theorem dX2_rowOfClash_25 : decode cX2_rowOfClash 25 = .ok (.if_icmp .ne 5, 3) := by decide +kernel
theorem dX2_rowOfClash_28 : decode cX2_rowOfClash 28 = .ok (.iload_n 3, 1) := by decide +kernel
theorem dX2_rowOfClash_29 : decode cX2_rowOfClash 29 = .ok (.ireturn, 1) := by decide +kernel
theorem dX2_rowOfClash_30 : decode cX2_rowOfClash 30 = .ok (.iinc 3 1, 3) := by decide +kernel
theorem dX2_rowOfClash_33 : decode cX2_rowOfClash 33 = .ok (.goto (-31), 3) := by decide +kernel
theorem dX2_rowOfClash_36 : decode cX2_rowOfClash 36 = .ok (.bipush (-9), 2) := by decide +kernel
theorem dX2_rowOfClash_38 : decode cX2_rowOfClash 38 = .ok (.ireturn, 1) := by decide +kernel
theorem dX2_partInlets_0 : decode cX2_partInlets 0 = .ok (.aload_n 0, 1) := by decide +kernel
theorem dX2_partInlets_1 : decode cX2_partInlets 1 = .ok (.invokevirtual 42, 3) := by decide +kernel
theorem dX2_partInlets_4 : decode cX2_partInlets 4 = .ok (.iconst 1, 1) := by decide +kernel
theorem dX2_partInlets_5 : decode cX2_partInlets 5 = .ok (.istore_n 1, 1) := by decide +kernel
theorem dX2_partInlets_6 : decode cX2_partInlets 6 = .ok (.iload_n 1, 1) := by decide +kernel
theorem dX2_partInlets_7 : decode cX2_partInlets 7 = .ok (.aload_n 0, 1) := by decide +kernel
theorem dX2_partInlets_8 : decode cX2_partInlets 8 = .ok (.getfield 21, 3) := by decide +kernel
theorem dX2_partInlets_11 : decode cX2_partInlets 11 = .ok (.invokevirtual 45, 3) := by decide +kernel
theorem dX2_partInlets_14 : decode cX2_partInlets 14 = .ok (.if_icmp .gt 29, 3) := by decide +kernel
theorem dX2_partInlets_17 : decode cX2_partInlets 17 = .ok (.aload_n 0, 1) := by decide +kernel
theorem dX2_partInlets_18 : decode cX2_partInlets 18 = .ok (.getfield 18, 3) := by decide +kernel
theorem dX2_partInlets_21 : decode cX2_partInlets 21 = .ok (.iconst 0, 1) := by decide +kernel
theorem dX2_partInlets_22 : decode cX2_partInlets 22 = .ok (.invokestatic 49, 3) := by decide +kernel
theorem dX2_partInlets_25 : decode cX2_partInlets 25 = .ok (.aload_n 0, 1) := by decide +kernel
theorem dX2_partInlets_26 : decode cX2_partInlets 26 = .ok (.iconst 0, 1) := by decide +kernel
theorem dX2_partInlets_27 : decode cX2_partInlets 27 = .ok (.iconst 0, 1) := by decide +kernel
theorem dX2_partInlets_28 : decode cX2_partInlets 28 = .ok (.iload_n 1, 1) := by decide +kernel
theorem dX2_partInlets_29 : decode cX2_partInlets 29 = .ok (.invokevirtual 55, 3) := by decide +kernel
theorem dX2_partInlets_32 : decode cX2_partInlets 32 = .ok (.ifCond .eq 5, 3) := by decide +kernel
theorem dX2_partInlets_35 : decode cX2_partInlets 35 = .ok (.iload_n 1, 1) := by decide +kernel
theorem dX2_partInlets_36 : decode cX2_partInlets 36 = .ok (.ireturn, 1) := by decide +kernel
theorem dX2_partInlets_37 : decode cX2_partInlets 37 = .ok (.iinc 1 1, 3) := by decide +kernel
theorem dX2_partInlets_40 : decode cX2_partInlets 40 = .ok (.goto (-34), 3) := by decide +kernel
theorem dX2_partInlets_43 : decode cX2_partInlets 43 = .ok (.aload_n 0, 1) := by decide +kernel
theorem dX2_partInlets_44 : decode cX2_partInlets 44 = .ok (.getfield 21, 3) := by decide +kernel
theorem dX2_partInlets_47 : decode cX2_partInlets 47 = .ok (.invokevirtual 45, 3) := by decide +kernel
theorem dX2_partInlets_50 : decode cX2_partInlets 50 = .ok (.ireturn, 1) := by decide +kernel
theorem dX2_shuffled_0 : decode cX2_shuffled 0 = .ok (.aload_n 0, 1) := by decide +kernel
theorem dX2_shuffled_1 : decode cX2_shuffled 1 = .ok (.getfield 21, 3) := by decide +kernel
theorem dX2_shuffled_4 : decode cX2_shuffled 4 = .ok (.invokevirtual 45, 3) := by decide +kernel
theorem dX2_shuffled_7 : decode cX2_shuffled 7 = .ok (.istore_n 2, 1) := by decide +kernel
theorem dX2_shuffled_8 : decode cX2_shuffled 8 = .ok (.iload_n 1, 1) := by decide +kernel
theorem dX2_shuffled_9 : decode cX2_shuffled 9 = .ok (.iload_n 2, 1) := by decide +kernel
theorem dX2_shuffled_10 : decode cX2_shuffled 10 = .ok (.iconst 2, 1) := by decide +kernel
theorem dX2_shuffled_11 : decode cX2_shuffled 11 = .ok (.idiv, 1) := by decide +kernel
theorem dX2_shuffled_12 : decode cX2_shuffled 12 = .ok (.if_icmp .ge 9, 3) := by decide +kernel
theorem dX2_shuffled_15 : decode cX2_shuffled 15 = .ok (.iconst 2, 1) := by decide +kernel
theorem dX2_shuffled_16 : decode cX2_shuffled 16 = .ok (.iload_n 1, 1) := by decide +kernel
theorem dX2_shuffled_17 : decode cX2_shuffled 17 = .ok (.imul, 1) := by decide +kernel
theorem dX2_shuffled_18 : decode cX2_shuffled 18 = .ok (.goto 10, 3) := by decide +kernel
theorem dX2_shuffled_21 : decode cX2_shuffled 21 = .ok (.iconst 2, 1) := by decide +kernel
theorem dX2_shuffled_22 : decode cX2_shuffled 22 = .ok (.iload_n 1, 1) := by decide +kernel
theorem dX2_shuffled_23 : decode cX2_shuffled 23 = .ok (.imul, 1) := by decide +kernel
theorem dX2_shuffled_24 : decode cX2_shuffled 24 = .ok (.iload_n 2, 1) := by decide +kernel
theorem dX2_shuffled_25 : decode cX2_shuffled 25 = .ok (.iconst 1, 1) := by decide +kernel
theorem dX2_shuffled_26 : decode cX2_shuffled 26 = .ok (.isub, 1) := by decide +kernel
theorem dX2_shuffled_27 : decode cX2_shuffled 27 = .ok (.isub, 1) := by decide +kernel
theorem dX2_shuffled_28 : decode cX2_shuffled 28 = .ok (.ireturn, 1) := by decide +kernel
theorem dX2_findClashes_0 : decode cX2_findClashes 0 = .ok (.aload_n 0, 1) := by decide +kernel
theorem dX2_findClashes_1 : decode cX2_findClashes 1 = .ok (.getfield 15, 3) := by decide +kernel
theorem dX2_findClashes_4 : decode cX2_findClashes 4 = .ok (.iconst 0, 1) := by decide +kernel
theorem dX2_findClashes_5 : decode cX2_findClashes 5 = .ok (.invokestatic 49, 3) := by decide +kernel
theorem dX2_findClashes_8 : decode cX2_findClashes 8 = .ok (.iconst 0, 1) := by decide +kernel
theorem dX2_findClashes_9 : decode cX2_findClashes 9 = .ok (.istore_n 1, 1) := by decide +kernel
theorem dX2_findClashes_10 : decode cX2_findClashes 10 = .ok (.iload_n 1, 1) := by decide +kernel
theorem dX2_findClashes_11 : decode cX2_findClashes 11 = .ok (.aload_n 0, 1) := by decide +kernel
theorem dX2_findClashes_12 : decode cX2_findClashes 12 = .ok (.getfield 21, 3) := by decide +kernel
theorem dX2_findClashes_15 : decode cX2_findClashes 15 = .ok (.invokevirtual 45, 3) := by decide +kernel
theorem dX2_findClashes_18 : decode cX2_findClashes 18 = .ok (.if_icmp .ge 56, 3) := by decide +kernel
theorem dX2_findClashes_21 : decode cX2_findClashes 21 = .ok (.iconst 0, 1) := by decide +kernel
theorem dX2_findClashes_22 : decode cX2_findClashes 22 = .ok (.istore_n 2, 1) := by decide +kernel
theorem dX2_findClashes_23 : decode cX2_findClashes 23 = .ok (.iload_n 2, 1) := by decide +kernel
theorem dX2_findClashes_24 : decode cX2_findClashes 24 = .ok (.aload_n 0, 1) := by decide +kernel
theorem dX2_findClashes_25 : decode cX2_findClashes 25 = .ok (.getfield 21, 3) := by decide +kernel
theorem dX2_findClashes_28 : decode cX2_findClashes 28 = .ok (.invokevirtual 45, 3) := by decide +kernel
theorem dX2_findClashes_31 : decode cX2_findClashes 31 = .ok (.if_icmp .ge 37, 3) := by decide +kernel
theorem dX2_findClashes_34 : decode cX2_findClashes 34 = .ok (.iload_n 1, 1) := by decide +kernel
theorem dX2_findClashes_35 : decode cX2_findClashes 35 = .ok (.iload_n 2, 1) := by decide +kernel
theorem dX2_findClashes_36 : decode cX2_findClashes 36 = .ok (.if_icmp .eq 26, 3) := by decide +kernel
theorem dX2_findClashes_39 : decode cX2_findClashes 39 = .ok (.aload_n 0, 1) := by decide +kernel
theorem dX2_findClashes_40 : decode cX2_findClashes 40 = .ok (.iload_n 1, 1) := by decide +kernel
theorem dX2_findClashes_41 : decode cX2_findClashes 41 = .ok (.iload_n 2, 1) := by decide +kernel
theorem dX2_findClashes_42 : decode cX2_findClashes 42 = .ok (.invokevirtual 59, 3) := by decide +kernel
theorem dX2_findClashes_45 : decode cX2_findClashes 45 = .ok (.bipush (-9), 2) := by decide +kernel
theorem dX2_findClashes_47 : decode cX2_findClashes 47 = .ok (.if_icmp .eq 15, 3) := by decide +kernel
theorem dX2_findClashes_50 : decode cX2_findClashes 50 = .ok (.aload_n 0, 1) := by decide +kernel
theorem dX2_findClashes_51 : decode cX2_findClashes 51 = .ok (.getfield 15, 3) := by decide +kernel
theorem dX2_findClashes_54 : decode cX2_findClashes 54 = .ok (.iload_n 1, 1) := by decide +kernel
theorem dX2_findClashes_55 : decode cX2_findClashes 55 = .ok (.dup2, 1) := by decide +kernel
theorem dX2_findClashes_56 : decode cX2_findClashes 56 = .ok (.iaload, 1) := by decide +kernel
theorem dX2_findClashes_57 : decode cX2_findClashes 57 = .ok (.iconst 1, 1) := by decide +kernel
theorem dX2_findClashes_58 : decode cX2_findClashes 58 = .ok (.iload_n 2, 1) := by decide +kernel
theorem dX2_findClashes_59 : decode cX2_findClashes 59 = .ok (.ishl, 1) := by decide +kernel
theorem dX2_findClashes_60 : decode cX2_findClashes 60 = .ok (.ior, 1) := by decide +kernel
theorem dX2_findClashes_61 : decode cX2_findClashes 61 = .ok (.iastore, 1) := by decide +kernel
theorem dX2_findClashes_62 : decode cX2_findClashes 62 = .ok (.iinc 2 1, 3) := by decide +kernel
theorem dX2_findClashes_65 : decode cX2_findClashes 65 = .ok (.goto (-42), 3) := by decide +kernel
theorem dX2_findClashes_68 : decode cX2_findClashes 68 = .ok (.iinc 1 1, 3) := by decide +kernel
theorem dX2_findClashes_71 : decode cX2_findClashes 71 = .ok (.goto (-61), 3) := by decide +kernel
theorem dX2_findClashes_74 : decode cX2_findClashes 74 = .ok (.return_, 1) := by decide +kernel
theorem dX2_canPart_0 : decode cX2_canPart 0 = .ok (.iload_n 1, 1) := by decide +kernel
theorem dX2_canPart_1 : decode cX2_canPart 1 = .ok (.aload_n 0, 1) := by decide +kernel
theorem dX2_canPart_2 : decode cX2_canPart 2 = .ok (.getfield 21, 3) := by decide +kernel
theorem dX2_canPart_5 : decode cX2_canPart 5 = .ok (.invokevirtual 45, 3) := by decide +kernel
theorem dX2_canPart_8 : decode cX2_canPart 8 = .ok (.if_icmp .lt 5, 3) := by decide +kernel
theorem dX2_canPart_11 : decode cX2_canPart 11 = .ok (.iconst 1, 1) := by decide +kernel
theorem dX2_canPart_12 : decode cX2_canPart 12 = .ok (.ireturn, 1) := by decide +kernel
theorem dX2_canPart_13 : decode cX2_canPart 13 = .ok (.iconst 0, 1) := by decide +kernel
theorem dX2_canPart_14 : decode cX2_canPart 14 = .ok (.istore 4, 2) := by decide +kernel
theorem dX2_canPart_16 : decode cX2_canPart 16 = .ok (.iload 4, 2) := by decide +kernel
theorem dX2_canPart_18 : decode cX2_canPart 18 = .ok (.iload_n 2, 1) := by decide +kernel
theorem dX2_canPart_19 : decode cX2_canPart 19 = .ok (.if_icmp .gt 92, 3) := by decide +kernel
theorem dX2_canPart_22 : decode cX2_canPart 22 = .ok (.iload 4, 2) := by decide +kernel
theorem dX2_canPart_24 : decode cX2_canPart 24 = .ok (.iload_n 3, 1) := by decide +kernel
theorem dX2_canPart_25 : decode cX2_canPart 25 = .ok (.if_icmp .ge 86, 3) := by decide +kernel
theorem dX2_canPart_28 : decode cX2_canPart 28 = .ok (.aload_n 0, 1) := by decide +kernel
theorem dX2_canPart_29 : decode cX2_canPart 29 = .ok (.getfield 18, 3) := by decide +kernel
theorem dX2_canPart_32 : decode cX2_canPart 32 = .ok (.iload 4, 2) := by decide +kernel
theorem dX2_canPart_34 : decode cX2_canPart 34 = .ok (.iaload, 1) := by decide +kernel
theorem dX2_canPart_35 : decode cX2_canPart 35 = .ok (.aload_n 0, 1) := by decide +kernel
theorem dX2_canPart_36 : decode cX2_canPart 36 = .ok (.getfield 15, 3) := by decide +kernel
theorem dX2_canPart_39 : decode cX2_canPart 39 = .ok (.iload_n 1, 1) := by decide +kernel
theorem dX2_canPart_40 : decode cX2_canPart 40 = .ok (.iaload, 1) := by decide +kernel
theorem dX2_canPart_41 : decode cX2_canPart 41 = .ok (.iand, 1) := by decide +kernel
theorem dX2_canPart_42 : decode cX2_canPart 42 = .ok (.ifCond .eq 6, 3) := by decide +kernel
theorem dX2_canPart_45 : decode cX2_canPart 45 = .ok (.goto 60, 3) := by decide +kernel
theorem dX2_canPart_48 : decode cX2_canPart 48 = .ok (.aload_n 0, 1) := by decide +kernel
theorem dX2_canPart_49 : decode cX2_canPart 49 = .ok (.getfield 18, 3) := by decide +kernel
theorem dX2_canPart_52 : decode cX2_canPart 52 = .ok (.iload 4, 2) := by decide +kernel
theorem dX2_canPart_54 : decode cX2_canPart 54 = .ok (.dup2, 1) := by decide +kernel
theorem dX2_canPart_55 : decode cX2_canPart 55 = .ok (.iaload, 1) := by decide +kernel
theorem dX2_canPart_56 : decode cX2_canPart 56 = .ok (.iconst 1, 1) := by decide +kernel
theorem dX2_canPart_57 : decode cX2_canPart 57 = .ok (.iload_n 1, 1) := by decide +kernel
theorem dX2_canPart_58 : decode cX2_canPart 58 = .ok (.ishl, 1) := by decide +kernel
theorem dX2_canPart_59 : decode cX2_canPart 59 = .ok (.ior, 1) := by decide +kernel
theorem dX2_canPart_60 : decode cX2_canPart 60 = .ok (.iastore, 1) := by decide +kernel
theorem dX2_canPart_61 : decode cX2_canPart 61 = .ok (.aload_n 0, 1) := by decide +kernel
theorem dX2_canPart_62 : decode cX2_canPart 62 = .ok (.getfield 9, 3) := by decide +kernel
theorem dX2_canPart_65 : decode cX2_canPart 65 = .ok (.iload_n 1, 1) := by decide +kernel
theorem dX2_canPart_66 : decode cX2_canPart 66 = .ok (.iload 4, 2) := by decide +kernel
theorem dX2_canPart_68 : decode cX2_canPart 68 = .ok (.iastore, 1) := by decide +kernel
theorem dX2_canPart_69 : decode cX2_canPart 69 = .ok (.aload_n 0, 1) := by decide +kernel
theorem dX2_canPart_70 : decode cX2_canPart 70 = .ok (.iload_n 1, 1) := by decide +kernel
theorem dX2_canPart_71 : decode cX2_canPart 71 = .ok (.iconst 1, 1) := by decide +kernel
theorem dX2_canPart_72 : decode cX2_canPart 72 = .ok (.iadd, 1) := by decide +kernel
theorem dX2_canPart_73 : decode cX2_canPart 73 = .ok (.iload_n 2, 1) := by decide +kernel
theorem dX2_canPart_74 : decode cX2_canPart 74 = .ok (.iload 4, 2) := by decide +kernel
theorem dX2_canPart_76 : decode cX2_canPart 76 = .ok (.iconst 1, 1) := by decide +kernel
theorem dX2_canPart_77 : decode cX2_canPart 77 = .ok (.iadd, 1) := by decide +kernel
theorem dX2_canPart_78 : decode cX2_canPart 78 = .ok (.invokestatic 62, 3) := by decide +kernel
theorem dX2_canPart_81 : decode cX2_canPart 81 = .ok (.iload_n 3, 1) := by decide +kernel
theorem dX2_canPart_82 : decode cX2_canPart 82 = .ok (.invokevirtual 55, 3) := by decide +kernel
theorem dX2_canPart_85 : decode cX2_canPart 85 = .ok (.ifCond .eq 5, 3) := by decide +kernel
theorem dX2_canPart_88 : decode cX2_canPart 88 = .ok (.iconst 1, 1) := by decide +kernel
theorem dX2_canPart_89 : decode cX2_canPart 89 = .ok (.ireturn, 1) := by decide +kernel
theorem dX2_canPart_90 : decode cX2_canPart 90 = .ok (.aload_n 0, 1) := by decide +kernel
theorem dX2_canPart_91 : decode cX2_canPart 91 = .ok (.getfield 18, 3) := by decide +kernel
theorem dX2_canPart_94 : decode cX2_canPart 94 = .ok (.iload 4, 2) := by decide +kernel
theorem dX2_canPart_96 : decode cX2_canPart 96 = .ok (.dup2, 1) := by decide +kernel
theorem dX2_canPart_97 : decode cX2_canPart 97 = .ok (.iaload, 1) := by decide +kernel
theorem dX2_canPart_98 : decode cX2_canPart 98 = .ok (.iconst 1, 1) := by decide +kernel
theorem dX2_canPart_99 : decode cX2_canPart 99 = .ok (.iload_n 1, 1) := by decide +kernel
theorem dX2_canPart_100 : decode cX2_canPart 100 = .ok (.ishl, 1) := by decide +kernel
theorem dX2_canPart_101 : decode cX2_canPart 101 = .ok (.iconst (-1), 1) := by decide +kernel
theorem dX2_canPart_102 : decode cX2_canPart 102 = .ok (.ixor, 1) := by decide +kernel
theorem dX2_canPart_103 : decode cX2_canPart 103 = .ok (.iand, 1) := by decide +kernel
theorem dX2_canPart_104 : decode cX2_canPart 104 = .ok (.iastore, 1) := by decide +kernel
theorem dX2_canPart_105 : decode cX2_canPart 105 = .ok (.iinc 4 1, 3) := by decide +kernel
theorem dX2_canPart_108 : decode cX2_canPart 108 = .ok (.goto (-92), 3) := by decide +kernel
theorem dX2_canPart_111 : decode cX2_canPart 111 = .ok (.iconst 0, 1) := by decide +kernel
theorem dX2_canPart_112 : decode cX2_canPart 112 = .ok (.ireturn, 1) := by decide +kernel
theorem dX3_init_0 : decode cX3_init 0 = .ok (.aload_n 0, 1) := by decide +kernel
theorem dX3_init_1 : decode cX3_init 1 = .ok (.invokespecial 3, 3) := by decide +kernel
theorem dX3_init_4 : decode cX3_init 4 = .ok (.aload_n 0, 1) := by decide +kernel
theorem dX3_init_5 : decode cX3_init 5 = .ok (.iconst 3, 1) := by decide +kernel
theorem dX3_init_6 : decode cX3_init 6 = .ok (.putfield 9, 3) := by decide +kernel
theorem dX3_init_9 : decode cX3_init 9 = .ok (.aload_n 0, 1) := by decide +kernel
theorem dX3_init_10 : decode cX3_init 10 = .ok (.iconst 0, 1) := by decide +kernel
theorem dX3_init_11 : decode cX3_init 11 = .ok (.putfield 15, 3) := by decide +kernel
theorem dX3_init_14 : decode cX3_init 14 = .ok (.aload_n 0, 1) := by decide +kernel
theorem dX3_init_15 : decode cX3_init 15 = .ok (.iconst 0, 1) := by decide +kernel
theorem dX3_init_16 : decode cX3_init 16 = .ok (.putfield 18, 3) := by decide +kernel
theorem dX3_init_19 : decode cX3_init 19 = .ok (.aload_n 0, 1) := by decide +kernel
theorem dX3_init_20 : decode cX3_init 20 = .ok (.iconst 0, 1) := by decide +kernel
theorem dX3_init_21 : decode cX3_init 21 = .ok (.putfield 22, 3) := by decide +kernel
theorem dX3_init_24 : decode cX3_init 24 = .ok (.aload_n 0, 1) := by decide +kernel
theorem dX3_init_25 : decode cX3_init 25 = .ok (.iconst 5, 1) := by decide +kernel
theorem dX3_init_26 : decode cX3_init 26 = .ok (.iconst 5, 1) := by decide +kernel
theorem dX3_init_27 : decode cX3_init 27 = .ok (.multianewarray 25 2, 4) := by decide +kernel
theorem dX3_init_31 : decode cX3_init 31 = .ok (.putfield 27, 3) := by decide +kernel
theorem dX3_init_34 : decode cX3_init 34 = .ok (.aload_n 0, 1) := by decide +kernel
theorem dX3_init_35 : decode cX3_init 35 = .ok (.iconst 5, 1) := by decide +kernel
theorem dX3_init_36 : decode cX3_init 36 = .ok (.iconst 5, 1) := by decide +kernel
theorem dX3_init_37 : decode cX3_init 37 = .ok (.multianewarray 25 2, 4) := by decide +kernel
theorem dX3_init_41 : decode cX3_init 41 = .ok (.putfield 30, 3) := by decide +kernel
theorem dX3_init_44 : decode cX3_init 44 = .ok (.aload_n 0, 1) := by decide +kernel
theorem dX3_init_45 : decode cX3_init 45 = .ok (.iconst 5, 1) := by decide +kernel
theorem dX3_init_46 : decode cX3_init 46 = .ok (.newarray .int, 2) := by decide +kernel
theorem dX3_init_48 : decode cX3_init 48 = .ok (.putfield 33, 3) := by decide +kernel
theorem dX3_init_51 : decode cX3_init 51 = .ok (.aload_n 0, 1) := by decide +kernel
theorem dX3_init_52 : decode cX3_init 52 = .ok (.iconst 5, 1) := by decide +kernel
theorem dX3_init_53 : decode cX3_init 53 = .ok (.newarray .int, 2) := by decide +kernel
theorem dX3_init_55 : decode cX3_init 55 = .ok (.putfield 37, 3) := by decide +kernel
theorem dX3_init_58 : decode cX3_init 58 = .ok (.aload_n 0, 1) := by decide +kernel
theorem dX3_init_59 : decode cX3_init 59 = .ok (.bipush 36, 2) := by decide +kernel
theorem dX3_init_61 : decode cX3_init 61 = .ok (.iconst 5, 1) := by decide +kernel
theorem dX3_init_62 : decode cX3_init 62 = .ok (.multianewarray 25 2, 4) := by decide +kernel
theorem dX3_init_66 : decode cX3_init 66 = .ok (.putfield 40, 3) := by decide +kernel
theorem dX3_init_69 : decode cX3_init 69 = .ok (.aload_n 0, 1) := by decide +kernel
theorem dX3_init_70 : decode cX3_init 70 = .ok (.bipush 36, 2) := by decide +kernel
theorem dX3_init_72 : decode cX3_init 72 = .ok (.newarray .int, 2) := by decide +kernel
theorem dX3_init_74 : decode cX3_init 74 = .ok (.putfield 43, 3) := by decide +kernel
theorem dX3_init_77 : decode cX3_init 77 = .ok (.aload_n 0, 1) := by decide +kernel
theorem dX3_init_78 : decode cX3_init 78 = .ok (.bipush 6, 2) := by decide +kernel
theorem dX3_init_80 : decode cX3_init 80 = .ok (.newarray .int, 2) := by decide +kernel
theorem dX3_init_82 : decode cX3_init 82 = .ok (.putfield 46, 3) := by decide +kernel
theorem dX3_init_85 : decode cX3_init 85 = .ok (.return_, 1) := by decide +kernel
theorem dX3_begin_0 : decode cX3_begin 0 = .ok (.aload_n 0, 1) := by decide +kernel
theorem dX3_begin_1 : decode cX3_begin 1 = .ok (.iload_n 1, 1) := by decide +kernel
theorem dX3_begin_2 : decode cX3_begin 2 = .ok (.putfield 9, 3) := by decide +kernel
theorem dX3_begin_5 : decode cX3_begin 5 = .ok (.iconst 0, 1) := by decide +kernel
theorem dX3_begin_6 : decode cX3_begin 6 = .ok (.istore_n 2, 1) := by decide +kernel
theorem dX3_begin_7 : decode cX3_begin 7 = .ok (.iload_n 2, 1) := by decide +kernel
theorem dX3_begin_8 : decode cX3_begin 8 = .ok (.iconst 5, 1) := by decide +kernel
theorem dX3_begin_9 : decode cX3_begin 9 = .ok (.if_icmp .ge 19, 3) := by decide +kernel
theorem dX3_begin_12 : decode cX3_begin 12 = .ok (.aload_n 0, 1) := by decide +kernel
theorem dX3_begin_13 : decode cX3_begin 13 = .ok (.getfield 27, 3) := by decide +kernel
theorem dX3_begin_16 : decode cX3_begin 16 = .ok (.iload_n 2, 1) := by decide +kernel
theorem dX3_begin_17 : decode cX3_begin 17 = .ok (.aaload, 1) := by decide +kernel
theorem dX3_begin_18 : decode cX3_begin 18 = .ok (.iconst 0, 1) := by decide +kernel
theorem dX3_begin_19 : decode cX3_begin 19 = .ok (.invokestatic 49, 3) := by decide +kernel
theorem dX3_begin_22 : decode cX3_begin 22 = .ok (.iinc 2 1, 3) := by decide +kernel
theorem dX3_begin_25 : decode cX3_begin 25 = .ok (.goto (-18), 3) := by decide +kernel
theorem dX3_begin_28 : decode cX3_begin 28 = .ok (.aload_n 0, 1) := by decide +kernel
theorem dX3_begin_29 : decode cX3_begin 29 = .ok (.iconst 1, 1) := by decide +kernel
theorem dX3_begin_30 : decode cX3_begin 30 = .ok (.putfield 18, 3) := by decide +kernel
theorem dX3_begin_33 : decode cX3_begin 33 = .ok (.return_, 1) := by decide +kernel
theorem dX3_change_0 : decode cX3_change 0 = .ok (.aload_n 0, 1) := by decide +kernel
theorem dX3_change_1 : decode cX3_change 1 = .ok (.getfield 27, 3) := by decide +kernel
theorem dX3_change_4 : decode cX3_change 4 = .ok (.iload_n 1, 1) := by decide +kernel
theorem dX3_change_5 : decode cX3_change 5 = .ok (.aaload, 1) := by decide +kernel
theorem dX3_change_6 : decode cX3_change 6 = .ok (.iload_n 2, 1) := by decide +kernel
theorem dX3_change_7 : decode cX3_change 7 = .ok (.iaload, 1) := by decide +kernel
theorem dX3_change_8 : decode cX3_change 8 = .ok (.istore 4, 2) := by decide +kernel
theorem dX3_change_10 : decode cX3_change 10 = .ok (.aload_n 0, 1) := by decide +kernel
theorem dX3_change_11 : decode cX3_change 11 = .ok (.getfield 27, 3) := by decide +kernel
theorem dX3_change_14 : decode cX3_change 14 = .ok (.iload_n 1, 1) := by decide +kernel
theorem dX3_change_15 : decode cX3_change 15 = .ok (.aaload, 1) := by decide +kernel
theorem dX3_change_16 : decode cX3_change 16 = .ok (.iload_n 2, 1) := by decide +kernel
theorem dX3_change_17 : decode cX3_change 17 = .ok (.iload_n 3, 1) := by decide +kernel
theorem dX3_change_18 : decode cX3_change 18 = .ok (.iastore, 1) := by decide +kernel
theorem dX3_change_19 : decode cX3_change 19 = .ok (.aload_n 0, 1) := by decide +kernel
theorem dX3_change_20 : decode cX3_change 20 = .ok (.iconst 1, 1) := by decide +kernel
theorem dX3_change_21 : decode cX3_change 21 = .ok (.putfield 18, 3) := by decide +kernel
theorem dX3_change_24 : decode cX3_change 24 = .ok (.iload 4, 2) := by decide +kernel
theorem dX3_change_26 : decode cX3_change 26 = .ok (.ireturn, 1) := by decide +kernel
theorem dX3_wholeSpan_0 : decode cX3_wholeSpan 0 = .ok (.aload_n 0, 1) := by decide +kernel
theorem dX3_wholeSpan_1 : decode cX3_wholeSpan 1 = .ok (.aload_n 0, 1) := by decide +kernel
theorem dX3_wholeSpan_2 : decode cX3_wholeSpan 2 = .ok (.getfield 27, 3) := by decide +kernel
theorem dX3_wholeSpan_5 : decode cX3_wholeSpan 5 = .ok (.invokevirtual 55, 3) := by decide +kernel
theorem dX3_wholeSpan_8 : decode cX3_wholeSpan 8 = .ok (.aload_n 0, 1) := by decide +kernel
theorem dX3_wholeSpan_9 : decode cX3_wholeSpan 9 = .ok (.getfield 22, 3) := by decide +kernel
theorem dX3_wholeSpan_12 : decode cX3_wholeSpan 12 = .ok (.ireturn, 1) := by decide +kernel
theorem dX3_phasesInAll_0 : decode cX3_phasesInAll 0 = .ok (.aload_n 0, 1) := by decide +kernel
theorem dX3_phasesInAll_1 : decode cX3_phasesInAll 1 = .ok (.invokevirtual 59, 3) := by decide +kernel
theorem dX3_phasesInAll_4 : decode cX3_phasesInAll 4 = .ok (.aload_n 0, 1) := by decide +kernel
theorem dX3_phasesInAll_5 : decode cX3_phasesInAll 5 = .ok (.getfield 15, 3) := by decide +kernel
theorem dX3_phasesInAll_8 : decode cX3_phasesInAll 8 = .ok (.ireturn, 1) := by decide +kernel
theorem dX3_outletIn_0 : decode cX3_outletIn 0 = .ok (.aload_n 0, 1) := by decide +kernel
theorem dX3_outletIn_1 : decode cX3_outletIn 1 = .ok (.invokevirtual 59, 3) := by decide +kernel
theorem dX3_outletIn_4 : decode cX3_outletIn 4 = .ok (.iconst 0, 1) := by decide +kernel
theorem dX3_outletIn_5 : decode cX3_outletIn 5 = .ok (.istore_n 3, 1) := by decide +kernel
theorem dX3_outletIn_6 : decode cX3_outletIn 6 = .ok (.iload_n 3, 1) := by decide +kernel
theorem dX3_outletIn_7 : decode cX3_outletIn 7 = .ok (.aload_n 0, 1) := by decide +kernel
theorem dX3_outletIn_8 : decode cX3_outletIn 8 = .ok (.getfield 15, 3) := by decide +kernel
theorem dX3_outletIn_11 : decode cX3_outletIn 11 = .ok (.if_icmp .ge 28, 3) := by decide +kernel
theorem dX3_outletIn_14 : decode cX3_outletIn 14 = .ok (.iload_n 1, 1) := by decide +kernel
theorem dX3_outletIn_15 : decode cX3_outletIn 15 = .ok (.aload_n 0, 1) := by decide +kernel
theorem dX3_outletIn_16 : decode cX3_outletIn 16 = .ok (.getfield 43, 3) := by decide +kernel
theorem dX3_outletIn_19 : decode cX3_outletIn 19 = .ok (.iload_n 3, 1) := by decide +kernel
theorem dX3_outletIn_20 : decode cX3_outletIn 20 = .ok (.iaload, 1) := by decide +kernel
theorem dX3_outletIn_21 : decode cX3_outletIn 21 = .ok (.if_icmp .ge 12, 3) := by decide +kernel
theorem dX3_outletIn_24 : decode cX3_outletIn 24 = .ok (.aload_n 0, 1) := by decide +kernel
theorem dX3_outletIn_25 : decode cX3_outletIn 25 = .ok (.getfield 40, 3) := by decide +kernel
theorem dX3_outletIn_28 : decode cX3_outletIn 28 = .ok (.iload_n 3, 1) := by decide +kernel
theorem dX3_outletIn_29 : decode cX3_outletIn 29 = .ok (.aaload, 1) := by decide +kernel
theorem dX3_outletIn_30 : decode cX3_outletIn 30 = .ok (.iload_n 2, 1) := by decide +kernel
theorem dX3_outletIn_31 : decode cX3_outletIn 31 = .ok (.iaload, 1) := by decide +kernel
theorem dX3_outletIn_32 : decode cX3_outletIn 32 = .ok (.ireturn, 1) := by decide +kernel
theorem dX3_outletIn_33 : decode cX3_outletIn 33 = .ok (.iinc 3 1, 3) := by decide +kernel
theorem dX3_outletIn_36 : decode cX3_outletIn 36 = .ok (.goto (-30), 3) := by decide +kernel
theorem dX3_outletIn_39 : decode cX3_outletIn 39 = .ok (.bipush (-9), 2) := by decide +kernel
theorem dX3_outletIn_41 : decode cX3_outletIn 41 = .ok (.ireturn, 1) := by decide +kernel
theorem dX3_partIfStale_0 : decode cX3_partIfStale 0 = .ok (.aload_n 0, 1) := by decide +kernel
theorem dX3_partIfStale_1 : decode cX3_partIfStale 1 = .ok (.getfield 18, 3) := by decide +kernel
theorem dX3_partIfStale_4 : decode cX3_partIfStale 4 = .ok (.ifCond .ne 4, 3) := by decide +kernel
theorem dX3_partIfStale_7 : decode cX3_partIfStale 7 = .ok (.return_, 1) := by decide +kernel
theorem dX3_partIfStale_8 : decode cX3_partIfStale 8 = .ok (.aload_n 0, 1) := by decide +kernel
theorem dX3_partIfStale_9 : decode cX3_partIfStale 9 = .ok (.iconst 0, 1) := by decide +kernel
theorem dX3_partIfStale_10 : decode cX3_partIfStale 10 = .ok (.putfield 18, 3) := by decide +kernel
theorem dX3_partIfStale_13 : decode cX3_partIfStale 13 = .ok (.iconst 0, 1) := by decide +kernel
theorem dX3_partIfStale_14 : decode cX3_partIfStale 14 = .ok (.istore_n 1, 1) := by decide +kernel
theorem dX3_partIfStale_15 : decode cX3_partIfStale 15 = .ok (.iload_n 1, 1) := by decide +kernel
theorem dX3_partIfStale_16 : decode cX3_partIfStale 16 = .ok (.aload_n 0, 1) := by decide +kernel
theorem dX3_partIfStale_17 : decode cX3_partIfStale 17 = .ok (.getfield 9, 3) := by decide +kernel
theorem dX3_partIfStale_20 : decode cX3_partIfStale 20 = .ok (.if_icmp .ge 30, 3) := by decide +kernel
theorem dX3_partIfStale_23 : decode cX3_partIfStale 23 = .ok (.aload_n 0, 1) := by decide +kernel
theorem dX3_partIfStale_24 : decode cX3_partIfStale 24 = .ok (.getfield 27, 3) := by decide +kernel
theorem dX3_partIfStale_27 : decode cX3_partIfStale 27 = .ok (.iload_n 1, 1) := by decide +kernel
theorem dX3_partIfStale_28 : decode cX3_partIfStale 28 = .ok (.aaload, 1) := by decide +kernel
theorem dX3_partIfStale_29 : decode cX3_partIfStale 29 = .ok (.iconst 0, 1) := by decide +kernel
theorem dX3_partIfStale_30 : decode cX3_partIfStale 30 = .ok (.aload_n 0, 1) := by decide +kernel
theorem dX3_partIfStale_31 : decode cX3_partIfStale 31 = .ok (.getfield 30, 3) := by decide +kernel
theorem dX3_partIfStale_34 : decode cX3_partIfStale 34 = .ok (.iload_n 1, 1) := by decide +kernel
theorem dX3_partIfStale_35 : decode cX3_partIfStale 35 = .ok (.aaload, 1) := by decide +kernel
theorem dX3_partIfStale_36 : decode cX3_partIfStale 36 = .ok (.iconst 0, 1) := by decide +kernel
theorem dX3_partIfStale_37 : decode cX3_partIfStale 37 = .ok (.aload_n 0, 1) := by decide +kernel
theorem dX3_partIfStale_38 : decode cX3_partIfStale 38 = .ok (.getfield 9, 3) := by decide +kernel
theorem dX3_partIfStale_41 : decode cX3_partIfStale 41 = .ok (.invokestatic 62, 3) := by decide +kernel
theorem dX3_partIfStale_44 : decode cX3_partIfStale 44 = .ok (.iinc 1 1, 3) := by decide +kernel
theorem dX3_partIfStale_47 : decode cX3_partIfStale 47 = .ok (.goto (-32), 3) := by decide +kernel
theorem dX3_partIfStale_50 : decode cX3_partIfStale 50 = .ok (.aload_n 0, 1) := by decide +kernel
theorem dX3_partIfStale_51 : decode cX3_partIfStale 51 = .ok (.aload_n 0, 1) := by decide +kernel
theorem dX3_partIfStale_52 : decode cX3_partIfStale 52 = .ok (.getfield 30, 3) := by decide +kernel
theorem dX3_partIfStale_55 : decode cX3_partIfStale 55 = .ok (.invokevirtual 55, 3) := by decide +kernel
theorem dX3_partIfStale_58 : decode cX3_partIfStale 58 = .ok (.iconst 0, 1) := by decide +kernel
theorem dX3_partIfStale_59 : decode cX3_partIfStale 59 = .ok (.istore_n 1, 1) := by decide +kernel
theorem dX3_partIfStale_60 : decode cX3_partIfStale 60 = .ok (.aload_n 0, 1) := by decide +kernel
theorem dX3_partIfStale_61 : decode cX3_partIfStale 61 = .ok (.iconst 0, 1) := by decide +kernel
theorem dX3_partIfStale_62 : decode cX3_partIfStale 62 = .ok (.putfield 15, 3) := by decide +kernel
theorem dX3_partIfStale_65 : decode cX3_partIfStale 65 = .ok (.aload_n 0, 1) := by decide +kernel
theorem dX3_partIfStale_66 : decode cX3_partIfStale 66 = .ok (.getfield 15, 3) := by decide +kernel
theorem dX3_partIfStale_69 : decode cX3_partIfStale 69 = .ok (.bipush 36, 2) := by decide +kernel
theorem dX3_partIfStale_71 : decode cX3_partIfStale 71 = .ok (.if_icmp .ge 72, 3) := by decide +kernel
theorem dX3_partIfStale_74 : decode cX3_partIfStale 74 = .ok (.aload_n 0, 1) := by decide +kernel
theorem dX3_partIfStale_75 : decode cX3_partIfStale 75 = .ok (.getfield 22, 3) := by decide +kernel
theorem dX3_partIfStale_78 : decode cX3_partIfStale 78 = .ok (.ifCond .le 65, 3) := by decide +kernel
theorem dX3_partIfStale_81 : decode cX3_partIfStale 81 = .ok (.aload_n 0, 1) := by decide +kernel
theorem dX3_partIfStale_82 : decode cX3_partIfStale 82 = .ok (.getfield 40, 3) := by decide +kernel
theorem dX3_partIfStale_85 : decode cX3_partIfStale 85 = .ok (.aload_n 0, 1) := by decide +kernel
theorem dX3_partIfStale_86 : decode cX3_partIfStale 86 = .ok (.getfield 15, 3) := by decide +kernel
theorem dX3_partIfStale_89 : decode cX3_partIfStale 89 = .ok (.aaload, 1) := by decide +kernel
theorem dX3_partIfStale_90 : decode cX3_partIfStale 90 = .ok (.astore_n 2, 1) := by decide +kernel
theorem dX3_partIfStale_91 : decode cX3_partIfStale 91 = .ok (.aload_n 0, 1) := by decide +kernel
theorem dX3_partIfStale_92 : decode cX3_partIfStale 92 = .ok (.aload_n 2, 1) := by decide +kernel
theorem dX3_partIfStale_93 : decode cX3_partIfStale 93 = .ok (.invokevirtual 68, 3) := by decide +kernel
theorem dX3_partIfStale_96 : decode cX3_partIfStale 96 = .ok (.aload_n 0, 1) := by decide +kernel
theorem dX3_partIfStale_97 : decode cX3_partIfStale 97 = .ok (.aload_n 2, 1) := by decide +kernel
theorem dX3_partIfStale_98 : decode cX3_partIfStale 98 = .ok (.invokevirtual 72, 3) := by decide +kernel
theorem dX3_partIfStale_101 : decode cX3_partIfStale 101 = .ok (.istore_n 3, 1) := by decide +kernel
theorem dX3_partIfStale_102 : decode cX3_partIfStale 102 = .ok (.aload_n 0, 1) := by decide +kernel
theorem dX3_partIfStale_103 : decode cX3_partIfStale 103 = .ok (.aload_n 2, 1) := by decide +kernel
theorem dX3_partIfStale_104 : decode cX3_partIfStale 104 = .ok (.iload_n 3, 1) := by decide +kernel
theorem dX3_partIfStale_105 : decode cX3_partIfStale 105 = .ok (.invokevirtual 76, 3) := by decide +kernel
theorem dX3_partIfStale_108 : decode cX3_partIfStale 108 = .ok (.iload_n 1, 1) := by decide +kernel
theorem dX3_partIfStale_109 : decode cX3_partIfStale 109 = .ok (.iload_n 3, 1) := by decide +kernel
theorem dX3_partIfStale_110 : decode cX3_partIfStale 110 = .ok (.iadd, 1) := by decide +kernel
theorem dX3_partIfStale_111 : decode cX3_partIfStale 111 = .ok (.istore_n 1, 1) := by decide +kernel
theorem dX3_partIfStale_112 : decode cX3_partIfStale 112 = .ok (.aload_n 0, 1) := by decide +kernel
theorem dX3_partIfStale_113 : decode cX3_partIfStale 113 = .ok (.getfield 43, 3) := by decide +kernel
theorem dX3_partIfStale_116 : decode cX3_partIfStale 116 = .ok (.aload_n 0, 1) := by decide +kernel
theorem dX3_partIfStale_117 : decode cX3_partIfStale 117 = .ok (.getfield 15, 3) := by decide +kernel
theorem dX3_partIfStale_120 : decode cX3_partIfStale 120 = .ok (.iload_n 1, 1) := by decide +kernel
theorem dX3_partIfStale_121 : decode cX3_partIfStale 121 = .ok (.iastore, 1) := by decide +kernel
theorem dX3_partIfStale_122 : decode cX3_partIfStale 122 = .ok (.aload_n 0, 1) := by decide +kernel
theorem dX3_partIfStale_123 : decode cX3_partIfStale 123 = .ok (.aload_n 0, 1) := by decide +kernel
theorem dX3_partIfStale_124 : decode cX3_partIfStale 124 = .ok (.getfield 30, 3) := by decide +kernel
theorem dX3_partIfStale_127 : decode cX3_partIfStale 127 = .ok (.invokevirtual 55, 3) := by decide +kernel
theorem dX3_partIfStale_130 : decode cX3_partIfStale 130 = .ok (.aload_n 0, 1) := by decide +kernel
theorem dX3_partIfStale_131 : decode cX3_partIfStale 131 = .ok (.dup, 1) := by decide +kernel
theorem dX3_partIfStale_132 : decode cX3_partIfStale 132 = .ok (.getfield 15, 3) := by decide +kernel
theorem dX3_partIfStale_135 : decode cX3_partIfStale 135 = .ok (.iconst 1, 1) := by decide +kernel
theorem dX3_partIfStale_136 : decode cX3_partIfStale 136 = .ok (.iadd, 1) := by decide +kernel
theorem dX3_partIfStale_137 : decode cX3_partIfStale 137 = .ok (.putfield 15, 3) := by decide +kernel
theorem dX3_partIfStale_140 : decode cX3_partIfStale 140 = .ok (.goto (-75), 3) := by decide +kernel
theorem dX3_partIfStale_143 : decode cX3_partIfStale 143 = .ok (.return_, 1) := by decide +kernel
theorem dX3_addUp_0 : decode cX3_addUp 0 = .ok (.aload_n 0, 1) := by decide +kernel
theorem dX3_addUp_1 : decode cX3_addUp 1 = .ok (.getfield 33, 3) := by decide +kernel
theorem dX3_addUp_4 : decode cX3_addUp 4 = .ok (.iconst 0, 1) := by decide +kernel
theorem dX3_addUp_5 : decode cX3_addUp 5 = .ok (.invokestatic 49, 3) := by decide +kernel
theorem dX3_addUp_8 : decode cX3_addUp 8 = .ok (.aload_n 0, 1) := by decide +kernel
theorem dX3_addUp_9 : decode cX3_addUp 9 = .ok (.getfield 37, 3) := by decide +kernel
theorem dX3_addUp_12 : decode cX3_addUp 12 = .ok (.iconst 0, 1) := by decide +kernel
theorem dX3_addUp_13 : decode cX3_addUp 13 = .ok (.invokestatic 49, 3) := by decide +kernel
theorem dX3_addUp_16 : decode cX3_addUp 16 = .ok (.iconst 0, 1) := by decide +kernel
theorem dX3_addUp_17 : decode cX3_addUp 17 = .ok (.istore_n 2, 1) := by decide +kernel
theorem dX3_addUp_18 : decode cX3_addUp 18 = .ok (.iload_n 2, 1) := by decide +kernel
theorem dX3_addUp_19 : decode cX3_addUp 19 = .ok (.aload_n 0, 1) := by decide +kernel
theorem dX3_addUp_20 : decode cX3_addUp 20 = .ok (.getfield 9, 3) := by decide +kernel
theorem dX3_addUp_23 : decode cX3_addUp 23 = .ok (.if_icmp .ge 53, 3) := by decide +kernel
theorem dX3_addUp_26 : decode cX3_addUp 26 = .ok (.iconst 0, 1) := by decide +kernel
theorem dX3_addUp_27 : decode cX3_addUp 27 = .ok (.istore_n 3, 1) := by decide +kernel
theorem dX3_addUp_28 : decode cX3_addUp 28 = .ok (.iload_n 3, 1) := by decide +kernel
theorem dX3_addUp_29 : decode cX3_addUp 29 = .ok (.aload_n 0, 1) := by decide +kernel
theorem dX3_addUp_30 : decode cX3_addUp 30 = .ok (.getfield 9, 3) := by decide +kernel
theorem dX3_addUp_33 : decode cX3_addUp 33 = .ok (.if_icmp .ge 37, 3) := by decide +kernel
theorem dX3_addUp_36 : decode cX3_addUp 36 = .ok (.aload_n 0, 1) := by decide +kernel
theorem dX3_addUp_37 : decode cX3_addUp 37 = .ok (.getfield 33, 3) := by decide +kernel
theorem dX3_addUp_40 : decode cX3_addUp 40 = .ok (.iload_n 2, 1) := by decide +kernel
theorem dX3_addUp_41 : decode cX3_addUp 41 = .ok (.dup2, 1) := by decide +kernel
theorem dX3_addUp_42 : decode cX3_addUp 42 = .ok (.iaload, 1) := by decide +kernel
theorem dX3_addUp_43 : decode cX3_addUp 43 = .ok (.aload_n 1, 1) := by decide +kernel
theorem dX3_addUp_44 : decode cX3_addUp 44 = .ok (.iload_n 2, 1) := by decide +kernel
theorem dX3_addUp_45 : decode cX3_addUp 45 = .ok (.aaload, 1) := by decide +kernel
theorem dX3_addUp_46 : decode cX3_addUp 46 = .ok (.iload_n 3, 1) := by decide +kernel
theorem dX3_addUp_47 : decode cX3_addUp 47 = .ok (.iaload, 1) := by decide +kernel
theorem dX3_addUp_48 : decode cX3_addUp 48 = .ok (.iadd, 1) := by decide +kernel
theorem dX3_addUp_49 : decode cX3_addUp 49 = .ok (.iastore, 1) := by decide +kernel
theorem dX3_addUp_50 : decode cX3_addUp 50 = .ok (.aload_n 0, 1) := by decide +kernel
theorem dX3_addUp_51 : decode cX3_addUp 51 = .ok (.getfield 37, 3) := by decide +kernel
theorem dX3_addUp_54 : decode cX3_addUp 54 = .ok (.iload_n 3, 1) := by decide +kernel
theorem dX3_addUp_55 : decode cX3_addUp 55 = .ok (.dup2, 1) := by decide +kernel
theorem dX3_addUp_56 : decode cX3_addUp 56 = .ok (.iaload, 1) := by decide +kernel
theorem dX3_addUp_57 : decode cX3_addUp 57 = .ok (.aload_n 1, 1) := by decide +kernel
theorem dX3_addUp_58 : decode cX3_addUp 58 = .ok (.iload_n 2, 1) := by decide +kernel
theorem dX3_addUp_59 : decode cX3_addUp 59 = .ok (.aaload, 1) := by decide +kernel
theorem dX3_addUp_60 : decode cX3_addUp 60 = .ok (.iload_n 3, 1) := by decide +kernel
theorem dX3_addUp_61 : decode cX3_addUp 61 = .ok (.iaload, 1) := by decide +kernel
theorem dX3_addUp_62 : decode cX3_addUp 62 = .ok (.iadd, 1) := by decide +kernel
theorem dX3_addUp_63 : decode cX3_addUp 63 = .ok (.iastore, 1) := by decide +kernel
theorem dX3_addUp_64 : decode cX3_addUp 64 = .ok (.iinc 3 1, 3) := by decide +kernel
theorem dX3_addUp_67 : decode cX3_addUp 67 = .ok (.goto (-39), 3) := by decide +kernel
theorem dX3_addUp_70 : decode cX3_addUp 70 = .ok (.iinc 2 1, 3) := by decide +kernel
theorem dX3_addUp_73 : decode cX3_addUp 73 = .ok (.goto (-55), 3) := by decide +kernel
theorem dX3_addUp_76 : decode cX3_addUp 76 = .ok (.aload_n 0, 1) := by decide +kernel
theorem dX3_addUp_77 : decode cX3_addUp 77 = .ok (.iconst 0, 1) := by decide +kernel
theorem dX3_addUp_78 : decode cX3_addUp 78 = .ok (.putfield 22, 3) := by decide +kernel
theorem dX3_addUp_81 : decode cX3_addUp 81 = .ok (.iconst 0, 1) := by decide +kernel
theorem dX3_addUp_82 : decode cX3_addUp 82 = .ok (.istore_n 2, 1) := by decide +kernel
theorem dX3_addUp_83 : decode cX3_addUp 83 = .ok (.iload_n 2, 1) := by decide +kernel
theorem dX3_addUp_84 : decode cX3_addUp 84 = .ok (.aload_n 0, 1) := by decide +kernel
theorem dX3_addUp_85 : decode cX3_addUp 85 = .ok (.getfield 9, 3) := by decide +kernel
theorem dX3_addUp_88 : decode cX3_addUp 88 = .ok (.if_icmp .ge 35, 3) := by decide +kernel
theorem dX3_addUp_91 : decode cX3_addUp 91 = .ok (.aload_n 0, 1) := by decide +kernel
theorem dX3_addUp_92 : decode cX3_addUp 92 = .ok (.aload_n 0, 1) := by decide +kernel
theorem dX3_addUp_93 : decode cX3_addUp 93 = .ok (.getfield 22, 3) := by decide +kernel
theorem dX3_addUp_96 : decode cX3_addUp 96 = .ok (.aload_n 0, 1) := by decide +kernel
theorem dX3_addUp_97 : decode cX3_addUp 97 = .ok (.getfield 33, 3) := by decide +kernel
theorem dX3_addUp_100 : decode cX3_addUp 100 = .ok (.iload_n 2, 1) := by decide +kernel
theorem dX3_addUp_101 : decode cX3_addUp 101 = .ok (.iaload, 1) := by decide +kernel
theorem dX3_addUp_102 : decode cX3_addUp 102 = .ok (.aload_n 0, 1) := by decide +kernel
theorem dX3_addUp_103 : decode cX3_addUp 103 = .ok (.getfield 37, 3) := by decide +kernel
theorem dX3_addUp_106 : decode cX3_addUp 106 = .ok (.iload_n 2, 1) := by decide +kernel
theorem dX3_addUp_107 : decode cX3_addUp 107 = .ok (.iaload, 1) := by decide +kernel
theorem dX3_addUp_108 : decode cX3_addUp 108 = .ok (.invokestatic 79, 3) := by decide +kernel
theorem dX3_addUp_111 : decode cX3_addUp 111 = .ok (.invokestatic 79, 3) := by decide +kernel
theorem dX3_addUp_114 : decode cX3_addUp 114 = .ok (.putfield 22, 3) := by decide +kernel
theorem dX3_addUp_117 : decode cX3_addUp 117 = .ok (.iinc 2 1, 3) := by decide +kernel
theorem dX3_addUp_120 : decode cX3_addUp 120 = .ok (.goto (-37), 3) := by decide +kernel
theorem dX3_addUp_123 : decode cX3_addUp 123 = .ok (.return_, 1) := by decide +kernel
theorem dX3_chooseRow_0 : decode cX3_chooseRow 0 = .ok (.aload_n 0, 1) := by decide +kernel
theorem dX3_chooseRow_1 : decode cX3_chooseRow 1 = .ok (.invokevirtual 85, 3) := by decide +kernel
theorem dX3_chooseRow_4 : decode cX3_chooseRow 4 = .ok (.iconst 0, 1) := by decide +kernel
theorem dX3_chooseRow_5 : decode cX3_chooseRow 5 = .ok (.istore_n 2, 1) := by decide +kernel
theorem dX3_chooseRow_6 : decode cX3_chooseRow 6 = .ok (.iconst 0, 1) := by decide +kernel
theorem dX3_chooseRow_7 : decode cX3_chooseRow 7 = .ok (.istore_n 3, 1) := by decide +kernel
theorem dX3_chooseRow_8 : decode cX3_chooseRow 8 = .ok (.iload_n 3, 1) := by decide +kernel
theorem dX3_chooseRow_9 : decode cX3_chooseRow 9 = .ok (.aload_n 0, 1) := by decide +kernel
theorem dX3_chooseRow_10 : decode cX3_chooseRow 10 = .ok (.getfield 9, 3) := by decide +kernel
theorem dX3_chooseRow_13 : decode cX3_chooseRow 13 = .ok (.if_icmp .ge 72, 3) := by decide +kernel
theorem dX3_chooseRow_16 : decode cX3_chooseRow 16 = .ok (.aload_n 1, 1) := by decide +kernel
theorem dX3_chooseRow_17 : decode cX3_chooseRow 17 = .ok (.iload_n 3, 1) := by decide +kernel
theorem dX3_chooseRow_18 : decode cX3_chooseRow 18 = .ok (.bipush (-9), 2) := by decide +kernel
theorem dX3_chooseRow_20 : decode cX3_chooseRow 20 = .ok (.iastore, 1) := by decide +kernel
theorem dX3_chooseRow_21 : decode cX3_chooseRow 21 = .ok (.iconst 0, 1) := by decide +kernel
theorem dX3_chooseRow_22 : decode cX3_chooseRow 22 = .ok (.istore 4, 2) := by decide +kernel
theorem dX3_chooseRow_24 : decode cX3_chooseRow 24 = .ok (.iload 4, 2) := by decide +kernel
theorem dX3_chooseRow_26 : decode cX3_chooseRow 26 = .ok (.aload_n 0, 1) := by decide +kernel
theorem dX3_chooseRow_27 : decode cX3_chooseRow 27 = .ok (.getfield 9, 3) := by decide +kernel
theorem dX3_chooseRow_30 : decode cX3_chooseRow 30 = .ok (.if_icmp .ge 33, 3) := by decide +kernel
theorem dX3_chooseRow_33 : decode cX3_chooseRow 33 = .ok (.aload_n 1, 1) := by decide +kernel
theorem dX3_chooseRow_34 : decode cX3_chooseRow 34 = .ok (.iload_n 3, 1) := by decide +kernel
theorem dX3_chooseRow_35 : decode cX3_chooseRow 35 = .ok (.iaload, 1) := by decide +kernel
theorem dX3_chooseRow_36 : decode cX3_chooseRow 36 = .ok (.bipush (-9), 2) := by decide +kernel
theorem dX3_chooseRow_38 : decode cX3_chooseRow 38 = .ok (.if_icmp .ne 25, 3) := by decide +kernel
theorem dX3_chooseRow_41 : decode cX3_chooseRow 41 = .ok (.aload_n 0, 1) := by decide +kernel
theorem dX3_chooseRow_42 : decode cX3_chooseRow 42 = .ok (.iload_n 3, 1) := by decide +kernel
theorem dX3_chooseRow_43 : decode cX3_chooseRow 43 = .ok (.iload 4, 2) := by decide +kernel
theorem dX3_chooseRow_45 : decode cX3_chooseRow 45 = .ok (.iload_n 2, 1) := by decide +kernel
theorem dX3_chooseRow_46 : decode cX3_chooseRow 46 = .ok (.invokevirtual 88, 3) := by decide +kernel
theorem dX3_chooseRow_49 : decode cX3_chooseRow 49 = .ok (.ifCond .eq 8, 3) := by decide +kernel
theorem dX3_chooseRow_52 : decode cX3_chooseRow 52 = .ok (.aload_n 1, 1) := by decide +kernel
theorem dX3_chooseRow_53 : decode cX3_chooseRow 53 = .ok (.iload_n 3, 1) := by decide +kernel
theorem dX3_chooseRow_54 : decode cX3_chooseRow 54 = .ok (.iload 4, 2) := by decide +kernel
theorem dX3_chooseRow_56 : decode cX3_chooseRow 56 = .ok (.iastore, 1) := by decide +kernel
theorem dX3_chooseRow_57 : decode cX3_chooseRow 57 = .ok (.iinc 4 1, 3) := by decide +kernel
theorem dX3_chooseRow_60 : decode cX3_chooseRow 60 = .ok (.goto (-36), 3) := by decide +kernel
theorem dX3_chooseRow_63 : decode cX3_chooseRow 63 = .ok (.aload_n 1, 1) := by decide +kernel
theorem dX3_chooseRow_64 : decode cX3_chooseRow 64 = .ok (.iload_n 3, 1) := by decide +kernel
theorem dX3_chooseRow_65 : decode cX3_chooseRow 65 = .ok (.iaload, 1) := by decide +kernel
theorem dX3_chooseRow_66 : decode cX3_chooseRow 66 = .ok (.bipush (-9), 2) := by decide +kernel
theorem dX3_chooseRow_68 : decode cX3_chooseRow 68 = .ok (.if_icmp .eq 11, 3) := by decide +kernel
theorem dX3_chooseRow_71 : decode cX3_chooseRow 71 = .ok (.iload_n 2, 1) := by decide +kernel
theorem dX3_chooseRow_72 : decode cX3_chooseRow 72 = .ok (.iconst 1, 1) := by decide +kernel
theorem dX3_chooseRow_73 : decode cX3_chooseRow 73 = .ok (.aload_n 1, 1) := by decide +kernel
theorem dX3_chooseRow_74 : decode cX3_chooseRow 74 = .ok (.iload_n 3, 1) := by decide +kernel
theorem dX3_chooseRow_75 : decode cX3_chooseRow 75 = .ok (.iaload, 1) := by decide +kernel
theorem dX3_chooseRow_76 : decode cX3_chooseRow 76 = .ok (.ishl, 1) := by decide +kernel
theorem dX3_chooseRow_77 : decode cX3_chooseRow 77 = .ok (.ior, 1) := by decide +kernel
theorem dX3_chooseRow_78 : decode cX3_chooseRow 78 = .ok (.istore_n 2, 1) := by decide +kernel
theorem dX3_chooseRow_79 : decode cX3_chooseRow 79 = .ok (.iinc 3 1, 3) := by decide +kernel
theorem dX3_chooseRow_82 : decode cX3_chooseRow 82 = .ok (.goto (-74), 3) := by decide +kernel
theorem dX3_chooseRow_85 : decode cX3_chooseRow 85 = .ok (.return_, 1) := by decide +kernel
theorem dX3_findWhatGoesOn_0 : decode cX3_findWhatGoesOn 0 = .ok (.iconst 0, 1) := by decide +kernel
theorem dX3_findWhatGoesOn_1 : decode cX3_findWhatGoesOn 1 = .ok (.istore_n 1, 1) := by decide +kernel
theorem dX3_findWhatGoesOn_2 : decode cX3_findWhatGoesOn 2 = .ok (.iconst 0, 1) := by decide +kernel
theorem dX3_findWhatGoesOn_3 : decode cX3_findWhatGoesOn 3 = .ok (.istore_n 2, 1) := by decide +kernel
theorem dX3_findWhatGoesOn_4 : decode cX3_findWhatGoesOn 4 = .ok (.iload_n 2, 1) := by decide +kernel
theorem dX3_findWhatGoesOn_5 : decode cX3_findWhatGoesOn 5 = .ok (.aload_n 0, 1) := by decide +kernel
theorem dX3_findWhatGoesOn_6 : decode cX3_findWhatGoesOn 6 = .ok (.getfield 9, 3) := by decide +kernel
theorem dX3_findWhatGoesOn_9 : decode cX3_findWhatGoesOn 9 = .ok (.if_icmp .ge 28, 3) := by decide +kernel
theorem dX3_findWhatGoesOn_12 : decode cX3_findWhatGoesOn 12 = .ok (.aload_n 0, 1) := by decide +kernel
theorem dX3_findWhatGoesOn_13 : decode cX3_findWhatGoesOn 13 = .ok (.getfield 37, 3) := by decide +kernel
theorem dX3_findWhatGoesOn_16 : decode cX3_findWhatGoesOn 16 = .ok (.iload_n 2, 1) := by decide +kernel
theorem dX3_findWhatGoesOn_17 : decode cX3_findWhatGoesOn 17 = .ok (.iaload, 1) := by decide +kernel
theorem dX3_findWhatGoesOn_18 : decode cX3_findWhatGoesOn 18 = .ok (.aload_n 0, 1) := by decide +kernel
theorem dX3_findWhatGoesOn_19 : decode cX3_findWhatGoesOn 19 = .ok (.getfield 22, 3) := by decide +kernel
theorem dX3_findWhatGoesOn_22 : decode cX3_findWhatGoesOn 22 = .ok (.if_icmp .ne 9, 3) := by decide +kernel
theorem dX3_findWhatGoesOn_25 : decode cX3_findWhatGoesOn 25 = .ok (.iload_n 1, 1) := by decide +kernel
theorem dX3_findWhatGoesOn_26 : decode cX3_findWhatGoesOn 26 = .ok (.iconst 1, 1) := by decide +kernel
theorem dX3_findWhatGoesOn_27 : decode cX3_findWhatGoesOn 27 = .ok (.iload_n 2, 1) := by decide +kernel
theorem dX3_findWhatGoesOn_28 : decode cX3_findWhatGoesOn 28 = .ok (.ishl, 1) := by decide +kernel
theorem dX3_findWhatGoesOn_29 : decode cX3_findWhatGoesOn 29 = .ok (.ior, 1) := by decide +kernel
theorem dX3_findWhatGoesOn_30 : decode cX3_findWhatGoesOn 30 = .ok (.istore_n 1, 1) := by decide +kernel
theorem dX3_findWhatGoesOn_31 : decode cX3_findWhatGoesOn 31 = .ok (.iinc 2 1, 3) := by decide +kernel
theorem dX3_findWhatGoesOn_34 : decode cX3_findWhatGoesOn 34 = .ok (.goto (-30), 3) := by decide +kernel
theorem dX3_findWhatGoesOn_37 : decode cX3_findWhatGoesOn 37 = .ok (.aload_n 0, 1) := by decide +kernel
theorem dX3_findWhatGoesOn_38 : decode cX3_findWhatGoesOn 38 = .ok (.getfield 46, 3) := by decide +kernel
theorem dX3_findWhatGoesOn_41 : decode cX3_findWhatGoesOn 41 = .ok (.aload_n 0, 1) := by decide +kernel
theorem dX3_findWhatGoesOn_42 : decode cX3_findWhatGoesOn 42 = .ok (.getfield 9, 3) := by decide +kernel
theorem dX3_findWhatGoesOn_45 : decode cX3_findWhatGoesOn 45 = .ok (.iconst 0, 1) := by decide +kernel
theorem dX3_findWhatGoesOn_46 : decode cX3_findWhatGoesOn 46 = .ok (.iastore, 1) := by decide +kernel
theorem dX3_findWhatGoesOn_47 : decode cX3_findWhatGoesOn 47 = .ok (.iconst 0, 1) := by decide +kernel
theorem dX3_findWhatGoesOn_48 : decode cX3_findWhatGoesOn 48 = .ok (.istore_n 2, 1) := by decide +kernel
theorem dX3_findWhatGoesOn_49 : decode cX3_findWhatGoesOn 49 = .ok (.iload_n 2, 1) := by decide +kernel
theorem dX3_findWhatGoesOn_50 : decode cX3_findWhatGoesOn 50 = .ok (.iconst 1, 1) := by decide +kernel
theorem dX3_findWhatGoesOn_51 : decode cX3_findWhatGoesOn 51 = .ok (.aload_n 0, 1) := by decide +kernel
theorem dX3_findWhatGoesOn_52 : decode cX3_findWhatGoesOn 52 = .ok (.getfield 9, 3) := by decide +kernel
theorem dX3_findWhatGoesOn_55 : decode cX3_findWhatGoesOn 55 = .ok (.ishl, 1) := by decide +kernel
theorem dX3_findWhatGoesOn_56 : decode cX3_findWhatGoesOn 56 = .ok (.if_icmp .ge 32, 3) := by decide +kernel
theorem dX3_findWhatGoesOn_59 : decode cX3_findWhatGoesOn 59 = .ok (.iload_n 1, 1) := by decide +kernel
theorem dX3_findWhatGoesOn_60 : decode cX3_findWhatGoesOn 60 = .ok (.iload_n 2, 1) := by decide +kernel
theorem dX3_findWhatGoesOn_61 : decode cX3_findWhatGoesOn 61 = .ok (.iconst (-1), 1) := by decide +kernel
theorem dX3_findWhatGoesOn_62 : decode cX3_findWhatGoesOn 62 = .ok (.ixor, 1) := by decide +kernel
theorem dX3_findWhatGoesOn_63 : decode cX3_findWhatGoesOn 63 = .ok (.iand, 1) := by decide +kernel
theorem dX3_findWhatGoesOn_64 : decode cX3_findWhatGoesOn 64 = .ok (.ifCond .ne 18, 3) := by decide +kernel
theorem dX3_findWhatGoesOn_67 : decode cX3_findWhatGoesOn 67 = .ok (.aload_n 0, 1) := by decide +kernel
theorem dX3_findWhatGoesOn_68 : decode cX3_findWhatGoesOn 68 = .ok (.getfield 46, 3) := by decide +kernel
theorem dX3_findWhatGoesOn_71 : decode cX3_findWhatGoesOn 71 = .ok (.aload_n 0, 1) := by decide +kernel
theorem dX3_findWhatGoesOn_72 : decode cX3_findWhatGoesOn 72 = .ok (.getfield 9, 3) := by decide +kernel
theorem dX3_findWhatGoesOn_75 : decode cX3_findWhatGoesOn 75 = .ok (.dup2, 1) := by decide +kernel
theorem dX3_findWhatGoesOn_76 : decode cX3_findWhatGoesOn 76 = .ok (.iaload, 1) := by decide +kernel
theorem dX3_findWhatGoesOn_77 : decode cX3_findWhatGoesOn 77 = .ok (.iconst 1, 1) := by decide +kernel
theorem dX3_findWhatGoesOn_78 : decode cX3_findWhatGoesOn 78 = .ok (.iload_n 2, 1) := by decide +kernel
theorem dX3_findWhatGoesOn_79 : decode cX3_findWhatGoesOn 79 = .ok (.ishl, 1) := by decide +kernel
theorem dX3_findWhatGoesOn_80 : decode cX3_findWhatGoesOn 80 = .ok (.ior, 1) := by decide +kernel
theorem dX3_findWhatGoesOn_81 : decode cX3_findWhatGoesOn 81 = .ok (.iastore, 1) := by decide +kernel
theorem dX3_findWhatGoesOn_82 : decode cX3_findWhatGoesOn 82 = .ok (.iinc 2 1, 3) := by decide +kernel
theorem dX3_findWhatGoesOn_85 : decode cX3_findWhatGoesOn 85 = .ok (.goto (-36), 3) := by decide +kernel
theorem dX3_findWhatGoesOn_88 : decode cX3_findWhatGoesOn 88 = .ok (.aload_n 0, 1) := by decide +kernel
theorem dX3_findWhatGoesOn_89 : decode cX3_findWhatGoesOn 89 = .ok (.getfield 9, 3) := by decide +kernel
theorem dX3_findWhatGoesOn_92 : decode cX3_findWhatGoesOn 92 = .ok (.iconst 1, 1) := by decide +kernel
theorem dX3_findWhatGoesOn_93 : decode cX3_findWhatGoesOn 93 = .ok (.isub, 1) := by decide +kernel
theorem dX3_findWhatGoesOn_94 : decode cX3_findWhatGoesOn 94 = .ok (.istore_n 2, 1) := by decide +kernel
theorem dX3_findWhatGoesOn_95 : decode cX3_findWhatGoesOn 95 = .ok (.iload_n 2, 1) := by decide +kernel
theorem dX3_findWhatGoesOn_96 : decode cX3_findWhatGoesOn 96 = .ok (.ifCond .lt 79, 3) := by decide +kernel
theorem dX3_findWhatGoesOn_99 : decode cX3_findWhatGoesOn 99 = .ok (.aload_n 0, 1) := by decide +kernel
theorem dX3_findWhatGoesOn_100 : decode cX3_findWhatGoesOn 100 = .ok (.getfield 46, 3) := by decide +kernel
theorem dX3_findWhatGoesOn_103 : decode cX3_findWhatGoesOn 103 = .ok (.iload_n 2, 1) := by decide +kernel
theorem dX3_findWhatGoesOn_104 : decode cX3_findWhatGoesOn 104 = .ok (.aload_n 0, 1) := by decide +kernel
theorem dX3_findWhatGoesOn_105 : decode cX3_findWhatGoesOn 105 = .ok (.getfield 33, 3) := by decide +kernel
theorem dX3_findWhatGoesOn_108 : decode cX3_findWhatGoesOn 108 = .ok (.iload_n 2, 1) := by decide +kernel
theorem dX3_findWhatGoesOn_109 : decode cX3_findWhatGoesOn 109 = .ok (.iaload, 1) := by decide +kernel
theorem dX3_findWhatGoesOn_110 : decode cX3_findWhatGoesOn 110 = .ok (.aload_n 0, 1) := by decide +kernel
theorem dX3_findWhatGoesOn_111 : decode cX3_findWhatGoesOn 111 = .ok (.getfield 22, 3) := by decide +kernel
theorem dX3_findWhatGoesOn_114 : decode cX3_findWhatGoesOn 114 = .ok (.if_icmp .ge 14, 3) := by decide +kernel
theorem dX3_findWhatGoesOn_117 : decode cX3_findWhatGoesOn 117 = .ok (.aload_n 0, 1) := by decide +kernel
theorem dX3_findWhatGoesOn_118 : decode cX3_findWhatGoesOn 118 = .ok (.getfield 46, 3) := by decide +kernel
theorem dX3_findWhatGoesOn_121 : decode cX3_findWhatGoesOn 121 = .ok (.iload_n 2, 1) := by decide +kernel
theorem dX3_findWhatGoesOn_122 : decode cX3_findWhatGoesOn 122 = .ok (.iconst 1, 1) := by decide +kernel
theorem dX3_findWhatGoesOn_123 : decode cX3_findWhatGoesOn 123 = .ok (.iadd, 1) := by decide +kernel
theorem dX3_findWhatGoesOn_124 : decode cX3_findWhatGoesOn 124 = .ok (.iaload, 1) := by decide +kernel
theorem dX3_findWhatGoesOn_125 : decode cX3_findWhatGoesOn 125 = .ok (.goto 4, 3) := by decide +kernel
theorem dX3_findWhatGoesOn_128 : decode cX3_findWhatGoesOn 128 = .ok (.iconst 0, 1) := by decide +kernel
theorem dX3_findWhatGoesOn_129 : decode cX3_findWhatGoesOn 129 = .ok (.iastore, 1) := by decide +kernel
theorem dX3_findWhatGoesOn_130 : decode cX3_findWhatGoesOn 130 = .ok (.iconst 0, 1) := by decide +kernel
theorem dX3_findWhatGoesOn_131 : decode cX3_findWhatGoesOn 131 = .ok (.istore_n 3, 1) := by decide +kernel
theorem dX3_findWhatGoesOn_132 : decode cX3_findWhatGoesOn 132 = .ok (.iload_n 3, 1) := by decide +kernel
theorem dX3_findWhatGoesOn_133 : decode cX3_findWhatGoesOn 133 = .ok (.iconst 1, 1) := by decide +kernel
theorem dX3_findWhatGoesOn_134 : decode cX3_findWhatGoesOn 134 = .ok (.aload_n 0, 1) := by decide +kernel
theorem dX3_findWhatGoesOn_135 : decode cX3_findWhatGoesOn 135 = .ok (.getfield 9, 3) := by decide +kernel
theorem dX3_findWhatGoesOn_138 : decode cX3_findWhatGoesOn 138 = .ok (.ishl, 1) := by decide +kernel
theorem dX3_findWhatGoesOn_139 : decode cX3_findWhatGoesOn 139 = .ok (.if_icmp .ge 30, 3) := by decide +kernel
theorem dX3_findWhatGoesOn_142 : decode cX3_findWhatGoesOn 142 = .ok (.aload_n 0, 1) := by decide +kernel
theorem dX3_findWhatGoesOn_143 : decode cX3_findWhatGoesOn 143 = .ok (.iload_n 2, 1) := by decide +kernel
theorem dX3_findWhatGoesOn_144 : decode cX3_findWhatGoesOn 144 = .ok (.iload_n 3, 1) := by decide +kernel
theorem dX3_findWhatGoesOn_145 : decode cX3_findWhatGoesOn 145 = .ok (.invokevirtual 92, 3) := by decide +kernel
theorem dX3_findWhatGoesOn_148 : decode cX3_findWhatGoesOn 148 = .ok (.ifCond .eq 15, 3) := by decide +kernel
theorem dX3_findWhatGoesOn_151 : decode cX3_findWhatGoesOn 151 = .ok (.aload_n 0, 1) := by decide +kernel
theorem dX3_findWhatGoesOn_152 : decode cX3_findWhatGoesOn 152 = .ok (.getfield 46, 3) := by decide +kernel
theorem dX3_findWhatGoesOn_155 : decode cX3_findWhatGoesOn 155 = .ok (.iload_n 2, 1) := by decide +kernel
theorem dX3_findWhatGoesOn_156 : decode cX3_findWhatGoesOn 156 = .ok (.dup2, 1) := by decide +kernel
theorem dX3_findWhatGoesOn_157 : decode cX3_findWhatGoesOn 157 = .ok (.iaload, 1) := by decide +kernel
theorem dX3_findWhatGoesOn_158 : decode cX3_findWhatGoesOn 158 = .ok (.iconst 1, 1) := by decide +kernel
theorem dX3_findWhatGoesOn_159 : decode cX3_findWhatGoesOn 159 = .ok (.iload_n 3, 1) := by decide +kernel
theorem dX3_findWhatGoesOn_160 : decode cX3_findWhatGoesOn 160 = .ok (.ishl, 1) := by decide +kernel
theorem dX3_findWhatGoesOn_161 : decode cX3_findWhatGoesOn 161 = .ok (.ior, 1) := by decide +kernel
theorem dX3_findWhatGoesOn_162 : decode cX3_findWhatGoesOn 162 = .ok (.iastore, 1) := by decide +kernel
theorem dX3_findWhatGoesOn_163 : decode cX3_findWhatGoesOn 163 = .ok (.iinc 3 1, 3) := by decide +kernel
theorem dX3_findWhatGoesOn_166 : decode cX3_findWhatGoesOn 166 = .ok (.goto (-34), 3) := by decide +kernel
theorem dX3_findWhatGoesOn_169 : decode cX3_findWhatGoesOn 169 = .ok (.iinc 2 (-1), 3) := by decide +kernel
theorem dX3_findWhatGoesOn_172 : decode cX3_findWhatGoesOn 172 = .ok (.goto (-77), 3) := by decide +kernel
theorem dX3_findWhatGoesOn_175 : decode cX3_findWhatGoesOn 175 = .ok (.return_, 1) := by decide +kernel
theorem dX3_canGiveAny_0 : decode cX3_canGiveAny 0 = .ok (.iconst 0, 1) := by decide +kernel
theorem dX3_canGiveAny_1 : decode cX3_canGiveAny 1 = .ok (.istore_n 3, 1) := by decide +kernel
theorem dX3_canGiveAny_2 : decode cX3_canGiveAny 2 = .ok (.iload_n 3, 1) := by decide +kernel
theorem dX3_canGiveAny_3 : decode cX3_canGiveAny 3 = .ok (.aload_n 0, 1) := by decide +kernel
theorem dX3_canGiveAny_4 : decode cX3_canGiveAny 4 = .ok (.getfield 9, 3) := by decide +kernel
theorem dX3_canGiveAny_7 : decode cX3_canGiveAny 7 = .ok (.if_icmp .ge 21, 3) := by decide +kernel
theorem dX3_canGiveAny_10 : decode cX3_canGiveAny 10 = .ok (.aload_n 0, 1) := by decide +kernel
theorem dX3_canGiveAny_11 : decode cX3_canGiveAny 11 = .ok (.iload_n 1, 1) := by decide +kernel
theorem dX3_canGiveAny_12 : decode cX3_canGiveAny 12 = .ok (.iload_n 3, 1) := by decide +kernel
theorem dX3_canGiveAny_13 : decode cX3_canGiveAny 13 = .ok (.iload_n 2, 1) := by decide +kernel
theorem dX3_canGiveAny_14 : decode cX3_canGiveAny 14 = .ok (.invokevirtual 88, 3) := by decide +kernel
theorem dX3_canGiveAny_17 : decode cX3_canGiveAny 17 = .ok (.ifCond .eq 5, 3) := by decide +kernel
theorem dX3_canGiveAny_20 : decode cX3_canGiveAny 20 = .ok (.iconst 1, 1) := by decide +kernel
theorem dX3_canGiveAny_21 : decode cX3_canGiveAny 21 = .ok (.ireturn, 1) := by decide +kernel
theorem dX3_canGiveAny_22 : decode cX3_canGiveAny 22 = .ok (.iinc 3 1, 3) := by decide +kernel
theorem dX3_canGiveAny_25 : decode cX3_canGiveAny 25 = .ok (.goto (-23), 3) := by decide +kernel
theorem dX3_canGiveAny_28 : decode cX3_canGiveAny 28 = .ok (.iconst 0, 1) := by decide +kernel
theorem dX3_canGiveAny_29 : decode cX3_canGiveAny 29 = .ok (.ireturn, 1) := by decide +kernel
theorem dX3_canGive_0 : decode cX3_canGive 0 = .ok (.aload_n 0, 1) := by decide +kernel
theorem dX3_canGive_1 : decode cX3_canGive 1 = .ok (.getfield 30, 3) := by decide +kernel
theorem dX3_canGive_4 : decode cX3_canGive 4 = .ok (.iload_n 1, 1) := by decide +kernel
theorem dX3_canGive_5 : decode cX3_canGive 5 = .ok (.aaload, 1) := by decide +kernel
theorem dX3_canGive_6 : decode cX3_canGive 6 = .ok (.iload_n 2, 1) := by decide +kernel
theorem dX3_canGive_7 : decode cX3_canGive 7 = .ok (.iaload, 1) := by decide +kernel
theorem dX3_canGive_8 : decode cX3_canGive 8 = .ok (.ifCond .le 35, 3) := by decide +kernel
theorem dX3_canGive_11 : decode cX3_canGive 11 = .ok (.iload_n 3, 1) := by decide +kernel
theorem dX3_canGive_12 : decode cX3_canGive 12 = .ok (.iload_n 2, 1) := by decide +kernel
theorem dX3_canGive_13 : decode cX3_canGive 13 = .ok (.ishr, 1) := by decide +kernel
theorem dX3_canGive_14 : decode cX3_canGive 14 = .ok (.iconst 1, 1) := by decide +kernel
theorem dX3_canGive_15 : decode cX3_canGive 15 = .ok (.iand, 1) := by decide +kernel
theorem dX3_canGive_16 : decode cX3_canGive 16 = .ok (.ifCond .ne 27, 3) := by decide +kernel
theorem dX3_canGive_19 : decode cX3_canGive 19 = .ok (.aload_n 0, 1) := by decide +kernel
theorem dX3_canGive_20 : decode cX3_canGive 20 = .ok (.getfield 46, 3) := by decide +kernel
theorem dX3_canGive_23 : decode cX3_canGive 23 = .ok (.iload_n 1, 1) := by decide +kernel
theorem dX3_canGive_24 : decode cX3_canGive 24 = .ok (.iconst 1, 1) := by decide +kernel
theorem dX3_canGive_25 : decode cX3_canGive 25 = .ok (.iadd, 1) := by decide +kernel
theorem dX3_canGive_26 : decode cX3_canGive 26 = .ok (.iaload, 1) := by decide +kernel
theorem dX3_canGive_27 : decode cX3_canGive 27 = .ok (.iload_n 3, 1) := by decide +kernel
theorem dX3_canGive_28 : decode cX3_canGive 28 = .ok (.iconst 1, 1) := by decide +kernel
theorem dX3_canGive_29 : decode cX3_canGive 29 = .ok (.iload_n 2, 1) := by decide +kernel
theorem dX3_canGive_30 : decode cX3_canGive 30 = .ok (.ishl, 1) := by decide +kernel
theorem dX3_canGive_31 : decode cX3_canGive 31 = .ok (.ior, 1) := by decide +kernel
theorem dX3_canGive_32 : decode cX3_canGive 32 = .ok (.ishr, 1) := by decide +kernel
theorem dX3_canGive_33 : decode cX3_canGive 33 = .ok (.iconst 1, 1) := by decide +kernel
theorem dX3_canGive_34 : decode cX3_canGive 34 = .ok (.iand, 1) := by decide +kernel
theorem dX3_canGive_35 : decode cX3_canGive 35 = .ok (.iconst 1, 1) := by decide +kernel
theorem dX3_canGive_36 : decode cX3_canGive 36 = .ok (.if_icmp .ne 7, 3) := by decide +kernel
theorem dX3_canGive_39 : decode cX3_canGive 39 = .ok (.iconst 1, 1) := by decide +kernel
theorem dX3_canGive_40 : decode cX3_canGive 40 = .ok (.goto 4, 3) := by decide +kernel
theorem dX3_canGive_43 : decode cX3_canGive 43 = .ok (.iconst 0, 1) := by decide +kernel
theorem dX3_canGive_44 : decode cX3_canGive 44 = .ok (.ireturn, 1) := by decide +kernel
theorem dX3_roundsOf_0 : decode cX3_roundsOf 0 = .ok (.aload_n 0, 1) := by decide +kernel
theorem dX3_roundsOf_1 : decode cX3_roundsOf 1 = .ok (.getfield 22, 3) := by decide +kernel
theorem dX3_roundsOf_4 : decode cX3_roundsOf 4 = .ok (.istore_n 2, 1) := by decide +kernel
theorem dX3_roundsOf_5 : decode cX3_roundsOf 5 = .ok (.iconst 0, 1) := by decide +kernel
theorem dX3_roundsOf_6 : decode cX3_roundsOf 6 = .ok (.istore_n 3, 1) := by decide +kernel
theorem dX3_roundsOf_7 : decode cX3_roundsOf 7 = .ok (.iconst 0, 1) := by decide +kernel
theorem dX3_roundsOf_8 : decode cX3_roundsOf 8 = .ok (.istore 4, 2) := by decide +kernel
theorem dX3_roundsOf_10 : decode cX3_roundsOf 10 = .ok (.iload 4, 2) := by decide +kernel
theorem dX3_roundsOf_12 : decode cX3_roundsOf 12 = .ok (.aload_n 0, 1) := by decide +kernel
theorem dX3_roundsOf_13 : decode cX3_roundsOf 13 = .ok (.getfield 9, 3) := by decide +kernel
theorem dX3_roundsOf_16 : decode cX3_roundsOf 16 = .ok (.if_icmp .ge 76, 3) := by decide +kernel
theorem dX3_roundsOf_19 : decode cX3_roundsOf 19 = .ok (.aload_n 1, 1) := by decide +kernel
theorem dX3_roundsOf_20 : decode cX3_roundsOf 20 = .ok (.iload 4, 2) := by decide +kernel
theorem dX3_roundsOf_22 : decode cX3_roundsOf 22 = .ok (.iaload, 1) := by decide +kernel
theorem dX3_roundsOf_23 : decode cX3_roundsOf 23 = .ok (.bipush (-9), 2) := by decide +kernel
theorem dX3_roundsOf_25 : decode cX3_roundsOf 25 = .ok (.if_icmp .eq 7, 3) := by decide +kernel
theorem dX3_roundsOf_28 : decode cX3_roundsOf 28 = .ok (.iconst 1, 1) := by decide +kernel
theorem dX3_roundsOf_29 : decode cX3_roundsOf 29 = .ok (.goto 4, 3) := by decide +kernel
theorem dX3_roundsOf_32 : decode cX3_roundsOf 32 = .ok (.iconst 0, 1) := by decide +kernel
theorem dX3_roundsOf_33 : decode cX3_roundsOf 33 = .ok (.istore 5, 2) := by decide +kernel
theorem dX3_roundsOf_35 : decode cX3_roundsOf 35 = .ok (.iload_n 2, 1) := by decide +kernel
theorem dX3_roundsOf_36 : decode cX3_roundsOf 36 = .ok (.iload 5, 2) := by decide +kernel
theorem dX3_roundsOf_38 : decode cX3_roundsOf 38 = .ok (.ifCond .eq 18, 3) := by decide +kernel
theorem dX3_roundsOf_41 : decode cX3_roundsOf 41 = .ok (.aload_n 0, 1) := by decide +kernel
theorem dX3_roundsOf_42 : decode cX3_roundsOf 42 = .ok (.getfield 30, 3) := by decide +kernel
theorem dX3_roundsOf_45 : decode cX3_roundsOf 45 = .ok (.iload 4, 2) := by decide +kernel
theorem dX3_roundsOf_47 : decode cX3_roundsOf 47 = .ok (.aaload, 1) := by decide +kernel
theorem dX3_roundsOf_48 : decode cX3_roundsOf 48 = .ok (.aload_n 1, 1) := by decide +kernel
theorem dX3_roundsOf_49 : decode cX3_roundsOf 49 = .ok (.iload 4, 2) := by decide +kernel
theorem dX3_roundsOf_51 : decode cX3_roundsOf 51 = .ok (.iaload, 1) := by decide +kernel
theorem dX3_roundsOf_52 : decode cX3_roundsOf 52 = .ok (.iaload, 1) := by decide +kernel
theorem dX3_roundsOf_53 : decode cX3_roundsOf 53 = .ok (.goto 15, 3) := by decide +kernel
theorem dX3_roundsOf_56 : decode cX3_roundsOf 56 = .ok (.aload_n 0, 1) := by decide +kernel
theorem dX3_roundsOf_57 : decode cX3_roundsOf 57 = .ok (.getfield 22, 3) := by decide +kernel
theorem dX3_roundsOf_60 : decode cX3_roundsOf 60 = .ok (.aload_n 0, 1) := by decide +kernel
theorem dX3_roundsOf_61 : decode cX3_roundsOf 61 = .ok (.getfield 33, 3) := by decide +kernel
theorem dX3_roundsOf_64 : decode cX3_roundsOf 64 = .ok (.iload 4, 2) := by decide +kernel
theorem dX3_roundsOf_66 : decode cX3_roundsOf 66 = .ok (.iaload, 1) := by decide +kernel
theorem dX3_roundsOf_67 : decode cX3_roundsOf 67 = .ok (.isub, 1) := by decide +kernel
theorem dX3_roundsOf_68 : decode cX3_roundsOf 68 = .ok (.invokestatic 96, 3) := by decide +kernel
theorem dX3_roundsOf_71 : decode cX3_roundsOf 71 = .ok (.istore_n 2, 1) := by decide +kernel
theorem dX3_roundsOf_72 : decode cX3_roundsOf 72 = .ok (.iload 5, 2) := by decide +kernel
theorem dX3_roundsOf_74 : decode cX3_roundsOf 74 = .ok (.ifCond .eq 12, 3) := by decide +kernel
theorem dX3_roundsOf_77 : decode cX3_roundsOf 77 = .ok (.iload_n 3, 1) := by decide +kernel
theorem dX3_roundsOf_78 : decode cX3_roundsOf 78 = .ok (.iconst 1, 1) := by decide +kernel
theorem dX3_roundsOf_79 : decode cX3_roundsOf 79 = .ok (.aload_n 1, 1) := by decide +kernel
theorem dX3_roundsOf_80 : decode cX3_roundsOf 80 = .ok (.iload 4, 2) := by decide +kernel
theorem dX3_roundsOf_82 : decode cX3_roundsOf 82 = .ok (.iaload, 1) := by decide +kernel
theorem dX3_roundsOf_83 : decode cX3_roundsOf 83 = .ok (.ishl, 1) := by decide +kernel
theorem dX3_roundsOf_84 : decode cX3_roundsOf 84 = .ok (.ior, 1) := by decide +kernel
theorem dX3_roundsOf_85 : decode cX3_roundsOf 85 = .ok (.istore_n 3, 1) := by decide +kernel
theorem dX3_roundsOf_86 : decode cX3_roundsOf 86 = .ok (.iinc 4 1, 3) := by decide +kernel
theorem dX3_roundsOf_89 : decode cX3_roundsOf 89 = .ok (.goto (-79), 3) := by decide +kernel
theorem dX3_roundsOf_92 : decode cX3_roundsOf 92 = .ok (.iconst 0, 1) := by decide +kernel
theorem dX3_roundsOf_93 : decode cX3_roundsOf 93 = .ok (.istore 4, 2) := by decide +kernel
theorem dX3_roundsOf_95 : decode cX3_roundsOf 95 = .ok (.iload 4, 2) := by decide +kernel
theorem dX3_roundsOf_97 : decode cX3_roundsOf 97 = .ok (.aload_n 0, 1) := by decide +kernel
theorem dX3_roundsOf_98 : decode cX3_roundsOf 98 = .ok (.getfield 9, 3) := by decide +kernel
theorem dX3_roundsOf_101 : decode cX3_roundsOf 101 = .ok (.if_icmp .ge 35, 3) := by decide +kernel
theorem dX3_roundsOf_104 : decode cX3_roundsOf 104 = .ok (.iload_n 3, 1) := by decide +kernel
theorem dX3_roundsOf_105 : decode cX3_roundsOf 105 = .ok (.iload 4, 2) := by decide +kernel
theorem dX3_roundsOf_107 : decode cX3_roundsOf 107 = .ok (.ishr, 1) := by decide +kernel
theorem dX3_roundsOf_108 : decode cX3_roundsOf 108 = .ok (.iconst 1, 1) := by decide +kernel
theorem dX3_roundsOf_109 : decode cX3_roundsOf 109 = .ok (.iand, 1) := by decide +kernel
theorem dX3_roundsOf_110 : decode cX3_roundsOf 110 = .ok (.ifCond .ne 20, 3) := by decide +kernel
theorem dX3_roundsOf_113 : decode cX3_roundsOf 113 = .ok (.iload_n 2, 1) := by decide +kernel
theorem dX3_roundsOf_114 : decode cX3_roundsOf 114 = .ok (.aload_n 0, 1) := by decide +kernel
theorem dX3_roundsOf_115 : decode cX3_roundsOf 115 = .ok (.getfield 22, 3) := by decide +kernel
theorem dX3_roundsOf_118 : decode cX3_roundsOf 118 = .ok (.aload_n 0, 1) := by decide +kernel
theorem dX3_roundsOf_119 : decode cX3_roundsOf 119 = .ok (.getfield 37, 3) := by decide +kernel
theorem dX3_roundsOf_122 : decode cX3_roundsOf 122 = .ok (.iload 4, 2) := by decide +kernel
theorem dX3_roundsOf_124 : decode cX3_roundsOf 124 = .ok (.iaload, 1) := by decide +kernel
theorem dX3_roundsOf_125 : decode cX3_roundsOf 125 = .ok (.isub, 1) := by decide +kernel
theorem dX3_roundsOf_126 : decode cX3_roundsOf 126 = .ok (.invokestatic 96, 3) := by decide +kernel
theorem dX3_roundsOf_129 : decode cX3_roundsOf 129 = .ok (.istore_n 2, 1) := by decide +kernel
theorem dX3_roundsOf_130 : decode cX3_roundsOf 130 = .ok (.iinc 4 1, 3) := by decide +kernel
theorem dX3_roundsOf_133 : decode cX3_roundsOf 133 = .ok (.goto (-38), 3) := by decide +kernel
theorem dX3_roundsOf_136 : decode cX3_roundsOf 136 = .ok (.iload_n 2, 1) := by decide +kernel
theorem dX3_roundsOf_137 : decode cX3_roundsOf 137 = .ok (.ireturn, 1) := by decide +kernel
theorem dX3_takeOff_0 : decode cX3_takeOff 0 = .ok (.iconst 0, 1) := by decide +kernel
theorem dX3_takeOff_1 : decode cX3_takeOff 1 = .ok (.istore_n 3, 1) := by decide +kernel
theorem dX3_takeOff_2 : decode cX3_takeOff 2 = .ok (.iload_n 3, 1) := by decide +kernel
theorem dX3_takeOff_3 : decode cX3_takeOff 3 = .ok (.aload_n 0, 1) := by decide +kernel
theorem dX3_takeOff_4 : decode cX3_takeOff 4 = .ok (.getfield 9, 3) := by decide +kernel
theorem dX3_takeOff_7 : decode cX3_takeOff 7 = .ok (.if_icmp .ge 31, 3) := by decide +kernel
theorem dX3_takeOff_10 : decode cX3_takeOff 10 = .ok (.aload_n 1, 1) := by decide +kernel
theorem dX3_takeOff_11 : decode cX3_takeOff 11 = .ok (.iload_n 3, 1) := by decide +kernel
theorem dX3_takeOff_12 : decode cX3_takeOff 12 = .ok (.iaload, 1) := by decide +kernel
theorem dX3_takeOff_13 : decode cX3_takeOff 13 = .ok (.bipush (-9), 2) := by decide +kernel
theorem dX3_takeOff_15 : decode cX3_takeOff 15 = .ok (.if_icmp .eq 17, 3) := by decide +kernel
theorem dX3_takeOff_18 : decode cX3_takeOff 18 = .ok (.aload_n 0, 1) := by decide +kernel
theorem dX3_takeOff_19 : decode cX3_takeOff 19 = .ok (.getfield 30, 3) := by decide +kernel
theorem dX3_takeOff_22 : decode cX3_takeOff 22 = .ok (.iload_n 3, 1) := by decide +kernel
theorem dX3_takeOff_23 : decode cX3_takeOff 23 = .ok (.aaload, 1) := by decide +kernel
theorem dX3_takeOff_24 : decode cX3_takeOff 24 = .ok (.aload_n 1, 1) := by decide +kernel
theorem dX3_takeOff_25 : decode cX3_takeOff 25 = .ok (.iload_n 3, 1) := by decide +kernel
theorem dX3_takeOff_26 : decode cX3_takeOff 26 = .ok (.iaload, 1) := by decide +kernel
theorem dX3_takeOff_27 : decode cX3_takeOff 27 = .ok (.dup2, 1) := by decide +kernel
theorem dX3_takeOff_28 : decode cX3_takeOff 28 = .ok (.iaload, 1) := by decide +kernel
theorem dX3_takeOff_29 : decode cX3_takeOff 29 = .ok (.iload_n 2, 1) := by decide +kernel
theorem dX3_takeOff_30 : decode cX3_takeOff 30 = .ok (.isub, 1) := by decide +kernel
theorem dX3_takeOff_31 : decode cX3_takeOff 31 = .ok (.iastore, 1) := by decide +kernel
theorem dX3_takeOff_32 : decode cX3_takeOff 32 = .ok (.iinc 3 1, 3) := by decide +kernel
theorem dX3_takeOff_35 : decode cX3_takeOff 35 = .ok (.goto (-33), 3) := by decide +kernel
theorem dX3_takeOff_38 : decode cX3_takeOff 38 = .ok (.return_, 1) := by decide +kernel
theorem dX4_init_0 : decode cX4_init 0 = .ok (.aload_n 0, 1) := by decide +kernel
theorem dX4_init_1 : decode cX4_init 1 = .ok (.invokespecial 3, 3) := by decide +kernel
theorem dX4_init_4 : decode cX4_init 4 = .ok (.aload_n 0, 1) := by decide +kernel
theorem dX4_init_5 : decode cX4_init 5 = .ok (.iconst 3, 1) := by decide +kernel
theorem dX4_init_6 : decode cX4_init 6 = .ok (.putfield 9, 3) := by decide +kernel
theorem dX4_init_9 : decode cX4_init 9 = .ok (.aload_n 0, 1) := by decide +kernel
theorem dX4_init_10 : decode cX4_init 10 = .ok (.iconst 5, 1) := by decide +kernel
theorem dX4_init_11 : decode cX4_init 11 = .ok (.iconst 5, 1) := by decide +kernel
theorem dX4_init_12 : decode cX4_init 12 = .ok (.multianewarray 15 2, 4) := by decide +kernel
theorem dX4_init_16 : decode cX4_init 16 = .ok (.putfield 17, 3) := by decide +kernel
theorem dX4_init_19 : decode cX4_init 19 = .ok (.aload_n 0, 1) := by decide +kernel
theorem dX4_init_20 : decode cX4_init 20 = .ok (.iconst 5, 1) := by decide +kernel
theorem dX4_init_21 : decode cX4_init 21 = .ok (.newarray .int, 2) := by decide +kernel
theorem dX4_init_23 : decode cX4_init 23 = .ok (.putfield 20, 3) := by decide +kernel
theorem dX4_init_26 : decode cX4_init 26 = .ok (.aload_n 0, 1) := by decide +kernel
theorem dX4_init_27 : decode cX4_init 27 = .ok (.iconst 5, 1) := by decide +kernel
theorem dX4_init_28 : decode cX4_init 28 = .ok (.newarray .int, 2) := by decide +kernel
theorem dX4_init_30 : decode cX4_init 30 = .ok (.putfield 24, 3) := by decide +kernel
theorem dX4_init_33 : decode cX4_init 33 = .ok (.aload_n 0, 1) := by decide +kernel
theorem dX4_init_34 : decode cX4_init 34 = .ok (.iconst 5, 1) := by decide +kernel
theorem dX4_init_35 : decode cX4_init 35 = .ok (.newarray .int, 2) := by decide +kernel
theorem dX4_init_37 : decode cX4_init 37 = .ok (.putfield 27, 3) := by decide +kernel
theorem dX4_init_40 : decode cX4_init 40 = .ok (.aload_n 0, 1) := by decide +kernel
theorem dX4_init_41 : decode cX4_init 41 = .ok (.iconst 5, 1) := by decide +kernel
theorem dX4_init_42 : decode cX4_init 42 = .ok (.newarray .int, 2) := by decide +kernel
theorem dX4_init_44 : decode cX4_init 44 = .ok (.putfield 30, 3) := by decide +kernel
theorem dX4_init_47 : decode cX4_init 47 = .ok (.aload_n 0, 1) := by decide +kernel
theorem dX4_init_48 : decode cX4_init 48 = .ok (.iconst 5, 1) := by decide +kernel
theorem dX4_init_49 : decode cX4_init 49 = .ok (.newarray .int, 2) := by decide +kernel
theorem dX4_init_51 : decode cX4_init 51 = .ok (.putfield 33, 3) := by decide +kernel
theorem dX4_init_54 : decode cX4_init 54 = .ok (.aload_n 0, 1) := by decide +kernel
theorem dX4_init_55 : decode cX4_init 55 = .ok (.bipush 6, 2) := by decide +kernel
theorem dX4_init_57 : decode cX4_init 57 = .ok (.bipush 32, 2) := by decide +kernel
theorem dX4_init_59 : decode cX4_init 59 = .ok (.multianewarray 15 2, 4) := by decide +kernel
theorem dX4_init_63 : decode cX4_init 63 = .ok (.putfield 36, 3) := by decide +kernel
theorem dX4_init_66 : decode cX4_init 66 = .ok (.aload_n 0, 1) := by decide +kernel
theorem dX4_init_67 : decode cX4_init 67 = .ok (.invokevirtual 39, 3) := by decide +kernel
theorem dX4_init_70 : decode cX4_init 70 = .ok (.return_, 1) := by decide +kernel
theorem dX4_begin_0 : decode cX4_begin 0 = .ok (.aload_n 0, 1) := by decide +kernel
theorem dX4_begin_1 : decode cX4_begin 1 = .ok (.iload_n 1, 1) := by decide +kernel
theorem dX4_begin_2 : decode cX4_begin 2 = .ok (.putfield 9, 3) := by decide +kernel
theorem dX4_begin_5 : decode cX4_begin 5 = .ok (.iconst 0, 1) := by decide +kernel
theorem dX4_begin_6 : decode cX4_begin 6 = .ok (.istore_n 2, 1) := by decide +kernel
theorem dX4_begin_7 : decode cX4_begin 7 = .ok (.iload_n 2, 1) := by decide +kernel
theorem dX4_begin_8 : decode cX4_begin 8 = .ok (.iconst 5, 1) := by decide +kernel
theorem dX4_begin_9 : decode cX4_begin 9 = .ok (.if_icmp .ge 19, 3) := by decide +kernel
theorem dX4_begin_12 : decode cX4_begin 12 = .ok (.aload_n 0, 1) := by decide +kernel
theorem dX4_begin_13 : decode cX4_begin 13 = .ok (.getfield 17, 3) := by decide +kernel
theorem dX4_begin_16 : decode cX4_begin 16 = .ok (.iload_n 2, 1) := by decide +kernel
theorem dX4_begin_17 : decode cX4_begin 17 = .ok (.aaload, 1) := by decide +kernel
theorem dX4_begin_18 : decode cX4_begin 18 = .ok (.iconst 0, 1) := by decide +kernel
theorem dX4_begin_19 : decode cX4_begin 19 = .ok (.invokestatic 42, 3) := by decide +kernel
theorem dX4_begin_22 : decode cX4_begin 22 = .ok (.iinc 2 1, 3) := by decide +kernel
theorem dX4_begin_25 : decode cX4_begin 25 = .ok (.goto (-18), 3) := by decide +kernel
theorem dX4_begin_28 : decode cX4_begin 28 = .ok (.aload_n 0, 1) := by decide +kernel
theorem dX4_begin_29 : decode cX4_begin 29 = .ok (.getfield 27, 3) := by decide +kernel
theorem dX4_begin_32 : decode cX4_begin 32 = .ok (.iconst 0, 1) := by decide +kernel
theorem dX4_begin_33 : decode cX4_begin 33 = .ok (.invokestatic 42, 3) := by decide +kernel
theorem dX4_begin_36 : decode cX4_begin 36 = .ok (.aload_n 0, 1) := by decide +kernel
theorem dX4_begin_37 : decode cX4_begin 37 = .ok (.getfield 30, 3) := by decide +kernel
theorem dX4_begin_40 : decode cX4_begin 40 = .ok (.iconst 0, 1) := by decide +kernel
theorem dX4_begin_41 : decode cX4_begin 41 = .ok (.invokestatic 42, 3) := by decide +kernel
theorem dX4_begin_44 : decode cX4_begin 44 = .ok (.aload_n 0, 1) := by decide +kernel
theorem dX4_begin_45 : decode cX4_begin 45 = .ok (.invokevirtual 39, 3) := by decide +kernel
theorem dX4_begin_48 : decode cX4_begin 48 = .ok (.return_, 1) := by decide +kernel
theorem dX4_refusalOf_0 : decode cX4_refusalOf 0 = .ok (.iconst 0, 1) := by decide +kernel
theorem dX4_refusalOf_1 : decode cX4_refusalOf 1 = .ok (.istore_n 2, 1) := by decide +kernel
theorem dX4_refusalOf_2 : decode cX4_refusalOf 2 = .ok (.iload_n 2, 1) := by decide +kernel
theorem dX4_refusalOf_3 : decode cX4_refusalOf 3 = .ok (.aload_n 0, 1) := by decide +kernel
theorem dX4_refusalOf_4 : decode cX4_refusalOf 4 = .ok (.getfield 9, 3) := by decide +kernel
theorem dX4_refusalOf_7 : decode cX4_refusalOf 7 = .ok (.if_icmp .ge 28, 3) := by decide +kernel
theorem dX4_refusalOf_10 : decode cX4_refusalOf 10 = .ok (.aload_n 1, 1) := by decide +kernel
theorem dX4_refusalOf_11 : decode cX4_refusalOf 11 = .ok (.iload_n 2, 1) := by decide +kernel
theorem dX4_refusalOf_12 : decode cX4_refusalOf 12 = .ok (.iaload, 1) := by decide +kernel
theorem dX4_refusalOf_13 : decode cX4_refusalOf 13 = .ok (.iconst (-1), 1) := by decide +kernel
theorem dX4_refusalOf_14 : decode cX4_refusalOf 14 = .ok (.aload_n 0, 1) := by decide +kernel
theorem dX4_refusalOf_15 : decode cX4_refusalOf 15 = .ok (.getfield 9, 3) := by decide +kernel
theorem dX4_refusalOf_18 : decode cX4_refusalOf 18 = .ok (.iconst 1, 1) := by decide +kernel
theorem dX4_refusalOf_19 : decode cX4_refusalOf 19 = .ok (.isub, 1) := by decide +kernel
theorem dX4_refusalOf_20 : decode cX4_refusalOf 20 = .ok (.invokestatic 48, 3) := by decide +kernel
theorem dX4_refusalOf_23 : decode cX4_refusalOf 23 = .ok (.ifCond .ne 6, 3) := by decide +kernel
theorem dX4_refusalOf_26 : decode cX4_refusalOf 26 = .ok (.bipush (-2), 2) := by decide +kernel
theorem dX4_refusalOf_28 : decode cX4_refusalOf 28 = .ok (.ireturn, 1) := by decide +kernel
theorem dX4_refusalOf_29 : decode cX4_refusalOf 29 = .ok (.iinc 2 1, 3) := by decide +kernel
theorem dX4_refusalOf_32 : decode cX4_refusalOf 32 = .ok (.goto (-30), 3) := by decide +kernel
theorem dX4_refusalOf_35 : decode cX4_refusalOf 35 = .ok (.iconst 0, 1) := by decide +kernel
theorem dX4_refusalOf_36 : decode cX4_refusalOf 36 = .ok (.istore_n 2, 1) := by decide +kernel
theorem dX4_refusalOf_37 : decode cX4_refusalOf 37 = .ok (.iload_n 2, 1) := by decide +kernel
theorem dX4_refusalOf_38 : decode cX4_refusalOf 38 = .ok (.aload_n 0, 1) := by decide +kernel
theorem dX4_refusalOf_39 : decode cX4_refusalOf 39 = .ok (.getfield 9, 3) := by decide +kernel
theorem dX4_refusalOf_42 : decode cX4_refusalOf 42 = .ok (.if_icmp .ge 34, 3) := by decide +kernel
theorem dX4_refusalOf_45 : decode cX4_refusalOf 45 = .ok (.aload_n 1, 1) := by decide +kernel
theorem dX4_refusalOf_46 : decode cX4_refusalOf 46 = .ok (.iload_n 2, 1) := by decide +kernel
theorem dX4_refusalOf_47 : decode cX4_refusalOf 47 = .ok (.iaload, 1) := by decide +kernel
theorem dX4_refusalOf_48 : decode cX4_refusalOf 48 = .ok (.ifCond .lt 22, 3) := by decide +kernel
theorem dX4_refusalOf_51 : decode cX4_refusalOf 51 = .ok (.aload_n 0, 1) := by decide +kernel
theorem dX4_refusalOf_52 : decode cX4_refusalOf 52 = .ok (.getfield 17, 3) := by decide +kernel
theorem dX4_refusalOf_55 : decode cX4_refusalOf 55 = .ok (.iload_n 2, 1) := by decide +kernel
theorem dX4_refusalOf_56 : decode cX4_refusalOf 56 = .ok (.aaload, 1) := by decide +kernel
theorem dX4_refusalOf_57 : decode cX4_refusalOf 57 = .ok (.aload_n 1, 1) := by decide +kernel
theorem dX4_refusalOf_58 : decode cX4_refusalOf 58 = .ok (.iload_n 2, 1) := by decide +kernel
theorem dX4_refusalOf_59 : decode cX4_refusalOf 59 = .ok (.iaload, 1) := by decide +kernel
theorem dX4_refusalOf_60 : decode cX4_refusalOf 60 = .ok (.iaload, 1) := by decide +kernel
theorem dX4_refusalOf_61 : decode cX4_refusalOf 61 = .ok (.sipush 1000, 3) := by decide +kernel
theorem dX4_refusalOf_64 : decode cX4_refusalOf 64 = .ok (.if_icmp .lt 6, 3) := by decide +kernel
theorem dX4_refusalOf_67 : decode cX4_refusalOf 67 = .ok (.bipush (-4), 2) := by decide +kernel
theorem dX4_refusalOf_69 : decode cX4_refusalOf 69 = .ok (.ireturn, 1) := by decide +kernel
theorem dX4_refusalOf_70 : decode cX4_refusalOf 70 = .ok (.iinc 2 1, 3) := by decide +kernel
theorem dX4_refusalOf_73 : decode cX4_refusalOf 73 = .ok (.goto (-36), 3) := by decide +kernel
theorem dX4_refusalOf_76 : decode cX4_refusalOf 76 = .ok (.iconst 0, 1) := by decide +kernel
theorem dX4_refusalOf_77 : decode cX4_refusalOf 77 = .ok (.ireturn, 1) := by decide +kernel
theorem dX4_serve_0 : decode cX4_serve 0 = .ok (.iconst 0, 1) := by decide +kernel
theorem dX4_serve_1 : decode cX4_serve 1 = .ok (.istore_n 3, 1) := by decide +kernel
theorem dX4_serve_2 : decode cX4_serve 2 = .ok (.iload_n 3, 1) := by decide +kernel
theorem dX4_serve_3 : decode cX4_serve 3 = .ok (.aload_n 0, 1) := by decide +kernel
theorem dX4_serve_4 : decode cX4_serve 4 = .ok (.getfield 9, 3) := by decide +kernel
theorem dX4_serve_7 : decode cX4_serve 7 = .ok (.if_icmp .ge 29, 3) := by decide +kernel
theorem dX4_serve_10 : decode cX4_serve 10 = .ok (.aload_n 2, 1) := by decide +kernel
theorem dX4_serve_11 : decode cX4_serve 11 = .ok (.iload_n 3, 1) := by decide +kernel
theorem dX4_serve_12 : decode cX4_serve 12 = .ok (.iaload, 1) := by decide +kernel
theorem dX4_serve_13 : decode cX4_serve 13 = .ok (.ifCond .lt 17, 3) := by decide +kernel
theorem dX4_serve_16 : decode cX4_serve 16 = .ok (.aload_n 0, 1) := by decide +kernel
theorem dX4_serve_17 : decode cX4_serve 17 = .ok (.getfield 17, 3) := by decide +kernel
theorem dX4_serve_20 : decode cX4_serve 20 = .ok (.iload_n 3, 1) := by decide +kernel
theorem dX4_serve_21 : decode cX4_serve 21 = .ok (.aaload, 1) := by decide +kernel
theorem dX4_serve_22 : decode cX4_serve 22 = .ok (.aload_n 2, 1) := by decide +kernel
theorem dX4_serve_23 : decode cX4_serve 23 = .ok (.iload_n 3, 1) := by decide +kernel
theorem dX4_serve_24 : decode cX4_serve 24 = .ok (.iaload, 1) := by decide +kernel
theorem dX4_serve_25 : decode cX4_serve 25 = .ok (.dup2, 1) := by decide +kernel
theorem dX4_serve_26 : decode cX4_serve 26 = .ok (.iaload, 1) := by decide +kernel
theorem dX4_serve_27 : decode cX4_serve 27 = .ok (.iconst 1, 1) := by decide +kernel
theorem dX4_serve_28 : decode cX4_serve 28 = .ok (.iadd, 1) := by decide +kernel
theorem dX4_serve_29 : decode cX4_serve 29 = .ok (.iastore, 1) := by decide +kernel
theorem dX4_serve_30 : decode cX4_serve 30 = .ok (.iinc 3 1, 3) := by decide +kernel
theorem dX4_serve_33 : decode cX4_serve 33 = .ok (.goto (-31), 3) := by decide +kernel
theorem dX4_serve_36 : decode cX4_serve 36 = .ok (.aload_n 0, 1) := by decide +kernel
theorem dX4_serve_37 : decode cX4_serve 37 = .ok (.invokevirtual 39, 3) := by decide +kernel
theorem dX4_serve_40 : decode cX4_serve 40 = .ok (.iload_n 1, 1) := by decide +kernel
theorem dX4_serve_41 : decode cX4_serve 41 = .ok (.lookupswitch 41 #[(0, 27), (1, 34)], 27) := by decide +kernel
theorem dX4_serve_68 : decode cX4_serve 68 = .ok (.aload_n 0, 1) := by decide +kernel
theorem dX4_serve_69 : decode cX4_serve 69 = .ok (.invokevirtual 52, 3) := by decide +kernel
theorem dX4_serve_72 : decode cX4_serve 72 = .ok (.goto 14, 3) := by decide +kernel
theorem dX4_serve_75 : decode cX4_serve 75 = .ok (.aload_n 0, 1) := by decide +kernel
theorem dX4_serve_76 : decode cX4_serve 76 = .ok (.invokevirtual 55, 3) := by decide +kernel
theorem dX4_serve_79 : decode cX4_serve 79 = .ok (.goto 7, 3) := by decide +kernel
theorem dX4_serve_82 : decode cX4_serve 82 = .ok (.aload_n 0, 1) := by decide +kernel
theorem dX4_serve_83 : decode cX4_serve 83 = .ok (.invokevirtual 58, 3) := by decide +kernel
theorem dX4_serve_86 : decode cX4_serve 86 = .ok (.iconst 0, 1) := by decide +kernel
theorem dX4_serve_87 : decode cX4_serve 87 = .ok (.istore_n 3, 1) := by decide +kernel
theorem dX4_serve_88 : decode cX4_serve 88 = .ok (.iconst 0, 1) := by decide +kernel
theorem dX4_serve_89 : decode cX4_serve 89 = .ok (.istore 4, 2) := by decide +kernel
theorem dX4_serve_91 : decode cX4_serve 91 = .ok (.iload 4, 2) := by decide +kernel
theorem dX4_serve_93 : decode cX4_serve 93 = .ok (.aload_n 0, 1) := by decide +kernel
theorem dX4_serve_94 : decode cX4_serve 94 = .ok (.getfield 9, 3) := by decide +kernel
theorem dX4_serve_97 : decode cX4_serve 97 = .ok (.if_icmp .ge 46, 3) := by decide +kernel
theorem dX4_serve_100 : decode cX4_serve 100 = .ok (.aload_n 0, 1) := by decide +kernel
theorem dX4_serve_101 : decode cX4_serve 101 = .ok (.getfield 20, 3) := by decide +kernel
theorem dX4_serve_104 : decode cX4_serve 104 = .ok (.iload 4, 2) := by decide +kernel
theorem dX4_serve_106 : decode cX4_serve 106 = .ok (.iaload, 1) := by decide +kernel
theorem dX4_serve_107 : decode cX4_serve 107 = .ok (.bipush (-9), 2) := by decide +kernel
theorem dX4_serve_109 : decode cX4_serve 109 = .ok (.if_icmp .ne 6, 3) := by decide +kernel
theorem dX4_serve_112 : decode cX4_serve 112 = .ok (.goto 25, 3) := by decide +kernel
theorem dX4_serve_115 : decode cX4_serve 115 = .ok (.aload_n 0, 1) := by decide +kernel
theorem dX4_serve_116 : decode cX4_serve 116 = .ok (.getfield 17, 3) := by decide +kernel
theorem dX4_serve_119 : decode cX4_serve 119 = .ok (.iload 4, 2) := by decide +kernel
theorem dX4_serve_121 : decode cX4_serve 121 = .ok (.aaload, 1) := by decide +kernel
theorem dX4_serve_122 : decode cX4_serve 122 = .ok (.aload_n 0, 1) := by decide +kernel
theorem dX4_serve_123 : decode cX4_serve 123 = .ok (.getfield 20, 3) := by decide +kernel
theorem dX4_serve_126 : decode cX4_serve 126 = .ok (.iload 4, 2) := by decide +kernel
theorem dX4_serve_128 : decode cX4_serve 128 = .ok (.iaload, 1) := by decide +kernel
theorem dX4_serve_129 : decode cX4_serve 129 = .ok (.dup2, 1) := by decide +kernel
theorem dX4_serve_130 : decode cX4_serve 130 = .ok (.iaload, 1) := by decide +kernel
theorem dX4_serve_131 : decode cX4_serve 131 = .ok (.iconst 1, 1) := by decide +kernel
theorem dX4_serve_132 : decode cX4_serve 132 = .ok (.isub, 1) := by decide +kernel
theorem dX4_serve_133 : decode cX4_serve 133 = .ok (.iastore, 1) := by decide +kernel
theorem dX4_serve_134 : decode cX4_serve 134 = .ok (.iinc 3 1, 3) := by decide +kernel
theorem dX4_serve_137 : decode cX4_serve 137 = .ok (.iinc 4 1, 3) := by decide +kernel
theorem dX4_serve_140 : decode cX4_serve 140 = .ok (.goto (-49), 3) := by decide +kernel
theorem dX4_serve_143 : decode cX4_serve 143 = .ok (.iload_n 3, 1) := by decide +kernel
theorem dX4_serve_144 : decode cX4_serve 144 = .ok (.ireturn, 1) := by decide +kernel
theorem dX4_inAll_0 : decode cX4_inAll 0 = .ok (.iconst 0, 1) := by decide +kernel
theorem dX4_inAll_1 : decode cX4_inAll 1 = .ok (.istore_n 1, 1) := by decide +kernel
theorem dX4_inAll_2 : decode cX4_inAll 2 = .ok (.iconst 0, 1) := by decide +kernel
theorem dX4_inAll_3 : decode cX4_inAll 3 = .ok (.istore_n 2, 1) := by decide +kernel
theorem dX4_inAll_4 : decode cX4_inAll 4 = .ok (.iload_n 2, 1) := by decide +kernel
theorem dX4_inAll_5 : decode cX4_inAll 5 = .ok (.aload_n 0, 1) := by decide +kernel
theorem dX4_inAll_6 : decode cX4_inAll 6 = .ok (.getfield 9, 3) := by decide +kernel
theorem dX4_inAll_9 : decode cX4_inAll 9 = .ok (.if_icmp .ge 36, 3) := by decide +kernel
theorem dX4_inAll_12 : decode cX4_inAll 12 = .ok (.iconst 0, 1) := by decide +kernel
theorem dX4_inAll_13 : decode cX4_inAll 13 = .ok (.istore_n 3, 1) := by decide +kernel
theorem dX4_inAll_14 : decode cX4_inAll 14 = .ok (.iload_n 3, 1) := by decide +kernel
theorem dX4_inAll_15 : decode cX4_inAll 15 = .ok (.aload_n 0, 1) := by decide +kernel
theorem dX4_inAll_16 : decode cX4_inAll 16 = .ok (.getfield 9, 3) := by decide +kernel
theorem dX4_inAll_19 : decode cX4_inAll 19 = .ok (.if_icmp .ge 20, 3) := by decide +kernel
theorem dX4_inAll_22 : decode cX4_inAll 22 = .ok (.iload_n 1, 1) := by decide +kernel
theorem dX4_inAll_23 : decode cX4_inAll 23 = .ok (.aload_n 0, 1) := by decide +kernel
theorem dX4_inAll_24 : decode cX4_inAll 24 = .ok (.getfield 17, 3) := by decide +kernel
theorem dX4_inAll_27 : decode cX4_inAll 27 = .ok (.iload_n 2, 1) := by decide +kernel
theorem dX4_inAll_28 : decode cX4_inAll 28 = .ok (.aaload, 1) := by decide +kernel
theorem dX4_inAll_29 : decode cX4_inAll 29 = .ok (.iload_n 3, 1) := by decide +kernel
theorem dX4_inAll_30 : decode cX4_inAll 30 = .ok (.iaload, 1) := by decide +kernel
theorem dX4_inAll_31 : decode cX4_inAll 31 = .ok (.iadd, 1) := by decide +kernel
theorem dX4_inAll_32 : decode cX4_inAll 32 = .ok (.istore_n 1, 1) := by decide +kernel
theorem dX4_inAll_33 : decode cX4_inAll 33 = .ok (.iinc 3 1, 3) := by decide +kernel
theorem dX4_inAll_36 : decode cX4_inAll 36 = .ok (.goto (-22), 3) := by decide +kernel
theorem dX4_inAll_39 : decode cX4_inAll 39 = .ok (.iinc 2 1, 3) := by decide +kernel
theorem dX4_inAll_42 : decode cX4_inAll 42 = .ok (.goto (-38), 3) := by decide +kernel
theorem dX4_inAll_45 : decode cX4_inAll 45 = .ok (.iload_n 1, 1) := by decide +kernel
theorem dX4_inAll_46 : decode cX4_inAll 46 = .ok (.ireturn, 1) := by decide +kernel
theorem dX4_matchNone_0 : decode cX4_matchNone 0 = .ok (.aload_n 0, 1) := by decide +kernel
theorem dX4_matchNone_1 : decode cX4_matchNone 1 = .ok (.getfield 20, 3) := by decide +kernel
theorem dX4_matchNone_4 : decode cX4_matchNone 4 = .ok (.bipush (-9), 2) := by decide +kernel
theorem dX4_matchNone_6 : decode cX4_matchNone 6 = .ok (.invokestatic 42, 3) := by decide +kernel
theorem dX4_matchNone_9 : decode cX4_matchNone 9 = .ok (.aload_n 0, 1) := by decide +kernel
theorem dX4_matchNone_10 : decode cX4_matchNone 10 = .ok (.getfield 24, 3) := by decide +kernel
theorem dX4_matchNone_13 : decode cX4_matchNone 13 = .ok (.bipush (-9), 2) := by decide +kernel
theorem dX4_matchNone_15 : decode cX4_matchNone 15 = .ok (.invokestatic 42, 3) := by decide +kernel
theorem dX4_matchNone_18 : decode cX4_matchNone 18 = .ok (.return_, 1) := by decide +kernel
theorem dX4_match_0 : decode cX4_match 0 = .ok (.aload_n 0, 1) := by decide +kernel
theorem dX4_match_1 : decode cX4_match 1 = .ok (.getfield 20, 3) := by decide +kernel
theorem dX4_match_4 : decode cX4_match 4 = .ok (.iload_n 1, 1) := by decide +kernel
theorem dX4_match_5 : decode cX4_match 5 = .ok (.iload_n 2, 1) := by decide +kernel
theorem dX4_match_6 : decode cX4_match 6 = .ok (.iastore, 1) := by decide +kernel
theorem dX4_match_7 : decode cX4_match 7 = .ok (.aload_n 0, 1) := by decide +kernel
theorem dX4_match_8 : decode cX4_match 8 = .ok (.getfield 24, 3) := by decide +kernel
theorem dX4_match_11 : decode cX4_match 11 = .ok (.iload_n 2, 1) := by decide +kernel
theorem dX4_match_12 : decode cX4_match 12 = .ok (.iload_n 1, 1) := by decide +kernel
theorem dX4_match_13 : decode cX4_match 13 = .ok (.iastore, 1) := by decide +kernel
theorem dX4_match_14 : decode cX4_match 14 = .ok (.return_, 1) := by decide +kernel
theorem dX4_canMatch_0 : decode cX4_canMatch 0 = .ok (.aload_n 0, 1) := by decide +kernel
theorem dX4_canMatch_1 : decode cX4_canMatch 1 = .ok (.getfield 20, 3) := by decide +kernel
theorem dX4_canMatch_4 : decode cX4_canMatch 4 = .ok (.iload_n 1, 1) := by decide +kernel
theorem dX4_canMatch_5 : decode cX4_canMatch 5 = .ok (.iaload, 1) := by decide +kernel
theorem dX4_canMatch_6 : decode cX4_canMatch 6 = .ok (.bipush (-9), 2) := by decide +kernel
theorem dX4_canMatch_8 : decode cX4_canMatch 8 = .ok (.if_icmp .ne 29, 3) := by decide +kernel
theorem dX4_canMatch_11 : decode cX4_canMatch 11 = .ok (.aload_n 0, 1) := by decide +kernel
theorem dX4_canMatch_12 : decode cX4_canMatch 12 = .ok (.getfield 24, 3) := by decide +kernel
theorem dX4_canMatch_15 : decode cX4_canMatch 15 = .ok (.iload_n 2, 1) := by decide +kernel
theorem dX4_canMatch_16 : decode cX4_canMatch 16 = .ok (.iaload, 1) := by decide +kernel
theorem dX4_canMatch_17 : decode cX4_canMatch 17 = .ok (.bipush (-9), 2) := by decide +kernel
theorem dX4_canMatch_19 : decode cX4_canMatch 19 = .ok (.if_icmp .ne 18, 3) := by decide +kernel
theorem dX4_canMatch_22 : decode cX4_canMatch 22 = .ok (.aload_n 0, 1) := by decide +kernel
theorem dX4_canMatch_23 : decode cX4_canMatch 23 = .ok (.getfield 17, 3) := by decide +kernel
theorem dX4_canMatch_26 : decode cX4_canMatch 26 = .ok (.iload_n 1, 1) := by decide +kernel
theorem dX4_canMatch_27 : decode cX4_canMatch 27 = .ok (.aaload, 1) := by decide +kernel
theorem dX4_canMatch_28 : decode cX4_canMatch 28 = .ok (.iload_n 2, 1) := by decide +kernel
theorem dX4_canMatch_29 : decode cX4_canMatch 29 = .ok (.iaload, 1) := by decide +kernel
theorem dX4_canMatch_30 : decode cX4_canMatch 30 = .ok (.ifCond .le 7, 3) := by decide +kernel
theorem dX4_canMatch_33 : decode cX4_canMatch 33 = .ok (.iconst 1, 1) := by decide +kernel
theorem dX4_canMatch_34 : decode cX4_canMatch 34 = .ok (.goto 4, 3) := by decide +kernel
theorem dX4_canMatch_37 : decode cX4_canMatch 37 = .ok (.iconst 0, 1) := by decide +kernel
theorem dX4_canMatch_38 : decode cX4_canMatch 38 = .ok (.ireturn, 1) := by decide +kernel
theorem dX4_matchBySum_0 : decode cX4_matchBySum 0 = .ok (.aload_n 0, 1) := by decide +kernel
theorem dX4_matchBySum_1 : decode cX4_matchBySum 1 = .ok (.invokevirtual 61, 3) := by decide +kernel
theorem dX4_matchBySum_4 : decode cX4_matchBySum 4 = .ok (.iconst 0, 1) := by decide +kernel
theorem dX4_matchBySum_5 : decode cX4_matchBySum 5 = .ok (.istore_n 1, 1) := by decide +kernel
theorem dX4_matchBySum_6 : decode cX4_matchBySum 6 = .ok (.iconst 0, 1) := by decide +kernel
theorem dX4_matchBySum_7 : decode cX4_matchBySum 7 = .ok (.istore_n 2, 1) := by decide +kernel
theorem dX4_matchBySum_8 : decode cX4_matchBySum 8 = .ok (.iload_n 2, 1) := by decide +kernel
theorem dX4_matchBySum_9 : decode cX4_matchBySum 9 = .ok (.aload_n 0, 1) := by decide +kernel
theorem dX4_matchBySum_10 : decode cX4_matchBySum 10 = .ok (.getfield 9, 3) := by decide +kernel
