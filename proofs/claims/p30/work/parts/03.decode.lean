theorem dX0_init_0 : decode cX0_init 0 = .ok (.aload_n 0, 1) := by decide +kernel
theorem dX0_init_1 : decode cX0_init 1 = .ok (.invokespecial 3, 3) := by decide +kernel
theorem dX0_init_4 : decode cX0_init 4 = .ok (.aload_n 0, 1) := by decide +kernel
theorem dX0_init_5 : decode cX0_init 5 = .ok (.sipush 4096, 3) := by decide +kernel
theorem dX0_init_8 : decode cX0_init 8 = .ok (.newarray .long, 2) := by decide +kernel
theorem dX0_init_10 : decode cX0_init 10 = .ok (.putfield 11, 3) := by decide +kernel
theorem dX0_init_13 : decode cX0_init 13 = .ok (.aload_n 0, 1) := by decide +kernel
theorem dX0_init_14 : decode cX0_init 14 = .ok (.iconst 1, 1) := by decide +kernel
theorem dX0_init_15 : decode cX0_init 15 = .ok (.putfield 15, 3) := by decide +kernel
theorem dX0_init_18 : decode cX0_init 18 = .ok (.return_, 1) := by decide +kernel
theorem dX0_has_0 : decode cX0_has 0 = .ok (.aload_n 0, 1) := by decide +kernel
theorem dX0_has_1 : decode cX0_has 1 = .ok (.getfield 11, 3) := by decide +kernel
theorem dX0_has_4 : decode cX0_has 4 = .ok (.iload_n 1, 1) := by decide +kernel
theorem dX0_has_5 : decode cX0_has 5 = .ok (.iload_n 2, 1) := by decide +kernel
theorem dX0_has_6 : decode cX0_has 6 = .ok (.invokestatic 19, 3) := by decide +kernel
theorem dX0_has_9 : decode cX0_has 9 = .ok (.iload_n 3, 1) := by decide +kernel
theorem dX0_has_10 : decode cX0_has 10 = .ok (.bipush 6, 2) := by decide +kernel
theorem dX0_has_12 : decode cX0_has 12 = .ok (.ishr, 1) := by decide +kernel
theorem dX0_has_13 : decode cX0_has 13 = .ok (.iadd, 1) := by decide +kernel
theorem dX0_has_14 : decode cX0_has 14 = .ok (.invokestatic 23, 3) := by decide +kernel
theorem dX0_has_17 : decode cX0_has 17 = .ok (.lstore 4, 2) := by decide +kernel
theorem dX0_has_19 : decode cX0_has 19 = .ok (.lload 4, 2) := by decide +kernel
theorem dX0_has_21 : decode cX0_has 21 = .ok (.iload_n 3, 1) := by decide +kernel
theorem dX0_has_22 : decode cX0_has 22 = .ok (.bipush 63, 2) := by decide +kernel
theorem dX0_has_24 : decode cX0_has 24 = .ok (.iand, 1) := by decide +kernel
theorem dX0_has_25 : decode cX0_has 25 = .ok (.lshr, 1) := by decide +kernel
theorem dX0_has_26 : decode cX0_has 26 = .ok (.lconst 1, 1) := by decide +kernel
theorem dX0_has_27 : decode cX0_has 27 = .ok (.land, 1) := by decide +kernel
theorem dX0_has_28 : decode cX0_has 28 = .ok (.lconst 1, 1) := by decide +kernel
theorem dX0_has_29 : decode cX0_has 29 = .ok (.lcmp, 1) := by decide +kernel
theorem dX0_has_30 : decode cX0_has 30 = .ok (.ifCond .ne 7, 3) := by decide +kernel
theorem dX0_has_33 : decode cX0_has 33 = .ok (.iconst 1, 1) := by decide +kernel
theorem dX0_has_34 : decode cX0_has 34 = .ok (.goto 4, 3) := by decide +kernel
theorem dX0_has_37 : decode cX0_has 37 = .ok (.iconst 0, 1) := by decide +kernel
theorem dX0_has_38 : decode cX0_has 38 = .ok (.ireturn, 1) := by decide +kernel
theorem dX0_bringUpToDate_0 : decode cX0_bringUpToDate 0 = .ok (.aload_n 0, 1) := by decide +kernel
theorem dX0_bringUpToDate_1 : decode cX0_bringUpToDate 1 = .ok (.getfield 15, 3) := by decide +kernel
theorem dX0_bringUpToDate_4 : decode cX0_bringUpToDate 4 = .ok (.ifCond .ne 4, 3) := by decide +kernel
theorem dX0_bringUpToDate_7 : decode cX0_bringUpToDate 7 = .ok (.return_, 1) := by decide +kernel
theorem dX0_bringUpToDate_8 : decode cX0_bringUpToDate 8 = .ok (.aload_n 0, 1) := by decide +kernel
theorem dX0_bringUpToDate_9 : decode cX0_bringUpToDate 9 = .ok (.iconst 0, 1) := by decide +kernel
theorem dX0_bringUpToDate_10 : decode cX0_bringUpToDate 10 = .ok (.putfield 15, 3) := by decide +kernel
theorem dX0_bringUpToDate_13 : decode cX0_bringUpToDate 13 = .ok (.iconst 1, 1) := by decide +kernel
theorem dX0_bringUpToDate_14 : decode cX0_bringUpToDate 14 = .ok (.aload_n 1, 1) := by decide +kernel
theorem dX0_bringUpToDate_15 : decode cX0_bringUpToDate 15 = .ok (.getfield 27, 3) := by decide +kernel
theorem dX0_bringUpToDate_18 : decode cX0_bringUpToDate 18 = .ok (.ishl, 1) := by decide +kernel
theorem dX0_bringUpToDate_19 : decode cX0_bringUpToDate 19 = .ok (.istore_n 2, 1) := by decide +kernel
theorem dX0_bringUpToDate_20 : decode cX0_bringUpToDate 20 = .ok (.iconst 0, 1) := by decide +kernel
theorem dX0_bringUpToDate_21 : decode cX0_bringUpToDate 21 = .ok (.istore_n 3, 1) := by decide +kernel
theorem dX0_bringUpToDate_22 : decode cX0_bringUpToDate 22 = .ok (.iload_n 3, 1) := by decide +kernel
theorem dX0_bringUpToDate_23 : decode cX0_bringUpToDate 23 = .ok (.iload_n 2, 1) := by decide +kernel
theorem dX0_bringUpToDate_24 : decode cX0_bringUpToDate 24 = .ok (.if_icmp .ge 15, 3) := by decide +kernel
theorem dX0_bringUpToDate_27 : decode cX0_bringUpToDate 27 = .ok (.aload_n 0, 1) := by decide +kernel
theorem dX0_bringUpToDate_28 : decode cX0_bringUpToDate 28 = .ok (.aload_n 1, 1) := by decide +kernel
theorem dX0_bringUpToDate_29 : decode cX0_bringUpToDate 29 = .ok (.iload_n 3, 1) := by decide +kernel
theorem dX0_bringUpToDate_30 : decode cX0_bringUpToDate 30 = .ok (.invokevirtual 33, 3) := by decide +kernel
theorem dX0_bringUpToDate_33 : decode cX0_bringUpToDate 33 = .ok (.iinc 3 1, 3) := by decide +kernel
theorem dX0_bringUpToDate_36 : decode cX0_bringUpToDate 36 = .ok (.goto (-14), 3) := by decide +kernel
theorem dX0_bringUpToDate_39 : decode cX0_bringUpToDate 39 = .ok (.aload_n 1, 1) := by decide +kernel
theorem dX0_bringUpToDate_40 : decode cX0_bringUpToDate 40 = .ok (.getfield 27, 3) := by decide +kernel
theorem dX0_bringUpToDate_43 : decode cX0_bringUpToDate 43 = .ok (.iconst 1, 1) := by decide +kernel
theorem dX0_bringUpToDate_44 : decode cX0_bringUpToDate 44 = .ok (.isub, 1) := by decide +kernel
theorem dX0_bringUpToDate_45 : decode cX0_bringUpToDate 45 = .ok (.istore_n 3, 1) := by decide +kernel
theorem dX0_bringUpToDate_46 : decode cX0_bringUpToDate 46 = .ok (.iload_n 3, 1) := by decide +kernel
theorem dX0_bringUpToDate_47 : decode cX0_bringUpToDate 47 = .ok (.ifCond .lt 51, 3) := by decide +kernel
theorem dX0_bringUpToDate_50 : decode cX0_bringUpToDate 50 = .ok (.aload_n 1, 1) := by decide +kernel
theorem dX0_bringUpToDate_51 : decode cX0_bringUpToDate 51 = .ok (.iload_n 3, 1) := by decide +kernel
theorem dX0_bringUpToDate_52 : decode cX0_bringUpToDate 52 = .ok (.invokevirtual 37, 3) := by decide +kernel
theorem dX0_bringUpToDate_55 : decode cX0_bringUpToDate 55 = .ok (.iconst 1, 1) := by decide +kernel
theorem dX0_bringUpToDate_56 : decode cX0_bringUpToDate 56 = .ok (.if_icmp .ne 7, 3) := by decide +kernel
theorem dX0_bringUpToDate_59 : decode cX0_bringUpToDate 59 = .ok (.iconst 1, 1) := by decide +kernel
theorem dX0_bringUpToDate_60 : decode cX0_bringUpToDate 60 = .ok (.goto 4, 3) := by decide +kernel
theorem dX0_bringUpToDate_63 : decode cX0_bringUpToDate 63 = .ok (.iconst 0, 1) := by decide +kernel
theorem dX0_bringUpToDate_64 : decode cX0_bringUpToDate 64 = .ok (.istore 4, 2) := by decide +kernel
theorem dX0_bringUpToDate_66 : decode cX0_bringUpToDate 66 = .ok (.iconst 0, 1) := by decide +kernel
theorem dX0_bringUpToDate_67 : decode cX0_bringUpToDate 67 = .ok (.istore 5, 2) := by decide +kernel
theorem dX0_bringUpToDate_69 : decode cX0_bringUpToDate 69 = .ok (.iload 5, 2) := by decide +kernel
theorem dX0_bringUpToDate_71 : decode cX0_bringUpToDate 71 = .ok (.iconst 1, 1) := by decide +kernel
theorem dX0_bringUpToDate_72 : decode cX0_bringUpToDate 72 = .ok (.iload_n 3, 1) := by decide +kernel
theorem dX0_bringUpToDate_73 : decode cX0_bringUpToDate 73 = .ok (.ishl, 1) := by decide +kernel
theorem dX0_bringUpToDate_74 : decode cX0_bringUpToDate 74 = .ok (.if_icmp .ge 18, 3) := by decide +kernel
theorem dX0_bringUpToDate_77 : decode cX0_bringUpToDate 77 = .ok (.aload_n 0, 1) := by decide +kernel
theorem dX0_bringUpToDate_78 : decode cX0_bringUpToDate 78 = .ok (.iload_n 3, 1) := by decide +kernel
theorem dX0_bringUpToDate_79 : decode cX0_bringUpToDate 79 = .ok (.iload 5, 2) := by decide +kernel
theorem dX0_bringUpToDate_81 : decode cX0_bringUpToDate 81 = .ok (.iload 4, 2) := by decide +kernel
theorem dX0_bringUpToDate_83 : decode cX0_bringUpToDate 83 = .ok (.invokevirtual 41, 3) := by decide +kernel
theorem dX0_bringUpToDate_86 : decode cX0_bringUpToDate 86 = .ok (.iinc 5 1, 3) := by decide +kernel
theorem dX0_bringUpToDate_89 : decode cX0_bringUpToDate 89 = .ok (.goto (-20), 3) := by decide +kernel
theorem dX0_bringUpToDate_92 : decode cX0_bringUpToDate 92 = .ok (.iinc 3 (-1), 3) := by decide +kernel
theorem dX0_bringUpToDate_95 : decode cX0_bringUpToDate 95 = .ok (.goto (-49), 3) := by decide +kernel
theorem dX0_bringUpToDate_98 : decode cX0_bringUpToDate 98 = .ok (.return_, 1) := by decide +kernel
theorem dX0_setEnd_0 : decode cX0_setEnd 0 = .ok (.aload_n 1, 1) := by decide +kernel
theorem dX0_setEnd_1 : decode cX0_setEnd 1 = .ok (.getfield 27, 3) := by decide +kernel
theorem dX0_setEnd_4 : decode cX0_setEnd 4 = .ok (.iload_n 2, 1) := by decide +kernel
theorem dX0_setEnd_5 : decode cX0_setEnd 5 = .ok (.invokestatic 19, 3) := by decide +kernel
theorem dX0_setEnd_8 : decode cX0_setEnd 8 = .ok (.istore_n 3, 1) := by decide +kernel
theorem dX0_setEnd_9 : decode cX0_setEnd 9 = .ok (.aload_n 1, 1) := by decide +kernel
theorem dX0_setEnd_10 : decode cX0_setEnd 10 = .ok (.iload_n 2, 1) := by decide +kernel
theorem dX0_setEnd_11 : decode cX0_setEnd 11 = .ok (.invokevirtual 45, 3) := by decide +kernel
theorem dX0_setEnd_14 : decode cX0_setEnd 14 = .ok (.istore 4, 2) := by decide +kernel
theorem dX0_setEnd_16 : decode cX0_setEnd 16 = .ok (.aload_n 1, 1) := by decide +kernel
theorem dX0_setEnd_17 : decode cX0_setEnd 17 = .ok (.iload_n 2, 1) := by decide +kernel
theorem dX0_setEnd_18 : decode cX0_setEnd 18 = .ok (.invokevirtual 49, 3) := by decide +kernel
theorem dX0_setEnd_21 : decode cX0_setEnd 21 = .ok (.istore 5, 2) := by decide +kernel
theorem dX0_setEnd_23 : decode cX0_setEnd 23 = .ok (.iconst 0, 1) := by decide +kernel
theorem dX0_setEnd_24 : decode cX0_setEnd 24 = .ok (.istore 6, 2) := by decide +kernel
theorem dX0_setEnd_26 : decode cX0_setEnd 26 = .ok (.iload 6, 2) := by decide +kernel
theorem dX0_setEnd_28 : decode cX0_setEnd 28 = .ok (.iconst 4, 1) := by decide +kernel
theorem dX0_setEnd_29 : decode cX0_setEnd 29 = .ok (.if_icmp .ge 38, 3) := by decide +kernel
theorem dX0_setEnd_32 : decode cX0_setEnd 32 = .ok (.aload_n 0, 1) := by decide +kernel
theorem dX0_setEnd_33 : decode cX0_setEnd 33 = .ok (.getfield 11, 3) := by decide +kernel
theorem dX0_setEnd_36 : decode cX0_setEnd 36 = .ok (.iload_n 3, 1) := by decide +kernel
theorem dX0_setEnd_37 : decode cX0_setEnd 37 = .ok (.iload 6, 2) := by decide +kernel
theorem dX0_setEnd_39 : decode cX0_setEnd 39 = .ok (.iadd, 1) := by decide +kernel
theorem dX0_setEnd_40 : decode cX0_setEnd 40 = .ok (.iload 4, 2) := by decide +kernel
theorem dX0_setEnd_42 : decode cX0_setEnd 42 = .ok (.ifCond .eq 9, 3) := by decide +kernel
theorem dX0_setEnd_45 : decode cX0_setEnd 45 = .ok (.ldc2_w 52, 3) := by decide +kernel
theorem dX0_setEnd_48 : decode cX0_setEnd 48 = .ok (.goto 10, 3) := by decide +kernel
theorem dX0_setEnd_51 : decode cX0_setEnd 51 = .ok (.iload 5, 2) := by decide +kernel
theorem dX0_setEnd_53 : decode cX0_setEnd 53 = .ok (.iload 6, 2) := by decide +kernel
theorem dX0_setEnd_55 : decode cX0_setEnd 55 = .ok (.invokestatic 54, 3) := by decide +kernel
theorem dX0_setEnd_58 : decode cX0_setEnd 58 = .ok (.invokestatic 58, 3) := by decide +kernel
theorem dX0_setEnd_61 : decode cX0_setEnd 61 = .ok (.iinc 6 1, 3) := by decide +kernel
theorem dX0_setEnd_64 : decode cX0_setEnd 64 = .ok (.goto (-38), 3) := by decide +kernel
theorem dX0_setEnd_67 : decode cX0_setEnd 67 = .ok (.return_, 1) := by decide +kernel
theorem dX0_join_0 : decode cX0_join 0 = .ok (.iload_n 1, 1) := by decide +kernel
theorem dX0_join_1 : decode cX0_join 1 = .ok (.iload_n 2, 1) := by decide +kernel
theorem dX0_join_2 : decode cX0_join 2 = .ok (.invokestatic 19, 3) := by decide +kernel
theorem dX0_join_5 : decode cX0_join 5 = .ok (.istore 4, 2) := by decide +kernel
theorem dX0_join_7 : decode cX0_join 7 = .ok (.iload_n 1, 1) := by decide +kernel
theorem dX0_join_8 : decode cX0_join 8 = .ok (.iconst 1, 1) := by decide +kernel
theorem dX0_join_9 : decode cX0_join 9 = .ok (.iadd, 1) := by decide +kernel
theorem dX0_join_10 : decode cX0_join 10 = .ok (.iload_n 2, 1) := by decide +kernel
theorem dX0_join_11 : decode cX0_join 11 = .ok (.invokestatic 19, 3) := by decide +kernel
theorem dX0_join_14 : decode cX0_join 14 = .ok (.istore 5, 2) := by decide +kernel
theorem dX0_join_16 : decode cX0_join 16 = .ok (.iload_n 1, 1) := by decide +kernel
theorem dX0_join_17 : decode cX0_join 17 = .ok (.iconst 1, 1) := by decide +kernel
theorem dX0_join_18 : decode cX0_join 18 = .ok (.iadd, 1) := by decide +kernel
theorem dX0_join_19 : decode cX0_join 19 = .ok (.iload_n 2, 1) := by decide +kernel
theorem dX0_join_20 : decode cX0_join 20 = .ok (.iconst 1, 1) := by decide +kernel
theorem dX0_join_21 : decode cX0_join 21 = .ok (.iload_n 1, 1) := by decide +kernel
theorem dX0_join_22 : decode cX0_join 22 = .ok (.ishl, 1) := by decide +kernel
theorem dX0_join_23 : decode cX0_join 23 = .ok (.ior, 1) := by decide +kernel
theorem dX0_join_24 : decode cX0_join 24 = .ok (.invokestatic 19, 3) := by decide +kernel
theorem dX0_join_27 : decode cX0_join 27 = .ok (.istore 6, 2) := by decide +kernel
theorem dX0_join_29 : decode cX0_join 29 = .ok (.iconst 0, 1) := by decide +kernel
theorem dX0_join_30 : decode cX0_join 30 = .ok (.istore 7, 2) := by decide +kernel
theorem dX0_join_32 : decode cX0_join 32 = .ok (.iload 7, 2) := by decide +kernel
theorem dX0_join_34 : decode cX0_join 34 = .ok (.iconst 4, 1) := by decide +kernel
theorem dX0_join_35 : decode cX0_join 35 = .ok (.if_icmp .ge 66, 3) := by decide +kernel
theorem dX0_join_38 : decode cX0_join 38 = .ok (.aload_n 0, 1) := by decide +kernel
theorem dX0_join_39 : decode cX0_join 39 = .ok (.getfield 11, 3) := by decide +kernel
theorem dX0_join_42 : decode cX0_join 42 = .ok (.iload 5, 2) := by decide +kernel
theorem dX0_join_44 : decode cX0_join 44 = .ok (.iload 7, 2) := by decide +kernel
theorem dX0_join_46 : decode cX0_join 46 = .ok (.iadd, 1) := by decide +kernel
theorem dX0_join_47 : decode cX0_join 47 = .ok (.invokestatic 23, 3) := by decide +kernel
theorem dX0_join_50 : decode cX0_join 50 = .ok (.lstore 8, 2) := by decide +kernel
theorem dX0_join_52 : decode cX0_join 52 = .ok (.aload_n 0, 1) := by decide +kernel
theorem dX0_join_53 : decode cX0_join 53 = .ok (.getfield 11, 3) := by decide +kernel
theorem dX0_join_56 : decode cX0_join 56 = .ok (.iload 6, 2) := by decide +kernel
theorem dX0_join_58 : decode cX0_join 58 = .ok (.iload 7, 2) := by decide +kernel
theorem dX0_join_60 : decode cX0_join 60 = .ok (.iadd, 1) := by decide +kernel
theorem dX0_join_61 : decode cX0_join 61 = .ok (.invokestatic 23, 3) := by decide +kernel
theorem dX0_join_64 : decode cX0_join 64 = .ok (.lstore 10, 2) := by decide +kernel
theorem dX0_join_66 : decode cX0_join 66 = .ok (.aload_n 0, 1) := by decide +kernel
theorem dX0_join_67 : decode cX0_join 67 = .ok (.getfield 11, 3) := by decide +kernel
theorem dX0_join_70 : decode cX0_join 70 = .ok (.iload 4, 2) := by decide +kernel
theorem dX0_join_72 : decode cX0_join 72 = .ok (.iload 7, 2) := by decide +kernel
theorem dX0_join_74 : decode cX0_join 74 = .ok (.iadd, 1) := by decide +kernel
theorem dX0_join_75 : decode cX0_join 75 = .ok (.iload_n 3, 1) := by decide +kernel
theorem dX0_join_76 : decode cX0_join 76 = .ok (.ifCond .eq 11, 3) := by decide +kernel
theorem dX0_join_79 : decode cX0_join 79 = .ok (.lload 8, 2) := by decide +kernel
theorem dX0_join_81 : decode cX0_join 81 = .ok (.lload 10, 2) := by decide +kernel
theorem dX0_join_83 : decode cX0_join 83 = .ok (.land, 1) := by decide +kernel
theorem dX0_join_84 : decode cX0_join 84 = .ok (.goto 8, 3) := by decide +kernel
theorem dX0_join_87 : decode cX0_join 87 = .ok (.lload 8, 2) := by decide +kernel
theorem dX0_join_89 : decode cX0_join 89 = .ok (.lload 10, 2) := by decide +kernel
theorem dX0_join_91 : decode cX0_join 91 = .ok (.lor, 1) := by decide +kernel
theorem dX0_join_92 : decode cX0_join 92 = .ok (.invokestatic 58, 3) := by decide +kernel
theorem dX0_join_95 : decode cX0_join 95 = .ok (.iinc 7 1, 3) := by decide +kernel
theorem dX0_join_98 : decode cX0_join 98 = .ok (.goto (-66), 3) := by decide +kernel
theorem dX0_join_101 : decode cX0_join 101 = .ok (.return_, 1) := by decide +kernel
theorem dX0_wordOf_0 : decode cX0_wordOf 0 = .ok (.iconst 1, 1) := by decide +kernel
theorem dX0_wordOf_1 : decode cX0_wordOf 1 = .ok (.iload_n 0, 1) := by decide +kernel
theorem dX0_wordOf_2 : decode cX0_wordOf 2 = .ok (.ishl, 1) := by decide +kernel
theorem dX0_wordOf_3 : decode cX0_wordOf 3 = .ok (.iload_n 1, 1) := by decide +kernel
theorem dX0_wordOf_4 : decode cX0_wordOf 4 = .ok (.iadd, 1) := by decide +kernel
theorem dX0_wordOf_5 : decode cX0_wordOf 5 = .ok (.iconst 4, 1) := by decide +kernel
theorem dX0_wordOf_6 : decode cX0_wordOf 6 = .ok (.imul, 1) := by decide +kernel
theorem dX0_wordOf_7 : decode cX0_wordOf 7 = .ok (.ireturn, 1) := by decide +kernel
theorem dX0_setsWithout_0 : decode cX0_setsWithout 0 = .ok (.iload_n 0, 1) := by decide +kernel
theorem dX0_setsWithout_1 : decode cX0_setsWithout 1 = .ok (.getstatic 62, 3) := by decide +kernel
theorem dX0_setsWithout_4 : decode cX0_setsWithout 4 = .ok (.arraylength, 1) := by decide +kernel
theorem dX0_setsWithout_5 : decode cX0_setsWithout 5 = .ok (.if_icmp .ge 11, 3) := by decide +kernel
theorem dX0_setsWithout_8 : decode cX0_setsWithout 8 = .ok (.getstatic 62, 3) := by decide +kernel
theorem dX0_setsWithout_11 : decode cX0_setsWithout 11 = .ok (.iload_n 0, 1) := by decide +kernel
theorem dX0_setsWithout_12 : decode cX0_setsWithout 12 = .ok (.invokestatic 23, 3) := by decide +kernel
theorem dX0_setsWithout_15 : decode cX0_setsWithout 15 = .ok (.lreturn, 1) := by decide +kernel
theorem dX0_setsWithout_16 : decode cX0_setsWithout 16 = .ok (.iload_n 1, 1) := by decide +kernel
theorem dX0_setsWithout_17 : decode cX0_setsWithout 17 = .ok (.iload_n 0, 1) := by decide +kernel
theorem dX0_setsWithout_18 : decode cX0_setsWithout 18 = .ok (.getstatic 62, 3) := by decide +kernel
theorem dX0_setsWithout_21 : decode cX0_setsWithout 21 = .ok (.arraylength, 1) := by decide +kernel
theorem dX0_setsWithout_22 : decode cX0_setsWithout 22 = .ok (.isub, 1) := by decide +kernel
theorem dX0_setsWithout_23 : decode cX0_setsWithout 23 = .ok (.invokestatic 65, 3) := by decide +kernel
theorem dX0_setsWithout_26 : decode cX0_setsWithout 26 = .ok (.ifCond .ne 9, 3) := by decide +kernel
theorem dX0_setsWithout_29 : decode cX0_setsWithout 29 = .ok (.ldc2_w 52, 3) := by decide +kernel
theorem dX0_setsWithout_32 : decode cX0_setsWithout 32 = .ok (.goto 4, 3) := by decide +kernel
theorem dX0_setsWithout_35 : decode cX0_setsWithout 35 = .ok (.lconst 0, 1) := by decide +kernel
theorem dX0_setsWithout_36 : decode cX0_setsWithout 36 = .ok (.lreturn, 1) := by decide +kernel
theorem dX1_init_0 : decode cX1_init 0 = .ok (.aload_n 0, 1) := by decide +kernel
theorem dX1_init_1 : decode cX1_init 1 = .ok (.invokespecial 3, 3) := by decide +kernel
theorem dX1_init_4 : decode cX1_init 4 = .ok (.aload_n 0, 1) := by decide +kernel
theorem dX1_init_5 : decode cX1_init 5 = .ok (.bipush 100, 2) := by decide +kernel
theorem dX1_init_7 : decode cX1_init 7 = .ok (.newarray .int, 2) := by decide +kernel
theorem dX1_init_9 : decode cX1_init 9 = .ok (.putfield 9, 3) := by decide +kernel
theorem dX1_init_12 : decode cX1_init 12 = .ok (.aload_n 0, 1) := by decide +kernel
theorem dX1_init_13 : decode cX1_init 13 = .ok (.iconst (-1), 1) := by decide +kernel
theorem dX1_init_14 : decode cX1_init 14 = .ok (.putfield 15, 3) := by decide +kernel
theorem dX1_init_17 : decode cX1_init 17 = .ok (.return_, 1) := by decide +kernel
theorem dX2_init_0 : decode cX2_init 0 = .ok (.aload_n 0, 1) := by decide +kernel
theorem dX2_init_1 : decode cX2_init 1 = .ok (.invokespecial 3, 3) := by decide +kernel
theorem dX2_init_4 : decode cX2_init 4 = .ok (.aload_n 0, 1) := by decide +kernel
theorem dX2_init_5 : decode cX2_init 5 = .ok (.iconst 4, 1) := by decide +kernel
theorem dX2_init_6 : decode cX2_init 6 = .ok (.anewarray 9, 3) := by decide +kernel
theorem dX2_init_9 : decode cX2_init 9 = .ok (.dup, 1) := by decide +kernel
theorem dX2_init_10 : decode cX2_init 10 = .ok (.iconst 0, 1) := by decide +kernel
theorem dX2_init_11 : decode cX2_init 11 = .ok (.new 9, 3) := by decide +kernel
theorem dX2_init_14 : decode cX2_init 14 = .ok (.dup, 1) := by decide +kernel
theorem dX2_init_15 : decode cX2_init 15 = .ok (.invokespecial 11, 3) := by decide +kernel
theorem dX2_init_18 : decode cX2_init 18 = .ok (.aastore, 1) := by decide +kernel
theorem dX2_init_19 : decode cX2_init 19 = .ok (.dup, 1) := by decide +kernel
theorem dX2_init_20 : decode cX2_init 20 = .ok (.iconst 1, 1) := by decide +kernel
theorem dX2_init_21 : decode cX2_init 21 = .ok (.new 9, 3) := by decide +kernel
theorem dX2_init_24 : decode cX2_init 24 = .ok (.dup, 1) := by decide +kernel
theorem dX2_init_25 : decode cX2_init 25 = .ok (.invokespecial 11, 3) := by decide +kernel
theorem dX2_init_28 : decode cX2_init 28 = .ok (.aastore, 1) := by decide +kernel
theorem dX2_init_29 : decode cX2_init 29 = .ok (.dup, 1) := by decide +kernel
theorem dX2_init_30 : decode cX2_init 30 = .ok (.iconst 2, 1) := by decide +kernel
theorem dX2_init_31 : decode cX2_init 31 = .ok (.new 9, 3) := by decide +kernel
theorem dX2_init_34 : decode cX2_init 34 = .ok (.dup, 1) := by decide +kernel
theorem dX2_init_35 : decode cX2_init 35 = .ok (.invokespecial 11, 3) := by decide +kernel
theorem dX2_init_38 : decode cX2_init 38 = .ok (.aastore, 1) := by decide +kernel
theorem dX2_init_39 : decode cX2_init 39 = .ok (.dup, 1) := by decide +kernel
theorem dX2_init_40 : decode cX2_init 40 = .ok (.iconst 3, 1) := by decide +kernel
theorem dX2_init_41 : decode cX2_init 41 = .ok (.new 9, 3) := by decide +kernel
theorem dX2_init_44 : decode cX2_init 44 = .ok (.dup, 1) := by decide +kernel
theorem dX2_init_45 : decode cX2_init 45 = .ok (.invokespecial 11, 3) := by decide +kernel
theorem dX2_init_48 : decode cX2_init 48 = .ok (.aastore, 1) := by decide +kernel
theorem dX2_init_49 : decode cX2_init 49 = .ok (.putfield 12, 3) := by decide +kernel
theorem dX2_init_52 : decode cX2_init 52 = .ok (.return_, 1) := by decide +kernel
theorem dX2_push_0 : decode cX2_push 0 = .ok (.aload_n 0, 1) := by decide +kernel
theorem dX2_push_1 : decode cX2_push 1 = .ok (.getfield 18, 3) := by decide +kernel
theorem dX2_push_4 : decode cX2_push 4 = .ok (.iconst 4, 1) := by decide +kernel
theorem dX2_push_5 : decode cX2_push 5 = .ok (.if_icmp .ne 25, 3) := by decide +kernel
theorem dX2_push_8 : decode cX2_push 8 = .ok (.aload_n 0, 1) := by decide +kernel
theorem dX2_push_9 : decode cX2_push 9 = .ok (.aload_n 0, 1) := by decide +kernel
theorem dX2_push_10 : decode cX2_push 10 = .ok (.getfield 22, 3) := by decide +kernel
theorem dX2_push_13 : decode cX2_push 13 = .ok (.iconst 1, 1) := by decide +kernel
theorem dX2_push_14 : decode cX2_push 14 = .ok (.iadd, 1) := by decide +kernel
theorem dX2_push_15 : decode cX2_push 15 = .ok (.iconst 4, 1) := by decide +kernel
theorem dX2_push_16 : decode cX2_push 16 = .ok (.irem, 1) := by decide +kernel
theorem dX2_push_17 : decode cX2_push 17 = .ok (.putfield 22, 3) := by decide +kernel
theorem dX2_push_20 : decode cX2_push 20 = .ok (.aload_n 0, 1) := by decide +kernel
theorem dX2_push_21 : decode cX2_push 21 = .ok (.dup, 1) := by decide +kernel
theorem dX2_push_22 : decode cX2_push 22 = .ok (.getfield 18, 3) := by decide +kernel
theorem dX2_push_25 : decode cX2_push 25 = .ok (.iconst 1, 1) := by decide +kernel
theorem dX2_push_26 : decode cX2_push 26 = .ok (.isub, 1) := by decide +kernel
theorem dX2_push_27 : decode cX2_push 27 = .ok (.putfield 18, 3) := by decide +kernel
theorem dX2_push_30 : decode cX2_push 30 = .ok (.aload_n 0, 1) := by decide +kernel
theorem dX2_push_31 : decode cX2_push 31 = .ok (.aload_n 0, 1) := by decide +kernel
theorem dX2_push_32 : decode cX2_push 32 = .ok (.getfield 18, 3) := by decide +kernel
theorem dX2_push_35 : decode cX2_push 35 = .ok (.invokevirtual 25, 3) := by decide +kernel
theorem dX2_push_38 : decode cX2_push 38 = .ok (.astore_n 2, 1) := by decide +kernel
theorem dX2_push_39 : decode cX2_push 39 = .ok (.aload_n 2, 1) := by decide +kernel
theorem dX2_push_40 : decode cX2_push 40 = .ok (.ifnull 8, 3) := by decide +kernel
theorem dX2_push_43 : decode cX2_push 43 = .ok (.aload_n 2, 1) := by decide +kernel
theorem dX2_push_44 : decode cX2_push 44 = .ok (.aload_n 1, 1) := by decide +kernel
theorem dX2_push_45 : decode cX2_push 45 = .ok (.invokevirtual 29, 3) := by decide +kernel
theorem dX2_push_48 : decode cX2_push 48 = .ok (.aload_n 0, 1) := by decide +kernel
theorem dX2_push_49 : decode cX2_push 49 = .ok (.dup, 1) := by decide +kernel
theorem dX2_push_50 : decode cX2_push 50 = .ok (.getfield 18, 3) := by decide +kernel
theorem dX2_push_53 : decode cX2_push 53 = .ok (.iconst 1, 1) := by decide +kernel
theorem dX2_push_54 : decode cX2_push 54 = .ok (.iadd, 1) := by decide +kernel
theorem dX2_push_55 : decode cX2_push 55 = .ok (.putfield 18, 3) := by decide +kernel
theorem dX2_push_58 : decode cX2_push 58 = .ok (.return_, 1) := by decide +kernel
theorem dX2_pop_0 : decode cX2_pop 0 = .ok (.aload_n 0, 1) := by decide +kernel
theorem dX2_pop_1 : decode cX2_pop 1 = .ok (.dup, 1) := by decide +kernel
theorem dX2_pop_2 : decode cX2_pop 2 = .ok (.getfield 18, 3) := by decide +kernel
theorem dX2_pop_5 : decode cX2_pop 5 = .ok (.iconst 1, 1) := by decide +kernel
theorem dX2_pop_6 : decode cX2_pop 6 = .ok (.isub, 1) := by decide +kernel
theorem dX2_pop_7 : decode cX2_pop 7 = .ok (.putfield 18, 3) := by decide +kernel
theorem dX2_pop_10 : decode cX2_pop 10 = .ok (.aload_n 0, 1) := by decide +kernel
theorem dX2_pop_11 : decode cX2_pop 11 = .ok (.aload_n 0, 1) := by decide +kernel
theorem dX2_pop_12 : decode cX2_pop 12 = .ok (.getfield 18, 3) := by decide +kernel
theorem dX2_pop_15 : decode cX2_pop 15 = .ok (.invokevirtual 25, 3) := by decide +kernel
theorem dX2_pop_18 : decode cX2_pop 18 = .ok (.astore_n 2, 1) := by decide +kernel
theorem dX2_pop_19 : decode cX2_pop 19 = .ok (.aload_n 2, 1) := by decide +kernel
theorem dX2_pop_20 : decode cX2_pop 20 = .ok (.ifnull 8, 3) := by decide +kernel
theorem dX2_pop_23 : decode cX2_pop 23 = .ok (.aload_n 1, 1) := by decide +kernel
theorem dX2_pop_24 : decode cX2_pop 24 = .ok (.aload_n 2, 1) := by decide +kernel
theorem dX2_pop_25 : decode cX2_pop 25 = .ok (.invokevirtual 29, 3) := by decide +kernel
theorem dX2_pop_28 : decode cX2_pop 28 = .ok (.return_, 1) := by decide +kernel
theorem dX2_slot_0 : decode cX2_slot 0 = .ok (.aload_n 0, 1) := by decide +kernel
theorem dX2_slot_1 : decode cX2_slot 1 = .ok (.getfield 22, 3) := by decide +kernel
theorem dX2_slot_4 : decode cX2_slot 4 = .ok (.iload_n 1, 1) := by decide +kernel
theorem dX2_slot_5 : decode cX2_slot 5 = .ok (.iadd, 1) := by decide +kernel
theorem dX2_slot_6 : decode cX2_slot 6 = .ok (.iconst 4, 1) := by decide +kernel
theorem dX2_slot_7 : decode cX2_slot 7 = .ok (.irem, 1) := by decide +kernel
theorem dX2_slot_8 : decode cX2_slot 8 = .ok (.istore_n 2, 1) := by decide +kernel
theorem dX2_slot_9 : decode cX2_slot 9 = .ok (.iload_n 2, 1) := by decide +kernel
theorem dX2_slot_10 : decode cX2_slot 10 = .ok (.ifCond .lt 21, 3) := by decide +kernel
theorem dX2_slot_13 : decode cX2_slot 13 = .ok (.iload_n 2, 1) := by decide +kernel
theorem dX2_slot_14 : decode cX2_slot 14 = .ok (.aload_n 0, 1) := by decide +kernel
theorem dX2_slot_15 : decode cX2_slot 15 = .ok (.getfield 12, 3) := by decide +kernel
theorem dX2_slot_18 : decode cX2_slot 18 = .ok (.arraylength, 1) := by decide +kernel
theorem dX2_slot_19 : decode cX2_slot 19 = .ok (.if_icmp .ge 12, 3) := by decide +kernel
theorem dX2_slot_22 : decode cX2_slot 22 = .ok (.aload_n 0, 1) := by decide +kernel
theorem dX2_slot_23 : decode cX2_slot 23 = .ok (.getfield 12, 3) := by decide +kernel
theorem dX2_slot_26 : decode cX2_slot 26 = .ok (.iload_n 2, 1) := by decide +kernel
theorem dX2_slot_27 : decode cX2_slot 27 = .ok (.aaload, 1) := by decide +kernel
theorem dX2_slot_28 : decode cX2_slot 28 = .ok (.goto 4, 3) := by decide +kernel
theorem dX2_slot_31 : decode cX2_slot 31 = .ok (.aconst_null, 1) := by decide +kernel
theorem dX2_slot_32 : decode cX2_slot 32 = .ok (.areturn, 1) := by decide +kernel
theorem dX3_init_0 : decode cX3_init 0 = .ok (.aload_n 0, 1) := by decide +kernel
theorem dX3_init_1 : decode cX3_init 1 = .ok (.invokespecial 3, 3) := by decide +kernel
theorem dX3_init_4 : decode cX3_init 4 = .ok (.aload_n 0, 1) := by decide +kernel
theorem dX3_init_5 : decode cX3_init 5 = .ok (.bipush 20, 2) := by decide +kernel
theorem dX3_init_7 : decode cX3_init 7 = .ok (.newarray .int, 2) := by decide +kernel
theorem dX3_init_9 : decode cX3_init 9 = .ok (.putfield 9, 3) := by decide +kernel
theorem dX3_init_12 : decode cX3_init 12 = .ok (.aload_n 0, 1) := by decide +kernel
theorem dX3_init_13 : decode cX3_init 13 = .ok (.bipush 20, 2) := by decide +kernel
theorem dX3_init_15 : decode cX3_init 15 = .ok (.newarray .int, 2) := by decide +kernel
theorem dX3_init_17 : decode cX3_init 17 = .ok (.putfield 15, 3) := by decide +kernel
theorem dX3_init_20 : decode cX3_init 20 = .ok (.return_, 1) := by decide +kernel
theorem dX3_clear_0 : decode cX3_clear 0 = .ok (.aload_n 0, 1) := by decide +kernel
theorem dX3_clear_1 : decode cX3_clear 1 = .ok (.iconst 0, 1) := by decide +kernel
theorem dX3_clear_2 : decode cX3_clear 2 = .ok (.putfield 18, 3) := by decide +kernel
theorem dX3_clear_5 : decode cX3_clear 5 = .ok (.aload_n 0, 1) := by decide +kernel
theorem dX3_clear_6 : decode cX3_clear 6 = .ok (.iconst 0, 1) := by decide +kernel
theorem dX3_clear_7 : decode cX3_clear 7 = .ok (.putfield 22, 3) := by decide +kernel
theorem dX3_clear_10 : decode cX3_clear 10 = .ok (.aload_n 0, 1) := by decide +kernel
theorem dX3_clear_11 : decode cX3_clear 11 = .ok (.iconst 0, 1) := by decide +kernel
theorem dX3_clear_12 : decode cX3_clear 12 = .ok (.putfield 25, 3) := by decide +kernel
theorem dX3_clear_15 : decode cX3_clear 15 = .ok (.aload_n 0, 1) := by decide +kernel
theorem dX3_clear_16 : decode cX3_clear 16 = .ok (.iconst 0, 1) := by decide +kernel
theorem dX3_clear_17 : decode cX3_clear 17 = .ok (.putfield 28, 3) := by decide +kernel
theorem dX3_clear_20 : decode cX3_clear 20 = .ok (.aload_n 0, 1) := by decide +kernel
theorem dX3_clear_21 : decode cX3_clear 21 = .ok (.iconst 0, 1) := by decide +kernel
theorem dX3_clear_22 : decode cX3_clear 22 = .ok (.putfield 31, 3) := by decide +kernel
theorem dX3_clear_25 : decode cX3_clear 25 = .ok (.return_, 1) := by decide +kernel
theorem dX3_copyFrom_0 : decode cX3_copyFrom 0 = .ok (.aload_n 0, 1) := by decide +kernel
theorem dX3_copyFrom_1 : decode cX3_copyFrom 1 = .ok (.aload_n 1, 1) := by decide +kernel
theorem dX3_copyFrom_2 : decode cX3_copyFrom 2 = .ok (.getfield 18, 3) := by decide +kernel
theorem dX3_copyFrom_5 : decode cX3_copyFrom 5 = .ok (.putfield 18, 3) := by decide +kernel
theorem dX3_copyFrom_8 : decode cX3_copyFrom 8 = .ok (.aload_n 0, 1) := by decide +kernel
theorem dX3_copyFrom_9 : decode cX3_copyFrom 9 = .ok (.aload_n 1, 1) := by decide +kernel
theorem dX3_copyFrom_10 : decode cX3_copyFrom 10 = .ok (.getfield 22, 3) := by decide +kernel
theorem dX3_copyFrom_13 : decode cX3_copyFrom 13 = .ok (.putfield 22, 3) := by decide +kernel
theorem dX3_copyFrom_16 : decode cX3_copyFrom 16 = .ok (.aload_n 0, 1) := by decide +kernel
theorem dX3_copyFrom_17 : decode cX3_copyFrom 17 = .ok (.aload_n 1, 1) := by decide +kernel
theorem dX3_copyFrom_18 : decode cX3_copyFrom 18 = .ok (.getfield 25, 3) := by decide +kernel
theorem dX3_copyFrom_21 : decode cX3_copyFrom 21 = .ok (.putfield 25, 3) := by decide +kernel
theorem dX3_copyFrom_24 : decode cX3_copyFrom 24 = .ok (.iconst 0, 1) := by decide +kernel
theorem dX3_copyFrom_25 : decode cX3_copyFrom 25 = .ok (.istore_n 2, 1) := by decide +kernel
theorem dX3_copyFrom_26 : decode cX3_copyFrom 26 = .ok (.iload_n 2, 1) := by decide +kernel
theorem dX3_copyFrom_27 : decode cX3_copyFrom 27 = .ok (.aload_n 0, 1) := by decide +kernel
theorem dX3_copyFrom_28 : decode cX3_copyFrom 28 = .ok (.getfield 25, 3) := by decide +kernel
theorem dX3_copyFrom_31 : decode cX3_copyFrom 31 = .ok (.if_icmp .ge 41, 3) := by decide +kernel
theorem dX3_copyFrom_34 : decode cX3_copyFrom 34 = .ok (.aload_n 0, 1) := by decide +kernel
theorem dX3_copyFrom_35 : decode cX3_copyFrom 35 = .ok (.getfield 9, 3) := by decide +kernel
theorem dX3_copyFrom_38 : decode cX3_copyFrom 38 = .ok (.iload_n 2, 1) := by decide +kernel
theorem dX3_copyFrom_39 : decode cX3_copyFrom 39 = .ok (.aload_n 1, 1) := by decide +kernel
theorem dX3_copyFrom_40 : decode cX3_copyFrom 40 = .ok (.getfield 9, 3) := by decide +kernel
theorem dX3_copyFrom_43 : decode cX3_copyFrom 43 = .ok (.iload_n 2, 1) := by decide +kernel
theorem dX3_copyFrom_44 : decode cX3_copyFrom 44 = .ok (.invokestatic 34, 3) := by decide +kernel
theorem dX3_copyFrom_47 : decode cX3_copyFrom 47 = .ok (.invokestatic 38, 3) := by decide +kernel
theorem dX3_copyFrom_50 : decode cX3_copyFrom 50 = .ok (.aload_n 0, 1) := by decide +kernel
theorem dX3_copyFrom_51 : decode cX3_copyFrom 51 = .ok (.getfield 15, 3) := by decide +kernel
theorem dX3_copyFrom_54 : decode cX3_copyFrom 54 = .ok (.iload_n 2, 1) := by decide +kernel
theorem dX3_copyFrom_55 : decode cX3_copyFrom 55 = .ok (.aload_n 1, 1) := by decide +kernel
theorem dX3_copyFrom_56 : decode cX3_copyFrom 56 = .ok (.getfield 15, 3) := by decide +kernel
theorem dX3_copyFrom_59 : decode cX3_copyFrom 59 = .ok (.iload_n 2, 1) := by decide +kernel
theorem dX3_copyFrom_60 : decode cX3_copyFrom 60 = .ok (.invokestatic 34, 3) := by decide +kernel
theorem dX3_copyFrom_63 : decode cX3_copyFrom 63 = .ok (.invokestatic 38, 3) := by decide +kernel
theorem dX3_copyFrom_66 : decode cX3_copyFrom 66 = .ok (.iinc 2 1, 3) := by decide +kernel
theorem dX3_copyFrom_69 : decode cX3_copyFrom 69 = .ok (.goto (-43), 3) := by decide +kernel
theorem dX3_copyFrom_72 : decode cX3_copyFrom 72 = .ok (.aload_n 0, 1) := by decide +kernel
theorem dX3_copyFrom_73 : decode cX3_copyFrom 73 = .ok (.aload_n 1, 1) := by decide +kernel
theorem dX3_copyFrom_74 : decode cX3_copyFrom 74 = .ok (.getfield 28, 3) := by decide +kernel
theorem dX3_copyFrom_77 : decode cX3_copyFrom 77 = .ok (.putfield 28, 3) := by decide +kernel
theorem dX3_copyFrom_80 : decode cX3_copyFrom 80 = .ok (.aload_n 0, 1) := by decide +kernel
theorem dX3_copyFrom_81 : decode cX3_copyFrom 81 = .ok (.aload_n 1, 1) := by decide +kernel
theorem dX3_copyFrom_82 : decode cX3_copyFrom 82 = .ok (.getfield 31, 3) := by decide +kernel
theorem dX3_copyFrom_85 : decode cX3_copyFrom 85 = .ok (.putfield 31, 3) := by decide +kernel
theorem dX3_copyFrom_88 : decode cX3_copyFrom 88 = .ok (.return_, 1) := by decide +kernel
theorem dX3_ownerOf_0 : decode cX3_ownerOf 0 = .ok (.aload_n 0, 1) := by decide +kernel
theorem dX3_ownerOf_1 : decode cX3_ownerOf 1 = .ok (.getfield 22, 3) := by decide +kernel
theorem dX3_ownerOf_4 : decode cX3_ownerOf 4 = .ok (.iload_n 1, 1) := by decide +kernel
theorem dX3_ownerOf_5 : decode cX3_ownerOf 5 = .ok (.ishr, 1) := by decide +kernel
theorem dX3_ownerOf_6 : decode cX3_ownerOf 6 = .ok (.iconst 1, 1) := by decide +kernel
theorem dX3_ownerOf_7 : decode cX3_ownerOf 7 = .ok (.iand, 1) := by decide +kernel
theorem dX3_ownerOf_8 : decode cX3_ownerOf 8 = .ok (.ireturn, 1) := by decide +kernel
theorem dX3_plays_0 : decode cX3_plays 0 = .ok (.iconst 1, 1) := by decide +kernel
theorem dX3_plays_1 : decode cX3_plays 1 = .ok (.aload_n 0, 1) := by decide +kernel
theorem dX3_plays_2 : decode cX3_plays 2 = .ok (.getfield 22, 3) := by decide +kernel
theorem dX3_plays_5 : decode cX3_plays 5 = .ok (.invokestatic 42, 3) := by decide +kernel
theorem dX3_plays_8 : decode cX3_plays 8 = .ok (.ishl, 1) := by decide +kernel
theorem dX3_plays_9 : decode cX3_plays 9 = .ok (.ireturn, 1) := by decide +kernel
theorem dX3_allPlays_0 : decode cX3_allPlays 0 = .ok (.iconst 1, 1) := by decide +kernel
theorem dX3_allPlays_1 : decode cX3_allPlays 1 = .ok (.aload_n 0, 1) := by decide +kernel
theorem dX3_allPlays_2 : decode cX3_allPlays 2 = .ok (.invokevirtual 48, 3) := by decide +kernel
theorem dX3_allPlays_5 : decode cX3_allPlays 5 = .ok (.ishl, 1) := by decide +kernel
theorem dX3_allPlays_6 : decode cX3_allPlays 6 = .ok (.iconst 1, 1) := by decide +kernel
theorem dX3_allPlays_7 : decode cX3_allPlays 7 = .ok (.isub, 1) := by decide +kernel
theorem dX3_allPlays_8 : decode cX3_allPlays 8 = .ok (.ireturn, 1) := by decide +kernel
theorem dX3_hasPlay_0 : decode cX3_hasPlay 0 = .ok (.iload_n 1, 1) := by decide +kernel
theorem dX3_hasPlay_1 : decode cX3_hasPlay 1 = .ok (.ifCond .lt 15, 3) := by decide +kernel
theorem dX3_hasPlay_4 : decode cX3_hasPlay 4 = .ok (.iload_n 1, 1) := by decide +kernel
theorem dX3_hasPlay_5 : decode cX3_hasPlay 5 = .ok (.aload_n 0, 1) := by decide +kernel
theorem dX3_hasPlay_6 : decode cX3_hasPlay 6 = .ok (.invokevirtual 48, 3) := by decide +kernel
theorem dX3_hasPlay_9 : decode cX3_hasPlay 9 = .ok (.if_icmp .ge 7, 3) := by decide +kernel
theorem dX3_hasPlay_12 : decode cX3_hasPlay 12 = .ok (.iconst 1, 1) := by decide +kernel
theorem dX3_hasPlay_13 : decode cX3_hasPlay 13 = .ok (.goto 4, 3) := by decide +kernel
theorem dX3_hasPlay_16 : decode cX3_hasPlay 16 = .ok (.iconst 0, 1) := by decide +kernel
theorem dX3_hasPlay_17 : decode cX3_hasPlay 17 = .ok (.ireturn, 1) := by decide +kernel
theorem dX3_hasLearned_0 : decode cX3_hasLearned 0 = .ok (.aload_n 0, 1) := by decide +kernel
theorem dX3_hasLearned_1 : decode cX3_hasLearned 1 = .ok (.getfield 28, 3) := by decide +kernel
theorem dX3_hasLearned_4 : decode cX3_hasLearned 4 = .ok (.iload_n 1, 1) := by decide +kernel
theorem dX3_hasLearned_5 : decode cX3_hasLearned 5 = .ok (.invokestatic 52, 3) := by decide +kernel
theorem dX3_hasLearned_8 : decode cX3_hasLearned 8 = .ok (.iconst 1, 1) := by decide +kernel
theorem dX3_hasLearned_9 : decode cX3_hasLearned 9 = .ok (.if_icmp .ne 7, 3) := by decide +kernel
theorem dX3_hasLearned_12 : decode cX3_hasLearned 12 = .ok (.iconst 1, 1) := by decide +kernel
theorem dX3_hasLearned_13 : decode cX3_hasLearned 13 = .ok (.goto 4, 3) := by decide +kernel
theorem dX3_hasLearned_16 : decode cX3_hasLearned 16 = .ok (.iconst 0, 1) := by decide +kernel
theorem dX3_hasLearned_17 : decode cX3_hasLearned 17 = .ok (.ireturn, 1) := by decide +kernel
theorem dX3_hasVariables_0 : decode cX3_hasVariables 0 = .ok (.iload_n 1, 1) := by decide +kernel
theorem dX3_hasVariables_1 : decode cX3_hasVariables 1 = .ok (.ifCond .lt 16, 3) := by decide +kernel
theorem dX3_hasVariables_4 : decode cX3_hasVariables 4 = .ok (.iload_n 1, 1) := by decide +kernel
theorem dX3_hasVariables_5 : decode cX3_hasVariables 5 = .ok (.aload_n 0, 1) := by decide +kernel
theorem dX3_hasVariables_6 : decode cX3_hasVariables 6 = .ok (.getfield 18, 3) := by decide +kernel
theorem dX3_hasVariables_9 : decode cX3_hasVariables 9 = .ok (.ishr, 1) := by decide +kernel
theorem dX3_hasVariables_10 : decode cX3_hasVariables 10 = .ok (.ifCond .ne 7, 3) := by decide +kernel
theorem dX3_hasVariables_13 : decode cX3_hasVariables 13 = .ok (.iconst 1, 1) := by decide +kernel
theorem dX3_hasVariables_14 : decode cX3_hasVariables 14 = .ok (.goto 4, 3) := by decide +kernel
theorem dX3_hasVariables_17 : decode cX3_hasVariables 17 = .ok (.iconst 0, 1) := by decide +kernel
theorem dX3_hasVariables_18 : decode cX3_hasVariables 18 = .ok (.ireturn, 1) := by decide +kernel
theorem dX3_hasRoomFor_0 : decode cX3_hasRoomFor 0 = .ok (.aload_n 0, 1) := by decide +kernel
theorem dX3_hasRoomFor_1 : decode cX3_hasRoomFor 1 = .ok (.getfield 22, 3) := by decide +kernel
theorem dX3_hasRoomFor_4 : decode cX3_hasRoomFor 4 = .ok (.invokestatic 42, 3) := by decide +kernel
theorem dX3_hasRoomFor_7 : decode cX3_hasRoomFor 7 = .ok (.istore_n 2, 1) := by decide +kernel
theorem dX3_hasRoomFor_8 : decode cX3_hasRoomFor 8 = .ok (.iload_n 1, 1) := by decide +kernel
theorem dX3_hasRoomFor_9 : decode cX3_hasRoomFor 9 = .ok (.ifCond .eq 16, 3) := by decide +kernel
theorem dX3_hasRoomFor_12 : decode cX3_hasRoomFor 12 = .ok (.iload_n 2, 1) := by decide +kernel
theorem dX3_hasRoomFor_13 : decode cX3_hasRoomFor 13 = .ok (.iconst 3, 1) := by decide +kernel
theorem dX3_hasRoomFor_14 : decode cX3_hasRoomFor 14 = .ok (.if_icmp .ge 7, 3) := by decide +kernel
theorem dX3_hasRoomFor_17 : decode cX3_hasRoomFor 17 = .ok (.iconst 1, 1) := by decide +kernel
theorem dX3_hasRoomFor_18 : decode cX3_hasRoomFor 18 = .ok (.goto 23, 3) := by decide +kernel
theorem dX3_hasRoomFor_21 : decode cX3_hasRoomFor 21 = .ok (.iconst 0, 1) := by decide +kernel
theorem dX3_hasRoomFor_22 : decode cX3_hasRoomFor 22 = .ok (.goto 19, 3) := by decide +kernel
theorem dX3_hasRoomFor_25 : decode cX3_hasRoomFor 25 = .ok (.aload_n 0, 1) := by decide +kernel
theorem dX3_hasRoomFor_26 : decode cX3_hasRoomFor 26 = .ok (.getfield 18, 3) := by decide +kernel
theorem dX3_hasRoomFor_29 : decode cX3_hasRoomFor 29 = .ok (.iload_n 2, 1) := by decide +kernel
theorem dX3_hasRoomFor_30 : decode cX3_hasRoomFor 30 = .ok (.isub, 1) := by decide +kernel
theorem dX3_hasRoomFor_31 : decode cX3_hasRoomFor 31 = .ok (.bipush 6, 2) := by decide +kernel
theorem dX3_hasRoomFor_33 : decode cX3_hasRoomFor 33 = .ok (.if_icmp .ge 7, 3) := by decide +kernel
theorem dX3_hasRoomFor_36 : decode cX3_hasRoomFor 36 = .ok (.iconst 1, 1) := by decide +kernel
theorem dX3_hasRoomFor_37 : decode cX3_hasRoomFor 37 = .ok (.goto 4, 3) := by decide +kernel
theorem dX3_hasRoomFor_40 : decode cX3_hasRoomFor 40 = .ok (.iconst 0, 1) := by decide +kernel
theorem dX3_hasRoomFor_41 : decode cX3_hasRoomFor 41 = .ok (.ireturn, 1) := by decide +kernel
theorem dX3_putVariable_0 : decode cX3_putVariable 0 = .ok (.iload_n 1, 1) := by decide +kernel
theorem dX3_putVariable_1 : decode cX3_putVariable 1 = .ok (.ifCond .eq 18, 3) := by decide +kernel
theorem dX3_putVariable_4 : decode cX3_putVariable 4 = .ok (.aload_n 0, 1) := by decide +kernel
theorem dX3_putVariable_5 : decode cX3_putVariable 5 = .ok (.dup, 1) := by decide +kernel
theorem dX3_putVariable_6 : decode cX3_putVariable 6 = .ok (.getfield 22, 3) := by decide +kernel
theorem dX3_putVariable_9 : decode cX3_putVariable 9 = .ok (.iconst 1, 1) := by decide +kernel
theorem dX3_putVariable_10 : decode cX3_putVariable 10 = .ok (.aload_n 0, 1) := by decide +kernel
theorem dX3_putVariable_11 : decode cX3_putVariable 11 = .ok (.getfield 18, 3) := by decide +kernel
theorem dX3_putVariable_14 : decode cX3_putVariable 14 = .ok (.ishl, 1) := by decide +kernel
theorem dX3_putVariable_15 : decode cX3_putVariable 15 = .ok (.ior, 1) := by decide +kernel
theorem dX3_putVariable_16 : decode cX3_putVariable 16 = .ok (.putfield 22, 3) := by decide +kernel
theorem dX3_putVariable_19 : decode cX3_putVariable 19 = .ok (.aload_n 0, 1) := by decide +kernel
theorem dX3_putVariable_20 : decode cX3_putVariable 20 = .ok (.dup, 1) := by decide +kernel
theorem dX3_putVariable_21 : decode cX3_putVariable 21 = .ok (.getfield 18, 3) := by decide +kernel
theorem dX3_putVariable_24 : decode cX3_putVariable 24 = .ok (.iconst 1, 1) := by decide +kernel
theorem dX3_putVariable_25 : decode cX3_putVariable 25 = .ok (.iadd, 1) := by decide +kernel
theorem dX3_putVariable_26 : decode cX3_putVariable 26 = .ok (.putfield 18, 3) := by decide +kernel
theorem dX3_putVariable_29 : decode cX3_putVariable 29 = .ok (.return_, 1) := by decide +kernel
theorem dX3_putClause_0 : decode cX3_putClause 0 = .ok (.aload_n 0, 1) := by decide +kernel
theorem dX3_putClause_1 : decode cX3_putClause 1 = .ok (.getfield 9, 3) := by decide +kernel
theorem dX3_putClause_4 : decode cX3_putClause 4 = .ok (.aload_n 0, 1) := by decide +kernel
theorem dX3_putClause_5 : decode cX3_putClause 5 = .ok (.getfield 25, 3) := by decide +kernel
theorem dX3_putClause_8 : decode cX3_putClause 8 = .ok (.iload_n 1, 1) := by decide +kernel
theorem dX3_putClause_9 : decode cX3_putClause 9 = .ok (.invokestatic 38, 3) := by decide +kernel
theorem dX3_putClause_12 : decode cX3_putClause 12 = .ok (.aload_n 0, 1) := by decide +kernel
theorem dX3_putClause_13 : decode cX3_putClause 13 = .ok (.getfield 15, 3) := by decide +kernel
theorem dX3_putClause_16 : decode cX3_putClause 16 = .ok (.aload_n 0, 1) := by decide +kernel
theorem dX3_putClause_17 : decode cX3_putClause 17 = .ok (.getfield 25, 3) := by decide +kernel
theorem dX3_putClause_20 : decode cX3_putClause 20 = .ok (.iload_n 2, 1) := by decide +kernel
theorem dX3_putClause_21 : decode cX3_putClause 21 = .ok (.invokestatic 38, 3) := by decide +kernel
theorem dX3_putClause_24 : decode cX3_putClause 24 = .ok (.aload_n 0, 1) := by decide +kernel
theorem dX3_putClause_25 : decode cX3_putClause 25 = .ok (.dup, 1) := by decide +kernel
theorem dX3_putClause_26 : decode cX3_putClause 26 = .ok (.getfield 25, 3) := by decide +kernel
theorem dX3_putClause_29 : decode cX3_putClause 29 = .ok (.iconst 1, 1) := by decide +kernel
theorem dX3_putClause_30 : decode cX3_putClause 30 = .ok (.iadd, 1) := by decide +kernel
theorem dX3_putClause_31 : decode cX3_putClause 31 = .ok (.putfield 25, 3) := by decide +kernel
theorem dX3_putClause_34 : decode cX3_putClause 34 = .ok (.return_, 1) := by decide +kernel
theorem dX3_dropClause_0 : decode cX3_dropClause 0 = .ok (.aload_n 0, 1) := by decide +kernel
theorem dX3_dropClause_1 : decode cX3_dropClause 1 = .ok (.dup, 1) := by decide +kernel
theorem dX3_dropClause_2 : decode cX3_dropClause 2 = .ok (.getfield 25, 3) := by decide +kernel
theorem dX3_dropClause_5 : decode cX3_dropClause 5 = .ok (.iconst 1, 1) := by decide +kernel
theorem dX3_dropClause_6 : decode cX3_dropClause 6 = .ok (.isub, 1) := by decide +kernel
theorem dX3_dropClause_7 : decode cX3_dropClause 7 = .ok (.putfield 25, 3) := by decide +kernel
theorem dX3_dropClause_10 : decode cX3_dropClause 10 = .ok (.iload_n 1, 1) := by decide +kernel
theorem dX3_dropClause_11 : decode cX3_dropClause 11 = .ok (.istore_n 2, 1) := by decide +kernel
theorem dX3_dropClause_12 : decode cX3_dropClause 12 = .ok (.iload_n 2, 1) := by decide +kernel
theorem dX3_dropClause_13 : decode cX3_dropClause 13 = .ok (.aload_n 0, 1) := by decide +kernel
theorem dX3_dropClause_14 : decode cX3_dropClause 14 = .ok (.getfield 25, 3) := by decide +kernel
theorem dX3_dropClause_17 : decode cX3_dropClause 17 = .ok (.if_icmp .ge 45, 3) := by decide +kernel
theorem dX3_dropClause_20 : decode cX3_dropClause 20 = .ok (.aload_n 0, 1) := by decide +kernel
theorem dX3_dropClause_21 : decode cX3_dropClause 21 = .ok (.getfield 9, 3) := by decide +kernel
theorem dX3_dropClause_24 : decode cX3_dropClause 24 = .ok (.iload_n 2, 1) := by decide +kernel
theorem dX3_dropClause_25 : decode cX3_dropClause 25 = .ok (.aload_n 0, 1) := by decide +kernel
theorem dX3_dropClause_26 : decode cX3_dropClause 26 = .ok (.getfield 9, 3) := by decide +kernel
theorem dX3_dropClause_29 : decode cX3_dropClause 29 = .ok (.iload_n 2, 1) := by decide +kernel
theorem dX3_dropClause_30 : decode cX3_dropClause 30 = .ok (.iconst 1, 1) := by decide +kernel
theorem dX3_dropClause_31 : decode cX3_dropClause 31 = .ok (.iadd, 1) := by decide +kernel
theorem dX3_dropClause_32 : decode cX3_dropClause 32 = .ok (.invokestatic 34, 3) := by decide +kernel
theorem dX3_dropClause_35 : decode cX3_dropClause 35 = .ok (.invokestatic 38, 3) := by decide +kernel
theorem dX3_dropClause_38 : decode cX3_dropClause 38 = .ok (.aload_n 0, 1) := by decide +kernel
theorem dX3_dropClause_39 : decode cX3_dropClause 39 = .ok (.getfield 15, 3) := by decide +kernel
theorem dX3_dropClause_42 : decode cX3_dropClause 42 = .ok (.iload_n 2, 1) := by decide +kernel
theorem dX3_dropClause_43 : decode cX3_dropClause 43 = .ok (.aload_n 0, 1) := by decide +kernel
theorem dX3_dropClause_44 : decode cX3_dropClause 44 = .ok (.getfield 15, 3) := by decide +kernel
theorem dX3_dropClause_47 : decode cX3_dropClause 47 = .ok (.iload_n 2, 1) := by decide +kernel
theorem dX3_dropClause_48 : decode cX3_dropClause 48 = .ok (.iconst 1, 1) := by decide +kernel
theorem dX3_dropClause_49 : decode cX3_dropClause 49 = .ok (.iadd, 1) := by decide +kernel
theorem dX3_dropClause_50 : decode cX3_dropClause 50 = .ok (.invokestatic 34, 3) := by decide +kernel
theorem dX3_dropClause_53 : decode cX3_dropClause 53 = .ok (.invokestatic 38, 3) := by decide +kernel
theorem dX3_dropClause_56 : decode cX3_dropClause 56 = .ok (.iinc 2 1, 3) := by decide +kernel
theorem dX3_dropClause_59 : decode cX3_dropClause 59 = .ok (.goto (-47), 3) := by decide +kernel
theorem dX3_dropClause_62 : decode cX3_dropClause 62 = .ok (.return_, 1) := by decide +kernel
theorem dX3_holds_0 : decode cX3_holds 0 = .ok (.iconst 0, 1) := by decide +kernel
theorem dX3_holds_1 : decode cX3_holds 1 = .ok (.istore_n 2, 1) := by decide +kernel
theorem dX3_holds_2 : decode cX3_holds 2 = .ok (.iload_n 2, 1) := by decide +kernel
theorem dX3_holds_3 : decode cX3_holds 3 = .ok (.aload_n 0, 1) := by decide +kernel
theorem dX3_holds_4 : decode cX3_holds 4 = .ok (.getfield 25, 3) := by decide +kernel
theorem dX3_holds_7 : decode cX3_holds 7 = .ok (.if_icmp .ge 49, 3) := by decide +kernel
theorem dX3_holds_10 : decode cX3_holds 10 = .ok (.iload_n 1, 1) := by decide +kernel
theorem dX3_holds_11 : decode cX3_holds 11 = .ok (.aload_n 0, 1) := by decide +kernel
theorem dX3_holds_12 : decode cX3_holds 12 = .ok (.getfield 9, 3) := by decide +kernel
theorem dX3_holds_15 : decode cX3_holds 15 = .ok (.iload_n 2, 1) := by decide +kernel
theorem dX3_holds_16 : decode cX3_holds 16 = .ok (.invokestatic 34, 3) := by decide +kernel
theorem dX3_holds_19 : decode cX3_holds 19 = .ok (.iand, 1) := by decide +kernel
theorem dX3_holds_20 : decode cX3_holds 20 = .ok (.ifCond .ne 18, 3) := by decide +kernel
theorem dX3_holds_23 : decode cX3_holds 23 = .ok (.iload_n 1, 1) := by decide +kernel
theorem dX3_holds_24 : decode cX3_holds 24 = .ok (.iconst (-1), 1) := by decide +kernel
theorem dX3_holds_25 : decode cX3_holds 25 = .ok (.ixor, 1) := by decide +kernel
theorem dX3_holds_26 : decode cX3_holds 26 = .ok (.aload_n 0, 1) := by decide +kernel
theorem dX3_holds_27 : decode cX3_holds 27 = .ok (.getfield 15, 3) := by decide +kernel
theorem dX3_holds_30 : decode cX3_holds 30 = .ok (.iload_n 2, 1) := by decide +kernel
theorem dX3_holds_31 : decode cX3_holds 31 = .ok (.invokestatic 34, 3) := by decide +kernel
theorem dX3_holds_34 : decode cX3_holds 34 = .ok (.iand, 1) := by decide +kernel
theorem dX3_holds_35 : decode cX3_holds 35 = .ok (.ifCond .eq 7, 3) := by decide +kernel
theorem dX3_holds_38 : decode cX3_holds 38 = .ok (.iconst 1, 1) := by decide +kernel
theorem dX3_holds_39 : decode cX3_holds 39 = .ok (.goto 4, 3) := by decide +kernel
theorem dX3_holds_42 : decode cX3_holds 42 = .ok (.iconst 0, 1) := by decide +kernel
theorem dX3_holds_43 : decode cX3_holds 43 = .ok (.istore_n 3, 1) := by decide +kernel
theorem dX3_holds_44 : decode cX3_holds 44 = .ok (.iload_n 3, 1) := by decide +kernel
theorem dX3_holds_45 : decode cX3_holds 45 = .ok (.ifCond .ne 5, 3) := by decide +kernel
theorem dX3_holds_48 : decode cX3_holds 48 = .ok (.iconst 0, 1) := by decide +kernel
theorem dX3_holds_49 : decode cX3_holds 49 = .ok (.ireturn, 1) := by decide +kernel
theorem dX3_holds_50 : decode cX3_holds 50 = .ok (.iinc 2 1, 3) := by decide +kernel
theorem dX3_holds_53 : decode cX3_holds 53 = .ok (.goto (-51), 3) := by decide +kernel
theorem dX3_holds_56 : decode cX3_holds 56 = .ok (.iconst 1, 1) := by decide +kernel
theorem dX3_holds_57 : decode cX3_holds 57 = .ok (.ireturn, 1) := by decide +kernel
theorem dX3_playIn_0 : decode cX3_playIn 0 = .ok (.iconst 0, 1) := by decide +kernel
theorem dX3_playIn_1 : decode cX3_playIn 1 = .ok (.istore_n 2, 1) := by decide +kernel
theorem dX3_playIn_2 : decode cX3_playIn 2 = .ok (.iconst 0, 1) := by decide +kernel
theorem dX3_playIn_3 : decode cX3_playIn 3 = .ok (.istore_n 3, 1) := by decide +kernel
theorem dX3_playIn_4 : decode cX3_playIn 4 = .ok (.iconst 0, 1) := by decide +kernel
theorem dX3_playIn_5 : decode cX3_playIn 5 = .ok (.istore 4, 2) := by decide +kernel
theorem dX3_playIn_7 : decode cX3_playIn 7 = .ok (.iload 4, 2) := by decide +kernel
theorem dX3_playIn_9 : decode cX3_playIn 9 = .ok (.aload_n 0, 1) := by decide +kernel
theorem dX3_playIn_10 : decode cX3_playIn 10 = .ok (.getfield 18, 3) := by decide +kernel
theorem dX3_playIn_13 : decode cX3_playIn 13 = .ok (.if_icmp .ge 33, 3) := by decide +kernel
theorem dX3_playIn_16 : decode cX3_playIn 16 = .ok (.aload_n 0, 1) := by decide +kernel
theorem dX3_playIn_17 : decode cX3_playIn 17 = .ok (.iload 4, 2) := by decide +kernel
theorem dX3_playIn_19 : decode cX3_playIn 19 = .ok (.invokevirtual 56, 3) := by decide +kernel
theorem dX3_playIn_22 : decode cX3_playIn 22 = .ok (.iconst 1, 1) := by decide +kernel
theorem dX3_playIn_23 : decode cX3_playIn 23 = .ok (.if_icmp .ne 17, 3) := by decide +kernel
theorem dX3_playIn_26 : decode cX3_playIn 26 = .ok (.iload_n 2, 1) := by decide +kernel
theorem dX3_playIn_27 : decode cX3_playIn 27 = .ok (.iload_n 1, 1) := by decide +kernel
theorem dX3_playIn_28 : decode cX3_playIn 28 = .ok (.iload 4, 2) := by decide +kernel
theorem dX3_playIn_30 : decode cX3_playIn 30 = .ok (.invokestatic 52, 3) := by decide +kernel
theorem dX3_playIn_33 : decode cX3_playIn 33 = .ok (.iload_n 3, 1) := by decide +kernel
theorem dX3_playIn_34 : decode cX3_playIn 34 = .ok (.ishl, 1) := by decide +kernel
theorem dX3_playIn_35 : decode cX3_playIn 35 = .ok (.ior, 1) := by decide +kernel
theorem dX3_playIn_36 : decode cX3_playIn 36 = .ok (.istore_n 2, 1) := by decide +kernel
theorem dX3_playIn_37 : decode cX3_playIn 37 = .ok (.iinc 3 1, 3) := by decide +kernel
theorem dX3_playIn_40 : decode cX3_playIn 40 = .ok (.iinc 4 1, 3) := by decide +kernel
theorem dX3_playIn_43 : decode cX3_playIn 43 = .ok (.goto (-36), 3) := by decide +kernel
theorem dX3_playIn_46 : decode cX3_playIn 46 = .ok (.iload_n 2, 1) := by decide +kernel
theorem dX3_playIn_47 : decode cX3_playIn 47 = .ok (.ireturn, 1) := by decide +kernel
theorem dX4_init_0 : decode cX4_init 0 = .ok (.aload_n 0, 1) := by decide +kernel
theorem dX4_init_1 : decode cX4_init 1 = .ok (.invokespecial 1, 3) := by decide +kernel
theorem dX4_init_4 : decode cX4_init 4 = .ok (.aload_n 0, 1) := by decide +kernel
theorem dX4_init_5 : decode cX4_init 5 = .ok (.new 7, 3) := by decide +kernel
theorem dX4_init_8 : decode cX4_init 8 = .ok (.dup, 1) := by decide +kernel
theorem dX4_init_9 : decode cX4_init 9 = .ok (.invokespecial 9, 3) := by decide +kernel
theorem dX4_init_12 : decode cX4_init 12 = .ok (.putfield 10, 3) := by decide +kernel
theorem dX4_init_15 : decode cX4_init 15 = .ok (.aload_n 0, 1) := by decide +kernel
theorem dX4_init_16 : decode cX4_init 16 = .ok (.new 16, 3) := by decide +kernel
theorem dX4_init_19 : decode cX4_init 19 = .ok (.dup, 1) := by decide +kernel
theorem dX4_init_20 : decode cX4_init 20 = .ok (.invokespecial 18, 3) := by decide +kernel
theorem dX4_init_23 : decode cX4_init 23 = .ok (.putfield 19, 3) := by decide +kernel
theorem dX4_init_26 : decode cX4_init 26 = .ok (.aload_n 0, 1) := by decide +kernel
theorem dX4_init_27 : decode cX4_init 27 = .ok (.new 23, 3) := by decide +kernel
theorem dX4_init_30 : decode cX4_init 30 = .ok (.dup, 1) := by decide +kernel
theorem dX4_init_31 : decode cX4_init 31 = .ok (.invokespecial 25, 3) := by decide +kernel
theorem dX4_init_34 : decode cX4_init 34 = .ok (.putfield 26, 3) := by decide +kernel
theorem dX4_init_37 : decode cX4_init 37 = .ok (.aload_n 0, 1) := by decide +kernel
theorem dX4_init_38 : decode cX4_init 38 = .ok (.new 30, 3) := by decide +kernel
theorem dX4_init_41 : decode cX4_init 41 = .ok (.dup, 1) := by decide +kernel
theorem dX4_init_42 : decode cX4_init 42 = .ok (.invokespecial 32, 3) := by decide +kernel
theorem dX4_init_45 : decode cX4_init 45 = .ok (.putfield 33, 3) := by decide +kernel
theorem dX4_init_48 : decode cX4_init 48 = .ok (.return_, 1) := by decide +kernel
theorem dX4_begin_0 : decode cX4_begin 0 = .ok (.aload_n 0, 1) := by decide +kernel
theorem dX4_begin_1 : decode cX4_begin 1 = .ok (.getfield 10, 3) := by decide +kernel
theorem dX4_begin_4 : decode cX4_begin 4 = .ok (.getfield 37, 3) := by decide +kernel
theorem dX4_begin_7 : decode cX4_begin 7 = .ok (.istore_n 1, 1) := by decide +kernel
theorem dX4_begin_8 : decode cX4_begin 8 = .ok (.aload_n 0, 1) := by decide +kernel
theorem dX4_begin_9 : decode cX4_begin 9 = .ok (.getfield 19, 3) := by decide +kernel
theorem dX4_begin_12 : decode cX4_begin 12 = .ok (.aload_n 0, 1) := by decide +kernel
theorem dX4_begin_13 : decode cX4_begin 13 = .ok (.getfield 10, 3) := by decide +kernel
theorem dX4_begin_16 : decode cX4_begin 16 = .ok (.invokevirtual 41, 3) := by decide +kernel
theorem dX4_begin_19 : decode cX4_begin 19 = .ok (.aload_n 0, 1) := by decide +kernel
theorem dX4_begin_20 : decode cX4_begin 20 = .ok (.getfield 10, 3) := by decide +kernel
theorem dX4_begin_23 : decode cX4_begin 23 = .ok (.invokevirtual 45, 3) := by decide +kernel
theorem dX4_begin_26 : decode cX4_begin 26 = .ok (.aload_n 0, 1) := by decide +kernel
theorem dX4_begin_27 : decode cX4_begin 27 = .ok (.getfield 26, 3) := by decide +kernel
theorem dX4_begin_30 : decode cX4_begin 30 = .ok (.iconst 1, 1) := by decide +kernel
theorem dX4_begin_31 : decode cX4_begin 31 = .ok (.putfield 48, 3) := by decide +kernel
theorem dX4_begin_34 : decode cX4_begin 34 = .ok (.iload_n 1, 1) := by decide +kernel
theorem dX4_begin_35 : decode cX4_begin 35 = .ok (.ireturn, 1) := by decide +kernel
theorem dX4_addVariable_0 : decode cX4_addVariable 0 = .ok (.aload_n 0, 1) := by decide +kernel
theorem dX4_addVariable_1 : decode cX4_addVariable 1 = .ok (.getfield 10, 3) := by decide +kernel
theorem dX4_addVariable_4 : decode cX4_addVariable 4 = .ok (.iload_n 1, 1) := by decide +kernel
theorem dX4_addVariable_5 : decode cX4_addVariable 5 = .ok (.invokevirtual 52, 3) := by decide +kernel
theorem dX4_addVariable_8 : decode cX4_addVariable 8 = .ok (.ifCond .ne 13, 3) := by decide +kernel
theorem dX4_addVariable_11 : decode cX4_addVariable 11 = .ok (.new 56, 3) := by decide +kernel
theorem dX4_addVariable_14 : decode cX4_addVariable 14 = .ok (.dup, 1) := by decide +kernel
theorem dX4_addVariable_15 : decode cX4_addVariable 15 = .ok (.ldc 58, 2) := by decide +kernel
theorem dX4_addVariable_17 : decode cX4_addVariable 17 = .ok (.invokespecial 60, 3) := by decide +kernel
theorem dX4_addVariable_20 : decode cX4_addVariable 20 = .ok (.athrow, 1) := by decide +kernel
theorem dX4_addVariable_21 : decode cX4_addVariable 21 = .ok (.aload_n 0, 1) := by decide +kernel
theorem dX4_addVariable_22 : decode cX4_addVariable 22 = .ok (.getfield 19, 3) := by decide +kernel
theorem dX4_addVariable_25 : decode cX4_addVariable 25 = .ok (.aload_n 0, 1) := by decide +kernel
theorem dX4_addVariable_26 : decode cX4_addVariable 26 = .ok (.getfield 10, 3) := by decide +kernel
theorem dX4_addVariable_29 : decode cX4_addVariable 29 = .ok (.invokevirtual 41, 3) := by decide +kernel
theorem dX4_addVariable_32 : decode cX4_addVariable 32 = .ok (.aload_n 0, 1) := by decide +kernel
theorem dX4_addVariable_33 : decode cX4_addVariable 33 = .ok (.iload_n 1, 1) := by decide +kernel
theorem dX4_addVariable_34 : decode cX4_addVariable 34 = .ok (.invokevirtual 63, 3) := by decide +kernel
theorem dX4_addVariable_37 : decode cX4_addVariable 37 = .ok (.aload_n 0, 1) := by decide +kernel
theorem dX4_addVariable_38 : decode cX4_addVariable 38 = .ok (.getfield 10, 3) := by decide +kernel
theorem dX4_addVariable_41 : decode cX4_addVariable 41 = .ok (.getfield 37, 3) := by decide +kernel
theorem dX4_addVariable_44 : decode cX4_addVariable 44 = .ok (.iconst 1, 1) := by decide +kernel
theorem dX4_addVariable_45 : decode cX4_addVariable 45 = .ok (.isub, 1) := by decide +kernel
theorem dX4_addVariable_46 : decode cX4_addVariable 46 = .ok (.ireturn, 1) := by decide +kernel
theorem dX4_addClause_0 : decode cX4_addClause 0 = .ok (.aload_n 0, 1) := by decide +kernel
theorem dX4_addClause_1 : decode cX4_addClause 1 = .ok (.getfield 10, 3) := by decide +kernel
theorem dX4_addClause_4 : decode cX4_addClause 4 = .ok (.iload_n 1, 1) := by decide +kernel
theorem dX4_addClause_5 : decode cX4_addClause 5 = .ok (.invokevirtual 67, 3) := by decide +kernel
theorem dX4_addClause_8 : decode cX4_addClause 8 = .ok (.ifCond .eq 14, 3) := by decide +kernel
theorem dX4_addClause_11 : decode cX4_addClause 11 = .ok (.aload_n 0, 1) := by decide +kernel
theorem dX4_addClause_12 : decode cX4_addClause 12 = .ok (.getfield 10, 3) := by decide +kernel
theorem dX4_addClause_15 : decode cX4_addClause 15 = .ok (.iload_n 2, 1) := by decide +kernel
theorem dX4_addClause_16 : decode cX4_addClause 16 = .ok (.invokevirtual 67, 3) := by decide +kernel
theorem dX4_addClause_19 : decode cX4_addClause 19 = .ok (.ifCond .ne 13, 3) := by decide +kernel
theorem dX4_addClause_22 : decode cX4_addClause 22 = .ok (.new 71, 3) := by decide +kernel
theorem dX4_addClause_25 : decode cX4_addClause 25 = .ok (.dup, 1) := by decide +kernel
theorem dX4_addClause_26 : decode cX4_addClause 26 = .ok (.ldc 73, 2) := by decide +kernel
theorem dX4_addClause_28 : decode cX4_addClause 28 = .ok (.invokespecial 75, 3) := by decide +kernel
theorem dX4_addClause_31 : decode cX4_addClause 31 = .ok (.athrow, 1) := by decide +kernel
theorem dX4_addClause_32 : decode cX4_addClause 32 = .ok (.aload_n 0, 1) := by decide +kernel
theorem dX4_addClause_33 : decode cX4_addClause 33 = .ok (.getfield 10, 3) := by decide +kernel
theorem dX4_addClause_36 : decode cX4_addClause 36 = .ok (.getfield 76, 3) := by decide +kernel
theorem dX4_addClause_39 : decode cX4_addClause 39 = .ok (.bipush 20, 2) := by decide +kernel
theorem dX4_addClause_41 : decode cX4_addClause 41 = .ok (.if_icmp .lt 13, 3) := by decide +kernel
theorem dX4_addClause_44 : decode cX4_addClause 44 = .ok (.new 56, 3) := by decide +kernel
theorem dX4_addClause_47 : decode cX4_addClause 47 = .ok (.dup, 1) := by decide +kernel
theorem dX4_addClause_48 : decode cX4_addClause 48 = .ok (.ldc 79, 2) := by decide +kernel
theorem dX4_addClause_50 : decode cX4_addClause 50 = .ok (.invokespecial 60, 3) := by decide +kernel
theorem dX4_addClause_53 : decode cX4_addClause 53 = .ok (.athrow, 1) := by decide +kernel
theorem dX4_addClause_54 : decode cX4_addClause 54 = .ok (.aload_n 0, 1) := by decide +kernel
theorem dX4_addClause_55 : decode cX4_addClause 55 = .ok (.getfield 19, 3) := by decide +kernel
theorem dX4_addClause_58 : decode cX4_addClause 58 = .ok (.aload_n 0, 1) := by decide +kernel
theorem dX4_addClause_59 : decode cX4_addClause 59 = .ok (.getfield 10, 3) := by decide +kernel
theorem dX4_addClause_62 : decode cX4_addClause 62 = .ok (.invokevirtual 41, 3) := by decide +kernel
theorem dX4_addClause_65 : decode cX4_addClause 65 = .ok (.aload_n 0, 1) := by decide +kernel
theorem dX4_addClause_66 : decode cX4_addClause 66 = .ok (.iload_n 1, 1) := by decide +kernel
theorem dX4_addClause_67 : decode cX4_addClause 67 = .ok (.iload_n 2, 1) := by decide +kernel
theorem dX4_addClause_68 : decode cX4_addClause 68 = .ok (.invokevirtual 81, 3) := by decide +kernel
theorem dX4_addClause_71 : decode cX4_addClause 71 = .ok (.aload_n 0, 1) := by decide +kernel
theorem dX4_addClause_72 : decode cX4_addClause 72 = .ok (.getfield 10, 3) := by decide +kernel
theorem dX4_addClause_75 : decode cX4_addClause 75 = .ok (.getfield 76, 3) := by decide +kernel
theorem dX4_addClause_78 : decode cX4_addClause 78 = .ok (.iconst 1, 1) := by decide +kernel
theorem dX4_addClause_79 : decode cX4_addClause 79 = .ok (.isub, 1) := by decide +kernel
theorem dX4_addClause_80 : decode cX4_addClause 80 = .ok (.ireturn, 1) := by decide +kernel
theorem dX4_removeClause_0 : decode cX4_removeClause 0 = .ok (.aload_n 0, 1) := by decide +kernel
theorem dX4_removeClause_1 : decode cX4_removeClause 1 = .ok (.iload_n 1, 1) := by decide +kernel
theorem dX4_removeClause_2 : decode cX4_removeClause 2 = .ok (.invokevirtual 85, 3) := by decide +kernel
theorem dX4_removeClause_5 : decode cX4_removeClause 5 = .ok (.aload_n 0, 1) := by decide +kernel
theorem dX4_removeClause_6 : decode cX4_removeClause 6 = .ok (.getfield 19, 3) := by decide +kernel
theorem dX4_removeClause_9 : decode cX4_removeClause 9 = .ok (.aload_n 0, 1) := by decide +kernel
theorem dX4_removeClause_10 : decode cX4_removeClause 10 = .ok (.getfield 10, 3) := by decide +kernel
theorem dX4_removeClause_13 : decode cX4_removeClause 13 = .ok (.invokevirtual 41, 3) := by decide +kernel
theorem dX4_removeClause_16 : decode cX4_removeClause 16 = .ok (.aload_n 0, 1) := by decide +kernel
theorem dX4_removeClause_17 : decode cX4_removeClause 17 = .ok (.getfield 10, 3) := by decide +kernel
theorem dX4_removeClause_20 : decode cX4_removeClause 20 = .ok (.iload_n 1, 1) := by decide +kernel
theorem dX4_removeClause_21 : decode cX4_removeClause 21 = .ok (.invokevirtual 89, 3) := by decide +kernel
theorem dX4_removeClause_24 : decode cX4_removeClause 24 = .ok (.aload_n 0, 1) := by decide +kernel
theorem dX4_removeClause_25 : decode cX4_removeClause 25 = .ok (.invokevirtual 92, 3) := by decide +kernel
theorem dX4_removeClause_28 : decode cX4_removeClause 28 = .ok (.aload_n 0, 1) := by decide +kernel
theorem dX4_removeClause_29 : decode cX4_removeClause 29 = .ok (.getfield 10, 3) := by decide +kernel
theorem dX4_removeClause_32 : decode cX4_removeClause 32 = .ok (.getfield 76, 3) := by decide +kernel
theorem dX4_removeClause_35 : decode cX4_removeClause 35 = .ok (.ireturn, 1) := by decide +kernel
theorem dX4_round_0 : decode cX4_round 0 = .ok (.aload_n 0, 1) := by decide +kernel
theorem dX4_round_1 : decode cX4_round 1 = .ok (.getfield 19, 3) := by decide +kernel
theorem dX4_round_4 : decode cX4_round 4 = .ok (.aload_n 0, 1) := by decide +kernel
theorem dX4_round_5 : decode cX4_round 5 = .ok (.getfield 10, 3) := by decide +kernel
theorem dX4_round_8 : decode cX4_round 8 = .ok (.invokevirtual 41, 3) := by decide +kernel
theorem dX4_round_11 : decode cX4_round 11 = .ok (.aload_n 0, 1) := by decide +kernel
theorem dX4_round_12 : decode cX4_round 12 = .ok (.invokevirtual 112, 3) := by decide +kernel
theorem dX4_round_15 : decode cX4_round 15 = .ok (.ireturn, 1) := by decide +kernel
theorem dX4_learnAll_0 : decode cX4_learnAll 0 = .ok (.aload_n 0, 1) := by decide +kernel
theorem dX4_learnAll_1 : decode cX4_learnAll 1 = .ok (.getfield 19, 3) := by decide +kernel
theorem dX4_learnAll_4 : decode cX4_learnAll 4 = .ok (.aload_n 0, 1) := by decide +kernel
theorem dX4_learnAll_5 : decode cX4_learnAll 5 = .ok (.getfield 10, 3) := by decide +kernel
theorem dX4_learnAll_8 : decode cX4_learnAll 8 = .ok (.invokevirtual 41, 3) := by decide +kernel
theorem dX4_learnAll_11 : decode cX4_learnAll 11 = .ok (.aload_n 0, 1) := by decide +kernel
theorem dX4_learnAll_12 : decode cX4_learnAll 12 = .ok (.getfield 10, 3) := by decide +kernel
theorem dX4_learnAll_15 : decode cX4_learnAll 15 = .ok (.invokevirtual 116, 3) := by decide +kernel
theorem dX4_learnAll_18 : decode cX4_learnAll 18 = .ok (.istore_n 1, 1) := by decide +kernel
theorem dX4_learnAll_19 : decode cX4_learnAll 19 = .ok (.iconst 0, 1) := by decide +kernel
theorem dX4_learnAll_20 : decode cX4_learnAll 20 = .ok (.istore_n 2, 1) := by decide +kernel
theorem dX4_learnAll_21 : decode cX4_learnAll 21 = .ok (.iload_n 2, 1) := by decide +kernel
theorem dX4_learnAll_22 : decode cX4_learnAll 22 = .ok (.iload_n 1, 1) := by decide +kernel
theorem dX4_learnAll_23 : decode cX4_learnAll 23 = .ok (.if_icmp .gt 16, 3) := by decide +kernel
theorem dX4_learnAll_26 : decode cX4_learnAll 26 = .ok (.aload_n 0, 1) := by decide +kernel
theorem dX4_learnAll_27 : decode cX4_learnAll 27 = .ok (.invokevirtual 112, 3) := by decide +kernel
theorem dX4_learnAll_30 : decode cX4_learnAll 30 = .ok (.ifCond .lt 9, 3) := by decide +kernel
theorem dX4_learnAll_33 : decode cX4_learnAll 33 = .ok (.iinc 2 1, 3) := by decide +kernel
theorem dX4_learnAll_36 : decode cX4_learnAll 36 = .ok (.goto (-15), 3) := by decide +kernel
theorem dX4_learnAll_39 : decode cX4_learnAll 39 = .ok (.iload_n 2, 1) := by decide +kernel
theorem dX4_learnAll_40 : decode cX4_learnAll 40 = .ok (.ireturn, 1) := by decide +kernel
theorem dX4_isBreakers_0 : decode cX4_isBreakers 0 = .ok (.aload_n 0, 1) := by decide +kernel
theorem dX4_isBreakers_1 : decode cX4_isBreakers 1 = .ok (.iload_n 1, 1) := by decide +kernel
theorem dX4_isBreakers_2 : decode cX4_isBreakers 2 = .ok (.invokevirtual 119, 3) := by decide +kernel
theorem dX4_isBreakers_5 : decode cX4_isBreakers 5 = .ok (.aload_n 0, 1) := by decide +kernel
theorem dX4_isBreakers_6 : decode cX4_isBreakers 6 = .ok (.getfield 10, 3) := by decide +kernel
theorem dX4_isBreakers_9 : decode cX4_isBreakers 9 = .ok (.iload_n 1, 1) := by decide +kernel
theorem dX4_isBreakers_10 : decode cX4_isBreakers 10 = .ok (.invokevirtual 122, 3) := by decide +kernel
theorem dX4_isBreakers_13 : decode cX4_isBreakers 13 = .ok (.iconst 1, 1) := by decide +kernel
theorem dX4_isBreakers_14 : decode cX4_isBreakers 14 = .ok (.if_icmp .ne 7, 3) := by decide +kernel
theorem dX4_isBreakers_17 : decode cX4_isBreakers 17 = .ok (.iconst 1, 1) := by decide +kernel
theorem dX4_isBreakers_18 : decode cX4_isBreakers 18 = .ok (.goto 4, 3) := by decide +kernel
theorem dX4_isBreakers_21 : decode cX4_isBreakers 21 = .ok (.iconst 0, 1) := by decide +kernel
theorem dX4_isBreakers_22 : decode cX4_isBreakers 22 = .ok (.ireturn, 1) := by decide +kernel
theorem dX4_value_0 : decode cX4_value 0 = .ok (.iload_n 1, 1) := by decide +kernel
theorem dX4_value_1 : decode cX4_value 1 = .ok (.ifCond .lt 9, 3) := by decide +kernel
theorem dX4_value_4 : decode cX4_value 4 = .ok (.iload_n 1, 1) := by decide +kernel
theorem dX4_value_5 : decode cX4_value 5 = .ok (.bipush 6, 2) := by decide +kernel
theorem dX4_value_7 : decode cX4_value 7 = .ok (.if_icmp .le 13, 3) := by decide +kernel
theorem dX4_value_10 : decode cX4_value 10 = .ok (.new 71, 3) := by decide +kernel
theorem dX4_value_13 : decode cX4_value 13 = .ok (.dup, 1) := by decide +kernel
theorem dX4_value_14 : decode cX4_value 14 = .ok (.ldc 125, 2) := by decide +kernel
theorem dX4_value_16 : decode cX4_value 16 = .ok (.invokespecial 75, 3) := by decide +kernel
theorem dX4_value_19 : decode cX4_value 19 = .ok (.athrow, 1) := by decide +kernel
theorem dX4_value_20 : decode cX4_value 20 = .ok (.iload_n 1, 1) := by decide +kernel
theorem dX4_value_21 : decode cX4_value 21 = .ok (.tableswitch 93 0 5 #[39, 47, 58, 66, 77, 85], 39) := by decide +kernel
theorem dX4_value_60 : decode cX4_value 60 = .ok (.aload_n 0, 1) := by decide +kernel
theorem dX4_value_61 : decode cX4_value 61 = .ok (.getfield 10, 3) := by decide +kernel
theorem dX4_value_64 : decode cX4_value 64 = .ok (.getfield 37, 3) := by decide +kernel
theorem dX4_value_67 : decode cX4_value 67 = .ok (.ireturn, 1) := by decide +kernel
theorem dX4_value_68 : decode cX4_value 68 = .ok (.aload_n 0, 1) := by decide +kernel
theorem dX4_value_69 : decode cX4_value 69 = .ok (.getfield 10, 3) := by decide +kernel
theorem dX4_value_72 : decode cX4_value 72 = .ok (.getfield 143, 3) := by decide +kernel
theorem dX4_value_75 : decode cX4_value 75 = .ok (.invokestatic 106, 3) := by decide +kernel
theorem dX4_value_78 : decode cX4_value 78 = .ok (.ireturn, 1) := by decide +kernel
theorem dX4_value_79 : decode cX4_value 79 = .ok (.aload_n 0, 1) := by decide +kernel
theorem dX4_value_80 : decode cX4_value 80 = .ok (.getfield 10, 3) := by decide +kernel
theorem dX4_value_83 : decode cX4_value 83 = .ok (.getfield 76, 3) := by decide +kernel
theorem dX4_value_86 : decode cX4_value 86 = .ok (.ireturn, 1) := by decide +kernel
theorem dX4_value_87 : decode cX4_value 87 = .ok (.aload_n 0, 1) := by decide +kernel
theorem dX4_value_88 : decode cX4_value 88 = .ok (.getfield 10, 3) := by decide +kernel
theorem dX4_value_91 : decode cX4_value 91 = .ok (.getfield 103, 3) := by decide +kernel
theorem dX4_value_94 : decode cX4_value 94 = .ok (.invokestatic 106, 3) := by decide +kernel
theorem dX4_value_97 : decode cX4_value 97 = .ok (.ireturn, 1) := by decide +kernel
theorem dX4_value_98 : decode cX4_value 98 = .ok (.aload_n 0, 1) := by decide +kernel
theorem dX4_value_99 : decode cX4_value 99 = .ok (.getfield 10, 3) := by decide +kernel
theorem dX4_value_102 : decode cX4_value 102 = .ok (.getfield 103, 3) := by decide +kernel
theorem dX4_value_105 : decode cX4_value 105 = .ok (.ireturn, 1) := by decide +kernel
theorem dX4_value_106 : decode cX4_value 106 = .ok (.aload_n 0, 1) := by decide +kernel
theorem dX4_value_107 : decode cX4_value 107 = .ok (.getfield 10, 3) := by decide +kernel
theorem dX4_value_110 : decode cX4_value 110 = .ok (.getfield 146, 3) := by decide +kernel
theorem dX4_value_113 : decode cX4_value 113 = .ok (.ireturn, 1) := by decide +kernel
theorem dX4_value_114 : decode cX4_value 114 = .ok (.aload_n 0, 1) := by decide +kernel
theorem dX4_value_115 : decode cX4_value 115 = .ok (.getfield 10, 3) := by decide +kernel
theorem dX4_value_118 : decode cX4_value 118 = .ok (.invokevirtual 116, 3) := by decide +kernel
theorem dX4_value_121 : decode cX4_value 121 = .ok (.ireturn, 1) := by decide +kernel
theorem dX4_winner_0 : decode cX4_winner 0 = .ok (.aload_n 0, 1) := by decide +kernel
theorem dX4_winner_1 : decode cX4_winner 1 = .ok (.getfield 26, 3) := by decide +kernel
theorem dX4_winner_4 : decode cX4_winner 4 = .ok (.aload_n 0, 1) := by decide +kernel
theorem dX4_winner_5 : decode cX4_winner 5 = .ok (.getfield 10, 3) := by decide +kernel
theorem dX4_winner_8 : decode cX4_winner 8 = .ok (.invokevirtual 149, 3) := by decide +kernel
theorem dX4_winner_11 : decode cX4_winner 11 = .ok (.aload_n 0, 1) := by decide +kernel
theorem dX4_winner_12 : decode cX4_winner 12 = .ok (.iconst 0, 1) := by decide +kernel
theorem dX4_winner_13 : decode cX4_winner 13 = .ok (.iconst 0, 1) := by decide +kernel
theorem dX4_winner_14 : decode cX4_winner 14 = .ok (.invokevirtual 152, 3) := by decide +kernel
theorem dX4_winner_17 : decode cX4_winner 17 = .ok (.ireturn, 1) := by decide +kernel
theorem dX4_winnerAt_0 : decode cX4_winnerAt 0 = .ok (.aload_n 0, 1) := by decide +kernel
theorem dX4_winnerAt_1 : decode cX4_winnerAt 1 = .ok (.iload_n 1, 1) := by decide +kernel
theorem dX4_winnerAt_2 : decode cX4_winnerAt 2 = .ok (.invokevirtual 119, 3) := by decide +kernel
theorem dX4_winnerAt_5 : decode cX4_winnerAt 5 = .ok (.aload_n 0, 1) := by decide +kernel
theorem dX4_winnerAt_6 : decode cX4_winnerAt 6 = .ok (.iload_n 1, 1) := by decide +kernel
theorem dX4_winnerAt_7 : decode cX4_winnerAt 7 = .ok (.iload_n 2, 1) := by decide +kernel
theorem dX4_winnerAt_8 : decode cX4_winnerAt 8 = .ok (.invokevirtual 156, 3) := by decide +kernel
theorem dX4_winnerAt_11 : decode cX4_winnerAt 11 = .ok (.aload_n 0, 1) := by decide +kernel
theorem dX4_winnerAt_12 : decode cX4_winnerAt 12 = .ok (.getfield 26, 3) := by decide +kernel
theorem dX4_winnerAt_15 : decode cX4_winnerAt 15 = .ok (.aload_n 0, 1) := by decide +kernel
theorem dX4_winnerAt_16 : decode cX4_winnerAt 16 = .ok (.getfield 10, 3) := by decide +kernel
theorem dX4_winnerAt_19 : decode cX4_winnerAt 19 = .ok (.invokevirtual 149, 3) := by decide +kernel
theorem dX4_winnerAt_22 : decode cX4_winnerAt 22 = .ok (.aload_n 0, 1) := by decide +kernel
theorem dX4_winnerAt_23 : decode cX4_winnerAt 23 = .ok (.iload_n 1, 1) := by decide +kernel
theorem dX4_winnerAt_24 : decode cX4_winnerAt 24 = .ok (.iload_n 2, 1) := by decide +kernel
theorem dX4_winnerAt_25 : decode cX4_winnerAt 25 = .ok (.invokevirtual 152, 3) := by decide +kernel
theorem dX4_winnerAt_28 : decode cX4_winnerAt 28 = .ok (.ireturn, 1) := by decide +kernel
theorem dX4_move_0 : decode cX4_move 0 = .ok (.aload_n 0, 1) := by decide +kernel
theorem dX4_move_1 : decode cX4_move 1 = .ok (.iload_n 1, 1) := by decide +kernel
theorem dX4_move_2 : decode cX4_move 2 = .ok (.invokevirtual 119, 3) := by decide +kernel
theorem dX4_move_5 : decode cX4_move 5 = .ok (.aload_n 0, 1) := by decide +kernel
theorem dX4_move_6 : decode cX4_move 6 = .ok (.iload_n 1, 1) := by decide +kernel
theorem dX4_move_7 : decode cX4_move 7 = .ok (.iload_n 2, 1) := by decide +kernel
theorem dX4_move_8 : decode cX4_move 8 = .ok (.invokevirtual 156, 3) := by decide +kernel
theorem dX4_move_11 : decode cX4_move 11 = .ok (.aload_n 0, 1) := by decide +kernel
theorem dX4_move_12 : decode cX4_move 12 = .ok (.getfield 26, 3) := by decide +kernel
theorem dX4_move_15 : decode cX4_move 15 = .ok (.aload_n 0, 1) := by decide +kernel
theorem dX4_move_16 : decode cX4_move 16 = .ok (.getfield 10, 3) := by decide +kernel
theorem dX4_move_19 : decode cX4_move 19 = .ok (.invokevirtual 149, 3) := by decide +kernel
theorem dX4_move_22 : decode cX4_move 22 = .ok (.aload_n 0, 1) := by decide +kernel
theorem dX4_move_23 : decode cX4_move 23 = .ok (.getfield 10, 3) := by decide +kernel
theorem dX4_move_26 : decode cX4_move 26 = .ok (.iload_n 1, 1) := by decide +kernel
theorem dX4_move_27 : decode cX4_move 27 = .ok (.invokevirtual 122, 3) := by decide +kernel
theorem dX4_move_30 : decode cX4_move 30 = .ok (.istore_n 3, 1) := by decide +kernel
theorem dX4_move_31 : decode cX4_move 31 = .ok (.aload_n 0, 1) := by decide +kernel
theorem dX4_move_32 : decode cX4_move 32 = .ok (.iload_n 1, 1) := by decide +kernel
theorem dX4_move_33 : decode cX4_move 33 = .ok (.iconst 1, 1) := by decide +kernel
theorem dX4_move_34 : decode cX4_move 34 = .ok (.iadd, 1) := by decide +kernel
theorem dX4_move_35 : decode cX4_move 35 = .ok (.iload_n 2, 1) := by decide +kernel
theorem dX4_move_36 : decode cX4_move 36 = .ok (.invokevirtual 152, 3) := by decide +kernel
theorem dX4_move_39 : decode cX4_move 39 = .ok (.iload_n 3, 1) := by decide +kernel
theorem dX4_move_40 : decode cX4_move 40 = .ok (.if_icmp .ne 5, 3) := by decide +kernel
theorem dX4_move_43 : decode cX4_move 43 = .ok (.iconst 0, 1) := by decide +kernel
theorem dX4_move_44 : decode cX4_move 44 = .ok (.ireturn, 1) := by decide +kernel
theorem dX4_move_45 : decode cX4_move 45 = .ok (.aload_n 0, 1) := by decide +kernel
theorem dX4_move_46 : decode cX4_move 46 = .ok (.iload_n 1, 1) := by decide +kernel
theorem dX4_move_47 : decode cX4_move 47 = .ok (.iconst 1, 1) := by decide +kernel
theorem dX4_move_48 : decode cX4_move 48 = .ok (.iadd, 1) := by decide +kernel
theorem dX4_move_49 : decode cX4_move 49 = .ok (.iload_n 2, 1) := by decide +kernel
theorem dX4_move_50 : decode cX4_move 50 = .ok (.iconst 1, 1) := by decide +kernel
theorem dX4_move_51 : decode cX4_move 51 = .ok (.iload_n 1, 1) := by decide +kernel
theorem dX4_move_52 : decode cX4_move 52 = .ok (.ishl, 1) := by decide +kernel
theorem dX4_move_53 : decode cX4_move 53 = .ok (.ior, 1) := by decide +kernel
theorem dX4_move_54 : decode cX4_move 54 = .ok (.invokevirtual 152, 3) := by decide +kernel
theorem dX4_move_57 : decode cX4_move 57 = .ok (.iload_n 3, 1) := by decide +kernel
theorem dX4_move_58 : decode cX4_move 58 = .ok (.if_icmp .ne 5, 3) := by decide +kernel
theorem dX4_move_61 : decode cX4_move 61 = .ok (.iconst 1, 1) := by decide +kernel
theorem dX4_move_62 : decode cX4_move 62 = .ok (.ireturn, 1) := by decide +kernel
theorem dX4_move_63 : decode cX4_move 63 = .ok (.iconst (-1), 1) := by decide +kernel
theorem dX4_move_64 : decode cX4_move 64 = .ok (.ireturn, 1) := by decide +kernel
theorem dX4_ways_0 : decode cX4_ways 0 = .ok (.aload_n 0, 1) := by decide +kernel
theorem dX4_ways_1 : decode cX4_ways 1 = .ok (.iload_n 1, 1) := by decide +kernel
theorem dX4_ways_2 : decode cX4_ways 2 = .ok (.invokevirtual 95, 3) := by decide +kernel
theorem dX4_ways_5 : decode cX4_ways 5 = .ok (.iconst 0, 1) := by decide +kernel
theorem dX4_ways_6 : decode cX4_ways 6 = .ok (.istore_n 2, 1) := by decide +kernel
theorem dX4_ways_7 : decode cX4_ways 7 = .ok (.iconst 1, 1) := by decide +kernel
theorem dX4_ways_8 : decode cX4_ways 8 = .ok (.aload_n 0, 1) := by decide +kernel
theorem dX4_ways_9 : decode cX4_ways 9 = .ok (.getfield 10, 3) := by decide +kernel
theorem dX4_ways_12 : decode cX4_ways 12 = .ok (.getfield 37, 3) := by decide +kernel
theorem dX4_ways_15 : decode cX4_ways 15 = .ok (.ishl, 1) := by decide +kernel
theorem dX4_ways_16 : decode cX4_ways 16 = .ok (.istore_n 3, 1) := by decide +kernel
theorem dX4_ways_17 : decode cX4_ways 17 = .ok (.iconst 0, 1) := by decide +kernel
theorem dX4_ways_18 : decode cX4_ways 18 = .ok (.istore 4, 2) := by decide +kernel
theorem dX4_ways_20 : decode cX4_ways 20 = .ok (.iload 4, 2) := by decide +kernel
theorem dX4_ways_22 : decode cX4_ways 22 = .ok (.iload_n 3, 1) := by decide +kernel
theorem dX4_ways_23 : decode cX4_ways 23 = .ok (.if_icmp .ge 37, 3) := by decide +kernel
theorem dX4_ways_26 : decode cX4_ways 26 = .ok (.aload_n 0, 1) := by decide +kernel
theorem dX4_ways_27 : decode cX4_ways 27 = .ok (.getfield 10, 3) := by decide +kernel
theorem dX4_ways_30 : decode cX4_ways 30 = .ok (.iload 4, 2) := by decide +kernel
theorem dX4_ways_32 : decode cX4_ways 32 = .ok (.invokevirtual 159, 3) := by decide +kernel
theorem dX4_ways_35 : decode cX4_ways 35 = .ok (.iload_n 1, 1) := by decide +kernel
theorem dX4_ways_36 : decode cX4_ways 36 = .ok (.if_icmp .ne 18, 3) := by decide +kernel
theorem dX4_ways_39 : decode cX4_ways 39 = .ok (.aload_n 0, 1) := by decide +kernel
theorem dX4_ways_40 : decode cX4_ways 40 = .ok (.getfield 10, 3) := by decide +kernel
theorem dX4_ways_43 : decode cX4_ways 43 = .ok (.iload 4, 2) := by decide +kernel
theorem dX4_ways_45 : decode cX4_ways 45 = .ok (.invokevirtual 140, 3) := by decide +kernel
theorem dX4_ways_48 : decode cX4_ways 48 = .ok (.ifCond .eq 6, 3) := by decide +kernel
theorem dX4_ways_51 : decode cX4_ways 51 = .ok (.iinc 2 1, 3) := by decide +kernel
theorem dX4_ways_54 : decode cX4_ways 54 = .ok (.iinc 4 1, 3) := by decide +kernel
theorem dX4_ways_57 : decode cX4_ways 57 = .ok (.goto (-37), 3) := by decide +kernel
theorem dX4_ways_60 : decode cX4_ways 60 = .ok (.iload_n 2, 1) := by decide +kernel
theorem dX4_ways_61 : decode cX4_ways 61 = .ok (.ireturn, 1) := by decide +kernel
theorem dX4_beats_0 : decode cX4_beats 0 = .ok (.iload_n 1, 1) := by decide +kernel
theorem dX4_beats_1 : decode cX4_beats 1 = .ok (.ifCond .lt 14, 3) := by decide +kernel
theorem dX4_beats_4 : decode cX4_beats 4 = .ok (.iload_n 1, 1) := by decide +kernel
theorem dX4_beats_5 : decode cX4_beats 5 = .ok (.aload_n 0, 1) := by decide +kernel
theorem dX4_beats_6 : decode cX4_beats 6 = .ok (.getfield 10, 3) := by decide +kernel
theorem dX4_beats_9 : decode cX4_beats 9 = .ok (.invokevirtual 162, 3) := by decide +kernel
theorem dX4_beats_12 : decode cX4_beats 12 = .ok (.if_icmp .le 13, 3) := by decide +kernel
theorem dX4_beats_15 : decode cX4_beats 15 = .ok (.new 71, 3) := by decide +kernel
theorem dX4_beats_18 : decode cX4_beats 18 = .ok (.dup, 1) := by decide +kernel
theorem dX4_beats_19 : decode cX4_beats 19 = .ok (.ldc 165, 2) := by decide +kernel
theorem dX4_beats_21 : decode cX4_beats 21 = .ok (.invokespecial 75, 3) := by decide +kernel
theorem dX4_beats_24 : decode cX4_beats 24 = .ok (.athrow, 1) := by decide +kernel
theorem dX4_beats_25 : decode cX4_beats 25 = .ok (.aload_n 0, 1) := by decide +kernel
theorem dX4_beats_26 : decode cX4_beats 26 = .ok (.getfield 26, 3) := by decide +kernel
theorem dX4_beats_29 : decode cX4_beats 29 = .ok (.aload_n 0, 1) := by decide +kernel
theorem dX4_beats_30 : decode cX4_beats 30 = .ok (.getfield 10, 3) := by decide +kernel
theorem dX4_beats_33 : decode cX4_beats 33 = .ok (.invokevirtual 149, 3) := by decide +kernel
theorem dX4_beats_36 : decode cX4_beats 36 = .ok (.aload_n 0, 1) := by decide +kernel
theorem dX4_beats_37 : decode cX4_beats 37 = .ok (.getfield 26, 3) := by decide +kernel
theorem dX4_beats_40 : decode cX4_beats 40 = .ok (.iconst 0, 1) := by decide +kernel
theorem dX4_beats_41 : decode cX4_beats 41 = .ok (.iconst 0, 1) := by decide +kernel
theorem dX4_beats_42 : decode cX4_beats 42 = .ok (.iload_n 1, 1) := by decide +kernel
theorem dX4_beats_43 : decode cX4_beats 43 = .ok (.invokevirtual 167, 3) := by decide +kernel
theorem dX4_beats_46 : decode cX4_beats 46 = .ok (.ireturn, 1) := by decide +kernel
theorem dX4_copies_0 : decode cX4_copies 0 = .ok (.iconst 0, 1) := by decide +kernel
theorem dX4_copies_1 : decode cX4_copies 1 = .ok (.istore_n 1, 1) := by decide +kernel
theorem dX4_copies_2 : decode cX4_copies 2 = .ok (.iconst 0, 1) := by decide +kernel
theorem dX4_copies_3 : decode cX4_copies 3 = .ok (.istore_n 2, 1) := by decide +kernel
theorem dX4_copies_4 : decode cX4_copies 4 = .ok (.iconst 0, 1) := by decide +kernel
theorem dX4_copies_5 : decode cX4_copies 5 = .ok (.istore_n 3, 1) := by decide +kernel
theorem dX4_copies_6 : decode cX4_copies 6 = .ok (.iload_n 3, 1) := by decide +kernel
theorem dX4_copies_7 : decode cX4_copies 7 = .ok (.aload_n 0, 1) := by decide +kernel
theorem dX4_copies_8 : decode cX4_copies 8 = .ok (.getfield 10, 3) := by decide +kernel
theorem dX4_copies_11 : decode cX4_copies 11 = .ok (.getfield 37, 3) := by decide +kernel
theorem dX4_copies_14 : decode cX4_copies 14 = .ok (.if_icmp .ge 35, 3) := by decide +kernel
theorem dX4_copies_17 : decode cX4_copies 17 = .ok (.aload_n 0, 1) := by decide +kernel
theorem dX4_copies_18 : decode cX4_copies 18 = .ok (.getfield 10, 3) := by decide +kernel
theorem dX4_copies_21 : decode cX4_copies 21 = .ok (.iload_n 3, 1) := by decide +kernel
theorem dX4_copies_22 : decode cX4_copies 22 = .ok (.invokevirtual 122, 3) := by decide +kernel
theorem dX4_copies_25 : decode cX4_copies 25 = .ok (.iconst 1, 1) := by decide +kernel
theorem dX4_copies_26 : decode cX4_copies 26 = .ok (.if_icmp .ne 9, 3) := by decide +kernel
theorem dX4_copies_29 : decode cX4_copies 29 = .ok (.iinc 2 1, 3) := by decide +kernel
theorem dX4_copies_32 : decode cX4_copies 32 = .ok (.goto 11, 3) := by decide +kernel
theorem dX4_copies_35 : decode cX4_copies 35 = .ok (.iload_n 1, 1) := by decide +kernel
theorem dX4_copies_36 : decode cX4_copies 36 = .ok (.aload_n 0, 1) := by decide +kernel
theorem dX4_copies_37 : decode cX4_copies 37 = .ok (.iload_n 2, 1) := by decide +kernel
theorem dX4_copies_38 : decode cX4_copies 38 = .ok (.invokevirtual 179, 3) := by decide +kernel
theorem dX4_copies_41 : decode cX4_copies 41 = .ok (.iadd, 1) := by decide +kernel
theorem dX4_copies_42 : decode cX4_copies 42 = .ok (.istore_n 1, 1) := by decide +kernel
theorem dX4_copies_43 : decode cX4_copies 43 = .ok (.iinc 3 1, 3) := by decide +kernel
theorem dX4_copies_46 : decode cX4_copies 46 = .ok (.goto (-40), 3) := by decide +kernel
theorem dX4_copies_49 : decode cX4_copies 49 = .ok (.iload_n 1, 1) := by decide +kernel
theorem dX4_copies_50 : decode cX4_copies 50 = .ok (.ireturn, 1) := by decide +kernel
theorem dX4_leastProof_0 : decode cX4_leastProof 0 = .ok (.aload_n 0, 1) := by decide +kernel
theorem dX4_leastProof_1 : decode cX4_leastProof 1 = .ok (.invokevirtual 182, 3) := by decide +kernel
theorem dX4_leastProof_4 : decode cX4_leastProof 4 = .ok (.istore_n 1, 1) := by decide +kernel
theorem dX4_leastProof_5 : decode cX4_leastProof 5 = .ok (.iload_n 1, 1) := by decide +kernel
theorem dX4_leastProof_6 : decode cX4_leastProof 6 = .ok (.iconst (-1), 1) := by decide +kernel
theorem dX4_leastProof_7 : decode cX4_leastProof 7 = .ok (.if_icmp .ne 7, 3) := by decide +kernel
theorem dX4_leastProof_10 : decode cX4_leastProof 10 = .ok (.iconst (-1), 1) := by decide +kernel
theorem dX4_leastProof_11 : decode cX4_leastProof 11 = .ok (.goto 7, 3) := by decide +kernel
theorem dX4_leastProof_14 : decode cX4_leastProof 14 = .ok (.iload_n 1, 1) := by decide +kernel
theorem dX4_leastProof_15 : decode cX4_leastProof 15 = .ok (.invokestatic 106, 3) := by decide +kernel
theorem dX4_leastProof_18 : decode cX4_leastProof 18 = .ok (.ireturn, 1) := by decide +kernel
theorem dX4_undo_0 : decode cX4_undo 0 = .ok (.aload_n 0, 1) := by decide +kernel
theorem dX4_undo_1 : decode cX4_undo 1 = .ok (.getfield 19, 3) := by decide +kernel
theorem dX4_undo_4 : decode cX4_undo 4 = .ok (.getfield 208, 3) := by decide +kernel
theorem dX4_undo_7 : decode cX4_undo 7 = .ok (.ifCond .ne 13, 3) := by decide +kernel
theorem dX4_undo_10 : decode cX4_undo 10 = .ok (.new 56, 3) := by decide +kernel
theorem dX4_undo_13 : decode cX4_undo 13 = .ok (.dup, 1) := by decide +kernel
theorem dX4_undo_14 : decode cX4_undo 14 = .ok (.ldc 211, 2) := by decide +kernel
theorem dX4_undo_16 : decode cX4_undo 16 = .ok (.invokespecial 60, 3) := by decide +kernel
theorem dX4_undo_19 : decode cX4_undo 19 = .ok (.athrow, 1) := by decide +kernel
theorem dX4_undo_20 : decode cX4_undo 20 = .ok (.aload_n 0, 1) := by decide +kernel
theorem dX4_undo_21 : decode cX4_undo 21 = .ok (.getfield 19, 3) := by decide +kernel
theorem dX4_undo_24 : decode cX4_undo 24 = .ok (.aload_n 0, 1) := by decide +kernel
theorem dX4_undo_25 : decode cX4_undo 25 = .ok (.getfield 10, 3) := by decide +kernel
theorem dX4_undo_28 : decode cX4_undo 28 = .ok (.invokevirtual 213, 3) := by decide +kernel
theorem dX4_undo_31 : decode cX4_undo 31 = .ok (.aload_n 0, 1) := by decide +kernel
theorem dX4_undo_32 : decode cX4_undo 32 = .ok (.getfield 26, 3) := by decide +kernel
theorem dX4_undo_35 : decode cX4_undo 35 = .ok (.iconst 1, 1) := by decide +kernel
theorem dX4_undo_36 : decode cX4_undo 36 = .ok (.putfield 48, 3) := by decide +kernel
theorem dX4_undo_39 : decode cX4_undo 39 = .ok (.aload_n 0, 1) := by decide +kernel
theorem dX4_undo_40 : decode cX4_undo 40 = .ok (.getfield 19, 3) := by decide +kernel
theorem dX4_undo_43 : decode cX4_undo 43 = .ok (.getfield 208, 3) := by decide +kernel
theorem dX4_undo_46 : decode cX4_undo 46 = .ok (.ireturn, 1) := by decide +kernel
theorem dX4_requireVariable_0 : decode cX4_requireVariable 0 = .ok (.iload_n 1, 1) := by decide +kernel
theorem dX4_requireVariable_1 : decode cX4_requireVariable 1 = .ok (.ifCond .lt 14, 3) := by decide +kernel
theorem dX4_requireVariable_4 : decode cX4_requireVariable 4 = .ok (.iload_n 1, 1) := by decide +kernel
theorem dX4_requireVariable_5 : decode cX4_requireVariable 5 = .ok (.aload_n 0, 1) := by decide +kernel
theorem dX4_requireVariable_6 : decode cX4_requireVariable 6 = .ok (.getfield 10, 3) := by decide +kernel
theorem dX4_requireVariable_9 : decode cX4_requireVariable 9 = .ok (.getfield 37, 3) := by decide +kernel
theorem dX4_requireVariable_12 : decode cX4_requireVariable 12 = .ok (.if_icmp .lt 13, 3) := by decide +kernel
theorem dX4_requireVariable_15 : decode cX4_requireVariable 15 = .ok (.new 232, 3) := by decide +kernel
theorem dX4_requireVariable_18 : decode cX4_requireVariable 18 = .ok (.dup, 1) := by decide +kernel
theorem dX4_requireVariable_19 : decode cX4_requireVariable 19 = .ok (.ldc 234, 2) := by decide +kernel
theorem dX4_requireVariable_21 : decode cX4_requireVariable 21 = .ok (.invokespecial 236, 3) := by decide +kernel
theorem dX4_requireVariable_24 : decode cX4_requireVariable 24 = .ok (.athrow, 1) := by decide +kernel
theorem dX4_requireVariable_25 : decode cX4_requireVariable 25 = .ok (.return_, 1) := by decide +kernel
theorem dX4_requireClause_0 : decode cX4_requireClause 0 = .ok (.iload_n 1, 1) := by decide +kernel
theorem dX4_requireClause_1 : decode cX4_requireClause 1 = .ok (.ifCond .lt 14, 3) := by decide +kernel
theorem dX4_requireClause_4 : decode cX4_requireClause 4 = .ok (.iload_n 1, 1) := by decide +kernel
theorem dX4_requireClause_5 : decode cX4_requireClause 5 = .ok (.aload_n 0, 1) := by decide +kernel
theorem dX4_requireClause_6 : decode cX4_requireClause 6 = .ok (.getfield 10, 3) := by decide +kernel
theorem dX4_requireClause_9 : decode cX4_requireClause 9 = .ok (.getfield 76, 3) := by decide +kernel
theorem dX4_requireClause_12 : decode cX4_requireClause 12 = .ok (.if_icmp .lt 13, 3) := by decide +kernel
theorem dX4_requireClause_15 : decode cX4_requireClause 15 = .ok (.new 232, 3) := by decide +kernel
theorem dX4_requireClause_18 : decode cX4_requireClause 18 = .ok (.dup, 1) := by decide +kernel
theorem dX4_requireClause_19 : decode cX4_requireClause 19 = .ok (.ldc 237, 2) := by decide +kernel
theorem dX4_requireClause_21 : decode cX4_requireClause 21 = .ok (.invokespecial 236, 3) := by decide +kernel
theorem dX4_requireClause_24 : decode cX4_requireClause 24 = .ok (.athrow, 1) := by decide +kernel
theorem dX4_requireClause_25 : decode cX4_requireClause 25 = .ok (.return_, 1) := by decide +kernel
theorem dX4_requirePlay_0 : decode cX4_requirePlay 0 = .ok (.aload_n 0, 1) := by decide +kernel
theorem dX4_requirePlay_1 : decode cX4_requirePlay 1 = .ok (.getfield 10, 3) := by decide +kernel
theorem dX4_requirePlay_4 : decode cX4_requirePlay 4 = .ok (.iload_n 1, 1) := by decide +kernel
theorem dX4_requirePlay_5 : decode cX4_requirePlay 5 = .ok (.invokevirtual 239, 3) := by decide +kernel
theorem dX4_requirePlay_8 : decode cX4_requirePlay 8 = .ok (.ifCond .ne 13, 3) := by decide +kernel
theorem dX4_requirePlay_11 : decode cX4_requirePlay 11 = .ok (.new 71, 3) := by decide +kernel
theorem dX4_requirePlay_14 : decode cX4_requirePlay 14 = .ok (.dup, 1) := by decide +kernel
theorem dX4_requirePlay_15 : decode cX4_requirePlay 15 = .ok (.ldc 242, 2) := by decide +kernel
theorem dX4_requirePlay_17 : decode cX4_requirePlay 17 = .ok (.invokespecial 75, 3) := by decide +kernel
theorem dX4_requirePlay_20 : decode cX4_requirePlay 20 = .ok (.athrow, 1) := by decide +kernel
theorem dX4_requirePlay_21 : decode cX4_requirePlay 21 = .ok (.return_, 1) := by decide +kernel
theorem dX4_requireHistory_0 : decode cX4_requireHistory 0 = .ok (.iload_n 2, 1) := by decide +kernel
theorem dX4_requireHistory_1 : decode cX4_requireHistory 1 = .ok (.ifCond .lt 9, 3) := by decide +kernel
theorem dX4_requireHistory_4 : decode cX4_requireHistory 4 = .ok (.iload_n 2, 1) := by decide +kernel
theorem dX4_requireHistory_5 : decode cX4_requireHistory 5 = .ok (.iload_n 1, 1) := by decide +kernel
theorem dX4_requireHistory_6 : decode cX4_requireHistory 6 = .ok (.ishr, 1) := by decide +kernel
theorem dX4_requireHistory_7 : decode cX4_requireHistory 7 = .ok (.ifCond .eq 13, 3) := by decide +kernel
theorem dX4_requireHistory_10 : decode cX4_requireHistory 10 = .ok (.new 71, 3) := by decide +kernel
theorem dX4_requireHistory_13 : decode cX4_requireHistory 13 = .ok (.dup, 1) := by decide +kernel
theorem dX4_requireHistory_14 : decode cX4_requireHistory 14 = .ok (.ldc 244, 2) := by decide +kernel
theorem dX4_requireHistory_16 : decode cX4_requireHistory 16 = .ok (.invokespecial 75, 3) := by decide +kernel
theorem dX4_requireHistory_19 : decode cX4_requireHistory 19 = .ok (.athrow, 1) := by decide +kernel
theorem dX4_requireHistory_20 : decode cX4_requireHistory 20 = .ok (.return_, 1) := by decide +kernel
theorem dX4_putVariable_0 : decode cX4_putVariable 0 = .ok (.aload_n 0, 1) := by decide +kernel
theorem dX4_putVariable_1 : decode cX4_putVariable 1 = .ok (.getfield 10, 3) := by decide +kernel
theorem dX4_putVariable_4 : decode cX4_putVariable 4 = .ok (.iload_n 1, 1) := by decide +kernel
theorem dX4_putVariable_5 : decode cX4_putVariable 5 = .ok (.invokevirtual 246, 3) := by decide +kernel
theorem dX4_putVariable_8 : decode cX4_putVariable 8 = .ok (.aload_n 0, 1) := by decide +kernel
theorem dX4_putVariable_9 : decode cX4_putVariable 9 = .ok (.invokevirtual 92, 3) := by decide +kernel
theorem dX4_putVariable_12 : decode cX4_putVariable 12 = .ok (.return_, 1) := by decide +kernel
theorem dX4_putClause_0 : decode cX4_putClause 0 = .ok (.aload_n 0, 1) := by decide +kernel
theorem dX4_putClause_1 : decode cX4_putClause 1 = .ok (.getfield 10, 3) := by decide +kernel
theorem dX4_putClause_4 : decode cX4_putClause 4 = .ok (.iload_n 1, 1) := by decide +kernel
theorem dX4_putClause_5 : decode cX4_putClause 5 = .ok (.iload_n 2, 1) := by decide +kernel
theorem dX4_putClause_6 : decode cX4_putClause 6 = .ok (.invokevirtual 247, 3) := by decide +kernel
theorem dX4_putClause_9 : decode cX4_putClause 9 = .ok (.aload_n 0, 1) := by decide +kernel
theorem dX4_putClause_10 : decode cX4_putClause 10 = .ok (.invokevirtual 92, 3) := by decide +kernel
theorem dX4_putClause_13 : decode cX4_putClause 13 = .ok (.return_, 1) := by decide +kernel
theorem dX4_formulaChanged_0 : decode cX4_formulaChanged 0 = .ok (.aload_n 0, 1) := by decide +kernel
theorem dX4_formulaChanged_1 : decode cX4_formulaChanged 1 = .ok (.getfield 10, 3) := by decide +kernel
theorem dX4_formulaChanged_4 : decode cX4_formulaChanged 4 = .ok (.iconst 0, 1) := by decide +kernel
theorem dX4_formulaChanged_5 : decode cX4_formulaChanged 5 = .ok (.putfield 103, 3) := by decide +kernel
theorem dX4_formulaChanged_8 : decode cX4_formulaChanged 8 = .ok (.aload_n 0, 1) := by decide +kernel
theorem dX4_formulaChanged_9 : decode cX4_formulaChanged 9 = .ok (.getfield 26, 3) := by decide +kernel
theorem dX4_formulaChanged_12 : decode cX4_formulaChanged 12 = .ok (.iconst 1, 1) := by decide +kernel
theorem dX4_formulaChanged_13 : decode cX4_formulaChanged 13 = .ok (.putfield 48, 3) := by decide +kernel
theorem dX4_formulaChanged_16 : decode cX4_formulaChanged 16 = .ok (.return_, 1) := by decide +kernel
theorem dX4_makeRound_0 : decode cX4_makeRound 0 = .ok (.aload_n 0, 1) := by decide +kernel
theorem dX4_makeRound_1 : decode cX4_makeRound 1 = .ok (.getfield 26, 3) := by decide +kernel
theorem dX4_makeRound_4 : decode cX4_makeRound 4 = .ok (.aload_n 0, 1) := by decide +kernel
theorem dX4_makeRound_5 : decode cX4_makeRound 5 = .ok (.getfield 10, 3) := by decide +kernel
theorem dX4_makeRound_8 : decode cX4_makeRound 8 = .ok (.invokevirtual 149, 3) := by decide +kernel
theorem dX4_makeRound_11 : decode cX4_makeRound 11 = .ok (.aload_n 0, 1) := by decide +kernel
theorem dX4_makeRound_12 : decode cX4_makeRound 12 = .ok (.getfield 10, 3) := by decide +kernel
theorem dX4_makeRound_15 : decode cX4_makeRound 15 = .ok (.dup, 1) := by decide +kernel
theorem dX4_makeRound_16 : decode cX4_makeRound 16 = .ok (.getfield 146, 3) := by decide +kernel
theorem dX4_makeRound_19 : decode cX4_makeRound 19 = .ok (.iconst 1, 1) := by decide +kernel
theorem dX4_makeRound_20 : decode cX4_makeRound 20 = .ok (.iadd, 1) := by decide +kernel
theorem dX4_makeRound_21 : decode cX4_makeRound 21 = .ok (.putfield 146, 3) := by decide +kernel
theorem dX4_makeRound_24 : decode cX4_makeRound 24 = .ok (.aload_n 0, 1) := by decide +kernel
theorem dX4_makeRound_25 : decode cX4_makeRound 25 = .ok (.getfield 26, 3) := by decide +kernel
theorem dX4_makeRound_28 : decode cX4_makeRound 28 = .ok (.iconst 0, 1) := by decide +kernel
theorem dX4_makeRound_29 : decode cX4_makeRound 29 = .ok (.iconst 0, 1) := by decide +kernel
theorem dX4_makeRound_30 : decode cX4_makeRound 30 = .ok (.aload_n 0, 1) := by decide +kernel
theorem dX4_makeRound_31 : decode cX4_makeRound 31 = .ok (.getfield 10, 3) := by decide +kernel
theorem dX4_makeRound_34 : decode cX4_makeRound 34 = .ok (.getfield 103, 3) := by decide +kernel
theorem dX4_makeRound_37 : decode cX4_makeRound 37 = .ok (.invokevirtual 167, 3) := by decide +kernel
theorem dX4_makeRound_40 : decode cX4_makeRound 40 = .ok (.ifCond .ne 5, 3) := by decide +kernel
theorem dX4_makeRound_43 : decode cX4_makeRound 43 = .ok (.iconst (-1), 1) := by decide +kernel
theorem dX4_makeRound_44 : decode cX4_makeRound 44 = .ok (.ireturn, 1) := by decide +kernel
theorem dX4_makeRound_45 : decode cX4_makeRound 45 = .ok (.aload_n 0, 1) := by decide +kernel
theorem dX4_makeRound_46 : decode cX4_makeRound 46 = .ok (.getfield 10, 3) := by decide +kernel
theorem dX4_makeRound_49 : decode cX4_makeRound 49 = .ok (.invokevirtual 116, 3) := by decide +kernel
theorem dX4_makeRound_52 : decode cX4_makeRound 52 = .ok (.istore_n 1, 1) := by decide +kernel
theorem dX4_makeRound_53 : decode cX4_makeRound 53 = .ok (.iconst 0, 1) := by decide +kernel
theorem dX4_makeRound_54 : decode cX4_makeRound 54 = .ok (.istore_n 2, 1) := by decide +kernel
theorem dX4_makeRound_55 : decode cX4_makeRound 55 = .ok (.iload_n 2, 1) := by decide +kernel
theorem dX4_makeRound_56 : decode cX4_makeRound 56 = .ok (.iload_n 1, 1) := by decide +kernel
theorem dX4_makeRound_57 : decode cX4_makeRound 57 = .ok (.if_icmp .ge 41, 3) := by decide +kernel
theorem dX4_makeRound_60 : decode cX4_makeRound 60 = .ok (.aload_n 0, 1) := by decide +kernel
theorem dX4_makeRound_61 : decode cX4_makeRound 61 = .ok (.getfield 10, 3) := by decide +kernel
theorem dX4_makeRound_64 : decode cX4_makeRound 64 = .ok (.aload_n 0, 1) := by decide +kernel
theorem dX4_makeRound_65 : decode cX4_makeRound 65 = .ok (.iload_n 2, 1) := by decide +kernel
theorem dX4_makeRound_66 : decode cX4_makeRound 66 = .ok (.invokevirtual 173, 3) := by decide +kernel
theorem dX4_makeRound_69 : decode cX4_makeRound 69 = .ok (.invokevirtual 140, 3) := by decide +kernel
theorem dX4_makeRound_72 : decode cX4_makeRound 72 = .ok (.ifCond .ne 20, 3) := by decide +kernel
theorem dX4_makeRound_75 : decode cX4_makeRound 75 = .ok (.aload_n 0, 1) := by decide +kernel
theorem dX4_makeRound_76 : decode cX4_makeRound 76 = .ok (.getfield 10, 3) := by decide +kernel
theorem dX4_makeRound_79 : decode cX4_makeRound 79 = .ok (.dup, 1) := by decide +kernel
theorem dX4_makeRound_80 : decode cX4_makeRound 80 = .ok (.getfield 103, 3) := by decide +kernel
theorem dX4_makeRound_83 : decode cX4_makeRound 83 = .ok (.iconst 1, 1) := by decide +kernel
theorem dX4_makeRound_84 : decode cX4_makeRound 84 = .ok (.iload_n 2, 1) := by decide +kernel
theorem dX4_makeRound_85 : decode cX4_makeRound 85 = .ok (.ishl, 1) := by decide +kernel
theorem dX4_makeRound_86 : decode cX4_makeRound 86 = .ok (.ior, 1) := by decide +kernel
theorem dX4_makeRound_87 : decode cX4_makeRound 87 = .ok (.putfield 103, 3) := by decide +kernel
theorem dX4_makeRound_90 : decode cX4_makeRound 90 = .ok (.iload_n 2, 1) := by decide +kernel
theorem dX4_makeRound_91 : decode cX4_makeRound 91 = .ok (.ireturn, 1) := by decide +kernel
theorem dX4_makeRound_92 : decode cX4_makeRound 92 = .ok (.iinc 2 1, 3) := by decide +kernel
theorem dX4_makeRound_95 : decode cX4_makeRound 95 = .ok (.goto (-40), 3) := by decide +kernel
theorem dX4_makeRound_98 : decode cX4_makeRound 98 = .ok (.bipush (-2), 2) := by decide +kernel
theorem dX4_makeRound_100 : decode cX4_makeRound 100 = .ok (.ireturn, 1) := by decide +kernel
theorem dX4_valuesAgainst_0 : decode cX4_valuesAgainst 0 = .ok (.iconst 0, 1) := by decide +kernel
theorem dX4_valuesAgainst_1 : decode cX4_valuesAgainst 1 = .ok (.istore_n 2, 1) := by decide +kernel
theorem dX4_valuesAgainst_2 : decode cX4_valuesAgainst 2 = .ok (.iconst 0, 1) := by decide +kernel
theorem dX4_valuesAgainst_3 : decode cX4_valuesAgainst 3 = .ok (.istore_n 3, 1) := by decide +kernel
theorem dX4_valuesAgainst_4 : decode cX4_valuesAgainst 4 = .ok (.iconst 0, 1) := by decide +kernel
theorem dX4_valuesAgainst_5 : decode cX4_valuesAgainst 5 = .ok (.istore 4, 2) := by decide +kernel
theorem dX4_valuesAgainst_7 : decode cX4_valuesAgainst 7 = .ok (.iload 4, 2) := by decide +kernel
theorem dX4_valuesAgainst_9 : decode cX4_valuesAgainst 9 = .ok (.aload_n 0, 1) := by decide +kernel
theorem dX4_valuesAgainst_10 : decode cX4_valuesAgainst 10 = .ok (.getfield 10, 3) := by decide +kernel
theorem dX4_valuesAgainst_13 : decode cX4_valuesAgainst 13 = .ok (.getfield 37, 3) := by decide +kernel
theorem dX4_valuesAgainst_16 : decode cX4_valuesAgainst 16 = .ok (.if_icmp .ge 72, 3) := by decide +kernel
theorem dX4_valuesAgainst_19 : decode cX4_valuesAgainst 19 = .ok (.aload_n 0, 1) := by decide +kernel
theorem dX4_valuesAgainst_20 : decode cX4_valuesAgainst 20 = .ok (.getfield 10, 3) := by decide +kernel
theorem dX4_valuesAgainst_23 : decode cX4_valuesAgainst 23 = .ok (.iload 4, 2) := by decide +kernel
theorem dX4_valuesAgainst_25 : decode cX4_valuesAgainst 25 = .ok (.invokevirtual 122, 3) := by decide +kernel
theorem dX4_valuesAgainst_28 : decode cX4_valuesAgainst 28 = .ok (.iconst 1, 1) := by decide +kernel
theorem dX4_valuesAgainst_29 : decode cX4_valuesAgainst 29 = .ok (.if_icmp .ne 16, 3) := by decide +kernel
theorem dX4_valuesAgainst_32 : decode cX4_valuesAgainst 32 = .ok (.iload_n 1, 1) := by decide +kernel
theorem dX4_valuesAgainst_33 : decode cX4_valuesAgainst 33 = .ok (.iload_n 3, 1) := by decide +kernel
theorem dX4_valuesAgainst_34 : decode cX4_valuesAgainst 34 = .ok (.invokestatic 176, 3) := by decide +kernel
theorem dX4_valuesAgainst_37 : decode cX4_valuesAgainst 37 = .ok (.istore 5, 2) := by decide +kernel
theorem dX4_valuesAgainst_39 : decode cX4_valuesAgainst 39 = .ok (.iinc 3 1, 3) := by decide +kernel
theorem dX4_valuesAgainst_42 : decode cX4_valuesAgainst 42 = .ok (.goto 32, 3) := by decide +kernel
theorem dX4_valuesAgainst_45 : decode cX4_valuesAgainst 45 = .ok (.aload_n 0, 1) := by decide +kernel
theorem dX4_valuesAgainst_46 : decode cX4_valuesAgainst 46 = .ok (.getfield 26, 3) := by decide +kernel
theorem dX4_valuesAgainst_49 : decode cX4_valuesAgainst 49 = .ok (.iload 4, 2) := by decide +kernel
theorem dX4_valuesAgainst_51 : decode cX4_valuesAgainst 51 = .ok (.iconst 1, 1) := by decide +kernel
theorem dX4_valuesAgainst_52 : decode cX4_valuesAgainst 52 = .ok (.iadd, 1) := by decide +kernel
theorem dX4_valuesAgainst_53 : decode cX4_valuesAgainst 53 = .ok (.iload_n 2, 1) := by decide +kernel
theorem dX4_valuesAgainst_54 : decode cX4_valuesAgainst 54 = .ok (.aload_n 0, 1) := by decide +kernel
theorem dX4_valuesAgainst_55 : decode cX4_valuesAgainst 55 = .ok (.getfield 10, 3) := by decide +kernel
theorem dX4_valuesAgainst_58 : decode cX4_valuesAgainst 58 = .ok (.getfield 103, 3) := by decide +kernel
theorem dX4_valuesAgainst_61 : decode cX4_valuesAgainst 61 = .ok (.invokevirtual 167, 3) := by decide +kernel
theorem dX4_valuesAgainst_64 : decode cX4_valuesAgainst 64 = .ok (.ifCond .eq 7, 3) := by decide +kernel
theorem dX4_valuesAgainst_67 : decode cX4_valuesAgainst 67 = .ok (.iconst 0, 1) := by decide +kernel
theorem dX4_valuesAgainst_68 : decode cX4_valuesAgainst 68 = .ok (.goto 4, 3) := by decide +kernel
theorem dX4_valuesAgainst_71 : decode cX4_valuesAgainst 71 = .ok (.iconst 1, 1) := by decide +kernel
theorem dX4_valuesAgainst_72 : decode cX4_valuesAgainst 72 = .ok (.istore 5, 2) := by decide +kernel
theorem dX4_valuesAgainst_74 : decode cX4_valuesAgainst 74 = .ok (.iload_n 2, 1) := by decide +kernel
theorem dX4_valuesAgainst_75 : decode cX4_valuesAgainst 75 = .ok (.iload 5, 2) := by decide +kernel
theorem dX4_valuesAgainst_77 : decode cX4_valuesAgainst 77 = .ok (.iload 4, 2) := by decide +kernel
theorem dX4_valuesAgainst_79 : decode cX4_valuesAgainst 79 = .ok (.ishl, 1) := by decide +kernel
theorem dX4_valuesAgainst_80 : decode cX4_valuesAgainst 80 = .ok (.ior, 1) := by decide +kernel
theorem dX4_valuesAgainst_81 : decode cX4_valuesAgainst 81 = .ok (.istore_n 2, 1) := by decide +kernel
theorem dX4_valuesAgainst_82 : decode cX4_valuesAgainst 82 = .ok (.iinc 4 1, 3) := by decide +kernel
theorem dX4_valuesAgainst_85 : decode cX4_valuesAgainst 85 = .ok (.goto (-78), 3) := by decide +kernel
theorem dX4_valuesAgainst_88 : decode cX4_valuesAgainst 88 = .ok (.iload_n 2, 1) := by decide +kernel
theorem dX4_valuesAgainst_89 : decode cX4_valuesAgainst 89 = .ok (.ireturn, 1) := by decide +kernel
theorem dX4_winnerIn_0 : decode cX4_winnerIn 0 = .ok (.aload_n 0, 1) := by decide +kernel
theorem dX4_winnerIn_1 : decode cX4_winnerIn 1 = .ok (.getfield 26, 3) := by decide +kernel
theorem dX4_winnerIn_4 : decode cX4_winnerIn 4 = .ok (.iload_n 1, 1) := by decide +kernel
theorem dX4_winnerIn_5 : decode cX4_winnerIn 5 = .ok (.iload_n 2, 1) := by decide +kernel
theorem dX4_winnerIn_6 : decode cX4_winnerIn 6 = .ok (.aload_n 0, 1) := by decide +kernel
theorem dX4_winnerIn_7 : decode cX4_winnerIn 7 = .ok (.getfield 10, 3) := by decide +kernel
theorem dX4_winnerIn_10 : decode cX4_winnerIn 10 = .ok (.invokevirtual 162, 3) := by decide +kernel
theorem dX4_winnerIn_13 : decode cX4_winnerIn 13 = .ok (.invokevirtual 167, 3) := by decide +kernel
theorem dX4_winnerIn_16 : decode cX4_winnerIn 16 = .ok (.ifCond .eq 7, 3) := by decide +kernel
theorem dX4_winnerIn_19 : decode cX4_winnerIn 19 = .ok (.iconst 0, 1) := by decide +kernel
theorem dX4_winnerIn_20 : decode cX4_winnerIn 20 = .ok (.goto 4, 3) := by decide +kernel
theorem dX4_winnerIn_23 : decode cX4_winnerIn 23 = .ok (.iconst 1, 1) := by decide +kernel
theorem dX4_winnerIn_24 : decode cX4_winnerIn 24 = .ok (.ireturn, 1) := by decide +kernel
theorem dX4_learnedBeginnings_0 : decode cX4_learnedBeginnings 0 = .ok (.iconst 0, 1) := by decide +kernel
theorem dX4_learnedBeginnings_1 : decode cX4_learnedBeginnings 1 = .ok (.istore_n 2, 1) := by decide +kernel
theorem dX4_learnedBeginnings_2 : decode cX4_learnedBeginnings 2 = .ok (.aload_n 0, 1) := by decide +kernel
theorem dX4_learnedBeginnings_3 : decode cX4_learnedBeginnings 3 = .ok (.getfield 10, 3) := by decide +kernel
theorem dX4_learnedBeginnings_6 : decode cX4_learnedBeginnings 6 = .ok (.invokevirtual 116, 3) := by decide +kernel
theorem dX4_learnedBeginnings_9 : decode cX4_learnedBeginnings 9 = .ok (.istore_n 3, 1) := by decide +kernel
theorem dX4_learnedBeginnings_10 : decode cX4_learnedBeginnings 10 = .ok (.iconst 0, 1) := by decide +kernel
theorem dX4_learnedBeginnings_11 : decode cX4_learnedBeginnings 11 = .ok (.istore 4, 2) := by decide +kernel
theorem dX4_learnedBeginnings_13 : decode cX4_learnedBeginnings 13 = .ok (.iload 4, 2) := by decide +kernel
theorem dX4_learnedBeginnings_15 : decode cX4_learnedBeginnings 15 = .ok (.iload_n 3, 1) := by decide +kernel
theorem dX4_learnedBeginnings_16 : decode cX4_learnedBeginnings 16 = .ok (.if_icmp .ge 34, 3) := by decide +kernel
theorem dX4_learnedBeginnings_19 : decode cX4_learnedBeginnings 19 = .ok (.aload_n 0, 1) := by decide +kernel
theorem dX4_learnedBeginnings_20 : decode cX4_learnedBeginnings 20 = .ok (.getfield 10, 3) := by decide +kernel
theorem dX4_learnedBeginnings_23 : decode cX4_learnedBeginnings 23 = .ok (.iload 4, 2) := by decide +kernel
theorem dX4_learnedBeginnings_25 : decode cX4_learnedBeginnings 25 = .ok (.invokevirtual 98, 3) := by decide +kernel
theorem dX4_learnedBeginnings_28 : decode cX4_learnedBeginnings 28 = .ok (.ifCond .eq 16, 3) := by decide +kernel
theorem dX4_learnedBeginnings_31 : decode cX4_learnedBeginnings 31 = .ok (.iload_n 2, 1) := by decide +kernel
theorem dX4_learnedBeginnings_32 : decode cX4_learnedBeginnings 32 = .ok (.iconst 1, 1) := by decide +kernel
theorem dX4_learnedBeginnings_33 : decode cX4_learnedBeginnings 33 = .ok (.iload 4, 2) := by decide +kernel
theorem dX4_learnedBeginnings_35 : decode cX4_learnedBeginnings 35 = .ok (.iconst 1, 1) := by decide +kernel
theorem dX4_learnedBeginnings_36 : decode cX4_learnedBeginnings 36 = .ok (.iload_n 1, 1) := by decide +kernel
theorem dX4_learnedBeginnings_37 : decode cX4_learnedBeginnings 37 = .ok (.ishl, 1) := by decide +kernel
theorem dX4_learnedBeginnings_38 : decode cX4_learnedBeginnings 38 = .ok (.iconst 1, 1) := by decide +kernel
theorem dX4_learnedBeginnings_39 : decode cX4_learnedBeginnings 39 = .ok (.isub, 1) := by decide +kernel
theorem dX4_learnedBeginnings_40 : decode cX4_learnedBeginnings 40 = .ok (.iand, 1) := by decide +kernel
theorem dX4_learnedBeginnings_41 : decode cX4_learnedBeginnings 41 = .ok (.ishl, 1) := by decide +kernel
theorem dX4_learnedBeginnings_42 : decode cX4_learnedBeginnings 42 = .ok (.ior, 1) := by decide +kernel
theorem dX4_learnedBeginnings_43 : decode cX4_learnedBeginnings 43 = .ok (.istore_n 2, 1) := by decide +kernel
theorem dX4_learnedBeginnings_44 : decode cX4_learnedBeginnings 44 = .ok (.iinc 4 1, 3) := by decide +kernel
theorem dX4_learnedBeginnings_47 : decode cX4_learnedBeginnings 47 = .ok (.goto (-34), 3) := by decide +kernel
theorem dX4_learnedBeginnings_50 : decode cX4_learnedBeginnings 50 = .ok (.iload_n 2, 1) := by decide +kernel
theorem dX4_learnedBeginnings_51 : decode cX4_learnedBeginnings 51 = .ok (.invokestatic 106, 3) := by decide +kernel
theorem dX4_learnedBeginnings_54 : decode cX4_learnedBeginnings 54 = .ok (.ireturn, 1) := by decide +kernel
theorem dX4_lowestLeastProof_0 : decode cX4_lowestLeastProof 0 = .ok (.aload_n 0, 1) := by decide +kernel
theorem dX4_lowestLeastProof_1 : decode cX4_lowestLeastProof 1 = .ok (.getfield 26, 3) := by decide +kernel
theorem dX4_lowestLeastProof_4 : decode cX4_lowestLeastProof 4 = .ok (.aload_n 0, 1) := by decide +kernel
theorem dX4_lowestLeastProof_5 : decode cX4_lowestLeastProof 5 = .ok (.getfield 10, 3) := by decide +kernel
theorem dX4_lowestLeastProof_8 : decode cX4_lowestLeastProof 8 = .ok (.invokevirtual 149, 3) := by decide +kernel
theorem dX4_lowestLeastProof_11 : decode cX4_lowestLeastProof 11 = .ok (.iconst (-1), 1) := by decide +kernel
theorem dX4_lowestLeastProof_12 : decode cX4_lowestLeastProof 12 = .ok (.istore_n 1, 1) := by decide +kernel
theorem dX4_lowestLeastProof_13 : decode cX4_lowestLeastProof 13 = .ok (.aload_n 0, 1) := by decide +kernel
theorem dX4_lowestLeastProof_14 : decode cX4_lowestLeastProof 14 = .ok (.getfield 10, 3) := by decide +kernel
theorem dX4_lowestLeastProof_17 : decode cX4_lowestLeastProof 17 = .ok (.invokevirtual 162, 3) := by decide +kernel
theorem dX4_lowestLeastProof_20 : decode cX4_lowestLeastProof 20 = .ok (.istore_n 2, 1) := by decide +kernel
theorem dX4_lowestLeastProof_21 : decode cX4_lowestLeastProof 21 = .ok (.iconst 1, 1) := by decide +kernel
theorem dX4_lowestLeastProof_22 : decode cX4_lowestLeastProof 22 = .ok (.istore_n 3, 1) := by decide +kernel
theorem dX4_lowestLeastProof_23 : decode cX4_lowestLeastProof 23 = .ok (.iload_n 3, 1) := by decide +kernel
theorem dX4_lowestLeastProof_24 : decode cX4_lowestLeastProof 24 = .ok (.iload_n 2, 1) := by decide +kernel
theorem dX4_lowestLeastProof_25 : decode cX4_lowestLeastProof 25 = .ok (.if_icmp .gt 52, 3) := by decide +kernel
theorem dX4_lowestLeastProof_28 : decode cX4_lowestLeastProof 28 = .ok (.iload_n 1, 1) := by decide +kernel
theorem dX4_lowestLeastProof_29 : decode cX4_lowestLeastProof 29 = .ok (.iconst (-1), 1) := by decide +kernel
theorem dX4_lowestLeastProof_30 : decode cX4_lowestLeastProof 30 = .ok (.if_icmp .eq 14, 3) := by decide +kernel
theorem dX4_lowestLeastProof_33 : decode cX4_lowestLeastProof 33 = .ok (.iload_n 3, 1) := by decide +kernel
theorem dX4_lowestLeastProof_34 : decode cX4_lowestLeastProof 34 = .ok (.invokestatic 106, 3) := by decide +kernel
theorem dX4_lowestLeastProof_37 : decode cX4_lowestLeastProof 37 = .ok (.iload_n 1, 1) := by decide +kernel
theorem dX4_lowestLeastProof_38 : decode cX4_lowestLeastProof 38 = .ok (.invokestatic 106, 3) := by decide +kernel
theorem dX4_lowestLeastProof_41 : decode cX4_lowestLeastProof 41 = .ok (.if_icmp .ge 7, 3) := by decide +kernel
theorem dX4_lowestLeastProof_44 : decode cX4_lowestLeastProof 44 = .ok (.iconst 1, 1) := by decide +kernel
theorem dX4_lowestLeastProof_45 : decode cX4_lowestLeastProof 45 = .ok (.goto 4, 3) := by decide +kernel
theorem dX4_lowestLeastProof_48 : decode cX4_lowestLeastProof 48 = .ok (.iconst 0, 1) := by decide +kernel
theorem dX4_lowestLeastProof_49 : decode cX4_lowestLeastProof 49 = .ok (.istore 4, 2) := by decide +kernel
theorem dX4_lowestLeastProof_51 : decode cX4_lowestLeastProof 51 = .ok (.iload 4, 2) := by decide +kernel
theorem dX4_lowestLeastProof_53 : decode cX4_lowestLeastProof 53 = .ok (.ifCond .eq 18, 3) := by decide +kernel
theorem dX4_lowestLeastProof_56 : decode cX4_lowestLeastProof 56 = .ok (.aload_n 0, 1) := by decide +kernel
theorem dX4_lowestLeastProof_57 : decode cX4_lowestLeastProof 57 = .ok (.getfield 26, 3) := by decide +kernel
theorem dX4_lowestLeastProof_60 : decode cX4_lowestLeastProof 60 = .ok (.iconst 0, 1) := by decide +kernel
theorem dX4_lowestLeastProof_61 : decode cX4_lowestLeastProof 61 = .ok (.iconst 0, 1) := by decide +kernel
theorem dX4_lowestLeastProof_62 : decode cX4_lowestLeastProof 62 = .ok (.iload_n 3, 1) := by decide +kernel
theorem dX4_lowestLeastProof_63 : decode cX4_lowestLeastProof 63 = .ok (.invokevirtual 167, 3) := by decide +kernel
theorem dX4_lowestLeastProof_66 : decode cX4_lowestLeastProof 66 = .ok (.ifCond .ne 5, 3) := by decide +kernel
theorem dX4_lowestLeastProof_69 : decode cX4_lowestLeastProof 69 = .ok (.iload_n 3, 1) := by decide +kernel
theorem dX4_lowestLeastProof_70 : decode cX4_lowestLeastProof 70 = .ok (.istore_n 1, 1) := by decide +kernel
theorem dX4_lowestLeastProof_71 : decode cX4_lowestLeastProof 71 = .ok (.iinc 3 1, 3) := by decide +kernel
theorem dX4_lowestLeastProof_74 : decode cX4_lowestLeastProof 74 = .ok (.goto (-51), 3) := by decide +kernel
theorem dX4_lowestLeastProof_77 : decode cX4_lowestLeastProof 77 = .ok (.iload_n 1, 1) := by decide +kernel
theorem dX4_lowestLeastProof_78 : decode cX4_lowestLeastProof 78 = .ok (.ireturn, 1) := by decide +kernel
theorem dX4_bit_0 : decode cX4_bit 0 = .ok (.iload_n 0, 1) := by decide +kernel
theorem dX4_bit_1 : decode cX4_bit 1 = .ok (.iload_n 1, 1) := by decide +kernel
theorem dX4_bit_2 : decode cX4_bit 2 = .ok (.ishr, 1) := by decide +kernel
theorem dX4_bit_3 : decode cX4_bit 3 = .ok (.iconst 1, 1) := by decide +kernel
theorem dX4_bit_4 : decode cX4_bit 4 = .ok (.iand, 1) := by decide +kernel
theorem dX4_bit_5 : decode cX4_bit 5 = .ok (.ireturn, 1) := by decide +kernel
theorem dX4_read_0 : decode cX4_read 0 = .ok (.iload_n 1, 1) := by decide +kernel
theorem dX4_read_1 : decode cX4_read 1 = .ok (.ifCond .lt 15, 3) := by decide +kernel
theorem dX4_read_4 : decode cX4_read 4 = .ok (.iload_n 1, 1) := by decide +kernel
theorem dX4_read_5 : decode cX4_read 5 = .ok (.aload_n 0, 1) := by decide +kernel
theorem dX4_read_6 : decode cX4_read 6 = .ok (.arraylength, 1) := by decide +kernel
theorem dX4_read_7 : decode cX4_read 7 = .ok (.if_icmp .ge 9, 3) := by decide +kernel
theorem dX4_read_10 : decode cX4_read 10 = .ok (.aload_n 0, 1) := by decide +kernel
theorem dX4_read_11 : decode cX4_read 11 = .ok (.iload_n 1, 1) := by decide +kernel
theorem dX4_read_12 : decode cX4_read 12 = .ok (.iaload, 1) := by decide +kernel
theorem dX4_read_13 : decode cX4_read 13 = .ok (.goto 4, 3) := by decide +kernel
theorem dX4_read_16 : decode cX4_read 16 = .ok (.iconst 0, 1) := by decide +kernel
theorem dX4_read_17 : decode cX4_read 17 = .ok (.ireturn, 1) := by decide +kernel
theorem dX4_write_0 : decode cX4_write 0 = .ok (.iload_n 1, 1) := by decide +kernel
theorem dX4_write_1 : decode cX4_write 1 = .ok (.ifCond .lt 13, 3) := by decide +kernel
theorem dX4_write_4 : decode cX4_write 4 = .ok (.iload_n 1, 1) := by decide +kernel
theorem dX4_write_5 : decode cX4_write 5 = .ok (.aload_n 0, 1) := by decide +kernel
theorem dX4_write_6 : decode cX4_write 6 = .ok (.arraylength, 1) := by decide +kernel
theorem dX4_write_7 : decode cX4_write 7 = .ok (.if_icmp .ge 7, 3) := by decide +kernel
theorem dX4_write_10 : decode cX4_write 10 = .ok (.aload_n 0, 1) := by decide +kernel
theorem dX4_write_11 : decode cX4_write 11 = .ok (.iload_n 1, 1) := by decide +kernel
theorem dX4_write_12 : decode cX4_write 12 = .ok (.iload_n 2, 1) := by decide +kernel
theorem dX4_write_13 : decode cX4_write 13 = .ok (.iastore, 1) := by decide +kernel
theorem dX4_write_14 : decode cX4_write 14 = .ok (.return_, 1) := by decide +kernel
theorem dX4_readLong_0 : decode cX4_readLong 0 = .ok (.iload_n 1, 1) := by decide +kernel
theorem dX4_readLong_1 : decode cX4_readLong 1 = .ok (.ifCond .lt 15, 3) := by decide +kernel
theorem dX4_readLong_4 : decode cX4_readLong 4 = .ok (.iload_n 1, 1) := by decide +kernel
theorem dX4_readLong_5 : decode cX4_readLong 5 = .ok (.aload_n 0, 1) := by decide +kernel
theorem dX4_readLong_6 : decode cX4_readLong 6 = .ok (.arraylength, 1) := by decide +kernel
theorem dX4_readLong_7 : decode cX4_readLong 7 = .ok (.if_icmp .ge 9, 3) := by decide +kernel
theorem dX4_readLong_10 : decode cX4_readLong 10 = .ok (.aload_n 0, 1) := by decide +kernel
theorem dX4_readLong_11 : decode cX4_readLong 11 = .ok (.iload_n 1, 1) := by decide +kernel
theorem dX4_readLong_12 : decode cX4_readLong 12 = .ok (.laload, 1) := by decide +kernel
theorem dX4_readLong_13 : decode cX4_readLong 13 = .ok (.goto 4, 3) := by decide +kernel
theorem dX4_readLong_16 : decode cX4_readLong 16 = .ok (.lconst 0, 1) := by decide +kernel
theorem dX4_readLong_17 : decode cX4_readLong 17 = .ok (.lreturn, 1) := by decide +kernel
theorem dX4_writeLong_0 : decode cX4_writeLong 0 = .ok (.iload_n 1, 1) := by decide +kernel
theorem dX4_writeLong_1 : decode cX4_writeLong 1 = .ok (.ifCond .lt 13, 3) := by decide +kernel
theorem dX4_writeLong_4 : decode cX4_writeLong 4 = .ok (.iload_n 1, 1) := by decide +kernel
theorem dX4_writeLong_5 : decode cX4_writeLong 5 = .ok (.aload_n 0, 1) := by decide +kernel
theorem dX4_writeLong_6 : decode cX4_writeLong 6 = .ok (.arraylength, 1) := by decide +kernel
theorem dX4_writeLong_7 : decode cX4_writeLong 7 = .ok (.if_icmp .ge 7, 3) := by decide +kernel
theorem dX4_writeLong_10 : decode cX4_writeLong 10 = .ok (.aload_n 0, 1) := by decide +kernel
theorem dX4_writeLong_11 : decode cX4_writeLong 11 = .ok (.iload_n 1, 1) := by decide +kernel
theorem dX4_writeLong_12 : decode cX4_writeLong 12 = .ok (.lload_n 2, 1) := by decide +kernel
theorem dX4_writeLong_13 : decode cX4_writeLong 13 = .ok (.lastore, 1) := by decide +kernel
theorem dX4_writeLong_14 : decode cX4_writeLong 14 = .ok (.return_, 1) := by decide +kernel
theorem dJ6_bitCount_0f7a4_0 : decode cJ6_bitCount_0f7a4 0 = .ok (.iload_n 0, 1) := by decide +kernel
theorem dJ6_bitCount_0f7a4_1 : decode cJ6_bitCount_0f7a4 1 = .ok (.iload_n 0, 1) := by decide +kernel
theorem dJ6_bitCount_0f7a4_2 : decode cJ6_bitCount_0f7a4 2 = .ok (.iconst 1, 1) := by decide +kernel
theorem dJ6_bitCount_0f7a4_3 : decode cJ6_bitCount_0f7a4 3 = .ok (.iushr, 1) := by decide +kernel
theorem dJ6_bitCount_0f7a4_4 : decode cJ6_bitCount_0f7a4 4 = .ok (.ldc_w 265, 3) := by decide +kernel
theorem dJ6_bitCount_0f7a4_7 : decode cJ6_bitCount_0f7a4 7 = .ok (.iand, 1) := by decide +kernel
theorem dJ6_bitCount_0f7a4_8 : decode cJ6_bitCount_0f7a4 8 = .ok (.isub, 1) := by decide +kernel
theorem dJ6_bitCount_0f7a4_9 : decode cJ6_bitCount_0f7a4 9 = .ok (.istore_n 0, 1) := by decide +kernel
theorem dJ6_bitCount_0f7a4_10 : decode cJ6_bitCount_0f7a4 10 = .ok (.iload_n 0, 1) := by decide +kernel
theorem dJ6_bitCount_0f7a4_11 : decode cJ6_bitCount_0f7a4 11 = .ok (.ldc_w 266, 3) := by decide +kernel
theorem dJ6_bitCount_0f7a4_14 : decode cJ6_bitCount_0f7a4 14 = .ok (.iand, 1) := by decide +kernel
theorem dJ6_bitCount_0f7a4_15 : decode cJ6_bitCount_0f7a4 15 = .ok (.iload_n 0, 1) := by decide +kernel
theorem dJ6_bitCount_0f7a4_16 : decode cJ6_bitCount_0f7a4 16 = .ok (.iconst 2, 1) := by decide +kernel
theorem dJ6_bitCount_0f7a4_17 : decode cJ6_bitCount_0f7a4 17 = .ok (.iushr, 1) := by decide +kernel
theorem dJ6_bitCount_0f7a4_18 : decode cJ6_bitCount_0f7a4 18 = .ok (.ldc_w 266, 3) := by decide +kernel
theorem dJ6_bitCount_0f7a4_21 : decode cJ6_bitCount_0f7a4 21 = .ok (.iand, 1) := by decide +kernel
theorem dJ6_bitCount_0f7a4_22 : decode cJ6_bitCount_0f7a4 22 = .ok (.iadd, 1) := by decide +kernel
theorem dJ6_bitCount_0f7a4_23 : decode cJ6_bitCount_0f7a4 23 = .ok (.istore_n 0, 1) := by decide +kernel
theorem dJ6_bitCount_0f7a4_24 : decode cJ6_bitCount_0f7a4 24 = .ok (.iload_n 0, 1) := by decide +kernel
theorem dJ6_bitCount_0f7a4_25 : decode cJ6_bitCount_0f7a4 25 = .ok (.iload_n 0, 1) := by decide +kernel
theorem dJ6_bitCount_0f7a4_26 : decode cJ6_bitCount_0f7a4 26 = .ok (.iconst 4, 1) := by decide +kernel
theorem dJ6_bitCount_0f7a4_27 : decode cJ6_bitCount_0f7a4 27 = .ok (.iushr, 1) := by decide +kernel
theorem dJ6_bitCount_0f7a4_28 : decode cJ6_bitCount_0f7a4 28 = .ok (.iadd, 1) := by decide +kernel
theorem dJ6_bitCount_0f7a4_29 : decode cJ6_bitCount_0f7a4 29 = .ok (.ldc_w 267, 3) := by decide +kernel
theorem dJ6_bitCount_0f7a4_32 : decode cJ6_bitCount_0f7a4 32 = .ok (.iand, 1) := by decide +kernel
theorem dJ6_bitCount_0f7a4_33 : decode cJ6_bitCount_0f7a4 33 = .ok (.istore_n 0, 1) := by decide +kernel
theorem dJ6_bitCount_0f7a4_34 : decode cJ6_bitCount_0f7a4 34 = .ok (.iload_n 0, 1) := by decide +kernel
theorem dJ6_bitCount_0f7a4_35 : decode cJ6_bitCount_0f7a4 35 = .ok (.iload_n 0, 1) := by decide +kernel
theorem dJ6_bitCount_0f7a4_36 : decode cJ6_bitCount_0f7a4 36 = .ok (.bipush 8, 2) := by decide +kernel
theorem dJ6_bitCount_0f7a4_38 : decode cJ6_bitCount_0f7a4 38 = .ok (.iushr, 1) := by decide +kernel
theorem dJ6_bitCount_0f7a4_39 : decode cJ6_bitCount_0f7a4 39 = .ok (.iadd, 1) := by decide +kernel
theorem dJ6_bitCount_0f7a4_40 : decode cJ6_bitCount_0f7a4 40 = .ok (.istore_n 0, 1) := by decide +kernel
theorem dJ6_bitCount_0f7a4_41 : decode cJ6_bitCount_0f7a4 41 = .ok (.iload_n 0, 1) := by decide +kernel
theorem dJ6_bitCount_0f7a4_42 : decode cJ6_bitCount_0f7a4 42 = .ok (.iload_n 0, 1) := by decide +kernel
theorem dJ6_bitCount_0f7a4_43 : decode cJ6_bitCount_0f7a4 43 = .ok (.bipush 16, 2) := by decide +kernel
theorem dJ6_bitCount_0f7a4_45 : decode cJ6_bitCount_0f7a4 45 = .ok (.iushr, 1) := by decide +kernel
theorem dJ6_bitCount_0f7a4_46 : decode cJ6_bitCount_0f7a4 46 = .ok (.iadd, 1) := by decide +kernel
theorem dJ6_bitCount_0f7a4_47 : decode cJ6_bitCount_0f7a4 47 = .ok (.istore_n 0, 1) := by decide +kernel
theorem dJ6_bitCount_0f7a4_48 : decode cJ6_bitCount_0f7a4 48 = .ok (.iload_n 0, 1) := by decide +kernel
theorem dJ6_bitCount_0f7a4_49 : decode cJ6_bitCount_0f7a4 49 = .ok (.bipush 63, 2) := by decide +kernel
theorem dJ6_bitCount_0f7a4_51 : decode cJ6_bitCount_0f7a4 51 = .ok (.iand, 1) := by decide +kernel
theorem dJ6_bitCount_0f7a4_52 : decode cJ6_bitCount_0f7a4 52 = .ok (.ireturn, 1) := by decide +kernel
theorem dL_cell_0 : decode cL_cell 0 = .ok (.iload_n 1, 1) := by decide +kernel
theorem dL_cell_1 : decode cL_cell 1 = .ok (.aload_n 0, 1) := by decide +kernel
theorem dL_cell_2 : decode cL_cell 2 = .ok (.arraylength, 1) := by decide +kernel
theorem dL_cell_3 : decode cL_cell 3 = .ok (.if_icmp .ge 9, 3) := by decide +kernel
theorem dL_cell_6 : decode cL_cell 6 = .ok (.aload_n 0, 1) := by decide +kernel
theorem dL_cell_7 : decode cL_cell 7 = .ok (.iload_n 1, 1) := by decide +kernel
theorem dL_cell_8 : decode cL_cell 8 = .ok (.iaload, 1) := by decide +kernel
theorem dL_cell_9 : decode cL_cell 9 = .ok (.goto 11, 3) := by decide +kernel
theorem dL_cell_12 : decode cL_cell 12 = .ok (.sipush 16807, 3) := by decide +kernel
theorem dL_cell_15 : decode cL_cell 15 = .ok (.iload_n 1, 1) := by decide +kernel
theorem dL_cell_16 : decode cL_cell 16 = .ok (.bipush 47, 2) := by decide +kernel
theorem dL_cell_18 : decode cL_cell 18 = .ok (.iadd, 1) := by decide +kernel
theorem dL_cell_19 : decode cL_cell 19 = .ok (.imul, 1) := by decide +kernel
theorem dL_cell_20 : decode cL_cell 20 = .ok (.ldc 7, 2) := by decide +kernel
theorem dL_cell_22 : decode cL_cell 22 = .ok (.iand, 1) := by decide +kernel
theorem dL_cell_23 : decode cL_cell 23 = .ok (.ireturn, 1) := by decide +kernel
theorem dL_adds_0 : decode cL_adds 0 = .ok (.aload_n 0, 1) := by decide +kernel
theorem dL_adds_1 : decode cL_adds 1 = .ok (.iload_n 1, 1) := by decide +kernel
theorem dL_adds_2 : decode cL_adds 2 = .ok (.invokevirtual 8, 3) := by decide +kernel
theorem dL_adds_5 : decode cL_adds 5 = .ok (.ireturn, 1) := by decide +kernel
theorem dL_adds_6 : decode cL_adds 6 = .ok (.astore_n 2, 1) := by decide +kernel
theorem dL_adds_7 : decode cL_adds 7 = .ok (.ldc 16, 2) := by decide +kernel
theorem dL_adds_9 : decode cL_adds 9 = .ok (.ireturn, 1) := by decide +kernel
theorem dL_clauses_0 : decode cL_clauses 0 = .ok (.aload_n 0, 1) := by decide +kernel
theorem dL_clauses_1 : decode cL_clauses 1 = .ok (.iload_n 1, 1) := by decide +kernel
theorem dL_clauses_2 : decode cL_clauses 2 = .ok (.iload_n 2, 1) := by decide +kernel
theorem dL_clauses_3 : decode cL_clauses 3 = .ok (.invokevirtual 17, 3) := by decide +kernel
theorem dL_clauses_6 : decode cL_clauses 6 = .ok (.ireturn, 1) := by decide +kernel
theorem dL_clauses_7 : decode cL_clauses 7 = .ok (.astore_n 3, 1) := by decide +kernel
theorem dL_clauses_8 : decode cL_clauses 8 = .ok (.ldc 16, 2) := by decide +kernel
theorem dL_clauses_10 : decode cL_clauses 10 = .ok (.ireturn, 1) := by decide +kernel
theorem dL_clauses_11 : decode cL_clauses 11 = .ok (.astore_n 3, 1) := by decide +kernel
theorem dL_clauses_12 : decode cL_clauses 12 = .ok (.ldc 23, 2) := by decide +kernel
theorem dL_clauses_14 : decode cL_clauses 14 = .ok (.ireturn, 1) := by decide +kernel
theorem dL_removes_0 : decode cL_removes 0 = .ok (.aload_n 0, 1) := by decide +kernel
theorem dL_removes_1 : decode cL_removes 1 = .ok (.iload_n 1, 1) := by decide +kernel
theorem dL_removes_2 : decode cL_removes 2 = .ok (.invokevirtual 24, 3) := by decide +kernel
theorem dL_removes_5 : decode cL_removes 5 = .ok (.ireturn, 1) := by decide +kernel
theorem dL_removes_6 : decode cL_removes 6 = .ok (.astore_n 2, 1) := by decide +kernel
theorem dL_removes_7 : decode cL_removes 7 = .ok (.ldc 16, 2) := by decide +kernel
theorem dL_removes_9 : decode cL_removes 9 = .ok (.ireturn, 1) := by decide +kernel
theorem dL_whose_0 : decode cL_whose 0 = .ok (.aload_n 0, 1) := by decide +kernel
theorem dL_whose_1 : decode cL_whose 1 = .ok (.iload_n 1, 1) := by decide +kernel
theorem dL_whose_2 : decode cL_whose 2 = .ok (.invokevirtual 30, 3) := by decide +kernel
theorem dL_whose_5 : decode cL_whose 5 = .ok (.ifCond .eq 7, 3) := by decide +kernel
theorem dL_whose_8 : decode cL_whose 8 = .ok (.iconst 1, 1) := by decide +kernel
theorem dL_whose_9 : decode cL_whose 9 = .ok (.goto 4, 3) := by decide +kernel
theorem dL_whose_12 : decode cL_whose 12 = .ok (.iconst 0, 1) := by decide +kernel
theorem dL_whose_13 : decode cL_whose 13 = .ok (.ireturn, 1) := by decide +kernel
theorem dL_whose_14 : decode cL_whose 14 = .ok (.astore_n 2, 1) := by decide +kernel
theorem dL_whose_15 : decode cL_whose 15 = .ok (.ldc 16, 2) := by decide +kernel
theorem dL_whose_17 : decode cL_whose 17 = .ok (.ireturn, 1) := by decide +kernel
theorem dL_value_0 : decode cL_value 0 = .ok (.aload_n 0, 1) := by decide +kernel
theorem dL_value_1 : decode cL_value 1 = .ok (.iload_n 1, 1) := by decide +kernel
theorem dL_value_2 : decode cL_value 2 = .ok (.invokevirtual 34, 3) := by decide +kernel
theorem dL_value_5 : decode cL_value 5 = .ok (.ireturn, 1) := by decide +kernel
theorem dL_value_6 : decode cL_value 6 = .ok (.astore_n 2, 1) := by decide +kernel
theorem dL_value_7 : decode cL_value 7 = .ok (.ldc 16, 2) := by decide +kernel
theorem dL_value_9 : decode cL_value 9 = .ok (.ireturn, 1) := by decide +kernel
theorem dL_winnerAt_0 : decode cL_winnerAt 0 = .ok (.aload_n 0, 1) := by decide +kernel
theorem dL_winnerAt_1 : decode cL_winnerAt 1 = .ok (.iload_n 1, 1) := by decide +kernel
theorem dL_winnerAt_2 : decode cL_winnerAt 2 = .ok (.iload_n 2, 1) := by decide +kernel
theorem dL_winnerAt_3 : decode cL_winnerAt 3 = .ok (.invokevirtual 37, 3) := by decide +kernel
theorem dL_winnerAt_6 : decode cL_winnerAt 6 = .ok (.ireturn, 1) := by decide +kernel
theorem dL_winnerAt_7 : decode cL_winnerAt 7 = .ok (.astore_n 3, 1) := by decide +kernel
theorem dL_winnerAt_8 : decode cL_winnerAt 8 = .ok (.ldc 16, 2) := by decide +kernel
theorem dL_winnerAt_10 : decode cL_winnerAt 10 = .ok (.ireturn, 1) := by decide +kernel
theorem dL_winnerAt_11 : decode cL_winnerAt 11 = .ok (.astore_n 3, 1) := by decide +kernel
theorem dL_winnerAt_12 : decode cL_winnerAt 12 = .ok (.ldc 23, 2) := by decide +kernel
theorem dL_winnerAt_14 : decode cL_winnerAt 14 = .ok (.ireturn, 1) := by decide +kernel
theorem dL_moves_0 : decode cL_moves 0 = .ok (.aload_n 0, 1) := by decide +kernel
theorem dL_moves_1 : decode cL_moves 1 = .ok (.iload_n 1, 1) := by decide +kernel
theorem dL_moves_2 : decode cL_moves 2 = .ok (.iload_n 2, 1) := by decide +kernel
theorem dL_moves_3 : decode cL_moves 3 = .ok (.invokevirtual 40, 3) := by decide +kernel
theorem dL_moves_6 : decode cL_moves 6 = .ok (.ireturn, 1) := by decide +kernel
theorem dL_moves_7 : decode cL_moves 7 = .ok (.astore_n 3, 1) := by decide +kernel
theorem dL_moves_8 : decode cL_moves 8 = .ok (.ldc 16, 2) := by decide +kernel
theorem dL_moves_10 : decode cL_moves 10 = .ok (.ireturn, 1) := by decide +kernel
theorem dL_moves_11 : decode cL_moves 11 = .ok (.astore_n 3, 1) := by decide +kernel
theorem dL_moves_12 : decode cL_moves 12 = .ok (.ldc 23, 2) := by decide +kernel
theorem dL_moves_14 : decode cL_moves 14 = .ok (.ireturn, 1) := by decide +kernel
theorem dL_ways_0 : decode cL_ways 0 = .ok (.aload_n 0, 1) := by decide +kernel
theorem dL_ways_1 : decode cL_ways 1 = .ok (.iload_n 1, 1) := by decide +kernel
theorem dL_ways_2 : decode cL_ways 2 = .ok (.invokevirtual 43, 3) := by decide +kernel
theorem dL_ways_5 : decode cL_ways 5 = .ok (.ireturn, 1) := by decide +kernel
theorem dL_ways_6 : decode cL_ways 6 = .ok (.astore_n 2, 1) := by decide +kernel
theorem dL_ways_7 : decode cL_ways 7 = .ok (.ldc 16, 2) := by decide +kernel
theorem dL_ways_9 : decode cL_ways 9 = .ok (.ireturn, 1) := by decide +kernel
theorem dL_beats_0 : decode cL_beats 0 = .ok (.aload_n 0, 1) := by decide +kernel
theorem dL_beats_1 : decode cL_beats 1 = .ok (.iload_n 1, 1) := by decide +kernel
theorem dL_beats_2 : decode cL_beats 2 = .ok (.invokevirtual 46, 3) := by decide +kernel
theorem dL_beats_5 : decode cL_beats 5 = .ok (.ifCond .eq 7, 3) := by decide +kernel
theorem dL_beats_8 : decode cL_beats 8 = .ok (.iconst 1, 1) := by decide +kernel
theorem dL_beats_9 : decode cL_beats 9 = .ok (.goto 4, 3) := by decide +kernel
theorem dL_beats_12 : decode cL_beats 12 = .ok (.iconst 0, 1) := by decide +kernel
theorem dL_beats_13 : decode cL_beats 13 = .ok (.ireturn, 1) := by decide +kernel
theorem dL_beats_14 : decode cL_beats 14 = .ok (.astore_n 2, 1) := by decide +kernel
theorem dL_beats_15 : decode cL_beats 15 = .ok (.ldc 16, 2) := by decide +kernel
theorem dL_beats_17 : decode cL_beats 17 = .ok (.ireturn, 1) := by decide +kernel
theorem dL_undoes_0 : decode cL_undoes 0 = .ok (.aload_n 0, 1) := by decide +kernel
theorem dL_undoes_1 : decode cL_undoes 1 = .ok (.invokevirtual 49, 3) := by decide +kernel
theorem dL_undoes_4 : decode cL_undoes 4 = .ok (.ireturn, 1) := by decide +kernel
theorem dL_undoes_5 : decode cL_undoes 5 = .ok (.astore_n 1, 1) := by decide +kernel
theorem dL_undoes_6 : decode cL_undoes 6 = .ok (.ldc 16, 2) := by decide +kernel
theorem dL_undoes_8 : decode cL_undoes 8 = .ok (.ireturn, 1) := by decide +kernel
theorem dL_bits_0 : decode cL_bits 0 = .ok (.iconst 0, 1) := by decide +kernel
theorem dL_bits_1 : decode cL_bits 1 = .ok (.istore_n 1, 1) := by decide +kernel
theorem dL_bits_2 : decode cL_bits 2 = .ok (.iconst 0, 1) := by decide +kernel
theorem dL_bits_3 : decode cL_bits 3 = .ok (.istore_n 2, 1) := by decide +kernel
theorem dL_bits_4 : decode cL_bits 4 = .ok (.iload_n 2, 1) := by decide +kernel
theorem dL_bits_5 : decode cL_bits 5 = .ok (.bipush 9, 2) := by decide +kernel
theorem dL_bits_7 : decode cL_bits 7 = .ok (.if_icmp .ge 17, 3) := by decide +kernel
theorem dL_bits_10 : decode cL_bits 10 = .ok (.iload_n 1, 1) := by decide +kernel
theorem dL_bits_11 : decode cL_bits 11 = .ok (.iload_n 0, 1) := by decide +kernel
theorem dL_bits_12 : decode cL_bits 12 = .ok (.iload_n 2, 1) := by decide +kernel
theorem dL_bits_13 : decode cL_bits 13 = .ok (.ishr, 1) := by decide +kernel
theorem dL_bits_14 : decode cL_bits 14 = .ok (.iconst 1, 1) := by decide +kernel
theorem dL_bits_15 : decode cL_bits 15 = .ok (.iand, 1) := by decide +kernel
theorem dL_bits_16 : decode cL_bits 16 = .ok (.iadd, 1) := by decide +kernel
theorem dL_bits_17 : decode cL_bits 17 = .ok (.istore_n 1, 1) := by decide +kernel
theorem dL_bits_18 : decode cL_bits 18 = .ok (.iinc 2 1, 3) := by decide +kernel
theorem dL_bits_21 : decode cL_bits 21 = .ok (.goto (-17), 3) := by decide +kernel
theorem dL_bits_24 : decode cL_bits 24 = .ok (.iload_n 1, 1) := by decide +kernel
theorem dL_bits_25 : decode cL_bits 25 = .ok (.ireturn, 1) := by decide +kernel
theorem dL_follows_0 : decode cL_follows 0 = .ok (.aload_n 0, 1) := by decide +kernel
theorem dL_follows_1 : decode cL_follows 1 = .ok (.invokevirtual 53, 3) := by decide +kernel
theorem dL_follows_4 : decode cL_follows 4 = .ok (.istore_n 2, 1) := by decide +kernel
theorem dL_follows_5 : decode cL_follows 5 = .ok (.aload_n 0, 1) := by decide +kernel
theorem dL_follows_6 : decode cL_follows 6 = .ok (.iconst 0, 1) := by decide +kernel
theorem dL_follows_7 : decode cL_follows 7 = .ok (.invokestatic 56, 3) := by decide +kernel
theorem dL_follows_10 : decode cL_follows 10 = .ok (.istore_n 3, 1) := by decide +kernel
theorem dL_follows_11 : decode cL_follows 11 = .ok (.iconst 0, 1) := by decide +kernel
theorem dL_follows_12 : decode cL_follows 12 = .ok (.istore 4, 2) := by decide +kernel
theorem dL_follows_14 : decode cL_follows 14 = .ok (.iconst 1, 1) := by decide +kernel
theorem dL_follows_15 : decode cL_follows 15 = .ok (.istore 5, 2) := by decide +kernel
theorem dL_follows_17 : decode cL_follows 17 = .ok (.iconst 0, 1) := by decide +kernel
theorem dL_follows_18 : decode cL_follows 18 = .ok (.istore 6, 2) := by decide +kernel
theorem dL_follows_20 : decode cL_follows 20 = .ok (.iload 6, 2) := by decide +kernel
theorem dL_follows_22 : decode cL_follows 22 = .ok (.iload_n 3, 1) := by decide +kernel
theorem dL_follows_23 : decode cL_follows 23 = .ok (.if_icmp .ge 99, 3) := by decide +kernel
theorem dL_follows_26 : decode cL_follows 26 = .ok (.iload 5, 2) := by decide +kernel
theorem dL_follows_28 : decode cL_follows 28 = .ok (.ifCond .eq 94, 3) := by decide +kernel
theorem dL_follows_31 : decode cL_follows 31 = .ok (.aload_n 0, 1) := by decide +kernel
theorem dL_follows_32 : decode cL_follows 32 = .ok (.iload 6, 2) := by decide +kernel
theorem dL_follows_34 : decode cL_follows 34 = .ok (.iload 4, 2) := by decide +kernel
theorem dL_follows_36 : decode cL_follows 36 = .ok (.invokestatic 61, 3) := by decide +kernel
theorem dL_follows_39 : decode cL_follows 39 = .ok (.istore 7, 2) := by decide +kernel
theorem dL_follows_41 : decode cL_follows 41 = .ok (.aload_n 0, 1) := by decide +kernel
theorem dL_follows_42 : decode cL_follows 42 = .ok (.iload 6, 2) := by decide +kernel
theorem dL_follows_44 : decode cL_follows 44 = .ok (.invokestatic 65, 3) := by decide +kernel
theorem dL_follows_47 : decode cL_follows 47 = .ok (.istore 8, 2) := by decide +kernel
theorem dL_follows_49 : decode cL_follows 49 = .ok (.aload_n 0, 1) := by decide +kernel
theorem dL_follows_50 : decode cL_follows 50 = .ok (.iload 6, 2) := by decide +kernel
theorem dL_follows_52 : decode cL_follows 52 = .ok (.iload 4, 2) := by decide +kernel
theorem dL_follows_54 : decode cL_follows 54 = .ok (.invokestatic 68, 3) := by decide +kernel
theorem dL_follows_57 : decode cL_follows 57 = .ok (.iload_n 2, 1) := by decide +kernel
theorem dL_follows_58 : decode cL_follows 58 = .ok (.if_icmp .ne 31, 3) := by decide +kernel
theorem dL_follows_61 : decode cL_follows 61 = .ok (.iload 7, 2) := by decide +kernel
theorem dL_follows_63 : decode cL_follows 63 = .ok (.ifCond .lt 7, 3) := by decide +kernel
theorem dL_follows_66 : decode cL_follows 66 = .ok (.iconst 1, 1) := by decide +kernel
theorem dL_follows_67 : decode cL_follows 67 = .ok (.goto 4, 3) := by decide +kernel
theorem dL_follows_70 : decode cL_follows 70 = .ok (.iconst 0, 1) := by decide +kernel
theorem dL_follows_71 : decode cL_follows 71 = .ok (.iload 8, 2) := by decide +kernel
theorem dL_follows_73 : decode cL_follows 73 = .ok (.iload_n 2, 1) := by decide +kernel
theorem dL_follows_74 : decode cL_follows 74 = .ok (.if_icmp .ne 7, 3) := by decide +kernel
theorem dL_follows_77 : decode cL_follows 77 = .ok (.iconst 1, 1) := by decide +kernel
theorem dL_follows_78 : decode cL_follows 78 = .ok (.goto 4, 3) := by decide +kernel
theorem dL_follows_81 : decode cL_follows 81 = .ok (.iconst 0, 1) := by decide +kernel
theorem dL_follows_82 : decode cL_follows 82 = .ok (.if_icmp .ne 7, 3) := by decide +kernel
theorem dL_follows_85 : decode cL_follows 85 = .ok (.iconst 1, 1) := by decide +kernel
theorem dL_follows_86 : decode cL_follows 86 = .ok (.goto 4, 3) := by decide +kernel
theorem dL_follows_89 : decode cL_follows 89 = .ok (.iconst 0, 1) := by decide +kernel
theorem dL_follows_90 : decode cL_follows 90 = .ok (.istore 5, 2) := by decide +kernel
theorem dL_follows_92 : decode cL_follows 92 = .ok (.iload 4, 2) := by decide +kernel
theorem dL_follows_94 : decode cL_follows 94 = .ok (.iload 7, 2) := by decide +kernel
theorem dL_follows_96 : decode cL_follows 96 = .ok (.ifCond .lt 8, 3) := by decide +kernel
theorem dL_follows_99 : decode cL_follows 99 = .ok (.iload 7, 2) := by decide +kernel
theorem dL_follows_101 : decode cL_follows 101 = .ok (.goto 9, 3) := by decide +kernel
theorem dL_follows_104 : decode cL_follows 104 = .ok (.iload_n 1, 1) := by decide +kernel
theorem dL_follows_105 : decode cL_follows 105 = .ok (.iload 6, 2) := by decide +kernel
theorem dL_follows_107 : decode cL_follows 107 = .ok (.ishr, 1) := by decide +kernel
theorem dL_follows_108 : decode cL_follows 108 = .ok (.iconst 1, 1) := by decide +kernel
theorem dL_follows_109 : decode cL_follows 109 = .ok (.iand, 1) := by decide +kernel
theorem dL_follows_110 : decode cL_follows 110 = .ok (.iload 6, 2) := by decide +kernel
theorem dL_follows_112 : decode cL_follows 112 = .ok (.ishl, 1) := by decide +kernel
theorem dL_follows_113 : decode cL_follows 113 = .ok (.ior, 1) := by decide +kernel
theorem dL_follows_114 : decode cL_follows 114 = .ok (.istore 4, 2) := by decide +kernel
theorem dL_follows_116 : decode cL_follows 116 = .ok (.iinc 6 1, 3) := by decide +kernel
theorem dL_follows_119 : decode cL_follows 119 = .ok (.goto (-99), 3) := by decide +kernel
theorem dL_follows_122 : decode cL_follows 122 = .ok (.iload 5, 2) := by decide +kernel
theorem dL_follows_124 : decode cL_follows 124 = .ok (.ireturn, 1) := by decide +kernel
theorem dL_holds_0 : decode cL_holds 0 = .ok (.aload_n 0, 1) := by decide +kernel
theorem dL_holds_1 : decode cL_holds 1 = .ok (.bipush 6, 2) := by decide +kernel
theorem dL_holds_3 : decode cL_holds 3 = .ok (.invokestatic 56, 3) := by decide +kernel
theorem dL_holds_6 : decode cL_holds 6 = .ok (.istore_n 1, 1) := by decide +kernel
theorem dL_holds_7 : decode cL_holds 7 = .ok (.iconst 0, 1) := by decide +kernel
theorem dL_holds_8 : decode cL_holds 8 = .ok (.istore_n 2, 1) := by decide +kernel
theorem dL_holds_9 : decode cL_holds 9 = .ok (.iload_n 1, 1) := by decide +kernel
theorem dL_holds_10 : decode cL_holds 10 = .ok (.iconst 1, 1) := by decide +kernel
theorem dL_holds_11 : decode cL_holds 11 = .ok (.aload_n 0, 1) := by decide +kernel
theorem dL_holds_12 : decode cL_holds 12 = .ok (.iconst 1, 1) := by decide +kernel
theorem dL_holds_13 : decode cL_holds 13 = .ok (.invokestatic 56, 3) := by decide +kernel
theorem dL_holds_16 : decode cL_holds 16 = .ok (.ishl, 1) := by decide +kernel
theorem dL_holds_17 : decode cL_holds 17 = .ok (.if_icmp .ne 34, 3) := by decide +kernel
theorem dL_holds_20 : decode cL_holds 20 = .ok (.aload_n 0, 1) := by decide +kernel
theorem dL_holds_21 : decode cL_holds 21 = .ok (.iconst 3, 1) := by decide +kernel
theorem dL_holds_22 : decode cL_holds 22 = .ok (.invokestatic 56, 3) := by decide +kernel
theorem dL_holds_25 : decode cL_holds 25 = .ok (.aload_n 0, 1) := by decide +kernel
theorem dL_holds_26 : decode cL_holds 26 = .ok (.iconst 4, 1) := by decide +kernel
theorem dL_holds_27 : decode cL_holds 27 = .ok (.invokestatic 56, 3) := by decide +kernel
theorem dL_holds_30 : decode cL_holds 30 = .ok (.invokestatic 70, 3) := by decide +kernel
theorem dL_holds_33 : decode cL_holds 33 = .ok (.if_icmp .ne 18, 3) := by decide +kernel
theorem dL_holds_36 : decode cL_holds 36 = .ok (.aload_n 0, 1) := by decide +kernel
theorem dL_holds_37 : decode cL_holds 37 = .ok (.iconst 4, 1) := by decide +kernel
theorem dL_holds_38 : decode cL_holds 38 = .ok (.invokestatic 56, 3) := by decide +kernel
theorem dL_holds_41 : decode cL_holds 41 = .ok (.iconst 1, 1) := by decide +kernel
theorem dL_holds_42 : decode cL_holds 42 = .ok (.iload_n 1, 1) := by decide +kernel
theorem dL_holds_43 : decode cL_holds 43 = .ok (.ishl, 1) := by decide +kernel
theorem dL_holds_44 : decode cL_holds 44 = .ok (.if_icmp .ge 7, 3) := by decide +kernel
theorem dL_holds_47 : decode cL_holds 47 = .ok (.iconst 1, 1) := by decide +kernel
theorem dL_holds_48 : decode cL_holds 48 = .ok (.goto 4, 3) := by decide +kernel
theorem dL_holds_51 : decode cL_holds 51 = .ok (.iconst 0, 1) := by decide +kernel
theorem dL_holds_52 : decode cL_holds 52 = .ok (.istore_n 3, 1) := by decide +kernel
theorem dL_holds_53 : decode cL_holds 53 = .ok (.iconst 0, 1) := by decide +kernel
theorem dL_holds_54 : decode cL_holds 54 = .ok (.istore 4, 2) := by decide +kernel
theorem dL_holds_56 : decode cL_holds 56 = .ok (.iload 4, 2) := by decide +kernel
theorem dL_holds_58 : decode cL_holds 58 = .ok (.iload_n 1, 1) := by decide +kernel
theorem dL_holds_59 : decode cL_holds 59 = .ok (.if_icmp .ge 93, 3) := by decide +kernel
theorem dL_holds_62 : decode cL_holds 62 = .ok (.iload_n 3, 1) := by decide +kernel
theorem dL_holds_63 : decode cL_holds 63 = .ok (.ifCond .eq 89, 3) := by decide +kernel
theorem dL_holds_66 : decode cL_holds 66 = .ok (.aload_n 0, 1) := by decide +kernel
theorem dL_holds_67 : decode cL_holds 67 = .ok (.iload 4, 2) := by decide +kernel
theorem dL_holds_69 : decode cL_holds 69 = .ok (.invokestatic 73, 3) := by decide +kernel
theorem dL_holds_72 : decode cL_holds 72 = .ok (.istore 5, 2) := by decide +kernel
theorem dL_holds_74 : decode cL_holds 74 = .ok (.iload_n 2, 1) := by decide +kernel
theorem dL_holds_75 : decode cL_holds 75 = .ok (.iload 5, 2) := by decide +kernel
theorem dL_holds_77 : decode cL_holds 77 = .ok (.ifCond .le 7, 3) := by decide +kernel
theorem dL_holds_80 : decode cL_holds 80 = .ok (.iconst 1, 1) := by decide +kernel
theorem dL_holds_81 : decode cL_holds 81 = .ok (.goto 4, 3) := by decide +kernel
theorem dL_holds_84 : decode cL_holds 84 = .ok (.iconst 0, 1) := by decide +kernel
theorem dL_holds_85 : decode cL_holds 85 = .ok (.iadd, 1) := by decide +kernel
theorem dL_holds_86 : decode cL_holds 86 = .ok (.istore_n 2, 1) := by decide +kernel
theorem dL_holds_87 : decode cL_holds 87 = .ok (.iload 5, 2) := by decide +kernel
theorem dL_holds_89 : decode cL_holds 89 = .ok (.ifCond .lt 55, 3) := by decide +kernel
theorem dL_holds_92 : decode cL_holds 92 = .ok (.iload 5, 2) := by decide +kernel
theorem dL_holds_94 : decode cL_holds 94 = .ok (.iconst 1, 1) := by decide +kernel
theorem dL_holds_95 : decode cL_holds 95 = .ok (.aload_n 0, 1) := by decide +kernel
theorem dL_holds_96 : decode cL_holds 96 = .ok (.iconst 0, 1) := by decide +kernel
theorem dL_holds_97 : decode cL_holds 97 = .ok (.invokestatic 56, 3) := by decide +kernel
theorem dL_holds_100 : decode cL_holds 100 = .ok (.aload_n 0, 1) := by decide +kernel
theorem dL_holds_101 : decode cL_holds 101 = .ok (.iconst 1, 1) := by decide +kernel
theorem dL_holds_102 : decode cL_holds 102 = .ok (.invokestatic 56, 3) := by decide +kernel
theorem dL_holds_105 : decode cL_holds 105 = .ok (.isub, 1) := by decide +kernel
theorem dL_holds_106 : decode cL_holds 106 = .ok (.ishl, 1) := by decide +kernel
theorem dL_holds_107 : decode cL_holds 107 = .ok (.if_icmp .gt 37, 3) := by decide +kernel
theorem dL_holds_110 : decode cL_holds 110 = .ok (.aload_n 0, 1) := by decide +kernel
theorem dL_holds_111 : decode cL_holds 111 = .ok (.iconst 1, 1) := by decide +kernel
theorem dL_holds_112 : decode cL_holds 112 = .ok (.iload 4, 2) := by decide +kernel
theorem dL_holds_114 : decode cL_holds 114 = .ok (.ishl, 1) := by decide +kernel
theorem dL_holds_115 : decode cL_holds 115 = .ok (.invokestatic 75, 3) := by decide +kernel
theorem dL_holds_118 : decode cL_holds 118 = .ok (.iconst 1, 1) := by decide +kernel
theorem dL_holds_119 : decode cL_holds 119 = .ok (.if_icmp .ne 7, 3) := by decide +kernel
theorem dL_holds_122 : decode cL_holds 122 = .ok (.iconst 1, 1) := by decide +kernel
theorem dL_holds_123 : decode cL_holds 123 = .ok (.goto 4, 3) := by decide +kernel
theorem dL_holds_126 : decode cL_holds 126 = .ok (.iconst 0, 1) := by decide +kernel
theorem dL_holds_127 : decode cL_holds 127 = .ok (.iload 5, 2) := by decide +kernel
theorem dL_holds_129 : decode cL_holds 129 = .ok (.ifCond .le 7, 3) := by decide +kernel
theorem dL_holds_132 : decode cL_holds 132 = .ok (.iconst 1, 1) := by decide +kernel
theorem dL_holds_133 : decode cL_holds 133 = .ok (.goto 4, 3) := by decide +kernel
theorem dL_holds_136 : decode cL_holds 136 = .ok (.iconst 0, 1) := by decide +kernel
theorem dL_holds_137 : decode cL_holds 137 = .ok (.if_icmp .ne 7, 3) := by decide +kernel
theorem dL_holds_140 : decode cL_holds 140 = .ok (.iconst 1, 1) := by decide +kernel
theorem dL_holds_141 : decode cL_holds 141 = .ok (.goto 4, 3) := by decide +kernel
theorem dL_holds_144 : decode cL_holds 144 = .ok (.iconst 0, 1) := by decide +kernel
theorem dL_holds_145 : decode cL_holds 145 = .ok (.istore_n 3, 1) := by decide +kernel
theorem dL_holds_146 : decode cL_holds 146 = .ok (.iinc 4 1, 3) := by decide +kernel
theorem dL_holds_149 : decode cL_holds 149 = .ok (.goto (-93), 3) := by decide +kernel
theorem dL_holds_152 : decode cL_holds 152 = .ok (.aload_n 0, 1) := by decide +kernel
theorem dL_holds_153 : decode cL_holds 153 = .ok (.iconst 1, 1) := by decide +kernel
theorem dL_holds_154 : decode cL_holds 154 = .ok (.iload_n 1, 1) := by decide +kernel
theorem dL_holds_155 : decode cL_holds 155 = .ok (.ishl, 1) := by decide +kernel
theorem dL_holds_156 : decode cL_holds 156 = .ok (.iconst 1, 1) := by decide +kernel
theorem dL_holds_157 : decode cL_holds 157 = .ok (.isub, 1) := by decide +kernel
theorem dL_holds_158 : decode cL_holds 158 = .ok (.invokestatic 75, 3) := by decide +kernel
theorem dL_holds_161 : decode cL_holds 161 = .ok (.istore 4, 2) := by decide +kernel
theorem dL_holds_163 : decode cL_holds 163 = .ok (.aload_n 0, 1) := by decide +kernel
theorem dL_holds_164 : decode cL_holds 164 = .ok (.invokevirtual 77, 3) := by decide +kernel
theorem dL_holds_167 : decode cL_holds 167 = .ok (.istore 5, 2) := by decide +kernel
theorem dL_holds_169 : decode cL_holds 169 = .ok (.iload_n 3, 1) := by decide +kernel
theorem dL_holds_170 : decode cL_holds 170 = .ok (.ifCond .eq 111, 3) := by decide +kernel
theorem dL_holds_173 : decode cL_holds 173 = .ok (.aload_n 0, 1) := by decide +kernel
theorem dL_holds_174 : decode cL_holds 174 = .ok (.invokevirtual 53, 3) := by decide +kernel
theorem dL_holds_177 : decode cL_holds 177 = .ok (.ifCond .ne 7, 3) := by decide +kernel
theorem dL_holds_180 : decode cL_holds 180 = .ok (.iconst 1, 1) := by decide +kernel
theorem dL_holds_181 : decode cL_holds 181 = .ok (.goto 4, 3) := by decide +kernel
theorem dL_holds_184 : decode cL_holds 184 = .ok (.iconst 0, 1) := by decide +kernel
theorem dL_holds_185 : decode cL_holds 185 = .ok (.iload 4, 2) := by decide +kernel
theorem dL_holds_187 : decode cL_holds 187 = .ok (.iconst 1, 1) := by decide +kernel
theorem dL_holds_188 : decode cL_holds 188 = .ok (.if_icmp .ne 7, 3) := by decide +kernel
theorem dL_holds_191 : decode cL_holds 191 = .ok (.iconst 1, 1) := by decide +kernel
theorem dL_holds_192 : decode cL_holds 192 = .ok (.goto 4, 3) := by decide +kernel
theorem dL_holds_195 : decode cL_holds 195 = .ok (.iconst 0, 1) := by decide +kernel
theorem dL_holds_196 : decode cL_holds 196 = .ok (.if_icmp .ne 85, 3) := by decide +kernel
theorem dL_holds_199 : decode cL_holds 199 = .ok (.iload 4, 2) := by decide +kernel
theorem dL_holds_201 : decode cL_holds 201 = .ok (.ifCond .eq 8, 3) := by decide +kernel
theorem dL_holds_204 : decode cL_holds 204 = .ok (.iload_n 2, 1) := by decide +kernel
theorem dL_holds_205 : decode cL_holds 205 = .ok (.iload_n 1, 1) := by decide +kernel
theorem dL_holds_206 : decode cL_holds 206 = .ok (.if_icmp .ne 75, 3) := by decide +kernel
theorem dL_holds_209 : decode cL_holds 209 = .ok (.iload_n 2, 1) := by decide +kernel
theorem dL_holds_210 : decode cL_holds 210 = .ok (.iload_n 1, 1) := by decide +kernel
theorem dL_holds_211 : decode cL_holds 211 = .ok (.if_icmp .eq 9, 3) := by decide +kernel
theorem dL_holds_214 : decode cL_holds 214 = .ok (.iload 5, 2) := by decide +kernel
theorem dL_holds_216 : decode cL_holds 216 = .ok (.iconst 1, 1) := by decide +kernel
theorem dL_holds_217 : decode cL_holds 217 = .ok (.if_icmp .ne 64, 3) := by decide +kernel
theorem dL_holds_220 : decode cL_holds 220 = .ok (.aload_n 0, 1) := by decide +kernel
theorem dL_holds_221 : decode cL_holds 221 = .ok (.iconst 0, 1) := by decide +kernel
theorem dL_holds_222 : decode cL_holds 222 = .ok (.invokestatic 75, 3) := by decide +kernel
theorem dL_holds_225 : decode cL_holds 225 = .ok (.iconst 1, 1) := by decide +kernel
theorem dL_holds_226 : decode cL_holds 226 = .ok (.if_icmp .ne 55, 3) := by decide +kernel
theorem dL_holds_229 : decode cL_holds 229 = .ok (.aload_n 0, 1) := by decide +kernel
theorem dL_holds_230 : decode cL_holds 230 = .ok (.invokevirtual 80, 3) := by decide +kernel
theorem dL_holds_233 : decode cL_holds 233 = .ok (.aload_n 0, 1) := by decide +kernel
theorem dL_holds_234 : decode cL_holds 234 = .ok (.iconst 3, 1) := by decide +kernel
theorem dL_holds_235 : decode cL_holds 235 = .ok (.invokestatic 56, 3) := by decide +kernel
theorem dL_holds_238 : decode cL_holds 238 = .ok (.aload_n 0, 1) := by decide +kernel
theorem dL_holds_239 : decode cL_holds 239 = .ok (.iconst 0, 1) := by decide +kernel
theorem dL_holds_240 : decode cL_holds 240 = .ok (.invokestatic 56, 3) := by decide +kernel
theorem dL_holds_243 : decode cL_holds 243 = .ok (.aload_n 0, 1) := by decide +kernel
theorem dL_holds_244 : decode cL_holds 244 = .ok (.iconst 1, 1) := by decide +kernel
theorem dL_holds_245 : decode cL_holds 245 = .ok (.invokestatic 56, 3) := by decide +kernel
theorem dL_holds_248 : decode cL_holds 248 = .ok (.isub, 1) := by decide +kernel
theorem dL_holds_249 : decode cL_holds 249 = .ok (.imul, 1) := by decide +kernel
theorem dL_holds_250 : decode cL_holds 250 = .ok (.if_icmp .gt 31, 3) := by decide +kernel
theorem dL_holds_253 : decode cL_holds 253 = .ok (.iload 5, 2) := by decide +kernel
theorem dL_holds_255 : decode cL_holds 255 = .ok (.ifCond .ge 7, 3) := by decide +kernel
theorem dL_holds_258 : decode cL_holds 258 = .ok (.iconst 1, 1) := by decide +kernel
theorem dL_holds_259 : decode cL_holds 259 = .ok (.goto 4, 3) := by decide +kernel
theorem dL_holds_262 : decode cL_holds 262 = .ok (.iconst 0, 1) := by decide +kernel
theorem dL_holds_263 : decode cL_holds 263 = .ok (.iload 4, 2) := by decide +kernel
theorem dL_holds_265 : decode cL_holds 265 = .ok (.iconst 1, 1) := by decide +kernel
theorem dL_holds_266 : decode cL_holds 266 = .ok (.if_icmp .ne 7, 3) := by decide +kernel
theorem dL_holds_269 : decode cL_holds 269 = .ok (.iconst 1, 1) := by decide +kernel
theorem dL_holds_270 : decode cL_holds 270 = .ok (.goto 4, 3) := by decide +kernel
theorem dL_holds_273 : decode cL_holds 273 = .ok (.iconst 0, 1) := by decide +kernel
theorem dL_holds_274 : decode cL_holds 274 = .ok (.if_icmp .ne 7, 3) := by decide +kernel
theorem dL_holds_277 : decode cL_holds 277 = .ok (.iconst 1, 1) := by decide +kernel
theorem dL_holds_278 : decode cL_holds 278 = .ok (.goto 4, 3) := by decide +kernel
theorem dL_holds_281 : decode cL_holds 281 = .ok (.iconst 0, 1) := by decide +kernel
theorem dL_holds_282 : decode cL_holds 282 = .ok (.ireturn, 1) := by decide +kernel
theorem dL_learns_0 : decode cL_learns 0 = .ok (.aload_n 0, 1) := by decide +kernel
theorem dL_learns_1 : decode cL_learns 1 = .ok (.invokevirtual 53, 3) := by decide +kernel
theorem dL_learns_4 : decode cL_learns 4 = .ok (.istore_n 1, 1) := by decide +kernel
theorem dL_learns_5 : decode cL_learns 5 = .ok (.aload_n 0, 1) := by decide +kernel
theorem dL_learns_6 : decode cL_learns 6 = .ok (.invokevirtual 83, 3) := by decide +kernel
theorem dL_learns_9 : decode cL_learns 9 = .ok (.istore_n 2, 1) := by decide +kernel
theorem dL_learns_10 : decode cL_learns 10 = .ok (.aload_n 0, 1) := by decide +kernel
theorem dL_learns_11 : decode cL_learns 11 = .ok (.iconst 4, 1) := by decide +kernel
theorem dL_learns_12 : decode cL_learns 12 = .ok (.invokestatic 56, 3) := by decide +kernel
theorem dL_learns_15 : decode cL_learns 15 = .ok (.istore_n 3, 1) := by decide +kernel
theorem dL_learns_16 : decode cL_learns 16 = .ok (.aload_n 0, 1) := by decide +kernel
theorem dL_learns_17 : decode cL_learns 17 = .ok (.invokevirtual 86, 3) := by decide +kernel
theorem dL_learns_20 : decode cL_learns 20 = .ok (.istore 4, 2) := by decide +kernel
theorem dL_learns_22 : decode cL_learns 22 = .ok (.iload_n 2, 1) := by decide +kernel
theorem dL_learns_23 : decode cL_learns 23 = .ok (.ifCond .lt 53, 3) := by decide +kernel
theorem dL_learns_26 : decode cL_learns 26 = .ok (.iload_n 2, 1) := by decide +kernel
theorem dL_learns_27 : decode cL_learns 27 = .ok (.bipush 8, 2) := by decide +kernel
theorem dL_learns_29 : decode cL_learns 29 = .ok (.if_icmp .gt 47, 3) := by decide +kernel
theorem dL_learns_32 : decode cL_learns 32 = .ok (.iload 4, 2) := by decide +kernel
theorem dL_learns_34 : decode cL_learns 34 = .ok (.iload_n 1, 1) := by decide +kernel
theorem dL_learns_35 : decode cL_learns 35 = .ok (.ifCond .ne 8, 3) := by decide +kernel
theorem dL_learns_38 : decode cL_learns 38 = .ok (.bipush (-2), 2) := by decide +kernel
theorem dL_learns_40 : decode cL_learns 40 = .ok (.goto 4, 3) := by decide +kernel
theorem dL_learns_43 : decode cL_learns 43 = .ok (.iconst (-1), 1) := by decide +kernel
theorem dL_learns_44 : decode cL_learns 44 = .ok (.if_icmp .ne 32, 3) := by decide +kernel
theorem dL_learns_47 : decode cL_learns 47 = .ok (.aload_n 0, 1) := by decide +kernel
theorem dL_learns_48 : decode cL_learns 48 = .ok (.iconst 4, 1) := by decide +kernel
theorem dL_learns_49 : decode cL_learns 49 = .ok (.invokestatic 56, 3) := by decide +kernel
theorem dL_learns_52 : decode cL_learns 52 = .ok (.iload_n 3, 1) := by decide +kernel
theorem dL_learns_53 : decode cL_learns 53 = .ok (.if_icmp .ne 23, 3) := by decide +kernel
theorem dL_learns_56 : decode cL_learns 56 = .ok (.iload_n 1, 1) := by decide +kernel
theorem dL_learns_57 : decode cL_learns 57 = .ok (.ifCond .eq 15, 3) := by decide +kernel
theorem dL_learns_60 : decode cL_learns 60 = .ok (.aload_n 0, 1) := by decide +kernel
theorem dL_learns_61 : decode cL_learns 61 = .ok (.iconst 3, 1) := by decide +kernel
theorem dL_learns_62 : decode cL_learns 62 = .ok (.invokestatic 56, 3) := by decide +kernel
theorem dL_learns_65 : decode cL_learns 65 = .ok (.aload_n 0, 1) := by decide +kernel
theorem dL_learns_66 : decode cL_learns 66 = .ok (.invokevirtual 77, 3) := by decide +kernel
theorem dL_learns_69 : decode cL_learns 69 = .ok (.if_icmp .lt 7, 3) := by decide +kernel
theorem dL_learns_72 : decode cL_learns 72 = .ok (.iconst 1, 1) := by decide +kernel
theorem dL_learns_73 : decode cL_learns 73 = .ok (.goto 4, 3) := by decide +kernel
theorem dL_learns_76 : decode cL_learns 76 = .ok (.iconst 0, 1) := by decide +kernel
theorem dL_learns_77 : decode cL_learns 77 = .ok (.ireturn, 1) := by decide +kernel
theorem dL_law_0 : decode cL_law 0 = .ok (.new 9, 3) := by decide +kernel
theorem dL_law_3 : decode cL_law 3 = .ok (.dup, 1) := by decide +kernel
theorem dL_law_4 : decode cL_law 4 = .ok (.invokespecial 89, 3) := by decide +kernel
theorem dL_law_7 : decode cL_law 7 = .ok (.astore_n 1, 1) := by decide +kernel
theorem dL_law_8 : decode cL_law 8 = .ok (.aload_n 1, 1) := by decide +kernel
theorem dL_law_9 : decode cL_law 9 = .ok (.invokestatic 90, 3) := by decide +kernel
theorem dL_law_12 : decode cL_law 12 = .ok (.istore_n 2, 1) := by decide +kernel
theorem dL_law_13 : decode cL_law 13 = .ok (.iconst 1, 1) := by decide +kernel
theorem dL_law_14 : decode cL_law 14 = .ok (.aload_n 0, 1) := by decide +kernel
theorem dL_law_15 : decode cL_law 15 = .ok (.iconst 0, 1) := by decide +kernel
theorem dL_law_16 : decode cL_law 16 = .ok (.invokestatic 94, 3) := by decide +kernel
theorem dL_law_19 : decode cL_law 19 = .ok (.bipush 6, 2) := by decide +kernel
theorem dL_law_21 : decode cL_law 21 = .ok (.irem, 1) := by decide +kernel
theorem dL_law_22 : decode cL_law 22 = .ok (.iadd, 1) := by decide +kernel
theorem dL_law_23 : decode cL_law 23 = .ok (.istore_n 3, 1) := by decide +kernel
theorem dL_law_24 : decode cL_law 24 = .ok (.iconst 0, 1) := by decide +kernel
theorem dL_law_25 : decode cL_law 25 = .ok (.istore 4, 2) := by decide +kernel
theorem dL_law_27 : decode cL_law 27 = .ok (.iload 4, 2) := by decide +kernel
theorem dL_law_29 : decode cL_law 29 = .ok (.iload_n 3, 1) := by decide +kernel
theorem dL_law_30 : decode cL_law 30 = .ok (.if_icmp .ge 87, 3) := by decide +kernel
theorem dL_law_33 : decode cL_law 33 = .ok (.iload_n 2, 1) := by decide +kernel
theorem dL_law_34 : decode cL_law 34 = .ok (.ifCond .eq 83, 3) := by decide +kernel
theorem dL_law_37 : decode cL_law 37 = .ok (.aload_n 1, 1) := by decide +kernel
theorem dL_law_38 : decode cL_law 38 = .ok (.iconst 0, 1) := by decide +kernel
theorem dL_law_39 : decode cL_law 39 = .ok (.invokestatic 56, 3) := by decide +kernel
theorem dL_law_42 : decode cL_law 42 = .ok (.istore 5, 2) := by decide +kernel
theorem dL_law_44 : decode cL_law 44 = .ok (.aload_n 1, 1) := by decide +kernel
theorem dL_law_45 : decode cL_law 45 = .ok (.aload_n 0, 1) := by decide +kernel
theorem dL_law_46 : decode cL_law 46 = .ok (.iconst 1, 1) := by decide +kernel
theorem dL_law_47 : decode cL_law 47 = .ok (.iload 4, 2) := by decide +kernel
theorem dL_law_49 : decode cL_law 49 = .ok (.iadd, 1) := by decide +kernel
theorem dL_law_50 : decode cL_law 50 = .ok (.invokestatic 94, 3) := by decide +kernel
theorem dL_law_53 : decode cL_law 53 = .ok (.iconst 5, 1) := by decide +kernel
theorem dL_law_54 : decode cL_law 54 = .ok (.irem, 1) := by decide +kernel
theorem dL_law_55 : decode cL_law 55 = .ok (.iconst 2, 1) := by decide +kernel
theorem dL_law_56 : decode cL_law 56 = .ok (.if_icmp .le 7, 3) := by decide +kernel
theorem dL_law_59 : decode cL_law 59 = .ok (.iconst 1, 1) := by decide +kernel
theorem dL_law_60 : decode cL_law 60 = .ok (.goto 4, 3) := by decide +kernel
theorem dL_law_63 : decode cL_law 63 = .ok (.iconst 0, 1) := by decide +kernel
theorem dL_law_64 : decode cL_law 64 = .ok (.invokestatic 98, 3) := by decide +kernel
theorem dL_law_67 : decode cL_law 67 = .ok (.istore 6, 2) := by decide +kernel
theorem dL_law_69 : decode cL_law 69 = .ok (.iload 6, 2) := by decide +kernel
theorem dL_law_71 : decode cL_law 71 = .ok (.ifCond .ge 27, 3) := by decide +kernel
theorem dL_law_74 : decode cL_law 74 = .ok (.iload 6, 2) := by decide +kernel
theorem dL_law_76 : decode cL_law 76 = .ok (.ldc 16, 2) := by decide +kernel
theorem dL_law_78 : decode cL_law 78 = .ok (.if_icmp .ne 16, 3) := by decide +kernel
theorem dL_law_81 : decode cL_law 81 = .ok (.aload_n 1, 1) := by decide +kernel
theorem dL_law_82 : decode cL_law 82 = .ok (.iconst 1, 1) := by decide +kernel
theorem dL_law_83 : decode cL_law 83 = .ok (.invokestatic 56, 3) := by decide +kernel
theorem dL_law_86 : decode cL_law 86 = .ok (.iconst 3, 1) := by decide +kernel
theorem dL_law_87 : decode cL_law 87 = .ok (.if_icmp .ne 7, 3) := by decide +kernel
theorem dL_law_90 : decode cL_law 90 = .ok (.iconst 1, 1) := by decide +kernel
theorem dL_law_91 : decode cL_law 91 = .ok (.goto 19, 3) := by decide +kernel
theorem dL_law_94 : decode cL_law 94 = .ok (.iconst 0, 1) := by decide +kernel
theorem dL_law_95 : decode cL_law 95 = .ok (.goto 15, 3) := by decide +kernel
theorem dL_law_98 : decode cL_law 98 = .ok (.iload 6, 2) := by decide +kernel
theorem dL_law_100 : decode cL_law 100 = .ok (.iload 5, 2) := by decide +kernel
theorem dL_law_102 : decode cL_law 102 = .ok (.if_icmp .ne 7, 3) := by decide +kernel
theorem dL_law_105 : decode cL_law 105 = .ok (.iconst 1, 1) := by decide +kernel
theorem dL_law_106 : decode cL_law 106 = .ok (.goto 4, 3) := by decide +kernel
theorem dL_law_109 : decode cL_law 109 = .ok (.iconst 0, 1) := by decide +kernel
theorem dL_law_110 : decode cL_law 110 = .ok (.istore_n 2, 1) := by decide +kernel
theorem dL_law_111 : decode cL_law 111 = .ok (.iinc 4 1, 3) := by decide +kernel
theorem dL_law_114 : decode cL_law 114 = .ok (.goto (-87), 3) := by decide +kernel
theorem dL_law_117 : decode cL_law 117 = .ok (.iconst 1, 1) := by decide +kernel
theorem dL_law_118 : decode cL_law 118 = .ok (.aload_n 1, 1) := by decide +kernel
theorem dL_law_119 : decode cL_law 119 = .ok (.iconst 0, 1) := by decide +kernel
theorem dL_law_120 : decode cL_law 120 = .ok (.invokestatic 56, 3) := by decide +kernel
theorem dL_law_123 : decode cL_law 123 = .ok (.ishl, 1) := by decide +kernel
theorem dL_law_124 : decode cL_law 124 = .ok (.istore 4, 2) := by decide +kernel
theorem dL_law_126 : decode cL_law 126 = .ok (.iconst 0, 1) := by decide +kernel
theorem dL_law_127 : decode cL_law 127 = .ok (.istore 5, 2) := by decide +kernel
theorem dL_law_129 : decode cL_law 129 = .ok (.iload 5, 2) := by decide +kernel
theorem dL_law_131 : decode cL_law 131 = .ok (.bipush 14, 2) := by decide +kernel
theorem dL_law_133 : decode cL_law 133 = .ok (.if_icmp .ge 206, 3) := by decide +kernel
theorem dL_law_136 : decode cL_law 136 = .ok (.iload_n 2, 1) := by decide +kernel
theorem dL_law_137 : decode cL_law 137 = .ok (.ifCond .eq 202, 3) := by decide +kernel
theorem dL_law_140 : decode cL_law 140 = .ok (.aload_n 0, 1) := by decide +kernel
theorem dL_law_141 : decode cL_law 141 = .ok (.bipush 7, 2) := by decide +kernel
theorem dL_law_143 : decode cL_law 143 = .ok (.iload 5, 2) := by decide +kernel
theorem dL_law_145 : decode cL_law 145 = .ok (.iadd, 1) := by decide +kernel
theorem dL_law_146 : decode cL_law 146 = .ok (.invokestatic 94, 3) := by decide +kernel
theorem dL_law_149 : decode cL_law 149 = .ok (.istore 6, 2) := by decide +kernel
theorem dL_law_151 : decode cL_law 151 = .ok (.iload 6, 2) := by decide +kernel
theorem dL_law_153 : decode cL_law 153 = .ok (.iload 4, 2) := by decide +kernel
theorem dL_law_155 : decode cL_law 155 = .ok (.irem, 1) := by decide +kernel
theorem dL_law_156 : decode cL_law 156 = .ok (.iload 6, 2) := by decide +kernel
theorem dL_law_158 : decode cL_law 158 = .ok (.bipush 64, 2) := by decide +kernel
theorem dL_law_160 : decode cL_law 160 = .ok (.idiv, 1) := by decide +kernel
theorem dL_law_161 : decode cL_law 161 = .ok (.iload 4, 2) := by decide +kernel
theorem dL_law_163 : decode cL_law 163 = .ok (.irem, 1) := by decide +kernel
theorem dL_law_164 : decode cL_law 164 = .ok (.iand, 1) := by decide +kernel
theorem dL_law_165 : decode cL_law 165 = .ok (.istore 7, 2) := by decide +kernel
theorem dL_law_167 : decode cL_law 167 = .ok (.iload 6, 2) := by decide +kernel
theorem dL_law_169 : decode cL_law 169 = .ok (.sipush 4096, 3) := by decide +kernel
theorem dL_law_172 : decode cL_law 172 = .ok (.idiv, 1) := by decide +kernel
theorem dL_law_173 : decode cL_law 173 = .ok (.iload 4, 2) := by decide +kernel
theorem dL_law_175 : decode cL_law 175 = .ok (.irem, 1) := by decide +kernel
theorem dL_law_176 : decode cL_law 176 = .ok (.iload 7, 2) := by decide +kernel
theorem dL_law_178 : decode cL_law 178 = .ok (.iconst (-1), 1) := by decide +kernel
theorem dL_law_179 : decode cL_law 179 = .ok (.ixor, 1) := by decide +kernel
theorem dL_law_180 : decode cL_law 180 = .ok (.iand, 1) := by decide +kernel
theorem dL_law_181 : decode cL_law 181 = .ok (.istore 8, 2) := by decide +kernel
theorem dL_law_183 : decode cL_law 183 = .ok (.aload_n 1, 1) := by decide +kernel
theorem dL_law_184 : decode cL_law 184 = .ok (.iconst 2, 1) := by decide +kernel
theorem dL_law_185 : decode cL_law 185 = .ok (.invokestatic 56, 3) := by decide +kernel
theorem dL_law_188 : decode cL_law 188 = .ok (.istore 9, 2) := by decide +kernel
theorem dL_law_190 : decode cL_law 190 = .ok (.aload_n 1, 1) := by decide +kernel
theorem dL_law_191 : decode cL_law 191 = .ok (.invokevirtual 53, 3) := by decide +kernel
theorem dL_law_194 : decode cL_law 194 = .ok (.istore 10, 2) := by decide +kernel
theorem dL_law_196 : decode cL_law 196 = .ok (.aload_n 1, 1) := by decide +kernel
theorem dL_law_197 : decode cL_law 197 = .ok (.iload 7, 2) := by decide +kernel
theorem dL_law_199 : decode cL_law 199 = .ok (.iload 8, 2) := by decide +kernel
theorem dL_law_201 : decode cL_law 201 = .ok (.invokestatic 102, 3) := by decide +kernel
theorem dL_law_204 : decode cL_law 204 = .ok (.iload 9, 2) := by decide +kernel
theorem dL_law_206 : decode cL_law 206 = .ok (.if_icmp .ne 35, 3) := by decide +kernel
theorem dL_law_209 : decode cL_law 209 = .ok (.aload_n 1, 1) := by decide +kernel
theorem dL_law_210 : decode cL_law 210 = .ok (.invokestatic 90, 3) := by decide +kernel
theorem dL_law_213 : decode cL_law 213 = .ok (.ifCond .eq 28, 3) := by decide +kernel
theorem dL_law_216 : decode cL_law 216 = .ok (.iload 10, 2) := by decide +kernel
theorem dL_law_218 : decode cL_law 218 = .ok (.ifCond .eq 11, 3) := by decide +kernel
theorem dL_law_221 : decode cL_law 221 = .ok (.aload_n 1, 1) := by decide +kernel
theorem dL_law_222 : decode cL_law 222 = .ok (.invokevirtual 53, 3) := by decide +kernel
theorem dL_law_225 : decode cL_law 225 = .ok (.iconst 1, 1) := by decide +kernel
theorem dL_law_226 : decode cL_law 226 = .ok (.if_icmp .ne 15, 3) := by decide +kernel
theorem dL_law_229 : decode cL_law 229 = .ok (.aload_n 1, 1) := by decide +kernel
theorem dL_law_230 : decode cL_law 230 = .ok (.iconst 3, 1) := by decide +kernel
theorem dL_law_231 : decode cL_law 231 = .ok (.invokestatic 56, 3) := by decide +kernel
theorem dL_law_234 : decode cL_law 234 = .ok (.ifCond .ne 7, 3) := by decide +kernel
theorem dL_law_237 : decode cL_law 237 = .ok (.iconst 1, 1) := by decide +kernel
theorem dL_law_238 : decode cL_law 238 = .ok (.goto 4, 3) := by decide +kernel
theorem dL_law_241 : decode cL_law 241 = .ok (.iconst 0, 1) := by decide +kernel
theorem dL_law_242 : decode cL_law 242 = .ok (.istore_n 2, 1) := by decide +kernel
theorem dL_law_243 : decode cL_law 243 = .ok (.iload_n 2, 1) := by decide +kernel
theorem dL_law_244 : decode cL_law 244 = .ok (.ifCond .eq 36, 3) := by decide +kernel
theorem dL_law_247 : decode cL_law 247 = .ok (.iload 6, 2) := by decide +kernel
theorem dL_law_249 : decode cL_law 249 = .ok (.bipush 16, 2) := by decide +kernel
theorem dL_law_251 : decode cL_law 251 = .ok (.idiv, 1) := by decide +kernel
theorem dL_law_252 : decode cL_law 252 = .ok (.iconst 3, 1) := by decide +kernel
theorem dL_law_253 : decode cL_law 253 = .ok (.irem, 1) := by decide +kernel
theorem dL_law_254 : decode cL_law 254 = .ok (.ifCond .gt 10, 3) := by decide +kernel
theorem dL_law_257 : decode cL_law 257 = .ok (.aload_n 1, 1) := by decide +kernel
theorem dL_law_258 : decode cL_law 258 = .ok (.invokestatic 105, 3) := by decide +kernel
theorem dL_law_261 : decode cL_law 261 = .ok (.ifCond .eq 19, 3) := by decide +kernel
theorem dL_law_264 : decode cL_law 264 = .ok (.aload_n 1, 1) := by decide +kernel
theorem dL_law_265 : decode cL_law 265 = .ok (.iload 6, 2) := by decide +kernel
theorem dL_law_267 : decode cL_law 267 = .ok (.bipush 32, 2) := by decide +kernel
theorem dL_law_269 : decode cL_law 269 = .ok (.idiv, 1) := by decide +kernel
theorem dL_law_270 : decode cL_law 270 = .ok (.invokestatic 108, 3) := by decide +kernel
theorem dL_law_273 : decode cL_law 273 = .ok (.ifCond .eq 7, 3) := by decide +kernel
theorem dL_law_276 : decode cL_law 276 = .ok (.iconst 1, 1) := by decide +kernel
theorem dL_law_277 : decode cL_law 277 = .ok (.goto 4, 3) := by decide +kernel
theorem dL_law_280 : decode cL_law 280 = .ok (.iconst 0, 1) := by decide +kernel
theorem dL_law_281 : decode cL_law 281 = .ok (.istore_n 2, 1) := by decide +kernel
theorem dL_law_282 : decode cL_law 282 = .ok (.iload_n 2, 1) := by decide +kernel
theorem dL_law_283 : decode cL_law 283 = .ok (.ifCond .eq 50, 3) := by decide +kernel
theorem dL_law_286 : decode cL_law 286 = .ok (.iload 6, 2) := by decide +kernel
theorem dL_law_288 : decode cL_law 288 = .ok (.bipush 48, 2) := by decide +kernel
theorem dL_law_290 : decode cL_law 290 = .ok (.idiv, 1) := by decide +kernel
theorem dL_law_291 : decode cL_law 291 = .ok (.iconst 5, 1) := by decide +kernel
theorem dL_law_292 : decode cL_law 292 = .ok (.irem, 1) := by decide +kernel
theorem dL_law_293 : decode cL_law 293 = .ok (.ifCond .ne 40, 3) := by decide +kernel
theorem dL_law_296 : decode cL_law 296 = .ok (.aload_n 1, 1) := by decide +kernel
theorem dL_law_297 : decode cL_law 297 = .ok (.iload 6, 2) := by decide +kernel
theorem dL_law_299 : decode cL_law 299 = .ok (.iload 9, 2) := by decide +kernel
theorem dL_law_301 : decode cL_law 301 = .ok (.iconst 1, 1) := by decide +kernel
theorem dL_law_302 : decode cL_law 302 = .ok (.iadd, 1) := by decide +kernel
theorem dL_law_303 : decode cL_law 303 = .ok (.irem, 1) := by decide +kernel
theorem dL_law_304 : decode cL_law 304 = .ok (.invokestatic 112, 3) := by decide +kernel
theorem dL_law_307 : decode cL_law 307 = .ok (.iload 9, 2) := by decide +kernel
theorem dL_law_309 : decode cL_law 309 = .ok (.if_icmp .ne 22, 3) := by decide +kernel
theorem dL_law_312 : decode cL_law 312 = .ok (.aload_n 1, 1) := by decide +kernel
theorem dL_law_313 : decode cL_law 313 = .ok (.iconst 3, 1) := by decide +kernel
theorem dL_law_314 : decode cL_law 314 = .ok (.invokestatic 56, 3) := by decide +kernel
theorem dL_law_317 : decode cL_law 317 = .ok (.ifCond .ne 14, 3) := by decide +kernel
theorem dL_law_320 : decode cL_law 320 = .ok (.aload_n 1, 1) := by decide +kernel
theorem dL_law_321 : decode cL_law 321 = .ok (.invokestatic 90, 3) := by decide +kernel
theorem dL_law_324 : decode cL_law 324 = .ok (.ifCond .eq 7, 3) := by decide +kernel
theorem dL_law_327 : decode cL_law 327 = .ok (.iconst 1, 1) := by decide +kernel
theorem dL_law_328 : decode cL_law 328 = .ok (.goto 4, 3) := by decide +kernel
theorem dL_law_331 : decode cL_law 331 = .ok (.iconst 0, 1) := by decide +kernel
theorem dL_law_332 : decode cL_law 332 = .ok (.istore_n 2, 1) := by decide +kernel
theorem dL_law_333 : decode cL_law 333 = .ok (.iinc 5 1, 3) := by decide +kernel
theorem dL_law_336 : decode cL_law 336 = .ok (.goto (-207), 3) := by decide +kernel
theorem dL_law_339 : decode cL_law 339 = .ok (.aload_n 1, 1) := by decide +kernel
theorem dL_law_340 : decode cL_law 340 = .ok (.iconst 2, 1) := by decide +kernel
theorem dL_law_341 : decode cL_law 341 = .ok (.invokestatic 56, 3) := by decide +kernel
theorem dL_law_344 : decode cL_law 344 = .ok (.istore 5, 2) := by decide +kernel
theorem dL_law_346 : decode cL_law 346 = .ok (.iload_n 2, 1) := by decide +kernel
theorem dL_law_347 : decode cL_law 347 = .ok (.ifCond .eq 46, 3) := by decide +kernel
theorem dL_law_350 : decode cL_law 350 = .ok (.aload_n 1, 1) := by decide +kernel
theorem dL_law_351 : decode cL_law 351 = .ok (.invokevirtual 115, 3) := by decide +kernel
theorem dL_law_354 : decode cL_law 354 = .ok (.iload 4, 2) := by decide +kernel
theorem dL_law_356 : decode cL_law 356 = .ok (.iconst 1, 1) := by decide +kernel
theorem dL_law_357 : decode cL_law 357 = .ok (.isub, 1) := by decide +kernel
theorem dL_law_358 : decode cL_law 358 = .ok (.invokestatic 70, 3) := by decide +kernel
theorem dL_law_361 : decode cL_law 361 = .ok (.if_icmp .ne 32, 3) := by decide +kernel
theorem dL_law_364 : decode cL_law 364 = .ok (.aload_n 1, 1) := by decide +kernel
theorem dL_law_365 : decode cL_law 365 = .ok (.iconst 2, 1) := by decide +kernel
theorem dL_law_366 : decode cL_law 366 = .ok (.invokestatic 56, 3) := by decide +kernel
theorem dL_law_369 : decode cL_law 369 = .ok (.ifCond .ne 24, 3) := by decide +kernel
theorem dL_law_372 : decode cL_law 372 = .ok (.aload_n 1, 1) := by decide +kernel
theorem dL_law_373 : decode cL_law 373 = .ok (.invokestatic 118, 3) := by decide +kernel
theorem dL_law_376 : decode cL_law 376 = .ok (.ifCond .lt 17, 3) := by decide +kernel
theorem dL_law_379 : decode cL_law 379 = .ok (.aload_n 1, 1) := by decide +kernel
theorem dL_law_380 : decode cL_law 380 = .ok (.iconst 2, 1) := by decide +kernel
theorem dL_law_381 : decode cL_law 381 = .ok (.invokestatic 56, 3) := by decide +kernel
theorem dL_law_384 : decode cL_law 384 = .ok (.iload 5, 2) := by decide +kernel
theorem dL_law_386 : decode cL_law 386 = .ok (.if_icmp .ne 7, 3) := by decide +kernel
theorem dL_law_389 : decode cL_law 389 = .ok (.iconst 1, 1) := by decide +kernel
theorem dL_law_390 : decode cL_law 390 = .ok (.goto 4, 3) := by decide +kernel
theorem dL_law_393 : decode cL_law 393 = .ok (.iconst 0, 1) := by decide +kernel
theorem dL_law_394 : decode cL_law 394 = .ok (.ireturn, 1) := by decide +kernel
