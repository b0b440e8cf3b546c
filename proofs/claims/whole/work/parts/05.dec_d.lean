theorem dX9_open_5 : decode cX9_open 5 = .ok (.iload_n 1, 1) := by decide +kernel
theorem dX9_open_6 : decode cX9_open 6 = .ok (.ifCond .eq 11, 3) := by decide +kernel
theorem dX9_open_9 : decode cX9_open 9 = .ok (.aload_n 0, 1) := by decide +kernel
theorem dX9_open_10 : decode cX9_open 10 = .ok (.iload_n 1, 1) := by decide +kernel
theorem dX9_open_11 : decode cX9_open 11 = .ok (.invokevirtual 222, 3) := by decide +kernel
theorem dX9_open_14 : decode cX9_open 14 = .ok (.ifCond .lt 5, 3) := by decide +kernel
theorem dX9_open_17 : decode cX9_open 17 = .ok (.iconst (-1), 1) := by decide +kernel
theorem dX9_open_18 : decode cX9_open 18 = .ok (.ireturn, 1) := by decide +kernel
theorem dX9_open_19 : decode cX9_open 19 = .ok (.aload_n 0, 1) := by decide +kernel
theorem dX9_open_20 : decode cX9_open 20 = .ok (.getfield 17, 3) := by decide +kernel
theorem dX9_open_23 : decode cX9_open 23 = .ok (.iconst 1, 1) := by decide +kernel
theorem dX9_open_24 : decode cX9_open 24 = .ok (.iaload, 1) := by decide +kernel
theorem dX9_open_25 : decode cX9_open 25 = .ok (.bipush 10, 2) := by decide +kernel
theorem dX9_open_27 : decode cX9_open 27 = .ok (.if_icmp .ne 6, 3) := by decide +kernel
theorem dX9_open_30 : decode cX9_open 30 = .ok (.bipush (-4), 2) := by decide +kernel
theorem dX9_open_32 : decode cX9_open 32 = .ok (.ireturn, 1) := by decide +kernel
theorem dX9_open_33 : decode cX9_open 33 = .ok (.aload_n 0, 1) := by decide +kernel
theorem dX9_open_34 : decode cX9_open 34 = .ok (.invokevirtual 69, 3) := by decide +kernel
theorem dX9_open_37 : decode cX9_open 37 = .ok (.aload_n 0, 1) := by decide +kernel
theorem dX9_open_38 : decode cX9_open 38 = .ok (.iload_n 1, 1) := by decide +kernel
theorem dX9_open_39 : decode cX9_open 39 = .ok (.invokevirtual 225, 3) := by decide +kernel
theorem dX9_open_42 : decode cX9_open 42 = .ok (.aload_n 0, 1) := by decide +kernel
theorem dX9_open_43 : decode cX9_open 43 = .ok (.iconst 0, 1) := by decide +kernel
theorem dX9_open_44 : decode cX9_open 44 = .ok (.putfield 181, 3) := by decide +kernel
theorem dX9_open_47 : decode cX9_open 47 = .ok (.aload_n 0, 1) := by decide +kernel
theorem dX9_open_48 : decode cX9_open 48 = .ok (.iconst 0, 1) := by decide +kernel
theorem dX9_open_49 : decode cX9_open 49 = .ok (.aload_n 0, 1) := by decide +kernel
theorem dX9_open_50 : decode cX9_open 50 = .ok (.getfield 17, 3) := by decide +kernel
theorem dX9_open_53 : decode cX9_open 53 = .ok (.iconst 1, 1) := by decide +kernel
theorem dX9_open_54 : decode cX9_open 54 = .ok (.iaload, 1) := by decide +kernel
theorem dX9_open_55 : decode cX9_open 55 = .ok (.iconst 1, 1) := by decide +kernel
theorem dX9_open_56 : decode cX9_open 56 = .ok (.isub, 1) := by decide +kernel
theorem dX9_open_57 : decode cX9_open 57 = .ok (.aload_n 0, 1) := by decide +kernel
theorem dX9_open_58 : decode cX9_open 58 = .ok (.getfield 17, 3) := by decide +kernel
theorem dX9_open_61 : decode cX9_open 61 = .ok (.iconst 1, 1) := by decide +kernel
theorem dX9_open_62 : decode cX9_open 62 = .ok (.iaload, 1) := by decide +kernel
theorem dX9_open_63 : decode cX9_open 63 = .ok (.invokevirtual 140, 3) := by decide +kernel
theorem dX9_open_66 : decode cX9_open 66 = .ok (.aload_n 0, 1) := by decide +kernel
theorem dX9_open_67 : decode cX9_open 67 = .ok (.aload_n 0, 1) := by decide +kernel
theorem dX9_open_68 : decode cX9_open 68 = .ok (.getfield 17, 3) := by decide +kernel
theorem dX9_open_71 : decode cX9_open 71 = .ok (.iconst 1, 1) := by decide +kernel
theorem dX9_open_72 : decode cX9_open 72 = .ok (.iaload, 1) := by decide +kernel
theorem dX9_open_73 : decode cX9_open 73 = .ok (.iconst 1, 1) := by decide +kernel
theorem dX9_open_74 : decode cX9_open 74 = .ok (.isub, 1) := by decide +kernel
theorem dX9_open_75 : decode cX9_open 75 = .ok (.invokevirtual 72, 3) := by decide +kernel
theorem dX9_open_78 : decode cX9_open 78 = .ok (.ireturn, 1) := by decide +kernel
theorem dX9_rename_0 : decode cX9_rename 0 = .ok (.aload_n 0, 1) := by decide +kernel
theorem dX9_rename_1 : decode cX9_rename 1 = .ok (.invokevirtual 252, 3) := by decide +kernel
theorem dX9_rename_4 : decode cX9_rename 4 = .ok (.istore_n 2, 1) := by decide +kernel
theorem dX9_rename_5 : decode cX9_rename 5 = .ok (.aload_n 0, 1) := by decide +kernel
theorem dX9_rename_6 : decode cX9_rename 6 = .ok (.iload_n 1, 1) := by decide +kernel
theorem dX9_rename_7 : decode cX9_rename 7 = .ok (.invokevirtual 80, 3) := by decide +kernel
theorem dX9_rename_10 : decode cX9_rename 10 = .ok (.ifCond .eq 15, 3) := by decide +kernel
theorem dX9_rename_13 : decode cX9_rename 13 = .ok (.iload_n 2, 1) := by decide +kernel
theorem dX9_rename_14 : decode cX9_rename 14 = .ok (.ifCond .eq 11, 3) := by decide +kernel
theorem dX9_rename_17 : decode cX9_rename 17 = .ok (.aload_n 0, 1) := by decide +kernel
theorem dX9_rename_18 : decode cX9_rename 18 = .ok (.iload_n 2, 1) := by decide +kernel
theorem dX9_rename_19 : decode cX9_rename 19 = .ok (.invokevirtual 222, 3) := by decide +kernel
theorem dX9_rename_22 : decode cX9_rename 22 = .ok (.ifCond .lt 5, 3) := by decide +kernel
theorem dX9_rename_25 : decode cX9_rename 25 = .ok (.iconst (-1), 1) := by decide +kernel
theorem dX9_rename_26 : decode cX9_rename 26 = .ok (.ireturn, 1) := by decide +kernel
theorem dX9_rename_27 : decode cX9_rename 27 = .ok (.iload_n 1, 1) := by decide +kernel
theorem dX9_rename_28 : decode cX9_rename 28 = .ok (.ifCond .ne 6, 3) := by decide +kernel
theorem dX9_rename_31 : decode cX9_rename 31 = .ok (.bipush (-3), 2) := by decide +kernel
theorem dX9_rename_33 : decode cX9_rename 33 = .ok (.ireturn, 1) := by decide +kernel
theorem dX9_rename_34 : decode cX9_rename 34 = .ok (.aload_n 0, 1) := by decide +kernel
theorem dX9_rename_35 : decode cX9_rename 35 = .ok (.invokevirtual 69, 3) := by decide +kernel
theorem dX9_rename_38 : decode cX9_rename 38 = .ok (.aload_n 0, 1) := by decide +kernel
theorem dX9_rename_39 : decode cX9_rename 39 = .ok (.getfield 181, 3) := by decide +kernel
theorem dX9_rename_42 : decode cX9_rename 42 = .ok (.istore_n 3, 1) := by decide +kernel
theorem dX9_rename_43 : decode cX9_rename 43 = .ok (.aload_n 0, 1) := by decide +kernel
theorem dX9_rename_44 : decode cX9_rename 44 = .ok (.getfield 17, 3) := by decide +kernel
theorem dX9_rename_47 : decode cX9_rename 47 = .ok (.iconst 3, 1) := by decide +kernel
theorem dX9_rename_48 : decode cX9_rename 48 = .ok (.iload_n 1, 1) := by decide +kernel
theorem dX9_rename_49 : decode cX9_rename 49 = .ok (.iadd, 1) := by decide +kernel
theorem dX9_rename_50 : decode cX9_rename 50 = .ok (.iload_n 2, 1) := by decide +kernel
theorem dX9_rename_51 : decode cX9_rename 51 = .ok (.iastore, 1) := by decide +kernel
theorem dX9_rename_52 : decode cX9_rename 52 = .ok (.aload_n 0, 1) := by decide +kernel
theorem dX9_rename_53 : decode cX9_rename 53 = .ok (.iconst 0, 1) := by decide +kernel
theorem dX9_rename_54 : decode cX9_rename 54 = .ok (.putfield 181, 3) := by decide +kernel
theorem dX9_rename_57 : decode cX9_rename 57 = .ok (.aload_n 0, 1) := by decide +kernel
theorem dX9_rename_58 : decode cX9_rename 58 = .ok (.bipush 9, 2) := by decide +kernel
theorem dX9_rename_60 : decode cX9_rename 60 = .ok (.iload_n 1, 1) := by decide +kernel
theorem dX9_rename_61 : decode cX9_rename 61 = .ok (.iload_n 3, 1) := by decide +kernel
theorem dX9_rename_62 : decode cX9_rename 62 = .ok (.invokevirtual 140, 3) := by decide +kernel
theorem dX9_rename_65 : decode cX9_rename 65 = .ok (.aload_n 0, 1) := by decide +kernel
theorem dX9_rename_66 : decode cX9_rename 66 = .ok (.iload_n 3, 1) := by decide +kernel
theorem dX9_rename_67 : decode cX9_rename 67 = .ok (.invokevirtual 72, 3) := by decide +kernel
theorem dX9_rename_70 : decode cX9_rename 70 = .ok (.ireturn, 1) := by decide +kernel
theorem dX9_onGaps_0 : decode cX9_onGaps 0 = .ok (.iconst 0, 1) := by decide +kernel
theorem dX9_onGaps_1 : decode cX9_onGaps 1 = .ok (.istore_n 1, 1) := by decide +kernel
theorem dX9_onGaps_2 : decode cX9_onGaps 2 = .ok (.iconst 0, 1) := by decide +kernel
theorem dX9_onGaps_3 : decode cX9_onGaps 3 = .ok (.istore_n 2, 1) := by decide +kernel
theorem dX9_onGaps_4 : decode cX9_onGaps 4 = .ok (.iload_n 2, 1) := by decide +kernel
theorem dX9_onGaps_5 : decode cX9_onGaps 5 = .ok (.aload_n 0, 1) := by decide +kernel
theorem dX9_onGaps_6 : decode cX9_onGaps 6 = .ok (.getfield 17, 3) := by decide +kernel
theorem dX9_onGaps_9 : decode cX9_onGaps 9 = .ok (.iconst 2, 1) := by decide +kernel
theorem dX9_onGaps_10 : decode cX9_onGaps 10 = .ok (.iaload, 1) := by decide +kernel
theorem dX9_onGaps_11 : decode cX9_onGaps 11 = .ok (.if_icmp .ge 25, 3) := by decide +kernel
theorem dX9_onGaps_14 : decode cX9_onGaps 14 = .ok (.iload_n 1, 1) := by decide +kernel
theorem dX9_onGaps_15 : decode cX9_onGaps 15 = .ok (.aload_n 0, 1) := by decide +kernel
theorem dX9_onGaps_16 : decode cX9_onGaps 16 = .ok (.iload_n 2, 1) := by decide +kernel
theorem dX9_onGaps_17 : decode cX9_onGaps 17 = .ok (.invokevirtual 87, 3) := by decide +kernel
theorem dX9_onGaps_20 : decode cX9_onGaps 20 = .ok (.ifCond .eq 7, 3) := by decide +kernel
theorem dX9_onGaps_23 : decode cX9_onGaps 23 = .ok (.iconst 1, 1) := by decide +kernel
theorem dX9_onGaps_24 : decode cX9_onGaps 24 = .ok (.goto 4, 3) := by decide +kernel
theorem dX9_onGaps_27 : decode cX9_onGaps 27 = .ok (.iconst 0, 1) := by decide +kernel
theorem dX9_onGaps_28 : decode cX9_onGaps 28 = .ok (.iadd, 1) := by decide +kernel
theorem dX9_onGaps_29 : decode cX9_onGaps 29 = .ok (.istore_n 1, 1) := by decide +kernel
theorem dX9_onGaps_30 : decode cX9_onGaps 30 = .ok (.iinc 2 1, 3) := by decide +kernel
theorem dX9_onGaps_33 : decode cX9_onGaps 33 = .ok (.goto (-29), 3) := by decide +kernel
theorem dX9_onGaps_36 : decode cX9_onGaps 36 = .ok (.iload_n 1, 1) := by decide +kernel
theorem dX9_onGaps_37 : decode cX9_onGaps 37 = .ok (.ireturn, 1) := by decide +kernel
theorem dX9_tightGaps_0 : decode cX9_tightGaps 0 = .ok (.aload_n 0, 1) := by decide +kernel
theorem dX9_tightGaps_1 : decode cX9_tightGaps 1 = .ok (.invokevirtual 126, 3) := by decide +kernel
theorem dX9_tightGaps_4 : decode cX9_tightGaps 4 = .ok (.istore_n 1, 1) := by decide +kernel
theorem dX9_tightGaps_5 : decode cX9_tightGaps 5 = .ok (.iconst 0, 1) := by decide +kernel
theorem dX9_tightGaps_6 : decode cX9_tightGaps 6 = .ok (.istore_n 2, 1) := by decide +kernel
theorem dX9_tightGaps_7 : decode cX9_tightGaps 7 = .ok (.iconst 0, 1) := by decide +kernel
theorem dX9_tightGaps_8 : decode cX9_tightGaps 8 = .ok (.istore_n 3, 1) := by decide +kernel
theorem dX9_tightGaps_9 : decode cX9_tightGaps 9 = .ok (.iload_n 3, 1) := by decide +kernel
theorem dX9_tightGaps_10 : decode cX9_tightGaps 10 = .ok (.aload_n 0, 1) := by decide +kernel
theorem dX9_tightGaps_11 : decode cX9_tightGaps 11 = .ok (.getfield 17, 3) := by decide +kernel
theorem dX9_tightGaps_14 : decode cX9_tightGaps 14 = .ok (.iconst 2, 1) := by decide +kernel
theorem dX9_tightGaps_15 : decode cX9_tightGaps 15 = .ok (.iaload, 1) := by decide +kernel
theorem dX9_tightGaps_16 : decode cX9_tightGaps 16 = .ok (.if_icmp .ge 25, 3) := by decide +kernel
theorem dX9_tightGaps_19 : decode cX9_tightGaps 19 = .ok (.iload_n 2, 1) := by decide +kernel
theorem dX9_tightGaps_20 : decode cX9_tightGaps 20 = .ok (.aload_n 0, 1) := by decide +kernel
theorem dX9_tightGaps_21 : decode cX9_tightGaps 21 = .ok (.iload_n 3, 1) := by decide +kernel
theorem dX9_tightGaps_22 : decode cX9_tightGaps 22 = .ok (.invokevirtual 130, 3) := by decide +kernel
theorem dX9_tightGaps_25 : decode cX9_tightGaps 25 = .ok (.ifCond .eq 7, 3) := by decide +kernel
theorem dX9_tightGaps_28 : decode cX9_tightGaps 28 = .ok (.iconst 1, 1) := by decide +kernel
theorem dX9_tightGaps_29 : decode cX9_tightGaps 29 = .ok (.goto 4, 3) := by decide +kernel
theorem dX9_tightGaps_32 : decode cX9_tightGaps 32 = .ok (.iconst 0, 1) := by decide +kernel
theorem dX9_tightGaps_33 : decode cX9_tightGaps 33 = .ok (.iadd, 1) := by decide +kernel
theorem dX9_tightGaps_34 : decode cX9_tightGaps 34 = .ok (.istore_n 2, 1) := by decide +kernel
theorem dX9_tightGaps_35 : decode cX9_tightGaps 35 = .ok (.iinc 3 1, 3) := by decide +kernel
theorem dX9_tightGaps_38 : decode cX9_tightGaps 38 = .ok (.goto (-29), 3) := by decide +kernel
theorem dX9_tightGaps_41 : decode cX9_tightGaps 41 = .ok (.iload_n 2, 1) := by decide +kernel
theorem dX9_tightGaps_42 : decode cX9_tightGaps 42 = .ok (.ireturn, 1) := by decide +kernel
theorem dX9_neededGaps_0 : decode cX9_neededGaps 0 = .ok (.iconst 0, 1) := by decide +kernel
theorem dX9_neededGaps_1 : decode cX9_neededGaps 1 = .ok (.istore_n 2, 1) := by decide +kernel
theorem dX9_neededGaps_2 : decode cX9_neededGaps 2 = .ok (.iconst 0, 1) := by decide +kernel
theorem dX9_neededGaps_3 : decode cX9_neededGaps 3 = .ok (.istore_n 3, 1) := by decide +kernel
theorem dX9_neededGaps_4 : decode cX9_neededGaps 4 = .ok (.iload_n 3, 1) := by decide +kernel
theorem dX9_neededGaps_5 : decode cX9_neededGaps 5 = .ok (.aload_n 0, 1) := by decide +kernel
theorem dX9_neededGaps_6 : decode cX9_neededGaps 6 = .ok (.getfield 17, 3) := by decide +kernel
theorem dX9_neededGaps_9 : decode cX9_neededGaps 9 = .ok (.iconst 2, 1) := by decide +kernel
theorem dX9_neededGaps_10 : decode cX9_neededGaps 10 = .ok (.iaload, 1) := by decide +kernel
theorem dX9_neededGaps_11 : decode cX9_neededGaps 11 = .ok (.if_icmp .ge 61, 3) := by decide +kernel
theorem dX9_neededGaps_14 : decode cX9_neededGaps 14 = .ok (.iload_n 1, 1) := by decide +kernel
theorem dX9_neededGaps_15 : decode cX9_neededGaps 15 = .ok (.ifCond .lt 23, 3) := by decide +kernel
theorem dX9_neededGaps_18 : decode cX9_neededGaps 18 = .ok (.aload_n 0, 1) := by decide +kernel
theorem dX9_neededGaps_19 : decode cX9_neededGaps 19 = .ok (.iload_n 3, 1) := by decide +kernel
theorem dX9_neededGaps_20 : decode cX9_neededGaps 20 = .ok (.iconst 0, 1) := by decide +kernel
theorem dX9_neededGaps_21 : decode cX9_neededGaps 21 = .ok (.invokevirtual 76, 3) := by decide +kernel
theorem dX9_neededGaps_24 : decode cX9_neededGaps 24 = .ok (.iload_n 1, 1) := by decide +kernel
theorem dX9_neededGaps_25 : decode cX9_neededGaps 25 = .ok (.if_icmp .eq 13, 3) := by decide +kernel
theorem dX9_neededGaps_28 : decode cX9_neededGaps 28 = .ok (.aload_n 0, 1) := by decide +kernel
theorem dX9_neededGaps_29 : decode cX9_neededGaps 29 = .ok (.iload_n 3, 1) := by decide +kernel
theorem dX9_neededGaps_30 : decode cX9_neededGaps 30 = .ok (.iconst 1, 1) := by decide +kernel
theorem dX9_neededGaps_31 : decode cX9_neededGaps 31 = .ok (.invokevirtual 76, 3) := by decide +kernel
theorem dX9_neededGaps_34 : decode cX9_neededGaps 34 = .ok (.iload_n 1, 1) := by decide +kernel
theorem dX9_neededGaps_35 : decode cX9_neededGaps 35 = .ok (.if_icmp .ne 7, 3) := by decide +kernel
theorem dX9_neededGaps_38 : decode cX9_neededGaps 38 = .ok (.iconst 1, 1) := by decide +kernel
theorem dX9_neededGaps_39 : decode cX9_neededGaps 39 = .ok (.goto 4, 3) := by decide +kernel
theorem dX9_neededGaps_42 : decode cX9_neededGaps 42 = .ok (.iconst 0, 1) := by decide +kernel
theorem dX9_neededGaps_43 : decode cX9_neededGaps 43 = .ok (.istore 4, 2) := by decide +kernel
theorem dX9_neededGaps_45 : decode cX9_neededGaps 45 = .ok (.iload_n 2, 1) := by decide +kernel
theorem dX9_neededGaps_46 : decode cX9_neededGaps 46 = .ok (.iload 4, 2) := by decide +kernel
theorem dX9_neededGaps_48 : decode cX9_neededGaps 48 = .ok (.ifCond .eq 15, 3) := by decide +kernel
theorem dX9_neededGaps_51 : decode cX9_neededGaps 51 = .ok (.aload_n 0, 1) := by decide +kernel
theorem dX9_neededGaps_52 : decode cX9_neededGaps 52 = .ok (.iload_n 3, 1) := by decide +kernel
theorem dX9_neededGaps_53 : decode cX9_neededGaps 53 = .ok (.invokevirtual 172, 3) := by decide +kernel
theorem dX9_neededGaps_56 : decode cX9_neededGaps 56 = .ok (.ifCond .eq 7, 3) := by decide +kernel
theorem dX9_neededGaps_59 : decode cX9_neededGaps 59 = .ok (.iconst 1, 1) := by decide +kernel
theorem dX9_neededGaps_60 : decode cX9_neededGaps 60 = .ok (.goto 4, 3) := by decide +kernel
theorem dX9_neededGaps_63 : decode cX9_neededGaps 63 = .ok (.iconst 0, 1) := by decide +kernel
theorem dX9_neededGaps_64 : decode cX9_neededGaps 64 = .ok (.iadd, 1) := by decide +kernel
theorem dX9_neededGaps_65 : decode cX9_neededGaps 65 = .ok (.istore_n 2, 1) := by decide +kernel
theorem dX9_neededGaps_66 : decode cX9_neededGaps 66 = .ok (.iinc 3 1, 3) := by decide +kernel
theorem dX9_neededGaps_69 : decode cX9_neededGaps 69 = .ok (.goto (-65), 3) := by decide +kernel
theorem dX9_neededGaps_72 : decode cX9_neededGaps 72 = .ok (.iload_n 2, 1) := by decide +kernel
theorem dX9_neededGaps_73 : decode cX9_neededGaps 73 = .ok (.ireturn, 1) := by decide +kernel
theorem dX9_fixedEvents_0 : decode cX9_fixedEvents 0 = .ok (.iconst 0, 1) := by decide +kernel
theorem dX9_fixedEvents_1 : decode cX9_fixedEvents 1 = .ok (.istore_n 1, 1) := by decide +kernel
theorem dX9_fixedEvents_2 : decode cX9_fixedEvents 2 = .ok (.iconst 0, 1) := by decide +kernel
theorem dX9_fixedEvents_3 : decode cX9_fixedEvents 3 = .ok (.istore_n 2, 1) := by decide +kernel
theorem dX9_fixedEvents_4 : decode cX9_fixedEvents 4 = .ok (.iload_n 2, 1) := by decide +kernel
theorem dX9_fixedEvents_5 : decode cX9_fixedEvents 5 = .ok (.aload_n 0, 1) := by decide +kernel
theorem dX9_fixedEvents_6 : decode cX9_fixedEvents 6 = .ok (.getfield 17, 3) := by decide +kernel
theorem dX9_fixedEvents_9 : decode cX9_fixedEvents 9 = .ok (.iconst 1, 1) := by decide +kernel
theorem dX9_fixedEvents_10 : decode cX9_fixedEvents 10 = .ok (.iaload, 1) := by decide +kernel
theorem dX9_fixedEvents_11 : decode cX9_fixedEvents 11 = .ok (.if_icmp .ge 25, 3) := by decide +kernel
theorem dX9_fixedEvents_14 : decode cX9_fixedEvents 14 = .ok (.iload_n 1, 1) := by decide +kernel
theorem dX9_fixedEvents_15 : decode cX9_fixedEvents 15 = .ok (.aload_n 0, 1) := by decide +kernel
theorem dX9_fixedEvents_16 : decode cX9_fixedEvents 16 = .ok (.iload_n 2, 1) := by decide +kernel
theorem dX9_fixedEvents_17 : decode cX9_fixedEvents 17 = .ok (.invokevirtual 123, 3) := by decide +kernel
theorem dX9_fixedEvents_20 : decode cX9_fixedEvents 20 = .ok (.ifCond .ne 7, 3) := by decide +kernel
theorem dX9_fixedEvents_23 : decode cX9_fixedEvents 23 = .ok (.iconst 1, 1) := by decide +kernel
theorem dX9_fixedEvents_24 : decode cX9_fixedEvents 24 = .ok (.goto 4, 3) := by decide +kernel
theorem dX9_fixedEvents_27 : decode cX9_fixedEvents 27 = .ok (.iconst 0, 1) := by decide +kernel
theorem dX9_fixedEvents_28 : decode cX9_fixedEvents 28 = .ok (.iadd, 1) := by decide +kernel
theorem dX9_fixedEvents_29 : decode cX9_fixedEvents 29 = .ok (.istore_n 1, 1) := by decide +kernel
theorem dX9_fixedEvents_30 : decode cX9_fixedEvents 30 = .ok (.iinc 2 1, 3) := by decide +kernel
theorem dX9_fixedEvents_33 : decode cX9_fixedEvents 33 = .ok (.goto (-29), 3) := by decide +kernel
theorem dX9_fixedEvents_36 : decode cX9_fixedEvents 36 = .ok (.iload_n 1, 1) := by decide +kernel
theorem dX9_fixedEvents_37 : decode cX9_fixedEvents 37 = .ok (.ireturn, 1) := by decide +kernel
theorem dX9_greatestEarliest_0 : decode cX9_greatestEarliest 0 = .ok (.iconst 0, 1) := by decide +kernel
theorem dX9_greatestEarliest_1 : decode cX9_greatestEarliest 1 = .ok (.istore_n 1, 1) := by decide +kernel
theorem dX9_greatestEarliest_2 : decode cX9_greatestEarliest 2 = .ok (.iconst 0, 1) := by decide +kernel
theorem dX9_greatestEarliest_3 : decode cX9_greatestEarliest 3 = .ok (.istore_n 2, 1) := by decide +kernel
theorem dX9_greatestEarliest_4 : decode cX9_greatestEarliest 4 = .ok (.iload_n 2, 1) := by decide +kernel
theorem dX9_greatestEarliest_5 : decode cX9_greatestEarliest 5 = .ok (.aload_n 0, 1) := by decide +kernel
theorem dX9_greatestEarliest_6 : decode cX9_greatestEarliest 6 = .ok (.getfield 17, 3) := by decide +kernel
theorem dX9_greatestEarliest_9 : decode cX9_greatestEarliest 9 = .ok (.iconst 1, 1) := by decide +kernel
theorem dX9_greatestEarliest_10 : decode cX9_greatestEarliest 10 = .ok (.iaload, 1) := by decide +kernel
theorem dX9_greatestEarliest_11 : decode cX9_greatestEarliest 11 = .ok (.if_icmp .ge 28, 3) := by decide +kernel
theorem dX9_greatestEarliest_14 : decode cX9_greatestEarliest 14 = .ok (.aload_n 0, 1) := by decide +kernel
theorem dX9_greatestEarliest_15 : decode cX9_greatestEarliest 15 = .ok (.iload_n 2, 1) := by decide +kernel
theorem dX9_greatestEarliest_16 : decode cX9_greatestEarliest 16 = .ok (.invokevirtual 120, 3) := by decide +kernel
theorem dX9_greatestEarliest_19 : decode cX9_greatestEarliest 19 = .ok (.iload_n 1, 1) := by decide +kernel
theorem dX9_greatestEarliest_20 : decode cX9_greatestEarliest 20 = .ok (.if_icmp .le 11, 3) := by decide +kernel
theorem dX9_greatestEarliest_23 : decode cX9_greatestEarliest 23 = .ok (.aload_n 0, 1) := by decide +kernel
theorem dX9_greatestEarliest_24 : decode cX9_greatestEarliest 24 = .ok (.iload_n 2, 1) := by decide +kernel
theorem dX9_greatestEarliest_25 : decode cX9_greatestEarliest 25 = .ok (.invokevirtual 120, 3) := by decide +kernel
theorem dX9_greatestEarliest_28 : decode cX9_greatestEarliest 28 = .ok (.goto 4, 3) := by decide +kernel
theorem dX9_greatestEarliest_31 : decode cX9_greatestEarliest 31 = .ok (.iload_n 1, 1) := by decide +kernel
theorem dX9_greatestEarliest_32 : decode cX9_greatestEarliest 32 = .ok (.istore_n 1, 1) := by decide +kernel
theorem dX9_greatestEarliest_33 : decode cX9_greatestEarliest 33 = .ok (.iinc 2 1, 3) := by decide +kernel
theorem dX9_greatestEarliest_36 : decode cX9_greatestEarliest 36 = .ok (.goto (-32), 3) := by decide +kernel
theorem dX9_greatestEarliest_39 : decode cX9_greatestEarliest 39 = .ok (.iload_n 1, 1) := by decide +kernel
theorem dX9_greatestEarliest_40 : decode cX9_greatestEarliest 40 = .ok (.ireturn, 1) := by decide +kernel
theorem dX9_value_0 : decode cX9_value 0 = .ok (.aload_n 0, 1) := by decide +kernel
theorem dX9_value_1 : decode cX9_value 1 = .ok (.invokevirtual 126, 3) := by decide +kernel
theorem dX9_value_4 : decode cX9_value 4 = .ok (.istore_n 2, 1) := by decide +kernel
theorem dX9_value_5 : decode cX9_value 5 = .ok (.iload_n 1, 1) := by decide +kernel
theorem dX9_value_6 : decode cX9_value 6 = .ok (.tableswitch 129 0 12 #[66, 66, 66, 73, 78, 83, 88, 93, 100, 105, 110, 115, 124], 66) := by decide +kernel
theorem dX9_value_72 : decode cX9_value 72 = .ok (.aload_n 0, 1) := by decide +kernel
theorem dX9_value_73 : decode cX9_value 73 = .ok (.getfield 17, 3) := by decide +kernel
theorem dX9_value_76 : decode cX9_value 76 = .ok (.iload_n 1, 1) := by decide +kernel
theorem dX9_value_77 : decode cX9_value 77 = .ok (.iaload, 1) := by decide +kernel
theorem dX9_value_78 : decode cX9_value 78 = .ok (.ireturn, 1) := by decide +kernel
theorem dX9_value_79 : decode cX9_value 79 = .ok (.aload_n 0, 1) := by decide +kernel
theorem dX9_value_80 : decode cX9_value 80 = .ok (.invokevirtual 254, 3) := by decide +kernel
theorem dX9_value_83 : decode cX9_value 83 = .ok (.ireturn, 1) := by decide +kernel
theorem dX9_value_84 : decode cX9_value 84 = .ok (.aload_n 0, 1) := by decide +kernel
theorem dX9_value_85 : decode cX9_value 85 = .ok (.invokevirtual 165, 3) := by decide +kernel
theorem dX9_value_88 : decode cX9_value 88 = .ok (.ireturn, 1) := by decide +kernel
theorem dX9_value_89 : decode cX9_value 89 = .ok (.aload_n 0, 1) := by decide +kernel
theorem dX9_value_90 : decode cX9_value 90 = .ok (.getfield 84, 3) := by decide +kernel
theorem dX9_value_93 : decode cX9_value 93 = .ok (.ireturn, 1) := by decide +kernel
theorem dX9_value_94 : decode cX9_value 94 = .ok (.aload_n 0, 1) := by decide +kernel
theorem dX9_value_95 : decode cX9_value 95 = .ok (.invokevirtual 257, 3) := by decide +kernel
theorem dX9_value_98 : decode cX9_value 98 = .ok (.ireturn, 1) := by decide +kernel
theorem dX9_value_99 : decode cX9_value 99 = .ok (.aload_n 0, 1) := by decide +kernel
theorem dX9_value_100 : decode cX9_value 100 = .ok (.bipush (-2), 2) := by decide +kernel
theorem dX9_value_102 : decode cX9_value 102 = .ok (.invokevirtual 260, 3) := by decide +kernel
theorem dX9_value_105 : decode cX9_value 105 = .ok (.ireturn, 1) := by decide +kernel
theorem dX9_value_106 : decode cX9_value 106 = .ok (.aload_n 0, 1) := by decide +kernel
theorem dX9_value_107 : decode cX9_value 107 = .ok (.invokevirtual 263, 3) := by decide +kernel
theorem dX9_value_110 : decode cX9_value 110 = .ok (.ireturn, 1) := by decide +kernel
theorem dX9_value_111 : decode cX9_value 111 = .ok (.aload_n 0, 1) := by decide +kernel
theorem dX9_value_112 : decode cX9_value 112 = .ok (.invokevirtual 266, 3) := by decide +kernel
theorem dX9_value_115 : decode cX9_value 115 = .ok (.ireturn, 1) := by decide +kernel
theorem dX9_value_116 : decode cX9_value 116 = .ok (.aload_n 0, 1) := by decide +kernel
theorem dX9_value_117 : decode cX9_value 117 = .ok (.invokevirtual 169, 3) := by decide +kernel
theorem dX9_value_120 : decode cX9_value 120 = .ok (.ireturn, 1) := by decide +kernel
theorem dX9_value_121 : decode cX9_value 121 = .ok (.aload_n 0, 1) := by decide +kernel
theorem dX9_value_122 : decode cX9_value 122 = .ok (.getfield 17, 3) := by decide +kernel
theorem dX9_value_125 : decode cX9_value 125 = .ok (.sipush 143, 3) := by decide +kernel
theorem dX9_value_128 : decode cX9_value 128 = .ok (.iaload, 1) := by decide +kernel
theorem dX9_value_129 : decode cX9_value 129 = .ok (.ireturn, 1) := by decide +kernel
theorem dX9_value_130 : decode cX9_value 130 = .ok (.aload_n 0, 1) := by decide +kernel
theorem dX9_value_131 : decode cX9_value 131 = .ok (.getfield 62, 3) := by decide +kernel
theorem dX9_value_134 : decode cX9_value 134 = .ok (.ireturn, 1) := by decide +kernel
theorem dX9_value_135 : decode cX9_value 135 = .ok (.iconst (-1), 1) := by decide +kernel
theorem dX9_value_136 : decode cX9_value 136 = .ok (.ireturn, 1) := by decide +kernel
theorem dX9_lettersOf_0 : decode cX9_lettersOf 0 = .ok (.iconst 0, 1) := by decide +kernel
theorem dX9_lettersOf_1 : decode cX9_lettersOf 1 = .ok (.istore_n 1, 1) := by decide +kernel
theorem dX9_lettersOf_2 : decode cX9_lettersOf 2 = .ok (.iload_n 0, 1) := by decide +kernel
theorem dX9_lettersOf_3 : decode cX9_lettersOf 3 = .ok (.istore_n 2, 1) := by decide +kernel
theorem dX9_lettersOf_4 : decode cX9_lettersOf 4 = .ok (.iload_n 2, 1) := by decide +kernel
theorem dX9_lettersOf_5 : decode cX9_lettersOf 5 = .ok (.ifCond .le 13, 3) := by decide +kernel
theorem dX9_lettersOf_8 : decode cX9_lettersOf 8 = .ok (.iinc 1 1, 3) := by decide +kernel
theorem dX9_lettersOf_11 : decode cX9_lettersOf 11 = .ok (.iload_n 2, 1) := by decide +kernel
theorem dX9_lettersOf_12 : decode cX9_lettersOf 12 = .ok (.iconst 5, 1) := by decide +kernel
theorem dX9_lettersOf_13 : decode cX9_lettersOf 13 = .ok (.ishr, 1) := by decide +kernel
theorem dX9_lettersOf_14 : decode cX9_lettersOf 14 = .ok (.istore_n 2, 1) := by decide +kernel
theorem dX9_lettersOf_15 : decode cX9_lettersOf 15 = .ok (.goto (-11), 3) := by decide +kernel
theorem dX9_lettersOf_18 : decode cX9_lettersOf 18 = .ok (.iload_n 1, 1) := by decide +kernel
theorem dX9_lettersOf_19 : decode cX9_lettersOf 19 = .ok (.ireturn, 1) := by decide +kernel
theorem dX9_letterOf_0 : decode cX9_letterOf 0 = .ok (.iload_n 0, 1) := by decide +kernel
theorem dX9_letterOf_1 : decode cX9_letterOf 1 = .ok (.iconst 5, 1) := by decide +kernel
theorem dX9_letterOf_2 : decode cX9_letterOf 2 = .ok (.iload_n 0, 1) := by decide +kernel
theorem dX9_letterOf_3 : decode cX9_letterOf 3 = .ok (.invokestatic 269, 3) := by decide +kernel
theorem dX9_letterOf_6 : decode cX9_letterOf 6 = .ok (.iconst 1, 1) := by decide +kernel
theorem dX9_letterOf_7 : decode cX9_letterOf 7 = .ok (.isub, 1) := by decide +kernel
theorem dX9_letterOf_8 : decode cX9_letterOf 8 = .ok (.iload_n 1, 1) := by decide +kernel
theorem dX9_letterOf_9 : decode cX9_letterOf 9 = .ok (.isub, 1) := by decide +kernel
theorem dX9_letterOf_10 : decode cX9_letterOf 10 = .ok (.imul, 1) := by decide +kernel
theorem dX9_letterOf_11 : decode cX9_letterOf 11 = .ok (.ishr, 1) := by decide +kernel
theorem dX9_letterOf_12 : decode cX9_letterOf 12 = .ok (.bipush 31, 2) := by decide +kernel
theorem dX9_letterOf_14 : decode cX9_letterOf 14 = .ok (.iand, 1) := by decide +kernel
theorem dX9_letterOf_15 : decode cX9_letterOf 15 = .ok (.ireturn, 1) := by decide +kernel
theorem dX9_letter_0 : decode cX9_letter 0 = .ok (.aload_n 0, 1) := by decide +kernel
theorem dX9_letter_1 : decode cX9_letter 1 = .ok (.iload_n 1, 1) := by decide +kernel
theorem dX9_letter_2 : decode cX9_letter 2 = .ok (.invokevirtual 80, 3) := by decide +kernel
theorem dX9_letter_5 : decode cX9_letter 5 = .ok (.ifCond .eq 7, 3) := by decide +kernel
theorem dX9_letter_8 : decode cX9_letter 8 = .ok (.iload_n 2, 1) := by decide +kernel
theorem dX9_letter_9 : decode cX9_letter 9 = .ok (.ifCond .ge 5, 3) := by decide +kernel
theorem dX9_letter_12 : decode cX9_letter 12 = .ok (.iconst (-1), 1) := by decide +kernel
theorem dX9_letter_13 : decode cX9_letter 13 = .ok (.ireturn, 1) := by decide +kernel
theorem dX9_letter_14 : decode cX9_letter 14 = .ok (.aload_n 0, 1) := by decide +kernel
theorem dX9_letter_15 : decode cX9_letter 15 = .ok (.getfield 17, 3) := by decide +kernel
theorem dX9_letter_18 : decode cX9_letter 18 = .ok (.iconst 3, 1) := by decide +kernel
theorem dX9_letter_19 : decode cX9_letter 19 = .ok (.iload_n 1, 1) := by decide +kernel
theorem dX9_letter_20 : decode cX9_letter 20 = .ok (.iadd, 1) := by decide +kernel
theorem dX9_letter_21 : decode cX9_letter 21 = .ok (.iaload, 1) := by decide +kernel
theorem dX9_letter_22 : decode cX9_letter 22 = .ok (.istore_n 3, 1) := by decide +kernel
theorem dX9_letter_23 : decode cX9_letter 23 = .ok (.iload_n 2, 1) := by decide +kernel
theorem dX9_letter_24 : decode cX9_letter 24 = .ok (.iload_n 3, 1) := by decide +kernel
theorem dX9_letter_25 : decode cX9_letter 25 = .ok (.invokestatic 269, 3) := by decide +kernel
theorem dX9_letter_28 : decode cX9_letter 28 = .ok (.if_icmp .ge 11, 3) := by decide +kernel
theorem dX9_letter_31 : decode cX9_letter 31 = .ok (.iload_n 3, 1) := by decide +kernel
theorem dX9_letter_32 : decode cX9_letter 32 = .ok (.iload_n 2, 1) := by decide +kernel
theorem dX9_letter_33 : decode cX9_letter 33 = .ok (.invokestatic 272, 3) := by decide +kernel
theorem dX9_letter_36 : decode cX9_letter 36 = .ok (.goto 5, 3) := by decide +kernel
theorem dX9_letter_39 : decode cX9_letter 39 = .ok (.bipush (-2), 2) := by decide +kernel
theorem dX9_letter_41 : decode cX9_letter 41 = .ok (.ireturn, 1) := by decide +kernel
theorem dX9_gap_0 : decode cX9_gap 0 = .ok (.aload_n 0, 1) := by decide +kernel
theorem dX9_gap_1 : decode cX9_gap 1 = .ok (.iload_n 1, 1) := by decide +kernel
theorem dX9_gap_2 : decode cX9_gap 2 = .ok (.invokevirtual 154, 3) := by decide +kernel
theorem dX9_gap_5 : decode cX9_gap 5 = .ok (.ifCond .ne 5, 3) := by decide +kernel
theorem dX9_gap_8 : decode cX9_gap 8 = .ok (.iconst (-1), 1) := by decide +kernel
theorem dX9_gap_9 : decode cX9_gap 9 = .ok (.ireturn, 1) := by decide +kernel
theorem dX9_gap_10 : decode cX9_gap 10 = .ok (.aload_n 0, 1) := by decide +kernel
theorem dX9_gap_11 : decode cX9_gap 11 = .ok (.invokevirtual 126, 3) := by decide +kernel
theorem dX9_gap_14 : decode cX9_gap 14 = .ok (.istore_n 3, 1) := by decide +kernel
theorem dX9_gap_15 : decode cX9_gap 15 = .ok (.iload_n 2, 1) := by decide +kernel
theorem dX9_gap_16 : decode cX9_gap 16 = .ok (.tableswitch 116 0 7 #[48, 48, 48, 48, 48, 55, 69, 83], 48) := by decide +kernel
theorem dX9_gap_64 : decode cX9_gap 64 = .ok (.aload_n 0, 1) := by decide +kernel
theorem dX9_gap_65 : decode cX9_gap 65 = .ok (.iload_n 1, 1) := by decide +kernel
theorem dX9_gap_66 : decode cX9_gap 66 = .ok (.iload_n 2, 1) := by decide +kernel
theorem dX9_gap_67 : decode cX9_gap 67 = .ok (.invokevirtual 76, 3) := by decide +kernel
theorem dX9_gap_70 : decode cX9_gap 70 = .ok (.ireturn, 1) := by decide +kernel
theorem dX9_gap_71 : decode cX9_gap 71 = .ok (.aload_n 0, 1) := by decide +kernel
theorem dX9_gap_72 : decode cX9_gap 72 = .ok (.iload_n 1, 1) := by decide +kernel
theorem dX9_gap_73 : decode cX9_gap 73 = .ok (.invokevirtual 130, 3) := by decide +kernel
theorem dX9_gap_76 : decode cX9_gap 76 = .ok (.ifCond .eq 7, 3) := by decide +kernel
theorem dX9_gap_79 : decode cX9_gap 79 = .ok (.iconst 1, 1) := by decide +kernel
theorem dX9_gap_80 : decode cX9_gap 80 = .ok (.goto 4, 3) := by decide +kernel
theorem dX9_gap_83 : decode cX9_gap 83 = .ok (.iconst 0, 1) := by decide +kernel
theorem dX9_gap_84 : decode cX9_gap 84 = .ok (.ireturn, 1) := by decide +kernel
theorem dX9_gap_85 : decode cX9_gap 85 = .ok (.aload_n 0, 1) := by decide +kernel
theorem dX9_gap_86 : decode cX9_gap 86 = .ok (.iload_n 1, 1) := by decide +kernel
theorem dX9_gap_87 : decode cX9_gap 87 = .ok (.invokevirtual 172, 3) := by decide +kernel
theorem dX9_gap_90 : decode cX9_gap 90 = .ok (.ifCond .eq 7, 3) := by decide +kernel
theorem dX9_gap_93 : decode cX9_gap 93 = .ok (.iconst 1, 1) := by decide +kernel
theorem dX9_gap_94 : decode cX9_gap 94 = .ok (.goto 4, 3) := by decide +kernel
theorem dX9_gap_97 : decode cX9_gap 97 = .ok (.iconst 0, 1) := by decide +kernel
theorem dX9_gap_98 : decode cX9_gap 98 = .ok (.ireturn, 1) := by decide +kernel
theorem dX9_gap_99 : decode cX9_gap 99 = .ok (.aload_n 0, 1) := by decide +kernel
theorem dX9_gap_100 : decode cX9_gap 100 = .ok (.iload_n 1, 1) := by decide +kernel
theorem dX9_gap_101 : decode cX9_gap 101 = .ok (.invokevirtual 87, 3) := by decide +kernel
theorem dX9_gap_104 : decode cX9_gap 104 = .ok (.ifCond .eq 26, 3) := by decide +kernel
theorem dX9_gap_107 : decode cX9_gap 107 = .ok (.aload_n 0, 1) := by decide +kernel
theorem dX9_gap_108 : decode cX9_gap 108 = .ok (.iload_n 1, 1) := by decide +kernel
theorem dX9_gap_109 : decode cX9_gap 109 = .ok (.invokevirtual 96, 3) := by decide +kernel
theorem dX9_gap_112 : decode cX9_gap 112 = .ok (.aload_n 0, 1) := by decide +kernel
theorem dX9_gap_113 : decode cX9_gap 113 = .ok (.aload_n 0, 1) := by decide +kernel
theorem dX9_gap_114 : decode cX9_gap 114 = .ok (.iload_n 1, 1) := by decide +kernel
theorem dX9_gap_115 : decode cX9_gap 115 = .ok (.invokevirtual 90, 3) := by decide +kernel
theorem dX9_gap_118 : decode cX9_gap 118 = .ok (.aload_n 0, 1) := by decide +kernel
theorem dX9_gap_119 : decode cX9_gap 119 = .ok (.iload_n 1, 1) := by decide +kernel
theorem dX9_gap_120 : decode cX9_gap 120 = .ok (.invokevirtual 93, 3) := by decide +kernel
theorem dX9_gap_123 : decode cX9_gap 123 = .ok (.invokevirtual 113, 3) := by decide +kernel
theorem dX9_gap_126 : decode cX9_gap 126 = .ok (.isub, 1) := by decide +kernel
theorem dX9_gap_127 : decode cX9_gap 127 = .ok (.goto 4, 3) := by decide +kernel
theorem dX9_gap_130 : decode cX9_gap 130 = .ok (.iconst 0, 1) := by decide +kernel
theorem dX9_gap_131 : decode cX9_gap 131 = .ok (.ireturn, 1) := by decide +kernel
theorem dX9_gap_132 : decode cX9_gap 132 = .ok (.iconst (-1), 1) := by decide +kernel
theorem dX9_gap_133 : decode cX9_gap 133 = .ok (.ireturn, 1) := by decide +kernel
theorem dX9_gapsOf_0 : decode cX9_gapsOf 0 = .ok (.iconst 0, 1) := by decide +kernel
theorem dX9_gapsOf_1 : decode cX9_gapsOf 1 = .ok (.istore_n 2, 1) := by decide +kernel
theorem dX9_gapsOf_2 : decode cX9_gapsOf 2 = .ok (.iconst 0, 1) := by decide +kernel
theorem dX9_gapsOf_3 : decode cX9_gapsOf 3 = .ok (.istore_n 3, 1) := by decide +kernel
theorem dX9_gapsOf_4 : decode cX9_gapsOf 4 = .ok (.iload_n 3, 1) := by decide +kernel
theorem dX9_gapsOf_5 : decode cX9_gapsOf 5 = .ok (.aload_n 0, 1) := by decide +kernel
theorem dX9_gapsOf_6 : decode cX9_gapsOf 6 = .ok (.getfield 17, 3) := by decide +kernel
theorem dX9_gapsOf_9 : decode cX9_gapsOf 9 = .ok (.iconst 2, 1) := by decide +kernel
theorem dX9_gapsOf_10 : decode cX9_gapsOf 10 = .ok (.iaload, 1) := by decide +kernel
theorem dX9_gapsOf_11 : decode cX9_gapsOf 11 = .ok (.if_icmp .ge 45, 3) := by decide +kernel
theorem dX9_gapsOf_14 : decode cX9_gapsOf 14 = .ok (.iload_n 2, 1) := by decide +kernel
theorem dX9_gapsOf_15 : decode cX9_gapsOf 15 = .ok (.aload_n 0, 1) := by decide +kernel
theorem dX9_gapsOf_16 : decode cX9_gapsOf 16 = .ok (.iload_n 3, 1) := by decide +kernel
theorem dX9_gapsOf_17 : decode cX9_gapsOf 17 = .ok (.invokevirtual 87, 3) := by decide +kernel
theorem dX9_gapsOf_20 : decode cX9_gapsOf 20 = .ok (.ifCond .eq 27, 3) := by decide +kernel
theorem dX9_gapsOf_23 : decode cX9_gapsOf 23 = .ok (.aload_n 0, 1) := by decide +kernel
theorem dX9_gapsOf_24 : decode cX9_gapsOf 24 = .ok (.iload_n 3, 1) := by decide +kernel
theorem dX9_gapsOf_25 : decode cX9_gapsOf 25 = .ok (.iconst 0, 1) := by decide +kernel
theorem dX9_gapsOf_26 : decode cX9_gapsOf 26 = .ok (.invokevirtual 76, 3) := by decide +kernel
theorem dX9_gapsOf_29 : decode cX9_gapsOf 29 = .ok (.iload_n 1, 1) := by decide +kernel
theorem dX9_gapsOf_30 : decode cX9_gapsOf 30 = .ok (.if_icmp .eq 13, 3) := by decide +kernel
theorem dX9_gapsOf_33 : decode cX9_gapsOf 33 = .ok (.aload_n 0, 1) := by decide +kernel
theorem dX9_gapsOf_34 : decode cX9_gapsOf 34 = .ok (.iload_n 3, 1) := by decide +kernel
theorem dX9_gapsOf_35 : decode cX9_gapsOf 35 = .ok (.iconst 1, 1) := by decide +kernel
theorem dX9_gapsOf_36 : decode cX9_gapsOf 36 = .ok (.invokevirtual 76, 3) := by decide +kernel
theorem dX9_gapsOf_39 : decode cX9_gapsOf 39 = .ok (.iload_n 1, 1) := by decide +kernel
theorem dX9_gapsOf_40 : decode cX9_gapsOf 40 = .ok (.if_icmp .ne 7, 3) := by decide +kernel
theorem dX9_gapsOf_43 : decode cX9_gapsOf 43 = .ok (.iconst 1, 1) := by decide +kernel
theorem dX9_gapsOf_44 : decode cX9_gapsOf 44 = .ok (.goto 4, 3) := by decide +kernel
theorem dX9_gapsOf_47 : decode cX9_gapsOf 47 = .ok (.iconst 0, 1) := by decide +kernel
theorem dX9_gapsOf_48 : decode cX9_gapsOf 48 = .ok (.iadd, 1) := by decide +kernel
theorem dX9_gapsOf_49 : decode cX9_gapsOf 49 = .ok (.istore_n 2, 1) := by decide +kernel
theorem dX9_gapsOf_50 : decode cX9_gapsOf 50 = .ok (.iinc 3 1, 3) := by decide +kernel
theorem dX9_gapsOf_53 : decode cX9_gapsOf 53 = .ok (.goto (-49), 3) := by decide +kernel
theorem dX9_gapsOf_56 : decode cX9_gapsOf 56 = .ok (.iload_n 2, 1) := by decide +kernel
theorem dX9_gapsOf_57 : decode cX9_gapsOf 57 = .ok (.ireturn, 1) := by decide +kernel
theorem dX9_event_0 : decode cX9_event 0 = .ok (.aload_n 0, 1) := by decide +kernel
theorem dX9_event_1 : decode cX9_event 1 = .ok (.iload_n 1, 1) := by decide +kernel
theorem dX9_event_2 : decode cX9_event 2 = .ok (.invokevirtual 80, 3) := by decide +kernel
theorem dX9_event_5 : decode cX9_event 5 = .ok (.ifCond .ne 5, 3) := by decide +kernel
theorem dX9_event_8 : decode cX9_event 8 = .ok (.iconst (-1), 1) := by decide +kernel
theorem dX9_event_9 : decode cX9_event 9 = .ok (.ireturn, 1) := by decide +kernel
theorem dX9_event_10 : decode cX9_event 10 = .ok (.aload_n 0, 1) := by decide +kernel
theorem dX9_event_11 : decode cX9_event 11 = .ok (.invokevirtual 126, 3) := by decide +kernel
theorem dX9_event_14 : decode cX9_event 14 = .ok (.istore_n 3, 1) := by decide +kernel
theorem dX9_event_15 : decode cX9_event 15 = .ok (.iload_n 2, 1) := by decide +kernel
theorem dX9_event_16 : decode cX9_event 16 = .ok (.tableswitch 88 0 4 #[36, 42, 48, 56, 82], 36) := by decide +kernel
theorem dX9_event_52 : decode cX9_event 52 = .ok (.aload_n 0, 1) := by decide +kernel
theorem dX9_event_53 : decode cX9_event 53 = .ok (.iload_n 1, 1) := by decide +kernel
theorem dX9_event_54 : decode cX9_event 54 = .ok (.invokevirtual 120, 3) := by decide +kernel
theorem dX9_event_57 : decode cX9_event 57 = .ok (.ireturn, 1) := by decide +kernel
theorem dX9_event_58 : decode cX9_event 58 = .ok (.aload_n 0, 1) := by decide +kernel
theorem dX9_event_59 : decode cX9_event 59 = .ok (.iload_n 1, 1) := by decide +kernel
theorem dX9_event_60 : decode cX9_event 60 = .ok (.invokevirtual 117, 3) := by decide +kernel
theorem dX9_event_63 : decode cX9_event 63 = .ok (.ireturn, 1) := by decide +kernel
theorem dX9_event_64 : decode cX9_event 64 = .ok (.aload_n 0, 1) := by decide +kernel
theorem dX9_event_65 : decode cX9_event 65 = .ok (.iload_n 1, 1) := by decide +kernel
theorem dX9_event_66 : decode cX9_event 66 = .ok (.invokevirtual 123, 3) := by decide +kernel
theorem dX9_event_69 : decode cX9_event 69 = .ok (.iconst 1, 1) := by decide +kernel
theorem dX9_event_70 : decode cX9_event 70 = .ok (.iadd, 1) := by decide +kernel
theorem dX9_event_71 : decode cX9_event 71 = .ok (.ireturn, 1) := by decide +kernel
theorem dX9_event_72 : decode cX9_event 72 = .ok (.aload_n 0, 1) := by decide +kernel
theorem dX9_event_73 : decode cX9_event 73 = .ok (.iload_n 1, 1) := by decide +kernel
theorem dX9_event_74 : decode cX9_event 74 = .ok (.invokevirtual 103, 3) := by decide +kernel
theorem dX9_event_77 : decode cX9_event 77 = .ok (.ifCond .eq 18, 3) := by decide +kernel
theorem dX9_event_80 : decode cX9_event 80 = .ok (.aload_n 0, 1) := by decide +kernel
theorem dX9_event_81 : decode cX9_event 81 = .ok (.getfield 17, 3) := by decide +kernel
theorem dX9_event_84 : decode cX9_event 84 = .ok (.sipush 133, 3) := by decide +kernel
theorem dX9_event_87 : decode cX9_event 87 = .ok (.iload_n 1, 1) := by decide +kernel
theorem dX9_event_88 : decode cX9_event 88 = .ok (.iadd, 1) := by decide +kernel
theorem dX9_event_89 : decode cX9_event 89 = .ok (.iaload, 1) := by decide +kernel
theorem dX9_event_90 : decode cX9_event 90 = .ok (.iconst 1, 1) := by decide +kernel
theorem dX9_event_91 : decode cX9_event 91 = .ok (.isub, 1) := by decide +kernel
theorem dX9_event_92 : decode cX9_event 92 = .ok (.goto 5, 3) := by decide +kernel
theorem dX9_event_95 : decode cX9_event 95 = .ok (.bipush (-2), 2) := by decide +kernel
theorem dX9_event_97 : decode cX9_event 97 = .ok (.ireturn, 1) := by decide +kernel
theorem dX9_event_98 : decode cX9_event 98 = .ok (.aload_n 0, 1) := by decide +kernel
theorem dX9_event_99 : decode cX9_event 99 = .ok (.iload_n 1, 1) := by decide +kernel
theorem dX9_event_100 : decode cX9_event 100 = .ok (.invokevirtual 275, 3) := by decide +kernel
theorem dX9_event_103 : decode cX9_event 103 = .ok (.ireturn, 1) := by decide +kernel
theorem dX9_event_104 : decode cX9_event 104 = .ok (.iconst (-1), 1) := by decide +kernel
theorem dX9_event_105 : decode cX9_event 105 = .ok (.ireturn, 1) := by decide +kernel
theorem dX9_bound_0 : decode cX9_bound 0 = .ok (.aload_n 0, 1) := by decide +kernel
theorem dX9_bound_1 : decode cX9_bound 1 = .ok (.iload_n 1, 1) := by decide +kernel
theorem dX9_bound_2 : decode cX9_bound 2 = .ok (.invokevirtual 80, 3) := by decide +kernel
theorem dX9_bound_5 : decode cX9_bound 5 = .ok (.ifCond .eq 11, 3) := by decide +kernel
theorem dX9_bound_8 : decode cX9_bound 8 = .ok (.aload_n 0, 1) := by decide +kernel
theorem dX9_bound_9 : decode cX9_bound 9 = .ok (.iload_n 2, 1) := by decide +kernel
theorem dX9_bound_10 : decode cX9_bound 10 = .ok (.invokevirtual 80, 3) := by decide +kernel
theorem dX9_bound_13 : decode cX9_bound 13 = .ok (.ifCond .ne 7, 3) := by decide +kernel
theorem dX9_bound_16 : decode cX9_bound 16 = .ok (.ldc_w 278, 3) := by decide +kernel
theorem dX9_bound_19 : decode cX9_bound 19 = .ok (.ireturn, 1) := by decide +kernel
theorem dX9_bound_20 : decode cX9_bound 20 = .ok (.aload_n 0, 1) := by decide +kernel
theorem dX9_bound_21 : decode cX9_bound 21 = .ok (.invokevirtual 126, 3) := by decide +kernel
theorem dX9_bound_24 : decode cX9_bound 24 = .ok (.istore_n 3, 1) := by decide +kernel
theorem dX9_bound_25 : decode cX9_bound 25 = .ok (.aload_n 0, 1) := by decide +kernel
theorem dX9_bound_26 : decode cX9_bound 26 = .ok (.iload_n 1, 1) := by decide +kernel
theorem dX9_bound_27 : decode cX9_bound 27 = .ok (.iload_n 2, 1) := by decide +kernel
theorem dX9_bound_28 : decode cX9_bound 28 = .ok (.invokevirtual 113, 3) := by decide +kernel
theorem dX9_bound_31 : decode cX9_bound 31 = .ok (.ireturn, 1) := by decide +kernel
theorem dX9_laysWay_0 : decode cX9_laysWay 0 = .ok (.iconst 0, 1) := by decide +kernel
theorem dX9_laysWay_1 : decode cX9_laysWay 1 = .ok (.istore_n 3, 1) := by decide +kernel
theorem dX9_laysWay_2 : decode cX9_laysWay 2 = .ok (.iload_n 3, 1) := by decide +kernel
theorem dX9_laysWay_3 : decode cX9_laysWay 3 = .ok (.bipush 10, 2) := by decide +kernel
theorem dX9_laysWay_5 : decode cX9_laysWay 5 = .ok (.if_icmp .ge 26, 3) := by decide +kernel
theorem dX9_laysWay_8 : decode cX9_laysWay 8 = .ok (.aload_n 0, 1) := by decide +kernel
theorem dX9_laysWay_9 : decode cX9_laysWay 9 = .ok (.getfield 49, 3) := by decide +kernel
theorem dX9_laysWay_12 : decode cX9_laysWay 12 = .ok (.iload_n 3, 1) := by decide +kernel
theorem dX9_laysWay_13 : decode cX9_laysWay 13 = .ok (.iload_n 3, 1) := by decide +kernel
theorem dX9_laysWay_14 : decode cX9_laysWay 14 = .ok (.iload_n 2, 1) := by decide +kernel
theorem dX9_laysWay_15 : decode cX9_laysWay 15 = .ok (.if_icmp .ne 7, 3) := by decide +kernel
theorem dX9_laysWay_18 : decode cX9_laysWay 18 = .ok (.iconst 0, 1) := by decide +kernel
theorem dX9_laysWay_19 : decode cX9_laysWay 19 = .ok (.goto 5, 3) := by decide +kernel
theorem dX9_laysWay_22 : decode cX9_laysWay 22 = .ok (.ldc 112, 2) := by decide +kernel
theorem dX9_laysWay_24 : decode cX9_laysWay 24 = .ok (.iastore, 1) := by decide +kernel
theorem dX9_laysWay_25 : decode cX9_laysWay 25 = .ok (.iinc 3 1, 3) := by decide +kernel
theorem dX9_laysWay_28 : decode cX9_laysWay 28 = .ok (.goto (-26), 3) := by decide +kernel
theorem dX9_laysWay_31 : decode cX9_laysWay 31 = .ok (.iconst 0, 1) := by decide +kernel
theorem dX9_laysWay_32 : decode cX9_laysWay 32 = .ok (.istore_n 3, 1) := by decide +kernel
theorem dX9_laysWay_33 : decode cX9_laysWay 33 = .ok (.aload_n 0, 1) := by decide +kernel
theorem dX9_laysWay_34 : decode cX9_laysWay 34 = .ok (.getfield 49, 3) := by decide +kernel
theorem dX9_laysWay_37 : decode cX9_laysWay 37 = .ok (.bipush 10, 2) := by decide +kernel
theorem dX9_laysWay_39 : decode cX9_laysWay 39 = .ok (.iload_n 3, 1) := by decide +kernel
theorem dX9_laysWay_40 : decode cX9_laysWay 40 = .ok (.imul, 1) := by decide +kernel
theorem dX9_laysWay_41 : decode cX9_laysWay 41 = .ok (.iload_n 1, 1) := by decide +kernel
theorem dX9_laysWay_42 : decode cX9_laysWay 42 = .ok (.iadd, 1) := by decide +kernel
theorem dX9_laysWay_43 : decode cX9_laysWay 43 = .ok (.iaload, 1) := by decide +kernel
theorem dX9_laysWay_44 : decode cX9_laysWay 44 = .ok (.aload_n 0, 1) := by decide +kernel
theorem dX9_laysWay_45 : decode cX9_laysWay 45 = .ok (.iload_n 1, 1) := by decide +kernel
theorem dX9_laysWay_46 : decode cX9_laysWay 46 = .ok (.iload_n 2, 1) := by decide +kernel
theorem dX9_laysWay_47 : decode cX9_laysWay 47 = .ok (.invokevirtual 113, 3) := by decide +kernel
theorem dX9_laysWay_50 : decode cX9_laysWay 50 = .ok (.if_icmp .eq 14, 3) := by decide +kernel
theorem dX9_laysWay_53 : decode cX9_laysWay 53 = .ok (.iinc 3 1, 3) := by decide +kernel
theorem dX9_laysWay_56 : decode cX9_laysWay 56 = .ok (.aload_n 0, 1) := by decide +kernel
theorem dX9_laysWay_57 : decode cX9_laysWay 57 = .ok (.iload_n 3, 1) := by decide +kernel
theorem dX9_laysWay_58 : decode cX9_laysWay 58 = .ok (.invokevirtual 279, 3) := by decide +kernel
theorem dX9_laysWay_61 : decode cX9_laysWay 61 = .ok (.goto (-28), 3) := by decide +kernel
theorem dX9_laysWay_64 : decode cX9_laysWay 64 = .ok (.iload_n 1, 1) := by decide +kernel
theorem dX9_laysWay_65 : decode cX9_laysWay 65 = .ok (.istore 4, 2) := by decide +kernel
theorem dX9_laysWay_67 : decode cX9_laysWay 67 = .ok (.aload_n 0, 1) := by decide +kernel
theorem dX9_laysWay_68 : decode cX9_laysWay 68 = .ok (.iload_n 1, 1) := by decide +kernel
theorem dX9_laysWay_69 : decode cX9_laysWay 69 = .ok (.iload_n 2, 1) := by decide +kernel
theorem dX9_laysWay_70 : decode cX9_laysWay 70 = .ok (.invokevirtual 113, 3) := by decide +kernel
theorem dX9_laysWay_73 : decode cX9_laysWay 73 = .ok (.istore 5, 2) := by decide +kernel
theorem dX9_laysWay_75 : decode cX9_laysWay 75 = .ok (.iconst 0, 1) := by decide +kernel
theorem dX9_laysWay_76 : decode cX9_laysWay 76 = .ok (.istore 6, 2) := by decide +kernel
theorem dX9_laysWay_78 : decode cX9_laysWay 78 = .ok (.iload 6, 2) := by decide +kernel
theorem dX9_laysWay_80 : decode cX9_laysWay 80 = .ok (.iload_n 3, 1) := by decide +kernel
theorem dX9_laysWay_81 : decode cX9_laysWay 81 = .ok (.if_icmp .ge 60, 3) := by decide +kernel
theorem dX9_laysWay_84 : decode cX9_laysWay 84 = .ok (.aload_n 0, 1) := by decide +kernel
theorem dX9_laysWay_85 : decode cX9_laysWay 85 = .ok (.iload 4, 2) := by decide +kernel
theorem dX9_laysWay_87 : decode cX9_laysWay 87 = .ok (.iload 5, 2) := by decide +kernel
theorem dX9_laysWay_89 : decode cX9_laysWay 89 = .ok (.iload_n 3, 1) := by decide +kernel
theorem dX9_laysWay_90 : decode cX9_laysWay 90 = .ok (.iconst 1, 1) := by decide +kernel
theorem dX9_laysWay_91 : decode cX9_laysWay 91 = .ok (.isub, 1) := by decide +kernel
theorem dX9_laysWay_92 : decode cX9_laysWay 92 = .ok (.iload 6, 2) := by decide +kernel
theorem dX9_laysWay_94 : decode cX9_laysWay 94 = .ok (.isub, 1) := by decide +kernel
theorem dX9_laysWay_95 : decode cX9_laysWay 95 = .ok (.invokevirtual 282, 3) := by decide +kernel
theorem dX9_laysWay_98 : decode cX9_laysWay 98 = .ok (.istore 7, 2) := by decide +kernel
theorem dX9_laysWay_100 : decode cX9_laysWay 100 = .ok (.aload_n 0, 1) := by decide +kernel
theorem dX9_laysWay_101 : decode cX9_laysWay 101 = .ok (.getfield 52, 3) := by decide +kernel
theorem dX9_laysWay_104 : decode cX9_laysWay 104 = .ok (.iload 6, 2) := by decide +kernel
theorem dX9_laysWay_106 : decode cX9_laysWay 106 = .ok (.aload_n 0, 1) := by decide +kernel
theorem dX9_laysWay_107 : decode cX9_laysWay 107 = .ok (.getfield 43, 3) := by decide +kernel
theorem dX9_laysWay_110 : decode cX9_laysWay 110 = .ok (.iload 7, 2) := by decide +kernel
theorem dX9_laysWay_112 : decode cX9_laysWay 112 = .ok (.iaload, 1) := by decide +kernel
theorem dX9_laysWay_113 : decode cX9_laysWay 113 = .ok (.iastore, 1) := by decide +kernel
theorem dX9_laysWay_114 : decode cX9_laysWay 114 = .ok (.iload 5, 2) := by decide +kernel
theorem dX9_laysWay_116 : decode cX9_laysWay 116 = .ok (.aload_n 0, 1) := by decide +kernel
theorem dX9_laysWay_117 : decode cX9_laysWay 117 = .ok (.getfield 40, 3) := by decide +kernel
theorem dX9_laysWay_120 : decode cX9_laysWay 120 = .ok (.iload 7, 2) := by decide +kernel
theorem dX9_laysWay_122 : decode cX9_laysWay 122 = .ok (.iaload, 1) := by decide +kernel
theorem dX9_laysWay_123 : decode cX9_laysWay 123 = .ok (.isub, 1) := by decide +kernel
theorem dX9_laysWay_124 : decode cX9_laysWay 124 = .ok (.istore 5, 2) := by decide +kernel
theorem dX9_laysWay_126 : decode cX9_laysWay 126 = .ok (.aload_n 0, 1) := by decide +kernel
theorem dX9_laysWay_127 : decode cX9_laysWay 127 = .ok (.getfield 37, 3) := by decide +kernel
theorem dX9_laysWay_130 : decode cX9_laysWay 130 = .ok (.iload 7, 2) := by decide +kernel
theorem dX9_laysWay_132 : decode cX9_laysWay 132 = .ok (.iaload, 1) := by decide +kernel
theorem dX9_laysWay_133 : decode cX9_laysWay 133 = .ok (.istore 4, 2) := by decide +kernel
theorem dX9_laysWay_135 : decode cX9_laysWay 135 = .ok (.iinc 6 1, 3) := by decide +kernel
theorem dX9_laysWay_138 : decode cX9_laysWay 138 = .ok (.goto (-60), 3) := by decide +kernel
theorem dX9_laysWay_141 : decode cX9_laysWay 141 = .ok (.iload_n 3, 1) := by decide +kernel
theorem dX9_laysWay_142 : decode cX9_laysWay 142 = .ok (.ireturn, 1) := by decide +kernel
theorem dX9_laysSums_0 : decode cX9_laysSums 0 = .ok (.iconst 0, 1) := by decide +kernel
theorem dX9_laysSums_1 : decode cX9_laysSums 1 = .ok (.istore_n 2, 1) := by decide +kernel
theorem dX9_laysSums_2 : decode cX9_laysSums 2 = .ok (.iload_n 2, 1) := by decide +kernel
theorem dX9_laysSums_3 : decode cX9_laysSums 3 = .ok (.bipush 10, 2) := by decide +kernel
theorem dX9_laysSums_5 : decode cX9_laysSums 5 = .ok (.if_icmp .ge 22, 3) := by decide +kernel
theorem dX9_laysSums_8 : decode cX9_laysSums 8 = .ok (.aload_n 0, 1) := by decide +kernel
theorem dX9_laysSums_9 : decode cX9_laysSums 9 = .ok (.getfield 49, 3) := by decide +kernel
theorem dX9_laysSums_12 : decode cX9_laysSums 12 = .ok (.bipush 10, 2) := by decide +kernel
theorem dX9_laysSums_14 : decode cX9_laysSums 14 = .ok (.iload_n 1, 1) := by decide +kernel
theorem dX9_laysSums_15 : decode cX9_laysSums 15 = .ok (.imul, 1) := by decide +kernel
theorem dX9_laysSums_16 : decode cX9_laysSums 16 = .ok (.iload_n 2, 1) := by decide +kernel
theorem dX9_laysSums_17 : decode cX9_laysSums 17 = .ok (.iadd, 1) := by decide +kernel
theorem dX9_laysSums_18 : decode cX9_laysSums 18 = .ok (.ldc 112, 2) := by decide +kernel
theorem dX9_laysSums_20 : decode cX9_laysSums 20 = .ok (.iastore, 1) := by decide +kernel
theorem dX9_laysSums_21 : decode cX9_laysSums 21 = .ok (.iinc 2 1, 3) := by decide +kernel
theorem dX9_laysSums_24 : decode cX9_laysSums 24 = .ok (.goto (-22), 3) := by decide +kernel
theorem dX9_laysSums_27 : decode cX9_laysSums 27 = .ok (.iconst 0, 1) := by decide +kernel
theorem dX9_laysSums_28 : decode cX9_laysSums 28 = .ok (.istore_n 2, 1) := by decide +kernel
theorem dX9_laysSums_29 : decode cX9_laysSums 29 = .ok (.iload_n 2, 1) := by decide +kernel
theorem dX9_laysSums_30 : decode cX9_laysSums 30 = .ok (.aload_n 0, 1) := by decide +kernel
theorem dX9_laysSums_31 : decode cX9_laysSums 31 = .ok (.getfield 84, 3) := by decide +kernel
theorem dX9_laysSums_34 : decode cX9_laysSums 34 = .ok (.if_icmp .ge 102, 3) := by decide +kernel
theorem dX9_laysSums_37 : decode cX9_laysSums 37 = .ok (.aload_n 0, 1) := by decide +kernel
theorem dX9_laysSums_38 : decode cX9_laysSums 38 = .ok (.getfield 49, 3) := by decide +kernel
theorem dX9_laysSums_41 : decode cX9_laysSums 41 = .ok (.bipush 10, 2) := by decide +kernel
theorem dX9_laysSums_43 : decode cX9_laysSums 43 = .ok (.iload_n 1, 1) := by decide +kernel
theorem dX9_laysSums_44 : decode cX9_laysSums 44 = .ok (.iconst 1, 1) := by decide +kernel
theorem dX9_laysSums_45 : decode cX9_laysSums 45 = .ok (.isub, 1) := by decide +kernel
theorem dX9_laysSums_46 : decode cX9_laysSums 46 = .ok (.imul, 1) := by decide +kernel
theorem dX9_laysSums_47 : decode cX9_laysSums 47 = .ok (.aload_n 0, 1) := by decide +kernel
theorem dX9_laysSums_48 : decode cX9_laysSums 48 = .ok (.getfield 37, 3) := by decide +kernel
theorem dX9_laysSums_51 : decode cX9_laysSums 51 = .ok (.iload_n 2, 1) := by decide +kernel
theorem dX9_laysSums_52 : decode cX9_laysSums 52 = .ok (.iaload, 1) := by decide +kernel
theorem dX9_laysSums_53 : decode cX9_laysSums 53 = .ok (.iadd, 1) := by decide +kernel
theorem dX9_laysSums_54 : decode cX9_laysSums 54 = .ok (.iaload, 1) := by decide +kernel
theorem dX9_laysSums_55 : decode cX9_laysSums 55 = .ok (.istore_n 3, 1) := by decide +kernel
theorem dX9_laysSums_56 : decode cX9_laysSums 56 = .ok (.bipush 10, 2) := by decide +kernel
theorem dX9_laysSums_58 : decode cX9_laysSums 58 = .ok (.iload_n 1, 1) := by decide +kernel
theorem dX9_laysSums_59 : decode cX9_laysSums 59 = .ok (.imul, 1) := by decide +kernel
theorem dX9_laysSums_60 : decode cX9_laysSums 60 = .ok (.aload_n 0, 1) := by decide +kernel
theorem dX9_laysSums_61 : decode cX9_laysSums 61 = .ok (.getfield 34, 3) := by decide +kernel
theorem dX9_laysSums_64 : decode cX9_laysSums 64 = .ok (.iload_n 2, 1) := by decide +kernel
theorem dX9_laysSums_65 : decode cX9_laysSums 65 = .ok (.iaload, 1) := by decide +kernel
theorem dX9_laysSums_66 : decode cX9_laysSums 66 = .ok (.iadd, 1) := by decide +kernel
theorem dX9_laysSums_67 : decode cX9_laysSums 67 = .ok (.istore 4, 2) := by decide +kernel
theorem dX9_laysSums_69 : decode cX9_laysSums 69 = .ok (.iload_n 3, 1) := by decide +kernel
theorem dX9_laysSums_70 : decode cX9_laysSums 70 = .ok (.ldc 112, 2) := by decide +kernel
theorem dX9_laysSums_72 : decode cX9_laysSums 72 = .ok (.if_icmp .ge 25, 3) := by decide +kernel
theorem dX9_laysSums_75 : decode cX9_laysSums 75 = .ok (.iload_n 3, 1) := by decide +kernel
theorem dX9_laysSums_76 : decode cX9_laysSums 76 = .ok (.aload_n 0, 1) := by decide +kernel
theorem dX9_laysSums_77 : decode cX9_laysSums 77 = .ok (.getfield 40, 3) := by decide +kernel
theorem dX9_laysSums_80 : decode cX9_laysSums 80 = .ok (.iload_n 2, 1) := by decide +kernel
theorem dX9_laysSums_81 : decode cX9_laysSums 81 = .ok (.iaload, 1) := by decide +kernel
theorem dX9_laysSums_82 : decode cX9_laysSums 82 = .ok (.iadd, 1) := by decide +kernel
theorem dX9_laysSums_83 : decode cX9_laysSums 83 = .ok (.aload_n 0, 1) := by decide +kernel
theorem dX9_laysSums_84 : decode cX9_laysSums 84 = .ok (.getfield 49, 3) := by decide +kernel
theorem dX9_laysSums_87 : decode cX9_laysSums 87 = .ok (.iload 4, 2) := by decide +kernel
theorem dX9_laysSums_89 : decode cX9_laysSums 89 = .ok (.iaload, 1) := by decide +kernel
theorem dX9_laysSums_90 : decode cX9_laysSums 90 = .ok (.if_icmp .ge 7, 3) := by decide +kernel
theorem dX9_laysSums_93 : decode cX9_laysSums 93 = .ok (.iconst 1, 1) := by decide +kernel
theorem dX9_laysSums_94 : decode cX9_laysSums 94 = .ok (.goto 4, 3) := by decide +kernel
theorem dX9_laysSums_97 : decode cX9_laysSums 97 = .ok (.iconst 0, 1) := by decide +kernel
theorem dX9_laysSums_98 : decode cX9_laysSums 98 = .ok (.istore 5, 2) := by decide +kernel
theorem dX9_laysSums_100 : decode cX9_laysSums 100 = .ok (.aload_n 0, 1) := by decide +kernel
theorem dX9_laysSums_101 : decode cX9_laysSums 101 = .ok (.getfield 49, 3) := by decide +kernel
theorem dX9_laysSums_104 : decode cX9_laysSums 104 = .ok (.iload 4, 2) := by decide +kernel
theorem dX9_laysSums_106 : decode cX9_laysSums 106 = .ok (.iload 5, 2) := by decide +kernel
theorem dX9_laysSums_108 : decode cX9_laysSums 108 = .ok (.ifCond .eq 14, 3) := by decide +kernel
theorem dX9_laysSums_111 : decode cX9_laysSums 111 = .ok (.iload_n 3, 1) := by decide +kernel
theorem dX9_laysSums_112 : decode cX9_laysSums 112 = .ok (.aload_n 0, 1) := by decide +kernel
theorem dX9_laysSums_113 : decode cX9_laysSums 113 = .ok (.getfield 40, 3) := by decide +kernel
theorem dX9_laysSums_116 : decode cX9_laysSums 116 = .ok (.iload_n 2, 1) := by decide +kernel
theorem dX9_laysSums_117 : decode cX9_laysSums 117 = .ok (.iaload, 1) := by decide +kernel
theorem dX9_laysSums_118 : decode cX9_laysSums 118 = .ok (.iadd, 1) := by decide +kernel
theorem dX9_laysSums_119 : decode cX9_laysSums 119 = .ok (.goto 10, 3) := by decide +kernel
theorem dX9_laysSums_122 : decode cX9_laysSums 122 = .ok (.aload_n 0, 1) := by decide +kernel
theorem dX9_laysSums_123 : decode cX9_laysSums 123 = .ok (.getfield 49, 3) := by decide +kernel
theorem dX9_laysSums_126 : decode cX9_laysSums 126 = .ok (.iload 4, 2) := by decide +kernel
theorem dX9_laysSums_128 : decode cX9_laysSums 128 = .ok (.iaload, 1) := by decide +kernel
theorem dX9_laysSums_129 : decode cX9_laysSums 129 = .ok (.iastore, 1) := by decide +kernel
theorem dX9_laysSums_130 : decode cX9_laysSums 130 = .ok (.iinc 2 1, 3) := by decide +kernel
theorem dX9_laysSums_133 : decode cX9_laysSums 133 = .ok (.goto (-104), 3) := by decide +kernel
theorem dX9_laysSums_136 : decode cX9_laysSums 136 = .ok (.return_, 1) := by decide +kernel
theorem dX9_firstStep_0 : decode cX9_firstStep 0 = .ok (.iconst 0, 1) := by decide +kernel
theorem dX9_firstStep_1 : decode cX9_firstStep 1 = .ok (.istore 4, 2) := by decide +kernel
theorem dX9_firstStep_3 : decode cX9_firstStep 3 = .ok (.aload_n 0, 1) := by decide +kernel
theorem dX9_firstStep_4 : decode cX9_firstStep 4 = .ok (.getfield 34, 3) := by decide +kernel
theorem dX9_firstStep_7 : decode cX9_firstStep 7 = .ok (.iload 4, 2) := by decide +kernel
theorem dX9_firstStep_9 : decode cX9_firstStep 9 = .ok (.iaload, 1) := by decide +kernel
theorem dX9_firstStep_10 : decode cX9_firstStep 10 = .ok (.iload_n 1, 1) := by decide +kernel
theorem dX9_firstStep_11 : decode cX9_firstStep 11 = .ok (.if_icmp .ne 32, 3) := by decide +kernel
theorem dX9_firstStep_14 : decode cX9_firstStep 14 = .ok (.aload_n 0, 1) := by decide +kernel
theorem dX9_firstStep_15 : decode cX9_firstStep 15 = .ok (.getfield 40, 3) := by decide +kernel
theorem dX9_firstStep_18 : decode cX9_firstStep 18 = .ok (.iload 4, 2) := by decide +kernel
theorem dX9_firstStep_20 : decode cX9_firstStep 20 = .ok (.iaload, 1) := by decide +kernel
theorem dX9_firstStep_21 : decode cX9_firstStep 21 = .ok (.aload_n 0, 1) := by decide +kernel
theorem dX9_firstStep_22 : decode cX9_firstStep 22 = .ok (.getfield 49, 3) := by decide +kernel
theorem dX9_firstStep_25 : decode cX9_firstStep 25 = .ok (.bipush 10, 2) := by decide +kernel
theorem dX9_firstStep_27 : decode cX9_firstStep 27 = .ok (.iload_n 3, 1) := by decide +kernel
theorem dX9_firstStep_28 : decode cX9_firstStep 28 = .ok (.imul, 1) := by decide +kernel
theorem dX9_firstStep_29 : decode cX9_firstStep 29 = .ok (.aload_n 0, 1) := by decide +kernel
theorem dX9_firstStep_30 : decode cX9_firstStep 30 = .ok (.getfield 37, 3) := by decide +kernel
theorem dX9_firstStep_33 : decode cX9_firstStep 33 = .ok (.iload 4, 2) := by decide +kernel
theorem dX9_firstStep_35 : decode cX9_firstStep 35 = .ok (.iaload, 1) := by decide +kernel
theorem dX9_firstStep_36 : decode cX9_firstStep 36 = .ok (.iadd, 1) := by decide +kernel
theorem dX9_firstStep_37 : decode cX9_firstStep 37 = .ok (.iaload, 1) := by decide +kernel
theorem dX9_firstStep_38 : decode cX9_firstStep 38 = .ok (.iadd, 1) := by decide +kernel
theorem dX9_firstStep_39 : decode cX9_firstStep 39 = .ok (.iload_n 2, 1) := by decide +kernel
theorem dX9_firstStep_40 : decode cX9_firstStep 40 = .ok (.if_icmp .eq 9, 3) := by decide +kernel
theorem dX9_firstStep_43 : decode cX9_firstStep 43 = .ok (.iinc 4 1, 3) := by decide +kernel
theorem dX9_firstStep_46 : decode cX9_firstStep 46 = .ok (.goto (-43), 3) := by decide +kernel
theorem dX9_firstStep_49 : decode cX9_firstStep 49 = .ok (.iload 4, 2) := by decide +kernel
theorem dX9_firstStep_51 : decode cX9_firstStep 51 = .ok (.ireturn, 1) := by decide +kernel
theorem dX9_way_0 : decode cX9_way 0 = .ok (.aload_n 0, 1) := by decide +kernel
theorem dX9_way_1 : decode cX9_way 1 = .ok (.iload_n 1, 1) := by decide +kernel
theorem dX9_way_2 : decode cX9_way 2 = .ok (.iload_n 2, 1) := by decide +kernel
theorem dX9_way_3 : decode cX9_way 3 = .ok (.invokevirtual 143, 3) := by decide +kernel
theorem dX9_way_6 : decode cX9_way 6 = .ok (.ifCond .eq 7, 3) := by decide +kernel
theorem dX9_way_9 : decode cX9_way 9 = .ok (.iload_n 3, 1) := by decide +kernel
theorem dX9_way_10 : decode cX9_way 10 = .ok (.ifCond .ge 5, 3) := by decide +kernel
theorem dX9_way_13 : decode cX9_way 13 = .ok (.iconst (-1), 1) := by decide +kernel
theorem dX9_way_14 : decode cX9_way 14 = .ok (.ireturn, 1) := by decide +kernel
theorem dX9_way_15 : decode cX9_way 15 = .ok (.aload_n 0, 1) := by decide +kernel
theorem dX9_way_16 : decode cX9_way 16 = .ok (.invokevirtual 126, 3) := by decide +kernel
theorem dX9_way_19 : decode cX9_way 19 = .ok (.istore 4, 2) := by decide +kernel
theorem dX9_way_21 : decode cX9_way 21 = .ok (.iload_n 3, 1) := by decide +kernel
theorem dX9_way_22 : decode cX9_way 22 = .ok (.aload_n 0, 1) := by decide +kernel
theorem dX9_way_23 : decode cX9_way 23 = .ok (.iload_n 1, 1) := by decide +kernel
theorem dX9_way_24 : decode cX9_way 24 = .ok (.iload_n 2, 1) := by decide +kernel
theorem dX9_way_25 : decode cX9_way 25 = .ok (.invokevirtual 286, 3) := by decide +kernel
theorem dX9_way_28 : decode cX9_way 28 = .ok (.if_icmp .ge 12, 3) := by decide +kernel
theorem dX9_way_31 : decode cX9_way 31 = .ok (.aload_n 0, 1) := by decide +kernel
theorem dX9_way_32 : decode cX9_way 32 = .ok (.getfield 52, 3) := by decide +kernel
theorem dX9_way_35 : decode cX9_way 35 = .ok (.iload_n 3, 1) := by decide +kernel
theorem dX9_way_36 : decode cX9_way 36 = .ok (.iaload, 1) := by decide +kernel
theorem dX9_way_37 : decode cX9_way 37 = .ok (.goto 5, 3) := by decide +kernel
theorem dX9_way_40 : decode cX9_way 40 = .ok (.bipush (-2), 2) := by decide +kernel
theorem dX9_way_42 : decode cX9_way 42 = .ok (.ireturn, 1) := by decide +kernel
theorem dX9_wayLength_0 : decode cX9_wayLength 0 = .ok (.aload_n 0, 1) := by decide +kernel
theorem dX9_wayLength_1 : decode cX9_wayLength 1 = .ok (.iload_n 1, 1) := by decide +kernel
theorem dX9_wayLength_2 : decode cX9_wayLength 2 = .ok (.iload_n 2, 1) := by decide +kernel
theorem dX9_wayLength_3 : decode cX9_wayLength 3 = .ok (.invokevirtual 143, 3) := by decide +kernel
theorem dX9_wayLength_6 : decode cX9_wayLength 6 = .ok (.ifCond .ne 5, 3) := by decide +kernel
theorem dX9_wayLength_9 : decode cX9_wayLength 9 = .ok (.iconst (-1), 1) := by decide +kernel
theorem dX9_wayLength_10 : decode cX9_wayLength 10 = .ok (.ireturn, 1) := by decide +kernel
theorem dX9_wayLength_11 : decode cX9_wayLength 11 = .ok (.aload_n 0, 1) := by decide +kernel
theorem dX9_wayLength_12 : decode cX9_wayLength 12 = .ok (.invokevirtual 126, 3) := by decide +kernel
theorem dX9_wayLength_15 : decode cX9_wayLength 15 = .ok (.istore_n 3, 1) := by decide +kernel
theorem dX9_wayLength_16 : decode cX9_wayLength 16 = .ok (.aload_n 0, 1) := by decide +kernel
theorem dX9_wayLength_17 : decode cX9_wayLength 17 = .ok (.iload_n 1, 1) := by decide +kernel
theorem dX9_wayLength_18 : decode cX9_wayLength 18 = .ok (.iload_n 2, 1) := by decide +kernel
theorem dX9_wayLength_19 : decode cX9_wayLength 19 = .ok (.invokevirtual 286, 3) := by decide +kernel
theorem dX9_wayLength_22 : decode cX9_wayLength 22 = .ok (.ireturn, 1) := by decide +kernel
theorem dX9_relationOf_0 : decode cX9_relationOf 0 = .ok (.aload_n 0, 1) := by decide +kernel
theorem dX9_relationOf_1 : decode cX9_relationOf 1 = .ok (.iload_n 1, 1) := by decide +kernel
theorem dX9_relationOf_2 : decode cX9_relationOf 2 = .ok (.iload_n 2, 1) := by decide +kernel
theorem dX9_relationOf_3 : decode cX9_relationOf 3 = .ok (.invokevirtual 113, 3) := by decide +kernel
theorem dX9_relationOf_6 : decode cX9_relationOf 6 = .ok (.istore_n 3, 1) := by decide +kernel
theorem dX9_relationOf_7 : decode cX9_relationOf 7 = .ok (.aload_n 0, 1) := by decide +kernel
theorem dX9_relationOf_8 : decode cX9_relationOf 8 = .ok (.iload_n 2, 1) := by decide +kernel
theorem dX9_relationOf_9 : decode cX9_relationOf 9 = .ok (.iload_n 1, 1) := by decide +kernel
theorem dX9_relationOf_10 : decode cX9_relationOf 10 = .ok (.invokevirtual 113, 3) := by decide +kernel
theorem dX9_relationOf_13 : decode cX9_relationOf 13 = .ok (.istore 4, 2) := by decide +kernel
theorem dX9_relationOf_15 : decode cX9_relationOf 15 = .ok (.iload_n 3, 1) := by decide +kernel
theorem dX9_relationOf_16 : decode cX9_relationOf 16 = .ok (.ifCond .ne 10, 3) := by decide +kernel
theorem dX9_relationOf_19 : decode cX9_relationOf 19 = .ok (.iload 4, 2) := by decide +kernel
theorem dX9_relationOf_21 : decode cX9_relationOf 21 = .ok (.ifCond .ne 5, 3) := by decide +kernel
theorem dX9_relationOf_24 : decode cX9_relationOf 24 = .ok (.iconst 0, 1) := by decide +kernel
theorem dX9_relationOf_25 : decode cX9_relationOf 25 = .ok (.ireturn, 1) := by decide +kernel
theorem dX9_relationOf_26 : decode cX9_relationOf 26 = .ok (.iload 4, 2) := by decide +kernel
theorem dX9_relationOf_28 : decode cX9_relationOf 28 = .ok (.ifCond .ge 7, 3) := by decide +kernel
theorem dX9_relationOf_31 : decode cX9_relationOf 31 = .ok (.iconst 1, 1) := by decide +kernel
theorem dX9_relationOf_32 : decode cX9_relationOf 32 = .ok (.goto 29, 3) := by decide +kernel
theorem dX9_relationOf_35 : decode cX9_relationOf 35 = .ok (.iload_n 3, 1) := by decide +kernel
theorem dX9_relationOf_36 : decode cX9_relationOf 36 = .ok (.ifCond .ge 7, 3) := by decide +kernel
theorem dX9_relationOf_39 : decode cX9_relationOf 39 = .ok (.iconst 2, 1) := by decide +kernel
theorem dX9_relationOf_40 : decode cX9_relationOf 40 = .ok (.goto 21, 3) := by decide +kernel
theorem dX9_relationOf_43 : decode cX9_relationOf 43 = .ok (.iload 4, 2) := by decide +kernel
theorem dX9_relationOf_45 : decode cX9_relationOf 45 = .ok (.ifCond .ne 7, 3) := by decide +kernel
theorem dX9_relationOf_48 : decode cX9_relationOf 48 = .ok (.iconst 3, 1) := by decide +kernel
theorem dX9_relationOf_49 : decode cX9_relationOf 49 = .ok (.goto 12, 3) := by decide +kernel
theorem dX9_relationOf_52 : decode cX9_relationOf 52 = .ok (.iload_n 3, 1) := by decide +kernel
theorem dX9_relationOf_53 : decode cX9_relationOf 53 = .ok (.ifCond .ne 7, 3) := by decide +kernel
theorem dX9_relationOf_56 : decode cX9_relationOf 56 = .ok (.iconst 4, 1) := by decide +kernel
theorem dX9_relationOf_57 : decode cX9_relationOf 57 = .ok (.goto 4, 3) := by decide +kernel
theorem dX9_relationOf_60 : decode cX9_relationOf 60 = .ok (.iconst 5, 1) := by decide +kernel
theorem dX9_relationOf_61 : decode cX9_relationOf 61 = .ok (.ireturn, 1) := by decide +kernel
theorem dX9_relation_0 : decode cX9_relation 0 = .ok (.aload_n 0, 1) := by decide +kernel
theorem dX9_relation_1 : decode cX9_relation 1 = .ok (.iload_n 1, 1) := by decide +kernel
theorem dX9_relation_2 : decode cX9_relation 2 = .ok (.iload_n 2, 1) := by decide +kernel
theorem dX9_relation_3 : decode cX9_relation 3 = .ok (.invokevirtual 143, 3) := by decide +kernel
theorem dX9_relation_6 : decode cX9_relation 6 = .ok (.ifCond .ne 5, 3) := by decide +kernel
theorem dX9_relation_9 : decode cX9_relation 9 = .ok (.iconst (-1), 1) := by decide +kernel
theorem dX9_relation_10 : decode cX9_relation 10 = .ok (.ireturn, 1) := by decide +kernel
theorem dX9_relation_11 : decode cX9_relation 11 = .ok (.aload_n 0, 1) := by decide +kernel
theorem dX9_relation_12 : decode cX9_relation 12 = .ok (.invokevirtual 126, 3) := by decide +kernel
theorem dX9_relation_15 : decode cX9_relation 15 = .ok (.istore_n 3, 1) := by decide +kernel
theorem dX9_relation_16 : decode cX9_relation 16 = .ok (.aload_n 0, 1) := by decide +kernel
theorem dX9_relation_17 : decode cX9_relation 17 = .ok (.iload_n 1, 1) := by decide +kernel
theorem dX9_relation_18 : decode cX9_relation 18 = .ok (.iload_n 2, 1) := by decide +kernel
theorem dX9_relation_19 : decode cX9_relation 19 = .ok (.invokevirtual 289, 3) := by decide +kernel
theorem dX9_relation_22 : decode cX9_relation 22 = .ok (.ireturn, 1) := by decide +kernel
theorem dX9_play_0 : decode cX9_play 0 = .ok (.aload_n 0, 1) := by decide +kernel
theorem dX9_play_1 : decode cX9_play 1 = .ok (.iload_n 1, 1) := by decide +kernel
theorem dX9_play_2 : decode cX9_play 2 = .ok (.iload_n 2, 1) := by decide +kernel
theorem dX9_play_3 : decode cX9_play 3 = .ok (.invokevirtual 143, 3) := by decide +kernel
theorem dX9_play_6 : decode cX9_play 6 = .ok (.ifCond .ne 5, 3) := by decide +kernel
theorem dX9_play_9 : decode cX9_play 9 = .ok (.iconst (-1), 1) := by decide +kernel
theorem dX9_play_10 : decode cX9_play 10 = .ok (.ireturn, 1) := by decide +kernel
theorem dX9_play_11 : decode cX9_play 11 = .ok (.aload_n 0, 1) := by decide +kernel
theorem dX9_play_12 : decode cX9_play 12 = .ok (.invokevirtual 126, 3) := by decide +kernel
theorem dX9_play_15 : decode cX9_play 15 = .ok (.istore_n 3, 1) := by decide +kernel
theorem dX9_play_16 : decode cX9_play 16 = .ok (.aload_n 0, 1) := by decide +kernel
theorem dX9_play_17 : decode cX9_play 17 = .ok (.iload_n 1, 1) := by decide +kernel
theorem dX9_play_18 : decode cX9_play 18 = .ok (.iload_n 2, 1) := by decide +kernel
theorem dX9_play_19 : decode cX9_play 19 = .ok (.invokevirtual 113, 3) := by decide +kernel
theorem dX9_play_22 : decode cX9_play 22 = .ok (.aload_n 0, 1) := by decide +kernel
theorem dX9_play_23 : decode cX9_play 23 = .ok (.iload_n 2, 1) := by decide +kernel
theorem dX9_play_24 : decode cX9_play 24 = .ok (.iload_n 1, 1) := by decide +kernel
theorem dX9_play_25 : decode cX9_play 25 = .ok (.invokevirtual 113, 3) := by decide +kernel
theorem dX9_play_28 : decode cX9_play 28 = .ok (.iadd, 1) := by decide +kernel
theorem dX9_play_29 : decode cX9_play 29 = .ok (.ireturn, 1) := by decide +kernel
theorem dX9_pairs_0 : decode cX9_pairs 0 = .ok (.iload_n 1, 1) := by decide +kernel
theorem dX9_pairs_1 : decode cX9_pairs 1 = .ok (.iconst 0, 1) := by decide +kernel
theorem dX9_pairs_2 : decode cX9_pairs 2 = .ok (.iconst 5, 1) := by decide +kernel
theorem dX9_pairs_3 : decode cX9_pairs 3 = .ok (.invokestatic 65, 3) := by decide +kernel
theorem dX9_pairs_6 : decode cX9_pairs 6 = .ok (.ifCond .ne 5, 3) := by decide +kernel
theorem dX9_pairs_9 : decode cX9_pairs 9 = .ok (.iconst (-1), 1) := by decide +kernel
theorem dX9_pairs_10 : decode cX9_pairs 10 = .ok (.ireturn, 1) := by decide +kernel
theorem dX9_pairs_11 : decode cX9_pairs 11 = .ok (.aload_n 0, 1) := by decide +kernel
theorem dX9_pairs_12 : decode cX9_pairs 12 = .ok (.invokevirtual 126, 3) := by decide +kernel
theorem dX9_pairs_15 : decode cX9_pairs 15 = .ok (.istore_n 2, 1) := by decide +kernel
theorem dX9_pairs_16 : decode cX9_pairs 16 = .ok (.iconst 0, 1) := by decide +kernel
theorem dX9_pairs_17 : decode cX9_pairs 17 = .ok (.istore_n 3, 1) := by decide +kernel
theorem dX9_pairs_18 : decode cX9_pairs 18 = .ok (.iconst 0, 1) := by decide +kernel
theorem dX9_pairs_19 : decode cX9_pairs 19 = .ok (.istore 4, 2) := by decide +kernel
theorem dX9_pairs_21 : decode cX9_pairs 21 = .ok (.iload 4, 2) := by decide +kernel
theorem dX9_pairs_23 : decode cX9_pairs 23 = .ok (.aload_n 0, 1) := by decide +kernel
theorem dX9_pairs_24 : decode cX9_pairs 24 = .ok (.getfield 17, 3) := by decide +kernel
theorem dX9_pairs_27 : decode cX9_pairs 27 = .ok (.iconst 1, 1) := by decide +kernel
theorem dX9_pairs_28 : decode cX9_pairs 28 = .ok (.iaload, 1) := by decide +kernel
theorem dX9_pairs_29 : decode cX9_pairs 29 = .ok (.if_icmp .ge 52, 3) := by decide +kernel
theorem dX9_pairs_32 : decode cX9_pairs 32 = .ok (.iload 4, 2) := by decide +kernel
theorem dX9_pairs_34 : decode cX9_pairs 34 = .ok (.iconst 1, 1) := by decide +kernel
theorem dX9_pairs_35 : decode cX9_pairs 35 = .ok (.iadd, 1) := by decide +kernel
theorem dX9_pairs_36 : decode cX9_pairs 36 = .ok (.istore 5, 2) := by decide +kernel
theorem dX9_pairs_38 : decode cX9_pairs 38 = .ok (.iload 5, 2) := by decide +kernel
theorem dX9_pairs_40 : decode cX9_pairs 40 = .ok (.aload_n 0, 1) := by decide +kernel
theorem dX9_pairs_41 : decode cX9_pairs 41 = .ok (.getfield 17, 3) := by decide +kernel
theorem dX9_pairs_44 : decode cX9_pairs 44 = .ok (.iconst 1, 1) := by decide +kernel
theorem dX9_pairs_45 : decode cX9_pairs 45 = .ok (.iaload, 1) := by decide +kernel
theorem dX9_pairs_46 : decode cX9_pairs 46 = .ok (.if_icmp .ge 29, 3) := by decide +kernel
theorem dX9_pairs_49 : decode cX9_pairs 49 = .ok (.iload_n 3, 1) := by decide +kernel
theorem dX9_pairs_50 : decode cX9_pairs 50 = .ok (.aload_n 0, 1) := by decide +kernel
theorem dX9_pairs_51 : decode cX9_pairs 51 = .ok (.iload 4, 2) := by decide +kernel
theorem dX9_pairs_53 : decode cX9_pairs 53 = .ok (.iload 5, 2) := by decide +kernel
theorem dX9_pairs_55 : decode cX9_pairs 55 = .ok (.invokevirtual 289, 3) := by decide +kernel
theorem dX9_pairs_58 : decode cX9_pairs 58 = .ok (.iload_n 1, 1) := by decide +kernel
theorem dX9_pairs_59 : decode cX9_pairs 59 = .ok (.if_icmp .ne 7, 3) := by decide +kernel
theorem dX9_pairs_62 : decode cX9_pairs 62 = .ok (.iconst 1, 1) := by decide +kernel
theorem dX9_pairs_63 : decode cX9_pairs 63 = .ok (.goto 4, 3) := by decide +kernel
theorem dX9_pairs_66 : decode cX9_pairs 66 = .ok (.iconst 0, 1) := by decide +kernel
theorem dX9_pairs_67 : decode cX9_pairs 67 = .ok (.iadd, 1) := by decide +kernel
theorem dX9_pairs_68 : decode cX9_pairs 68 = .ok (.istore_n 3, 1) := by decide +kernel
theorem dX9_pairs_69 : decode cX9_pairs 69 = .ok (.iinc 5 1, 3) := by decide +kernel
theorem dX9_pairs_72 : decode cX9_pairs 72 = .ok (.goto (-34), 3) := by decide +kernel
theorem dX9_pairs_75 : decode cX9_pairs 75 = .ok (.iinc 4 1, 3) := by decide +kernel
theorem dX9_pairs_78 : decode cX9_pairs 78 = .ok (.goto (-57), 3) := by decide +kernel
theorem dX9_pairs_81 : decode cX9_pairs 81 = .ok (.iload_n 3, 1) := by decide +kernel
theorem dX9_pairs_82 : decode cX9_pairs 82 = .ok (.ireturn, 1) := by decide +kernel
theorem dX9_direct_0 : decode cX9_direct 0 = .ok (.aload_n 0, 1) := by decide +kernel
theorem dX9_direct_1 : decode cX9_direct 1 = .ok (.iload_n 1, 1) := by decide +kernel
theorem dX9_direct_2 : decode cX9_direct 2 = .ok (.iload_n 2, 1) := by decide +kernel
theorem dX9_direct_3 : decode cX9_direct 3 = .ok (.invokevirtual 143, 3) := by decide +kernel
theorem dX9_direct_6 : decode cX9_direct 6 = .ok (.ifCond .ne 5, 3) := by decide +kernel
theorem dX9_direct_9 : decode cX9_direct 9 = .ok (.iconst (-1), 1) := by decide +kernel
theorem dX9_direct_10 : decode cX9_direct 10 = .ok (.ireturn, 1) := by decide +kernel
theorem dX9_direct_11 : decode cX9_direct 11 = .ok (.aload_n 0, 1) := by decide +kernel
theorem dX9_direct_12 : decode cX9_direct 12 = .ok (.invokevirtual 126, 3) := by decide +kernel
theorem dX9_direct_15 : decode cX9_direct 15 = .ok (.istore_n 3, 1) := by decide +kernel
theorem dX9_direct_16 : decode cX9_direct 16 = .ok (.iconst 0, 1) := by decide +kernel
theorem dX9_direct_17 : decode cX9_direct 17 = .ok (.istore 4, 2) := by decide +kernel
theorem dX9_direct_19 : decode cX9_direct 19 = .ok (.iload 4, 2) := by decide +kernel
theorem dX9_direct_21 : decode cX9_direct 21 = .ok (.aload_n 0, 1) := by decide +kernel
theorem dX9_direct_22 : decode cX9_direct 22 = .ok (.getfield 17, 3) := by decide +kernel
theorem dX9_direct_25 : decode cX9_direct 25 = .ok (.iconst 2, 1) := by decide +kernel
theorem dX9_direct_26 : decode cX9_direct 26 = .ok (.iaload, 1) := by decide +kernel
theorem dX9_direct_27 : decode cX9_direct 27 = .ok (.if_icmp .ge 41, 3) := by decide +kernel
theorem dX9_direct_30 : decode cX9_direct 30 = .ok (.aload_n 0, 1) := by decide +kernel
theorem dX9_direct_31 : decode cX9_direct 31 = .ok (.iload 4, 2) := by decide +kernel
theorem dX9_direct_33 : decode cX9_direct 33 = .ok (.invokevirtual 130, 3) := by decide +kernel
theorem dX9_direct_36 : decode cX9_direct 36 = .ok (.ifCond .eq 26, 3) := by decide +kernel
theorem dX9_direct_39 : decode cX9_direct 39 = .ok (.aload_n 0, 1) := by decide +kernel
theorem dX9_direct_40 : decode cX9_direct 40 = .ok (.iload 4, 2) := by decide +kernel
theorem dX9_direct_42 : decode cX9_direct 42 = .ok (.invokevirtual 90, 3) := by decide +kernel
theorem dX9_direct_45 : decode cX9_direct 45 = .ok (.iload_n 1, 1) := by decide +kernel
theorem dX9_direct_46 : decode cX9_direct 46 = .ok (.if_icmp .ne 16, 3) := by decide +kernel
theorem dX9_direct_49 : decode cX9_direct 49 = .ok (.aload_n 0, 1) := by decide +kernel
theorem dX9_direct_50 : decode cX9_direct 50 = .ok (.iload 4, 2) := by decide +kernel
theorem dX9_direct_52 : decode cX9_direct 52 = .ok (.invokevirtual 93, 3) := by decide +kernel
theorem dX9_direct_55 : decode cX9_direct 55 = .ok (.iload_n 2, 1) := by decide +kernel
theorem dX9_direct_56 : decode cX9_direct 56 = .ok (.if_icmp .ne 6, 3) := by decide +kernel
theorem dX9_direct_59 : decode cX9_direct 59 = .ok (.iload 4, 2) := by decide +kernel
theorem dX9_direct_61 : decode cX9_direct 61 = .ok (.ireturn, 1) := by decide +kernel
theorem dX9_direct_62 : decode cX9_direct 62 = .ok (.iinc 4 1, 3) := by decide +kernel
theorem dX9_direct_65 : decode cX9_direct 65 = .ok (.goto (-46), 3) := by decide +kernel
theorem dX9_direct_68 : decode cX9_direct 68 = .ok (.bipush (-2), 2) := by decide +kernel
theorem dX9_direct_70 : decode cX9_direct 70 = .ok (.ireturn, 1) := by decide +kernel
theorem dX9_timeOf_0 : decode cX9_timeOf 0 = .ok (.iload_n 2, 1) := by decide +kernel
theorem dX9_timeOf_1 : decode cX9_timeOf 1 = .ok (.ifCond .eq 11, 3) := by decide +kernel
theorem dX9_timeOf_4 : decode cX9_timeOf 4 = .ok (.aload_n 0, 1) := by decide +kernel
theorem dX9_timeOf_5 : decode cX9_timeOf 5 = .ok (.iload_n 1, 1) := by decide +kernel
theorem dX9_timeOf_6 : decode cX9_timeOf 6 = .ok (.invokevirtual 120, 3) := by decide +kernel
theorem dX9_timeOf_9 : decode cX9_timeOf 9 = .ok (.goto 8, 3) := by decide +kernel
theorem dX9_timeOf_12 : decode cX9_timeOf 12 = .ok (.aload_n 0, 1) := by decide +kernel
theorem dX9_timeOf_13 : decode cX9_timeOf 13 = .ok (.iload_n 1, 1) := by decide +kernel
theorem dX9_timeOf_14 : decode cX9_timeOf 14 = .ok (.invokevirtual 117, 3) := by decide +kernel
theorem dX9_timeOf_17 : decode cX9_timeOf 17 = .ok (.ireturn, 1) := by decide +kernel
theorem dX9_placed_0 : decode cX9_placed 0 = .ok (.aload_n 0, 1) := by decide +kernel
theorem dX9_placed_1 : decode cX9_placed 1 = .ok (.invokevirtual 126, 3) := by decide +kernel
theorem dX9_placed_4 : decode cX9_placed 4 = .ok (.istore_n 3, 1) := by decide +kernel
theorem dX9_placed_5 : decode cX9_placed 5 = .ok (.iconst 0, 1) := by decide +kernel
theorem dX9_placed_6 : decode cX9_placed 6 = .ok (.istore 4, 2) := by decide +kernel
theorem dX9_placed_8 : decode cX9_placed 8 = .ok (.iload 4, 2) := by decide +kernel
theorem dX9_placed_10 : decode cX9_placed 10 = .ok (.aload_n 0, 1) := by decide +kernel
theorem dX9_placed_11 : decode cX9_placed 11 = .ok (.getfield 17, 3) := by decide +kernel
theorem dX9_placed_14 : decode cX9_placed 14 = .ok (.iconst 1, 1) := by decide +kernel
theorem dX9_placed_15 : decode cX9_placed 15 = .ok (.iaload, 1) := by decide +kernel
theorem dX9_placed_16 : decode cX9_placed 16 = .ok (.if_icmp .ge 91, 3) := by decide +kernel
theorem dX9_placed_19 : decode cX9_placed 19 = .ok (.iconst 0, 1) := by decide +kernel
theorem dX9_placed_20 : decode cX9_placed 20 = .ok (.istore 5, 2) := by decide +kernel
theorem dX9_placed_22 : decode cX9_placed 22 = .ok (.iconst 0, 1) := by decide +kernel
theorem dX9_placed_23 : decode cX9_placed 23 = .ok (.istore 6, 2) := by decide +kernel
theorem dX9_placed_25 : decode cX9_placed 25 = .ok (.iload 6, 2) := by decide +kernel
theorem dX9_placed_27 : decode cX9_placed 27 = .ok (.aload_n 0, 1) := by decide +kernel
theorem dX9_placed_28 : decode cX9_placed 28 = .ok (.getfield 17, 3) := by decide +kernel
theorem dX9_placed_31 : decode cX9_placed 31 = .ok (.iconst 1, 1) := by decide +kernel
theorem dX9_placed_32 : decode cX9_placed 32 = .ok (.iaload, 1) := by decide +kernel
theorem dX9_placed_33 : decode cX9_placed 33 = .ok (.if_icmp .ge 59, 3) := by decide +kernel
theorem dX9_placed_36 : decode cX9_placed 36 = .ok (.aload_n 0, 1) := by decide +kernel
theorem dX9_placed_37 : decode cX9_placed 37 = .ok (.iload 6, 2) := by decide +kernel
theorem dX9_placed_39 : decode cX9_placed 39 = .ok (.iload_n 2, 1) := by decide +kernel
theorem dX9_placed_40 : decode cX9_placed 40 = .ok (.invokevirtual 292, 3) := by decide +kernel
theorem dX9_placed_43 : decode cX9_placed 43 = .ok (.istore 7, 2) := by decide +kernel
theorem dX9_placed_45 : decode cX9_placed 45 = .ok (.iload 5, 2) := by decide +kernel
theorem dX9_placed_47 : decode cX9_placed 47 = .ok (.iload 7, 2) := by decide +kernel
theorem dX9_placed_49 : decode cX9_placed 49 = .ok (.aload_n 0, 1) := by decide +kernel
theorem dX9_placed_50 : decode cX9_placed 50 = .ok (.iload 4, 2) := by decide +kernel
theorem dX9_placed_52 : decode cX9_placed 52 = .ok (.iload_n 2, 1) := by decide +kernel
theorem dX9_placed_53 : decode cX9_placed 53 = .ok (.invokevirtual 292, 3) := by decide +kernel
theorem dX9_placed_56 : decode cX9_placed 56 = .ok (.if_icmp .lt 22, 3) := by decide +kernel
theorem dX9_placed_59 : decode cX9_placed 59 = .ok (.iload 7, 2) := by decide +kernel
theorem dX9_placed_61 : decode cX9_placed 61 = .ok (.aload_n 0, 1) := by decide +kernel
theorem dX9_placed_62 : decode cX9_placed 62 = .ok (.iload 4, 2) := by decide +kernel
theorem dX9_placed_64 : decode cX9_placed 64 = .ok (.iload_n 2, 1) := by decide +kernel
theorem dX9_placed_65 : decode cX9_placed 65 = .ok (.invokevirtual 292, 3) := by decide +kernel
theorem dX9_placed_68 : decode cX9_placed 68 = .ok (.if_icmp .ne 14, 3) := by decide +kernel
theorem dX9_placed_71 : decode cX9_placed 71 = .ok (.iload 6, 2) := by decide +kernel
theorem dX9_placed_73 : decode cX9_placed 73 = .ok (.iload 4, 2) := by decide +kernel
theorem dX9_placed_75 : decode cX9_placed 75 = .ok (.if_icmp .ge 7, 3) := by decide +kernel
theorem dX9_placed_78 : decode cX9_placed 78 = .ok (.iconst 1, 1) := by decide +kernel
theorem dX9_placed_79 : decode cX9_placed 79 = .ok (.goto 4, 3) := by decide +kernel
theorem dX9_placed_82 : decode cX9_placed 82 = .ok (.iconst 0, 1) := by decide +kernel
theorem dX9_placed_83 : decode cX9_placed 83 = .ok (.iadd, 1) := by decide +kernel
theorem dX9_placed_84 : decode cX9_placed 84 = .ok (.istore 5, 2) := by decide +kernel
theorem dX9_placed_86 : decode cX9_placed 86 = .ok (.iinc 6 1, 3) := by decide +kernel
theorem dX9_placed_89 : decode cX9_placed 89 = .ok (.goto (-64), 3) := by decide +kernel
theorem dX9_placed_92 : decode cX9_placed 92 = .ok (.iload 5, 2) := by decide +kernel
theorem dX9_placed_94 : decode cX9_placed 94 = .ok (.iload_n 1, 1) := by decide +kernel
theorem dX9_placed_95 : decode cX9_placed 95 = .ok (.if_icmp .ne 6, 3) := by decide +kernel
theorem dX9_placed_98 : decode cX9_placed 98 = .ok (.iload 4, 2) := by decide +kernel
theorem dX9_placed_100 : decode cX9_placed 100 = .ok (.ireturn, 1) := by decide +kernel
theorem dX9_placed_101 : decode cX9_placed 101 = .ok (.iinc 4 1, 3) := by decide +kernel
theorem dX9_placed_104 : decode cX9_placed 104 = .ok (.goto (-96), 3) := by decide +kernel
theorem dX9_placed_107 : decode cX9_placed 107 = .ok (.bipush (-2), 2) := by decide +kernel
theorem dX9_placed_109 : decode cX9_placed 109 = .ok (.ireturn, 1) := by decide +kernel
theorem dX9_ordered_0 : decode cX9_ordered 0 = .ok (.iload_n 1, 1) := by decide +kernel
theorem dX9_ordered_1 : decode cX9_ordered 1 = .ok (.ifCond .ge 7, 3) := by decide +kernel
theorem dX9_ordered_4 : decode cX9_ordered 4 = .ok (.iconst (-1), 1) := by decide +kernel
theorem dX9_ordered_5 : decode cX9_ordered 5 = .ok (.goto 9, 3) := by decide +kernel
theorem dX9_ordered_8 : decode cX9_ordered 8 = .ok (.aload_n 0, 1) := by decide +kernel
theorem dX9_ordered_9 : decode cX9_ordered 9 = .ok (.iload_n 1, 1) := by decide +kernel
theorem dX9_ordered_10 : decode cX9_ordered 10 = .ok (.iconst 1, 1) := by decide +kernel
theorem dX9_ordered_11 : decode cX9_ordered 11 = .ok (.invokevirtual 296, 3) := by decide +kernel
theorem dX9_ordered_14 : decode cX9_ordered 14 = .ok (.ireturn, 1) := by decide +kernel
theorem dX9_lastly_0 : decode cX9_lastly 0 = .ok (.iload_n 1, 1) := by decide +kernel
theorem dX9_lastly_1 : decode cX9_lastly 1 = .ok (.ifCond .ge 7, 3) := by decide +kernel
theorem dX9_lastly_4 : decode cX9_lastly 4 = .ok (.iconst (-1), 1) := by decide +kernel
theorem dX9_lastly_5 : decode cX9_lastly 5 = .ok (.goto 9, 3) := by decide +kernel
theorem dX9_lastly_8 : decode cX9_lastly 8 = .ok (.aload_n 0, 1) := by decide +kernel
theorem dX9_lastly_9 : decode cX9_lastly 9 = .ok (.iload_n 1, 1) := by decide +kernel
theorem dX9_lastly_10 : decode cX9_lastly 10 = .ok (.iconst 0, 1) := by decide +kernel
theorem dX9_lastly_11 : decode cX9_lastly 11 = .ok (.invokevirtual 296, 3) := by decide +kernel
theorem dX9_lastly_14 : decode cX9_lastly 14 = .ok (.ireturn, 1) := by decide +kernel
theorem dX9_middle_0 : decode cX9_middle 0 = .ok (.aload_n 0, 1) := by decide +kernel
theorem dX9_middle_1 : decode cX9_middle 1 = .ok (.iload_n 1, 1) := by decide +kernel
theorem dX9_middle_2 : decode cX9_middle 2 = .ok (.invokevirtual 80, 3) := by decide +kernel
theorem dX9_middle_5 : decode cX9_middle 5 = .ok (.ifCond .ne 5, 3) := by decide +kernel
theorem dX9_middle_8 : decode cX9_middle 8 = .ok (.iconst (-1), 1) := by decide +kernel
theorem dX9_middle_9 : decode cX9_middle 9 = .ok (.ireturn, 1) := by decide +kernel
theorem dX9_middle_10 : decode cX9_middle 10 = .ok (.aload_n 0, 1) := by decide +kernel
theorem dX9_middle_11 : decode cX9_middle 11 = .ok (.invokevirtual 69, 3) := by decide +kernel
theorem dX9_middle_14 : decode cX9_middle 14 = .ok (.iconst 1, 1) := by decide +kernel
theorem dX9_middle_15 : decode cX9_middle 15 = .ok (.istore_n 2, 1) := by decide +kernel
theorem dX9_middle_16 : decode cX9_middle 16 = .ok (.iload_n 2, 1) := by decide +kernel
theorem dX9_middle_17 : decode cX9_middle 17 = .ok (.aload_n 0, 1) := by decide +kernel
theorem dX9_middle_18 : decode cX9_middle 18 = .ok (.getfield 17, 3) := by decide +kernel
theorem dX9_middle_21 : decode cX9_middle 21 = .ok (.iconst 1, 1) := by decide +kernel
theorem dX9_middle_22 : decode cX9_middle 22 = .ok (.iaload, 1) := by decide +kernel
theorem dX9_middle_23 : decode cX9_middle 23 = .ok (.if_icmp .ge 60, 3) := by decide +kernel
theorem dX9_middle_26 : decode cX9_middle 26 = .ok (.aload_n 0, 1) := by decide +kernel
theorem dX9_middle_27 : decode cX9_middle 27 = .ok (.invokevirtual 126, 3) := by decide +kernel
theorem dX9_middle_30 : decode cX9_middle 30 = .ok (.istore_n 3, 1) := by decide +kernel
theorem dX9_middle_31 : decode cX9_middle 31 = .ok (.aload_n 0, 1) := by decide +kernel
theorem dX9_middle_32 : decode cX9_middle 32 = .ok (.getfield 17, 3) := by decide +kernel
theorem dX9_middle_35 : decode cX9_middle 35 = .ok (.sipush 133, 3) := by decide +kernel
theorem dX9_middle_38 : decode cX9_middle 38 = .ok (.iload_n 2, 1) := by decide +kernel
theorem dX9_middle_39 : decode cX9_middle 39 = .ok (.iadd, 1) := by decide +kernel
theorem dX9_middle_40 : decode cX9_middle 40 = .ok (.aload_n 0, 1) := by decide +kernel
theorem dX9_middle_41 : decode cX9_middle 41 = .ok (.iload_n 2, 1) := by decide +kernel
theorem dX9_middle_42 : decode cX9_middle 42 = .ok (.invokevirtual 103, 3) := by decide +kernel
theorem dX9_middle_45 : decode cX9_middle 45 = .ok (.ifCond .eq 16, 3) := by decide +kernel
theorem dX9_middle_48 : decode cX9_middle 48 = .ok (.aload_n 0, 1) := by decide +kernel
theorem dX9_middle_49 : decode cX9_middle 49 = .ok (.getfield 17, 3) := by decide +kernel
theorem dX9_middle_52 : decode cX9_middle 52 = .ok (.sipush 133, 3) := by decide +kernel
theorem dX9_middle_55 : decode cX9_middle 55 = .ok (.iload_n 2, 1) := by decide +kernel
theorem dX9_middle_56 : decode cX9_middle 56 = .ok (.iadd, 1) := by decide +kernel
theorem dX9_middle_57 : decode cX9_middle 57 = .ok (.iaload, 1) := by decide +kernel
theorem dX9_middle_58 : decode cX9_middle 58 = .ok (.goto 18, 3) := by decide +kernel
theorem dX9_middle_61 : decode cX9_middle 61 = .ok (.aload_n 0, 1) := by decide +kernel
theorem dX9_middle_62 : decode cX9_middle 62 = .ok (.iload_n 2, 1) := by decide +kernel
theorem dX9_middle_63 : decode cX9_middle 63 = .ok (.invokevirtual 120, 3) := by decide +kernel
theorem dX9_middle_66 : decode cX9_middle 66 = .ok (.aload_n 0, 1) := by decide +kernel
theorem dX9_middle_67 : decode cX9_middle 67 = .ok (.iload_n 2, 1) := by decide +kernel
theorem dX9_middle_68 : decode cX9_middle 68 = .ok (.invokevirtual 117, 3) := by decide +kernel
theorem dX9_middle_71 : decode cX9_middle 71 = .ok (.iadd, 1) := by decide +kernel
theorem dX9_middle_72 : decode cX9_middle 72 = .ok (.iconst 2, 1) := by decide +kernel
theorem dX9_middle_73 : decode cX9_middle 73 = .ok (.idiv, 1) := by decide +kernel
theorem dX9_middle_74 : decode cX9_middle 74 = .ok (.iconst 1, 1) := by decide +kernel
theorem dX9_middle_75 : decode cX9_middle 75 = .ok (.iadd, 1) := by decide +kernel
theorem dX9_middle_76 : decode cX9_middle 76 = .ok (.iastore, 1) := by decide +kernel
theorem dX9_middle_77 : decode cX9_middle 77 = .ok (.iinc 2 1, 3) := by decide +kernel
theorem dX9_middle_80 : decode cX9_middle 80 = .ok (.goto (-64), 3) := by decide +kernel
theorem dX9_middle_83 : decode cX9_middle 83 = .ok (.aload_n 0, 1) := by decide +kernel
theorem dX9_middle_84 : decode cX9_middle 84 = .ok (.iload_n 1, 1) := by decide +kernel
theorem dX9_middle_85 : decode cX9_middle 85 = .ok (.ifCond .ne 7, 3) := by decide +kernel
theorem dX9_middle_88 : decode cX9_middle 88 = .ok (.iconst 0, 1) := by decide +kernel
theorem dX9_middle_89 : decode cX9_middle 89 = .ok (.goto 15, 3) := by decide +kernel
theorem dX9_middle_92 : decode cX9_middle 92 = .ok (.aload_n 0, 1) := by decide +kernel
theorem dX9_middle_93 : decode cX9_middle 93 = .ok (.getfield 17, 3) := by decide +kernel
theorem dX9_middle_96 : decode cX9_middle 96 = .ok (.sipush 133, 3) := by decide +kernel
theorem dX9_middle_99 : decode cX9_middle 99 = .ok (.iload_n 1, 1) := by decide +kernel
theorem dX9_middle_100 : decode cX9_middle 100 = .ok (.iadd, 1) := by decide +kernel
theorem dX9_middle_101 : decode cX9_middle 101 = .ok (.iaload, 1) := by decide +kernel
theorem dX9_middle_102 : decode cX9_middle 102 = .ok (.iconst 1, 1) := by decide +kernel
theorem dX9_middle_103 : decode cX9_middle 103 = .ok (.isub, 1) := by decide +kernel
theorem dX9_middle_104 : decode cX9_middle 104 = .ok (.invokevirtual 137, 3) := by decide +kernel
theorem dX9_middle_107 : decode cX9_middle 107 = .ok (.ireturn, 1) := by decide +kernel
theorem dX9_can_0 : decode cX9_can 0 = .ok (.aload_n 0, 1) := by decide +kernel
theorem dX9_can_1 : decode cX9_can 1 = .ok (.iload_n 1, 1) := by decide +kernel
theorem dX9_can_2 : decode cX9_can 2 = .ok (.invokevirtual 80, 3) := by decide +kernel
theorem dX9_can_5 : decode cX9_can 5 = .ok (.ifCond .ne 5, 3) := by decide +kernel
theorem dX9_can_8 : decode cX9_can 8 = .ok (.iconst (-1), 1) := by decide +kernel
theorem dX9_can_9 : decode cX9_can 9 = .ok (.ireturn, 1) := by decide +kernel
theorem dX9_can_10 : decode cX9_can 10 = .ok (.aload_n 0, 1) := by decide +kernel
theorem dX9_can_11 : decode cX9_can 11 = .ok (.invokevirtual 126, 3) := by decide +kernel
theorem dX9_can_14 : decode cX9_can 14 = .ok (.istore_n 3, 1) := by decide +kernel
theorem dX9_can_15 : decode cX9_can 15 = .ok (.iload_n 2, 1) := by decide +kernel
theorem dX9_can_16 : decode cX9_can 16 = .ok (.aload_n 0, 1) := by decide +kernel
theorem dX9_can_17 : decode cX9_can 17 = .ok (.iload_n 1, 1) := by decide +kernel
theorem dX9_can_18 : decode cX9_can 18 = .ok (.invokevirtual 120, 3) := by decide +kernel
theorem dX9_can_21 : decode cX9_can 21 = .ok (.aload_n 0, 1) := by decide +kernel
theorem dX9_can_22 : decode cX9_can 22 = .ok (.iload_n 1, 1) := by decide +kernel
theorem dX9_can_23 : decode cX9_can 23 = .ok (.invokevirtual 117, 3) := by decide +kernel
theorem dX9_can_26 : decode cX9_can 26 = .ok (.invokestatic 65, 3) := by decide +kernel
theorem dX9_can_29 : decode cX9_can 29 = .ok (.ifCond .eq 7, 3) := by decide +kernel
theorem dX9_can_32 : decode cX9_can 32 = .ok (.iconst 1, 1) := by decide +kernel
theorem dX9_can_33 : decode cX9_can 33 = .ok (.goto 4, 3) := by decide +kernel
theorem dX9_can_36 : decode cX9_can 36 = .ok (.iconst 0, 1) := by decide +kernel
theorem dX9_can_37 : decode cX9_can 37 = .ok (.ireturn, 1) := by decide +kernel
theorem dX9_widest_0 : decode cX9_widest 0 = .ok (.aload_n 0, 1) := by decide +kernel
theorem dX9_widest_1 : decode cX9_widest 1 = .ok (.invokevirtual 126, 3) := by decide +kernel
theorem dX9_widest_4 : decode cX9_widest 4 = .ok (.istore_n 1, 1) := by decide +kernel
theorem dX9_widest_5 : decode cX9_widest 5 = .ok (.bipush (-2), 2) := by decide +kernel
theorem dX9_widest_7 : decode cX9_widest 7 = .ok (.istore_n 2, 1) := by decide +kernel
theorem dX9_widest_8 : decode cX9_widest 8 = .ok (.ldc 116, 2) := by decide +kernel
theorem dX9_widest_10 : decode cX9_widest 10 = .ok (.istore_n 3, 1) := by decide +kernel
theorem dX9_widest_11 : decode cX9_widest 11 = .ok (.iconst 0, 1) := by decide +kernel
theorem dX9_widest_12 : decode cX9_widest 12 = .ok (.istore 4, 2) := by decide +kernel
theorem dX9_widest_14 : decode cX9_widest 14 = .ok (.iload 4, 2) := by decide +kernel
theorem dX9_widest_16 : decode cX9_widest 16 = .ok (.aload_n 0, 1) := by decide +kernel
theorem dX9_widest_17 : decode cX9_widest 17 = .ok (.getfield 17, 3) := by decide +kernel
theorem dX9_widest_20 : decode cX9_widest 20 = .ok (.iconst 1, 1) := by decide +kernel
theorem dX9_widest_21 : decode cX9_widest 21 = .ok (.iaload, 1) := by decide +kernel
theorem dX9_widest_22 : decode cX9_widest 22 = .ok (.if_icmp .ge 66, 3) := by decide +kernel
theorem dX9_widest_25 : decode cX9_widest 25 = .ok (.iconst 0, 1) := by decide +kernel
theorem dX9_widest_26 : decode cX9_widest 26 = .ok (.istore 5, 2) := by decide +kernel
theorem dX9_widest_28 : decode cX9_widest 28 = .ok (.iload 5, 2) := by decide +kernel
theorem dX9_widest_30 : decode cX9_widest 30 = .ok (.aload_n 0, 1) := by decide +kernel
theorem dX9_widest_31 : decode cX9_widest 31 = .ok (.getfield 17, 3) := by decide +kernel
theorem dX9_widest_34 : decode cX9_widest 34 = .ok (.iconst 1, 1) := by decide +kernel
theorem dX9_widest_35 : decode cX9_widest 35 = .ok (.iaload, 1) := by decide +kernel
theorem dX9_widest_36 : decode cX9_widest 36 = .ok (.if_icmp .ge 46, 3) := by decide +kernel
theorem dX9_widest_39 : decode cX9_widest 39 = .ok (.iload 4, 2) := by decide +kernel
theorem dX9_widest_41 : decode cX9_widest 41 = .ok (.iload 5, 2) := by decide +kernel
theorem dX9_widest_43 : decode cX9_widest 43 = .ok (.if_icmp .eq 33, 3) := by decide +kernel
theorem dX9_widest_46 : decode cX9_widest 46 = .ok (.aload_n 0, 1) := by decide +kernel
theorem dX9_widest_47 : decode cX9_widest 47 = .ok (.iload 4, 2) := by decide +kernel
theorem dX9_widest_49 : decode cX9_widest 49 = .ok (.iload 5, 2) := by decide +kernel
theorem dX9_widest_51 : decode cX9_widest 51 = .ok (.invokevirtual 113, 3) := by decide +kernel
theorem dX9_widest_54 : decode cX9_widest 54 = .ok (.iload_n 3, 1) := by decide +kernel
theorem dX9_widest_55 : decode cX9_widest 55 = .ok (.if_icmp .le 21, 3) := by decide +kernel
theorem dX9_widest_58 : decode cX9_widest 58 = .ok (.bipush 10, 2) := by decide +kernel
theorem dX9_widest_60 : decode cX9_widest 60 = .ok (.iload 4, 2) := by decide +kernel
theorem dX9_widest_62 : decode cX9_widest 62 = .ok (.imul, 1) := by decide +kernel
theorem dX9_widest_63 : decode cX9_widest 63 = .ok (.iload 5, 2) := by decide +kernel
theorem dX9_widest_65 : decode cX9_widest 65 = .ok (.iadd, 1) := by decide +kernel
theorem dX9_widest_66 : decode cX9_widest 66 = .ok (.istore_n 2, 1) := by decide +kernel
theorem dX9_widest_67 : decode cX9_widest 67 = .ok (.aload_n 0, 1) := by decide +kernel
theorem dX9_widest_68 : decode cX9_widest 68 = .ok (.iload 4, 2) := by decide +kernel
theorem dX9_widest_70 : decode cX9_widest 70 = .ok (.iload 5, 2) := by decide +kernel
theorem dX9_widest_72 : decode cX9_widest 72 = .ok (.invokevirtual 113, 3) := by decide +kernel
theorem dX9_widest_75 : decode cX9_widest 75 = .ok (.istore_n 3, 1) := by decide +kernel
theorem dX9_widest_76 : decode cX9_widest 76 = .ok (.iinc 5 1, 3) := by decide +kernel
theorem dX9_widest_79 : decode cX9_widest 79 = .ok (.goto (-51), 3) := by decide +kernel
theorem dX9_widest_82 : decode cX9_widest 82 = .ok (.iinc 4 1, 3) := by decide +kernel
theorem dX9_widest_85 : decode cX9_widest 85 = .ok (.goto (-71), 3) := by decide +kernel
theorem dX9_widest_88 : decode cX9_widest 88 = .ok (.iload_n 2, 1) := by decide +kernel
theorem dX9_widest_89 : decode cX9_widest 89 = .ok (.ireturn, 1) := by decide +kernel
theorem dX9_freest_0 : decode cX9_freest 0 = .ok (.aload_n 0, 1) := by decide +kernel
theorem dX9_freest_1 : decode cX9_freest 1 = .ok (.invokevirtual 126, 3) := by decide +kernel
theorem dX9_freest_4 : decode cX9_freest 4 = .ok (.istore_n 1, 1) := by decide +kernel
theorem dX9_freest_5 : decode cX9_freest 5 = .ok (.iconst 0, 1) := by decide +kernel
theorem dX9_freest_6 : decode cX9_freest 6 = .ok (.istore_n 2, 1) := by decide +kernel
theorem dX9_freest_7 : decode cX9_freest 7 = .ok (.iconst 1, 1) := by decide +kernel
theorem dX9_freest_8 : decode cX9_freest 8 = .ok (.istore_n 3, 1) := by decide +kernel
theorem dX9_freest_9 : decode cX9_freest 9 = .ok (.iload_n 3, 1) := by decide +kernel
theorem dX9_freest_10 : decode cX9_freest 10 = .ok (.aload_n 0, 1) := by decide +kernel
theorem dX9_freest_11 : decode cX9_freest 11 = .ok (.getfield 17, 3) := by decide +kernel
theorem dX9_freest_14 : decode cX9_freest 14 = .ok (.iconst 1, 1) := by decide +kernel
theorem dX9_freest_15 : decode cX9_freest 15 = .ok (.iaload, 1) := by decide +kernel
theorem dX9_freest_16 : decode cX9_freest 16 = .ok (.if_icmp .ge 28, 3) := by decide +kernel
theorem dX9_freest_19 : decode cX9_freest 19 = .ok (.aload_n 0, 1) := by decide +kernel
theorem dX9_freest_20 : decode cX9_freest 20 = .ok (.iload_n 3, 1) := by decide +kernel
theorem dX9_freest_21 : decode cX9_freest 21 = .ok (.invokevirtual 123, 3) := by decide +kernel
theorem dX9_freest_24 : decode cX9_freest 24 = .ok (.aload_n 0, 1) := by decide +kernel
theorem dX9_freest_25 : decode cX9_freest 25 = .ok (.iload_n 2, 1) := by decide +kernel
theorem dX9_freest_26 : decode cX9_freest 26 = .ok (.invokevirtual 123, 3) := by decide +kernel
theorem dX9_freest_29 : decode cX9_freest 29 = .ok (.if_icmp .le 7, 3) := by decide +kernel
theorem dX9_freest_32 : decode cX9_freest 32 = .ok (.iload_n 3, 1) := by decide +kernel
theorem dX9_freest_33 : decode cX9_freest 33 = .ok (.goto 4, 3) := by decide +kernel
theorem dX9_freest_36 : decode cX9_freest 36 = .ok (.iload_n 2, 1) := by decide +kernel
theorem dX9_freest_37 : decode cX9_freest 37 = .ok (.istore_n 2, 1) := by decide +kernel
theorem dX9_freest_38 : decode cX9_freest 38 = .ok (.iinc 3 1, 3) := by decide +kernel
theorem dX9_freest_41 : decode cX9_freest 41 = .ok (.goto (-32), 3) := by decide +kernel
theorem dX9_freest_44 : decode cX9_freest 44 = .ok (.iload_n 2, 1) := by decide +kernel
theorem dX9_freest_45 : decode cX9_freest 45 = .ok (.ireturn, 1) := by decide +kernel
theorem dX9_laysAside_0 : decode cX9_laysAside 0 = .ok (.aload_n 0, 1) := by decide +kernel
theorem dX9_laysAside_1 : decode cX9_laysAside 1 = .ok (.iload_n 3, 1) := by decide +kernel
theorem dX9_laysAside_2 : decode cX9_laysAside 2 = .ok (.ifCond .ne 7, 3) := by decide +kernel
theorem dX9_laysAside_5 : decode cX9_laysAside 5 = .ok (.iload_n 1, 1) := by decide +kernel
theorem dX9_laysAside_6 : decode cX9_laysAside 6 = .ok (.goto 4, 3) := by decide +kernel
theorem dX9_laysAside_9 : decode cX9_laysAside 9 = .ok (.iload_n 2, 1) := by decide +kernel
theorem dX9_laysAside_10 : decode cX9_laysAside 10 = .ok (.putfield 299, 3) := by decide +kernel
theorem dX9_laysAside_13 : decode cX9_laysAside 13 = .ok (.aload_n 0, 1) := by decide +kernel
theorem dX9_laysAside_14 : decode cX9_laysAside 14 = .ok (.iload_n 3, 1) := by decide +kernel
theorem dX9_laysAside_15 : decode cX9_laysAside 15 = .ok (.ifCond .ne 7, 3) := by decide +kernel
theorem dX9_laysAside_18 : decode cX9_laysAside 18 = .ok (.iload_n 2, 1) := by decide +kernel
theorem dX9_laysAside_19 : decode cX9_laysAside 19 = .ok (.goto 4, 3) := by decide +kernel
theorem dX9_laysAside_22 : decode cX9_laysAside 22 = .ok (.iload_n 1, 1) := by decide +kernel
theorem dX9_laysAside_23 : decode cX9_laysAside 23 = .ok (.putfield 302, 3) := by decide +kernel
theorem dX9_laysAside_26 : decode cX9_laysAside 26 = .ok (.aload_n 0, 1) := by decide +kernel
theorem dX9_laysAside_27 : decode cX9_laysAside 27 = .ok (.iload_n 3, 1) := by decide +kernel
theorem dX9_laysAside_28 : decode cX9_laysAside 28 = .ok (.ifCond .ne 8, 3) := by decide +kernel
theorem dX9_laysAside_31 : decode cX9_laysAside 31 = .ok (.iload 4, 2) := by decide +kernel
theorem dX9_laysAside_33 : decode cX9_laysAside 33 = .ok (.goto 6, 3) := by decide +kernel
theorem dX9_laysAside_36 : decode cX9_laysAside 36 = .ok (.iload 4, 2) := by decide +kernel
theorem dX9_laysAside_38 : decode cX9_laysAside 38 = .ok (.ineg, 1) := by decide +kernel
theorem dX9_laysAside_39 : decode cX9_laysAside 39 = .ok (.putfield 305, 3) := by decide +kernel
theorem dX9_laysAside_42 : decode cX9_laysAside 42 = .ok (.return_, 1) := by decide +kernel
theorem dX9_leastRing_0 : decode cX9_leastRing 0 = .ok (.aload_n 0, 1) := by decide +kernel
theorem dX9_leastRing_1 : decode cX9_leastRing 1 = .ok (.getfield 305, 3) := by decide +kernel
theorem dX9_leastRing_4 : decode cX9_leastRing 4 = .ok (.aload_n 0, 1) := by decide +kernel
theorem dX9_leastRing_5 : decode cX9_leastRing 5 = .ok (.aload_n 0, 1) := by decide +kernel
theorem dX9_leastRing_6 : decode cX9_leastRing 6 = .ok (.getfield 302, 3) := by decide +kernel
theorem dX9_leastRing_9 : decode cX9_leastRing 9 = .ok (.aload_n 0, 1) := by decide +kernel
theorem dX9_leastRing_10 : decode cX9_leastRing 10 = .ok (.getfield 299, 3) := by decide +kernel
theorem dX9_leastRing_13 : decode cX9_leastRing 13 = .ok (.invokevirtual 113, 3) := by decide +kernel
theorem dX9_leastRing_16 : decode cX9_leastRing 16 = .ok (.iadd, 1) := by decide +kernel
theorem dX9_leastRing_17 : decode cX9_leastRing 17 = .ok (.ireturn, 1) := by decide +kernel
theorem dX9_isShortRing_0 : decode cX9_isShortRing 0 = .ok (.iconst 0, 1) := by decide +kernel
theorem dX9_isShortRing_1 : decode cX9_isShortRing 1 = .ok (.istore_n 1, 1) := by decide +kernel
theorem dX9_isShortRing_2 : decode cX9_isShortRing 2 = .ok (.iconst 0, 1) := by decide +kernel
theorem dX9_isShortRing_3 : decode cX9_isShortRing 3 = .ok (.istore_n 2, 1) := by decide +kernel
theorem dX9_isShortRing_4 : decode cX9_isShortRing 4 = .ok (.iload_n 2, 1) := by decide +kernel
theorem dX9_isShortRing_5 : decode cX9_isShortRing 5 = .ok (.aload_n 0, 1) := by decide +kernel
theorem dX9_isShortRing_6 : decode cX9_isShortRing 6 = .ok (.getfield 84, 3) := by decide +kernel
theorem dX9_isShortRing_9 : decode cX9_isShortRing 9 = .ok (.if_icmp .ge 59, 3) := by decide +kernel
theorem dX9_isShortRing_12 : decode cX9_isShortRing 12 = .ok (.iload_n 1, 1) := by decide +kernel
theorem dX9_isShortRing_13 : decode cX9_isShortRing 13 = .ok (.ifCond .ne 43, 3) := by decide +kernel
theorem dX9_isShortRing_16 : decode cX9_isShortRing 16 = .ok (.aload_n 0, 1) := by decide +kernel
theorem dX9_isShortRing_17 : decode cX9_isShortRing 17 = .ok (.getfield 34, 3) := by decide +kernel
theorem dX9_isShortRing_20 : decode cX9_isShortRing 20 = .ok (.iload_n 2, 1) := by decide +kernel
theorem dX9_isShortRing_21 : decode cX9_isShortRing 21 = .ok (.iaload, 1) := by decide +kernel
theorem dX9_isShortRing_22 : decode cX9_isShortRing 22 = .ok (.aload_n 0, 1) := by decide +kernel
theorem dX9_isShortRing_23 : decode cX9_isShortRing 23 = .ok (.getfield 302, 3) := by decide +kernel
theorem dX9_isShortRing_26 : decode cX9_isShortRing 26 = .ok (.if_icmp .ne 34, 3) := by decide +kernel
theorem dX9_isShortRing_29 : decode cX9_isShortRing 29 = .ok (.aload_n 0, 1) := by decide +kernel
theorem dX9_isShortRing_30 : decode cX9_isShortRing 30 = .ok (.getfield 37, 3) := by decide +kernel
theorem dX9_isShortRing_33 : decode cX9_isShortRing 33 = .ok (.iload_n 2, 1) := by decide +kernel
theorem dX9_isShortRing_34 : decode cX9_isShortRing 34 = .ok (.iaload, 1) := by decide +kernel
theorem dX9_isShortRing_35 : decode cX9_isShortRing 35 = .ok (.aload_n 0, 1) := by decide +kernel
theorem dX9_isShortRing_36 : decode cX9_isShortRing 36 = .ok (.getfield 299, 3) := by decide +kernel
theorem dX9_isShortRing_39 : decode cX9_isShortRing 39 = .ok (.if_icmp .ne 21, 3) := by decide +kernel
theorem dX9_isShortRing_42 : decode cX9_isShortRing 42 = .ok (.aload_n 0, 1) := by decide +kernel
theorem dX9_isShortRing_43 : decode cX9_isShortRing 43 = .ok (.getfield 305, 3) := by decide +kernel
theorem dX9_isShortRing_46 : decode cX9_isShortRing 46 = .ok (.aload_n 0, 1) := by decide +kernel
theorem dX9_isShortRing_47 : decode cX9_isShortRing 47 = .ok (.getfield 40, 3) := by decide +kernel
theorem dX9_isShortRing_50 : decode cX9_isShortRing 50 = .ok (.iload_n 2, 1) := by decide +kernel
theorem dX9_isShortRing_51 : decode cX9_isShortRing 51 = .ok (.iaload, 1) := by decide +kernel
theorem dX9_isShortRing_52 : decode cX9_isShortRing 52 = .ok (.iadd, 1) := by decide +kernel
theorem dX9_isShortRing_53 : decode cX9_isShortRing 53 = .ok (.ifCond .ge 7, 3) := by decide +kernel
theorem dX9_isShortRing_56 : decode cX9_isShortRing 56 = .ok (.iconst 1, 1) := by decide +kernel
theorem dX9_isShortRing_57 : decode cX9_isShortRing 57 = .ok (.goto 4, 3) := by decide +kernel
theorem dX9_isShortRing_60 : decode cX9_isShortRing 60 = .ok (.iconst 0, 1) := by decide +kernel
theorem dX9_isShortRing_61 : decode cX9_isShortRing 61 = .ok (.istore_n 1, 1) := by decide +kernel
theorem dX9_isShortRing_62 : decode cX9_isShortRing 62 = .ok (.iinc 2 1, 3) := by decide +kernel
theorem dX9_isShortRing_65 : decode cX9_isShortRing 65 = .ok (.goto (-61), 3) := by decide +kernel
theorem dX9_isShortRing_68 : decode cX9_isShortRing 68 = .ok (.iload_n 1, 1) := by decide +kernel
theorem dX9_isShortRing_69 : decode cX9_isShortRing 69 = .ok (.ireturn, 1) := by decide +kernel
theorem dX9_why_0 : decode cX9_why 0 = .ok (.aload_n 0, 1) := by decide +kernel
theorem dX9_why_1 : decode cX9_why 1 = .ok (.iload_n 1, 1) := by decide +kernel
theorem dX9_why_2 : decode cX9_why 2 = .ok (.iload_n 2, 1) := by decide +kernel
theorem dX9_why_3 : decode cX9_why 3 = .ok (.invokevirtual 143, 3) := by decide +kernel
theorem dX9_why_6 : decode cX9_why 6 = .ok (.ifCond .eq 22, 3) := by decide +kernel
theorem dX9_why_9 : decode cX9_why 9 = .ok (.iload_n 3, 1) := by decide +kernel
theorem dX9_why_10 : decode cX9_why 10 = .ok (.iload 4, 2) := by decide +kernel
theorem dX9_why_12 : decode cX9_why 12 = .ok (.invokestatic 147, 3) := by decide +kernel
theorem dX9_why_15 : decode cX9_why 15 = .ok (.ifCond .eq 13, 3) := by decide +kernel
theorem dX9_why_18 : decode cX9_why 18 = .ok (.iload 5, 2) := by decide +kernel
theorem dX9_why_20 : decode cX9_why 20 = .ok (.iconst 0, 1) := by decide +kernel
theorem dX9_why_21 : decode cX9_why 21 = .ok (.iconst 2, 1) := by decide +kernel
theorem dX9_why_22 : decode cX9_why 22 = .ok (.invokestatic 65, 3) := by decide +kernel
theorem dX9_why_25 : decode cX9_why 25 = .ok (.ifCond .ne 5, 3) := by decide +kernel
theorem dX9_why_28 : decode cX9_why 28 = .ok (.iconst (-1), 1) := by decide +kernel
theorem dX9_why_29 : decode cX9_why 29 = .ok (.ireturn, 1) := by decide +kernel
theorem dX9_why_30 : decode cX9_why 30 = .ok (.aload_n 0, 1) := by decide +kernel
theorem dX9_why_31 : decode cX9_why 31 = .ok (.invokevirtual 126, 3) := by decide +kernel
theorem dX9_why_34 : decode cX9_why 34 = .ok (.istore 6, 2) := by decide +kernel
theorem dX9_why_36 : decode cX9_why 36 = .ok (.aload_n 0, 1) := by decide +kernel
theorem dX9_why_37 : decode cX9_why 37 = .ok (.iload_n 1, 1) := by decide +kernel
theorem dX9_why_38 : decode cX9_why 38 = .ok (.iload_n 2, 1) := by decide +kernel
theorem dX9_why_39 : decode cX9_why 39 = .ok (.iload_n 3, 1) := by decide +kernel
theorem dX9_why_40 : decode cX9_why 40 = .ok (.iload 4, 2) := by decide +kernel
theorem dX9_why_42 : decode cX9_why 42 = .ok (.invokevirtual 308, 3) := by decide +kernel
theorem dX9_why_45 : decode cX9_why 45 = .ok (.aload_n 0, 1) := by decide +kernel
theorem dX9_why_46 : decode cX9_why 46 = .ok (.invokevirtual 311, 3) := by decide +kernel
theorem dX9_why_49 : decode cX9_why 49 = .ok (.ifCond .lt 15, 3) := by decide +kernel
theorem dX9_why_52 : decode cX9_why 52 = .ok (.iload 5, 2) := by decide +kernel
theorem dX9_why_54 : decode cX9_why 54 = .ok (.ifCond .ne 7, 3) := by decide +kernel
theorem dX9_why_57 : decode cX9_why 57 = .ok (.iconst 0, 1) := by decide +kernel
theorem dX9_why_58 : decode cX9_why 58 = .ok (.goto 5, 3) := by decide +kernel
theorem dX9_why_61 : decode cX9_why 61 = .ok (.bipush (-2), 2) := by decide +kernel
theorem dX9_why_63 : decode cX9_why 63 = .ok (.ireturn, 1) := by decide +kernel
theorem dX9_why_64 : decode cX9_why 64 = .ok (.iload 5, 2) := by decide +kernel
theorem dX9_why_66 : decode cX9_why 66 = .ok (.iconst 2, 1) := by decide +kernel
theorem dX9_why_67 : decode cX9_why 67 = .ok (.if_icmp .ge 30, 3) := by decide +kernel
theorem dX9_why_70 : decode cX9_why 70 = .ok (.iload 5, 2) := by decide +kernel
theorem dX9_why_72 : decode cX9_why 72 = .ok (.iconst 1, 1) := by decide +kernel
theorem dX9_why_73 : decode cX9_why 73 = .ok (.if_icmp .ne 11, 3) := by decide +kernel
theorem dX9_why_76 : decode cX9_why 76 = .ok (.aload_n 0, 1) := by decide +kernel
theorem dX9_why_77 : decode cX9_why 77 = .ok (.invokevirtual 311, 3) := by decide +kernel
theorem dX9_why_80 : decode cX9_why 80 = .ok (.ineg, 1) := by decide +kernel
theorem dX9_why_81 : decode cX9_why 81 = .ok (.goto 15, 3) := by decide +kernel
theorem dX9_why_84 : decode cX9_why 84 = .ok (.aload_n 0, 1) := by decide +kernel
theorem dX9_why_85 : decode cX9_why 85 = .ok (.invokevirtual 314, 3) := by decide +kernel
theorem dX9_why_88 : decode cX9_why 88 = .ok (.ifCond .eq 7, 3) := by decide +kernel
theorem dX9_why_91 : decode cX9_why 91 = .ok (.iconst 1, 1) := by decide +kernel
theorem dX9_why_92 : decode cX9_why 92 = .ok (.goto 4, 3) := by decide +kernel
theorem dX9_why_95 : decode cX9_why 95 = .ok (.iconst 2, 1) := by decide +kernel
theorem dX9_why_96 : decode cX9_why 96 = .ok (.ireturn, 1) := by decide +kernel
theorem dX9_why_97 : decode cX9_why 97 = .ok (.aload_n 0, 1) := by decide +kernel
theorem dX9_why_98 : decode cX9_why 98 = .ok (.aload_n 0, 1) := by decide +kernel
theorem dX9_why_99 : decode cX9_why 99 = .ok (.getfield 302, 3) := by decide +kernel
theorem dX9_why_102 : decode cX9_why 102 = .ok (.aload_n 0, 1) := by decide +kernel
theorem dX9_why_103 : decode cX9_why 103 = .ok (.getfield 299, 3) := by decide +kernel
theorem dX9_why_106 : decode cX9_why 106 = .ok (.invokevirtual 286, 3) := by decide +kernel
theorem dX9_why_109 : decode cX9_why 109 = .ok (.istore 7, 2) := by decide +kernel
theorem dX9_why_111 : decode cX9_why 111 = .ok (.aload_n 0, 1) := by decide +kernel
theorem dX9_why_112 : decode cX9_why 112 = .ok (.getfield 52, 3) := by decide +kernel
theorem dX9_why_115 : decode cX9_why 115 = .ok (.iconst 0, 1) := by decide +kernel
theorem dX9_why_116 : decode cX9_why 116 = .ok (.iaload, 1) := by decide +kernel
theorem dX9_why_117 : decode cX9_why 117 = .ok (.ireturn, 1) := by decide +kernel
theorem dX9_ring_0 : decode cX9_ring 0 = .ok (.aload_n 0, 1) := by decide +kernel
theorem dX9_ring_1 : decode cX9_ring 1 = .ok (.iload_n 1, 1) := by decide +kernel
theorem dX9_ring_2 : decode cX9_ring 2 = .ok (.iload_n 2, 1) := by decide +kernel
theorem dX9_ring_3 : decode cX9_ring 3 = .ok (.invokevirtual 143, 3) := by decide +kernel
theorem dX9_ring_6 : decode cX9_ring 6 = .ok (.ifCond .eq 17, 3) := by decide +kernel
theorem dX9_ring_9 : decode cX9_ring 9 = .ok (.iload_n 3, 1) := by decide +kernel
theorem dX9_ring_10 : decode cX9_ring 10 = .ok (.iload 4, 2) := by decide +kernel
theorem dX9_ring_12 : decode cX9_ring 12 = .ok (.invokestatic 147, 3) := by decide +kernel
theorem dX9_ring_15 : decode cX9_ring 15 = .ok (.ifCond .eq 8, 3) := by decide +kernel
theorem dX9_ring_18 : decode cX9_ring 18 = .ok (.iload 5, 2) := by decide +kernel
theorem dX9_ring_20 : decode cX9_ring 20 = .ok (.ifCond .ge 5, 3) := by decide +kernel
theorem dX9_ring_23 : decode cX9_ring 23 = .ok (.iconst (-1), 1) := by decide +kernel
theorem dX9_ring_24 : decode cX9_ring 24 = .ok (.ireturn, 1) := by decide +kernel
theorem dX9_ring_25 : decode cX9_ring 25 = .ok (.aload_n 0, 1) := by decide +kernel
theorem dX9_ring_26 : decode cX9_ring 26 = .ok (.invokevirtual 126, 3) := by decide +kernel
theorem dX9_ring_29 : decode cX9_ring 29 = .ok (.istore 6, 2) := by decide +kernel
theorem dX9_ring_31 : decode cX9_ring 31 = .ok (.aload_n 0, 1) := by decide +kernel
theorem dX9_ring_32 : decode cX9_ring 32 = .ok (.iload_n 1, 1) := by decide +kernel
theorem dX9_ring_33 : decode cX9_ring 33 = .ok (.iload_n 2, 1) := by decide +kernel
theorem dX9_ring_34 : decode cX9_ring 34 = .ok (.iload_n 3, 1) := by decide +kernel
theorem dX9_ring_35 : decode cX9_ring 35 = .ok (.iload 4, 2) := by decide +kernel
theorem dX9_ring_37 : decode cX9_ring 37 = .ok (.invokevirtual 308, 3) := by decide +kernel
theorem dX9_ring_40 : decode cX9_ring 40 = .ok (.aload_n 0, 1) := by decide +kernel
theorem dX9_ring_41 : decode cX9_ring 41 = .ok (.invokevirtual 311, 3) := by decide +kernel
theorem dX9_ring_44 : decode cX9_ring 44 = .ok (.ifCond .ge 30, 3) := by decide +kernel
theorem dX9_ring_47 : decode cX9_ring 47 = .ok (.iload 5, 2) := by decide +kernel
theorem dX9_ring_49 : decode cX9_ring 49 = .ok (.aload_n 0, 1) := by decide +kernel
theorem dX9_ring_50 : decode cX9_ring 50 = .ok (.aload_n 0, 1) := by decide +kernel
theorem dX9_ring_51 : decode cX9_ring 51 = .ok (.getfield 302, 3) := by decide +kernel
theorem dX9_ring_54 : decode cX9_ring 54 = .ok (.aload_n 0, 1) := by decide +kernel
theorem dX9_ring_55 : decode cX9_ring 55 = .ok (.getfield 299, 3) := by decide +kernel
theorem dX9_ring_58 : decode cX9_ring 58 = .ok (.invokevirtual 286, 3) := by decide +kernel
theorem dX9_ring_61 : decode cX9_ring 61 = .ok (.if_icmp .ge 13, 3) := by decide +kernel
theorem dX9_ring_64 : decode cX9_ring 64 = .ok (.aload_n 0, 1) := by decide +kernel
theorem dX9_ring_65 : decode cX9_ring 65 = .ok (.getfield 52, 3) := by decide +kernel
theorem dX9_ring_68 : decode cX9_ring 68 = .ok (.iload 5, 2) := by decide +kernel
theorem dX9_ring_70 : decode cX9_ring 70 = .ok (.iaload, 1) := by decide +kernel
theorem dX9_ring_71 : decode cX9_ring 71 = .ok (.goto 5, 3) := by decide +kernel
theorem dX9_ring_74 : decode cX9_ring 74 = .ok (.bipush (-2), 2) := by decide +kernel
theorem dX9_ring_76 : decode cX9_ring 76 = .ok (.ireturn, 1) := by decide +kernel
theorem dX9_culprit_0 : decode cX9_culprit 0 = .ok (.aload_n 0, 1) := by decide +kernel
theorem dX9_culprit_1 : decode cX9_culprit 1 = .ok (.iload_n 1, 1) := by decide +kernel
theorem dX9_culprit_2 : decode cX9_culprit 2 = .ok (.iload_n 2, 1) := by decide +kernel
theorem dX9_culprit_3 : decode cX9_culprit 3 = .ok (.invokevirtual 143, 3) := by decide +kernel
theorem dX9_culprit_6 : decode cX9_culprit 6 = .ok (.ifCond .eq 12, 3) := by decide +kernel
theorem dX9_culprit_9 : decode cX9_culprit 9 = .ok (.iload_n 3, 1) := by decide +kernel
theorem dX9_culprit_10 : decode cX9_culprit 10 = .ok (.iload 4, 2) := by decide +kernel
theorem dX9_culprit_12 : decode cX9_culprit 12 = .ok (.invokestatic 147, 3) := by decide +kernel
theorem dX9_culprit_15 : decode cX9_culprit 15 = .ok (.ifCond .ne 5, 3) := by decide +kernel
theorem dX9_culprit_18 : decode cX9_culprit 18 = .ok (.iconst (-1), 1) := by decide +kernel
theorem dX9_culprit_19 : decode cX9_culprit 19 = .ok (.ireturn, 1) := by decide +kernel
theorem dX9_culprit_20 : decode cX9_culprit 20 = .ok (.aload_n 0, 1) := by decide +kernel
theorem dX9_culprit_21 : decode cX9_culprit 21 = .ok (.invokevirtual 126, 3) := by decide +kernel
theorem dX9_culprit_24 : decode cX9_culprit 24 = .ok (.istore 5, 2) := by decide +kernel
theorem dX9_culprit_26 : decode cX9_culprit 26 = .ok (.aload_n 0, 1) := by decide +kernel
theorem dX9_culprit_27 : decode cX9_culprit 27 = .ok (.iload_n 1, 1) := by decide +kernel
theorem dX9_culprit_28 : decode cX9_culprit 28 = .ok (.iload_n 2, 1) := by decide +kernel
theorem dX9_culprit_29 : decode cX9_culprit 29 = .ok (.iload_n 3, 1) := by decide +kernel
theorem dX9_culprit_30 : decode cX9_culprit 30 = .ok (.iload 4, 2) := by decide +kernel
theorem dX9_culprit_32 : decode cX9_culprit 32 = .ok (.invokevirtual 308, 3) := by decide +kernel
theorem dX9_culprit_35 : decode cX9_culprit 35 = .ok (.bipush (-2), 2) := by decide +kernel
theorem dX9_culprit_37 : decode cX9_culprit 37 = .ok (.istore 6, 2) := by decide +kernel
theorem dX9_culprit_39 : decode cX9_culprit 39 = .ok (.aload_n 0, 1) := by decide +kernel
theorem dX9_culprit_40 : decode cX9_culprit 40 = .ok (.invokevirtual 311, 3) := by decide +kernel
theorem dX9_culprit_43 : decode cX9_culprit 43 = .ok (.ifCond .ge 7, 3) := by decide +kernel
theorem dX9_culprit_46 : decode cX9_culprit 46 = .ok (.iconst 1, 1) := by decide +kernel
theorem dX9_culprit_47 : decode cX9_culprit 47 = .ok (.goto 4, 3) := by decide +kernel
theorem dX9_culprit_50 : decode cX9_culprit 50 = .ok (.iconst 0, 1) := by decide +kernel
theorem dX9_culprit_51 : decode cX9_culprit 51 = .ok (.istore 7, 2) := by decide +kernel
theorem dX9_culprit_53 : decode cX9_culprit 53 = .ok (.iconst 0, 1) := by decide +kernel
theorem dX9_culprit_54 : decode cX9_culprit 54 = .ok (.istore 8, 2) := by decide +kernel
theorem dX9_culprit_56 : decode cX9_culprit 56 = .ok (.iload 8, 2) := by decide +kernel
theorem dX9_culprit_58 : decode cX9_culprit 58 = .ok (.aload_n 0, 1) := by decide +kernel
theorem dX9_culprit_59 : decode cX9_culprit 59 = .ok (.getfield 17, 3) := by decide +kernel
theorem dX9_culprit_62 : decode cX9_culprit 62 = .ok (.iconst 2, 1) := by decide +kernel
theorem dX9_culprit_63 : decode cX9_culprit 63 = .ok (.iaload, 1) := by decide +kernel
theorem dX9_culprit_64 : decode cX9_culprit 64 = .ok (.if_icmp .ge 66, 3) := by decide +kernel
theorem dX9_culprit_67 : decode cX9_culprit 67 = .ok (.iload 7, 2) := by decide +kernel
theorem dX9_culprit_69 : decode cX9_culprit 69 = .ok (.ifCond .eq 61, 3) := by decide +kernel
theorem dX9_culprit_72 : decode cX9_culprit 72 = .ok (.iload 6, 2) := by decide +kernel
theorem dX9_culprit_74 : decode cX9_culprit 74 = .ok (.ifCond .ge 56, 3) := by decide +kernel
theorem dX9_culprit_77 : decode cX9_culprit 77 = .ok (.aload_n 0, 1) := by decide +kernel
theorem dX9_culprit_78 : decode cX9_culprit 78 = .ok (.iload 8, 2) := by decide +kernel
theorem dX9_culprit_80 : decode cX9_culprit 80 = .ok (.invokevirtual 87, 3) := by decide +kernel
theorem dX9_culprit_83 : decode cX9_culprit 83 = .ok (.ifCond .eq 41, 3) := by decide +kernel
theorem dX9_culprit_86 : decode cX9_culprit 86 = .ok (.aload_n 0, 1) := by decide +kernel
theorem dX9_culprit_87 : decode cX9_culprit 87 = .ok (.iload 8, 2) := by decide +kernel
theorem dX9_culprit_89 : decode cX9_culprit 89 = .ok (.iconst 4, 1) := by decide +kernel
theorem dX9_culprit_90 : decode cX9_culprit 90 = .ok (.iconst 0, 1) := by decide +kernel
theorem dX9_culprit_91 : decode cX9_culprit 91 = .ok (.invokevirtual 133, 3) := by decide +kernel
theorem dX9_culprit_94 : decode cX9_culprit 94 = .ok (.aload_n 0, 1) := by decide +kernel
theorem dX9_culprit_95 : decode cX9_culprit 95 = .ok (.invokevirtual 126, 3) := by decide +kernel
theorem dX9_culprit_98 : decode cX9_culprit 98 = .ok (.istore 5, 2) := by decide +kernel
theorem dX9_culprit_100 : decode cX9_culprit 100 = .ok (.aload_n 0, 1) := by decide +kernel
theorem dX9_culprit_101 : decode cX9_culprit 101 = .ok (.invokevirtual 311, 3) := by decide +kernel
theorem dX9_culprit_104 : decode cX9_culprit 104 = .ok (.ifCond .lt 8, 3) := by decide +kernel
theorem dX9_culprit_107 : decode cX9_culprit 107 = .ok (.iload 8, 2) := by decide +kernel
theorem dX9_culprit_109 : decode cX9_culprit 109 = .ok (.goto 5, 3) := by decide +kernel
theorem dX9_culprit_112 : decode cX9_culprit 112 = .ok (.bipush (-2), 2) := by decide +kernel
theorem dX9_culprit_114 : decode cX9_culprit 114 = .ok (.istore 6, 2) := by decide +kernel
theorem dX9_culprit_116 : decode cX9_culprit 116 = .ok (.aload_n 0, 1) := by decide +kernel
theorem dX9_culprit_117 : decode cX9_culprit 117 = .ok (.iload 8, 2) := by decide +kernel
theorem dX9_culprit_119 : decode cX9_culprit 119 = .ok (.iconst 4, 1) := by decide +kernel
theorem dX9_culprit_120 : decode cX9_culprit 120 = .ok (.iconst 1, 1) := by decide +kernel
theorem dX9_culprit_121 : decode cX9_culprit 121 = .ok (.invokevirtual 133, 3) := by decide +kernel
theorem dX9_culprit_124 : decode cX9_culprit 124 = .ok (.iinc 8 1, 3) := by decide +kernel
theorem dX9_culprit_127 : decode cX9_culprit 127 = .ok (.goto (-71), 3) := by decide +kernel
theorem dX9_culprit_130 : decode cX9_culprit 130 = .ok (.iload 6, 2) := by decide +kernel
theorem dX9_culprit_132 : decode cX9_culprit 132 = .ok (.ireturn, 1) := by decide +kernel
theorem dX9_tightestOf_0 : decode cX9_tightestOf 0 = .ok (.iload_n 3, 1) := by decide +kernel
theorem dX9_tightestOf_1 : decode cX9_tightestOf 1 = .ok (.ifCond .ne 13, 3) := by decide +kernel
theorem dX9_tightestOf_4 : decode cX9_tightestOf 4 = .ok (.aload_n 0, 1) := by decide +kernel
theorem dX9_tightestOf_5 : decode cX9_tightestOf 5 = .ok (.iload_n 2, 1) := by decide +kernel
theorem dX9_tightestOf_6 : decode cX9_tightestOf 6 = .ok (.iload_n 1, 1) := by decide +kernel
theorem dX9_tightestOf_7 : decode cX9_tightestOf 7 = .ok (.invokevirtual 113, 3) := by decide +kernel
theorem dX9_tightestOf_10 : decode cX9_tightestOf 10 = .ok (.ineg, 1) := by decide +kernel
theorem dX9_tightestOf_11 : decode cX9_tightestOf 11 = .ok (.goto 9, 3) := by decide +kernel
theorem dX9_tightestOf_14 : decode cX9_tightestOf 14 = .ok (.aload_n 0, 1) := by decide +kernel
theorem dX9_tightestOf_15 : decode cX9_tightestOf 15 = .ok (.iload_n 1, 1) := by decide +kernel
theorem dX9_tightestOf_16 : decode cX9_tightestOf 16 = .ok (.iload_n 2, 1) := by decide +kernel
theorem dX9_tightestOf_17 : decode cX9_tightestOf 17 = .ok (.invokevirtual 113, 3) := by decide +kernel
theorem dX9_tightestOf_20 : decode cX9_tightestOf 20 = .ok (.istore 4, 2) := by decide +kernel
theorem dX9_tightestOf_22 : decode cX9_tightestOf 22 = .ok (.iload_n 3, 1) := by decide +kernel
theorem dX9_tightestOf_23 : decode cX9_tightestOf 23 = .ok (.ifCond .ne 15, 3) := by decide +kernel
theorem dX9_tightestOf_26 : decode cX9_tightestOf 26 = .ok (.iload 4, 2) := by decide +kernel
theorem dX9_tightestOf_28 : decode cX9_tightestOf 28 = .ok (.ifCond .ge 7, 3) := by decide +kernel
theorem dX9_tightestOf_31 : decode cX9_tightestOf 31 = .ok (.iconst 0, 1) := by decide +kernel
theorem dX9_tightestOf_32 : decode cX9_tightestOf 32 = .ok (.goto 5, 3) := by decide +kernel
theorem dX9_tightestOf_35 : decode cX9_tightestOf 35 = .ok (.iload 4, 2) := by decide +kernel
theorem dX9_tightestOf_37 : decode cX9_tightestOf 37 = .ok (.ireturn, 1) := by decide +kernel
theorem dX9_tightestOf_38 : decode cX9_tightestOf 38 = .ok (.iload 4, 2) := by decide +kernel
theorem dX9_tightestOf_40 : decode cX9_tightestOf 40 = .ok (.ifCond .ge 8, 3) := by decide +kernel
theorem dX9_tightestOf_43 : decode cX9_tightestOf 43 = .ok (.bipush (-2), 2) := by decide +kernel
theorem dX9_tightestOf_45 : decode cX9_tightestOf 45 = .ok (.goto 19, 3) := by decide +kernel
theorem dX9_tightestOf_48 : decode cX9_tightestOf 48 = .ok (.iload 4, 2) := by decide +kernel
theorem dX9_tightestOf_50 : decode cX9_tightestOf 50 = .ok (.sipush 999, 3) := by decide +kernel
theorem dX9_tightestOf_53 : decode cX9_tightestOf 53 = .ok (.if_icmp .le 9, 3) := by decide +kernel
theorem dX9_tightestOf_56 : decode cX9_tightestOf 56 = .ok (.sipush 999, 3) := by decide +kernel
theorem dX9_tightestOf_59 : decode cX9_tightestOf 59 = .ok (.goto 5, 3) := by decide +kernel
theorem dX9_tightestOf_62 : decode cX9_tightestOf 62 = .ok (.iload 4, 2) := by decide +kernel
theorem dX9_tightestOf_64 : decode cX9_tightestOf 64 = .ok (.ireturn, 1) := by decide +kernel
theorem dX9_tightest_0 : decode cX9_tightest 0 = .ok (.aload_n 0, 1) := by decide +kernel
theorem dX9_tightest_1 : decode cX9_tightest 1 = .ok (.iload_n 1, 1) := by decide +kernel
theorem dX9_tightest_2 : decode cX9_tightest 2 = .ok (.iload_n 2, 1) := by decide +kernel
theorem dX9_tightest_3 : decode cX9_tightest 3 = .ok (.invokevirtual 143, 3) := by decide +kernel
theorem dX9_tightest_6 : decode cX9_tightest 6 = .ok (.ifCond .eq 12, 3) := by decide +kernel
theorem dX9_tightest_9 : decode cX9_tightest 9 = .ok (.iload_n 3, 1) := by decide +kernel
theorem dX9_tightest_10 : decode cX9_tightest 10 = .ok (.iconst 0, 1) := by decide +kernel
theorem dX9_tightest_11 : decode cX9_tightest 11 = .ok (.iconst 1, 1) := by decide +kernel
theorem dX9_tightest_12 : decode cX9_tightest 12 = .ok (.invokestatic 65, 3) := by decide +kernel
theorem dX9_tightest_15 : decode cX9_tightest 15 = .ok (.ifCond .ne 5, 3) := by decide +kernel
theorem dX9_tightest_18 : decode cX9_tightest 18 = .ok (.iconst (-1), 1) := by decide +kernel
theorem dX9_tightest_19 : decode cX9_tightest 19 = .ok (.ireturn, 1) := by decide +kernel
theorem dX9_tightest_20 : decode cX9_tightest 20 = .ok (.aload_n 0, 1) := by decide +kernel
theorem dX9_tightest_21 : decode cX9_tightest 21 = .ok (.invokevirtual 126, 3) := by decide +kernel
theorem dX9_tightest_24 : decode cX9_tightest 24 = .ok (.istore 4, 2) := by decide +kernel
theorem dX9_tightest_26 : decode cX9_tightest 26 = .ok (.aload_n 0, 1) := by decide +kernel
theorem dX9_tightest_27 : decode cX9_tightest 27 = .ok (.iload_n 1, 1) := by decide +kernel
theorem dX9_tightest_28 : decode cX9_tightest 28 = .ok (.iload_n 2, 1) := by decide +kernel
theorem dX9_tightest_29 : decode cX9_tightest 29 = .ok (.iload_n 3, 1) := by decide +kernel
theorem dX9_tightest_30 : decode cX9_tightest 30 = .ok (.invokevirtual 317, 3) := by decide +kernel
theorem dX9_tightest_33 : decode cX9_tightest 33 = .ok (.ireturn, 1) := by decide +kernel
theorem dX9_spare_0 : decode cX9_spare 0 = .ok (.aload_n 0, 1) := by decide +kernel
theorem dX9_spare_1 : decode cX9_spare 1 = .ok (.iload_n 1, 1) := by decide +kernel
theorem dX9_spare_2 : decode cX9_spare 2 = .ok (.invokevirtual 154, 3) := by decide +kernel
theorem dX9_spare_5 : decode cX9_spare 5 = .ok (.ifCond .ne 5, 3) := by decide +kernel
theorem dX9_spare_8 : decode cX9_spare 8 = .ok (.iconst (-1), 1) := by decide +kernel
theorem dX9_spare_9 : decode cX9_spare 9 = .ok (.ireturn, 1) := by decide +kernel
theorem dX9_spare_10 : decode cX9_spare 10 = .ok (.aload_n 0, 1) := by decide +kernel
theorem dX9_spare_11 : decode cX9_spare 11 = .ok (.iload_n 1, 1) := by decide +kernel
theorem dX9_spare_12 : decode cX9_spare 12 = .ok (.invokevirtual 87, 3) := by decide +kernel
theorem dX9_spare_15 : decode cX9_spare 15 = .ok (.ifCond .ne 6, 3) := by decide +kernel
theorem dX9_spare_18 : decode cX9_spare 18 = .ok (.bipush (-3), 2) := by decide +kernel
theorem dX9_spare_20 : decode cX9_spare 20 = .ok (.ireturn, 1) := by decide +kernel
theorem dX9_spare_21 : decode cX9_spare 21 = .ok (.aload_n 0, 1) := by decide +kernel
theorem dX9_spare_22 : decode cX9_spare 22 = .ok (.invokevirtual 126, 3) := by decide +kernel
theorem dX9_spare_25 : decode cX9_spare 25 = .ok (.istore_n 2, 1) := by decide +kernel
theorem dX9_spare_26 : decode cX9_spare 26 = .ok (.aload_n 0, 1) := by decide +kernel
theorem dX9_spare_27 : decode cX9_spare 27 = .ok (.aload_n 0, 1) := by decide +kernel
theorem dX9_spare_28 : decode cX9_spare 28 = .ok (.iload_n 1, 1) := by decide +kernel
theorem dX9_spare_29 : decode cX9_spare 29 = .ok (.iconst 0, 1) := by decide +kernel
theorem dX9_spare_30 : decode cX9_spare 30 = .ok (.invokevirtual 76, 3) := by decide +kernel
theorem dX9_spare_33 : decode cX9_spare 33 = .ok (.aload_n 0, 1) := by decide +kernel
theorem dX9_spare_34 : decode cX9_spare 34 = .ok (.iload_n 1, 1) := by decide +kernel
theorem dX9_spare_35 : decode cX9_spare 35 = .ok (.iconst 1, 1) := by decide +kernel
theorem dX9_spare_36 : decode cX9_spare 36 = .ok (.invokevirtual 76, 3) := by decide +kernel
theorem dX9_spare_39 : decode cX9_spare 39 = .ok (.aload_n 0, 1) := by decide +kernel
theorem dX9_spare_40 : decode cX9_spare 40 = .ok (.iload_n 1, 1) := by decide +kernel
theorem dX9_spare_41 : decode cX9_spare 41 = .ok (.iconst 2, 1) := by decide +kernel
theorem dX9_spare_42 : decode cX9_spare 42 = .ok (.invokevirtual 76, 3) := by decide +kernel
theorem dX9_spare_45 : decode cX9_spare 45 = .ok (.invokevirtual 317, 3) := by decide +kernel
theorem dX9_spare_48 : decode cX9_spare 48 = .ok (.aload_n 0, 1) := by decide +kernel
theorem dX9_spare_49 : decode cX9_spare 49 = .ok (.iload_n 1, 1) := by decide +kernel
theorem dX9_spare_50 : decode cX9_spare 50 = .ok (.iconst 3, 1) := by decide +kernel
theorem dX9_spare_51 : decode cX9_spare 51 = .ok (.invokevirtual 76, 3) := by decide +kernel
theorem dX9_spare_54 : decode cX9_spare 54 = .ok (.isub, 1) := by decide +kernel
theorem dX9_spare_55 : decode cX9_spare 55 = .ok (.istore_n 3, 1) := by decide +kernel
theorem dX9_spare_56 : decode cX9_spare 56 = .ok (.aload_n 0, 1) := by decide +kernel
theorem dX9_spare_57 : decode cX9_spare 57 = .ok (.iload_n 1, 1) := by decide +kernel
theorem dX9_spare_58 : decode cX9_spare 58 = .ok (.iconst 2, 1) := by decide +kernel
theorem dX9_spare_59 : decode cX9_spare 59 = .ok (.invokevirtual 76, 3) := by decide +kernel
theorem dX9_spare_62 : decode cX9_spare 62 = .ok (.ifCond .ne 8, 3) := by decide +kernel
theorem dX9_spare_65 : decode cX9_spare 65 = .ok (.iload_n 3, 1) := by decide +kernel
theorem dX9_spare_66 : decode cX9_spare 66 = .ok (.ineg, 1) := by decide +kernel
theorem dX9_spare_67 : decode cX9_spare 67 = .ok (.goto 4, 3) := by decide +kernel
theorem dX9_spare_70 : decode cX9_spare 70 = .ok (.iload_n 3, 1) := by decide +kernel
theorem dX9_spare_71 : decode cX9_spare 71 = .ok (.ireturn, 1) := by decide +kernel
theorem dX9_needless_0 : decode cX9_needless 0 = .ok (.aload_n 0, 1) := by decide +kernel
theorem dX9_needless_1 : decode cX9_needless 1 = .ok (.invokevirtual 175, 3) := by decide +kernel
theorem dX9_needless_4 : decode cX9_needless 4 = .ok (.ireturn, 1) := by decide +kernel
theorem dX9_needs_0 : decode cX9_needs 0 = .ok (.aload_n 0, 1) := by decide +kernel
theorem dX9_needs_1 : decode cX9_needs 1 = .ok (.iload_n 1, 1) := by decide +kernel
theorem dX9_needs_2 : decode cX9_needs 2 = .ok (.invokevirtual 80, 3) := by decide +kernel
theorem dX9_needs_5 : decode cX9_needs 5 = .ok (.ifCond .eq 11, 3) := by decide +kernel
theorem dX9_needs_8 : decode cX9_needs 8 = .ok (.aload_n 0, 1) := by decide +kernel
theorem dX9_needs_9 : decode cX9_needs 9 = .ok (.iload_n 1, 1) := by decide +kernel
theorem dX9_needs_10 : decode cX9_needs 10 = .ok (.invokevirtual 260, 3) := by decide +kernel
theorem dX9_needs_13 : decode cX9_needs 13 = .ok (.goto 4, 3) := by decide +kernel
theorem dX9_needs_16 : decode cX9_needs 16 = .ok (.iconst (-1), 1) := by decide +kernel
theorem dX9_needs_17 : decode cX9_needs 17 = .ok (.ireturn, 1) := by decide +kernel
theorem dX9_keepsBounds_0 : decode cX9_keepsBounds 0 = .ok (.aload_n 0, 1) := by decide +kernel
theorem dX9_keepsBounds_1 : decode cX9_keepsBounds 1 = .ok (.invokevirtual 126, 3) := by decide +kernel
theorem dX9_keepsBounds_4 : decode cX9_keepsBounds 4 = .ok (.istore_n 1, 1) := by decide +kernel
theorem dX9_keepsBounds_5 : decode cX9_keepsBounds 5 = .ok (.iconst 0, 1) := by decide +kernel
theorem dX9_keepsBounds_6 : decode cX9_keepsBounds 6 = .ok (.istore_n 2, 1) := by decide +kernel
theorem dX9_keepsBounds_7 : decode cX9_keepsBounds 7 = .ok (.iload_n 2, 1) := by decide +kernel
theorem dX9_keepsBounds_8 : decode cX9_keepsBounds 8 = .ok (.bipush 100, 2) := by decide +kernel
theorem dX9_keepsBounds_10 : decode cX9_keepsBounds 10 = .ok (.if_icmp .ge 21, 3) := by decide +kernel
theorem dX9_keepsBounds_13 : decode cX9_keepsBounds 13 = .ok (.aload_n 0, 1) := by decide +kernel
theorem dX9_keepsBounds_14 : decode cX9_keepsBounds 14 = .ok (.getfield 55, 3) := by decide +kernel
theorem dX9_keepsBounds_17 : decode cX9_keepsBounds 17 = .ok (.iload_n 2, 1) := by decide +kernel
theorem dX9_keepsBounds_18 : decode cX9_keepsBounds 18 = .ok (.aload_n 0, 1) := by decide +kernel
theorem dX9_keepsBounds_19 : decode cX9_keepsBounds 19 = .ok (.getfield 46, 3) := by decide +kernel
theorem dX9_keepsBounds_22 : decode cX9_keepsBounds 22 = .ok (.iload_n 2, 1) := by decide +kernel
theorem dX9_keepsBounds_23 : decode cX9_keepsBounds 23 = .ok (.iaload, 1) := by decide +kernel
theorem dX9_keepsBounds_24 : decode cX9_keepsBounds 24 = .ok (.iastore, 1) := by decide +kernel
theorem dX9_keepsBounds_25 : decode cX9_keepsBounds 25 = .ok (.iinc 2 1, 3) := by decide +kernel
theorem dX9_keepsBounds_28 : decode cX9_keepsBounds 28 = .ok (.goto (-21), 3) := by decide +kernel
theorem dX9_keepsBounds_31 : decode cX9_keepsBounds 31 = .ok (.return_, 1) := by decide +kernel
theorem dX9_otherBounds_0 : decode cX9_otherBounds 0 = .ok (.iconst 0, 1) := by decide +kernel
theorem dX9_otherBounds_1 : decode cX9_otherBounds 1 = .ok (.istore_n 1, 1) := by decide +kernel
theorem dX9_otherBounds_2 : decode cX9_otherBounds 2 = .ok (.iconst 0, 1) := by decide +kernel
theorem dX9_otherBounds_3 : decode cX9_otherBounds 3 = .ok (.istore_n 2, 1) := by decide +kernel
theorem dX9_otherBounds_4 : decode cX9_otherBounds 4 = .ok (.iload_n 2, 1) := by decide +kernel
theorem dX9_otherBounds_5 : decode cX9_otherBounds 5 = .ok (.aload_n 0, 1) := by decide +kernel
theorem dX9_otherBounds_6 : decode cX9_otherBounds 6 = .ok (.getfield 17, 3) := by decide +kernel
theorem dX9_otherBounds_9 : decode cX9_otherBounds 9 = .ok (.iconst 1, 1) := by decide +kernel
theorem dX9_otherBounds_10 : decode cX9_otherBounds 10 = .ok (.iaload, 1) := by decide +kernel
theorem dX9_otherBounds_11 : decode cX9_otherBounds 11 = .ok (.if_icmp .ge 63, 3) := by decide +kernel
theorem dX9_otherBounds_14 : decode cX9_otherBounds 14 = .ok (.iconst 0, 1) := by decide +kernel
theorem dX9_otherBounds_15 : decode cX9_otherBounds 15 = .ok (.istore_n 3, 1) := by decide +kernel
theorem dX9_otherBounds_16 : decode cX9_otherBounds 16 = .ok (.iload_n 3, 1) := by decide +kernel
theorem dX9_otherBounds_17 : decode cX9_otherBounds 17 = .ok (.aload_n 0, 1) := by decide +kernel
theorem dX9_otherBounds_18 : decode cX9_otherBounds 18 = .ok (.getfield 17, 3) := by decide +kernel
theorem dX9_otherBounds_21 : decode cX9_otherBounds 21 = .ok (.iconst 1, 1) := by decide +kernel
theorem dX9_otherBounds_22 : decode cX9_otherBounds 22 = .ok (.iaload, 1) := by decide +kernel
theorem dX9_otherBounds_23 : decode cX9_otherBounds 23 = .ok (.if_icmp .ge 45, 3) := by decide +kernel
theorem dX9_otherBounds_26 : decode cX9_otherBounds 26 = .ok (.iload_n 1, 1) := by decide +kernel
theorem dX9_otherBounds_27 : decode cX9_otherBounds 27 = .ok (.iload_n 2, 1) := by decide +kernel
theorem dX9_otherBounds_28 : decode cX9_otherBounds 28 = .ok (.iload_n 3, 1) := by decide +kernel
theorem dX9_otherBounds_29 : decode cX9_otherBounds 29 = .ok (.if_icmp .eq 30, 3) := by decide +kernel
theorem dX9_otherBounds_32 : decode cX9_otherBounds 32 = .ok (.aload_n 0, 1) := by decide +kernel
theorem dX9_otherBounds_33 : decode cX9_otherBounds 33 = .ok (.getfield 46, 3) := by decide +kernel
theorem dX9_otherBounds_36 : decode cX9_otherBounds 36 = .ok (.iload_n 2, 1) := by decide +kernel
theorem dX9_otherBounds_37 : decode cX9_otherBounds 37 = .ok (.iload_n 3, 1) := by decide +kernel
theorem dX9_otherBounds_38 : decode cX9_otherBounds 38 = .ok (.invokestatic 106, 3) := by decide +kernel
theorem dX9_otherBounds_41 : decode cX9_otherBounds 41 = .ok (.iaload, 1) := by decide +kernel
theorem dX9_otherBounds_42 : decode cX9_otherBounds 42 = .ok (.aload_n 0, 1) := by decide +kernel
theorem dX9_otherBounds_43 : decode cX9_otherBounds 43 = .ok (.getfield 55, 3) := by decide +kernel
theorem dX9_otherBounds_46 : decode cX9_otherBounds 46 = .ok (.iload_n 2, 1) := by decide +kernel
theorem dX9_otherBounds_47 : decode cX9_otherBounds 47 = .ok (.iload_n 3, 1) := by decide +kernel
theorem dX9_otherBounds_48 : decode cX9_otherBounds 48 = .ok (.invokestatic 106, 3) := by decide +kernel
theorem dX9_otherBounds_51 : decode cX9_otherBounds 51 = .ok (.iaload, 1) := by decide +kernel
theorem dX9_otherBounds_52 : decode cX9_otherBounds 52 = .ok (.if_icmp .eq 7, 3) := by decide +kernel
theorem dX9_otherBounds_55 : decode cX9_otherBounds 55 = .ok (.iconst 1, 1) := by decide +kernel
theorem dX9_otherBounds_56 : decode cX9_otherBounds 56 = .ok (.goto 4, 3) := by decide +kernel
theorem dX9_otherBounds_59 : decode cX9_otherBounds 59 = .ok (.iconst 0, 1) := by decide +kernel
theorem dX9_otherBounds_60 : decode cX9_otherBounds 60 = .ok (.iadd, 1) := by decide +kernel
theorem dX9_otherBounds_61 : decode cX9_otherBounds 61 = .ok (.istore_n 1, 1) := by decide +kernel
theorem dX9_otherBounds_62 : decode cX9_otherBounds 62 = .ok (.iinc 3 1, 3) := by decide +kernel
theorem dX9_otherBounds_65 : decode cX9_otherBounds 65 = .ok (.goto (-49), 3) := by decide +kernel
theorem dX9_otherBounds_68 : decode cX9_otherBounds 68 = .ok (.iinc 2 1, 3) := by decide +kernel
theorem dX9_otherBounds_71 : decode cX9_otherBounds 71 = .ok (.goto (-67), 3) := by decide +kernel
theorem dX9_otherBounds_74 : decode cX9_otherBounds 74 = .ok (.iload_n 1, 1) := by decide +kernel
theorem dX9_otherBounds_75 : decode cX9_otherBounds 75 = .ok (.ireturn, 1) := by decide +kernel
theorem dX9_otherTimes_0 : decode cX9_otherTimes 0 = .ok (.iconst 0, 1) := by decide +kernel
theorem dX9_otherTimes_1 : decode cX9_otherTimes 1 = .ok (.istore_n 1, 1) := by decide +kernel
theorem dX9_otherTimes_2 : decode cX9_otherTimes 2 = .ok (.iconst 1, 1) := by decide +kernel
theorem dX9_otherTimes_3 : decode cX9_otherTimes 3 = .ok (.istore_n 2, 1) := by decide +kernel
theorem dX9_otherTimes_4 : decode cX9_otherTimes 4 = .ok (.iload_n 2, 1) := by decide +kernel
theorem dX9_otherTimes_5 : decode cX9_otherTimes 5 = .ok (.aload_n 0, 1) := by decide +kernel
theorem dX9_otherTimes_6 : decode cX9_otherTimes 6 = .ok (.getfield 17, 3) := by decide +kernel
theorem dX9_otherTimes_9 : decode cX9_otherTimes 9 = .ok (.iconst 1, 1) := by decide +kernel
theorem dX9_otherTimes_10 : decode cX9_otherTimes 10 = .ok (.iaload, 1) := by decide +kernel
theorem dX9_otherTimes_11 : decode cX9_otherTimes 11 = .ok (.if_icmp .ge 55, 3) := by decide +kernel
theorem dX9_otherTimes_14 : decode cX9_otherTimes 14 = .ok (.iload_n 1, 1) := by decide +kernel
theorem dX9_otherTimes_15 : decode cX9_otherTimes 15 = .ok (.aload_n 0, 1) := by decide +kernel
theorem dX9_otherTimes_16 : decode cX9_otherTimes 16 = .ok (.iconst 0, 1) := by decide +kernel
theorem dX9_otherTimes_17 : decode cX9_otherTimes 17 = .ok (.iload_n 2, 1) := by decide +kernel
theorem dX9_otherTimes_18 : decode cX9_otherTimes 18 = .ok (.invokevirtual 113, 3) := by decide +kernel
theorem dX9_otherTimes_21 : decode cX9_otherTimes 21 = .ok (.aload_n 0, 1) := by decide +kernel
theorem dX9_otherTimes_22 : decode cX9_otherTimes 22 = .ok (.getfield 55, 3) := by decide +kernel
theorem dX9_otherTimes_25 : decode cX9_otherTimes 25 = .ok (.iconst 0, 1) := by decide +kernel
theorem dX9_otherTimes_26 : decode cX9_otherTimes 26 = .ok (.iload_n 2, 1) := by decide +kernel
theorem dX9_otherTimes_27 : decode cX9_otherTimes 27 = .ok (.invokestatic 106, 3) := by decide +kernel
theorem dX9_otherTimes_30 : decode cX9_otherTimes 30 = .ok (.iaload, 1) := by decide +kernel
theorem dX9_otherTimes_31 : decode cX9_otherTimes 31 = .ok (.if_icmp .ne 22, 3) := by decide +kernel
theorem dX9_otherTimes_34 : decode cX9_otherTimes 34 = .ok (.aload_n 0, 1) := by decide +kernel
theorem dX9_otherTimes_35 : decode cX9_otherTimes 35 = .ok (.iload_n 2, 1) := by decide +kernel
theorem dX9_otherTimes_36 : decode cX9_otherTimes 36 = .ok (.iconst 0, 1) := by decide +kernel
theorem dX9_otherTimes_37 : decode cX9_otherTimes 37 = .ok (.invokevirtual 113, 3) := by decide +kernel
theorem dX9_otherTimes_40 : decode cX9_otherTimes 40 = .ok (.aload_n 0, 1) := by decide +kernel
theorem dX9_otherTimes_41 : decode cX9_otherTimes 41 = .ok (.getfield 55, 3) := by decide +kernel
theorem dX9_otherTimes_44 : decode cX9_otherTimes 44 = .ok (.iload_n 2, 1) := by decide +kernel
theorem dX9_otherTimes_45 : decode cX9_otherTimes 45 = .ok (.iconst 0, 1) := by decide +kernel
theorem dX9_otherTimes_46 : decode cX9_otherTimes 46 = .ok (.invokestatic 106, 3) := by decide +kernel
theorem dX9_otherTimes_49 : decode cX9_otherTimes 49 = .ok (.iaload, 1) := by decide +kernel
theorem dX9_otherTimes_50 : decode cX9_otherTimes 50 = .ok (.if_icmp .eq 7, 3) := by decide +kernel
theorem dX9_otherTimes_53 : decode cX9_otherTimes 53 = .ok (.iconst 1, 1) := by decide +kernel
theorem dX9_otherTimes_54 : decode cX9_otherTimes 54 = .ok (.goto 4, 3) := by decide +kernel
theorem dX9_otherTimes_57 : decode cX9_otherTimes 57 = .ok (.iconst 0, 1) := by decide +kernel
theorem dX9_otherTimes_58 : decode cX9_otherTimes 58 = .ok (.iadd, 1) := by decide +kernel
theorem dX9_otherTimes_59 : decode cX9_otherTimes 59 = .ok (.istore_n 1, 1) := by decide +kernel
theorem dX9_otherTimes_60 : decode cX9_otherTimes 60 = .ok (.iinc 2 1, 3) := by decide +kernel
theorem dX9_otherTimes_63 : decode cX9_otherTimes 63 = .ok (.goto (-59), 3) := by decide +kernel
theorem dX9_otherTimes_66 : decode cX9_otherTimes 66 = .ok (.iload_n 1, 1) := by decide +kernel
theorem dX9_otherTimes_67 : decode cX9_otherTimes 67 = .ok (.ireturn, 1) := by decide +kernel
theorem dX9_tellsThen_0 : decode cX9_tellsThen 0 = .ok (.aload_n 0, 1) := by decide +kernel
theorem dX9_tellsThen_1 : decode cX9_tellsThen 1 = .ok (.invokevirtual 126, 3) := by decide +kernel
theorem dX9_tellsThen_4 : decode cX9_tellsThen 4 = .ok (.ifCond .ne 10, 3) := by decide +kernel
theorem dX9_tellsThen_7 : decode cX9_tellsThen 7 = .ok (.aload_n 0, 1) := by decide +kernel
theorem dX9_tellsThen_8 : decode cX9_tellsThen 8 = .ok (.bipush (-5), 2) := by decide +kernel
theorem dX9_tellsThen_10 : decode cX9_tellsThen 10 = .ok (.invokevirtual 137, 3) := by decide +kernel
theorem dX9_tellsThen_13 : decode cX9_tellsThen 13 = .ok (.ireturn, 1) := by decide +kernel
theorem dX9_tellsThen_14 : decode cX9_tellsThen 14 = .ok (.aload_n 0, 1) := by decide +kernel
theorem dX9_tellsThen_15 : decode cX9_tellsThen 15 = .ok (.iload_n 1, 1) := by decide +kernel
theorem dX9_tellsThen_16 : decode cX9_tellsThen 16 = .ok (.ifCond .ne 10, 3) := by decide +kernel
theorem dX9_tellsThen_19 : decode cX9_tellsThen 19 = .ok (.aload_n 0, 1) := by decide +kernel
theorem dX9_tellsThen_20 : decode cX9_tellsThen 20 = .ok (.invokevirtual 320, 3) := by decide +kernel
theorem dX9_tellsThen_23 : decode cX9_tellsThen 23 = .ok (.goto 19, 3) := by decide +kernel
theorem dX9_tellsThen_26 : decode cX9_tellsThen 26 = .ok (.iload_n 1, 1) := by decide +kernel
theorem dX9_tellsThen_27 : decode cX9_tellsThen 27 = .ok (.iconst 1, 1) := by decide +kernel
theorem dX9_tellsThen_28 : decode cX9_tellsThen 28 = .ok (.if_icmp .ne 10, 3) := by decide +kernel
theorem dX9_tellsThen_31 : decode cX9_tellsThen 31 = .ok (.aload_n 0, 1) := by decide +kernel
theorem dX9_tellsThen_32 : decode cX9_tellsThen 32 = .ok (.invokevirtual 323, 3) := by decide +kernel
theorem dX9_tellsThen_35 : decode cX9_tellsThen 35 = .ok (.goto 7, 3) := by decide +kernel
theorem dX9_tellsThen_38 : decode cX9_tellsThen 38 = .ok (.aload_n 0, 1) := by decide +kernel
theorem dX9_tellsThen_39 : decode cX9_tellsThen 39 = .ok (.invokevirtual 169, 3) := by decide +kernel
theorem dX9_tellsThen_42 : decode cX9_tellsThen 42 = .ok (.invokevirtual 137, 3) := by decide +kernel
theorem dX9_tellsThen_45 : decode cX9_tellsThen 45 = .ok (.ireturn, 1) := by decide +kernel
theorem dX9_ifTold_0 : decode cX9_ifTold 0 = .ok (.aload_n 0, 1) := by decide +kernel
theorem dX9_ifTold_1 : decode cX9_ifTold 1 = .ok (.iload_n 1, 1) := by decide +kernel
theorem dX9_ifTold_2 : decode cX9_ifTold 2 = .ok (.iload_n 2, 1) := by decide +kernel
theorem dX9_ifTold_3 : decode cX9_ifTold 3 = .ok (.invokevirtual 143, 3) := by decide +kernel
theorem dX9_ifTold_6 : decode cX9_ifTold 6 = .ok (.ifCond .eq 22, 3) := by decide +kernel
theorem dX9_ifTold_9 : decode cX9_ifTold 9 = .ok (.iload_n 3, 1) := by decide +kernel
theorem dX9_ifTold_10 : decode cX9_ifTold 10 = .ok (.iload 4, 2) := by decide +kernel
theorem dX9_ifTold_12 : decode cX9_ifTold 12 = .ok (.invokestatic 147, 3) := by decide +kernel
theorem dX9_ifTold_15 : decode cX9_ifTold 15 = .ok (.ifCond .eq 13, 3) := by decide +kernel
theorem dX9_ifTold_18 : decode cX9_ifTold 18 = .ok (.iload 5, 2) := by decide +kernel
theorem dX9_ifTold_20 : decode cX9_ifTold 20 = .ok (.iconst 0, 1) := by decide +kernel
theorem dX9_ifTold_21 : decode cX9_ifTold 21 = .ok (.iconst 2, 1) := by decide +kernel
theorem dX9_ifTold_22 : decode cX9_ifTold 22 = .ok (.invokestatic 65, 3) := by decide +kernel
theorem dX9_ifTold_25 : decode cX9_ifTold 25 = .ok (.ifCond .ne 5, 3) := by decide +kernel
theorem dX9_ifTold_28 : decode cX9_ifTold 28 = .ok (.iconst (-1), 1) := by decide +kernel
theorem dX9_ifTold_29 : decode cX9_ifTold 29 = .ok (.ireturn, 1) := by decide +kernel
theorem dX9_ifTold_30 : decode cX9_ifTold 30 = .ok (.aload_n 0, 1) := by decide +kernel
theorem dX9_ifTold_31 : decode cX9_ifTold 31 = .ok (.invokevirtual 326, 3) := by decide +kernel
theorem dX9_ifTold_34 : decode cX9_ifTold 34 = .ok (.aload_n 0, 1) := by decide +kernel
theorem dX9_ifTold_35 : decode cX9_ifTold 35 = .ok (.iload_n 1, 1) := by decide +kernel
theorem dX9_ifTold_36 : decode cX9_ifTold 36 = .ok (.iload_n 2, 1) := by decide +kernel
theorem dX9_ifTold_37 : decode cX9_ifTold 37 = .ok (.iload_n 3, 1) := by decide +kernel
theorem dX9_ifTold_38 : decode cX9_ifTold 38 = .ok (.iload 4, 2) := by decide +kernel
theorem dX9_ifTold_40 : decode cX9_ifTold 40 = .ok (.invokevirtual 308, 3) := by decide +kernel
theorem dX9_ifTold_43 : decode cX9_ifTold 43 = .ok (.aload_n 0, 1) := by decide +kernel
theorem dX9_ifTold_44 : decode cX9_ifTold 44 = .ok (.invokevirtual 311, 3) := by decide +kernel
theorem dX9_ifTold_47 : decode cX9_ifTold 47 = .ok (.ifCond .ge 6, 3) := by decide +kernel
theorem dX9_ifTold_50 : decode cX9_ifTold 50 = .ok (.bipush (-5), 2) := by decide +kernel
theorem dX9_ifTold_52 : decode cX9_ifTold 52 = .ok (.ireturn, 1) := by decide +kernel
theorem dX9_ifTold_53 : decode cX9_ifTold 53 = .ok (.aload_n 0, 1) := by decide +kernel
theorem dX9_ifTold_54 : decode cX9_ifTold 54 = .ok (.getfield 17, 3) := by decide +kernel
theorem dX9_ifTold_57 : decode cX9_ifTold 57 = .ok (.iconst 1, 1) := by decide +kernel
theorem dX9_ifTold_58 : decode cX9_ifTold 58 = .ok (.iaload, 1) := by decide +kernel
theorem dX9_ifTold_59 : decode cX9_ifTold 59 = .ok (.istore 6, 2) := by decide +kernel
theorem dX9_ifTold_61 : decode cX9_ifTold 61 = .ok (.iconst 0, 1) := by decide +kernel
theorem dX9_ifTold_62 : decode cX9_ifTold 62 = .ok (.istore 7, 2) := by decide +kernel
theorem dX9_ifTold_64 : decode cX9_ifTold 64 = .ok (.iload 7, 2) := by decide +kernel
theorem dX9_ifTold_66 : decode cX9_ifTold 66 = .ok (.iload 6, 2) := by decide +kernel
theorem dX9_ifTold_68 : decode cX9_ifTold 68 = .ok (.if_icmp .ge 107, 3) := by decide +kernel
theorem dX9_ifTold_71 : decode cX9_ifTold 71 = .ok (.iconst 0, 1) := by decide +kernel
theorem dX9_ifTold_72 : decode cX9_ifTold 72 = .ok (.istore 8, 2) := by decide +kernel
theorem dX9_ifTold_74 : decode cX9_ifTold 74 = .ok (.iload 8, 2) := by decide +kernel
theorem dX9_ifTold_76 : decode cX9_ifTold 76 = .ok (.iload 6, 2) := by decide +kernel
theorem dX9_ifTold_78 : decode cX9_ifTold 78 = .ok (.if_icmp .ge 91, 3) := by decide +kernel
theorem dX9_ifTold_81 : decode cX9_ifTold 81 = .ok (.aload_n 0, 1) := by decide +kernel
theorem dX9_ifTold_82 : decode cX9_ifTold 82 = .ok (.getfield 55, 3) := by decide +kernel
theorem dX9_ifTold_85 : decode cX9_ifTold 85 = .ok (.iload 7, 2) := by decide +kernel
theorem dX9_ifTold_87 : decode cX9_ifTold 87 = .ok (.aload_n 0, 1) := by decide +kernel
theorem dX9_ifTold_88 : decode cX9_ifTold 88 = .ok (.getfield 299, 3) := by decide +kernel
theorem dX9_ifTold_91 : decode cX9_ifTold 91 = .ok (.invokestatic 106, 3) := by decide +kernel
theorem dX9_ifTold_94 : decode cX9_ifTold 94 = .ok (.iaload, 1) := by decide +kernel
theorem dX9_ifTold_95 : decode cX9_ifTold 95 = .ok (.aload_n 0, 1) := by decide +kernel
theorem dX9_ifTold_96 : decode cX9_ifTold 96 = .ok (.getfield 305, 3) := by decide +kernel
theorem dX9_ifTold_99 : decode cX9_ifTold 99 = .ok (.iadd, 1) := by decide +kernel
theorem dX9_ifTold_100 : decode cX9_ifTold 100 = .ok (.aload_n 0, 1) := by decide +kernel
theorem dX9_ifTold_101 : decode cX9_ifTold 101 = .ok (.getfield 55, 3) := by decide +kernel
theorem dX9_ifTold_104 : decode cX9_ifTold 104 = .ok (.aload_n 0, 1) := by decide +kernel
theorem dX9_ifTold_105 : decode cX9_ifTold 105 = .ok (.getfield 302, 3) := by decide +kernel
theorem dX9_ifTold_108 : decode cX9_ifTold 108 = .ok (.iload 8, 2) := by decide +kernel
theorem dX9_ifTold_110 : decode cX9_ifTold 110 = .ok (.invokestatic 106, 3) := by decide +kernel
theorem dX9_ifTold_113 : decode cX9_ifTold 113 = .ok (.iaload, 1) := by decide +kernel
theorem dX9_ifTold_114 : decode cX9_ifTold 114 = .ok (.iadd, 1) := by decide +kernel
theorem dX9_ifTold_115 : decode cX9_ifTold 115 = .ok (.istore 9, 2) := by decide +kernel
theorem dX9_ifTold_117 : decode cX9_ifTold 117 = .ok (.aload_n 0, 1) := by decide +kernel
theorem dX9_ifTold_118 : decode cX9_ifTold 118 = .ok (.getfield 46, 3) := by decide +kernel
theorem dX9_ifTold_121 : decode cX9_ifTold 121 = .ok (.iload 7, 2) := by decide +kernel
theorem dX9_ifTold_123 : decode cX9_ifTold 123 = .ok (.iload 8, 2) := by decide +kernel
theorem dX9_ifTold_125 : decode cX9_ifTold 125 = .ok (.invokestatic 106, 3) := by decide +kernel
theorem dX9_ifTold_128 : decode cX9_ifTold 128 = .ok (.iload 9, 2) := by decide +kernel
theorem dX9_ifTold_130 : decode cX9_ifTold 130 = .ok (.aload_n 0, 1) := by decide +kernel
theorem dX9_ifTold_131 : decode cX9_ifTold 131 = .ok (.getfield 55, 3) := by decide +kernel
theorem dX9_ifTold_134 : decode cX9_ifTold 134 = .ok (.iload 7, 2) := by decide +kernel
theorem dX9_ifTold_136 : decode cX9_ifTold 136 = .ok (.iload 8, 2) := by decide +kernel
theorem dX9_ifTold_138 : decode cX9_ifTold 138 = .ok (.invokestatic 106, 3) := by decide +kernel
theorem dX9_ifTold_141 : decode cX9_ifTold 141 = .ok (.iaload, 1) := by decide +kernel
theorem dX9_ifTold_142 : decode cX9_ifTold 142 = .ok (.if_icmp .ge 8, 3) := by decide +kernel
theorem dX9_ifTold_145 : decode cX9_ifTold 145 = .ok (.iload 9, 2) := by decide +kernel
theorem dX9_ifTold_147 : decode cX9_ifTold 147 = .ok (.goto 15, 3) := by decide +kernel
theorem dX9_ifTold_150 : decode cX9_ifTold 150 = .ok (.aload_n 0, 1) := by decide +kernel
theorem dX9_ifTold_151 : decode cX9_ifTold 151 = .ok (.getfield 55, 3) := by decide +kernel
theorem dX9_ifTold_154 : decode cX9_ifTold 154 = .ok (.iload 7, 2) := by decide +kernel
theorem dX9_ifTold_156 : decode cX9_ifTold 156 = .ok (.iload 8, 2) := by decide +kernel
theorem dX9_ifTold_158 : decode cX9_ifTold 158 = .ok (.invokestatic 106, 3) := by decide +kernel
theorem dX9_ifTold_161 : decode cX9_ifTold 161 = .ok (.iaload, 1) := by decide +kernel
theorem dX9_ifTold_162 : decode cX9_ifTold 162 = .ok (.iastore, 1) := by decide +kernel
theorem dX9_ifTold_163 : decode cX9_ifTold 163 = .ok (.iinc 8 1, 3) := by decide +kernel
theorem dX9_ifTold_166 : decode cX9_ifTold 166 = .ok (.goto (-92), 3) := by decide +kernel
theorem dX9_ifTold_169 : decode cX9_ifTold 169 = .ok (.iinc 7 1, 3) := by decide +kernel
theorem dX9_ifTold_172 : decode cX9_ifTold 172 = .ok (.goto (-108), 3) := by decide +kernel
theorem dX9_ifTold_175 : decode cX9_ifTold 175 = .ok (.iload 5, 2) := by decide +kernel
theorem dX9_ifTold_177 : decode cX9_ifTold 177 = .ok (.ifCond .ne 10, 3) := by decide +kernel
theorem dX9_ifTold_180 : decode cX9_ifTold 180 = .ok (.aload_n 0, 1) := by decide +kernel
theorem dX9_ifTold_181 : decode cX9_ifTold 181 = .ok (.invokevirtual 320, 3) := by decide +kernel
theorem dX9_ifTold_184 : decode cX9_ifTold 184 = .ok (.goto 20, 3) := by decide +kernel
theorem dX9_ifTold_187 : decode cX9_ifTold 187 = .ok (.iload 5, 2) := by decide +kernel
theorem dX9_ifTold_189 : decode cX9_ifTold 189 = .ok (.iconst 1, 1) := by decide +kernel
theorem dX9_ifTold_190 : decode cX9_ifTold 190 = .ok (.if_icmp .ne 10, 3) := by decide +kernel
theorem dX9_ifTold_193 : decode cX9_ifTold 193 = .ok (.aload_n 0, 1) := by decide +kernel
theorem dX9_ifTold_194 : decode cX9_ifTold 194 = .ok (.invokevirtual 323, 3) := by decide +kernel
theorem dX9_ifTold_197 : decode cX9_ifTold 197 = .ok (.goto 7, 3) := by decide +kernel
theorem dX9_ifTold_200 : decode cX9_ifTold 200 = .ok (.aload_n 0, 1) := by decide +kernel
theorem dX9_ifTold_201 : decode cX9_ifTold 201 = .ok (.invokevirtual 169, 3) := by decide +kernel
theorem dX9_ifTold_204 : decode cX9_ifTold 204 = .ok (.ireturn, 1) := by decide +kernel
theorem dX9_ifDropped_0 : decode cX9_ifDropped 0 = .ok (.aload_n 0, 1) := by decide +kernel
theorem dX9_ifDropped_1 : decode cX9_ifDropped 1 = .ok (.iload_n 1, 1) := by decide +kernel
theorem dX9_ifDropped_2 : decode cX9_ifDropped 2 = .ok (.invokevirtual 154, 3) := by decide +kernel
theorem dX9_ifDropped_5 : decode cX9_ifDropped 5 = .ok (.ifCond .eq 12, 3) := by decide +kernel
theorem dX9_ifDropped_8 : decode cX9_ifDropped 8 = .ok (.iload_n 2, 1) := by decide +kernel
theorem dX9_ifDropped_9 : decode cX9_ifDropped 9 = .ok (.iconst 0, 1) := by decide +kernel
theorem dX9_ifDropped_10 : decode cX9_ifDropped 10 = .ok (.iconst 2, 1) := by decide +kernel
theorem dX9_ifDropped_11 : decode cX9_ifDropped 11 = .ok (.invokestatic 65, 3) := by decide +kernel
theorem dX9_ifDropped_14 : decode cX9_ifDropped 14 = .ok (.ifCond .ne 5, 3) := by decide +kernel
theorem dX9_ifDropped_17 : decode cX9_ifDropped 17 = .ok (.iconst (-1), 1) := by decide +kernel
theorem dX9_ifDropped_18 : decode cX9_ifDropped 18 = .ok (.ireturn, 1) := by decide +kernel
theorem dX9_ifDropped_19 : decode cX9_ifDropped 19 = .ok (.aload_n 0, 1) := by decide +kernel
theorem dX9_ifDropped_20 : decode cX9_ifDropped 20 = .ok (.invokevirtual 326, 3) := by decide +kernel
theorem dX9_ifDropped_23 : decode cX9_ifDropped 23 = .ok (.aload_n 0, 1) := by decide +kernel
theorem dX9_ifDropped_24 : decode cX9_ifDropped 24 = .ok (.invokevirtual 69, 3) := by decide +kernel
theorem dX9_ifDropped_27 : decode cX9_ifDropped 27 = .ok (.aload_n 0, 1) := by decide +kernel
theorem dX9_ifDropped_28 : decode cX9_ifDropped 28 = .ok (.iload_n 1, 1) := by decide +kernel
theorem dX9_ifDropped_29 : decode cX9_ifDropped 29 = .ok (.invokevirtual 157, 3) := by decide +kernel
theorem dX9_ifDropped_32 : decode cX9_ifDropped 32 = .ok (.aload_n 0, 1) := by decide +kernel
theorem dX9_ifDropped_33 : decode cX9_ifDropped 33 = .ok (.iload_n 2, 1) := by decide +kernel
theorem dX9_ifDropped_34 : decode cX9_ifDropped 34 = .ok (.invokevirtual 329, 3) := by decide +kernel
theorem dX9_ifDropped_37 : decode cX9_ifDropped 37 = .ok (.ireturn, 1) := by decide +kernel
theorem dX9_ifTurned_0 : decode cX9_ifTurned 0 = .ok (.aload_n 0, 1) := by decide +kernel
theorem dX9_ifTurned_1 : decode cX9_ifTurned 1 = .ok (.iload_n 1, 1) := by decide +kernel
theorem dX9_ifTurned_2 : decode cX9_ifTurned 2 = .ok (.invokevirtual 154, 3) := by decide +kernel
theorem dX9_ifTurned_5 : decode cX9_ifTurned 5 = .ok (.ifCond .eq 12, 3) := by decide +kernel
theorem dX9_ifTurned_8 : decode cX9_ifTurned 8 = .ok (.iload_n 2, 1) := by decide +kernel
theorem dX9_ifTurned_9 : decode cX9_ifTurned 9 = .ok (.iconst 0, 1) := by decide +kernel
theorem dX9_ifTurned_10 : decode cX9_ifTurned 10 = .ok (.iconst 2, 1) := by decide +kernel
theorem dX9_ifTurned_11 : decode cX9_ifTurned 11 = .ok (.invokestatic 65, 3) := by decide +kernel
theorem dX9_ifTurned_14 : decode cX9_ifTurned 14 = .ok (.ifCond .ne 5, 3) := by decide +kernel
theorem dX9_ifTurned_17 : decode cX9_ifTurned 17 = .ok (.iconst (-1), 1) := by decide +kernel
theorem dX9_ifTurned_18 : decode cX9_ifTurned 18 = .ok (.ireturn, 1) := by decide +kernel
theorem dX9_ifTurned_19 : decode cX9_ifTurned 19 = .ok (.aload_n 0, 1) := by decide +kernel
theorem dX9_ifTurned_20 : decode cX9_ifTurned 20 = .ok (.invokevirtual 326, 3) := by decide +kernel
theorem dX9_ifTurned_23 : decode cX9_ifTurned 23 = .ok (.aload_n 0, 1) := by decide +kernel
theorem dX9_ifTurned_24 : decode cX9_ifTurned 24 = .ok (.invokevirtual 69, 3) := by decide +kernel
theorem dX9_ifTurned_27 : decode cX9_ifTurned 27 = .ok (.aload_n 0, 1) := by decide +kernel
theorem dX9_ifTurned_28 : decode cX9_ifTurned 28 = .ok (.iload_n 1, 1) := by decide +kernel
theorem dX9_ifTurned_29 : decode cX9_ifTurned 29 = .ok (.iconst 4, 1) := by decide +kernel
theorem dX9_ifTurned_30 : decode cX9_ifTurned 30 = .ok (.iconst 1, 1) := by decide +kernel
theorem dX9_ifTurned_31 : decode cX9_ifTurned 31 = .ok (.aload_n 0, 1) := by decide +kernel
theorem dX9_ifTurned_32 : decode cX9_ifTurned 32 = .ok (.iload_n 1, 1) := by decide +kernel
theorem dX9_ifTurned_33 : decode cX9_ifTurned 33 = .ok (.iconst 4, 1) := by decide +kernel
theorem dX9_ifTurned_34 : decode cX9_ifTurned 34 = .ok (.invokevirtual 76, 3) := by decide +kernel
theorem dX9_ifTurned_37 : decode cX9_ifTurned 37 = .ok (.isub, 1) := by decide +kernel
theorem dX9_ifTurned_38 : decode cX9_ifTurned 38 = .ok (.invokevirtual 133, 3) := by decide +kernel
theorem dX9_ifTurned_41 : decode cX9_ifTurned 41 = .ok (.aload_n 0, 1) := by decide +kernel
theorem dX9_ifTurned_42 : decode cX9_ifTurned 42 = .ok (.iload_n 2, 1) := by decide +kernel
theorem dX9_ifTurned_43 : decode cX9_ifTurned 43 = .ok (.invokevirtual 329, 3) := by decide +kernel
theorem dX9_ifTurned_46 : decode cX9_ifTurned 46 = .ok (.ireturn, 1) := by decide +kernel
theorem dX9_ifPinned_0 : decode cX9_ifPinned 0 = .ok (.aload_n 0, 1) := by decide +kernel
theorem dX9_ifPinned_1 : decode cX9_ifPinned 1 = .ok (.iload_n 1, 1) := by decide +kernel
theorem dX9_ifPinned_2 : decode cX9_ifPinned 2 = .ok (.invokevirtual 80, 3) := by decide +kernel
theorem dX9_ifPinned_5 : decode cX9_ifPinned 5 = .ok (.ifCond .eq 26, 3) := by decide +kernel
theorem dX9_ifPinned_8 : decode cX9_ifPinned 8 = .ok (.iload_n 2, 1) := by decide +kernel
theorem dX9_ifPinned_9 : decode cX9_ifPinned 9 = .ok (.iconst 0, 1) := by decide +kernel
theorem dX9_ifPinned_10 : decode cX9_ifPinned 10 = .ok (.aload_n 0, 1) := by decide +kernel
theorem dX9_ifPinned_11 : decode cX9_ifPinned 11 = .ok (.getfield 17, 3) := by decide +kernel
theorem dX9_ifPinned_14 : decode cX9_ifPinned 14 = .ok (.iconst 0, 1) := by decide +kernel
theorem dX9_ifPinned_15 : decode cX9_ifPinned 15 = .ok (.iaload, 1) := by decide +kernel
theorem dX9_ifPinned_16 : decode cX9_ifPinned 16 = .ok (.invokestatic 65, 3) := by decide +kernel
theorem dX9_ifPinned_19 : decode cX9_ifPinned 19 = .ok (.ifCond .eq 12, 3) := by decide +kernel
theorem dX9_ifPinned_22 : decode cX9_ifPinned 22 = .ok (.iload_n 3, 1) := by decide +kernel
theorem dX9_ifPinned_23 : decode cX9_ifPinned 23 = .ok (.iconst 0, 1) := by decide +kernel
theorem dX9_ifPinned_24 : decode cX9_ifPinned 24 = .ok (.iconst 2, 1) := by decide +kernel
theorem dX9_ifPinned_25 : decode cX9_ifPinned 25 = .ok (.invokestatic 65, 3) := by decide +kernel
theorem dX9_ifPinned_28 : decode cX9_ifPinned 28 = .ok (.ifCond .ne 5, 3) := by decide +kernel
theorem dX9_ifPinned_31 : decode cX9_ifPinned 31 = .ok (.iconst (-1), 1) := by decide +kernel
theorem dX9_ifPinned_32 : decode cX9_ifPinned 32 = .ok (.ireturn, 1) := by decide +kernel
theorem dX9_ifPinned_33 : decode cX9_ifPinned 33 = .ok (.iload_n 1, 1) := by decide +kernel
theorem dX9_ifPinned_34 : decode cX9_ifPinned 34 = .ok (.ifCond .eq 11, 3) := by decide +kernel
theorem dX9_ifPinned_37 : decode cX9_ifPinned 37 = .ok (.aload_n 0, 1) := by decide +kernel
theorem dX9_ifPinned_38 : decode cX9_ifPinned 38 = .ok (.iload_n 1, 1) := by decide +kernel
theorem dX9_ifPinned_39 : decode cX9_ifPinned 39 = .ok (.invokevirtual 103, 3) := by decide +kernel
theorem dX9_ifPinned_42 : decode cX9_ifPinned 42 = .ok (.ifCond .eq 6, 3) := by decide +kernel
theorem dX9_ifPinned_45 : decode cX9_ifPinned 45 = .ok (.bipush (-3), 2) := by decide +kernel
theorem dX9_ifPinned_47 : decode cX9_ifPinned 47 = .ok (.ireturn, 1) := by decide +kernel
theorem dX9_ifPinned_48 : decode cX9_ifPinned 48 = .ok (.aload_n 0, 1) := by decide +kernel
theorem dX9_ifPinned_49 : decode cX9_ifPinned 49 = .ok (.invokevirtual 326, 3) := by decide +kernel
theorem dX9_ifPinned_52 : decode cX9_ifPinned 52 = .ok (.aload_n 0, 1) := by decide +kernel
theorem dX9_ifPinned_53 : decode cX9_ifPinned 53 = .ok (.invokevirtual 69, 3) := by decide +kernel
theorem dX9_ifPinned_56 : decode cX9_ifPinned 56 = .ok (.aload_n 0, 1) := by decide +kernel
theorem dX9_ifPinned_57 : decode cX9_ifPinned 57 = .ok (.getfield 17, 3) := by decide +kernel
theorem dX9_ifPinned_60 : decode cX9_ifPinned 60 = .ok (.sipush 133, 3) := by decide +kernel
theorem dX9_ifPinned_63 : decode cX9_ifPinned 63 = .ok (.iload_n 1, 1) := by decide +kernel
theorem dX9_ifPinned_64 : decode cX9_ifPinned 64 = .ok (.iadd, 1) := by decide +kernel
theorem dX9_ifPinned_65 : decode cX9_ifPinned 65 = .ok (.iload_n 2, 1) := by decide +kernel
theorem dX9_ifPinned_66 : decode cX9_ifPinned 66 = .ok (.iconst 1, 1) := by decide +kernel
theorem dX9_ifPinned_67 : decode cX9_ifPinned 67 = .ok (.iadd, 1) := by decide +kernel
theorem dX9_ifPinned_68 : decode cX9_ifPinned 68 = .ok (.iastore, 1) := by decide +kernel
theorem dX9_ifPinned_69 : decode cX9_ifPinned 69 = .ok (.aload_n 0, 1) := by decide +kernel
theorem dX9_ifPinned_70 : decode cX9_ifPinned 70 = .ok (.iload_n 3, 1) := by decide +kernel
theorem dX9_ifPinned_71 : decode cX9_ifPinned 71 = .ok (.invokevirtual 329, 3) := by decide +kernel
theorem dX9_ifPinned_74 : decode cX9_ifPinned 74 = .ok (.ireturn, 1) := by decide +kernel
theorem dX9_leastEnd_0 : decode cX9_leastEnd 0 = .ok (.aload_n 0, 1) := by decide +kernel
theorem dX9_leastEnd_1 : decode cX9_leastEnd 1 = .ok (.invokevirtual 69, 3) := by decide +kernel
theorem dX9_leastEnd_4 : decode cX9_leastEnd 4 = .ok (.iconst 1, 1) := by decide +kernel
theorem dX9_leastEnd_5 : decode cX9_leastEnd 5 = .ok (.istore_n 1, 1) := by decide +kernel
theorem dX9_leastEnd_6 : decode cX9_leastEnd 6 = .ok (.aload_n 0, 1) := by decide +kernel
theorem dX9_leastEnd_7 : decode cX9_leastEnd 7 = .ok (.getfield 17, 3) := by decide +kernel
theorem dX9_leastEnd_10 : decode cX9_leastEnd 10 = .ok (.iconst 0, 1) := by decide +kernel
theorem dX9_leastEnd_11 : decode cX9_leastEnd 11 = .ok (.iconst 1, 1) := by decide +kernel
theorem dX9_leastEnd_12 : decode cX9_leastEnd 12 = .ok (.iastore, 1) := by decide +kernel
theorem dX9_leastEnd_13 : decode cX9_leastEnd 13 = .ok (.aload_n 0, 1) := by decide +kernel
theorem dX9_leastEnd_14 : decode cX9_leastEnd 14 = .ok (.invokevirtual 126, 3) := by decide +kernel
theorem dX9_leastEnd_17 : decode cX9_leastEnd 17 = .ok (.ifCond .ne 16, 3) := by decide +kernel
theorem dX9_leastEnd_20 : decode cX9_leastEnd 20 = .ok (.iinc 1 1, 3) := by decide +kernel
theorem dX9_leastEnd_23 : decode cX9_leastEnd 23 = .ok (.aload_n 0, 1) := by decide +kernel
theorem dX9_leastEnd_24 : decode cX9_leastEnd 24 = .ok (.getfield 17, 3) := by decide +kernel
theorem dX9_leastEnd_27 : decode cX9_leastEnd 27 = .ok (.iconst 0, 1) := by decide +kernel
theorem dX9_leastEnd_28 : decode cX9_leastEnd 28 = .ok (.iload_n 1, 1) := by decide +kernel
theorem dX9_leastEnd_29 : decode cX9_leastEnd 29 = .ok (.iastore, 1) := by decide +kernel
theorem dX9_leastEnd_30 : decode cX9_leastEnd 30 = .ok (.goto (-17), 3) := by decide +kernel
theorem dX9_leastEnd_33 : decode cX9_leastEnd 33 = .ok (.aload_n 0, 1) := by decide +kernel
theorem dX9_leastEnd_34 : decode cX9_leastEnd 34 = .ok (.iload_n 1, 1) := by decide +kernel
theorem dX9_leastEnd_35 : decode cX9_leastEnd 35 = .ok (.invokevirtual 137, 3) := by decide +kernel
theorem dX9_leastEnd_38 : decode cX9_leastEnd 38 = .ok (.ireturn, 1) := by decide +kernel
theorem dX9_slowest_0 : decode cX9_slowest 0 = .ok (.bipush (-2), 2) := by decide +kernel
theorem dX9_slowest_2 : decode cX9_slowest 2 = .ok (.istore_n 1, 1) := by decide +kernel
theorem dX9_slowest_3 : decode cX9_slowest 3 = .ok (.iconst 0, 1) := by decide +kernel
theorem dX9_slowest_4 : decode cX9_slowest 4 = .ok (.istore_n 2, 1) := by decide +kernel
theorem dX9_slowest_5 : decode cX9_slowest 5 = .ok (.iconst 0, 1) := by decide +kernel
theorem dX9_slowest_6 : decode cX9_slowest 6 = .ok (.istore_n 3, 1) := by decide +kernel
theorem dX9_slowest_7 : decode cX9_slowest 7 = .ok (.iload_n 3, 1) := by decide +kernel
theorem dX9_slowest_8 : decode cX9_slowest 8 = .ok (.aload_n 0, 1) := by decide +kernel
theorem dX9_slowest_9 : decode cX9_slowest 9 = .ok (.getfield 17, 3) := by decide +kernel
theorem dX9_slowest_12 : decode cX9_slowest 12 = .ok (.iconst 2, 1) := by decide +kernel
theorem dX9_slowest_13 : decode cX9_slowest 13 = .ok (.iaload, 1) := by decide +kernel
theorem dX9_slowest_14 : decode cX9_slowest 14 = .ok (.if_icmp .ge 56, 3) := by decide +kernel
theorem dX9_slowest_17 : decode cX9_slowest 17 = .ok (.aload_n 0, 1) := by decide +kernel
theorem dX9_slowest_18 : decode cX9_slowest 18 = .ok (.iload_n 3, 1) := by decide +kernel
theorem dX9_slowest_19 : decode cX9_slowest 19 = .ok (.invokevirtual 87, 3) := by decide +kernel
theorem dX9_slowest_22 : decode cX9_slowest 22 = .ok (.ifCond .eq 42, 3) := by decide +kernel
theorem dX9_slowest_25 : decode cX9_slowest 25 = .ok (.aload_n 0, 1) := by decide +kernel
theorem dX9_slowest_26 : decode cX9_slowest 26 = .ok (.iload_n 3, 1) := by decide +kernel
theorem dX9_slowest_27 : decode cX9_slowest 27 = .ok (.iconst 4, 1) := by decide +kernel
theorem dX9_slowest_28 : decode cX9_slowest 28 = .ok (.iconst 0, 1) := by decide +kernel
theorem dX9_slowest_29 : decode cX9_slowest 29 = .ok (.invokevirtual 133, 3) := by decide +kernel
theorem dX9_slowest_32 : decode cX9_slowest 32 = .ok (.aload_n 0, 1) := by decide +kernel
theorem dX9_slowest_33 : decode cX9_slowest 33 = .ok (.invokevirtual 126, 3) := by decide +kernel
theorem dX9_slowest_36 : decode cX9_slowest 36 = .ok (.istore 4, 2) := by decide +kernel
theorem dX9_slowest_38 : decode cX9_slowest 38 = .ok (.aload_n 0, 1) := by decide +kernel
theorem dX9_slowest_39 : decode cX9_slowest 39 = .ok (.iload_n 3, 1) := by decide +kernel
theorem dX9_slowest_40 : decode cX9_slowest 40 = .ok (.iconst 4, 1) := by decide +kernel
theorem dX9_slowest_41 : decode cX9_slowest 41 = .ok (.iconst 1, 1) := by decide +kernel
theorem dX9_slowest_42 : decode cX9_slowest 42 = .ok (.invokevirtual 133, 3) := by decide +kernel
theorem dX9_slowest_45 : decode cX9_slowest 45 = .ok (.iload_n 1, 1) := by decide +kernel
theorem dX9_slowest_46 : decode cX9_slowest 46 = .ok (.ifCond .lt 11, 3) := by decide +kernel
theorem dX9_slowest_49 : decode cX9_slowest 49 = .ok (.aload_n 0, 1) := by decide +kernel
theorem dX9_slowest_50 : decode cX9_slowest 50 = .ok (.invokevirtual 266, 3) := by decide +kernel
theorem dX9_slowest_53 : decode cX9_slowest 53 = .ok (.iload_n 2, 1) := by decide +kernel
theorem dX9_slowest_54 : decode cX9_slowest 54 = .ok (.if_icmp .ge 10, 3) := by decide +kernel
theorem dX9_slowest_57 : decode cX9_slowest 57 = .ok (.iload_n 3, 1) := by decide +kernel
theorem dX9_slowest_58 : decode cX9_slowest 58 = .ok (.istore_n 1, 1) := by decide +kernel
theorem dX9_slowest_59 : decode cX9_slowest 59 = .ok (.aload_n 0, 1) := by decide +kernel
theorem dX9_slowest_60 : decode cX9_slowest 60 = .ok (.invokevirtual 266, 3) := by decide +kernel
theorem dX9_slowest_63 : decode cX9_slowest 63 = .ok (.istore_n 2, 1) := by decide +kernel
theorem dX9_slowest_64 : decode cX9_slowest 64 = .ok (.iinc 3 1, 3) := by decide +kernel
theorem dX9_slowest_67 : decode cX9_slowest 67 = .ok (.goto (-60), 3) := by decide +kernel
theorem dX9_slowest_70 : decode cX9_slowest 70 = .ok (.iload_n 1, 1) := by decide +kernel
theorem dX9_slowest_71 : decode cX9_slowest 71 = .ok (.ireturn, 1) := by decide +kernel
theorem dX9_tightShare_0 : decode cX9_tightShare 0 = .ok (.aload_n 0, 1) := by decide +kernel
theorem dX9_tightShare_1 : decode cX9_tightShare 1 = .ok (.invokevirtual 254, 3) := by decide +kernel
theorem dX9_tightShare_4 : decode cX9_tightShare 4 = .ok (.ifCond .ne 7, 3) := by decide +kernel
theorem dX9_tightShare_7 : decode cX9_tightShare 7 = .ok (.fconst 0, 1) := by decide +kernel
theorem dX9_tightShare_8 : decode cX9_tightShare 8 = .ok (.goto 14, 3) := by decide +kernel
theorem dX9_tightShare_11 : decode cX9_tightShare 11 = .ok (.aload_n 0, 1) := by decide +kernel
theorem dX9_tightShare_12 : decode cX9_tightShare 12 = .ok (.invokevirtual 257, 3) := by decide +kernel
theorem dX9_tightShare_15 : decode cX9_tightShare 15 = .ok (.i2f, 1) := by decide +kernel
theorem dX9_tightShare_16 : decode cX9_tightShare 16 = .ok (.aload_n 0, 1) := by decide +kernel
theorem dX9_tightShare_17 : decode cX9_tightShare 17 = .ok (.invokevirtual 254, 3) := by decide +kernel
theorem dX9_tightShare_20 : decode cX9_tightShare 20 = .ok (.i2f, 1) := by decide +kernel
theorem dX9_tightShare_21 : decode cX9_tightShare 21 = .ok (.fdiv, 1) := by decide +kernel
theorem dX9_tightShare_22 : decode cX9_tightShare 22 = .ok (.freturn, 1) := by decide +kernel
theorem dX9_meanRoom_0 : decode cX9_meanRoom 0 = .ok (.aload_n 0, 1) := by decide +kernel
theorem dX9_meanRoom_1 : decode cX9_meanRoom 1 = .ok (.invokevirtual 126, 3) := by decide +kernel
theorem dX9_meanRoom_4 : decode cX9_meanRoom 4 = .ok (.istore_n 1, 1) := by decide +kernel
theorem dX9_meanRoom_5 : decode cX9_meanRoom 5 = .ok (.aload_n 0, 1) := by decide +kernel
theorem dX9_meanRoom_6 : decode cX9_meanRoom 6 = .ok (.invokevirtual 169, 3) := by decide +kernel
theorem dX9_meanRoom_9 : decode cX9_meanRoom 9 = .ok (.i2d, 1) := by decide +kernel
theorem dX9_meanRoom_10 : decode cX9_meanRoom 10 = .ok (.aload_n 0, 1) := by decide +kernel
theorem dX9_meanRoom_11 : decode cX9_meanRoom 11 = .ok (.getfield 17, 3) := by decide +kernel
theorem dX9_meanRoom_14 : decode cX9_meanRoom 14 = .ok (.iconst 1, 1) := by decide +kernel
theorem dX9_meanRoom_15 : decode cX9_meanRoom 15 = .ok (.iaload, 1) := by decide +kernel
theorem dX9_meanRoom_16 : decode cX9_meanRoom 16 = .ok (.i2d, 1) := by decide +kernel
theorem dX9_meanRoom_17 : decode cX9_meanRoom 17 = .ok (.ddiv, 1) := by decide +kernel
theorem dX9_meanRoom_18 : decode cX9_meanRoom 18 = .ok (.dreturn, 1) := by decide +kernel
theorem dX9_says_0 : decode cX9_says 0 = .ok (.aload_n 0, 1) := by decide +kernel
theorem dX9_says_1 : decode cX9_says 1 = .ok (.getfield 58, 3) := by decide +kernel
theorem dX9_says_4 : decode cX9_says 4 = .ok (.aload_n 0, 1) := by decide +kernel
theorem dX9_says_5 : decode cX9_says 5 = .ok (.getfield 332, 3) := by decide +kernel
theorem dX9_says_8 : decode cX9_says 8 = .ok (.iload_n 1, 1) := by decide +kernel
theorem dX9_says_9 : decode cX9_says 9 = .ok (.i2b, 1) := by decide +kernel
theorem dX9_says_10 : decode cX9_says 10 = .ok (.bastore, 1) := by decide +kernel
theorem dX9_says_11 : decode cX9_says 11 = .ok (.aload_n 0, 1) := by decide +kernel
theorem dX9_says_12 : decode cX9_says 12 = .ok (.dup, 1) := by decide +kernel
theorem dX9_says_13 : decode cX9_says 13 = .ok (.getfield 332, 3) := by decide +kernel
theorem dX9_says_16 : decode cX9_says 16 = .ok (.iconst 1, 1) := by decide +kernel
theorem dX9_says_17 : decode cX9_says 17 = .ok (.iadd, 1) := by decide +kernel
theorem dX9_says_18 : decode cX9_says 18 = .ok (.putfield 332, 3) := by decide +kernel
theorem dX9_says_21 : decode cX9_says 21 = .ok (.return_, 1) := by decide +kernel
theorem dX9_saysWord_0 : decode cX9_saysWord 0 = .ok (.iconst 0, 1) := by decide +kernel
theorem dX9_saysWord_1 : decode cX9_saysWord 1 = .ok (.istore_n 2, 1) := by decide +kernel
theorem dX9_saysWord_2 : decode cX9_saysWord 2 = .ok (.iload_n 2, 1) := by decide +kernel
theorem dX9_saysWord_3 : decode cX9_saysWord 3 = .ok (.iload_n 1, 1) := by decide +kernel
theorem dX9_saysWord_4 : decode cX9_saysWord 4 = .ok (.invokestatic 269, 3) := by decide +kernel
theorem dX9_saysWord_7 : decode cX9_saysWord 7 = .ok (.if_icmp .ge 21, 3) := by decide +kernel
theorem dX9_saysWord_10 : decode cX9_saysWord 10 = .ok (.aload_n 0, 1) := by decide +kernel
theorem dX9_saysWord_11 : decode cX9_saysWord 11 = .ok (.bipush 96, 2) := by decide +kernel
theorem dX9_saysWord_13 : decode cX9_saysWord 13 = .ok (.iload_n 1, 1) := by decide +kernel
theorem dX9_saysWord_14 : decode cX9_saysWord 14 = .ok (.iload_n 2, 1) := by decide +kernel
theorem dX9_saysWord_15 : decode cX9_saysWord 15 = .ok (.invokestatic 272, 3) := by decide +kernel
theorem dX9_saysWord_18 : decode cX9_saysWord 18 = .ok (.iadd, 1) := by decide +kernel
theorem dX9_saysWord_19 : decode cX9_saysWord 19 = .ok (.invokevirtual 335, 3) := by decide +kernel
theorem dX9_saysWord_22 : decode cX9_saysWord 22 = .ok (.iinc 2 1, 3) := by decide +kernel
theorem dX9_saysWord_25 : decode cX9_saysWord 25 = .ok (.goto (-23), 3) := by decide +kernel
theorem dX9_saysWord_28 : decode cX9_saysWord 28 = .ok (.return_, 1) := by decide +kernel
theorem dX9_saysNumber_0 : decode cX9_saysNumber 0 = .ok (.iconst 1, 1) := by decide +kernel
theorem dX9_saysNumber_1 : decode cX9_saysNumber 1 = .ok (.istore_n 2, 1) := by decide +kernel
theorem dX9_saysNumber_2 : decode cX9_saysNumber 2 = .ok (.iload_n 1, 1) := by decide +kernel
theorem dX9_saysNumber_3 : decode cX9_saysNumber 3 = .ok (.iload_n 2, 1) := by decide +kernel
theorem dX9_saysNumber_4 : decode cX9_saysNumber 4 = .ok (.idiv, 1) := by decide +kernel
theorem dX9_saysNumber_5 : decode cX9_saysNumber 5 = .ok (.bipush 9, 2) := by decide +kernel
theorem dX9_saysNumber_7 : decode cX9_saysNumber 7 = .ok (.if_icmp .le 11, 3) := by decide +kernel
theorem dX9_saysNumber_10 : decode cX9_saysNumber 10 = .ok (.iload_n 2, 1) := by decide +kernel
theorem dX9_saysNumber_11 : decode cX9_saysNumber 11 = .ok (.bipush 10, 2) := by decide +kernel
theorem dX9_saysNumber_13 : decode cX9_saysNumber 13 = .ok (.imul, 1) := by decide +kernel
theorem dX9_saysNumber_14 : decode cX9_saysNumber 14 = .ok (.istore_n 2, 1) := by decide +kernel
theorem dX9_saysNumber_15 : decode cX9_saysNumber 15 = .ok (.goto (-13), 3) := by decide +kernel
theorem dX9_saysNumber_18 : decode cX9_saysNumber 18 = .ok (.iload_n 2, 1) := by decide +kernel
theorem dX9_saysNumber_19 : decode cX9_saysNumber 19 = .ok (.ifCond .le 24, 3) := by decide +kernel
theorem dX9_saysNumber_22 : decode cX9_saysNumber 22 = .ok (.aload_n 0, 1) := by decide +kernel
theorem dX9_saysNumber_23 : decode cX9_saysNumber 23 = .ok (.bipush 48, 2) := by decide +kernel
theorem dX9_saysNumber_25 : decode cX9_saysNumber 25 = .ok (.iload_n 1, 1) := by decide +kernel
theorem dX9_saysNumber_26 : decode cX9_saysNumber 26 = .ok (.iload_n 2, 1) := by decide +kernel
theorem dX9_saysNumber_27 : decode cX9_saysNumber 27 = .ok (.idiv, 1) := by decide +kernel
theorem dX9_saysNumber_28 : decode cX9_saysNumber 28 = .ok (.bipush 10, 2) := by decide +kernel
theorem dX9_saysNumber_30 : decode cX9_saysNumber 30 = .ok (.irem, 1) := by decide +kernel
theorem dX9_saysNumber_31 : decode cX9_saysNumber 31 = .ok (.iadd, 1) := by decide +kernel
theorem dX9_saysNumber_32 : decode cX9_saysNumber 32 = .ok (.invokevirtual 335, 3) := by decide +kernel
theorem dX9_saysNumber_35 : decode cX9_saysNumber 35 = .ok (.iload_n 2, 1) := by decide +kernel
theorem dX9_saysNumber_36 : decode cX9_saysNumber 36 = .ok (.bipush 10, 2) := by decide +kernel
theorem dX9_saysNumber_38 : decode cX9_saysNumber 38 = .ok (.idiv, 1) := by decide +kernel
theorem dX9_saysNumber_39 : decode cX9_saysNumber 39 = .ok (.istore_n 2, 1) := by decide +kernel
theorem dX9_saysNumber_40 : decode cX9_saysNumber 40 = .ok (.goto (-22), 3) := by decide +kernel
theorem dX9_saysNumber_43 : decode cX9_saysNumber 43 = .ok (.return_, 1) := by decide +kernel
theorem dX9_saysKey_0 : decode cX9_saysKey 0 = .ok (.aload_n 0, 1) := by decide +kernel
theorem dX9_saysKey_1 : decode cX9_saysKey 1 = .ok (.iload_n 1, 1) := by decide +kernel
theorem dX9_saysKey_2 : decode cX9_saysKey 2 = .ok (.invokevirtual 338, 3) := by decide +kernel
theorem dX9_saysKey_5 : decode cX9_saysKey 5 = .ok (.aload_n 0, 1) := by decide +kernel
theorem dX9_saysKey_6 : decode cX9_saysKey 6 = .ok (.bipush 32, 2) := by decide +kernel
theorem dX9_saysKey_8 : decode cX9_saysKey 8 = .ok (.invokevirtual 335, 3) := by decide +kernel
theorem dX9_saysKey_11 : decode cX9_saysKey 11 = .ok (.aload_n 0, 1) := by decide +kernel
theorem dX9_saysKey_12 : decode cX9_saysKey 12 = .ok (.iload_n 2, 1) := by decide +kernel
theorem dX9_saysKey_13 : decode cX9_saysKey 13 = .ok (.invokevirtual 341, 3) := by decide +kernel
theorem dX9_saysKey_16 : decode cX9_saysKey 16 = .ok (.return_, 1) := by decide +kernel
theorem dX9_saysEvent_0 : decode cX9_saysEvent 0 = .ok (.aload_n 0, 1) := by decide +kernel
theorem dX9_saysEvent_1 : decode cX9_saysEvent 1 = .ok (.bipush 32, 2) := by decide +kernel
theorem dX9_saysEvent_3 : decode cX9_saysEvent 3 = .ok (.invokevirtual 335, 3) := by decide +kernel
theorem dX9_saysEvent_6 : decode cX9_saysEvent 6 = .ok (.aload_n 0, 1) := by decide +kernel
theorem dX9_saysEvent_7 : decode cX9_saysEvent 7 = .ok (.aload_n 0, 1) := by decide +kernel
theorem dX9_saysEvent_8 : decode cX9_saysEvent 8 = .ok (.getfield 17, 3) := by decide +kernel
theorem dX9_saysEvent_11 : decode cX9_saysEvent 11 = .ok (.iconst 3, 1) := by decide +kernel
theorem dX9_saysEvent_12 : decode cX9_saysEvent 12 = .ok (.iload_n 1, 1) := by decide +kernel
theorem dX9_saysEvent_13 : decode cX9_saysEvent 13 = .ok (.iadd, 1) := by decide +kernel
theorem dX9_saysEvent_14 : decode cX9_saysEvent 14 = .ok (.iaload, 1) := by decide +kernel
theorem dX9_saysEvent_15 : decode cX9_saysEvent 15 = .ok (.invokevirtual 338, 3) := by decide +kernel
theorem dX9_saysEvent_18 : decode cX9_saysEvent 18 = .ok (.return_, 1) := by decide +kernel
theorem dX9_toldByte_0 : decode cX9_toldByte 0 = .ok (.iload_n 1, 1) := by decide +kernel
theorem dX9_toldByte_1 : decode cX9_toldByte 1 = .ok (.ifCond .ge 7, 3) := by decide +kernel
theorem dX9_toldByte_4 : decode cX9_toldByte 4 = .ok (.iconst (-1), 1) := by decide +kernel
theorem dX9_toldByte_5 : decode cX9_toldByte 5 = .ok (.goto 22, 3) := by decide +kernel
theorem dX9_toldByte_8 : decode cX9_toldByte 8 = .ok (.iload_n 1, 1) := by decide +kernel
theorem dX9_toldByte_9 : decode cX9_toldByte 9 = .ok (.aload_n 0, 1) := by decide +kernel
theorem dX9_toldByte_10 : decode cX9_toldByte 10 = .ok (.getfield 332, 3) := by decide +kernel
theorem dX9_toldByte_13 : decode cX9_toldByte 13 = .ok (.if_icmp .ge 12, 3) := by decide +kernel
theorem dX9_toldByte_16 : decode cX9_toldByte 16 = .ok (.aload_n 0, 1) := by decide +kernel
theorem dX9_toldByte_17 : decode cX9_toldByte 17 = .ok (.getfield 58, 3) := by decide +kernel
theorem dX9_toldByte_20 : decode cX9_toldByte 20 = .ok (.iload_n 1, 1) := by decide +kernel
theorem dX9_toldByte_21 : decode cX9_toldByte 21 = .ok (.baload, 1) := by decide +kernel
theorem dX9_toldByte_22 : decode cX9_toldByte 22 = .ok (.goto 5, 3) := by decide +kernel
theorem dX9_toldByte_25 : decode cX9_toldByte 25 = .ok (.bipush (-2), 2) := by decide +kernel
theorem dX9_toldByte_27 : decode cX9_toldByte 27 = .ok (.ireturn, 1) := by decide +kernel
theorem dX9_writesList_0 : decode cX9_writesList 0 = .ok (.aload_n 0, 1) := by decide +kernel
theorem dX9_writesList_1 : decode cX9_writesList 1 = .ok (.iconst 0, 1) := by decide +kernel
theorem dX9_writesList_2 : decode cX9_writesList 2 = .ok (.putfield 332, 3) := by decide +kernel
theorem dX9_writesList_5 : decode cX9_writesList 5 = .ok (.aload_n 0, 1) := by decide +kernel
theorem dX9_writesList_6 : decode cX9_writesList 6 = .ok (.invokevirtual 126, 3) := by decide +kernel
theorem dX9_writesList_9 : decode cX9_writesList 9 = .ok (.istore_n 1, 1) := by decide +kernel
theorem dX9_writesList_10 : decode cX9_writesList 10 = .ok (.iconst 0, 1) := by decide +kernel
theorem dX9_writesList_11 : decode cX9_writesList 11 = .ok (.istore_n 2, 1) := by decide +kernel
theorem dX9_writesList_12 : decode cX9_writesList 12 = .ok (.iload_n 2, 1) := by decide +kernel
theorem dX9_writesList_13 : decode cX9_writesList 13 = .ok (.aload_n 0, 1) := by decide +kernel
theorem dX9_writesList_14 : decode cX9_writesList 14 = .ok (.getfield 17, 3) := by decide +kernel
theorem dX9_writesList_17 : decode cX9_writesList 17 = .ok (.iconst 1, 1) := by decide +kernel
theorem dX9_writesList_18 : decode cX9_writesList 18 = .ok (.iaload, 1) := by decide +kernel
theorem dX9_writesList_19 : decode cX9_writesList 19 = .ok (.if_icmp .ge 69, 3) := by decide +kernel
theorem dX9_writesList_22 : decode cX9_writesList 22 = .ok (.aload_n 0, 1) := by decide +kernel
theorem dX9_writesList_23 : decode cX9_writesList 23 = .ok (.aload_n 0, 1) := by decide +kernel
theorem dX9_writesList_24 : decode cX9_writesList 24 = .ok (.getfield 17, 3) := by decide +kernel
theorem dX9_writesList_27 : decode cX9_writesList 27 = .ok (.iconst 3, 1) := by decide +kernel
theorem dX9_writesList_28 : decode cX9_writesList 28 = .ok (.iload_n 2, 1) := by decide +kernel
theorem dX9_writesList_29 : decode cX9_writesList 29 = .ok (.iadd, 1) := by decide +kernel
theorem dX9_writesList_30 : decode cX9_writesList 30 = .ok (.iaload, 1) := by decide +kernel
theorem dX9_writesList_31 : decode cX9_writesList 31 = .ok (.aload_n 0, 1) := by decide +kernel
theorem dX9_writesList_32 : decode cX9_writesList 32 = .ok (.iload_n 2, 1) := by decide +kernel
theorem dX9_writesList_33 : decode cX9_writesList 33 = .ok (.invokevirtual 120, 3) := by decide +kernel
theorem dX9_writesList_36 : decode cX9_writesList 36 = .ok (.invokevirtual 344, 3) := by decide +kernel
theorem dX9_writesList_39 : decode cX9_writesList 39 = .ok (.aload_n 0, 1) := by decide +kernel
theorem dX9_writesList_40 : decode cX9_writesList 40 = .ok (.iload_n 2, 1) := by decide +kernel
theorem dX9_writesList_41 : decode cX9_writesList 41 = .ok (.invokevirtual 123, 3) := by decide +kernel
theorem dX9_writesList_44 : decode cX9_writesList 44 = .ok (.ifCond .le 18, 3) := by decide +kernel
theorem dX9_writesList_47 : decode cX9_writesList 47 = .ok (.aload_n 0, 1) := by decide +kernel
theorem dX9_writesList_48 : decode cX9_writesList 48 = .ok (.bipush 45, 2) := by decide +kernel
theorem dX9_writesList_50 : decode cX9_writesList 50 = .ok (.invokevirtual 335, 3) := by decide +kernel
theorem dX9_writesList_53 : decode cX9_writesList 53 = .ok (.aload_n 0, 1) := by decide +kernel
theorem dX9_writesList_54 : decode cX9_writesList 54 = .ok (.aload_n 0, 1) := by decide +kernel
theorem dX9_writesList_55 : decode cX9_writesList 55 = .ok (.iload_n 2, 1) := by decide +kernel
theorem dX9_writesList_56 : decode cX9_writesList 56 = .ok (.invokevirtual 117, 3) := by decide +kernel
theorem dX9_writesList_59 : decode cX9_writesList 59 = .ok (.invokevirtual 341, 3) := by decide +kernel
theorem dX9_writesList_62 : decode cX9_writesList 62 = .ok (.aload_n 0, 1) := by decide +kernel
theorem dX9_writesList_63 : decode cX9_writesList 63 = .ok (.iload_n 2, 1) := by decide +kernel
theorem dX9_writesList_64 : decode cX9_writesList 64 = .ok (.invokevirtual 103, 3) := by decide +kernel
theorem dX9_writesList_67 : decode cX9_writesList 67 = .ok (.ifCond .eq 9, 3) := by decide +kernel
theorem dX9_writesList_70 : decode cX9_writesList 70 = .ok (.aload_n 0, 1) := by decide +kernel
theorem dX9_writesList_71 : decode cX9_writesList 71 = .ok (.bipush 33, 2) := by decide +kernel
theorem dX9_writesList_73 : decode cX9_writesList 73 = .ok (.invokevirtual 335, 3) := by decide +kernel
theorem dX9_writesList_76 : decode cX9_writesList 76 = .ok (.aload_n 0, 1) := by decide +kernel
theorem dX9_writesList_77 : decode cX9_writesList 77 = .ok (.bipush 10, 2) := by decide +kernel
theorem dX9_writesList_79 : decode cX9_writesList 79 = .ok (.invokevirtual 335, 3) := by decide +kernel
theorem dX9_writesList_82 : decode cX9_writesList 82 = .ok (.iinc 2 1, 3) := by decide +kernel
theorem dX9_writesList_85 : decode cX9_writesList 85 = .ok (.goto (-73), 3) := by decide +kernel
theorem dX9_writesList_88 : decode cX9_writesList 88 = .ok (.return_, 1) := by decide +kernel
theorem dX9_listLength_0 : decode cX9_listLength 0 = .ok (.aload_n 0, 1) := by decide +kernel
theorem dX9_listLength_1 : decode cX9_listLength 1 = .ok (.invokevirtual 348, 3) := by decide +kernel
theorem dX9_listLength_4 : decode cX9_listLength 4 = .ok (.aload_n 0, 1) := by decide +kernel
theorem dX9_listLength_5 : decode cX9_listLength 5 = .ok (.getfield 332, 3) := by decide +kernel
theorem dX9_listLength_8 : decode cX9_listLength 8 = .ok (.ireturn, 1) := by decide +kernel
theorem dX9_listByte_0 : decode cX9_listByte 0 = .ok (.aload_n 0, 1) := by decide +kernel
theorem dX9_listByte_1 : decode cX9_listByte 1 = .ok (.invokevirtual 348, 3) := by decide +kernel
theorem dX9_listByte_4 : decode cX9_listByte 4 = .ok (.aload_n 0, 1) := by decide +kernel
theorem dX9_listByte_5 : decode cX9_listByte 5 = .ok (.iload_n 1, 1) := by decide +kernel
theorem dX9_listByte_6 : decode cX9_listByte 6 = .ok (.invokevirtual 351, 3) := by decide +kernel
theorem dX9_listByte_9 : decode cX9_listByte 9 = .ok (.ireturn, 1) := by decide +kernel
theorem dX9_writesGap_0 : decode cX9_writesGap 0 = .ok (.aload_n 0, 1) := by decide +kernel
theorem dX9_writesGap_1 : decode cX9_writesGap 1 = .ok (.sipush 7216, 3) := by decide +kernel
theorem dX9_writesGap_4 : decode cX9_writesGap 4 = .ok (.invokevirtual 338, 3) := by decide +kernel
theorem dX9_writesGap_7 : decode cX9_writesGap 7 = .ok (.aload_n 0, 1) := by decide +kernel
theorem dX9_writesGap_8 : decode cX9_writesGap 8 = .ok (.aload_n 0, 1) := by decide +kernel
theorem dX9_writesGap_9 : decode cX9_writesGap 9 = .ok (.iload_n 1, 1) := by decide +kernel
theorem dX9_writesGap_10 : decode cX9_writesGap 10 = .ok (.iconst 0, 1) := by decide +kernel
theorem dX9_writesGap_11 : decode cX9_writesGap 11 = .ok (.invokevirtual 76, 3) := by decide +kernel
theorem dX9_writesGap_14 : decode cX9_writesGap 14 = .ok (.invokevirtual 354, 3) := by decide +kernel
theorem dX9_writesGap_17 : decode cX9_writesGap 17 = .ok (.aload_n 0, 1) := by decide +kernel
theorem dX9_writesGap_18 : decode cX9_writesGap 18 = .ok (.aload_n 0, 1) := by decide +kernel
theorem dX9_writesGap_19 : decode cX9_writesGap 19 = .ok (.iload_n 1, 1) := by decide +kernel
theorem dX9_writesGap_20 : decode cX9_writesGap 20 = .ok (.iconst 1, 1) := by decide +kernel
theorem dX9_writesGap_21 : decode cX9_writesGap 21 = .ok (.invokevirtual 76, 3) := by decide +kernel
theorem dX9_writesGap_24 : decode cX9_writesGap 24 = .ok (.invokevirtual 354, 3) := by decide +kernel
theorem dX9_writesGap_27 : decode cX9_writesGap 27 = .ok (.aload_n 0, 1) := by decide +kernel
theorem dX9_writesGap_28 : decode cX9_writesGap 28 = .ok (.bipush 32, 2) := by decide +kernel
theorem dX9_writesGap_30 : decode cX9_writesGap 30 = .ok (.invokevirtual 335, 3) := by decide +kernel
theorem dX9_writesGap_33 : decode cX9_writesGap 33 = .ok (.aload_n 0, 1) := by decide +kernel
theorem dX9_writesGap_34 : decode cX9_writesGap 34 = .ok (.aload_n 0, 1) := by decide +kernel
theorem dX9_writesGap_35 : decode cX9_writesGap 35 = .ok (.iload_n 1, 1) := by decide +kernel
theorem dX9_writesGap_36 : decode cX9_writesGap 36 = .ok (.iconst 2, 1) := by decide +kernel
theorem dX9_writesGap_37 : decode cX9_writesGap 37 = .ok (.invokevirtual 76, 3) := by decide +kernel
theorem dX9_writesGap_40 : decode cX9_writesGap 40 = .ok (.ifCond .ne 8, 3) := by decide +kernel
theorem dX9_writesGap_43 : decode cX9_writesGap 43 = .ok (.ldc 235, 2) := by decide +kernel
theorem dX9_writesGap_45 : decode cX9_writesGap 45 = .ok (.goto 5, 3) := by decide +kernel
theorem dX9_writesGap_48 : decode cX9_writesGap 48 = .ok (.ldc 231, 2) := by decide +kernel
theorem dX9_writesGap_50 : decode cX9_writesGap 50 = .ok (.aload_n 0, 1) := by decide +kernel
theorem dX9_writesGap_51 : decode cX9_writesGap 51 = .ok (.iload_n 1, 1) := by decide +kernel
theorem dX9_writesGap_52 : decode cX9_writesGap 52 = .ok (.iconst 3, 1) := by decide +kernel
theorem dX9_writesGap_53 : decode cX9_writesGap 53 = .ok (.invokevirtual 76, 3) := by decide +kernel
theorem dX9_writesGap_56 : decode cX9_writesGap 56 = .ok (.invokevirtual 344, 3) := by decide +kernel
theorem dX9_writesGap_59 : decode cX9_writesGap 59 = .ok (.aload_n 0, 1) := by decide +kernel
theorem dX9_writesGap_60 : decode cX9_writesGap 60 = .ok (.iload_n 1, 1) := by decide +kernel
theorem dX9_writesGap_61 : decode cX9_writesGap 61 = .ok (.invokevirtual 87, 3) := by decide +kernel
theorem dX9_writesGap_64 : decode cX9_writesGap 64 = .ok (.ifCond .ne 16, 3) := by decide +kernel
theorem dX9_writesGap_67 : decode cX9_writesGap 67 = .ok (.aload_n 0, 1) := by decide +kernel
theorem dX9_writesGap_68 : decode cX9_writesGap 68 = .ok (.bipush 32, 2) := by decide +kernel
theorem dX9_writesGap_70 : decode cX9_writesGap 70 = .ok (.invokevirtual 335, 3) := by decide +kernel
theorem dX9_writesGap_73 : decode cX9_writesGap 73 = .ok (.aload_n 0, 1) := by decide +kernel
theorem dX9_writesGap_74 : decode cX9_writesGap 74 = .ok (.sipush 15558, 3) := by decide +kernel
theorem dX9_writesGap_77 : decode cX9_writesGap 77 = .ok (.invokevirtual 338, 3) := by decide +kernel
theorem dX9_writesGap_80 : decode cX9_writesGap 80 = .ok (.aload_n 0, 1) := by decide +kernel
theorem dX9_writesGap_81 : decode cX9_writesGap 81 = .ok (.bipush 59, 2) := by decide +kernel
theorem dX9_writesGap_83 : decode cX9_writesGap 83 = .ok (.invokevirtual 335, 3) := by decide +kernel
theorem dX9_writesGap_86 : decode cX9_writesGap 86 = .ok (.return_, 1) := by decide +kernel
theorem dX9_writesSetup_0 : decode cX9_writesSetup 0 = .ok (.aload_n 0, 1) := by decide +kernel
theorem dX9_writesSetup_1 : decode cX9_writesSetup 1 = .ok (.iconst 0, 1) := by decide +kernel
theorem dX9_writesSetup_2 : decode cX9_writesSetup 2 = .ok (.putfield 332, 3) := by decide +kernel
theorem dX9_writesSetup_5 : decode cX9_writesSetup 5 = .ok (.aload_n 0, 1) := by decide +kernel
theorem dX9_writesSetup_6 : decode cX9_writesSetup 6 = .ok (.sipush 5572, 3) := by decide +kernel
theorem dX9_writesSetup_9 : decode cX9_writesSetup 9 = .ok (.aload_n 0, 1) := by decide +kernel
theorem dX9_writesSetup_10 : decode cX9_writesSetup 10 = .ok (.getfield 17, 3) := by decide +kernel
theorem dX9_writesSetup_13 : decode cX9_writesSetup 13 = .ok (.iconst 0, 1) := by decide +kernel
theorem dX9_writesSetup_14 : decode cX9_writesSetup 14 = .ok (.iaload, 1) := by decide +kernel
theorem dX9_writesSetup_15 : decode cX9_writesSetup 15 = .ok (.invokevirtual 344, 3) := by decide +kernel
theorem dX9_writesSetup_18 : decode cX9_writesSetup 18 = .ok (.aload_n 0, 1) := by decide +kernel
theorem dX9_writesSetup_19 : decode cX9_writesSetup 19 = .ok (.bipush 59, 2) := by decide +kernel
theorem dX9_writesSetup_21 : decode cX9_writesSetup 21 = .ok (.invokevirtual 335, 3) := by decide +kernel
theorem dX9_writesSetup_24 : decode cX9_writesSetup 24 = .ok (.iconst 1, 1) := by decide +kernel
theorem dX9_writesSetup_25 : decode cX9_writesSetup 25 = .ok (.istore_n 1, 1) := by decide +kernel
theorem dX9_writesSetup_26 : decode cX9_writesSetup 26 = .ok (.iload_n 1, 1) := by decide +kernel
theorem dX9_writesSetup_27 : decode cX9_writesSetup 27 = .ok (.aload_n 0, 1) := by decide +kernel
theorem dX9_writesSetup_28 : decode cX9_writesSetup 28 = .ok (.getfield 17, 3) := by decide +kernel
theorem dX9_writesSetup_31 : decode cX9_writesSetup 31 = .ok (.iconst 1, 1) := by decide +kernel
theorem dX9_writesSetup_32 : decode cX9_writesSetup 32 = .ok (.iaload, 1) := by decide +kernel
theorem dX9_writesSetup_33 : decode cX9_writesSetup 33 = .ok (.if_icmp .ge 26, 3) := by decide +kernel
theorem dX9_writesSetup_36 : decode cX9_writesSetup 36 = .ok (.aload_n 0, 1) := by decide +kernel
theorem dX9_writesSetup_37 : decode cX9_writesSetup 37 = .ok (.ldc 239, 2) := by decide +kernel
theorem dX9_writesSetup_39 : decode cX9_writesSetup 39 = .ok (.invokevirtual 338, 3) := by decide +kernel
theorem dX9_writesSetup_42 : decode cX9_writesSetup 42 = .ok (.aload_n 0, 1) := by decide +kernel
theorem dX9_writesSetup_43 : decode cX9_writesSetup 43 = .ok (.iload_n 1, 1) := by decide +kernel
theorem dX9_writesSetup_44 : decode cX9_writesSetup 44 = .ok (.invokevirtual 354, 3) := by decide +kernel
theorem dX9_writesSetup_47 : decode cX9_writesSetup 47 = .ok (.aload_n 0, 1) := by decide +kernel
theorem dX9_writesSetup_48 : decode cX9_writesSetup 48 = .ok (.bipush 59, 2) := by decide +kernel
theorem dX9_writesSetup_50 : decode cX9_writesSetup 50 = .ok (.invokevirtual 335, 3) := by decide +kernel
theorem dX9_writesSetup_53 : decode cX9_writesSetup 53 = .ok (.iinc 1 1, 3) := by decide +kernel
theorem dX9_writesSetup_56 : decode cX9_writesSetup 56 = .ok (.goto (-30), 3) := by decide +kernel
theorem dX9_writesSetup_59 : decode cX9_writesSetup 59 = .ok (.iconst 0, 1) := by decide +kernel
theorem dX9_writesSetup_60 : decode cX9_writesSetup 60 = .ok (.istore_n 1, 1) := by decide +kernel
theorem dX9_writesSetup_61 : decode cX9_writesSetup 61 = .ok (.iload_n 1, 1) := by decide +kernel
theorem dX9_writesSetup_62 : decode cX9_writesSetup 62 = .ok (.aload_n 0, 1) := by decide +kernel
theorem dX9_writesSetup_63 : decode cX9_writesSetup 63 = .ok (.getfield 17, 3) := by decide +kernel
theorem dX9_writesSetup_66 : decode cX9_writesSetup 66 = .ok (.iconst 2, 1) := by decide +kernel
theorem dX9_writesSetup_67 : decode cX9_writesSetup 67 = .ok (.iaload, 1) := by decide +kernel
theorem dX9_writesSetup_68 : decode cX9_writesSetup 68 = .ok (.if_icmp .ge 14, 3) := by decide +kernel
theorem dX9_writesSetup_71 : decode cX9_writesSetup 71 = .ok (.aload_n 0, 1) := by decide +kernel
theorem dX9_writesSetup_72 : decode cX9_writesSetup 72 = .ok (.iload_n 1, 1) := by decide +kernel
theorem dX9_writesSetup_73 : decode cX9_writesSetup 73 = .ok (.invokevirtual 357, 3) := by decide +kernel
theorem dX9_writesSetup_76 : decode cX9_writesSetup 76 = .ok (.iinc 1 1, 3) := by decide +kernel
theorem dX9_writesSetup_79 : decode cX9_writesSetup 79 = .ok (.goto (-18), 3) := by decide +kernel
theorem dX9_writesSetup_82 : decode cX9_writesSetup 82 = .ok (.iconst 1, 1) := by decide +kernel
theorem dX9_writesSetup_83 : decode cX9_writesSetup 83 = .ok (.istore_n 1, 1) := by decide +kernel
theorem dX9_writesSetup_84 : decode cX9_writesSetup 84 = .ok (.iload_n 1, 1) := by decide +kernel
theorem dX9_writesSetup_85 : decode cX9_writesSetup 85 = .ok (.aload_n 0, 1) := by decide +kernel
theorem dX9_writesSetup_86 : decode cX9_writesSetup 86 = .ok (.getfield 17, 3) := by decide +kernel
theorem dX9_writesSetup_89 : decode cX9_writesSetup 89 = .ok (.iconst 1, 1) := by decide +kernel
theorem dX9_writesSetup_90 : decode cX9_writesSetup 90 = .ok (.iaload, 1) := by decide +kernel
theorem dX9_writesSetup_91 : decode cX9_writesSetup 91 = .ok (.if_icmp .ge 57, 3) := by decide +kernel
theorem dX9_writesSetup_94 : decode cX9_writesSetup 94 = .ok (.aload_n 0, 1) := by decide +kernel
theorem dX9_writesSetup_95 : decode cX9_writesSetup 95 = .ok (.iload_n 1, 1) := by decide +kernel
theorem dX9_writesSetup_96 : decode cX9_writesSetup 96 = .ok (.invokevirtual 103, 3) := by decide +kernel
theorem dX9_writesSetup_99 : decode cX9_writesSetup 99 = .ok (.ifCond .eq 43, 3) := by decide +kernel
theorem dX9_writesSetup_102 : decode cX9_writesSetup 102 = .ok (.aload_n 0, 1) := by decide +kernel
theorem dX9_writesSetup_103 : decode cX9_writesSetup 103 = .ok (.sipush 16686, 3) := by decide +kernel
theorem dX9_writesSetup_106 : decode cX9_writesSetup 106 = .ok (.invokevirtual 338, 3) := by decide +kernel
theorem dX9_writesSetup_109 : decode cX9_writesSetup 109 = .ok (.aload_n 0, 1) := by decide +kernel
theorem dX9_writesSetup_110 : decode cX9_writesSetup 110 = .ok (.iload_n 1, 1) := by decide +kernel
theorem dX9_writesSetup_111 : decode cX9_writesSetup 111 = .ok (.invokevirtual 354, 3) := by decide +kernel
theorem dX9_writesSetup_114 : decode cX9_writesSetup 114 = .ok (.aload_n 0, 1) := by decide +kernel
theorem dX9_writesSetup_115 : decode cX9_writesSetup 115 = .ok (.bipush 32, 2) := by decide +kernel
theorem dX9_writesSetup_117 : decode cX9_writesSetup 117 = .ok (.invokevirtual 335, 3) := by decide +kernel
theorem dX9_writesSetup_120 : decode cX9_writesSetup 120 = .ok (.aload_n 0, 1) := by decide +kernel
theorem dX9_writesSetup_121 : decode cX9_writesSetup 121 = .ok (.aload_n 0, 1) := by decide +kernel
theorem dX9_writesSetup_122 : decode cX9_writesSetup 122 = .ok (.getfield 17, 3) := by decide +kernel
theorem dX9_writesSetup_125 : decode cX9_writesSetup 125 = .ok (.sipush 133, 3) := by decide +kernel
theorem dX9_writesSetup_128 : decode cX9_writesSetup 128 = .ok (.iload_n 1, 1) := by decide +kernel
theorem dX9_writesSetup_129 : decode cX9_writesSetup 129 = .ok (.iadd, 1) := by decide +kernel
theorem dX9_writesSetup_130 : decode cX9_writesSetup 130 = .ok (.iaload, 1) := by decide +kernel
theorem dX9_writesSetup_131 : decode cX9_writesSetup 131 = .ok (.iconst 1, 1) := by decide +kernel
theorem dX9_writesSetup_132 : decode cX9_writesSetup 132 = .ok (.isub, 1) := by decide +kernel
theorem dX9_writesSetup_133 : decode cX9_writesSetup 133 = .ok (.invokevirtual 341, 3) := by decide +kernel
theorem dX9_writesSetup_136 : decode cX9_writesSetup 136 = .ok (.aload_n 0, 1) := by decide +kernel
theorem dX9_writesSetup_137 : decode cX9_writesSetup 137 = .ok (.bipush 59, 2) := by decide +kernel
theorem dX9_writesSetup_139 : decode cX9_writesSetup 139 = .ok (.invokevirtual 335, 3) := by decide +kernel
theorem dX9_writesSetup_142 : decode cX9_writesSetup 142 = .ok (.iinc 1 1, 3) := by decide +kernel
theorem dX9_writesSetup_145 : decode cX9_writesSetup 145 = .ok (.goto (-61), 3) := by decide +kernel
theorem dX9_writesSetup_148 : decode cX9_writesSetup 148 = .ok (.return_, 1) := by decide +kernel
theorem dX9_setupLength_0 : decode cX9_setupLength 0 = .ok (.aload_n 0, 1) := by decide +kernel
theorem dX9_setupLength_1 : decode cX9_setupLength 1 = .ok (.invokevirtual 360, 3) := by decide +kernel
theorem dX9_setupLength_4 : decode cX9_setupLength 4 = .ok (.aload_n 0, 1) := by decide +kernel
theorem dX9_setupLength_5 : decode cX9_setupLength 5 = .ok (.getfield 332, 3) := by decide +kernel
theorem dX9_setupLength_8 : decode cX9_setupLength 8 = .ok (.ireturn, 1) := by decide +kernel
theorem dX9_setupByte_0 : decode cX9_setupByte 0 = .ok (.aload_n 0, 1) := by decide +kernel
theorem dX9_setupByte_1 : decode cX9_setupByte 1 = .ok (.invokevirtual 360, 3) := by decide +kernel
theorem dX9_setupByte_4 : decode cX9_setupByte 4 = .ok (.aload_n 0, 1) := by decide +kernel
theorem dX9_setupByte_5 : decode cX9_setupByte 5 = .ok (.iload_n 1, 1) := by decide +kernel
theorem dX9_setupByte_6 : decode cX9_setupByte 6 = .ok (.invokevirtual 351, 3) := by decide +kernel
theorem dX9_setupByte_9 : decode cX9_setupByte 9 = .ok (.ireturn, 1) := by decide +kernel
