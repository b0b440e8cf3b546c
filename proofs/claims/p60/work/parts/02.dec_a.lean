theorem dX0_init_0 : decode cX0_init 0 = .ok (.aload_n 0, 1) := by decide +kernel
theorem dX0_init_1 : decode cX0_init 1 = .ok (.invokespecial 3, 3) := by decide +kernel
theorem dX0_init_4 : decode cX0_init 4 = .ok (.aload_n 0, 1) := by decide +kernel
theorem dX0_init_5 : decode cX0_init 5 = .ok (.bipush 8, 2) := by decide +kernel
theorem dX0_init_7 : decode cX0_init 7 = .ok (.anewarray 9, 3) := by decide +kernel
theorem dX0_init_10 : decode cX0_init 10 = .ok (.putfield 11, 3) := by decide +kernel
theorem dX0_init_13 : decode cX0_init 13 = .ok (.iconst 0, 1) := by decide +kernel
theorem dX0_init_14 : decode cX0_init 14 = .ok (.istore_n 1, 1) := by decide +kernel
theorem dX0_init_15 : decode cX0_init 15 = .ok (.iload_n 1, 1) := by decide +kernel
theorem dX0_init_16 : decode cX0_init 16 = .ok (.bipush 8, 2) := by decide +kernel
theorem dX0_init_18 : decode cX0_init 18 = .ok (.if_icmp .ge 22, 3) := by decide +kernel
theorem dX0_init_21 : decode cX0_init 21 = .ok (.aload_n 0, 1) := by decide +kernel
theorem dX0_init_22 : decode cX0_init 22 = .ok (.getfield 11, 3) := by decide +kernel
theorem dX0_init_25 : decode cX0_init 25 = .ok (.iload_n 1, 1) := by decide +kernel
theorem dX0_init_26 : decode cX0_init 26 = .ok (.new 9, 3) := by decide +kernel
theorem dX0_init_29 : decode cX0_init 29 = .ok (.dup, 1) := by decide +kernel
theorem dX0_init_30 : decode cX0_init 30 = .ok (.invokespecial 17, 3) := by decide +kernel
theorem dX0_init_33 : decode cX0_init 33 = .ok (.aastore, 1) := by decide +kernel
theorem dX0_init_34 : decode cX0_init 34 = .ok (.iinc 1 1, 3) := by decide +kernel
theorem dX0_init_37 : decode cX0_init 37 = .ok (.goto (-22), 3) := by decide +kernel
theorem dX0_init_40 : decode cX0_init 40 = .ok (.return_, 1) := by decide +kernel
theorem dX0_clear_0 : decode cX0_clear 0 = .ok (.aload_n 0, 1) := by decide +kernel
theorem dX0_clear_1 : decode cX0_clear 1 = .ok (.iconst 0, 1) := by decide +kernel
theorem dX0_clear_2 : decode cX0_clear 2 = .ok (.putfield 18, 3) := by decide +kernel
theorem dX0_clear_5 : decode cX0_clear 5 = .ok (.aload_n 0, 1) := by decide +kernel
theorem dX0_clear_6 : decode cX0_clear 6 = .ok (.iconst 0, 1) := by decide +kernel
theorem dX0_clear_7 : decode cX0_clear 7 = .ok (.putfield 22, 3) := by decide +kernel
theorem dX0_clear_10 : decode cX0_clear 10 = .ok (.return_, 1) := by decide +kernel
theorem dX0_remember_0 : decode cX0_remember 0 = .ok (.aload_n 0, 1) := by decide +kernel
theorem dX0_remember_1 : decode cX0_remember 1 = .ok (.getfield 22, 3) := by decide +kernel
theorem dX0_remember_4 : decode cX0_remember 4 = .ok (.bipush 8, 2) := by decide +kernel
theorem dX0_remember_6 : decode cX0_remember 6 = .ok (.if_icmp .ne 26, 3) := by decide +kernel
theorem dX0_remember_9 : decode cX0_remember 9 = .ok (.aload_n 0, 1) := by decide +kernel
theorem dX0_remember_10 : decode cX0_remember 10 = .ok (.aload_n 0, 1) := by decide +kernel
theorem dX0_remember_11 : decode cX0_remember 11 = .ok (.getfield 18, 3) := by decide +kernel
theorem dX0_remember_14 : decode cX0_remember 14 = .ok (.iconst 1, 1) := by decide +kernel
theorem dX0_remember_15 : decode cX0_remember 15 = .ok (.iadd, 1) := by decide +kernel
theorem dX0_remember_16 : decode cX0_remember 16 = .ok (.bipush 8, 2) := by decide +kernel
theorem dX0_remember_18 : decode cX0_remember 18 = .ok (.irem, 1) := by decide +kernel
theorem dX0_remember_19 : decode cX0_remember 19 = .ok (.putfield 18, 3) := by decide +kernel
theorem dX0_remember_22 : decode cX0_remember 22 = .ok (.aload_n 0, 1) := by decide +kernel
theorem dX0_remember_23 : decode cX0_remember 23 = .ok (.dup, 1) := by decide +kernel
theorem dX0_remember_24 : decode cX0_remember 24 = .ok (.getfield 22, 3) := by decide +kernel
theorem dX0_remember_27 : decode cX0_remember 27 = .ok (.iconst 1, 1) := by decide +kernel
theorem dX0_remember_28 : decode cX0_remember 28 = .ok (.isub, 1) := by decide +kernel
theorem dX0_remember_29 : decode cX0_remember 29 = .ok (.putfield 22, 3) := by decide +kernel
theorem dX0_remember_32 : decode cX0_remember 32 = .ok (.aload_n 0, 1) := by decide +kernel
theorem dX0_remember_33 : decode cX0_remember 33 = .ok (.getfield 11, 3) := by decide +kernel
theorem dX0_remember_36 : decode cX0_remember 36 = .ok (.aload_n 0, 1) := by decide +kernel
theorem dX0_remember_37 : decode cX0_remember 37 = .ok (.getfield 18, 3) := by decide +kernel
theorem dX0_remember_40 : decode cX0_remember 40 = .ok (.aload_n 0, 1) := by decide +kernel
theorem dX0_remember_41 : decode cX0_remember 41 = .ok (.getfield 22, 3) := by decide +kernel
theorem dX0_remember_44 : decode cX0_remember 44 = .ok (.iadd, 1) := by decide +kernel
theorem dX0_remember_45 : decode cX0_remember 45 = .ok (.bipush 8, 2) := by decide +kernel
theorem dX0_remember_47 : decode cX0_remember 47 = .ok (.irem, 1) := by decide +kernel
theorem dX0_remember_48 : decode cX0_remember 48 = .ok (.aaload, 1) := by decide +kernel
theorem dX0_remember_49 : decode cX0_remember 49 = .ok (.aload_n 1, 1) := by decide +kernel
theorem dX0_remember_50 : decode cX0_remember 50 = .ok (.invokevirtual 25, 3) := by decide +kernel
theorem dX0_remember_53 : decode cX0_remember 53 = .ok (.aload_n 0, 1) := by decide +kernel
theorem dX0_remember_54 : decode cX0_remember 54 = .ok (.dup, 1) := by decide +kernel
theorem dX0_remember_55 : decode cX0_remember 55 = .ok (.getfield 22, 3) := by decide +kernel
theorem dX0_remember_58 : decode cX0_remember 58 = .ok (.iconst 1, 1) := by decide +kernel
theorem dX0_remember_59 : decode cX0_remember 59 = .ok (.iadd, 1) := by decide +kernel
theorem dX0_remember_60 : decode cX0_remember 60 = .ok (.putfield 22, 3) := by decide +kernel
theorem dX0_remember_63 : decode cX0_remember 63 = .ok (.return_, 1) := by decide +kernel
theorem dX0_bringBack_0 : decode cX0_bringBack 0 = .ok (.aload_n 0, 1) := by decide +kernel
theorem dX0_bringBack_1 : decode cX0_bringBack 1 = .ok (.getfield 22, 3) := by decide +kernel
theorem dX0_bringBack_4 : decode cX0_bringBack 4 = .ok (.ifCond .le 34, 3) := by decide +kernel
theorem dX0_bringBack_7 : decode cX0_bringBack 7 = .ok (.aload_n 0, 1) := by decide +kernel
theorem dX0_bringBack_8 : decode cX0_bringBack 8 = .ok (.dup, 1) := by decide +kernel
theorem dX0_bringBack_9 : decode cX0_bringBack 9 = .ok (.getfield 22, 3) := by decide +kernel
theorem dX0_bringBack_12 : decode cX0_bringBack 12 = .ok (.iconst 1, 1) := by decide +kernel
theorem dX0_bringBack_13 : decode cX0_bringBack 13 = .ok (.isub, 1) := by decide +kernel
theorem dX0_bringBack_14 : decode cX0_bringBack 14 = .ok (.putfield 22, 3) := by decide +kernel
theorem dX0_bringBack_17 : decode cX0_bringBack 17 = .ok (.aload_n 1, 1) := by decide +kernel
theorem dX0_bringBack_18 : decode cX0_bringBack 18 = .ok (.aload_n 0, 1) := by decide +kernel
theorem dX0_bringBack_19 : decode cX0_bringBack 19 = .ok (.getfield 11, 3) := by decide +kernel
theorem dX0_bringBack_22 : decode cX0_bringBack 22 = .ok (.aload_n 0, 1) := by decide +kernel
theorem dX0_bringBack_23 : decode cX0_bringBack 23 = .ok (.getfield 18, 3) := by decide +kernel
theorem dX0_bringBack_26 : decode cX0_bringBack 26 = .ok (.aload_n 0, 1) := by decide +kernel
theorem dX0_bringBack_27 : decode cX0_bringBack 27 = .ok (.getfield 22, 3) := by decide +kernel
theorem dX0_bringBack_30 : decode cX0_bringBack 30 = .ok (.iadd, 1) := by decide +kernel
theorem dX0_bringBack_31 : decode cX0_bringBack 31 = .ok (.bipush 8, 2) := by decide +kernel
theorem dX0_bringBack_33 : decode cX0_bringBack 33 = .ok (.irem, 1) := by decide +kernel
theorem dX0_bringBack_34 : decode cX0_bringBack 34 = .ok (.aaload, 1) := by decide +kernel
theorem dX0_bringBack_35 : decode cX0_bringBack 35 = .ok (.invokevirtual 25, 3) := by decide +kernel
theorem dX0_bringBack_38 : decode cX0_bringBack 38 = .ok (.return_, 1) := by decide +kernel
theorem dX1_init_0 : decode cX1_init 0 = .ok (.aload_n 0, 1) := by decide +kernel
theorem dX1_init_1 : decode cX1_init 1 = .ok (.invokespecial 3, 3) := by decide +kernel
theorem dX1_init_4 : decode cX1_init 4 = .ok (.aload_n 0, 1) := by decide +kernel
theorem dX1_init_5 : decode cX1_init 5 = .ok (.bipush 120, 2) := by decide +kernel
theorem dX1_init_7 : decode cX1_init 7 = .ok (.newarray .int, 2) := by decide +kernel
theorem dX1_init_9 : decode cX1_init 9 = .ok (.putfield 11, 3) := by decide +kernel
theorem dX1_init_12 : decode cX1_init 12 = .ok (.return_, 1) := by decide +kernel
theorem dX1_clear_0 : decode cX1_clear 0 = .ok (.aload_n 0, 1) := by decide +kernel
theorem dX1_clear_1 : decode cX1_clear 1 = .ok (.iconst 0, 1) := by decide +kernel
theorem dX1_clear_2 : decode cX1_clear 2 = .ok (.putfield 15, 3) := by decide +kernel
theorem dX1_clear_5 : decode cX1_clear 5 = .ok (.aload_n 0, 1) := by decide +kernel
theorem dX1_clear_6 : decode cX1_clear 6 = .ok (.iconst 0, 1) := by decide +kernel
theorem dX1_clear_7 : decode cX1_clear 7 = .ok (.putfield 19, 3) := by decide +kernel
theorem dX1_clear_10 : decode cX1_clear 10 = .ok (.return_, 1) := by decide +kernel
theorem dX1_copyFrom_0 : decode cX1_copyFrom 0 = .ok (.aload_n 1, 1) := by decide +kernel
theorem dX1_copyFrom_1 : decode cX1_copyFrom 1 = .ok (.getfield 11, 3) := by decide +kernel
theorem dX1_copyFrom_4 : decode cX1_copyFrom 4 = .ok (.iconst 0, 1) := by decide +kernel
theorem dX1_copyFrom_5 : decode cX1_copyFrom 5 = .ok (.aload_n 0, 1) := by decide +kernel
theorem dX1_copyFrom_6 : decode cX1_copyFrom 6 = .ok (.getfield 11, 3) := by decide +kernel
theorem dX1_copyFrom_9 : decode cX1_copyFrom 9 = .ok (.iconst 0, 1) := by decide +kernel
theorem dX1_copyFrom_10 : decode cX1_copyFrom 10 = .ok (.aload_n 0, 1) := by decide +kernel
theorem dX1_copyFrom_11 : decode cX1_copyFrom 11 = .ok (.getfield 11, 3) := by decide +kernel
theorem dX1_copyFrom_14 : decode cX1_copyFrom 14 = .ok (.arraylength, 1) := by decide +kernel
theorem dX1_copyFrom_15 : decode cX1_copyFrom 15 = .ok (.invokestatic 22, 3) := by decide +kernel
theorem dX1_copyFrom_18 : decode cX1_copyFrom 18 = .ok (.aload_n 0, 1) := by decide +kernel
theorem dX1_copyFrom_19 : decode cX1_copyFrom 19 = .ok (.aload_n 1, 1) := by decide +kernel
theorem dX1_copyFrom_20 : decode cX1_copyFrom 20 = .ok (.getfield 15, 3) := by decide +kernel
theorem dX1_copyFrom_23 : decode cX1_copyFrom 23 = .ok (.putfield 15, 3) := by decide +kernel
theorem dX1_copyFrom_26 : decode cX1_copyFrom 26 = .ok (.aload_n 0, 1) := by decide +kernel
theorem dX1_copyFrom_27 : decode cX1_copyFrom 27 = .ok (.aload_n 1, 1) := by decide +kernel
theorem dX1_copyFrom_28 : decode cX1_copyFrom 28 = .ok (.getfield 19, 3) := by decide +kernel
theorem dX1_copyFrom_31 : decode cX1_copyFrom 31 = .ok (.putfield 19, 3) := by decide +kernel
theorem dX1_copyFrom_34 : decode cX1_copyFrom 34 = .ok (.return_, 1) := by decide +kernel
theorem dX1_note_0 : decode cX1_note 0 = .ok (.aload_n 0, 1) := by decide +kernel
theorem dX1_note_1 : decode cX1_note 1 = .ok (.getfield 19, 3) := by decide +kernel
theorem dX1_note_4 : decode cX1_note 4 = .ok (.bipush 40, 2) := by decide +kernel
theorem dX1_note_6 : decode cX1_note 6 = .ok (.if_icmp .ne 26, 3) := by decide +kernel
theorem dX1_note_9 : decode cX1_note 9 = .ok (.aload_n 0, 1) := by decide +kernel
theorem dX1_note_10 : decode cX1_note 10 = .ok (.aload_n 0, 1) := by decide +kernel
theorem dX1_note_11 : decode cX1_note 11 = .ok (.getfield 15, 3) := by decide +kernel
theorem dX1_note_14 : decode cX1_note 14 = .ok (.iconst 1, 1) := by decide +kernel
theorem dX1_note_15 : decode cX1_note 15 = .ok (.iadd, 1) := by decide +kernel
theorem dX1_note_16 : decode cX1_note 16 = .ok (.bipush 40, 2) := by decide +kernel
theorem dX1_note_18 : decode cX1_note 18 = .ok (.irem, 1) := by decide +kernel
theorem dX1_note_19 : decode cX1_note 19 = .ok (.putfield 15, 3) := by decide +kernel
theorem dX1_note_22 : decode cX1_note 22 = .ok (.aload_n 0, 1) := by decide +kernel
theorem dX1_note_23 : decode cX1_note 23 = .ok (.dup, 1) := by decide +kernel
theorem dX1_note_24 : decode cX1_note 24 = .ok (.getfield 19, 3) := by decide +kernel
theorem dX1_note_27 : decode cX1_note 27 = .ok (.iconst 1, 1) := by decide +kernel
theorem dX1_note_28 : decode cX1_note 28 = .ok (.isub, 1) := by decide +kernel
theorem dX1_note_29 : decode cX1_note 29 = .ok (.putfield 19, 3) := by decide +kernel
theorem dX1_note_32 : decode cX1_note 32 = .ok (.aload_n 0, 1) := by decide +kernel
theorem dX1_note_33 : decode cX1_note 33 = .ok (.getfield 15, 3) := by decide +kernel
theorem dX1_note_36 : decode cX1_note 36 = .ok (.aload_n 0, 1) := by decide +kernel
theorem dX1_note_37 : decode cX1_note 37 = .ok (.getfield 19, 3) := by decide +kernel
theorem dX1_note_40 : decode cX1_note 40 = .ok (.iadd, 1) := by decide +kernel
theorem dX1_note_41 : decode cX1_note 41 = .ok (.bipush 40, 2) := by decide +kernel
theorem dX1_note_43 : decode cX1_note 43 = .ok (.irem, 1) := by decide +kernel
theorem dX1_note_44 : decode cX1_note 44 = .ok (.iconst 3, 1) := by decide +kernel
theorem dX1_note_45 : decode cX1_note 45 = .ok (.imul, 1) := by decide +kernel
theorem dX1_note_46 : decode cX1_note 46 = .ok (.istore 4, 2) := by decide +kernel
theorem dX1_note_48 : decode cX1_note 48 = .ok (.aload_n 0, 1) := by decide +kernel
theorem dX1_note_49 : decode cX1_note 49 = .ok (.getfield 11, 3) := by decide +kernel
theorem dX1_note_52 : decode cX1_note 52 = .ok (.iload 4, 2) := by decide +kernel
theorem dX1_note_54 : decode cX1_note 54 = .ok (.iload_n 1, 1) := by decide +kernel
theorem dX1_note_55 : decode cX1_note 55 = .ok (.iastore, 1) := by decide +kernel
theorem dX1_note_56 : decode cX1_note 56 = .ok (.aload_n 0, 1) := by decide +kernel
theorem dX1_note_57 : decode cX1_note 57 = .ok (.getfield 11, 3) := by decide +kernel
theorem dX1_note_60 : decode cX1_note 60 = .ok (.iload 4, 2) := by decide +kernel
theorem dX1_note_62 : decode cX1_note 62 = .ok (.iconst 1, 1) := by decide +kernel
theorem dX1_note_63 : decode cX1_note 63 = .ok (.iadd, 1) := by decide +kernel
theorem dX1_note_64 : decode cX1_note 64 = .ok (.iload_n 2, 1) := by decide +kernel
theorem dX1_note_65 : decode cX1_note 65 = .ok (.iastore, 1) := by decide +kernel
theorem dX1_note_66 : decode cX1_note 66 = .ok (.aload_n 0, 1) := by decide +kernel
theorem dX1_note_67 : decode cX1_note 67 = .ok (.getfield 11, 3) := by decide +kernel
theorem dX1_note_70 : decode cX1_note 70 = .ok (.iload 4, 2) := by decide +kernel
theorem dX1_note_72 : decode cX1_note 72 = .ok (.iconst 2, 1) := by decide +kernel
theorem dX1_note_73 : decode cX1_note 73 = .ok (.iadd, 1) := by decide +kernel
theorem dX1_note_74 : decode cX1_note 74 = .ok (.iload_n 3, 1) := by decide +kernel
theorem dX1_note_75 : decode cX1_note 75 = .ok (.iastore, 1) := by decide +kernel
theorem dX1_note_76 : decode cX1_note 76 = .ok (.aload_n 0, 1) := by decide +kernel
theorem dX1_note_77 : decode cX1_note 77 = .ok (.dup, 1) := by decide +kernel
theorem dX1_note_78 : decode cX1_note 78 = .ok (.getfield 19, 3) := by decide +kernel
theorem dX1_note_81 : decode cX1_note 81 = .ok (.iconst 1, 1) := by decide +kernel
theorem dX1_note_82 : decode cX1_note 82 = .ok (.iadd, 1) := by decide +kernel
theorem dX1_note_83 : decode cX1_note 83 = .ok (.putfield 19, 3) := by decide +kernel
theorem dX1_note_86 : decode cX1_note 86 = .ok (.return_, 1) := by decide +kernel
theorem dX1_part_0 : decode cX1_part 0 = .ok (.aload_n 0, 1) := by decide +kernel
theorem dX1_part_1 : decode cX1_part 1 = .ok (.getfield 11, 3) := by decide +kernel
theorem dX1_part_4 : decode cX1_part 4 = .ok (.aload_n 0, 1) := by decide +kernel
theorem dX1_part_5 : decode cX1_part 5 = .ok (.getfield 15, 3) := by decide +kernel
theorem dX1_part_8 : decode cX1_part 8 = .ok (.iload_n 1, 1) := by decide +kernel
theorem dX1_part_9 : decode cX1_part 9 = .ok (.iadd, 1) := by decide +kernel
theorem dX1_part_10 : decode cX1_part 10 = .ok (.bipush 40, 2) := by decide +kernel
theorem dX1_part_12 : decode cX1_part 12 = .ok (.irem, 1) := by decide +kernel
theorem dX1_part_13 : decode cX1_part 13 = .ok (.iconst 3, 1) := by decide +kernel
theorem dX1_part_14 : decode cX1_part 14 = .ok (.imul, 1) := by decide +kernel
theorem dX1_part_15 : decode cX1_part 15 = .ok (.iload_n 2, 1) := by decide +kernel
theorem dX1_part_16 : decode cX1_part 16 = .ok (.iadd, 1) := by decide +kernel
theorem dX1_part_17 : decode cX1_part 17 = .ok (.iaload, 1) := by decide +kernel
theorem dX1_part_18 : decode cX1_part 18 = .ok (.ireturn, 1) := by decide +kernel
theorem dX2_init_0 : decode cX2_init 0 = .ok (.aload_n 0, 1) := by decide +kernel
theorem dX2_init_1 : decode cX2_init 1 = .ok (.invokespecial 3, 3) := by decide +kernel
theorem dX2_init_4 : decode cX2_init 4 = .ok (.aload_n 0, 1) := by decide +kernel
theorem dX2_init_5 : decode cX2_init 5 = .ok (.bipush 60, 2) := by decide +kernel
theorem dX2_init_7 : decode cX2_init 7 = .ok (.newarray .int, 2) := by decide +kernel
theorem dX2_init_9 : decode cX2_init 9 = .ok (.putfield 9, 3) := by decide +kernel
theorem dX2_init_12 : decode cX2_init 12 = .ok (.aload_n 0, 1) := by decide +kernel
theorem dX2_init_13 : decode cX2_init 13 = .ok (.bipush 60, 2) := by decide +kernel
theorem dX2_init_15 : decode cX2_init 15 = .ok (.newarray .int, 2) := by decide +kernel
theorem dX2_init_17 : decode cX2_init 17 = .ok (.putfield 15, 3) := by decide +kernel
theorem dX2_init_20 : decode cX2_init 20 = .ok (.aload_n 0, 1) := by decide +kernel
theorem dX2_init_21 : decode cX2_init 21 = .ok (.bipush 60, 2) := by decide +kernel
theorem dX2_init_23 : decode cX2_init 23 = .ok (.newarray .int, 2) := by decide +kernel
theorem dX2_init_25 : decode cX2_init 25 = .ok (.putfield 18, 3) := by decide +kernel
theorem dX2_init_28 : decode cX2_init 28 = .ok (.aload_n 0, 1) := by decide +kernel
theorem dX2_init_29 : decode cX2_init 29 = .ok (.bipush 60, 2) := by decide +kernel
theorem dX2_init_31 : decode cX2_init 31 = .ok (.newarray .int, 2) := by decide +kernel
theorem dX2_init_33 : decode cX2_init 33 = .ok (.putfield 21, 3) := by decide +kernel
theorem dX2_init_36 : decode cX2_init 36 = .ok (.aload_n 0, 1) := by decide +kernel
theorem dX2_init_37 : decode cX2_init 37 = .ok (.bipush 100, 2) := by decide +kernel
theorem dX2_init_39 : decode cX2_init 39 = .ok (.newarray .int, 2) := by decide +kernel
theorem dX2_init_41 : decode cX2_init 41 = .ok (.putfield 24, 3) := by decide +kernel
theorem dX2_init_44 : decode cX2_init 44 = .ok (.return_, 1) := by decide +kernel
theorem dX2_build_0 : decode cX2_build 0 = .ok (.aload_n 0, 1) := by decide +kernel
theorem dX2_build_1 : decode cX2_build 1 = .ok (.aload_n 1, 1) := by decide +kernel
theorem dX2_build_2 : decode cX2_build 2 = .ok (.getfield 27, 3) := by decide +kernel
theorem dX2_build_5 : decode cX2_build 5 = .ok (.putfield 33, 3) := by decide +kernel
theorem dX2_build_8 : decode cX2_build 8 = .ok (.aload_n 0, 1) := by decide +kernel
theorem dX2_build_9 : decode cX2_build 9 = .ok (.aload_n 1, 1) := by decide +kernel
theorem dX2_build_10 : decode cX2_build 10 = .ok (.iload_n 2, 1) := by decide +kernel
theorem dX2_build_11 : decode cX2_build 11 = .ok (.invokevirtual 34, 3) := by decide +kernel
theorem dX2_build_14 : decode cX2_build 14 = .ok (.aload_n 0, 1) := by decide +kernel
theorem dX2_build_15 : decode cX2_build 15 = .ok (.invokevirtual 38, 3) := by decide +kernel
theorem dX2_build_18 : decode cX2_build 18 = .ok (.aload_n 0, 1) := by decide +kernel
theorem dX2_build_19 : decode cX2_build 19 = .ok (.invokevirtual 41, 3) := by decide +kernel
theorem dX2_build_22 : decode cX2_build 22 = .ok (.return_, 1) := by decide +kernel
theorem dX2_collectSteps_0 : decode cX2_collectSteps 0 = .ok (.aload_n 0, 1) := by decide +kernel
theorem dX2_collectSteps_1 : decode cX2_collectSteps 1 = .ok (.iconst 0, 1) := by decide +kernel
theorem dX2_collectSteps_2 : decode cX2_collectSteps 2 = .ok (.putfield 44, 3) := by decide +kernel
theorem dX2_collectSteps_5 : decode cX2_collectSteps 5 = .ok (.iconst 0, 1) := by decide +kernel
theorem dX2_collectSteps_6 : decode cX2_collectSteps 6 = .ok (.istore_n 3, 1) := by decide +kernel
theorem dX2_collectSteps_7 : decode cX2_collectSteps 7 = .ok (.iload_n 3, 1) := by decide +kernel
theorem dX2_collectSteps_8 : decode cX2_collectSteps 8 = .ok (.aload_n 1, 1) := by decide +kernel
theorem dX2_collectSteps_9 : decode cX2_collectSteps 9 = .ok (.getfield 47, 3) := by decide +kernel
theorem dX2_collectSteps_12 : decode cX2_collectSteps 12 = .ok (.if_icmp .ge 81, 3) := by decide +kernel
theorem dX2_collectSteps_15 : decode cX2_collectSteps 15 = .ok (.aload_n 1, 1) := by decide +kernel
theorem dX2_collectSteps_16 : decode cX2_collectSteps 16 = .ok (.getfield 50, 3) := by decide +kernel
theorem dX2_collectSteps_19 : decode cX2_collectSteps 19 = .ok (.iload_n 3, 1) := by decide +kernel
theorem dX2_collectSteps_20 : decode cX2_collectSteps 20 = .ok (.baload, 1) := by decide +kernel
theorem dX2_collectSteps_21 : decode cX2_collectSteps 21 = .ok (.ifCond .eq 66, 3) := by decide +kernel
theorem dX2_collectSteps_24 : decode cX2_collectSteps 24 = .ok (.iload_n 3, 1) := by decide +kernel
theorem dX2_collectSteps_25 : decode cX2_collectSteps 25 = .ok (.iload_n 2, 1) := by decide +kernel
theorem dX2_collectSteps_26 : decode cX2_collectSteps 26 = .ok (.if_icmp .eq 61, 3) := by decide +kernel
theorem dX2_collectSteps_29 : decode cX2_collectSteps 29 = .ok (.aload_n 1, 1) := by decide +kernel
theorem dX2_collectSteps_30 : decode cX2_collectSteps 30 = .ok (.getfield 54, 3) := by decide +kernel
theorem dX2_collectSteps_33 : decode cX2_collectSteps 33 = .ok (.iload_n 3, 1) := by decide +kernel
theorem dX2_collectSteps_34 : decode cX2_collectSteps 34 = .ok (.iaload, 1) := by decide +kernel
theorem dX2_collectSteps_35 : decode cX2_collectSteps 35 = .ok (.istore 4, 2) := by decide +kernel
theorem dX2_collectSteps_37 : decode cX2_collectSteps 37 = .ok (.aload_n 1, 1) := by decide +kernel
theorem dX2_collectSteps_38 : decode cX2_collectSteps 38 = .ok (.getfield 57, 3) := by decide +kernel
theorem dX2_collectSteps_41 : decode cX2_collectSteps 41 = .ok (.iload_n 3, 1) := by decide +kernel
theorem dX2_collectSteps_42 : decode cX2_collectSteps 42 = .ok (.iaload, 1) := by decide +kernel
theorem dX2_collectSteps_43 : decode cX2_collectSteps 43 = .ok (.istore 5, 2) := by decide +kernel
theorem dX2_collectSteps_45 : decode cX2_collectSteps 45 = .ok (.aload_n 1, 1) := by decide +kernel
theorem dX2_collectSteps_46 : decode cX2_collectSteps 46 = .ok (.getfield 60, 3) := by decide +kernel
theorem dX2_collectSteps_49 : decode cX2_collectSteps 49 = .ok (.iload_n 3, 1) := by decide +kernel
theorem dX2_collectSteps_50 : decode cX2_collectSteps 50 = .ok (.iaload, 1) := by decide +kernel
theorem dX2_collectSteps_51 : decode cX2_collectSteps 51 = .ok (.istore 6, 2) := by decide +kernel
theorem dX2_collectSteps_53 : decode cX2_collectSteps 53 = .ok (.aload_n 0, 1) := by decide +kernel
theorem dX2_collectSteps_54 : decode cX2_collectSteps 54 = .ok (.iload 4, 2) := by decide +kernel
theorem dX2_collectSteps_56 : decode cX2_collectSteps 56 = .ok (.iload 5, 2) := by decide +kernel
theorem dX2_collectSteps_58 : decode cX2_collectSteps 58 = .ok (.iload 6, 2) := by decide +kernel
theorem dX2_collectSteps_60 : decode cX2_collectSteps 60 = .ok (.invokestatic 63, 3) := by decide +kernel
theorem dX2_collectSteps_63 : decode cX2_collectSteps 63 = .ok (.iload 4, 2) := by decide +kernel
theorem dX2_collectSteps_65 : decode cX2_collectSteps 65 = .ok (.iload 5, 2) := by decide +kernel
theorem dX2_collectSteps_67 : decode cX2_collectSteps 67 = .ok (.iload 6, 2) := by decide +kernel
theorem dX2_collectSteps_69 : decode cX2_collectSteps 69 = .ok (.invokestatic 67, 3) := by decide +kernel
theorem dX2_collectSteps_72 : decode cX2_collectSteps 72 = .ok (.iload 6, 2) := by decide +kernel
theorem dX2_collectSteps_74 : decode cX2_collectSteps 74 = .ok (.aload_n 1, 1) := by decide +kernel
theorem dX2_collectSteps_75 : decode cX2_collectSteps 75 = .ok (.getfield 70, 3) := by decide +kernel
theorem dX2_collectSteps_78 : decode cX2_collectSteps 78 = .ok (.iload_n 3, 1) := by decide +kernel
theorem dX2_collectSteps_79 : decode cX2_collectSteps 79 = .ok (.iaload, 1) := by decide +kernel
theorem dX2_collectSteps_80 : decode cX2_collectSteps 80 = .ok (.invokestatic 73, 3) := by decide +kernel
theorem dX2_collectSteps_83 : decode cX2_collectSteps 83 = .ok (.iload_n 3, 1) := by decide +kernel
theorem dX2_collectSteps_84 : decode cX2_collectSteps 84 = .ok (.invokevirtual 77, 3) := by decide +kernel
theorem dX2_collectSteps_87 : decode cX2_collectSteps 87 = .ok (.iinc 3 1, 3) := by decide +kernel
theorem dX2_collectSteps_90 : decode cX2_collectSteps 90 = .ok (.goto (-83), 3) := by decide +kernel
theorem dX2_collectSteps_93 : decode cX2_collectSteps 93 = .ok (.iconst 1, 1) := by decide +kernel
theorem dX2_collectSteps_94 : decode cX2_collectSteps 94 = .ok (.istore_n 3, 1) := by decide +kernel
theorem dX2_collectSteps_95 : decode cX2_collectSteps 95 = .ok (.iload_n 3, 1) := by decide +kernel
theorem dX2_collectSteps_96 : decode cX2_collectSteps 96 = .ok (.aload_n 1, 1) := by decide +kernel
theorem dX2_collectSteps_97 : decode cX2_collectSteps 97 = .ok (.getfield 27, 3) := by decide +kernel
theorem dX2_collectSteps_100 : decode cX2_collectSteps 100 = .ok (.if_icmp .ge 35, 3) := by decide +kernel
theorem dX2_collectSteps_103 : decode cX2_collectSteps 103 = .ok (.aload_n 0, 1) := by decide +kernel
theorem dX2_collectSteps_104 : decode cX2_collectSteps 104 = .ok (.iconst 0, 1) := by decide +kernel
theorem dX2_collectSteps_105 : decode cX2_collectSteps 105 = .ok (.iload_n 3, 1) := by decide +kernel
theorem dX2_collectSteps_106 : decode cX2_collectSteps 106 = .ok (.aload_n 1, 1) := by decide +kernel
theorem dX2_collectSteps_107 : decode cX2_collectSteps 107 = .ok (.getfield 81, 3) := by decide +kernel
theorem dX2_collectSteps_110 : decode cX2_collectSteps 110 = .ok (.bipush 100, 2) := by decide +kernel
theorem dX2_collectSteps_112 : decode cX2_collectSteps 112 = .ok (.iload_n 3, 1) := by decide +kernel
theorem dX2_collectSteps_113 : decode cX2_collectSteps 113 = .ok (.iadd, 1) := by decide +kernel
theorem dX2_collectSteps_114 : decode cX2_collectSteps 114 = .ok (.invokevirtual 77, 3) := by decide +kernel
theorem dX2_collectSteps_117 : decode cX2_collectSteps 117 = .ok (.aload_n 0, 1) := by decide +kernel
theorem dX2_collectSteps_118 : decode cX2_collectSteps 118 = .ok (.iload_n 3, 1) := by decide +kernel
theorem dX2_collectSteps_119 : decode cX2_collectSteps 119 = .ok (.iconst 0, 1) := by decide +kernel
theorem dX2_collectSteps_120 : decode cX2_collectSteps 120 = .ok (.iconst 0, 1) := by decide +kernel
theorem dX2_collectSteps_121 : decode cX2_collectSteps 121 = .ok (.sipush 200, 3) := by decide +kernel
theorem dX2_collectSteps_124 : decode cX2_collectSteps 124 = .ok (.iload_n 3, 1) := by decide +kernel
theorem dX2_collectSteps_125 : decode cX2_collectSteps 125 = .ok (.iadd, 1) := by decide +kernel
theorem dX2_collectSteps_126 : decode cX2_collectSteps 126 = .ok (.invokevirtual 77, 3) := by decide +kernel
theorem dX2_collectSteps_129 : decode cX2_collectSteps 129 = .ok (.iinc 3 1, 3) := by decide +kernel
theorem dX2_collectSteps_132 : decode cX2_collectSteps 132 = .ok (.goto (-37), 3) := by decide +kernel
theorem dX2_collectSteps_135 : decode cX2_collectSteps 135 = .ok (.iconst 1, 1) := by decide +kernel
theorem dX2_collectSteps_136 : decode cX2_collectSteps 136 = .ok (.istore_n 3, 1) := by decide +kernel
theorem dX2_collectSteps_137 : decode cX2_collectSteps 137 = .ok (.iload_n 3, 1) := by decide +kernel
theorem dX2_collectSteps_138 : decode cX2_collectSteps 138 = .ok (.aload_n 1, 1) := by decide +kernel
theorem dX2_collectSteps_139 : decode cX2_collectSteps 139 = .ok (.getfield 27, 3) := by decide +kernel
theorem dX2_collectSteps_142 : decode cX2_collectSteps 142 = .ok (.if_icmp .ge 52, 3) := by decide +kernel
theorem dX2_collectSteps_145 : decode cX2_collectSteps 145 = .ok (.aload_n 1, 1) := by decide +kernel
theorem dX2_collectSteps_146 : decode cX2_collectSteps 146 = .ok (.iload_n 3, 1) := by decide +kernel
theorem dX2_collectSteps_147 : decode cX2_collectSteps 147 = .ok (.invokevirtual 84, 3) := by decide +kernel
theorem dX2_collectSteps_150 : decode cX2_collectSteps 150 = .ok (.ifCond .eq 38, 3) := by decide +kernel
theorem dX2_collectSteps_153 : decode cX2_collectSteps 153 = .ok (.aload_n 0, 1) := by decide +kernel
theorem dX2_collectSteps_154 : decode cX2_collectSteps 154 = .ok (.iconst 0, 1) := by decide +kernel
theorem dX2_collectSteps_155 : decode cX2_collectSteps 155 = .ok (.iload_n 3, 1) := by decide +kernel
theorem dX2_collectSteps_156 : decode cX2_collectSteps 156 = .ok (.aload_n 1, 1) := by decide +kernel
theorem dX2_collectSteps_157 : decode cX2_collectSteps 157 = .ok (.getfield 88, 3) := by decide +kernel
theorem dX2_collectSteps_160 : decode cX2_collectSteps 160 = .ok (.iload_n 3, 1) := by decide +kernel
theorem dX2_collectSteps_161 : decode cX2_collectSteps 161 = .ok (.iaload, 1) := by decide +kernel
theorem dX2_collectSteps_162 : decode cX2_collectSteps 162 = .ok (.sipush 300, 3) := by decide +kernel
theorem dX2_collectSteps_165 : decode cX2_collectSteps 165 = .ok (.iload_n 3, 1) := by decide +kernel
theorem dX2_collectSteps_166 : decode cX2_collectSteps 166 = .ok (.iadd, 1) := by decide +kernel
theorem dX2_collectSteps_167 : decode cX2_collectSteps 167 = .ok (.invokevirtual 77, 3) := by decide +kernel
theorem dX2_collectSteps_170 : decode cX2_collectSteps 170 = .ok (.aload_n 0, 1) := by decide +kernel
theorem dX2_collectSteps_171 : decode cX2_collectSteps 171 = .ok (.iload_n 3, 1) := by decide +kernel
theorem dX2_collectSteps_172 : decode cX2_collectSteps 172 = .ok (.iconst 0, 1) := by decide +kernel
theorem dX2_collectSteps_173 : decode cX2_collectSteps 173 = .ok (.aload_n 1, 1) := by decide +kernel
theorem dX2_collectSteps_174 : decode cX2_collectSteps 174 = .ok (.getfield 88, 3) := by decide +kernel
theorem dX2_collectSteps_177 : decode cX2_collectSteps 177 = .ok (.iload_n 3, 1) := by decide +kernel
theorem dX2_collectSteps_178 : decode cX2_collectSteps 178 = .ok (.iaload, 1) := by decide +kernel
theorem dX2_collectSteps_179 : decode cX2_collectSteps 179 = .ok (.ineg, 1) := by decide +kernel
theorem dX2_collectSteps_180 : decode cX2_collectSteps 180 = .ok (.sipush 400, 3) := by decide +kernel
theorem dX2_collectSteps_183 : decode cX2_collectSteps 183 = .ok (.iload_n 3, 1) := by decide +kernel
theorem dX2_collectSteps_184 : decode cX2_collectSteps 184 = .ok (.iadd, 1) := by decide +kernel
theorem dX2_collectSteps_185 : decode cX2_collectSteps 185 = .ok (.invokevirtual 77, 3) := by decide +kernel
theorem dX2_collectSteps_188 : decode cX2_collectSteps 188 = .ok (.iinc 3 1, 3) := by decide +kernel
theorem dX2_collectSteps_191 : decode cX2_collectSteps 191 = .ok (.goto (-54), 3) := by decide +kernel
theorem dX2_collectSteps_194 : decode cX2_collectSteps 194 = .ok (.return_, 1) := by decide +kernel
theorem dX2_collect_0 : decode cX2_collect 0 = .ok (.aload_n 0, 1) := by decide +kernel
theorem dX2_collect_1 : decode cX2_collect 1 = .ok (.getfield 44, 3) := by decide +kernel
theorem dX2_collect_4 : decode cX2_collect 4 = .ok (.bipush 60, 2) := by decide +kernel
theorem dX2_collect_6 : decode cX2_collect 6 = .ok (.if_icmp .ge 54, 3) := by decide +kernel
theorem dX2_collect_9 : decode cX2_collect 9 = .ok (.aload_n 0, 1) := by decide +kernel
theorem dX2_collect_10 : decode cX2_collect 10 = .ok (.getfield 9, 3) := by decide +kernel
theorem dX2_collect_13 : decode cX2_collect 13 = .ok (.aload_n 0, 1) := by decide +kernel
theorem dX2_collect_14 : decode cX2_collect 14 = .ok (.getfield 44, 3) := by decide +kernel
theorem dX2_collect_17 : decode cX2_collect 17 = .ok (.iload_n 1, 1) := by decide +kernel
theorem dX2_collect_18 : decode cX2_collect 18 = .ok (.iastore, 1) := by decide +kernel
theorem dX2_collect_19 : decode cX2_collect 19 = .ok (.aload_n 0, 1) := by decide +kernel
theorem dX2_collect_20 : decode cX2_collect 20 = .ok (.getfield 15, 3) := by decide +kernel
theorem dX2_collect_23 : decode cX2_collect 23 = .ok (.aload_n 0, 1) := by decide +kernel
theorem dX2_collect_24 : decode cX2_collect 24 = .ok (.getfield 44, 3) := by decide +kernel
theorem dX2_collect_27 : decode cX2_collect 27 = .ok (.iload_n 2, 1) := by decide +kernel
theorem dX2_collect_28 : decode cX2_collect 28 = .ok (.iastore, 1) := by decide +kernel
theorem dX2_collect_29 : decode cX2_collect 29 = .ok (.aload_n 0, 1) := by decide +kernel
theorem dX2_collect_30 : decode cX2_collect 30 = .ok (.getfield 18, 3) := by decide +kernel
theorem dX2_collect_33 : decode cX2_collect 33 = .ok (.aload_n 0, 1) := by decide +kernel
theorem dX2_collect_34 : decode cX2_collect 34 = .ok (.getfield 44, 3) := by decide +kernel
theorem dX2_collect_37 : decode cX2_collect 37 = .ok (.iload_n 3, 1) := by decide +kernel
theorem dX2_collect_38 : decode cX2_collect 38 = .ok (.iastore, 1) := by decide +kernel
theorem dX2_collect_39 : decode cX2_collect 39 = .ok (.aload_n 0, 1) := by decide +kernel
theorem dX2_collect_40 : decode cX2_collect 40 = .ok (.getfield 21, 3) := by decide +kernel
theorem dX2_collect_43 : decode cX2_collect 43 = .ok (.aload_n 0, 1) := by decide +kernel
theorem dX2_collect_44 : decode cX2_collect 44 = .ok (.getfield 44, 3) := by decide +kernel
theorem dX2_collect_47 : decode cX2_collect 47 = .ok (.iload 4, 2) := by decide +kernel
theorem dX2_collect_49 : decode cX2_collect 49 = .ok (.iastore, 1) := by decide +kernel
theorem dX2_collect_50 : decode cX2_collect 50 = .ok (.aload_n 0, 1) := by decide +kernel
theorem dX2_collect_51 : decode cX2_collect 51 = .ok (.dup, 1) := by decide +kernel
theorem dX2_collect_52 : decode cX2_collect 52 = .ok (.getfield 44, 3) := by decide +kernel
theorem dX2_collect_55 : decode cX2_collect 55 = .ok (.iconst 1, 1) := by decide +kernel
theorem dX2_collect_56 : decode cX2_collect 56 = .ok (.iadd, 1) := by decide +kernel
theorem dX2_collect_57 : decode cX2_collect 57 = .ok (.putfield 44, 3) := by decide +kernel
theorem dX2_collect_60 : decode cX2_collect 60 = .ok (.return_, 1) := by decide +kernel
theorem dX2_startWeights_0 : decode cX2_startWeights 0 = .ok (.iconst 0, 1) := by decide +kernel
theorem dX2_startWeights_1 : decode cX2_startWeights 1 = .ok (.istore_n 1, 1) := by decide +kernel
theorem dX2_startWeights_2 : decode cX2_startWeights 2 = .ok (.iload_n 1, 1) := by decide +kernel
theorem dX2_startWeights_3 : decode cX2_startWeights 3 = .ok (.aload_n 0, 1) := by decide +kernel
theorem dX2_startWeights_4 : decode cX2_startWeights 4 = .ok (.getfield 33, 3) := by decide +kernel
theorem dX2_startWeights_7 : decode cX2_startWeights 7 = .ok (.if_icmp .ge 47, 3) := by decide +kernel
theorem dX2_startWeights_10 : decode cX2_startWeights 10 = .ok (.iconst 0, 1) := by decide +kernel
theorem dX2_startWeights_11 : decode cX2_startWeights 11 = .ok (.istore_n 2, 1) := by decide +kernel
theorem dX2_startWeights_12 : decode cX2_startWeights 12 = .ok (.iload_n 2, 1) := by decide +kernel
theorem dX2_startWeights_13 : decode cX2_startWeights 13 = .ok (.aload_n 0, 1) := by decide +kernel
theorem dX2_startWeights_14 : decode cX2_startWeights 14 = .ok (.getfield 33, 3) := by decide +kernel
theorem dX2_startWeights_17 : decode cX2_startWeights 17 = .ok (.if_icmp .ge 31, 3) := by decide +kernel
theorem dX2_startWeights_20 : decode cX2_startWeights 20 = .ok (.aload_n 0, 1) := by decide +kernel
theorem dX2_startWeights_21 : decode cX2_startWeights 21 = .ok (.getfield 24, 3) := by decide +kernel
theorem dX2_startWeights_24 : decode cX2_startWeights 24 = .ok (.iload_n 1, 1) := by decide +kernel
theorem dX2_startWeights_25 : decode cX2_startWeights 25 = .ok (.bipush 10, 2) := by decide +kernel
theorem dX2_startWeights_27 : decode cX2_startWeights 27 = .ok (.imul, 1) := by decide +kernel
theorem dX2_startWeights_28 : decode cX2_startWeights 28 = .ok (.iload_n 2, 1) := by decide +kernel
theorem dX2_startWeights_29 : decode cX2_startWeights 29 = .ok (.iadd, 1) := by decide +kernel
theorem dX2_startWeights_30 : decode cX2_startWeights 30 = .ok (.iload_n 1, 1) := by decide +kernel
theorem dX2_startWeights_31 : decode cX2_startWeights 31 = .ok (.iload_n 2, 1) := by decide +kernel
theorem dX2_startWeights_32 : decode cX2_startWeights 32 = .ok (.if_icmp .ne 7, 3) := by decide +kernel
theorem dX2_startWeights_35 : decode cX2_startWeights 35 = .ok (.iconst 0, 1) := by decide +kernel
theorem dX2_startWeights_36 : decode cX2_startWeights 36 = .ok (.goto 5, 3) := by decide +kernel
theorem dX2_startWeights_39 : decode cX2_startWeights 39 = .ok (.ldc 91, 2) := by decide +kernel
theorem dX2_startWeights_41 : decode cX2_startWeights 41 = .ok (.iastore, 1) := by decide +kernel
theorem dX2_startWeights_42 : decode cX2_startWeights 42 = .ok (.iinc 2 1, 3) := by decide +kernel
theorem dX2_startWeights_45 : decode cX2_startWeights 45 = .ok (.goto (-33), 3) := by decide +kernel
theorem dX2_startWeights_48 : decode cX2_startWeights 48 = .ok (.iinc 1 1, 3) := by decide +kernel
theorem dX2_startWeights_51 : decode cX2_startWeights 51 = .ok (.goto (-49), 3) := by decide +kernel
theorem dX2_startWeights_54 : decode cX2_startWeights 54 = .ok (.iconst 0, 1) := by decide +kernel
theorem dX2_startWeights_55 : decode cX2_startWeights 55 = .ok (.istore_n 1, 1) := by decide +kernel
theorem dX2_startWeights_56 : decode cX2_startWeights 56 = .ok (.iload_n 1, 1) := by decide +kernel
theorem dX2_startWeights_57 : decode cX2_startWeights 57 = .ok (.aload_n 0, 1) := by decide +kernel
theorem dX2_startWeights_58 : decode cX2_startWeights 58 = .ok (.getfield 44, 3) := by decide +kernel
theorem dX2_startWeights_61 : decode cX2_startWeights 61 = .ok (.if_icmp .ge 50, 3) := by decide +kernel
theorem dX2_startWeights_64 : decode cX2_startWeights 64 = .ok (.aload_n 0, 1) := by decide +kernel
theorem dX2_startWeights_65 : decode cX2_startWeights 65 = .ok (.getfield 9, 3) := by decide +kernel
theorem dX2_startWeights_68 : decode cX2_startWeights 68 = .ok (.iload_n 1, 1) := by decide +kernel
theorem dX2_startWeights_69 : decode cX2_startWeights 69 = .ok (.iaload, 1) := by decide +kernel
theorem dX2_startWeights_70 : decode cX2_startWeights 70 = .ok (.bipush 10, 2) := by decide +kernel
theorem dX2_startWeights_72 : decode cX2_startWeights 72 = .ok (.imul, 1) := by decide +kernel
theorem dX2_startWeights_73 : decode cX2_startWeights 73 = .ok (.aload_n 0, 1) := by decide +kernel
theorem dX2_startWeights_74 : decode cX2_startWeights 74 = .ok (.getfield 15, 3) := by decide +kernel
theorem dX2_startWeights_77 : decode cX2_startWeights 77 = .ok (.iload_n 1, 1) := by decide +kernel
theorem dX2_startWeights_78 : decode cX2_startWeights 78 = .ok (.iaload, 1) := by decide +kernel
theorem dX2_startWeights_79 : decode cX2_startWeights 79 = .ok (.iadd, 1) := by decide +kernel
theorem dX2_startWeights_80 : decode cX2_startWeights 80 = .ok (.istore_n 2, 1) := by decide +kernel
theorem dX2_startWeights_81 : decode cX2_startWeights 81 = .ok (.aload_n 0, 1) := by decide +kernel
theorem dX2_startWeights_82 : decode cX2_startWeights 82 = .ok (.getfield 24, 3) := by decide +kernel
theorem dX2_startWeights_85 : decode cX2_startWeights 85 = .ok (.iload_n 2, 1) := by decide +kernel
theorem dX2_startWeights_86 : decode cX2_startWeights 86 = .ok (.aload_n 0, 1) := by decide +kernel
theorem dX2_startWeights_87 : decode cX2_startWeights 87 = .ok (.getfield 24, 3) := by decide +kernel
theorem dX2_startWeights_90 : decode cX2_startWeights 90 = .ok (.iload_n 2, 1) := by decide +kernel
theorem dX2_startWeights_91 : decode cX2_startWeights 91 = .ok (.iaload, 1) := by decide +kernel
theorem dX2_startWeights_92 : decode cX2_startWeights 92 = .ok (.aload_n 0, 1) := by decide +kernel
theorem dX2_startWeights_93 : decode cX2_startWeights 93 = .ok (.getfield 18, 3) := by decide +kernel
theorem dX2_startWeights_96 : decode cX2_startWeights 96 = .ok (.iload_n 1, 1) := by decide +kernel
theorem dX2_startWeights_97 : decode cX2_startWeights 97 = .ok (.iaload, 1) := by decide +kernel
theorem dX2_startWeights_98 : decode cX2_startWeights 98 = .ok (.invokestatic 92, 3) := by decide +kernel
theorem dX2_startWeights_101 : decode cX2_startWeights 101 = .ok (.invokestatic 96, 3) := by decide +kernel
theorem dX2_startWeights_104 : decode cX2_startWeights 104 = .ok (.iastore, 1) := by decide +kernel
theorem dX2_startWeights_105 : decode cX2_startWeights 105 = .ok (.iinc 1 1, 3) := by decide +kernel
theorem dX2_startWeights_108 : decode cX2_startWeights 108 = .ok (.goto (-52), 3) := by decide +kernel
theorem dX2_startWeights_111 : decode cX2_startWeights 111 = .ok (.return_, 1) := by decide +kernel
theorem dX2_closeWeights_0 : decode cX2_closeWeights 0 = .ok (.iconst 0, 1) := by decide +kernel
theorem dX2_closeWeights_1 : decode cX2_closeWeights 1 = .ok (.istore_n 1, 1) := by decide +kernel
theorem dX2_closeWeights_2 : decode cX2_closeWeights 2 = .ok (.iload_n 1, 1) := by decide +kernel
theorem dX2_closeWeights_3 : decode cX2_closeWeights 3 = .ok (.aload_n 0, 1) := by decide +kernel
theorem dX2_closeWeights_4 : decode cX2_closeWeights 4 = .ok (.getfield 33, 3) := by decide +kernel
theorem dX2_closeWeights_7 : decode cX2_closeWeights 7 = .ok (.if_icmp .ge 99, 3) := by decide +kernel
theorem dX2_closeWeights_10 : decode cX2_closeWeights 10 = .ok (.iconst 0, 1) := by decide +kernel
theorem dX2_closeWeights_11 : decode cX2_closeWeights 11 = .ok (.istore_n 2, 1) := by decide +kernel
theorem dX2_closeWeights_12 : decode cX2_closeWeights 12 = .ok (.iload_n 2, 1) := by decide +kernel
theorem dX2_closeWeights_13 : decode cX2_closeWeights 13 = .ok (.aload_n 0, 1) := by decide +kernel
theorem dX2_closeWeights_14 : decode cX2_closeWeights 14 = .ok (.getfield 33, 3) := by decide +kernel
theorem dX2_closeWeights_17 : decode cX2_closeWeights 17 = .ok (.if_icmp .ge 83, 3) := by decide +kernel
theorem dX2_closeWeights_20 : decode cX2_closeWeights 20 = .ok (.aload_n 0, 1) := by decide +kernel
theorem dX2_closeWeights_21 : decode cX2_closeWeights 21 = .ok (.getfield 24, 3) := by decide +kernel
theorem dX2_closeWeights_24 : decode cX2_closeWeights 24 = .ok (.iload_n 2, 1) := by decide +kernel
theorem dX2_closeWeights_25 : decode cX2_closeWeights 25 = .ok (.bipush 10, 2) := by decide +kernel
theorem dX2_closeWeights_27 : decode cX2_closeWeights 27 = .ok (.imul, 1) := by decide +kernel
theorem dX2_closeWeights_28 : decode cX2_closeWeights 28 = .ok (.iload_n 1, 1) := by decide +kernel
theorem dX2_closeWeights_29 : decode cX2_closeWeights 29 = .ok (.iadd, 1) := by decide +kernel
theorem dX2_closeWeights_30 : decode cX2_closeWeights 30 = .ok (.iaload, 1) := by decide +kernel
theorem dX2_closeWeights_31 : decode cX2_closeWeights 31 = .ok (.istore_n 3, 1) := by decide +kernel
theorem dX2_closeWeights_32 : decode cX2_closeWeights 32 = .ok (.iconst 0, 1) := by decide +kernel
theorem dX2_closeWeights_33 : decode cX2_closeWeights 33 = .ok (.istore 4, 2) := by decide +kernel
theorem dX2_closeWeights_35 : decode cX2_closeWeights 35 = .ok (.iload 4, 2) := by decide +kernel
theorem dX2_closeWeights_37 : decode cX2_closeWeights 37 = .ok (.aload_n 0, 1) := by decide +kernel
theorem dX2_closeWeights_38 : decode cX2_closeWeights 38 = .ok (.getfield 33, 3) := by decide +kernel
theorem dX2_closeWeights_41 : decode cX2_closeWeights 41 = .ok (.if_icmp .ge 53, 3) := by decide +kernel
theorem dX2_closeWeights_44 : decode cX2_closeWeights 44 = .ok (.iload_n 3, 1) := by decide +kernel
theorem dX2_closeWeights_45 : decode cX2_closeWeights 45 = .ok (.aload_n 0, 1) := by decide +kernel
theorem dX2_closeWeights_46 : decode cX2_closeWeights 46 = .ok (.getfield 24, 3) := by decide +kernel
theorem dX2_closeWeights_49 : decode cX2_closeWeights 49 = .ok (.iload_n 1, 1) := by decide +kernel
theorem dX2_closeWeights_50 : decode cX2_closeWeights 50 = .ok (.bipush 10, 2) := by decide +kernel
theorem dX2_closeWeights_52 : decode cX2_closeWeights 52 = .ok (.imul, 1) := by decide +kernel
theorem dX2_closeWeights_53 : decode cX2_closeWeights 53 = .ok (.iload 4, 2) := by decide +kernel
theorem dX2_closeWeights_55 : decode cX2_closeWeights 55 = .ok (.iadd, 1) := by decide +kernel
theorem dX2_closeWeights_56 : decode cX2_closeWeights 56 = .ok (.iaload, 1) := by decide +kernel
theorem dX2_closeWeights_57 : decode cX2_closeWeights 57 = .ok (.iadd, 1) := by decide +kernel
theorem dX2_closeWeights_58 : decode cX2_closeWeights 58 = .ok (.istore 5, 2) := by decide +kernel
theorem dX2_closeWeights_60 : decode cX2_closeWeights 60 = .ok (.iload_n 2, 1) := by decide +kernel
theorem dX2_closeWeights_61 : decode cX2_closeWeights 61 = .ok (.bipush 10, 2) := by decide +kernel
theorem dX2_closeWeights_63 : decode cX2_closeWeights 63 = .ok (.imul, 1) := by decide +kernel
theorem dX2_closeWeights_64 : decode cX2_closeWeights 64 = .ok (.iload 4, 2) := by decide +kernel
theorem dX2_closeWeights_66 : decode cX2_closeWeights 66 = .ok (.iadd, 1) := by decide +kernel
theorem dX2_closeWeights_67 : decode cX2_closeWeights 67 = .ok (.istore 6, 2) := by decide +kernel
theorem dX2_closeWeights_69 : decode cX2_closeWeights 69 = .ok (.aload_n 0, 1) := by decide +kernel
theorem dX2_closeWeights_70 : decode cX2_closeWeights 70 = .ok (.getfield 24, 3) := by decide +kernel
theorem dX2_closeWeights_73 : decode cX2_closeWeights 73 = .ok (.iload 6, 2) := by decide +kernel
theorem dX2_closeWeights_75 : decode cX2_closeWeights 75 = .ok (.aload_n 0, 1) := by decide +kernel
theorem dX2_closeWeights_76 : decode cX2_closeWeights 76 = .ok (.getfield 24, 3) := by decide +kernel
theorem dX2_closeWeights_79 : decode cX2_closeWeights 79 = .ok (.iload 6, 2) := by decide +kernel
theorem dX2_closeWeights_81 : decode cX2_closeWeights 81 = .ok (.iaload, 1) := by decide +kernel
theorem dX2_closeWeights_82 : decode cX2_closeWeights 82 = .ok (.iload 5, 2) := by decide +kernel
theorem dX2_closeWeights_84 : decode cX2_closeWeights 84 = .ok (.invokestatic 96, 3) := by decide +kernel
theorem dX2_closeWeights_87 : decode cX2_closeWeights 87 = .ok (.iastore, 1) := by decide +kernel
theorem dX2_closeWeights_88 : decode cX2_closeWeights 88 = .ok (.iinc 4 1, 3) := by decide +kernel
theorem dX2_closeWeights_91 : decode cX2_closeWeights 91 = .ok (.goto (-56), 3) := by decide +kernel
theorem dX2_closeWeights_94 : decode cX2_closeWeights 94 = .ok (.iinc 2 1, 3) := by decide +kernel
theorem dX2_closeWeights_97 : decode cX2_closeWeights 97 = .ok (.goto (-85), 3) := by decide +kernel
theorem dX2_closeWeights_100 : decode cX2_closeWeights 100 = .ok (.iinc 1 1, 3) := by decide +kernel
theorem dX2_closeWeights_103 : decode cX2_closeWeights 103 = .ok (.goto (-101), 3) := by decide +kernel
theorem dX2_closeWeights_106 : decode cX2_closeWeights 106 = .ok (.return_, 1) := by decide +kernel
theorem dX2_copyBounds_0 : decode cX2_copyBounds 0 = .ok (.aload_n 1, 1) := by decide +kernel
theorem dX2_copyBounds_1 : decode cX2_copyBounds 1 = .ok (.getfield 24, 3) := by decide +kernel
theorem dX2_copyBounds_4 : decode cX2_copyBounds 4 = .ok (.iconst 0, 1) := by decide +kernel
theorem dX2_copyBounds_5 : decode cX2_copyBounds 5 = .ok (.aload_n 0, 1) := by decide +kernel
theorem dX2_copyBounds_6 : decode cX2_copyBounds 6 = .ok (.getfield 24, 3) := by decide +kernel
theorem dX2_copyBounds_9 : decode cX2_copyBounds 9 = .ok (.iconst 0, 1) := by decide +kernel
theorem dX2_copyBounds_10 : decode cX2_copyBounds 10 = .ok (.aload_n 0, 1) := by decide +kernel
theorem dX2_copyBounds_11 : decode cX2_copyBounds 11 = .ok (.getfield 24, 3) := by decide +kernel
theorem dX2_copyBounds_14 : decode cX2_copyBounds 14 = .ok (.arraylength, 1) := by decide +kernel
theorem dX2_copyBounds_15 : decode cX2_copyBounds 15 = .ok (.invokestatic 101, 3) := by decide +kernel
theorem dX2_copyBounds_18 : decode cX2_copyBounds 18 = .ok (.aload_n 0, 1) := by decide +kernel
theorem dX2_copyBounds_19 : decode cX2_copyBounds 19 = .ok (.aload_n 1, 1) := by decide +kernel
theorem dX2_copyBounds_20 : decode cX2_copyBounds 20 = .ok (.getfield 33, 3) := by decide +kernel
theorem dX2_copyBounds_23 : decode cX2_copyBounds 23 = .ok (.putfield 33, 3) := by decide +kernel
theorem dX2_copyBounds_26 : decode cX2_copyBounds 26 = .ok (.aload_n 0, 1) := by decide +kernel
theorem dX2_copyBounds_27 : decode cX2_copyBounds 27 = .ok (.iconst 0, 1) := by decide +kernel
theorem dX2_copyBounds_28 : decode cX2_copyBounds 28 = .ok (.putfield 44, 3) := by decide +kernel
theorem dX2_copyBounds_31 : decode cX2_copyBounds 31 = .ok (.return_, 1) := by decide +kernel
theorem dX2_addStep_0 : decode cX2_addStep 0 = .ok (.iconst 0, 1) := by decide +kernel
theorem dX2_addStep_1 : decode cX2_addStep 1 = .ok (.istore 4, 2) := by decide +kernel
theorem dX2_addStep_3 : decode cX2_addStep 3 = .ok (.iload 4, 2) := by decide +kernel
theorem dX2_addStep_5 : decode cX2_addStep 5 = .ok (.aload_n 0, 1) := by decide +kernel
theorem dX2_addStep_6 : decode cX2_addStep 6 = .ok (.getfield 33, 3) := by decide +kernel
theorem dX2_addStep_9 : decode cX2_addStep 9 = .ok (.if_icmp .ge 92, 3) := by decide +kernel
theorem dX2_addStep_12 : decode cX2_addStep 12 = .ok (.aload_n 0, 1) := by decide +kernel
theorem dX2_addStep_13 : decode cX2_addStep 13 = .ok (.getfield 24, 3) := by decide +kernel
theorem dX2_addStep_16 : decode cX2_addStep 16 = .ok (.iload 4, 2) := by decide +kernel
theorem dX2_addStep_18 : decode cX2_addStep 18 = .ok (.bipush 10, 2) := by decide +kernel
theorem dX2_addStep_20 : decode cX2_addStep 20 = .ok (.imul, 1) := by decide +kernel
theorem dX2_addStep_21 : decode cX2_addStep 21 = .ok (.iload_n 1, 1) := by decide +kernel
theorem dX2_addStep_22 : decode cX2_addStep 22 = .ok (.iadd, 1) := by decide +kernel
theorem dX2_addStep_23 : decode cX2_addStep 23 = .ok (.iaload, 1) := by decide +kernel
theorem dX2_addStep_24 : decode cX2_addStep 24 = .ok (.iload_n 3, 1) := by decide +kernel
theorem dX2_addStep_25 : decode cX2_addStep 25 = .ok (.invokestatic 92, 3) := by decide +kernel
theorem dX2_addStep_28 : decode cX2_addStep 28 = .ok (.iadd, 1) := by decide +kernel
theorem dX2_addStep_29 : decode cX2_addStep 29 = .ok (.istore 5, 2) := by decide +kernel
theorem dX2_addStep_31 : decode cX2_addStep 31 = .ok (.iconst 0, 1) := by decide +kernel
theorem dX2_addStep_32 : decode cX2_addStep 32 = .ok (.istore 6, 2) := by decide +kernel
theorem dX2_addStep_34 : decode cX2_addStep 34 = .ok (.iload 6, 2) := by decide +kernel
theorem dX2_addStep_36 : decode cX2_addStep 36 = .ok (.aload_n 0, 1) := by decide +kernel
theorem dX2_addStep_37 : decode cX2_addStep 37 = .ok (.getfield 33, 3) := by decide +kernel
theorem dX2_addStep_40 : decode cX2_addStep 40 = .ok (.if_icmp .ge 55, 3) := by decide +kernel
theorem dX2_addStep_43 : decode cX2_addStep 43 = .ok (.iload 5, 2) := by decide +kernel
theorem dX2_addStep_45 : decode cX2_addStep 45 = .ok (.aload_n 0, 1) := by decide +kernel
theorem dX2_addStep_46 : decode cX2_addStep 46 = .ok (.getfield 24, 3) := by decide +kernel
theorem dX2_addStep_49 : decode cX2_addStep 49 = .ok (.iload_n 2, 1) := by decide +kernel
theorem dX2_addStep_50 : decode cX2_addStep 50 = .ok (.bipush 10, 2) := by decide +kernel
theorem dX2_addStep_52 : decode cX2_addStep 52 = .ok (.imul, 1) := by decide +kernel
theorem dX2_addStep_53 : decode cX2_addStep 53 = .ok (.iload 6, 2) := by decide +kernel
theorem dX2_addStep_55 : decode cX2_addStep 55 = .ok (.iadd, 1) := by decide +kernel
theorem dX2_addStep_56 : decode cX2_addStep 56 = .ok (.iaload, 1) := by decide +kernel
theorem dX2_addStep_57 : decode cX2_addStep 57 = .ok (.iadd, 1) := by decide +kernel
theorem dX2_addStep_58 : decode cX2_addStep 58 = .ok (.istore 7, 2) := by decide +kernel
theorem dX2_addStep_60 : decode cX2_addStep 60 = .ok (.iload 4, 2) := by decide +kernel
theorem dX2_addStep_62 : decode cX2_addStep 62 = .ok (.bipush 10, 2) := by decide +kernel
theorem dX2_addStep_64 : decode cX2_addStep 64 = .ok (.imul, 1) := by decide +kernel
theorem dX2_addStep_65 : decode cX2_addStep 65 = .ok (.iload 6, 2) := by decide +kernel
theorem dX2_addStep_67 : decode cX2_addStep 67 = .ok (.iadd, 1) := by decide +kernel
theorem dX2_addStep_68 : decode cX2_addStep 68 = .ok (.istore 8, 2) := by decide +kernel
theorem dX2_addStep_70 : decode cX2_addStep 70 = .ok (.aload_n 0, 1) := by decide +kernel
theorem dX2_addStep_71 : decode cX2_addStep 71 = .ok (.getfield 24, 3) := by decide +kernel
theorem dX2_addStep_74 : decode cX2_addStep 74 = .ok (.iload 8, 2) := by decide +kernel
theorem dX2_addStep_76 : decode cX2_addStep 76 = .ok (.aload_n 0, 1) := by decide +kernel
theorem dX2_addStep_77 : decode cX2_addStep 77 = .ok (.getfield 24, 3) := by decide +kernel
theorem dX2_addStep_80 : decode cX2_addStep 80 = .ok (.iload 8, 2) := by decide +kernel
theorem dX2_addStep_82 : decode cX2_addStep 82 = .ok (.iaload, 1) := by decide +kernel
theorem dX2_addStep_83 : decode cX2_addStep 83 = .ok (.iload 7, 2) := by decide +kernel
theorem dX2_addStep_85 : decode cX2_addStep 85 = .ok (.invokestatic 96, 3) := by decide +kernel
theorem dX2_addStep_88 : decode cX2_addStep 88 = .ok (.iastore, 1) := by decide +kernel
theorem dX2_addStep_89 : decode cX2_addStep 89 = .ok (.iinc 6 1, 3) := by decide +kernel
theorem dX2_addStep_92 : decode cX2_addStep 92 = .ok (.goto (-58), 3) := by decide +kernel
theorem dX2_addStep_95 : decode cX2_addStep 95 = .ok (.iinc 4 1, 3) := by decide +kernel
theorem dX2_addStep_98 : decode cX2_addStep 98 = .ok (.goto (-95), 3) := by decide +kernel
theorem dX2_addStep_101 : decode cX2_addStep 101 = .ok (.return_, 1) := by decide +kernel
theorem dX2_addGapStep_0 : decode cX2_addGapStep 0 = .ok (.aload_n 0, 1) := by decide +kernel
theorem dX2_addGapStep_1 : decode cX2_addGapStep 1 = .ok (.iload_n 1, 1) := by decide +kernel
theorem dX2_addGapStep_2 : decode cX2_addGapStep 2 = .ok (.iload_n 2, 1) := by decide +kernel
theorem dX2_addGapStep_3 : decode cX2_addGapStep 3 = .ok (.iload_n 3, 1) := by decide +kernel
theorem dX2_addGapStep_4 : decode cX2_addGapStep 4 = .ok (.invokestatic 63, 3) := by decide +kernel
theorem dX2_addGapStep_7 : decode cX2_addGapStep 7 = .ok (.iload_n 1, 1) := by decide +kernel
theorem dX2_addGapStep_8 : decode cX2_addGapStep 8 = .ok (.iload_n 2, 1) := by decide +kernel
theorem dX2_addGapStep_9 : decode cX2_addGapStep 9 = .ok (.iload_n 3, 1) := by decide +kernel
theorem dX2_addGapStep_10 : decode cX2_addGapStep 10 = .ok (.invokestatic 67, 3) := by decide +kernel
theorem dX2_addGapStep_13 : decode cX2_addGapStep 13 = .ok (.iload_n 3, 1) := by decide +kernel
theorem dX2_addGapStep_14 : decode cX2_addGapStep 14 = .ok (.iload 4, 2) := by decide +kernel
theorem dX2_addGapStep_16 : decode cX2_addGapStep 16 = .ok (.invokestatic 73, 3) := by decide +kernel
theorem dX2_addGapStep_19 : decode cX2_addGapStep 19 = .ok (.invokevirtual 107, 3) := by decide +kernel
theorem dX2_addGapStep_22 : decode cX2_addGapStep 22 = .ok (.return_, 1) := by decide +kernel
theorem dX2_addPin_0 : decode cX2_addPin 0 = .ok (.aload_n 0, 1) := by decide +kernel
theorem dX2_addPin_1 : decode cX2_addPin 1 = .ok (.iconst 0, 1) := by decide +kernel
theorem dX2_addPin_2 : decode cX2_addPin 2 = .ok (.iload_n 1, 1) := by decide +kernel
theorem dX2_addPin_3 : decode cX2_addPin 3 = .ok (.iload_n 2, 1) := by decide +kernel
theorem dX2_addPin_4 : decode cX2_addPin 4 = .ok (.invokevirtual 107, 3) := by decide +kernel
theorem dX2_addPin_7 : decode cX2_addPin 7 = .ok (.aload_n 0, 1) := by decide +kernel
theorem dX2_addPin_8 : decode cX2_addPin 8 = .ok (.iload_n 1, 1) := by decide +kernel
theorem dX2_addPin_9 : decode cX2_addPin 9 = .ok (.iconst 0, 1) := by decide +kernel
theorem dX2_addPin_10 : decode cX2_addPin 10 = .ok (.iload_n 2, 1) := by decide +kernel
theorem dX2_addPin_11 : decode cX2_addPin 11 = .ok (.ineg, 1) := by decide +kernel
theorem dX2_addPin_12 : decode cX2_addPin 12 = .ok (.invokevirtual 107, 3) := by decide +kernel
theorem dX2_addPin_15 : decode cX2_addPin 15 = .ok (.return_, 1) := by decide +kernel
theorem dX2_weightOf_0 : decode cX2_weightOf 0 = .ok (.iload_n 0, 1) := by decide +kernel
theorem dX2_weightOf_1 : decode cX2_weightOf 1 = .ok (.bipush 64, 2) := by decide +kernel
theorem dX2_weightOf_3 : decode cX2_weightOf 3 = .ok (.imul, 1) := by decide +kernel
theorem dX2_weightOf_4 : decode cX2_weightOf 4 = .ok (.iconst 1, 1) := by decide +kernel
theorem dX2_weightOf_5 : decode cX2_weightOf 5 = .ok (.iadd, 1) := by decide +kernel
theorem dX2_weightOf_6 : decode cX2_weightOf 6 = .ok (.ireturn, 1) := by decide +kernel
theorem dX2_between_0 : decode cX2_between 0 = .ok (.aload_n 0, 1) := by decide +kernel
theorem dX2_between_1 : decode cX2_between 1 = .ok (.getfield 24, 3) := by decide +kernel
theorem dX2_between_4 : decode cX2_between 4 = .ok (.iload_n 1, 1) := by decide +kernel
theorem dX2_between_5 : decode cX2_between 5 = .ok (.bipush 10, 2) := by decide +kernel
theorem dX2_between_7 : decode cX2_between 7 = .ok (.imul, 1) := by decide +kernel
theorem dX2_between_8 : decode cX2_between 8 = .ok (.iload_n 2, 1) := by decide +kernel
theorem dX2_between_9 : decode cX2_between 9 = .ok (.iadd, 1) := by decide +kernel
theorem dX2_between_10 : decode cX2_between 10 = .ok (.iaload, 1) := by decide +kernel
theorem dX2_between_11 : decode cX2_between 11 = .ok (.bipush 64, 2) := by decide +kernel
theorem dX2_between_13 : decode cX2_between 13 = .ok (.invokestatic 111, 3) := by decide +kernel
theorem dX2_between_16 : decode cX2_between 16 = .ok (.ireturn, 1) := by decide +kernel
theorem dX2_stepsBetween_0 : decode cX2_stepsBetween 0 = .ok (.aload_n 0, 1) := by decide +kernel
theorem dX2_stepsBetween_1 : decode cX2_stepsBetween 1 = .ok (.getfield 24, 3) := by decide +kernel
theorem dX2_stepsBetween_4 : decode cX2_stepsBetween 4 = .ok (.iload_n 1, 1) := by decide +kernel
theorem dX2_stepsBetween_5 : decode cX2_stepsBetween 5 = .ok (.bipush 10, 2) := by decide +kernel
theorem dX2_stepsBetween_7 : decode cX2_stepsBetween 7 = .ok (.imul, 1) := by decide +kernel
theorem dX2_stepsBetween_8 : decode cX2_stepsBetween 8 = .ok (.iload_n 2, 1) := by decide +kernel
theorem dX2_stepsBetween_9 : decode cX2_stepsBetween 9 = .ok (.iadd, 1) := by decide +kernel
theorem dX2_stepsBetween_10 : decode cX2_stepsBetween 10 = .ok (.iaload, 1) := by decide +kernel
theorem dX2_stepsBetween_11 : decode cX2_stepsBetween 11 = .ok (.bipush 64, 2) := by decide +kernel
theorem dX2_stepsBetween_13 : decode cX2_stepsBetween 13 = .ok (.invokestatic 114, 3) := by decide +kernel
theorem dX2_stepsBetween_16 : decode cX2_stepsBetween 16 = .ok (.ireturn, 1) := by decide +kernel
theorem dX2_earliest_0 : decode cX2_earliest 0 = .ok (.aload_n 0, 1) := by decide +kernel
theorem dX2_earliest_1 : decode cX2_earliest 1 = .ok (.iload_n 1, 1) := by decide +kernel
theorem dX2_earliest_2 : decode cX2_earliest 2 = .ok (.iconst 0, 1) := by decide +kernel
theorem dX2_earliest_3 : decode cX2_earliest 3 = .ok (.invokevirtual 117, 3) := by decide +kernel
theorem dX2_earliest_6 : decode cX2_earliest 6 = .ok (.ineg, 1) := by decide +kernel
theorem dX2_earliest_7 : decode cX2_earliest 7 = .ok (.ireturn, 1) := by decide +kernel
theorem dX2_latest_0 : decode cX2_latest 0 = .ok (.aload_n 0, 1) := by decide +kernel
theorem dX2_latest_1 : decode cX2_latest 1 = .ok (.iconst 0, 1) := by decide +kernel
theorem dX2_latest_2 : decode cX2_latest 2 = .ok (.iload_n 1, 1) := by decide +kernel
theorem dX2_latest_3 : decode cX2_latest 3 = .ok (.invokevirtual 117, 3) := by decide +kernel
theorem dX2_latest_6 : decode cX2_latest 6 = .ok (.ireturn, 1) := by decide +kernel
theorem dX2_possibleTimes_0 : decode cX2_possibleTimes 0 = .ok (.aload_n 0, 1) := by decide +kernel
theorem dX2_possibleTimes_1 : decode cX2_possibleTimes 1 = .ok (.iload_n 1, 1) := by decide +kernel
theorem dX2_possibleTimes_2 : decode cX2_possibleTimes 2 = .ok (.invokevirtual 120, 3) := by decide +kernel
theorem dX2_possibleTimes_5 : decode cX2_possibleTimes 5 = .ok (.aload_n 0, 1) := by decide +kernel
theorem dX2_possibleTimes_6 : decode cX2_possibleTimes 6 = .ok (.iload_n 1, 1) := by decide +kernel
theorem dX2_possibleTimes_7 : decode cX2_possibleTimes 7 = .ok (.invokevirtual 123, 3) := by decide +kernel
theorem dX2_possibleTimes_10 : decode cX2_possibleTimes 10 = .ok (.isub, 1) := by decide +kernel
theorem dX2_possibleTimes_11 : decode cX2_possibleTimes 11 = .ok (.iconst 1, 1) := by decide +kernel
theorem dX2_possibleTimes_12 : decode cX2_possibleTimes 12 = .ok (.iadd, 1) := by decide +kernel
theorem dX2_possibleTimes_13 : decode cX2_possibleTimes 13 = .ok (.ireturn, 1) := by decide +kernel
theorem dX2_allows_0 : decode cX2_allows 0 = .ok (.iload_n 2, 1) := by decide +kernel
theorem dX2_allows_1 : decode cX2_allows 1 = .ok (.aload_n 0, 1) := by decide +kernel
theorem dX2_allows_2 : decode cX2_allows 2 = .ok (.iload_n 1, 1) := by decide +kernel
theorem dX2_allows_3 : decode cX2_allows 3 = .ok (.invokevirtual 123, 3) := by decide +kernel
theorem dX2_allows_6 : decode cX2_allows 6 = .ok (.if_icmp .lt 16, 3) := by decide +kernel
theorem dX2_allows_9 : decode cX2_allows 9 = .ok (.iload_n 2, 1) := by decide +kernel
theorem dX2_allows_10 : decode cX2_allows 10 = .ok (.aload_n 0, 1) := by decide +kernel
theorem dX2_allows_11 : decode cX2_allows 11 = .ok (.iload_n 1, 1) := by decide +kernel
theorem dX2_allows_12 : decode cX2_allows 12 = .ok (.invokevirtual 120, 3) := by decide +kernel
theorem dX2_allows_15 : decode cX2_allows 15 = .ok (.if_icmp .gt 7, 3) := by decide +kernel
theorem dX2_allows_18 : decode cX2_allows 18 = .ok (.iconst 1, 1) := by decide +kernel
theorem dX2_allows_19 : decode cX2_allows 19 = .ok (.goto 4, 3) := by decide +kernel
theorem dX2_allows_22 : decode cX2_allows 22 = .ok (.iconst 0, 1) := by decide +kernel
theorem dX2_allows_23 : decode cX2_allows 23 = .ok (.ireturn, 1) := by decide +kernel
theorem dX2_leastRing_0 : decode cX2_leastRing 0 = .ok (.aload_n 0, 1) := by decide +kernel
theorem dX2_leastRing_1 : decode cX2_leastRing 1 = .ok (.iload_n 1, 1) := by decide +kernel
theorem dX2_leastRing_2 : decode cX2_leastRing 2 = .ok (.iload_n 2, 1) := by decide +kernel
theorem dX2_leastRing_3 : decode cX2_leastRing 3 = .ok (.iload_n 3, 1) := by decide +kernel
theorem dX2_leastRing_4 : decode cX2_leastRing 4 = .ok (.invokestatic 67, 3) := by decide +kernel
theorem dX2_leastRing_7 : decode cX2_leastRing 7 = .ok (.iload_n 1, 1) := by decide +kernel
theorem dX2_leastRing_8 : decode cX2_leastRing 8 = .ok (.iload_n 2, 1) := by decide +kernel
theorem dX2_leastRing_9 : decode cX2_leastRing 9 = .ok (.iload_n 3, 1) := by decide +kernel
theorem dX2_leastRing_10 : decode cX2_leastRing 10 = .ok (.invokestatic 63, 3) := by decide +kernel
theorem dX2_leastRing_13 : decode cX2_leastRing 13 = .ok (.invokevirtual 117, 3) := by decide +kernel
theorem dX2_leastRing_16 : decode cX2_leastRing 16 = .ok (.istore 5, 2) := by decide +kernel
theorem dX2_leastRing_18 : decode cX2_leastRing 18 = .ok (.iload_n 3, 1) := by decide +kernel
theorem dX2_leastRing_19 : decode cX2_leastRing 19 = .ok (.iload 4, 2) := by decide +kernel
theorem dX2_leastRing_21 : decode cX2_leastRing 21 = .ok (.invokestatic 73, 3) := by decide +kernel
theorem dX2_leastRing_24 : decode cX2_leastRing 24 = .ok (.iload 5, 2) := by decide +kernel
theorem dX2_leastRing_26 : decode cX2_leastRing 26 = .ok (.iadd, 1) := by decide +kernel
theorem dX2_leastRing_27 : decode cX2_leastRing 27 = .ok (.ireturn, 1) := by decide +kernel
theorem dX2_oneStepDenies_0 : decode cX2_oneStepDenies 0 = .ok (.iload_n 1, 1) := by decide +kernel
theorem dX2_oneStepDenies_1 : decode cX2_oneStepDenies 1 = .ok (.iload_n 2, 1) := by decide +kernel
theorem dX2_oneStepDenies_2 : decode cX2_oneStepDenies 2 = .ok (.iload_n 3, 1) := by decide +kernel
theorem dX2_oneStepDenies_3 : decode cX2_oneStepDenies 3 = .ok (.invokestatic 63, 3) := by decide +kernel
theorem dX2_oneStepDenies_6 : decode cX2_oneStepDenies 6 = .ok (.istore 5, 2) := by decide +kernel
theorem dX2_oneStepDenies_8 : decode cX2_oneStepDenies 8 = .ok (.iload_n 1, 1) := by decide +kernel
theorem dX2_oneStepDenies_9 : decode cX2_oneStepDenies 9 = .ok (.iload_n 2, 1) := by decide +kernel
theorem dX2_oneStepDenies_10 : decode cX2_oneStepDenies 10 = .ok (.iload_n 3, 1) := by decide +kernel
theorem dX2_oneStepDenies_11 : decode cX2_oneStepDenies 11 = .ok (.invokestatic 67, 3) := by decide +kernel
theorem dX2_oneStepDenies_14 : decode cX2_oneStepDenies 14 = .ok (.istore 6, 2) := by decide +kernel
theorem dX2_oneStepDenies_16 : decode cX2_oneStepDenies 16 = .ok (.iconst 0, 1) := by decide +kernel
theorem dX2_oneStepDenies_17 : decode cX2_oneStepDenies 17 = .ok (.istore 7, 2) := by decide +kernel
theorem dX2_oneStepDenies_19 : decode cX2_oneStepDenies 19 = .ok (.iload 7, 2) := by decide +kernel
theorem dX2_oneStepDenies_21 : decode cX2_oneStepDenies 21 = .ok (.aload_n 0, 1) := by decide +kernel
theorem dX2_oneStepDenies_22 : decode cX2_oneStepDenies 22 = .ok (.getfield 44, 3) := by decide +kernel
theorem dX2_oneStepDenies_25 : decode cX2_oneStepDenies 25 = .ok (.if_icmp .ge 52, 3) := by decide +kernel
theorem dX2_oneStepDenies_28 : decode cX2_oneStepDenies 28 = .ok (.aload_n 0, 1) := by decide +kernel
theorem dX2_oneStepDenies_29 : decode cX2_oneStepDenies 29 = .ok (.getfield 9, 3) := by decide +kernel
theorem dX2_oneStepDenies_32 : decode cX2_oneStepDenies 32 = .ok (.iload 7, 2) := by decide +kernel
theorem dX2_oneStepDenies_34 : decode cX2_oneStepDenies 34 = .ok (.iaload, 1) := by decide +kernel
theorem dX2_oneStepDenies_35 : decode cX2_oneStepDenies 35 = .ok (.iload 6, 2) := by decide +kernel
theorem dX2_oneStepDenies_37 : decode cX2_oneStepDenies 37 = .ok (.if_icmp .ne 34, 3) := by decide +kernel
theorem dX2_oneStepDenies_40 : decode cX2_oneStepDenies 40 = .ok (.aload_n 0, 1) := by decide +kernel
theorem dX2_oneStepDenies_41 : decode cX2_oneStepDenies 41 = .ok (.getfield 15, 3) := by decide +kernel
theorem dX2_oneStepDenies_44 : decode cX2_oneStepDenies 44 = .ok (.iload 7, 2) := by decide +kernel
theorem dX2_oneStepDenies_46 : decode cX2_oneStepDenies 46 = .ok (.iaload, 1) := by decide +kernel
theorem dX2_oneStepDenies_47 : decode cX2_oneStepDenies 47 = .ok (.iload 5, 2) := by decide +kernel
theorem dX2_oneStepDenies_49 : decode cX2_oneStepDenies 49 = .ok (.if_icmp .ne 22, 3) := by decide +kernel
theorem dX2_oneStepDenies_52 : decode cX2_oneStepDenies 52 = .ok (.aload_n 0, 1) := by decide +kernel
theorem dX2_oneStepDenies_53 : decode cX2_oneStepDenies 53 = .ok (.getfield 18, 3) := by decide +kernel
theorem dX2_oneStepDenies_56 : decode cX2_oneStepDenies 56 = .ok (.iload 7, 2) := by decide +kernel
theorem dX2_oneStepDenies_58 : decode cX2_oneStepDenies 58 = .ok (.iaload, 1) := by decide +kernel
theorem dX2_oneStepDenies_59 : decode cX2_oneStepDenies 59 = .ok (.iload_n 3, 1) := by decide +kernel
theorem dX2_oneStepDenies_60 : decode cX2_oneStepDenies 60 = .ok (.iload 4, 2) := by decide +kernel
theorem dX2_oneStepDenies_62 : decode cX2_oneStepDenies 62 = .ok (.invokestatic 73, 3) := by decide +kernel
theorem dX2_oneStepDenies_65 : decode cX2_oneStepDenies 65 = .ok (.iadd, 1) := by decide +kernel
theorem dX2_oneStepDenies_66 : decode cX2_oneStepDenies 66 = .ok (.ifCond .ge 5, 3) := by decide +kernel
theorem dX2_oneStepDenies_69 : decode cX2_oneStepDenies 69 = .ok (.iconst 1, 1) := by decide +kernel
theorem dX2_oneStepDenies_70 : decode cX2_oneStepDenies 70 = .ok (.ireturn, 1) := by decide +kernel
theorem dX2_oneStepDenies_71 : decode cX2_oneStepDenies 71 = .ok (.iinc 7 1, 3) := by decide +kernel
theorem dX2_oneStepDenies_74 : decode cX2_oneStepDenies 74 = .ok (.goto (-55), 3) := by decide +kernel
theorem dX2_oneStepDenies_77 : decode cX2_oneStepDenies 77 = .ok (.iconst 0, 1) := by decide +kernel
theorem dX2_oneStepDenies_78 : decode cX2_oneStepDenies 78 = .ok (.ireturn, 1) := by decide +kernel
theorem dX2_stepOfWay_0 : decode cX2_stepOfWay 0 = .ok (.iload_n 1, 1) := by decide +kernel
theorem dX2_stepOfWay_1 : decode cX2_stepOfWay 1 = .ok (.istore 4, 2) := by decide +kernel
theorem dX2_stepOfWay_3 : decode cX2_stepOfWay 3 = .ok (.iconst 0, 1) := by decide +kernel
theorem dX2_stepOfWay_4 : decode cX2_stepOfWay 4 = .ok (.istore 5, 2) := by decide +kernel
theorem dX2_stepOfWay_6 : decode cX2_stepOfWay 6 = .ok (.iload 5, 2) := by decide +kernel
theorem dX2_stepOfWay_8 : decode cX2_stepOfWay 8 = .ok (.bipush 10, 2) := by decide +kernel
theorem dX2_stepOfWay_10 : decode cX2_stepOfWay 10 = .ok (.if_icmp .ge 56, 3) := by decide +kernel
theorem dX2_stepOfWay_13 : decode cX2_stepOfWay 13 = .ok (.iload 4, 2) := by decide +kernel
theorem dX2_stepOfWay_15 : decode cX2_stepOfWay 15 = .ok (.iload_n 2, 1) := by decide +kernel
theorem dX2_stepOfWay_16 : decode cX2_stepOfWay 16 = .ok (.if_icmp .eq 50, 3) := by decide +kernel
theorem dX2_stepOfWay_19 : decode cX2_stepOfWay 19 = .ok (.aload_n 0, 1) := by decide +kernel
theorem dX2_stepOfWay_20 : decode cX2_stepOfWay 20 = .ok (.iload 4, 2) := by decide +kernel
theorem dX2_stepOfWay_22 : decode cX2_stepOfWay 22 = .ok (.iload_n 2, 1) := by decide +kernel
theorem dX2_stepOfWay_23 : decode cX2_stepOfWay 23 = .ok (.invokevirtual 126, 3) := by decide +kernel
theorem dX2_stepOfWay_26 : decode cX2_stepOfWay 26 = .ok (.istore 6, 2) := by decide +kernel
theorem dX2_stepOfWay_28 : decode cX2_stepOfWay 28 = .ok (.iload 6, 2) := by decide +kernel
theorem dX2_stepOfWay_30 : decode cX2_stepOfWay 30 = .ok (.iconst (-1), 1) := by decide +kernel
theorem dX2_stepOfWay_31 : decode cX2_stepOfWay 31 = .ok (.if_icmp .ne 6, 3) := by decide +kernel
theorem dX2_stepOfWay_34 : decode cX2_stepOfWay 34 = .ok (.bipush (-2), 2) := by decide +kernel
theorem dX2_stepOfWay_36 : decode cX2_stepOfWay 36 = .ok (.ireturn, 1) := by decide +kernel
theorem dX2_stepOfWay_37 : decode cX2_stepOfWay 37 = .ok (.iload 5, 2) := by decide +kernel
theorem dX2_stepOfWay_39 : decode cX2_stepOfWay 39 = .ok (.iload_n 3, 1) := by decide +kernel
theorem dX2_stepOfWay_40 : decode cX2_stepOfWay 40 = .ok (.if_icmp .ne 11, 3) := by decide +kernel
theorem dX2_stepOfWay_43 : decode cX2_stepOfWay 43 = .ok (.aload_n 0, 1) := by decide +kernel
theorem dX2_stepOfWay_44 : decode cX2_stepOfWay 44 = .ok (.getfield 21, 3) := by decide +kernel
theorem dX2_stepOfWay_47 : decode cX2_stepOfWay 47 = .ok (.iload 6, 2) := by decide +kernel
theorem dX2_stepOfWay_49 : decode cX2_stepOfWay 49 = .ok (.iaload, 1) := by decide +kernel
theorem dX2_stepOfWay_50 : decode cX2_stepOfWay 50 = .ok (.ireturn, 1) := by decide +kernel
theorem dX2_stepOfWay_51 : decode cX2_stepOfWay 51 = .ok (.aload_n 0, 1) := by decide +kernel
theorem dX2_stepOfWay_52 : decode cX2_stepOfWay 52 = .ok (.getfield 15, 3) := by decide +kernel
theorem dX2_stepOfWay_55 : decode cX2_stepOfWay 55 = .ok (.iload 6, 2) := by decide +kernel
theorem dX2_stepOfWay_57 : decode cX2_stepOfWay 57 = .ok (.iaload, 1) := by decide +kernel
theorem dX2_stepOfWay_58 : decode cX2_stepOfWay 58 = .ok (.istore 4, 2) := by decide +kernel
theorem dX2_stepOfWay_60 : decode cX2_stepOfWay 60 = .ok (.iinc 5 1, 3) := by decide +kernel
theorem dX2_stepOfWay_63 : decode cX2_stepOfWay 63 = .ok (.goto (-57), 3) := by decide +kernel
theorem dX2_stepOfWay_66 : decode cX2_stepOfWay 66 = .ok (.bipush (-2), 2) := by decide +kernel
theorem dX2_stepOfWay_68 : decode cX2_stepOfWay 68 = .ok (.ireturn, 1) := by decide +kernel
theorem dX2_firstStep_0 : decode cX2_firstStep 0 = .ok (.aload_n 0, 1) := by decide +kernel
theorem dX2_firstStep_1 : decode cX2_firstStep 1 = .ok (.getfield 24, 3) := by decide +kernel
theorem dX2_firstStep_4 : decode cX2_firstStep 4 = .ok (.iload_n 1, 1) := by decide +kernel
theorem dX2_firstStep_5 : decode cX2_firstStep 5 = .ok (.bipush 10, 2) := by decide +kernel
theorem dX2_firstStep_7 : decode cX2_firstStep 7 = .ok (.imul, 1) := by decide +kernel
theorem dX2_firstStep_8 : decode cX2_firstStep 8 = .ok (.iload_n 2, 1) := by decide +kernel
theorem dX2_firstStep_9 : decode cX2_firstStep 9 = .ok (.iadd, 1) := by decide +kernel
theorem dX2_firstStep_10 : decode cX2_firstStep 10 = .ok (.iaload, 1) := by decide +kernel
theorem dX2_firstStep_11 : decode cX2_firstStep 11 = .ok (.istore_n 3, 1) := by decide +kernel
theorem dX2_firstStep_12 : decode cX2_firstStep 12 = .ok (.iconst 0, 1) := by decide +kernel
theorem dX2_firstStep_13 : decode cX2_firstStep 13 = .ok (.istore 4, 2) := by decide +kernel
theorem dX2_firstStep_15 : decode cX2_firstStep 15 = .ok (.iload 4, 2) := by decide +kernel
theorem dX2_firstStep_17 : decode cX2_firstStep 17 = .ok (.aload_n 0, 1) := by decide +kernel
theorem dX2_firstStep_18 : decode cX2_firstStep 18 = .ok (.getfield 44, 3) := by decide +kernel
theorem dX2_firstStep_21 : decode cX2_firstStep 21 = .ok (.if_icmp .ge 59, 3) := by decide +kernel
theorem dX2_firstStep_24 : decode cX2_firstStep 24 = .ok (.aload_n 0, 1) := by decide +kernel
theorem dX2_firstStep_25 : decode cX2_firstStep 25 = .ok (.getfield 24, 3) := by decide +kernel
theorem dX2_firstStep_28 : decode cX2_firstStep 28 = .ok (.aload_n 0, 1) := by decide +kernel
theorem dX2_firstStep_29 : decode cX2_firstStep 29 = .ok (.getfield 15, 3) := by decide +kernel
theorem dX2_firstStep_32 : decode cX2_firstStep 32 = .ok (.iload 4, 2) := by decide +kernel
theorem dX2_firstStep_34 : decode cX2_firstStep 34 = .ok (.iaload, 1) := by decide +kernel
theorem dX2_firstStep_35 : decode cX2_firstStep 35 = .ok (.bipush 10, 2) := by decide +kernel
theorem dX2_firstStep_37 : decode cX2_firstStep 37 = .ok (.imul, 1) := by decide +kernel
theorem dX2_firstStep_38 : decode cX2_firstStep 38 = .ok (.iload_n 2, 1) := by decide +kernel
theorem dX2_firstStep_39 : decode cX2_firstStep 39 = .ok (.iadd, 1) := by decide +kernel
theorem dX2_firstStep_40 : decode cX2_firstStep 40 = .ok (.iaload, 1) := by decide +kernel
theorem dX2_firstStep_41 : decode cX2_firstStep 41 = .ok (.istore 5, 2) := by decide +kernel
theorem dX2_firstStep_43 : decode cX2_firstStep 43 = .ok (.aload_n 0, 1) := by decide +kernel
theorem dX2_firstStep_44 : decode cX2_firstStep 44 = .ok (.getfield 9, 3) := by decide +kernel
theorem dX2_firstStep_47 : decode cX2_firstStep 47 = .ok (.iload 4, 2) := by decide +kernel
theorem dX2_firstStep_49 : decode cX2_firstStep 49 = .ok (.iaload, 1) := by decide +kernel
theorem dX2_firstStep_50 : decode cX2_firstStep 50 = .ok (.iload_n 1, 1) := by decide +kernel
theorem dX2_firstStep_51 : decode cX2_firstStep 51 = .ok (.if_icmp .ne 23, 3) := by decide +kernel
theorem dX2_firstStep_54 : decode cX2_firstStep 54 = .ok (.aload_n 0, 1) := by decide +kernel
theorem dX2_firstStep_55 : decode cX2_firstStep 55 = .ok (.getfield 18, 3) := by decide +kernel
theorem dX2_firstStep_58 : decode cX2_firstStep 58 = .ok (.iload 4, 2) := by decide +kernel
theorem dX2_firstStep_60 : decode cX2_firstStep 60 = .ok (.iaload, 1) := by decide +kernel
theorem dX2_firstStep_61 : decode cX2_firstStep 61 = .ok (.invokestatic 92, 3) := by decide +kernel
theorem dX2_firstStep_64 : decode cX2_firstStep 64 = .ok (.iload 5, 2) := by decide +kernel
theorem dX2_firstStep_66 : decode cX2_firstStep 66 = .ok (.iadd, 1) := by decide +kernel
theorem dX2_firstStep_67 : decode cX2_firstStep 67 = .ok (.iload_n 3, 1) := by decide +kernel
theorem dX2_firstStep_68 : decode cX2_firstStep 68 = .ok (.if_icmp .ne 6, 3) := by decide +kernel
theorem dX2_firstStep_71 : decode cX2_firstStep 71 = .ok (.iload 4, 2) := by decide +kernel
theorem dX2_firstStep_73 : decode cX2_firstStep 73 = .ok (.ireturn, 1) := by decide +kernel
theorem dX2_firstStep_74 : decode cX2_firstStep 74 = .ok (.iinc 4 1, 3) := by decide +kernel
theorem dX2_firstStep_77 : decode cX2_firstStep 77 = .ok (.goto (-62), 3) := by decide +kernel
theorem dX2_firstStep_80 : decode cX2_firstStep 80 = .ok (.iconst (-1), 1) := by decide +kernel
theorem dX2_firstStep_81 : decode cX2_firstStep 81 = .ok (.ireturn, 1) := by decide +kernel
theorem dX2_countSettled_0 : decode cX2_countSettled 0 = .ok (.iconst 0, 1) := by decide +kernel
theorem dX2_countSettled_1 : decode cX2_countSettled 1 = .ok (.istore_n 1, 1) := by decide +kernel
theorem dX2_countSettled_2 : decode cX2_countSettled 2 = .ok (.iconst 0, 1) := by decide +kernel
theorem dX2_countSettled_3 : decode cX2_countSettled 3 = .ok (.istore_n 2, 1) := by decide +kernel
theorem dX2_countSettled_4 : decode cX2_countSettled 4 = .ok (.iload_n 2, 1) := by decide +kernel
theorem dX2_countSettled_5 : decode cX2_countSettled 5 = .ok (.aload_n 0, 1) := by decide +kernel
theorem dX2_countSettled_6 : decode cX2_countSettled 6 = .ok (.getfield 33, 3) := by decide +kernel
theorem dX2_countSettled_9 : decode cX2_countSettled 9 = .ok (.if_icmp .ge 29, 3) := by decide +kernel
theorem dX2_countSettled_12 : decode cX2_countSettled 12 = .ok (.iload_n 1, 1) := by decide +kernel
theorem dX2_countSettled_13 : decode cX2_countSettled 13 = .ok (.aload_n 0, 1) := by decide +kernel
theorem dX2_countSettled_14 : decode cX2_countSettled 14 = .ok (.iload_n 2, 1) := by decide +kernel
theorem dX2_countSettled_15 : decode cX2_countSettled 15 = .ok (.invokevirtual 129, 3) := by decide +kernel
theorem dX2_countSettled_18 : decode cX2_countSettled 18 = .ok (.iconst 1, 1) := by decide +kernel
theorem dX2_countSettled_19 : decode cX2_countSettled 19 = .ok (.if_icmp .ne 7, 3) := by decide +kernel
theorem dX2_countSettled_22 : decode cX2_countSettled 22 = .ok (.iconst 1, 1) := by decide +kernel
theorem dX2_countSettled_23 : decode cX2_countSettled 23 = .ok (.goto 4, 3) := by decide +kernel
theorem dX2_countSettled_26 : decode cX2_countSettled 26 = .ok (.iconst 0, 1) := by decide +kernel
theorem dX2_countSettled_27 : decode cX2_countSettled 27 = .ok (.invokestatic 132, 3) := by decide +kernel
theorem dX2_countSettled_30 : decode cX2_countSettled 30 = .ok (.iadd, 1) := by decide +kernel
theorem dX2_countSettled_31 : decode cX2_countSettled 31 = .ok (.istore_n 1, 1) := by decide +kernel
theorem dX2_countSettled_32 : decode cX2_countSettled 32 = .ok (.iinc 2 1, 3) := by decide +kernel
theorem dX2_countSettled_35 : decode cX2_countSettled 35 = .ok (.goto (-31), 3) := by decide +kernel
theorem dX2_countSettled_38 : decode cX2_countSettled 38 = .ok (.iload_n 1, 1) := by decide +kernel
theorem dX2_countSettled_39 : decode cX2_countSettled 39 = .ok (.ireturn, 1) := by decide +kernel
theorem dX2_greatestEarliest_0 : decode cX2_greatestEarliest 0 = .ok (.iconst 0, 1) := by decide +kernel
theorem dX2_greatestEarliest_1 : decode cX2_greatestEarliest 1 = .ok (.istore_n 1, 1) := by decide +kernel
theorem dX2_greatestEarliest_2 : decode cX2_greatestEarliest 2 = .ok (.iconst 0, 1) := by decide +kernel
theorem dX2_greatestEarliest_3 : decode cX2_greatestEarliest 3 = .ok (.istore_n 2, 1) := by decide +kernel
theorem dX2_greatestEarliest_4 : decode cX2_greatestEarliest 4 = .ok (.iload_n 2, 1) := by decide +kernel
theorem dX2_greatestEarliest_5 : decode cX2_greatestEarliest 5 = .ok (.aload_n 0, 1) := by decide +kernel
theorem dX2_greatestEarliest_6 : decode cX2_greatestEarliest 6 = .ok (.getfield 33, 3) := by decide +kernel
theorem dX2_greatestEarliest_9 : decode cX2_greatestEarliest 9 = .ok (.if_icmp .ge 19, 3) := by decide +kernel
theorem dX2_greatestEarliest_12 : decode cX2_greatestEarliest 12 = .ok (.iload_n 1, 1) := by decide +kernel
theorem dX2_greatestEarliest_13 : decode cX2_greatestEarliest 13 = .ok (.aload_n 0, 1) := by decide +kernel
theorem dX2_greatestEarliest_14 : decode cX2_greatestEarliest 14 = .ok (.iload_n 2, 1) := by decide +kernel
theorem dX2_greatestEarliest_15 : decode cX2_greatestEarliest 15 = .ok (.invokevirtual 123, 3) := by decide +kernel
theorem dX2_greatestEarliest_18 : decode cX2_greatestEarliest 18 = .ok (.invokestatic 136, 3) := by decide +kernel
theorem dX2_greatestEarliest_21 : decode cX2_greatestEarliest 21 = .ok (.istore_n 1, 1) := by decide +kernel
theorem dX2_greatestEarliest_22 : decode cX2_greatestEarliest 22 = .ok (.iinc 2 1, 3) := by decide +kernel
theorem dX2_greatestEarliest_25 : decode cX2_greatestEarliest 25 = .ok (.goto (-21), 3) := by decide +kernel
theorem dX2_greatestEarliest_28 : decode cX2_greatestEarliest 28 = .ok (.iload_n 1, 1) := by decide +kernel
theorem dX2_greatestEarliest_29 : decode cX2_greatestEarliest 29 = .ok (.ireturn, 1) := by decide +kernel
theorem dX2_room_0 : decode cX2_room 0 = .ok (.iconst 0, 1) := by decide +kernel
theorem dX2_room_1 : decode cX2_room 1 = .ok (.istore_n 1, 1) := by decide +kernel
theorem dX2_room_2 : decode cX2_room 2 = .ok (.iconst 0, 1) := by decide +kernel
theorem dX2_room_3 : decode cX2_room 3 = .ok (.istore_n 2, 1) := by decide +kernel
theorem dX2_room_4 : decode cX2_room 4 = .ok (.iload_n 2, 1) := by decide +kernel
theorem dX2_room_5 : decode cX2_room 5 = .ok (.aload_n 0, 1) := by decide +kernel
theorem dX2_room_6 : decode cX2_room 6 = .ok (.getfield 33, 3) := by decide +kernel
theorem dX2_room_9 : decode cX2_room 9 = .ok (.if_icmp .ge 23, 3) := by decide +kernel
theorem dX2_room_12 : decode cX2_room 12 = .ok (.iload_n 1, 1) := by decide +kernel
theorem dX2_room_13 : decode cX2_room 13 = .ok (.aload_n 0, 1) := by decide +kernel
theorem dX2_room_14 : decode cX2_room 14 = .ok (.iload_n 2, 1) := by decide +kernel
theorem dX2_room_15 : decode cX2_room 15 = .ok (.invokevirtual 120, 3) := by decide +kernel
theorem dX2_room_18 : decode cX2_room 18 = .ok (.aload_n 0, 1) := by decide +kernel
theorem dX2_room_19 : decode cX2_room 19 = .ok (.iload_n 2, 1) := by decide +kernel
theorem dX2_room_20 : decode cX2_room 20 = .ok (.invokevirtual 123, 3) := by decide +kernel
theorem dX2_room_23 : decode cX2_room 23 = .ok (.isub, 1) := by decide +kernel
theorem dX2_room_24 : decode cX2_room 24 = .ok (.iadd, 1) := by decide +kernel
theorem dX2_room_25 : decode cX2_room 25 = .ok (.istore_n 1, 1) := by decide +kernel
theorem dX2_room_26 : decode cX2_room 26 = .ok (.iinc 2 1, 3) := by decide +kernel
theorem dX2_room_29 : decode cX2_room 29 = .ok (.goto (-25), 3) := by decide +kernel
theorem dX2_room_32 : decode cX2_room 32 = .ok (.iload_n 1, 1) := by decide +kernel
theorem dX2_room_33 : decode cX2_room 33 = .ok (.ireturn, 1) := by decide +kernel
theorem dX2_placeByEarliest_0 : decode cX2_placeByEarliest 0 = .ok (.iconst 0, 1) := by decide +kernel
theorem dX2_placeByEarliest_1 : decode cX2_placeByEarliest 1 = .ok (.istore_n 2, 1) := by decide +kernel
theorem dX2_placeByEarliest_2 : decode cX2_placeByEarliest 2 = .ok (.iconst 0, 1) := by decide +kernel
theorem dX2_placeByEarliest_3 : decode cX2_placeByEarliest 3 = .ok (.istore_n 3, 1) := by decide +kernel
theorem dX2_placeByEarliest_4 : decode cX2_placeByEarliest 4 = .ok (.iload_n 3, 1) := by decide +kernel
theorem dX2_placeByEarliest_5 : decode cX2_placeByEarliest 5 = .ok (.aload_n 0, 1) := by decide +kernel
theorem dX2_placeByEarliest_6 : decode cX2_placeByEarliest 6 = .ok (.getfield 33, 3) := by decide +kernel
theorem dX2_placeByEarliest_9 : decode cX2_placeByEarliest 9 = .ok (.if_icmp .ge 48, 3) := by decide +kernel
theorem dX2_placeByEarliest_12 : decode cX2_placeByEarliest 12 = .ok (.aload_n 0, 1) := by decide +kernel
theorem dX2_placeByEarliest_13 : decode cX2_placeByEarliest 13 = .ok (.iload_n 1, 1) := by decide +kernel
theorem dX2_placeByEarliest_14 : decode cX2_placeByEarliest 14 = .ok (.invokevirtual 123, 3) := by decide +kernel
theorem dX2_placeByEarliest_17 : decode cX2_placeByEarliest 17 = .ok (.aload_n 0, 1) := by decide +kernel
theorem dX2_placeByEarliest_18 : decode cX2_placeByEarliest 18 = .ok (.iload_n 3, 1) := by decide +kernel
theorem dX2_placeByEarliest_19 : decode cX2_placeByEarliest 19 = .ok (.invokevirtual 123, 3) := by decide +kernel
theorem dX2_placeByEarliest_22 : decode cX2_placeByEarliest 22 = .ok (.isub, 1) := by decide +kernel
theorem dX2_placeByEarliest_23 : decode cX2_placeByEarliest 23 = .ok (.istore 4, 2) := by decide +kernel
theorem dX2_placeByEarliest_25 : decode cX2_placeByEarliest 25 = .ok (.iload_n 2, 1) := by decide +kernel
theorem dX2_placeByEarliest_26 : decode cX2_placeByEarliest 26 = .ok (.iload 4, 2) := by decide +kernel
theorem dX2_placeByEarliest_28 : decode cX2_placeByEarliest 28 = .ok (.ifCond .gt 13, 3) := by decide +kernel
theorem dX2_placeByEarliest_31 : decode cX2_placeByEarliest 31 = .ok (.iload 4, 2) := by decide +kernel
theorem dX2_placeByEarliest_33 : decode cX2_placeByEarliest 33 = .ok (.ifCond .ne 12, 3) := by decide +kernel
theorem dX2_placeByEarliest_36 : decode cX2_placeByEarliest 36 = .ok (.iload_n 3, 1) := by decide +kernel
theorem dX2_placeByEarliest_37 : decode cX2_placeByEarliest 37 = .ok (.iload_n 1, 1) := by decide +kernel
theorem dX2_placeByEarliest_38 : decode cX2_placeByEarliest 38 = .ok (.if_icmp .ge 7, 3) := by decide +kernel
theorem dX2_placeByEarliest_41 : decode cX2_placeByEarliest 41 = .ok (.iconst 1, 1) := by decide +kernel
theorem dX2_placeByEarliest_42 : decode cX2_placeByEarliest 42 = .ok (.goto 4, 3) := by decide +kernel
theorem dX2_placeByEarliest_45 : decode cX2_placeByEarliest 45 = .ok (.iconst 0, 1) := by decide +kernel
theorem dX2_placeByEarliest_46 : decode cX2_placeByEarliest 46 = .ok (.invokestatic 132, 3) := by decide +kernel
theorem dX2_placeByEarliest_49 : decode cX2_placeByEarliest 49 = .ok (.iadd, 1) := by decide +kernel
theorem dX2_placeByEarliest_50 : decode cX2_placeByEarliest 50 = .ok (.istore_n 2, 1) := by decide +kernel
theorem dX2_placeByEarliest_51 : decode cX2_placeByEarliest 51 = .ok (.iinc 3 1, 3) := by decide +kernel
theorem dX2_placeByEarliest_54 : decode cX2_placeByEarliest 54 = .ok (.goto (-50), 3) := by decide +kernel
theorem dX2_placeByEarliest_57 : decode cX2_placeByEarliest 57 = .ok (.iload_n 2, 1) := by decide +kernel
theorem dX2_placeByEarliest_58 : decode cX2_placeByEarliest 58 = .ok (.ireturn, 1) := by decide +kernel
theorem dX2_placeByLatest_0 : decode cX2_placeByLatest 0 = .ok (.iconst 0, 1) := by decide +kernel
theorem dX2_placeByLatest_1 : decode cX2_placeByLatest 1 = .ok (.istore_n 2, 1) := by decide +kernel
theorem dX2_placeByLatest_2 : decode cX2_placeByLatest 2 = .ok (.iconst 0, 1) := by decide +kernel
theorem dX2_placeByLatest_3 : decode cX2_placeByLatest 3 = .ok (.istore_n 3, 1) := by decide +kernel
theorem dX2_placeByLatest_4 : decode cX2_placeByLatest 4 = .ok (.iload_n 3, 1) := by decide +kernel
theorem dX2_placeByLatest_5 : decode cX2_placeByLatest 5 = .ok (.aload_n 0, 1) := by decide +kernel
theorem dX2_placeByLatest_6 : decode cX2_placeByLatest 6 = .ok (.getfield 33, 3) := by decide +kernel
theorem dX2_placeByLatest_9 : decode cX2_placeByLatest 9 = .ok (.if_icmp .ge 48, 3) := by decide +kernel
theorem dX2_placeByLatest_12 : decode cX2_placeByLatest 12 = .ok (.aload_n 0, 1) := by decide +kernel
theorem dX2_placeByLatest_13 : decode cX2_placeByLatest 13 = .ok (.iload_n 1, 1) := by decide +kernel
theorem dX2_placeByLatest_14 : decode cX2_placeByLatest 14 = .ok (.invokevirtual 120, 3) := by decide +kernel
theorem dX2_placeByLatest_17 : decode cX2_placeByLatest 17 = .ok (.aload_n 0, 1) := by decide +kernel
theorem dX2_placeByLatest_18 : decode cX2_placeByLatest 18 = .ok (.iload_n 3, 1) := by decide +kernel
theorem dX2_placeByLatest_19 : decode cX2_placeByLatest 19 = .ok (.invokevirtual 120, 3) := by decide +kernel
theorem dX2_placeByLatest_22 : decode cX2_placeByLatest 22 = .ok (.isub, 1) := by decide +kernel
theorem dX2_placeByLatest_23 : decode cX2_placeByLatest 23 = .ok (.istore 4, 2) := by decide +kernel
theorem dX2_placeByLatest_25 : decode cX2_placeByLatest 25 = .ok (.iload_n 2, 1) := by decide +kernel
theorem dX2_placeByLatest_26 : decode cX2_placeByLatest 26 = .ok (.iload 4, 2) := by decide +kernel
theorem dX2_placeByLatest_28 : decode cX2_placeByLatest 28 = .ok (.ifCond .gt 13, 3) := by decide +kernel
theorem dX2_placeByLatest_31 : decode cX2_placeByLatest 31 = .ok (.iload 4, 2) := by decide +kernel
theorem dX2_placeByLatest_33 : decode cX2_placeByLatest 33 = .ok (.ifCond .ne 12, 3) := by decide +kernel
theorem dX2_placeByLatest_36 : decode cX2_placeByLatest 36 = .ok (.iload_n 3, 1) := by decide +kernel
theorem dX2_placeByLatest_37 : decode cX2_placeByLatest 37 = .ok (.iload_n 1, 1) := by decide +kernel
theorem dX2_placeByLatest_38 : decode cX2_placeByLatest 38 = .ok (.if_icmp .ge 7, 3) := by decide +kernel
theorem dX2_placeByLatest_41 : decode cX2_placeByLatest 41 = .ok (.iconst 1, 1) := by decide +kernel
theorem dX2_placeByLatest_42 : decode cX2_placeByLatest 42 = .ok (.goto 4, 3) := by decide +kernel
theorem dX2_placeByLatest_45 : decode cX2_placeByLatest 45 = .ok (.iconst 0, 1) := by decide +kernel
theorem dX2_placeByLatest_46 : decode cX2_placeByLatest 46 = .ok (.invokestatic 132, 3) := by decide +kernel
theorem dX2_placeByLatest_49 : decode cX2_placeByLatest 49 = .ok (.iadd, 1) := by decide +kernel
theorem dX2_placeByLatest_50 : decode cX2_placeByLatest 50 = .ok (.istore_n 2, 1) := by decide +kernel
theorem dX2_placeByLatest_51 : decode cX2_placeByLatest 51 = .ok (.iinc 3 1, 3) := by decide +kernel
theorem dX2_placeByLatest_54 : decode cX2_placeByLatest 54 = .ok (.goto (-50), 3) := by decide +kernel
theorem dX2_placeByLatest_57 : decode cX2_placeByLatest 57 = .ok (.iload_n 2, 1) := by decide +kernel
theorem dX2_placeByLatest_58 : decode cX2_placeByLatest 58 = .ok (.ireturn, 1) := by decide +kernel
theorem dX2_countOtherBounds_0 : decode cX2_countOtherBounds 0 = .ok (.iconst 0, 1) := by decide +kernel
theorem dX2_countOtherBounds_1 : decode cX2_countOtherBounds 1 = .ok (.istore_n 2, 1) := by decide +kernel
theorem dX2_countOtherBounds_2 : decode cX2_countOtherBounds 2 = .ok (.iconst 0, 1) := by decide +kernel
theorem dX2_countOtherBounds_3 : decode cX2_countOtherBounds 3 = .ok (.istore_n 3, 1) := by decide +kernel
theorem dX2_countOtherBounds_4 : decode cX2_countOtherBounds 4 = .ok (.iload_n 3, 1) := by decide +kernel
theorem dX2_countOtherBounds_5 : decode cX2_countOtherBounds 5 = .ok (.aload_n 0, 1) := by decide +kernel
theorem dX2_countOtherBounds_6 : decode cX2_countOtherBounds 6 = .ok (.getfield 33, 3) := by decide +kernel
theorem dX2_countOtherBounds_9 : decode cX2_countOtherBounds 9 = .ok (.if_icmp .ge 55, 3) := by decide +kernel
theorem dX2_countOtherBounds_12 : decode cX2_countOtherBounds 12 = .ok (.iconst 0, 1) := by decide +kernel
theorem dX2_countOtherBounds_13 : decode cX2_countOtherBounds 13 = .ok (.istore 4, 2) := by decide +kernel
theorem dX2_countOtherBounds_15 : decode cX2_countOtherBounds 15 = .ok (.iload 4, 2) := by decide +kernel
theorem dX2_countOtherBounds_17 : decode cX2_countOtherBounds 17 = .ok (.aload_n 0, 1) := by decide +kernel
theorem dX2_countOtherBounds_18 : decode cX2_countOtherBounds 18 = .ok (.getfield 33, 3) := by decide +kernel
theorem dX2_countOtherBounds_21 : decode cX2_countOtherBounds 21 = .ok (.if_icmp .ge 37, 3) := by decide +kernel
theorem dX2_countOtherBounds_24 : decode cX2_countOtherBounds 24 = .ok (.iload_n 2, 1) := by decide +kernel
theorem dX2_countOtherBounds_25 : decode cX2_countOtherBounds 25 = .ok (.aload_n 0, 1) := by decide +kernel
theorem dX2_countOtherBounds_26 : decode cX2_countOtherBounds 26 = .ok (.iload_n 3, 1) := by decide +kernel
theorem dX2_countOtherBounds_27 : decode cX2_countOtherBounds 27 = .ok (.iload 4, 2) := by decide +kernel
theorem dX2_countOtherBounds_29 : decode cX2_countOtherBounds 29 = .ok (.invokevirtual 117, 3) := by decide +kernel
theorem dX2_countOtherBounds_32 : decode cX2_countOtherBounds 32 = .ok (.aload_n 1, 1) := by decide +kernel
theorem dX2_countOtherBounds_33 : decode cX2_countOtherBounds 33 = .ok (.iload_n 3, 1) := by decide +kernel
theorem dX2_countOtherBounds_34 : decode cX2_countOtherBounds 34 = .ok (.iload 4, 2) := by decide +kernel
theorem dX2_countOtherBounds_36 : decode cX2_countOtherBounds 36 = .ok (.invokevirtual 117, 3) := by decide +kernel
theorem dX2_countOtherBounds_39 : decode cX2_countOtherBounds 39 = .ok (.if_icmp .eq 7, 3) := by decide +kernel
theorem dX2_countOtherBounds_42 : decode cX2_countOtherBounds 42 = .ok (.iconst 1, 1) := by decide +kernel
theorem dX2_countOtherBounds_43 : decode cX2_countOtherBounds 43 = .ok (.goto 4, 3) := by decide +kernel
theorem dX2_countOtherBounds_46 : decode cX2_countOtherBounds 46 = .ok (.iconst 0, 1) := by decide +kernel
theorem dX2_countOtherBounds_47 : decode cX2_countOtherBounds 47 = .ok (.invokestatic 132, 3) := by decide +kernel
theorem dX2_countOtherBounds_50 : decode cX2_countOtherBounds 50 = .ok (.iadd, 1) := by decide +kernel
theorem dX2_countOtherBounds_51 : decode cX2_countOtherBounds 51 = .ok (.istore_n 2, 1) := by decide +kernel
theorem dX2_countOtherBounds_52 : decode cX2_countOtherBounds 52 = .ok (.iinc 4 1, 3) := by decide +kernel
theorem dX2_countOtherBounds_55 : decode cX2_countOtherBounds 55 = .ok (.goto (-40), 3) := by decide +kernel
theorem dX2_countOtherBounds_58 : decode cX2_countOtherBounds 58 = .ok (.iinc 3 1, 3) := by decide +kernel
theorem dX2_countOtherBounds_61 : decode cX2_countOtherBounds 61 = .ok (.goto (-57), 3) := by decide +kernel
theorem dX2_countOtherBounds_64 : decode cX2_countOtherBounds 64 = .ok (.iload_n 2, 1) := by decide +kernel
theorem dX2_countOtherBounds_65 : decode cX2_countOtherBounds 65 = .ok (.ireturn, 1) := by decide +kernel
theorem dX2_countOtherTimes_0 : decode cX2_countOtherTimes 0 = .ok (.iconst 0, 1) := by decide +kernel
theorem dX2_countOtherTimes_1 : decode cX2_countOtherTimes 1 = .ok (.istore_n 2, 1) := by decide +kernel
theorem dX2_countOtherTimes_2 : decode cX2_countOtherTimes 2 = .ok (.iconst 0, 1) := by decide +kernel
theorem dX2_countOtherTimes_3 : decode cX2_countOtherTimes 3 = .ok (.istore_n 3, 1) := by decide +kernel
theorem dX2_countOtherTimes_4 : decode cX2_countOtherTimes 4 = .ok (.iload_n 3, 1) := by decide +kernel
theorem dX2_countOtherTimes_5 : decode cX2_countOtherTimes 5 = .ok (.aload_n 0, 1) := by decide +kernel
theorem dX2_countOtherTimes_6 : decode cX2_countOtherTimes 6 = .ok (.getfield 33, 3) := by decide +kernel
theorem dX2_countOtherTimes_9 : decode cX2_countOtherTimes 9 = .ok (.if_icmp .ge 46, 3) := by decide +kernel
theorem dX2_countOtherTimes_12 : decode cX2_countOtherTimes 12 = .ok (.iload_n 2, 1) := by decide +kernel
theorem dX2_countOtherTimes_13 : decode cX2_countOtherTimes 13 = .ok (.aload_n 0, 1) := by decide +kernel
theorem dX2_countOtherTimes_14 : decode cX2_countOtherTimes 14 = .ok (.iload_n 3, 1) := by decide +kernel
theorem dX2_countOtherTimes_15 : decode cX2_countOtherTimes 15 = .ok (.invokevirtual 123, 3) := by decide +kernel
theorem dX2_countOtherTimes_18 : decode cX2_countOtherTimes 18 = .ok (.aload_n 1, 1) := by decide +kernel
theorem dX2_countOtherTimes_19 : decode cX2_countOtherTimes 19 = .ok (.iload_n 3, 1) := by decide +kernel
theorem dX2_countOtherTimes_20 : decode cX2_countOtherTimes 20 = .ok (.invokevirtual 123, 3) := by decide +kernel
theorem dX2_countOtherTimes_23 : decode cX2_countOtherTimes 23 = .ok (.if_icmp .ne 16, 3) := by decide +kernel
theorem dX2_countOtherTimes_26 : decode cX2_countOtherTimes 26 = .ok (.aload_n 0, 1) := by decide +kernel
theorem dX2_countOtherTimes_27 : decode cX2_countOtherTimes 27 = .ok (.iload_n 3, 1) := by decide +kernel
theorem dX2_countOtherTimes_28 : decode cX2_countOtherTimes 28 = .ok (.invokevirtual 120, 3) := by decide +kernel
theorem dX2_countOtherTimes_31 : decode cX2_countOtherTimes 31 = .ok (.aload_n 1, 1) := by decide +kernel
theorem dX2_countOtherTimes_32 : decode cX2_countOtherTimes 32 = .ok (.iload_n 3, 1) := by decide +kernel
theorem dX2_countOtherTimes_33 : decode cX2_countOtherTimes 33 = .ok (.invokevirtual 120, 3) := by decide +kernel
theorem dX2_countOtherTimes_36 : decode cX2_countOtherTimes 36 = .ok (.if_icmp .eq 7, 3) := by decide +kernel
theorem dX2_countOtherTimes_39 : decode cX2_countOtherTimes 39 = .ok (.iconst 1, 1) := by decide +kernel
theorem dX2_countOtherTimes_40 : decode cX2_countOtherTimes 40 = .ok (.goto 4, 3) := by decide +kernel
theorem dX2_countOtherTimes_43 : decode cX2_countOtherTimes 43 = .ok (.iconst 0, 1) := by decide +kernel
theorem dX2_countOtherTimes_44 : decode cX2_countOtherTimes 44 = .ok (.invokestatic 132, 3) := by decide +kernel
theorem dX2_countOtherTimes_47 : decode cX2_countOtherTimes 47 = .ok (.iadd, 1) := by decide +kernel
theorem dX2_countOtherTimes_48 : decode cX2_countOtherTimes 48 = .ok (.istore_n 2, 1) := by decide +kernel
theorem dX2_countOtherTimes_49 : decode cX2_countOtherTimes 49 = .ok (.iinc 3 1, 3) := by decide +kernel
theorem dX2_countOtherTimes_52 : decode cX2_countOtherTimes 52 = .ok (.goto (-48), 3) := by decide +kernel
theorem dX2_countOtherTimes_55 : decode cX2_countOtherTimes 55 = .ok (.iload_n 2, 1) := by decide +kernel
theorem dX2_countOtherTimes_56 : decode cX2_countOtherTimes 56 = .ok (.ireturn, 1) := by decide +kernel
theorem dX3_init_0 : decode cX3_init 0 = .ok (.aload_n 0, 1) := by decide +kernel
theorem dX3_init_1 : decode cX3_init 1 = .ok (.invokespecial 3, 3) := by decide +kernel
theorem dX3_init_4 : decode cX3_init 4 = .ok (.aload_n 0, 1) := by decide +kernel
theorem dX3_init_5 : decode cX3_init 5 = .ok (.bipush 50, 2) := by decide +kernel
theorem dX3_init_7 : decode cX3_init 7 = .ok (.newarray .int, 2) := by decide +kernel
theorem dX3_init_9 : decode cX3_init 9 = .ok (.putfield 9, 3) := by decide +kernel
theorem dX3_init_12 : decode cX3_init 12 = .ok (.aload_n 0, 1) := by decide +kernel
theorem dX3_init_13 : decode cX3_init 13 = .ok (.bipush 10, 2) := by decide +kernel
theorem dX3_init_15 : decode cX3_init 15 = .ok (.newarray .int, 2) := by decide +kernel
theorem dX3_init_17 : decode cX3_init 17 = .ok (.putfield 15, 3) := by decide +kernel
theorem dX3_init_20 : decode cX3_init 20 = .ok (.aload_n 0, 1) := by decide +kernel
theorem dX3_init_21 : decode cX3_init 21 = .ok (.bipush 10, 2) := by decide +kernel
theorem dX3_init_23 : decode cX3_init 23 = .ok (.newarray .int, 2) := by decide +kernel
theorem dX3_init_25 : decode cX3_init 25 = .ok (.putfield 18, 3) := by decide +kernel
theorem dX3_init_28 : decode cX3_init 28 = .ok (.aload_n 0, 1) := by decide +kernel
theorem dX3_init_29 : decode cX3_init 29 = .ok (.bipush 24, 2) := by decide +kernel
theorem dX3_init_31 : decode cX3_init 31 = .ok (.newarray .int, 2) := by decide +kernel
theorem dX3_init_33 : decode cX3_init 33 = .ok (.putfield 21, 3) := by decide +kernel
theorem dX3_init_36 : decode cX3_init 36 = .ok (.aload_n 0, 1) := by decide +kernel
theorem dX3_init_37 : decode cX3_init 37 = .ok (.bipush 24, 2) := by decide +kernel
theorem dX3_init_39 : decode cX3_init 39 = .ok (.newarray .int, 2) := by decide +kernel
theorem dX3_init_41 : decode cX3_init 41 = .ok (.putfield 24, 3) := by decide +kernel
theorem dX3_init_44 : decode cX3_init 44 = .ok (.aload_n 0, 1) := by decide +kernel
theorem dX3_init_45 : decode cX3_init 45 = .ok (.bipush 24, 2) := by decide +kernel
theorem dX3_init_47 : decode cX3_init 47 = .ok (.newarray .int, 2) := by decide +kernel
theorem dX3_init_49 : decode cX3_init 49 = .ok (.putfield 27, 3) := by decide +kernel
theorem dX3_init_52 : decode cX3_init 52 = .ok (.aload_n 0, 1) := by decide +kernel
theorem dX3_init_53 : decode cX3_init 53 = .ok (.bipush 24, 2) := by decide +kernel
theorem dX3_init_55 : decode cX3_init 55 = .ok (.newarray .int, 2) := by decide +kernel
theorem dX3_init_57 : decode cX3_init 57 = .ok (.putfield 30, 3) := by decide +kernel
theorem dX3_init_60 : decode cX3_init 60 = .ok (.aload_n 0, 1) := by decide +kernel
theorem dX3_init_61 : decode cX3_init 61 = .ok (.bipush 24, 2) := by decide +kernel
theorem dX3_init_63 : decode cX3_init 63 = .ok (.newarray .boolean, 2) := by decide +kernel
theorem dX3_init_65 : decode cX3_init 65 = .ok (.putfield 33, 3) := by decide +kernel
theorem dX3_init_68 : decode cX3_init 68 = .ok (.aload_n 0, 1) := by decide +kernel
theorem dX3_init_69 : decode cX3_init 69 = .ok (.new 37, 3) := by decide +kernel
theorem dX3_init_72 : decode cX3_init 72 = .ok (.dup, 1) := by decide +kernel
theorem dX3_init_73 : decode cX3_init 73 = .ok (.invokespecial 39, 3) := by decide +kernel
theorem dX3_init_76 : decode cX3_init 76 = .ok (.putfield 40, 3) := by decide +kernel
theorem dX3_init_79 : decode cX3_init 79 = .ok (.return_, 1) := by decide +kernel
theorem dX3_clear_0 : decode cX3_clear 0 = .ok (.aload_n 0, 1) := by decide +kernel
theorem dX3_clear_1 : decode cX3_clear 1 = .ok (.bipush 100, 2) := by decide +kernel
theorem dX3_clear_3 : decode cX3_clear 3 = .ok (.putfield 44, 3) := by decide +kernel
theorem dX3_clear_6 : decode cX3_clear 6 = .ok (.aload_n 0, 1) := by decide +kernel
theorem dX3_clear_7 : decode cX3_clear 7 = .ok (.iconst 0, 1) := by decide +kernel
theorem dX3_clear_8 : decode cX3_clear 8 = .ok (.putfield 48, 3) := by decide +kernel
theorem dX3_clear_11 : decode cX3_clear 11 = .ok (.aload_n 0, 1) := by decide +kernel
theorem dX3_clear_12 : decode cX3_clear 12 = .ok (.iconst 0, 1) := by decide +kernel
theorem dX3_clear_13 : decode cX3_clear 13 = .ok (.putfield 51, 3) := by decide +kernel
theorem dX3_clear_16 : decode cX3_clear 16 = .ok (.aload_n 0, 1) := by decide +kernel
theorem dX3_clear_17 : decode cX3_clear 17 = .ok (.getfield 40, 3) := by decide +kernel
theorem dX3_clear_20 : decode cX3_clear 20 = .ok (.invokevirtual 54, 3) := by decide +kernel
theorem dX3_clear_23 : decode cX3_clear 23 = .ok (.aload_n 0, 1) := by decide +kernel
theorem dX3_clear_24 : decode cX3_clear 24 = .ok (.invokevirtual 57, 3) := by decide +kernel
theorem dX3_clear_27 : decode cX3_clear 27 = .ok (.return_, 1) := by decide +kernel
theorem dX3_addStart_0 : decode cX3_addStart 0 = .ok (.ldc 60, 2) := by decide +kernel
theorem dX3_addStart_2 : decode cX3_addStart 2 = .ok (.astore_n 1, 1) := by decide +kernel
theorem dX3_addStart_3 : decode cX3_addStart 3 = .ok (.iconst 0, 1) := by decide +kernel
theorem dX3_addStart_4 : decode cX3_addStart 4 = .ok (.istore_n 2, 1) := by decide +kernel
theorem dX3_addStart_5 : decode cX3_addStart 5 = .ok (.iload_n 2, 1) := by decide +kernel
theorem dX3_addStart_6 : decode cX3_addStart 6 = .ok (.aload_n 1, 1) := by decide +kernel
theorem dX3_addStart_7 : decode cX3_addStart 7 = .ok (.invokevirtual 62, 3) := by decide +kernel
theorem dX3_addStart_10 : decode cX3_addStart 10 = .ok (.if_icmp .ge 27, 3) := by decide +kernel
theorem dX3_addStart_13 : decode cX3_addStart 13 = .ok (.iload_n 2, 1) := by decide +kernel
theorem dX3_addStart_14 : decode cX3_addStart 14 = .ok (.iconst 5, 1) := by decide +kernel
theorem dX3_addStart_15 : decode cX3_addStart 15 = .ok (.if_icmp .ge 22, 3) := by decide +kernel
theorem dX3_addStart_18 : decode cX3_addStart 18 = .ok (.aload_n 0, 1) := by decide +kernel
theorem dX3_addStart_19 : decode cX3_addStart 19 = .ok (.getfield 9, 3) := by decide +kernel
theorem dX3_addStart_22 : decode cX3_addStart 22 = .ok (.iconst 0, 1) := by decide +kernel
theorem dX3_addStart_23 : decode cX3_addStart 23 = .ok (.iload_n 2, 1) := by decide +kernel
theorem dX3_addStart_24 : decode cX3_addStart 24 = .ok (.iadd, 1) := by decide +kernel
theorem dX3_addStart_25 : decode cX3_addStart 25 = .ok (.aload_n 1, 1) := by decide +kernel
theorem dX3_addStart_26 : decode cX3_addStart 26 = .ok (.iload_n 2, 1) := by decide +kernel
theorem dX3_addStart_27 : decode cX3_addStart 27 = .ok (.invokevirtual 68, 3) := by decide +kernel
theorem dX3_addStart_30 : decode cX3_addStart 30 = .ok (.iastore, 1) := by decide +kernel
theorem dX3_addStart_31 : decode cX3_addStart 31 = .ok (.iinc 2 1, 3) := by decide +kernel
theorem dX3_addStart_34 : decode cX3_addStart 34 = .ok (.goto (-29), 3) := by decide +kernel
theorem dX3_addStart_37 : decode cX3_addStart 37 = .ok (.aload_n 0, 1) := by decide +kernel
theorem dX3_addStart_38 : decode cX3_addStart 38 = .ok (.getfield 15, 3) := by decide +kernel
theorem dX3_addStart_41 : decode cX3_addStart 41 = .ok (.iconst 0, 1) := by decide +kernel
theorem dX3_addStart_42 : decode cX3_addStart 42 = .ok (.aload_n 1, 1) := by decide +kernel
theorem dX3_addStart_43 : decode cX3_addStart 43 = .ok (.invokevirtual 62, 3) := by decide +kernel
theorem dX3_addStart_46 : decode cX3_addStart 46 = .ok (.iastore, 1) := by decide +kernel
theorem dX3_addStart_47 : decode cX3_addStart 47 = .ok (.aload_n 0, 1) := by decide +kernel
theorem dX3_addStart_48 : decode cX3_addStart 48 = .ok (.getfield 18, 3) := by decide +kernel
theorem dX3_addStart_51 : decode cX3_addStart 51 = .ok (.iconst 0, 1) := by decide +kernel
theorem dX3_addStart_52 : decode cX3_addStart 52 = .ok (.iconst (-1), 1) := by decide +kernel
theorem dX3_addStart_53 : decode cX3_addStart 53 = .ok (.iastore, 1) := by decide +kernel
theorem dX3_addStart_54 : decode cX3_addStart 54 = .ok (.aload_n 0, 1) := by decide +kernel
theorem dX3_addStart_55 : decode cX3_addStart 55 = .ok (.iconst 1, 1) := by decide +kernel
theorem dX3_addStart_56 : decode cX3_addStart 56 = .ok (.putfield 48, 3) := by decide +kernel
theorem dX3_addStart_59 : decode cX3_addStart 59 = .ok (.return_, 1) := by decide +kernel
theorem dX3_copyFrom_0 : decode cX3_copyFrom 0 = .ok (.aload_n 1, 1) := by decide +kernel
theorem dX3_copyFrom_1 : decode cX3_copyFrom 1 = .ok (.getfield 9, 3) := by decide +kernel
theorem dX3_copyFrom_4 : decode cX3_copyFrom 4 = .ok (.iconst 0, 1) := by decide +kernel
theorem dX3_copyFrom_5 : decode cX3_copyFrom 5 = .ok (.aload_n 0, 1) := by decide +kernel
theorem dX3_copyFrom_6 : decode cX3_copyFrom 6 = .ok (.getfield 9, 3) := by decide +kernel
theorem dX3_copyFrom_9 : decode cX3_copyFrom 9 = .ok (.iconst 0, 1) := by decide +kernel
theorem dX3_copyFrom_10 : decode cX3_copyFrom 10 = .ok (.aload_n 0, 1) := by decide +kernel
theorem dX3_copyFrom_11 : decode cX3_copyFrom 11 = .ok (.getfield 9, 3) := by decide +kernel
theorem dX3_copyFrom_14 : decode cX3_copyFrom 14 = .ok (.arraylength, 1) := by decide +kernel
theorem dX3_copyFrom_15 : decode cX3_copyFrom 15 = .ok (.invokestatic 72, 3) := by decide +kernel
theorem dX3_copyFrom_18 : decode cX3_copyFrom 18 = .ok (.aload_n 1, 1) := by decide +kernel
theorem dX3_copyFrom_19 : decode cX3_copyFrom 19 = .ok (.getfield 15, 3) := by decide +kernel
theorem dX3_copyFrom_22 : decode cX3_copyFrom 22 = .ok (.iconst 0, 1) := by decide +kernel
theorem dX3_copyFrom_23 : decode cX3_copyFrom 23 = .ok (.aload_n 0, 1) := by decide +kernel
theorem dX3_copyFrom_24 : decode cX3_copyFrom 24 = .ok (.getfield 15, 3) := by decide +kernel
theorem dX3_copyFrom_27 : decode cX3_copyFrom 27 = .ok (.iconst 0, 1) := by decide +kernel
theorem dX3_copyFrom_28 : decode cX3_copyFrom 28 = .ok (.bipush 10, 2) := by decide +kernel
theorem dX3_copyFrom_30 : decode cX3_copyFrom 30 = .ok (.invokestatic 72, 3) := by decide +kernel
theorem dX3_copyFrom_33 : decode cX3_copyFrom 33 = .ok (.aload_n 1, 1) := by decide +kernel
theorem dX3_copyFrom_34 : decode cX3_copyFrom 34 = .ok (.getfield 18, 3) := by decide +kernel
theorem dX3_copyFrom_37 : decode cX3_copyFrom 37 = .ok (.iconst 0, 1) := by decide +kernel
theorem dX3_copyFrom_38 : decode cX3_copyFrom 38 = .ok (.aload_n 0, 1) := by decide +kernel
theorem dX3_copyFrom_39 : decode cX3_copyFrom 39 = .ok (.getfield 18, 3) := by decide +kernel
theorem dX3_copyFrom_42 : decode cX3_copyFrom 42 = .ok (.iconst 0, 1) := by decide +kernel
theorem dX3_copyFrom_43 : decode cX3_copyFrom 43 = .ok (.bipush 10, 2) := by decide +kernel
theorem dX3_copyFrom_45 : decode cX3_copyFrom 45 = .ok (.invokestatic 72, 3) := by decide +kernel
theorem dX3_copyFrom_48 : decode cX3_copyFrom 48 = .ok (.aload_n 1, 1) := by decide +kernel
theorem dX3_copyFrom_49 : decode cX3_copyFrom 49 = .ok (.getfield 21, 3) := by decide +kernel
theorem dX3_copyFrom_52 : decode cX3_copyFrom 52 = .ok (.iconst 0, 1) := by decide +kernel
theorem dX3_copyFrom_53 : decode cX3_copyFrom 53 = .ok (.aload_n 0, 1) := by decide +kernel
theorem dX3_copyFrom_54 : decode cX3_copyFrom 54 = .ok (.getfield 21, 3) := by decide +kernel
theorem dX3_copyFrom_57 : decode cX3_copyFrom 57 = .ok (.iconst 0, 1) := by decide +kernel
theorem dX3_copyFrom_58 : decode cX3_copyFrom 58 = .ok (.bipush 24, 2) := by decide +kernel
theorem dX3_copyFrom_60 : decode cX3_copyFrom 60 = .ok (.invokestatic 72, 3) := by decide +kernel
theorem dX3_copyFrom_63 : decode cX3_copyFrom 63 = .ok (.aload_n 1, 1) := by decide +kernel
theorem dX3_copyFrom_64 : decode cX3_copyFrom 64 = .ok (.getfield 24, 3) := by decide +kernel
theorem dX3_copyFrom_67 : decode cX3_copyFrom 67 = .ok (.iconst 0, 1) := by decide +kernel
theorem dX3_copyFrom_68 : decode cX3_copyFrom 68 = .ok (.aload_n 0, 1) := by decide +kernel
theorem dX3_copyFrom_69 : decode cX3_copyFrom 69 = .ok (.getfield 24, 3) := by decide +kernel
theorem dX3_copyFrom_72 : decode cX3_copyFrom 72 = .ok (.iconst 0, 1) := by decide +kernel
theorem dX3_copyFrom_73 : decode cX3_copyFrom 73 = .ok (.bipush 24, 2) := by decide +kernel
theorem dX3_copyFrom_75 : decode cX3_copyFrom 75 = .ok (.invokestatic 72, 3) := by decide +kernel
theorem dX3_copyFrom_78 : decode cX3_copyFrom 78 = .ok (.aload_n 1, 1) := by decide +kernel
theorem dX3_copyFrom_79 : decode cX3_copyFrom 79 = .ok (.getfield 27, 3) := by decide +kernel
theorem dX3_copyFrom_82 : decode cX3_copyFrom 82 = .ok (.iconst 0, 1) := by decide +kernel
theorem dX3_copyFrom_83 : decode cX3_copyFrom 83 = .ok (.aload_n 0, 1) := by decide +kernel
theorem dX3_copyFrom_84 : decode cX3_copyFrom 84 = .ok (.getfield 27, 3) := by decide +kernel
theorem dX3_copyFrom_87 : decode cX3_copyFrom 87 = .ok (.iconst 0, 1) := by decide +kernel
theorem dX3_copyFrom_88 : decode cX3_copyFrom 88 = .ok (.bipush 24, 2) := by decide +kernel
theorem dX3_copyFrom_90 : decode cX3_copyFrom 90 = .ok (.invokestatic 72, 3) := by decide +kernel
theorem dX3_copyFrom_93 : decode cX3_copyFrom 93 = .ok (.aload_n 1, 1) := by decide +kernel
theorem dX3_copyFrom_94 : decode cX3_copyFrom 94 = .ok (.getfield 30, 3) := by decide +kernel
theorem dX3_copyFrom_97 : decode cX3_copyFrom 97 = .ok (.iconst 0, 1) := by decide +kernel
theorem dX3_copyFrom_98 : decode cX3_copyFrom 98 = .ok (.aload_n 0, 1) := by decide +kernel
theorem dX3_copyFrom_99 : decode cX3_copyFrom 99 = .ok (.getfield 30, 3) := by decide +kernel
theorem dX3_copyFrom_102 : decode cX3_copyFrom 102 = .ok (.iconst 0, 1) := by decide +kernel
theorem dX3_copyFrom_103 : decode cX3_copyFrom 103 = .ok (.bipush 24, 2) := by decide +kernel
theorem dX3_copyFrom_105 : decode cX3_copyFrom 105 = .ok (.invokestatic 72, 3) := by decide +kernel
theorem dX3_copyFrom_108 : decode cX3_copyFrom 108 = .ok (.iconst 0, 1) := by decide +kernel
theorem dX3_copyFrom_109 : decode cX3_copyFrom 109 = .ok (.istore_n 2, 1) := by decide +kernel
theorem dX3_copyFrom_110 : decode cX3_copyFrom 110 = .ok (.iload_n 2, 1) := by decide +kernel
theorem dX3_copyFrom_111 : decode cX3_copyFrom 111 = .ok (.bipush 24, 2) := by decide +kernel
theorem dX3_copyFrom_113 : decode cX3_copyFrom 113 = .ok (.if_icmp .ge 21, 3) := by decide +kernel
theorem dX3_copyFrom_116 : decode cX3_copyFrom 116 = .ok (.aload_n 0, 1) := by decide +kernel
theorem dX3_copyFrom_117 : decode cX3_copyFrom 117 = .ok (.getfield 33, 3) := by decide +kernel
theorem dX3_copyFrom_120 : decode cX3_copyFrom 120 = .ok (.iload_n 2, 1) := by decide +kernel
theorem dX3_copyFrom_121 : decode cX3_copyFrom 121 = .ok (.aload_n 1, 1) := by decide +kernel
theorem dX3_copyFrom_122 : decode cX3_copyFrom 122 = .ok (.getfield 33, 3) := by decide +kernel
theorem dX3_copyFrom_125 : decode cX3_copyFrom 125 = .ok (.iload_n 2, 1) := by decide +kernel
theorem dX3_copyFrom_126 : decode cX3_copyFrom 126 = .ok (.baload, 1) := by decide +kernel
theorem dX3_copyFrom_127 : decode cX3_copyFrom 127 = .ok (.bastore, 1) := by decide +kernel
theorem dX3_copyFrom_128 : decode cX3_copyFrom 128 = .ok (.iinc 2 1, 3) := by decide +kernel
theorem dX3_copyFrom_131 : decode cX3_copyFrom 131 = .ok (.goto (-21), 3) := by decide +kernel
theorem dX3_copyFrom_134 : decode cX3_copyFrom 134 = .ok (.aload_n 0, 1) := by decide +kernel
theorem dX3_copyFrom_135 : decode cX3_copyFrom 135 = .ok (.getfield 40, 3) := by decide +kernel
theorem dX3_copyFrom_138 : decode cX3_copyFrom 138 = .ok (.aload_n 1, 1) := by decide +kernel
theorem dX3_copyFrom_139 : decode cX3_copyFrom 139 = .ok (.getfield 40, 3) := by decide +kernel
theorem dX3_copyFrom_142 : decode cX3_copyFrom 142 = .ok (.invokevirtual 78, 3) := by decide +kernel
theorem dX3_copyFrom_145 : decode cX3_copyFrom 145 = .ok (.aload_n 0, 1) := by decide +kernel
theorem dX3_copyFrom_146 : decode cX3_copyFrom 146 = .ok (.aload_n 1, 1) := by decide +kernel
theorem dX3_copyFrom_147 : decode cX3_copyFrom 147 = .ok (.getfield 44, 3) := by decide +kernel
theorem dX3_copyFrom_150 : decode cX3_copyFrom 150 = .ok (.putfield 44, 3) := by decide +kernel
theorem dX3_copyFrom_153 : decode cX3_copyFrom 153 = .ok (.aload_n 0, 1) := by decide +kernel
theorem dX3_copyFrom_154 : decode cX3_copyFrom 154 = .ok (.aload_n 1, 1) := by decide +kernel
theorem dX3_copyFrom_155 : decode cX3_copyFrom 155 = .ok (.getfield 48, 3) := by decide +kernel
theorem dX3_copyFrom_158 : decode cX3_copyFrom 158 = .ok (.putfield 48, 3) := by decide +kernel
theorem dX3_copyFrom_161 : decode cX3_copyFrom 161 = .ok (.aload_n 0, 1) := by decide +kernel
theorem dX3_copyFrom_162 : decode cX3_copyFrom 162 = .ok (.aload_n 1, 1) := by decide +kernel
theorem dX3_copyFrom_163 : decode cX3_copyFrom 163 = .ok (.getfield 51, 3) := by decide +kernel
theorem dX3_copyFrom_166 : decode cX3_copyFrom 166 = .ok (.putfield 51, 3) := by decide +kernel
theorem dX3_copyFrom_169 : decode cX3_copyFrom 169 = .ok (.return_, 1) := by decide +kernel
theorem dX3_addEvent_0 : decode cX3_addEvent 0 = .ok (.aload_n 0, 1) := by decide +kernel
theorem dX3_addEvent_1 : decode cX3_addEvent 1 = .ok (.getfield 48, 3) := by decide +kernel
theorem dX3_addEvent_4 : decode cX3_addEvent 4 = .ok (.bipush 10, 2) := by decide +kernel
theorem dX3_addEvent_6 : decode cX3_addEvent 6 = .ok (.if_icmp .lt 5, 3) := by decide +kernel
theorem dX3_addEvent_9 : decode cX3_addEvent 9 = .ok (.iconst (-1), 1) := by decide +kernel
theorem dX3_addEvent_10 : decode cX3_addEvent 10 = .ok (.ireturn, 1) := by decide +kernel
theorem dX3_addEvent_11 : decode cX3_addEvent 11 = .ok (.aload_n 0, 1) := by decide +kernel
theorem dX3_addEvent_12 : decode cX3_addEvent 12 = .ok (.getfield 48, 3) := by decide +kernel
theorem dX3_addEvent_15 : decode cX3_addEvent 15 = .ok (.istore 4, 2) := by decide +kernel
theorem dX3_addEvent_17 : decode cX3_addEvent 17 = .ok (.aload_n 0, 1) := by decide +kernel
theorem dX3_addEvent_18 : decode cX3_addEvent 18 = .ok (.getfield 18, 3) := by decide +kernel
theorem dX3_addEvent_21 : decode cX3_addEvent 21 = .ok (.iload 4, 2) := by decide +kernel
theorem dX3_addEvent_23 : decode cX3_addEvent 23 = .ok (.iconst (-1), 1) := by decide +kernel
theorem dX3_addEvent_24 : decode cX3_addEvent 24 = .ok (.iastore, 1) := by decide +kernel
theorem dX3_addEvent_25 : decode cX3_addEvent 25 = .ok (.aload_n 0, 1) := by decide +kernel
theorem dX3_addEvent_26 : decode cX3_addEvent 26 = .ok (.dup, 1) := by decide +kernel
theorem dX3_addEvent_27 : decode cX3_addEvent 27 = .ok (.getfield 48, 3) := by decide +kernel
theorem dX3_addEvent_30 : decode cX3_addEvent 30 = .ok (.iconst 1, 1) := by decide +kernel
theorem dX3_addEvent_31 : decode cX3_addEvent 31 = .ok (.iadd, 1) := by decide +kernel
theorem dX3_addEvent_32 : decode cX3_addEvent 32 = .ok (.putfield 48, 3) := by decide +kernel
theorem dX3_addEvent_35 : decode cX3_addEvent 35 = .ok (.aload_n 0, 1) := by decide +kernel
theorem dX3_addEvent_36 : decode cX3_addEvent 36 = .ok (.iload 4, 2) := by decide +kernel
theorem dX3_addEvent_38 : decode cX3_addEvent 38 = .ok (.aload_n 1, 1) := by decide +kernel
theorem dX3_addEvent_39 : decode cX3_addEvent 39 = .ok (.iload_n 2, 1) := by decide +kernel
theorem dX3_addEvent_40 : decode cX3_addEvent 40 = .ok (.iload_n 3, 1) := by decide +kernel
theorem dX3_addEvent_41 : decode cX3_addEvent 41 = .ok (.invokevirtual 82, 3) := by decide +kernel
theorem dX3_addEvent_44 : decode cX3_addEvent 44 = .ok (.iload 4, 2) := by decide +kernel
theorem dX3_addEvent_46 : decode cX3_addEvent 46 = .ok (.ireturn, 1) := by decide +kernel
theorem dX3_nameEvent_0 : decode cX3_nameEvent 0 = .ok (.iconst 0, 1) := by decide +kernel
theorem dX3_nameEvent_1 : decode cX3_nameEvent 1 = .ok (.istore 5, 2) := by decide +kernel
theorem dX3_nameEvent_3 : decode cX3_nameEvent 3 = .ok (.iload 5, 2) := by decide +kernel
theorem dX3_nameEvent_5 : decode cX3_nameEvent 5 = .ok (.iload 4, 2) := by decide +kernel
theorem dX3_nameEvent_7 : decode cX3_nameEvent 7 = .ok (.if_icmp .ge 34, 3) := by decide +kernel
theorem dX3_nameEvent_10 : decode cX3_nameEvent 10 = .ok (.iload 5, 2) := by decide +kernel
theorem dX3_nameEvent_12 : decode cX3_nameEvent 12 = .ok (.iconst 5, 1) := by decide +kernel
theorem dX3_nameEvent_13 : decode cX3_nameEvent 13 = .ok (.if_icmp .ge 28, 3) := by decide +kernel
theorem dX3_nameEvent_16 : decode cX3_nameEvent 16 = .ok (.aload_n 0, 1) := by decide +kernel
theorem dX3_nameEvent_17 : decode cX3_nameEvent 17 = .ok (.getfield 9, 3) := by decide +kernel
theorem dX3_nameEvent_20 : decode cX3_nameEvent 20 = .ok (.iload_n 1, 1) := by decide +kernel
theorem dX3_nameEvent_21 : decode cX3_nameEvent 21 = .ok (.iconst 5, 1) := by decide +kernel
theorem dX3_nameEvent_22 : decode cX3_nameEvent 22 = .ok (.imul, 1) := by decide +kernel
theorem dX3_nameEvent_23 : decode cX3_nameEvent 23 = .ok (.iload 5, 2) := by decide +kernel
theorem dX3_nameEvent_25 : decode cX3_nameEvent 25 = .ok (.iadd, 1) := by decide +kernel
theorem dX3_nameEvent_26 : decode cX3_nameEvent 26 = .ok (.aload_n 2, 1) := by decide +kernel
theorem dX3_nameEvent_27 : decode cX3_nameEvent 27 = .ok (.iload_n 3, 1) := by decide +kernel
theorem dX3_nameEvent_28 : decode cX3_nameEvent 28 = .ok (.iload 5, 2) := by decide +kernel
theorem dX3_nameEvent_30 : decode cX3_nameEvent 30 = .ok (.iadd, 1) := by decide +kernel
theorem dX3_nameEvent_31 : decode cX3_nameEvent 31 = .ok (.invokevirtual 86, 3) := by decide +kernel
theorem dX3_nameEvent_34 : decode cX3_nameEvent 34 = .ok (.iastore, 1) := by decide +kernel
theorem dX3_nameEvent_35 : decode cX3_nameEvent 35 = .ok (.iinc 5 1, 3) := by decide +kernel
theorem dX3_nameEvent_38 : decode cX3_nameEvent 38 = .ok (.goto (-35), 3) := by decide +kernel
theorem dX3_nameEvent_41 : decode cX3_nameEvent 41 = .ok (.aload_n 0, 1) := by decide +kernel
theorem dX3_nameEvent_42 : decode cX3_nameEvent 42 = .ok (.getfield 15, 3) := by decide +kernel
theorem dX3_nameEvent_45 : decode cX3_nameEvent 45 = .ok (.iload_n 1, 1) := by decide +kernel
theorem dX3_nameEvent_46 : decode cX3_nameEvent 46 = .ok (.iload 4, 2) := by decide +kernel
theorem dX3_nameEvent_48 : decode cX3_nameEvent 48 = .ok (.iconst 5, 1) := by decide +kernel
theorem dX3_nameEvent_49 : decode cX3_nameEvent 49 = .ok (.invokestatic 92, 3) := by decide +kernel
theorem dX3_nameEvent_52 : decode cX3_nameEvent 52 = .ok (.iastore, 1) := by decide +kernel
theorem dX3_nameEvent_53 : decode cX3_nameEvent 53 = .ok (.return_, 1) := by decide +kernel
theorem dX3_letterOf_0 : decode cX3_letterOf 0 = .ok (.aload_n 0, 1) := by decide +kernel
theorem dX3_letterOf_1 : decode cX3_letterOf 1 = .ok (.getfield 9, 3) := by decide +kernel
theorem dX3_letterOf_4 : decode cX3_letterOf 4 = .ok (.iload_n 1, 1) := by decide +kernel
theorem dX3_letterOf_5 : decode cX3_letterOf 5 = .ok (.iconst 5, 1) := by decide +kernel
theorem dX3_letterOf_6 : decode cX3_letterOf 6 = .ok (.imul, 1) := by decide +kernel
theorem dX3_letterOf_7 : decode cX3_letterOf 7 = .ok (.iload_n 2, 1) := by decide +kernel
theorem dX3_letterOf_8 : decode cX3_letterOf 8 = .ok (.iadd, 1) := by decide +kernel
theorem dX3_letterOf_9 : decode cX3_letterOf 9 = .ok (.iaload, 1) := by decide +kernel
theorem dX3_letterOf_10 : decode cX3_letterOf 10 = .ok (.ireturn, 1) := by decide +kernel
theorem dX3_findEvent_0 : decode cX3_findEvent 0 = .ok (.iconst 0, 1) := by decide +kernel
theorem dX3_findEvent_1 : decode cX3_findEvent 1 = .ok (.istore 4, 2) := by decide +kernel
theorem dX3_findEvent_3 : decode cX3_findEvent 3 = .ok (.iload 4, 2) := by decide +kernel
theorem dX3_findEvent_5 : decode cX3_findEvent 5 = .ok (.aload_n 0, 1) := by decide +kernel
theorem dX3_findEvent_6 : decode cX3_findEvent 6 = .ok (.getfield 48, 3) := by decide +kernel
theorem dX3_findEvent_9 : decode cX3_findEvent 9 = .ok (.if_icmp .ge 24, 3) := by decide +kernel
theorem dX3_findEvent_12 : decode cX3_findEvent 12 = .ok (.aload_n 0, 1) := by decide +kernel
theorem dX3_findEvent_13 : decode cX3_findEvent 13 = .ok (.iload 4, 2) := by decide +kernel
theorem dX3_findEvent_15 : decode cX3_findEvent 15 = .ok (.aload_n 1, 1) := by decide +kernel
theorem dX3_findEvent_16 : decode cX3_findEvent 16 = .ok (.iload_n 2, 1) := by decide +kernel
theorem dX3_findEvent_17 : decode cX3_findEvent 17 = .ok (.iload_n 3, 1) := by decide +kernel
theorem dX3_findEvent_18 : decode cX3_findEvent 18 = .ok (.invokevirtual 98, 3) := by decide +kernel
theorem dX3_findEvent_21 : decode cX3_findEvent 21 = .ok (.ifCond .eq 6, 3) := by decide +kernel
theorem dX3_findEvent_24 : decode cX3_findEvent 24 = .ok (.iload 4, 2) := by decide +kernel
theorem dX3_findEvent_26 : decode cX3_findEvent 26 = .ok (.ireturn, 1) := by decide +kernel
theorem dX3_findEvent_27 : decode cX3_findEvent 27 = .ok (.iinc 4 1, 3) := by decide +kernel
theorem dX3_findEvent_30 : decode cX3_findEvent 30 = .ok (.goto (-27), 3) := by decide +kernel
theorem dX3_findEvent_33 : decode cX3_findEvent 33 = .ok (.iconst (-1), 1) := by decide +kernel
theorem dX3_findEvent_34 : decode cX3_findEvent 34 = .ok (.ireturn, 1) := by decide +kernel
theorem dX3_isNamed_0 : decode cX3_isNamed 0 = .ok (.aload_n 0, 1) := by decide +kernel
theorem dX3_isNamed_1 : decode cX3_isNamed 1 = .ok (.getfield 15, 3) := by decide +kernel
theorem dX3_isNamed_4 : decode cX3_isNamed 4 = .ok (.iload_n 1, 1) := by decide +kernel
theorem dX3_isNamed_5 : decode cX3_isNamed 5 = .ok (.iaload, 1) := by decide +kernel
theorem dX3_isNamed_6 : decode cX3_isNamed 6 = .ok (.iload 4, 2) := by decide +kernel
theorem dX3_isNamed_8 : decode cX3_isNamed 8 = .ok (.if_icmp .eq 5, 3) := by decide +kernel
theorem dX3_isNamed_11 : decode cX3_isNamed 11 = .ok (.iconst 0, 1) := by decide +kernel
theorem dX3_isNamed_12 : decode cX3_isNamed 12 = .ok (.ireturn, 1) := by decide +kernel
theorem dX3_isNamed_13 : decode cX3_isNamed 13 = .ok (.iconst 0, 1) := by decide +kernel
theorem dX3_isNamed_14 : decode cX3_isNamed 14 = .ok (.istore 5, 2) := by decide +kernel
theorem dX3_isNamed_16 : decode cX3_isNamed 16 = .ok (.iload 5, 2) := by decide +kernel
theorem dX3_isNamed_18 : decode cX3_isNamed 18 = .ok (.iload 4, 2) := by decide +kernel
theorem dX3_isNamed_20 : decode cX3_isNamed 20 = .ok (.if_icmp .ge 29, 3) := by decide +kernel
theorem dX3_isNamed_23 : decode cX3_isNamed 23 = .ok (.aload_n 0, 1) := by decide +kernel
theorem dX3_isNamed_24 : decode cX3_isNamed 24 = .ok (.iload_n 1, 1) := by decide +kernel
theorem dX3_isNamed_25 : decode cX3_isNamed 25 = .ok (.iload 5, 2) := by decide +kernel
theorem dX3_isNamed_27 : decode cX3_isNamed 27 = .ok (.invokevirtual 102, 3) := by decide +kernel
theorem dX3_isNamed_30 : decode cX3_isNamed 30 = .ok (.aload_n 2, 1) := by decide +kernel
theorem dX3_isNamed_31 : decode cX3_isNamed 31 = .ok (.iload_n 3, 1) := by decide +kernel
theorem dX3_isNamed_32 : decode cX3_isNamed 32 = .ok (.iload 5, 2) := by decide +kernel
theorem dX3_isNamed_34 : decode cX3_isNamed 34 = .ok (.iadd, 1) := by decide +kernel
theorem dX3_isNamed_35 : decode cX3_isNamed 35 = .ok (.invokevirtual 86, 3) := by decide +kernel
theorem dX3_isNamed_38 : decode cX3_isNamed 38 = .ok (.if_icmp .eq 5, 3) := by decide +kernel
theorem dX3_isNamed_41 : decode cX3_isNamed 41 = .ok (.iconst 0, 1) := by decide +kernel
theorem dX3_isNamed_42 : decode cX3_isNamed 42 = .ok (.ireturn, 1) := by decide +kernel
theorem dX3_isNamed_43 : decode cX3_isNamed 43 = .ok (.iinc 5 1, 3) := by decide +kernel
theorem dX3_isNamed_46 : decode cX3_isNamed 46 = .ok (.goto (-30), 3) := by decide +kernel
theorem dX3_isNamed_49 : decode cX3_isNamed 49 = .ok (.iconst 1, 1) := by decide +kernel
theorem dX3_isNamed_50 : decode cX3_isNamed 50 = .ok (.ireturn, 1) := by decide +kernel
theorem dX3_addGap_0 : decode cX3_addGap 0 = .ok (.aload_n 0, 1) := by decide +kernel
theorem dX3_addGap_1 : decode cX3_addGap 1 = .ok (.getfield 51, 3) := by decide +kernel
theorem dX3_addGap_4 : decode cX3_addGap 4 = .ok (.bipush 24, 2) := by decide +kernel
theorem dX3_addGap_6 : decode cX3_addGap 6 = .ok (.if_icmp .lt 5, 3) := by decide +kernel
theorem dX3_addGap_9 : decode cX3_addGap 9 = .ok (.iconst (-1), 1) := by decide +kernel
theorem dX3_addGap_10 : decode cX3_addGap 10 = .ok (.ireturn, 1) := by decide +kernel
theorem dX3_addGap_11 : decode cX3_addGap 11 = .ok (.aload_n 0, 1) := by decide +kernel
theorem dX3_addGap_12 : decode cX3_addGap 12 = .ok (.getfield 51, 3) := by decide +kernel
theorem dX3_addGap_15 : decode cX3_addGap 15 = .ok (.istore 6, 2) := by decide +kernel
theorem dX3_addGap_17 : decode cX3_addGap 17 = .ok (.aload_n 0, 1) := by decide +kernel
theorem dX3_addGap_18 : decode cX3_addGap 18 = .ok (.getfield 21, 3) := by decide +kernel
theorem dX3_addGap_21 : decode cX3_addGap 21 = .ok (.iload 6, 2) := by decide +kernel
theorem dX3_addGap_23 : decode cX3_addGap 23 = .ok (.iload_n 1, 1) := by decide +kernel
theorem dX3_addGap_24 : decode cX3_addGap 24 = .ok (.iastore, 1) := by decide +kernel
theorem dX3_addGap_25 : decode cX3_addGap 25 = .ok (.aload_n 0, 1) := by decide +kernel
theorem dX3_addGap_26 : decode cX3_addGap 26 = .ok (.getfield 24, 3) := by decide +kernel
theorem dX3_addGap_29 : decode cX3_addGap 29 = .ok (.iload 6, 2) := by decide +kernel
theorem dX3_addGap_31 : decode cX3_addGap 31 = .ok (.iload_n 2, 1) := by decide +kernel
theorem dX3_addGap_32 : decode cX3_addGap 32 = .ok (.iastore, 1) := by decide +kernel
theorem dX3_addGap_33 : decode cX3_addGap 33 = .ok (.aload_n 0, 1) := by decide +kernel
theorem dX3_addGap_34 : decode cX3_addGap 34 = .ok (.getfield 27, 3) := by decide +kernel
theorem dX3_addGap_37 : decode cX3_addGap 37 = .ok (.iload 6, 2) := by decide +kernel
theorem dX3_addGap_39 : decode cX3_addGap 39 = .ok (.iload_n 3, 1) := by decide +kernel
theorem dX3_addGap_40 : decode cX3_addGap 40 = .ok (.iastore, 1) := by decide +kernel
theorem dX3_addGap_41 : decode cX3_addGap 41 = .ok (.aload_n 0, 1) := by decide +kernel
theorem dX3_addGap_42 : decode cX3_addGap 42 = .ok (.getfield 30, 3) := by decide +kernel
theorem dX3_addGap_45 : decode cX3_addGap 45 = .ok (.iload 6, 2) := by decide +kernel
theorem dX3_addGap_47 : decode cX3_addGap 47 = .ok (.iload 4, 2) := by decide +kernel
theorem dX3_addGap_49 : decode cX3_addGap 49 = .ok (.iastore, 1) := by decide +kernel
theorem dX3_addGap_50 : decode cX3_addGap 50 = .ok (.aload_n 0, 1) := by decide +kernel
theorem dX3_addGap_51 : decode cX3_addGap 51 = .ok (.getfield 33, 3) := by decide +kernel
theorem dX3_addGap_54 : decode cX3_addGap 54 = .ok (.iload 6, 2) := by decide +kernel
theorem dX3_addGap_56 : decode cX3_addGap 56 = .ok (.iload 5, 2) := by decide +kernel
theorem dX3_addGap_58 : decode cX3_addGap 58 = .ok (.bastore, 1) := by decide +kernel
theorem dX3_addGap_59 : decode cX3_addGap 59 = .ok (.aload_n 0, 1) := by decide +kernel
theorem dX3_addGap_60 : decode cX3_addGap 60 = .ok (.dup, 1) := by decide +kernel
theorem dX3_addGap_61 : decode cX3_addGap 61 = .ok (.getfield 51, 3) := by decide +kernel
theorem dX3_addGap_64 : decode cX3_addGap 64 = .ok (.iconst 1, 1) := by decide +kernel
theorem dX3_addGap_65 : decode cX3_addGap 65 = .ok (.iadd, 1) := by decide +kernel
theorem dX3_addGap_66 : decode cX3_addGap 66 = .ok (.putfield 51, 3) := by decide +kernel
theorem dX3_addGap_69 : decode cX3_addGap 69 = .ok (.iload 6, 2) := by decide +kernel
theorem dX3_addGap_71 : decode cX3_addGap 71 = .ok (.ireturn, 1) := by decide +kernel
theorem dX3_removeGap_0 : decode cX3_removeGap 0 = .ok (.iload_n 1, 1) := by decide +kernel
theorem dX3_removeGap_1 : decode cX3_removeGap 1 = .ok (.istore_n 2, 1) := by decide +kernel
theorem dX3_removeGap_2 : decode cX3_removeGap 2 = .ok (.iload_n 2, 1) := by decide +kernel
theorem dX3_removeGap_3 : decode cX3_removeGap 3 = .ok (.iconst 1, 1) := by decide +kernel
theorem dX3_removeGap_4 : decode cX3_removeGap 4 = .ok (.iadd, 1) := by decide +kernel
theorem dX3_removeGap_5 : decode cX3_removeGap 5 = .ok (.aload_n 0, 1) := by decide +kernel
theorem dX3_removeGap_6 : decode cX3_removeGap 6 = .ok (.getfield 51, 3) := by decide +kernel
theorem dX3_removeGap_9 : decode cX3_removeGap 9 = .ok (.if_icmp .ge 79, 3) := by decide +kernel
theorem dX3_removeGap_12 : decode cX3_removeGap 12 = .ok (.aload_n 0, 1) := by decide +kernel
theorem dX3_removeGap_13 : decode cX3_removeGap 13 = .ok (.getfield 21, 3) := by decide +kernel
theorem dX3_removeGap_16 : decode cX3_removeGap 16 = .ok (.iload_n 2, 1) := by decide +kernel
theorem dX3_removeGap_17 : decode cX3_removeGap 17 = .ok (.aload_n 0, 1) := by decide +kernel
theorem dX3_removeGap_18 : decode cX3_removeGap 18 = .ok (.getfield 21, 3) := by decide +kernel
theorem dX3_removeGap_21 : decode cX3_removeGap 21 = .ok (.iload_n 2, 1) := by decide +kernel
theorem dX3_removeGap_22 : decode cX3_removeGap 22 = .ok (.iconst 1, 1) := by decide +kernel
theorem dX3_removeGap_23 : decode cX3_removeGap 23 = .ok (.iadd, 1) := by decide +kernel
theorem dX3_removeGap_24 : decode cX3_removeGap 24 = .ok (.iaload, 1) := by decide +kernel
theorem dX3_removeGap_25 : decode cX3_removeGap 25 = .ok (.iastore, 1) := by decide +kernel
theorem dX3_removeGap_26 : decode cX3_removeGap 26 = .ok (.aload_n 0, 1) := by decide +kernel
theorem dX3_removeGap_27 : decode cX3_removeGap 27 = .ok (.getfield 24, 3) := by decide +kernel
theorem dX3_removeGap_30 : decode cX3_removeGap 30 = .ok (.iload_n 2, 1) := by decide +kernel
theorem dX3_removeGap_31 : decode cX3_removeGap 31 = .ok (.aload_n 0, 1) := by decide +kernel
theorem dX3_removeGap_32 : decode cX3_removeGap 32 = .ok (.getfield 24, 3) := by decide +kernel
theorem dX3_removeGap_35 : decode cX3_removeGap 35 = .ok (.iload_n 2, 1) := by decide +kernel
theorem dX3_removeGap_36 : decode cX3_removeGap 36 = .ok (.iconst 1, 1) := by decide +kernel
theorem dX3_removeGap_37 : decode cX3_removeGap 37 = .ok (.iadd, 1) := by decide +kernel
theorem dX3_removeGap_38 : decode cX3_removeGap 38 = .ok (.iaload, 1) := by decide +kernel
theorem dX3_removeGap_39 : decode cX3_removeGap 39 = .ok (.iastore, 1) := by decide +kernel
theorem dX3_removeGap_40 : decode cX3_removeGap 40 = .ok (.aload_n 0, 1) := by decide +kernel
theorem dX3_removeGap_41 : decode cX3_removeGap 41 = .ok (.getfield 27, 3) := by decide +kernel
theorem dX3_removeGap_44 : decode cX3_removeGap 44 = .ok (.iload_n 2, 1) := by decide +kernel
theorem dX3_removeGap_45 : decode cX3_removeGap 45 = .ok (.aload_n 0, 1) := by decide +kernel
theorem dX3_removeGap_46 : decode cX3_removeGap 46 = .ok (.getfield 27, 3) := by decide +kernel
theorem dX3_removeGap_49 : decode cX3_removeGap 49 = .ok (.iload_n 2, 1) := by decide +kernel
theorem dX3_removeGap_50 : decode cX3_removeGap 50 = .ok (.iconst 1, 1) := by decide +kernel
theorem dX3_removeGap_51 : decode cX3_removeGap 51 = .ok (.iadd, 1) := by decide +kernel
theorem dX3_removeGap_52 : decode cX3_removeGap 52 = .ok (.iaload, 1) := by decide +kernel
theorem dX3_removeGap_53 : decode cX3_removeGap 53 = .ok (.iastore, 1) := by decide +kernel
theorem dX3_removeGap_54 : decode cX3_removeGap 54 = .ok (.aload_n 0, 1) := by decide +kernel
theorem dX3_removeGap_55 : decode cX3_removeGap 55 = .ok (.getfield 30, 3) := by decide +kernel
theorem dX3_removeGap_58 : decode cX3_removeGap 58 = .ok (.iload_n 2, 1) := by decide +kernel
theorem dX3_removeGap_59 : decode cX3_removeGap 59 = .ok (.aload_n 0, 1) := by decide +kernel
theorem dX3_removeGap_60 : decode cX3_removeGap 60 = .ok (.getfield 30, 3) := by decide +kernel
theorem dX3_removeGap_63 : decode cX3_removeGap 63 = .ok (.iload_n 2, 1) := by decide +kernel
theorem dX3_removeGap_64 : decode cX3_removeGap 64 = .ok (.iconst 1, 1) := by decide +kernel
theorem dX3_removeGap_65 : decode cX3_removeGap 65 = .ok (.iadd, 1) := by decide +kernel
theorem dX3_removeGap_66 : decode cX3_removeGap 66 = .ok (.iaload, 1) := by decide +kernel
theorem dX3_removeGap_67 : decode cX3_removeGap 67 = .ok (.iastore, 1) := by decide +kernel
theorem dX3_removeGap_68 : decode cX3_removeGap 68 = .ok (.aload_n 0, 1) := by decide +kernel
theorem dX3_removeGap_69 : decode cX3_removeGap 69 = .ok (.getfield 33, 3) := by decide +kernel
theorem dX3_removeGap_72 : decode cX3_removeGap 72 = .ok (.iload_n 2, 1) := by decide +kernel
theorem dX3_removeGap_73 : decode cX3_removeGap 73 = .ok (.aload_n 0, 1) := by decide +kernel
theorem dX3_removeGap_74 : decode cX3_removeGap 74 = .ok (.getfield 33, 3) := by decide +kernel
theorem dX3_removeGap_77 : decode cX3_removeGap 77 = .ok (.iload_n 2, 1) := by decide +kernel
theorem dX3_removeGap_78 : decode cX3_removeGap 78 = .ok (.iconst 1, 1) := by decide +kernel
theorem dX3_removeGap_79 : decode cX3_removeGap 79 = .ok (.iadd, 1) := by decide +kernel
theorem dX3_removeGap_80 : decode cX3_removeGap 80 = .ok (.baload, 1) := by decide +kernel
theorem dX3_removeGap_81 : decode cX3_removeGap 81 = .ok (.bastore, 1) := by decide +kernel
theorem dX3_removeGap_82 : decode cX3_removeGap 82 = .ok (.iinc 2 1, 3) := by decide +kernel
theorem dX3_removeGap_85 : decode cX3_removeGap 85 = .ok (.goto (-83), 3) := by decide +kernel
theorem dX3_removeGap_88 : decode cX3_removeGap 88 = .ok (.aload_n 0, 1) := by decide +kernel
theorem dX3_removeGap_89 : decode cX3_removeGap 89 = .ok (.dup, 1) := by decide +kernel
theorem dX3_removeGap_90 : decode cX3_removeGap 90 = .ok (.getfield 51, 3) := by decide +kernel
theorem dX3_removeGap_93 : decode cX3_removeGap 93 = .ok (.iconst 1, 1) := by decide +kernel
theorem dX3_removeGap_94 : decode cX3_removeGap 94 = .ok (.isub, 1) := by decide +kernel
theorem dX3_removeGap_95 : decode cX3_removeGap 95 = .ok (.putfield 51, 3) := by decide +kernel
theorem dX3_removeGap_98 : decode cX3_removeGap 98 = .ok (.return_, 1) := by decide +kernel
theorem dX3_isPinned_0 : decode cX3_isPinned 0 = .ok (.aload_n 0, 1) := by decide +kernel
theorem dX3_isPinned_1 : decode cX3_isPinned 1 = .ok (.getfield 18, 3) := by decide +kernel
theorem dX3_isPinned_4 : decode cX3_isPinned 4 = .ok (.iload_n 1, 1) := by decide +kernel
theorem dX3_isPinned_5 : decode cX3_isPinned 5 = .ok (.iaload, 1) := by decide +kernel
theorem dX3_isPinned_6 : decode cX3_isPinned 6 = .ok (.iconst (-1), 1) := by decide +kernel
theorem dX3_isPinned_7 : decode cX3_isPinned 7 = .ok (.if_icmp .eq 7, 3) := by decide +kernel
theorem dX3_isPinned_10 : decode cX3_isPinned 10 = .ok (.iconst 1, 1) := by decide +kernel
theorem dX3_isPinned_11 : decode cX3_isPinned 11 = .ok (.goto 4, 3) := by decide +kernel
theorem dX3_isPinned_14 : decode cX3_isPinned 14 = .ok (.iconst 0, 1) := by decide +kernel
theorem dX3_isPinned_15 : decode cX3_isPinned 15 = .ok (.ireturn, 1) := by decide +kernel
theorem dX3_hasEvent_0 : decode cX3_hasEvent 0 = .ok (.aload_n 0, 1) := by decide +kernel
theorem dX3_hasEvent_1 : decode cX3_hasEvent 1 = .ok (.getfield 21, 3) := by decide +kernel
theorem dX3_hasEvent_4 : decode cX3_hasEvent 4 = .ok (.iload_n 1, 1) := by decide +kernel
theorem dX3_hasEvent_5 : decode cX3_hasEvent 5 = .ok (.iaload, 1) := by decide +kernel
theorem dX3_hasEvent_6 : decode cX3_hasEvent 6 = .ok (.iload_n 2, 1) := by decide +kernel
theorem dX3_hasEvent_7 : decode cX3_hasEvent 7 = .ok (.if_icmp .eq 13, 3) := by decide +kernel
theorem dX3_hasEvent_10 : decode cX3_hasEvent 10 = .ok (.aload_n 0, 1) := by decide +kernel
theorem dX3_hasEvent_11 : decode cX3_hasEvent 11 = .ok (.getfield 24, 3) := by decide +kernel
theorem dX3_hasEvent_14 : decode cX3_hasEvent 14 = .ok (.iload_n 1, 1) := by decide +kernel
theorem dX3_hasEvent_15 : decode cX3_hasEvent 15 = .ok (.iaload, 1) := by decide +kernel
theorem dX3_hasEvent_16 : decode cX3_hasEvent 16 = .ok (.iload_n 2, 1) := by decide +kernel
theorem dX3_hasEvent_17 : decode cX3_hasEvent 17 = .ok (.if_icmp .ne 7, 3) := by decide +kernel
theorem dX3_hasEvent_20 : decode cX3_hasEvent 20 = .ok (.iconst 1, 1) := by decide +kernel
theorem dX3_hasEvent_21 : decode cX3_hasEvent 21 = .ok (.goto 4, 3) := by decide +kernel
theorem dX3_hasEvent_24 : decode cX3_hasEvent 24 = .ok (.iconst 0, 1) := by decide +kernel
theorem dX3_hasEvent_25 : decode cX3_hasEvent 25 = .ok (.ireturn, 1) := by decide +kernel
theorem dX3_countPinned_0 : decode cX3_countPinned 0 = .ok (.iconst 0, 1) := by decide +kernel
theorem dX3_countPinned_1 : decode cX3_countPinned 1 = .ok (.istore_n 1, 1) := by decide +kernel
theorem dX3_countPinned_2 : decode cX3_countPinned 2 = .ok (.iconst 0, 1) := by decide +kernel
theorem dX3_countPinned_3 : decode cX3_countPinned 3 = .ok (.istore_n 2, 1) := by decide +kernel
theorem dX3_countPinned_4 : decode cX3_countPinned 4 = .ok (.iload_n 2, 1) := by decide +kernel
theorem dX3_countPinned_5 : decode cX3_countPinned 5 = .ok (.aload_n 0, 1) := by decide +kernel
theorem dX3_countPinned_6 : decode cX3_countPinned 6 = .ok (.getfield 48, 3) := by decide +kernel
theorem dX3_countPinned_9 : decode cX3_countPinned 9 = .ok (.if_icmp .ge 20, 3) := by decide +kernel
theorem dX3_countPinned_12 : decode cX3_countPinned 12 = .ok (.iload_n 1, 1) := by decide +kernel
theorem dX3_countPinned_13 : decode cX3_countPinned 13 = .ok (.aload_n 0, 1) := by decide +kernel
theorem dX3_countPinned_14 : decode cX3_countPinned 14 = .ok (.iload_n 2, 1) := by decide +kernel
theorem dX3_countPinned_15 : decode cX3_countPinned 15 = .ok (.invokevirtual 105, 3) := by decide +kernel
theorem dX3_countPinned_18 : decode cX3_countPinned 18 = .ok (.invokestatic 109, 3) := by decide +kernel
theorem dX3_countPinned_21 : decode cX3_countPinned 21 = .ok (.iadd, 1) := by decide +kernel
theorem dX3_countPinned_22 : decode cX3_countPinned 22 = .ok (.istore_n 1, 1) := by decide +kernel
theorem dX3_countPinned_23 : decode cX3_countPinned 23 = .ok (.iinc 2 1, 3) := by decide +kernel
theorem dX3_countPinned_26 : decode cX3_countPinned 26 = .ok (.goto (-22), 3) := by decide +kernel
theorem dX3_countPinned_29 : decode cX3_countPinned 29 = .ok (.iload_n 1, 1) := by decide +kernel
theorem dX3_countPinned_30 : decode cX3_countPinned 30 = .ok (.ireturn, 1) := by decide +kernel
theorem dX3_countOn_0 : decode cX3_countOn 0 = .ok (.iconst 0, 1) := by decide +kernel
theorem dX3_countOn_1 : decode cX3_countOn 1 = .ok (.istore_n 1, 1) := by decide +kernel
theorem dX3_countOn_2 : decode cX3_countOn 2 = .ok (.iconst 0, 1) := by decide +kernel
theorem dX3_countOn_3 : decode cX3_countOn 3 = .ok (.istore_n 2, 1) := by decide +kernel
theorem dX3_countOn_4 : decode cX3_countOn 4 = .ok (.iload_n 2, 1) := by decide +kernel
theorem dX3_countOn_5 : decode cX3_countOn 5 = .ok (.aload_n 0, 1) := by decide +kernel
theorem dX3_countOn_6 : decode cX3_countOn 6 = .ok (.getfield 51, 3) := by decide +kernel
theorem dX3_countOn_9 : decode cX3_countOn 9 = .ok (.if_icmp .ge 21, 3) := by decide +kernel
theorem dX3_countOn_12 : decode cX3_countOn 12 = .ok (.iload_n 1, 1) := by decide +kernel
theorem dX3_countOn_13 : decode cX3_countOn 13 = .ok (.aload_n 0, 1) := by decide +kernel
theorem dX3_countOn_14 : decode cX3_countOn 14 = .ok (.getfield 33, 3) := by decide +kernel
theorem dX3_countOn_17 : decode cX3_countOn 17 = .ok (.iload_n 2, 1) := by decide +kernel
theorem dX3_countOn_18 : decode cX3_countOn 18 = .ok (.baload, 1) := by decide +kernel
theorem dX3_countOn_19 : decode cX3_countOn 19 = .ok (.invokestatic 109, 3) := by decide +kernel
theorem dX3_countOn_22 : decode cX3_countOn 22 = .ok (.iadd, 1) := by decide +kernel
theorem dX3_countOn_23 : decode cX3_countOn 23 = .ok (.istore_n 1, 1) := by decide +kernel
theorem dX3_countOn_24 : decode cX3_countOn 24 = .ok (.iinc 2 1, 3) := by decide +kernel
theorem dX3_countOn_27 : decode cX3_countOn 27 = .ok (.goto (-23), 3) := by decide +kernel
theorem dX3_countOn_30 : decode cX3_countOn 30 = .ok (.iload_n 1, 1) := by decide +kernel
theorem dX3_countOn_31 : decode cX3_countOn 31 = .ok (.ireturn, 1) := by decide +kernel
theorem dX3_countOnOf_0 : decode cX3_countOnOf 0 = .ok (.iconst 0, 1) := by decide +kernel
theorem dX3_countOnOf_1 : decode cX3_countOnOf 1 = .ok (.istore_n 2, 1) := by decide +kernel
theorem dX3_countOnOf_2 : decode cX3_countOnOf 2 = .ok (.iconst 0, 1) := by decide +kernel
theorem dX3_countOnOf_3 : decode cX3_countOnOf 3 = .ok (.istore_n 3, 1) := by decide +kernel
theorem dX3_countOnOf_4 : decode cX3_countOnOf 4 = .ok (.iload_n 3, 1) := by decide +kernel
theorem dX3_countOnOf_5 : decode cX3_countOnOf 5 = .ok (.aload_n 0, 1) := by decide +kernel
theorem dX3_countOnOf_6 : decode cX3_countOnOf 6 = .ok (.getfield 51, 3) := by decide +kernel
theorem dX3_countOnOf_9 : decode cX3_countOnOf 9 = .ok (.if_icmp .ge 38, 3) := by decide +kernel
theorem dX3_countOnOf_12 : decode cX3_countOnOf 12 = .ok (.iload_n 2, 1) := by decide +kernel
theorem dX3_countOnOf_13 : decode cX3_countOnOf 13 = .ok (.aload_n 0, 1) := by decide +kernel
theorem dX3_countOnOf_14 : decode cX3_countOnOf 14 = .ok (.getfield 33, 3) := by decide +kernel
theorem dX3_countOnOf_17 : decode cX3_countOnOf 17 = .ok (.iload_n 3, 1) := by decide +kernel
theorem dX3_countOnOf_18 : decode cX3_countOnOf 18 = .ok (.baload, 1) := by decide +kernel
theorem dX3_countOnOf_19 : decode cX3_countOnOf 19 = .ok (.ifCond .eq 16, 3) := by decide +kernel
theorem dX3_countOnOf_22 : decode cX3_countOnOf 22 = .ok (.aload_n 0, 1) := by decide +kernel
theorem dX3_countOnOf_23 : decode cX3_countOnOf 23 = .ok (.iload_n 3, 1) := by decide +kernel
theorem dX3_countOnOf_24 : decode cX3_countOnOf 24 = .ok (.iload_n 1, 1) := by decide +kernel
theorem dX3_countOnOf_25 : decode cX3_countOnOf 25 = .ok (.invokevirtual 113, 3) := by decide +kernel
theorem dX3_countOnOf_28 : decode cX3_countOnOf 28 = .ok (.ifCond .eq 7, 3) := by decide +kernel
theorem dX3_countOnOf_31 : decode cX3_countOnOf 31 = .ok (.iconst 1, 1) := by decide +kernel
theorem dX3_countOnOf_32 : decode cX3_countOnOf 32 = .ok (.goto 4, 3) := by decide +kernel
theorem dX3_countOnOf_35 : decode cX3_countOnOf 35 = .ok (.iconst 0, 1) := by decide +kernel
theorem dX3_countOnOf_36 : decode cX3_countOnOf 36 = .ok (.invokestatic 109, 3) := by decide +kernel
theorem dX3_countOnOf_39 : decode cX3_countOnOf 39 = .ok (.iadd, 1) := by decide +kernel
theorem dX3_countOnOf_40 : decode cX3_countOnOf 40 = .ok (.istore_n 2, 1) := by decide +kernel
theorem dX3_countOnOf_41 : decode cX3_countOnOf 41 = .ok (.iinc 3 1, 3) := by decide +kernel
theorem dX3_countOnOf_44 : decode cX3_countOnOf 44 = .ok (.goto (-40), 3) := by decide +kernel
theorem dX3_countOnOf_47 : decode cX3_countOnOf 47 = .ok (.iload_n 2, 1) := by decide +kernel
theorem dX3_countOnOf_48 : decode cX3_countOnOf 48 = .ok (.ireturn, 1) := by decide +kernel
theorem dX4_init_0 : decode cX4_init 0 = .ok (.aload_n 0, 1) := by decide +kernel
theorem dX4_init_1 : decode cX4_init 1 = .ok (.invokespecial 3, 3) := by decide +kernel
theorem dX4_init_4 : decode cX4_init 4 = .ok (.aload_n 0, 1) := by decide +kernel
theorem dX4_init_5 : decode cX4_init 5 = .ok (.new 9, 3) := by decide +kernel
theorem dX4_init_8 : decode cX4_init 8 = .ok (.dup, 1) := by decide +kernel
theorem dX4_init_9 : decode cX4_init 9 = .ok (.invokespecial 11, 3) := by decide +kernel
theorem dX4_init_12 : decode cX4_init 12 = .ok (.putfield 12, 3) := by decide +kernel
theorem dX4_init_15 : decode cX4_init 15 = .ok (.aload_n 0, 1) := by decide +kernel
theorem dX4_init_16 : decode cX4_init 16 = .ok (.new 18, 3) := by decide +kernel
theorem dX4_init_19 : decode cX4_init 19 = .ok (.dup, 1) := by decide +kernel
theorem dX4_init_20 : decode cX4_init 20 = .ok (.invokespecial 20, 3) := by decide +kernel
theorem dX4_init_23 : decode cX4_init 23 = .ok (.putfield 21, 3) := by decide +kernel
theorem dX4_init_26 : decode cX4_init 26 = .ok (.aload_n 0, 1) := by decide +kernel
theorem dX4_init_27 : decode cX4_init 27 = .ok (.new 25, 3) := by decide +kernel
theorem dX4_init_30 : decode cX4_init 30 = .ok (.dup, 1) := by decide +kernel
theorem dX4_init_31 : decode cX4_init 31 = .ok (.invokespecial 27, 3) := by decide +kernel
theorem dX4_init_34 : decode cX4_init 34 = .ok (.putfield 28, 3) := by decide +kernel
theorem dX4_init_37 : decode cX4_init 37 = .ok (.return_, 1) := by decide +kernel
theorem dX4_read_0 : decode cX4_read 0 = .ok (.aload_n 0, 1) := by decide +kernel
theorem dX4_read_1 : decode cX4_read 1 = .ok (.getfield 21, 3) := by decide +kernel
theorem dX4_read_4 : decode cX4_read 4 = .ok (.invokevirtual 32, 3) := by decide +kernel
theorem dX4_read_7 : decode cX4_read 7 = .ok (.aload_n 0, 1) := by decide +kernel
theorem dX4_read_8 : decode cX4_read 8 = .ok (.iconst 0, 1) := by decide +kernel
theorem dX4_read_9 : decode cX4_read 9 = .ok (.putfield 35, 3) := by decide +kernel
theorem dX4_read_12 : decode cX4_read 12 = .ok (.aload_n 0, 1) := by decide +kernel
theorem dX4_read_13 : decode cX4_read 13 = .ok (.iconst 0, 1) := by decide +kernel
theorem dX4_read_14 : decode cX4_read 14 = .ok (.putfield 39, 3) := by decide +kernel
theorem dX4_read_17 : decode cX4_read 17 = .ok (.aload_n 0, 1) := by decide +kernel
theorem dX4_read_18 : decode cX4_read 18 = .ok (.invokevirtual 42, 3) := by decide +kernel
theorem dX4_read_21 : decode cX4_read 21 = .ok (.aload_n 0, 1) := by decide +kernel
theorem dX4_read_22 : decode cX4_read 22 = .ok (.invokevirtual 45, 3) := by decide +kernel
theorem dX4_read_25 : decode cX4_read 25 = .ok (.ifCond .ne 5, 3) := by decide +kernel
theorem dX4_read_28 : decode cX4_read 28 = .ok (.iconst 0, 1) := by decide +kernel
theorem dX4_read_29 : decode cX4_read 29 = .ok (.ireturn, 1) := by decide +kernel
theorem dX4_read_30 : decode cX4_read 30 = .ok (.iconst 0, 1) := by decide +kernel
theorem dX4_read_31 : decode cX4_read 31 = .ok (.istore_n 1, 1) := by decide +kernel
theorem dX4_read_32 : decode cX4_read 32 = .ok (.iload_n 1, 1) := by decide +kernel
theorem dX4_read_33 : decode cX4_read 33 = .ok (.bipush 10, 2) := by decide +kernel
theorem dX4_read_35 : decode cX4_read 35 = .ok (.if_icmp .ge 27, 3) := by decide +kernel
theorem dX4_read_38 : decode cX4_read 38 = .ok (.aload_n 0, 1) := by decide +kernel
theorem dX4_read_39 : decode cX4_read 39 = .ok (.ldc 49, 2) := by decide +kernel
theorem dX4_read_41 : decode cX4_read 41 = .ok (.invokevirtual 51, 3) := by decide +kernel
theorem dX4_read_44 : decode cX4_read 44 = .ok (.ifCond .eq 18, 3) := by decide +kernel
theorem dX4_read_47 : decode cX4_read 47 = .ok (.aload_n 0, 1) := by decide +kernel
theorem dX4_read_48 : decode cX4_read 48 = .ok (.invokevirtual 55, 3) := by decide +kernel
theorem dX4_read_51 : decode cX4_read 51 = .ok (.ifCond .ne 5, 3) := by decide +kernel
theorem dX4_read_54 : decode cX4_read 54 = .ok (.iconst 0, 1) := by decide +kernel
theorem dX4_read_55 : decode cX4_read 55 = .ok (.ireturn, 1) := by decide +kernel
theorem dX4_read_56 : decode cX4_read 56 = .ok (.iinc 1 1, 3) := by decide +kernel
theorem dX4_read_59 : decode cX4_read 59 = .ok (.goto (-27), 3) := by decide +kernel
theorem dX4_read_62 : decode cX4_read 62 = .ok (.aload_n 0, 1) := by decide +kernel
theorem dX4_read_63 : decode cX4_read 63 = .ok (.getfield 28, 3) := by decide +kernel
theorem dX4_read_66 : decode cX4_read 66 = .ok (.aload_n 0, 1) := by decide +kernel
theorem dX4_read_67 : decode cX4_read 67 = .ok (.getfield 21, 3) := by decide +kernel
theorem dX4_read_70 : decode cX4_read 70 = .ok (.iconst (-1), 1) := by decide +kernel
theorem dX4_read_71 : decode cX4_read 71 = .ok (.invokevirtual 58, 3) := by decide +kernel
theorem dX4_read_74 : decode cX4_read 74 = .ok (.iconst 0, 1) := by decide +kernel
theorem dX4_read_75 : decode cX4_read 75 = .ok (.istore_n 1, 1) := by decide +kernel
theorem dX4_read_76 : decode cX4_read 76 = .ok (.iload_n 1, 1) := by decide +kernel
theorem dX4_read_77 : decode cX4_read 77 = .ok (.bipush 24, 2) := by decide +kernel
theorem dX4_read_79 : decode cX4_read 79 = .ok (.if_icmp .gt 27, 3) := by decide +kernel
theorem dX4_read_82 : decode cX4_read 82 = .ok (.aload_n 0, 1) := by decide +kernel
theorem dX4_read_83 : decode cX4_read 83 = .ok (.ldc 62, 2) := by decide +kernel
theorem dX4_read_85 : decode cX4_read 85 = .ok (.invokevirtual 51, 3) := by decide +kernel
theorem dX4_read_88 : decode cX4_read 88 = .ok (.ifCond .eq 18, 3) := by decide +kernel
theorem dX4_read_91 : decode cX4_read 91 = .ok (.aload_n 0, 1) := by decide +kernel
theorem dX4_read_92 : decode cX4_read 92 = .ok (.invokevirtual 64, 3) := by decide +kernel
theorem dX4_read_95 : decode cX4_read 95 = .ok (.ifCond .ne 5, 3) := by decide +kernel
theorem dX4_read_98 : decode cX4_read 98 = .ok (.iconst 0, 1) := by decide +kernel
theorem dX4_read_99 : decode cX4_read 99 = .ok (.ireturn, 1) := by decide +kernel
theorem dX4_read_100 : decode cX4_read 100 = .ok (.iinc 1 1, 3) := by decide +kernel
theorem dX4_read_103 : decode cX4_read 103 = .ok (.goto (-27), 3) := by decide +kernel
theorem dX4_read_106 : decode cX4_read 106 = .ok (.iconst 0, 1) := by decide +kernel
theorem dX4_read_107 : decode cX4_read 107 = .ok (.istore_n 1, 1) := by decide +kernel
theorem dX4_read_108 : decode cX4_read 108 = .ok (.iload_n 1, 1) := by decide +kernel
theorem dX4_read_109 : decode cX4_read 109 = .ok (.bipush 10, 2) := by decide +kernel
theorem dX4_read_111 : decode cX4_read 111 = .ok (.if_icmp .ge 27, 3) := by decide +kernel
theorem dX4_read_114 : decode cX4_read 114 = .ok (.aload_n 0, 1) := by decide +kernel
theorem dX4_read_115 : decode cX4_read 115 = .ok (.ldc 67, 2) := by decide +kernel
theorem dX4_read_117 : decode cX4_read 117 = .ok (.invokevirtual 51, 3) := by decide +kernel
theorem dX4_read_120 : decode cX4_read 120 = .ok (.ifCond .eq 18, 3) := by decide +kernel
theorem dX4_read_123 : decode cX4_read 123 = .ok (.aload_n 0, 1) := by decide +kernel
theorem dX4_read_124 : decode cX4_read 124 = .ok (.invokevirtual 69, 3) := by decide +kernel
theorem dX4_read_127 : decode cX4_read 127 = .ok (.ifCond .ne 5, 3) := by decide +kernel
theorem dX4_read_130 : decode cX4_read 130 = .ok (.iconst 0, 1) := by decide +kernel
theorem dX4_read_131 : decode cX4_read 131 = .ok (.ireturn, 1) := by decide +kernel
theorem dX4_read_132 : decode cX4_read 132 = .ok (.iinc 1 1, 3) := by decide +kernel
theorem dX4_read_135 : decode cX4_read 135 = .ok (.goto (-27), 3) := by decide +kernel
theorem dX4_read_138 : decode cX4_read 138 = .ok (.aload_n 0, 1) := by decide +kernel
theorem dX4_read_139 : decode cX4_read 139 = .ok (.getfield 72, 3) := by decide +kernel
theorem dX4_read_142 : decode cX4_read 142 = .ok (.ifCond .ne 7, 3) := by decide +kernel
theorem dX4_read_145 : decode cX4_read 145 = .ok (.iconst 1, 1) := by decide +kernel
theorem dX4_read_146 : decode cX4_read 146 = .ok (.goto 4, 3) := by decide +kernel
theorem dX4_read_149 : decode cX4_read 149 = .ok (.iconst 0, 1) := by decide +kernel
theorem dX4_read_150 : decode cX4_read 150 = .ok (.ireturn, 1) := by decide +kernel
theorem dX4_position_0 : decode cX4_position 0 = .ok (.aload_n 0, 1) := by decide +kernel
theorem dX4_position_1 : decode cX4_position 1 = .ok (.getfield 35, 3) := by decide +kernel
theorem dX4_position_4 : decode cX4_position 4 = .ok (.ireturn, 1) := by decide +kernel
theorem dX4_next_0 : decode cX4_next 0 = .ok (.aload_n 0, 1) := by decide +kernel
theorem dX4_next_1 : decode cX4_next 1 = .ok (.dup, 1) := by decide +kernel
theorem dX4_next_2 : decode cX4_next 2 = .ok (.getfield 35, 3) := by decide +kernel
theorem dX4_next_5 : decode cX4_next 5 = .ok (.aload_n 0, 1) := by decide +kernel
theorem dX4_next_6 : decode cX4_next 6 = .ok (.getfield 39, 3) := by decide +kernel
theorem dX4_next_9 : decode cX4_next 9 = .ok (.iadd, 1) := by decide +kernel
theorem dX4_next_10 : decode cX4_next 10 = .ok (.putfield 35, 3) := by decide +kernel
theorem dX4_next_13 : decode cX4_next 13 = .ok (.aload_n 0, 1) := by decide +kernel
theorem dX4_next_14 : decode cX4_next 14 = .ok (.dup, 1) := by decide +kernel
theorem dX4_next_15 : decode cX4_next 15 = .ok (.getfield 35, 3) := by decide +kernel
theorem dX4_next_18 : decode cX4_next 18 = .ok (.aload_n 0, 1) := by decide +kernel
theorem dX4_next_19 : decode cX4_next 19 = .ok (.getfield 12, 3) := by decide +kernel
theorem dX4_next_22 : decode cX4_next 22 = .ok (.aload_n 0, 1) := by decide +kernel
theorem dX4_next_23 : decode cX4_next 23 = .ok (.getfield 35, 3) := by decide +kernel
theorem dX4_next_26 : decode cX4_next 26 = .ok (.invokevirtual 75, 3) := by decide +kernel
theorem dX4_next_29 : decode cX4_next 29 = .ok (.iadd, 1) := by decide +kernel
theorem dX4_next_30 : decode cX4_next 30 = .ok (.putfield 35, 3) := by decide +kernel
theorem dX4_next_33 : decode cX4_next 33 = .ok (.aload_n 0, 1) := by decide +kernel
theorem dX4_next_34 : decode cX4_next 34 = .ok (.getfield 12, 3) := by decide +kernel
theorem dX4_next_37 : decode cX4_next 37 = .ok (.aload_n 0, 1) := by decide +kernel
theorem dX4_next_38 : decode cX4_next 38 = .ok (.getfield 35, 3) := by decide +kernel
theorem dX4_next_41 : decode cX4_next 41 = .ok (.invokevirtual 79, 3) := by decide +kernel
theorem dX4_next_44 : decode cX4_next 44 = .ok (.istore_n 1, 1) := by decide +kernel
theorem dX4_next_45 : decode cX4_next 45 = .ok (.iload_n 1, 1) := by decide +kernel
theorem dX4_next_46 : decode cX4_next 46 = .ok (.iconst (-1), 1) := by decide +kernel
theorem dX4_next_47 : decode cX4_next 47 = .ok (.if_icmp .ne 16, 3) := by decide +kernel
theorem dX4_next_50 : decode cX4_next 50 = .ok (.aload_n 0, 1) := by decide +kernel
theorem dX4_next_51 : decode cX4_next 51 = .ok (.iconst 0, 1) := by decide +kernel
theorem dX4_next_52 : decode cX4_next 52 = .ok (.putfield 72, 3) := by decide +kernel
theorem dX4_next_55 : decode cX4_next 55 = .ok (.aload_n 0, 1) := by decide +kernel
theorem dX4_next_56 : decode cX4_next 56 = .ok (.iconst 0, 1) := by decide +kernel
theorem dX4_next_57 : decode cX4_next 57 = .ok (.putfield 39, 3) := by decide +kernel
theorem dX4_next_60 : decode cX4_next 60 = .ok (.goto 107, 3) := by decide +kernel
theorem dX4_next_63 : decode cX4_next 63 = .ok (.iload_n 1, 1) := by decide +kernel
theorem dX4_next_64 : decode cX4_next 64 = .ok (.invokestatic 82, 3) := by decide +kernel
theorem dX4_next_67 : decode cX4_next 67 = .ok (.ifCond .eq 38, 3) := by decide +kernel
theorem dX4_next_70 : decode cX4_next 70 = .ok (.aload_n 0, 1) := by decide +kernel
theorem dX4_next_71 : decode cX4_next 71 = .ok (.aload_n 0, 1) := by decide +kernel
theorem dX4_next_72 : decode cX4_next 72 = .ok (.getfield 12, 3) := by decide +kernel
theorem dX4_next_75 : decode cX4_next 75 = .ok (.aload_n 0, 1) := by decide +kernel
theorem dX4_next_76 : decode cX4_next 76 = .ok (.getfield 35, 3) := by decide +kernel
theorem dX4_next_79 : decode cX4_next 79 = .ok (.invokevirtual 86, 3) := by decide +kernel
theorem dX4_next_82 : decode cX4_next 82 = .ok (.putfield 39, 3) := by decide +kernel
theorem dX4_next_85 : decode cX4_next 85 = .ok (.aload_n 0, 1) := by decide +kernel
theorem dX4_next_86 : decode cX4_next 86 = .ok (.aload_n 0, 1) := by decide +kernel
theorem dX4_next_87 : decode cX4_next 87 = .ok (.getfield 39, 3) := by decide +kernel
theorem dX4_next_90 : decode cX4_next 90 = .ok (.iconst 5, 1) := by decide +kernel
theorem dX4_next_91 : decode cX4_next 91 = .ok (.if_icmp .gt 7, 3) := by decide +kernel
theorem dX4_next_94 : decode cX4_next 94 = .ok (.iconst 2, 1) := by decide +kernel
theorem dX4_next_95 : decode cX4_next 95 = .ok (.goto 4, 3) := by decide +kernel
theorem dX4_next_98 : decode cX4_next 98 = .ok (.iconst 1, 1) := by decide +kernel
theorem dX4_next_99 : decode cX4_next 99 = .ok (.putfield 72, 3) := by decide +kernel
theorem dX4_next_102 : decode cX4_next 102 = .ok (.goto 65, 3) := by decide +kernel
theorem dX4_next_105 : decode cX4_next 105 = .ok (.iload_n 1, 1) := by decide +kernel
theorem dX4_next_106 : decode cX4_next 106 = .ok (.invokestatic 89, 3) := by decide +kernel
theorem dX4_next_109 : decode cX4_next 109 = .ok (.ifCond .eq 38, 3) := by decide +kernel
theorem dX4_next_112 : decode cX4_next 112 = .ok (.aload_n 0, 1) := by decide +kernel
theorem dX4_next_113 : decode cX4_next 113 = .ok (.aload_n 0, 1) := by decide +kernel
theorem dX4_next_114 : decode cX4_next 114 = .ok (.getfield 12, 3) := by decide +kernel
theorem dX4_next_117 : decode cX4_next 117 = .ok (.aload_n 0, 1) := by decide +kernel
theorem dX4_next_118 : decode cX4_next 118 = .ok (.getfield 35, 3) := by decide +kernel
theorem dX4_next_121 : decode cX4_next 121 = .ok (.invokevirtual 92, 3) := by decide +kernel
theorem dX4_next_124 : decode cX4_next 124 = .ok (.putfield 39, 3) := by decide +kernel
theorem dX4_next_127 : decode cX4_next 127 = .ok (.aload_n 0, 1) := by decide +kernel
theorem dX4_next_128 : decode cX4_next 128 = .ok (.aload_n 0, 1) := by decide +kernel
