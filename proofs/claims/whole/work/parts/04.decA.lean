theorem dX0_init_0 : decode cX0_init 0 = .ok (.aload_n 0, 1) := by decide +kernel
theorem dX0_init_1 : decode cX0_init 1 = .ok (.invokespecial 3, 3) := by decide +kernel
theorem dX0_init_4 : decode cX0_init 4 = .ok (.aload_n 0, 1) := by decide +kernel
theorem dX0_init_5 : decode cX0_init 5 = .ok (.lconst 0, 1) := by decide +kernel
theorem dX0_init_6 : decode cX0_init 6 = .ok (.putfield 9, 3) := by decide +kernel
theorem dX0_init_9 : decode cX0_init 9 = .ok (.aload_n 0, 1) := by decide +kernel
theorem dX0_init_10 : decode cX0_init 10 = .ok (.lconst 0, 1) := by decide +kernel
theorem dX0_init_11 : decode cX0_init 11 = .ok (.putfield 15, 3) := by decide +kernel
theorem dX0_init_14 : decode cX0_init 14 = .ok (.aload_n 0, 1) := by decide +kernel
theorem dX0_init_15 : decode cX0_init 15 = .ok (.bipush 11, 2) := by decide +kernel
theorem dX0_init_17 : decode cX0_init 17 = .ok (.newarray .long, 2) := by decide +kernel
theorem dX0_init_19 : decode cX0_init 19 = .ok (.putfield 18, 3) := by decide +kernel
theorem dX0_init_22 : decode cX0_init 22 = .ok (.aload_n 0, 1) := by decide +kernel
theorem dX0_init_23 : decode cX0_init 23 = .ok (.new 22, 3) := by decide +kernel
theorem dX0_init_26 : decode cX0_init 26 = .ok (.dup, 1) := by decide +kernel
theorem dX0_init_27 : decode cX0_init 27 = .ok (.invokespecial 24, 3) := by decide +kernel
theorem dX0_init_30 : decode cX0_init 30 = .ok (.putfield 25, 3) := by decide +kernel
theorem dX0_init_33 : decode cX0_init 33 = .ok (.return_, 1) := by decide +kernel
theorem dX0_gather_0 : decode cX0_gather 0 = .ok (.aload_n 0, 1) := by decide +kernel
theorem dX0_gather_1 : decode cX0_gather 1 = .ok (.lconst 0, 1) := by decide +kernel
theorem dX0_gather_2 : decode cX0_gather 2 = .ok (.putfield 9, 3) := by decide +kernel
theorem dX0_gather_5 : decode cX0_gather 5 = .ok (.aload_n 0, 1) := by decide +kernel
theorem dX0_gather_6 : decode cX0_gather 6 = .ok (.lconst 0, 1) := by decide +kernel
theorem dX0_gather_7 : decode cX0_gather 7 = .ok (.putfield 15, 3) := by decide +kernel
theorem dX0_gather_10 : decode cX0_gather 10 = .ok (.aload_n 0, 1) := by decide +kernel
theorem dX0_gather_11 : decode cX0_gather 11 = .ok (.getfield 18, 3) := by decide +kernel
theorem dX0_gather_14 : decode cX0_gather 14 = .ok (.lconst 0, 1) := by decide +kernel
theorem dX0_gather_15 : decode cX0_gather 15 = .ok (.invokestatic 29, 3) := by decide +kernel
theorem dX0_gather_18 : decode cX0_gather 18 = .ok (.iconst 0, 1) := by decide +kernel
theorem dX0_gather_19 : decode cX0_gather 19 = .ok (.istore 5, 2) := by decide +kernel
theorem dX0_gather_21 : decode cX0_gather 21 = .ok (.iload 5, 2) := by decide +kernel
theorem dX0_gather_23 : decode cX0_gather 23 = .ok (.bipush 32, 2) := by decide +kernel
theorem dX0_gather_25 : decode cX0_gather 25 = .ok (.if_icmp .ge 66, 3) := by decide +kernel
theorem dX0_gather_28 : decode cX0_gather 28 = .ok (.iload 5, 2) := by decide +kernel
theorem dX0_gather_30 : decode cX0_gather 30 = .ok (.aload_n 1, 1) := by decide +kernel
theorem dX0_gather_31 : decode cX0_gather 31 = .ok (.getfield 35, 3) := by decide +kernel
theorem dX0_gather_34 : decode cX0_gather 34 = .ok (.invokestatic 41, 3) := by decide +kernel
theorem dX0_gather_37 : decode cX0_gather 37 = .ok (.lstore 6, 2) := by decide +kernel
theorem dX0_gather_39 : decode cX0_gather 39 = .ok (.lload 6, 2) := by decide +kernel
theorem dX0_gather_41 : decode cX0_gather 41 = .ok (.lconst 0, 1) := by decide +kernel
theorem dX0_gather_42 : decode cX0_gather 42 = .ok (.lcmp, 1) := by decide +kernel
theorem dX0_gather_43 : decode cX0_gather 43 = .ok (.ifCond .eq 42, 3) := by decide +kernel
theorem dX0_gather_46 : decode cX0_gather 46 = .ok (.iload 4, 2) := by decide +kernel
theorem dX0_gather_48 : decode cX0_gather 48 = .ok (.invokestatic 45, 3) := by decide +kernel
theorem dX0_gather_51 : decode cX0_gather 51 = .ok (.ifCond .eq 34, 3) := by decide +kernel
theorem dX0_gather_54 : decode cX0_gather 54 = .ok (.aload_n 0, 1) := by decide +kernel
theorem dX0_gather_55 : decode cX0_gather 55 = .ok (.getfield 25, 3) := by decide +kernel
theorem dX0_gather_58 : decode cX0_gather 58 = .ok (.aload_n 1, 1) := by decide +kernel
theorem dX0_gather_59 : decode cX0_gather 59 = .ok (.aload_n 2, 1) := by decide +kernel
theorem dX0_gather_60 : decode cX0_gather 60 = .ok (.iload_n 3, 1) := by decide +kernel
theorem dX0_gather_61 : decode cX0_gather 61 = .ok (.iload 5, 2) := by decide +kernel
theorem dX0_gather_63 : decode cX0_gather 63 = .ok (.invokevirtual 49, 3) := by decide +kernel
theorem dX0_gather_66 : decode cX0_gather 66 = .ok (.aload_n 0, 1) := by decide +kernel
theorem dX0_gather_67 : decode cX0_gather 67 = .ok (.lload 6, 2) := by decide +kernel
theorem dX0_gather_69 : decode cX0_gather 69 = .ok (.aload_n 0, 1) := by decide +kernel
theorem dX0_gather_70 : decode cX0_gather 70 = .ok (.getfield 25, 3) := by decide +kernel
theorem dX0_gather_73 : decode cX0_gather 73 = .ok (.getfield 53, 3) := by decide +kernel
theorem dX0_gather_76 : decode cX0_gather 76 = .ok (.iload 4, 2) := by decide +kernel
theorem dX0_gather_78 : decode cX0_gather 78 = .ok (.iaload, 1) := by decide +kernel
theorem dX0_gather_79 : decode cX0_gather 79 = .ok (.invokestatic 57, 3) := by decide +kernel
theorem dX0_gather_82 : decode cX0_gather 82 = .ok (.invokevirtual 61, 3) := by decide +kernel
theorem dX0_gather_85 : decode cX0_gather 85 = .ok (.iinc 5 1, 3) := by decide +kernel
theorem dX0_gather_88 : decode cX0_gather 88 = .ok (.goto (-67), 3) := by decide +kernel
theorem dX0_gather_91 : decode cX0_gather 91 = .ok (.return_, 1) := by decide +kernel
theorem dX0_weightOf_0 : decode cX0_weightOf 0 = .ok (.lconst 1, 1) := by decide +kernel
theorem dX0_weightOf_1 : decode cX0_weightOf 1 = .ok (.lstore_n 2, 1) := by decide +kernel
theorem dX0_weightOf_2 : decode cX0_weightOf 2 = .ok (.iconst 0, 1) := by decide +kernel
theorem dX0_weightOf_3 : decode cX0_weightOf 3 = .ok (.istore 4, 2) := by decide +kernel
theorem dX0_weightOf_5 : decode cX0_weightOf 5 = .ok (.iload 4, 2) := by decide +kernel
theorem dX0_weightOf_7 : decode cX0_weightOf 7 = .ok (.iconst 5, 1) := by decide +kernel
theorem dX0_weightOf_8 : decode cX0_weightOf 8 = .ok (.if_icmp .ge 31, 3) := by decide +kernel
theorem dX0_weightOf_11 : decode cX0_weightOf 11 = .ok (.lload_n 2, 1) := by decide +kernel
theorem dX0_weightOf_12 : decode cX0_weightOf 12 = .ok (.iload_n 0, 1) := by decide +kernel
theorem dX0_weightOf_13 : decode cX0_weightOf 13 = .ok (.iload 4, 2) := by decide +kernel
theorem dX0_weightOf_15 : decode cX0_weightOf 15 = .ok (.ishr, 1) := by decide +kernel
theorem dX0_weightOf_16 : decode cX0_weightOf 16 = .ok (.iconst 1, 1) := by decide +kernel
theorem dX0_weightOf_17 : decode cX0_weightOf 17 = .ok (.iand, 1) := by decide +kernel
theorem dX0_weightOf_18 : decode cX0_weightOf 18 = .ok (.ifCond .eq 8, 3) := by decide +kernel
theorem dX0_weightOf_21 : decode cX0_weightOf 21 = .ok (.iload_n 1, 1) := by decide +kernel
theorem dX0_weightOf_22 : decode cX0_weightOf 22 = .ok (.i2l, 1) := by decide +kernel
theorem dX0_weightOf_23 : decode cX0_weightOf 23 = .ok (.goto 8, 3) := by decide +kernel
theorem dX0_weightOf_26 : decode cX0_weightOf 26 = .ok (.bipush 10, 2) := by decide +kernel
theorem dX0_weightOf_28 : decode cX0_weightOf 28 = .ok (.iload_n 1, 1) := by decide +kernel
theorem dX0_weightOf_29 : decode cX0_weightOf 29 = .ok (.isub, 1) := by decide +kernel
theorem dX0_weightOf_30 : decode cX0_weightOf 30 = .ok (.i2l, 1) := by decide +kernel
theorem dX0_weightOf_31 : decode cX0_weightOf 31 = .ok (.lmul, 1) := by decide +kernel
theorem dX0_weightOf_32 : decode cX0_weightOf 32 = .ok (.lstore_n 2, 1) := by decide +kernel
theorem dX0_weightOf_33 : decode cX0_weightOf 33 = .ok (.iinc 4 1, 3) := by decide +kernel
theorem dX0_weightOf_36 : decode cX0_weightOf 36 = .ok (.goto (-31), 3) := by decide +kernel
theorem dX0_weightOf_39 : decode cX0_weightOf 39 = .ok (.lload_n 2, 1) := by decide +kernel
theorem dX0_weightOf_40 : decode cX0_weightOf 40 = .ok (.lreturn, 1) := by decide +kernel
theorem dX0_addWeek_0 : decode cX0_addWeek 0 = .ok (.aload_n 0, 1) := by decide +kernel
theorem dX0_addWeek_1 : decode cX0_addWeek 1 = .ok (.dup, 1) := by decide +kernel
theorem dX0_addWeek_2 : decode cX0_addWeek 2 = .ok (.getfield 9, 3) := by decide +kernel
theorem dX0_addWeek_5 : decode cX0_addWeek 5 = .ok (.lload_n 1, 1) := by decide +kernel
theorem dX0_addWeek_6 : decode cX0_addWeek 6 = .ok (.aload_n 0, 1) := by decide +kernel
theorem dX0_addWeek_7 : decode cX0_addWeek 7 = .ok (.getfield 25, 3) := by decide +kernel
theorem dX0_addWeek_10 : decode cX0_addWeek 10 = .ok (.getfield 65, 3) := by decide +kernel
theorem dX0_addWeek_13 : decode cX0_addWeek 13 = .ok (.getfield 69, 3) := by decide +kernel
theorem dX0_addWeek_16 : decode cX0_addWeek 16 = .ok (.i2l, 1) := by decide +kernel
theorem dX0_addWeek_17 : decode cX0_addWeek 17 = .ok (.lmul, 1) := by decide +kernel
theorem dX0_addWeek_18 : decode cX0_addWeek 18 = .ok (.ladd, 1) := by decide +kernel
theorem dX0_addWeek_19 : decode cX0_addWeek 19 = .ok (.putfield 9, 3) := by decide +kernel
theorem dX0_addWeek_22 : decode cX0_addWeek 22 = .ok (.aload_n 0, 1) := by decide +kernel
theorem dX0_addWeek_23 : decode cX0_addWeek 23 = .ok (.getfield 25, 3) := by decide +kernel
theorem dX0_addWeek_26 : decode cX0_addWeek 26 = .ok (.getfield 65, 3) := by decide +kernel
theorem dX0_addWeek_29 : decode cX0_addWeek 29 = .ok (.getfield 69, 3) := by decide +kernel
theorem dX0_addWeek_32 : decode cX0_addWeek 32 = .ok (.ifCond .ne 13, 3) := by decide +kernel
theorem dX0_addWeek_35 : decode cX0_addWeek 35 = .ok (.aload_n 0, 1) := by decide +kernel
theorem dX0_addWeek_36 : decode cX0_addWeek 36 = .ok (.dup, 1) := by decide +kernel
theorem dX0_addWeek_37 : decode cX0_addWeek 37 = .ok (.getfield 15, 3) := by decide +kernel
theorem dX0_addWeek_40 : decode cX0_addWeek 40 = .ok (.lload_n 1, 1) := by decide +kernel
theorem dX0_addWeek_41 : decode cX0_addWeek 41 = .ok (.ladd, 1) := by decide +kernel
theorem dX0_addWeek_42 : decode cX0_addWeek 42 = .ok (.putfield 15, 3) := by decide +kernel
theorem dX0_addWeek_45 : decode cX0_addWeek 45 = .ok (.iload_n 3, 1) := by decide +kernel
theorem dX0_addWeek_46 : decode cX0_addWeek 46 = .ok (.ifCond .lt 13, 3) := by decide +kernel
theorem dX0_addWeek_49 : decode cX0_addWeek 49 = .ok (.aload_n 0, 1) := by decide +kernel
theorem dX0_addWeek_50 : decode cX0_addWeek 50 = .ok (.getfield 18, 3) := by decide +kernel
theorem dX0_addWeek_53 : decode cX0_addWeek 53 = .ok (.iload_n 3, 1) := by decide +kernel
theorem dX0_addWeek_54 : decode cX0_addWeek 54 = .ok (.dup2, 1) := by decide +kernel
theorem dX0_addWeek_55 : decode cX0_addWeek 55 = .ok (.laload, 1) := by decide +kernel
theorem dX0_addWeek_56 : decode cX0_addWeek 56 = .ok (.lload_n 1, 1) := by decide +kernel
theorem dX0_addWeek_57 : decode cX0_addWeek 57 = .ok (.ladd, 1) := by decide +kernel
theorem dX0_addWeek_58 : decode cX0_addWeek 58 = .ok (.lastore, 1) := by decide +kernel
theorem dX0_addWeek_59 : decode cX0_addWeek 59 = .ok (.return_, 1) := by decide +kernel
theorem dX0_placeToLook_0 : decode cX0_placeToLook 0 = .ok (.iconst 0, 1) := by decide +kernel
theorem dX0_placeToLook_1 : decode cX0_placeToLook 1 = .ok (.istore 4, 2) := by decide +kernel
theorem dX0_placeToLook_3 : decode cX0_placeToLook 3 = .ok (.iload 4, 2) := by decide +kernel
theorem dX0_placeToLook_5 : decode cX0_placeToLook 5 = .ok (.iconst 4, 1) := by decide +kernel
theorem dX0_placeToLook_6 : decode cX0_placeToLook 6 = .ok (.if_icmp .ge 35, 3) := by decide +kernel
theorem dX0_placeToLook_9 : decode cX0_placeToLook 9 = .ok (.aload_n 0, 1) := by decide +kernel
theorem dX0_placeToLook_10 : decode cX0_placeToLook 10 = .ok (.aload_n 1, 1) := by decide +kernel
theorem dX0_placeToLook_11 : decode cX0_placeToLook 11 = .ok (.iload_n 2, 1) := by decide +kernel
theorem dX0_placeToLook_12 : decode cX0_placeToLook 12 = .ok (.iload 4, 2) := by decide +kernel
theorem dX0_placeToLook_14 : decode cX0_placeToLook 14 = .ok (.invokevirtual 73, 3) := by decide +kernel
theorem dX0_placeToLook_17 : decode cX0_placeToLook 17 = .ok (.ifCond .eq 18, 3) := by decide +kernel
theorem dX0_placeToLook_20 : decode cX0_placeToLook 20 = .ok (.aload_n 0, 1) := by decide +kernel
theorem dX0_placeToLook_21 : decode cX0_placeToLook 21 = .ok (.aload_n 1, 1) := by decide +kernel
theorem dX0_placeToLook_22 : decode cX0_placeToLook 22 = .ok (.iload_n 2, 1) := by decide +kernel
theorem dX0_placeToLook_23 : decode cX0_placeToLook 23 = .ok (.iload 4, 2) := by decide +kernel
theorem dX0_placeToLook_25 : decode cX0_placeToLook 25 = .ok (.invokevirtual 77, 3) := by decide +kernel
theorem dX0_placeToLook_28 : decode cX0_placeToLook 28 = .ok (.iload_n 3, 1) := by decide +kernel
theorem dX0_placeToLook_29 : decode cX0_placeToLook 29 = .ok (.if_icmp .ne 6, 3) := by decide +kernel
theorem dX0_placeToLook_32 : decode cX0_placeToLook 32 = .ok (.iload 4, 2) := by decide +kernel
theorem dX0_placeToLook_34 : decode cX0_placeToLook 34 = .ok (.ireturn, 1) := by decide +kernel
theorem dX0_placeToLook_35 : decode cX0_placeToLook 35 = .ok (.iinc 4 1, 3) := by decide +kernel
theorem dX0_placeToLook_38 : decode cX0_placeToLook 38 = .ok (.goto (-35), 3) := by decide +kernel
theorem dX0_placeToLook_41 : decode cX0_placeToLook 41 = .ok (.bipush (-9), 2) := by decide +kernel
theorem dX0_placeToLook_43 : decode cX0_placeToLook 43 = .ok (.ireturn, 1) := by decide +kernel
theorem dX0_mayLieOpen_0 : decode cX0_mayLieOpen 0 = .ok (.aload_n 1, 1) := by decide +kernel
theorem dX0_mayLieOpen_1 : decode cX0_mayLieOpen 1 = .ok (.iload_n 3, 1) := by decide +kernel
theorem dX0_mayLieOpen_2 : decode cX0_mayLieOpen 2 = .ok (.iload_n 2, 1) := by decide +kernel
theorem dX0_mayLieOpen_3 : decode cX0_mayLieOpen 3 = .ok (.invokevirtual 81, 3) := by decide +kernel
theorem dX0_mayLieOpen_6 : decode cX0_mayLieOpen 6 = .ok (.ifCond .eq 18, 3) := by decide +kernel
theorem dX0_mayLieOpen_9 : decode cX0_mayLieOpen 9 = .ok (.aload_n 0, 1) := by decide +kernel
theorem dX0_mayLieOpen_10 : decode cX0_mayLieOpen 10 = .ok (.getfield 18, 3) := by decide +kernel
theorem dX0_mayLieOpen_13 : decode cX0_mayLieOpen 13 = .ok (.iload_n 3, 1) := by decide +kernel
theorem dX0_mayLieOpen_14 : decode cX0_mayLieOpen 14 = .ok (.laload, 1) := by decide +kernel
theorem dX0_mayLieOpen_15 : decode cX0_mayLieOpen 15 = .ok (.lconst 0, 1) := by decide +kernel
theorem dX0_mayLieOpen_16 : decode cX0_mayLieOpen 16 = .ok (.lcmp, 1) := by decide +kernel
theorem dX0_mayLieOpen_17 : decode cX0_mayLieOpen 17 = .ok (.ifCond .eq 7, 3) := by decide +kernel
theorem dX0_mayLieOpen_20 : decode cX0_mayLieOpen 20 = .ok (.iconst 1, 1) := by decide +kernel
theorem dX0_mayLieOpen_21 : decode cX0_mayLieOpen 21 = .ok (.goto 4, 3) := by decide +kernel
theorem dX0_mayLieOpen_24 : decode cX0_mayLieOpen 24 = .ok (.iconst 0, 1) := by decide +kernel
theorem dX0_mayLieOpen_25 : decode cX0_mayLieOpen 25 = .ok (.ireturn, 1) := by decide +kernel
theorem dX0_aheadOf_0 : decode cX0_aheadOf 0 = .ok (.iconst 0, 1) := by decide +kernel
theorem dX0_aheadOf_1 : decode cX0_aheadOf 1 = .ok (.istore 4, 2) := by decide +kernel
theorem dX0_aheadOf_3 : decode cX0_aheadOf 3 = .ok (.iconst 0, 1) := by decide +kernel
theorem dX0_aheadOf_4 : decode cX0_aheadOf 4 = .ok (.istore 5, 2) := by decide +kernel
theorem dX0_aheadOf_6 : decode cX0_aheadOf 6 = .ok (.iload 5, 2) := by decide +kernel
theorem dX0_aheadOf_8 : decode cX0_aheadOf 8 = .ok (.iconst 4, 1) := by decide +kernel
theorem dX0_aheadOf_9 : decode cX0_aheadOf 9 = .ok (.if_icmp .ge 79, 3) := by decide +kernel
theorem dX0_aheadOf_12 : decode cX0_aheadOf 12 = .ok (.aload_n 0, 1) := by decide +kernel
theorem dX0_aheadOf_13 : decode cX0_aheadOf 13 = .ok (.getfield 18, 3) := by decide +kernel
theorem dX0_aheadOf_16 : decode cX0_aheadOf 16 = .ok (.iload 5, 2) := by decide +kernel
theorem dX0_aheadOf_18 : decode cX0_aheadOf 18 = .ok (.laload, 1) := by decide +kernel
theorem dX0_aheadOf_19 : decode cX0_aheadOf 19 = .ok (.aload_n 1, 1) := by decide +kernel
theorem dX0_aheadOf_20 : decode cX0_aheadOf 20 = .ok (.getfield 85, 3) := by decide +kernel
theorem dX0_aheadOf_23 : decode cX0_aheadOf 23 = .ok (.iload_n 3, 1) := by decide +kernel
theorem dX0_aheadOf_24 : decode cX0_aheadOf 24 = .ok (.iaload, 1) := by decide +kernel
theorem dX0_aheadOf_25 : decode cX0_aheadOf 25 = .ok (.i2l, 1) := by decide +kernel
theorem dX0_aheadOf_26 : decode cX0_aheadOf 26 = .ok (.lmul, 1) := by decide +kernel
theorem dX0_aheadOf_27 : decode cX0_aheadOf 27 = .ok (.lstore 6, 2) := by decide +kernel
theorem dX0_aheadOf_29 : decode cX0_aheadOf 29 = .ok (.aload_n 0, 1) := by decide +kernel
theorem dX0_aheadOf_30 : decode cX0_aheadOf 30 = .ok (.getfield 18, 3) := by decide +kernel
theorem dX0_aheadOf_33 : decode cX0_aheadOf 33 = .ok (.iload_n 3, 1) := by decide +kernel
theorem dX0_aheadOf_34 : decode cX0_aheadOf 34 = .ok (.laload, 1) := by decide +kernel
theorem dX0_aheadOf_35 : decode cX0_aheadOf 35 = .ok (.aload_n 1, 1) := by decide +kernel
theorem dX0_aheadOf_36 : decode cX0_aheadOf 36 = .ok (.getfield 85, 3) := by decide +kernel
theorem dX0_aheadOf_39 : decode cX0_aheadOf 39 = .ok (.iload 5, 2) := by decide +kernel
theorem dX0_aheadOf_41 : decode cX0_aheadOf 41 = .ok (.iaload, 1) := by decide +kernel
theorem dX0_aheadOf_42 : decode cX0_aheadOf 42 = .ok (.i2l, 1) := by decide +kernel
theorem dX0_aheadOf_43 : decode cX0_aheadOf 43 = .ok (.lmul, 1) := by decide +kernel
theorem dX0_aheadOf_44 : decode cX0_aheadOf 44 = .ok (.lstore 8, 2) := by decide +kernel
theorem dX0_aheadOf_46 : decode cX0_aheadOf 46 = .ok (.aload_n 0, 1) := by decide +kernel
theorem dX0_aheadOf_47 : decode cX0_aheadOf 47 = .ok (.aload_n 1, 1) := by decide +kernel
theorem dX0_aheadOf_48 : decode cX0_aheadOf 48 = .ok (.iload_n 2, 1) := by decide +kernel
theorem dX0_aheadOf_49 : decode cX0_aheadOf 49 = .ok (.iload 5, 2) := by decide +kernel
theorem dX0_aheadOf_51 : decode cX0_aheadOf 51 = .ok (.invokevirtual 73, 3) := by decide +kernel
theorem dX0_aheadOf_54 : decode cX0_aheadOf 54 = .ok (.ifCond .eq 28, 3) := by decide +kernel
theorem dX0_aheadOf_57 : decode cX0_aheadOf 57 = .ok (.lload 6, 2) := by decide +kernel
theorem dX0_aheadOf_59 : decode cX0_aheadOf 59 = .ok (.lload 8, 2) := by decide +kernel
theorem dX0_aheadOf_61 : decode cX0_aheadOf 61 = .ok (.lcmp, 1) := by decide +kernel
theorem dX0_aheadOf_62 : decode cX0_aheadOf 62 = .ok (.ifCond .gt 17, 3) := by decide +kernel
theorem dX0_aheadOf_65 : decode cX0_aheadOf 65 = .ok (.lload 6, 2) := by decide +kernel
theorem dX0_aheadOf_67 : decode cX0_aheadOf 67 = .ok (.lload 8, 2) := by decide +kernel
theorem dX0_aheadOf_69 : decode cX0_aheadOf 69 = .ok (.lcmp, 1) := by decide +kernel
theorem dX0_aheadOf_70 : decode cX0_aheadOf 70 = .ok (.ifCond .ne 12, 3) := by decide +kernel
theorem dX0_aheadOf_73 : decode cX0_aheadOf 73 = .ok (.iload 5, 2) := by decide +kernel
theorem dX0_aheadOf_75 : decode cX0_aheadOf 75 = .ok (.iload_n 3, 1) := by decide +kernel
theorem dX0_aheadOf_76 : decode cX0_aheadOf 76 = .ok (.if_icmp .ge 6, 3) := by decide +kernel
theorem dX0_aheadOf_79 : decode cX0_aheadOf 79 = .ok (.iinc 4 1, 3) := by decide +kernel
theorem dX0_aheadOf_82 : decode cX0_aheadOf 82 = .ok (.iinc 5 1, 3) := by decide +kernel
theorem dX0_aheadOf_85 : decode cX0_aheadOf 85 = .ok (.goto (-79), 3) := by decide +kernel
theorem dX0_aheadOf_88 : decode cX0_aheadOf 88 = .ok (.iload 4, 2) := by decide +kernel
theorem dX0_aheadOf_90 : decode cX0_aheadOf 90 = .ok (.ireturn, 1) := by decide +kernel
theorem dX1_init_0 : decode cX1_init 0 = .ok (.aload_n 0, 1) := by decide +kernel
theorem dX1_init_1 : decode cX1_init 1 = .ok (.invokespecial 3, 3) := by decide +kernel
theorem dX1_init_4 : decode cX1_init 4 = .ok (.aload_n 0, 1) := by decide +kernel
theorem dX1_init_5 : decode cX1_init 5 = .ok (.iconst 1, 1) := by decide +kernel
theorem dX1_init_6 : decode cX1_init 6 = .ok (.putfield 9, 3) := by decide +kernel
theorem dX1_init_9 : decode cX1_init 9 = .ok (.aload_n 0, 1) := by decide +kernel
theorem dX1_init_10 : decode cX1_init 10 = .ok (.iconst 0, 1) := by decide +kernel
theorem dX1_init_11 : decode cX1_init 11 = .ok (.putfield 15, 3) := by decide +kernel
theorem dX1_init_14 : decode cX1_init 14 = .ok (.aload_n 0, 1) := by decide +kernel
theorem dX1_init_15 : decode cX1_init 15 = .ok (.iconst 0, 1) := by decide +kernel
theorem dX1_init_16 : decode cX1_init 16 = .ok (.putfield 18, 3) := by decide +kernel
theorem dX1_init_19 : decode cX1_init 19 = .ok (.aload_n 0, 1) := by decide +kernel
theorem dX1_init_20 : decode cX1_init 20 = .ok (.iconst 0, 1) := by decide +kernel
theorem dX1_init_21 : decode cX1_init 21 = .ok (.putfield 21, 3) := by decide +kernel
theorem dX1_init_24 : decode cX1_init 24 = .ok (.aload_n 0, 1) := by decide +kernel
theorem dX1_init_25 : decode cX1_init 25 = .ok (.iconst 0, 1) := by decide +kernel
theorem dX1_init_26 : decode cX1_init 26 = .ok (.putfield 24, 3) := by decide +kernel
theorem dX1_init_29 : decode cX1_init 29 = .ok (.aload_n 0, 1) := by decide +kernel
theorem dX1_init_30 : decode cX1_init 30 = .ok (.bipush 8, 2) := by decide +kernel
theorem dX1_init_32 : decode cX1_init 32 = .ok (.newarray .int, 2) := by decide +kernel
theorem dX1_init_34 : decode cX1_init 34 = .ok (.putfield 27, 3) := by decide +kernel
theorem dX1_init_37 : decode cX1_init 37 = .ok (.aload_n 0, 1) := by decide +kernel
theorem dX1_init_38 : decode cX1_init 38 = .ok (.bipush 8, 2) := by decide +kernel
theorem dX1_init_40 : decode cX1_init 40 = .ok (.newarray .int, 2) := by decide +kernel
theorem dX1_init_42 : decode cX1_init 42 = .ok (.putfield 31, 3) := by decide +kernel
theorem dX1_init_45 : decode cX1_init 45 = .ok (.aload_n 0, 1) := by decide +kernel
theorem dX1_init_46 : decode cX1_init 46 = .ok (.bipush 8, 2) := by decide +kernel
theorem dX1_init_48 : decode cX1_init 48 = .ok (.newarray .int, 2) := by decide +kernel
theorem dX1_init_50 : decode cX1_init 50 = .ok (.putfield 34, 3) := by decide +kernel
theorem dX1_init_53 : decode cX1_init 53 = .ok (.aload_n 0, 1) := by decide +kernel
theorem dX1_init_54 : decode cX1_init 54 = .ok (.iconst 4, 1) := by decide +kernel
theorem dX1_init_55 : decode cX1_init 55 = .ok (.newarray .int, 2) := by decide +kernel
theorem dX1_init_57 : decode cX1_init 57 = .ok (.putfield 37, 3) := by decide +kernel
theorem dX1_init_60 : decode cX1_init 60 = .ok (.aload_n 0, 1) := by decide +kernel
theorem dX1_init_61 : decode cX1_init 61 = .ok (.iconst 4, 1) := by decide +kernel
theorem dX1_init_62 : decode cX1_init 62 = .ok (.newarray .int, 2) := by decide +kernel
theorem dX1_init_64 : decode cX1_init 64 = .ok (.putfield 40, 3) := by decide +kernel
theorem dX1_init_67 : decode cX1_init 67 = .ok (.aload_n 0, 1) := by decide +kernel
theorem dX1_init_68 : decode cX1_init 68 = .ok (.iconst 4, 1) := by decide +kernel
theorem dX1_init_69 : decode cX1_init 69 = .ok (.newarray .int, 2) := by decide +kernel
theorem dX1_init_71 : decode cX1_init 71 = .ok (.putfield 43, 3) := by decide +kernel
theorem dX1_init_74 : decode cX1_init 74 = .ok (.aload_n 0, 1) := by decide +kernel
theorem dX1_init_75 : decode cX1_init 75 = .ok (.iconst 4, 1) := by decide +kernel
theorem dX1_init_76 : decode cX1_init 76 = .ok (.newarray .int, 2) := by decide +kernel
theorem dX1_init_78 : decode cX1_init 78 = .ok (.putfield 46, 3) := by decide +kernel
theorem dX1_init_81 : decode cX1_init 81 = .ok (.aload_n 0, 1) := by decide +kernel
theorem dX1_init_82 : decode cX1_init 82 = .ok (.bipush 6, 2) := by decide +kernel
theorem dX1_init_84 : decode cX1_init 84 = .ok (.newarray .int, 2) := by decide +kernel
theorem dX1_init_86 : decode cX1_init 86 = .ok (.putfield 49, 3) := by decide +kernel
theorem dX1_init_89 : decode cX1_init 89 = .ok (.aload_n 0, 1) := by decide +kernel
theorem dX1_init_90 : decode cX1_init 90 = .ok (.bipush 10, 2) := by decide +kernel
theorem dX1_init_92 : decode cX1_init 92 = .ok (.newarray .int, 2) := by decide +kernel
theorem dX1_init_94 : decode cX1_init 94 = .ok (.putfield 52, 3) := by decide +kernel
theorem dX1_init_97 : decode cX1_init 97 = .ok (.aload_n 0, 1) := by decide +kernel
theorem dX1_init_98 : decode cX1_init 98 = .ok (.bipush 10, 2) := by decide +kernel
theorem dX1_init_100 : decode cX1_init 100 = .ok (.newarray .int, 2) := by decide +kernel
theorem dX1_init_102 : decode cX1_init 102 = .ok (.putfield 55, 3) := by decide +kernel
theorem dX1_init_105 : decode cX1_init 105 = .ok (.aload_n 0, 1) := by decide +kernel
theorem dX1_init_106 : decode cX1_init 106 = .ok (.bipush 10, 2) := by decide +kernel
theorem dX1_init_108 : decode cX1_init 108 = .ok (.newarray .int, 2) := by decide +kernel
theorem dX1_init_110 : decode cX1_init 110 = .ok (.putfield 58, 3) := by decide +kernel
theorem dX1_init_113 : decode cX1_init 113 = .ok (.aload_n 0, 1) := by decide +kernel
theorem dX1_init_114 : decode cX1_init 114 = .ok (.bipush 10, 2) := by decide +kernel
theorem dX1_init_116 : decode cX1_init 116 = .ok (.newarray .int, 2) := by decide +kernel
theorem dX1_init_118 : decode cX1_init 118 = .ok (.putfield 61, 3) := by decide +kernel
theorem dX1_init_121 : decode cX1_init 121 = .ok (.aload_n 0, 1) := by decide +kernel
theorem dX1_init_122 : decode cX1_init 122 = .ok (.getfield 46, 3) := by decide +kernel
theorem dX1_init_125 : decode cX1_init 125 = .ok (.bipush (-9), 2) := by decide +kernel
theorem dX1_init_127 : decode cX1_init 127 = .ok (.invokestatic 64, 3) := by decide +kernel
theorem dX1_init_130 : decode cX1_init 130 = .ok (.aload_n 0, 1) := by decide +kernel
theorem dX1_init_131 : decode cX1_init 131 = .ok (.invokevirtual 70, 3) := by decide +kernel
theorem dX1_init_134 : decode cX1_init 134 = .ok (.return_, 1) := by decide +kernel
theorem dX1_clear_0 : decode cX1_clear 0 = .ok (.aload_n 0, 1) := by decide +kernel
theorem dX1_clear_1 : decode cX1_clear 1 = .ok (.iconst 0, 1) := by decide +kernel
theorem dX1_clear_2 : decode cX1_clear 2 = .ok (.putfield 9, 3) := by decide +kernel
theorem dX1_clear_5 : decode cX1_clear 5 = .ok (.aload_n 0, 1) := by decide +kernel
theorem dX1_clear_6 : decode cX1_clear 6 = .ok (.iconst 0, 1) := by decide +kernel
theorem dX1_clear_7 : decode cX1_clear 7 = .ok (.putfield 15, 3) := by decide +kernel
theorem dX1_clear_10 : decode cX1_clear 10 = .ok (.aload_n 0, 1) := by decide +kernel
theorem dX1_clear_11 : decode cX1_clear 11 = .ok (.iconst 0, 1) := by decide +kernel
theorem dX1_clear_12 : decode cX1_clear 12 = .ok (.putfield 18, 3) := by decide +kernel
theorem dX1_clear_15 : decode cX1_clear 15 = .ok (.aload_n 0, 1) := by decide +kernel
theorem dX1_clear_16 : decode cX1_clear 16 = .ok (.iconst 0, 1) := by decide +kernel
theorem dX1_clear_17 : decode cX1_clear 17 = .ok (.putfield 21, 3) := by decide +kernel
theorem dX1_clear_20 : decode cX1_clear 20 = .ok (.aload_n 0, 1) := by decide +kernel
theorem dX1_clear_21 : decode cX1_clear 21 = .ok (.iconst 0, 1) := by decide +kernel
theorem dX1_clear_22 : decode cX1_clear 22 = .ok (.putfield 24, 3) := by decide +kernel
theorem dX1_clear_25 : decode cX1_clear 25 = .ok (.aload_n 0, 1) := by decide +kernel
theorem dX1_clear_26 : decode cX1_clear 26 = .ok (.getfield 43, 3) := by decide +kernel
theorem dX1_clear_29 : decode cX1_clear 29 = .ok (.iconst 0, 1) := by decide +kernel
theorem dX1_clear_30 : decode cX1_clear 30 = .ok (.invokestatic 64, 3) := by decide +kernel
theorem dX1_clear_33 : decode cX1_clear 33 = .ok (.aload_n 0, 1) := by decide +kernel
theorem dX1_clear_34 : decode cX1_clear 34 = .ok (.getfield 46, 3) := by decide +kernel
theorem dX1_clear_37 : decode cX1_clear 37 = .ok (.bipush (-9), 2) := by decide +kernel
theorem dX1_clear_39 : decode cX1_clear 39 = .ok (.invokestatic 64, 3) := by decide +kernel
theorem dX1_clear_42 : decode cX1_clear 42 = .ok (.aload_n 0, 1) := by decide +kernel
theorem dX1_clear_43 : decode cX1_clear 43 = .ok (.getfield 49, 3) := by decide +kernel
theorem dX1_clear_46 : decode cX1_clear 46 = .ok (.iconst 0, 1) := by decide +kernel
theorem dX1_clear_47 : decode cX1_clear 47 = .ok (.invokestatic 64, 3) := by decide +kernel
theorem dX1_clear_50 : decode cX1_clear 50 = .ok (.return_, 1) := by decide +kernel
theorem dX1_isPerson_0 : decode cX1_isPerson 0 = .ok (.iload_n 1, 1) := by decide +kernel
theorem dX1_isPerson_1 : decode cX1_isPerson 1 = .ok (.ifCond .lt 21, 3) := by decide +kernel
theorem dX1_isPerson_4 : decode cX1_isPerson 4 = .ok (.iload_n 1, 1) := by decide +kernel
theorem dX1_isPerson_5 : decode cX1_isPerson 5 = .ok (.aload_n 0, 1) := by decide +kernel
theorem dX1_isPerson_6 : decode cX1_isPerson 6 = .ok (.getfield 9, 3) := by decide +kernel
theorem dX1_isPerson_9 : decode cX1_isPerson 9 = .ok (.if_icmp .ge 13, 3) := by decide +kernel
theorem dX1_isPerson_12 : decode cX1_isPerson 12 = .ok (.iload_n 1, 1) := by decide +kernel
theorem dX1_isPerson_13 : decode cX1_isPerson 13 = .ok (.bipush 6, 2) := by decide +kernel
theorem dX1_isPerson_15 : decode cX1_isPerson 15 = .ok (.if_icmp .ge 7, 3) := by decide +kernel
theorem dX1_isPerson_18 : decode cX1_isPerson 18 = .ok (.iconst 1, 1) := by decide +kernel
theorem dX1_isPerson_19 : decode cX1_isPerson 19 = .ok (.goto 4, 3) := by decide +kernel
theorem dX1_isPerson_22 : decode cX1_isPerson 22 = .ok (.iconst 0, 1) := by decide +kernel
theorem dX1_isPerson_23 : decode cX1_isPerson 23 = .ok (.ireturn, 1) := by decide +kernel
theorem dX1_isSession_0 : decode cX1_isSession 0 = .ok (.iload_n 1, 1) := by decide +kernel
theorem dX1_isSession_1 : decode cX1_isSession 1 = .ok (.ifCond .lt 21, 3) := by decide +kernel
theorem dX1_isSession_4 : decode cX1_isSession 4 = .ok (.iload_n 1, 1) := by decide +kernel
theorem dX1_isSession_5 : decode cX1_isSession 5 = .ok (.aload_n 0, 1) := by decide +kernel
theorem dX1_isSession_6 : decode cX1_isSession 6 = .ok (.getfield 15, 3) := by decide +kernel
theorem dX1_isSession_9 : decode cX1_isSession 9 = .ok (.if_icmp .ge 13, 3) := by decide +kernel
theorem dX1_isSession_12 : decode cX1_isSession 12 = .ok (.iload_n 1, 1) := by decide +kernel
theorem dX1_isSession_13 : decode cX1_isSession 13 = .ok (.bipush 8, 2) := by decide +kernel
theorem dX1_isSession_15 : decode cX1_isSession 15 = .ok (.if_icmp .ge 7, 3) := by decide +kernel
theorem dX1_isSession_18 : decode cX1_isSession 18 = .ok (.iconst 1, 1) := by decide +kernel
theorem dX1_isSession_19 : decode cX1_isSession 19 = .ok (.goto 4, 3) := by decide +kernel
theorem dX1_isSession_22 : decode cX1_isSession 22 = .ok (.iconst 0, 1) := by decide +kernel
theorem dX1_isSession_23 : decode cX1_isSession 23 = .ok (.ireturn, 1) := by decide +kernel
theorem dX1_isPlace_0 : decode cX1_isPlace 0 = .ok (.iload_n 1, 1) := by decide +kernel
theorem dX1_isPlace_1 : decode cX1_isPlace 1 = .ok (.ifCond .lt 23, 3) := by decide +kernel
theorem dX1_isPlace_4 : decode cX1_isPlace 4 = .ok (.iload_n 1, 1) := by decide +kernel
theorem dX1_isPlace_5 : decode cX1_isPlace 5 = .ok (.iconst 4, 1) := by decide +kernel
theorem dX1_isPlace_6 : decode cX1_isPlace 6 = .ok (.if_icmp .ge 18, 3) := by decide +kernel
theorem dX1_isPlace_9 : decode cX1_isPlace 9 = .ok (.aload_n 0, 1) := by decide +kernel
theorem dX1_isPlace_10 : decode cX1_isPlace 10 = .ok (.getfield 18, 3) := by decide +kernel
theorem dX1_isPlace_13 : decode cX1_isPlace 13 = .ok (.iload_n 1, 1) := by decide +kernel
theorem dX1_isPlace_14 : decode cX1_isPlace 14 = .ok (.ishr, 1) := by decide +kernel
theorem dX1_isPlace_15 : decode cX1_isPlace 15 = .ok (.iconst 1, 1) := by decide +kernel
theorem dX1_isPlace_16 : decode cX1_isPlace 16 = .ok (.iand, 1) := by decide +kernel
theorem dX1_isPlace_17 : decode cX1_isPlace 17 = .ok (.ifCond .eq 7, 3) := by decide +kernel
theorem dX1_isPlace_20 : decode cX1_isPlace 20 = .ok (.iconst 1, 1) := by decide +kernel
theorem dX1_isPlace_21 : decode cX1_isPlace 21 = .ok (.goto 4, 3) := by decide +kernel
theorem dX1_isPlace_24 : decode cX1_isPlace 24 = .ok (.iconst 0, 1) := by decide +kernel
theorem dX1_isPlace_25 : decode cX1_isPlace 25 = .ok (.ireturn, 1) := by decide +kernel
theorem dX1_isBegin_0 : decode cX1_isBegin 0 = .ok (.aload_n 0, 1) := by decide +kernel
theorem dX1_isBegin_1 : decode cX1_isBegin 1 = .ok (.iload_n 1, 1) := by decide +kernel
theorem dX1_isBegin_2 : decode cX1_isBegin 2 = .ok (.invokevirtual 73, 3) := by decide +kernel
theorem dX1_isBegin_5 : decode cX1_isBegin 5 = .ok (.ifCond .ne 20, 3) := by decide +kernel
theorem dX1_isBegin_8 : decode cX1_isBegin 8 = .ok (.iload_n 1, 1) := by decide +kernel
theorem dX1_isBegin_9 : decode cX1_isBegin 9 = .ok (.bipush 10, 2) := by decide +kernel
theorem dX1_isBegin_11 : decode cX1_isBegin 11 = .ok (.if_icmp .lt 18, 3) := by decide +kernel
theorem dX1_isBegin_14 : decode cX1_isBegin 14 = .ok (.aload_n 0, 1) := by decide +kernel
theorem dX1_isBegin_15 : decode cX1_isBegin 15 = .ok (.iload_n 1, 1) := by decide +kernel
theorem dX1_isBegin_16 : decode cX1_isBegin 16 = .ok (.bipush 10, 2) := by decide +kernel
theorem dX1_isBegin_18 : decode cX1_isBegin 18 = .ok (.isub, 1) := by decide +kernel
theorem dX1_isBegin_19 : decode cX1_isBegin 19 = .ok (.invokevirtual 77, 3) := by decide +kernel
theorem dX1_isBegin_22 : decode cX1_isBegin 22 = .ok (.ifCond .eq 7, 3) := by decide +kernel
theorem dX1_isBegin_25 : decode cX1_isBegin 25 = .ok (.iconst 1, 1) := by decide +kernel
theorem dX1_isBegin_26 : decode cX1_isBegin 26 = .ok (.goto 4, 3) := by decide +kernel
theorem dX1_isBegin_29 : decode cX1_isBegin 29 = .ok (.iconst 0, 1) := by decide +kernel
theorem dX1_isBegin_30 : decode cX1_isBegin 30 = .ok (.ireturn, 1) := by decide +kernel
theorem dX1_isOpen_0 : decode cX1_isOpen 0 = .ok (.iload_n 1, 1) := by decide +kernel
theorem dX1_isOpen_1 : decode cX1_isOpen 1 = .ok (.ifCond .lt 32, 3) := by decide +kernel
theorem dX1_isOpen_4 : decode cX1_isOpen 4 = .ok (.iload_n 1, 1) := by decide +kernel
theorem dX1_isOpen_5 : decode cX1_isOpen 5 = .ok (.iconst 4, 1) := by decide +kernel
theorem dX1_isOpen_6 : decode cX1_isOpen 6 = .ok (.if_icmp .ge 27, 3) := by decide +kernel
theorem dX1_isOpen_9 : decode cX1_isOpen 9 = .ok (.aload_n 0, 1) := by decide +kernel
theorem dX1_isOpen_10 : decode cX1_isOpen 10 = .ok (.getfield 43, 3) := by decide +kernel
theorem dX1_isOpen_13 : decode cX1_isOpen 13 = .ok (.iload_n 1, 1) := by decide +kernel
theorem dX1_isOpen_14 : decode cX1_isOpen 14 = .ok (.iaload, 1) := by decide +kernel
theorem dX1_isOpen_15 : decode cX1_isOpen 15 = .ok (.iload_n 2, 1) := by decide +kernel
theorem dX1_isOpen_16 : decode cX1_isOpen 16 = .ok (.if_icmp .gt 17, 3) := by decide +kernel
theorem dX1_isOpen_19 : decode cX1_isOpen 19 = .ok (.iload_n 2, 1) := by decide +kernel
theorem dX1_isOpen_20 : decode cX1_isOpen 20 = .ok (.aload_n 0, 1) := by decide +kernel
theorem dX1_isOpen_21 : decode cX1_isOpen 21 = .ok (.getfield 46, 3) := by decide +kernel
theorem dX1_isOpen_24 : decode cX1_isOpen 24 = .ok (.iload_n 1, 1) := by decide +kernel
theorem dX1_isOpen_25 : decode cX1_isOpen 25 = .ok (.iaload, 1) := by decide +kernel
theorem dX1_isOpen_26 : decode cX1_isOpen 26 = .ok (.if_icmp .gt 7, 3) := by decide +kernel
theorem dX1_isOpen_29 : decode cX1_isOpen 29 = .ok (.iconst 1, 1) := by decide +kernel
theorem dX1_isOpen_30 : decode cX1_isOpen 30 = .ok (.goto 4, 3) := by decide +kernel
theorem dX1_isOpen_33 : decode cX1_isOpen 33 = .ok (.iconst 0, 1) := by decide +kernel
theorem dX1_isOpen_34 : decode cX1_isOpen 34 = .ok (.ireturn, 1) := by decide +kernel
theorem dX1_hasOwnKey_0 : decode cX1_hasOwnKey 0 = .ok (.aload_n 0, 1) := by decide +kernel
theorem dX1_hasOwnKey_1 : decode cX1_hasOwnKey 1 = .ok (.getfield 24, 3) := by decide +kernel
theorem dX1_hasOwnKey_4 : decode cX1_hasOwnKey 4 = .ok (.iload_n 1, 1) := by decide +kernel
theorem dX1_hasOwnKey_5 : decode cX1_hasOwnKey 5 = .ok (.ishr, 1) := by decide +kernel
theorem dX1_hasOwnKey_6 : decode cX1_hasOwnKey 6 = .ok (.iconst 1, 1) := by decide +kernel
theorem dX1_hasOwnKey_7 : decode cX1_hasOwnKey 7 = .ok (.iand, 1) := by decide +kernel
theorem dX1_hasOwnKey_8 : decode cX1_hasOwnKey 8 = .ok (.ifCond .eq 7, 3) := by decide +kernel
theorem dX1_hasOwnKey_11 : decode cX1_hasOwnKey 11 = .ok (.iconst 1, 1) := by decide +kernel
theorem dX1_hasOwnKey_12 : decode cX1_hasOwnKey 12 = .ok (.goto 4, 3) := by decide +kernel
theorem dX1_hasOwnKey_15 : decode cX1_hasOwnKey 15 = .ok (.iconst 0, 1) := by decide +kernel
theorem dX1_hasOwnKey_16 : decode cX1_hasOwnKey 16 = .ok (.ireturn, 1) := by decide +kernel
theorem dX1_addSession_0 : decode cX1_addSession 0 = .ok (.aload_n 0, 1) := by decide +kernel
theorem dX1_addSession_1 : decode cX1_addSession 1 = .ok (.getfield 15, 3) := by decide +kernel
theorem dX1_addSession_4 : decode cX1_addSession 4 = .ok (.bipush 8, 2) := by decide +kernel
theorem dX1_addSession_6 : decode cX1_addSession 6 = .ok (.if_icmp .ge 43, 3) := by decide +kernel
theorem dX1_addSession_9 : decode cX1_addSession 9 = .ok (.aload_n 0, 1) := by decide +kernel
theorem dX1_addSession_10 : decode cX1_addSession 10 = .ok (.getfield 27, 3) := by decide +kernel
theorem dX1_addSession_13 : decode cX1_addSession 13 = .ok (.aload_n 0, 1) := by decide +kernel
theorem dX1_addSession_14 : decode cX1_addSession 14 = .ok (.getfield 15, 3) := by decide +kernel
theorem dX1_addSession_17 : decode cX1_addSession 17 = .ok (.iload_n 1, 1) := by decide +kernel
theorem dX1_addSession_18 : decode cX1_addSession 18 = .ok (.iastore, 1) := by decide +kernel
theorem dX1_addSession_19 : decode cX1_addSession 19 = .ok (.aload_n 0, 1) := by decide +kernel
theorem dX1_addSession_20 : decode cX1_addSession 20 = .ok (.getfield 31, 3) := by decide +kernel
theorem dX1_addSession_23 : decode cX1_addSession 23 = .ok (.aload_n 0, 1) := by decide +kernel
theorem dX1_addSession_24 : decode cX1_addSession 24 = .ok (.getfield 15, 3) := by decide +kernel
theorem dX1_addSession_27 : decode cX1_addSession 27 = .ok (.iload_n 2, 1) := by decide +kernel
theorem dX1_addSession_28 : decode cX1_addSession 28 = .ok (.iastore, 1) := by decide +kernel
theorem dX1_addSession_29 : decode cX1_addSession 29 = .ok (.aload_n 0, 1) := by decide +kernel
theorem dX1_addSession_30 : decode cX1_addSession 30 = .ok (.getfield 34, 3) := by decide +kernel
theorem dX1_addSession_33 : decode cX1_addSession 33 = .ok (.aload_n 0, 1) := by decide +kernel
theorem dX1_addSession_34 : decode cX1_addSession 34 = .ok (.getfield 15, 3) := by decide +kernel
theorem dX1_addSession_37 : decode cX1_addSession 37 = .ok (.iload_n 3, 1) := by decide +kernel
theorem dX1_addSession_38 : decode cX1_addSession 38 = .ok (.iastore, 1) := by decide +kernel
theorem dX1_addSession_39 : decode cX1_addSession 39 = .ok (.aload_n 0, 1) := by decide +kernel
theorem dX1_addSession_40 : decode cX1_addSession 40 = .ok (.dup, 1) := by decide +kernel
theorem dX1_addSession_41 : decode cX1_addSession 41 = .ok (.getfield 15, 3) := by decide +kernel
theorem dX1_addSession_44 : decode cX1_addSession 44 = .ok (.iconst 1, 1) := by decide +kernel
theorem dX1_addSession_45 : decode cX1_addSession 45 = .ok (.iadd, 1) := by decide +kernel
theorem dX1_addSession_46 : decode cX1_addSession 46 = .ok (.putfield 15, 3) := by decide +kernel
theorem dX1_addSession_49 : decode cX1_addSession 49 = .ok (.return_, 1) := by decide +kernel
theorem dX1_addPlace_0 : decode cX1_addPlace 0 = .ok (.iload_n 1, 1) := by decide +kernel
theorem dX1_addPlace_1 : decode cX1_addPlace 1 = .ok (.ifCond .lt 49, 3) := by decide +kernel
theorem dX1_addPlace_4 : decode cX1_addPlace 4 = .ok (.iload_n 1, 1) := by decide +kernel
theorem dX1_addPlace_5 : decode cX1_addPlace 5 = .ok (.iconst 4, 1) := by decide +kernel
theorem dX1_addPlace_6 : decode cX1_addPlace 6 = .ok (.if_icmp .ge 44, 3) := by decide +kernel
theorem dX1_addPlace_9 : decode cX1_addPlace 9 = .ok (.aload_n 0, 1) := by decide +kernel
theorem dX1_addPlace_10 : decode cX1_addPlace 10 = .ok (.dup, 1) := by decide +kernel
theorem dX1_addPlace_11 : decode cX1_addPlace 11 = .ok (.getfield 18, 3) := by decide +kernel
theorem dX1_addPlace_14 : decode cX1_addPlace 14 = .ok (.iconst 1, 1) := by decide +kernel
theorem dX1_addPlace_15 : decode cX1_addPlace 15 = .ok (.iload_n 1, 1) := by decide +kernel
theorem dX1_addPlace_16 : decode cX1_addPlace 16 = .ok (.ishl, 1) := by decide +kernel
theorem dX1_addPlace_17 : decode cX1_addPlace 17 = .ok (.ior, 1) := by decide +kernel
theorem dX1_addPlace_18 : decode cX1_addPlace 18 = .ok (.putfield 18, 3) := by decide +kernel
theorem dX1_addPlace_21 : decode cX1_addPlace 21 = .ok (.aload_n 0, 1) := by decide +kernel
theorem dX1_addPlace_22 : decode cX1_addPlace 22 = .ok (.getfield 37, 3) := by decide +kernel
theorem dX1_addPlace_25 : decode cX1_addPlace 25 = .ok (.iload_n 1, 1) := by decide +kernel
theorem dX1_addPlace_26 : decode cX1_addPlace 26 = .ok (.iload_n 2, 1) := by decide +kernel
theorem dX1_addPlace_27 : decode cX1_addPlace 27 = .ok (.iastore, 1) := by decide +kernel
theorem dX1_addPlace_28 : decode cX1_addPlace 28 = .ok (.aload_n 0, 1) := by decide +kernel
theorem dX1_addPlace_29 : decode cX1_addPlace 29 = .ok (.getfield 40, 3) := by decide +kernel
theorem dX1_addPlace_32 : decode cX1_addPlace 32 = .ok (.iload_n 1, 1) := by decide +kernel
theorem dX1_addPlace_33 : decode cX1_addPlace 33 = .ok (.iload_n 3, 1) := by decide +kernel
theorem dX1_addPlace_34 : decode cX1_addPlace 34 = .ok (.iastore, 1) := by decide +kernel
theorem dX1_addPlace_35 : decode cX1_addPlace 35 = .ok (.aload_n 0, 1) := by decide +kernel
theorem dX1_addPlace_36 : decode cX1_addPlace 36 = .ok (.getfield 43, 3) := by decide +kernel
theorem dX1_addPlace_39 : decode cX1_addPlace 39 = .ok (.iload_n 1, 1) := by decide +kernel
theorem dX1_addPlace_40 : decode cX1_addPlace 40 = .ok (.iconst 0, 1) := by decide +kernel
theorem dX1_addPlace_41 : decode cX1_addPlace 41 = .ok (.iastore, 1) := by decide +kernel
theorem dX1_addPlace_42 : decode cX1_addPlace 42 = .ok (.aload_n 0, 1) := by decide +kernel
theorem dX1_addPlace_43 : decode cX1_addPlace 43 = .ok (.getfield 46, 3) := by decide +kernel
theorem dX1_addPlace_46 : decode cX1_addPlace 46 = .ok (.iload_n 1, 1) := by decide +kernel
theorem dX1_addPlace_47 : decode cX1_addPlace 47 = .ok (.bipush 9, 2) := by decide +kernel
theorem dX1_addPlace_49 : decode cX1_addPlace 49 = .ok (.iastore, 1) := by decide +kernel
theorem dX1_addPlace_50 : decode cX1_addPlace 50 = .ok (.return_, 1) := by decide +kernel
theorem dX1_openBetween_0 : decode cX1_openBetween 0 = .ok (.aload_n 0, 1) := by decide +kernel
theorem dX1_openBetween_1 : decode cX1_openBetween 1 = .ok (.iload_n 1, 1) := by decide +kernel
theorem dX1_openBetween_2 : decode cX1_openBetween 2 = .ok (.invokevirtual 73, 3) := by decide +kernel
theorem dX1_openBetween_5 : decode cX1_openBetween 5 = .ok (.ifCond .eq 17, 3) := by decide +kernel
theorem dX1_openBetween_8 : decode cX1_openBetween 8 = .ok (.aload_n 0, 1) := by decide +kernel
theorem dX1_openBetween_9 : decode cX1_openBetween 9 = .ok (.getfield 43, 3) := by decide +kernel
theorem dX1_openBetween_12 : decode cX1_openBetween 12 = .ok (.iload_n 1, 1) := by decide +kernel
theorem dX1_openBetween_13 : decode cX1_openBetween 13 = .ok (.iload_n 2, 1) := by decide +kernel
theorem dX1_openBetween_14 : decode cX1_openBetween 14 = .ok (.iastore, 1) := by decide +kernel
theorem dX1_openBetween_15 : decode cX1_openBetween 15 = .ok (.aload_n 0, 1) := by decide +kernel
theorem dX1_openBetween_16 : decode cX1_openBetween 16 = .ok (.getfield 46, 3) := by decide +kernel
theorem dX1_openBetween_19 : decode cX1_openBetween 19 = .ok (.iload_n 1, 1) := by decide +kernel
theorem dX1_openBetween_20 : decode cX1_openBetween 20 = .ok (.iload_n 3, 1) := by decide +kernel
theorem dX1_openBetween_21 : decode cX1_openBetween 21 = .ok (.iastore, 1) := by decide +kernel
theorem dX1_openBetween_22 : decode cX1_openBetween 22 = .ok (.return_, 1) := by decide +kernel
theorem dX1_mayBegin_0 : decode cX1_mayBegin 0 = .ok (.aload_n 0, 1) := by decide +kernel
theorem dX1_mayBegin_1 : decode cX1_mayBegin 1 = .ok (.iload_n 1, 1) := by decide +kernel
theorem dX1_mayBegin_2 : decode cX1_mayBegin 2 = .ok (.invokevirtual 80, 3) := by decide +kernel
theorem dX1_mayBegin_5 : decode cX1_mayBegin 5 = .ok (.ifCond .eq 10, 3) := by decide +kernel
theorem dX1_mayBegin_8 : decode cX1_mayBegin 8 = .ok (.iload_n 2, 1) := by decide +kernel
theorem dX1_mayBegin_9 : decode cX1_mayBegin 9 = .ok (.invokestatic 83, 3) := by decide +kernel
theorem dX1_mayBegin_12 : decode cX1_mayBegin 12 = .ok (.ifCond .ne 5, 3) := by decide +kernel
theorem dX1_mayBegin_15 : decode cX1_mayBegin 15 = .ok (.iconst 0, 1) := by decide +kernel
theorem dX1_mayBegin_16 : decode cX1_mayBegin 16 = .ok (.ireturn, 1) := by decide +kernel
theorem dX1_mayBegin_17 : decode cX1_mayBegin 17 = .ok (.iload_n 2, 1) := by decide +kernel
theorem dX1_mayBegin_18 : decode cX1_mayBegin 18 = .ok (.aload_n 0, 1) := by decide +kernel
theorem dX1_mayBegin_19 : decode cX1_mayBegin 19 = .ok (.getfield 34, 3) := by decide +kernel
theorem dX1_mayBegin_22 : decode cX1_mayBegin 22 = .ok (.iload_n 1, 1) := by decide +kernel
theorem dX1_mayBegin_23 : decode cX1_mayBegin 23 = .ok (.iaload, 1) := by decide +kernel
theorem dX1_mayBegin_24 : decode cX1_mayBegin 24 = .ok (.iadd, 1) := by decide +kernel
theorem dX1_mayBegin_25 : decode cX1_mayBegin 25 = .ok (.aload_n 0, 1) := by decide +kernel
theorem dX1_mayBegin_26 : decode cX1_mayBegin 26 = .ok (.getfield 31, 3) := by decide +kernel
theorem dX1_mayBegin_29 : decode cX1_mayBegin 29 = .ok (.iload_n 1, 1) := by decide +kernel
theorem dX1_mayBegin_30 : decode cX1_mayBegin 30 = .ok (.iaload, 1) := by decide +kernel
theorem dX1_mayBegin_31 : decode cX1_mayBegin 31 = .ok (.isub, 1) := by decide +kernel
theorem dX1_mayBegin_32 : decode cX1_mayBegin 32 = .ok (.istore_n 3, 1) := by decide +kernel
theorem dX1_mayBegin_33 : decode cX1_mayBegin 33 = .ok (.iload_n 3, 1) := by decide +kernel
theorem dX1_mayBegin_34 : decode cX1_mayBegin 34 = .ok (.bipush 10, 2) := by decide +kernel
theorem dX1_mayBegin_36 : decode cX1_mayBegin 36 = .ok (.if_icmp .lt 5, 3) := by decide +kernel
theorem dX1_mayBegin_39 : decode cX1_mayBegin 39 = .ok (.iconst 0, 1) := by decide +kernel
theorem dX1_mayBegin_40 : decode cX1_mayBegin 40 = .ok (.ireturn, 1) := by decide +kernel
theorem dX1_mayBegin_41 : decode cX1_mayBegin 41 = .ok (.iconst 0, 1) := by decide +kernel
theorem dX1_mayBegin_42 : decode cX1_mayBegin 42 = .ok (.istore 4, 2) := by decide +kernel
theorem dX1_mayBegin_44 : decode cX1_mayBegin 44 = .ok (.iload 4, 2) := by decide +kernel
theorem dX1_mayBegin_46 : decode cX1_mayBegin 46 = .ok (.aload_n 0, 1) := by decide +kernel
theorem dX1_mayBegin_47 : decode cX1_mayBegin 47 = .ok (.getfield 15, 3) := by decide +kernel
theorem dX1_mayBegin_50 : decode cX1_mayBegin 50 = .ok (.if_icmp .ge 55, 3) := by decide +kernel
theorem dX1_mayBegin_53 : decode cX1_mayBegin 53 = .ok (.iload 4, 2) := by decide +kernel
theorem dX1_mayBegin_55 : decode cX1_mayBegin 55 = .ok (.iload_n 1, 1) := by decide +kernel
theorem dX1_mayBegin_56 : decode cX1_mayBegin 56 = .ok (.if_icmp .eq 43, 3) := by decide +kernel
theorem dX1_mayBegin_59 : decode cX1_mayBegin 59 = .ok (.aload_n 0, 1) := by decide +kernel
theorem dX1_mayBegin_60 : decode cX1_mayBegin 60 = .ok (.getfield 27, 3) := by decide +kernel
theorem dX1_mayBegin_63 : decode cX1_mayBegin 63 = .ok (.iload 4, 2) := by decide +kernel
theorem dX1_mayBegin_65 : decode cX1_mayBegin 65 = .ok (.iaload, 1) := by decide +kernel
theorem dX1_mayBegin_66 : decode cX1_mayBegin 66 = .ok (.aload_n 0, 1) := by decide +kernel
theorem dX1_mayBegin_67 : decode cX1_mayBegin 67 = .ok (.getfield 27, 3) := by decide +kernel
theorem dX1_mayBegin_70 : decode cX1_mayBegin 70 = .ok (.iload_n 1, 1) := by decide +kernel
theorem dX1_mayBegin_71 : decode cX1_mayBegin 71 = .ok (.iaload, 1) := by decide +kernel
theorem dX1_mayBegin_72 : decode cX1_mayBegin 72 = .ok (.if_icmp .ne 27, 3) := by decide +kernel
theorem dX1_mayBegin_75 : decode cX1_mayBegin 75 = .ok (.aload_n 0, 1) := by decide +kernel
theorem dX1_mayBegin_76 : decode cX1_mayBegin 76 = .ok (.getfield 31, 3) := by decide +kernel
theorem dX1_mayBegin_79 : decode cX1_mayBegin 79 = .ok (.iload 4, 2) := by decide +kernel
theorem dX1_mayBegin_81 : decode cX1_mayBegin 81 = .ok (.iaload, 1) := by decide +kernel
theorem dX1_mayBegin_82 : decode cX1_mayBegin 82 = .ok (.iload_n 3, 1) := by decide +kernel
theorem dX1_mayBegin_83 : decode cX1_mayBegin 83 = .ok (.if_icmp .gt 16, 3) := by decide +kernel
theorem dX1_mayBegin_86 : decode cX1_mayBegin 86 = .ok (.iload_n 2, 1) := by decide +kernel
theorem dX1_mayBegin_87 : decode cX1_mayBegin 87 = .ok (.aload_n 0, 1) := by decide +kernel
theorem dX1_mayBegin_88 : decode cX1_mayBegin 88 = .ok (.getfield 34, 3) := by decide +kernel
theorem dX1_mayBegin_91 : decode cX1_mayBegin 91 = .ok (.iload 4, 2) := by decide +kernel
theorem dX1_mayBegin_93 : decode cX1_mayBegin 93 = .ok (.iaload, 1) := by decide +kernel
theorem dX1_mayBegin_94 : decode cX1_mayBegin 94 = .ok (.if_icmp .gt 5, 3) := by decide +kernel
theorem dX1_mayBegin_97 : decode cX1_mayBegin 97 = .ok (.iconst 0, 1) := by decide +kernel
theorem dX1_mayBegin_98 : decode cX1_mayBegin 98 = .ok (.ireturn, 1) := by decide +kernel
theorem dX1_mayBegin_99 : decode cX1_mayBegin 99 = .ok (.iinc 4 1, 3) := by decide +kernel
theorem dX1_mayBegin_102 : decode cX1_mayBegin 102 = .ok (.goto (-58), 3) := by decide +kernel
theorem dX1_mayBegin_105 : decode cX1_mayBegin 105 = .ok (.iconst 1, 1) := by decide +kernel
theorem dX1_mayBegin_106 : decode cX1_mayBegin 106 = .ok (.ireturn, 1) := by decide +kernel
theorem dX1_beginAt_0 : decode cX1_beginAt 0 = .ok (.aload_n 0, 1) := by decide +kernel
theorem dX1_beginAt_1 : decode cX1_beginAt 1 = .ok (.iload_n 1, 1) := by decide +kernel
theorem dX1_beginAt_2 : decode cX1_beginAt 2 = .ok (.invokevirtual 80, 3) := by decide +kernel
theorem dX1_beginAt_5 : decode cX1_beginAt 5 = .ok (.ifCond .eq 31, 3) := by decide +kernel
theorem dX1_beginAt_8 : decode cX1_beginAt 8 = .ok (.aload_n 0, 1) := by decide +kernel
theorem dX1_beginAt_9 : decode cX1_beginAt 9 = .ok (.getfield 34, 3) := by decide +kernel
theorem dX1_beginAt_12 : decode cX1_beginAt 12 = .ok (.iload_n 1, 1) := by decide +kernel
theorem dX1_beginAt_13 : decode cX1_beginAt 13 = .ok (.dup2, 1) := by decide +kernel
theorem dX1_beginAt_14 : decode cX1_beginAt 14 = .ok (.iaload, 1) := by decide +kernel
theorem dX1_beginAt_15 : decode cX1_beginAt 15 = .ok (.iload_n 2, 1) := by decide +kernel
theorem dX1_beginAt_16 : decode cX1_beginAt 16 = .ok (.aload_n 0, 1) := by decide +kernel
theorem dX1_beginAt_17 : decode cX1_beginAt 17 = .ok (.getfield 31, 3) := by decide +kernel
theorem dX1_beginAt_20 : decode cX1_beginAt 20 = .ok (.iload_n 1, 1) := by decide +kernel
theorem dX1_beginAt_21 : decode cX1_beginAt 21 = .ok (.iaload, 1) := by decide +kernel
theorem dX1_beginAt_22 : decode cX1_beginAt 22 = .ok (.isub, 1) := by decide +kernel
theorem dX1_beginAt_23 : decode cX1_beginAt 23 = .ok (.iadd, 1) := by decide +kernel
theorem dX1_beginAt_24 : decode cX1_beginAt 24 = .ok (.iastore, 1) := by decide +kernel
theorem dX1_beginAt_25 : decode cX1_beginAt 25 = .ok (.aload_n 0, 1) := by decide +kernel
theorem dX1_beginAt_26 : decode cX1_beginAt 26 = .ok (.getfield 31, 3) := by decide +kernel
theorem dX1_beginAt_29 : decode cX1_beginAt 29 = .ok (.iload_n 1, 1) := by decide +kernel
theorem dX1_beginAt_30 : decode cX1_beginAt 30 = .ok (.iload_n 2, 1) := by decide +kernel
theorem dX1_beginAt_31 : decode cX1_beginAt 31 = .ok (.iastore, 1) := by decide +kernel
theorem dX1_beginAt_32 : decode cX1_beginAt 32 = .ok (.aload_n 0, 1) := by decide +kernel
theorem dX1_beginAt_33 : decode cX1_beginAt 33 = .ok (.invokevirtual 70, 3) := by decide +kernel
theorem dX1_beginAt_36 : decode cX1_beginAt 36 = .ok (.return_, 1) := by decide +kernel
theorem dX1_arrange_0 : decode cX1_arrange 0 = .ok (.aload_n 0, 1) := by decide +kernel
theorem dX1_arrange_1 : decode cX1_arrange 1 = .ok (.getfield 52, 3) := by decide +kernel
theorem dX1_arrange_4 : decode cX1_arrange 4 = .ok (.iconst 0, 1) := by decide +kernel
theorem dX1_arrange_5 : decode cX1_arrange 5 = .ok (.invokestatic 64, 3) := by decide +kernel
theorem dX1_arrange_8 : decode cX1_arrange 8 = .ok (.aload_n 0, 1) := by decide +kernel
theorem dX1_arrange_9 : decode cX1_arrange 9 = .ok (.getfield 55, 3) := by decide +kernel
theorem dX1_arrange_12 : decode cX1_arrange 12 = .ok (.iconst 0, 1) := by decide +kernel
theorem dX1_arrange_13 : decode cX1_arrange 13 = .ok (.invokestatic 64, 3) := by decide +kernel
theorem dX1_arrange_16 : decode cX1_arrange 16 = .ok (.aload_n 0, 1) := by decide +kernel
theorem dX1_arrange_17 : decode cX1_arrange 17 = .ok (.getfield 58, 3) := by decide +kernel
theorem dX1_arrange_20 : decode cX1_arrange 20 = .ok (.bipush (-9), 2) := by decide +kernel
theorem dX1_arrange_22 : decode cX1_arrange 22 = .ok (.invokestatic 64, 3) := by decide +kernel
theorem dX1_arrange_25 : decode cX1_arrange 25 = .ok (.aload_n 0, 1) := by decide +kernel
theorem dX1_arrange_26 : decode cX1_arrange 26 = .ok (.getfield 15, 3) := by decide +kernel
theorem dX1_arrange_29 : decode cX1_arrange 29 = .ok (.iconst 1, 1) := by decide +kernel
theorem dX1_arrange_30 : decode cX1_arrange 30 = .ok (.isub, 1) := by decide +kernel
theorem dX1_arrange_31 : decode cX1_arrange 31 = .ok (.istore_n 1, 1) := by decide +kernel
theorem dX1_arrange_32 : decode cX1_arrange 32 = .ok (.iload_n 1, 1) := by decide +kernel
theorem dX1_arrange_33 : decode cX1_arrange 33 = .ok (.ifCond .lt 84, 3) := by decide +kernel
theorem dX1_arrange_36 : decode cX1_arrange 36 = .ok (.aload_n 0, 1) := by decide +kernel
theorem dX1_arrange_37 : decode cX1_arrange 37 = .ok (.getfield 31, 3) := by decide +kernel
theorem dX1_arrange_40 : decode cX1_arrange 40 = .ok (.iload_n 1, 1) := by decide +kernel
theorem dX1_arrange_41 : decode cX1_arrange 41 = .ok (.iaload, 1) := by decide +kernel
theorem dX1_arrange_42 : decode cX1_arrange 42 = .ok (.invokestatic 83, 3) := by decide +kernel
theorem dX1_arrange_45 : decode cX1_arrange 45 = .ok (.ifCond .eq 66, 3) := by decide +kernel
theorem dX1_arrange_48 : decode cX1_arrange 48 = .ok (.aload_n 0, 1) := by decide +kernel
theorem dX1_arrange_49 : decode cX1_arrange 49 = .ok (.getfield 34, 3) := by decide +kernel
theorem dX1_arrange_52 : decode cX1_arrange 52 = .ok (.iload_n 1, 1) := by decide +kernel
theorem dX1_arrange_53 : decode cX1_arrange 53 = .ok (.iaload, 1) := by decide +kernel
theorem dX1_arrange_54 : decode cX1_arrange 54 = .ok (.invokestatic 83, 3) := by decide +kernel
theorem dX1_arrange_57 : decode cX1_arrange 57 = .ok (.ifCond .eq 54, 3) := by decide +kernel
theorem dX1_arrange_60 : decode cX1_arrange 60 = .ok (.aload_n 0, 1) := by decide +kernel
theorem dX1_arrange_61 : decode cX1_arrange 61 = .ok (.getfield 52, 3) := by decide +kernel
theorem dX1_arrange_64 : decode cX1_arrange 64 = .ok (.aload_n 0, 1) := by decide +kernel
theorem dX1_arrange_65 : decode cX1_arrange 65 = .ok (.getfield 31, 3) := by decide +kernel
theorem dX1_arrange_68 : decode cX1_arrange 68 = .ok (.iload_n 1, 1) := by decide +kernel
theorem dX1_arrange_69 : decode cX1_arrange 69 = .ok (.iaload, 1) := by decide +kernel
theorem dX1_arrange_70 : decode cX1_arrange 70 = .ok (.dup2, 1) := by decide +kernel
theorem dX1_arrange_71 : decode cX1_arrange 71 = .ok (.iaload, 1) := by decide +kernel
theorem dX1_arrange_72 : decode cX1_arrange 72 = .ok (.iconst 1, 1) := by decide +kernel
theorem dX1_arrange_73 : decode cX1_arrange 73 = .ok (.iload_n 1, 1) := by decide +kernel
theorem dX1_arrange_74 : decode cX1_arrange 74 = .ok (.ishl, 1) := by decide +kernel
theorem dX1_arrange_75 : decode cX1_arrange 75 = .ok (.ior, 1) := by decide +kernel
theorem dX1_arrange_76 : decode cX1_arrange 76 = .ok (.iastore, 1) := by decide +kernel
theorem dX1_arrange_77 : decode cX1_arrange 77 = .ok (.aload_n 0, 1) := by decide +kernel
theorem dX1_arrange_78 : decode cX1_arrange 78 = .ok (.getfield 55, 3) := by decide +kernel
theorem dX1_arrange_81 : decode cX1_arrange 81 = .ok (.aload_n 0, 1) := by decide +kernel
theorem dX1_arrange_82 : decode cX1_arrange 82 = .ok (.getfield 34, 3) := by decide +kernel
theorem dX1_arrange_85 : decode cX1_arrange 85 = .ok (.iload_n 1, 1) := by decide +kernel
theorem dX1_arrange_86 : decode cX1_arrange 86 = .ok (.iaload, 1) := by decide +kernel
theorem dX1_arrange_87 : decode cX1_arrange 87 = .ok (.dup2, 1) := by decide +kernel
theorem dX1_arrange_88 : decode cX1_arrange 88 = .ok (.iaload, 1) := by decide +kernel
theorem dX1_arrange_89 : decode cX1_arrange 89 = .ok (.iconst 1, 1) := by decide +kernel
theorem dX1_arrange_90 : decode cX1_arrange 90 = .ok (.iload_n 1, 1) := by decide +kernel
theorem dX1_arrange_91 : decode cX1_arrange 91 = .ok (.ishl, 1) := by decide +kernel
theorem dX1_arrange_92 : decode cX1_arrange 92 = .ok (.ior, 1) := by decide +kernel
theorem dX1_arrange_93 : decode cX1_arrange 93 = .ok (.iastore, 1) := by decide +kernel
theorem dX1_arrange_94 : decode cX1_arrange 94 = .ok (.aload_n 0, 1) := by decide +kernel
theorem dX1_arrange_95 : decode cX1_arrange 95 = .ok (.getfield 58, 3) := by decide +kernel
theorem dX1_arrange_98 : decode cX1_arrange 98 = .ok (.aload_n 0, 1) := by decide +kernel
theorem dX1_arrange_99 : decode cX1_arrange 99 = .ok (.getfield 31, 3) := by decide +kernel
theorem dX1_arrange_102 : decode cX1_arrange 102 = .ok (.iload_n 1, 1) := by decide +kernel
theorem dX1_arrange_103 : decode cX1_arrange 103 = .ok (.iaload, 1) := by decide +kernel
theorem dX1_arrange_104 : decode cX1_arrange 104 = .ok (.aload_n 0, 1) := by decide +kernel
theorem dX1_arrange_105 : decode cX1_arrange 105 = .ok (.getfield 27, 3) := by decide +kernel
theorem dX1_arrange_108 : decode cX1_arrange 108 = .ok (.iload_n 1, 1) := by decide +kernel
theorem dX1_arrange_109 : decode cX1_arrange 109 = .ok (.iaload, 1) := by decide +kernel
theorem dX1_arrange_110 : decode cX1_arrange 110 = .ok (.iastore, 1) := by decide +kernel
theorem dX1_arrange_111 : decode cX1_arrange 111 = .ok (.iinc 1 (-1), 3) := by decide +kernel
theorem dX1_arrange_114 : decode cX1_arrange 114 = .ok (.goto (-82), 3) := by decide +kernel
theorem dX1_arrange_117 : decode cX1_arrange 117 = .ok (.bipush (-9), 2) := by decide +kernel
theorem dX1_arrange_119 : decode cX1_arrange 119 = .ok (.istore_n 1, 1) := by decide +kernel
theorem dX1_arrange_120 : decode cX1_arrange 120 = .ok (.bipush 19, 2) := by decide +kernel
theorem dX1_arrange_122 : decode cX1_arrange 122 = .ok (.istore_n 2, 1) := by decide +kernel
theorem dX1_arrange_123 : decode cX1_arrange 123 = .ok (.iload_n 2, 1) := by decide +kernel
theorem dX1_arrange_124 : decode cX1_arrange 124 = .ok (.ifCond .lt 39, 3) := by decide +kernel
theorem dX1_arrange_127 : decode cX1_arrange 127 = .ok (.iload_n 2, 1) := by decide +kernel
theorem dX1_arrange_128 : decode cX1_arrange 128 = .ok (.bipush 10, 2) := by decide +kernel
theorem dX1_arrange_130 : decode cX1_arrange 130 = .ok (.irem, 1) := by decide +kernel
theorem dX1_arrange_131 : decode cX1_arrange 131 = .ok (.istore_n 3, 1) := by decide +kernel
theorem dX1_arrange_132 : decode cX1_arrange 132 = .ok (.aload_n 0, 1) := by decide +kernel
theorem dX1_arrange_133 : decode cX1_arrange 133 = .ok (.getfield 61, 3) := by decide +kernel
theorem dX1_arrange_136 : decode cX1_arrange 136 = .ok (.iload_n 3, 1) := by decide +kernel
theorem dX1_arrange_137 : decode cX1_arrange 137 = .ok (.iload_n 1, 1) := by decide +kernel
theorem dX1_arrange_138 : decode cX1_arrange 138 = .ok (.iastore, 1) := by decide +kernel
theorem dX1_arrange_139 : decode cX1_arrange 139 = .ok (.aload_n 0, 1) := by decide +kernel
theorem dX1_arrange_140 : decode cX1_arrange 140 = .ok (.getfield 58, 3) := by decide +kernel
theorem dX1_arrange_143 : decode cX1_arrange 143 = .ok (.iload_n 3, 1) := by decide +kernel
theorem dX1_arrange_144 : decode cX1_arrange 144 = .ok (.iaload, 1) := by decide +kernel
theorem dX1_arrange_145 : decode cX1_arrange 145 = .ok (.bipush (-9), 2) := by decide +kernel
theorem dX1_arrange_147 : decode cX1_arrange 147 = .ok (.if_icmp .eq 10, 3) := by decide +kernel
theorem dX1_arrange_150 : decode cX1_arrange 150 = .ok (.aload_n 0, 1) := by decide +kernel
theorem dX1_arrange_151 : decode cX1_arrange 151 = .ok (.getfield 58, 3) := by decide +kernel
theorem dX1_arrange_154 : decode cX1_arrange 154 = .ok (.iload_n 3, 1) := by decide +kernel
theorem dX1_arrange_155 : decode cX1_arrange 155 = .ok (.iaload, 1) := by decide +kernel
theorem dX1_arrange_156 : decode cX1_arrange 156 = .ok (.istore_n 1, 1) := by decide +kernel
theorem dX1_arrange_157 : decode cX1_arrange 157 = .ok (.iinc 2 (-1), 3) := by decide +kernel
theorem dX1_arrange_160 : decode cX1_arrange 160 = .ok (.goto (-37), 3) := by decide +kernel
theorem dX1_arrange_163 : decode cX1_arrange 163 = .ok (.return_, 1) := by decide +kernel
theorem dX1_under_0 : decode cX1_under 0 = .ok (.iconst 0, 1) := by decide +kernel
theorem dX1_under_1 : decode cX1_under 1 = .ok (.istore_n 2, 1) := by decide +kernel
theorem dX1_under_2 : decode cX1_under 2 = .ok (.iconst 0, 1) := by decide +kernel
theorem dX1_under_3 : decode cX1_under 3 = .ok (.istore_n 3, 1) := by decide +kernel
theorem dX1_under_4 : decode cX1_under 4 = .ok (.iload_n 3, 1) := by decide +kernel
theorem dX1_under_5 : decode cX1_under 5 = .ok (.aload_n 0, 1) := by decide +kernel
theorem dX1_under_6 : decode cX1_under 6 = .ok (.getfield 15, 3) := by decide +kernel
theorem dX1_under_9 : decode cX1_under 9 = .ok (.if_icmp .ge 35, 3) := by decide +kernel
theorem dX1_under_12 : decode cX1_under 12 = .ok (.aload_n 0, 1) := by decide +kernel
theorem dX1_under_13 : decode cX1_under 13 = .ok (.getfield 31, 3) := by decide +kernel
theorem dX1_under_16 : decode cX1_under 16 = .ok (.iload_n 3, 1) := by decide +kernel
theorem dX1_under_17 : decode cX1_under 17 = .ok (.iaload, 1) := by decide +kernel
theorem dX1_under_18 : decode cX1_under 18 = .ok (.iload_n 1, 1) := by decide +kernel
theorem dX1_under_19 : decode cX1_under 19 = .ok (.if_icmp .ge 19, 3) := by decide +kernel
theorem dX1_under_22 : decode cX1_under 22 = .ok (.iload_n 1, 1) := by decide +kernel
theorem dX1_under_23 : decode cX1_under 23 = .ok (.aload_n 0, 1) := by decide +kernel
theorem dX1_under_24 : decode cX1_under 24 = .ok (.getfield 34, 3) := by decide +kernel
theorem dX1_under_27 : decode cX1_under 27 = .ok (.iload_n 3, 1) := by decide +kernel
theorem dX1_under_28 : decode cX1_under 28 = .ok (.iaload, 1) := by decide +kernel
theorem dX1_under_29 : decode cX1_under 29 = .ok (.if_icmp .gt 9, 3) := by decide +kernel
theorem dX1_under_32 : decode cX1_under 32 = .ok (.iload_n 2, 1) := by decide +kernel
theorem dX1_under_33 : decode cX1_under 33 = .ok (.iconst 1, 1) := by decide +kernel
theorem dX1_under_34 : decode cX1_under 34 = .ok (.iload_n 3, 1) := by decide +kernel
theorem dX1_under_35 : decode cX1_under 35 = .ok (.ishl, 1) := by decide +kernel
theorem dX1_under_36 : decode cX1_under 36 = .ok (.ior, 1) := by decide +kernel
theorem dX1_under_37 : decode cX1_under 37 = .ok (.istore_n 2, 1) := by decide +kernel
theorem dX1_under_38 : decode cX1_under 38 = .ok (.iinc 3 1, 3) := by decide +kernel
theorem dX1_under_41 : decode cX1_under 41 = .ok (.goto (-37), 3) := by decide +kernel
theorem dX1_under_44 : decode cX1_under 44 = .ok (.iload_n 2, 1) := by decide +kernel
theorem dX1_under_45 : decode cX1_under 45 = .ok (.ireturn, 1) := by decide +kernel
theorem dX1_personOfLeast_0 : decode cX1_personOfLeast 0 = .ok (.iconst 0, 1) := by decide +kernel
theorem dX1_personOfLeast_1 : decode cX1_personOfLeast 1 = .ok (.istore_n 2, 1) := by decide +kernel
theorem dX1_personOfLeast_2 : decode cX1_personOfLeast 2 = .ok (.iload_n 2, 1) := by decide +kernel
theorem dX1_personOfLeast_3 : decode cX1_personOfLeast 3 = .ok (.aload_n 0, 1) := by decide +kernel
theorem dX1_personOfLeast_4 : decode cX1_personOfLeast 4 = .ok (.getfield 15, 3) := by decide +kernel
theorem dX1_personOfLeast_7 : decode cX1_personOfLeast 7 = .ok (.if_icmp .ge 24, 3) := by decide +kernel
theorem dX1_personOfLeast_10 : decode cX1_personOfLeast 10 = .ok (.iload_n 1, 1) := by decide +kernel
theorem dX1_personOfLeast_11 : decode cX1_personOfLeast 11 = .ok (.iload_n 2, 1) := by decide +kernel
theorem dX1_personOfLeast_12 : decode cX1_personOfLeast 12 = .ok (.ishr, 1) := by decide +kernel
theorem dX1_personOfLeast_13 : decode cX1_personOfLeast 13 = .ok (.iconst 1, 1) := by decide +kernel
theorem dX1_personOfLeast_14 : decode cX1_personOfLeast 14 = .ok (.iand, 1) := by decide +kernel
theorem dX1_personOfLeast_15 : decode cX1_personOfLeast 15 = .ok (.ifCond .eq 10, 3) := by decide +kernel
theorem dX1_personOfLeast_18 : decode cX1_personOfLeast 18 = .ok (.aload_n 0, 1) := by decide +kernel
theorem dX1_personOfLeast_19 : decode cX1_personOfLeast 19 = .ok (.getfield 27, 3) := by decide +kernel
theorem dX1_personOfLeast_22 : decode cX1_personOfLeast 22 = .ok (.iload_n 2, 1) := by decide +kernel
theorem dX1_personOfLeast_23 : decode cX1_personOfLeast 23 = .ok (.iaload, 1) := by decide +kernel
theorem dX1_personOfLeast_24 : decode cX1_personOfLeast 24 = .ok (.ireturn, 1) := by decide +kernel
theorem dX1_personOfLeast_25 : decode cX1_personOfLeast 25 = .ok (.iinc 2 1, 3) := by decide +kernel
theorem dX1_personOfLeast_28 : decode cX1_personOfLeast 28 = .ok (.goto (-26), 3) := by decide +kernel
theorem dX1_personOfLeast_31 : decode cX1_personOfLeast 31 = .ok (.bipush (-9), 2) := by decide +kernel
theorem dX1_personOfLeast_33 : decode cX1_personOfLeast 33 = .ok (.ireturn, 1) := by decide +kernel
theorem dX2_init_0 : decode cX2_init 0 = .ok (.aload_n 0, 1) := by decide +kernel
theorem dX2_init_1 : decode cX2_init 1 = .ok (.invokespecial 3, 3) := by decide +kernel
theorem dX2_init_4 : decode cX2_init 4 = .ok (.aload_n 0, 1) := by decide +kernel
theorem dX2_init_5 : decode cX2_init 5 = .ok (.iconst 0, 1) := by decide +kernel
theorem dX2_init_6 : decode cX2_init 6 = .ok (.putfield 9, 3) := by decide +kernel
theorem dX2_init_9 : decode cX2_init 9 = .ok (.aload_n 0, 1) := by decide +kernel
theorem dX2_init_10 : decode cX2_init 10 = .ok (.iconst 0, 1) := by decide +kernel
theorem dX2_init_11 : decode cX2_init 11 = .ok (.putfield 15, 3) := by decide +kernel
theorem dX2_init_14 : decode cX2_init 14 = .ok (.aload_n 0, 1) := by decide +kernel
theorem dX2_init_15 : decode cX2_init 15 = .ok (.iconst 0, 1) := by decide +kernel
theorem dX2_init_16 : decode cX2_init 16 = .ok (.putfield 18, 3) := by decide +kernel
theorem dX2_init_19 : decode cX2_init 19 = .ok (.aload_n 0, 1) := by decide +kernel
theorem dX2_init_20 : decode cX2_init 20 = .ok (.iconst 0, 1) := by decide +kernel
theorem dX2_init_21 : decode cX2_init 21 = .ok (.putfield 21, 3) := by decide +kernel
theorem dX2_init_24 : decode cX2_init 24 = .ok (.aload_n 0, 1) := by decide +kernel
theorem dX2_init_25 : decode cX2_init 25 = .ok (.iconst 0, 1) := by decide +kernel
theorem dX2_init_26 : decode cX2_init 26 = .ok (.putfield 24, 3) := by decide +kernel
theorem dX2_init_29 : decode cX2_init 29 = .ok (.aload_n 0, 1) := by decide +kernel
theorem dX2_init_30 : decode cX2_init 30 = .ok (.iconst 0, 1) := by decide +kernel
theorem dX2_init_31 : decode cX2_init 31 = .ok (.putfield 27, 3) := by decide +kernel
theorem dX2_init_34 : decode cX2_init 34 = .ok (.aload_n 0, 1) := by decide +kernel
theorem dX2_init_35 : decode cX2_init 35 = .ok (.bipush 6, 2) := by decide +kernel
theorem dX2_init_37 : decode cX2_init 37 = .ok (.newarray .int, 2) := by decide +kernel
theorem dX2_init_39 : decode cX2_init 39 = .ok (.putfield 30, 3) := by decide +kernel
theorem dX2_init_42 : decode cX2_init 42 = .ok (.return_, 1) := by decide +kernel
theorem dX2_faultIn_0 : decode cX2_faultIn 0 = .ok (.aload_n 3, 1) := by decide +kernel
theorem dX2_faultIn_1 : decode cX2_faultIn 1 = .ok (.invokevirtual 34, 3) := by decide +kernel
theorem dX2_faultIn_4 : decode cX2_faultIn 4 = .ok (.aload_n 0, 1) := by decide +kernel
theorem dX2_faultIn_5 : decode cX2_faultIn 5 = .ok (.iconst 0, 1) := by decide +kernel
theorem dX2_faultIn_6 : decode cX2_faultIn 6 = .ok (.putfield 9, 3) := by decide +kernel
theorem dX2_faultIn_9 : decode cX2_faultIn 9 = .ok (.aload_n 0, 1) := by decide +kernel
theorem dX2_faultIn_10 : decode cX2_faultIn 10 = .ok (.iconst 0, 1) := by decide +kernel
theorem dX2_faultIn_11 : decode cX2_faultIn 11 = .ok (.putfield 24, 3) := by decide +kernel
theorem dX2_faultIn_14 : decode cX2_faultIn 14 = .ok (.aload_n 0, 1) := by decide +kernel
theorem dX2_faultIn_15 : decode cX2_faultIn 15 = .ok (.iconst 0, 1) := by decide +kernel
theorem dX2_faultIn_16 : decode cX2_faultIn 16 = .ok (.putfield 27, 3) := by decide +kernel
theorem dX2_faultIn_19 : decode cX2_faultIn 19 = .ok (.aload_n 0, 1) := by decide +kernel
theorem dX2_faultIn_20 : decode cX2_faultIn 20 = .ok (.getfield 30, 3) := by decide +kernel
theorem dX2_faultIn_23 : decode cX2_faultIn 23 = .ok (.iconst 0, 1) := by decide +kernel
theorem dX2_faultIn_24 : decode cX2_faultIn 24 = .ok (.invokestatic 39, 3) := by decide +kernel
theorem dX2_faultIn_27 : decode cX2_faultIn 27 = .ok (.iconst 0, 1) := by decide +kernel
theorem dX2_faultIn_28 : decode cX2_faultIn 28 = .ok (.istore 4, 2) := by decide +kernel
theorem dX2_faultIn_30 : decode cX2_faultIn 30 = .ok (.iload 4, 2) := by decide +kernel
theorem dX2_faultIn_32 : decode cX2_faultIn 32 = .ok (.iload_n 2, 1) := by decide +kernel
theorem dX2_faultIn_33 : decode cX2_faultIn 33 = .ok (.if_icmp .ge 31, 3) := by decide +kernel
theorem dX2_faultIn_36 : decode cX2_faultIn 36 = .ok (.iload 4, 2) := by decide +kernel
theorem dX2_faultIn_38 : decode cX2_faultIn 38 = .ok (.aload_n 1, 1) := by decide +kernel
theorem dX2_faultIn_39 : decode cX2_faultIn 39 = .ok (.arraylength, 1) := by decide +kernel
theorem dX2_faultIn_40 : decode cX2_faultIn 40 = .ok (.if_icmp .ge 24, 3) := by decide +kernel
theorem dX2_faultIn_43 : decode cX2_faultIn 43 = .ok (.aload_n 0, 1) := by decide +kernel
theorem dX2_faultIn_44 : decode cX2_faultIn 44 = .ok (.aload_n 1, 1) := by decide +kernel
theorem dX2_faultIn_45 : decode cX2_faultIn 45 = .ok (.iload 4, 2) := by decide +kernel
theorem dX2_faultIn_47 : decode cX2_faultIn 47 = .ok (.baload, 1) := by decide +kernel
theorem dX2_faultIn_48 : decode cX2_faultIn 48 = .ok (.aload_n 3, 1) := by decide +kernel
theorem dX2_faultIn_49 : decode cX2_faultIn 49 = .ok (.invokevirtual 45, 3) := by decide +kernel
theorem dX2_faultIn_52 : decode cX2_faultIn 52 = .ok (.ifCond .ne 6, 3) := by decide +kernel
theorem dX2_faultIn_55 : decode cX2_faultIn 55 = .ok (.iload 4, 2) := by decide +kernel
theorem dX2_faultIn_57 : decode cX2_faultIn 57 = .ok (.ireturn, 1) := by decide +kernel
theorem dX2_faultIn_58 : decode cX2_faultIn 58 = .ok (.iinc 4 1, 3) := by decide +kernel
theorem dX2_faultIn_61 : decode cX2_faultIn 61 = .ok (.goto (-31), 3) := by decide +kernel
theorem dX2_faultIn_64 : decode cX2_faultIn 64 = .ok (.aload_n 0, 1) := by decide +kernel
theorem dX2_faultIn_65 : decode cX2_faultIn 65 = .ok (.getfield 9, 3) := by decide +kernel
theorem dX2_faultIn_68 : decode cX2_faultIn 68 = .ok (.ifCond .ne 10, 3) := by decide +kernel
theorem dX2_faultIn_71 : decode cX2_faultIn 71 = .ok (.aload_n 3, 1) := by decide +kernel
theorem dX2_faultIn_72 : decode cX2_faultIn 72 = .ok (.getfield 49, 3) := by decide +kernel
theorem dX2_faultIn_75 : decode cX2_faultIn 75 = .ok (.ifCond .ne 5, 3) := by decide +kernel
theorem dX2_faultIn_78 : decode cX2_faultIn 78 = .ok (.iload_n 2, 1) := by decide +kernel
theorem dX2_faultIn_79 : decode cX2_faultIn 79 = .ok (.ireturn, 1) := by decide +kernel
theorem dX2_faultIn_80 : decode cX2_faultIn 80 = .ok (.aload_n 3, 1) := by decide +kernel
theorem dX2_faultIn_81 : decode cX2_faultIn 81 = .ok (.invokevirtual 52, 3) := by decide +kernel
theorem dX2_faultIn_84 : decode cX2_faultIn 84 = .ok (.bipush (-9), 2) := by decide +kernel
theorem dX2_faultIn_86 : decode cX2_faultIn 86 = .ok (.ireturn, 1) := by decide +kernel
theorem dX2_takes_0 : decode cX2_takes 0 = .ok (.aload_n 0, 1) := by decide +kernel
theorem dX2_takes_1 : decode cX2_takes 1 = .ok (.getfield 9, 3) := by decide +kernel
theorem dX2_takes_4 : decode cX2_takes 4 = .ok (.ifCond .ne 30, 3) := by decide +kernel
theorem dX2_takes_7 : decode cX2_takes 7 = .ok (.aload_n 0, 1) := by decide +kernel
theorem dX2_takes_8 : decode cX2_takes 8 = .ok (.iload_n 1, 1) := by decide +kernel
theorem dX2_takes_9 : decode cX2_takes 9 = .ok (.aload_n 2, 1) := by decide +kernel
theorem dX2_takes_10 : decode cX2_takes 10 = .ok (.invokevirtual 55, 3) := by decide +kernel
theorem dX2_takes_13 : decode cX2_takes 13 = .ok (.istore_n 3, 1) := by decide +kernel
theorem dX2_takes_14 : decode cX2_takes 14 = .ok (.aload_n 0, 1) := by decide +kernel
theorem dX2_takes_15 : decode cX2_takes 15 = .ok (.iload_n 3, 1) := by decide +kernel
theorem dX2_takes_16 : decode cX2_takes 16 = .ok (.ifCond .eq 7, 3) := by decide +kernel
theorem dX2_takes_19 : decode cX2_takes 19 = .ok (.iload_n 1, 1) := by decide +kernel
theorem dX2_takes_20 : decode cX2_takes 20 = .ok (.goto 4, 3) := by decide +kernel
theorem dX2_takes_23 : decode cX2_takes 23 = .ok (.iconst 0, 1) := by decide +kernel
theorem dX2_takes_24 : decode cX2_takes 24 = .ok (.putfield 9, 3) := by decide +kernel
theorem dX2_takes_27 : decode cX2_takes 27 = .ok (.aload_n 0, 1) := by decide +kernel
theorem dX2_takes_28 : decode cX2_takes 28 = .ok (.iconst 0, 1) := by decide +kernel
theorem dX2_takes_29 : decode cX2_takes 29 = .ok (.putfield 15, 3) := by decide +kernel
theorem dX2_takes_32 : decode cX2_takes 32 = .ok (.iload_n 3, 1) := by decide +kernel
theorem dX2_takes_33 : decode cX2_takes 33 = .ok (.ireturn, 1) := by decide +kernel
theorem dX2_takes_34 : decode cX2_takes 34 = .ok (.iload_n 1, 1) := by decide +kernel
theorem dX2_takes_35 : decode cX2_takes 35 = .ok (.bipush 48, 2) := by decide +kernel
theorem dX2_takes_37 : decode cX2_takes 37 = .ok (.isub, 1) := by decide +kernel
theorem dX2_takes_38 : decode cX2_takes 38 = .ok (.istore_n 3, 1) := by decide +kernel
theorem dX2_takes_39 : decode cX2_takes 39 = .ok (.iload_n 3, 1) := by decide +kernel
theorem dX2_takes_40 : decode cX2_takes 40 = .ok (.ifCond .lt 18, 3) := by decide +kernel
theorem dX2_takes_43 : decode cX2_takes 43 = .ok (.iload_n 3, 1) := by decide +kernel
theorem dX2_takes_44 : decode cX2_takes 44 = .ok (.bipush 9, 2) := by decide +kernel
theorem dX2_takes_46 : decode cX2_takes 46 = .ok (.if_icmp .gt 12, 3) := by decide +kernel
theorem dX2_takes_49 : decode cX2_takes 49 = .ok (.aload_n 0, 1) := by decide +kernel
theorem dX2_takes_50 : decode cX2_takes 50 = .ok (.iload_n 3, 1) := by decide +kernel
theorem dX2_takes_51 : decode cX2_takes 51 = .ok (.aload_n 2, 1) := by decide +kernel
theorem dX2_takes_52 : decode cX2_takes 52 = .ok (.invokevirtual 58, 3) := by decide +kernel
theorem dX2_takes_55 : decode cX2_takes 55 = .ok (.ifCond .ne 5, 3) := by decide +kernel
theorem dX2_takes_58 : decode cX2_takes 58 = .ok (.iconst 0, 1) := by decide +kernel
theorem dX2_takes_59 : decode cX2_takes 59 = .ok (.ireturn, 1) := by decide +kernel
theorem dX2_takes_60 : decode cX2_takes 60 = .ok (.aload_n 0, 1) := by decide +kernel
theorem dX2_takes_61 : decode cX2_takes 61 = .ok (.iload_n 3, 1) := by decide +kernel
theorem dX2_takes_62 : decode cX2_takes 62 = .ok (.aload_n 2, 1) := by decide +kernel
theorem dX2_takes_63 : decode cX2_takes 63 = .ok (.invokevirtual 61, 3) := by decide +kernel
theorem dX2_takes_66 : decode cX2_takes 66 = .ok (.iconst 1, 1) := by decide +kernel
theorem dX2_takes_67 : decode cX2_takes 67 = .ok (.ireturn, 1) := by decide +kernel
theorem dX2_mayFollow_0 : decode cX2_mayFollow 0 = .ok (.aload_n 2, 1) := by decide +kernel
theorem dX2_mayFollow_1 : decode cX2_mayFollow 1 = .ok (.getfield 49, 3) := by decide +kernel
theorem dX2_mayFollow_4 : decode cX2_mayFollow 4 = .ok (.ifCond .ne 15, 3) := by decide +kernel
theorem dX2_mayFollow_7 : decode cX2_mayFollow 7 = .ok (.iload_n 1, 1) := by decide +kernel
theorem dX2_mayFollow_8 : decode cX2_mayFollow 8 = .ok (.bipush 78, 2) := by decide +kernel
theorem dX2_mayFollow_10 : decode cX2_mayFollow 10 = .ok (.if_icmp .ne 7, 3) := by decide +kernel
theorem dX2_mayFollow_13 : decode cX2_mayFollow 13 = .ok (.iconst 1, 1) := by decide +kernel
theorem dX2_mayFollow_14 : decode cX2_mayFollow 14 = .ok (.goto 4, 3) := by decide +kernel
theorem dX2_mayFollow_17 : decode cX2_mayFollow 17 = .ok (.iconst 0, 1) := by decide +kernel
theorem dX2_mayFollow_18 : decode cX2_mayFollow 18 = .ok (.ireturn, 1) := by decide +kernel
theorem dX2_mayFollow_19 : decode cX2_mayFollow 19 = .ok (.iload_n 1, 1) := by decide +kernel
theorem dX2_mayFollow_20 : decode cX2_mayFollow 20 = .ok (.tableswitch 160 70 82 #[147, 160, 126, 160, 160, 160, 160, 160, 160, 106, 91, 160, 68], 68) := by decide +kernel
theorem dX2_mayFollow_88 : decode cX2_mayFollow 88 = .ok (.aload_n 2, 1) := by decide +kernel
theorem dX2_mayFollow_89 : decode cX2_mayFollow 89 = .ok (.getfield 65, 3) := by decide +kernel
theorem dX2_mayFollow_92 : decode cX2_mayFollow 92 = .ok (.bipush 8, 2) := by decide +kernel
theorem dX2_mayFollow_94 : decode cX2_mayFollow 94 = .ok (.if_icmp .ge 15, 3) := by decide +kernel
theorem dX2_mayFollow_97 : decode cX2_mayFollow 97 = .ok (.aload_n 0, 1) := by decide +kernel
theorem dX2_mayFollow_98 : decode cX2_mayFollow 98 = .ok (.aload_n 2, 1) := by decide +kernel
theorem dX2_mayFollow_99 : decode cX2_mayFollow 99 = .ok (.invokevirtual 68, 3) := by decide +kernel
theorem dX2_mayFollow_102 : decode cX2_mayFollow 102 = .ok (.ifCond .eq 7, 3) := by decide +kernel
theorem dX2_mayFollow_105 : decode cX2_mayFollow 105 = .ok (.iconst 1, 1) := by decide +kernel
theorem dX2_mayFollow_106 : decode cX2_mayFollow 106 = .ok (.goto 4, 3) := by decide +kernel
theorem dX2_mayFollow_109 : decode cX2_mayFollow 109 = .ok (.iconst 0, 1) := by decide +kernel
theorem dX2_mayFollow_110 : decode cX2_mayFollow 110 = .ok (.ireturn, 1) := by decide +kernel
theorem dX2_mayFollow_111 : decode cX2_mayFollow 111 = .ok (.aload_n 2, 1) := by decide +kernel
theorem dX2_mayFollow_112 : decode cX2_mayFollow 112 = .ok (.getfield 72, 3) := by decide +kernel
theorem dX2_mayFollow_115 : decode cX2_mayFollow 115 = .ok (.bipush 15, 2) := by decide +kernel
theorem dX2_mayFollow_117 : decode cX2_mayFollow 117 = .ok (.if_icmp .eq 7, 3) := by decide +kernel
theorem dX2_mayFollow_120 : decode cX2_mayFollow 120 = .ok (.iconst 1, 1) := by decide +kernel
theorem dX2_mayFollow_121 : decode cX2_mayFollow 121 = .ok (.goto 4, 3) := by decide +kernel
theorem dX2_mayFollow_124 : decode cX2_mayFollow 124 = .ok (.iconst 0, 1) := by decide +kernel
theorem dX2_mayFollow_125 : decode cX2_mayFollow 125 = .ok (.ireturn, 1) := by decide +kernel
theorem dX2_mayFollow_126 : decode cX2_mayFollow 126 = .ok (.aload_n 2, 1) := by decide +kernel
theorem dX2_mayFollow_127 : decode cX2_mayFollow 127 = .ok (.getfield 72, 3) := by decide +kernel
theorem dX2_mayFollow_130 : decode cX2_mayFollow 130 = .ok (.aload_n 0, 1) := by decide +kernel
theorem dX2_mayFollow_131 : decode cX2_mayFollow 131 = .ok (.getfield 24, 3) := by decide +kernel
theorem dX2_mayFollow_134 : decode cX2_mayFollow 134 = .ok (.iconst (-1), 1) := by decide +kernel
theorem dX2_mayFollow_135 : decode cX2_mayFollow 135 = .ok (.ixor, 1) := by decide +kernel
theorem dX2_mayFollow_136 : decode cX2_mayFollow 136 = .ok (.iand, 1) := by decide +kernel
theorem dX2_mayFollow_137 : decode cX2_mayFollow 137 = .ok (.ifCond .eq 7, 3) := by decide +kernel
theorem dX2_mayFollow_140 : decode cX2_mayFollow 140 = .ok (.iconst 1, 1) := by decide +kernel
theorem dX2_mayFollow_141 : decode cX2_mayFollow 141 = .ok (.goto 4, 3) := by decide +kernel
theorem dX2_mayFollow_144 : decode cX2_mayFollow 144 = .ok (.iconst 0, 1) := by decide +kernel
theorem dX2_mayFollow_145 : decode cX2_mayFollow 145 = .ok (.ireturn, 1) := by decide +kernel
theorem dX2_mayFollow_146 : decode cX2_mayFollow 146 = .ok (.aload_n 0, 1) := by decide +kernel
theorem dX2_mayFollow_147 : decode cX2_mayFollow 147 = .ok (.getfield 27, 3) := by decide +kernel
theorem dX2_mayFollow_150 : decode cX2_mayFollow 150 = .ok (.iconst 1, 1) := by decide +kernel
theorem dX2_mayFollow_151 : decode cX2_mayFollow 151 = .ok (.aload_n 2, 1) := by decide +kernel
theorem dX2_mayFollow_152 : decode cX2_mayFollow 152 = .ok (.getfield 49, 3) := by decide +kernel
theorem dX2_mayFollow_155 : decode cX2_mayFollow 155 = .ok (.ishl, 1) := by decide +kernel
theorem dX2_mayFollow_156 : decode cX2_mayFollow 156 = .ok (.iconst 1, 1) := by decide +kernel
theorem dX2_mayFollow_157 : decode cX2_mayFollow 157 = .ok (.isub, 1) := by decide +kernel
theorem dX2_mayFollow_158 : decode cX2_mayFollow 158 = .ok (.if_icmp .eq 7, 3) := by decide +kernel
theorem dX2_mayFollow_161 : decode cX2_mayFollow 161 = .ok (.iconst 1, 1) := by decide +kernel
theorem dX2_mayFollow_162 : decode cX2_mayFollow 162 = .ok (.goto 4, 3) := by decide +kernel
theorem dX2_mayFollow_165 : decode cX2_mayFollow 165 = .ok (.iconst 0, 1) := by decide +kernel
theorem dX2_mayFollow_166 : decode cX2_mayFollow 166 = .ok (.ireturn, 1) := by decide +kernel
theorem dX2_mayFollow_167 : decode cX2_mayFollow 167 = .ok (.aload_n 2, 1) := by decide +kernel
theorem dX2_mayFollow_168 : decode cX2_mayFollow 168 = .ok (.getfield 75, 3) := by decide +kernel
theorem dX2_mayFollow_171 : decode cX2_mayFollow 171 = .ok (.ifCond .ne 7, 3) := by decide +kernel
theorem dX2_mayFollow_174 : decode cX2_mayFollow 174 = .ok (.iconst 1, 1) := by decide +kernel
theorem dX2_mayFollow_175 : decode cX2_mayFollow 175 = .ok (.goto 4, 3) := by decide +kernel
theorem dX2_mayFollow_178 : decode cX2_mayFollow 178 = .ok (.iconst 0, 1) := by decide +kernel
theorem dX2_mayFollow_179 : decode cX2_mayFollow 179 = .ok (.ireturn, 1) := by decide +kernel
theorem dX2_mayFollow_180 : decode cX2_mayFollow 180 = .ok (.iconst 0, 1) := by decide +kernel
theorem dX2_mayFollow_181 : decode cX2_mayFollow 181 = .ok (.ireturn, 1) := by decide +kernel
theorem dX2_somebodyHasTime_0 : decode cX2_somebodyHasTime 0 = .ok (.iconst 0, 1) := by decide +kernel
theorem dX2_somebodyHasTime_1 : decode cX2_somebodyHasTime 1 = .ok (.istore_n 2, 1) := by decide +kernel
theorem dX2_somebodyHasTime_2 : decode cX2_somebodyHasTime 2 = .ok (.iload_n 2, 1) := by decide +kernel
theorem dX2_somebodyHasTime_3 : decode cX2_somebodyHasTime 3 = .ok (.aload_n 1, 1) := by decide +kernel
theorem dX2_somebodyHasTime_4 : decode cX2_somebodyHasTime 4 = .ok (.getfield 49, 3) := by decide +kernel
theorem dX2_somebodyHasTime_7 : decode cX2_somebodyHasTime 7 = .ok (.if_icmp .ge 20, 3) := by decide +kernel
theorem dX2_somebodyHasTime_10 : decode cX2_somebodyHasTime 10 = .ok (.aload_n 0, 1) := by decide +kernel
theorem dX2_somebodyHasTime_11 : decode cX2_somebodyHasTime 11 = .ok (.iload_n 2, 1) := by decide +kernel
theorem dX2_somebodyHasTime_12 : decode cX2_somebodyHasTime 12 = .ok (.aload_n 1, 1) := by decide +kernel
theorem dX2_somebodyHasTime_13 : decode cX2_somebodyHasTime 13 = .ok (.invokevirtual 78, 3) := by decide +kernel
theorem dX2_somebodyHasTime_16 : decode cX2_somebodyHasTime 16 = .ok (.ifCond .eq 5, 3) := by decide +kernel
theorem dX2_somebodyHasTime_19 : decode cX2_somebodyHasTime 19 = .ok (.iconst 1, 1) := by decide +kernel
theorem dX2_somebodyHasTime_20 : decode cX2_somebodyHasTime 20 = .ok (.ireturn, 1) := by decide +kernel
theorem dX2_somebodyHasTime_21 : decode cX2_somebodyHasTime 21 = .ok (.iinc 2 1, 3) := by decide +kernel
theorem dX2_somebodyHasTime_24 : decode cX2_somebodyHasTime 24 = .ok (.goto (-22), 3) := by decide +kernel
theorem dX2_somebodyHasTime_27 : decode cX2_somebodyHasTime 27 = .ok (.iconst 0, 1) := by decide +kernel
theorem dX2_somebodyHasTime_28 : decode cX2_somebodyHasTime 28 = .ok (.ireturn, 1) := by decide +kernel
theorem dX2_hasTime_0 : decode cX2_hasTime 0 = .ok (.aload_n 2, 1) := by decide +kernel
theorem dX2_hasTime_1 : decode cX2_hasTime 1 = .ok (.iload_n 1, 1) := by decide +kernel
theorem dX2_hasTime_2 : decode cX2_hasTime 2 = .ok (.invokevirtual 81, 3) := by decide +kernel
theorem dX2_hasTime_5 : decode cX2_hasTime 5 = .ok (.ifCond .eq 19, 3) := by decide +kernel
theorem dX2_hasTime_8 : decode cX2_hasTime 8 = .ok (.aload_n 0, 1) := by decide +kernel
theorem dX2_hasTime_9 : decode cX2_hasTime 9 = .ok (.getfield 30, 3) := by decide +kernel
theorem dX2_hasTime_12 : decode cX2_hasTime 12 = .ok (.iload_n 1, 1) := by decide +kernel
theorem dX2_hasTime_13 : decode cX2_hasTime 13 = .ok (.iaload, 1) := by decide +kernel
theorem dX2_hasTime_14 : decode cX2_hasTime 14 = .ok (.sipush 1023, 3) := by decide +kernel
theorem dX2_hasTime_17 : decode cX2_hasTime 17 = .ok (.if_icmp .eq 7, 3) := by decide +kernel
theorem dX2_hasTime_20 : decode cX2_hasTime 20 = .ok (.iconst 1, 1) := by decide +kernel
theorem dX2_hasTime_21 : decode cX2_hasTime 21 = .ok (.goto 4, 3) := by decide +kernel
theorem dX2_hasTime_24 : decode cX2_hasTime 24 = .ok (.iconst 0, 1) := by decide +kernel
theorem dX2_hasTime_25 : decode cX2_hasTime 25 = .ok (.ireturn, 1) := by decide +kernel
theorem dX2_noteFigure_0 : decode cX2_noteFigure 0 = .ok (.aload_n 0, 1) := by decide +kernel
theorem dX2_noteFigure_1 : decode cX2_noteFigure 1 = .ok (.getfield 15, 3) := by decide +kernel
theorem dX2_noteFigure_4 : decode cX2_noteFigure 4 = .ok (.iconst 1, 1) := by decide +kernel
theorem dX2_noteFigure_5 : decode cX2_noteFigure 5 = .ok (.iadd, 1) := by decide +kernel
theorem dX2_noteFigure_6 : decode cX2_noteFigure 6 = .ok (.aload_n 0, 1) := by decide +kernel
theorem dX2_noteFigure_7 : decode cX2_noteFigure 7 = .ok (.getfield 9, 3) := by decide +kernel
theorem dX2_noteFigure_10 : decode cX2_noteFigure 10 = .ok (.invokestatic 85, 3) := by decide +kernel
theorem dX2_noteFigure_13 : decode cX2_noteFigure 13 = .ok (.if_icmp .ne 17, 3) := by decide +kernel
theorem dX2_noteFigure_16 : decode cX2_noteFigure 16 = .ok (.aload_n 0, 1) := by decide +kernel
theorem dX2_noteFigure_17 : decode cX2_noteFigure 17 = .ok (.iload_n 1, 1) := by decide +kernel
theorem dX2_noteFigure_18 : decode cX2_noteFigure 18 = .ok (.aload_n 2, 1) := by decide +kernel
theorem dX2_noteFigure_19 : decode cX2_noteFigure 19 = .ok (.invokevirtual 89, 3) := by decide +kernel
theorem dX2_noteFigure_22 : decode cX2_noteFigure 22 = .ok (.aload_n 0, 1) := by decide +kernel
theorem dX2_noteFigure_23 : decode cX2_noteFigure 23 = .ok (.iconst 0, 1) := by decide +kernel
theorem dX2_noteFigure_24 : decode cX2_noteFigure 24 = .ok (.putfield 9, 3) := by decide +kernel
theorem dX2_noteFigure_27 : decode cX2_noteFigure 27 = .ok (.goto 23, 3) := by decide +kernel
theorem dX2_noteFigure_30 : decode cX2_noteFigure 30 = .ok (.aload_n 0, 1) := by decide +kernel
theorem dX2_noteFigure_31 : decode cX2_noteFigure 31 = .ok (.getfield 15, 3) := by decide +kernel
theorem dX2_noteFigure_34 : decode cX2_noteFigure 34 = .ok (.ifCond .ne 11, 3) := by decide +kernel
theorem dX2_noteFigure_37 : decode cX2_noteFigure 37 = .ok (.aload_n 0, 1) := by decide +kernel
theorem dX2_noteFigure_38 : decode cX2_noteFigure 38 = .ok (.iload_n 1, 1) := by decide +kernel
theorem dX2_noteFigure_39 : decode cX2_noteFigure 39 = .ok (.putfield 18, 3) := by decide +kernel
theorem dX2_noteFigure_42 : decode cX2_noteFigure 42 = .ok (.goto 8, 3) := by decide +kernel
theorem dX2_noteFigure_45 : decode cX2_noteFigure 45 = .ok (.aload_n 0, 1) := by decide +kernel
theorem dX2_noteFigure_46 : decode cX2_noteFigure 46 = .ok (.iload_n 1, 1) := by decide +kernel
theorem dX2_noteFigure_47 : decode cX2_noteFigure 47 = .ok (.putfield 21, 3) := by decide +kernel
theorem dX2_noteFigure_50 : decode cX2_noteFigure 50 = .ok (.aload_n 0, 1) := by decide +kernel
theorem dX2_noteFigure_51 : decode cX2_noteFigure 51 = .ok (.dup, 1) := by decide +kernel
theorem dX2_noteFigure_52 : decode cX2_noteFigure 52 = .ok (.getfield 15, 3) := by decide +kernel
theorem dX2_noteFigure_55 : decode cX2_noteFigure 55 = .ok (.iconst 1, 1) := by decide +kernel
theorem dX2_noteFigure_56 : decode cX2_noteFigure 56 = .ok (.iadd, 1) := by decide +kernel
theorem dX2_noteFigure_57 : decode cX2_noteFigure 57 = .ok (.putfield 15, 3) := by decide +kernel
theorem dX2_noteFigure_60 : decode cX2_noteFigure 60 = .ok (.return_, 1) := by decide +kernel
theorem dX2_figuresOf_0 : decode cX2_figuresOf 0 = .ok (.iload_n 0, 1) := by decide +kernel
theorem dX2_figuresOf_1 : decode cX2_figuresOf 1 = .ok (.lookupswitch 39 #[(70, 35), (72, 37), (78, 35)], 35) := by decide +kernel
theorem dX2_figuresOf_36 : decode cX2_figuresOf 36 = .ok (.iconst 1, 1) := by decide +kernel
theorem dX2_figuresOf_37 : decode cX2_figuresOf 37 = .ok (.ireturn, 1) := by decide +kernel
theorem dX2_figuresOf_38 : decode cX2_figuresOf 38 = .ok (.iconst 2, 1) := by decide +kernel
theorem dX2_figuresOf_39 : decode cX2_figuresOf 39 = .ok (.ireturn, 1) := by decide +kernel
theorem dX2_figuresOf_40 : decode cX2_figuresOf 40 = .ok (.iconst 3, 1) := by decide +kernel
theorem dX2_figuresOf_41 : decode cX2_figuresOf 41 = .ok (.ireturn, 1) := by decide +kernel
theorem dX2_isRight_0 : decode cX2_isRight 0 = .ok (.aload_n 0, 1) := by decide +kernel
theorem dX2_isRight_1 : decode cX2_isRight 1 = .ok (.getfield 9, 3) := by decide +kernel
theorem dX2_isRight_4 : decode cX2_isRight 4 = .ok (.tableswitch 149 72 82 #[117, 149, 149, 149, 149, 149, 60, 110, 84, 149, 77], 60) := by decide +kernel
theorem dX2_isRight_64 : decode cX2_isRight 64 = .ok (.iload_n 1, 1) := by decide +kernel
theorem dX2_isRight_65 : decode cX2_isRight 65 = .ok (.iconst 1, 1) := by decide +kernel
theorem dX2_isRight_66 : decode cX2_isRight 66 = .ok (.if_icmp .lt 13, 3) := by decide +kernel
theorem dX2_isRight_69 : decode cX2_isRight 69 = .ok (.iload_n 1, 1) := by decide +kernel
theorem dX2_isRight_70 : decode cX2_isRight 70 = .ok (.bipush 6, 2) := by decide +kernel
theorem dX2_isRight_72 : decode cX2_isRight 72 = .ok (.if_icmp .gt 7, 3) := by decide +kernel
theorem dX2_isRight_75 : decode cX2_isRight 75 = .ok (.iconst 1, 1) := by decide +kernel
theorem dX2_isRight_76 : decode cX2_isRight 76 = .ok (.goto 4, 3) := by decide +kernel
theorem dX2_isRight_79 : decode cX2_isRight 79 = .ok (.iconst 0, 1) := by decide +kernel
theorem dX2_isRight_80 : decode cX2_isRight 80 = .ok (.ireturn, 1) := by decide +kernel
theorem dX2_isRight_81 : decode cX2_isRight 81 = .ok (.aload_n 0, 1) := by decide +kernel
theorem dX2_isRight_82 : decode cX2_isRight 82 = .ok (.iload_n 1, 1) := by decide +kernel
theorem dX2_isRight_83 : decode cX2_isRight 83 = .ok (.aload_n 2, 1) := by decide +kernel
theorem dX2_isRight_84 : decode cX2_isRight 84 = .ok (.invokevirtual 92, 3) := by decide +kernel
theorem dX2_isRight_87 : decode cX2_isRight 87 = .ok (.ireturn, 1) := by decide +kernel
theorem dX2_isRight_88 : decode cX2_isRight 88 = .ok (.aload_n 0, 1) := by decide +kernel
theorem dX2_isRight_89 : decode cX2_isRight 89 = .ok (.getfield 15, 3) := by decide +kernel
theorem dX2_isRight_92 : decode cX2_isRight 92 = .ok (.ifCond .ne 16, 3) := by decide +kernel
theorem dX2_isRight_95 : decode cX2_isRight 95 = .ok (.iload_n 1, 1) := by decide +kernel
theorem dX2_isRight_96 : decode cX2_isRight 96 = .ok (.iconst 4, 1) := by decide +kernel
theorem dX2_isRight_97 : decode cX2_isRight 97 = .ok (.if_icmp .ge 15, 3) := by decide +kernel
theorem dX2_isRight_100 : decode cX2_isRight 100 = .ok (.aload_n 2, 1) := by decide +kernel
theorem dX2_isRight_101 : decode cX2_isRight 101 = .ok (.iload_n 1, 1) := by decide +kernel
theorem dX2_isRight_102 : decode cX2_isRight 102 = .ok (.invokevirtual 95, 3) := by decide +kernel
theorem dX2_isRight_105 : decode cX2_isRight 105 = .ok (.ifCond .ne 7, 3) := by decide +kernel
theorem dX2_isRight_108 : decode cX2_isRight 108 = .ok (.iconst 1, 1) := by decide +kernel
theorem dX2_isRight_109 : decode cX2_isRight 109 = .ok (.goto 4, 3) := by decide +kernel
theorem dX2_isRight_112 : decode cX2_isRight 112 = .ok (.iconst 0, 1) := by decide +kernel
theorem dX2_isRight_113 : decode cX2_isRight 113 = .ok (.ireturn, 1) := by decide +kernel
theorem dX2_isRight_114 : decode cX2_isRight 114 = .ok (.aload_n 0, 1) := by decide +kernel
theorem dX2_isRight_115 : decode cX2_isRight 115 = .ok (.iload_n 1, 1) := by decide +kernel
theorem dX2_isRight_116 : decode cX2_isRight 116 = .ok (.aload_n 2, 1) := by decide +kernel
theorem dX2_isRight_117 : decode cX2_isRight 117 = .ok (.invokevirtual 98, 3) := by decide +kernel
theorem dX2_isRight_120 : decode cX2_isRight 120 = .ok (.ireturn, 1) := by decide +kernel
theorem dX2_isRight_121 : decode cX2_isRight 121 = .ok (.aload_n 0, 1) := by decide +kernel
theorem dX2_isRight_122 : decode cX2_isRight 122 = .ok (.getfield 15, 3) := by decide +kernel
theorem dX2_isRight_125 : decode cX2_isRight 125 = .ok (.ifCond .ne 22, 3) := by decide +kernel
theorem dX2_isRight_128 : decode cX2_isRight 128 = .ok (.aload_n 2, 1) := by decide +kernel
theorem dX2_isRight_129 : decode cX2_isRight 129 = .ok (.iload_n 1, 1) := by decide +kernel
theorem dX2_isRight_130 : decode cX2_isRight 130 = .ok (.invokevirtual 81, 3) := by decide +kernel
theorem dX2_isRight_133 : decode cX2_isRight 133 = .ok (.ifCond .eq 18, 3) := by decide +kernel
theorem dX2_isRight_136 : decode cX2_isRight 136 = .ok (.aload_n 0, 1) := by decide +kernel
theorem dX2_isRight_137 : decode cX2_isRight 137 = .ok (.getfield 27, 3) := by decide +kernel
theorem dX2_isRight_140 : decode cX2_isRight 140 = .ok (.iload_n 1, 1) := by decide +kernel
theorem dX2_isRight_141 : decode cX2_isRight 141 = .ok (.ishr, 1) := by decide +kernel
theorem dX2_isRight_142 : decode cX2_isRight 142 = .ok (.iconst 1, 1) := by decide +kernel
theorem dX2_isRight_143 : decode cX2_isRight 143 = .ok (.iand, 1) := by decide +kernel
theorem dX2_isRight_144 : decode cX2_isRight 144 = .ok (.ifCond .ne 7, 3) := by decide +kernel
theorem dX2_isRight_147 : decode cX2_isRight 147 = .ok (.iconst 1, 1) := by decide +kernel
theorem dX2_isRight_148 : decode cX2_isRight 148 = .ok (.goto 4, 3) := by decide +kernel
theorem dX2_isRight_151 : decode cX2_isRight 151 = .ok (.iconst 0, 1) := by decide +kernel
theorem dX2_isRight_152 : decode cX2_isRight 152 = .ok (.ireturn, 1) := by decide +kernel
theorem dX2_isRight_153 : decode cX2_isRight 153 = .ok (.iload_n 1, 1) := by decide +kernel
theorem dX2_isRight_154 : decode cX2_isRight 154 = .ok (.iconst 1, 1) := by decide +kernel
theorem dX2_isRight_155 : decode cX2_isRight 155 = .ok (.if_icmp .lt 7, 3) := by decide +kernel
theorem dX2_isRight_158 : decode cX2_isRight 158 = .ok (.iconst 1, 1) := by decide +kernel
theorem dX2_isRight_159 : decode cX2_isRight 159 = .ok (.goto 4, 3) := by decide +kernel
theorem dX2_isRight_162 : decode cX2_isRight 162 = .ok (.iconst 0, 1) := by decide +kernel
theorem dX2_isRight_163 : decode cX2_isRight 163 = .ok (.ireturn, 1) := by decide +kernel
theorem dX2_isRightInSession_0 : decode cX2_isRightInSession 0 = .ok (.aload_n 0, 1) := by decide +kernel
theorem dX2_isRightInSession_1 : decode cX2_isRightInSession 1 = .ok (.getfield 15, 3) := by decide +kernel
theorem dX2_isRightInSession_4 : decode cX2_isRightInSession 4 = .ok (.ifCond .ne 10, 3) := by decide +kernel
theorem dX2_isRightInSession_7 : decode cX2_isRightInSession 7 = .ok (.aload_n 0, 1) := by decide +kernel
theorem dX2_isRightInSession_8 : decode cX2_isRightInSession 8 = .ok (.iload_n 1, 1) := by decide +kernel
theorem dX2_isRightInSession_9 : decode cX2_isRightInSession 9 = .ok (.aload_n 2, 1) := by decide +kernel
theorem dX2_isRightInSession_10 : decode cX2_isRightInSession 10 = .ok (.invokevirtual 78, 3) := by decide +kernel
theorem dX2_isRightInSession_13 : decode cX2_isRightInSession 13 = .ok (.ireturn, 1) := by decide +kernel
theorem dX2_isRightInSession_14 : decode cX2_isRightInSession 14 = .ok (.aload_n 2, 1) := by decide +kernel
theorem dX2_isRightInSession_15 : decode cX2_isRightInSession 15 = .ok (.aload_n 0, 1) := by decide +kernel
theorem dX2_isRightInSession_16 : decode cX2_isRightInSession 16 = .ok (.getfield 18, 3) := by decide +kernel
theorem dX2_isRightInSession_19 : decode cX2_isRightInSession 19 = .ok (.invokevirtual 81, 3) := by decide +kernel
theorem dX2_isRightInSession_22 : decode cX2_isRightInSession 22 = .ok (.ifCond .ne 5, 3) := by decide +kernel
theorem dX2_isRightInSession_25 : decode cX2_isRightInSession 25 = .ok (.iconst 0, 1) := by decide +kernel
theorem dX2_isRightInSession_26 : decode cX2_isRightInSession 26 = .ok (.ireturn, 1) := by decide +kernel
theorem dX2_isRightInSession_27 : decode cX2_isRightInSession 27 = .ok (.aload_n 0, 1) := by decide +kernel
theorem dX2_isRightInSession_28 : decode cX2_isRightInSession 28 = .ok (.getfield 15, 3) := by decide +kernel
theorem dX2_isRightInSession_31 : decode cX2_isRightInSession 31 = .ok (.iconst 1, 1) := by decide +kernel
theorem dX2_isRightInSession_32 : decode cX2_isRightInSession 32 = .ok (.if_icmp .ne 7, 3) := by decide +kernel
theorem dX2_isRightInSession_35 : decode cX2_isRightInSession 35 = .ok (.iload_n 1, 1) := by decide +kernel
theorem dX2_isRightInSession_36 : decode cX2_isRightInSession 36 = .ok (.goto 7, 3) := by decide +kernel
theorem dX2_isRightInSession_39 : decode cX2_isRightInSession 39 = .ok (.aload_n 0, 1) := by decide +kernel
theorem dX2_isRightInSession_40 : decode cX2_isRightInSession 40 = .ok (.getfield 21, 3) := by decide +kernel
theorem dX2_isRightInSession_43 : decode cX2_isRightInSession 43 = .ok (.istore_n 3, 1) := by decide +kernel
theorem dX2_isRightInSession_44 : decode cX2_isRightInSession 44 = .ok (.iload_n 3, 1) := by decide +kernel
theorem dX2_isRightInSession_45 : decode cX2_isRightInSession 45 = .ok (.iload_n 1, 1) := by decide +kernel
theorem dX2_isRightInSession_46 : decode cX2_isRightInSession 46 = .ok (.if_icmp .gt 25, 3) := by decide +kernel
theorem dX2_isRightInSession_49 : decode cX2_isRightInSession 49 = .ok (.aload_n 0, 1) := by decide +kernel
theorem dX2_isRightInSession_50 : decode cX2_isRightInSession 50 = .ok (.getfield 30, 3) := by decide +kernel
theorem dX2_isRightInSession_53 : decode cX2_isRightInSession 53 = .ok (.aload_n 0, 1) := by decide +kernel
theorem dX2_isRightInSession_54 : decode cX2_isRightInSession 54 = .ok (.getfield 18, 3) := by decide +kernel
theorem dX2_isRightInSession_57 : decode cX2_isRightInSession 57 = .ok (.iaload, 1) := by decide +kernel
theorem dX2_isRightInSession_58 : decode cX2_isRightInSession 58 = .ok (.iload_n 3, 1) := by decide +kernel
theorem dX2_isRightInSession_59 : decode cX2_isRightInSession 59 = .ok (.iload_n 1, 1) := by decide +kernel
theorem dX2_isRightInSession_60 : decode cX2_isRightInSession 60 = .ok (.invokestatic 101, 3) := by decide +kernel
theorem dX2_isRightInSession_63 : decode cX2_isRightInSession 63 = .ok (.iand, 1) := by decide +kernel
theorem dX2_isRightInSession_64 : decode cX2_isRightInSession 64 = .ok (.ifCond .ne 7, 3) := by decide +kernel
theorem dX2_isRightInSession_67 : decode cX2_isRightInSession 67 = .ok (.iconst 1, 1) := by decide +kernel
theorem dX2_isRightInSession_68 : decode cX2_isRightInSession 68 = .ok (.goto 4, 3) := by decide +kernel
theorem dX2_isRightInSession_71 : decode cX2_isRightInSession 71 = .ok (.iconst 0, 1) := by decide +kernel
theorem dX2_isRightInSession_72 : decode cX2_isRightInSession 72 = .ok (.ireturn, 1) := by decide +kernel
theorem dX2_isRightInOpen_0 : decode cX2_isRightInOpen 0 = .ok (.aload_n 0, 1) := by decide +kernel
theorem dX2_isRightInOpen_1 : decode cX2_isRightInOpen 1 = .ok (.getfield 15, 3) := by decide +kernel
theorem dX2_isRightInOpen_4 : decode cX2_isRightInOpen 4 = .ok (.ifCond .ne 28, 3) := by decide +kernel
theorem dX2_isRightInOpen_7 : decode cX2_isRightInOpen 7 = .ok (.aload_n 2, 1) := by decide +kernel
theorem dX2_isRightInOpen_8 : decode cX2_isRightInOpen 8 = .ok (.iload_n 1, 1) := by decide +kernel
theorem dX2_isRightInOpen_9 : decode cX2_isRightInOpen 9 = .ok (.invokevirtual 95, 3) := by decide +kernel
theorem dX2_isRightInOpen_12 : decode cX2_isRightInOpen 12 = .ok (.ifCond .eq 18, 3) := by decide +kernel
theorem dX2_isRightInOpen_15 : decode cX2_isRightInOpen 15 = .ok (.aload_n 0, 1) := by decide +kernel
theorem dX2_isRightInOpen_16 : decode cX2_isRightInOpen 16 = .ok (.getfield 24, 3) := by decide +kernel
theorem dX2_isRightInOpen_19 : decode cX2_isRightInOpen 19 = .ok (.iload_n 1, 1) := by decide +kernel
theorem dX2_isRightInOpen_20 : decode cX2_isRightInOpen 20 = .ok (.ishr, 1) := by decide +kernel
theorem dX2_isRightInOpen_21 : decode cX2_isRightInOpen 21 = .ok (.iconst 1, 1) := by decide +kernel
theorem dX2_isRightInOpen_22 : decode cX2_isRightInOpen 22 = .ok (.iand, 1) := by decide +kernel
theorem dX2_isRightInOpen_23 : decode cX2_isRightInOpen 23 = .ok (.ifCond .ne 7, 3) := by decide +kernel
theorem dX2_isRightInOpen_26 : decode cX2_isRightInOpen 26 = .ok (.iconst 1, 1) := by decide +kernel
theorem dX2_isRightInOpen_27 : decode cX2_isRightInOpen 27 = .ok (.goto 4, 3) := by decide +kernel
theorem dX2_isRightInOpen_30 : decode cX2_isRightInOpen 30 = .ok (.iconst 0, 1) := by decide +kernel
theorem dX2_isRightInOpen_31 : decode cX2_isRightInOpen 31 = .ok (.ireturn, 1) := by decide +kernel
theorem dX2_isRightInOpen_32 : decode cX2_isRightInOpen 32 = .ok (.aload_n 0, 1) := by decide +kernel
theorem dX2_isRightInOpen_33 : decode cX2_isRightInOpen 33 = .ok (.getfield 15, 3) := by decide +kernel
theorem dX2_isRightInOpen_36 : decode cX2_isRightInOpen 36 = .ok (.iconst 1, 1) := by decide +kernel
theorem dX2_isRightInOpen_37 : decode cX2_isRightInOpen 37 = .ok (.if_icmp .eq 11, 3) := by decide +kernel
theorem dX2_isRightInOpen_40 : decode cX2_isRightInOpen 40 = .ok (.aload_n 0, 1) := by decide +kernel
theorem dX2_isRightInOpen_41 : decode cX2_isRightInOpen 41 = .ok (.getfield 21, 3) := by decide +kernel
theorem dX2_isRightInOpen_44 : decode cX2_isRightInOpen 44 = .ok (.iload_n 1, 1) := by decide +kernel
theorem dX2_isRightInOpen_45 : decode cX2_isRightInOpen 45 = .ok (.if_icmp .gt 7, 3) := by decide +kernel
theorem dX2_isRightInOpen_48 : decode cX2_isRightInOpen 48 = .ok (.iconst 1, 1) := by decide +kernel
theorem dX2_isRightInOpen_49 : decode cX2_isRightInOpen 49 = .ok (.goto 4, 3) := by decide +kernel
theorem dX2_isRightInOpen_52 : decode cX2_isRightInOpen 52 = .ok (.iconst 0, 1) := by decide +kernel
theorem dX2_isRightInOpen_53 : decode cX2_isRightInOpen 53 = .ok (.ireturn, 1) := by decide +kernel
theorem dX2_hoursBetween_0 : decode cX2_hoursBetween 0 = .ok (.iconst 1, 1) := by decide +kernel
theorem dX2_hoursBetween_1 : decode cX2_hoursBetween 1 = .ok (.iload_n 1, 1) := by decide +kernel
theorem dX2_hoursBetween_2 : decode cX2_hoursBetween 2 = .ok (.iconst 1, 1) := by decide +kernel
theorem dX2_hoursBetween_3 : decode cX2_hoursBetween 3 = .ok (.iadd, 1) := by decide +kernel
theorem dX2_hoursBetween_4 : decode cX2_hoursBetween 4 = .ok (.ishl, 1) := by decide +kernel
theorem dX2_hoursBetween_5 : decode cX2_hoursBetween 5 = .ok (.iconst 1, 1) := by decide +kernel
theorem dX2_hoursBetween_6 : decode cX2_hoursBetween 6 = .ok (.iload_n 0, 1) := by decide +kernel
theorem dX2_hoursBetween_7 : decode cX2_hoursBetween 7 = .ok (.ishl, 1) := by decide +kernel
theorem dX2_hoursBetween_8 : decode cX2_hoursBetween 8 = .ok (.isub, 1) := by decide +kernel
theorem dX2_hoursBetween_9 : decode cX2_hoursBetween 9 = .ok (.ireturn, 1) := by decide +kernel
theorem dX2_endPart_0 : decode cX2_endPart 0 = .ok (.aload_n 0, 1) := by decide +kernel
theorem dX2_endPart_1 : decode cX2_endPart 1 = .ok (.getfield 9, 3) := by decide +kernel
theorem dX2_endPart_4 : decode cX2_endPart 4 = .ok (.tableswitch 201 72 82 #[162, 201, 201, 201, 201, 201, 60, 131, 115, 201, 68], 60) := by decide +kernel
theorem dX2_endPart_64 : decode cX2_endPart 64 = .ok (.aload_n 2, 1) := by decide +kernel
theorem dX2_endPart_65 : decode cX2_endPart 65 = .ok (.iload_n 1, 1) := by decide +kernel
theorem dX2_endPart_66 : decode cX2_endPart 66 = .ok (.putfield 49, 3) := by decide +kernel
theorem dX2_endPart_69 : decode cX2_endPart 69 = .ok (.goto 141, 3) := by decide +kernel
theorem dX2_endPart_72 : decode cX2_endPart 72 = .ok (.aload_n 2, 1) := by decide +kernel
theorem dX2_endPart_73 : decode cX2_endPart 73 = .ok (.aload_n 0, 1) := by decide +kernel
theorem dX2_endPart_74 : decode cX2_endPart 74 = .ok (.getfield 18, 3) := by decide +kernel
theorem dX2_endPart_77 : decode cX2_endPart 77 = .ok (.aload_n 0, 1) := by decide +kernel
theorem dX2_endPart_78 : decode cX2_endPart 78 = .ok (.getfield 21, 3) := by decide +kernel
theorem dX2_endPart_81 : decode cX2_endPart 81 = .ok (.iload_n 1, 1) := by decide +kernel
theorem dX2_endPart_82 : decode cX2_endPart 82 = .ok (.invokevirtual 105, 3) := by decide +kernel
theorem dX2_endPart_85 : decode cX2_endPart 85 = .ok (.aload_n 2, 1) := by decide +kernel
theorem dX2_endPart_86 : decode cX2_endPart 86 = .ok (.aload_n 0, 1) := by decide +kernel
theorem dX2_endPart_87 : decode cX2_endPart 87 = .ok (.getfield 18, 3) := by decide +kernel
theorem dX2_endPart_90 : decode cX2_endPart 90 = .ok (.invokevirtual 81, 3) := by decide +kernel
theorem dX2_endPart_93 : decode cX2_endPart 93 = .ok (.ifCond .eq 117, 3) := by decide +kernel
theorem dX2_endPart_96 : decode cX2_endPart 96 = .ok (.aload_n 0, 1) := by decide +kernel
theorem dX2_endPart_97 : decode cX2_endPart 97 = .ok (.getfield 30, 3) := by decide +kernel
theorem dX2_endPart_100 : decode cX2_endPart 100 = .ok (.aload_n 0, 1) := by decide +kernel
theorem dX2_endPart_101 : decode cX2_endPart 101 = .ok (.getfield 18, 3) := by decide +kernel
theorem dX2_endPart_104 : decode cX2_endPart 104 = .ok (.dup2, 1) := by decide +kernel
theorem dX2_endPart_105 : decode cX2_endPart 105 = .ok (.iaload, 1) := by decide +kernel
theorem dX2_endPart_106 : decode cX2_endPart 106 = .ok (.aload_n 0, 1) := by decide +kernel
theorem dX2_endPart_107 : decode cX2_endPart 107 = .ok (.getfield 21, 3) := by decide +kernel
theorem dX2_endPart_110 : decode cX2_endPart 110 = .ok (.iload_n 1, 1) := by decide +kernel
theorem dX2_endPart_111 : decode cX2_endPart 111 = .ok (.invokestatic 101, 3) := by decide +kernel
theorem dX2_endPart_114 : decode cX2_endPart 114 = .ok (.ior, 1) := by decide +kernel
theorem dX2_endPart_115 : decode cX2_endPart 115 = .ok (.iastore, 1) := by decide +kernel
theorem dX2_endPart_116 : decode cX2_endPart 116 = .ok (.goto 94, 3) := by decide +kernel
theorem dX2_endPart_119 : decode cX2_endPart 119 = .ok (.aload_n 2, 1) := by decide +kernel
theorem dX2_endPart_120 : decode cX2_endPart 120 = .ok (.aload_n 0, 1) := by decide +kernel
theorem dX2_endPart_121 : decode cX2_endPart 121 = .ok (.getfield 18, 3) := by decide +kernel
theorem dX2_endPart_124 : decode cX2_endPart 124 = .ok (.aload_n 0, 1) := by decide +kernel
theorem dX2_endPart_125 : decode cX2_endPart 125 = .ok (.getfield 21, 3) := by decide +kernel
theorem dX2_endPart_128 : decode cX2_endPart 128 = .ok (.iload_n 1, 1) := by decide +kernel
theorem dX2_endPart_129 : decode cX2_endPart 129 = .ok (.invokevirtual 109, 3) := by decide +kernel
theorem dX2_endPart_132 : decode cX2_endPart 132 = .ok (.goto 78, 3) := by decide +kernel
theorem dX2_endPart_135 : decode cX2_endPart 135 = .ok (.aload_n 2, 1) := by decide +kernel
theorem dX2_endPart_136 : decode cX2_endPart 136 = .ok (.aload_n 0, 1) := by decide +kernel
theorem dX2_endPart_137 : decode cX2_endPart 137 = .ok (.getfield 18, 3) := by decide +kernel
theorem dX2_endPart_140 : decode cX2_endPart 140 = .ok (.aload_n 0, 1) := by decide +kernel
theorem dX2_endPart_141 : decode cX2_endPart 141 = .ok (.getfield 21, 3) := by decide +kernel
theorem dX2_endPart_144 : decode cX2_endPart 144 = .ok (.iload_n 1, 1) := by decide +kernel
theorem dX2_endPart_145 : decode cX2_endPart 145 = .ok (.invokevirtual 112, 3) := by decide +kernel
theorem dX2_endPart_148 : decode cX2_endPart 148 = .ok (.aload_n 0, 1) := by decide +kernel
theorem dX2_endPart_149 : decode cX2_endPart 149 = .ok (.dup, 1) := by decide +kernel
theorem dX2_endPart_150 : decode cX2_endPart 150 = .ok (.getfield 24, 3) := by decide +kernel
theorem dX2_endPart_153 : decode cX2_endPart 153 = .ok (.iconst 1, 1) := by decide +kernel
theorem dX2_endPart_154 : decode cX2_endPart 154 = .ok (.aload_n 0, 1) := by decide +kernel
theorem dX2_endPart_155 : decode cX2_endPart 155 = .ok (.getfield 18, 3) := by decide +kernel
theorem dX2_endPart_158 : decode cX2_endPart 158 = .ok (.ishl, 1) := by decide +kernel
theorem dX2_endPart_159 : decode cX2_endPart 159 = .ok (.ior, 1) := by decide +kernel
theorem dX2_endPart_160 : decode cX2_endPart 160 = .ok (.putfield 24, 3) := by decide +kernel
theorem dX2_endPart_163 : decode cX2_endPart 163 = .ok (.goto 47, 3) := by decide +kernel
theorem dX2_endPart_166 : decode cX2_endPart 166 = .ok (.aload_n 2, 1) := by decide +kernel
theorem dX2_endPart_167 : decode cX2_endPart 167 = .ok (.aload_n 0, 1) := by decide +kernel
theorem dX2_endPart_168 : decode cX2_endPart 168 = .ok (.getfield 18, 3) := by decide +kernel
theorem dX2_endPart_171 : decode cX2_endPart 171 = .ok (.invokevirtual 81, 3) := by decide +kernel
theorem dX2_endPart_174 : decode cX2_endPart 174 = .ok (.ifCond .eq 36, 3) := by decide +kernel
theorem dX2_endPart_177 : decode cX2_endPart 177 = .ok (.aload_n 2, 1) := by decide +kernel
theorem dX2_endPart_178 : decode cX2_endPart 178 = .ok (.getfield 115, 3) := by decide +kernel
theorem dX2_endPart_181 : decode cX2_endPart 181 = .ok (.aload_n 0, 1) := by decide +kernel
theorem dX2_endPart_182 : decode cX2_endPart 182 = .ok (.getfield 18, 3) := by decide +kernel
theorem dX2_endPart_185 : decode cX2_endPart 185 = .ok (.iload_n 1, 1) := by decide +kernel
theorem dX2_endPart_186 : decode cX2_endPart 186 = .ok (.iastore, 1) := by decide +kernel
theorem dX2_endPart_187 : decode cX2_endPart 187 = .ok (.aload_n 0, 1) := by decide +kernel
theorem dX2_endPart_188 : decode cX2_endPart 188 = .ok (.dup, 1) := by decide +kernel
theorem dX2_endPart_189 : decode cX2_endPart 189 = .ok (.getfield 27, 3) := by decide +kernel
theorem dX2_endPart_192 : decode cX2_endPart 192 = .ok (.iconst 1, 1) := by decide +kernel
theorem dX2_endPart_193 : decode cX2_endPart 193 = .ok (.aload_n 0, 1) := by decide +kernel
theorem dX2_endPart_194 : decode cX2_endPart 194 = .ok (.getfield 18, 3) := by decide +kernel
theorem dX2_endPart_197 : decode cX2_endPart 197 = .ok (.ishl, 1) := by decide +kernel
theorem dX2_endPart_198 : decode cX2_endPart 198 = .ok (.ior, 1) := by decide +kernel
theorem dX2_endPart_199 : decode cX2_endPart 199 = .ok (.putfield 27, 3) := by decide +kernel
theorem dX2_endPart_202 : decode cX2_endPart 202 = .ok (.goto 8, 3) := by decide +kernel
theorem dX2_endPart_205 : decode cX2_endPart 205 = .ok (.aload_n 2, 1) := by decide +kernel
theorem dX2_endPart_206 : decode cX2_endPart 206 = .ok (.iload_n 1, 1) := by decide +kernel
theorem dX2_endPart_207 : decode cX2_endPart 207 = .ok (.putfield 75, 3) := by decide +kernel
theorem dX2_endPart_210 : decode cX2_endPart 210 = .ok (.return_, 1) := by decide +kernel
theorem dX3_init_0 : decode cX3_init 0 = .ok (.aload_n 0, 1) := by decide +kernel
theorem dX3_init_1 : decode cX3_init 1 = .ok (.invokespecial 3, 3) := by decide +kernel
theorem dX3_init_4 : decode cX3_init 4 = .ok (.aload_n 0, 1) := by decide +kernel
theorem dX3_init_5 : decode cX3_init 5 = .ok (.iconst 0, 1) := by decide +kernel
theorem dX3_init_6 : decode cX3_init 6 = .ok (.putfield 9, 3) := by decide +kernel
theorem dX3_init_9 : decode cX3_init 9 = .ok (.aload_n 0, 1) := by decide +kernel
theorem dX3_init_10 : decode cX3_init 10 = .ok (.bipush 10, 2) := by decide +kernel
theorem dX3_init_12 : decode cX3_init 12 = .ok (.putfield 15, 3) := by decide +kernel
theorem dX3_init_15 : decode cX3_init 15 = .ok (.aload_n 0, 1) := by decide +kernel
theorem dX3_init_16 : decode cX3_init 16 = .ok (.iconst 0, 1) := by decide +kernel
theorem dX3_init_17 : decode cX3_init 17 = .ok (.putfield 18, 3) := by decide +kernel
theorem dX3_init_20 : decode cX3_init 20 = .ok (.aload_n 0, 1) := by decide +kernel
theorem dX3_init_21 : decode cX3_init 21 = .ok (.iconst 0, 1) := by decide +kernel
theorem dX3_init_22 : decode cX3_init 22 = .ok (.putfield 21, 3) := by decide +kernel
theorem dX3_init_25 : decode cX3_init 25 = .ok (.aload_n 0, 1) := by decide +kernel
theorem dX3_init_26 : decode cX3_init 26 = .ok (.iconst 0, 1) := by decide +kernel
theorem dX3_init_27 : decode cX3_init 27 = .ok (.putfield 24, 3) := by decide +kernel
theorem dX3_init_30 : decode cX3_init 30 = .ok (.aload_n 0, 1) := by decide +kernel
theorem dX3_init_31 : decode cX3_init 31 = .ok (.iconst 0, 1) := by decide +kernel
theorem dX3_init_32 : decode cX3_init 32 = .ok (.putfield 27, 3) := by decide +kernel
theorem dX3_init_35 : decode cX3_init 35 = .ok (.aload_n 0, 1) := by decide +kernel
theorem dX3_init_36 : decode cX3_init 36 = .ok (.iconst 0, 1) := by decide +kernel
theorem dX3_init_37 : decode cX3_init 37 = .ok (.putfield 30, 3) := by decide +kernel
theorem dX3_init_40 : decode cX3_init 40 = .ok (.aload_n 0, 1) := by decide +kernel
theorem dX3_init_41 : decode cX3_init 41 = .ok (.iconst 0, 1) := by decide +kernel
theorem dX3_init_42 : decode cX3_init 42 = .ok (.putfield 33, 3) := by decide +kernel
theorem dX3_init_45 : decode cX3_init 45 = .ok (.aload_n 0, 1) := by decide +kernel
theorem dX3_init_46 : decode cX3_init 46 = .ok (.iconst 0, 1) := by decide +kernel
theorem dX3_init_47 : decode cX3_init 47 = .ok (.putfield 36, 3) := by decide +kernel
theorem dX3_init_50 : decode cX3_init 50 = .ok (.return_, 1) := by decide +kernel
theorem dX3_startAt_0 : decode cX3_startAt 0 = .ok (.aload_n 0, 1) := by decide +kernel
theorem dX3_startAt_1 : decode cX3_startAt 1 = .ok (.iconst 0, 1) := by decide +kernel
theorem dX3_startAt_2 : decode cX3_startAt 2 = .ok (.iload_n 1, 1) := by decide +kernel
theorem dX3_startAt_3 : decode cX3_startAt 3 = .ok (.iconst 0, 1) := by decide +kernel
theorem dX3_startAt_4 : decode cX3_startAt 4 = .ok (.invokevirtual 40, 3) := by decide +kernel
theorem dX3_startAt_7 : decode cX3_startAt 7 = .ok (.return_, 1) := by decide +kernel
theorem dX3_startIn_0 : decode cX3_startIn 0 = .ok (.aload_n 0, 1) := by decide +kernel
theorem dX3_startIn_1 : decode cX3_startIn 1 = .ok (.iload_n 1, 1) := by decide +kernel
theorem dX3_startIn_2 : decode cX3_startIn 2 = .ok (.putfield 9, 3) := by decide +kernel
theorem dX3_startIn_5 : decode cX3_startIn 5 = .ok (.aload_n 0, 1) := by decide +kernel
theorem dX3_startIn_6 : decode cX3_startIn 6 = .ok (.iload_n 2, 1) := by decide +kernel
theorem dX3_startIn_7 : decode cX3_startIn 7 = .ok (.putfield 15, 3) := by decide +kernel
theorem dX3_startIn_10 : decode cX3_startIn 10 = .ok (.aload_n 0, 1) := by decide +kernel
theorem dX3_startIn_11 : decode cX3_startIn 11 = .ok (.iload_n 3, 1) := by decide +kernel
theorem dX3_startIn_12 : decode cX3_startIn 12 = .ok (.putfield 18, 3) := by decide +kernel
theorem dX3_startIn_15 : decode cX3_startIn 15 = .ok (.aload_n 0, 1) := by decide +kernel
theorem dX3_startIn_16 : decode cX3_startIn 16 = .ok (.iconst 0, 1) := by decide +kernel
theorem dX3_startIn_17 : decode cX3_startIn 17 = .ok (.putfield 21, 3) := by decide +kernel
theorem dX3_startIn_20 : decode cX3_startIn 20 = .ok (.aload_n 0, 1) := by decide +kernel
theorem dX3_startIn_21 : decode cX3_startIn 21 = .ok (.iconst 0, 1) := by decide +kernel
theorem dX3_startIn_22 : decode cX3_startIn 22 = .ok (.putfield 24, 3) := by decide +kernel
theorem dX3_startIn_25 : decode cX3_startIn 25 = .ok (.aload_n 0, 1) := by decide +kernel
theorem dX3_startIn_26 : decode cX3_startIn 26 = .ok (.iconst 0, 1) := by decide +kernel
theorem dX3_startIn_27 : decode cX3_startIn 27 = .ok (.putfield 27, 3) := by decide +kernel
theorem dX3_startIn_30 : decode cX3_startIn 30 = .ok (.aload_n 0, 1) := by decide +kernel
theorem dX3_startIn_31 : decode cX3_startIn 31 = .ok (.iconst 0, 1) := by decide +kernel
theorem dX3_startIn_32 : decode cX3_startIn 32 = .ok (.putfield 30, 3) := by decide +kernel
theorem dX3_startIn_35 : decode cX3_startIn 35 = .ok (.aload_n 0, 1) := by decide +kernel
theorem dX3_startIn_36 : decode cX3_startIn 36 = .ok (.iconst 0, 1) := by decide +kernel
theorem dX3_startIn_37 : decode cX3_startIn 37 = .ok (.putfield 33, 3) := by decide +kernel
theorem dX3_startIn_40 : decode cX3_startIn 40 = .ok (.aload_n 0, 1) := by decide +kernel
theorem dX3_startIn_41 : decode cX3_startIn 41 = .ok (.iconst 0, 1) := by decide +kernel
theorem dX3_startIn_42 : decode cX3_startIn 42 = .ok (.putfield 36, 3) := by decide +kernel
theorem dX3_startIn_45 : decode cX3_startIn 45 = .ok (.return_, 1) := by decide +kernel
theorem dX3_copyOf_0 : decode cX3_copyOf 0 = .ok (.aload_n 0, 1) := by decide +kernel
theorem dX3_copyOf_1 : decode cX3_copyOf 1 = .ok (.aload_n 1, 1) := by decide +kernel
theorem dX3_copyOf_2 : decode cX3_copyOf 2 = .ok (.getfield 9, 3) := by decide +kernel
theorem dX3_copyOf_5 : decode cX3_copyOf 5 = .ok (.putfield 9, 3) := by decide +kernel
theorem dX3_copyOf_8 : decode cX3_copyOf 8 = .ok (.aload_n 0, 1) := by decide +kernel
theorem dX3_copyOf_9 : decode cX3_copyOf 9 = .ok (.aload_n 1, 1) := by decide +kernel
theorem dX3_copyOf_10 : decode cX3_copyOf 10 = .ok (.getfield 15, 3) := by decide +kernel
theorem dX3_copyOf_13 : decode cX3_copyOf 13 = .ok (.putfield 15, 3) := by decide +kernel
theorem dX3_copyOf_16 : decode cX3_copyOf 16 = .ok (.aload_n 0, 1) := by decide +kernel
theorem dX3_copyOf_17 : decode cX3_copyOf 17 = .ok (.aload_n 1, 1) := by decide +kernel
theorem dX3_copyOf_18 : decode cX3_copyOf 18 = .ok (.getfield 18, 3) := by decide +kernel
theorem dX3_copyOf_21 : decode cX3_copyOf 21 = .ok (.putfield 18, 3) := by decide +kernel
theorem dX3_copyOf_24 : decode cX3_copyOf 24 = .ok (.aload_n 0, 1) := by decide +kernel
theorem dX3_copyOf_25 : decode cX3_copyOf 25 = .ok (.aload_n 1, 1) := by decide +kernel
theorem dX3_copyOf_26 : decode cX3_copyOf 26 = .ok (.getfield 21, 3) := by decide +kernel
theorem dX3_copyOf_29 : decode cX3_copyOf 29 = .ok (.putfield 21, 3) := by decide +kernel
theorem dX3_copyOf_32 : decode cX3_copyOf 32 = .ok (.aload_n 0, 1) := by decide +kernel
theorem dX3_copyOf_33 : decode cX3_copyOf 33 = .ok (.aload_n 1, 1) := by decide +kernel
theorem dX3_copyOf_34 : decode cX3_copyOf 34 = .ok (.getfield 24, 3) := by decide +kernel
theorem dX3_copyOf_37 : decode cX3_copyOf 37 = .ok (.putfield 24, 3) := by decide +kernel
theorem dX3_copyOf_40 : decode cX3_copyOf 40 = .ok (.aload_n 0, 1) := by decide +kernel
theorem dX3_copyOf_41 : decode cX3_copyOf 41 = .ok (.aload_n 1, 1) := by decide +kernel
theorem dX3_copyOf_42 : decode cX3_copyOf 42 = .ok (.getfield 27, 3) := by decide +kernel
theorem dX3_copyOf_45 : decode cX3_copyOf 45 = .ok (.putfield 27, 3) := by decide +kernel
theorem dX3_copyOf_48 : decode cX3_copyOf 48 = .ok (.aload_n 0, 1) := by decide +kernel
theorem dX3_copyOf_49 : decode cX3_copyOf 49 = .ok (.aload_n 1, 1) := by decide +kernel
theorem dX3_copyOf_50 : decode cX3_copyOf 50 = .ok (.getfield 30, 3) := by decide +kernel
theorem dX3_copyOf_53 : decode cX3_copyOf 53 = .ok (.putfield 30, 3) := by decide +kernel
theorem dX3_copyOf_56 : decode cX3_copyOf 56 = .ok (.aload_n 0, 1) := by decide +kernel
theorem dX3_copyOf_57 : decode cX3_copyOf 57 = .ok (.aload_n 1, 1) := by decide +kernel
theorem dX3_copyOf_58 : decode cX3_copyOf 58 = .ok (.getfield 33, 3) := by decide +kernel
theorem dX3_copyOf_61 : decode cX3_copyOf 61 = .ok (.putfield 33, 3) := by decide +kernel
theorem dX3_copyOf_64 : decode cX3_copyOf 64 = .ok (.aload_n 0, 1) := by decide +kernel
theorem dX3_copyOf_65 : decode cX3_copyOf 65 = .ok (.aload_n 1, 1) := by decide +kernel
theorem dX3_copyOf_66 : decode cX3_copyOf 66 = .ok (.getfield 36, 3) := by decide +kernel
theorem dX3_copyOf_69 : decode cX3_copyOf 69 = .ok (.putfield 36, 3) := by decide +kernel
theorem dX3_copyOf_72 : decode cX3_copyOf 72 = .ok (.return_, 1) := by decide +kernel
theorem dX3_passHour_0 : decode cX3_passHour 0 = .ok (.aload_n 0, 1) := by decide +kernel
theorem dX3_passHour_1 : decode cX3_passHour 1 = .ok (.iconst 0, 1) := by decide +kernel
theorem dX3_passHour_2 : decode cX3_passHour 2 = .ok (.putfield 36, 3) := by decide +kernel
theorem dX3_passHour_5 : decode cX3_passHour 5 = .ok (.aload_n 0, 1) := by decide +kernel
theorem dX3_passHour_6 : decode cX3_passHour 6 = .ok (.getfield 9, 3) := by decide +kernel
theorem dX3_passHour_9 : decode cX3_passHour 9 = .ok (.invokestatic 44, 3) := by decide +kernel
theorem dX3_passHour_12 : decode cX3_passHour 12 = .ok (.ifCond .ne 4, 3) := by decide +kernel
theorem dX3_passHour_15 : decode cX3_passHour 15 = .ok (.return_, 1) := by decide +kernel
theorem dX3_passHour_16 : decode cX3_passHour 16 = .ok (.aload_n 0, 1) := by decide +kernel
theorem dX3_passHour_17 : decode cX3_passHour 17 = .ok (.dup, 1) := by decide +kernel
theorem dX3_passHour_18 : decode cX3_passHour 18 = .ok (.getfield 21, 3) := by decide +kernel
theorem dX3_passHour_21 : decode cX3_passHour 21 = .ok (.aload_n 1, 1) := by decide +kernel
theorem dX3_passHour_22 : decode cX3_passHour 22 = .ok (.getfield 48, 3) := by decide +kernel
theorem dX3_passHour_25 : decode cX3_passHour 25 = .ok (.aload_n 0, 1) := by decide +kernel
theorem dX3_passHour_26 : decode cX3_passHour 26 = .ok (.getfield 9, 3) := by decide +kernel
theorem dX3_passHour_29 : decode cX3_passHour 29 = .ok (.iaload, 1) := by decide +kernel
theorem dX3_passHour_30 : decode cX3_passHour 30 = .ok (.ior, 1) := by decide +kernel
theorem dX3_passHour_31 : decode cX3_passHour 31 = .ok (.putfield 21, 3) := by decide +kernel
theorem dX3_passHour_34 : decode cX3_passHour 34 = .ok (.aload_n 0, 1) := by decide +kernel
theorem dX3_passHour_35 : decode cX3_passHour 35 = .ok (.getfield 18, 3) := by decide +kernel
theorem dX3_passHour_38 : decode cX3_passHour 38 = .ok (.ifCond .ne 11, 3) := by decide +kernel
theorem dX3_passHour_41 : decode cX3_passHour 41 = .ok (.aload_n 0, 1) := by decide +kernel
theorem dX3_passHour_42 : decode cX3_passHour 42 = .ok (.aload_n 1, 1) := by decide +kernel
theorem dX3_passHour_43 : decode cX3_passHour 43 = .ok (.invokevirtual 54, 3) := by decide +kernel
theorem dX3_passHour_46 : decode cX3_passHour 46 = .ok (.ifCond .eq 21, 3) := by decide +kernel
theorem dX3_passHour_49 : decode cX3_passHour 49 = .ok (.aload_n 0, 1) := by decide +kernel
theorem dX3_passHour_50 : decode cX3_passHour 50 = .ok (.dup, 1) := by decide +kernel
theorem dX3_passHour_51 : decode cX3_passHour 51 = .ok (.getfield 18, 3) := by decide +kernel
theorem dX3_passHour_54 : decode cX3_passHour 54 = .ok (.aload_n 0, 1) := by decide +kernel
theorem dX3_passHour_55 : decode cX3_passHour 55 = .ok (.getfield 21, 3) := by decide +kernel
theorem dX3_passHour_58 : decode cX3_passHour 58 = .ok (.ior, 1) := by decide +kernel
theorem dX3_passHour_59 : decode cX3_passHour 59 = .ok (.putfield 18, 3) := by decide +kernel
theorem dX3_passHour_62 : decode cX3_passHour 62 = .ok (.aload_n 0, 1) := by decide +kernel
theorem dX3_passHour_63 : decode cX3_passHour 63 = .ok (.iconst 0, 1) := by decide +kernel
theorem dX3_passHour_64 : decode cX3_passHour 64 = .ok (.putfield 21, 3) := by decide +kernel
theorem dX3_passHour_67 : decode cX3_passHour 67 = .ok (.aload_n 0, 1) := by decide +kernel
theorem dX3_passHour_68 : decode cX3_passHour 68 = .ok (.aload_n 0, 1) := by decide +kernel
theorem dX3_passHour_69 : decode cX3_passHour 69 = .ok (.getfield 21, 3) := by decide +kernel
theorem dX3_passHour_72 : decode cX3_passHour 72 = .ok (.putfield 33, 3) := by decide +kernel
theorem dX3_passHour_75 : decode cX3_passHour 75 = .ok (.aload_n 0, 1) := by decide +kernel
theorem dX3_passHour_76 : decode cX3_passHour 76 = .ok (.dup, 1) := by decide +kernel
theorem dX3_passHour_77 : decode cX3_passHour 77 = .ok (.getfield 30, 3) := by decide +kernel
theorem dX3_passHour_80 : decode cX3_passHour 80 = .ok (.aload_n 0, 1) := by decide +kernel
theorem dX3_passHour_81 : decode cX3_passHour 81 = .ok (.getfield 21, 3) := by decide +kernel
theorem dX3_passHour_84 : decode cX3_passHour 84 = .ok (.invokestatic 58, 3) := by decide +kernel
theorem dX3_passHour_87 : decode cX3_passHour 87 = .ok (.iadd, 1) := by decide +kernel
theorem dX3_passHour_88 : decode cX3_passHour 88 = .ok (.putfield 30, 3) := by decide +kernel
theorem dX3_passHour_91 : decode cX3_passHour 91 = .ok (.aload_n 1, 1) := by decide +kernel
theorem dX3_passHour_92 : decode cX3_passHour 92 = .ok (.aload_n 0, 1) := by decide +kernel
theorem dX3_passHour_93 : decode cX3_passHour 93 = .ok (.getfield 15, 3) := by decide +kernel
theorem dX3_passHour_96 : decode cX3_passHour 96 = .ok (.invokevirtual 64, 3) := by decide +kernel
theorem dX3_passHour_99 : decode cX3_passHour 99 = .ok (.ifCond .eq 21, 3) := by decide +kernel
theorem dX3_passHour_102 : decode cX3_passHour 102 = .ok (.aload_n 0, 1) := by decide +kernel
theorem dX3_passHour_103 : decode cX3_passHour 103 = .ok (.dup, 1) := by decide +kernel
theorem dX3_passHour_104 : decode cX3_passHour 104 = .ok (.getfield 27, 3) := by decide +kernel
theorem dX3_passHour_107 : decode cX3_passHour 107 = .ok (.aload_n 1, 1) := by decide +kernel
theorem dX3_passHour_108 : decode cX3_passHour 108 = .ok (.getfield 67, 3) := by decide +kernel
theorem dX3_passHour_111 : decode cX3_passHour 111 = .ok (.aload_n 0, 1) := by decide +kernel
theorem dX3_passHour_112 : decode cX3_passHour 112 = .ok (.getfield 15, 3) := by decide +kernel
theorem dX3_passHour_115 : decode cX3_passHour 115 = .ok (.iaload, 1) := by decide +kernel
theorem dX3_passHour_116 : decode cX3_passHour 116 = .ok (.iadd, 1) := by decide +kernel
theorem dX3_passHour_117 : decode cX3_passHour 117 = .ok (.putfield 27, 3) := by decide +kernel
theorem dX3_passHour_120 : decode cX3_passHour 120 = .ok (.aload_n 0, 1) := by decide +kernel
theorem dX3_passHour_121 : decode cX3_passHour 121 = .ok (.aload_n 1, 1) := by decide +kernel
theorem dX3_passHour_122 : decode cX3_passHour 122 = .ok (.invokevirtual 69, 3) := by decide +kernel
theorem dX3_passHour_125 : decode cX3_passHour 125 = .ok (.istore 4, 2) := by decide +kernel
theorem dX3_passHour_127 : decode cX3_passHour 127 = .ok (.iload 4, 2) := by decide +kernel
theorem dX3_passHour_129 : decode cX3_passHour 129 = .ok (.bipush (-9), 2) := by decide +kernel
theorem dX3_passHour_131 : decode cX3_passHour 131 = .ok (.if_icmp .eq 12, 3) := by decide +kernel
theorem dX3_passHour_134 : decode cX3_passHour 134 = .ok (.aload_n 0, 1) := by decide +kernel
theorem dX3_passHour_135 : decode cX3_passHour 135 = .ok (.aload_n 1, 1) := by decide +kernel
theorem dX3_passHour_136 : decode cX3_passHour 136 = .ok (.iload 4, 2) := by decide +kernel
theorem dX3_passHour_138 : decode cX3_passHour 138 = .ok (.iload_n 2, 1) := by decide +kernel
theorem dX3_passHour_139 : decode cX3_passHour 139 = .ok (.iload_n 3, 1) := by decide +kernel
theorem dX3_passHour_140 : decode cX3_passHour 140 = .ok (.invokevirtual 73, 3) := by decide +kernel
theorem dX3_passHour_143 : decode cX3_passHour 143 = .ok (.aload_n 0, 1) := by decide +kernel
theorem dX3_passHour_144 : decode cX3_passHour 144 = .ok (.aload_n 0, 1) := by decide +kernel
theorem dX3_passHour_145 : decode cX3_passHour 145 = .ok (.getfield 9, 3) := by decide +kernel
theorem dX3_passHour_148 : decode cX3_passHour 148 = .ok (.invokestatic 77, 3) := by decide +kernel
theorem dX3_passHour_151 : decode cX3_passHour 151 = .ok (.putfield 9, 3) := by decide +kernel
theorem dX3_passHour_154 : decode cX3_passHour 154 = .ok (.return_, 1) := by decide +kernel
theorem dX3_somebodyOpens_0 : decode cX3_somebodyOpens 0 = .ok (.iconst 0, 1) := by decide +kernel
theorem dX3_somebodyOpens_1 : decode cX3_somebodyOpens 1 = .ok (.istore_n 2, 1) := by decide +kernel
theorem dX3_somebodyOpens_2 : decode cX3_somebodyOpens 2 = .ok (.iload_n 2, 1) := by decide +kernel
theorem dX3_somebodyOpens_3 : decode cX3_somebodyOpens 3 = .ok (.aload_n 1, 1) := by decide +kernel
theorem dX3_somebodyOpens_4 : decode cX3_somebodyOpens 4 = .ok (.getfield 80, 3) := by decide +kernel
theorem dX3_somebodyOpens_7 : decode cX3_somebodyOpens 7 = .ok (.if_icmp .ge 109, 3) := by decide +kernel
theorem dX3_somebodyOpens_10 : decode cX3_somebodyOpens 10 = .ok (.iload_n 2, 1) := by decide +kernel
theorem dX3_somebodyOpens_11 : decode cX3_somebodyOpens 11 = .ok (.bipush 8, 2) := by decide +kernel
theorem dX3_somebodyOpens_13 : decode cX3_somebodyOpens 13 = .ok (.if_icmp .ge 103, 3) := by decide +kernel
theorem dX3_somebodyOpens_16 : decode cX3_somebodyOpens 16 = .ok (.aload_n 0, 1) := by decide +kernel
theorem dX3_somebodyOpens_17 : decode cX3_somebodyOpens 17 = .ok (.getfield 21, 3) := by decide +kernel
theorem dX3_somebodyOpens_20 : decode cX3_somebodyOpens 20 = .ok (.iload_n 2, 1) := by decide +kernel
theorem dX3_somebodyOpens_21 : decode cX3_somebodyOpens 21 = .ok (.ishr, 1) := by decide +kernel
theorem dX3_somebodyOpens_22 : decode cX3_somebodyOpens 22 = .ok (.iconst 1, 1) := by decide +kernel
theorem dX3_somebodyOpens_23 : decode cX3_somebodyOpens 23 = .ok (.iand, 1) := by decide +kernel
theorem dX3_somebodyOpens_24 : decode cX3_somebodyOpens 24 = .ok (.ifCond .ne 6, 3) := by decide +kernel
theorem dX3_somebodyOpens_27 : decode cX3_somebodyOpens 27 = .ok (.goto 83, 3) := by decide +kernel
theorem dX3_somebodyOpens_30 : decode cX3_somebodyOpens 30 = .ok (.aload_n 1, 1) := by decide +kernel
theorem dX3_somebodyOpens_31 : decode cX3_somebodyOpens 31 = .ok (.aload_n 1, 1) := by decide +kernel
theorem dX3_somebodyOpens_32 : decode cX3_somebodyOpens 32 = .ok (.getfield 83, 3) := by decide +kernel
theorem dX3_somebodyOpens_35 : decode cX3_somebodyOpens 35 = .ok (.iload_n 2, 1) := by decide +kernel
theorem dX3_somebodyOpens_36 : decode cX3_somebodyOpens 36 = .ok (.iaload, 1) := by decide +kernel
theorem dX3_somebodyOpens_37 : decode cX3_somebodyOpens 37 = .ok (.invokevirtual 86, 3) := by decide +kernel
theorem dX3_somebodyOpens_40 : decode cX3_somebodyOpens 40 = .ok (.ifCond .eq 5, 3) := by decide +kernel
theorem dX3_somebodyOpens_43 : decode cX3_somebodyOpens 43 = .ok (.iconst 1, 1) := by decide +kernel
theorem dX3_somebodyOpens_44 : decode cX3_somebodyOpens 44 = .ok (.ireturn, 1) := by decide +kernel
theorem dX3_somebodyOpens_45 : decode cX3_somebodyOpens 45 = .ok (.aload_n 0, 1) := by decide +kernel
theorem dX3_somebodyOpens_46 : decode cX3_somebodyOpens 46 = .ok (.getfield 15, 3) := by decide +kernel
theorem dX3_somebodyOpens_49 : decode cX3_somebodyOpens 49 = .ok (.bipush 10, 2) := by decide +kernel
theorem dX3_somebodyOpens_51 : decode cX3_somebodyOpens 51 = .ok (.aload_n 1, 1) := by decide +kernel
theorem dX3_somebodyOpens_52 : decode cX3_somebodyOpens 52 = .ok (.getfield 83, 3) := by decide +kernel
theorem dX3_somebodyOpens_55 : decode cX3_somebodyOpens 55 = .ok (.iload_n 2, 1) := by decide +kernel
theorem dX3_somebodyOpens_56 : decode cX3_somebodyOpens 56 = .ok (.iaload, 1) := by decide +kernel
theorem dX3_somebodyOpens_57 : decode cX3_somebodyOpens 57 = .ok (.iadd, 1) := by decide +kernel
theorem dX3_somebodyOpens_58 : decode cX3_somebodyOpens 58 = .ok (.if_icmp .ne 11, 3) := by decide +kernel
theorem dX3_somebodyOpens_61 : decode cX3_somebodyOpens 61 = .ok (.aload_n 0, 1) := by decide +kernel
theorem dX3_somebodyOpens_62 : decode cX3_somebodyOpens 62 = .ok (.bipush 20, 2) := by decide +kernel
theorem dX3_somebodyOpens_64 : decode cX3_somebodyOpens 64 = .ok (.putfield 15, 3) := by decide +kernel
theorem dX3_somebodyOpens_67 : decode cX3_somebodyOpens 67 = .ok (.iconst 1, 1) := by decide +kernel
theorem dX3_somebodyOpens_68 : decode cX3_somebodyOpens 68 = .ok (.ireturn, 1) := by decide +kernel
theorem dX3_somebodyOpens_69 : decode cX3_somebodyOpens 69 = .ok (.aload_n 1, 1) := by decide +kernel
theorem dX3_somebodyOpens_70 : decode cX3_somebodyOpens 70 = .ok (.aload_n 0, 1) := by decide +kernel
theorem dX3_somebodyOpens_71 : decode cX3_somebodyOpens 71 = .ok (.getfield 15, 3) := by decide +kernel
theorem dX3_somebodyOpens_74 : decode cX3_somebodyOpens 74 = .ok (.aload_n 0, 1) := by decide +kernel
theorem dX3_somebodyOpens_75 : decode cX3_somebodyOpens 75 = .ok (.getfield 9, 3) := by decide +kernel
theorem dX3_somebodyOpens_78 : decode cX3_somebodyOpens 78 = .ok (.invokevirtual 89, 3) := by decide +kernel
theorem dX3_somebodyOpens_81 : decode cX3_somebodyOpens 81 = .ok (.ifCond .eq 29, 3) := by decide +kernel
theorem dX3_somebodyOpens_84 : decode cX3_somebodyOpens 84 = .ok (.aload_n 0, 1) := by decide +kernel
theorem dX3_somebodyOpens_85 : decode cX3_somebodyOpens 85 = .ok (.dup, 1) := by decide +kernel
theorem dX3_somebodyOpens_86 : decode cX3_somebodyOpens 86 = .ok (.getfield 24, 3) := by decide +kernel
theorem dX3_somebodyOpens_89 : decode cX3_somebodyOpens 89 = .ok (.aload_n 1, 1) := by decide +kernel
theorem dX3_somebodyOpens_90 : decode cX3_somebodyOpens 90 = .ok (.getfield 93, 3) := by decide +kernel
theorem dX3_somebodyOpens_93 : decode cX3_somebodyOpens 93 = .ok (.aload_n 0, 1) := by decide +kernel
theorem dX3_somebodyOpens_94 : decode cX3_somebodyOpens 94 = .ok (.getfield 15, 3) := by decide +kernel
theorem dX3_somebodyOpens_97 : decode cX3_somebodyOpens 97 = .ok (.iaload, 1) := by decide +kernel
theorem dX3_somebodyOpens_98 : decode cX3_somebodyOpens 98 = .ok (.iadd, 1) := by decide +kernel
theorem dX3_somebodyOpens_99 : decode cX3_somebodyOpens 99 = .ok (.putfield 24, 3) := by decide +kernel
theorem dX3_somebodyOpens_102 : decode cX3_somebodyOpens 102 = .ok (.aload_n 0, 1) := by decide +kernel
theorem dX3_somebodyOpens_103 : decode cX3_somebodyOpens 103 = .ok (.bipush 20, 2) := by decide +kernel
theorem dX3_somebodyOpens_105 : decode cX3_somebodyOpens 105 = .ok (.putfield 15, 3) := by decide +kernel
theorem dX3_somebodyOpens_108 : decode cX3_somebodyOpens 108 = .ok (.iconst 1, 1) := by decide +kernel
theorem dX3_somebodyOpens_109 : decode cX3_somebodyOpens 109 = .ok (.ireturn, 1) := by decide +kernel
theorem dX3_somebodyOpens_110 : decode cX3_somebodyOpens 110 = .ok (.iinc 2 1, 3) := by decide +kernel
theorem dX3_somebodyOpens_113 : decode cX3_somebodyOpens 113 = .ok (.goto (-111), 3) := by decide +kernel
theorem dX3_somebodyOpens_116 : decode cX3_somebodyOpens 116 = .ok (.iconst 0, 1) := by decide +kernel
theorem dX3_somebodyOpens_117 : decode cX3_somebodyOpens 117 = .ok (.ireturn, 1) := by decide +kernel
theorem dX3_letGo_0 : decode cX3_letGo 0 = .ok (.aload_n 1, 1) := by decide +kernel
theorem dX3_letGo_1 : decode cX3_letGo 1 = .ok (.getfield 96, 3) := by decide +kernel
theorem dX3_letGo_4 : decode cX3_letGo 4 = .ok (.aload_n 0, 1) := by decide +kernel
theorem dX3_letGo_5 : decode cX3_letGo 5 = .ok (.getfield 9, 3) := by decide +kernel
theorem dX3_letGo_8 : decode cX3_letGo 8 = .ok (.iaload, 1) := by decide +kernel
theorem dX3_letGo_9 : decode cX3_letGo 9 = .ok (.istore_n 2, 1) := by decide +kernel
theorem dX3_letGo_10 : decode cX3_letGo 10 = .ok (.aload_n 0, 1) := by decide +kernel
theorem dX3_letGo_11 : decode cX3_letGo 11 = .ok (.getfield 18, 3) := by decide +kernel
theorem dX3_letGo_14 : decode cX3_letGo 14 = .ok (.iload_n 2, 1) := by decide +kernel
theorem dX3_letGo_15 : decode cX3_letGo 15 = .ok (.iand, 1) := by decide +kernel
theorem dX3_letGo_16 : decode cX3_letGo 16 = .ok (.istore_n 3, 1) := by decide +kernel
theorem dX3_letGo_17 : decode cX3_letGo 17 = .ok (.aload_n 0, 1) := by decide +kernel
theorem dX3_letGo_18 : decode cX3_letGo 18 = .ok (.dup, 1) := by decide +kernel
theorem dX3_letGo_19 : decode cX3_letGo 19 = .ok (.getfield 18, 3) := by decide +kernel
theorem dX3_letGo_22 : decode cX3_letGo 22 = .ok (.iload_n 2, 1) := by decide +kernel
theorem dX3_letGo_23 : decode cX3_letGo 23 = .ok (.iconst (-1), 1) := by decide +kernel
theorem dX3_letGo_24 : decode cX3_letGo 24 = .ok (.ixor, 1) := by decide +kernel
theorem dX3_letGo_25 : decode cX3_letGo 25 = .ok (.iand, 1) := by decide +kernel
theorem dX3_letGo_26 : decode cX3_letGo 26 = .ok (.putfield 18, 3) := by decide +kernel
theorem dX3_letGo_29 : decode cX3_letGo 29 = .ok (.aload_n 0, 1) := by decide +kernel
theorem dX3_letGo_30 : decode cX3_letGo 30 = .ok (.dup, 1) := by decide +kernel
theorem dX3_letGo_31 : decode cX3_letGo 31 = .ok (.getfield 21, 3) := by decide +kernel
theorem dX3_letGo_34 : decode cX3_letGo 34 = .ok (.iload_n 2, 1) := by decide +kernel
theorem dX3_letGo_35 : decode cX3_letGo 35 = .ok (.iconst (-1), 1) := by decide +kernel
theorem dX3_letGo_36 : decode cX3_letGo 36 = .ok (.ixor, 1) := by decide +kernel
theorem dX3_letGo_37 : decode cX3_letGo 37 = .ok (.iand, 1) := by decide +kernel
theorem dX3_letGo_38 : decode cX3_letGo 38 = .ok (.putfield 21, 3) := by decide +kernel
theorem dX3_letGo_41 : decode cX3_letGo 41 = .ok (.aload_n 0, 1) := by decide +kernel
theorem dX3_letGo_42 : decode cX3_letGo 42 = .ok (.getfield 15, 3) := by decide +kernel
theorem dX3_letGo_45 : decode cX3_letGo 45 = .ok (.bipush 20, 2) := by decide +kernel
theorem dX3_letGo_47 : decode cX3_letGo 47 = .ok (.if_icmp .ne 10, 3) := by decide +kernel
theorem dX3_letGo_50 : decode cX3_letGo 50 = .ok (.aload_n 0, 1) := by decide +kernel
theorem dX3_letGo_51 : decode cX3_letGo 51 = .ok (.getfield 18, 3) := by decide +kernel
theorem dX3_letGo_54 : decode cX3_letGo 54 = .ok (.ifCond .eq 6, 3) := by decide +kernel
theorem dX3_letGo_57 : decode cX3_letGo 57 = .ok (.bipush (-9), 2) := by decide +kernel
theorem dX3_letGo_59 : decode cX3_letGo 59 = .ok (.ireturn, 1) := by decide +kernel
theorem dX3_letGo_60 : decode cX3_letGo 60 = .ok (.aload_n 1, 1) := by decide +kernel
theorem dX3_letGo_61 : decode cX3_letGo 61 = .ok (.iload_n 3, 1) := by decide +kernel
theorem dX3_letGo_62 : decode cX3_letGo 62 = .ok (.invokevirtual 99, 3) := by decide +kernel
theorem dX3_letGo_65 : decode cX3_letGo 65 = .ok (.ireturn, 1) := by decide +kernel
theorem dX3_handOn_0 : decode cX3_handOn 0 = .ok (.aload_n 1, 1) := by decide +kernel
theorem dX3_handOn_1 : decode cX3_handOn 1 = .ok (.getfield 102, 3) := by decide +kernel
theorem dX3_handOn_4 : decode cX3_handOn 4 = .ok (.aload_n 0, 1) := by decide +kernel
theorem dX3_handOn_5 : decode cX3_handOn 5 = .ok (.getfield 9, 3) := by decide +kernel
theorem dX3_handOn_8 : decode cX3_handOn 8 = .ok (.invokestatic 77, 3) := by decide +kernel
theorem dX3_handOn_11 : decode cX3_handOn 11 = .ok (.iaload, 1) := by decide +kernel
theorem dX3_handOn_12 : decode cX3_handOn 12 = .ok (.istore 5, 2) := by decide +kernel
theorem dX3_handOn_14 : decode cX3_handOn 14 = .ok (.iload 5, 2) := by decide +kernel
theorem dX3_handOn_16 : decode cX3_handOn 16 = .ok (.bipush (-9), 2) := by decide +kernel
theorem dX3_handOn_18 : decode cX3_handOn 18 = .ok (.if_icmp .eq 13, 3) := by decide +kernel
theorem dX3_handOn_21 : decode cX3_handOn 21 = .ok (.aload_n 0, 1) := by decide +kernel
theorem dX3_handOn_22 : decode cX3_handOn 22 = .ok (.bipush 10, 2) := by decide +kernel
theorem dX3_handOn_24 : decode cX3_handOn 24 = .ok (.iload 5, 2) := by decide +kernel
theorem dX3_handOn_26 : decode cX3_handOn 26 = .ok (.iadd, 1) := by decide +kernel
theorem dX3_handOn_27 : decode cX3_handOn 27 = .ok (.putfield 15, 3) := by decide +kernel
theorem dX3_handOn_30 : decode cX3_handOn 30 = .ok (.return_, 1) := by decide +kernel
theorem dX3_handOn_31 : decode cX3_handOn 31 = .ok (.aload_n 0, 1) := by decide +kernel
theorem dX3_handOn_32 : decode cX3_handOn 32 = .ok (.iconst 1, 1) := by decide +kernel
theorem dX3_handOn_33 : decode cX3_handOn 33 = .ok (.putfield 36, 3) := by decide +kernel
theorem dX3_handOn_36 : decode cX3_handOn 36 = .ok (.aload_n 0, 1) := by decide +kernel
theorem dX3_handOn_37 : decode cX3_handOn 37 = .ok (.bipush 10, 2) := by decide +kernel
theorem dX3_handOn_39 : decode cX3_handOn 39 = .ok (.iload_n 2, 1) := by decide +kernel
theorem dX3_handOn_40 : decode cX3_handOn 40 = .ok (.iadd, 1) := by decide +kernel
theorem dX3_handOn_41 : decode cX3_handOn 41 = .ok (.putfield 15, 3) := by decide +kernel
theorem dX3_handOn_44 : decode cX3_handOn 44 = .ok (.iload 4, 2) := by decide +kernel
theorem dX3_handOn_46 : decode cX3_handOn 46 = .ok (.ifCond .eq 4, 3) := by decide +kernel
theorem dX3_handOn_49 : decode cX3_handOn 49 = .ok (.return_, 1) := by decide +kernel
theorem dX3_handOn_50 : decode cX3_handOn 50 = .ok (.aload_n 1, 1) := by decide +kernel
theorem dX3_handOn_51 : decode cX3_handOn 51 = .ok (.getfield 105, 3) := by decide +kernel
theorem dX3_handOn_54 : decode cX3_handOn 54 = .ok (.aload_n 0, 1) := by decide +kernel
theorem dX3_handOn_55 : decode cX3_handOn 55 = .ok (.getfield 9, 3) := by decide +kernel
theorem dX3_handOn_58 : decode cX3_handOn 58 = .ok (.iaload, 1) := by decide +kernel
theorem dX3_handOn_59 : decode cX3_handOn 59 = .ok (.istore 6, 2) := by decide +kernel
theorem dX3_handOn_61 : decode cX3_handOn 61 = .ok (.iload_n 3, 1) := by decide +kernel
theorem dX3_handOn_62 : decode cX3_handOn 62 = .ok (.iconst 5, 1) := by decide +kernel
theorem dX3_handOn_63 : decode cX3_handOn 63 = .ok (.if_icmp .ne 40, 3) := by decide +kernel
theorem dX3_handOn_66 : decode cX3_handOn 66 = .ok (.aload_n 1, 1) := by decide +kernel
theorem dX3_handOn_67 : decode cX3_handOn 67 = .ok (.iload 6, 2) := by decide +kernel
theorem dX3_handOn_69 : decode cX3_handOn 69 = .ok (.invokevirtual 108, 3) := by decide +kernel
theorem dX3_handOn_72 : decode cX3_handOn 72 = .ok (.ifCond .eq 31, 3) := by decide +kernel
theorem dX3_handOn_75 : decode cX3_handOn 75 = .ok (.aload_n 0, 1) := by decide +kernel
theorem dX3_handOn_76 : decode cX3_handOn 76 = .ok (.bipush 10, 2) := by decide +kernel
theorem dX3_handOn_78 : decode cX3_handOn 78 = .ok (.iload 6, 2) := by decide +kernel
theorem dX3_handOn_80 : decode cX3_handOn 80 = .ok (.iadd, 1) := by decide +kernel
theorem dX3_handOn_81 : decode cX3_handOn 81 = .ok (.putfield 15, 3) := by decide +kernel
theorem dX3_handOn_84 : decode cX3_handOn 84 = .ok (.aload_n 0, 1) := by decide +kernel
theorem dX3_handOn_85 : decode cX3_handOn 85 = .ok (.dup, 1) := by decide +kernel
theorem dX3_handOn_86 : decode cX3_handOn 86 = .ok (.getfield 24, 3) := by decide +kernel
theorem dX3_handOn_89 : decode cX3_handOn 89 = .ok (.aload_n 1, 1) := by decide +kernel
theorem dX3_handOn_90 : decode cX3_handOn 90 = .ok (.getfield 111, 3) := by decide +kernel
theorem dX3_handOn_93 : decode cX3_handOn 93 = .ok (.iload 6, 2) := by decide +kernel
theorem dX3_handOn_95 : decode cX3_handOn 95 = .ok (.iaload, 1) := by decide +kernel
theorem dX3_handOn_96 : decode cX3_handOn 96 = .ok (.iadd, 1) := by decide +kernel
theorem dX3_handOn_97 : decode cX3_handOn 97 = .ok (.putfield 24, 3) := by decide +kernel
theorem dX3_handOn_100 : decode cX3_handOn 100 = .ok (.goto 35, 3) := by decide +kernel
theorem dX3_handOn_103 : decode cX3_handOn 103 = .ok (.aload_n 1, 1) := by decide +kernel
theorem dX3_handOn_104 : decode cX3_handOn 104 = .ok (.iload_n 3, 1) := by decide +kernel
theorem dX3_handOn_105 : decode cX3_handOn 105 = .ok (.aload_n 0, 1) := by decide +kernel
theorem dX3_handOn_106 : decode cX3_handOn 106 = .ok (.getfield 9, 3) := by decide +kernel
theorem dX3_handOn_109 : decode cX3_handOn 109 = .ok (.invokevirtual 89, 3) := by decide +kernel
theorem dX3_handOn_112 : decode cX3_handOn 112 = .ok (.ifCond .eq 23, 3) := by decide +kernel
theorem dX3_handOn_115 : decode cX3_handOn 115 = .ok (.aload_n 0, 1) := by decide +kernel
theorem dX3_handOn_116 : decode cX3_handOn 116 = .ok (.iload_n 3, 1) := by decide +kernel
theorem dX3_handOn_117 : decode cX3_handOn 117 = .ok (.putfield 15, 3) := by decide +kernel
theorem dX3_handOn_120 : decode cX3_handOn 120 = .ok (.aload_n 0, 1) := by decide +kernel
theorem dX3_handOn_121 : decode cX3_handOn 121 = .ok (.dup, 1) := by decide +kernel
theorem dX3_handOn_122 : decode cX3_handOn 122 = .ok (.getfield 24, 3) := by decide +kernel
theorem dX3_handOn_125 : decode cX3_handOn 125 = .ok (.aload_n 1, 1) := by decide +kernel
theorem dX3_handOn_126 : decode cX3_handOn 126 = .ok (.getfield 93, 3) := by decide +kernel
theorem dX3_handOn_129 : decode cX3_handOn 129 = .ok (.iload_n 3, 1) := by decide +kernel
theorem dX3_handOn_130 : decode cX3_handOn 130 = .ok (.iaload, 1) := by decide +kernel
theorem dX3_handOn_131 : decode cX3_handOn 131 = .ok (.iadd, 1) := by decide +kernel
theorem dX3_handOn_132 : decode cX3_handOn 132 = .ok (.putfield 24, 3) := by decide +kernel
theorem dX3_handOn_135 : decode cX3_handOn 135 = .ok (.return_, 1) := by decide +kernel
theorem dX4_init_0 : decode cX4_init 0 = .ok (.aload_n 0, 1) := by decide +kernel
theorem dX4_init_1 : decode cX4_init 1 = .ok (.invokespecial 3, 3) := by decide +kernel
theorem dX4_init_4 : decode cX4_init 4 = .ok (.aload_n 0, 1) := by decide +kernel
theorem dX4_init_5 : decode cX4_init 5 = .ok (.iconst 0, 1) := by decide +kernel
theorem dX4_init_6 : decode cX4_init 6 = .ok (.putfield 9, 3) := by decide +kernel
theorem dX4_init_9 : decode cX4_init 9 = .ok (.aload_n 0, 1) := by decide +kernel
theorem dX4_init_10 : decode cX4_init 10 = .ok (.iconst 0, 1) := by decide +kernel
theorem dX4_init_11 : decode cX4_init 11 = .ok (.putfield 15, 3) := by decide +kernel
theorem dX4_init_14 : decode cX4_init 14 = .ok (.aload_n 0, 1) := by decide +kernel
theorem dX4_init_15 : decode cX4_init 15 = .ok (.iconst 0, 1) := by decide +kernel
theorem dX4_init_16 : decode cX4_init 16 = .ok (.putfield 18, 3) := by decide +kernel
theorem dX4_init_19 : decode cX4_init 19 = .ok (.aload_n 0, 1) := by decide +kernel
theorem dX4_init_20 : decode cX4_init 20 = .ok (.iconst 0, 1) := by decide +kernel
theorem dX4_init_21 : decode cX4_init 21 = .ok (.putfield 21, 3) := by decide +kernel
theorem dX4_init_24 : decode cX4_init 24 = .ok (.aload_n 0, 1) := by decide +kernel
theorem dX4_init_25 : decode cX4_init 25 = .ok (.iconst 0, 1) := by decide +kernel
theorem dX4_init_26 : decode cX4_init 26 = .ok (.putfield 24, 3) := by decide +kernel
theorem dX4_init_29 : decode cX4_init 29 = .ok (.aload_n 0, 1) := by decide +kernel
theorem dX4_init_30 : decode cX4_init 30 = .ok (.new 27, 3) := by decide +kernel
theorem dX4_init_33 : decode cX4_init 33 = .ok (.dup, 1) := by decide +kernel
theorem dX4_init_34 : decode cX4_init 34 = .ok (.invokespecial 29, 3) := by decide +kernel
theorem dX4_init_37 : decode cX4_init 37 = .ok (.putfield 30, 3) := by decide +kernel
theorem dX4_init_40 : decode cX4_init 40 = .ok (.aload_n 0, 1) := by decide +kernel
theorem dX4_init_41 : decode cX4_init 41 = .ok (.bipush 11, 2) := by decide +kernel
theorem dX4_init_43 : decode cX4_init 43 = .ok (.newarray .int, 2) := by decide +kernel
theorem dX4_init_45 : decode cX4_init 45 = .ok (.putfield 34, 3) := by decide +kernel
theorem dX4_init_48 : decode cX4_init 48 = .ok (.return_, 1) := by decide +kernel
theorem dX4_run_0 : decode cX4_run 0 = .ok (.aload_n 0, 1) := by decide +kernel
theorem dX4_run_1 : decode cX4_run 1 = .ok (.getfield 34, 3) := by decide +kernel
theorem dX4_run_4 : decode cX4_run 4 = .ok (.bipush (-9), 2) := by decide +kernel
theorem dX4_run_6 : decode cX4_run 6 = .ok (.invokestatic 38, 3) := by decide +kernel
theorem dX4_run_9 : decode cX4_run 9 = .ok (.aload_n 0, 1) := by decide +kernel
theorem dX4_run_10 : decode cX4_run 10 = .ok (.aload_n 1, 1) := by decide +kernel
theorem dX4_run_11 : decode cX4_run 11 = .ok (.aload_n 2, 1) := by decide +kernel
theorem dX4_run_12 : decode cX4_run 12 = .ok (.iload_n 3, 1) := by decide +kernel
theorem dX4_run_13 : decode cX4_run 13 = .ok (.invokevirtual 44, 3) := by decide +kernel
theorem dX4_run_16 : decode cX4_run 16 = .ok (.istore 4, 2) := by decide +kernel
theorem dX4_run_18 : decode cX4_run 18 = .ok (.aload_n 0, 1) := by decide +kernel
theorem dX4_run_19 : decode cX4_run 19 = .ok (.aload_n 0, 1) := by decide +kernel
theorem dX4_run_20 : decode cX4_run 20 = .ok (.iload_n 3, 1) := by decide +kernel
theorem dX4_run_21 : decode cX4_run 21 = .ok (.invokestatic 48, 3) := by decide +kernel
theorem dX4_run_24 : decode cX4_run 24 = .ok (.iload 4, 2) := by decide +kernel
theorem dX4_run_26 : decode cX4_run 26 = .ok (.invokevirtual 52, 3) := by decide +kernel
theorem dX4_run_29 : decode cX4_run 29 = .ok (.putfield 9, 3) := by decide +kernel
theorem dX4_run_32 : decode cX4_run 32 = .ok (.aload_n 0, 1) := by decide +kernel
theorem dX4_run_33 : decode cX4_run 33 = .ok (.iconst 0, 1) := by decide +kernel
theorem dX4_run_34 : decode cX4_run 34 = .ok (.putfield 15, 3) := by decide +kernel
theorem dX4_run_37 : decode cX4_run 37 = .ok (.aload_n 0, 1) := by decide +kernel
theorem dX4_run_38 : decode cX4_run 38 = .ok (.iconst 0, 1) := by decide +kernel
theorem dX4_run_39 : decode cX4_run 39 = .ok (.putfield 18, 3) := by decide +kernel
theorem dX4_run_42 : decode cX4_run 42 = .ok (.aload_n 0, 1) := by decide +kernel
theorem dX4_run_43 : decode cX4_run 43 = .ok (.iconst 0, 1) := by decide +kernel
theorem dX4_run_44 : decode cX4_run 44 = .ok (.putfield 21, 3) := by decide +kernel
theorem dX4_run_47 : decode cX4_run 47 = .ok (.aload_n 0, 1) := by decide +kernel
theorem dX4_run_48 : decode cX4_run 48 = .ok (.iconst 0, 1) := by decide +kernel
theorem dX4_run_49 : decode cX4_run 49 = .ok (.putfield 24, 3) := by decide +kernel
theorem dX4_run_52 : decode cX4_run 52 = .ok (.iload 4, 2) := by decide +kernel
theorem dX4_run_54 : decode cX4_run 54 = .ok (.istore 5, 2) := by decide +kernel
theorem dX4_run_56 : decode cX4_run 56 = .ok (.iconst 0, 1) := by decide +kernel
theorem dX4_run_57 : decode cX4_run 57 = .ok (.istore 6, 2) := by decide +kernel
theorem dX4_run_59 : decode cX4_run 59 = .ok (.iload 6, 2) := by decide +kernel
theorem dX4_run_61 : decode cX4_run 61 = .ok (.bipush 10, 2) := by decide +kernel
theorem dX4_run_63 : decode cX4_run 63 = .ok (.if_icmp .ge 118, 3) := by decide +kernel
theorem dX4_run_66 : decode cX4_run 66 = .ok (.iload 6, 2) := by decide +kernel
theorem dX4_run_68 : decode cX4_run 68 = .ok (.ifCond .eq 10, 3) := by decide +kernel
theorem dX4_run_71 : decode cX4_run 71 = .ok (.iload 5, 2) := by decide +kernel
theorem dX4_run_73 : decode cX4_run 73 = .ok (.iload 4, 2) := by decide +kernel
theorem dX4_run_75 : decode cX4_run 75 = .ok (.if_icmp .eq 106, 3) := by decide +kernel
theorem dX4_run_78 : decode cX4_run 78 = .ok (.aload_n 0, 1) := by decide +kernel
theorem dX4_run_79 : decode cX4_run 79 = .ok (.getfield 30, 3) := by decide +kernel
theorem dX4_run_82 : decode cX4_run 82 = .ok (.aload_n 1, 1) := by decide +kernel
theorem dX4_run_83 : decode cX4_run 83 = .ok (.aload_n 2, 1) := by decide +kernel
theorem dX4_run_84 : decode cX4_run 84 = .ok (.iload 5, 2) := by decide +kernel
theorem dX4_run_86 : decode cX4_run 86 = .ok (.invokestatic 56, 3) := by decide +kernel
theorem dX4_run_89 : decode cX4_run 89 = .ok (.iconst 0, 1) := by decide +kernel
theorem dX4_run_90 : decode cX4_run 90 = .ok (.invokevirtual 59, 3) := by decide +kernel
theorem dX4_run_93 : decode cX4_run 93 = .ok (.aload_n 0, 1) := by decide +kernel
theorem dX4_run_94 : decode cX4_run 94 = .ok (.dup, 1) := by decide +kernel
theorem dX4_run_95 : decode cX4_run 95 = .ok (.getfield 15, 3) := by decide +kernel
theorem dX4_run_98 : decode cX4_run 98 = .ok (.iconst 1, 1) := by decide +kernel
theorem dX4_run_99 : decode cX4_run 99 = .ok (.iadd, 1) := by decide +kernel
theorem dX4_run_100 : decode cX4_run 100 = .ok (.putfield 15, 3) := by decide +kernel
theorem dX4_run_103 : decode cX4_run 103 = .ok (.aload_n 0, 1) := by decide +kernel
theorem dX4_run_104 : decode cX4_run 104 = .ok (.dup, 1) := by decide +kernel
theorem dX4_run_105 : decode cX4_run 105 = .ok (.getfield 18, 3) := by decide +kernel
theorem dX4_run_108 : decode cX4_run 108 = .ok (.aload_n 0, 1) := by decide +kernel
theorem dX4_run_109 : decode cX4_run 109 = .ok (.getfield 30, 3) := by decide +kernel
theorem dX4_run_112 : decode cX4_run 112 = .ok (.getfield 63, 3) := by decide +kernel
theorem dX4_run_115 : decode cX4_run 115 = .ok (.getfield 67, 3) := by decide +kernel
theorem dX4_run_118 : decode cX4_run 118 = .ok (.iadd, 1) := by decide +kernel
theorem dX4_run_119 : decode cX4_run 119 = .ok (.putfield 18, 3) := by decide +kernel
theorem dX4_run_122 : decode cX4_run 122 = .ok (.aload_n 0, 1) := by decide +kernel
theorem dX4_run_123 : decode cX4_run 123 = .ok (.dup, 1) := by decide +kernel
theorem dX4_run_124 : decode cX4_run 124 = .ok (.getfield 21, 3) := by decide +kernel
theorem dX4_run_127 : decode cX4_run 127 = .ok (.aload_n 0, 1) := by decide +kernel
theorem dX4_run_128 : decode cX4_run 128 = .ok (.getfield 30, 3) := by decide +kernel
theorem dX4_run_131 : decode cX4_run 131 = .ok (.getfield 63, 3) := by decide +kernel
theorem dX4_run_134 : decode cX4_run 134 = .ok (.getfield 70, 3) := by decide +kernel
theorem dX4_run_137 : decode cX4_run 137 = .ok (.iadd, 1) := by decide +kernel
theorem dX4_run_138 : decode cX4_run 138 = .ok (.putfield 21, 3) := by decide +kernel
theorem dX4_run_141 : decode cX4_run 141 = .ok (.aload_n 0, 1) := by decide +kernel
theorem dX4_run_142 : decode cX4_run 142 = .ok (.dup, 1) := by decide +kernel
theorem dX4_run_143 : decode cX4_run 143 = .ok (.getfield 24, 3) := by decide +kernel
theorem dX4_run_146 : decode cX4_run 146 = .ok (.aload_n 0, 1) := by decide +kernel
theorem dX4_run_147 : decode cX4_run 147 = .ok (.getfield 30, 3) := by decide +kernel
theorem dX4_run_150 : decode cX4_run 150 = .ok (.getfield 63, 3) := by decide +kernel
theorem dX4_run_153 : decode cX4_run 153 = .ok (.getfield 71, 3) := by decide +kernel
theorem dX4_run_156 : decode cX4_run 156 = .ok (.iadd, 1) := by decide +kernel
theorem dX4_run_157 : decode cX4_run 157 = .ok (.putfield 24, 3) := by decide +kernel
theorem dX4_run_160 : decode cX4_run 160 = .ok (.aload_n 0, 1) := by decide +kernel
theorem dX4_run_161 : decode cX4_run 161 = .ok (.getfield 30, 3) := by decide +kernel
theorem dX4_run_164 : decode cX4_run 164 = .ok (.getfield 63, 3) := by decide +kernel
theorem dX4_run_167 : decode cX4_run 167 = .ok (.getfield 72, 3) := by decide +kernel
theorem dX4_run_170 : decode cX4_run 170 = .ok (.invokestatic 48, 3) := by decide +kernel
theorem dX4_run_173 : decode cX4_run 173 = .ok (.istore 5, 2) := by decide +kernel
theorem dX4_run_175 : decode cX4_run 175 = .ok (.iinc 6 1, 3) := by decide +kernel
theorem dX4_run_178 : decode cX4_run 178 = .ok (.goto (-119), 3) := by decide +kernel
theorem dX4_run_181 : decode cX4_run 181 = .ok (.return_, 1) := by decide +kernel
theorem dX4_followWeeks_0 : decode cX4_followWeeks 0 = .ok (.iload_n 3, 1) := by decide +kernel
theorem dX4_followWeeks_1 : decode cX4_followWeeks 1 = .ok (.invokestatic 48, 3) := by decide +kernel
theorem dX4_followWeeks_4 : decode cX4_followWeeks 4 = .ok (.istore 4, 2) := by decide +kernel
theorem dX4_followWeeks_6 : decode cX4_followWeeks 6 = .ok (.iconst 0, 1) := by decide +kernel
theorem dX4_followWeeks_7 : decode cX4_followWeeks 7 = .ok (.istore 5, 2) := by decide +kernel
theorem dX4_followWeeks_9 : decode cX4_followWeeks 9 = .ok (.iload 5, 2) := by decide +kernel
theorem dX4_followWeeks_11 : decode cX4_followWeeks 11 = .ok (.bipush 10, 2) := by decide +kernel
theorem dX4_followWeeks_13 : decode cX4_followWeeks 13 = .ok (.if_icmp .ge 70, 3) := by decide +kernel
theorem dX4_followWeeks_16 : decode cX4_followWeeks 16 = .ok (.iload 4, 2) := by decide +kernel
theorem dX4_followWeeks_18 : decode cX4_followWeeks 18 = .ok (.ifCond .lt 65, 3) := by decide +kernel
theorem dX4_followWeeks_21 : decode cX4_followWeeks 21 = .ok (.aload_n 0, 1) := by decide +kernel
theorem dX4_followWeeks_22 : decode cX4_followWeeks 22 = .ok (.getfield 34, 3) := by decide +kernel
theorem dX4_followWeeks_25 : decode cX4_followWeeks 25 = .ok (.iload 4, 2) := by decide +kernel
theorem dX4_followWeeks_27 : decode cX4_followWeeks 27 = .ok (.iaload, 1) := by decide +kernel
theorem dX4_followWeeks_28 : decode cX4_followWeeks 28 = .ok (.bipush (-9), 2) := by decide +kernel
theorem dX4_followWeeks_30 : decode cX4_followWeeks 30 = .ok (.if_icmp .ne 53, 3) := by decide +kernel
theorem dX4_followWeeks_33 : decode cX4_followWeeks 33 = .ok (.aload_n 0, 1) := by decide +kernel
theorem dX4_followWeeks_34 : decode cX4_followWeeks 34 = .ok (.getfield 30, 3) := by decide +kernel
theorem dX4_followWeeks_37 : decode cX4_followWeeks 37 = .ok (.aload_n 1, 1) := by decide +kernel
theorem dX4_followWeeks_38 : decode cX4_followWeeks 38 = .ok (.aload_n 2, 1) := by decide +kernel
theorem dX4_followWeeks_39 : decode cX4_followWeeks 39 = .ok (.iload 4, 2) := by decide +kernel
theorem dX4_followWeeks_41 : decode cX4_followWeeks 41 = .ok (.invokestatic 56, 3) := by decide +kernel
theorem dX4_followWeeks_44 : decode cX4_followWeeks 44 = .ok (.iconst 0, 1) := by decide +kernel
theorem dX4_followWeeks_45 : decode cX4_followWeeks 45 = .ok (.invokevirtual 59, 3) := by decide +kernel
theorem dX4_followWeeks_48 : decode cX4_followWeeks 48 = .ok (.aload_n 0, 1) := by decide +kernel
theorem dX4_followWeeks_49 : decode cX4_followWeeks 49 = .ok (.getfield 34, 3) := by decide +kernel
theorem dX4_followWeeks_52 : decode cX4_followWeeks 52 = .ok (.iload 4, 2) := by decide +kernel
theorem dX4_followWeeks_54 : decode cX4_followWeeks 54 = .ok (.aload_n 0, 1) := by decide +kernel
theorem dX4_followWeeks_55 : decode cX4_followWeeks 55 = .ok (.getfield 30, 3) := by decide +kernel
theorem dX4_followWeeks_58 : decode cX4_followWeeks 58 = .ok (.getfield 63, 3) := by decide +kernel
theorem dX4_followWeeks_61 : decode cX4_followWeeks 61 = .ok (.getfield 72, 3) := by decide +kernel
theorem dX4_followWeeks_64 : decode cX4_followWeeks 64 = .ok (.invokestatic 48, 3) := by decide +kernel
theorem dX4_followWeeks_67 : decode cX4_followWeeks 67 = .ok (.iastore, 1) := by decide +kernel
theorem dX4_followWeeks_68 : decode cX4_followWeeks 68 = .ok (.aload_n 0, 1) := by decide +kernel
theorem dX4_followWeeks_69 : decode cX4_followWeeks 69 = .ok (.getfield 34, 3) := by decide +kernel
theorem dX4_followWeeks_72 : decode cX4_followWeeks 72 = .ok (.iload 4, 2) := by decide +kernel
theorem dX4_followWeeks_74 : decode cX4_followWeeks 74 = .ok (.iaload, 1) := by decide +kernel
theorem dX4_followWeeks_75 : decode cX4_followWeeks 75 = .ok (.istore 4, 2) := by decide +kernel
theorem dX4_followWeeks_77 : decode cX4_followWeeks 77 = .ok (.iinc 5 1, 3) := by decide +kernel
theorem dX4_followWeeks_80 : decode cX4_followWeeks 80 = .ok (.goto (-71), 3) := by decide +kernel
theorem dX4_followWeeks_83 : decode cX4_followWeeks 83 = .ok (.iload 4, 2) := by decide +kernel
theorem dX4_followWeeks_85 : decode cX4_followWeeks 85 = .ok (.ireturn, 1) := by decide +kernel
theorem dX4_weeksBetween_0 : decode cX4_weeksBetween 0 = .ok (.iload_n 1, 1) := by decide +kernel
theorem dX4_weeksBetween_1 : decode cX4_weeksBetween 1 = .ok (.istore_n 3, 1) := by decide +kernel
theorem dX4_weeksBetween_2 : decode cX4_weeksBetween 2 = .ok (.iconst 0, 1) := by decide +kernel
theorem dX4_weeksBetween_3 : decode cX4_weeksBetween 3 = .ok (.istore 4, 2) := by decide +kernel
theorem dX4_weeksBetween_5 : decode cX4_weeksBetween 5 = .ok (.iconst 0, 1) := by decide +kernel
theorem dX4_weeksBetween_6 : decode cX4_weeksBetween 6 = .ok (.istore 5, 2) := by decide +kernel
theorem dX4_weeksBetween_8 : decode cX4_weeksBetween 8 = .ok (.iload 5, 2) := by decide +kernel
theorem dX4_weeksBetween_10 : decode cX4_weeksBetween 10 = .ok (.bipush 10, 2) := by decide +kernel
theorem dX4_weeksBetween_12 : decode cX4_weeksBetween 12 = .ok (.if_icmp .ge 28, 3) := by decide +kernel
theorem dX4_weeksBetween_15 : decode cX4_weeksBetween 15 = .ok (.iload_n 3, 1) := by decide +kernel
theorem dX4_weeksBetween_16 : decode cX4_weeksBetween 16 = .ok (.ifCond .lt 24, 3) := by decide +kernel
theorem dX4_weeksBetween_19 : decode cX4_weeksBetween 19 = .ok (.iload_n 3, 1) := by decide +kernel
theorem dX4_weeksBetween_20 : decode cX4_weeksBetween 20 = .ok (.iload_n 2, 1) := by decide +kernel
theorem dX4_weeksBetween_21 : decode cX4_weeksBetween 21 = .ok (.if_icmp .eq 19, 3) := by decide +kernel
theorem dX4_weeksBetween_24 : decode cX4_weeksBetween 24 = .ok (.aload_n 0, 1) := by decide +kernel
theorem dX4_weeksBetween_25 : decode cX4_weeksBetween 25 = .ok (.getfield 34, 3) := by decide +kernel
theorem dX4_weeksBetween_28 : decode cX4_weeksBetween 28 = .ok (.iload_n 3, 1) := by decide +kernel
theorem dX4_weeksBetween_29 : decode cX4_weeksBetween 29 = .ok (.iaload, 1) := by decide +kernel
theorem dX4_weeksBetween_30 : decode cX4_weeksBetween 30 = .ok (.istore_n 3, 1) := by decide +kernel
theorem dX4_weeksBetween_31 : decode cX4_weeksBetween 31 = .ok (.iinc 4 1, 3) := by decide +kernel
theorem dX4_weeksBetween_34 : decode cX4_weeksBetween 34 = .ok (.iinc 5 1, 3) := by decide +kernel
theorem dX4_weeksBetween_37 : decode cX4_weeksBetween 37 = .ok (.goto (-29), 3) := by decide +kernel
theorem dX4_weeksBetween_40 : decode cX4_weeksBetween 40 = .ok (.iload 4, 2) := by decide +kernel
theorem dX4_weeksBetween_42 : decode cX4_weeksBetween 42 = .ok (.ireturn, 1) := by decide +kernel
theorem dX4_nobodyStands_0 : decode cX4_nobodyStands 0 = .ok (.iconst 0, 1) := by decide +kernel
theorem dX4_nobodyStands_1 : decode cX4_nobodyStands 1 = .ok (.istore 4, 2) := by decide +kernel
theorem dX4_nobodyStands_3 : decode cX4_nobodyStands 3 = .ok (.iload_n 3, 1) := by decide +kernel
theorem dX4_nobodyStands_4 : decode cX4_nobodyStands 4 = .ok (.invokestatic 48, 3) := by decide +kernel
theorem dX4_nobodyStands_7 : decode cX4_nobodyStands 7 = .ok (.istore 5, 2) := by decide +kernel
theorem dX4_nobodyStands_9 : decode cX4_nobodyStands 9 = .ok (.iconst 0, 1) := by decide +kernel
theorem dX4_nobodyStands_10 : decode cX4_nobodyStands 10 = .ok (.istore 6, 2) := by decide +kernel
theorem dX4_nobodyStands_12 : decode cX4_nobodyStands 12 = .ok (.iload 6, 2) := by decide +kernel
theorem dX4_nobodyStands_14 : decode cX4_nobodyStands 14 = .ok (.bipush 10, 2) := by decide +kernel
theorem dX4_nobodyStands_16 : decode cX4_nobodyStands 16 = .ok (.if_icmp .ge 78, 3) := by decide +kernel
theorem dX4_nobodyStands_19 : decode cX4_nobodyStands 19 = .ok (.iload 5, 2) := by decide +kernel
theorem dX4_nobodyStands_21 : decode cX4_nobodyStands 21 = .ok (.ifCond .lt 73, 3) := by decide +kernel
theorem dX4_nobodyStands_24 : decode cX4_nobodyStands 24 = .ok (.iload 4, 2) := by decide +kernel
theorem dX4_nobodyStands_26 : decode cX4_nobodyStands 26 = .ok (.iload 5, 2) := by decide +kernel
theorem dX4_nobodyStands_28 : decode cX4_nobodyStands 28 = .ok (.ishr, 1) := by decide +kernel
theorem dX4_nobodyStands_29 : decode cX4_nobodyStands 29 = .ok (.iconst 1, 1) := by decide +kernel
theorem dX4_nobodyStands_30 : decode cX4_nobodyStands 30 = .ok (.iand, 1) := by decide +kernel
theorem dX4_nobodyStands_31 : decode cX4_nobodyStands 31 = .ok (.ifCond .ne 63, 3) := by decide +kernel
theorem dX4_nobodyStands_34 : decode cX4_nobodyStands 34 = .ok (.iload 4, 2) := by decide +kernel
theorem dX4_nobodyStands_36 : decode cX4_nobodyStands 36 = .ok (.iconst 1, 1) := by decide +kernel
theorem dX4_nobodyStands_37 : decode cX4_nobodyStands 37 = .ok (.iload 5, 2) := by decide +kernel
theorem dX4_nobodyStands_39 : decode cX4_nobodyStands 39 = .ok (.ishl, 1) := by decide +kernel
theorem dX4_nobodyStands_40 : decode cX4_nobodyStands 40 = .ok (.ior, 1) := by decide +kernel
theorem dX4_nobodyStands_41 : decode cX4_nobodyStands 41 = .ok (.istore 4, 2) := by decide +kernel
theorem dX4_nobodyStands_43 : decode cX4_nobodyStands 43 = .ok (.aload_n 0, 1) := by decide +kernel
theorem dX4_nobodyStands_44 : decode cX4_nobodyStands 44 = .ok (.getfield 30, 3) := by decide +kernel
theorem dX4_nobodyStands_47 : decode cX4_nobodyStands 47 = .ok (.aload_n 1, 1) := by decide +kernel
theorem dX4_nobodyStands_48 : decode cX4_nobodyStands 48 = .ok (.aload_n 2, 1) := by decide +kernel
theorem dX4_nobodyStands_49 : decode cX4_nobodyStands 49 = .ok (.iload 5, 2) := by decide +kernel
theorem dX4_nobodyStands_51 : decode cX4_nobodyStands 51 = .ok (.invokestatic 56, 3) := by decide +kernel
theorem dX4_nobodyStands_54 : decode cX4_nobodyStands 54 = .ok (.iconst 0, 1) := by decide +kernel
theorem dX4_nobodyStands_55 : decode cX4_nobodyStands 55 = .ok (.invokevirtual 59, 3) := by decide +kernel
theorem dX4_nobodyStands_58 : decode cX4_nobodyStands 58 = .ok (.aload_n 0, 1) := by decide +kernel
theorem dX4_nobodyStands_59 : decode cX4_nobodyStands 59 = .ok (.getfield 30, 3) := by decide +kernel
theorem dX4_nobodyStands_62 : decode cX4_nobodyStands 62 = .ok (.getfield 63, 3) := by decide +kernel
theorem dX4_nobodyStands_65 : decode cX4_nobodyStands 65 = .ok (.getfield 71, 3) := by decide +kernel
theorem dX4_nobodyStands_68 : decode cX4_nobodyStands 68 = .ok (.ifCond .eq 5, 3) := by decide +kernel
theorem dX4_nobodyStands_71 : decode cX4_nobodyStands 71 = .ok (.iconst 0, 1) := by decide +kernel
theorem dX4_nobodyStands_72 : decode cX4_nobodyStands 72 = .ok (.ireturn, 1) := by decide +kernel
theorem dX4_nobodyStands_73 : decode cX4_nobodyStands 73 = .ok (.aload_n 0, 1) := by decide +kernel
theorem dX4_nobodyStands_74 : decode cX4_nobodyStands 74 = .ok (.getfield 30, 3) := by decide +kernel
theorem dX4_nobodyStands_77 : decode cX4_nobodyStands 77 = .ok (.getfield 63, 3) := by decide +kernel
theorem dX4_nobodyStands_80 : decode cX4_nobodyStands 80 = .ok (.getfield 72, 3) := by decide +kernel
theorem dX4_nobodyStands_83 : decode cX4_nobodyStands 83 = .ok (.invokestatic 48, 3) := by decide +kernel
theorem dX4_nobodyStands_86 : decode cX4_nobodyStands 86 = .ok (.istore 5, 2) := by decide +kernel
theorem dX4_nobodyStands_88 : decode cX4_nobodyStands 88 = .ok (.iinc 6 1, 3) := by decide +kernel
theorem dX4_nobodyStands_91 : decode cX4_nobodyStands 91 = .ok (.goto (-79), 3) := by decide +kernel
theorem dX4_nobodyStands_94 : decode cX4_nobodyStands 94 = .ok (.iconst 1, 1) := by decide +kernel
theorem dX4_nobodyStands_95 : decode cX4_nobodyStands 95 = .ok (.ireturn, 1) := by decide +kernel
theorem dX5_init_0 : decode cX5_init 0 = .ok (.aload_n 0, 1) := by decide +kernel
theorem dX5_init_1 : decode cX5_init 1 = .ok (.invokespecial 3, 3) := by decide +kernel
theorem dX5_init_4 : decode cX5_init 4 = .ok (.aload_n 0, 1) := by decide +kernel
theorem dX5_init_5 : decode cX5_init 5 = .ok (.bipush 10, 2) := by decide +kernel
theorem dX5_init_7 : decode cX5_init 7 = .ok (.newarray .int, 2) := by decide +kernel
theorem dX5_init_9 : decode cX5_init 9 = .ok (.putfield 9, 3) := by decide +kernel
theorem dX5_init_12 : decode cX5_init 12 = .ok (.aload_n 0, 1) := by decide +kernel
theorem dX5_init_13 : decode cX5_init 13 = .ok (.iconst 0, 1) := by decide +kernel
theorem dX5_init_14 : decode cX5_init 14 = .ok (.putfield 15, 3) := by decide +kernel
theorem dX5_init_17 : decode cX5_init 17 = .ok (.aload_n 0, 1) := by decide +kernel
theorem dX5_init_18 : decode cX5_init 18 = .ok (.getfield 9, 3) := by decide +kernel
theorem dX5_init_21 : decode cX5_init 21 = .ok (.iconst 4, 1) := by decide +kernel
theorem dX5_init_22 : decode cX5_init 22 = .ok (.invokestatic 19, 3) := by decide +kernel
theorem dX5_init_25 : decode cX5_init 25 = .ok (.return_, 1) := by decide +kernel
theorem dX5_clear_0 : decode cX5_clear 0 = .ok (.aload_n 0, 1) := by decide +kernel
theorem dX5_clear_1 : decode cX5_clear 1 = .ok (.getfield 9, 3) := by decide +kernel
theorem dX5_clear_4 : decode cX5_clear 4 = .ok (.bipush (-9), 2) := by decide +kernel
theorem dX5_clear_6 : decode cX5_clear 6 = .ok (.invokestatic 19, 3) := by decide +kernel
theorem dX5_clear_9 : decode cX5_clear 9 = .ok (.aload_n 0, 1) := by decide +kernel
theorem dX5_clear_10 : decode cX5_clear 10 = .ok (.iconst 0, 1) := by decide +kernel
theorem dX5_clear_11 : decode cX5_clear 11 = .ok (.putfield 15, 3) := by decide +kernel
theorem dX5_clear_14 : decode cX5_clear 14 = .ok (.return_, 1) := by decide +kernel
theorem dX5_isTold_0 : decode cX5_isTold 0 = .ok (.iload_n 1, 1) := by decide +kernel
theorem dX5_isTold_1 : decode cX5_isTold 1 = .ok (.invokestatic 25, 3) := by decide +kernel
theorem dX5_isTold_4 : decode cX5_isTold 4 = .ok (.ifCond .eq 18, 3) := by decide +kernel
theorem dX5_isTold_7 : decode cX5_isTold 7 = .ok (.aload_n 0, 1) := by decide +kernel
theorem dX5_isTold_8 : decode cX5_isTold 8 = .ok (.getfield 9, 3) := by decide +kernel
theorem dX5_isTold_11 : decode cX5_isTold 11 = .ok (.iload_n 1, 1) := by decide +kernel
theorem dX5_isTold_12 : decode cX5_isTold 12 = .ok (.iaload, 1) := by decide +kernel
theorem dX5_isTold_13 : decode cX5_isTold 13 = .ok (.bipush (-9), 2) := by decide +kernel
theorem dX5_isTold_15 : decode cX5_isTold 15 = .ok (.if_icmp .eq 7, 3) := by decide +kernel
theorem dX5_isTold_18 : decode cX5_isTold 18 = .ok (.iconst 1, 1) := by decide +kernel
theorem dX5_isTold_19 : decode cX5_isTold 19 = .ok (.goto 4, 3) := by decide +kernel
theorem dX5_isTold_22 : decode cX5_isTold 22 = .ok (.iconst 0, 1) := by decide +kernel
theorem dX5_isTold_23 : decode cX5_isTold 23 = .ok (.ireturn, 1) := by decide +kernel
theorem dX5_actAt_0 : decode cX5_actAt 0 = .ok (.aload_n 0, 1) := by decide +kernel
theorem dX5_actAt_1 : decode cX5_actAt 1 = .ok (.iload_n 1, 1) := by decide +kernel
theorem dX5_actAt_2 : decode cX5_actAt 2 = .ok (.invokevirtual 29, 3) := by decide +kernel
theorem dX5_actAt_5 : decode cX5_actAt 5 = .ok (.ifCond .eq 12, 3) := by decide +kernel
theorem dX5_actAt_8 : decode cX5_actAt 8 = .ok (.aload_n 0, 1) := by decide +kernel
theorem dX5_actAt_9 : decode cX5_actAt 9 = .ok (.getfield 9, 3) := by decide +kernel
theorem dX5_actAt_12 : decode cX5_actAt 12 = .ok (.iload_n 1, 1) := by decide +kernel
theorem dX5_actAt_13 : decode cX5_actAt 13 = .ok (.iaload, 1) := by decide +kernel
theorem dX5_actAt_14 : decode cX5_actAt 14 = .ok (.goto 4, 3) := by decide +kernel
theorem dX5_actAt_17 : decode cX5_actAt 17 = .ok (.iconst 4, 1) := by decide +kernel
theorem dX5_actAt_18 : decode cX5_actAt 18 = .ok (.ireturn, 1) := by decide +kernel
theorem dX5_except_0 : decode cX5_except 0 = .ok (.iload_n 1, 1) := by decide +kernel
theorem dX5_except_1 : decode cX5_except 1 = .ok (.invokestatic 25, 3) := by decide +kernel
theorem dX5_except_4 : decode cX5_except 4 = .ok (.ifCond .eq 20, 3) := by decide +kernel
theorem dX5_except_7 : decode cX5_except 7 = .ok (.aload_n 0, 1) := by decide +kernel
theorem dX5_except_8 : decode cX5_except 8 = .ok (.getfield 9, 3) := by decide +kernel
theorem dX5_except_11 : decode cX5_except 11 = .ok (.iload_n 1, 1) := by decide +kernel
theorem dX5_except_12 : decode cX5_except 12 = .ok (.iload_n 2, 1) := by decide +kernel
theorem dX5_except_13 : decode cX5_except 13 = .ok (.iastore, 1) := by decide +kernel
theorem dX5_except_14 : decode cX5_except 14 = .ok (.aload_n 0, 1) := by decide +kernel
theorem dX5_except_15 : decode cX5_except 15 = .ok (.dup, 1) := by decide +kernel
theorem dX5_except_16 : decode cX5_except 16 = .ok (.getfield 15, 3) := by decide +kernel
theorem dX5_except_19 : decode cX5_except 19 = .ok (.iconst 1, 1) := by decide +kernel
theorem dX5_except_20 : decode cX5_except 20 = .ok (.iadd, 1) := by decide +kernel
theorem dX5_except_21 : decode cX5_except 21 = .ok (.putfield 15, 3) := by decide +kernel
theorem dX5_except_24 : decode cX5_except 24 = .ok (.return_, 1) := by decide +kernel
theorem dX5_otherwise_0 : decode cX5_otherwise 0 = .ok (.iconst 0, 1) := by decide +kernel
theorem dX5_otherwise_1 : decode cX5_otherwise 1 = .ok (.istore_n 2, 1) := by decide +kernel
theorem dX5_otherwise_2 : decode cX5_otherwise 2 = .ok (.iload_n 2, 1) := by decide +kernel
theorem dX5_otherwise_3 : decode cX5_otherwise 3 = .ok (.bipush 10, 2) := by decide +kernel
theorem dX5_otherwise_5 : decode cX5_otherwise 5 = .ok (.if_icmp .ge 27, 3) := by decide +kernel
theorem dX5_otherwise_8 : decode cX5_otherwise 8 = .ok (.aload_n 0, 1) := by decide +kernel
theorem dX5_otherwise_9 : decode cX5_otherwise 9 = .ok (.getfield 9, 3) := by decide +kernel
theorem dX5_otherwise_12 : decode cX5_otherwise 12 = .ok (.iload_n 2, 1) := by decide +kernel
theorem dX5_otherwise_13 : decode cX5_otherwise 13 = .ok (.iaload, 1) := by decide +kernel
theorem dX5_otherwise_14 : decode cX5_otherwise 14 = .ok (.bipush (-9), 2) := by decide +kernel
theorem dX5_otherwise_16 : decode cX5_otherwise 16 = .ok (.if_icmp .ne 10, 3) := by decide +kernel
theorem dX5_otherwise_19 : decode cX5_otherwise 19 = .ok (.aload_n 0, 1) := by decide +kernel
theorem dX5_otherwise_20 : decode cX5_otherwise 20 = .ok (.getfield 9, 3) := by decide +kernel
theorem dX5_otherwise_23 : decode cX5_otherwise 23 = .ok (.iload_n 2, 1) := by decide +kernel
theorem dX5_otherwise_24 : decode cX5_otherwise 24 = .ok (.iload_n 1, 1) := by decide +kernel
theorem dX5_otherwise_25 : decode cX5_otherwise 25 = .ok (.iastore, 1) := by decide +kernel
theorem dX5_otherwise_26 : decode cX5_otherwise 26 = .ok (.iinc 2 1, 3) := by decide +kernel
theorem dX5_otherwise_29 : decode cX5_otherwise 29 = .ok (.goto (-27), 3) := by decide +kernel
theorem dX5_otherwise_32 : decode cX5_otherwise 32 = .ok (.return_, 1) := by decide +kernel
theorem dX5_setShort_0 : decode cX5_setShort 0 = .ok (.aload_n 0, 1) := by decide +kernel
theorem dX5_setShort_1 : decode cX5_setShort 1 = .ok (.invokevirtual 32, 3) := by decide +kernel
theorem dX5_setShort_4 : decode cX5_setShort 4 = .ok (.iload_n 1, 1) := by decide +kernel
theorem dX5_setShort_5 : decode cX5_setShort 5 = .ok (.bipush 6, 2) := by decide +kernel
theorem dX5_setShort_7 : decode cX5_setShort 7 = .ok (.if_icmp .lt 23, 3) := by decide +kernel
theorem dX5_setShort_10 : decode cX5_setShort 10 = .ok (.iload_n 1, 1) := by decide +kernel
theorem dX5_setShort_11 : decode cX5_setShort 11 = .ok (.bipush 6, 2) := by decide +kernel
theorem dX5_setShort_13 : decode cX5_setShort 13 = .ok (.isub, 1) := by decide +kernel
theorem dX5_setShort_14 : decode cX5_setShort 14 = .ok (.istore_n 2, 1) := by decide +kernel
theorem dX5_setShort_15 : decode cX5_setShort 15 = .ok (.aload_n 0, 1) := by decide +kernel
theorem dX5_setShort_16 : decode cX5_setShort 16 = .ok (.iload_n 2, 1) := by decide +kernel
theorem dX5_setShort_17 : decode cX5_setShort 17 = .ok (.bipush 36, 2) := by decide +kernel
theorem dX5_setShort_19 : decode cX5_setShort 19 = .ok (.idiv, 1) := by decide +kernel
theorem dX5_setShort_20 : decode cX5_setShort 20 = .ok (.iload_n 2, 1) := by decide +kernel
theorem dX5_setShort_21 : decode cX5_setShort 21 = .ok (.bipush 6, 2) := by decide +kernel
theorem dX5_setShort_23 : decode cX5_setShort 23 = .ok (.idiv, 1) := by decide +kernel
theorem dX5_setShort_24 : decode cX5_setShort 24 = .ok (.bipush 6, 2) := by decide +kernel
theorem dX5_setShort_26 : decode cX5_setShort 26 = .ok (.irem, 1) := by decide +kernel
theorem dX5_setShort_27 : decode cX5_setShort 27 = .ok (.invokevirtual 35, 3) := by decide +kernel
theorem dX5_setShort_30 : decode cX5_setShort 30 = .ok (.aload_n 0, 1) := by decide +kernel
theorem dX5_setShort_31 : decode cX5_setShort 31 = .ok (.iload_n 1, 1) := by decide +kernel
theorem dX5_setShort_32 : decode cX5_setShort 32 = .ok (.bipush 6, 2) := by decide +kernel
theorem dX5_setShort_34 : decode cX5_setShort 34 = .ok (.irem, 1) := by decide +kernel
theorem dX5_setShort_35 : decode cX5_setShort 35 = .ok (.invokevirtual 39, 3) := by decide +kernel
theorem dX5_setShort_38 : decode cX5_setShort 38 = .ok (.return_, 1) := by decide +kernel
theorem dX5_copyOf_0 : decode cX5_copyOf 0 = .ok (.aload_n 1, 1) := by decide +kernel
theorem dX5_copyOf_1 : decode cX5_copyOf 1 = .ok (.getfield 9, 3) := by decide +kernel
theorem dX5_copyOf_4 : decode cX5_copyOf 4 = .ok (.iconst 0, 1) := by decide +kernel
theorem dX5_copyOf_5 : decode cX5_copyOf 5 = .ok (.aload_n 0, 1) := by decide +kernel
theorem dX5_copyOf_6 : decode cX5_copyOf 6 = .ok (.getfield 9, 3) := by decide +kernel
theorem dX5_copyOf_9 : decode cX5_copyOf 9 = .ok (.iconst 0, 1) := by decide +kernel
theorem dX5_copyOf_10 : decode cX5_copyOf 10 = .ok (.bipush 10, 2) := by decide +kernel
theorem dX5_copyOf_12 : decode cX5_copyOf 12 = .ok (.invokestatic 43, 3) := by decide +kernel
theorem dX5_copyOf_15 : decode cX5_copyOf 15 = .ok (.aload_n 0, 1) := by decide +kernel
theorem dX5_copyOf_16 : decode cX5_copyOf 16 = .ok (.aload_n 1, 1) := by decide +kernel
theorem dX5_copyOf_17 : decode cX5_copyOf 17 = .ok (.getfield 15, 3) := by decide +kernel
theorem dX5_copyOf_20 : decode cX5_copyOf 20 = .ok (.putfield 15, 3) := by decide +kernel
theorem dX5_copyOf_23 : decode cX5_copyOf 23 = .ok (.return_, 1) := by decide +kernel
theorem dX6_init_0 : decode cX6_init 0 = .ok (.aload_n 0, 1) := by decide +kernel
theorem dX6_init_1 : decode cX6_init 1 = .ok (.invokespecial 3, 3) := by decide +kernel
theorem dX6_init_4 : decode cX6_init 4 = .ok (.aload_n 0, 1) := by decide +kernel
theorem dX6_init_5 : decode cX6_init 5 = .ok (.iconst 0, 1) := by decide +kernel
theorem dX6_init_6 : decode cX6_init 6 = .ok (.putfield 9, 3) := by decide +kernel
theorem dX6_init_9 : decode cX6_init 9 = .ok (.aload_n 0, 1) := by decide +kernel
theorem dX6_init_10 : decode cX6_init 10 = .ok (.iconst 0, 1) := by decide +kernel
theorem dX6_init_11 : decode cX6_init 11 = .ok (.putfield 15, 3) := by decide +kernel
theorem dX6_init_14 : decode cX6_init 14 = .ok (.aload_n 0, 1) := by decide +kernel
theorem dX6_init_15 : decode cX6_init 15 = .ok (.bipush (-9), 2) := by decide +kernel
theorem dX6_init_17 : decode cX6_init 17 = .ok (.putfield 18, 3) := by decide +kernel
theorem dX6_init_20 : decode cX6_init 20 = .ok (.return_, 1) := by decide +kernel
theorem dX6_faultIn_0 : decode cX6_faultIn 0 = .ok (.aload_n 3, 1) := by decide +kernel
theorem dX6_faultIn_1 : decode cX6_faultIn 1 = .ok (.invokevirtual 22, 3) := by decide +kernel
theorem dX6_faultIn_4 : decode cX6_faultIn 4 = .ok (.aload_n 0, 1) := by decide +kernel
theorem dX6_faultIn_5 : decode cX6_faultIn 5 = .ok (.iconst 0, 1) := by decide +kernel
theorem dX6_faultIn_6 : decode cX6_faultIn 6 = .ok (.putfield 9, 3) := by decide +kernel
theorem dX6_faultIn_9 : decode cX6_faultIn 9 = .ok (.aload_n 0, 1) := by decide +kernel
theorem dX6_faultIn_10 : decode cX6_faultIn 10 = .ok (.iconst 0, 1) := by decide +kernel
theorem dX6_faultIn_11 : decode cX6_faultIn 11 = .ok (.putfield 15, 3) := by decide +kernel
theorem dX6_faultIn_14 : decode cX6_faultIn 14 = .ok (.aload_n 0, 1) := by decide +kernel
theorem dX6_faultIn_15 : decode cX6_faultIn 15 = .ok (.bipush (-9), 2) := by decide +kernel
theorem dX6_faultIn_17 : decode cX6_faultIn 17 = .ok (.putfield 18, 3) := by decide +kernel
theorem dX6_faultIn_20 : decode cX6_faultIn 20 = .ok (.iconst 0, 1) := by decide +kernel
theorem dX6_faultIn_21 : decode cX6_faultIn 21 = .ok (.istore 4, 2) := by decide +kernel
theorem dX6_faultIn_23 : decode cX6_faultIn 23 = .ok (.iload 4, 2) := by decide +kernel
theorem dX6_faultIn_25 : decode cX6_faultIn 25 = .ok (.iload_n 2, 1) := by decide +kernel
theorem dX6_faultIn_26 : decode cX6_faultIn 26 = .ok (.if_icmp .ge 31, 3) := by decide +kernel
theorem dX6_faultIn_29 : decode cX6_faultIn 29 = .ok (.iload 4, 2) := by decide +kernel
theorem dX6_faultIn_31 : decode cX6_faultIn 31 = .ok (.aload_n 1, 1) := by decide +kernel
theorem dX6_faultIn_32 : decode cX6_faultIn 32 = .ok (.arraylength, 1) := by decide +kernel
theorem dX6_faultIn_33 : decode cX6_faultIn 33 = .ok (.if_icmp .ge 24, 3) := by decide +kernel
theorem dX6_faultIn_36 : decode cX6_faultIn 36 = .ok (.aload_n 0, 1) := by decide +kernel
theorem dX6_faultIn_37 : decode cX6_faultIn 37 = .ok (.aload_n 1, 1) := by decide +kernel
theorem dX6_faultIn_38 : decode cX6_faultIn 38 = .ok (.iload 4, 2) := by decide +kernel
theorem dX6_faultIn_40 : decode cX6_faultIn 40 = .ok (.baload, 1) := by decide +kernel
theorem dX6_faultIn_41 : decode cX6_faultIn 41 = .ok (.aload_n 3, 1) := by decide +kernel
theorem dX6_faultIn_42 : decode cX6_faultIn 42 = .ok (.invokevirtual 27, 3) := by decide +kernel
theorem dX6_faultIn_45 : decode cX6_faultIn 45 = .ok (.ifCond .ne 6, 3) := by decide +kernel
theorem dX6_faultIn_48 : decode cX6_faultIn 48 = .ok (.iload 4, 2) := by decide +kernel
theorem dX6_faultIn_50 : decode cX6_faultIn 50 = .ok (.ireturn, 1) := by decide +kernel
theorem dX6_faultIn_51 : decode cX6_faultIn 51 = .ok (.iinc 4 1, 3) := by decide +kernel
theorem dX6_faultIn_54 : decode cX6_faultIn 54 = .ok (.goto (-31), 3) := by decide +kernel
theorem dX6_faultIn_57 : decode cX6_faultIn 57 = .ok (.aload_n 0, 1) := by decide +kernel
theorem dX6_faultIn_58 : decode cX6_faultIn 58 = .ok (.getfield 9, 3) := by decide +kernel
theorem dX6_faultIn_61 : decode cX6_faultIn 61 = .ok (.ifCond .eq 8, 3) := by decide +kernel
theorem dX6_faultIn_64 : decode cX6_faultIn 64 = .ok (.bipush (-9), 2) := by decide +kernel
theorem dX6_faultIn_66 : decode cX6_faultIn 66 = .ok (.goto 4, 3) := by decide +kernel
theorem dX6_faultIn_69 : decode cX6_faultIn 69 = .ok (.iload_n 2, 1) := by decide +kernel
theorem dX6_faultIn_70 : decode cX6_faultIn 70 = .ok (.ireturn, 1) := by decide +kernel
theorem dX6_takes_0 : decode cX6_takes 0 = .ok (.aload_n 0, 1) := by decide +kernel
theorem dX6_takes_1 : decode cX6_takes 1 = .ok (.getfield 9, 3) := by decide +kernel
theorem dX6_takes_4 : decode cX6_takes 4 = .ok (.ifCond .eq 5, 3) := by decide +kernel
theorem dX6_takes_7 : decode cX6_takes 7 = .ok (.iconst 0, 1) := by decide +kernel
theorem dX6_takes_8 : decode cX6_takes 8 = .ok (.ireturn, 1) := by decide +kernel
theorem dX6_takes_9 : decode cX6_takes 9 = .ok (.aload_n 0, 1) := by decide +kernel
theorem dX6_takes_10 : decode cX6_takes 10 = .ok (.getfield 15, 3) := by decide +kernel
theorem dX6_takes_13 : decode cX6_takes 13 = .ok (.ifCond .eq 13, 3) := by decide +kernel
theorem dX6_takes_16 : decode cX6_takes 16 = .ok (.aload_n 0, 1) := by decide +kernel
theorem dX6_takes_17 : decode cX6_takes 17 = .ok (.iload_n 1, 1) := by decide +kernel
theorem dX6_takes_18 : decode cX6_takes 18 = .ok (.bipush 48, 2) := by decide +kernel
theorem dX6_takes_20 : decode cX6_takes 20 = .ok (.isub, 1) := by decide +kernel
theorem dX6_takes_21 : decode cX6_takes 21 = .ok (.aload_n 2, 1) := by decide +kernel
theorem dX6_takes_22 : decode cX6_takes 22 = .ok (.invokevirtual 31, 3) := by decide +kernel
theorem dX6_takes_25 : decode cX6_takes 25 = .ok (.ireturn, 1) := by decide +kernel
theorem dX6_takes_26 : decode cX6_takes 26 = .ok (.iload_n 1, 1) := by decide +kernel
theorem dX6_takes_27 : decode cX6_takes 27 = .ok (.lookupswitch 56 #[(72, 40), (78, 48), (80, 33)], 33) := by decide +kernel
theorem dX6_takes_60 : decode cX6_takes 60 = .ok (.aload_n 0, 1) := by decide +kernel
theorem dX6_takes_61 : decode cX6_takes 61 = .ok (.iconst 1, 1) := by decide +kernel
theorem dX6_takes_62 : decode cX6_takes 62 = .ok (.putfield 15, 3) := by decide +kernel
theorem dX6_takes_65 : decode cX6_takes 65 = .ok (.iconst 1, 1) := by decide +kernel
theorem dX6_takes_66 : decode cX6_takes 66 = .ok (.ireturn, 1) := by decide +kernel
theorem dX6_takes_67 : decode cX6_takes 67 = .ok (.aload_n 0, 1) := by decide +kernel
theorem dX6_takes_68 : decode cX6_takes 68 = .ok (.iconst 4, 1) := by decide +kernel
theorem dX6_takes_69 : decode cX6_takes 69 = .ok (.aload_n 2, 1) := by decide +kernel
theorem dX6_takes_70 : decode cX6_takes 70 = .ok (.invokevirtual 34, 3) := by decide +kernel
theorem dX6_takes_73 : decode cX6_takes 73 = .ok (.iconst 1, 1) := by decide +kernel
theorem dX6_takes_74 : decode cX6_takes 74 = .ok (.ireturn, 1) := by decide +kernel
theorem dX6_takes_75 : decode cX6_takes 75 = .ok (.aload_n 0, 1) := by decide +kernel
theorem dX6_takes_76 : decode cX6_takes 76 = .ok (.iconst 5, 1) := by decide +kernel
theorem dX6_takes_77 : decode cX6_takes 77 = .ok (.aload_n 2, 1) := by decide +kernel
theorem dX6_takes_78 : decode cX6_takes 78 = .ok (.invokevirtual 34, 3) := by decide +kernel
theorem dX6_takes_81 : decode cX6_takes 81 = .ok (.iconst 1, 1) := by decide +kernel
theorem dX6_takes_82 : decode cX6_takes 82 = .ok (.ireturn, 1) := by decide +kernel
theorem dX6_takes_83 : decode cX6_takes 83 = .ok (.aload_n 0, 1) := by decide +kernel
theorem dX6_takes_84 : decode cX6_takes 84 = .ok (.iload_n 1, 1) := by decide +kernel
theorem dX6_takes_85 : decode cX6_takes 85 = .ok (.bipush 48, 2) := by decide +kernel
theorem dX6_takes_87 : decode cX6_takes 87 = .ok (.isub, 1) := by decide +kernel
theorem dX6_takes_88 : decode cX6_takes 88 = .ok (.aload_n 2, 1) := by decide +kernel
theorem dX6_takes_89 : decode cX6_takes 89 = .ok (.invokevirtual 38, 3) := by decide +kernel
theorem dX6_takes_92 : decode cX6_takes 92 = .ok (.ireturn, 1) := by decide +kernel
theorem dX6_takesPlace_0 : decode cX6_takesPlace 0 = .ok (.iload_n 1, 1) := by decide +kernel
theorem dX6_takesPlace_1 : decode cX6_takesPlace 1 = .ok (.ifCond .lt 8, 3) := by decide +kernel
theorem dX6_takesPlace_4 : decode cX6_takesPlace 4 = .ok (.iload_n 1, 1) := by decide +kernel
theorem dX6_takesPlace_5 : decode cX6_takesPlace 5 = .ok (.iconst 4, 1) := by decide +kernel
theorem dX6_takesPlace_6 : decode cX6_takesPlace 6 = .ok (.if_icmp .lt 5, 3) := by decide +kernel
theorem dX6_takesPlace_9 : decode cX6_takesPlace 9 = .ok (.iconst 0, 1) := by decide +kernel
theorem dX6_takesPlace_10 : decode cX6_takesPlace 10 = .ok (.ireturn, 1) := by decide +kernel
theorem dX6_takesPlace_11 : decode cX6_takesPlace 11 = .ok (.aload_n 0, 1) := by decide +kernel
theorem dX6_takesPlace_12 : decode cX6_takesPlace 12 = .ok (.iconst 0, 1) := by decide +kernel
theorem dX6_takesPlace_13 : decode cX6_takesPlace 13 = .ok (.putfield 15, 3) := by decide +kernel
theorem dX6_takesPlace_16 : decode cX6_takesPlace 16 = .ok (.aload_n 0, 1) := by decide +kernel
theorem dX6_takesPlace_17 : decode cX6_takesPlace 17 = .ok (.iload_n 1, 1) := by decide +kernel
theorem dX6_takesPlace_18 : decode cX6_takesPlace 18 = .ok (.aload_n 2, 1) := by decide +kernel
theorem dX6_takesPlace_19 : decode cX6_takesPlace 19 = .ok (.invokevirtual 34, 3) := by decide +kernel
theorem dX6_takesPlace_22 : decode cX6_takesPlace 22 = .ok (.iconst 1, 1) := by decide +kernel
theorem dX6_takesPlace_23 : decode cX6_takesPlace 23 = .ok (.ireturn, 1) := by decide +kernel
theorem dX6_takesHour_0 : decode cX6_takesHour 0 = .ok (.aload_n 0, 1) := by decide +kernel
theorem dX6_takesHour_1 : decode cX6_takesHour 1 = .ok (.getfield 18, 3) := by decide +kernel
theorem dX6_takesHour_4 : decode cX6_takesHour 4 = .ok (.bipush (-9), 2) := by decide +kernel
theorem dX6_takesHour_6 : decode cX6_takesHour 6 = .ok (.if_icmp .ne 18, 3) := by decide +kernel
theorem dX6_takesHour_9 : decode cX6_takesHour 9 = .ok (.iload_n 1, 1) := by decide +kernel
theorem dX6_takesHour_10 : decode cX6_takesHour 10 = .ok (.invokestatic 41, 3) := by decide +kernel
theorem dX6_takesHour_13 : decode cX6_takesHour 13 = .ok (.ifCond .eq 11, 3) := by decide +kernel
theorem dX6_takesHour_16 : decode cX6_takesHour 16 = .ok (.aload_n 2, 1) := by decide +kernel
theorem dX6_takesHour_17 : decode cX6_takesHour 17 = .ok (.iload_n 1, 1) := by decide +kernel
theorem dX6_takesHour_18 : decode cX6_takesHour 18 = .ok (.invokevirtual 45, 3) := by decide +kernel
theorem dX6_takesHour_21 : decode cX6_takesHour 21 = .ok (.ifCond .eq 5, 3) := by decide +kernel
theorem dX6_takesHour_24 : decode cX6_takesHour 24 = .ok (.iconst 0, 1) := by decide +kernel
theorem dX6_takesHour_25 : decode cX6_takesHour 25 = .ok (.ireturn, 1) := by decide +kernel
theorem dX6_takesHour_26 : decode cX6_takesHour 26 = .ok (.aload_n 0, 1) := by decide +kernel
theorem dX6_takesHour_27 : decode cX6_takesHour 27 = .ok (.iload_n 1, 1) := by decide +kernel
theorem dX6_takesHour_28 : decode cX6_takesHour 28 = .ok (.putfield 18, 3) := by decide +kernel
theorem dX6_takesHour_31 : decode cX6_takesHour 31 = .ok (.iconst 1, 1) := by decide +kernel
theorem dX6_takesHour_32 : decode cX6_takesHour 32 = .ok (.ireturn, 1) := by decide +kernel
theorem dX6_endAct_0 : decode cX6_endAct 0 = .ok (.aload_n 0, 1) := by decide +kernel
theorem dX6_endAct_1 : decode cX6_endAct 1 = .ok (.getfield 18, 3) := by decide +kernel
theorem dX6_endAct_4 : decode cX6_endAct 4 = .ok (.bipush (-9), 2) := by decide +kernel
theorem dX6_endAct_6 : decode cX6_endAct 6 = .ok (.if_icmp .ne 16, 3) := by decide +kernel
theorem dX6_endAct_9 : decode cX6_endAct 9 = .ok (.aload_n 2, 1) := by decide +kernel
theorem dX6_endAct_10 : decode cX6_endAct 10 = .ok (.iload_n 1, 1) := by decide +kernel
theorem dX6_endAct_11 : decode cX6_endAct 11 = .ok (.invokevirtual 48, 3) := by decide +kernel
theorem dX6_endAct_14 : decode cX6_endAct 14 = .ok (.aload_n 0, 1) := by decide +kernel
theorem dX6_endAct_15 : decode cX6_endAct 15 = .ok (.iconst 1, 1) := by decide +kernel
theorem dX6_endAct_16 : decode cX6_endAct 16 = .ok (.putfield 9, 3) := by decide +kernel
theorem dX6_endAct_19 : decode cX6_endAct 19 = .ok (.goto 18, 3) := by decide +kernel
theorem dX6_endAct_22 : decode cX6_endAct 22 = .ok (.aload_n 2, 1) := by decide +kernel
theorem dX6_endAct_23 : decode cX6_endAct 23 = .ok (.aload_n 0, 1) := by decide +kernel
theorem dX6_endAct_24 : decode cX6_endAct 24 = .ok (.getfield 18, 3) := by decide +kernel
theorem dX6_endAct_27 : decode cX6_endAct 27 = .ok (.iload_n 1, 1) := by decide +kernel
theorem dX6_endAct_28 : decode cX6_endAct 28 = .ok (.invokevirtual 52, 3) := by decide +kernel
theorem dX6_endAct_31 : decode cX6_endAct 31 = .ok (.aload_n 0, 1) := by decide +kernel
theorem dX6_endAct_32 : decode cX6_endAct 32 = .ok (.bipush (-9), 2) := by decide +kernel
theorem dX6_endAct_34 : decode cX6_endAct 34 = .ok (.putfield 18, 3) := by decide +kernel
theorem dX6_endAct_37 : decode cX6_endAct 37 = .ok (.return_, 1) := by decide +kernel
