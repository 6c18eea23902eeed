theorem dX12_where_0 : decode cX12_where 0 = .ok (.aload_n 0, 1) := by decide +kernel
theorem dX12_where_1 : decode cX12_where 1 = .ok (.iconst 0, 1) := by decide +kernel
theorem dX12_where_2 : decode cX12_where 2 = .ok (.putfield 118, 3) := by decide +kernel
theorem dX12_where_5 : decode cX12_where 5 = .ok (.aload_n 0, 1) := by decide +kernel
theorem dX12_where_6 : decode cX12_where 6 = .ok (.getfield 81, 3) := by decide +kernel
theorem dX12_where_9 : decode cX12_where 9 = .ok (.iconst 1, 1) := by decide +kernel
theorem dX12_where_10 : decode cX12_where 10 = .ok (.iaload, 1) := by decide +kernel
theorem dX12_where_11 : decode cX12_where 11 = .ok (.ireturn, 1) := by decide +kernel
theorem dX12_bring_0 : decode cX12_bring 0 = .ok (.aload_n 0, 1) := by decide +kernel
theorem dX12_bring_1 : decode cX12_bring 1 = .ok (.iconst 0, 1) := by decide +kernel
theorem dX12_bring_2 : decode cX12_bring 2 = .ok (.putfield 118, 3) := by decide +kernel
theorem dX12_bring_5 : decode cX12_bring 5 = .ok (.aload_n 0, 1) := by decide +kernel
theorem dX12_bring_6 : decode cX12_bring 6 = .ok (.iload_n 1, 1) := by decide +kernel
theorem dX12_bring_7 : decode cX12_bring 7 = .ok (.invokevirtual 274, 3) := by decide +kernel
theorem dX12_bring_10 : decode cX12_bring 10 = .ok (.ifCond .eq 5, 3) := by decide +kernel
theorem dX12_bring_13 : decode cX12_bring 13 = .ok (.iconst (-1), 1) := by decide +kernel
theorem dX12_bring_14 : decode cX12_bring 14 = .ok (.ireturn, 1) := by decide +kernel
theorem dX12_bring_15 : decode cX12_bring 15 = .ok (.aload_n 0, 1) := by decide +kernel
theorem dX12_bring_16 : decode cX12_bring 16 = .ok (.getfield 81, 3) := by decide +kernel
theorem dX12_bring_19 : decode cX12_bring 19 = .ok (.iconst 1, 1) := by decide +kernel
theorem dX12_bring_20 : decode cX12_bring 20 = .ok (.iaload, 1) := by decide +kernel
theorem dX12_bring_21 : decode cX12_bring 21 = .ok (.bipush 20, 2) := by decide +kernel
theorem dX12_bring_23 : decode cX12_bring 23 = .ok (.if_icmp .ne 6, 3) := by decide +kernel
theorem dX12_bring_26 : decode cX12_bring 26 = .ok (.bipush (-3), 2) := by decide +kernel
theorem dX12_bring_28 : decode cX12_bring 28 = .ok (.ireturn, 1) := by decide +kernel
theorem dX12_bring_29 : decode cX12_bring 29 = .ok (.aload_n 0, 1) := by decide +kernel
theorem dX12_bring_30 : decode cX12_bring 30 = .ok (.getfield 81, 3) := by decide +kernel
theorem dX12_bring_33 : decode cX12_bring 33 = .ok (.iconst 1, 1) := by decide +kernel
theorem dX12_bring_34 : decode cX12_bring 34 = .ok (.iaload, 1) := by decide +kernel
theorem dX12_bring_35 : decode cX12_bring 35 = .ok (.istore_n 2, 1) := by decide +kernel
theorem dX12_bring_36 : decode cX12_bring 36 = .ok (.aload_n 0, 1) := by decide +kernel
theorem dX12_bring_37 : decode cX12_bring 37 = .ok (.getfield 81, 3) := by decide +kernel
theorem dX12_bring_40 : decode cX12_bring 40 = .ok (.iconst 1, 1) := by decide +kernel
theorem dX12_bring_41 : decode cX12_bring 41 = .ok (.iload_n 1, 1) := by decide +kernel
theorem dX12_bring_42 : decode cX12_bring 42 = .ok (.iastore, 1) := by decide +kernel
theorem dX12_bring_43 : decode cX12_bring 43 = .ok (.iload_n 2, 1) := by decide +kernel
theorem dX12_bring_44 : decode cX12_bring 44 = .ok (.ireturn, 1) := by decide +kernel
theorem dX12_live_0 : decode cX12_live 0 = .ok (.aload_n 0, 1) := by decide +kernel
theorem dX12_live_1 : decode cX12_live 1 = .ok (.iconst 0, 1) := by decide +kernel
theorem dX12_live_2 : decode cX12_live 2 = .ok (.putfield 118, 3) := by decide +kernel
theorem dX12_live_5 : decode cX12_live 5 = .ok (.iload_n 1, 1) := by decide +kernel
theorem dX12_live_6 : decode cX12_live 6 = .ok (.ifCond .ne 12, 3) := by decide +kernel
theorem dX12_live_9 : decode cX12_live 9 = .ok (.aload_n 0, 1) := by decide +kernel
theorem dX12_live_10 : decode cX12_live 10 = .ok (.getfield 81, 3) := by decide +kernel
theorem dX12_live_13 : decode cX12_live 13 = .ok (.iconst 0, 1) := by decide +kernel
theorem dX12_live_14 : decode cX12_live 14 = .ok (.iaload, 1) := by decide +kernel
theorem dX12_live_15 : decode cX12_live 15 = .ok (.goto 28, 3) := by decide +kernel
theorem dX12_live_18 : decode cX12_live 18 = .ok (.iload_n 1, 1) := by decide +kernel
theorem dX12_live_19 : decode cX12_live 19 = .ok (.i2l, 1) := by decide +kernel
theorem dX12_live_20 : decode cX12_live 20 = .ok (.lconst 1, 1) := by decide +kernel
theorem dX12_live_21 : decode cX12_live 21 = .ok (.ldc2_w 277, 3) := by decide +kernel
theorem dX12_live_24 : decode cX12_live 24 = .ok (.invokestatic 126, 3) := by decide +kernel
theorem dX12_live_27 : decode cX12_live 27 = .ok (.ifCond .eq 14, 3) := by decide +kernel
theorem dX12_live_30 : decode cX12_live 30 = .ok (.aload_n 0, 1) := by decide +kernel
theorem dX12_live_31 : decode cX12_live 31 = .ok (.getfield 81, 3) := by decide +kernel
theorem dX12_live_34 : decode cX12_live 34 = .ok (.iload_n 1, 1) := by decide +kernel
theorem dX12_live_35 : decode cX12_live 35 = .ok (.iconst 1, 1) := by decide +kernel
theorem dX12_live_36 : decode cX12_live 36 = .ok (.iadd, 1) := by decide +kernel
theorem dX12_live_37 : decode cX12_live 37 = .ok (.iaload, 1) := by decide +kernel
theorem dX12_live_38 : decode cX12_live 38 = .ok (.goto 5, 3) := by decide +kernel
theorem dX12_live_41 : decode cX12_live 41 = .ok (.bipush (-2), 2) := by decide +kernel
theorem dX12_live_43 : decode cX12_live 43 = .ok (.ireturn, 1) := by decide +kernel
theorem dX12_keep_0 : decode cX12_keep 0 = .ok (.aload_n 0, 1) := by decide +kernel
theorem dX12_keep_1 : decode cX12_keep 1 = .ok (.iconst 0, 1) := by decide +kernel
theorem dX12_keep_2 : decode cX12_keep 2 = .ok (.putfield 118, 3) := by decide +kernel
theorem dX12_keep_5 : decode cX12_keep 5 = .ok (.iload_n 1, 1) := by decide +kernel
theorem dX12_keep_6 : decode cX12_keep 6 = .ok (.i2l, 1) := by decide +kernel
theorem dX12_keep_7 : decode cX12_keep 7 = .ok (.lconst 0, 1) := by decide +kernel
theorem dX12_keep_8 : decode cX12_keep 8 = .ok (.lconst 1, 1) := by decide +kernel
theorem dX12_keep_9 : decode cX12_keep 9 = .ok (.invokestatic 126, 3) := by decide +kernel
theorem dX12_keep_12 : decode cX12_keep 12 = .ok (.ifCond .ne 5, 3) := by decide +kernel
theorem dX12_keep_15 : decode cX12_keep 15 = .ok (.iconst (-1), 1) := by decide +kernel
theorem dX12_keep_16 : decode cX12_keep 16 = .ok (.ireturn, 1) := by decide +kernel
theorem dX12_keep_17 : decode cX12_keep 17 = .ok (.aload_n 0, 1) := by decide +kernel
theorem dX12_keep_18 : decode cX12_keep 18 = .ok (.getfield 87, 3) := by decide +kernel
theorem dX12_keep_21 : decode cX12_keep 21 = .ok (.iload_n 1, 1) := by decide +kernel
theorem dX12_keep_22 : decode cX12_keep 22 = .ok (.baload, 1) := by decide +kernel
theorem dX12_keep_23 : decode cX12_keep 23 = .ok (.ifCond .eq 7, 3) := by decide +kernel
theorem dX12_keep_26 : decode cX12_keep 26 = .ok (.iconst 0, 1) := by decide +kernel
theorem dX12_keep_27 : decode cX12_keep 27 = .ok (.goto 4, 3) := by decide +kernel
theorem dX12_keep_30 : decode cX12_keep 30 = .ok (.iconst 1, 1) := by decide +kernel
theorem dX12_keep_31 : decode cX12_keep 31 = .ok (.istore_n 2, 1) := by decide +kernel
theorem dX12_keep_32 : decode cX12_keep 32 = .ok (.aload_n 0, 1) := by decide +kernel
theorem dX12_keep_33 : decode cX12_keep 33 = .ok (.getfield 87, 3) := by decide +kernel
theorem dX12_keep_36 : decode cX12_keep 36 = .ok (.iload_n 1, 1) := by decide +kernel
theorem dX12_keep_37 : decode cX12_keep 37 = .ok (.iconst 1, 1) := by decide +kernel
theorem dX12_keep_38 : decode cX12_keep 38 = .ok (.bastore, 1) := by decide +kernel
theorem dX12_keep_39 : decode cX12_keep 39 = .ok (.iconst 0, 1) := by decide +kernel
theorem dX12_keep_40 : decode cX12_keep 40 = .ok (.istore_n 3, 1) := by decide +kernel
theorem dX12_keep_41 : decode cX12_keep 41 = .ok (.iload_n 3, 1) := by decide +kernel
theorem dX12_keep_42 : decode cX12_keep 42 = .ok (.bipush 7, 2) := by decide +kernel
theorem dX12_keep_44 : decode cX12_keep 44 = .ok (.if_icmp .ge 26, 3) := by decide +kernel
theorem dX12_keep_47 : decode cX12_keep 47 = .ok (.aload_n 0, 1) := by decide +kernel
theorem dX12_keep_48 : decode cX12_keep 48 = .ok (.getfield 84, 3) := by decide +kernel
theorem dX12_keep_51 : decode cX12_keep 51 = .ok (.bipush 7, 2) := by decide +kernel
theorem dX12_keep_53 : decode cX12_keep 53 = .ok (.iload_n 1, 1) := by decide +kernel
theorem dX12_keep_54 : decode cX12_keep 54 = .ok (.imul, 1) := by decide +kernel
theorem dX12_keep_55 : decode cX12_keep 55 = .ok (.iload_n 3, 1) := by decide +kernel
theorem dX12_keep_56 : decode cX12_keep 56 = .ok (.iadd, 1) := by decide +kernel
theorem dX12_keep_57 : decode cX12_keep 57 = .ok (.aload_n 0, 1) := by decide +kernel
theorem dX12_keep_58 : decode cX12_keep 58 = .ok (.getfield 81, 3) := by decide +kernel
theorem dX12_keep_61 : decode cX12_keep 61 = .ok (.iload_n 3, 1) := by decide +kernel
theorem dX12_keep_62 : decode cX12_keep 62 = .ok (.iaload, 1) := by decide +kernel
theorem dX12_keep_63 : decode cX12_keep 63 = .ok (.iastore, 1) := by decide +kernel
theorem dX12_keep_64 : decode cX12_keep 64 = .ok (.iinc 3 1, 3) := by decide +kernel
theorem dX12_keep_67 : decode cX12_keep 67 = .ok (.goto (-26), 3) := by decide +kernel
theorem dX12_keep_70 : decode cX12_keep 70 = .ok (.iload_n 2, 1) := by decide +kernel
theorem dX12_keep_71 : decode cX12_keep 71 = .ok (.ireturn, 1) := by decide +kernel
theorem dX12_again_0 : decode cX12_again 0 = .ok (.aload_n 0, 1) := by decide +kernel
theorem dX12_again_1 : decode cX12_again 1 = .ok (.iconst 0, 1) := by decide +kernel
theorem dX12_again_2 : decode cX12_again 2 = .ok (.putfield 118, 3) := by decide +kernel
theorem dX12_again_5 : decode cX12_again 5 = .ok (.iload_n 1, 1) := by decide +kernel
theorem dX12_again_6 : decode cX12_again 6 = .ok (.i2l, 1) := by decide +kernel
theorem dX12_again_7 : decode cX12_again 7 = .ok (.lconst 0, 1) := by decide +kernel
theorem dX12_again_8 : decode cX12_again 8 = .ok (.lconst 1, 1) := by decide +kernel
theorem dX12_again_9 : decode cX12_again 9 = .ok (.invokestatic 126, 3) := by decide +kernel
theorem dX12_again_12 : decode cX12_again 12 = .ok (.ifCond .ne 5, 3) := by decide +kernel
theorem dX12_again_15 : decode cX12_again 15 = .ok (.iconst (-1), 1) := by decide +kernel
theorem dX12_again_16 : decode cX12_again 16 = .ok (.ireturn, 1) := by decide +kernel
theorem dX12_again_17 : decode cX12_again 17 = .ok (.aload_n 0, 1) := by decide +kernel
theorem dX12_again_18 : decode cX12_again 18 = .ok (.getfield 87, 3) := by decide +kernel
theorem dX12_again_21 : decode cX12_again 21 = .ok (.iload_n 1, 1) := by decide +kernel
theorem dX12_again_22 : decode cX12_again 22 = .ok (.baload, 1) := by decide +kernel
theorem dX12_again_23 : decode cX12_again 23 = .ok (.ifCond .ne 6, 3) := by decide +kernel
theorem dX12_again_26 : decode cX12_again 26 = .ok (.bipush (-3), 2) := by decide +kernel
theorem dX12_again_28 : decode cX12_again 28 = .ok (.ireturn, 1) := by decide +kernel
theorem dX12_again_29 : decode cX12_again 29 = .ok (.iconst 0, 1) := by decide +kernel
theorem dX12_again_30 : decode cX12_again 30 = .ok (.istore_n 2, 1) := by decide +kernel
theorem dX12_again_31 : decode cX12_again 31 = .ok (.iload_n 2, 1) := by decide +kernel
theorem dX12_again_32 : decode cX12_again 32 = .ok (.bipush 7, 2) := by decide +kernel
theorem dX12_again_34 : decode cX12_again 34 = .ok (.if_icmp .ge 26, 3) := by decide +kernel
theorem dX12_again_37 : decode cX12_again 37 = .ok (.aload_n 0, 1) := by decide +kernel
theorem dX12_again_38 : decode cX12_again 38 = .ok (.getfield 81, 3) := by decide +kernel
theorem dX12_again_41 : decode cX12_again 41 = .ok (.iload_n 2, 1) := by decide +kernel
theorem dX12_again_42 : decode cX12_again 42 = .ok (.aload_n 0, 1) := by decide +kernel
theorem dX12_again_43 : decode cX12_again 43 = .ok (.getfield 84, 3) := by decide +kernel
theorem dX12_again_46 : decode cX12_again 46 = .ok (.bipush 7, 2) := by decide +kernel
theorem dX12_again_48 : decode cX12_again 48 = .ok (.iload_n 1, 1) := by decide +kernel
theorem dX12_again_49 : decode cX12_again 49 = .ok (.imul, 1) := by decide +kernel
theorem dX12_again_50 : decode cX12_again 50 = .ok (.iload_n 2, 1) := by decide +kernel
theorem dX12_again_51 : decode cX12_again 51 = .ok (.iadd, 1) := by decide +kernel
theorem dX12_again_52 : decode cX12_again 52 = .ok (.iaload, 1) := by decide +kernel
theorem dX12_again_53 : decode cX12_again 53 = .ok (.iastore, 1) := by decide +kernel
theorem dX12_again_54 : decode cX12_again 54 = .ok (.iinc 2 1, 3) := by decide +kernel
theorem dX12_again_57 : decode cX12_again 57 = .ok (.goto (-26), 3) := by decide +kernel
theorem dX12_again_60 : decode cX12_again 60 = .ok (.aload_n 0, 1) := by decide +kernel
theorem dX12_again_61 : decode cX12_again 61 = .ok (.getfield 81, 3) := by decide +kernel
theorem dX12_again_64 : decode cX12_again 64 = .ok (.iconst 0, 1) := by decide +kernel
theorem dX12_again_65 : decode cX12_again 65 = .ok (.iaload, 1) := by decide +kernel
theorem dX12_again_66 : decode cX12_again 66 = .ok (.ireturn, 1) := by decide +kernel
theorem dX12_week_0 : decode cX12_week 0 = .ok (.aload_n 0, 1) := by decide +kernel
theorem dX12_week_1 : decode cX12_week 1 = .ok (.iconst 0, 1) := by decide +kernel
theorem dX12_week_2 : decode cX12_week 2 = .ok (.putfield 118, 3) := by decide +kernel
theorem dX12_week_5 : decode cX12_week 5 = .ok (.iload_n 1, 1) := by decide +kernel
theorem dX12_week_6 : decode cX12_week 6 = .ok (.invokestatic 213, 3) := by decide +kernel
theorem dX12_week_9 : decode cX12_week 9 = .ok (.ifCond .ne 11, 3) := by decide +kernel
theorem dX12_week_12 : decode cX12_week 12 = .ok (.aload_n 0, 1) := by decide +kernel
theorem dX12_week_13 : decode cX12_week 13 = .ok (.iload_n 2, 1) := by decide +kernel
theorem dX12_week_14 : decode cX12_week 14 = .ok (.invokevirtual 274, 3) := by decide +kernel
theorem dX12_week_17 : decode cX12_week 17 = .ok (.ifCond .eq 5, 3) := by decide +kernel
theorem dX12_week_20 : decode cX12_week 20 = .ok (.iconst (-1), 1) := by decide +kernel
theorem dX12_week_21 : decode cX12_week 21 = .ok (.ireturn, 1) := by decide +kernel
theorem dX12_week_22 : decode cX12_week 22 = .ok (.aload_n 0, 1) := by decide +kernel
theorem dX12_week_23 : decode cX12_week 23 = .ok (.iload_n 1, 1) := by decide +kernel
theorem dX12_week_24 : decode cX12_week 24 = .ok (.iload_n 2, 1) := by decide +kernel
theorem dX12_week_25 : decode cX12_week 25 = .ok (.bipush 10, 2) := by decide +kernel
theorem dX12_week_27 : decode cX12_week 27 = .ok (.invokevirtual 279, 3) := by decide +kernel
theorem dX12_week_30 : decode cX12_week 30 = .ok (.iload_n 3, 1) := by decide +kernel
theorem dX12_week_31 : decode cX12_week 31 = .ok (.ifCond .ne 10, 3) := by decide +kernel
theorem dX12_week_34 : decode cX12_week 34 = .ok (.aload_n 0, 1) := by decide +kernel
theorem dX12_week_35 : decode cX12_week 35 = .ok (.getfield 231, 3) := by decide +kernel
theorem dX12_week_38 : decode cX12_week 38 = .ok (.goto 41, 3) := by decide +kernel
theorem dX12_week_41 : decode cX12_week 41 = .ok (.iload_n 3, 1) := by decide +kernel
theorem dX12_week_42 : decode cX12_week 42 = .ok (.iconst 1, 1) := by decide +kernel
theorem dX12_week_43 : decode cX12_week 43 = .ok (.if_icmp .ne 10, 3) := by decide +kernel
theorem dX12_week_46 : decode cX12_week 46 = .ok (.aload_n 0, 1) := by decide +kernel
theorem dX12_week_47 : decode cX12_week 47 = .ok (.getfield 256, 3) := by decide +kernel
theorem dX12_week_50 : decode cX12_week 50 = .ok (.goto 29, 3) := by decide +kernel
theorem dX12_week_53 : decode cX12_week 53 = .ok (.iload_n 3, 1) := by decide +kernel
theorem dX12_week_54 : decode cX12_week 54 = .ok (.iconst 2, 1) := by decide +kernel
theorem dX12_week_55 : decode cX12_week 55 = .ok (.if_icmp .ne 10, 3) := by decide +kernel
theorem dX12_week_58 : decode cX12_week 58 = .ok (.aload_n 0, 1) := by decide +kernel
theorem dX12_week_59 : decode cX12_week 59 = .ok (.getfield 253, 3) := by decide +kernel
theorem dX12_week_62 : decode cX12_week 62 = .ok (.goto 17, 3) := by decide +kernel
theorem dX12_week_65 : decode cX12_week 65 = .ok (.iload_n 3, 1) := by decide +kernel
theorem dX12_week_66 : decode cX12_week 66 = .ok (.iconst 3, 1) := by decide +kernel
theorem dX12_week_67 : decode cX12_week 67 = .ok (.if_icmp .ne 10, 3) := by decide +kernel
theorem dX12_week_70 : decode cX12_week 70 = .ok (.aload_n 0, 1) := by decide +kernel
theorem dX12_week_71 : decode cX12_week 71 = .ok (.getfield 224, 3) := by decide +kernel
theorem dX12_week_74 : decode cX12_week 74 = .ok (.goto 5, 3) := by decide +kernel
theorem dX12_week_77 : decode cX12_week 77 = .ok (.bipush (-2), 2) := by decide +kernel
theorem dX12_week_79 : decode cX12_week 79 = .ok (.ireturn, 1) := by decide +kernel
theorem dX12_ahead_0 : decode cX12_ahead 0 = .ok (.aload_n 0, 1) := by decide +kernel
theorem dX12_ahead_1 : decode cX12_ahead 1 = .ok (.iconst 0, 1) := by decide +kernel
theorem dX12_ahead_2 : decode cX12_ahead 2 = .ok (.putfield 118, 3) := by decide +kernel
theorem dX12_ahead_5 : decode cX12_ahead 5 = .ok (.iload_n 1, 1) := by decide +kernel
theorem dX12_ahead_6 : decode cX12_ahead 6 = .ok (.invokestatic 213, 3) := by decide +kernel
theorem dX12_ahead_9 : decode cX12_ahead 9 = .ok (.ifCond .ne 18, 3) := by decide +kernel
theorem dX12_ahead_12 : decode cX12_ahead 12 = .ok (.aload_n 0, 1) := by decide +kernel
theorem dX12_ahead_13 : decode cX12_ahead 13 = .ok (.iload_n 2, 1) := by decide +kernel
theorem dX12_ahead_14 : decode cX12_ahead 14 = .ok (.invokevirtual 274, 3) := by decide +kernel
theorem dX12_ahead_17 : decode cX12_ahead 17 = .ok (.ifCond .ne 10, 3) := by decide +kernel
theorem dX12_ahead_20 : decode cX12_ahead 20 = .ok (.iload_n 3, 1) := by decide +kernel
theorem dX12_ahead_21 : decode cX12_ahead 21 = .ok (.invokestatic 216, 3) := by decide +kernel
theorem dX12_ahead_24 : decode cX12_ahead 24 = .ok (.ifCond .eq 5, 3) := by decide +kernel
theorem dX12_ahead_27 : decode cX12_ahead 27 = .ok (.iconst (-1), 1) := by decide +kernel
theorem dX12_ahead_28 : decode cX12_ahead 28 = .ok (.ireturn, 1) := by decide +kernel
theorem dX12_ahead_29 : decode cX12_ahead 29 = .ok (.aload_n 0, 1) := by decide +kernel
theorem dX12_ahead_30 : decode cX12_ahead 30 = .ok (.iload_n 1, 1) := by decide +kernel
theorem dX12_ahead_31 : decode cX12_ahead 31 = .ok (.iload_n 2, 1) := by decide +kernel
theorem dX12_ahead_32 : decode cX12_ahead 32 = .ok (.iload_n 3, 1) := by decide +kernel
theorem dX12_ahead_33 : decode cX12_ahead 33 = .ok (.invokevirtual 279, 3) := by decide +kernel
theorem dX12_ahead_36 : decode cX12_ahead 36 = .ok (.aload_n 0, 1) := by decide +kernel
theorem dX12_ahead_37 : decode cX12_ahead 37 = .ok (.getfield 224, 3) := by decide +kernel
theorem dX12_ahead_40 : decode cX12_ahead 40 = .ok (.ireturn, 1) := by decide +kernel
theorem dX12_outside_0 : decode cX12_outside 0 = .ok (.aload_n 0, 1) := by decide +kernel
theorem dX12_outside_1 : decode cX12_outside 1 = .ok (.iconst 0, 1) := by decide +kernel
theorem dX12_outside_2 : decode cX12_outside 2 = .ok (.putfield 118, 3) := by decide +kernel
theorem dX12_outside_5 : decode cX12_outside 5 = .ok (.iload_n 1, 1) := by decide +kernel
theorem dX12_outside_6 : decode cX12_outside 6 = .ok (.invokestatic 213, 3) := by decide +kernel
theorem dX12_outside_9 : decode cX12_outside 9 = .ok (.ifCond .ne 18, 3) := by decide +kernel
theorem dX12_outside_12 : decode cX12_outside 12 = .ok (.aload_n 0, 1) := by decide +kernel
theorem dX12_outside_13 : decode cX12_outside 13 = .ok (.iload_n 2, 1) := by decide +kernel
theorem dX12_outside_14 : decode cX12_outside 14 = .ok (.invokevirtual 274, 3) := by decide +kernel
theorem dX12_outside_17 : decode cX12_outside 17 = .ok (.ifCond .ne 10, 3) := by decide +kernel
theorem dX12_outside_20 : decode cX12_outside 20 = .ok (.iload_n 3, 1) := by decide +kernel
theorem dX12_outside_21 : decode cX12_outside 21 = .ok (.invokestatic 216, 3) := by decide +kernel
theorem dX12_outside_24 : decode cX12_outside 24 = .ok (.ifCond .eq 5, 3) := by decide +kernel
theorem dX12_outside_27 : decode cX12_outside 27 = .ok (.iconst (-1), 1) := by decide +kernel
theorem dX12_outside_28 : decode cX12_outside 28 = .ok (.ireturn, 1) := by decide +kernel
theorem dX12_outside_29 : decode cX12_outside 29 = .ok (.aload_n 0, 1) := by decide +kernel
theorem dX12_outside_30 : decode cX12_outside 30 = .ok (.iload_n 1, 1) := by decide +kernel
theorem dX12_outside_31 : decode cX12_outside 31 = .ok (.iload_n 2, 1) := by decide +kernel
theorem dX12_outside_32 : decode cX12_outside 32 = .ok (.iload_n 3, 1) := by decide +kernel
theorem dX12_outside_33 : decode cX12_outside 33 = .ok (.iconst 1, 1) := by decide +kernel
theorem dX12_outside_34 : decode cX12_outside 34 = .ok (.iadd, 1) := by decide +kernel
theorem dX12_outside_35 : decode cX12_outside 35 = .ok (.invokevirtual 279, 3) := by decide +kernel
theorem dX12_outside_38 : decode cX12_outside 38 = .ok (.aload_n 0, 1) := by decide +kernel
theorem dX12_outside_39 : decode cX12_outside 39 = .ok (.getfield 250, 3) := by decide +kernel
theorem dX12_outside_42 : decode cX12_outside 42 = .ok (.ireturn, 1) := by decide +kernel
theorem dX12_runEver_0 : decode cX12_runEver 0 = .ok (.iconst 0, 1) := by decide +kernel
theorem dX12_runEver_1 : decode cX12_runEver 1 = .ok (.istore_n 3, 1) := by decide +kernel
theorem dX12_runEver_2 : decode cX12_runEver 2 = .ok (.iload_n 3, 1) := by decide +kernel
theorem dX12_runEver_3 : decode cX12_runEver 3 = .ok (.bipush 16, 2) := by decide +kernel
theorem dX12_runEver_5 : decode cX12_runEver 5 = .ok (.if_icmp .ge 17, 3) := by decide +kernel
theorem dX12_runEver_8 : decode cX12_runEver 8 = .ok (.aload_n 0, 1) := by decide +kernel
theorem dX12_runEver_9 : decode cX12_runEver 9 = .ok (.getfield 93, 3) := by decide +kernel
theorem dX12_runEver_12 : decode cX12_runEver 12 = .ok (.iload_n 3, 1) := by decide +kernel
theorem dX12_runEver_13 : decode cX12_runEver 13 = .ok (.bipush (-9), 2) := by decide +kernel
theorem dX12_runEver_15 : decode cX12_runEver 15 = .ok (.iastore, 1) := by decide +kernel
theorem dX12_runEver_16 : decode cX12_runEver 16 = .ok (.iinc 3 1, 3) := by decide +kernel
theorem dX12_runEver_19 : decode cX12_runEver 19 = .ok (.goto (-17), 3) := by decide +kernel
theorem dX12_runEver_22 : decode cX12_runEver 22 = .ok (.iload_n 2, 1) := by decide +kernel
theorem dX12_runEver_23 : decode cX12_runEver 23 = .ok (.istore_n 3, 1) := by decide +kernel
theorem dX12_runEver_24 : decode cX12_runEver 24 = .ok (.iconst 0, 1) := by decide +kernel
theorem dX12_runEver_25 : decode cX12_runEver 25 = .ok (.istore 4, 2) := by decide +kernel
theorem dX12_runEver_27 : decode cX12_runEver 27 = .ok (.aload_n 0, 1) := by decide +kernel
theorem dX12_runEver_28 : decode cX12_runEver 28 = .ok (.getfield 93, 3) := by decide +kernel
theorem dX12_runEver_31 : decode cX12_runEver 31 = .ok (.iload_n 3, 1) := by decide +kernel
theorem dX12_runEver_32 : decode cX12_runEver 32 = .ok (.iaload, 1) := by decide +kernel
theorem dX12_runEver_33 : decode cX12_runEver 33 = .ok (.bipush (-9), 2) := by decide +kernel
theorem dX12_runEver_35 : decode cX12_runEver 35 = .ok (.if_icmp .ne 63, 3) := by decide +kernel
theorem dX12_runEver_38 : decode cX12_runEver 38 = .ok (.aload_n 0, 1) := by decide +kernel
theorem dX12_runEver_39 : decode cX12_runEver 39 = .ok (.getfield 93, 3) := by decide +kernel
theorem dX12_runEver_42 : decode cX12_runEver 42 = .ok (.iload_n 3, 1) := by decide +kernel
theorem dX12_runEver_43 : decode cX12_runEver 43 = .ok (.iload 4, 2) := by decide +kernel
theorem dX12_runEver_45 : decode cX12_runEver 45 = .ok (.iastore, 1) := by decide +kernel
theorem dX12_runEver_46 : decode cX12_runEver 46 = .ok (.aload_n 0, 1) := by decide +kernel
theorem dX12_runEver_47 : decode cX12_runEver 47 = .ok (.iload_n 1, 1) := by decide +kernel
theorem dX12_runEver_48 : decode cX12_runEver 48 = .ok (.iload_n 3, 1) := by decide +kernel
theorem dX12_runEver_49 : decode cX12_runEver 49 = .ok (.bipush 10, 2) := by decide +kernel
theorem dX12_runEver_51 : decode cX12_runEver 51 = .ok (.invokevirtual 279, 3) := by decide +kernel
theorem dX12_runEver_54 : decode cX12_runEver 54 = .ok (.aload_n 0, 1) := by decide +kernel
theorem dX12_runEver_55 : decode cX12_runEver 55 = .ok (.getfield 96, 3) := by decide +kernel
theorem dX12_runEver_58 : decode cX12_runEver 58 = .ok (.iload 4, 2) := by decide +kernel
theorem dX12_runEver_60 : decode cX12_runEver 60 = .ok (.aload_n 0, 1) := by decide +kernel
theorem dX12_runEver_61 : decode cX12_runEver 61 = .ok (.getfield 231, 3) := by decide +kernel
theorem dX12_runEver_64 : decode cX12_runEver 64 = .ok (.iastore, 1) := by decide +kernel
theorem dX12_runEver_65 : decode cX12_runEver 65 = .ok (.aload_n 0, 1) := by decide +kernel
theorem dX12_runEver_66 : decode cX12_runEver 66 = .ok (.getfield 99, 3) := by decide +kernel
theorem dX12_runEver_69 : decode cX12_runEver 69 = .ok (.iload 4, 2) := by decide +kernel
theorem dX12_runEver_71 : decode cX12_runEver 71 = .ok (.aload_n 0, 1) := by decide +kernel
theorem dX12_runEver_72 : decode cX12_runEver 72 = .ok (.getfield 256, 3) := by decide +kernel
theorem dX12_runEver_75 : decode cX12_runEver 75 = .ok (.iastore, 1) := by decide +kernel
theorem dX12_runEver_76 : decode cX12_runEver 76 = .ok (.aload_n 0, 1) := by decide +kernel
theorem dX12_runEver_77 : decode cX12_runEver 77 = .ok (.getfield 102, 3) := by decide +kernel
theorem dX12_runEver_80 : decode cX12_runEver 80 = .ok (.iload 4, 2) := by decide +kernel
theorem dX12_runEver_82 : decode cX12_runEver 82 = .ok (.aload_n 0, 1) := by decide +kernel
theorem dX12_runEver_83 : decode cX12_runEver 83 = .ok (.getfield 253, 3) := by decide +kernel
theorem dX12_runEver_86 : decode cX12_runEver 86 = .ok (.iastore, 1) := by decide +kernel
theorem dX12_runEver_87 : decode cX12_runEver 87 = .ok (.aload_n 0, 1) := by decide +kernel
theorem dX12_runEver_88 : decode cX12_runEver 88 = .ok (.getfield 224, 3) := by decide +kernel
theorem dX12_runEver_91 : decode cX12_runEver 91 = .ok (.istore_n 3, 1) := by decide +kernel
theorem dX12_runEver_92 : decode cX12_runEver 92 = .ok (.iinc 4 1, 3) := by decide +kernel
theorem dX12_runEver_95 : decode cX12_runEver 95 = .ok (.goto (-68), 3) := by decide +kernel
theorem dX12_runEver_98 : decode cX12_runEver 98 = .ok (.aload_n 0, 1) := by decide +kernel
theorem dX12_runEver_99 : decode cX12_runEver 99 = .ok (.aload_n 0, 1) := by decide +kernel
theorem dX12_runEver_100 : decode cX12_runEver 100 = .ok (.getfield 93, 3) := by decide +kernel
theorem dX12_runEver_103 : decode cX12_runEver 103 = .ok (.iload_n 3, 1) := by decide +kernel
theorem dX12_runEver_104 : decode cX12_runEver 104 = .ok (.iaload, 1) := by decide +kernel
theorem dX12_runEver_105 : decode cX12_runEver 105 = .ok (.putfield 283, 3) := by decide +kernel
theorem dX12_runEver_108 : decode cX12_runEver 108 = .ok (.aload_n 0, 1) := by decide +kernel
theorem dX12_runEver_109 : decode cX12_runEver 109 = .ok (.iload 4, 2) := by decide +kernel
theorem dX12_runEver_111 : decode cX12_runEver 111 = .ok (.aload_n 0, 1) := by decide +kernel
theorem dX12_runEver_112 : decode cX12_runEver 112 = .ok (.getfield 283, 3) := by decide +kernel
theorem dX12_runEver_115 : decode cX12_runEver 115 = .ok (.isub, 1) := by decide +kernel
theorem dX12_runEver_116 : decode cX12_runEver 116 = .ok (.putfield 286, 3) := by decide +kernel
theorem dX12_runEver_119 : decode cX12_runEver 119 = .ok (.return_, 1) := by decide +kernel
theorem dX12_ever_0 : decode cX12_ever 0 = .ok (.aload_n 0, 1) := by decide +kernel
theorem dX12_ever_1 : decode cX12_ever 1 = .ok (.iconst 0, 1) := by decide +kernel
theorem dX12_ever_2 : decode cX12_ever 2 = .ok (.putfield 118, 3) := by decide +kernel
theorem dX12_ever_5 : decode cX12_ever 5 = .ok (.iload_n 1, 1) := by decide +kernel
theorem dX12_ever_6 : decode cX12_ever 6 = .ok (.invokestatic 213, 3) := by decide +kernel
theorem dX12_ever_9 : decode cX12_ever 9 = .ok (.ifCond .ne 11, 3) := by decide +kernel
theorem dX12_ever_12 : decode cX12_ever 12 = .ok (.aload_n 0, 1) := by decide +kernel
theorem dX12_ever_13 : decode cX12_ever 13 = .ok (.iload_n 2, 1) := by decide +kernel
theorem dX12_ever_14 : decode cX12_ever 14 = .ok (.invokevirtual 274, 3) := by decide +kernel
theorem dX12_ever_17 : decode cX12_ever 17 = .ok (.ifCond .eq 5, 3) := by decide +kernel
theorem dX12_ever_20 : decode cX12_ever 20 = .ok (.iconst (-1), 1) := by decide +kernel
theorem dX12_ever_21 : decode cX12_ever 21 = .ok (.ireturn, 1) := by decide +kernel
theorem dX12_ever_22 : decode cX12_ever 22 = .ok (.iload_n 3, 1) := by decide +kernel
theorem dX12_ever_23 : decode cX12_ever 23 = .ok (.i2l, 1) := by decide +kernel
theorem dX12_ever_24 : decode cX12_ever 24 = .ok (.lconst 0, 1) := by decide +kernel
theorem dX12_ever_25 : decode cX12_ever 25 = .ok (.ldc2_w 289, 3) := by decide +kernel
theorem dX12_ever_28 : decode cX12_ever 28 = .ok (.invokestatic 126, 3) := by decide +kernel
theorem dX12_ever_31 : decode cX12_ever 31 = .ok (.ifCond .ne 6, 3) := by decide +kernel
theorem dX12_ever_34 : decode cX12_ever 34 = .ok (.bipush (-2), 2) := by decide +kernel
theorem dX12_ever_36 : decode cX12_ever 36 = .ok (.ireturn, 1) := by decide +kernel
theorem dX12_ever_37 : decode cX12_ever 37 = .ok (.aload_n 0, 1) := by decide +kernel
theorem dX12_ever_38 : decode cX12_ever 38 = .ok (.iload_n 1, 1) := by decide +kernel
theorem dX12_ever_39 : decode cX12_ever 39 = .ok (.iload_n 2, 1) := by decide +kernel
theorem dX12_ever_40 : decode cX12_ever 40 = .ok (.invokevirtual 291, 3) := by decide +kernel
theorem dX12_ever_43 : decode cX12_ever 43 = .ok (.iconst 0, 1) := by decide +kernel
theorem dX12_ever_44 : decode cX12_ever 44 = .ok (.istore 4, 2) := by decide +kernel
theorem dX12_ever_46 : decode cX12_ever 46 = .ok (.aload_n 0, 1) := by decide +kernel
theorem dX12_ever_47 : decode cX12_ever 47 = .ok (.getfield 283, 3) := by decide +kernel
theorem dX12_ever_50 : decode cX12_ever 50 = .ok (.istore 5, 2) := by decide +kernel
theorem dX12_ever_52 : decode cX12_ever 52 = .ok (.iload 5, 2) := by decide +kernel
theorem dX12_ever_54 : decode cX12_ever 54 = .ok (.aload_n 0, 1) := by decide +kernel
theorem dX12_ever_55 : decode cX12_ever 55 = .ok (.getfield 283, 3) := by decide +kernel
theorem dX12_ever_58 : decode cX12_ever 58 = .ok (.aload_n 0, 1) := by decide +kernel
theorem dX12_ever_59 : decode cX12_ever 59 = .ok (.getfield 286, 3) := by decide +kernel
theorem dX12_ever_62 : decode cX12_ever 62 = .ok (.iadd, 1) := by decide +kernel
theorem dX12_ever_63 : decode cX12_ever 63 = .ok (.if_icmp .ge 60, 3) := by decide +kernel
theorem dX12_ever_66 : decode cX12_ever 66 = .ok (.iload 4, 2) := by decide +kernel
theorem dX12_ever_68 : decode cX12_ever 68 = .ok (.iload_n 3, 1) := by decide +kernel
theorem dX12_ever_69 : decode cX12_ever 69 = .ok (.iconst 2, 1) := by decide +kernel
theorem dX12_ever_70 : decode cX12_ever 70 = .ok (.if_icmp .ne 13, 3) := by decide +kernel
theorem dX12_ever_73 : decode cX12_ever 73 = .ok (.aload_n 0, 1) := by decide +kernel
theorem dX12_ever_74 : decode cX12_ever 74 = .ok (.getfield 96, 3) := by decide +kernel
theorem dX12_ever_77 : decode cX12_ever 77 = .ok (.iload 5, 2) := by decide +kernel
theorem dX12_ever_79 : decode cX12_ever 79 = .ok (.iaload, 1) := by decide +kernel
theorem dX12_ever_80 : decode cX12_ever 80 = .ok (.goto 34, 3) := by decide +kernel
theorem dX12_ever_83 : decode cX12_ever 83 = .ok (.iload_n 3, 1) := by decide +kernel
theorem dX12_ever_84 : decode cX12_ever 84 = .ok (.iconst 3, 1) := by decide +kernel
theorem dX12_ever_85 : decode cX12_ever 85 = .ok (.if_icmp .ne 13, 3) := by decide +kernel
theorem dX12_ever_88 : decode cX12_ever 88 = .ok (.aload_n 0, 1) := by decide +kernel
theorem dX12_ever_89 : decode cX12_ever 89 = .ok (.getfield 99, 3) := by decide +kernel
theorem dX12_ever_92 : decode cX12_ever 92 = .ok (.iload 5, 2) := by decide +kernel
theorem dX12_ever_94 : decode cX12_ever 94 = .ok (.iaload, 1) := by decide +kernel
theorem dX12_ever_95 : decode cX12_ever 95 = .ok (.goto 19, 3) := by decide +kernel
theorem dX12_ever_98 : decode cX12_ever 98 = .ok (.iload_n 3, 1) := by decide +kernel
theorem dX12_ever_99 : decode cX12_ever 99 = .ok (.iconst 4, 1) := by decide +kernel
theorem dX12_ever_100 : decode cX12_ever 100 = .ok (.if_icmp .ne 13, 3) := by decide +kernel
theorem dX12_ever_103 : decode cX12_ever 103 = .ok (.aload_n 0, 1) := by decide +kernel
theorem dX12_ever_104 : decode cX12_ever 104 = .ok (.getfield 102, 3) := by decide +kernel
theorem dX12_ever_107 : decode cX12_ever 107 = .ok (.iload 5, 2) := by decide +kernel
theorem dX12_ever_109 : decode cX12_ever 109 = .ok (.iaload, 1) := by decide +kernel
theorem dX12_ever_110 : decode cX12_ever 110 = .ok (.goto 4, 3) := by decide +kernel
theorem dX12_ever_113 : decode cX12_ever 113 = .ok (.iconst 0, 1) := by decide +kernel
theorem dX12_ever_114 : decode cX12_ever 114 = .ok (.iadd, 1) := by decide +kernel
theorem dX12_ever_115 : decode cX12_ever 115 = .ok (.istore 4, 2) := by decide +kernel
theorem dX12_ever_117 : decode cX12_ever 117 = .ok (.iinc 5 1, 3) := by decide +kernel
theorem dX12_ever_120 : decode cX12_ever 120 = .ok (.goto (-68), 3) := by decide +kernel
theorem dX12_ever_123 : decode cX12_ever 123 = .ok (.iload_n 3, 1) := by decide +kernel
theorem dX12_ever_124 : decode cX12_ever 124 = .ok (.ifCond .ne 10, 3) := by decide +kernel
theorem dX12_ever_127 : decode cX12_ever 127 = .ok (.aload_n 0, 1) := by decide +kernel
theorem dX12_ever_128 : decode cX12_ever 128 = .ok (.getfield 283, 3) := by decide +kernel
theorem dX12_ever_131 : decode cX12_ever 131 = .ok (.goto 17, 3) := by decide +kernel
theorem dX12_ever_134 : decode cX12_ever 134 = .ok (.iload_n 3, 1) := by decide +kernel
theorem dX12_ever_135 : decode cX12_ever 135 = .ok (.iconst 1, 1) := by decide +kernel
theorem dX12_ever_136 : decode cX12_ever 136 = .ok (.if_icmp .ne 10, 3) := by decide +kernel
theorem dX12_ever_139 : decode cX12_ever 139 = .ok (.aload_n 0, 1) := by decide +kernel
theorem dX12_ever_140 : decode cX12_ever 140 = .ok (.getfield 286, 3) := by decide +kernel
theorem dX12_ever_143 : decode cX12_ever 143 = .ok (.goto 5, 3) := by decide +kernel
theorem dX12_ever_146 : decode cX12_ever 146 = .ok (.iload 4, 2) := by decide +kernel
theorem dX12_ever_148 : decode cX12_ever 148 = .ok (.ireturn, 1) := by decide +kernel
theorem dX12_isNever_0 : decode cX12_isNever 0 = .ok (.aload_n 0, 1) := by decide +kernel
theorem dX12_isNever_1 : decode cX12_isNever 1 = .ok (.iload_n 1, 1) := by decide +kernel
theorem dX12_isNever_2 : decode cX12_isNever 2 = .ok (.iload_n 2, 1) := by decide +kernel
theorem dX12_isNever_3 : decode cX12_isNever 3 = .ok (.invokevirtual 291, 3) := by decide +kernel
theorem dX12_isNever_6 : decode cX12_isNever 6 = .ok (.iconst 1, 1) := by decide +kernel
theorem dX12_isNever_7 : decode cX12_isNever 7 = .ok (.istore_n 3, 1) := by decide +kernel
theorem dX12_isNever_8 : decode cX12_isNever 8 = .ok (.iconst 0, 1) := by decide +kernel
theorem dX12_isNever_9 : decode cX12_isNever 9 = .ok (.istore 4, 2) := by decide +kernel
theorem dX12_isNever_11 : decode cX12_isNever 11 = .ok (.iload 4, 2) := by decide +kernel
theorem dX12_isNever_13 : decode cX12_isNever 13 = .ok (.aload_n 0, 1) := by decide +kernel
theorem dX12_isNever_14 : decode cX12_isNever 14 = .ok (.getfield 283, 3) := by decide +kernel
theorem dX12_isNever_17 : decode cX12_isNever 17 = .ok (.aload_n 0, 1) := by decide +kernel
theorem dX12_isNever_18 : decode cX12_isNever 18 = .ok (.getfield 286, 3) := by decide +kernel
theorem dX12_isNever_21 : decode cX12_isNever 21 = .ok (.iadd, 1) := by decide +kernel
theorem dX12_isNever_22 : decode cX12_isNever 22 = .ok (.if_icmp .ge 29, 3) := by decide +kernel
theorem dX12_isNever_25 : decode cX12_isNever 25 = .ok (.iload_n 3, 1) := by decide +kernel
theorem dX12_isNever_26 : decode cX12_isNever 26 = .ok (.ifCond .eq 17, 3) := by decide +kernel
theorem dX12_isNever_29 : decode cX12_isNever 29 = .ok (.aload_n 0, 1) := by decide +kernel
theorem dX12_isNever_30 : decode cX12_isNever 30 = .ok (.getfield 102, 3) := by decide +kernel
theorem dX12_isNever_33 : decode cX12_isNever 33 = .ok (.iload 4, 2) := by decide +kernel
theorem dX12_isNever_35 : decode cX12_isNever 35 = .ok (.iaload, 1) := by decide +kernel
theorem dX12_isNever_36 : decode cX12_isNever 36 = .ok (.ifCond .ne 7, 3) := by decide +kernel
theorem dX12_isNever_39 : decode cX12_isNever 39 = .ok (.iconst 1, 1) := by decide +kernel
theorem dX12_isNever_40 : decode cX12_isNever 40 = .ok (.goto 4, 3) := by decide +kernel
theorem dX12_isNever_43 : decode cX12_isNever 43 = .ok (.iconst 0, 1) := by decide +kernel
theorem dX12_isNever_44 : decode cX12_isNever 44 = .ok (.istore_n 3, 1) := by decide +kernel
theorem dX12_isNever_45 : decode cX12_isNever 45 = .ok (.iinc 4 1, 3) := by decide +kernel
theorem dX12_isNever_48 : decode cX12_isNever 48 = .ok (.goto (-37), 3) := by decide +kernel
theorem dX12_isNever_51 : decode cX12_isNever 51 = .ok (.iload_n 3, 1) := by decide +kernel
theorem dX12_isNever_52 : decode cX12_isNever 52 = .ok (.ireturn, 1) := by decide +kernel
theorem dX12_never_0 : decode cX12_never 0 = .ok (.aload_n 0, 1) := by decide +kernel
theorem dX12_never_1 : decode cX12_never 1 = .ok (.iconst 0, 1) := by decide +kernel
theorem dX12_never_2 : decode cX12_never 2 = .ok (.putfield 118, 3) := by decide +kernel
theorem dX12_never_5 : decode cX12_never 5 = .ok (.iload_n 1, 1) := by decide +kernel
theorem dX12_never_6 : decode cX12_never 6 = .ok (.invokestatic 213, 3) := by decide +kernel
theorem dX12_never_9 : decode cX12_never 9 = .ok (.ifCond .ne 11, 3) := by decide +kernel
theorem dX12_never_12 : decode cX12_never 12 = .ok (.aload_n 0, 1) := by decide +kernel
theorem dX12_never_13 : decode cX12_never 13 = .ok (.iload_n 2, 1) := by decide +kernel
theorem dX12_never_14 : decode cX12_never 14 = .ok (.invokevirtual 274, 3) := by decide +kernel
theorem dX12_never_17 : decode cX12_never 17 = .ok (.ifCond .eq 7, 3) := by decide +kernel
theorem dX12_never_20 : decode cX12_never 20 = .ok (.iconst (-1), 1) := by decide +kernel
theorem dX12_never_21 : decode cX12_never 21 = .ok (.goto 17, 3) := by decide +kernel
theorem dX12_never_24 : decode cX12_never 24 = .ok (.aload_n 0, 1) := by decide +kernel
theorem dX12_never_25 : decode cX12_never 25 = .ok (.iload_n 1, 1) := by decide +kernel
theorem dX12_never_26 : decode cX12_never 26 = .ok (.iload_n 2, 1) := by decide +kernel
theorem dX12_never_27 : decode cX12_never 27 = .ok (.invokevirtual 295, 3) := by decide +kernel
theorem dX12_never_30 : decode cX12_never 30 = .ok (.ifCond .eq 7, 3) := by decide +kernel
theorem dX12_never_33 : decode cX12_never 33 = .ok (.iconst 1, 1) := by decide +kernel
theorem dX12_never_34 : decode cX12_never 34 = .ok (.goto 4, 3) := by decide +kernel
theorem dX12_never_37 : decode cX12_never 37 = .ok (.iconst 0, 1) := by decide +kernel
theorem dX12_never_38 : decode cX12_never 38 = .ok (.ireturn, 1) := by decide +kernel
theorem dX12_tell_0 : decode cX12_tell 0 = .ok (.aload_n 0, 1) := by decide +kernel
theorem dX12_tell_1 : decode cX12_tell 1 = .ok (.iconst 0, 1) := by decide +kernel
theorem dX12_tell_2 : decode cX12_tell 2 = .ok (.putfield 118, 3) := by decide +kernel
theorem dX12_tell_5 : decode cX12_tell 5 = .ok (.iload_n 1, 1) := by decide +kernel
theorem dX12_tell_6 : decode cX12_tell 6 = .ok (.invokestatic 216, 3) := by decide +kernel
theorem dX12_tell_9 : decode cX12_tell 9 = .ok (.ifCond .eq 5, 3) := by decide +kernel
theorem dX12_tell_12 : decode cX12_tell 12 = .ok (.iconst (-1), 1) := by decide +kernel
theorem dX12_tell_13 : decode cX12_tell 13 = .ok (.ireturn, 1) := by decide +kernel
theorem dX12_tell_14 : decode cX12_tell 14 = .ok (.iload_n 2, 1) := by decide +kernel
theorem dX12_tell_15 : decode cX12_tell 15 = .ok (.i2l, 1) := by decide +kernel
theorem dX12_tell_16 : decode cX12_tell 16 = .ok (.lconst 0, 1) := by decide +kernel
theorem dX12_tell_17 : decode cX12_tell 17 = .ok (.ldc2_w 132, 3) := by decide +kernel
theorem dX12_tell_20 : decode cX12_tell 20 = .ok (.invokestatic 126, 3) := by decide +kernel
theorem dX12_tell_23 : decode cX12_tell 23 = .ok (.ifCond .ne 32, 3) := by decide +kernel
theorem dX12_tell_26 : decode cX12_tell 26 = .ok (.iload_n 2, 1) := by decide +kernel
theorem dX12_tell_27 : decode cX12_tell 27 = .ok (.i2l, 1) := by decide +kernel
theorem dX12_tell_28 : decode cX12_tell 28 = .ok (.ldc2_w 134, 3) := by decide +kernel
theorem dX12_tell_31 : decode cX12_tell 31 = .ok (.ldc2_w 298, 3) := by decide +kernel
theorem dX12_tell_34 : decode cX12_tell 34 = .ok (.invokestatic 126, 3) := by decide +kernel
theorem dX12_tell_37 : decode cX12_tell 37 = .ok (.ifCond .ne 18, 3) := by decide +kernel
theorem dX12_tell_40 : decode cX12_tell 40 = .ok (.iload_n 2, 1) := by decide +kernel
theorem dX12_tell_41 : decode cX12_tell 41 = .ok (.bipush 20, 2) := by decide +kernel
theorem dX12_tell_43 : decode cX12_tell 43 = .ok (.if_icmp .eq 12, 3) := by decide +kernel
theorem dX12_tell_46 : decode cX12_tell 46 = .ok (.iload_n 2, 1) := by decide +kernel
theorem dX12_tell_47 : decode cX12_tell 47 = .ok (.bipush 99, 2) := by decide +kernel
theorem dX12_tell_49 : decode cX12_tell 49 = .ok (.if_icmp .eq 6, 3) := by decide +kernel
theorem dX12_tell_52 : decode cX12_tell 52 = .ok (.bipush (-2), 2) := by decide +kernel
theorem dX12_tell_54 : decode cX12_tell 54 = .ok (.ireturn, 1) := by decide +kernel
theorem dX12_tell_55 : decode cX12_tell 55 = .ok (.aload_n 0, 1) := by decide +kernel
theorem dX12_tell_56 : decode cX12_tell 56 = .ok (.getfield 90, 3) := by decide +kernel
theorem dX12_tell_59 : decode cX12_tell 59 = .ok (.iload_n 1, 1) := by decide +kernel
theorem dX12_tell_60 : decode cX12_tell 60 = .ok (.iaload, 1) := by decide +kernel
theorem dX12_tell_61 : decode cX12_tell 61 = .ok (.istore_n 3, 1) := by decide +kernel
theorem dX12_tell_62 : decode cX12_tell 62 = .ok (.aload_n 0, 1) := by decide +kernel
theorem dX12_tell_63 : decode cX12_tell 63 = .ok (.getfield 90, 3) := by decide +kernel
theorem dX12_tell_66 : decode cX12_tell 66 = .ok (.iload_n 1, 1) := by decide +kernel
theorem dX12_tell_67 : decode cX12_tell 67 = .ok (.iload_n 2, 1) := by decide +kernel
theorem dX12_tell_68 : decode cX12_tell 68 = .ok (.iastore, 1) := by decide +kernel
theorem dX12_tell_69 : decode cX12_tell 69 = .ok (.iload_n 3, 1) := by decide +kernel
theorem dX12_tell_70 : decode cX12_tell 70 = .ok (.ireturn, 1) := by decide +kernel
theorem dX12_judge_0 : decode cX12_judge 0 = .ok (.aload_n 0, 1) := by decide +kernel
theorem dX12_judge_1 : decode cX12_judge 1 = .ok (.iconst 0, 1) := by decide +kernel
theorem dX12_judge_2 : decode cX12_judge 2 = .ok (.putfield 118, 3) := by decide +kernel
theorem dX12_judge_5 : decode cX12_judge 5 = .ok (.iload_n 1, 1) := by decide +kernel
theorem dX12_judge_6 : decode cX12_judge 6 = .ok (.invokestatic 213, 3) := by decide +kernel
theorem dX12_judge_9 : decode cX12_judge 9 = .ok (.ifCond .ne 11, 3) := by decide +kernel
theorem dX12_judge_12 : decode cX12_judge 12 = .ok (.aload_n 0, 1) := by decide +kernel
theorem dX12_judge_13 : decode cX12_judge 13 = .ok (.iload_n 2, 1) := by decide +kernel
theorem dX12_judge_14 : decode cX12_judge 14 = .ok (.invokevirtual 274, 3) := by decide +kernel
theorem dX12_judge_17 : decode cX12_judge 17 = .ok (.ifCond .eq 5, 3) := by decide +kernel
theorem dX12_judge_20 : decode cX12_judge 20 = .ok (.iconst (-1), 1) := by decide +kernel
theorem dX12_judge_21 : decode cX12_judge 21 = .ok (.ireturn, 1) := by decide +kernel
theorem dX12_judge_22 : decode cX12_judge 22 = .ok (.iconst 0, 1) := by decide +kernel
theorem dX12_judge_23 : decode cX12_judge 23 = .ok (.istore_n 3, 1) := by decide +kernel
theorem dX12_judge_24 : decode cX12_judge 24 = .ok (.iload_n 3, 1) := by decide +kernel
theorem dX12_judge_25 : decode cX12_judge 25 = .ok (.bipush 10, 2) := by decide +kernel
theorem dX12_judge_27 : decode cX12_judge 27 = .ok (.if_icmp .ge 42, 3) := by decide +kernel
theorem dX12_judge_30 : decode cX12_judge 30 = .ok (.aload_n 0, 1) := by decide +kernel
theorem dX12_judge_31 : decode cX12_judge 31 = .ok (.iload_n 1, 1) := by decide +kernel
theorem dX12_judge_32 : decode cX12_judge 32 = .ok (.iload_n 2, 1) := by decide +kernel
theorem dX12_judge_33 : decode cX12_judge 33 = .ok (.iload_n 3, 1) := by decide +kernel
theorem dX12_judge_34 : decode cX12_judge 34 = .ok (.invokevirtual 279, 3) := by decide +kernel
theorem dX12_judge_37 : decode cX12_judge 37 = .ok (.aload_n 0, 1) := by decide +kernel
theorem dX12_judge_38 : decode cX12_judge 38 = .ok (.getfield 90, 3) := by decide +kernel
theorem dX12_judge_41 : decode cX12_judge 41 = .ok (.iload_n 3, 1) := by decide +kernel
theorem dX12_judge_42 : decode cX12_judge 42 = .ok (.iaload, 1) := by decide +kernel
theorem dX12_judge_43 : decode cX12_judge 43 = .ok (.bipush 99, 2) := by decide +kernel
theorem dX12_judge_45 : decode cX12_judge 45 = .ok (.if_icmp .eq 18, 3) := by decide +kernel
theorem dX12_judge_48 : decode cX12_judge 48 = .ok (.aload_n 0, 1) := by decide +kernel
theorem dX12_judge_49 : decode cX12_judge 49 = .ok (.getfield 90, 3) := by decide +kernel
theorem dX12_judge_52 : decode cX12_judge 52 = .ok (.iload_n 3, 1) := by decide +kernel
theorem dX12_judge_53 : decode cX12_judge 53 = .ok (.iaload, 1) := by decide +kernel
theorem dX12_judge_54 : decode cX12_judge 54 = .ok (.aload_n 0, 1) := by decide +kernel
theorem dX12_judge_55 : decode cX12_judge 55 = .ok (.getfield 224, 3) := by decide +kernel
theorem dX12_judge_58 : decode cX12_judge 58 = .ok (.if_icmp .eq 5, 3) := by decide +kernel
theorem dX12_judge_61 : decode cX12_judge 61 = .ok (.iload_n 3, 1) := by decide +kernel
theorem dX12_judge_62 : decode cX12_judge 62 = .ok (.ireturn, 1) := by decide +kernel
theorem dX12_judge_63 : decode cX12_judge 63 = .ok (.iinc 3 1, 3) := by decide +kernel
theorem dX12_judge_66 : decode cX12_judge 66 = .ok (.goto (-42), 3) := by decide +kernel
theorem dX12_judge_69 : decode cX12_judge 69 = .ok (.bipush (-9), 2) := by decide +kernel
theorem dX12_judge_71 : decode cX12_judge 71 = .ok (.ireturn, 1) := by decide +kernel
theorem dX12_going_0 : decode cX12_going 0 = .ok (.iconst 0, 1) := by decide +kernel
theorem dX12_going_1 : decode cX12_going 1 = .ok (.istore_n 2, 1) := by decide +kernel
theorem dX12_going_2 : decode cX12_going 2 = .ok (.iconst 0, 1) := by decide +kernel
theorem dX12_going_3 : decode cX12_going 3 = .ok (.istore_n 3, 1) := by decide +kernel
theorem dX12_going_4 : decode cX12_going 4 = .ok (.iload_n 3, 1) := by decide +kernel
theorem dX12_going_5 : decode cX12_going 5 = .ok (.aload_n 0, 1) := by decide +kernel
theorem dX12_going_6 : decode cX12_going 6 = .ok (.getfield 136, 3) := by decide +kernel
theorem dX12_going_9 : decode cX12_going 9 = .ok (.if_icmp .ge 39, 3) := by decide +kernel
theorem dX12_going_12 : decode cX12_going 12 = .ok (.iload_n 2, 1) := by decide +kernel
theorem dX12_going_13 : decode cX12_going 13 = .ok (.aload_n 0, 1) := by decide +kernel
theorem dX12_going_14 : decode cX12_going 14 = .ok (.getfield 20, 3) := by decide +kernel
theorem dX12_going_17 : decode cX12_going 17 = .ok (.iload_n 3, 1) := by decide +kernel
theorem dX12_going_18 : decode cX12_going 18 = .ok (.iaload, 1) := by decide +kernel
theorem dX12_going_19 : decode cX12_going 19 = .ok (.iload_n 1, 1) := by decide +kernel
theorem dX12_going_20 : decode cX12_going 20 = .ok (.if_icmp .ge 19, 3) := by decide +kernel
theorem dX12_going_23 : decode cX12_going 23 = .ok (.aload_n 0, 1) := by decide +kernel
theorem dX12_going_24 : decode cX12_going 24 = .ok (.getfield 23, 3) := by decide +kernel
theorem dX12_going_27 : decode cX12_going 27 = .ok (.iload_n 3, 1) := by decide +kernel
theorem dX12_going_28 : decode cX12_going 28 = .ok (.iaload, 1) := by decide +kernel
theorem dX12_going_29 : decode cX12_going 29 = .ok (.iload_n 1, 1) := by decide +kernel
theorem dX12_going_30 : decode cX12_going 30 = .ok (.if_icmp .lt 9, 3) := by decide +kernel
theorem dX12_going_33 : decode cX12_going 33 = .ok (.iconst 1, 1) := by decide +kernel
theorem dX12_going_34 : decode cX12_going 34 = .ok (.iload_n 3, 1) := by decide +kernel
theorem dX12_going_35 : decode cX12_going 35 = .ok (.ishl, 1) := by decide +kernel
theorem dX12_going_36 : decode cX12_going 36 = .ok (.goto 4, 3) := by decide +kernel
theorem dX12_going_39 : decode cX12_going 39 = .ok (.iconst 0, 1) := by decide +kernel
theorem dX12_going_40 : decode cX12_going 40 = .ok (.ior, 1) := by decide +kernel
theorem dX12_going_41 : decode cX12_going 41 = .ok (.istore_n 2, 1) := by decide +kernel
theorem dX12_going_42 : decode cX12_going 42 = .ok (.iinc 3 1, 3) := by decide +kernel
theorem dX12_going_45 : decode cX12_going 45 = .ok (.goto (-41), 3) := by decide +kernel
theorem dX12_going_48 : decode cX12_going 48 = .ok (.iload_n 2, 1) := by decide +kernel
theorem dX12_going_49 : decode cX12_going 49 = .ok (.ireturn, 1) := by decide +kernel
theorem dX12_step_0 : decode cX12_step 0 = .ok (.aload_n 0, 1) := by decide +kernel
theorem dX12_step_1 : decode cX12_step 1 = .ok (.iload_n 2, 1) := by decide +kernel
theorem dX12_step_2 : decode cX12_step 2 = .ok (.invokevirtual 263, 3) := by decide +kernel
theorem dX12_step_5 : decode cX12_step 5 = .ok (.aload_n 0, 1) := by decide +kernel
theorem dX12_step_6 : decode cX12_step 6 = .ok (.aload_n 0, 1) := by decide +kernel
theorem dX12_step_7 : decode cX12_step 7 = .ok (.iload_n 1, 1) := by decide +kernel
theorem dX12_step_8 : decode cX12_step 8 = .ok (.invokevirtual 300, 3) := by decide +kernel
theorem dX12_step_11 : decode cX12_step 11 = .ok (.putfield 222, 3) := by decide +kernel
theorem dX12_step_14 : decode cX12_step 14 = .ok (.aload_n 0, 1) := by decide +kernel
theorem dX12_step_15 : decode cX12_step 15 = .ok (.iload_n 1, 1) := by decide +kernel
theorem dX12_step_16 : decode cX12_step 16 = .ok (.iload_n 3, 1) := by decide +kernel
theorem dX12_step_17 : decode cX12_step 17 = .ok (.iconst 0, 1) := by decide +kernel
theorem dX12_step_18 : decode cX12_step 18 = .ok (.invokevirtual 267, 3) := by decide +kernel
theorem dX12_step_21 : decode cX12_step 21 = .ok (.istore 6, 2) := by decide +kernel
theorem dX12_step_23 : decode cX12_step 23 = .ok (.iload 6, 2) := by decide +kernel
theorem dX12_step_25 : decode cX12_step 25 = .ok (.ifCond .le 9, 3) := by decide +kernel
theorem dX12_step_28 : decode cX12_step 28 = .ok (.ldc_w 303, 3) := by decide +kernel
theorem dX12_step_31 : decode cX12_step 31 = .ok (.goto 18, 3) := by decide +kernel
theorem dX12_step_34 : decode cX12_step 34 = .ok (.iload 4, 2) := by decide +kernel
theorem dX12_step_36 : decode cX12_step 36 = .ok (.aload_n 0, 1) := by decide +kernel
theorem dX12_step_37 : decode cX12_step 37 = .ok (.getfield 231, 3) := by decide +kernel
theorem dX12_step_40 : decode cX12_step 40 = .ok (.imul, 1) := by decide +kernel
theorem dX12_step_41 : decode cX12_step 41 = .ok (.iload 5, 2) := by decide +kernel
theorem dX12_step_43 : decode cX12_step 43 = .ok (.aload_n 0, 1) := by decide +kernel
theorem dX12_step_44 : decode cX12_step 44 = .ok (.getfield 256, 3) := by decide +kernel
theorem dX12_step_47 : decode cX12_step 47 = .ok (.imul, 1) := by decide +kernel
theorem dX12_step_48 : decode cX12_step 48 = .ok (.iadd, 1) := by decide +kernel
theorem dX12_step_49 : decode cX12_step 49 = .ok (.ireturn, 1) := by decide +kernel
theorem dX12_layLeft_0 : decode cX12_layLeft 0 = .ok (.iconst 0, 1) := by decide +kernel
theorem dX12_layLeft_1 : decode cX12_layLeft 1 = .ok (.istore 4, 2) := by decide +kernel
theorem dX12_layLeft_3 : decode cX12_layLeft 3 = .ok (.iload 4, 2) := by decide +kernel
theorem dX12_layLeft_5 : decode cX12_layLeft 5 = .ok (.bipush 32, 2) := by decide +kernel
theorem dX12_layLeft_7 : decode cX12_layLeft 7 = .ok (.if_icmp .ge 33, 3) := by decide +kernel
theorem dX12_layLeft_10 : decode cX12_layLeft 10 = .ok (.aload_n 0, 1) := by decide +kernel
theorem dX12_layLeft_11 : decode cX12_layLeft 11 = .ok (.getfield 105, 3) := by decide +kernel
theorem dX12_layLeft_14 : decode cX12_layLeft 14 = .ok (.sipush 320, 3) := by decide +kernel
theorem dX12_layLeft_17 : decode cX12_layLeft 17 = .ok (.iload 4, 2) := by decide +kernel
theorem dX12_layLeft_19 : decode cX12_layLeft 19 = .ok (.iadd, 1) := by decide +kernel
theorem dX12_layLeft_20 : decode cX12_layLeft 20 = .ok (.iload 4, 2) := by decide +kernel
theorem dX12_layLeft_22 : decode cX12_layLeft 22 = .ok (.iload_n 1, 1) := by decide +kernel
theorem dX12_layLeft_23 : decode cX12_layLeft 23 = .ok (.if_icmp .ne 7, 3) := by decide +kernel
theorem dX12_layLeft_26 : decode cX12_layLeft 26 = .ok (.iconst 0, 1) := by decide +kernel
theorem dX12_layLeft_27 : decode cX12_layLeft 27 = .ok (.goto 6, 3) := by decide +kernel
theorem dX12_layLeft_30 : decode cX12_layLeft 30 = .ok (.ldc_w 303, 3) := by decide +kernel
theorem dX12_layLeft_33 : decode cX12_layLeft 33 = .ok (.iastore, 1) := by decide +kernel
theorem dX12_layLeft_34 : decode cX12_layLeft 34 = .ok (.iinc 4 1, 3) := by decide +kernel
theorem dX12_layLeft_37 : decode cX12_layLeft 37 = .ok (.goto (-34), 3) := by decide +kernel
theorem dX12_layLeft_40 : decode cX12_layLeft 40 = .ok (.bipush 9, 2) := by decide +kernel
theorem dX12_layLeft_42 : decode cX12_layLeft 42 = .ok (.istore 4, 2) := by decide +kernel
theorem dX12_layLeft_44 : decode cX12_layLeft 44 = .ok (.iload 4, 2) := by decide +kernel
theorem dX12_layLeft_46 : decode cX12_layLeft 46 = .ok (.ifCond .lt 167, 3) := by decide +kernel
theorem dX12_layLeft_49 : decode cX12_layLeft 49 = .ok (.iconst 0, 1) := by decide +kernel
theorem dX12_layLeft_50 : decode cX12_layLeft 50 = .ok (.istore 5, 2) := by decide +kernel
theorem dX12_layLeft_52 : decode cX12_layLeft 52 = .ok (.iload 5, 2) := by decide +kernel
theorem dX12_layLeft_54 : decode cX12_layLeft 54 = .ok (.bipush 32, 2) := by decide +kernel
theorem dX12_layLeft_56 : decode cX12_layLeft 56 = .ok (.if_icmp .ge 151, 3) := by decide +kernel
theorem dX12_layLeft_59 : decode cX12_layLeft 59 = .ok (.aload_n 0, 1) := by decide +kernel
theorem dX12_layLeft_60 : decode cX12_layLeft 60 = .ok (.getfield 105, 3) := by decide +kernel
theorem dX12_layLeft_63 : decode cX12_layLeft 63 = .ok (.bipush 32, 2) := by decide +kernel
theorem dX12_layLeft_65 : decode cX12_layLeft 65 = .ok (.iload 4, 2) := by decide +kernel
theorem dX12_layLeft_67 : decode cX12_layLeft 67 = .ok (.imul, 1) := by decide +kernel
theorem dX12_layLeft_68 : decode cX12_layLeft 68 = .ok (.iload 5, 2) := by decide +kernel
theorem dX12_layLeft_70 : decode cX12_layLeft 70 = .ok (.iadd, 1) := by decide +kernel
theorem dX12_layLeft_71 : decode cX12_layLeft 71 = .ok (.ldc_w 303, 3) := by decide +kernel
theorem dX12_layLeft_74 : decode cX12_layLeft 74 = .ok (.iastore, 1) := by decide +kernel
theorem dX12_layLeft_75 : decode cX12_layLeft 75 = .ok (.iconst 0, 1) := by decide +kernel
theorem dX12_layLeft_76 : decode cX12_layLeft 76 = .ok (.istore 6, 2) := by decide +kernel
theorem dX12_layLeft_78 : decode cX12_layLeft 78 = .ok (.iload 6, 2) := by decide +kernel
theorem dX12_layLeft_80 : decode cX12_layLeft 80 = .ok (.bipush 6, 2) := by decide +kernel
theorem dX12_layLeft_82 : decode cX12_layLeft 82 = .ok (.if_icmp .ge 119, 3) := by decide +kernel
theorem dX12_layLeft_85 : decode cX12_layLeft 85 = .ok (.aload_n 0, 1) := by decide +kernel
theorem dX12_layLeft_86 : decode cX12_layLeft 86 = .ok (.iload 5, 2) := by decide +kernel
theorem dX12_layLeft_88 : decode cX12_layLeft 88 = .ok (.iload 4, 2) := by decide +kernel
theorem dX12_layLeft_90 : decode cX12_layLeft 90 = .ok (.invokevirtual 304, 3) := by decide +kernel
theorem dX12_layLeft_93 : decode cX12_layLeft 93 = .ok (.ifCond .eq 108, 3) := by decide +kernel
theorem dX12_layLeft_96 : decode cX12_layLeft 96 = .ok (.aload_n 0, 1) := by decide +kernel
theorem dX12_layLeft_97 : decode cX12_layLeft 97 = .ok (.iload 4, 2) := by decide +kernel
theorem dX12_layLeft_99 : decode cX12_layLeft 99 = .ok (.iload 5, 2) := by decide +kernel
theorem dX12_layLeft_101 : decode cX12_layLeft 101 = .ok (.iload 6, 2) := by decide +kernel
theorem dX12_layLeft_103 : decode cX12_layLeft 103 = .ok (.iload_n 2, 1) := by decide +kernel
theorem dX12_layLeft_104 : decode cX12_layLeft 104 = .ok (.iload_n 3, 1) := by decide +kernel
theorem dX12_layLeft_105 : decode cX12_layLeft 105 = .ok (.invokevirtual 307, 3) := by decide +kernel
theorem dX12_layLeft_108 : decode cX12_layLeft 108 = .ok (.istore 7, 2) := by decide +kernel
theorem dX12_layLeft_110 : decode cX12_layLeft 110 = .ok (.iload 7, 2) := by decide +kernel
theorem dX12_layLeft_112 : decode cX12_layLeft 112 = .ok (.ldc_w 303, 3) := by decide +kernel
theorem dX12_layLeft_115 : decode cX12_layLeft 115 = .ok (.if_icmp .ne 9, 3) := by decide +kernel
theorem dX12_layLeft_118 : decode cX12_layLeft 118 = .ok (.ldc_w 303, 3) := by decide +kernel
theorem dX12_layLeft_121 : decode cX12_layLeft 121 = .ok (.goto 23, 3) := by decide +kernel
theorem dX12_layLeft_124 : decode cX12_layLeft 124 = .ok (.iload 7, 2) := by decide +kernel
theorem dX12_layLeft_126 : decode cX12_layLeft 126 = .ok (.aload_n 0, 1) := by decide +kernel
theorem dX12_layLeft_127 : decode cX12_layLeft 127 = .ok (.getfield 105, 3) := by decide +kernel
theorem dX12_layLeft_130 : decode cX12_layLeft 130 = .ok (.bipush 32, 2) := by decide +kernel
theorem dX12_layLeft_132 : decode cX12_layLeft 132 = .ok (.iload 4, 2) := by decide +kernel
theorem dX12_layLeft_134 : decode cX12_layLeft 134 = .ok (.iconst 1, 1) := by decide +kernel
theorem dX12_layLeft_135 : decode cX12_layLeft 135 = .ok (.iadd, 1) := by decide +kernel
theorem dX12_layLeft_136 : decode cX12_layLeft 136 = .ok (.imul, 1) := by decide +kernel
theorem dX12_layLeft_137 : decode cX12_layLeft 137 = .ok (.aload_n 0, 1) := by decide +kernel
theorem dX12_layLeft_138 : decode cX12_layLeft 138 = .ok (.getfield 224, 3) := by decide +kernel
theorem dX12_layLeft_141 : decode cX12_layLeft 141 = .ok (.iadd, 1) := by decide +kernel
theorem dX12_layLeft_142 : decode cX12_layLeft 142 = .ok (.iaload, 1) := by decide +kernel
theorem dX12_layLeft_143 : decode cX12_layLeft 143 = .ok (.iadd, 1) := by decide +kernel
theorem dX12_layLeft_144 : decode cX12_layLeft 144 = .ok (.istore 8, 2) := by decide +kernel
theorem dX12_layLeft_146 : decode cX12_layLeft 146 = .ok (.aload_n 0, 1) := by decide +kernel
theorem dX12_layLeft_147 : decode cX12_layLeft 147 = .ok (.getfield 105, 3) := by decide +kernel
theorem dX12_layLeft_150 : decode cX12_layLeft 150 = .ok (.bipush 32, 2) := by decide +kernel
theorem dX12_layLeft_152 : decode cX12_layLeft 152 = .ok (.iload 4, 2) := by decide +kernel
theorem dX12_layLeft_154 : decode cX12_layLeft 154 = .ok (.imul, 1) := by decide +kernel
theorem dX12_layLeft_155 : decode cX12_layLeft 155 = .ok (.iload 5, 2) := by decide +kernel
theorem dX12_layLeft_157 : decode cX12_layLeft 157 = .ok (.iadd, 1) := by decide +kernel
theorem dX12_layLeft_158 : decode cX12_layLeft 158 = .ok (.iload 8, 2) := by decide +kernel
theorem dX12_layLeft_160 : decode cX12_layLeft 160 = .ok (.aload_n 0, 1) := by decide +kernel
theorem dX12_layLeft_161 : decode cX12_layLeft 161 = .ok (.getfield 105, 3) := by decide +kernel
theorem dX12_layLeft_164 : decode cX12_layLeft 164 = .ok (.bipush 32, 2) := by decide +kernel
theorem dX12_layLeft_166 : decode cX12_layLeft 166 = .ok (.iload 4, 2) := by decide +kernel
theorem dX12_layLeft_168 : decode cX12_layLeft 168 = .ok (.imul, 1) := by decide +kernel
theorem dX12_layLeft_169 : decode cX12_layLeft 169 = .ok (.iload 5, 2) := by decide +kernel
theorem dX12_layLeft_171 : decode cX12_layLeft 171 = .ok (.iadd, 1) := by decide +kernel
theorem dX12_layLeft_172 : decode cX12_layLeft 172 = .ok (.iaload, 1) := by decide +kernel
theorem dX12_layLeft_173 : decode cX12_layLeft 173 = .ok (.if_icmp .ge 8, 3) := by decide +kernel
theorem dX12_layLeft_176 : decode cX12_layLeft 176 = .ok (.iload 8, 2) := by decide +kernel
theorem dX12_layLeft_178 : decode cX12_layLeft 178 = .ok (.goto 16, 3) := by decide +kernel
theorem dX12_layLeft_181 : decode cX12_layLeft 181 = .ok (.aload_n 0, 1) := by decide +kernel
theorem dX12_layLeft_182 : decode cX12_layLeft 182 = .ok (.getfield 105, 3) := by decide +kernel
theorem dX12_layLeft_185 : decode cX12_layLeft 185 = .ok (.bipush 32, 2) := by decide +kernel
theorem dX12_layLeft_187 : decode cX12_layLeft 187 = .ok (.iload 4, 2) := by decide +kernel
theorem dX12_layLeft_189 : decode cX12_layLeft 189 = .ok (.imul, 1) := by decide +kernel
theorem dX12_layLeft_190 : decode cX12_layLeft 190 = .ok (.iload 5, 2) := by decide +kernel
theorem dX12_layLeft_192 : decode cX12_layLeft 192 = .ok (.iadd, 1) := by decide +kernel
theorem dX12_layLeft_193 : decode cX12_layLeft 193 = .ok (.iaload, 1) := by decide +kernel
theorem dX12_layLeft_194 : decode cX12_layLeft 194 = .ok (.iastore, 1) := by decide +kernel
theorem dX12_layLeft_195 : decode cX12_layLeft 195 = .ok (.iinc 6 1, 3) := by decide +kernel
theorem dX12_layLeft_198 : decode cX12_layLeft 198 = .ok (.goto (-120), 3) := by decide +kernel
theorem dX12_layLeft_201 : decode cX12_layLeft 201 = .ok (.iinc 5 1, 3) := by decide +kernel
theorem dX12_layLeft_204 : decode cX12_layLeft 204 = .ok (.goto (-152), 3) := by decide +kernel
theorem dX12_layLeft_207 : decode cX12_layLeft 207 = .ok (.iinc 4 (-1), 3) := by decide +kernel
theorem dX12_layLeft_210 : decode cX12_layLeft 210 = .ok (.goto (-166), 3) := by decide +kernel
theorem dX12_layLeft_213 : decode cX12_layLeft 213 = .ok (.return_, 1) := by decide +kernel
theorem dX12_isPlaceOfKey_0 : decode cX12_isPlaceOfKey 0 = .ok (.iload_n 1, 1) := by decide +kernel
theorem dX12_isPlaceOfKey_1 : decode cX12_isPlaceOfKey 1 = .ok (.iconst 4, 1) := by decide +kernel
theorem dX12_isPlaceOfKey_2 : decode cX12_isPlaceOfKey 2 = .ok (.if_icmp .ge 12, 3) := by decide +kernel
theorem dX12_isPlaceOfKey_5 : decode cX12_isPlaceOfKey 5 = .ok (.aload_n 0, 1) := by decide +kernel
theorem dX12_isPlaceOfKey_6 : decode cX12_isPlaceOfKey 6 = .ok (.getfield 26, 3) := by decide +kernel
theorem dX12_isPlaceOfKey_9 : decode cX12_isPlaceOfKey 9 = .ok (.iload_n 1, 1) := by decide +kernel
theorem dX12_isPlaceOfKey_10 : decode cX12_isPlaceOfKey 10 = .ok (.baload, 1) := by decide +kernel
theorem dX12_isPlaceOfKey_11 : decode cX12_isPlaceOfKey 11 = .ok (.goto 41, 3) := by decide +kernel
theorem dX12_isPlaceOfKey_14 : decode cX12_isPlaceOfKey 14 = .ok (.iload_n 1, 1) := by decide +kernel
theorem dX12_isPlaceOfKey_15 : decode cX12_isPlaceOfKey 15 = .ok (.i2l, 1) := by decide +kernel
theorem dX12_isPlaceOfKey_16 : decode cX12_isPlaceOfKey 16 = .ok (.ldc2_w 134, 3) := by decide +kernel
theorem dX12_isPlaceOfKey_19 : decode cX12_isPlaceOfKey 19 = .ok (.bipush 9, 2) := by decide +kernel
theorem dX12_isPlaceOfKey_21 : decode cX12_isPlaceOfKey 21 = .ok (.aload_n 0, 1) := by decide +kernel
theorem dX12_isPlaceOfKey_22 : decode cX12_isPlaceOfKey 22 = .ok (.getfield 13, 3) := by decide +kernel
theorem dX12_isPlaceOfKey_25 : decode cX12_isPlaceOfKey 25 = .ok (.iadd, 1) := by decide +kernel
theorem dX12_isPlaceOfKey_26 : decode cX12_isPlaceOfKey 26 = .ok (.i2l, 1) := by decide +kernel
theorem dX12_isPlaceOfKey_27 : decode cX12_isPlaceOfKey 27 = .ok (.invokestatic 126, 3) := by decide +kernel
theorem dX12_isPlaceOfKey_30 : decode cX12_isPlaceOfKey 30 = .ok (.ifCond .ne 17, 3) := by decide +kernel
theorem dX12_isPlaceOfKey_33 : decode cX12_isPlaceOfKey 33 = .ok (.iload_n 1, 1) := by decide +kernel
theorem dX12_isPlaceOfKey_34 : decode cX12_isPlaceOfKey 34 = .ok (.bipush 20, 2) := by decide +kernel
theorem dX12_isPlaceOfKey_36 : decode cX12_isPlaceOfKey 36 = .ok (.if_icmp .ne 15, 3) := by decide +kernel
theorem dX12_isPlaceOfKey_39 : decode cX12_isPlaceOfKey 39 = .ok (.aload_n 0, 1) := by decide +kernel
theorem dX12_isPlaceOfKey_40 : decode cX12_isPlaceOfKey 40 = .ok (.iload_n 2, 1) := by decide +kernel
theorem dX12_isPlaceOfKey_41 : decode cX12_isPlaceOfKey 41 = .ok (.invokevirtual 300, 3) := by decide +kernel
theorem dX12_isPlaceOfKey_44 : decode cX12_isPlaceOfKey 44 = .ok (.ifCond .eq 7, 3) := by decide +kernel
theorem dX12_isPlaceOfKey_47 : decode cX12_isPlaceOfKey 47 = .ok (.iconst 1, 1) := by decide +kernel
theorem dX12_isPlaceOfKey_48 : decode cX12_isPlaceOfKey 48 = .ok (.goto 4, 3) := by decide +kernel
theorem dX12_isPlaceOfKey_51 : decode cX12_isPlaceOfKey 51 = .ok (.iconst 0, 1) := by decide +kernel
theorem dX12_isPlaceOfKey_52 : decode cX12_isPlaceOfKey 52 = .ok (.ireturn, 1) := by decide +kernel
theorem dX12_layWay_0 : decode cX12_layWay 0 = .ok (.aload_n 0, 1) := by decide +kernel
theorem dX12_layWay_1 : decode cX12_layWay 1 = .ok (.bipush (-9), 2) := by decide +kernel
theorem dX12_layWay_3 : decode cX12_layWay 3 = .ok (.putfield 311, 3) := by decide +kernel
theorem dX12_layWay_6 : decode cX12_layWay 6 = .ok (.aload_n 0, 1) := by decide +kernel
theorem dX12_layWay_7 : decode cX12_layWay 7 = .ok (.bipush (-9), 2) := by decide +kernel
theorem dX12_layWay_9 : decode cX12_layWay 9 = .ok (.putfield 314, 3) := by decide +kernel
theorem dX12_layWay_12 : decode cX12_layWay 12 = .ok (.iconst 0, 1) := by decide +kernel
theorem dX12_layWay_13 : decode cX12_layWay 13 = .ok (.istore_n 3, 1) := by decide +kernel
theorem dX12_layWay_14 : decode cX12_layWay 14 = .ok (.iload_n 3, 1) := by decide +kernel
theorem dX12_layWay_15 : decode cX12_layWay 15 = .ok (.bipush 16, 2) := by decide +kernel
theorem dX12_layWay_17 : decode cX12_layWay 17 = .ok (.if_icmp .ge 80, 3) := by decide +kernel
theorem dX12_layWay_20 : decode cX12_layWay 20 = .ok (.aload_n 0, 1) := by decide +kernel
theorem dX12_layWay_21 : decode cX12_layWay 21 = .ok (.iload_n 3, 1) := by decide +kernel
theorem dX12_layWay_22 : decode cX12_layWay 22 = .ok (.invokevirtual 274, 3) := by decide +kernel
theorem dX12_layWay_25 : decode cX12_layWay 25 = .ok (.ifCond .ne 66, 3) := by decide +kernel
theorem dX12_layWay_28 : decode cX12_layWay 28 = .ok (.aload_n 0, 1) := by decide +kernel
theorem dX12_layWay_29 : decode cX12_layWay 29 = .ok (.iload_n 3, 1) := by decide +kernel
theorem dX12_layWay_30 : decode cX12_layWay 30 = .ok (.iload_n 1, 1) := by decide +kernel
theorem dX12_layWay_31 : decode cX12_layWay 31 = .ok (.iload_n 2, 1) := by decide +kernel
theorem dX12_layWay_32 : decode cX12_layWay 32 = .ok (.invokevirtual 317, 3) := by decide +kernel
theorem dX12_layWay_35 : decode cX12_layWay 35 = .ok (.aload_n 0, 1) := by decide +kernel
theorem dX12_layWay_36 : decode cX12_layWay 36 = .ok (.getfield 105, 3) := by decide +kernel
theorem dX12_layWay_39 : decode cX12_layWay 39 = .ok (.iload_n 3, 1) := by decide +kernel
theorem dX12_layWay_40 : decode cX12_layWay 40 = .ok (.iaload, 1) := by decide +kernel
theorem dX12_layWay_41 : decode cX12_layWay 41 = .ok (.ldc_w 303, 3) := by decide +kernel
theorem dX12_layWay_44 : decode cX12_layWay 44 = .ok (.if_icmp .ge 47, 3) := by decide +kernel
theorem dX12_layWay_47 : decode cX12_layWay 47 = .ok (.aload_n 0, 1) := by decide +kernel
theorem dX12_layWay_48 : decode cX12_layWay 48 = .ok (.getfield 311, 3) := by decide +kernel
theorem dX12_layWay_51 : decode cX12_layWay 51 = .ok (.bipush (-9), 2) := by decide +kernel
theorem dX12_layWay_53 : decode cX12_layWay 53 = .ok (.if_icmp .eq 16, 3) := by decide +kernel
theorem dX12_layWay_56 : decode cX12_layWay 56 = .ok (.aload_n 0, 1) := by decide +kernel
theorem dX12_layWay_57 : decode cX12_layWay 57 = .ok (.getfield 105, 3) := by decide +kernel
theorem dX12_layWay_60 : decode cX12_layWay 60 = .ok (.iload_n 3, 1) := by decide +kernel
theorem dX12_layWay_61 : decode cX12_layWay 61 = .ok (.iaload, 1) := by decide +kernel
theorem dX12_layWay_62 : decode cX12_layWay 62 = .ok (.aload_n 0, 1) := by decide +kernel
theorem dX12_layWay_63 : decode cX12_layWay 63 = .ok (.getfield 311, 3) := by decide +kernel
theorem dX12_layWay_66 : decode cX12_layWay 66 = .ok (.if_icmp .ge 25, 3) := by decide +kernel
theorem dX12_layWay_69 : decode cX12_layWay 69 = .ok (.aload_n 0, 1) := by decide +kernel
theorem dX12_layWay_70 : decode cX12_layWay 70 = .ok (.aload_n 0, 1) := by decide +kernel
theorem dX12_layWay_71 : decode cX12_layWay 71 = .ok (.getfield 105, 3) := by decide +kernel
theorem dX12_layWay_74 : decode cX12_layWay 74 = .ok (.iload_n 3, 1) := by decide +kernel
theorem dX12_layWay_75 : decode cX12_layWay 75 = .ok (.iaload, 1) := by decide +kernel
theorem dX12_layWay_76 : decode cX12_layWay 76 = .ok (.putfield 311, 3) := by decide +kernel
theorem dX12_layWay_79 : decode cX12_layWay 79 = .ok (.aload_n 0, 1) := by decide +kernel
theorem dX12_layWay_80 : decode cX12_layWay 80 = .ok (.iload_n 3, 1) := by decide +kernel
theorem dX12_layWay_81 : decode cX12_layWay 81 = .ok (.putfield 314, 3) := by decide +kernel
theorem dX12_layWay_84 : decode cX12_layWay 84 = .ok (.aload_n 0, 1) := by decide +kernel
theorem dX12_layWay_85 : decode cX12_layWay 85 = .ok (.iload_n 3, 1) := by decide +kernel
theorem dX12_layWay_86 : decode cX12_layWay 86 = .ok (.iload_n 1, 1) := by decide +kernel
theorem dX12_layWay_87 : decode cX12_layWay 87 = .ok (.iload_n 2, 1) := by decide +kernel
theorem dX12_layWay_88 : decode cX12_layWay 88 = .ok (.invokevirtual 320, 3) := by decide +kernel
theorem dX12_layWay_91 : decode cX12_layWay 91 = .ok (.iinc 3 1, 3) := by decide +kernel
theorem dX12_layWay_94 : decode cX12_layWay 94 = .ok (.goto (-80), 3) := by decide +kernel
theorem dX12_layWay_97 : decode cX12_layWay 97 = .ok (.return_, 1) := by decide +kernel
theorem dX12_layActs_0 : decode cX12_layActs 0 = .ok (.iload_n 1, 1) := by decide +kernel
theorem dX12_layActs_1 : decode cX12_layActs 1 = .ok (.istore 4, 2) := by decide +kernel
theorem dX12_layActs_3 : decode cX12_layActs 3 = .ok (.iconst 0, 1) := by decide +kernel
theorem dX12_layActs_4 : decode cX12_layActs 4 = .ok (.istore 5, 2) := by decide +kernel
theorem dX12_layActs_6 : decode cX12_layActs 6 = .ok (.iload 5, 2) := by decide +kernel
theorem dX12_layActs_8 : decode cX12_layActs 8 = .ok (.bipush 10, 2) := by decide +kernel
theorem dX12_layActs_10 : decode cX12_layActs 10 = .ok (.if_icmp .ge 123, 3) := by decide +kernel
theorem dX12_layActs_13 : decode cX12_layActs 13 = .ok (.bipush (-9), 2) := by decide +kernel
theorem dX12_layActs_15 : decode cX12_layActs 15 = .ok (.istore 6, 2) := by decide +kernel
theorem dX12_layActs_17 : decode cX12_layActs 17 = .ok (.iload 4, 2) := by decide +kernel
theorem dX12_layActs_19 : decode cX12_layActs 19 = .ok (.istore 7, 2) := by decide +kernel
theorem dX12_layActs_21 : decode cX12_layActs 21 = .ok (.iconst 5, 1) := by decide +kernel
theorem dX12_layActs_22 : decode cX12_layActs 22 = .ok (.istore 8, 2) := by decide +kernel
theorem dX12_layActs_24 : decode cX12_layActs 24 = .ok (.iload 8, 2) := by decide +kernel
theorem dX12_layActs_26 : decode cX12_layActs 26 = .ok (.ifCond .lt 88, 3) := by decide +kernel
theorem dX12_layActs_29 : decode cX12_layActs 29 = .ok (.aload_n 0, 1) := by decide +kernel
theorem dX12_layActs_30 : decode cX12_layActs 30 = .ok (.iload 5, 2) := by decide +kernel
theorem dX12_layActs_32 : decode cX12_layActs 32 = .ok (.iload 4, 2) := by decide +kernel
theorem dX12_layActs_34 : decode cX12_layActs 34 = .ok (.iload 8, 2) := by decide +kernel
theorem dX12_layActs_36 : decode cX12_layActs 36 = .ok (.iload_n 2, 1) := by decide +kernel
theorem dX12_layActs_37 : decode cX12_layActs 37 = .ok (.iload_n 3, 1) := by decide +kernel
theorem dX12_layActs_38 : decode cX12_layActs 38 = .ok (.invokevirtual 307, 3) := by decide +kernel
theorem dX12_layActs_41 : decode cX12_layActs 41 = .ok (.istore 9, 2) := by decide +kernel
theorem dX12_layActs_43 : decode cX12_layActs 43 = .ok (.iload 9, 2) := by decide +kernel
theorem dX12_layActs_45 : decode cX12_layActs 45 = .ok (.ldc_w 303, 3) := by decide +kernel
theorem dX12_layActs_48 : decode cX12_layActs 48 = .ok (.if_icmp .ge 60, 3) := by decide +kernel
theorem dX12_layActs_51 : decode cX12_layActs 51 = .ok (.iload 9, 2) := by decide +kernel
theorem dX12_layActs_53 : decode cX12_layActs 53 = .ok (.aload_n 0, 1) := by decide +kernel
theorem dX12_layActs_54 : decode cX12_layActs 54 = .ok (.getfield 105, 3) := by decide +kernel
theorem dX12_layActs_57 : decode cX12_layActs 57 = .ok (.bipush 32, 2) := by decide +kernel
theorem dX12_layActs_59 : decode cX12_layActs 59 = .ok (.iload 5, 2) := by decide +kernel
theorem dX12_layActs_61 : decode cX12_layActs 61 = .ok (.iconst 1, 1) := by decide +kernel
theorem dX12_layActs_62 : decode cX12_layActs 62 = .ok (.iadd, 1) := by decide +kernel
theorem dX12_layActs_63 : decode cX12_layActs 63 = .ok (.imul, 1) := by decide +kernel
theorem dX12_layActs_64 : decode cX12_layActs 64 = .ok (.aload_n 0, 1) := by decide +kernel
theorem dX12_layActs_65 : decode cX12_layActs 65 = .ok (.getfield 224, 3) := by decide +kernel
theorem dX12_layActs_68 : decode cX12_layActs 68 = .ok (.iadd, 1) := by decide +kernel
theorem dX12_layActs_69 : decode cX12_layActs 69 = .ok (.iaload, 1) := by decide +kernel
theorem dX12_layActs_70 : decode cX12_layActs 70 = .ok (.iadd, 1) := by decide +kernel
theorem dX12_layActs_71 : decode cX12_layActs 71 = .ok (.aload_n 0, 1) := by decide +kernel
theorem dX12_layActs_72 : decode cX12_layActs 72 = .ok (.getfield 105, 3) := by decide +kernel
theorem dX12_layActs_75 : decode cX12_layActs 75 = .ok (.bipush 32, 2) := by decide +kernel
theorem dX12_layActs_77 : decode cX12_layActs 77 = .ok (.iload 5, 2) := by decide +kernel
theorem dX12_layActs_79 : decode cX12_layActs 79 = .ok (.imul, 1) := by decide +kernel
theorem dX12_layActs_80 : decode cX12_layActs 80 = .ok (.iload 4, 2) := by decide +kernel
theorem dX12_layActs_82 : decode cX12_layActs 82 = .ok (.iadd, 1) := by decide +kernel
theorem dX12_layActs_83 : decode cX12_layActs 83 = .ok (.iaload, 1) := by decide +kernel
theorem dX12_layActs_84 : decode cX12_layActs 84 = .ok (.if_icmp .ne 24, 3) := by decide +kernel
theorem dX12_layActs_87 : decode cX12_layActs 87 = .ok (.aload_n 0, 1) := by decide +kernel
theorem dX12_layActs_88 : decode cX12_layActs 88 = .ok (.getfield 234, 3) := by decide +kernel
theorem dX12_layActs_91 : decode cX12_layActs 91 = .ok (.ifCond .eq 8, 3) := by decide +kernel
theorem dX12_layActs_94 : decode cX12_layActs 94 = .ok (.iload 8, 2) := by decide +kernel
theorem dX12_layActs_96 : decode cX12_layActs 96 = .ok (.goto 4, 3) := by decide +kernel
theorem dX12_layActs_99 : decode cX12_layActs 99 = .ok (.iconst 0, 1) := by decide +kernel
theorem dX12_layActs_100 : decode cX12_layActs 100 = .ok (.istore 6, 2) := by decide +kernel
theorem dX12_layActs_102 : decode cX12_layActs 102 = .ok (.aload_n 0, 1) := by decide +kernel
theorem dX12_layActs_103 : decode cX12_layActs 103 = .ok (.getfield 224, 3) := by decide +kernel
theorem dX12_layActs_106 : decode cX12_layActs 106 = .ok (.istore 7, 2) := by decide +kernel
theorem dX12_layActs_108 : decode cX12_layActs 108 = .ok (.iinc 8 (-1), 3) := by decide +kernel
theorem dX12_layActs_111 : decode cX12_layActs 111 = .ok (.goto (-87), 3) := by decide +kernel
theorem dX12_layActs_114 : decode cX12_layActs 114 = .ok (.aload_n 0, 1) := by decide +kernel
theorem dX12_layActs_115 : decode cX12_layActs 115 = .ok (.getfield 108, 3) := by decide +kernel
theorem dX12_layActs_118 : decode cX12_layActs 118 = .ok (.iload 5, 2) := by decide +kernel
theorem dX12_layActs_120 : decode cX12_layActs 120 = .ok (.iload 6, 2) := by decide +kernel
theorem dX12_layActs_122 : decode cX12_layActs 122 = .ok (.iastore, 1) := by decide +kernel
theorem dX12_layActs_123 : decode cX12_layActs 123 = .ok (.iload 7, 2) := by decide +kernel
theorem dX12_layActs_125 : decode cX12_layActs 125 = .ok (.istore 4, 2) := by decide +kernel
theorem dX12_layActs_127 : decode cX12_layActs 127 = .ok (.iinc 5 1, 3) := by decide +kernel
theorem dX12_layActs_130 : decode cX12_layActs 130 = .ok (.goto (-124), 3) := by decide +kernel
theorem dX12_layActs_133 : decode cX12_layActs 133 = .ok (.return_, 1) := by decide +kernel
theorem dX12_noPrice_0 : decode cX12_noPrice 0 = .ok (.iload_n 0, 1) := by decide +kernel
theorem dX12_noPrice_1 : decode cX12_noPrice 1 = .ok (.i2l, 1) := by decide +kernel
theorem dX12_noPrice_2 : decode cX12_noPrice 2 = .ok (.lconst 0, 1) := by decide +kernel
theorem dX12_noPrice_3 : decode cX12_noPrice 3 = .ok (.ldc2_w 130, 3) := by decide +kernel
theorem dX12_noPrice_6 : decode cX12_noPrice 6 = .ok (.invokestatic 126, 3) := by decide +kernel
theorem dX12_noPrice_9 : decode cX12_noPrice 9 = .ok (.ifCond .eq 15, 3) := by decide +kernel
theorem dX12_noPrice_12 : decode cX12_noPrice 12 = .ok (.iload_n 1, 1) := by decide +kernel
theorem dX12_noPrice_13 : decode cX12_noPrice 13 = .ok (.i2l, 1) := by decide +kernel
theorem dX12_noPrice_14 : decode cX12_noPrice 14 = .ok (.lconst 0, 1) := by decide +kernel
theorem dX12_noPrice_15 : decode cX12_noPrice 15 = .ok (.ldc2_w 130, 3) := by decide +kernel
theorem dX12_noPrice_18 : decode cX12_noPrice 18 = .ok (.invokestatic 126, 3) := by decide +kernel
theorem dX12_noPrice_21 : decode cX12_noPrice 21 = .ok (.ifCond .ne 7, 3) := by decide +kernel
theorem dX12_noPrice_24 : decode cX12_noPrice 24 = .ok (.iconst 1, 1) := by decide +kernel
theorem dX12_noPrice_25 : decode cX12_noPrice 25 = .ok (.goto 4, 3) := by decide +kernel
theorem dX12_noPrice_28 : decode cX12_noPrice 28 = .ok (.iconst 0, 1) := by decide +kernel
theorem dX12_noPrice_29 : decode cX12_noPrice 29 = .ok (.ireturn, 1) := by decide +kernel
theorem dX12_find_0 : decode cX12_find 0 = .ok (.aload_n 0, 1) := by decide +kernel
theorem dX12_find_1 : decode cX12_find 1 = .ok (.iconst 0, 1) := by decide +kernel
theorem dX12_find_2 : decode cX12_find 2 = .ok (.putfield 118, 3) := by decide +kernel
theorem dX12_find_5 : decode cX12_find 5 = .ok (.iload_n 1, 1) := by decide +kernel
theorem dX12_find_6 : decode cX12_find 6 = .ok (.iload_n 2, 1) := by decide +kernel
theorem dX12_find_7 : decode cX12_find 7 = .ok (.invokestatic 323, 3) := by decide +kernel
theorem dX12_find_10 : decode cX12_find 10 = .ok (.ifCond .eq 6, 3) := by decide +kernel
theorem dX12_find_13 : decode cX12_find 13 = .ok (.bipush (-2), 2) := by decide +kernel
theorem dX12_find_15 : decode cX12_find 15 = .ok (.ireturn, 1) := by decide +kernel
theorem dX12_find_16 : decode cX12_find 16 = .ok (.aload_n 0, 1) := by decide +kernel
theorem dX12_find_17 : decode cX12_find 17 = .ok (.iload_n 1, 1) := by decide +kernel
theorem dX12_find_18 : decode cX12_find 18 = .ok (.iload_n 2, 1) := by decide +kernel
theorem dX12_find_19 : decode cX12_find 19 = .ok (.invokevirtual 326, 3) := by decide +kernel
theorem dX12_find_22 : decode cX12_find 22 = .ok (.aload_n 0, 1) := by decide +kernel
theorem dX12_find_23 : decode cX12_find 23 = .ok (.getfield 311, 3) := by decide +kernel
theorem dX12_find_26 : decode cX12_find 26 = .ok (.ireturn, 1) := by decide +kernel
theorem dX12_from_0 : decode cX12_from 0 = .ok (.aload_n 0, 1) := by decide +kernel
theorem dX12_from_1 : decode cX12_from 1 = .ok (.iconst 0, 1) := by decide +kernel
theorem dX12_from_2 : decode cX12_from 2 = .ok (.putfield 118, 3) := by decide +kernel
theorem dX12_from_5 : decode cX12_from 5 = .ok (.iload_n 1, 1) := by decide +kernel
theorem dX12_from_6 : decode cX12_from 6 = .ok (.iload_n 2, 1) := by decide +kernel
theorem dX12_from_7 : decode cX12_from 7 = .ok (.invokestatic 323, 3) := by decide +kernel
theorem dX12_from_10 : decode cX12_from 10 = .ok (.ifCond .eq 6, 3) := by decide +kernel
theorem dX12_from_13 : decode cX12_from 13 = .ok (.bipush (-2), 2) := by decide +kernel
theorem dX12_from_15 : decode cX12_from 15 = .ok (.ireturn, 1) := by decide +kernel
theorem dX12_from_16 : decode cX12_from 16 = .ok (.aload_n 0, 1) := by decide +kernel
theorem dX12_from_17 : decode cX12_from 17 = .ok (.iload_n 1, 1) := by decide +kernel
theorem dX12_from_18 : decode cX12_from 18 = .ok (.iload_n 2, 1) := by decide +kernel
theorem dX12_from_19 : decode cX12_from 19 = .ok (.invokevirtual 326, 3) := by decide +kernel
theorem dX12_from_22 : decode cX12_from 22 = .ok (.aload_n 0, 1) := by decide +kernel
theorem dX12_from_23 : decode cX12_from 23 = .ok (.getfield 314, 3) := by decide +kernel
theorem dX12_from_26 : decode cX12_from 26 = .ok (.ireturn, 1) := by decide +kernel
theorem dX12_way_0 : decode cX12_way 0 = .ok (.aload_n 0, 1) := by decide +kernel
theorem dX12_way_1 : decode cX12_way 1 = .ok (.iconst 0, 1) := by decide +kernel
theorem dX12_way_2 : decode cX12_way 2 = .ok (.putfield 118, 3) := by decide +kernel
theorem dX12_way_5 : decode cX12_way 5 = .ok (.iload_n 1, 1) := by decide +kernel
theorem dX12_way_6 : decode cX12_way 6 = .ok (.iload_n 2, 1) := by decide +kernel
theorem dX12_way_7 : decode cX12_way 7 = .ok (.invokestatic 323, 3) := by decide +kernel
theorem dX12_way_10 : decode cX12_way 10 = .ok (.ifCond .eq 6, 3) := by decide +kernel
theorem dX12_way_13 : decode cX12_way 13 = .ok (.bipush (-2), 2) := by decide +kernel
theorem dX12_way_15 : decode cX12_way 15 = .ok (.ireturn, 1) := by decide +kernel
theorem dX12_way_16 : decode cX12_way 16 = .ok (.iload_n 3, 1) := by decide +kernel
theorem dX12_way_17 : decode cX12_way 17 = .ok (.invokestatic 216, 3) := by decide +kernel
theorem dX12_way_20 : decode cX12_way 20 = .ok (.ifCond .eq 5, 3) := by decide +kernel
theorem dX12_way_23 : decode cX12_way 23 = .ok (.iconst (-1), 1) := by decide +kernel
theorem dX12_way_24 : decode cX12_way 24 = .ok (.ireturn, 1) := by decide +kernel
theorem dX12_way_25 : decode cX12_way 25 = .ok (.aload_n 0, 1) := by decide +kernel
theorem dX12_way_26 : decode cX12_way 26 = .ok (.iload_n 1, 1) := by decide +kernel
theorem dX12_way_27 : decode cX12_way 27 = .ok (.iload_n 2, 1) := by decide +kernel
theorem dX12_way_28 : decode cX12_way 28 = .ok (.invokevirtual 326, 3) := by decide +kernel
theorem dX12_way_31 : decode cX12_way 31 = .ok (.aload_n 0, 1) := by decide +kernel
theorem dX12_way_32 : decode cX12_way 32 = .ok (.getfield 314, 3) := by decide +kernel
theorem dX12_way_35 : decode cX12_way 35 = .ok (.bipush (-9), 2) := by decide +kernel
theorem dX12_way_37 : decode cX12_way 37 = .ok (.if_icmp .ne 8, 3) := by decide +kernel
theorem dX12_way_40 : decode cX12_way 40 = .ok (.bipush (-9), 2) := by decide +kernel
theorem dX12_way_42 : decode cX12_way 42 = .ok (.goto 9, 3) := by decide +kernel
theorem dX12_way_45 : decode cX12_way 45 = .ok (.aload_n 0, 1) := by decide +kernel
theorem dX12_way_46 : decode cX12_way 46 = .ok (.getfield 108, 3) := by decide +kernel
theorem dX12_way_49 : decode cX12_way 49 = .ok (.iload_n 3, 1) := by decide +kernel
theorem dX12_way_50 : decode cX12_way 50 = .ok (.iaload, 1) := by decide +kernel
theorem dX12_way_51 : decode cX12_way 51 = .ok (.ireturn, 1) := by decide +kernel
theorem dX12_bar_0 : decode cX12_bar 0 = .ok (.aload_n 0, 1) := by decide +kernel
theorem dX12_bar_1 : decode cX12_bar 1 = .ok (.iconst 0, 1) := by decide +kernel
theorem dX12_bar_2 : decode cX12_bar 2 = .ok (.putfield 118, 3) := by decide +kernel
theorem dX12_bar_5 : decode cX12_bar 5 = .ok (.aload_n 0, 1) := by decide +kernel
theorem dX12_bar_6 : decode cX12_bar 6 = .ok (.iconst 0, 1) := by decide +kernel
theorem dX12_bar_7 : decode cX12_bar 7 = .ok (.iconst 0, 1) := by decide +kernel
theorem dX12_bar_8 : decode cX12_bar 8 = .ok (.invokevirtual 326, 3) := by decide +kernel
theorem dX12_bar_11 : decode cX12_bar 11 = .ok (.aload_n 0, 1) := by decide +kernel
theorem dX12_bar_12 : decode cX12_bar 12 = .ok (.getfield 314, 3) := by decide +kernel
theorem dX12_bar_15 : decode cX12_bar 15 = .ok (.bipush (-9), 2) := by decide +kernel
theorem dX12_bar_17 : decode cX12_bar 17 = .ok (.if_icmp .eq 6, 3) := by decide +kernel
theorem dX12_bar_20 : decode cX12_bar 20 = .ok (.bipush 10, 2) := by decide +kernel
theorem dX12_bar_22 : decode cX12_bar 22 = .ok (.ireturn, 1) := by decide +kernel
theorem dX12_bar_23 : decode cX12_bar 23 = .ok (.iconst 0, 1) := by decide +kernel
theorem dX12_bar_24 : decode cX12_bar 24 = .ok (.istore_n 1, 1) := by decide +kernel
theorem dX12_bar_25 : decode cX12_bar 25 = .ok (.iconst 0, 1) := by decide +kernel
theorem dX12_bar_26 : decode cX12_bar 26 = .ok (.istore_n 2, 1) := by decide +kernel
theorem dX12_bar_27 : decode cX12_bar 27 = .ok (.iload_n 2, 1) := by decide +kernel
theorem dX12_bar_28 : decode cX12_bar 28 = .ok (.bipush 16, 2) := by decide +kernel
theorem dX12_bar_30 : decode cX12_bar 30 = .ok (.if_icmp .ge 27, 3) := by decide +kernel
theorem dX12_bar_33 : decode cX12_bar 33 = .ok (.iload_n 1, 1) := by decide +kernel
theorem dX12_bar_34 : decode cX12_bar 34 = .ok (.aload_n 0, 1) := by decide +kernel
theorem dX12_bar_35 : decode cX12_bar 35 = .ok (.iload_n 2, 1) := by decide +kernel
theorem dX12_bar_36 : decode cX12_bar 36 = .ok (.invokevirtual 274, 3) := by decide +kernel
theorem dX12_bar_39 : decode cX12_bar 39 = .ok (.ifCond .eq 7, 3) := by decide +kernel
theorem dX12_bar_42 : decode cX12_bar 42 = .ok (.iconst 0, 1) := by decide +kernel
theorem dX12_bar_43 : decode cX12_bar 43 = .ok (.goto 6, 3) := by decide +kernel
theorem dX12_bar_46 : decode cX12_bar 46 = .ok (.iconst 1, 1) := by decide +kernel
theorem dX12_bar_47 : decode cX12_bar 47 = .ok (.iload_n 2, 1) := by decide +kernel
theorem dX12_bar_48 : decode cX12_bar 48 = .ok (.ishl, 1) := by decide +kernel
theorem dX12_bar_49 : decode cX12_bar 49 = .ok (.ior, 1) := by decide +kernel
theorem dX12_bar_50 : decode cX12_bar 50 = .ok (.istore_n 1, 1) := by decide +kernel
theorem dX12_bar_51 : decode cX12_bar 51 = .ok (.iinc 2 1, 3) := by decide +kernel
theorem dX12_bar_54 : decode cX12_bar 54 = .ok (.goto (-27), 3) := by decide +kernel
theorem dX12_bar_57 : decode cX12_bar 57 = .ok (.iconst 0, 1) := by decide +kernel
theorem dX12_bar_58 : decode cX12_bar 58 = .ok (.istore_n 2, 1) := by decide +kernel
theorem dX12_bar_59 : decode cX12_bar 59 = .ok (.iload_n 2, 1) := by decide +kernel
theorem dX12_bar_60 : decode cX12_bar 60 = .ok (.bipush 10, 2) := by decide +kernel
theorem dX12_bar_62 : decode cX12_bar 62 = .ok (.if_icmp .ge 87, 3) := by decide +kernel
theorem dX12_bar_65 : decode cX12_bar 65 = .ok (.iconst 0, 1) := by decide +kernel
theorem dX12_bar_66 : decode cX12_bar 66 = .ok (.istore_n 3, 1) := by decide +kernel
theorem dX12_bar_67 : decode cX12_bar 67 = .ok (.iconst 0, 1) := by decide +kernel
theorem dX12_bar_68 : decode cX12_bar 68 = .ok (.istore 4, 2) := by decide +kernel
theorem dX12_bar_70 : decode cX12_bar 70 = .ok (.iload 4, 2) := by decide +kernel
theorem dX12_bar_72 : decode cX12_bar 72 = .ok (.bipush 21, 2) := by decide +kernel
theorem dX12_bar_74 : decode cX12_bar 74 = .ok (.if_icmp .ge 61, 3) := by decide +kernel
theorem dX12_bar_77 : decode cX12_bar 77 = .ok (.iconst 0, 1) := by decide +kernel
theorem dX12_bar_78 : decode cX12_bar 78 = .ok (.istore 5, 2) := by decide +kernel
theorem dX12_bar_80 : decode cX12_bar 80 = .ok (.iload 5, 2) := by decide +kernel
theorem dX12_bar_82 : decode cX12_bar 82 = .ok (.bipush 6, 2) := by decide +kernel
theorem dX12_bar_84 : decode cX12_bar 84 = .ok (.if_icmp .ge 45, 3) := by decide +kernel
theorem dX12_bar_87 : decode cX12_bar 87 = .ok (.iload_n 1, 1) := by decide +kernel
theorem dX12_bar_88 : decode cX12_bar 88 = .ok (.iload 4, 2) := by decide +kernel
theorem dX12_bar_90 : decode cX12_bar 90 = .ok (.ishr, 1) := by decide +kernel
theorem dX12_bar_91 : decode cX12_bar 91 = .ok (.iconst 1, 1) := by decide +kernel
theorem dX12_bar_92 : decode cX12_bar 92 = .ok (.iand, 1) := by decide +kernel
theorem dX12_bar_93 : decode cX12_bar 93 = .ok (.iconst 1, 1) := by decide +kernel
theorem dX12_bar_94 : decode cX12_bar 94 = .ok (.if_icmp .ne 35, 3) := by decide +kernel
theorem dX12_bar_97 : decode cX12_bar 97 = .ok (.aload_n 0, 1) := by decide +kernel
theorem dX12_bar_98 : decode cX12_bar 98 = .ok (.iload_n 2, 1) := by decide +kernel
theorem dX12_bar_99 : decode cX12_bar 99 = .ok (.iload 4, 2) := by decide +kernel
theorem dX12_bar_101 : decode cX12_bar 101 = .ok (.iload 5, 2) := by decide +kernel
theorem dX12_bar_103 : decode cX12_bar 103 = .ok (.iconst 0, 1) := by decide +kernel
theorem dX12_bar_104 : decode cX12_bar 104 = .ok (.iconst 0, 1) := by decide +kernel
theorem dX12_bar_105 : decode cX12_bar 105 = .ok (.invokevirtual 307, 3) := by decide +kernel
theorem dX12_bar_108 : decode cX12_bar 108 = .ok (.ldc_w 303, 3) := by decide +kernel
theorem dX12_bar_111 : decode cX12_bar 111 = .ok (.if_icmp .ge 12, 3) := by decide +kernel
theorem dX12_bar_114 : decode cX12_bar 114 = .ok (.iload_n 3, 1) := by decide +kernel
theorem dX12_bar_115 : decode cX12_bar 115 = .ok (.iconst 1, 1) := by decide +kernel
theorem dX12_bar_116 : decode cX12_bar 116 = .ok (.aload_n 0, 1) := by decide +kernel
theorem dX12_bar_117 : decode cX12_bar 117 = .ok (.getfield 224, 3) := by decide +kernel
theorem dX12_bar_120 : decode cX12_bar 120 = .ok (.ishl, 1) := by decide +kernel
theorem dX12_bar_121 : decode cX12_bar 121 = .ok (.ior, 1) := by decide +kernel
theorem dX12_bar_122 : decode cX12_bar 122 = .ok (.istore_n 3, 1) := by decide +kernel
theorem dX12_bar_123 : decode cX12_bar 123 = .ok (.iinc 5 1, 3) := by decide +kernel
theorem dX12_bar_126 : decode cX12_bar 126 = .ok (.goto (-46), 3) := by decide +kernel
theorem dX12_bar_129 : decode cX12_bar 129 = .ok (.iinc 4 1, 3) := by decide +kernel
theorem dX12_bar_132 : decode cX12_bar 132 = .ok (.goto (-62), 3) := by decide +kernel
theorem dX12_bar_135 : decode cX12_bar 135 = .ok (.iload_n 3, 1) := by decide +kernel
theorem dX12_bar_136 : decode cX12_bar 136 = .ok (.ifCond .ne 5, 3) := by decide +kernel
theorem dX12_bar_139 : decode cX12_bar 139 = .ok (.iload_n 2, 1) := by decide +kernel
theorem dX12_bar_140 : decode cX12_bar 140 = .ok (.ireturn, 1) := by decide +kernel
theorem dX12_bar_141 : decode cX12_bar 141 = .ok (.iload_n 3, 1) := by decide +kernel
theorem dX12_bar_142 : decode cX12_bar 142 = .ok (.istore_n 1, 1) := by decide +kernel
theorem dX12_bar_143 : decode cX12_bar 143 = .ok (.iinc 2 1, 3) := by decide +kernel
theorem dX12_bar_146 : decode cX12_bar 146 = .ok (.goto (-87), 3) := by decide +kernel
theorem dX12_bar_149 : decode cX12_bar 149 = .ok (.bipush 10, 2) := by decide +kernel
theorem dX12_bar_151 : decode cX12_bar 151 = .ok (.ireturn, 1) := by decide +kernel
theorem dX12_tryShort_0 : decode cX12_tryShort 0 = .ok (.iload_n 1, 1) := by decide +kernel
theorem dX12_tryShort_1 : decode cX12_tryShort 1 = .ok (.bipush 6, 2) := by decide +kernel
theorem dX12_tryShort_3 : decode cX12_tryShort 3 = .ok (.isub, 1) := by decide +kernel
theorem dX12_tryShort_4 : decode cX12_tryShort 4 = .ok (.istore_n 3, 1) := by decide +kernel
theorem dX12_tryShort_5 : decode cX12_tryShort 5 = .ok (.iconst 0, 1) := by decide +kernel
theorem dX12_tryShort_6 : decode cX12_tryShort 6 = .ok (.istore 4, 2) := by decide +kernel
theorem dX12_tryShort_8 : decode cX12_tryShort 8 = .ok (.iload 4, 2) := by decide +kernel
theorem dX12_tryShort_10 : decode cX12_tryShort 10 = .ok (.bipush 10, 2) := by decide +kernel
theorem dX12_tryShort_12 : decode cX12_tryShort 12 = .ok (.if_icmp .ge 54, 3) := by decide +kernel
theorem dX12_tryShort_15 : decode cX12_tryShort 15 = .ok (.aload_n 0, 1) := by decide +kernel
theorem dX12_tryShort_16 : decode cX12_tryShort 16 = .ok (.getfield 75, 3) := by decide +kernel
theorem dX12_tryShort_19 : decode cX12_tryShort 19 = .ok (.bipush 10, 2) := by decide +kernel
theorem dX12_tryShort_21 : decode cX12_tryShort 21 = .ok (.iload_n 2, 1) := by decide +kernel
theorem dX12_tryShort_22 : decode cX12_tryShort 22 = .ok (.imul, 1) := by decide +kernel
theorem dX12_tryShort_23 : decode cX12_tryShort 23 = .ok (.iload 4, 2) := by decide +kernel
theorem dX12_tryShort_25 : decode cX12_tryShort 25 = .ok (.iadd, 1) := by decide +kernel
theorem dX12_tryShort_26 : decode cX12_tryShort 26 = .ok (.iload_n 1, 1) := by decide +kernel
theorem dX12_tryShort_27 : decode cX12_tryShort 27 = .ok (.bipush 6, 2) := by decide +kernel
theorem dX12_tryShort_29 : decode cX12_tryShort 29 = .ok (.if_icmp .ge 7, 3) := by decide +kernel
theorem dX12_tryShort_32 : decode cX12_tryShort 32 = .ok (.iload_n 1, 1) := by decide +kernel
theorem dX12_tryShort_33 : decode cX12_tryShort 33 = .ok (.goto 26, 3) := by decide +kernel
theorem dX12_tryShort_36 : decode cX12_tryShort 36 = .ok (.iload 4, 2) := by decide +kernel
theorem dX12_tryShort_38 : decode cX12_tryShort 38 = .ok (.iload_n 3, 1) := by decide +kernel
theorem dX12_tryShort_39 : decode cX12_tryShort 39 = .ok (.bipush 36, 2) := by decide +kernel
theorem dX12_tryShort_41 : decode cX12_tryShort 41 = .ok (.idiv, 1) := by decide +kernel
theorem dX12_tryShort_42 : decode cX12_tryShort 42 = .ok (.if_icmp .ne 13, 3) := by decide +kernel
theorem dX12_tryShort_45 : decode cX12_tryShort 45 = .ok (.iload_n 3, 1) := by decide +kernel
theorem dX12_tryShort_46 : decode cX12_tryShort 46 = .ok (.bipush 6, 2) := by decide +kernel
theorem dX12_tryShort_48 : decode cX12_tryShort 48 = .ok (.idiv, 1) := by decide +kernel
theorem dX12_tryShort_49 : decode cX12_tryShort 49 = .ok (.bipush 6, 2) := by decide +kernel
theorem dX12_tryShort_51 : decode cX12_tryShort 51 = .ok (.irem, 1) := by decide +kernel
theorem dX12_tryShort_52 : decode cX12_tryShort 52 = .ok (.goto 7, 3) := by decide +kernel
theorem dX12_tryShort_55 : decode cX12_tryShort 55 = .ok (.iload_n 3, 1) := by decide +kernel
theorem dX12_tryShort_56 : decode cX12_tryShort 56 = .ok (.bipush 6, 2) := by decide +kernel
theorem dX12_tryShort_58 : decode cX12_tryShort 58 = .ok (.irem, 1) := by decide +kernel
theorem dX12_tryShort_59 : decode cX12_tryShort 59 = .ok (.iastore, 1) := by decide +kernel
theorem dX12_tryShort_60 : decode cX12_tryShort 60 = .ok (.iinc 4 1, 3) := by decide +kernel
theorem dX12_tryShort_63 : decode cX12_tryShort 63 = .ok (.goto (-55), 3) := by decide +kernel
theorem dX12_tryShort_66 : decode cX12_tryShort 66 = .ok (.return_, 1) := by decide +kernel
theorem dX12_findBrief_0 : decode cX12_findBrief 0 = .ok (.bipush (-9), 2) := by decide +kernel
theorem dX12_findBrief_2 : decode cX12_findBrief 2 = .ok (.istore 4, 2) := by decide +kernel
theorem dX12_findBrief_4 : decode cX12_findBrief 4 = .ok (.iconst 0, 1) := by decide +kernel
theorem dX12_findBrief_5 : decode cX12_findBrief 5 = .ok (.istore 5, 2) := by decide +kernel
theorem dX12_findBrief_7 : decode cX12_findBrief 7 = .ok (.iload 5, 2) := by decide +kernel
theorem dX12_findBrief_9 : decode cX12_findBrief 9 = .ok (.sipush 366, 3) := by decide +kernel
theorem dX12_findBrief_12 : decode cX12_findBrief 12 = .ok (.if_icmp .ge 126, 3) := by decide +kernel
theorem dX12_findBrief_15 : decode cX12_findBrief 15 = .ok (.aload_n 0, 1) := by decide +kernel
theorem dX12_findBrief_16 : decode cX12_findBrief 16 = .ok (.iload 5, 2) := by decide +kernel
theorem dX12_findBrief_18 : decode cX12_findBrief 18 = .ok (.iconst 3, 1) := by decide +kernel
theorem dX12_findBrief_19 : decode cX12_findBrief 19 = .ok (.invokevirtual 329, 3) := by decide +kernel
theorem dX12_findBrief_22 : decode cX12_findBrief 22 = .ok (.aload_n 0, 1) := by decide +kernel
theorem dX12_findBrief_23 : decode cX12_findBrief 23 = .ok (.iconst 3, 1) := by decide +kernel
theorem dX12_findBrief_24 : decode cX12_findBrief 24 = .ok (.iload_n 1, 1) := by decide +kernel
theorem dX12_findBrief_25 : decode cX12_findBrief 25 = .ok (.invokevirtual 295, 3) := by decide +kernel
theorem dX12_findBrief_28 : decode cX12_findBrief 28 = .ok (.ifCond .eq 104, 3) := by decide +kernel
theorem dX12_findBrief_31 : decode cX12_findBrief 31 = .ok (.lconst 0, 1) := by decide +kernel
theorem dX12_findBrief_32 : decode cX12_findBrief 32 = .ok (.lstore 6, 2) := by decide +kernel
theorem dX12_findBrief_34 : decode cX12_findBrief 34 = .ok (.aload_n 0, 1) := by decide +kernel
theorem dX12_findBrief_35 : decode cX12_findBrief 35 = .ok (.getfield 283, 3) := by decide +kernel
theorem dX12_findBrief_38 : decode cX12_findBrief 38 = .ok (.istore 8, 2) := by decide +kernel
theorem dX12_findBrief_40 : decode cX12_findBrief 40 = .ok (.iload 8, 2) := by decide +kernel
theorem dX12_findBrief_42 : decode cX12_findBrief 42 = .ok (.aload_n 0, 1) := by decide +kernel
theorem dX12_findBrief_43 : decode cX12_findBrief 43 = .ok (.getfield 283, 3) := by decide +kernel
theorem dX12_findBrief_46 : decode cX12_findBrief 46 = .ok (.aload_n 0, 1) := by decide +kernel
theorem dX12_findBrief_47 : decode cX12_findBrief 47 = .ok (.getfield 286, 3) := by decide +kernel
theorem dX12_findBrief_50 : decode cX12_findBrief 50 = .ok (.iadd, 1) := by decide +kernel
theorem dX12_findBrief_51 : decode cX12_findBrief 51 = .ok (.if_icmp .ge 34, 3) := by decide +kernel
theorem dX12_findBrief_54 : decode cX12_findBrief 54 = .ok (.lload 6, 2) := by decide +kernel
theorem dX12_findBrief_56 : decode cX12_findBrief 56 = .ok (.iload_n 2, 1) := by decide +kernel
theorem dX12_findBrief_57 : decode cX12_findBrief 57 = .ok (.aload_n 0, 1) := by decide +kernel
theorem dX12_findBrief_58 : decode cX12_findBrief 58 = .ok (.getfield 96, 3) := by decide +kernel
theorem dX12_findBrief_61 : decode cX12_findBrief 61 = .ok (.iload 8, 2) := by decide +kernel
theorem dX12_findBrief_63 : decode cX12_findBrief 63 = .ok (.iaload, 1) := by decide +kernel
theorem dX12_findBrief_64 : decode cX12_findBrief 64 = .ok (.imul, 1) := by decide +kernel
theorem dX12_findBrief_65 : decode cX12_findBrief 65 = .ok (.iload_n 3, 1) := by decide +kernel
theorem dX12_findBrief_66 : decode cX12_findBrief 66 = .ok (.aload_n 0, 1) := by decide +kernel
theorem dX12_findBrief_67 : decode cX12_findBrief 67 = .ok (.getfield 99, 3) := by decide +kernel
theorem dX12_findBrief_70 : decode cX12_findBrief 70 = .ok (.iload 8, 2) := by decide +kernel
theorem dX12_findBrief_72 : decode cX12_findBrief 72 = .ok (.iaload, 1) := by decide +kernel
theorem dX12_findBrief_73 : decode cX12_findBrief 73 = .ok (.imul, 1) := by decide +kernel
theorem dX12_findBrief_74 : decode cX12_findBrief 74 = .ok (.iadd, 1) := by decide +kernel
theorem dX12_findBrief_75 : decode cX12_findBrief 75 = .ok (.i2l, 1) := by decide +kernel
theorem dX12_findBrief_76 : decode cX12_findBrief 76 = .ok (.ladd, 1) := by decide +kernel
theorem dX12_findBrief_77 : decode cX12_findBrief 77 = .ok (.lstore 6, 2) := by decide +kernel
theorem dX12_findBrief_79 : decode cX12_findBrief 79 = .ok (.iinc 8 1, 3) := by decide +kernel
theorem dX12_findBrief_82 : decode cX12_findBrief 82 = .ok (.goto (-42), 3) := by decide +kernel
theorem dX12_findBrief_85 : decode cX12_findBrief 85 = .ok (.iload 4, 2) := by decide +kernel
theorem dX12_findBrief_87 : decode cX12_findBrief 87 = .ok (.bipush (-9), 2) := by decide +kernel
theorem dX12_findBrief_89 : decode cX12_findBrief 89 = .ok (.if_icmp .eq 24, 3) := by decide +kernel
theorem dX12_findBrief_92 : decode cX12_findBrief 92 = .ok (.lload 6, 2) := by decide +kernel
theorem dX12_findBrief_94 : decode cX12_findBrief 94 = .ok (.aload_n 0, 1) := by decide +kernel
theorem dX12_findBrief_95 : decode cX12_findBrief 95 = .ok (.getfield 332, 3) := by decide +kernel
theorem dX12_findBrief_98 : decode cX12_findBrief 98 = .ok (.lmul, 1) := by decide +kernel
theorem dX12_findBrief_99 : decode cX12_findBrief 99 = .ok (.aload_n 0, 1) := by decide +kernel
theorem dX12_findBrief_100 : decode cX12_findBrief 100 = .ok (.getfield 336, 3) := by decide +kernel
theorem dX12_findBrief_103 : decode cX12_findBrief 103 = .ok (.aload_n 0, 1) := by decide +kernel
theorem dX12_findBrief_104 : decode cX12_findBrief 104 = .ok (.getfield 286, 3) := by decide +kernel
theorem dX12_findBrief_107 : decode cX12_findBrief 107 = .ok (.i2l, 1) := by decide +kernel
theorem dX12_findBrief_108 : decode cX12_findBrief 108 = .ok (.lmul, 1) := by decide +kernel
theorem dX12_findBrief_109 : decode cX12_findBrief 109 = .ok (.lcmp, 1) := by decide +kernel
theorem dX12_findBrief_110 : decode cX12_findBrief 110 = .ok (.ifCond .ge 22, 3) := by decide +kernel
theorem dX12_findBrief_113 : decode cX12_findBrief 113 = .ok (.iload 5, 2) := by decide +kernel
theorem dX12_findBrief_115 : decode cX12_findBrief 115 = .ok (.istore 4, 2) := by decide +kernel
theorem dX12_findBrief_117 : decode cX12_findBrief 117 = .ok (.aload_n 0, 1) := by decide +kernel
theorem dX12_findBrief_118 : decode cX12_findBrief 118 = .ok (.lload 6, 2) := by decide +kernel
theorem dX12_findBrief_120 : decode cX12_findBrief 120 = .ok (.putfield 336, 3) := by decide +kernel
theorem dX12_findBrief_123 : decode cX12_findBrief 123 = .ok (.aload_n 0, 1) := by decide +kernel
theorem dX12_findBrief_124 : decode cX12_findBrief 124 = .ok (.aload_n 0, 1) := by decide +kernel
theorem dX12_findBrief_125 : decode cX12_findBrief 125 = .ok (.getfield 286, 3) := by decide +kernel
theorem dX12_findBrief_128 : decode cX12_findBrief 128 = .ok (.i2l, 1) := by decide +kernel
theorem dX12_findBrief_129 : decode cX12_findBrief 129 = .ok (.putfield 332, 3) := by decide +kernel
theorem dX12_findBrief_132 : decode cX12_findBrief 132 = .ok (.iinc 5 1, 3) := by decide +kernel
theorem dX12_findBrief_135 : decode cX12_findBrief 135 = .ok (.goto (-128), 3) := by decide +kernel
theorem dX12_findBrief_138 : decode cX12_findBrief 138 = .ok (.iload 4, 2) := by decide +kernel
theorem dX12_findBrief_140 : decode cX12_findBrief 140 = .ok (.ireturn, 1) := by decide +kernel
theorem dX12_brief_0 : decode cX12_brief 0 = .ok (.aload_n 0, 1) := by decide +kernel
theorem dX12_brief_1 : decode cX12_brief 1 = .ok (.iconst 0, 1) := by decide +kernel
theorem dX12_brief_2 : decode cX12_brief 2 = .ok (.putfield 118, 3) := by decide +kernel
theorem dX12_brief_5 : decode cX12_brief 5 = .ok (.aload_n 0, 1) := by decide +kernel
theorem dX12_brief_6 : decode cX12_brief 6 = .ok (.iload_n 1, 1) := by decide +kernel
theorem dX12_brief_7 : decode cX12_brief 7 = .ok (.invokevirtual 274, 3) := by decide +kernel
theorem dX12_brief_10 : decode cX12_brief 10 = .ok (.ifCond .eq 5, 3) := by decide +kernel
theorem dX12_brief_13 : decode cX12_brief 13 = .ok (.iconst (-1), 1) := by decide +kernel
theorem dX12_brief_14 : decode cX12_brief 14 = .ok (.ireturn, 1) := by decide +kernel
theorem dX12_brief_15 : decode cX12_brief 15 = .ok (.iload_n 2, 1) := by decide +kernel
theorem dX12_brief_16 : decode cX12_brief 16 = .ok (.iload_n 3, 1) := by decide +kernel
theorem dX12_brief_17 : decode cX12_brief 17 = .ok (.invokestatic 323, 3) := by decide +kernel
theorem dX12_brief_20 : decode cX12_brief 20 = .ok (.ifCond .eq 8, 3) := by decide +kernel
theorem dX12_brief_23 : decode cX12_brief 23 = .ok (.bipush (-2), 2) := by decide +kernel
theorem dX12_brief_25 : decode cX12_brief 25 = .ok (.goto 10, 3) := by decide +kernel
theorem dX12_brief_28 : decode cX12_brief 28 = .ok (.aload_n 0, 1) := by decide +kernel
theorem dX12_brief_29 : decode cX12_brief 29 = .ok (.iload_n 1, 1) := by decide +kernel
theorem dX12_brief_30 : decode cX12_brief 30 = .ok (.iload_n 2, 1) := by decide +kernel
theorem dX12_brief_31 : decode cX12_brief 31 = .ok (.iload_n 3, 1) := by decide +kernel
theorem dX12_brief_32 : decode cX12_brief 32 = .ok (.invokevirtual 339, 3) := by decide +kernel
theorem dX12_brief_35 : decode cX12_brief 35 = .ok (.ireturn, 1) := by decide +kernel
theorem dX12_told_0 : decode cX12_told 0 = .ok (.lload_n 0, 1) := by decide +kernel
theorem dX12_told_1 : decode cX12_told 1 = .ok (.lstore 5, 2) := by decide +kernel
theorem dX12_told_3 : decode cX12_told 3 = .ok (.lload_n 2, 1) := by decide +kernel
theorem dX12_told_4 : decode cX12_told 4 = .ok (.lstore 7, 2) := by decide +kernel
theorem dX12_told_6 : decode cX12_told 6 = .ok (.lload 7, 2) := by decide +kernel
theorem dX12_told_8 : decode cX12_told 8 = .ok (.lconst 0, 1) := by decide +kernel
theorem dX12_told_9 : decode cX12_told 9 = .ok (.lcmp, 1) := by decide +kernel
theorem dX12_told_10 : decode cX12_told 10 = .ok (.ifCond .eq 21, 3) := by decide +kernel
theorem dX12_told_13 : decode cX12_told 13 = .ok (.lload 5, 2) := by decide +kernel
theorem dX12_told_15 : decode cX12_told 15 = .ok (.lload 7, 2) := by decide +kernel
theorem dX12_told_17 : decode cX12_told 17 = .ok (.lrem, 1) := by decide +kernel
theorem dX12_told_18 : decode cX12_told 18 = .ok (.lstore 9, 2) := by decide +kernel
theorem dX12_told_20 : decode cX12_told 20 = .ok (.lload 7, 2) := by decide +kernel
theorem dX12_told_22 : decode cX12_told 22 = .ok (.lstore 5, 2) := by decide +kernel
theorem dX12_told_24 : decode cX12_told 24 = .ok (.lload 9, 2) := by decide +kernel
theorem dX12_told_26 : decode cX12_told 26 = .ok (.lstore 7, 2) := by decide +kernel
theorem dX12_told_28 : decode cX12_told 28 = .ok (.goto (-22), 3) := by decide +kernel
theorem dX12_told_31 : decode cX12_told 31 = .ok (.iload 4, 2) := by decide +kernel
theorem dX12_told_33 : decode cX12_told 33 = .ok (.ifCond .eq 10, 3) := by decide +kernel
theorem dX12_told_36 : decode cX12_told 36 = .ok (.lload_n 0, 1) := by decide +kernel
theorem dX12_told_37 : decode cX12_told 37 = .ok (.lload 5, 2) := by decide +kernel
theorem dX12_told_39 : decode cX12_told 39 = .ok (.ldiv, 1) := by decide +kernel
theorem dX12_told_40 : decode cX12_told 40 = .ok (.goto 7, 3) := by decide +kernel
theorem dX12_told_43 : decode cX12_told 43 = .ok (.lload_n 2, 1) := by decide +kernel
theorem dX12_told_44 : decode cX12_told 44 = .ok (.lload 5, 2) := by decide +kernel
theorem dX12_told_46 : decode cX12_told 46 = .ok (.ldiv, 1) := by decide +kernel
theorem dX12_told_47 : decode cX12_told 47 = .ok (.lreturn, 1) := by decide +kernel
theorem dX12_briefPrice_0 : decode cX12_briefPrice 0 = .ok (.aload_n 0, 1) := by decide +kernel
theorem dX12_briefPrice_1 : decode cX12_briefPrice 1 = .ok (.iconst 0, 1) := by decide +kernel
theorem dX12_briefPrice_2 : decode cX12_briefPrice 2 = .ok (.putfield 118, 3) := by decide +kernel
theorem dX12_briefPrice_5 : decode cX12_briefPrice 5 = .ok (.aload_n 0, 1) := by decide +kernel
theorem dX12_briefPrice_6 : decode cX12_briefPrice 6 = .ok (.iload_n 1, 1) := by decide +kernel
theorem dX12_briefPrice_7 : decode cX12_briefPrice 7 = .ok (.invokevirtual 274, 3) := by decide +kernel
theorem dX12_briefPrice_10 : decode cX12_briefPrice 10 = .ok (.ifCond .eq 7, 3) := by decide +kernel
theorem dX12_briefPrice_13 : decode cX12_briefPrice 13 = .ok (.ldc2_w 343, 3) := by decide +kernel
theorem dX12_briefPrice_16 : decode cX12_briefPrice 16 = .ok (.lreturn, 1) := by decide +kernel
theorem dX12_briefPrice_17 : decode cX12_briefPrice 17 = .ok (.iload_n 2, 1) := by decide +kernel
theorem dX12_briefPrice_18 : decode cX12_briefPrice 18 = .ok (.iload_n 3, 1) := by decide +kernel
theorem dX12_briefPrice_19 : decode cX12_briefPrice 19 = .ok (.invokestatic 323, 3) := by decide +kernel
theorem dX12_briefPrice_22 : decode cX12_briefPrice 22 = .ok (.ifCond .eq 7, 3) := by decide +kernel
theorem dX12_briefPrice_25 : decode cX12_briefPrice 25 = .ok (.ldc2_w 345, 3) := by decide +kernel
theorem dX12_briefPrice_28 : decode cX12_briefPrice 28 = .ok (.lreturn, 1) := by decide +kernel
theorem dX12_briefPrice_29 : decode cX12_briefPrice 29 = .ok (.aload_n 0, 1) := by decide +kernel
theorem dX12_briefPrice_30 : decode cX12_briefPrice 30 = .ok (.iload_n 1, 1) := by decide +kernel
theorem dX12_briefPrice_31 : decode cX12_briefPrice 31 = .ok (.iload_n 2, 1) := by decide +kernel
theorem dX12_briefPrice_32 : decode cX12_briefPrice 32 = .ok (.iload_n 3, 1) := by decide +kernel
theorem dX12_briefPrice_33 : decode cX12_briefPrice 33 = .ok (.invokevirtual 339, 3) := by decide +kernel
theorem dX12_briefPrice_36 : decode cX12_briefPrice 36 = .ok (.bipush (-9), 2) := by decide +kernel
theorem dX12_briefPrice_38 : decode cX12_briefPrice 38 = .ok (.if_icmp .ne 9, 3) := by decide +kernel
theorem dX12_briefPrice_41 : decode cX12_briefPrice 41 = .ok (.ldc2_w 347, 3) := by decide +kernel
theorem dX12_briefPrice_44 : decode cX12_briefPrice 44 = .ok (.goto 16, 3) := by decide +kernel
theorem dX12_briefPrice_47 : decode cX12_briefPrice 47 = .ok (.aload_n 0, 1) := by decide +kernel
theorem dX12_briefPrice_48 : decode cX12_briefPrice 48 = .ok (.getfield 336, 3) := by decide +kernel
theorem dX12_briefPrice_51 : decode cX12_briefPrice 51 = .ok (.aload_n 0, 1) := by decide +kernel
theorem dX12_briefPrice_52 : decode cX12_briefPrice 52 = .ok (.getfield 332, 3) := by decide +kernel
theorem dX12_briefPrice_55 : decode cX12_briefPrice 55 = .ok (.iload 4, 2) := by decide +kernel
theorem dX12_briefPrice_57 : decode cX12_briefPrice 57 = .ok (.invokestatic 349, 3) := by decide +kernel
theorem dX12_briefPrice_60 : decode cX12_briefPrice 60 = .ok (.lreturn, 1) := by decide +kernel
theorem dX12_put_0 : decode cX12_put 0 = .ok (.aload_n 0, 1) := by decide +kernel
theorem dX12_put_1 : decode cX12_put 1 = .ok (.iconst 0, 1) := by decide +kernel
theorem dX12_put_2 : decode cX12_put 2 = .ok (.putfield 118, 3) := by decide +kernel
theorem dX12_put_5 : decode cX12_put 5 = .ok (.iload_n 1, 1) := by decide +kernel
theorem dX12_put_6 : decode cX12_put 6 = .ok (.invokestatic 213, 3) := by decide +kernel
theorem dX12_put_9 : decode cX12_put 9 = .ok (.ifCond .eq 5, 3) := by decide +kernel
theorem dX12_put_12 : decode cX12_put 12 = .ok (.iconst (-1), 1) := by decide +kernel
theorem dX12_put_13 : decode cX12_put 13 = .ok (.ireturn, 1) := by decide +kernel
theorem dX12_put_14 : decode cX12_put 14 = .ok (.iload_n 2, 1) := by decide +kernel
theorem dX12_put_15 : decode cX12_put 15 = .ok (.i2l, 1) := by decide +kernel
theorem dX12_put_16 : decode cX12_put 16 = .ok (.lconst 0, 1) := by decide +kernel
theorem dX12_put_17 : decode cX12_put 17 = .ok (.ldc2_w 353, 3) := by decide +kernel
theorem dX12_put_20 : decode cX12_put 20 = .ok (.invokestatic 126, 3) := by decide +kernel
theorem dX12_put_23 : decode cX12_put 23 = .ok (.ifCond .ne 6, 3) := by decide +kernel
theorem dX12_put_26 : decode cX12_put 26 = .ok (.bipush (-2), 2) := by decide +kernel
theorem dX12_put_28 : decode cX12_put 28 = .ok (.ireturn, 1) := by decide +kernel
theorem dX12_put_29 : decode cX12_put 29 = .ok (.aload_n 0, 1) := by decide +kernel
theorem dX12_put_30 : decode cX12_put 30 = .ok (.iload_n 2, 1) := by decide +kernel
theorem dX12_put_31 : decode cX12_put 31 = .ok (.iload_n 1, 1) := by decide +kernel
theorem dX12_put_32 : decode cX12_put 32 = .ok (.invokevirtual 329, 3) := by decide +kernel
theorem dX12_put_35 : decode cX12_put 35 = .ok (.iload_n 2, 1) := by decide +kernel
theorem dX12_put_36 : decode cX12_put 36 = .ok (.bipush 6, 2) := by decide +kernel
theorem dX12_put_38 : decode cX12_put 38 = .ok (.if_icmp .ge 7, 3) := by decide +kernel
theorem dX12_put_41 : decode cX12_put 41 = .ok (.iconst 0, 1) := by decide +kernel
theorem dX12_put_42 : decode cX12_put 42 = .ok (.goto 4, 3) := by decide +kernel
theorem dX12_put_45 : decode cX12_put 45 = .ok (.iconst 1, 1) := by decide +kernel
theorem dX12_put_46 : decode cX12_put 46 = .ok (.ireturn, 1) := by decide +kernel
theorem dX12_bits_0 : decode cX12_bits 0 = .ok (.iconst 0, 1) := by decide +kernel
theorem dX12_bits_1 : decode cX12_bits 1 = .ok (.istore_n 1, 1) := by decide +kernel
theorem dX12_bits_2 : decode cX12_bits 2 = .ok (.iconst 0, 1) := by decide +kernel
theorem dX12_bits_3 : decode cX12_bits 3 = .ok (.istore_n 2, 1) := by decide +kernel
theorem dX12_bits_4 : decode cX12_bits 4 = .ok (.iload_n 2, 1) := by decide +kernel
theorem dX12_bits_5 : decode cX12_bits 5 = .ok (.bipush 6, 2) := by decide +kernel
theorem dX12_bits_7 : decode cX12_bits 7 = .ok (.if_icmp .ge 17, 3) := by decide +kernel
theorem dX12_bits_10 : decode cX12_bits 10 = .ok (.iload_n 1, 1) := by decide +kernel
theorem dX12_bits_11 : decode cX12_bits 11 = .ok (.iload_n 0, 1) := by decide +kernel
theorem dX12_bits_12 : decode cX12_bits 12 = .ok (.iload_n 2, 1) := by decide +kernel
theorem dX12_bits_13 : decode cX12_bits 13 = .ok (.ishr, 1) := by decide +kernel
theorem dX12_bits_14 : decode cX12_bits 14 = .ok (.iconst 1, 1) := by decide +kernel
theorem dX12_bits_15 : decode cX12_bits 15 = .ok (.iand, 1) := by decide +kernel
theorem dX12_bits_16 : decode cX12_bits 16 = .ok (.iadd, 1) := by decide +kernel
theorem dX12_bits_17 : decode cX12_bits 17 = .ok (.istore_n 1, 1) := by decide +kernel
theorem dX12_bits_18 : decode cX12_bits 18 = .ok (.iinc 2 1, 3) := by decide +kernel
theorem dX12_bits_21 : decode cX12_bits 21 = .ok (.goto (-17), 3) := by decide +kernel
theorem dX12_bits_24 : decode cX12_bits 24 = .ok (.iload_n 1, 1) := by decide +kernel
theorem dX12_bits_25 : decode cX12_bits 25 = .ok (.ireturn, 1) := by decide +kernel
theorem dX12_keys_0 : decode cX12_keys 0 = .ok (.aload_n 0, 1) := by decide +kernel
theorem dX12_keys_1 : decode cX12_keys 1 = .ok (.iconst 0, 1) := by decide +kernel
theorem dX12_keys_2 : decode cX12_keys 2 = .ok (.putfield 118, 3) := by decide +kernel
theorem dX12_keys_5 : decode cX12_keys 5 = .ok (.iload_n 1, 1) := by decide +kernel
theorem dX12_keys_6 : decode cX12_keys 6 = .ok (.invokestatic 213, 3) := by decide +kernel
theorem dX12_keys_9 : decode cX12_keys 9 = .ok (.ifCond .ne 11, 3) := by decide +kernel
theorem dX12_keys_12 : decode cX12_keys 12 = .ok (.aload_n 0, 1) := by decide +kernel
theorem dX12_keys_13 : decode cX12_keys 13 = .ok (.iload_n 2, 1) := by decide +kernel
theorem dX12_keys_14 : decode cX12_keys 14 = .ok (.invokevirtual 274, 3) := by decide +kernel
theorem dX12_keys_17 : decode cX12_keys 17 = .ok (.ifCond .eq 5, 3) := by decide +kernel
theorem dX12_keys_20 : decode cX12_keys 20 = .ok (.iconst (-1), 1) := by decide +kernel
theorem dX12_keys_21 : decode cX12_keys 21 = .ok (.ireturn, 1) := by decide +kernel
theorem dX12_keys_22 : decode cX12_keys 22 = .ok (.aload_n 0, 1) := by decide +kernel
theorem dX12_keys_23 : decode cX12_keys 23 = .ok (.getfield 121, 3) := by decide +kernel
theorem dX12_keys_26 : decode cX12_keys 26 = .ok (.istore_n 3, 1) := by decide +kernel
theorem dX12_keys_27 : decode cX12_keys 27 = .ok (.bipush (-9), 2) := by decide +kernel
theorem dX12_keys_29 : decode cX12_keys 29 = .ok (.istore 4, 2) := by decide +kernel
theorem dX12_keys_31 : decode cX12_keys 31 = .ok (.iconst 0, 1) := by decide +kernel
theorem dX12_keys_32 : decode cX12_keys 32 = .ok (.istore 5, 2) := by decide +kernel
theorem dX12_keys_34 : decode cX12_keys 34 = .ok (.iload 5, 2) := by decide +kernel
theorem dX12_keys_36 : decode cX12_keys 36 = .ok (.iconst 1, 1) := by decide +kernel
theorem dX12_keys_37 : decode cX12_keys 37 = .ok (.aload_n 0, 1) := by decide +kernel
theorem dX12_keys_38 : decode cX12_keys 38 = .ok (.getfield 13, 3) := by decide +kernel
theorem dX12_keys_41 : decode cX12_keys 41 = .ok (.ishl, 1) := by decide +kernel
theorem dX12_keys_42 : decode cX12_keys 42 = .ok (.if_icmp .ge 53, 3) := by decide +kernel
theorem dX12_keys_45 : decode cX12_keys 45 = .ok (.aload_n 0, 1) := by decide +kernel
theorem dX12_keys_46 : decode cX12_keys 46 = .ok (.iload 5, 2) := by decide +kernel
theorem dX12_keys_48 : decode cX12_keys 48 = .ok (.putfield 121, 3) := by decide +kernel
theorem dX12_keys_51 : decode cX12_keys 51 = .ok (.iload 4, 2) := by decide +kernel
theorem dX12_keys_53 : decode cX12_keys 53 = .ok (.bipush (-9), 2) := by decide +kernel
theorem dX12_keys_55 : decode cX12_keys 55 = .ok (.if_icmp .eq 16, 3) := by decide +kernel
theorem dX12_keys_58 : decode cX12_keys 58 = .ok (.iload 5, 2) := by decide +kernel
theorem dX12_keys_60 : decode cX12_keys 60 = .ok (.invokestatic 355, 3) := by decide +kernel
theorem dX12_keys_63 : decode cX12_keys 63 = .ok (.iload 4, 2) := by decide +kernel
theorem dX12_keys_65 : decode cX12_keys 65 = .ok (.invokestatic 355, 3) := by decide +kernel
theorem dX12_keys_68 : decode cX12_keys 68 = .ok (.if_icmp .ge 17, 3) := by decide +kernel
theorem dX12_keys_71 : decode cX12_keys 71 = .ok (.aload_n 0, 1) := by decide +kernel
theorem dX12_keys_72 : decode cX12_keys 72 = .ok (.iload_n 1, 1) := by decide +kernel
theorem dX12_keys_73 : decode cX12_keys 73 = .ok (.iload_n 2, 1) := by decide +kernel
theorem dX12_keys_74 : decode cX12_keys 74 = .ok (.invokevirtual 295, 3) := by decide +kernel
theorem dX12_keys_77 : decode cX12_keys 77 = .ok (.ifCond .eq 8, 3) := by decide +kernel
theorem dX12_keys_80 : decode cX12_keys 80 = .ok (.iload 5, 2) := by decide +kernel
theorem dX12_keys_82 : decode cX12_keys 82 = .ok (.goto 5, 3) := by decide +kernel
theorem dX12_keys_85 : decode cX12_keys 85 = .ok (.iload 4, 2) := by decide +kernel
theorem dX12_keys_87 : decode cX12_keys 87 = .ok (.istore 4, 2) := by decide +kernel
theorem dX12_keys_89 : decode cX12_keys 89 = .ok (.iinc 5 1, 3) := by decide +kernel
theorem dX12_keys_92 : decode cX12_keys 92 = .ok (.goto (-58), 3) := by decide +kernel
theorem dX12_keys_95 : decode cX12_keys 95 = .ok (.aload_n 0, 1) := by decide +kernel
theorem dX12_keys_96 : decode cX12_keys 96 = .ok (.iload_n 3, 1) := by decide +kernel
theorem dX12_keys_97 : decode cX12_keys 97 = .ok (.putfield 121, 3) := by decide +kernel
theorem dX12_keys_100 : decode cX12_keys 100 = .ok (.iload 4, 2) := by decide +kernel
theorem dX12_keys_102 : decode cX12_keys 102 = .ok (.ireturn, 1) := by decide +kernel
theorem dX12_mayBegin_0 : decode cX12_mayBegin 0 = .ok (.iload_n 2, 1) := by decide +kernel
theorem dX12_mayBegin_1 : decode cX12_mayBegin 1 = .ok (.aload_n 0, 1) := by decide +kernel
theorem dX12_mayBegin_2 : decode cX12_mayBegin 2 = .ok (.getfield 23, 3) := by decide +kernel
theorem dX12_mayBegin_5 : decode cX12_mayBegin 5 = .ok (.iload_n 1, 1) := by decide +kernel
theorem dX12_mayBegin_6 : decode cX12_mayBegin 6 = .ok (.iaload, 1) := by decide +kernel
theorem dX12_mayBegin_7 : decode cX12_mayBegin 7 = .ok (.iadd, 1) := by decide +kernel
theorem dX12_mayBegin_8 : decode cX12_mayBegin 8 = .ok (.aload_n 0, 1) := by decide +kernel
theorem dX12_mayBegin_9 : decode cX12_mayBegin 9 = .ok (.getfield 20, 3) := by decide +kernel
theorem dX12_mayBegin_12 : decode cX12_mayBegin 12 = .ok (.iload_n 1, 1) := by decide +kernel
theorem dX12_mayBegin_13 : decode cX12_mayBegin 13 = .ok (.iaload, 1) := by decide +kernel
theorem dX12_mayBegin_14 : decode cX12_mayBegin 14 = .ok (.isub, 1) := by decide +kernel
theorem dX12_mayBegin_15 : decode cX12_mayBegin 15 = .ok (.istore_n 3, 1) := by decide +kernel
theorem dX12_mayBegin_16 : decode cX12_mayBegin 16 = .ok (.iload_n 2, 1) := by decide +kernel
theorem dX12_mayBegin_17 : decode cX12_mayBegin 17 = .ok (.i2l, 1) := by decide +kernel
theorem dX12_mayBegin_18 : decode cX12_mayBegin 18 = .ok (.lconst 0, 1) := by decide +kernel
theorem dX12_mayBegin_19 : decode cX12_mayBegin 19 = .ok (.ldc2_w 130, 3) := by decide +kernel
theorem dX12_mayBegin_22 : decode cX12_mayBegin 22 = .ok (.invokestatic 126, 3) := by decide +kernel
theorem dX12_mayBegin_25 : decode cX12_mayBegin 25 = .ok (.ifCond .eq 9, 3) := by decide +kernel
theorem dX12_mayBegin_28 : decode cX12_mayBegin 28 = .ok (.iload_n 3, 1) := by decide +kernel
theorem dX12_mayBegin_29 : decode cX12_mayBegin 29 = .ok (.bipush 9, 2) := by decide +kernel
theorem dX12_mayBegin_31 : decode cX12_mayBegin 31 = .ok (.if_icmp .le 5, 3) := by decide +kernel
theorem dX12_mayBegin_34 : decode cX12_mayBegin 34 = .ok (.iconst 0, 1) := by decide +kernel
theorem dX12_mayBegin_35 : decode cX12_mayBegin 35 = .ok (.ireturn, 1) := by decide +kernel
theorem dX12_mayBegin_36 : decode cX12_mayBegin 36 = .ok (.iconst 1, 1) := by decide +kernel
theorem dX12_mayBegin_37 : decode cX12_mayBegin 37 = .ok (.istore 4, 2) := by decide +kernel
theorem dX12_mayBegin_39 : decode cX12_mayBegin 39 = .ok (.iconst 0, 1) := by decide +kernel
theorem dX12_mayBegin_40 : decode cX12_mayBegin 40 = .ok (.istore 5, 2) := by decide +kernel
theorem dX12_mayBegin_42 : decode cX12_mayBegin 42 = .ok (.iload 5, 2) := by decide +kernel
theorem dX12_mayBegin_44 : decode cX12_mayBegin 44 = .ok (.aload_n 0, 1) := by decide +kernel
theorem dX12_mayBegin_45 : decode cX12_mayBegin 45 = .ok (.getfield 136, 3) := by decide +kernel
theorem dX12_mayBegin_48 : decode cX12_mayBegin 48 = .ok (.if_icmp .ge 65, 3) := by decide +kernel
theorem dX12_mayBegin_51 : decode cX12_mayBegin 51 = .ok (.iload 4, 2) := by decide +kernel
theorem dX12_mayBegin_53 : decode cX12_mayBegin 53 = .ok (.ifCond .eq 51, 3) := by decide +kernel
theorem dX12_mayBegin_56 : decode cX12_mayBegin 56 = .ok (.iload 5, 2) := by decide +kernel
theorem dX12_mayBegin_58 : decode cX12_mayBegin 58 = .ok (.iload_n 1, 1) := by decide +kernel
theorem dX12_mayBegin_59 : decode cX12_mayBegin 59 = .ok (.if_icmp .eq 41, 3) := by decide +kernel
theorem dX12_mayBegin_62 : decode cX12_mayBegin 62 = .ok (.aload_n 0, 1) := by decide +kernel
theorem dX12_mayBegin_63 : decode cX12_mayBegin 63 = .ok (.getfield 17, 3) := by decide +kernel
theorem dX12_mayBegin_66 : decode cX12_mayBegin 66 = .ok (.iload 5, 2) := by decide +kernel
theorem dX12_mayBegin_68 : decode cX12_mayBegin 68 = .ok (.iaload, 1) := by decide +kernel
theorem dX12_mayBegin_69 : decode cX12_mayBegin 69 = .ok (.aload_n 0, 1) := by decide +kernel
theorem dX12_mayBegin_70 : decode cX12_mayBegin 70 = .ok (.getfield 17, 3) := by decide +kernel
theorem dX12_mayBegin_73 : decode cX12_mayBegin 73 = .ok (.iload_n 1, 1) := by decide +kernel
theorem dX12_mayBegin_74 : decode cX12_mayBegin 74 = .ok (.iaload, 1) := by decide +kernel
theorem dX12_mayBegin_75 : decode cX12_mayBegin 75 = .ok (.if_icmp .ne 25, 3) := by decide +kernel
theorem dX12_mayBegin_78 : decode cX12_mayBegin 78 = .ok (.aload_n 0, 1) := by decide +kernel
theorem dX12_mayBegin_79 : decode cX12_mayBegin 79 = .ok (.getfield 23, 3) := by decide +kernel
theorem dX12_mayBegin_82 : decode cX12_mayBegin 82 = .ok (.iload 5, 2) := by decide +kernel
theorem dX12_mayBegin_84 : decode cX12_mayBegin 84 = .ok (.iaload, 1) := by decide +kernel
theorem dX12_mayBegin_85 : decode cX12_mayBegin 85 = .ok (.iload_n 2, 1) := by decide +kernel
theorem dX12_mayBegin_86 : decode cX12_mayBegin 86 = .ok (.if_icmp .lt 14, 3) := by decide +kernel
theorem dX12_mayBegin_89 : decode cX12_mayBegin 89 = .ok (.aload_n 0, 1) := by decide +kernel
theorem dX12_mayBegin_90 : decode cX12_mayBegin 90 = .ok (.getfield 20, 3) := by decide +kernel
theorem dX12_mayBegin_93 : decode cX12_mayBegin 93 = .ok (.iload 5, 2) := by decide +kernel
theorem dX12_mayBegin_95 : decode cX12_mayBegin 95 = .ok (.iaload, 1) := by decide +kernel
theorem dX12_mayBegin_96 : decode cX12_mayBegin 96 = .ok (.iload_n 3, 1) := by decide +kernel
theorem dX12_mayBegin_97 : decode cX12_mayBegin 97 = .ok (.if_icmp .le 7, 3) := by decide +kernel
theorem dX12_mayBegin_100 : decode cX12_mayBegin 100 = .ok (.iconst 1, 1) := by decide +kernel
theorem dX12_mayBegin_101 : decode cX12_mayBegin 101 = .ok (.goto 4, 3) := by decide +kernel
theorem dX12_mayBegin_104 : decode cX12_mayBegin 104 = .ok (.iconst 0, 1) := by decide +kernel
theorem dX12_mayBegin_105 : decode cX12_mayBegin 105 = .ok (.istore 4, 2) := by decide +kernel
theorem dX12_mayBegin_107 : decode cX12_mayBegin 107 = .ok (.iinc 5 1, 3) := by decide +kernel
theorem dX12_mayBegin_110 : decode cX12_mayBegin 110 = .ok (.goto (-68), 3) := by decide +kernel
theorem dX12_mayBegin_113 : decode cX12_mayBegin 113 = .ok (.iload 4, 2) := by decide +kernel
theorem dX12_mayBegin_115 : decode cX12_mayBegin 115 = .ok (.ireturn, 1) := by decide +kernel
theorem dX12_putAt_0 : decode cX12_putAt 0 = .ok (.aload_n 0, 1) := by decide +kernel
theorem dX12_putAt_1 : decode cX12_putAt 1 = .ok (.getfield 23, 3) := by decide +kernel
theorem dX12_putAt_4 : decode cX12_putAt 4 = .ok (.iload_n 1, 1) := by decide +kernel
theorem dX12_putAt_5 : decode cX12_putAt 5 = .ok (.dup2, 1) := by decide +kernel
theorem dX12_putAt_6 : decode cX12_putAt 6 = .ok (.iaload, 1) := by decide +kernel
theorem dX12_putAt_7 : decode cX12_putAt 7 = .ok (.iload_n 2, 1) := by decide +kernel
theorem dX12_putAt_8 : decode cX12_putAt 8 = .ok (.aload_n 0, 1) := by decide +kernel
theorem dX12_putAt_9 : decode cX12_putAt 9 = .ok (.getfield 20, 3) := by decide +kernel
theorem dX12_putAt_12 : decode cX12_putAt 12 = .ok (.iload_n 1, 1) := by decide +kernel
theorem dX12_putAt_13 : decode cX12_putAt 13 = .ok (.iaload, 1) := by decide +kernel
theorem dX12_putAt_14 : decode cX12_putAt 14 = .ok (.isub, 1) := by decide +kernel
theorem dX12_putAt_15 : decode cX12_putAt 15 = .ok (.iadd, 1) := by decide +kernel
theorem dX12_putAt_16 : decode cX12_putAt 16 = .ok (.iastore, 1) := by decide +kernel
theorem dX12_putAt_17 : decode cX12_putAt 17 = .ok (.aload_n 0, 1) := by decide +kernel
theorem dX12_putAt_18 : decode cX12_putAt 18 = .ok (.getfield 20, 3) := by decide +kernel
theorem dX12_putAt_21 : decode cX12_putAt 21 = .ok (.iload_n 1, 1) := by decide +kernel
theorem dX12_putAt_22 : decode cX12_putAt 22 = .ok (.iload_n 2, 1) := by decide +kernel
theorem dX12_putAt_23 : decode cX12_putAt 23 = .ok (.iastore, 1) := by decide +kernel
theorem dX12_putAt_24 : decode cX12_putAt 24 = .ok (.return_, 1) := by decide +kernel
theorem dX12_move_0 : decode cX12_move 0 = .ok (.aload_n 0, 1) := by decide +kernel
theorem dX12_move_1 : decode cX12_move 1 = .ok (.iconst 0, 1) := by decide +kernel
theorem dX12_move_2 : decode cX12_move 2 = .ok (.putfield 118, 3) := by decide +kernel
theorem dX12_move_5 : decode cX12_move 5 = .ok (.iload_n 1, 1) := by decide +kernel
theorem dX12_move_6 : decode cX12_move 6 = .ok (.invokestatic 213, 3) := by decide +kernel
theorem dX12_move_9 : decode cX12_move 9 = .ok (.ifCond .ne 11, 3) := by decide +kernel
theorem dX12_move_12 : decode cX12_move 12 = .ok (.aload_n 0, 1) := by decide +kernel
theorem dX12_move_13 : decode cX12_move 13 = .ok (.iload_n 2, 1) := by decide +kernel
theorem dX12_move_14 : decode cX12_move 14 = .ok (.invokevirtual 274, 3) := by decide +kernel
theorem dX12_move_17 : decode cX12_move 17 = .ok (.ifCond .eq 5, 3) := by decide +kernel
theorem dX12_move_20 : decode cX12_move 20 = .ok (.iconst (-1), 1) := by decide +kernel
theorem dX12_move_21 : decode cX12_move 21 = .ok (.ireturn, 1) := by decide +kernel
theorem dX12_move_22 : decode cX12_move 22 = .ok (.aload_n 0, 1) := by decide +kernel
theorem dX12_move_23 : decode cX12_move 23 = .ok (.iload_n 1, 1) := by decide +kernel
theorem dX12_move_24 : decode cX12_move 24 = .ok (.iload_n 2, 1) := by decide +kernel
theorem dX12_move_25 : decode cX12_move 25 = .ok (.invokevirtual 295, 3) := by decide +kernel
theorem dX12_move_28 : decode cX12_move 28 = .ok (.ifCond .eq 6, 3) := by decide +kernel
theorem dX12_move_31 : decode cX12_move 31 = .ok (.bipush 100, 2) := by decide +kernel
theorem dX12_move_33 : decode cX12_move 33 = .ok (.ireturn, 1) := by decide +kernel
theorem dX12_move_34 : decode cX12_move 34 = .ok (.iconst 0, 1) := by decide +kernel
theorem dX12_move_35 : decode cX12_move 35 = .ok (.istore_n 3, 1) := by decide +kernel
theorem dX12_move_36 : decode cX12_move 36 = .ok (.iload_n 3, 1) := by decide +kernel
theorem dX12_move_37 : decode cX12_move 37 = .ok (.iconst 4, 1) := by decide +kernel
theorem dX12_move_38 : decode cX12_move 38 = .ok (.if_icmp .ge 128, 3) := by decide +kernel
theorem dX12_move_41 : decode cX12_move 41 = .ok (.iload_n 3, 1) := by decide +kernel
theorem dX12_move_42 : decode cX12_move 42 = .ok (.ifCond .ne 7, 3) := by decide +kernel
theorem dX12_move_45 : decode cX12_move 45 = .ok (.iconst (-1), 1) := by decide +kernel
theorem dX12_move_46 : decode cX12_move 46 = .ok (.goto 23, 3) := by decide +kernel
theorem dX12_move_49 : decode cX12_move 49 = .ok (.iload_n 3, 1) := by decide +kernel
theorem dX12_move_50 : decode cX12_move 50 = .ok (.iconst 1, 1) := by decide +kernel
theorem dX12_move_51 : decode cX12_move 51 = .ok (.if_icmp .ne 7, 3) := by decide +kernel
theorem dX12_move_54 : decode cX12_move 54 = .ok (.iconst 1, 1) := by decide +kernel
theorem dX12_move_55 : decode cX12_move 55 = .ok (.goto 14, 3) := by decide +kernel
theorem dX12_move_58 : decode cX12_move 58 = .ok (.iload_n 3, 1) := by decide +kernel
theorem dX12_move_59 : decode cX12_move 59 = .ok (.iconst 2, 1) := by decide +kernel
theorem dX12_move_60 : decode cX12_move 60 = .ok (.if_icmp .ne 8, 3) := by decide +kernel
theorem dX12_move_63 : decode cX12_move 63 = .ok (.bipush (-2), 2) := by decide +kernel
theorem dX12_move_65 : decode cX12_move 65 = .ok (.goto 4, 3) := by decide +kernel
theorem dX12_move_68 : decode cX12_move 68 = .ok (.iconst 2, 1) := by decide +kernel
theorem dX12_move_69 : decode cX12_move 69 = .ok (.istore 4, 2) := by decide +kernel
theorem dX12_move_71 : decode cX12_move 71 = .ok (.iconst 0, 1) := by decide +kernel
theorem dX12_move_72 : decode cX12_move 72 = .ok (.istore 5, 2) := by decide +kernel
theorem dX12_move_74 : decode cX12_move 74 = .ok (.iload 5, 2) := by decide +kernel
theorem dX12_move_76 : decode cX12_move 76 = .ok (.aload_n 0, 1) := by decide +kernel
theorem dX12_move_77 : decode cX12_move 77 = .ok (.getfield 136, 3) := by decide +kernel
theorem dX12_move_80 : decode cX12_move 80 = .ok (.if_icmp .ge 80, 3) := by decide +kernel
theorem dX12_move_83 : decode cX12_move 83 = .ok (.aload_n 0, 1) := by decide +kernel
theorem dX12_move_84 : decode cX12_move 84 = .ok (.iload 5, 2) := by decide +kernel
theorem dX12_move_86 : decode cX12_move 86 = .ok (.aload_n 0, 1) := by decide +kernel
theorem dX12_move_87 : decode cX12_move 87 = .ok (.getfield 20, 3) := by decide +kernel
theorem dX12_move_90 : decode cX12_move 90 = .ok (.iload 5, 2) := by decide +kernel
theorem dX12_move_92 : decode cX12_move 92 = .ok (.iaload, 1) := by decide +kernel
theorem dX12_move_93 : decode cX12_move 93 = .ok (.iload 4, 2) := by decide +kernel
theorem dX12_move_95 : decode cX12_move 95 = .ok (.iadd, 1) := by decide +kernel
theorem dX12_move_96 : decode cX12_move 96 = .ok (.invokevirtual 358, 3) := by decide +kernel
theorem dX12_move_99 : decode cX12_move 99 = .ok (.ifCond .eq 55, 3) := by decide +kernel
theorem dX12_move_102 : decode cX12_move 102 = .ok (.aload_n 0, 1) := by decide +kernel
theorem dX12_move_103 : decode cX12_move 103 = .ok (.getfield 20, 3) := by decide +kernel
theorem dX12_move_106 : decode cX12_move 106 = .ok (.iload 5, 2) := by decide +kernel
theorem dX12_move_108 : decode cX12_move 108 = .ok (.iaload, 1) := by decide +kernel
theorem dX12_move_109 : decode cX12_move 109 = .ok (.istore 6, 2) := by decide +kernel
theorem dX12_move_111 : decode cX12_move 111 = .ok (.aload_n 0, 1) := by decide +kernel
theorem dX12_move_112 : decode cX12_move 112 = .ok (.iload 5, 2) := by decide +kernel
theorem dX12_move_114 : decode cX12_move 114 = .ok (.iload 6, 2) := by decide +kernel
theorem dX12_move_116 : decode cX12_move 116 = .ok (.iload 4, 2) := by decide +kernel
theorem dX12_move_118 : decode cX12_move 118 = .ok (.iadd, 1) := by decide +kernel
theorem dX12_move_119 : decode cX12_move 119 = .ok (.invokevirtual 361, 3) := by decide +kernel
theorem dX12_move_122 : decode cX12_move 122 = .ok (.aload_n 0, 1) := by decide +kernel
theorem dX12_move_123 : decode cX12_move 123 = .ok (.iload_n 1, 1) := by decide +kernel
theorem dX12_move_124 : decode cX12_move 124 = .ok (.iload_n 2, 1) := by decide +kernel
theorem dX12_move_125 : decode cX12_move 125 = .ok (.invokevirtual 295, 3) := by decide +kernel
theorem dX12_move_128 : decode cX12_move 128 = .ok (.istore 7, 2) := by decide +kernel
theorem dX12_move_130 : decode cX12_move 130 = .ok (.aload_n 0, 1) := by decide +kernel
theorem dX12_move_131 : decode cX12_move 131 = .ok (.iload 5, 2) := by decide +kernel
theorem dX12_move_133 : decode cX12_move 133 = .ok (.iload 6, 2) := by decide +kernel
theorem dX12_move_135 : decode cX12_move 135 = .ok (.invokevirtual 361, 3) := by decide +kernel
theorem dX12_move_138 : decode cX12_move 138 = .ok (.iload 7, 2) := by decide +kernel
theorem dX12_move_140 : decode cX12_move 140 = .ok (.ifCond .eq 14, 3) := by decide +kernel
theorem dX12_move_143 : decode cX12_move 143 = .ok (.bipush 10, 2) := by decide +kernel
theorem dX12_move_145 : decode cX12_move 145 = .ok (.iload 5, 2) := by decide +kernel
theorem dX12_move_147 : decode cX12_move 147 = .ok (.imul, 1) := by decide +kernel
theorem dX12_move_148 : decode cX12_move 148 = .ok (.iconst 2, 1) := by decide +kernel
theorem dX12_move_149 : decode cX12_move 149 = .ok (.iadd, 1) := by decide +kernel
theorem dX12_move_150 : decode cX12_move 150 = .ok (.iload 4, 2) := by decide +kernel
theorem dX12_move_152 : decode cX12_move 152 = .ok (.iadd, 1) := by decide +kernel
theorem dX12_move_153 : decode cX12_move 153 = .ok (.ireturn, 1) := by decide +kernel
theorem dX12_move_154 : decode cX12_move 154 = .ok (.iinc 5 1, 3) := by decide +kernel
theorem dX12_move_157 : decode cX12_move 157 = .ok (.goto (-83), 3) := by decide +kernel
theorem dX12_move_160 : decode cX12_move 160 = .ok (.iinc 3 1, 3) := by decide +kernel
theorem dX12_move_163 : decode cX12_move 163 = .ok (.goto (-127), 3) := by decide +kernel
theorem dX12_move_166 : decode cX12_move 166 = .ok (.bipush (-9), 2) := by decide +kernel
theorem dX12_move_168 : decode cX12_move 168 = .ok (.ireturn, 1) := by decide +kernel
theorem dX12_fits_0 : decode cX12_fits 0 = .ok (.aload_n 0, 1) := by decide +kernel
theorem dX12_fits_1 : decode cX12_fits 1 = .ok (.iconst 0, 1) := by decide +kernel
theorem dX12_fits_2 : decode cX12_fits 2 = .ok (.putfield 118, 3) := by decide +kernel
theorem dX12_fits_5 : decode cX12_fits 5 = .ok (.aload_n 0, 1) := by decide +kernel
theorem dX12_fits_6 : decode cX12_fits 6 = .ok (.iload_n 1, 1) := by decide +kernel
theorem dX12_fits_7 : decode cX12_fits 7 = .ok (.invokevirtual 219, 3) := by decide +kernel
theorem dX12_fits_10 : decode cX12_fits 10 = .ok (.ifCond .ne 10, 3) := by decide +kernel
theorem dX12_fits_13 : decode cX12_fits 13 = .ok (.iload_n 2, 1) := by decide +kernel
theorem dX12_fits_14 : decode cX12_fits 14 = .ok (.invokestatic 216, 3) := by decide +kernel
theorem dX12_fits_17 : decode cX12_fits 17 = .ok (.ifCond .eq 7, 3) := by decide +kernel
theorem dX12_fits_20 : decode cX12_fits 20 = .ok (.iconst (-1), 1) := by decide +kernel
theorem dX12_fits_21 : decode cX12_fits 21 = .ok (.goto 17, 3) := by decide +kernel
theorem dX12_fits_24 : decode cX12_fits 24 = .ok (.aload_n 0, 1) := by decide +kernel
theorem dX12_fits_25 : decode cX12_fits 25 = .ok (.iload_n 1, 1) := by decide +kernel
theorem dX12_fits_26 : decode cX12_fits 26 = .ok (.iload_n 2, 1) := by decide +kernel
theorem dX12_fits_27 : decode cX12_fits 27 = .ok (.invokevirtual 358, 3) := by decide +kernel
theorem dX12_fits_30 : decode cX12_fits 30 = .ok (.ifCond .eq 7, 3) := by decide +kernel
theorem dX12_fits_33 : decode cX12_fits 33 = .ok (.iconst 1, 1) := by decide +kernel
theorem dX12_fits_34 : decode cX12_fits 34 = .ok (.goto 4, 3) := by decide +kernel
theorem dX12_fits_37 : decode cX12_fits 37 = .ok (.iconst 0, 1) := by decide +kernel
theorem dX12_fits_38 : decode cX12_fits 38 = .ok (.ireturn, 1) := by decide +kernel
theorem dX12_shift_0 : decode cX12_shift 0 = .ok (.aload_n 0, 1) := by decide +kernel
theorem dX12_shift_1 : decode cX12_shift 1 = .ok (.iconst 0, 1) := by decide +kernel
theorem dX12_shift_2 : decode cX12_shift 2 = .ok (.putfield 118, 3) := by decide +kernel
theorem dX12_shift_5 : decode cX12_shift 5 = .ok (.aload_n 0, 1) := by decide +kernel
theorem dX12_shift_6 : decode cX12_shift 6 = .ok (.iload_n 1, 1) := by decide +kernel
theorem dX12_shift_7 : decode cX12_shift 7 = .ok (.invokevirtual 219, 3) := by decide +kernel
theorem dX12_shift_10 : decode cX12_shift 10 = .ok (.ifCond .ne 10, 3) := by decide +kernel
theorem dX12_shift_13 : decode cX12_shift 13 = .ok (.iload_n 2, 1) := by decide +kernel
theorem dX12_shift_14 : decode cX12_shift 14 = .ok (.invokestatic 216, 3) := by decide +kernel
theorem dX12_shift_17 : decode cX12_shift 17 = .ok (.ifCond .eq 5, 3) := by decide +kernel
theorem dX12_shift_20 : decode cX12_shift 20 = .ok (.iconst (-1), 1) := by decide +kernel
theorem dX12_shift_21 : decode cX12_shift 21 = .ok (.ireturn, 1) := by decide +kernel
theorem dX12_shift_22 : decode cX12_shift 22 = .ok (.aload_n 0, 1) := by decide +kernel
theorem dX12_shift_23 : decode cX12_shift 23 = .ok (.iload_n 1, 1) := by decide +kernel
theorem dX12_shift_24 : decode cX12_shift 24 = .ok (.iload_n 2, 1) := by decide +kernel
theorem dX12_shift_25 : decode cX12_shift 25 = .ok (.invokevirtual 358, 3) := by decide +kernel
theorem dX12_shift_28 : decode cX12_shift 28 = .ok (.ifCond .ne 6, 3) := by decide +kernel
theorem dX12_shift_31 : decode cX12_shift 31 = .ok (.bipush (-2), 2) := by decide +kernel
theorem dX12_shift_33 : decode cX12_shift 33 = .ok (.ireturn, 1) := by decide +kernel
theorem dX12_shift_34 : decode cX12_shift 34 = .ok (.aload_n 0, 1) := by decide +kernel
theorem dX12_shift_35 : decode cX12_shift 35 = .ok (.getfield 81, 3) := by decide +kernel
theorem dX12_shift_38 : decode cX12_shift 38 = .ok (.iconst 2, 1) := by decide +kernel
theorem dX12_shift_39 : decode cX12_shift 39 = .ok (.iaload, 1) := by decide +kernel
theorem dX12_shift_40 : decode cX12_shift 40 = .ok (.ifCond .ne 12, 3) := by decide +kernel
theorem dX12_shift_43 : decode cX12_shift 43 = .ok (.aload_n 0, 1) := by decide +kernel
theorem dX12_shift_44 : decode cX12_shift 44 = .ok (.getfield 81, 3) := by decide +kernel
theorem dX12_shift_47 : decode cX12_shift 47 = .ok (.iconst 3, 1) := by decide +kernel
theorem dX12_shift_48 : decode cX12_shift 48 = .ok (.iaload, 1) := by decide +kernel
theorem dX12_shift_49 : decode cX12_shift 49 = .ok (.ifCond .eq 6, 3) := by decide +kernel
theorem dX12_shift_52 : decode cX12_shift 52 = .ok (.bipush (-3), 2) := by decide +kernel
theorem dX12_shift_54 : decode cX12_shift 54 = .ok (.ireturn, 1) := by decide +kernel
theorem dX12_shift_55 : decode cX12_shift 55 = .ok (.aload_n 0, 1) := by decide +kernel
theorem dX12_shift_56 : decode cX12_shift 56 = .ok (.getfield 20, 3) := by decide +kernel
theorem dX12_shift_59 : decode cX12_shift 59 = .ok (.iload_n 1, 1) := by decide +kernel
theorem dX12_shift_60 : decode cX12_shift 60 = .ok (.iaload, 1) := by decide +kernel
theorem dX12_shift_61 : decode cX12_shift 61 = .ok (.istore_n 3, 1) := by decide +kernel
theorem dX12_shift_62 : decode cX12_shift 62 = .ok (.aload_n 0, 1) := by decide +kernel
theorem dX12_shift_63 : decode cX12_shift 63 = .ok (.iload_n 1, 1) := by decide +kernel
theorem dX12_shift_64 : decode cX12_shift 64 = .ok (.iload_n 2, 1) := by decide +kernel
theorem dX12_shift_65 : decode cX12_shift 65 = .ok (.invokevirtual 361, 3) := by decide +kernel
theorem dX12_shift_68 : decode cX12_shift 68 = .ok (.iload_n 3, 1) := by decide +kernel
theorem dX12_shift_69 : decode cX12_shift 69 = .ok (.ireturn, 1) := by decide +kernel
theorem dX12_forgetting_0 : decode cX12_forgetting 0 = .ok (.aload_n 0, 1) := by decide +kernel
theorem dX12_forgetting_1 : decode cX12_forgetting 1 = .ok (.iload_n 2, 1) := by decide +kernel
theorem dX12_forgetting_2 : decode cX12_forgetting 2 = .ok (.invokevirtual 263, 3) := by decide +kernel
theorem dX12_forgetting_5 : decode cX12_forgetting 5 = .ok (.lconst 1, 1) := by decide +kernel
theorem dX12_forgetting_6 : decode cX12_forgetting 6 = .ok (.lstore 5, 2) := by decide +kernel
theorem dX12_forgetting_8 : decode cX12_forgetting 8 = .ok (.iconst 0, 1) := by decide +kernel
theorem dX12_forgetting_9 : decode cX12_forgetting 9 = .ok (.istore 7, 2) := by decide +kernel
theorem dX12_forgetting_11 : decode cX12_forgetting 11 = .ok (.iload 7, 2) := by decide +kernel
theorem dX12_forgetting_13 : decode cX12_forgetting 13 = .ok (.iload 4, 2) := by decide +kernel
theorem dX12_forgetting_15 : decode cX12_forgetting 15 = .ok (.if_icmp .ge 95, 3) := by decide +kernel
theorem dX12_forgetting_18 : decode cX12_forgetting 18 = .ok (.iload_n 3, 1) := by decide +kernel
theorem dX12_forgetting_19 : decode cX12_forgetting 19 = .ok (.iload 7, 2) := by decide +kernel
theorem dX12_forgetting_21 : decode cX12_forgetting 21 = .ok (.ishr, 1) := by decide +kernel
theorem dX12_forgetting_22 : decode cX12_forgetting 22 = .ok (.iconst 1, 1) := by decide +kernel
theorem dX12_forgetting_23 : decode cX12_forgetting 23 = .ok (.iand, 1) := by decide +kernel
theorem dX12_forgetting_24 : decode cX12_forgetting 24 = .ok (.iconst 1, 1) := by decide +kernel
theorem dX12_forgetting_25 : decode cX12_forgetting 25 = .ok (.if_icmp .ne 7, 3) := by decide +kernel
theorem dX12_forgetting_28 : decode cX12_forgetting 28 = .ok (.iconst 1, 1) := by decide +kernel
theorem dX12_forgetting_29 : decode cX12_forgetting 29 = .ok (.goto 4, 3) := by decide +kernel
theorem dX12_forgetting_32 : decode cX12_forgetting 32 = .ok (.iconst 0, 1) := by decide +kernel
theorem dX12_forgetting_33 : decode cX12_forgetting 33 = .ok (.istore 8, 2) := by decide +kernel
theorem dX12_forgetting_35 : decode cX12_forgetting 35 = .ok (.aload_n 0, 1) := by decide +kernel
theorem dX12_forgetting_36 : decode cX12_forgetting 36 = .ok (.iload 7, 2) := by decide +kernel
theorem dX12_forgetting_38 : decode cX12_forgetting 38 = .ok (.aload_n 0, 1) := by decide +kernel
theorem dX12_forgetting_39 : decode cX12_forgetting 39 = .ok (.getfield 75, 3) := by decide +kernel
theorem dX12_forgetting_42 : decode cX12_forgetting 42 = .ok (.bipush 10, 2) := by decide +kernel
theorem dX12_forgetting_44 : decode cX12_forgetting 44 = .ok (.iload_n 1, 1) := by decide +kernel
theorem dX12_forgetting_45 : decode cX12_forgetting 45 = .ok (.imul, 1) := by decide +kernel
theorem dX12_forgetting_46 : decode cX12_forgetting 46 = .ok (.iload 7, 2) := by decide +kernel
theorem dX12_forgetting_48 : decode cX12_forgetting 48 = .ok (.iadd, 1) := by decide +kernel
theorem dX12_forgetting_49 : decode cX12_forgetting 49 = .ok (.iaload, 1) := by decide +kernel
theorem dX12_forgetting_50 : decode cX12_forgetting 50 = .ok (.iload 8, 2) := by decide +kernel
theorem dX12_forgetting_52 : decode cX12_forgetting 52 = .ok (.invokevirtual 267, 3) := by decide +kernel
theorem dX12_forgetting_55 : decode cX12_forgetting 55 = .ok (.pop, 1) := by decide +kernel
theorem dX12_forgetting_56 : decode cX12_forgetting 56 = .ok (.lload 5, 2) := by decide +kernel
theorem dX12_forgetting_58 : decode cX12_forgetting 58 = .ok (.aload_n 0, 1) := by decide +kernel
theorem dX12_forgetting_59 : decode cX12_forgetting 59 = .ok (.getfield 238, 3) := by decide +kernel
theorem dX12_forgetting_62 : decode cX12_forgetting 62 = .ok (.ifCond .eq 27, 3) := by decide +kernel
theorem dX12_forgetting_65 : decode cX12_forgetting 65 = .ok (.iload 8, 2) := by decide +kernel
theorem dX12_forgetting_67 : decode cX12_forgetting 67 = .ok (.ifCond .eq 11, 3) := by decide +kernel
theorem dX12_forgetting_70 : decode cX12_forgetting 70 = .ok (.aload_n 0, 1) := by decide +kernel
theorem dX12_forgetting_71 : decode cX12_forgetting 71 = .ok (.getfield 210, 3) := by decide +kernel
theorem dX12_forgetting_74 : decode cX12_forgetting 74 = .ok (.i2l, 1) := by decide +kernel
theorem dX12_forgetting_75 : decode cX12_forgetting 75 = .ok (.goto 26, 3) := by decide +kernel
theorem dX12_forgetting_78 : decode cX12_forgetting 78 = .ok (.bipush 10, 2) := by decide +kernel
theorem dX12_forgetting_80 : decode cX12_forgetting 80 = .ok (.aload_n 0, 1) := by decide +kernel
theorem dX12_forgetting_81 : decode cX12_forgetting 81 = .ok (.getfield 210, 3) := by decide +kernel
theorem dX12_forgetting_84 : decode cX12_forgetting 84 = .ok (.isub, 1) := by decide +kernel
theorem dX12_forgetting_85 : decode cX12_forgetting 85 = .ok (.i2l, 1) := by decide +kernel
theorem dX12_forgetting_86 : decode cX12_forgetting 86 = .ok (.goto 15, 3) := by decide +kernel
theorem dX12_forgetting_89 : decode cX12_forgetting 89 = .ok (.iload 8, 2) := by decide +kernel
theorem dX12_forgetting_91 : decode cX12_forgetting 91 = .ok (.ifCond .eq 7, 3) := by decide +kernel
theorem dX12_forgetting_94 : decode cX12_forgetting 94 = .ok (.lconst 0, 1) := by decide +kernel
theorem dX12_forgetting_95 : decode cX12_forgetting 95 = .ok (.goto 6, 3) := by decide +kernel
theorem dX12_forgetting_98 : decode cX12_forgetting 98 = .ok (.ldc2_w 134, 3) := by decide +kernel
theorem dX12_forgetting_101 : decode cX12_forgetting 101 = .ok (.lmul, 1) := by decide +kernel
theorem dX12_forgetting_102 : decode cX12_forgetting 102 = .ok (.lstore 5, 2) := by decide +kernel
theorem dX12_forgetting_104 : decode cX12_forgetting 104 = .ok (.iinc 7 1, 3) := by decide +kernel
theorem dX12_forgetting_107 : decode cX12_forgetting 107 = .ok (.goto (-96), 3) := by decide +kernel
theorem dX12_forgetting_110 : decode cX12_forgetting 110 = .ok (.lload 5, 2) := by decide +kernel
theorem dX12_forgetting_112 : decode cX12_forgetting 112 = .ok (.lreturn, 1) := by decide +kernel
theorem dX12_tens_0 : decode cX12_tens 0 = .ok (.lconst 1, 1) := by decide +kernel
theorem dX12_tens_1 : decode cX12_tens 1 = .ok (.lstore_n 1, 1) := by decide +kernel
theorem dX12_tens_2 : decode cX12_tens 2 = .ok (.iconst 0, 1) := by decide +kernel
theorem dX12_tens_3 : decode cX12_tens 3 = .ok (.istore_n 3, 1) := by decide +kernel
theorem dX12_tens_4 : decode cX12_tens 4 = .ok (.iload_n 3, 1) := by decide +kernel
theorem dX12_tens_5 : decode cX12_tens 5 = .ok (.iload_n 0, 1) := by decide +kernel
theorem dX12_tens_6 : decode cX12_tens 6 = .ok (.if_icmp .ge 15, 3) := by decide +kernel
theorem dX12_tens_9 : decode cX12_tens 9 = .ok (.lload_n 1, 1) := by decide +kernel
theorem dX12_tens_10 : decode cX12_tens 10 = .ok (.ldc2_w 134, 3) := by decide +kernel
theorem dX12_tens_13 : decode cX12_tens 13 = .ok (.lmul, 1) := by decide +kernel
theorem dX12_tens_14 : decode cX12_tens 14 = .ok (.lstore_n 1, 1) := by decide +kernel
theorem dX12_tens_15 : decode cX12_tens 15 = .ok (.iinc 3 1, 3) := by decide +kernel
theorem dX12_tens_18 : decode cX12_tens 18 = .ok (.goto (-14), 3) := by decide +kernel
theorem dX12_tens_21 : decode cX12_tens 21 = .ok (.lload_n 1, 1) := by decide +kernel
theorem dX12_tens_22 : decode cX12_tens 22 = .ok (.lreturn, 1) := by decide +kernel
theorem dX12_expect_0 : decode cX12_expect 0 = .ok (.lconst 0, 1) := by decide +kernel
theorem dX12_expect_1 : decode cX12_expect 1 = .ok (.lstore 4, 2) := by decide +kernel
theorem dX12_expect_3 : decode cX12_expect 3 = .ok (.iconst 0, 1) := by decide +kernel
theorem dX12_expect_4 : decode cX12_expect 4 = .ok (.istore 6, 2) := by decide +kernel
theorem dX12_expect_6 : decode cX12_expect 6 = .ok (.iload 6, 2) := by decide +kernel
theorem dX12_expect_8 : decode cX12_expect 8 = .ok (.sipush 1024, 3) := by decide +kernel
theorem dX12_expect_11 : decode cX12_expect 11 = .ok (.if_icmp .ge 54, 3) := by decide +kernel
theorem dX12_expect_14 : decode cX12_expect 14 = .ok (.aload_n 0, 1) := by decide +kernel
theorem dX12_expect_15 : decode cX12_expect 15 = .ok (.iload_n 1, 1) := by decide +kernel
theorem dX12_expect_16 : decode cX12_expect 16 = .ok (.iload_n 2, 1) := by decide +kernel
theorem dX12_expect_17 : decode cX12_expect 17 = .ok (.iload 6, 2) := by decide +kernel
theorem dX12_expect_19 : decode cX12_expect 19 = .ok (.bipush 10, 2) := by decide +kernel
theorem dX12_expect_21 : decode cX12_expect 21 = .ok (.invokevirtual 364, 3) := by decide +kernel
theorem dX12_expect_24 : decode cX12_expect 24 = .ok (.lstore 7, 2) := by decide +kernel
theorem dX12_expect_26 : decode cX12_expect 26 = .ok (.lload 4, 2) := by decide +kernel
theorem dX12_expect_28 : decode cX12_expect 28 = .ok (.iload_n 3, 1) := by decide +kernel
theorem dX12_expect_29 : decode cX12_expect 29 = .ok (.ifCond .eq 14, 3) := by decide +kernel
theorem dX12_expect_32 : decode cX12_expect 32 = .ok (.lload 7, 2) := by decide +kernel
theorem dX12_expect_34 : decode cX12_expect 34 = .ok (.aload_n 0, 1) := by decide +kernel
theorem dX12_expect_35 : decode cX12_expect 35 = .ok (.getfield 253, 3) := by decide +kernel
theorem dX12_expect_38 : decode cX12_expect 38 = .ok (.i2l, 1) := by decide +kernel
theorem dX12_expect_39 : decode cX12_expect 39 = .ok (.lmul, 1) := by decide +kernel
theorem dX12_expect_40 : decode cX12_expect 40 = .ok (.goto 16, 3) := by decide +kernel
theorem dX12_expect_43 : decode cX12_expect 43 = .ok (.aload_n 0, 1) := by decide +kernel
theorem dX12_expect_44 : decode cX12_expect 44 = .ok (.getfield 253, 3) := by decide +kernel
theorem dX12_expect_47 : decode cX12_expect 47 = .ok (.ifCond .ne 8, 3) := by decide +kernel
theorem dX12_expect_50 : decode cX12_expect 50 = .ok (.lload 7, 2) := by decide +kernel
theorem dX12_expect_52 : decode cX12_expect 52 = .ok (.goto 4, 3) := by decide +kernel
theorem dX12_expect_55 : decode cX12_expect 55 = .ok (.lconst 0, 1) := by decide +kernel
theorem dX12_expect_56 : decode cX12_expect 56 = .ok (.ladd, 1) := by decide +kernel
theorem dX12_expect_57 : decode cX12_expect 57 = .ok (.lstore 4, 2) := by decide +kernel
theorem dX12_expect_59 : decode cX12_expect 59 = .ok (.iinc 6 1, 3) := by decide +kernel
theorem dX12_expect_62 : decode cX12_expect 62 = .ok (.goto (-56), 3) := by decide +kernel
theorem dX12_expect_65 : decode cX12_expect 65 = .ok (.lload 4, 2) := by decide +kernel
theorem dX12_expect_67 : decode cX12_expect 67 = .ok (.lreturn, 1) := by decide +kernel
theorem dX12_mean_0 : decode cX12_mean 0 = .ok (.aload_n 0, 1) := by decide +kernel
theorem dX12_mean_1 : decode cX12_mean 1 = .ok (.iconst 0, 1) := by decide +kernel
theorem dX12_mean_2 : decode cX12_mean 2 = .ok (.putfield 118, 3) := by decide +kernel
theorem dX12_mean_5 : decode cX12_mean 5 = .ok (.iload_n 1, 1) := by decide +kernel
theorem dX12_mean_6 : decode cX12_mean 6 = .ok (.invokestatic 213, 3) := by decide +kernel
theorem dX12_mean_9 : decode cX12_mean 9 = .ok (.ifCond .ne 11, 3) := by decide +kernel
theorem dX12_mean_12 : decode cX12_mean 12 = .ok (.aload_n 0, 1) := by decide +kernel
theorem dX12_mean_13 : decode cX12_mean 13 = .ok (.iload_n 2, 1) := by decide +kernel
theorem dX12_mean_14 : decode cX12_mean 14 = .ok (.invokevirtual 274, 3) := by decide +kernel
theorem dX12_mean_17 : decode cX12_mean 17 = .ok (.ifCond .eq 9, 3) := by decide +kernel
theorem dX12_mean_20 : decode cX12_mean 20 = .ok (.ldc2_w 343, 3) := by decide +kernel
theorem dX12_mean_23 : decode cX12_mean 23 = .ok (.goto 19, 3) := by decide +kernel
theorem dX12_mean_26 : decode cX12_mean 26 = .ok (.aload_n 0, 1) := by decide +kernel
theorem dX12_mean_27 : decode cX12_mean 27 = .ok (.iload_n 1, 1) := by decide +kernel
theorem dX12_mean_28 : decode cX12_mean 28 = .ok (.iload_n 2, 1) := by decide +kernel
theorem dX12_mean_29 : decode cX12_mean 29 = .ok (.iconst 1, 1) := by decide +kernel
theorem dX12_mean_30 : decode cX12_mean 30 = .ok (.invokevirtual 368, 3) := by decide +kernel
theorem dX12_mean_33 : decode cX12_mean 33 = .ok (.bipush 10, 2) := by decide +kernel
theorem dX12_mean_35 : decode cX12_mean 35 = .ok (.invokestatic 372, 3) := by decide +kernel
theorem dX12_mean_38 : decode cX12_mean 38 = .ok (.iload_n 3, 1) := by decide +kernel
theorem dX12_mean_39 : decode cX12_mean 39 = .ok (.invokestatic 349, 3) := by decide +kernel
theorem dX12_mean_42 : decode cX12_mean 42 = .ok (.lreturn, 1) := by decide +kernel
theorem dX12_dry_0 : decode cX12_dry 0 = .ok (.aload_n 0, 1) := by decide +kernel
theorem dX12_dry_1 : decode cX12_dry 1 = .ok (.iconst 0, 1) := by decide +kernel
theorem dX12_dry_2 : decode cX12_dry 2 = .ok (.putfield 118, 3) := by decide +kernel
theorem dX12_dry_5 : decode cX12_dry 5 = .ok (.iload_n 1, 1) := by decide +kernel
theorem dX12_dry_6 : decode cX12_dry 6 = .ok (.invokestatic 213, 3) := by decide +kernel
theorem dX12_dry_9 : decode cX12_dry 9 = .ok (.ifCond .ne 11, 3) := by decide +kernel
theorem dX12_dry_12 : decode cX12_dry 12 = .ok (.aload_n 0, 1) := by decide +kernel
theorem dX12_dry_13 : decode cX12_dry 13 = .ok (.iload_n 2, 1) := by decide +kernel
theorem dX12_dry_14 : decode cX12_dry 14 = .ok (.invokevirtual 274, 3) := by decide +kernel
theorem dX12_dry_17 : decode cX12_dry 17 = .ok (.ifCond .eq 9, 3) := by decide +kernel
theorem dX12_dry_20 : decode cX12_dry 20 = .ok (.ldc2_w 343, 3) := by decide +kernel
theorem dX12_dry_23 : decode cX12_dry 23 = .ok (.goto 19, 3) := by decide +kernel
theorem dX12_dry_26 : decode cX12_dry 26 = .ok (.aload_n 0, 1) := by decide +kernel
theorem dX12_dry_27 : decode cX12_dry 27 = .ok (.iload_n 1, 1) := by decide +kernel
theorem dX12_dry_28 : decode cX12_dry 28 = .ok (.iload_n 2, 1) := by decide +kernel
theorem dX12_dry_29 : decode cX12_dry 29 = .ok (.iconst 0, 1) := by decide +kernel
theorem dX12_dry_30 : decode cX12_dry 30 = .ok (.invokevirtual 368, 3) := by decide +kernel
theorem dX12_dry_33 : decode cX12_dry 33 = .ok (.bipush 10, 2) := by decide +kernel
theorem dX12_dry_35 : decode cX12_dry 35 = .ok (.invokestatic 372, 3) := by decide +kernel
theorem dX12_dry_38 : decode cX12_dry 38 = .ok (.iload_n 3, 1) := by decide +kernel
theorem dX12_dry_39 : decode cX12_dry 39 = .ok (.invokestatic 349, 3) := by decide +kernel
theorem dX12_dry_42 : decode cX12_dry 42 = .ok (.lreturn, 1) := by decide +kernel
theorem dX12_layChances_0 : decode cX12_layChances 0 = .ok (.iconst 0, 1) := by decide +kernel
theorem dX12_layChances_1 : decode cX12_layChances 1 = .ok (.istore 4, 2) := by decide +kernel
theorem dX12_layChances_3 : decode cX12_layChances 3 = .ok (.iload 4, 2) := by decide +kernel
theorem dX12_layChances_5 : decode cX12_layChances 5 = .ok (.bipush 32, 2) := by decide +kernel
theorem dX12_layChances_7 : decode cX12_layChances 7 = .ok (.if_icmp .ge 17, 3) := by decide +kernel
theorem dX12_layChances_10 : decode cX12_layChances 10 = .ok (.aload_n 0, 1) := by decide +kernel
theorem dX12_layChances_11 : decode cX12_layChances 11 = .ok (.getfield 111, 3) := by decide +kernel
theorem dX12_layChances_14 : decode cX12_layChances 14 = .ok (.iload 4, 2) := by decide +kernel
theorem dX12_layChances_16 : decode cX12_layChances 16 = .ok (.lconst 0, 1) := by decide +kernel
theorem dX12_layChances_17 : decode cX12_layChances 17 = .ok (.lastore, 1) := by decide +kernel
theorem dX12_layChances_18 : decode cX12_layChances 18 = .ok (.iinc 4 1, 3) := by decide +kernel
theorem dX12_layChances_21 : decode cX12_layChances 21 = .ok (.goto (-18), 3) := by decide +kernel
theorem dX12_layChances_24 : decode cX12_layChances 24 = .ok (.iconst 0, 1) := by decide +kernel
theorem dX12_layChances_25 : decode cX12_layChances 25 = .ok (.istore 4, 2) := by decide +kernel
theorem dX12_layChances_27 : decode cX12_layChances 27 = .ok (.iload 4, 2) := by decide +kernel
theorem dX12_layChances_29 : decode cX12_layChances 29 = .ok (.iconst 1, 1) := by decide +kernel
theorem dX12_layChances_30 : decode cX12_layChances 30 = .ok (.iload_n 3, 1) := by decide +kernel
theorem dX12_layChances_31 : decode cX12_layChances 31 = .ok (.ishl, 1) := by decide +kernel
theorem dX12_layChances_32 : decode cX12_layChances 32 = .ok (.if_icmp .ge 34, 3) := by decide +kernel
theorem dX12_layChances_35 : decode cX12_layChances 35 = .ok (.aload_n 0, 1) := by decide +kernel
theorem dX12_layChances_36 : decode cX12_layChances 36 = .ok (.iload_n 1, 1) := by decide +kernel
theorem dX12_layChances_37 : decode cX12_layChances 37 = .ok (.iload_n 2, 1) := by decide +kernel
theorem dX12_layChances_38 : decode cX12_layChances 38 = .ok (.iload 4, 2) := by decide +kernel
theorem dX12_layChances_40 : decode cX12_layChances 40 = .ok (.iload_n 3, 1) := by decide +kernel
theorem dX12_layChances_41 : decode cX12_layChances 41 = .ok (.invokevirtual 364, 3) := by decide +kernel
theorem dX12_layChances_44 : decode cX12_layChances 44 = .ok (.lstore 5, 2) := by decide +kernel
theorem dX12_layChances_46 : decode cX12_layChances 46 = .ok (.aload_n 0, 1) := by decide +kernel
theorem dX12_layChances_47 : decode cX12_layChances 47 = .ok (.getfield 111, 3) := by decide +kernel
theorem dX12_layChances_50 : decode cX12_layChances 50 = .ok (.aload_n 0, 1) := by decide +kernel
theorem dX12_layChances_51 : decode cX12_layChances 51 = .ok (.getfield 224, 3) := by decide +kernel
theorem dX12_layChances_54 : decode cX12_layChances 54 = .ok (.dup2, 1) := by decide +kernel
theorem dX12_layChances_55 : decode cX12_layChances 55 = .ok (.laload, 1) := by decide +kernel
theorem dX12_layChances_56 : decode cX12_layChances 56 = .ok (.lload 5, 2) := by decide +kernel
theorem dX12_layChances_58 : decode cX12_layChances 58 = .ok (.ladd, 1) := by decide +kernel
theorem dX12_layChances_59 : decode cX12_layChances 59 = .ok (.lastore, 1) := by decide +kernel
theorem dX12_layChances_60 : decode cX12_layChances 60 = .ok (.iinc 4 1, 3) := by decide +kernel
theorem dX12_layChances_63 : decode cX12_layChances 63 = .ok (.goto (-36), 3) := by decide +kernel
theorem dX12_layChances_66 : decode cX12_layChances 66 = .ok (.return_, 1) := by decide +kernel
theorem dX12_chance_0 : decode cX12_chance 0 = .ok (.aload_n 0, 1) := by decide +kernel
theorem dX12_chance_1 : decode cX12_chance 1 = .ok (.iconst 0, 1) := by decide +kernel
theorem dX12_chance_2 : decode cX12_chance 2 = .ok (.putfield 118, 3) := by decide +kernel
theorem dX12_chance_5 : decode cX12_chance 5 = .ok (.iload_n 1, 1) := by decide +kernel
theorem dX12_chance_6 : decode cX12_chance 6 = .ok (.invokestatic 213, 3) := by decide +kernel
theorem dX12_chance_9 : decode cX12_chance 9 = .ok (.ifCond .ne 18, 3) := by decide +kernel
theorem dX12_chance_12 : decode cX12_chance 12 = .ok (.aload_n 0, 1) := by decide +kernel
theorem dX12_chance_13 : decode cX12_chance 13 = .ok (.iload_n 2, 1) := by decide +kernel
theorem dX12_chance_14 : decode cX12_chance 14 = .ok (.invokevirtual 274, 3) := by decide +kernel
theorem dX12_chance_17 : decode cX12_chance 17 = .ok (.ifCond .ne 10, 3) := by decide +kernel
theorem dX12_chance_20 : decode cX12_chance 20 = .ok (.iload_n 3, 1) := by decide +kernel
theorem dX12_chance_21 : decode cX12_chance 21 = .ok (.invokestatic 216, 3) := by decide +kernel
theorem dX12_chance_24 : decode cX12_chance 24 = .ok (.ifCond .eq 7, 3) := by decide +kernel
theorem dX12_chance_27 : decode cX12_chance 27 = .ok (.ldc2_w 343, 3) := by decide +kernel
theorem dX12_chance_30 : decode cX12_chance 30 = .ok (.lreturn, 1) := by decide +kernel
theorem dX12_chance_31 : decode cX12_chance 31 = .ok (.iload 4, 2) := by decide +kernel
theorem dX12_chance_33 : decode cX12_chance 33 = .ok (.i2l, 1) := by decide +kernel
theorem dX12_chance_34 : decode cX12_chance 34 = .ok (.lconst 0, 1) := by decide +kernel
theorem dX12_chance_35 : decode cX12_chance 35 = .ok (.ldc2_w 132, 3) := by decide +kernel
theorem dX12_chance_38 : decode cX12_chance 38 = .ok (.invokestatic 126, 3) := by decide +kernel
theorem dX12_chance_41 : decode cX12_chance 41 = .ok (.ifCond .ne 29, 3) := by decide +kernel
theorem dX12_chance_44 : decode cX12_chance 44 = .ok (.iload 4, 2) := by decide +kernel
theorem dX12_chance_46 : decode cX12_chance 46 = .ok (.i2l, 1) := by decide +kernel
theorem dX12_chance_47 : decode cX12_chance 47 = .ok (.ldc2_w 134, 3) := by decide +kernel
theorem dX12_chance_50 : decode cX12_chance 50 = .ok (.ldc2_w 298, 3) := by decide +kernel
theorem dX12_chance_53 : decode cX12_chance 53 = .ok (.invokestatic 126, 3) := by decide +kernel
theorem dX12_chance_56 : decode cX12_chance 56 = .ok (.ifCond .ne 14, 3) := by decide +kernel
theorem dX12_chance_59 : decode cX12_chance 59 = .ok (.iload 4, 2) := by decide +kernel
theorem dX12_chance_61 : decode cX12_chance 61 = .ok (.bipush 20, 2) := by decide +kernel
theorem dX12_chance_63 : decode cX12_chance 63 = .ok (.if_icmp .eq 7, 3) := by decide +kernel
theorem dX12_chance_66 : decode cX12_chance 66 = .ok (.ldc2_w 345, 3) := by decide +kernel
theorem dX12_chance_69 : decode cX12_chance 69 = .ok (.lreturn, 1) := by decide +kernel
theorem dX12_chance_70 : decode cX12_chance 70 = .ok (.aload_n 0, 1) := by decide +kernel
theorem dX12_chance_71 : decode cX12_chance 71 = .ok (.iload_n 1, 1) := by decide +kernel
theorem dX12_chance_72 : decode cX12_chance 72 = .ok (.iload_n 2, 1) := by decide +kernel
theorem dX12_chance_73 : decode cX12_chance 73 = .ok (.iload_n 3, 1) := by decide +kernel
theorem dX12_chance_74 : decode cX12_chance 74 = .ok (.invokevirtual 376, 3) := by decide +kernel
theorem dX12_chance_77 : decode cX12_chance 77 = .ok (.aload_n 0, 1) := by decide +kernel
theorem dX12_chance_78 : decode cX12_chance 78 = .ok (.getfield 111, 3) := by decide +kernel
theorem dX12_chance_81 : decode cX12_chance 81 = .ok (.iload 4, 2) := by decide +kernel
theorem dX12_chance_83 : decode cX12_chance 83 = .ok (.laload, 1) := by decide +kernel
theorem dX12_chance_84 : decode cX12_chance 84 = .ok (.iload_n 3, 1) := by decide +kernel
theorem dX12_chance_85 : decode cX12_chance 85 = .ok (.invokestatic 372, 3) := by decide +kernel
theorem dX12_chance_88 : decode cX12_chance 88 = .ok (.iload 5, 2) := by decide +kernel
theorem dX12_chance_90 : decode cX12_chance 90 = .ok (.invokestatic 349, 3) := by decide +kernel
theorem dX12_chance_93 : decode cX12_chance 93 = .ok (.lreturn, 1) := by decide +kernel
theorem dX12_isAhead_0 : decode cX12_isAhead 0 = .ok (.aload_n 0, 1) := by decide +kernel
theorem dX12_isAhead_1 : decode cX12_isAhead 1 = .ok (.getfield 30, 3) := by decide +kernel
theorem dX12_isAhead_4 : decode cX12_isAhead 4 = .ok (.iload_n 1, 1) := by decide +kernel
theorem dX12_isAhead_5 : decode cX12_isAhead 5 = .ok (.iaload, 1) := by decide +kernel
theorem dX12_isAhead_6 : decode cX12_isAhead 6 = .ok (.ifCond .eq 12, 3) := by decide +kernel
theorem dX12_isAhead_9 : decode cX12_isAhead 9 = .ok (.aload_n 0, 1) := by decide +kernel
theorem dX12_isAhead_10 : decode cX12_isAhead 10 = .ok (.getfield 30, 3) := by decide +kernel
theorem dX12_isAhead_13 : decode cX12_isAhead 13 = .ok (.iload_n 2, 1) := by decide +kernel
theorem dX12_isAhead_14 : decode cX12_isAhead 14 = .ok (.iaload, 1) := by decide +kernel
theorem dX12_isAhead_15 : decode cX12_isAhead 15 = .ok (.ifCond .ne 32, 3) := by decide +kernel
theorem dX12_isAhead_18 : decode cX12_isAhead 18 = .ok (.aload_n 0, 1) := by decide +kernel
theorem dX12_isAhead_19 : decode cX12_isAhead 19 = .ok (.getfield 30, 3) := by decide +kernel
theorem dX12_isAhead_22 : decode cX12_isAhead 22 = .ok (.iload_n 2, 1) := by decide +kernel
theorem dX12_isAhead_23 : decode cX12_isAhead 23 = .ok (.iaload, 1) := by decide +kernel
theorem dX12_isAhead_24 : decode cX12_isAhead 24 = .ok (.ifCond .ne 17, 3) := by decide +kernel
theorem dX12_isAhead_27 : decode cX12_isAhead 27 = .ok (.aload_n 0, 1) := by decide +kernel
theorem dX12_isAhead_28 : decode cX12_isAhead 28 = .ok (.getfield 30, 3) := by decide +kernel
theorem dX12_isAhead_31 : decode cX12_isAhead 31 = .ok (.iload_n 1, 1) := by decide +kernel
theorem dX12_isAhead_32 : decode cX12_isAhead 32 = .ok (.iaload, 1) := by decide +kernel
theorem dX12_isAhead_33 : decode cX12_isAhead 33 = .ok (.ifCond .ne 12, 3) := by decide +kernel
theorem dX12_isAhead_36 : decode cX12_isAhead 36 = .ok (.iload_n 1, 1) := by decide +kernel
theorem dX12_isAhead_37 : decode cX12_isAhead 37 = .ok (.iload_n 2, 1) := by decide +kernel
theorem dX12_isAhead_38 : decode cX12_isAhead 38 = .ok (.if_icmp .ge 7, 3) := by decide +kernel
theorem dX12_isAhead_41 : decode cX12_isAhead 41 = .ok (.iconst 1, 1) := by decide +kernel
theorem dX12_isAhead_42 : decode cX12_isAhead 42 = .ok (.goto 4, 3) := by decide +kernel
theorem dX12_isAhead_45 : decode cX12_isAhead 45 = .ok (.iconst 0, 1) := by decide +kernel
theorem dX12_isAhead_46 : decode cX12_isAhead 46 = .ok (.ireturn, 1) := by decide +kernel
theorem dX12_isAhead_47 : decode cX12_isAhead 47 = .ok (.aload_n 0, 1) := by decide +kernel
theorem dX12_isAhead_48 : decode cX12_isAhead 48 = .ok (.getfield 111, 3) := by decide +kernel
theorem dX12_isAhead_51 : decode cX12_isAhead 51 = .ok (.iload_n 1, 1) := by decide +kernel
theorem dX12_isAhead_52 : decode cX12_isAhead 52 = .ok (.laload, 1) := by decide +kernel
theorem dX12_isAhead_53 : decode cX12_isAhead 53 = .ok (.aload_n 0, 1) := by decide +kernel
theorem dX12_isAhead_54 : decode cX12_isAhead 54 = .ok (.getfield 30, 3) := by decide +kernel
theorem dX12_isAhead_57 : decode cX12_isAhead 57 = .ok (.iload_n 2, 1) := by decide +kernel
theorem dX12_isAhead_58 : decode cX12_isAhead 58 = .ok (.iaload, 1) := by decide +kernel
theorem dX12_isAhead_59 : decode cX12_isAhead 59 = .ok (.i2l, 1) := by decide +kernel
theorem dX12_isAhead_60 : decode cX12_isAhead 60 = .ok (.lmul, 1) := by decide +kernel
theorem dX12_isAhead_61 : decode cX12_isAhead 61 = .ok (.aload_n 0, 1) := by decide +kernel
theorem dX12_isAhead_62 : decode cX12_isAhead 62 = .ok (.getfield 111, 3) := by decide +kernel
theorem dX12_isAhead_65 : decode cX12_isAhead 65 = .ok (.iload_n 2, 1) := by decide +kernel
theorem dX12_isAhead_66 : decode cX12_isAhead 66 = .ok (.laload, 1) := by decide +kernel
theorem dX12_isAhead_67 : decode cX12_isAhead 67 = .ok (.aload_n 0, 1) := by decide +kernel
theorem dX12_isAhead_68 : decode cX12_isAhead 68 = .ok (.getfield 30, 3) := by decide +kernel
theorem dX12_isAhead_71 : decode cX12_isAhead 71 = .ok (.iload_n 1, 1) := by decide +kernel
theorem dX12_isAhead_72 : decode cX12_isAhead 72 = .ok (.iaload, 1) := by decide +kernel
theorem dX12_isAhead_73 : decode cX12_isAhead 73 = .ok (.i2l, 1) := by decide +kernel
theorem dX12_isAhead_74 : decode cX12_isAhead 74 = .ok (.lmul, 1) := by decide +kernel
theorem dX12_isAhead_75 : decode cX12_isAhead 75 = .ok (.lsub, 1) := by decide +kernel
theorem dX12_isAhead_76 : decode cX12_isAhead 76 = .ok (.lstore_n 3, 1) := by decide +kernel
theorem dX12_isAhead_77 : decode cX12_isAhead 77 = .ok (.lload_n 3, 1) := by decide +kernel
theorem dX12_isAhead_78 : decode cX12_isAhead 78 = .ok (.lconst 0, 1) := by decide +kernel
theorem dX12_isAhead_79 : decode cX12_isAhead 79 = .ok (.lcmp, 1) := by decide +kernel
theorem dX12_isAhead_80 : decode cX12_isAhead 80 = .ok (.ifCond .gt 14, 3) := by decide +kernel
theorem dX12_isAhead_83 : decode cX12_isAhead 83 = .ok (.lload_n 3, 1) := by decide +kernel
theorem dX12_isAhead_84 : decode cX12_isAhead 84 = .ok (.lconst 0, 1) := by decide +kernel
theorem dX12_isAhead_85 : decode cX12_isAhead 85 = .ok (.lcmp, 1) := by decide +kernel
theorem dX12_isAhead_86 : decode cX12_isAhead 86 = .ok (.ifCond .ne 12, 3) := by decide +kernel
theorem dX12_isAhead_89 : decode cX12_isAhead 89 = .ok (.iload_n 1, 1) := by decide +kernel
theorem dX12_isAhead_90 : decode cX12_isAhead 90 = .ok (.iload_n 2, 1) := by decide +kernel
theorem dX12_isAhead_91 : decode cX12_isAhead 91 = .ok (.if_icmp .ge 7, 3) := by decide +kernel
theorem dX12_isAhead_94 : decode cX12_isAhead 94 = .ok (.iconst 1, 1) := by decide +kernel
theorem dX12_isAhead_95 : decode cX12_isAhead 95 = .ok (.goto 4, 3) := by decide +kernel
theorem dX12_isAhead_98 : decode cX12_isAhead 98 = .ok (.iconst 0, 1) := by decide +kernel
theorem dX12_isAhead_99 : decode cX12_isAhead 99 = .ok (.ireturn, 1) := by decide +kernel
theorem dX12_mayLie_0 : decode cX12_mayLie 0 = .ok (.aload_n 0, 1) := by decide +kernel
theorem dX12_mayLie_1 : decode cX12_mayLie 1 = .ok (.iload_n 1, 1) := by decide +kernel
theorem dX12_mayLie_2 : decode cX12_mayLie 2 = .ok (.iload_n 2, 1) := by decide +kernel
theorem dX12_mayLie_3 : decode cX12_mayLie 3 = .ok (.invokevirtual 227, 3) := by decide +kernel
theorem dX12_mayLie_6 : decode cX12_mayLie 6 = .ok (.ifCond .eq 18, 3) := by decide +kernel
theorem dX12_mayLie_9 : decode cX12_mayLie 9 = .ok (.aload_n 0, 1) := by decide +kernel
theorem dX12_mayLie_10 : decode cX12_mayLie 10 = .ok (.getfield 111, 3) := by decide +kernel
theorem dX12_mayLie_13 : decode cX12_mayLie 13 = .ok (.iload_n 1, 1) := by decide +kernel
theorem dX12_mayLie_14 : decode cX12_mayLie 14 = .ok (.laload, 1) := by decide +kernel
theorem dX12_mayLie_15 : decode cX12_mayLie 15 = .ok (.lconst 0, 1) := by decide +kernel
theorem dX12_mayLie_16 : decode cX12_mayLie 16 = .ok (.lcmp, 1) := by decide +kernel
theorem dX12_mayLie_17 : decode cX12_mayLie 17 = .ok (.ifCond .le 7, 3) := by decide +kernel
theorem dX12_mayLie_20 : decode cX12_mayLie 20 = .ok (.iconst 1, 1) := by decide +kernel
theorem dX12_mayLie_21 : decode cX12_mayLie 21 = .ok (.goto 4, 3) := by decide +kernel
theorem dX12_mayLie_24 : decode cX12_mayLie 24 = .ok (.iconst 0, 1) := by decide +kernel
theorem dX12_mayLie_25 : decode cX12_mayLie 25 = .ok (.ireturn, 1) := by decide +kernel
theorem dX12_look_0 : decode cX12_look 0 = .ok (.aload_n 0, 1) := by decide +kernel
theorem dX12_look_1 : decode cX12_look 1 = .ok (.iconst 0, 1) := by decide +kernel
theorem dX12_look_2 : decode cX12_look 2 = .ok (.putfield 118, 3) := by decide +kernel
theorem dX12_look_5 : decode cX12_look 5 = .ok (.iload_n 1, 1) := by decide +kernel
theorem dX12_look_6 : decode cX12_look 6 = .ok (.invokestatic 213, 3) := by decide +kernel
theorem dX12_look_9 : decode cX12_look 9 = .ok (.ifCond .ne 18, 3) := by decide +kernel
theorem dX12_look_12 : decode cX12_look 12 = .ok (.aload_n 0, 1) := by decide +kernel
theorem dX12_look_13 : decode cX12_look 13 = .ok (.iload_n 2, 1) := by decide +kernel
theorem dX12_look_14 : decode cX12_look 14 = .ok (.invokevirtual 274, 3) := by decide +kernel
theorem dX12_look_17 : decode cX12_look 17 = .ok (.ifCond .ne 10, 3) := by decide +kernel
theorem dX12_look_20 : decode cX12_look 20 = .ok (.iload_n 3, 1) := by decide +kernel
theorem dX12_look_21 : decode cX12_look 21 = .ok (.invokestatic 216, 3) := by decide +kernel
theorem dX12_look_24 : decode cX12_look 24 = .ok (.ifCond .eq 5, 3) := by decide +kernel
theorem dX12_look_27 : decode cX12_look 27 = .ok (.iconst (-1), 1) := by decide +kernel
theorem dX12_look_28 : decode cX12_look 28 = .ok (.ireturn, 1) := by decide +kernel
theorem dX12_look_29 : decode cX12_look 29 = .ok (.aload_n 0, 1) := by decide +kernel
theorem dX12_look_30 : decode cX12_look 30 = .ok (.iload_n 1, 1) := by decide +kernel
theorem dX12_look_31 : decode cX12_look 31 = .ok (.iload_n 2, 1) := by decide +kernel
theorem dX12_look_32 : decode cX12_look 32 = .ok (.iload_n 3, 1) := by decide +kernel
theorem dX12_look_33 : decode cX12_look 33 = .ok (.invokevirtual 376, 3) := by decide +kernel
theorem dX12_look_36 : decode cX12_look 36 = .ok (.iconst 0, 1) := by decide +kernel
theorem dX12_look_37 : decode cX12_look 37 = .ok (.istore 5, 2) := by decide +kernel
theorem dX12_look_39 : decode cX12_look 39 = .ok (.iload 5, 2) := by decide +kernel
theorem dX12_look_41 : decode cX12_look 41 = .ok (.iconst 4, 1) := by decide +kernel
theorem dX12_look_42 : decode cX12_look 42 = .ok (.if_icmp .ge 85, 3) := by decide +kernel
theorem dX12_look_45 : decode cX12_look 45 = .ok (.iconst 0, 1) := by decide +kernel
theorem dX12_look_46 : decode cX12_look 46 = .ok (.istore 6, 2) := by decide +kernel
theorem dX12_look_48 : decode cX12_look 48 = .ok (.iconst 0, 1) := by decide +kernel
theorem dX12_look_49 : decode cX12_look 49 = .ok (.istore 7, 2) := by decide +kernel
theorem dX12_look_51 : decode cX12_look 51 = .ok (.iload 7, 2) := by decide +kernel
theorem dX12_look_53 : decode cX12_look 53 = .ok (.iconst 4, 1) := by decide +kernel
theorem dX12_look_54 : decode cX12_look 54 = .ok (.if_icmp .ge 47, 3) := by decide +kernel
theorem dX12_look_57 : decode cX12_look 57 = .ok (.iload 6, 2) := by decide +kernel
theorem dX12_look_59 : decode cX12_look 59 = .ok (.iload 7, 2) := by decide +kernel
theorem dX12_look_61 : decode cX12_look 61 = .ok (.iload 5, 2) := by decide +kernel
theorem dX12_look_63 : decode cX12_look 63 = .ok (.if_icmp .eq 28, 3) := by decide +kernel
theorem dX12_look_66 : decode cX12_look 66 = .ok (.aload_n 0, 1) := by decide +kernel
theorem dX12_look_67 : decode cX12_look 67 = .ok (.iload 7, 2) := by decide +kernel
theorem dX12_look_69 : decode cX12_look 69 = .ok (.iload_n 3, 1) := by decide +kernel
theorem dX12_look_70 : decode cX12_look 70 = .ok (.invokevirtual 379, 3) := by decide +kernel
theorem dX12_look_73 : decode cX12_look 73 = .ok (.ifCond .eq 18, 3) := by decide +kernel
theorem dX12_look_76 : decode cX12_look 76 = .ok (.aload_n 0, 1) := by decide +kernel
theorem dX12_look_77 : decode cX12_look 77 = .ok (.iload 7, 2) := by decide +kernel
theorem dX12_look_79 : decode cX12_look 79 = .ok (.iload 5, 2) := by decide +kernel
theorem dX12_look_81 : decode cX12_look 81 = .ok (.invokevirtual 382, 3) := by decide +kernel
theorem dX12_look_84 : decode cX12_look 84 = .ok (.ifCond .eq 7, 3) := by decide +kernel
theorem dX12_look_87 : decode cX12_look 87 = .ok (.iconst 1, 1) := by decide +kernel
theorem dX12_look_88 : decode cX12_look 88 = .ok (.goto 4, 3) := by decide +kernel
theorem dX12_look_91 : decode cX12_look 91 = .ok (.iconst 0, 1) := by decide +kernel
theorem dX12_look_92 : decode cX12_look 92 = .ok (.iadd, 1) := by decide +kernel
theorem dX12_look_93 : decode cX12_look 93 = .ok (.istore 6, 2) := by decide +kernel
theorem dX12_look_95 : decode cX12_look 95 = .ok (.iinc 7 1, 3) := by decide +kernel
theorem dX12_look_98 : decode cX12_look 98 = .ok (.goto (-47), 3) := by decide +kernel
theorem dX12_look_101 : decode cX12_look 101 = .ok (.aload_n 0, 1) := by decide +kernel
theorem dX12_look_102 : decode cX12_look 102 = .ok (.iload 5, 2) := by decide +kernel
theorem dX12_look_104 : decode cX12_look 104 = .ok (.iload_n 3, 1) := by decide +kernel
theorem dX12_look_105 : decode cX12_look 105 = .ok (.invokevirtual 379, 3) := by decide +kernel
theorem dX12_look_108 : decode cX12_look 108 = .ok (.ifCond .eq 13, 3) := by decide +kernel
theorem dX12_look_111 : decode cX12_look 111 = .ok (.iload 6, 2) := by decide +kernel
theorem dX12_look_113 : decode cX12_look 113 = .ok (.iload 4, 2) := by decide +kernel
theorem dX12_look_115 : decode cX12_look 115 = .ok (.if_icmp .ne 6, 3) := by decide +kernel
theorem dX12_look_118 : decode cX12_look 118 = .ok (.iload 5, 2) := by decide +kernel
theorem dX12_look_120 : decode cX12_look 120 = .ok (.ireturn, 1) := by decide +kernel
theorem dX12_look_121 : decode cX12_look 121 = .ok (.iinc 5 1, 3) := by decide +kernel
theorem dX12_look_124 : decode cX12_look 124 = .ok (.goto (-85), 3) := by decide +kernel
theorem dX12_look_127 : decode cX12_look 127 = .ok (.bipush (-9), 2) := by decide +kernel
theorem dX12_look_129 : decode cX12_look 129 = .ok (.ireturn, 1) := by decide +kernel
