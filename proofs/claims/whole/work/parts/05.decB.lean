theorem dX7_init_0 : decode cX7_init 0 = .ok (.aload_n 0, 1) := by decide +kernel
theorem dX7_init_1 : decode cX7_init 1 = .ok (.invokespecial 3, 3) := by decide +kernel
theorem dX7_init_4 : decode cX7_init 4 = .ok (.aload_n 0, 1) := by decide +kernel
theorem dX7_init_5 : decode cX7_init 5 = .ok (.bipush (-9), 2) := by decide +kernel
theorem dX7_init_7 : decode cX7_init 7 = .ok (.putfield 9, 3) := by decide +kernel
theorem dX7_init_10 : decode cX7_init 10 = .ok (.aload_n 0, 1) := by decide +kernel
theorem dX7_init_11 : decode cX7_init 11 = .ok (.iconst 0, 1) := by decide +kernel
theorem dX7_init_12 : decode cX7_init 12 = .ok (.putfield 15, 3) := by decide +kernel
theorem dX7_init_15 : decode cX7_init 15 = .ok (.aload_n 0, 1) := by decide +kernel
theorem dX7_init_16 : decode cX7_init 16 = .ok (.iconst 1, 1) := by decide +kernel
theorem dX7_init_17 : decode cX7_init 17 = .ok (.putfield 18, 3) := by decide +kernel
theorem dX7_init_20 : decode cX7_init 20 = .ok (.aload_n 0, 1) := by decide +kernel
theorem dX7_init_21 : decode cX7_init 21 = .ok (.iconst 0, 1) := by decide +kernel
theorem dX7_init_22 : decode cX7_init 22 = .ok (.putfield 21, 3) := by decide +kernel
theorem dX7_init_25 : decode cX7_init 25 = .ok (.aload_n 0, 1) := by decide +kernel
theorem dX7_init_26 : decode cX7_init 26 = .ok (.iconst 0, 1) := by decide +kernel
theorem dX7_init_27 : decode cX7_init 27 = .ok (.putfield 24, 3) := by decide +kernel
theorem dX7_init_30 : decode cX7_init 30 = .ok (.aload_n 0, 1) := by decide +kernel
theorem dX7_init_31 : decode cX7_init 31 = .ok (.iconst 0, 1) := by decide +kernel
theorem dX7_init_32 : decode cX7_init 32 = .ok (.putfield 27, 3) := by decide +kernel
theorem dX7_init_35 : decode cX7_init 35 = .ok (.aload_n 0, 1) := by decide +kernel
theorem dX7_init_36 : decode cX7_init 36 = .ok (.iconst 0, 1) := by decide +kernel
theorem dX7_init_37 : decode cX7_init 37 = .ok (.putfield 30, 3) := by decide +kernel
theorem dX7_init_40 : decode cX7_init 40 = .ok (.aload_n 0, 1) := by decide +kernel
theorem dX7_init_41 : decode cX7_init 41 = .ok (.new 33, 3) := by decide +kernel
theorem dX7_init_44 : decode cX7_init 44 = .ok (.dup, 1) := by decide +kernel
theorem dX7_init_45 : decode cX7_init 45 = .ok (.invokespecial 35, 3) := by decide +kernel
theorem dX7_init_48 : decode cX7_init 48 = .ok (.putfield 36, 3) := by decide +kernel
theorem dX7_init_51 : decode cX7_init 51 = .ok (.aload_n 0, 1) := by decide +kernel
theorem dX7_init_52 : decode cX7_init 52 = .ok (.bipush 11, 2) := by decide +kernel
theorem dX7_init_54 : decode cX7_init 54 = .ok (.newarray .int, 2) := by decide +kernel
theorem dX7_init_56 : decode cX7_init 56 = .ok (.putfield 40, 3) := by decide +kernel
theorem dX7_init_59 : decode cX7_init 59 = .ok (.aload_n 0, 1) := by decide +kernel
theorem dX7_init_60 : decode cX7_init 60 = .ok (.bipush 11, 2) := by decide +kernel
theorem dX7_init_62 : decode cX7_init 62 = .ok (.newarray .int, 2) := by decide +kernel
theorem dX7_init_64 : decode cX7_init 64 = .ok (.putfield 44, 3) := by decide +kernel
theorem dX7_init_67 : decode cX7_init 67 = .ok (.aload_n 0, 1) := by decide +kernel
theorem dX7_init_68 : decode cX7_init 68 = .ok (.aload_n 1, 1) := by decide +kernel
theorem dX7_init_69 : decode cX7_init 69 = .ok (.putfield 47, 3) := by decide +kernel
theorem dX7_init_72 : decode cX7_init 72 = .ok (.return_, 1) := by decide +kernel
theorem dX7_seek_0 : decode cX7_seek 0 = .ok (.aload_n 0, 1) := by decide +kernel
theorem dX7_seek_1 : decode cX7_seek 1 = .ok (.iload_n 3, 1) := by decide +kernel
theorem dX7_seek_2 : decode cX7_seek 2 = .ok (.putfield 21, 3) := by decide +kernel
theorem dX7_seek_5 : decode cX7_seek 5 = .ok (.aload_n 0, 1) := by decide +kernel
theorem dX7_seek_6 : decode cX7_seek 6 = .ok (.iload 4, 2) := by decide +kernel
theorem dX7_seek_8 : decode cX7_seek 8 = .ok (.putfield 24, 3) := by decide +kernel
theorem dX7_seek_11 : decode cX7_seek 11 = .ok (.aload_n 0, 1) := by decide +kernel
theorem dX7_seek_12 : decode cX7_seek 12 = .ok (.bipush (-9), 2) := by decide +kernel
theorem dX7_seek_14 : decode cX7_seek 14 = .ok (.putfield 9, 3) := by decide +kernel
theorem dX7_seek_17 : decode cX7_seek 17 = .ok (.aload_n 0, 1) := by decide +kernel
theorem dX7_seek_18 : decode cX7_seek 18 = .ok (.getfield 47, 3) := by decide +kernel
theorem dX7_seek_21 : decode cX7_seek 21 = .ok (.aload_n 1, 1) := by decide +kernel
theorem dX7_seek_22 : decode cX7_seek 22 = .ok (.invokevirtual 51, 3) := by decide +kernel
theorem dX7_seek_25 : decode cX7_seek 25 = .ok (.iconst 0, 1) := by decide +kernel
theorem dX7_seek_26 : decode cX7_seek 26 = .ok (.istore 5, 2) := by decide +kernel
theorem dX7_seek_28 : decode cX7_seek 28 = .ok (.iload 5, 2) := by decide +kernel
theorem dX7_seek_30 : decode cX7_seek 30 = .ok (.sipush 366, 3) := by decide +kernel
theorem dX7_seek_33 : decode cX7_seek 33 = .ok (.if_icmp .ge 81, 3) := by decide +kernel
theorem dX7_seek_36 : decode cX7_seek 36 = .ok (.aload_n 0, 1) := by decide +kernel
theorem dX7_seek_37 : decode cX7_seek 37 = .ok (.getfield 36, 3) := by decide +kernel
theorem dX7_seek_40 : decode cX7_seek 40 = .ok (.iload 5, 2) := by decide +kernel
theorem dX7_seek_42 : decode cX7_seek 42 = .ok (.invokevirtual 57, 3) := by decide +kernel
theorem dX7_seek_45 : decode cX7_seek 45 = .ok (.aload_n 0, 1) := by decide +kernel
theorem dX7_seek_46 : decode cX7_seek 46 = .ok (.iload_n 2, 1) := by decide +kernel
theorem dX7_seek_47 : decode cX7_seek 47 = .ok (.invokestatic 61, 3) := by decide +kernel
theorem dX7_seek_50 : decode cX7_seek 50 = .ok (.invokevirtual 65, 3) := by decide +kernel
theorem dX7_seek_53 : decode cX7_seek 53 = .ok (.ifCond .eq 55, 3) := by decide +kernel
theorem dX7_seek_56 : decode cX7_seek 56 = .ok (.aload_n 0, 1) := by decide +kernel
theorem dX7_seek_57 : decode cX7_seek 57 = .ok (.getfield 9, 3) := by decide +kernel
theorem dX7_seek_60 : decode cX7_seek 60 = .ok (.bipush (-9), 2) := by decide +kernel
theorem dX7_seek_62 : decode cX7_seek 62 = .ok (.if_icmp .eq 24, 3) := by decide +kernel
theorem dX7_seek_65 : decode cX7_seek 65 = .ok (.aload_n 0, 1) := by decide +kernel
theorem dX7_seek_66 : decode cX7_seek 66 = .ok (.getfield 27, 3) := by decide +kernel
theorem dX7_seek_69 : decode cX7_seek 69 = .ok (.aload_n 0, 1) := by decide +kernel
theorem dX7_seek_70 : decode cX7_seek 70 = .ok (.getfield 18, 3) := by decide +kernel
theorem dX7_seek_73 : decode cX7_seek 73 = .ok (.imul, 1) := by decide +kernel
theorem dX7_seek_74 : decode cX7_seek 74 = .ok (.aload_n 0, 1) := by decide +kernel
theorem dX7_seek_75 : decode cX7_seek 75 = .ok (.getfield 15, 3) := by decide +kernel
theorem dX7_seek_78 : decode cX7_seek 78 = .ok (.aload_n 0, 1) := by decide +kernel
theorem dX7_seek_79 : decode cX7_seek 79 = .ok (.getfield 30, 3) := by decide +kernel
theorem dX7_seek_82 : decode cX7_seek 82 = .ok (.imul, 1) := by decide +kernel
theorem dX7_seek_83 : decode cX7_seek 83 = .ok (.if_icmp .ge 25, 3) := by decide +kernel
theorem dX7_seek_86 : decode cX7_seek 86 = .ok (.aload_n 0, 1) := by decide +kernel
theorem dX7_seek_87 : decode cX7_seek 87 = .ok (.iload 5, 2) := by decide +kernel
theorem dX7_seek_89 : decode cX7_seek 89 = .ok (.putfield 9, 3) := by decide +kernel
theorem dX7_seek_92 : decode cX7_seek 92 = .ok (.aload_n 0, 1) := by decide +kernel
theorem dX7_seek_93 : decode cX7_seek 93 = .ok (.aload_n 0, 1) := by decide +kernel
theorem dX7_seek_94 : decode cX7_seek 94 = .ok (.getfield 27, 3) := by decide +kernel
theorem dX7_seek_97 : decode cX7_seek 97 = .ok (.putfield 15, 3) := by decide +kernel
theorem dX7_seek_100 : decode cX7_seek 100 = .ok (.aload_n 0, 1) := by decide +kernel
theorem dX7_seek_101 : decode cX7_seek 101 = .ok (.aload_n 0, 1) := by decide +kernel
theorem dX7_seek_102 : decode cX7_seek 102 = .ok (.getfield 30, 3) := by decide +kernel
theorem dX7_seek_105 : decode cX7_seek 105 = .ok (.putfield 18, 3) := by decide +kernel
theorem dX7_seek_108 : decode cX7_seek 108 = .ok (.iinc 5 1, 3) := by decide +kernel
theorem dX7_seek_111 : decode cX7_seek 111 = .ok (.goto (-83), 3) := by decide +kernel
theorem dX7_seek_114 : decode cX7_seek 114 = .ok (.return_, 1) := by decide +kernel
theorem dX7_nobodyStands_0 : decode cX7_nobodyStands 0 = .ok (.aload_n 0, 1) := by decide +kernel
theorem dX7_nobodyStands_1 : decode cX7_nobodyStands 1 = .ok (.getfield 40, 3) := by decide +kernel
theorem dX7_nobodyStands_4 : decode cX7_nobodyStands 4 = .ok (.bipush (-9), 2) := by decide +kernel
theorem dX7_nobodyStands_6 : decode cX7_nobodyStands 6 = .ok (.invokestatic 69, 3) := by decide +kernel
theorem dX7_nobodyStands_9 : decode cX7_nobodyStands 9 = .ok (.iconst 0, 1) := by decide +kernel
theorem dX7_nobodyStands_10 : decode cX7_nobodyStands 10 = .ok (.istore_n 2, 1) := by decide +kernel
theorem dX7_nobodyStands_11 : decode cX7_nobodyStands 11 = .ok (.iload_n 1, 1) := by decide +kernel
theorem dX7_nobodyStands_12 : decode cX7_nobodyStands 12 = .ok (.istore_n 3, 1) := by decide +kernel
theorem dX7_nobodyStands_13 : decode cX7_nobodyStands 13 = .ok (.iconst 0, 1) := by decide +kernel
theorem dX7_nobodyStands_14 : decode cX7_nobodyStands 14 = .ok (.istore 4, 2) := by decide +kernel
theorem dX7_nobodyStands_16 : decode cX7_nobodyStands 16 = .ok (.iload 4, 2) := by decide +kernel
theorem dX7_nobodyStands_18 : decode cX7_nobodyStands 18 = .ok (.bipush 11, 2) := by decide +kernel
theorem dX7_nobodyStands_20 : decode cX7_nobodyStands 20 = .ok (.if_icmp .ge 139, 3) := by decide +kernel
theorem dX7_nobodyStands_23 : decode cX7_nobodyStands 23 = .ok (.iload_n 3, 1) := by decide +kernel
theorem dX7_nobodyStands_24 : decode cX7_nobodyStands 24 = .ok (.ifCond .lt 135, 3) := by decide +kernel
theorem dX7_nobodyStands_27 : decode cX7_nobodyStands 27 = .ok (.iload_n 3, 1) := by decide +kernel
theorem dX7_nobodyStands_28 : decode cX7_nobodyStands 28 = .ok (.bipush 11, 2) := by decide +kernel
theorem dX7_nobodyStands_30 : decode cX7_nobodyStands 30 = .ok (.if_icmp .ge 129, 3) := by decide +kernel
theorem dX7_nobodyStands_33 : decode cX7_nobodyStands 33 = .ok (.aload_n 0, 1) := by decide +kernel
theorem dX7_nobodyStands_34 : decode cX7_nobodyStands 34 = .ok (.getfield 40, 3) := by decide +kernel
theorem dX7_nobodyStands_37 : decode cX7_nobodyStands 37 = .ok (.iload_n 3, 1) := by decide +kernel
theorem dX7_nobodyStands_38 : decode cX7_nobodyStands 38 = .ok (.iaload, 1) := by decide +kernel
theorem dX7_nobodyStands_39 : decode cX7_nobodyStands 39 = .ok (.bipush (-9), 2) := by decide +kernel
theorem dX7_nobodyStands_41 : decode cX7_nobodyStands 41 = .ok (.if_icmp .eq 30, 3) := by decide +kernel
theorem dX7_nobodyStands_44 : decode cX7_nobodyStands 44 = .ok (.aload_n 0, 1) := by decide +kernel
theorem dX7_nobodyStands_45 : decode cX7_nobodyStands 45 = .ok (.iload 4, 2) := by decide +kernel
theorem dX7_nobodyStands_47 : decode cX7_nobodyStands 47 = .ok (.aload_n 0, 1) := by decide +kernel
theorem dX7_nobodyStands_48 : decode cX7_nobodyStands 48 = .ok (.getfield 40, 3) := by decide +kernel
theorem dX7_nobodyStands_51 : decode cX7_nobodyStands 51 = .ok (.iload_n 3, 1) := by decide +kernel
theorem dX7_nobodyStands_52 : decode cX7_nobodyStands 52 = .ok (.iaload, 1) := by decide +kernel
theorem dX7_nobodyStands_53 : decode cX7_nobodyStands 53 = .ok (.isub, 1) := by decide +kernel
theorem dX7_nobodyStands_54 : decode cX7_nobodyStands 54 = .ok (.putfield 30, 3) := by decide +kernel
theorem dX7_nobodyStands_57 : decode cX7_nobodyStands 57 = .ok (.aload_n 0, 1) := by decide +kernel
theorem dX7_nobodyStands_58 : decode cX7_nobodyStands 58 = .ok (.iload_n 2, 1) := by decide +kernel
theorem dX7_nobodyStands_59 : decode cX7_nobodyStands 59 = .ok (.aload_n 0, 1) := by decide +kernel
theorem dX7_nobodyStands_60 : decode cX7_nobodyStands 60 = .ok (.getfield 44, 3) := by decide +kernel
theorem dX7_nobodyStands_63 : decode cX7_nobodyStands 63 = .ok (.iload_n 3, 1) := by decide +kernel
theorem dX7_nobodyStands_64 : decode cX7_nobodyStands 64 = .ok (.iaload, 1) := by decide +kernel
theorem dX7_nobodyStands_65 : decode cX7_nobodyStands 65 = .ok (.isub, 1) := by decide +kernel
theorem dX7_nobodyStands_66 : decode cX7_nobodyStands 66 = .ok (.putfield 27, 3) := by decide +kernel
theorem dX7_nobodyStands_69 : decode cX7_nobodyStands 69 = .ok (.iconst 1, 1) := by decide +kernel
theorem dX7_nobodyStands_70 : decode cX7_nobodyStands 70 = .ok (.ireturn, 1) := by decide +kernel
theorem dX7_nobodyStands_71 : decode cX7_nobodyStands 71 = .ok (.aload_n 0, 1) := by decide +kernel
theorem dX7_nobodyStands_72 : decode cX7_nobodyStands 72 = .ok (.getfield 40, 3) := by decide +kernel
theorem dX7_nobodyStands_75 : decode cX7_nobodyStands 75 = .ok (.iload_n 3, 1) := by decide +kernel
theorem dX7_nobodyStands_76 : decode cX7_nobodyStands 76 = .ok (.iload 4, 2) := by decide +kernel
theorem dX7_nobodyStands_78 : decode cX7_nobodyStands 78 = .ok (.iastore, 1) := by decide +kernel
theorem dX7_nobodyStands_79 : decode cX7_nobodyStands 79 = .ok (.aload_n 0, 1) := by decide +kernel
theorem dX7_nobodyStands_80 : decode cX7_nobodyStands 80 = .ok (.getfield 44, 3) := by decide +kernel
theorem dX7_nobodyStands_83 : decode cX7_nobodyStands 83 = .ok (.iload_n 3, 1) := by decide +kernel
theorem dX7_nobodyStands_84 : decode cX7_nobodyStands 84 = .ok (.iload_n 2, 1) := by decide +kernel
theorem dX7_nobodyStands_85 : decode cX7_nobodyStands 85 = .ok (.iastore, 1) := by decide +kernel
theorem dX7_nobodyStands_86 : decode cX7_nobodyStands 86 = .ok (.iconst 0, 1) := by decide +kernel
theorem dX7_nobodyStands_87 : decode cX7_nobodyStands 87 = .ok (.istore 5, 2) := by decide +kernel
theorem dX7_nobodyStands_89 : decode cX7_nobodyStands 89 = .ok (.iload 5, 2) := by decide +kernel
theorem dX7_nobodyStands_91 : decode cX7_nobodyStands 91 = .ok (.bipush 10, 2) := by decide +kernel
theorem dX7_nobodyStands_93 : decode cX7_nobodyStands 93 = .ok (.if_icmp .ge 60, 3) := by decide +kernel
theorem dX7_nobodyStands_96 : decode cX7_nobodyStands 96 = .ok (.iload_n 3, 1) := by decide +kernel
theorem dX7_nobodyStands_97 : decode cX7_nobodyStands 97 = .ok (.ifCond .lt 56, 3) := by decide +kernel
theorem dX7_nobodyStands_100 : decode cX7_nobodyStands 100 = .ok (.aload_n 0, 1) := by decide +kernel
theorem dX7_nobodyStands_101 : decode cX7_nobodyStands 101 = .ok (.getfield 36, 3) := by decide +kernel
theorem dX7_nobodyStands_104 : decode cX7_nobodyStands 104 = .ok (.iload 5, 2) := by decide +kernel
theorem dX7_nobodyStands_106 : decode cX7_nobodyStands 106 = .ok (.invokevirtual 75, 3) := by decide +kernel
theorem dX7_nobodyStands_109 : decode cX7_nobodyStands 109 = .ok (.istore 6, 2) := by decide +kernel
theorem dX7_nobodyStands_111 : decode cX7_nobodyStands 111 = .ok (.iload_n 2, 1) := by decide +kernel
theorem dX7_nobodyStands_112 : decode cX7_nobodyStands 112 = .ok (.aload_n 0, 1) := by decide +kernel
theorem dX7_nobodyStands_113 : decode cX7_nobodyStands 113 = .ok (.getfield 47, 3) := by decide +kernel
theorem dX7_nobodyStands_116 : decode cX7_nobodyStands 116 = .ok (.iload 5, 2) := by decide +kernel
theorem dX7_nobodyStands_118 : decode cX7_nobodyStands 118 = .ok (.iload_n 3, 1) := by decide +kernel
theorem dX7_nobodyStands_119 : decode cX7_nobodyStands 119 = .ok (.iload 6, 2) := by decide +kernel
theorem dX7_nobodyStands_121 : decode cX7_nobodyStands 121 = .ok (.aload_n 0, 1) := by decide +kernel
theorem dX7_nobodyStands_122 : decode cX7_nobodyStands 122 = .ok (.getfield 21, 3) := by decide +kernel
theorem dX7_nobodyStands_125 : decode cX7_nobodyStands 125 = .ok (.aload_n 0, 1) := by decide +kernel
theorem dX7_nobodyStands_126 : decode cX7_nobodyStands 126 = .ok (.getfield 24, 3) := by decide +kernel
theorem dX7_nobodyStands_129 : decode cX7_nobodyStands 129 = .ok (.invokevirtual 78, 3) := by decide +kernel
theorem dX7_nobodyStands_132 : decode cX7_nobodyStands 132 = .ok (.iadd, 1) := by decide +kernel
theorem dX7_nobodyStands_133 : decode cX7_nobodyStands 133 = .ok (.istore_n 2, 1) := by decide +kernel
theorem dX7_nobodyStands_134 : decode cX7_nobodyStands 134 = .ok (.aload_n 0, 1) := by decide +kernel
theorem dX7_nobodyStands_135 : decode cX7_nobodyStands 135 = .ok (.getfield 47, 3) := by decide +kernel
theorem dX7_nobodyStands_138 : decode cX7_nobodyStands 138 = .ok (.iload 5, 2) := by decide +kernel
theorem dX7_nobodyStands_140 : decode cX7_nobodyStands 140 = .ok (.iload_n 3, 1) := by decide +kernel
theorem dX7_nobodyStands_141 : decode cX7_nobodyStands 141 = .ok (.iload 6, 2) := by decide +kernel
theorem dX7_nobodyStands_143 : decode cX7_nobodyStands 143 = .ok (.invokevirtual 82, 3) := by decide +kernel
theorem dX7_nobodyStands_146 : decode cX7_nobodyStands 146 = .ok (.istore_n 3, 1) := by decide +kernel
theorem dX7_nobodyStands_147 : decode cX7_nobodyStands 147 = .ok (.iinc 5 1, 3) := by decide +kernel
theorem dX7_nobodyStands_150 : decode cX7_nobodyStands 150 = .ok (.goto (-61), 3) := by decide +kernel
theorem dX7_nobodyStands_153 : decode cX7_nobodyStands 153 = .ok (.iinc 4 1, 3) := by decide +kernel
theorem dX7_nobodyStands_156 : decode cX7_nobodyStands 156 = .ok (.goto (-140), 3) := by decide +kernel
theorem dX7_nobodyStands_159 : decode cX7_nobodyStands 159 = .ok (.iconst 0, 1) := by decide +kernel
theorem dX7_nobodyStands_160 : decode cX7_nobodyStands 160 = .ok (.ireturn, 1) := by decide +kernel
theorem dX8_init_0 : decode cX8_init 0 = .ok (.aload_n 0, 1) := by decide +kernel
theorem dX8_init_1 : decode cX8_init 1 = .ok (.invokespecial 3, 3) := by decide +kernel
theorem dX8_init_4 : decode cX8_init 4 = .ok (.aload_n 0, 1) := by decide +kernel
theorem dX8_init_5 : decode cX8_init 5 = .ok (.sipush 660, 3) := by decide +kernel
theorem dX8_init_8 : decode cX8_init 8 = .ok (.newarray .int, 2) := by decide +kernel
theorem dX8_init_10 : decode cX8_init 10 = .ok (.putfield 9, 3) := by decide +kernel
theorem dX8_init_13 : decode cX8_init 13 = .ok (.aload_n 0, 1) := by decide +kernel
theorem dX8_init_14 : decode cX8_init 14 = .ok (.sipush 660, 3) := by decide +kernel
theorem dX8_init_17 : decode cX8_init 17 = .ok (.newarray .int, 2) := by decide +kernel
theorem dX8_init_19 : decode cX8_init 19 = .ok (.putfield 15, 3) := by decide +kernel
theorem dX8_init_22 : decode cX8_init 22 = .ok (.aload_n 0, 1) := by decide +kernel
theorem dX8_init_23 : decode cX8_init 23 = .ok (.bipush 110, 2) := by decide +kernel
theorem dX8_init_25 : decode cX8_init 25 = .ok (.newarray .int, 2) := by decide +kernel
theorem dX8_init_27 : decode cX8_init 27 = .ok (.putfield 18, 3) := by decide +kernel
theorem dX8_init_30 : decode cX8_init 30 = .ok (.aload_n 0, 1) := by decide +kernel
theorem dX8_init_31 : decode cX8_init 31 = .ok (.bipush 110, 2) := by decide +kernel
theorem dX8_init_33 : decode cX8_init 33 = .ok (.newarray .boolean, 2) := by decide +kernel
theorem dX8_init_35 : decode cX8_init 35 = .ok (.putfield 21, 3) := by decide +kernel
theorem dX8_init_38 : decode cX8_init 38 = .ok (.aload_n 0, 1) := by decide +kernel
theorem dX8_init_39 : decode cX8_init 39 = .ok (.new 25, 3) := by decide +kernel
theorem dX8_init_42 : decode cX8_init 42 = .ok (.dup, 1) := by decide +kernel
theorem dX8_init_43 : decode cX8_init 43 = .ok (.invokespecial 27, 3) := by decide +kernel
theorem dX8_init_46 : decode cX8_init 46 = .ok (.putfield 28, 3) := by decide +kernel
theorem dX8_init_49 : decode cX8_init 49 = .ok (.return_, 1) := by decide +kernel
theorem dX8_prepare_0 : decode cX8_prepare 0 = .ok (.iconst 0, 1) := by decide +kernel
theorem dX8_prepare_1 : decode cX8_prepare 1 = .ok (.istore_n 2, 1) := by decide +kernel
theorem dX8_prepare_2 : decode cX8_prepare 2 = .ok (.iload_n 2, 1) := by decide +kernel
theorem dX8_prepare_3 : decode cX8_prepare 3 = .ok (.bipush 10, 2) := by decide +kernel
theorem dX8_prepare_5 : decode cX8_prepare 5 = .ok (.if_icmp .ge 84, 3) := by decide +kernel
theorem dX8_prepare_8 : decode cX8_prepare 8 = .ok (.aload_n 1, 1) := by decide +kernel
theorem dX8_prepare_9 : decode cX8_prepare 9 = .ok (.iload_n 2, 1) := by decide +kernel
theorem dX8_prepare_10 : decode cX8_prepare 10 = .ok (.invokevirtual 32, 3) := by decide +kernel
theorem dX8_prepare_13 : decode cX8_prepare 13 = .ok (.istore_n 3, 1) := by decide +kernel
theorem dX8_prepare_14 : decode cX8_prepare 14 = .ok (.iconst 0, 1) := by decide +kernel
theorem dX8_prepare_15 : decode cX8_prepare 15 = .ok (.istore 4, 2) := by decide +kernel
theorem dX8_prepare_17 : decode cX8_prepare 17 = .ok (.iload 4, 2) := by decide +kernel
theorem dX8_prepare_19 : decode cX8_prepare 19 = .ok (.bipush 11, 2) := by decide +kernel
theorem dX8_prepare_21 : decode cX8_prepare 21 = .ok (.if_icmp .ge 62, 3) := by decide +kernel
theorem dX8_prepare_24 : decode cX8_prepare 24 = .ok (.iload 4, 2) := by decide +kernel
theorem dX8_prepare_26 : decode cX8_prepare 26 = .ok (.invokestatic 38, 3) := by decide +kernel
theorem dX8_prepare_29 : decode cX8_prepare 29 = .ok (.istore 5, 2) := by decide +kernel
theorem dX8_prepare_31 : decode cX8_prepare 31 = .ok (.iload 5, 2) := by decide +kernel
theorem dX8_prepare_33 : decode cX8_prepare 33 = .ok (.bipush 20, 2) := by decide +kernel
theorem dX8_prepare_35 : decode cX8_prepare 35 = .ok (.if_icmp .ne 15, 3) := by decide +kernel
theorem dX8_prepare_38 : decode cX8_prepare 38 = .ok (.iload_n 3, 1) := by decide +kernel
theorem dX8_prepare_39 : decode cX8_prepare 39 = .ok (.ifCond .eq 7, 3) := by decide +kernel
theorem dX8_prepare_42 : decode cX8_prepare 42 = .ok (.iconst 1, 1) := by decide +kernel
theorem dX8_prepare_43 : decode cX8_prepare 43 = .ok (.goto 13, 3) := by decide +kernel
theorem dX8_prepare_46 : decode cX8_prepare 46 = .ok (.iconst 0, 1) := by decide +kernel
theorem dX8_prepare_47 : decode cX8_prepare 47 = .ok (.goto 9, 3) := by decide +kernel
theorem dX8_prepare_50 : decode cX8_prepare 50 = .ok (.aload_n 1, 1) := by decide +kernel
theorem dX8_prepare_51 : decode cX8_prepare 51 = .ok (.iload 5, 2) := by decide +kernel
theorem dX8_prepare_53 : decode cX8_prepare 53 = .ok (.invokevirtual 41, 3) := by decide +kernel
theorem dX8_prepare_56 : decode cX8_prepare 56 = .ok (.istore 6, 2) := by decide +kernel
theorem dX8_prepare_58 : decode cX8_prepare 58 = .ok (.aload_n 0, 1) := by decide +kernel
theorem dX8_prepare_59 : decode cX8_prepare 59 = .ok (.aload_n 1, 1) := by decide +kernel
theorem dX8_prepare_60 : decode cX8_prepare 60 = .ok (.iload_n 2, 1) := by decide +kernel
theorem dX8_prepare_61 : decode cX8_prepare 61 = .ok (.iload 4, 2) := by decide +kernel
theorem dX8_prepare_63 : decode cX8_prepare 63 = .ok (.iload 6, 2) := by decide +kernel
theorem dX8_prepare_65 : decode cX8_prepare 65 = .ok (.ifCond .eq 7, 3) := by decide +kernel
theorem dX8_prepare_68 : decode cX8_prepare 68 = .ok (.iload_n 3, 1) := by decide +kernel
theorem dX8_prepare_69 : decode cX8_prepare 69 = .ok (.goto 5, 3) := by decide +kernel
theorem dX8_prepare_72 : decode cX8_prepare 72 = .ok (.bipush (-9), 2) := by decide +kernel
theorem dX8_prepare_74 : decode cX8_prepare 74 = .ok (.invokevirtual 45, 3) := by decide +kernel
theorem dX8_prepare_77 : decode cX8_prepare 77 = .ok (.iinc 4 1, 3) := by decide +kernel
theorem dX8_prepare_80 : decode cX8_prepare 80 = .ok (.goto (-63), 3) := by decide +kernel
theorem dX8_prepare_83 : decode cX8_prepare 83 = .ok (.iinc 2 1, 3) := by decide +kernel
theorem dX8_prepare_86 : decode cX8_prepare 86 = .ok (.goto (-84), 3) := by decide +kernel
theorem dX8_prepare_89 : decode cX8_prepare 89 = .ok (.return_, 1) := by decide +kernel
theorem dX8_prepareActs_0 : decode cX8_prepareActs 0 = .ok (.iload_n 2, 1) := by decide +kernel
theorem dX8_prepareActs_1 : decode cX8_prepareActs 1 = .ok (.bipush 11, 2) := by decide +kernel
theorem dX8_prepareActs_3 : decode cX8_prepareActs 3 = .ok (.imul, 1) := by decide +kernel
theorem dX8_prepareActs_4 : decode cX8_prepareActs 4 = .ok (.iload_n 3, 1) := by decide +kernel
theorem dX8_prepareActs_5 : decode cX8_prepareActs 5 = .ok (.iadd, 1) := by decide +kernel
theorem dX8_prepareActs_6 : decode cX8_prepareActs 6 = .ok (.istore 5, 2) := by decide +kernel
theorem dX8_prepareActs_8 : decode cX8_prepareActs 8 = .ok (.aload_n 0, 1) := by decide +kernel
theorem dX8_prepareActs_9 : decode cX8_prepareActs 9 = .ok (.getfield 21, 3) := by decide +kernel
theorem dX8_prepareActs_12 : decode cX8_prepareActs 12 = .ok (.iload 5, 2) := by decide +kernel
theorem dX8_prepareActs_14 : decode cX8_prepareActs 14 = .ok (.iload 4, 2) := by decide +kernel
theorem dX8_prepareActs_16 : decode cX8_prepareActs 16 = .ok (.bipush (-9), 2) := by decide +kernel
theorem dX8_prepareActs_18 : decode cX8_prepareActs 18 = .ok (.if_icmp .eq 7, 3) := by decide +kernel
theorem dX8_prepareActs_21 : decode cX8_prepareActs 21 = .ok (.iconst 1, 1) := by decide +kernel
theorem dX8_prepareActs_22 : decode cX8_prepareActs 22 = .ok (.goto 4, 3) := by decide +kernel
theorem dX8_prepareActs_25 : decode cX8_prepareActs 25 = .ok (.iconst 0, 1) := by decide +kernel
theorem dX8_prepareActs_26 : decode cX8_prepareActs 26 = .ok (.bastore, 1) := by decide +kernel
theorem dX8_prepareActs_27 : decode cX8_prepareActs 27 = .ok (.iconst 0, 1) := by decide +kernel
theorem dX8_prepareActs_28 : decode cX8_prepareActs 28 = .ok (.istore 6, 2) := by decide +kernel
theorem dX8_prepareActs_30 : decode cX8_prepareActs 30 = .ok (.iload 6, 2) := by decide +kernel
theorem dX8_prepareActs_32 : decode cX8_prepareActs 32 = .ok (.bipush 6, 2) := by decide +kernel
theorem dX8_prepareActs_34 : decode cX8_prepareActs 34 = .ok (.if_icmp .ge 182, 3) := by decide +kernel
theorem dX8_prepareActs_37 : decode cX8_prepareActs 37 = .ok (.iload 5, 2) := by decide +kernel
theorem dX8_prepareActs_39 : decode cX8_prepareActs 39 = .ok (.bipush 6, 2) := by decide +kernel
theorem dX8_prepareActs_41 : decode cX8_prepareActs 41 = .ok (.imul, 1) := by decide +kernel
theorem dX8_prepareActs_42 : decode cX8_prepareActs 42 = .ok (.iload 6, 2) := by decide +kernel
theorem dX8_prepareActs_44 : decode cX8_prepareActs 44 = .ok (.iadd, 1) := by decide +kernel
theorem dX8_prepareActs_45 : decode cX8_prepareActs 45 = .ok (.istore 7, 2) := by decide +kernel
theorem dX8_prepareActs_47 : decode cX8_prepareActs 47 = .ok (.iload 4, 2) := by decide +kernel
theorem dX8_prepareActs_49 : decode cX8_prepareActs 49 = .ok (.bipush (-9), 2) := by decide +kernel
theorem dX8_prepareActs_51 : decode cX8_prepareActs 51 = .ok (.if_icmp .ne 15, 3) := by decide +kernel
theorem dX8_prepareActs_54 : decode cX8_prepareActs 54 = .ok (.aload_n 0, 1) := by decide +kernel
theorem dX8_prepareActs_55 : decode cX8_prepareActs 55 = .ok (.getfield 9, 3) := by decide +kernel
theorem dX8_prepareActs_58 : decode cX8_prepareActs 58 = .ok (.iload 7, 2) := by decide +kernel
theorem dX8_prepareActs_60 : decode cX8_prepareActs 60 = .ok (.bipush (-9), 2) := by decide +kernel
theorem dX8_prepareActs_62 : decode cX8_prepareActs 62 = .ok (.iastore, 1) := by decide +kernel
theorem dX8_prepareActs_63 : decode cX8_prepareActs 63 = .ok (.goto 147, 3) := by decide +kernel
theorem dX8_prepareActs_66 : decode cX8_prepareActs 66 = .ok (.aload_n 0, 1) := by decide +kernel
theorem dX8_prepareActs_67 : decode cX8_prepareActs 67 = .ok (.getfield 21, 3) := by decide +kernel
theorem dX8_prepareActs_70 : decode cX8_prepareActs 70 = .ok (.iload 5, 2) := by decide +kernel
theorem dX8_prepareActs_72 : decode cX8_prepareActs 72 = .ok (.baload, 1) := by decide +kernel
theorem dX8_prepareActs_73 : decode cX8_prepareActs 73 = .ok (.ifCond .eq 105, 3) := by decide +kernel
theorem dX8_prepareActs_76 : decode cX8_prepareActs 76 = .ok (.aload_n 0, 1) := by decide +kernel
theorem dX8_prepareActs_77 : decode cX8_prepareActs 77 = .ok (.getfield 28, 3) := by decide +kernel
theorem dX8_prepareActs_80 : decode cX8_prepareActs 80 = .ok (.iload_n 2, 1) := by decide +kernel
theorem dX8_prepareActs_81 : decode cX8_prepareActs 81 = .ok (.iload_n 3, 1) := by decide +kernel
theorem dX8_prepareActs_82 : decode cX8_prepareActs 82 = .ok (.invokestatic 38, 3) := by decide +kernel
theorem dX8_prepareActs_85 : decode cX8_prepareActs 85 = .ok (.iload 4, 2) := by decide +kernel
theorem dX8_prepareActs_87 : decode cX8_prepareActs 87 = .ok (.invokevirtual 49, 3) := by decide +kernel
theorem dX8_prepareActs_90 : decode cX8_prepareActs 90 = .ok (.aload_n 0, 1) := by decide +kernel
theorem dX8_prepareActs_91 : decode cX8_prepareActs 91 = .ok (.getfield 28, 3) := by decide +kernel
theorem dX8_prepareActs_94 : decode cX8_prepareActs 94 = .ok (.aload_n 1, 1) := by decide +kernel
theorem dX8_prepareActs_95 : decode cX8_prepareActs 95 = .ok (.iload 6, 2) := by decide +kernel
theorem dX8_prepareActs_97 : decode cX8_prepareActs 97 = .ok (.iconst 0, 1) := by decide +kernel
theorem dX8_prepareActs_98 : decode cX8_prepareActs 98 = .ok (.invokevirtual 53, 3) := by decide +kernel
theorem dX8_prepareActs_101 : decode cX8_prepareActs 101 = .ok (.aload_n 0, 1) := by decide +kernel
theorem dX8_prepareActs_102 : decode cX8_prepareActs 102 = .ok (.getfield 21, 3) := by decide +kernel
theorem dX8_prepareActs_105 : decode cX8_prepareActs 105 = .ok (.iload 5, 2) := by decide +kernel
theorem dX8_prepareActs_107 : decode cX8_prepareActs 107 = .ok (.aload_n 0, 1) := by decide +kernel
theorem dX8_prepareActs_108 : decode cX8_prepareActs 108 = .ok (.getfield 28, 3) := by decide +kernel
theorem dX8_prepareActs_111 : decode cX8_prepareActs 111 = .ok (.getfield 57, 3) := by decide +kernel
theorem dX8_prepareActs_114 : decode cX8_prepareActs 114 = .ok (.bastore, 1) := by decide +kernel
theorem dX8_prepareActs_115 : decode cX8_prepareActs 115 = .ok (.aload_n 0, 1) := by decide +kernel
theorem dX8_prepareActs_116 : decode cX8_prepareActs 116 = .ok (.getfield 18, 3) := by decide +kernel
theorem dX8_prepareActs_119 : decode cX8_prepareActs 119 = .ok (.iload 5, 2) := by decide +kernel
theorem dX8_prepareActs_121 : decode cX8_prepareActs 121 = .ok (.aload_n 0, 1) := by decide +kernel
theorem dX8_prepareActs_122 : decode cX8_prepareActs 122 = .ok (.getfield 28, 3) := by decide +kernel
theorem dX8_prepareActs_125 : decode cX8_prepareActs 125 = .ok (.getfield 60, 3) := by decide +kernel
theorem dX8_prepareActs_128 : decode cX8_prepareActs 128 = .ok (.iastore, 1) := by decide +kernel
theorem dX8_prepareActs_129 : decode cX8_prepareActs 129 = .ok (.aload_n 0, 1) := by decide +kernel
theorem dX8_prepareActs_130 : decode cX8_prepareActs 130 = .ok (.getfield 15, 3) := by decide +kernel
theorem dX8_prepareActs_133 : decode cX8_prepareActs 133 = .ok (.iload 7, 2) := by decide +kernel
theorem dX8_prepareActs_135 : decode cX8_prepareActs 135 = .ok (.aload_n 0, 1) := by decide +kernel
theorem dX8_prepareActs_136 : decode cX8_prepareActs 136 = .ok (.getfield 28, 3) := by decide +kernel
theorem dX8_prepareActs_139 : decode cX8_prepareActs 139 = .ok (.getfield 63, 3) := by decide +kernel
theorem dX8_prepareActs_142 : decode cX8_prepareActs 142 = .ok (.iastore, 1) := by decide +kernel
theorem dX8_prepareActs_143 : decode cX8_prepareActs 143 = .ok (.aload_n 0, 1) := by decide +kernel
theorem dX8_prepareActs_144 : decode cX8_prepareActs 144 = .ok (.getfield 9, 3) := by decide +kernel
theorem dX8_prepareActs_147 : decode cX8_prepareActs 147 = .ok (.iload 7, 2) := by decide +kernel
theorem dX8_prepareActs_149 : decode cX8_prepareActs 149 = .ok (.aload_n 0, 1) := by decide +kernel
theorem dX8_prepareActs_150 : decode cX8_prepareActs 150 = .ok (.getfield 28, 3) := by decide +kernel
theorem dX8_prepareActs_153 : decode cX8_prepareActs 153 = .ok (.getfield 66, 3) := by decide +kernel
theorem dX8_prepareActs_156 : decode cX8_prepareActs 156 = .ok (.ifCond .eq 8, 3) := by decide +kernel
theorem dX8_prepareActs_159 : decode cX8_prepareActs 159 = .ok (.bipush (-9), 2) := by decide +kernel
theorem dX8_prepareActs_161 : decode cX8_prepareActs 161 = .ok (.goto 13, 3) := by decide +kernel
theorem dX8_prepareActs_164 : decode cX8_prepareActs 164 = .ok (.aload_n 0, 1) := by decide +kernel
theorem dX8_prepareActs_165 : decode cX8_prepareActs 165 = .ok (.getfield 28, 3) := by decide +kernel
theorem dX8_prepareActs_168 : decode cX8_prepareActs 168 = .ok (.getfield 69, 3) := by decide +kernel
theorem dX8_prepareActs_171 : decode cX8_prepareActs 171 = .ok (.invokestatic 72, 3) := by decide +kernel
theorem dX8_prepareActs_174 : decode cX8_prepareActs 174 = .ok (.iastore, 1) := by decide +kernel
theorem dX8_prepareActs_175 : decode cX8_prepareActs 175 = .ok (.goto 35, 3) := by decide +kernel
theorem dX8_prepareActs_178 : decode cX8_prepareActs 178 = .ok (.aload_n 0, 1) := by decide +kernel
theorem dX8_prepareActs_179 : decode cX8_prepareActs 179 = .ok (.getfield 15, 3) := by decide +kernel
theorem dX8_prepareActs_182 : decode cX8_prepareActs 182 = .ok (.iload 7, 2) := by decide +kernel
theorem dX8_prepareActs_184 : decode cX8_prepareActs 184 = .ok (.aload_n 0, 1) := by decide +kernel
theorem dX8_prepareActs_185 : decode cX8_prepareActs 185 = .ok (.getfield 15, 3) := by decide +kernel
theorem dX8_prepareActs_188 : decode cX8_prepareActs 188 = .ok (.iload 7, 2) := by decide +kernel
theorem dX8_prepareActs_190 : decode cX8_prepareActs 190 = .ok (.iconst 1, 1) := by decide +kernel
theorem dX8_prepareActs_191 : decode cX8_prepareActs 191 = .ok (.isub, 1) := by decide +kernel
theorem dX8_prepareActs_192 : decode cX8_prepareActs 192 = .ok (.iaload, 1) := by decide +kernel
theorem dX8_prepareActs_193 : decode cX8_prepareActs 193 = .ok (.iastore, 1) := by decide +kernel
theorem dX8_prepareActs_194 : decode cX8_prepareActs 194 = .ok (.aload_n 0, 1) := by decide +kernel
theorem dX8_prepareActs_195 : decode cX8_prepareActs 195 = .ok (.getfield 9, 3) := by decide +kernel
theorem dX8_prepareActs_198 : decode cX8_prepareActs 198 = .ok (.iload 7, 2) := by decide +kernel
theorem dX8_prepareActs_200 : decode cX8_prepareActs 200 = .ok (.aload_n 0, 1) := by decide +kernel
theorem dX8_prepareActs_201 : decode cX8_prepareActs 201 = .ok (.getfield 9, 3) := by decide +kernel
theorem dX8_prepareActs_204 : decode cX8_prepareActs 204 = .ok (.iload 7, 2) := by decide +kernel
theorem dX8_prepareActs_206 : decode cX8_prepareActs 206 = .ok (.iconst 1, 1) := by decide +kernel
theorem dX8_prepareActs_207 : decode cX8_prepareActs 207 = .ok (.isub, 1) := by decide +kernel
theorem dX8_prepareActs_208 : decode cX8_prepareActs 208 = .ok (.iaload, 1) := by decide +kernel
theorem dX8_prepareActs_209 : decode cX8_prepareActs 209 = .ok (.iastore, 1) := by decide +kernel
theorem dX8_prepareActs_210 : decode cX8_prepareActs 210 = .ok (.iinc 6 1, 3) := by decide +kernel
theorem dX8_prepareActs_213 : decode cX8_prepareActs 213 = .ok (.goto (-183), 3) := by decide +kernel
theorem dX8_prepareActs_216 : decode cX8_prepareActs 216 = .ok (.return_, 1) := by decide +kernel
theorem dX8_isStep_0 : decode cX8_isStep 0 = .ok (.iload_n 0, 1) := by decide +kernel
theorem dX8_isStep_1 : decode cX8_isStep 1 = .ok (.ifCond .lt 33, 3) := by decide +kernel
theorem dX8_isStep_4 : decode cX8_isStep 4 = .ok (.iload_n 0, 1) := by decide +kernel
theorem dX8_isStep_5 : decode cX8_isStep 5 = .ok (.bipush 10, 2) := by decide +kernel
theorem dX8_isStep_7 : decode cX8_isStep 7 = .ok (.if_icmp .ge 27, 3) := by decide +kernel
theorem dX8_isStep_10 : decode cX8_isStep 10 = .ok (.iload_n 1, 1) := by decide +kernel
theorem dX8_isStep_11 : decode cX8_isStep 11 = .ok (.ifCond .lt 23, 3) := by decide +kernel
theorem dX8_isStep_14 : decode cX8_isStep 14 = .ok (.iload_n 1, 1) := by decide +kernel
theorem dX8_isStep_15 : decode cX8_isStep 15 = .ok (.bipush 11, 2) := by decide +kernel
theorem dX8_isStep_17 : decode cX8_isStep 17 = .ok (.if_icmp .ge 17, 3) := by decide +kernel
theorem dX8_isStep_20 : decode cX8_isStep 20 = .ok (.iload_n 2, 1) := by decide +kernel
theorem dX8_isStep_21 : decode cX8_isStep 21 = .ok (.ifCond .lt 13, 3) := by decide +kernel
theorem dX8_isStep_24 : decode cX8_isStep 24 = .ok (.iload_n 2, 1) := by decide +kernel
theorem dX8_isStep_25 : decode cX8_isStep 25 = .ok (.bipush 6, 2) := by decide +kernel
theorem dX8_isStep_27 : decode cX8_isStep 27 = .ok (.if_icmp .ge 7, 3) := by decide +kernel
theorem dX8_isStep_30 : decode cX8_isStep 30 = .ok (.iconst 1, 1) := by decide +kernel
theorem dX8_isStep_31 : decode cX8_isStep 31 = .ok (.goto 4, 3) := by decide +kernel
theorem dX8_isStep_34 : decode cX8_isStep 34 = .ok (.iconst 0, 1) := by decide +kernel
theorem dX8_isStep_35 : decode cX8_isStep 35 = .ok (.ireturn, 1) := by decide +kernel
theorem dX8_spotAfter_0 : decode cX8_spotAfter 0 = .ok (.iload_n 1, 1) := by decide +kernel
theorem dX8_spotAfter_1 : decode cX8_spotAfter 1 = .ok (.iload_n 2, 1) := by decide +kernel
theorem dX8_spotAfter_2 : decode cX8_spotAfter 2 = .ok (.iload_n 3, 1) := by decide +kernel
theorem dX8_spotAfter_3 : decode cX8_spotAfter 3 = .ok (.invokestatic 75, 3) := by decide +kernel
theorem dX8_spotAfter_6 : decode cX8_spotAfter 6 = .ok (.ifCond .eq 22, 3) := by decide +kernel
theorem dX8_spotAfter_9 : decode cX8_spotAfter 9 = .ok (.aload_n 0, 1) := by decide +kernel
theorem dX8_spotAfter_10 : decode cX8_spotAfter 10 = .ok (.getfield 9, 3) := by decide +kernel
theorem dX8_spotAfter_13 : decode cX8_spotAfter 13 = .ok (.iload_n 1, 1) := by decide +kernel
theorem dX8_spotAfter_14 : decode cX8_spotAfter 14 = .ok (.bipush 11, 2) := by decide +kernel
theorem dX8_spotAfter_16 : decode cX8_spotAfter 16 = .ok (.imul, 1) := by decide +kernel
theorem dX8_spotAfter_17 : decode cX8_spotAfter 17 = .ok (.iload_n 2, 1) := by decide +kernel
theorem dX8_spotAfter_18 : decode cX8_spotAfter 18 = .ok (.iadd, 1) := by decide +kernel
theorem dX8_spotAfter_19 : decode cX8_spotAfter 19 = .ok (.bipush 6, 2) := by decide +kernel
theorem dX8_spotAfter_21 : decode cX8_spotAfter 21 = .ok (.imul, 1) := by decide +kernel
theorem dX8_spotAfter_22 : decode cX8_spotAfter 22 = .ok (.iload_n 3, 1) := by decide +kernel
theorem dX8_spotAfter_23 : decode cX8_spotAfter 23 = .ok (.iadd, 1) := by decide +kernel
theorem dX8_spotAfter_24 : decode cX8_spotAfter 24 = .ok (.iaload, 1) := by decide +kernel
theorem dX8_spotAfter_25 : decode cX8_spotAfter 25 = .ok (.goto 5, 3) := by decide +kernel
theorem dX8_spotAfter_28 : decode cX8_spotAfter 28 = .ok (.bipush (-9), 2) := by decide +kernel
theorem dX8_spotAfter_30 : decode cX8_spotAfter 30 = .ok (.ireturn, 1) := by decide +kernel
theorem dX8_priceOf_0 : decode cX8_priceOf 0 = .ok (.iload_n 1, 1) := by decide +kernel
theorem dX8_priceOf_1 : decode cX8_priceOf 1 = .ok (.iload_n 2, 1) := by decide +kernel
theorem dX8_priceOf_2 : decode cX8_priceOf 2 = .ok (.iload_n 3, 1) := by decide +kernel
theorem dX8_priceOf_3 : decode cX8_priceOf 3 = .ok (.invokestatic 75, 3) := by decide +kernel
theorem dX8_priceOf_6 : decode cX8_priceOf 6 = .ok (.ifCond .ne 5, 3) := by decide +kernel
theorem dX8_priceOf_9 : decode cX8_priceOf 9 = .ok (.iconst 0, 1) := by decide +kernel
theorem dX8_priceOf_10 : decode cX8_priceOf 10 = .ok (.ireturn, 1) := by decide +kernel
theorem dX8_priceOf_11 : decode cX8_priceOf 11 = .ok (.iload_n 1, 1) := by decide +kernel
theorem dX8_priceOf_12 : decode cX8_priceOf 12 = .ok (.bipush 11, 2) := by decide +kernel
theorem dX8_priceOf_14 : decode cX8_priceOf 14 = .ok (.imul, 1) := by decide +kernel
theorem dX8_priceOf_15 : decode cX8_priceOf 15 = .ok (.iload_n 2, 1) := by decide +kernel
theorem dX8_priceOf_16 : decode cX8_priceOf 16 = .ok (.iadd, 1) := by decide +kernel
theorem dX8_priceOf_17 : decode cX8_priceOf 17 = .ok (.istore 6, 2) := by decide +kernel
theorem dX8_priceOf_19 : decode cX8_priceOf 19 = .ok (.iload 4, 2) := by decide +kernel
theorem dX8_priceOf_21 : decode cX8_priceOf 21 = .ok (.aload_n 0, 1) := by decide +kernel
theorem dX8_priceOf_22 : decode cX8_priceOf 22 = .ok (.getfield 15, 3) := by decide +kernel
theorem dX8_priceOf_25 : decode cX8_priceOf 25 = .ok (.iload 6, 2) := by decide +kernel
theorem dX8_priceOf_27 : decode cX8_priceOf 27 = .ok (.bipush 6, 2) := by decide +kernel
theorem dX8_priceOf_29 : decode cX8_priceOf 29 = .ok (.imul, 1) := by decide +kernel
theorem dX8_priceOf_30 : decode cX8_priceOf 30 = .ok (.iload_n 3, 1) := by decide +kernel
theorem dX8_priceOf_31 : decode cX8_priceOf 31 = .ok (.iadd, 1) := by decide +kernel
theorem dX8_priceOf_32 : decode cX8_priceOf 32 = .ok (.iaload, 1) := by decide +kernel
theorem dX8_priceOf_33 : decode cX8_priceOf 33 = .ok (.imul, 1) := by decide +kernel
theorem dX8_priceOf_34 : decode cX8_priceOf 34 = .ok (.iload 5, 2) := by decide +kernel
theorem dX8_priceOf_36 : decode cX8_priceOf 36 = .ok (.aload_n 0, 1) := by decide +kernel
theorem dX8_priceOf_37 : decode cX8_priceOf 37 = .ok (.getfield 18, 3) := by decide +kernel
theorem dX8_priceOf_40 : decode cX8_priceOf 40 = .ok (.iload 6, 2) := by decide +kernel
theorem dX8_priceOf_42 : decode cX8_priceOf 42 = .ok (.iaload, 1) := by decide +kernel
theorem dX8_priceOf_43 : decode cX8_priceOf 43 = .ok (.imul, 1) := by decide +kernel
theorem dX8_priceOf_44 : decode cX8_priceOf 44 = .ok (.iadd, 1) := by decide +kernel
theorem dX8_priceOf_45 : decode cX8_priceOf 45 = .ok (.ireturn, 1) := by decide +kernel
theorem dX8_choicesAt_0 : decode cX8_choicesAt 0 = .ok (.iload_n 1, 1) := by decide +kernel
theorem dX8_choicesAt_1 : decode cX8_choicesAt 1 = .ok (.iload_n 2, 1) := by decide +kernel
theorem dX8_choicesAt_2 : decode cX8_choicesAt 2 = .ok (.iconst 0, 1) := by decide +kernel
theorem dX8_choicesAt_3 : decode cX8_choicesAt 3 = .ok (.invokestatic 75, 3) := by decide +kernel
theorem dX8_choicesAt_6 : decode cX8_choicesAt 6 = .ok (.ifCond .eq 22, 3) := by decide +kernel
theorem dX8_choicesAt_9 : decode cX8_choicesAt 9 = .ok (.aload_n 0, 1) := by decide +kernel
theorem dX8_choicesAt_10 : decode cX8_choicesAt 10 = .ok (.getfield 21, 3) := by decide +kernel
theorem dX8_choicesAt_13 : decode cX8_choicesAt 13 = .ok (.iload_n 1, 1) := by decide +kernel
theorem dX8_choicesAt_14 : decode cX8_choicesAt 14 = .ok (.bipush 11, 2) := by decide +kernel
theorem dX8_choicesAt_16 : decode cX8_choicesAt 16 = .ok (.imul, 1) := by decide +kernel
theorem dX8_choicesAt_17 : decode cX8_choicesAt 17 = .ok (.iload_n 2, 1) := by decide +kernel
theorem dX8_choicesAt_18 : decode cX8_choicesAt 18 = .ok (.iadd, 1) := by decide +kernel
theorem dX8_choicesAt_19 : decode cX8_choicesAt 19 = .ok (.baload, 1) := by decide +kernel
theorem dX8_choicesAt_20 : decode cX8_choicesAt 20 = .ok (.ifCond .eq 8, 3) := by decide +kernel
theorem dX8_choicesAt_23 : decode cX8_choicesAt 23 = .ok (.bipush 6, 2) := by decide +kernel
theorem dX8_choicesAt_25 : decode cX8_choicesAt 25 = .ok (.goto 4, 3) := by decide +kernel
theorem dX8_choicesAt_28 : decode cX8_choicesAt 28 = .ok (.iconst 1, 1) := by decide +kernel
theorem dX8_choicesAt_29 : decode cX8_choicesAt 29 = .ok (.ireturn, 1) := by decide +kernel
theorem dX9_init_0 : decode cX9_init 0 = .ok (.aload_n 0, 1) := by decide +kernel
theorem dX9_init_1 : decode cX9_init 1 = .ok (.invokespecial 3, 3) := by decide +kernel
theorem dX9_init_4 : decode cX9_init 4 = .ok (.aload_n 0, 1) := by decide +kernel
theorem dX9_init_5 : decode cX9_init 5 = .ok (.bipush (-9), 2) := by decide +kernel
theorem dX9_init_7 : decode cX9_init 7 = .ok (.putfield 9, 3) := by decide +kernel
theorem dX9_init_10 : decode cX9_init 10 = .ok (.aload_n 0, 1) := by decide +kernel
theorem dX9_init_11 : decode cX9_init 11 = .ok (.bipush (-9), 2) := by decide +kernel
theorem dX9_init_13 : decode cX9_init 13 = .ok (.putfield 15, 3) := by decide +kernel
theorem dX9_init_16 : decode cX9_init 16 = .ok (.aload_n 0, 1) := by decide +kernel
theorem dX9_init_17 : decode cX9_init 17 = .ok (.bipush 10, 2) := by decide +kernel
theorem dX9_init_19 : decode cX9_init 19 = .ok (.newarray .int, 2) := by decide +kernel
theorem dX9_init_21 : decode cX9_init 21 = .ok (.putfield 18, 3) := by decide +kernel
theorem dX9_init_24 : decode cX9_init 24 = .ok (.aload_n 0, 1) := by decide +kernel
theorem dX9_init_25 : decode cX9_init 25 = .ok (.iconst 0, 1) := by decide +kernel
theorem dX9_init_26 : decode cX9_init 26 = .ok (.putfield 22, 3) := by decide +kernel
theorem dX9_init_29 : decode cX9_init 29 = .ok (.aload_n 0, 1) := by decide +kernel
theorem dX9_init_30 : decode cX9_init 30 = .ok (.iconst 0, 1) := by decide +kernel
theorem dX9_init_31 : decode cX9_init 31 = .ok (.putfield 25, 3) := by decide +kernel
theorem dX9_init_34 : decode cX9_init 34 = .ok (.aload_n 0, 1) := by decide +kernel
theorem dX9_init_35 : decode cX9_init 35 = .ok (.bipush 121, 2) := by decide +kernel
theorem dX9_init_37 : decode cX9_init 37 = .ok (.newarray .int, 2) := by decide +kernel
theorem dX9_init_39 : decode cX9_init 39 = .ok (.putfield 28, 3) := by decide +kernel
theorem dX9_init_42 : decode cX9_init 42 = .ok (.aload_n 0, 1) := by decide +kernel
theorem dX9_init_43 : decode cX9_init 43 = .ok (.aload_n 1, 1) := by decide +kernel
theorem dX9_init_44 : decode cX9_init 44 = .ok (.putfield 31, 3) := by decide +kernel
theorem dX9_init_47 : decode cX9_init 47 = .ok (.return_, 1) := by decide +kernel
theorem dX9_seek_0 : decode cX9_seek 0 = .ok (.aload_n 0, 1) := by decide +kernel
theorem dX9_seek_1 : decode cX9_seek 1 = .ok (.iload_n 2, 1) := by decide +kernel
theorem dX9_seek_2 : decode cX9_seek 2 = .ok (.putfield 22, 3) := by decide +kernel
theorem dX9_seek_5 : decode cX9_seek 5 = .ok (.aload_n 0, 1) := by decide +kernel
theorem dX9_seek_6 : decode cX9_seek 6 = .ok (.iload_n 3, 1) := by decide +kernel
theorem dX9_seek_7 : decode cX9_seek 7 = .ok (.putfield 25, 3) := by decide +kernel
theorem dX9_seek_10 : decode cX9_seek 10 = .ok (.aload_n 0, 1) := by decide +kernel
theorem dX9_seek_11 : decode cX9_seek 11 = .ok (.bipush (-9), 2) := by decide +kernel
theorem dX9_seek_13 : decode cX9_seek 13 = .ok (.putfield 9, 3) := by decide +kernel
theorem dX9_seek_16 : decode cX9_seek 16 = .ok (.aload_n 0, 1) := by decide +kernel
theorem dX9_seek_17 : decode cX9_seek 17 = .ok (.bipush (-9), 2) := by decide +kernel
theorem dX9_seek_19 : decode cX9_seek 19 = .ok (.putfield 15, 3) := by decide +kernel
theorem dX9_seek_22 : decode cX9_seek 22 = .ok (.aload_n 0, 1) := by decide +kernel
theorem dX9_seek_23 : decode cX9_seek 23 = .ok (.getfield 18, 3) := by decide +kernel
theorem dX9_seek_26 : decode cX9_seek 26 = .ok (.bipush (-9), 2) := by decide +kernel
theorem dX9_seek_28 : decode cX9_seek 28 = .ok (.invokestatic 35, 3) := by decide +kernel
theorem dX9_seek_31 : decode cX9_seek 31 = .ok (.aload_n 0, 1) := by decide +kernel
theorem dX9_seek_32 : decode cX9_seek 32 = .ok (.getfield 31, 3) := by decide +kernel
theorem dX9_seek_35 : decode cX9_seek 35 = .ok (.aload_n 1, 1) := by decide +kernel
theorem dX9_seek_36 : decode cX9_seek 36 = .ok (.invokevirtual 41, 3) := by decide +kernel
theorem dX9_seek_39 : decode cX9_seek 39 = .ok (.ldc 47, 2) := by decide +kernel
theorem dX9_seek_41 : decode cX9_seek 41 = .ok (.istore 4, 2) := by decide +kernel
theorem dX9_seek_43 : decode cX9_seek 43 = .ok (.iconst 0, 1) := by decide +kernel
theorem dX9_seek_44 : decode cX9_seek 44 = .ok (.istore 5, 2) := by decide +kernel
theorem dX9_seek_46 : decode cX9_seek 46 = .ok (.iload 5, 2) := by decide +kernel
theorem dX9_seek_48 : decode cX9_seek 48 = .ok (.bipush 10, 2) := by decide +kernel
theorem dX9_seek_50 : decode cX9_seek 50 = .ok (.if_icmp .ge 72, 3) := by decide +kernel
theorem dX9_seek_53 : decode cX9_seek 53 = .ok (.aload_n 1, 1) := by decide +kernel
theorem dX9_seek_54 : decode cX9_seek 54 = .ok (.iload 5, 2) := by decide +kernel
theorem dX9_seek_56 : decode cX9_seek 56 = .ok (.invokestatic 48, 3) := by decide +kernel
theorem dX9_seek_59 : decode cX9_seek 59 = .ok (.invokevirtual 52, 3) := by decide +kernel
theorem dX9_seek_62 : decode cX9_seek 62 = .ok (.ifCond .ne 6, 3) := by decide +kernel
theorem dX9_seek_65 : decode cX9_seek 65 = .ok (.goto 51, 3) := by decide +kernel
theorem dX9_seek_68 : decode cX9_seek 68 = .ok (.aload_n 0, 1) := by decide +kernel
theorem dX9_seek_69 : decode cX9_seek 69 = .ok (.iload 5, 2) := by decide +kernel
theorem dX9_seek_71 : decode cX9_seek 71 = .ok (.invokevirtual 58, 3) := by decide +kernel
theorem dX9_seek_74 : decode cX9_seek 74 = .ok (.aload_n 0, 1) := by decide +kernel
theorem dX9_seek_75 : decode cX9_seek 75 = .ok (.getfield 28, 3) := by decide +kernel
theorem dX9_seek_78 : decode cX9_seek 78 = .ok (.iload 5, 2) := by decide +kernel
theorem dX9_seek_80 : decode cX9_seek 80 = .ok (.iaload, 1) := by decide +kernel
theorem dX9_seek_81 : decode cX9_seek 81 = .ok (.iload 4, 2) := by decide +kernel
theorem dX9_seek_83 : decode cX9_seek 83 = .ok (.if_icmp .ge 33, 3) := by decide +kernel
theorem dX9_seek_86 : decode cX9_seek 86 = .ok (.aload_n 0, 1) := by decide +kernel
theorem dX9_seek_87 : decode cX9_seek 87 = .ok (.getfield 28, 3) := by decide +kernel
theorem dX9_seek_90 : decode cX9_seek 90 = .ok (.iload 5, 2) := by decide +kernel
theorem dX9_seek_92 : decode cX9_seek 92 = .ok (.iaload, 1) := by decide +kernel
theorem dX9_seek_93 : decode cX9_seek 93 = .ok (.istore 4, 2) := by decide +kernel
theorem dX9_seek_95 : decode cX9_seek 95 = .ok (.aload_n 0, 1) := by decide +kernel
theorem dX9_seek_96 : decode cX9_seek 96 = .ok (.iload 4, 2) := by decide +kernel
theorem dX9_seek_98 : decode cX9_seek 98 = .ok (.putfield 9, 3) := by decide +kernel
theorem dX9_seek_101 : decode cX9_seek 101 = .ok (.aload_n 0, 1) := by decide +kernel
theorem dX9_seek_102 : decode cX9_seek 102 = .ok (.iload 5, 2) := by decide +kernel
theorem dX9_seek_104 : decode cX9_seek 104 = .ok (.invokestatic 48, 3) := by decide +kernel
theorem dX9_seek_107 : decode cX9_seek 107 = .ok (.putfield 15, 3) := by decide +kernel
theorem dX9_seek_110 : decode cX9_seek 110 = .ok (.aload_n 0, 1) := by decide +kernel
theorem dX9_seek_111 : decode cX9_seek 111 = .ok (.iload 5, 2) := by decide +kernel
theorem dX9_seek_113 : decode cX9_seek 113 = .ok (.invokevirtual 62, 3) := by decide +kernel
theorem dX9_seek_116 : decode cX9_seek 116 = .ok (.iinc 5 1, 3) := by decide +kernel
theorem dX9_seek_119 : decode cX9_seek 119 = .ok (.goto (-73), 3) := by decide +kernel
theorem dX9_seek_122 : decode cX9_seek 122 = .ok (.return_, 1) := by decide +kernel
theorem dX9_priceAllTo_0 : decode cX9_priceAllTo 0 = .ok (.aload_n 0, 1) := by decide +kernel
theorem dX9_priceAllTo_1 : decode cX9_priceAllTo 1 = .ok (.getfield 28, 3) := by decide +kernel
theorem dX9_priceAllTo_4 : decode cX9_priceAllTo 4 = .ok (.ldc 47, 2) := by decide +kernel
theorem dX9_priceAllTo_6 : decode cX9_priceAllTo 6 = .ok (.invokestatic 35, 3) := by decide +kernel
theorem dX9_priceAllTo_9 : decode cX9_priceAllTo 9 = .ok (.aload_n 0, 1) := by decide +kernel
theorem dX9_priceAllTo_10 : decode cX9_priceAllTo 10 = .ok (.getfield 28, 3) := by decide +kernel
theorem dX9_priceAllTo_13 : decode cX9_priceAllTo 13 = .ok (.bipush 110, 2) := by decide +kernel
theorem dX9_priceAllTo_15 : decode cX9_priceAllTo 15 = .ok (.iload_n 1, 1) := by decide +kernel
theorem dX9_priceAllTo_16 : decode cX9_priceAllTo 16 = .ok (.iadd, 1) := by decide +kernel
theorem dX9_priceAllTo_17 : decode cX9_priceAllTo 17 = .ok (.iconst 0, 1) := by decide +kernel
theorem dX9_priceAllTo_18 : decode cX9_priceAllTo 18 = .ok (.iastore, 1) := by decide +kernel
theorem dX9_priceAllTo_19 : decode cX9_priceAllTo 19 = .ok (.bipush 9, 2) := by decide +kernel
theorem dX9_priceAllTo_21 : decode cX9_priceAllTo 21 = .ok (.istore_n 2, 1) := by decide +kernel
theorem dX9_priceAllTo_22 : decode cX9_priceAllTo 22 = .ok (.iload_n 2, 1) := by decide +kernel
theorem dX9_priceAllTo_23 : decode cX9_priceAllTo 23 = .ok (.ifCond .lt 40, 3) := by decide +kernel
theorem dX9_priceAllTo_26 : decode cX9_priceAllTo 26 = .ok (.iconst 0, 1) := by decide +kernel
theorem dX9_priceAllTo_27 : decode cX9_priceAllTo 27 = .ok (.istore_n 3, 1) := by decide +kernel
theorem dX9_priceAllTo_28 : decode cX9_priceAllTo 28 = .ok (.iload_n 3, 1) := by decide +kernel
theorem dX9_priceAllTo_29 : decode cX9_priceAllTo 29 = .ok (.bipush 11, 2) := by decide +kernel
theorem dX9_priceAllTo_31 : decode cX9_priceAllTo 31 = .ok (.if_icmp .ge 26, 3) := by decide +kernel
theorem dX9_priceAllTo_34 : decode cX9_priceAllTo 34 = .ok (.aload_n 0, 1) := by decide +kernel
theorem dX9_priceAllTo_35 : decode cX9_priceAllTo 35 = .ok (.getfield 28, 3) := by decide +kernel
theorem dX9_priceAllTo_38 : decode cX9_priceAllTo 38 = .ok (.iload_n 2, 1) := by decide +kernel
theorem dX9_priceAllTo_39 : decode cX9_priceAllTo 39 = .ok (.bipush 11, 2) := by decide +kernel
theorem dX9_priceAllTo_41 : decode cX9_priceAllTo 41 = .ok (.imul, 1) := by decide +kernel
theorem dX9_priceAllTo_42 : decode cX9_priceAllTo 42 = .ok (.iload_n 3, 1) := by decide +kernel
theorem dX9_priceAllTo_43 : decode cX9_priceAllTo 43 = .ok (.iadd, 1) := by decide +kernel
theorem dX9_priceAllTo_44 : decode cX9_priceAllTo 44 = .ok (.aload_n 0, 1) := by decide +kernel
theorem dX9_priceAllTo_45 : decode cX9_priceAllTo 45 = .ok (.iload_n 2, 1) := by decide +kernel
theorem dX9_priceAllTo_46 : decode cX9_priceAllTo 46 = .ok (.iload_n 3, 1) := by decide +kernel
theorem dX9_priceAllTo_47 : decode cX9_priceAllTo 47 = .ok (.invokevirtual 65, 3) := by decide +kernel
theorem dX9_priceAllTo_50 : decode cX9_priceAllTo 50 = .ok (.iastore, 1) := by decide +kernel
theorem dX9_priceAllTo_51 : decode cX9_priceAllTo 51 = .ok (.iinc 3 1, 3) := by decide +kernel
theorem dX9_priceAllTo_54 : decode cX9_priceAllTo 54 = .ok (.goto (-26), 3) := by decide +kernel
theorem dX9_priceAllTo_57 : decode cX9_priceAllTo 57 = .ok (.iinc 2 (-1), 3) := by decide +kernel
theorem dX9_priceAllTo_60 : decode cX9_priceAllTo 60 = .ok (.goto (-38), 3) := by decide +kernel
theorem dX9_priceAllTo_63 : decode cX9_priceAllTo 63 = .ok (.return_, 1) := by decide +kernel
theorem dX9_leastAt_0 : decode cX9_leastAt 0 = .ok (.aload_n 0, 1) := by decide +kernel
theorem dX9_leastAt_1 : decode cX9_leastAt 1 = .ok (.getfield 31, 3) := by decide +kernel
theorem dX9_leastAt_4 : decode cX9_leastAt 4 = .ok (.iload_n 1, 1) := by decide +kernel
theorem dX9_leastAt_5 : decode cX9_leastAt 5 = .ok (.iload_n 2, 1) := by decide +kernel
theorem dX9_leastAt_6 : decode cX9_leastAt 6 = .ok (.invokevirtual 69, 3) := by decide +kernel
theorem dX9_leastAt_9 : decode cX9_leastAt 9 = .ok (.istore_n 3, 1) := by decide +kernel
theorem dX9_leastAt_10 : decode cX9_leastAt 10 = .ok (.ldc 47, 2) := by decide +kernel
theorem dX9_leastAt_12 : decode cX9_leastAt 12 = .ok (.istore 4, 2) := by decide +kernel
theorem dX9_leastAt_14 : decode cX9_leastAt 14 = .ok (.iconst 0, 1) := by decide +kernel
theorem dX9_leastAt_15 : decode cX9_leastAt 15 = .ok (.istore 5, 2) := by decide +kernel
theorem dX9_leastAt_17 : decode cX9_leastAt 17 = .ok (.iload 5, 2) := by decide +kernel
theorem dX9_leastAt_19 : decode cX9_leastAt 19 = .ok (.iload_n 3, 1) := by decide +kernel
theorem dX9_leastAt_20 : decode cX9_leastAt 20 = .ok (.if_icmp .ge 24, 3) := by decide +kernel
theorem dX9_leastAt_23 : decode cX9_leastAt 23 = .ok (.iload 4, 2) := by decide +kernel
theorem dX9_leastAt_25 : decode cX9_leastAt 25 = .ok (.aload_n 0, 1) := by decide +kernel
theorem dX9_leastAt_26 : decode cX9_leastAt 26 = .ok (.iload_n 1, 1) := by decide +kernel
theorem dX9_leastAt_27 : decode cX9_leastAt 27 = .ok (.iload_n 2, 1) := by decide +kernel
theorem dX9_leastAt_28 : decode cX9_leastAt 28 = .ok (.iload 5, 2) := by decide +kernel
theorem dX9_leastAt_30 : decode cX9_leastAt 30 = .ok (.invokevirtual 72, 3) := by decide +kernel
theorem dX9_leastAt_33 : decode cX9_leastAt 33 = .ok (.invokestatic 76, 3) := by decide +kernel
theorem dX9_leastAt_36 : decode cX9_leastAt 36 = .ok (.istore 4, 2) := by decide +kernel
theorem dX9_leastAt_38 : decode cX9_leastAt 38 = .ok (.iinc 5 1, 3) := by decide +kernel
theorem dX9_leastAt_41 : decode cX9_leastAt 41 = .ok (.goto (-24), 3) := by decide +kernel
theorem dX9_leastAt_44 : decode cX9_leastAt 44 = .ok (.iload 4, 2) := by decide +kernel
theorem dX9_leastAt_46 : decode cX9_leastAt 46 = .ok (.ireturn, 1) := by decide +kernel
theorem dX9_priceBy_0 : decode cX9_priceBy 0 = .ok (.aload_n 0, 1) := by decide +kernel
theorem dX9_priceBy_1 : decode cX9_priceBy 1 = .ok (.getfield 31, 3) := by decide +kernel
theorem dX9_priceBy_4 : decode cX9_priceBy 4 = .ok (.iload_n 1, 1) := by decide +kernel
theorem dX9_priceBy_5 : decode cX9_priceBy 5 = .ok (.iload_n 2, 1) := by decide +kernel
theorem dX9_priceBy_6 : decode cX9_priceBy 6 = .ok (.iload_n 3, 1) := by decide +kernel
theorem dX9_priceBy_7 : decode cX9_priceBy 7 = .ok (.invokevirtual 81, 3) := by decide +kernel
theorem dX9_priceBy_10 : decode cX9_priceBy 10 = .ok (.istore 4, 2) := by decide +kernel
theorem dX9_priceBy_12 : decode cX9_priceBy 12 = .ok (.iload 4, 2) := by decide +kernel
theorem dX9_priceBy_14 : decode cX9_priceBy 14 = .ok (.ifCond .ge 6, 3) := by decide +kernel
theorem dX9_priceBy_17 : decode cX9_priceBy 17 = .ok (.ldc 47, 2) := by decide +kernel
theorem dX9_priceBy_19 : decode cX9_priceBy 19 = .ok (.ireturn, 1) := by decide +kernel
theorem dX9_priceBy_20 : decode cX9_priceBy 20 = .ok (.aload_n 0, 1) := by decide +kernel
theorem dX9_priceBy_21 : decode cX9_priceBy 21 = .ok (.getfield 28, 3) := by decide +kernel
theorem dX9_priceBy_24 : decode cX9_priceBy 24 = .ok (.iload_n 1, 1) := by decide +kernel
theorem dX9_priceBy_25 : decode cX9_priceBy 25 = .ok (.iconst 1, 1) := by decide +kernel
theorem dX9_priceBy_26 : decode cX9_priceBy 26 = .ok (.iadd, 1) := by decide +kernel
theorem dX9_priceBy_27 : decode cX9_priceBy 27 = .ok (.bipush 11, 2) := by decide +kernel
theorem dX9_priceBy_29 : decode cX9_priceBy 29 = .ok (.imul, 1) := by decide +kernel
theorem dX9_priceBy_30 : decode cX9_priceBy 30 = .ok (.iload 4, 2) := by decide +kernel
theorem dX9_priceBy_32 : decode cX9_priceBy 32 = .ok (.iadd, 1) := by decide +kernel
theorem dX9_priceBy_33 : decode cX9_priceBy 33 = .ok (.iaload, 1) := by decide +kernel
theorem dX9_priceBy_34 : decode cX9_priceBy 34 = .ok (.istore 5, 2) := by decide +kernel
theorem dX9_priceBy_36 : decode cX9_priceBy 36 = .ok (.iload 5, 2) := by decide +kernel
theorem dX9_priceBy_38 : decode cX9_priceBy 38 = .ok (.ldc 47, 2) := by decide +kernel
theorem dX9_priceBy_40 : decode cX9_priceBy 40 = .ok (.if_icmp .ne 8, 3) := by decide +kernel
theorem dX9_priceBy_43 : decode cX9_priceBy 43 = .ok (.ldc 47, 2) := by decide +kernel
theorem dX9_priceBy_45 : decode cX9_priceBy 45 = .ok (.goto 24, 3) := by decide +kernel
theorem dX9_priceBy_48 : decode cX9_priceBy 48 = .ok (.iload 5, 2) := by decide +kernel
theorem dX9_priceBy_50 : decode cX9_priceBy 50 = .ok (.aload_n 0, 1) := by decide +kernel
theorem dX9_priceBy_51 : decode cX9_priceBy 51 = .ok (.getfield 31, 3) := by decide +kernel
theorem dX9_priceBy_54 : decode cX9_priceBy 54 = .ok (.iload_n 1, 1) := by decide +kernel
theorem dX9_priceBy_55 : decode cX9_priceBy 55 = .ok (.iload_n 2, 1) := by decide +kernel
theorem dX9_priceBy_56 : decode cX9_priceBy 56 = .ok (.iload_n 3, 1) := by decide +kernel
theorem dX9_priceBy_57 : decode cX9_priceBy 57 = .ok (.aload_n 0, 1) := by decide +kernel
theorem dX9_priceBy_58 : decode cX9_priceBy 58 = .ok (.getfield 22, 3) := by decide +kernel
theorem dX9_priceBy_61 : decode cX9_priceBy 61 = .ok (.aload_n 0, 1) := by decide +kernel
theorem dX9_priceBy_62 : decode cX9_priceBy 62 = .ok (.getfield 25, 3) := by decide +kernel
theorem dX9_priceBy_65 : decode cX9_priceBy 65 = .ok (.invokevirtual 84, 3) := by decide +kernel
theorem dX9_priceBy_68 : decode cX9_priceBy 68 = .ok (.iadd, 1) := by decide +kernel
theorem dX9_priceBy_69 : decode cX9_priceBy 69 = .ok (.ireturn, 1) := by decide +kernel
theorem dX9_chooseActs_0 : decode cX9_chooseActs 0 = .ok (.iload_n 1, 1) := by decide +kernel
theorem dX9_chooseActs_1 : decode cX9_chooseActs 1 = .ok (.istore_n 2, 1) := by decide +kernel
theorem dX9_chooseActs_2 : decode cX9_chooseActs 2 = .ok (.iconst 0, 1) := by decide +kernel
theorem dX9_chooseActs_3 : decode cX9_chooseActs 3 = .ok (.istore_n 3, 1) := by decide +kernel
theorem dX9_chooseActs_4 : decode cX9_chooseActs 4 = .ok (.iload_n 3, 1) := by decide +kernel
theorem dX9_chooseActs_5 : decode cX9_chooseActs 5 = .ok (.bipush 10, 2) := by decide +kernel
theorem dX9_chooseActs_7 : decode cX9_chooseActs 7 = .ok (.if_icmp .ge 78, 3) := by decide +kernel
theorem dX9_chooseActs_10 : decode cX9_chooseActs 10 = .ok (.iload_n 2, 1) := by decide +kernel
theorem dX9_chooseActs_11 : decode cX9_chooseActs 11 = .ok (.ifCond .lt 74, 3) := by decide +kernel
theorem dX9_chooseActs_14 : decode cX9_chooseActs 14 = .ok (.iconst 0, 1) := by decide +kernel
theorem dX9_chooseActs_15 : decode cX9_chooseActs 15 = .ok (.istore 4, 2) := by decide +kernel
theorem dX9_chooseActs_17 : decode cX9_chooseActs 17 = .ok (.iconst 1, 1) := by decide +kernel
theorem dX9_chooseActs_18 : decode cX9_chooseActs 18 = .ok (.istore 5, 2) := by decide +kernel
theorem dX9_chooseActs_20 : decode cX9_chooseActs 20 = .ok (.iload 5, 2) := by decide +kernel
theorem dX9_chooseActs_22 : decode cX9_chooseActs 22 = .ok (.bipush 6, 2) := by decide +kernel
theorem dX9_chooseActs_24 : decode cX9_chooseActs 24 = .ok (.if_icmp .ge 35, 3) := by decide +kernel
theorem dX9_chooseActs_27 : decode cX9_chooseActs 27 = .ok (.aload_n 0, 1) := by decide +kernel
theorem dX9_chooseActs_28 : decode cX9_chooseActs 28 = .ok (.iload_n 3, 1) := by decide +kernel
theorem dX9_chooseActs_29 : decode cX9_chooseActs 29 = .ok (.iload_n 2, 1) := by decide +kernel
theorem dX9_chooseActs_30 : decode cX9_chooseActs 30 = .ok (.iload 4, 2) := by decide +kernel
theorem dX9_chooseActs_32 : decode cX9_chooseActs 32 = .ok (.invokevirtual 72, 3) := by decide +kernel
theorem dX9_chooseActs_35 : decode cX9_chooseActs 35 = .ok (.aload_n 0, 1) := by decide +kernel
theorem dX9_chooseActs_36 : decode cX9_chooseActs 36 = .ok (.getfield 28, 3) := by decide +kernel
theorem dX9_chooseActs_39 : decode cX9_chooseActs 39 = .ok (.iload_n 3, 1) := by decide +kernel
theorem dX9_chooseActs_40 : decode cX9_chooseActs 40 = .ok (.bipush 11, 2) := by decide +kernel
theorem dX9_chooseActs_42 : decode cX9_chooseActs 42 = .ok (.imul, 1) := by decide +kernel
theorem dX9_chooseActs_43 : decode cX9_chooseActs 43 = .ok (.iload_n 2, 1) := by decide +kernel
theorem dX9_chooseActs_44 : decode cX9_chooseActs 44 = .ok (.iadd, 1) := by decide +kernel
theorem dX9_chooseActs_45 : decode cX9_chooseActs 45 = .ok (.iaload, 1) := by decide +kernel
theorem dX9_chooseActs_46 : decode cX9_chooseActs 46 = .ok (.if_icmp .eq 13, 3) := by decide +kernel
theorem dX9_chooseActs_49 : decode cX9_chooseActs 49 = .ok (.iload 5, 2) := by decide +kernel
theorem dX9_chooseActs_51 : decode cX9_chooseActs 51 = .ok (.istore 4, 2) := by decide +kernel
theorem dX9_chooseActs_53 : decode cX9_chooseActs 53 = .ok (.iinc 5 1, 3) := by decide +kernel
theorem dX9_chooseActs_56 : decode cX9_chooseActs 56 = .ok (.goto (-36), 3) := by decide +kernel
theorem dX9_chooseActs_59 : decode cX9_chooseActs 59 = .ok (.aload_n 0, 1) := by decide +kernel
theorem dX9_chooseActs_60 : decode cX9_chooseActs 60 = .ok (.getfield 18, 3) := by decide +kernel
theorem dX9_chooseActs_63 : decode cX9_chooseActs 63 = .ok (.iload_n 3, 1) := by decide +kernel
theorem dX9_chooseActs_64 : decode cX9_chooseActs 64 = .ok (.iload 4, 2) := by decide +kernel
theorem dX9_chooseActs_66 : decode cX9_chooseActs 66 = .ok (.iastore, 1) := by decide +kernel
theorem dX9_chooseActs_67 : decode cX9_chooseActs 67 = .ok (.aload_n 0, 1) := by decide +kernel
theorem dX9_chooseActs_68 : decode cX9_chooseActs 68 = .ok (.getfield 31, 3) := by decide +kernel
theorem dX9_chooseActs_71 : decode cX9_chooseActs 71 = .ok (.iload_n 3, 1) := by decide +kernel
theorem dX9_chooseActs_72 : decode cX9_chooseActs 72 = .ok (.iload_n 2, 1) := by decide +kernel
theorem dX9_chooseActs_73 : decode cX9_chooseActs 73 = .ok (.iload 4, 2) := by decide +kernel
theorem dX9_chooseActs_75 : decode cX9_chooseActs 75 = .ok (.invokevirtual 81, 3) := by decide +kernel
theorem dX9_chooseActs_78 : decode cX9_chooseActs 78 = .ok (.istore_n 2, 1) := by decide +kernel
theorem dX9_chooseActs_79 : decode cX9_chooseActs 79 = .ok (.iinc 3 1, 3) := by decide +kernel
theorem dX9_chooseActs_82 : decode cX9_chooseActs 82 = .ok (.goto (-78), 3) := by decide +kernel
theorem dX9_chooseActs_85 : decode cX9_chooseActs 85 = .ok (.return_, 1) := by decide +kernel
theorem dX9_barringHour_0 : decode cX9_barringHour 0 = .ok (.aload_n 0, 1) := by decide +kernel
theorem dX9_barringHour_1 : decode cX9_barringHour 1 = .ok (.getfield 31, 3) := by decide +kernel
theorem dX9_barringHour_4 : decode cX9_barringHour 4 = .ok (.aload_n 1, 1) := by decide +kernel
theorem dX9_barringHour_5 : decode cX9_barringHour 5 = .ok (.invokevirtual 41, 3) := by decide +kernel
theorem dX9_barringHour_8 : decode cX9_barringHour 8 = .ok (.iconst 0, 1) := by decide +kernel
theorem dX9_barringHour_9 : decode cX9_barringHour 9 = .ok (.istore_n 2, 1) := by decide +kernel
theorem dX9_barringHour_10 : decode cX9_barringHour 10 = .ok (.iconst 0, 1) := by decide +kernel
theorem dX9_barringHour_11 : decode cX9_barringHour 11 = .ok (.istore_n 3, 1) := by decide +kernel
theorem dX9_barringHour_12 : decode cX9_barringHour 12 = .ok (.iload_n 3, 1) := by decide +kernel
theorem dX9_barringHour_13 : decode cX9_barringHour 13 = .ok (.bipush 10, 2) := by decide +kernel
theorem dX9_barringHour_15 : decode cX9_barringHour 15 = .ok (.if_icmp .ge 26, 3) := by decide +kernel
theorem dX9_barringHour_18 : decode cX9_barringHour 18 = .ok (.aload_n 1, 1) := by decide +kernel
theorem dX9_barringHour_19 : decode cX9_barringHour 19 = .ok (.iload_n 3, 1) := by decide +kernel
theorem dX9_barringHour_20 : decode cX9_barringHour 20 = .ok (.invokestatic 48, 3) := by decide +kernel
theorem dX9_barringHour_23 : decode cX9_barringHour 23 = .ok (.invokevirtual 52, 3) := by decide +kernel
theorem dX9_barringHour_26 : decode cX9_barringHour 26 = .ok (.ifCond .eq 9, 3) := by decide +kernel
theorem dX9_barringHour_29 : decode cX9_barringHour 29 = .ok (.iload_n 2, 1) := by decide +kernel
theorem dX9_barringHour_30 : decode cX9_barringHour 30 = .ok (.iconst 1, 1) := by decide +kernel
theorem dX9_barringHour_31 : decode cX9_barringHour 31 = .ok (.iload_n 3, 1) := by decide +kernel
theorem dX9_barringHour_32 : decode cX9_barringHour 32 = .ok (.ishl, 1) := by decide +kernel
theorem dX9_barringHour_33 : decode cX9_barringHour 33 = .ok (.ior, 1) := by decide +kernel
theorem dX9_barringHour_34 : decode cX9_barringHour 34 = .ok (.istore_n 2, 1) := by decide +kernel
theorem dX9_barringHour_35 : decode cX9_barringHour 35 = .ok (.iinc 3 1, 3) := by decide +kernel
theorem dX9_barringHour_38 : decode cX9_barringHour 38 = .ok (.goto (-26), 3) := by decide +kernel
theorem dX9_barringHour_41 : decode cX9_barringHour 41 = .ok (.iconst 0, 1) := by decide +kernel
theorem dX9_barringHour_42 : decode cX9_barringHour 42 = .ok (.istore_n 3, 1) := by decide +kernel
theorem dX9_barringHour_43 : decode cX9_barringHour 43 = .ok (.iload_n 3, 1) := by decide +kernel
theorem dX9_barringHour_44 : decode cX9_barringHour 44 = .ok (.bipush 10, 2) := by decide +kernel
theorem dX9_barringHour_46 : decode cX9_barringHour 46 = .ok (.if_icmp .ge 22, 3) := by decide +kernel
theorem dX9_barringHour_49 : decode cX9_barringHour 49 = .ok (.aload_n 0, 1) := by decide +kernel
theorem dX9_barringHour_50 : decode cX9_barringHour 50 = .ok (.iload_n 3, 1) := by decide +kernel
theorem dX9_barringHour_51 : decode cX9_barringHour 51 = .ok (.iload_n 2, 1) := by decide +kernel
theorem dX9_barringHour_52 : decode cX9_barringHour 52 = .ok (.invokevirtual 88, 3) := by decide +kernel
theorem dX9_barringHour_55 : decode cX9_barringHour 55 = .ok (.istore_n 2, 1) := by decide +kernel
theorem dX9_barringHour_56 : decode cX9_barringHour 56 = .ok (.iload_n 2, 1) := by decide +kernel
theorem dX9_barringHour_57 : decode cX9_barringHour 57 = .ok (.ifCond .ne 5, 3) := by decide +kernel
theorem dX9_barringHour_60 : decode cX9_barringHour 60 = .ok (.iload_n 3, 1) := by decide +kernel
theorem dX9_barringHour_61 : decode cX9_barringHour 61 = .ok (.ireturn, 1) := by decide +kernel
theorem dX9_barringHour_62 : decode cX9_barringHour 62 = .ok (.iinc 3 1, 3) := by decide +kernel
theorem dX9_barringHour_65 : decode cX9_barringHour 65 = .ok (.goto (-22), 3) := by decide +kernel
theorem dX9_barringHour_68 : decode cX9_barringHour 68 = .ok (.bipush 10, 2) := by decide +kernel
theorem dX9_barringHour_70 : decode cX9_barringHour 70 = .ok (.ireturn, 1) := by decide +kernel
theorem dX9_reachedAfter_0 : decode cX9_reachedAfter 0 = .ok (.iconst 0, 1) := by decide +kernel
theorem dX9_reachedAfter_1 : decode cX9_reachedAfter 1 = .ok (.istore_n 3, 1) := by decide +kernel
theorem dX9_reachedAfter_2 : decode cX9_reachedAfter 2 = .ok (.iconst 0, 1) := by decide +kernel
theorem dX9_reachedAfter_3 : decode cX9_reachedAfter 3 = .ok (.istore 4, 2) := by decide +kernel
theorem dX9_reachedAfter_5 : decode cX9_reachedAfter 5 = .ok (.iload 4, 2) := by decide +kernel
theorem dX9_reachedAfter_7 : decode cX9_reachedAfter 7 = .ok (.bipush 11, 2) := by decide +kernel
theorem dX9_reachedAfter_9 : decode cX9_reachedAfter 9 = .ok (.if_icmp .ge 60, 3) := by decide +kernel
theorem dX9_reachedAfter_12 : decode cX9_reachedAfter 12 = .ok (.iconst 0, 1) := by decide +kernel
theorem dX9_reachedAfter_13 : decode cX9_reachedAfter 13 = .ok (.istore 5, 2) := by decide +kernel
theorem dX9_reachedAfter_15 : decode cX9_reachedAfter 15 = .ok (.iload 5, 2) := by decide +kernel
theorem dX9_reachedAfter_17 : decode cX9_reachedAfter 17 = .ok (.bipush 6, 2) := by decide +kernel
theorem dX9_reachedAfter_19 : decode cX9_reachedAfter 19 = .ok (.if_icmp .ge 44, 3) := by decide +kernel
theorem dX9_reachedAfter_22 : decode cX9_reachedAfter 22 = .ok (.iload_n 2, 1) := by decide +kernel
theorem dX9_reachedAfter_23 : decode cX9_reachedAfter 23 = .ok (.iload 4, 2) := by decide +kernel
theorem dX9_reachedAfter_25 : decode cX9_reachedAfter 25 = .ok (.ishr, 1) := by decide +kernel
theorem dX9_reachedAfter_26 : decode cX9_reachedAfter 26 = .ok (.iconst 1, 1) := by decide +kernel
theorem dX9_reachedAfter_27 : decode cX9_reachedAfter 27 = .ok (.iand, 1) := by decide +kernel
theorem dX9_reachedAfter_28 : decode cX9_reachedAfter 28 = .ok (.ifCond .eq 35, 3) := by decide +kernel
theorem dX9_reachedAfter_31 : decode cX9_reachedAfter 31 = .ok (.aload_n 0, 1) := by decide +kernel
theorem dX9_reachedAfter_32 : decode cX9_reachedAfter 32 = .ok (.getfield 31, 3) := by decide +kernel
theorem dX9_reachedAfter_35 : decode cX9_reachedAfter 35 = .ok (.iload_n 1, 1) := by decide +kernel
theorem dX9_reachedAfter_36 : decode cX9_reachedAfter 36 = .ok (.iload 4, 2) := by decide +kernel
theorem dX9_reachedAfter_38 : decode cX9_reachedAfter 38 = .ok (.iload 5, 2) := by decide +kernel
theorem dX9_reachedAfter_40 : decode cX9_reachedAfter 40 = .ok (.invokevirtual 81, 3) := by decide +kernel
theorem dX9_reachedAfter_43 : decode cX9_reachedAfter 43 = .ok (.istore 6, 2) := by decide +kernel
theorem dX9_reachedAfter_45 : decode cX9_reachedAfter 45 = .ok (.iload 6, 2) := by decide +kernel
theorem dX9_reachedAfter_47 : decode cX9_reachedAfter 47 = .ok (.ifCond .lt 10, 3) := by decide +kernel
theorem dX9_reachedAfter_50 : decode cX9_reachedAfter 50 = .ok (.iload_n 3, 1) := by decide +kernel
theorem dX9_reachedAfter_51 : decode cX9_reachedAfter 51 = .ok (.iconst 1, 1) := by decide +kernel
theorem dX9_reachedAfter_52 : decode cX9_reachedAfter 52 = .ok (.iload 6, 2) := by decide +kernel
theorem dX9_reachedAfter_54 : decode cX9_reachedAfter 54 = .ok (.ishl, 1) := by decide +kernel
theorem dX9_reachedAfter_55 : decode cX9_reachedAfter 55 = .ok (.ior, 1) := by decide +kernel
theorem dX9_reachedAfter_56 : decode cX9_reachedAfter 56 = .ok (.istore_n 3, 1) := by decide +kernel
theorem dX9_reachedAfter_57 : decode cX9_reachedAfter 57 = .ok (.iinc 5 1, 3) := by decide +kernel
theorem dX9_reachedAfter_60 : decode cX9_reachedAfter 60 = .ok (.goto (-45), 3) := by decide +kernel
theorem dX9_reachedAfter_63 : decode cX9_reachedAfter 63 = .ok (.iinc 4 1, 3) := by decide +kernel
theorem dX9_reachedAfter_66 : decode cX9_reachedAfter 66 = .ok (.goto (-61), 3) := by decide +kernel
theorem dX9_reachedAfter_69 : decode cX9_reachedAfter 69 = .ok (.iload_n 3, 1) := by decide +kernel
theorem dX9_reachedAfter_70 : decode cX9_reachedAfter 70 = .ok (.ireturn, 1) := by decide +kernel
theorem dX10_init_0 : decode cX10_init 0 = .ok (.aload_n 0, 1) := by decide +kernel
theorem dX10_init_1 : decode cX10_init 1 = .ok (.invokespecial 3, 3) := by decide +kernel
theorem dX10_init_4 : decode cX10_init 4 = .ok (.aload_n 0, 1) := by decide +kernel
theorem dX10_init_5 : decode cX10_init 5 = .ok (.new 9, 3) := by decide +kernel
theorem dX10_init_8 : decode cX10_init 8 = .ok (.dup, 1) := by decide +kernel
theorem dX10_init_9 : decode cX10_init 9 = .ok (.invokespecial 11, 3) := by decide +kernel
theorem dX10_init_12 : decode cX10_init 12 = .ok (.putfield 12, 3) := by decide +kernel
theorem dX10_init_15 : decode cX10_init 15 = .ok (.aload_n 0, 1) := by decide +kernel
theorem dX10_init_16 : decode cX10_init 16 = .ok (.bipush 10, 2) := by decide +kernel
theorem dX10_init_18 : decode cX10_init 18 = .ok (.newarray .int, 2) := by decide +kernel
theorem dX10_init_20 : decode cX10_init 20 = .ok (.putfield 18, 3) := by decide +kernel
theorem dX10_init_23 : decode cX10_init 23 = .ok (.aload_n 0, 1) := by decide +kernel
theorem dX10_init_24 : decode cX10_init 24 = .ok (.bipush 10, 2) := by decide +kernel
theorem dX10_init_26 : decode cX10_init 26 = .ok (.newarray .int, 2) := by decide +kernel
theorem dX10_init_28 : decode cX10_init 28 = .ok (.putfield 22, 3) := by decide +kernel
theorem dX10_init_31 : decode cX10_init 31 = .ok (.return_, 1) := by decide +kernel
theorem dX10_run_0 : decode cX10_run 0 = .ok (.aload_n 0, 1) := by decide +kernel
theorem dX10_run_1 : decode cX10_run 1 = .ok (.getfield 12, 3) := by decide +kernel
theorem dX10_run_4 : decode cX10_run 4 = .ok (.iload_n 3, 1) := by decide +kernel
theorem dX10_run_5 : decode cX10_run 5 = .ok (.invokevirtual 25, 3) := by decide +kernel
theorem dX10_run_8 : decode cX10_run 8 = .ok (.iload 4, 2) := by decide +kernel
theorem dX10_run_10 : decode cX10_run 10 = .ok (.istore 5, 2) := by decide +kernel
theorem dX10_run_12 : decode cX10_run 12 = .ok (.iconst 0, 1) := by decide +kernel
theorem dX10_run_13 : decode cX10_run 13 = .ok (.istore 6, 2) := by decide +kernel
theorem dX10_run_15 : decode cX10_run 15 = .ok (.iload 6, 2) := by decide +kernel
theorem dX10_run_17 : decode cX10_run 17 = .ok (.bipush 10, 2) := by decide +kernel
theorem dX10_run_19 : decode cX10_run 19 = .ok (.if_icmp .ge 79, 3) := by decide +kernel
theorem dX10_run_22 : decode cX10_run 22 = .ok (.aload_n 0, 1) := by decide +kernel
theorem dX10_run_23 : decode cX10_run 23 = .ok (.getfield 18, 3) := by decide +kernel
theorem dX10_run_26 : decode cX10_run 26 = .ok (.iload 6, 2) := by decide +kernel
theorem dX10_run_28 : decode cX10_run 28 = .ok (.aload_n 0, 1) := by decide +kernel
theorem dX10_run_29 : decode cX10_run 29 = .ok (.getfield 12, 3) := by decide +kernel
theorem dX10_run_32 : decode cX10_run 32 = .ok (.getfield 29, 3) := by decide +kernel
theorem dX10_run_35 : decode cX10_run 35 = .ok (.iastore, 1) := by decide +kernel
theorem dX10_run_36 : decode cX10_run 36 = .ok (.aload_n 0, 1) := by decide +kernel
theorem dX10_run_37 : decode cX10_run 37 = .ok (.getfield 12, 3) := by decide +kernel
theorem dX10_run_40 : decode cX10_run 40 = .ok (.aload_n 1, 1) := by decide +kernel
theorem dX10_run_41 : decode cX10_run 41 = .ok (.aload_n 2, 1) := by decide +kernel
theorem dX10_run_42 : decode cX10_run 42 = .ok (.iload 6, 2) := by decide +kernel
theorem dX10_run_44 : decode cX10_run 44 = .ok (.invokevirtual 33, 3) := by decide +kernel
theorem dX10_run_47 : decode cX10_run 47 = .ok (.iload 5, 2) := by decide +kernel
theorem dX10_run_49 : decode cX10_run 49 = .ok (.iconst 1, 1) := by decide +kernel
theorem dX10_run_50 : decode cX10_run 50 = .ok (.iand, 1) := by decide +kernel
theorem dX10_run_51 : decode cX10_run 51 = .ok (.ifCond .eq 7, 3) := by decide +kernel
theorem dX10_run_54 : decode cX10_run 54 = .ok (.iconst 1, 1) := by decide +kernel
theorem dX10_run_55 : decode cX10_run 55 = .ok (.goto 4, 3) := by decide +kernel
theorem dX10_run_58 : decode cX10_run 58 = .ok (.iconst 0, 1) := by decide +kernel
theorem dX10_run_59 : decode cX10_run 59 = .ok (.invokevirtual 39, 3) := by decide +kernel
theorem dX10_run_62 : decode cX10_run 62 = .ok (.aload_n 0, 1) := by decide +kernel
theorem dX10_run_63 : decode cX10_run 63 = .ok (.getfield 22, 3) := by decide +kernel
theorem dX10_run_66 : decode cX10_run 66 = .ok (.iload 6, 2) := by decide +kernel
theorem dX10_run_68 : decode cX10_run 68 = .ok (.aload_n 0, 1) := by decide +kernel
theorem dX10_run_69 : decode cX10_run 69 = .ok (.getfield 12, 3) := by decide +kernel
theorem dX10_run_72 : decode cX10_run 72 = .ok (.getfield 43, 3) := by decide +kernel
theorem dX10_run_75 : decode cX10_run 75 = .ok (.iastore, 1) := by decide +kernel
theorem dX10_run_76 : decode cX10_run 76 = .ok (.aload_n 0, 1) := by decide +kernel
theorem dX10_run_77 : decode cX10_run 77 = .ok (.getfield 12, 3) := by decide +kernel
theorem dX10_run_80 : decode cX10_run 80 = .ok (.getfield 46, 3) := by decide +kernel
theorem dX10_run_83 : decode cX10_run 83 = .ok (.ifCond .eq 9, 3) := by decide +kernel
theorem dX10_run_86 : decode cX10_run 86 = .ok (.iload 5, 2) := by decide +kernel
theorem dX10_run_88 : decode cX10_run 88 = .ok (.iconst 1, 1) := by decide +kernel
theorem dX10_run_89 : decode cX10_run 89 = .ok (.ishr, 1) := by decide +kernel
theorem dX10_run_90 : decode cX10_run 90 = .ok (.istore 5, 2) := by decide +kernel
theorem dX10_run_92 : decode cX10_run 92 = .ok (.iinc 6 1, 3) := by decide +kernel
theorem dX10_run_95 : decode cX10_run 95 = .ok (.goto (-80), 3) := by decide +kernel
theorem dX10_run_98 : decode cX10_run 98 = .ok (.return_, 1) := by decide +kernel
theorem dJ6_bitCount_0f7a4_0 : decode cJ6_bitCount_0f7a4 0 = .ok (.iload_n 0, 1) := by decide +kernel
theorem dJ6_bitCount_0f7a4_1 : decode cJ6_bitCount_0f7a4 1 = .ok (.iload_n 0, 1) := by decide +kernel
theorem dJ6_bitCount_0f7a4_2 : decode cJ6_bitCount_0f7a4 2 = .ok (.iconst 1, 1) := by decide +kernel
theorem dJ6_bitCount_0f7a4_3 : decode cJ6_bitCount_0f7a4 3 = .ok (.iushr, 1) := by decide +kernel
theorem dJ6_bitCount_0f7a4_4 : decode cJ6_bitCount_0f7a4 4 = .ok (.ldc_w 265, 3) := by decide +kernel
theorem dJ6_bitCount_0f7a4_7 : decode cJ6_bitCount_0f7a4 7 = .ok (.iand, 1) := by decide +kernel
theorem dJ6_bitCount_0f7a4_8 : decode cJ6_bitCount_0f7a4 8 = .ok (.isub, 1) := by decide +kernel
theorem dJ6_bitCount_0f7a4_9 : decode cJ6_bitCount_0f7a4 9 = .ok (.istore_n 0, 1) := by decide +kernel
theorem dJ6_bitCount_0f7a4_10 : decode cJ6_bitCount_0f7a4 10 = .ok (.iload_n 0, 1) := by decide +kernel
theorem dJ6_bitCount_0f7a4_11 : decode cJ6_bitCount_0f7a4 11 = .ok (.ldc_w 266, 3) := by decide +kernel
theorem dJ6_bitCount_0f7a4_14 : decode cJ6_bitCount_0f7a4 14 = .ok (.iand, 1) := by decide +kernel
theorem dJ6_bitCount_0f7a4_15 : decode cJ6_bitCount_0f7a4 15 = .ok (.iload_n 0, 1) := by decide +kernel
theorem dJ6_bitCount_0f7a4_16 : decode cJ6_bitCount_0f7a4 16 = .ok (.iconst 2, 1) := by decide +kernel
theorem dJ6_bitCount_0f7a4_17 : decode cJ6_bitCount_0f7a4 17 = .ok (.iushr, 1) := by decide +kernel
theorem dJ6_bitCount_0f7a4_18 : decode cJ6_bitCount_0f7a4 18 = .ok (.ldc_w 266, 3) := by decide +kernel
theorem dJ6_bitCount_0f7a4_21 : decode cJ6_bitCount_0f7a4 21 = .ok (.iand, 1) := by decide +kernel
theorem dJ6_bitCount_0f7a4_22 : decode cJ6_bitCount_0f7a4 22 = .ok (.iadd, 1) := by decide +kernel
theorem dJ6_bitCount_0f7a4_23 : decode cJ6_bitCount_0f7a4 23 = .ok (.istore_n 0, 1) := by decide +kernel
theorem dJ6_bitCount_0f7a4_24 : decode cJ6_bitCount_0f7a4 24 = .ok (.iload_n 0, 1) := by decide +kernel
theorem dJ6_bitCount_0f7a4_25 : decode cJ6_bitCount_0f7a4 25 = .ok (.iload_n 0, 1) := by decide +kernel
theorem dJ6_bitCount_0f7a4_26 : decode cJ6_bitCount_0f7a4 26 = .ok (.iconst 4, 1) := by decide +kernel
theorem dJ6_bitCount_0f7a4_27 : decode cJ6_bitCount_0f7a4 27 = .ok (.iushr, 1) := by decide +kernel
theorem dJ6_bitCount_0f7a4_28 : decode cJ6_bitCount_0f7a4 28 = .ok (.iadd, 1) := by decide +kernel
theorem dJ6_bitCount_0f7a4_29 : decode cJ6_bitCount_0f7a4 29 = .ok (.ldc_w 267, 3) := by decide +kernel
theorem dJ6_bitCount_0f7a4_32 : decode cJ6_bitCount_0f7a4 32 = .ok (.iand, 1) := by decide +kernel
theorem dJ6_bitCount_0f7a4_33 : decode cJ6_bitCount_0f7a4 33 = .ok (.istore_n 0, 1) := by decide +kernel
theorem dJ6_bitCount_0f7a4_34 : decode cJ6_bitCount_0f7a4 34 = .ok (.iload_n 0, 1) := by decide +kernel
theorem dJ6_bitCount_0f7a4_35 : decode cJ6_bitCount_0f7a4 35 = .ok (.iload_n 0, 1) := by decide +kernel
theorem dJ6_bitCount_0f7a4_36 : decode cJ6_bitCount_0f7a4 36 = .ok (.bipush 8, 2) := by decide +kernel
theorem dJ6_bitCount_0f7a4_38 : decode cJ6_bitCount_0f7a4 38 = .ok (.iushr, 1) := by decide +kernel
theorem dJ6_bitCount_0f7a4_39 : decode cJ6_bitCount_0f7a4 39 = .ok (.iadd, 1) := by decide +kernel
theorem dJ6_bitCount_0f7a4_40 : decode cJ6_bitCount_0f7a4 40 = .ok (.istore_n 0, 1) := by decide +kernel
theorem dJ6_bitCount_0f7a4_41 : decode cJ6_bitCount_0f7a4 41 = .ok (.iload_n 0, 1) := by decide +kernel
theorem dJ6_bitCount_0f7a4_42 : decode cJ6_bitCount_0f7a4 42 = .ok (.iload_n 0, 1) := by decide +kernel
theorem dJ6_bitCount_0f7a4_43 : decode cJ6_bitCount_0f7a4 43 = .ok (.bipush 16, 2) := by decide +kernel
theorem dJ6_bitCount_0f7a4_45 : decode cJ6_bitCount_0f7a4 45 = .ok (.iushr, 1) := by decide +kernel
theorem dJ6_bitCount_0f7a4_46 : decode cJ6_bitCount_0f7a4 46 = .ok (.iadd, 1) := by decide +kernel
theorem dJ6_bitCount_0f7a4_47 : decode cJ6_bitCount_0f7a4 47 = .ok (.istore_n 0, 1) := by decide +kernel
theorem dJ6_bitCount_0f7a4_48 : decode cJ6_bitCount_0f7a4 48 = .ok (.iload_n 0, 1) := by decide +kernel
theorem dJ6_bitCount_0f7a4_49 : decode cJ6_bitCount_0f7a4 49 = .ok (.bipush 63, 2) := by decide +kernel
theorem dJ6_bitCount_0f7a4_51 : decode cJ6_bitCount_0f7a4 51 = .ok (.iand, 1) := by decide +kernel
theorem dJ6_bitCount_0f7a4_52 : decode cJ6_bitCount_0f7a4 52 = .ok (.ireturn, 1) := by decide +kernel
theorem dJ9_min_7cf53_0 : decode cJ9_min_7cf53 0 = .ok (.iload_n 0, 1) := by decide +kernel
theorem dJ9_min_7cf53_1 : decode cJ9_min_7cf53 1 = .ok (.iload_n 1, 1) := by decide +kernel
theorem dJ9_min_7cf53_2 : decode cJ9_min_7cf53 2 = .ok (.if_icmp .gt 7, 3) := by decide +kernel
theorem dJ9_min_7cf53_5 : decode cJ9_min_7cf53 5 = .ok (.iload_n 0, 1) := by decide +kernel
theorem dJ9_min_7cf53_6 : decode cJ9_min_7cf53 6 = .ok (.goto 4, 3) := by decide +kernel
theorem dJ9_min_7cf53_9 : decode cJ9_min_7cf53 9 = .ok (.iload_n 1, 1) := by decide +kernel
theorem dJ9_min_7cf53_10 : decode cJ9_min_7cf53 10 = .ok (.ireturn, 1) := by decide +kernel
theorem dJ7_fill_d0a16_0 : decode cJ7_fill_d0a16 0 = .ok (.iconst 0, 1) := by decide +kernel
theorem dJ7_fill_d0a16_1 : decode cJ7_fill_d0a16 1 = .ok (.istore_n 3, 1) := by decide +kernel
theorem dJ7_fill_d0a16_2 : decode cJ7_fill_d0a16 2 = .ok (.aload_n 0, 1) := by decide +kernel
theorem dJ7_fill_d0a16_3 : decode cJ7_fill_d0a16 3 = .ok (.arraylength, 1) := by decide +kernel
theorem dJ7_fill_d0a16_4 : decode cJ7_fill_d0a16 4 = .ok (.istore 4, 2) := by decide +kernel
theorem dJ7_fill_d0a16_6 : decode cJ7_fill_d0a16 6 = .ok (.iload_n 3, 1) := by decide +kernel
theorem dJ7_fill_d0a16_7 : decode cJ7_fill_d0a16 7 = .ok (.iload 4, 2) := by decide +kernel
theorem dJ7_fill_d0a16_9 : decode cJ7_fill_d0a16 9 = .ok (.if_icmp .ge 13, 3) := by decide +kernel
theorem dJ7_fill_d0a16_12 : decode cJ7_fill_d0a16 12 = .ok (.aload_n 0, 1) := by decide +kernel
theorem dJ7_fill_d0a16_13 : decode cJ7_fill_d0a16 13 = .ok (.iload_n 3, 1) := by decide +kernel
theorem dJ7_fill_d0a16_14 : decode cJ7_fill_d0a16 14 = .ok (.lload_n 1, 1) := by decide +kernel
theorem dJ7_fill_d0a16_15 : decode cJ7_fill_d0a16 15 = .ok (.lastore, 1) := by decide +kernel
theorem dJ7_fill_d0a16_16 : decode cJ7_fill_d0a16 16 = .ok (.iinc 3 1, 3) := by decide +kernel
theorem dJ7_fill_d0a16_19 : decode cJ7_fill_d0a16 19 = .ok (.goto (-13), 3) := by decide +kernel
theorem dJ7_fill_d0a16_22 : decode cJ7_fill_d0a16 22 = .ok (.return_, 1) := by decide +kernel
theorem dJ7_fill_53178_0 : decode cJ7_fill_53178 0 = .ok (.iconst 0, 1) := by decide +kernel
theorem dJ7_fill_53178_1 : decode cJ7_fill_53178 1 = .ok (.istore_n 2, 1) := by decide +kernel
theorem dJ7_fill_53178_2 : decode cJ7_fill_53178 2 = .ok (.aload_n 0, 1) := by decide +kernel
theorem dJ7_fill_53178_3 : decode cJ7_fill_53178 3 = .ok (.arraylength, 1) := by decide +kernel
theorem dJ7_fill_53178_4 : decode cJ7_fill_53178 4 = .ok (.istore_n 3, 1) := by decide +kernel
theorem dJ7_fill_53178_5 : decode cJ7_fill_53178 5 = .ok (.iload_n 2, 1) := by decide +kernel
theorem dJ7_fill_53178_6 : decode cJ7_fill_53178 6 = .ok (.iload_n 3, 1) := by decide +kernel
theorem dJ7_fill_53178_7 : decode cJ7_fill_53178 7 = .ok (.if_icmp .ge 13, 3) := by decide +kernel
theorem dJ7_fill_53178_10 : decode cJ7_fill_53178 10 = .ok (.aload_n 0, 1) := by decide +kernel
theorem dJ7_fill_53178_11 : decode cJ7_fill_53178 11 = .ok (.iload_n 2, 1) := by decide +kernel
theorem dJ7_fill_53178_12 : decode cJ7_fill_53178 12 = .ok (.iload_n 1, 1) := by decide +kernel
theorem dJ7_fill_53178_13 : decode cJ7_fill_53178 13 = .ok (.iastore, 1) := by decide +kernel
theorem dJ7_fill_53178_14 : decode cJ7_fill_53178 14 = .ok (.iinc 2 1, 3) := by decide +kernel
theorem dJ7_fill_53178_17 : decode cJ7_fill_53178 17 = .ok (.goto (-12), 3) := by decide +kernel
theorem dJ7_fill_53178_20 : decode cJ7_fill_53178 20 = .ok (.return_, 1) := by decide +kernel
