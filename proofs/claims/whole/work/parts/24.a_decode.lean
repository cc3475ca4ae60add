theorem dX2_init_0 : decode cX2_init 0 = .ok (.aload_n 0, 1) := by decide +kernel
theorem dX2_init_1 : decode cX2_init 1 = .ok (.invokespecial 3, 3) := by decide +kernel
theorem dX2_init_4 : decode cX2_init 4 = .ok (.aload_n 0, 1) := by decide +kernel
theorem dX2_init_5 : decode cX2_init 5 = .ok (.sipush 160, 3) := by decide +kernel
theorem dX2_init_8 : decode cX2_init 8 = .ok (.newarray .int, 2) := by decide +kernel
theorem dX2_init_10 : decode cX2_init 10 = .ok (.putfield 9, 3) := by decide +kernel
theorem dX2_init_13 : decode cX2_init 13 = .ok (.aload_n 0, 1) := by decide +kernel
theorem dX2_init_14 : decode cX2_init 14 = .ok (.sipush 160, 3) := by decide +kernel
theorem dX2_init_17 : decode cX2_init 17 = .ok (.newarray .int, 2) := by decide +kernel
theorem dX2_init_19 : decode cX2_init 19 = .ok (.putfield 15, 3) := by decide +kernel
theorem dX2_init_22 : decode cX2_init 22 = .ok (.aload_n 0, 1) := by decide +kernel
theorem dX2_init_23 : decode cX2_init 23 = .ok (.iconst 3, 1) := by decide +kernel
theorem dX2_init_24 : decode cX2_init 24 = .ok (.newarray .int, 2) := by decide +kernel
theorem dX2_init_26 : decode cX2_init 26 = .ok (.putfield 18, 3) := by decide +kernel
theorem dX2_init_29 : decode cX2_init 29 = .ok (.return_, 1) := by decide +kernel
theorem dX3_init_0 : decode cX3_init 0 = .ok (.aload_n 0, 1) := by decide +kernel
theorem dX3_init_1 : decode cX3_init 1 = .ok (.invokespecial 1, 3) := by decide +kernel
theorem dX3_init_4 : decode cX3_init 4 = .ok (.aload_n 0, 1) := by decide +kernel
theorem dX3_init_5 : decode cX3_init 5 = .ok (.iconst 4, 1) := by decide +kernel
theorem dX3_init_6 : decode cX3_init 6 = .ok (.newarray .int, 2) := by decide +kernel
theorem dX3_init_8 : decode cX3_init 8 = .ok (.dup, 1) := by decide +kernel
theorem dX3_init_9 : decode cX3_init 9 = .ok (.iconst 0, 1) := by decide +kernel
theorem dX3_init_10 : decode cX3_init 10 = .ok (.iconst (-1), 1) := by decide +kernel
theorem dX3_init_11 : decode cX3_init 11 = .ok (.iastore, 1) := by decide +kernel
theorem dX3_init_12 : decode cX3_init 12 = .ok (.dup, 1) := by decide +kernel
theorem dX3_init_13 : decode cX3_init 13 = .ok (.iconst 1, 1) := by decide +kernel
theorem dX3_init_14 : decode cX3_init 14 = .ok (.iconst (-1), 1) := by decide +kernel
theorem dX3_init_15 : decode cX3_init 15 = .ok (.iastore, 1) := by decide +kernel
theorem dX3_init_16 : decode cX3_init 16 = .ok (.dup, 1) := by decide +kernel
theorem dX3_init_17 : decode cX3_init 17 = .ok (.iconst 2, 1) := by decide +kernel
theorem dX3_init_18 : decode cX3_init 18 = .ok (.iconst (-1), 1) := by decide +kernel
theorem dX3_init_19 : decode cX3_init 19 = .ok (.iastore, 1) := by decide +kernel
theorem dX3_init_20 : decode cX3_init 20 = .ok (.dup, 1) := by decide +kernel
theorem dX3_init_21 : decode cX3_init 21 = .ok (.iconst 3, 1) := by decide +kernel
theorem dX3_init_22 : decode cX3_init 22 = .ok (.iconst (-1), 1) := by decide +kernel
theorem dX3_init_23 : decode cX3_init 23 = .ok (.iastore, 1) := by decide +kernel
theorem dX3_init_24 : decode cX3_init 24 = .ok (.putfield 9, 3) := by decide +kernel
theorem dX3_init_27 : decode cX3_init 27 = .ok (.aload_n 0, 1) := by decide +kernel
theorem dX3_init_28 : decode cX3_init 28 = .ok (.iconst 4, 1) := by decide +kernel
theorem dX3_init_29 : decode cX3_init 29 = .ok (.newarray .int, 2) := by decide +kernel
theorem dX3_init_31 : decode cX3_init 31 = .ok (.putfield 13, 3) := by decide +kernel
theorem dX3_init_34 : decode cX3_init 34 = .ok (.aload_n 0, 1) := by decide +kernel
theorem dX3_init_35 : decode cX3_init 35 = .ok (.sipush 160, 3) := by decide +kernel
theorem dX3_init_38 : decode cX3_init 38 = .ok (.newarray .int, 2) := by decide +kernel
theorem dX3_init_40 : decode cX3_init 40 = .ok (.putfield 16, 3) := by decide +kernel
theorem dX3_init_43 : decode cX3_init 43 = .ok (.return_, 1) := by decide +kernel
theorem dX4_init_0 : decode cX4_init 0 = .ok (.aload_n 0, 1) := by decide +kernel
theorem dX4_init_1 : decode cX4_init 1 = .ok (.invokespecial 3, 3) := by decide +kernel
theorem dX4_init_4 : decode cX4_init 4 = .ok (.aload_n 0, 1) := by decide +kernel
theorem dX4_init_5 : decode cX4_init 5 = .ok (.sipush 960, 3) := by decide +kernel
theorem dX4_init_8 : decode cX4_init 8 = .ok (.newarray .int, 2) := by decide +kernel
theorem dX4_init_10 : decode cX4_init 10 = .ok (.putfield 9, 3) := by decide +kernel
theorem dX4_init_13 : decode cX4_init 13 = .ok (.aload_n 0, 1) := by decide +kernel
theorem dX4_init_14 : decode cX4_init 14 = .ok (.bipush 18, 2) := by decide +kernel
theorem dX4_init_16 : decode cX4_init 16 = .ok (.newarray .int, 2) := by decide +kernel
theorem dX4_init_18 : decode cX4_init 18 = .ok (.putfield 15, 3) := by decide +kernel
theorem dX4_init_21 : decode cX4_init 21 = .ok (.aload_n 0, 1) := by decide +kernel
theorem dX4_init_22 : decode cX4_init 22 = .ok (.sipush 160, 3) := by decide +kernel
theorem dX4_init_25 : decode cX4_init 25 = .ok (.newarray .int, 2) := by decide +kernel
theorem dX4_init_27 : decode cX4_init 27 = .ok (.putfield 18, 3) := by decide +kernel
theorem dX4_init_30 : decode cX4_init 30 = .ok (.return_, 1) := by decide +kernel
theorem dX5_init_0 : decode cX5_init 0 = .ok (.aload_n 0, 1) := by decide +kernel
theorem dX5_init_1 : decode cX5_init 1 = .ok (.invokespecial 3, 3) := by decide +kernel
theorem dX5_init_4 : decode cX5_init 4 = .ok (.aload_n 0, 1) := by decide +kernel
theorem dX5_init_5 : decode cX5_init 5 = .ok (.bipush 6, 2) := by decide +kernel
theorem dX5_init_7 : decode cX5_init 7 = .ok (.newarray .int, 2) := by decide +kernel
theorem dX5_init_9 : decode cX5_init 9 = .ok (.putfield 9, 3) := by decide +kernel
theorem dX5_init_12 : decode cX5_init 12 = .ok (.aload_n 0, 1) := by decide +kernel
theorem dX5_init_13 : decode cX5_init 13 = .ok (.bipush 6, 2) := by decide +kernel
theorem dX5_init_15 : decode cX5_init 15 = .ok (.newarray .int, 2) := by decide +kernel
theorem dX5_init_17 : decode cX5_init 17 = .ok (.putfield 15, 3) := by decide +kernel
theorem dX5_init_20 : decode cX5_init 20 = .ok (.aload_n 0, 1) := by decide +kernel
theorem dX5_init_21 : decode cX5_init 21 = .ok (.bipush 6, 2) := by decide +kernel
theorem dX5_init_23 : decode cX5_init 23 = .ok (.newarray .int, 2) := by decide +kernel
theorem dX5_init_25 : decode cX5_init 25 = .ok (.putfield 18, 3) := by decide +kernel
theorem dX5_init_28 : decode cX5_init 28 = .ok (.aload_n 0, 1) := by decide +kernel
theorem dX5_init_29 : decode cX5_init 29 = .ok (.bipush 6, 2) := by decide +kernel
theorem dX5_init_31 : decode cX5_init 31 = .ok (.newarray .int, 2) := by decide +kernel
theorem dX5_init_33 : decode cX5_init 33 = .ok (.putfield 21, 3) := by decide +kernel
theorem dX5_init_36 : decode cX5_init 36 = .ok (.aload_n 0, 1) := by decide +kernel
theorem dX5_init_37 : decode cX5_init 37 = .ok (.bipush 6, 2) := by decide +kernel
theorem dX5_init_39 : decode cX5_init 39 = .ok (.newarray .int, 2) := by decide +kernel
theorem dX5_init_41 : decode cX5_init 41 = .ok (.putfield 24, 3) := by decide +kernel
theorem dX5_init_44 : decode cX5_init 44 = .ok (.aload_n 0, 1) := by decide +kernel
theorem dX5_init_45 : decode cX5_init 45 = .ok (.bipush 10, 2) := by decide +kernel
theorem dX5_init_47 : decode cX5_init 47 = .ok (.newarray .int, 2) := by decide +kernel
theorem dX5_init_49 : decode cX5_init 49 = .ok (.putfield 27, 3) := by decide +kernel
theorem dX5_init_52 : decode cX5_init 52 = .ok (.aload_n 0, 1) := by decide +kernel
theorem dX5_init_53 : decode cX5_init 53 = .ok (.bipush 10, 2) := by decide +kernel
theorem dX5_init_55 : decode cX5_init 55 = .ok (.newarray .int, 2) := by decide +kernel
theorem dX5_init_57 : decode cX5_init 57 = .ok (.putfield 30, 3) := by decide +kernel
theorem dX5_init_60 : decode cX5_init 60 = .ok (.aload_n 0, 1) := by decide +kernel
theorem dX5_init_61 : decode cX5_init 61 = .ok (.bipush 10, 2) := by decide +kernel
theorem dX5_init_63 : decode cX5_init 63 = .ok (.newarray .int, 2) := by decide +kernel
theorem dX5_init_65 : decode cX5_init 65 = .ok (.putfield 33, 3) := by decide +kernel
theorem dX5_init_68 : decode cX5_init 68 = .ok (.aload_n 0, 1) := by decide +kernel
theorem dX5_init_69 : decode cX5_init 69 = .ok (.bipush 10, 2) := by decide +kernel
theorem dX5_init_71 : decode cX5_init 71 = .ok (.newarray .int, 2) := by decide +kernel
theorem dX5_init_73 : decode cX5_init 73 = .ok (.putfield 36, 3) := by decide +kernel
theorem dX5_init_76 : decode cX5_init 76 = .ok (.aload_n 0, 1) := by decide +kernel
theorem dX5_init_77 : decode cX5_init 77 = .ok (.bipush 6, 2) := by decide +kernel
theorem dX5_init_79 : decode cX5_init 79 = .ok (.newarray .int, 2) := by decide +kernel
theorem dX5_init_81 : decode cX5_init 81 = .ok (.putfield 41, 3) := by decide +kernel
theorem dX5_init_84 : decode cX5_init 84 = .ok (.aload_n 0, 1) := by decide +kernel
theorem dX5_init_85 : decode cX5_init 85 = .ok (.aload_n 1, 1) := by decide +kernel
theorem dX5_init_86 : decode cX5_init 86 = .ok (.putfield 44, 3) := by decide +kernel
theorem dX5_init_89 : decode cX5_init 89 = .ok (.return_, 1) := by decide +kernel
theorem dX6_init_0 : decode cX6_init 0 = .ok (.aload_n 0, 1) := by decide +kernel
theorem dX6_init_1 : decode cX6_init 1 = .ok (.invokespecial 1, 3) := by decide +kernel
theorem dX6_init_4 : decode cX6_init 4 = .ok (.aload_n 0, 1) := by decide +kernel
theorem dX6_init_5 : decode cX6_init 5 = .ok (.new 7, 3) := by decide +kernel
theorem dX6_init_8 : decode cX6_init 8 = .ok (.dup, 1) := by decide +kernel
theorem dX6_init_9 : decode cX6_init 9 = .ok (.invokespecial 9, 3) := by decide +kernel
theorem dX6_init_12 : decode cX6_init 12 = .ok (.putfield 10, 3) := by decide +kernel
theorem dX6_init_15 : decode cX6_init 15 = .ok (.aload_n 0, 1) := by decide +kernel
theorem dX6_init_16 : decode cX6_init 16 = .ok (.new 16, 3) := by decide +kernel
theorem dX6_init_19 : decode cX6_init 19 = .ok (.dup, 1) := by decide +kernel
theorem dX6_init_20 : decode cX6_init 20 = .ok (.invokespecial 18, 3) := by decide +kernel
theorem dX6_init_23 : decode cX6_init 23 = .ok (.putfield 19, 3) := by decide +kernel
theorem dX6_init_26 : decode cX6_init 26 = .ok (.iconst 0, 1) := by decide +kernel
theorem dX6_init_27 : decode cX6_init 27 = .ok (.istore_n 1, 1) := by decide +kernel
theorem dX6_init_28 : decode cX6_init 28 = .ok (.iload_n 1, 1) := by decide +kernel
theorem dX6_init_29 : decode cX6_init 29 = .ok (.ldc 23, 2) := by decide +kernel
theorem dX6_init_31 : decode cX6_init 31 = .ok (.invokevirtual 25, 3) := by decide +kernel
theorem dX6_init_34 : decode cX6_init 34 = .ok (.if_icmp .ge 22, 3) := by decide +kernel
theorem dX6_init_37 : decode cX6_init 37 = .ok (.aload_n 0, 1) := by decide +kernel
theorem dX6_init_38 : decode cX6_init 38 = .ok (.getfield 19, 3) := by decide +kernel
theorem dX6_init_41 : decode cX6_init 41 = .ok (.ldc 23, 2) := by decide +kernel
theorem dX6_init_43 : decode cX6_init 43 = .ok (.iload_n 1, 1) := by decide +kernel
theorem dX6_init_44 : decode cX6_init 44 = .ok (.invokevirtual 31, 3) := by decide +kernel
theorem dX6_init_47 : decode cX6_init 47 = .ok (.invokevirtual 35, 3) := by decide +kernel
theorem dX6_init_50 : decode cX6_init 50 = .ok (.iinc 1 1, 3) := by decide +kernel
theorem dX6_init_53 : decode cX6_init 53 = .ok (.goto (-25), 3) := by decide +kernel
theorem dX6_init_56 : decode cX6_init 56 = .ok (.aload_n 0, 1) := by decide +kernel
theorem dX6_init_57 : decode cX6_init 57 = .ok (.getfield 19, 3) := by decide +kernel
theorem dX6_init_60 : decode cX6_init 60 = .ok (.invokevirtual 39, 3) := by decide +kernel
theorem dX6_init_63 : decode cX6_init 63 = .ok (.pop, 1) := by decide +kernel
theorem dX6_init_64 : decode cX6_init 64 = .ok (.aload_n 0, 1) := by decide +kernel
theorem dX6_init_65 : decode cX6_init 65 = .ok (.getfield 10, 3) := by decide +kernel
theorem dX6_init_68 : decode cX6_init 68 = .ok (.aload_n 0, 1) := by decide +kernel
theorem dX6_init_69 : decode cX6_init 69 = .ok (.getfield 19, 3) := by decide +kernel
theorem dX6_init_72 : decode cX6_init 72 = .ok (.invokevirtual 42, 3) := by decide +kernel
theorem dX6_init_75 : decode cX6_init 75 = .ok (.pop, 1) := by decide +kernel
theorem dX6_init_76 : decode cX6_init 76 = .ok (.aload_n 0, 1) := by decide +kernel
theorem dX6_init_77 : decode cX6_init 77 = .ok (.getfield 19, 3) := by decide +kernel
theorem dX6_init_80 : decode cX6_init 80 = .ok (.invokevirtual 46, 3) := by decide +kernel
theorem dX6_init_83 : decode cX6_init 83 = .ok (.aload_n 0, 1) := by decide +kernel
theorem dX6_init_84 : decode cX6_init 84 = .ok (.new 49, 3) := by decide +kernel
theorem dX6_init_87 : decode cX6_init 87 = .ok (.dup, 1) := by decide +kernel
theorem dX6_init_88 : decode cX6_init 88 = .ok (.aload_n 0, 1) := by decide +kernel
theorem dX6_init_89 : decode cX6_init 89 = .ok (.getfield 10, 3) := by decide +kernel
theorem dX6_init_92 : decode cX6_init 92 = .ok (.invokespecial 51, 3) := by decide +kernel
theorem dX6_init_95 : decode cX6_init 95 = .ok (.putfield 54, 3) := by decide +kernel
theorem dX6_init_98 : decode cX6_init 98 = .ok (.aload_n 0, 1) := by decide +kernel
theorem dX6_init_99 : decode cX6_init 99 = .ok (.new 49, 3) := by decide +kernel
theorem dX6_init_102 : decode cX6_init 102 = .ok (.dup, 1) := by decide +kernel
theorem dX6_init_103 : decode cX6_init 103 = .ok (.aload_n 0, 1) := by decide +kernel
theorem dX6_init_104 : decode cX6_init 104 = .ok (.getfield 10, 3) := by decide +kernel
theorem dX6_init_107 : decode cX6_init 107 = .ok (.invokespecial 51, 3) := by decide +kernel
theorem dX6_init_110 : decode cX6_init 110 = .ok (.putfield 58, 3) := by decide +kernel
theorem dX6_init_113 : decode cX6_init 113 = .ok (.aload_n 0, 1) := by decide +kernel
theorem dX6_init_114 : decode cX6_init 114 = .ok (.new 49, 3) := by decide +kernel
theorem dX6_init_117 : decode cX6_init 117 = .ok (.dup, 1) := by decide +kernel
theorem dX6_init_118 : decode cX6_init 118 = .ok (.aload_n 0, 1) := by decide +kernel
theorem dX6_init_119 : decode cX6_init 119 = .ok (.getfield 10, 3) := by decide +kernel
theorem dX6_init_122 : decode cX6_init 122 = .ok (.invokespecial 51, 3) := by decide +kernel
theorem dX6_init_125 : decode cX6_init 125 = .ok (.putfield 61, 3) := by decide +kernel
theorem dX6_init_128 : decode cX6_init 128 = .ok (.aload_n 0, 1) := by decide +kernel
theorem dX6_init_129 : decode cX6_init 129 = .ok (.new 64, 3) := by decide +kernel
theorem dX6_init_132 : decode cX6_init 132 = .ok (.dup, 1) := by decide +kernel
theorem dX6_init_133 : decode cX6_init 133 = .ok (.invokespecial 66, 3) := by decide +kernel
theorem dX6_init_136 : decode cX6_init 136 = .ok (.putfield 67, 3) := by decide +kernel
theorem dX6_init_139 : decode cX6_init 139 = .ok (.aload_n 0, 1) := by decide +kernel
theorem dX6_init_140 : decode cX6_init 140 = .ok (.bipush 6, 2) := by decide +kernel
theorem dX6_init_142 : decode cX6_init 142 = .ok (.newarray .int, 2) := by decide +kernel
theorem dX6_init_144 : decode cX6_init 144 = .ok (.putfield 71, 3) := by decide +kernel
theorem dX6_init_147 : decode cX6_init 147 = .ok (.aload_n 0, 1) := by decide +kernel
theorem dX6_init_148 : decode cX6_init 148 = .ok (.iconst 0, 1) := by decide +kernel
theorem dX6_init_149 : decode cX6_init 149 = .ok (.putfield 75, 3) := by decide +kernel
theorem dX6_init_152 : decode cX6_init 152 = .ok (.return_, 1) := by decide +kernel
theorem dX7_init_0 : decode cX7_init 0 = .ok (.aload_n 0, 1) := by decide +kernel
theorem dX7_init_1 : decode cX7_init 1 = .ok (.invokespecial 1, 3) := by decide +kernel
theorem dX7_init_4 : decode cX7_init 4 = .ok (.aload_n 0, 1) := by decide +kernel
theorem dX7_init_5 : decode cX7_init 5 = .ok (.bipush 6, 2) := by decide +kernel
theorem dX7_init_7 : decode cX7_init 7 = .ok (.newarray .int, 2) := by decide +kernel
theorem dX7_init_9 : decode cX7_init 9 = .ok (.putfield 7, 3) := by decide +kernel
theorem dX7_init_12 : decode cX7_init 12 = .ok (.aload_n 0, 1) := by decide +kernel
theorem dX7_init_13 : decode cX7_init 13 = .ok (.bipush 6, 2) := by decide +kernel
theorem dX7_init_15 : decode cX7_init 15 = .ok (.newarray .int, 2) := by decide +kernel
theorem dX7_init_17 : decode cX7_init 17 = .ok (.putfield 13, 3) := by decide +kernel
theorem dX7_init_20 : decode cX7_init 20 = .ok (.aload_n 0, 1) := by decide +kernel
theorem dX7_init_21 : decode cX7_init 21 = .ok (.bipush 18, 2) := by decide +kernel
theorem dX7_init_23 : decode cX7_init 23 = .ok (.newarray .int, 2) := by decide +kernel
theorem dX7_init_25 : decode cX7_init 25 = .ok (.putfield 16, 3) := by decide +kernel
theorem dX7_init_28 : decode cX7_init 28 = .ok (.aload_n 0, 1) := by decide +kernel
theorem dX7_init_29 : decode cX7_init 29 = .ok (.bipush 10, 2) := by decide +kernel
theorem dX7_init_31 : decode cX7_init 31 = .ok (.newarray .int, 2) := by decide +kernel
theorem dX7_init_33 : decode cX7_init 33 = .ok (.putfield 19, 3) := by decide +kernel
theorem dX7_init_36 : decode cX7_init 36 = .ok (.aload_n 0, 1) := by decide +kernel
theorem dX7_init_37 : decode cX7_init 37 = .ok (.bipush 10, 2) := by decide +kernel
theorem dX7_init_39 : decode cX7_init 39 = .ok (.newarray .int, 2) := by decide +kernel
theorem dX7_init_41 : decode cX7_init 41 = .ok (.putfield 22, 3) := by decide +kernel
theorem dX7_init_44 : decode cX7_init 44 = .ok (.aload_n 0, 1) := by decide +kernel
theorem dX7_init_45 : decode cX7_init 45 = .ok (.bipush 10, 2) := by decide +kernel
theorem dX7_init_47 : decode cX7_init 47 = .ok (.newarray .int, 2) := by decide +kernel
theorem dX7_init_49 : decode cX7_init 49 = .ok (.putfield 25, 3) := by decide +kernel
theorem dX7_init_52 : decode cX7_init 52 = .ok (.aload_n 0, 1) := by decide +kernel
theorem dX7_init_53 : decode cX7_init 53 = .ok (.bipush 10, 2) := by decide +kernel
theorem dX7_init_55 : decode cX7_init 55 = .ok (.newarray .int, 2) := by decide +kernel
theorem dX7_init_57 : decode cX7_init 57 = .ok (.putfield 28, 3) := by decide +kernel
theorem dX7_init_60 : decode cX7_init 60 = .ok (.aload_n 0, 1) := by decide +kernel
theorem dX7_init_61 : decode cX7_init 61 = .ok (.sipush 160, 3) := by decide +kernel
theorem dX7_init_64 : decode cX7_init 64 = .ok (.newarray .int, 2) := by decide +kernel
theorem dX7_init_66 : decode cX7_init 66 = .ok (.putfield 31, 3) := by decide +kernel
theorem dX7_init_69 : decode cX7_init 69 = .ok (.aload_n 0, 1) := by decide +kernel
theorem dX7_init_70 : decode cX7_init 70 = .ok (.sipush 1200, 3) := by decide +kernel
theorem dX7_init_73 : decode cX7_init 73 = .ok (.newarray .int, 2) := by decide +kernel
theorem dX7_init_75 : decode cX7_init 75 = .ok (.putfield 34, 3) := by decide +kernel
theorem dX7_init_78 : decode cX7_init 78 = .ok (.aload_n 0, 1) := by decide +kernel
theorem dX7_init_79 : decode cX7_init 79 = .ok (.bipush 24, 2) := by decide +kernel
theorem dX7_init_81 : decode cX7_init 81 = .ok (.newarray .int, 2) := by decide +kernel
theorem dX7_init_83 : decode cX7_init 83 = .ok (.putfield 37, 3) := by decide +kernel
theorem dX7_init_86 : decode cX7_init 86 = .ok (.aload_n 0, 1) := by decide +kernel
theorem dX7_init_87 : decode cX7_init 87 = .ok (.bipush 58, 2) := by decide +kernel
theorem dX7_init_89 : decode cX7_init 89 = .ok (.newarray .int, 2) := by decide +kernel
theorem dX7_init_91 : decode cX7_init 91 = .ok (.putfield 40, 3) := by decide +kernel
theorem dX7_init_94 : decode cX7_init 94 = .ok (.aload_n 0, 1) := by decide +kernel
theorem dX7_init_95 : decode cX7_init 95 = .ok (.iconst 4, 1) := by decide +kernel
theorem dX7_init_96 : decode cX7_init 96 = .ok (.newarray .int, 2) := by decide +kernel
theorem dX7_init_98 : decode cX7_init 98 = .ok (.putfield 43, 3) := by decide +kernel
theorem dX7_init_101 : decode cX7_init 101 = .ok (.aload_n 0, 1) := by decide +kernel
theorem dX7_init_102 : decode cX7_init 102 = .ok (.iconst 4, 1) := by decide +kernel
theorem dX7_init_103 : decode cX7_init 103 = .ok (.newarray .int, 2) := by decide +kernel
theorem dX7_init_105 : decode cX7_init 105 = .ok (.dup, 1) := by decide +kernel
theorem dX7_init_106 : decode cX7_init 106 = .ok (.iconst 0, 1) := by decide +kernel
theorem dX7_init_107 : decode cX7_init 107 = .ok (.iconst (-1), 1) := by decide +kernel
theorem dX7_init_108 : decode cX7_init 108 = .ok (.iastore, 1) := by decide +kernel
theorem dX7_init_109 : decode cX7_init 109 = .ok (.dup, 1) := by decide +kernel
theorem dX7_init_110 : decode cX7_init 110 = .ok (.iconst 1, 1) := by decide +kernel
theorem dX7_init_111 : decode cX7_init 111 = .ok (.iconst (-1), 1) := by decide +kernel
theorem dX7_init_112 : decode cX7_init 112 = .ok (.iastore, 1) := by decide +kernel
theorem dX7_init_113 : decode cX7_init 113 = .ok (.dup, 1) := by decide +kernel
theorem dX7_init_114 : decode cX7_init 114 = .ok (.iconst 2, 1) := by decide +kernel
theorem dX7_init_115 : decode cX7_init 115 = .ok (.iconst (-1), 1) := by decide +kernel
theorem dX7_init_116 : decode cX7_init 116 = .ok (.iastore, 1) := by decide +kernel
theorem dX7_init_117 : decode cX7_init 117 = .ok (.dup, 1) := by decide +kernel
theorem dX7_init_118 : decode cX7_init 118 = .ok (.iconst 3, 1) := by decide +kernel
theorem dX7_init_119 : decode cX7_init 119 = .ok (.iconst (-1), 1) := by decide +kernel
theorem dX7_init_120 : decode cX7_init 120 = .ok (.iastore, 1) := by decide +kernel
theorem dX7_init_121 : decode cX7_init 121 = .ok (.putfield 46, 3) := by decide +kernel
theorem dX7_init_124 : decode cX7_init 124 = .ok (.aload_n 0, 1) := by decide +kernel
theorem dX7_init_125 : decode cX7_init 125 = .ok (.iconst 4, 1) := by decide +kernel
theorem dX7_init_126 : decode cX7_init 126 = .ok (.newarray .int, 2) := by decide +kernel
theorem dX7_init_128 : decode cX7_init 128 = .ok (.putfield 49, 3) := by decide +kernel
theorem dX7_init_131 : decode cX7_init 131 = .ok (.aload_n 0, 1) := by decide +kernel
theorem dX7_init_132 : decode cX7_init 132 = .ok (.sipush 160, 3) := by decide +kernel
theorem dX7_init_135 : decode cX7_init 135 = .ok (.newarray .int, 2) := by decide +kernel
theorem dX7_init_137 : decode cX7_init 137 = .ok (.putfield 52, 3) := by decide +kernel
theorem dX7_init_140 : decode cX7_init 140 = .ok (.aload_n 0, 1) := by decide +kernel
theorem dX7_init_141 : decode cX7_init 141 = .ok (.bipush 42, 2) := by decide +kernel
theorem dX7_init_143 : decode cX7_init 143 = .ok (.newarray .int, 2) := by decide +kernel
theorem dX7_init_145 : decode cX7_init 145 = .ok (.dup, 1) := by decide +kernel
theorem dX7_init_146 : decode cX7_init 146 = .ok (.iconst 0, 1) := by decide +kernel
theorem dX7_init_147 : decode cX7_init 147 = .ok (.bipush 103, 2) := by decide +kernel
theorem dX7_init_149 : decode cX7_init 149 = .ok (.iastore, 1) := by decide +kernel
theorem dX7_init_150 : decode cX7_init 150 = .ok (.dup, 1) := by decide +kernel
theorem dX7_init_151 : decode cX7_init 151 = .ok (.iconst 1, 1) := by decide +kernel
theorem dX7_init_152 : decode cX7_init 152 = .ok (.bipush 114, 2) := by decide +kernel
theorem dX7_init_154 : decode cX7_init 154 = .ok (.iastore, 1) := by decide +kernel
theorem dX7_init_155 : decode cX7_init 155 = .ok (.dup, 1) := by decide +kernel
theorem dX7_init_156 : decode cX7_init 156 = .ok (.iconst 2, 1) := by decide +kernel
theorem dX7_init_157 : decode cX7_init 157 = .ok (.bipush 111, 2) := by decide +kernel
theorem dX7_init_159 : decode cX7_init 159 = .ok (.iastore, 1) := by decide +kernel
theorem dX7_init_160 : decode cX7_init 160 = .ok (.dup, 1) := by decide +kernel
theorem dX7_init_161 : decode cX7_init 161 = .ok (.iconst 3, 1) := by decide +kernel
theorem dX7_init_162 : decode cX7_init 162 = .ok (.bipush 119, 2) := by decide +kernel
theorem dX7_init_164 : decode cX7_init 164 = .ok (.iastore, 1) := by decide +kernel
theorem dX7_init_165 : decode cX7_init 165 = .ok (.dup, 1) := by decide +kernel
theorem dX7_init_166 : decode cX7_init 166 = .ok (.iconst 4, 1) := by decide +kernel
theorem dX7_init_167 : decode cX7_init 167 = .ok (.bipush 115, 2) := by decide +kernel
theorem dX7_init_169 : decode cX7_init 169 = .ok (.iastore, 1) := by decide +kernel
theorem dX7_init_170 : decode cX7_init 170 = .ok (.dup, 1) := by decide +kernel
theorem dX7_init_171 : decode cX7_init 171 = .ok (.iconst 5, 1) := by decide +kernel
theorem dX7_init_172 : decode cX7_init 172 = .ok (.bipush 32, 2) := by decide +kernel
theorem dX7_init_174 : decode cX7_init 174 = .ok (.iastore, 1) := by decide +kernel
theorem dX7_init_175 : decode cX7_init 175 = .ok (.dup, 1) := by decide +kernel
theorem dX7_init_176 : decode cX7_init 176 = .ok (.bipush 6, 2) := by decide +kernel
theorem dX7_init_178 : decode cX7_init 178 = .ok (.bipush 49, 2) := by decide +kernel
theorem dX7_init_180 : decode cX7_init 180 = .ok (.iastore, 1) := by decide +kernel
theorem dX7_init_181 : decode cX7_init 181 = .ok (.dup, 1) := by decide +kernel
theorem dX7_init_182 : decode cX7_init 182 = .ok (.bipush 7, 2) := by decide +kernel
theorem dX7_init_184 : decode cX7_init 184 = .ok (.bipush 32, 2) := by decide +kernel
theorem dX7_init_186 : decode cX7_init 186 = .ok (.iastore, 1) := by decide +kernel
theorem dX7_init_187 : decode cX7_init 187 = .ok (.dup, 1) := by decide +kernel
theorem dX7_init_188 : decode cX7_init 188 = .ok (.bipush 8, 2) := by decide +kernel
theorem dX7_init_190 : decode cX7_init 190 = .ok (.bipush 43, 2) := by decide +kernel
theorem dX7_init_192 : decode cX7_init 192 = .ok (.iastore, 1) := by decide +kernel
theorem dX7_init_193 : decode cX7_init 193 = .ok (.dup, 1) := by decide +kernel
theorem dX7_init_194 : decode cX7_init 194 = .ok (.bipush 9, 2) := by decide +kernel
theorem dX7_init_196 : decode cX7_init 196 = .ok (.bipush 32, 2) := by decide +kernel
theorem dX7_init_198 : decode cX7_init 198 = .ok (.iastore, 1) := by decide +kernel
theorem dX7_init_199 : decode cX7_init 199 = .ok (.dup, 1) := by decide +kernel
theorem dX7_init_200 : decode cX7_init 200 = .ok (.bipush 10, 2) := by decide +kernel
theorem dX7_init_202 : decode cX7_init 202 = .ok (.bipush 99, 2) := by decide +kernel
theorem dX7_init_204 : decode cX7_init 204 = .ok (.iastore, 1) := by decide +kernel
theorem dX7_init_205 : decode cX7_init 205 = .ok (.dup, 1) := by decide +kernel
theorem dX7_init_206 : decode cX7_init 206 = .ok (.bipush 11, 2) := by decide +kernel
theorem dX7_init_208 : decode cX7_init 208 = .ok (.bipush 111, 2) := by decide +kernel
theorem dX7_init_210 : decode cX7_init 210 = .ok (.iastore, 1) := by decide +kernel
theorem dX7_init_211 : decode cX7_init 211 = .ok (.dup, 1) := by decide +kernel
theorem dX7_init_212 : decode cX7_init 212 = .ok (.bipush 12, 2) := by decide +kernel
theorem dX7_init_214 : decode cX7_init 214 = .ok (.bipush 97, 2) := by decide +kernel
theorem dX7_init_216 : decode cX7_init 216 = .ok (.iastore, 1) := by decide +kernel
theorem dX7_init_217 : decode cX7_init 217 = .ok (.dup, 1) := by decide +kernel
theorem dX7_init_218 : decode cX7_init 218 = .ok (.bipush 13, 2) := by decide +kernel
theorem dX7_init_220 : decode cX7_init 220 = .ok (.bipush 108, 2) := by decide +kernel
theorem dX7_init_222 : decode cX7_init 222 = .ok (.iastore, 1) := by decide +kernel
theorem dX7_init_223 : decode cX7_init 223 = .ok (.dup, 1) := by decide +kernel
theorem dX7_init_224 : decode cX7_init 224 = .ok (.bipush 14, 2) := by decide +kernel
theorem dX7_init_226 : decode cX7_init 226 = .ok (.bipush 32, 2) := by decide +kernel
theorem dX7_init_228 : decode cX7_init 228 = .ok (.iastore, 1) := by decide +kernel
theorem dX7_init_229 : decode cX7_init 229 = .ok (.dup, 1) := by decide +kernel
theorem dX7_init_230 : decode cX7_init 230 = .ok (.bipush 15, 2) := by decide +kernel
theorem dX7_init_232 : decode cX7_init 232 = .ok (.bipush 60, 2) := by decide +kernel
theorem dX7_init_234 : decode cX7_init 234 = .ok (.iastore, 1) := by decide +kernel
theorem dX7_init_235 : decode cX7_init 235 = .ok (.dup, 1) := by decide +kernel
theorem dX7_init_236 : decode cX7_init 236 = .ok (.bipush 16, 2) := by decide +kernel
theorem dX7_init_238 : decode cX7_init 238 = .ok (.bipush 32, 2) := by decide +kernel
theorem dX7_init_240 : decode cX7_init 240 = .ok (.iastore, 1) := by decide +kernel
theorem dX7_init_241 : decode cX7_init 241 = .ok (.dup, 1) := by decide +kernel
theorem dX7_init_242 : decode cX7_init 242 = .ok (.bipush 17, 2) := by decide +kernel
theorem dX7_init_244 : decode cX7_init 244 = .ok (.bipush 57, 2) := by decide +kernel
theorem dX7_init_246 : decode cX7_init 246 = .ok (.iastore, 1) := by decide +kernel
theorem dX7_init_247 : decode cX7_init 247 = .ok (.dup, 1) := by decide +kernel
theorem dX7_init_248 : decode cX7_init 248 = .ok (.bipush 18, 2) := by decide +kernel
theorem dX7_init_250 : decode cX7_init 250 = .ok (.bipush 57, 2) := by decide +kernel
theorem dX7_init_252 : decode cX7_init 252 = .ok (.iastore, 1) := by decide +kernel
theorem dX7_init_253 : decode cX7_init 253 = .ok (.dup, 1) := by decide +kernel
theorem dX7_init_254 : decode cX7_init 254 = .ok (.bipush 19, 2) := by decide +kernel
theorem dX7_init_256 : decode cX7_init 256 = .ok (.bipush 32, 2) := by decide +kernel
theorem dX7_init_258 : decode cX7_init 258 = .ok (.iastore, 1) := by decide +kernel
theorem dX7_init_259 : decode cX7_init 259 = .ok (.dup, 1) := by decide +kernel
theorem dX7_init_260 : decode cX7_init 260 = .ok (.bipush 20, 2) := by decide +kernel
theorem dX7_init_262 : decode cX7_init 262 = .ok (.bipush 59, 2) := by decide +kernel
theorem dX7_init_264 : decode cX7_init 264 = .ok (.iastore, 1) := by decide +kernel
theorem dX7_init_265 : decode cX7_init 265 = .ok (.dup, 1) := by decide +kernel
theorem dX7_init_266 : decode cX7_init 266 = .ok (.bipush 21, 2) := by decide +kernel
theorem dX7_init_268 : decode cX7_init 268 = .ok (.bipush 32, 2) := by decide +kernel
theorem dX7_init_270 : decode cX7_init 270 = .ok (.iastore, 1) := by decide +kernel
theorem dX7_init_271 : decode cX7_init 271 = .ok (.dup, 1) := by decide +kernel
theorem dX7_init_272 : decode cX7_init 272 = .ok (.bipush 22, 2) := by decide +kernel
theorem dX7_init_274 : decode cX7_init 274 = .ok (.bipush 99, 2) := by decide +kernel
theorem dX7_init_276 : decode cX7_init 276 = .ok (.iastore, 1) := by decide +kernel
theorem dX7_init_277 : decode cX7_init 277 = .ok (.dup, 1) := by decide +kernel
theorem dX7_init_278 : decode cX7_init 278 = .ok (.bipush 23, 2) := by decide +kernel
theorem dX7_init_280 : decode cX7_init 280 = .ok (.bipush 111, 2) := by decide +kernel
theorem dX7_init_282 : decode cX7_init 282 = .ok (.iastore, 1) := by decide +kernel
theorem dX7_init_283 : decode cX7_init 283 = .ok (.dup, 1) := by decide +kernel
theorem dX7_init_284 : decode cX7_init 284 = .ok (.bipush 24, 2) := by decide +kernel
theorem dX7_init_286 : decode cX7_init 286 = .ok (.bipush 111, 2) := by decide +kernel
theorem dX7_init_288 : decode cX7_init 288 = .ok (.iastore, 1) := by decide +kernel
theorem dX7_init_289 : decode cX7_init 289 = .ok (.dup, 1) := by decide +kernel
theorem dX7_init_290 : decode cX7_init 290 = .ok (.bipush 25, 2) := by decide +kernel
theorem dX7_init_292 : decode cX7_init 292 = .ok (.bipush 108, 2) := by decide +kernel
theorem dX7_init_294 : decode cX7_init 294 = .ok (.iastore, 1) := by decide +kernel
theorem dX7_init_295 : decode cX7_init 295 = .ok (.dup, 1) := by decide +kernel
theorem dX7_init_296 : decode cX7_init 296 = .ok (.bipush 26, 2) := by decide +kernel
theorem dX7_init_298 : decode cX7_init 298 = .ok (.bipush 115, 2) := by decide +kernel
theorem dX7_init_300 : decode cX7_init 300 = .ok (.iastore, 1) := by decide +kernel
theorem dX7_init_301 : decode cX7_init 301 = .ok (.dup, 1) := by decide +kernel
theorem dX7_init_302 : decode cX7_init 302 = .ok (.bipush 27, 2) := by decide +kernel
theorem dX7_init_304 : decode cX7_init 304 = .ok (.bipush 32, 2) := by decide +kernel
theorem dX7_init_306 : decode cX7_init 306 = .ok (.iastore, 1) := by decide +kernel
theorem dX7_init_307 : decode cX7_init 307 = .ok (.dup, 1) := by decide +kernel
theorem dX7_init_308 : decode cX7_init 308 = .ok (.bipush 28, 2) := by decide +kernel
theorem dX7_init_310 : decode cX7_init 310 = .ok (.bipush 50, 2) := by decide +kernel
theorem dX7_init_312 : decode cX7_init 312 = .ok (.iastore, 1) := by decide +kernel
theorem dX7_init_313 : decode cX7_init 313 = .ok (.dup, 1) := by decide +kernel
theorem dX7_init_314 : decode cX7_init 314 = .ok (.bipush 29, 2) := by decide +kernel
theorem dX7_init_316 : decode cX7_init 316 = .ok (.bipush 32, 2) := by decide +kernel
theorem dX7_init_318 : decode cX7_init 318 = .ok (.iastore, 1) := by decide +kernel
theorem dX7_init_319 : decode cX7_init 319 = .ok (.dup, 1) := by decide +kernel
theorem dX7_init_320 : decode cX7_init 320 = .ok (.bipush 30, 2) := by decide +kernel
theorem dX7_init_322 : decode cX7_init 322 = .ok (.bipush 59, 2) := by decide +kernel
theorem dX7_init_324 : decode cX7_init 324 = .ok (.iastore, 1) := by decide +kernel
theorem dX7_init_325 : decode cX7_init 325 = .ok (.dup, 1) := by decide +kernel
theorem dX7_init_326 : decode cX7_init 326 = .ok (.bipush 31, 2) := by decide +kernel
theorem dX7_init_328 : decode cX7_init 328 = .ok (.bipush 32, 2) := by decide +kernel
theorem dX7_init_330 : decode cX7_init 330 = .ok (.iastore, 1) := by decide +kernel
theorem dX7_init_331 : decode cX7_init 331 = .ok (.dup, 1) := by decide +kernel
theorem dX7_init_332 : decode cX7_init 332 = .ok (.bipush 32, 2) := by decide +kernel
theorem dX7_init_334 : decode cX7_init 334 = .ok (.bipush 98, 2) := by decide +kernel
theorem dX7_init_336 : decode cX7_init 336 = .ok (.iastore, 1) := by decide +kernel
theorem dX7_init_337 : decode cX7_init 337 = .ok (.dup, 1) := by decide +kernel
theorem dX7_init_338 : decode cX7_init 338 = .ok (.bipush 33, 2) := by decide +kernel
theorem dX7_init_340 : decode cX7_init 340 = .ok (.bipush 117, 2) := by decide +kernel
theorem dX7_init_342 : decode cX7_init 342 = .ok (.iastore, 1) := by decide +kernel
theorem dX7_init_343 : decode cX7_init 343 = .ok (.dup, 1) := by decide +kernel
theorem dX7_init_344 : decode cX7_init 344 = .ok (.bipush 34, 2) := by decide +kernel
theorem dX7_init_346 : decode cX7_init 346 = .ok (.bipush 114, 2) := by decide +kernel
theorem dX7_init_348 : decode cX7_init 348 = .ok (.iastore, 1) := by decide +kernel
theorem dX7_init_349 : decode cX7_init 349 = .ok (.dup, 1) := by decide +kernel
theorem dX7_init_350 : decode cX7_init 350 = .ok (.bipush 35, 2) := by decide +kernel
theorem dX7_init_352 : decode cX7_init 352 = .ok (.bipush 110, 2) := by decide +kernel
theorem dX7_init_354 : decode cX7_init 354 = .ok (.iastore, 1) := by decide +kernel
theorem dX7_init_355 : decode cX7_init 355 = .ok (.dup, 1) := by decide +kernel
theorem dX7_init_356 : decode cX7_init 356 = .ok (.bipush 36, 2) := by decide +kernel
theorem dX7_init_358 : decode cX7_init 358 = .ok (.bipush 115, 2) := by decide +kernel
theorem dX7_init_360 : decode cX7_init 360 = .ok (.iastore, 1) := by decide +kernel
theorem dX7_init_361 : decode cX7_init 361 = .ok (.dup, 1) := by decide +kernel
theorem dX7_init_362 : decode cX7_init 362 = .ok (.bipush 37, 2) := by decide +kernel
theorem dX7_init_364 : decode cX7_init 364 = .ok (.bipush 32, 2) := by decide +kernel
theorem dX7_init_366 : decode cX7_init 366 = .ok (.iastore, 1) := by decide +kernel
theorem dX7_init_367 : decode cX7_init 367 = .ok (.dup, 1) := by decide +kernel
theorem dX7_init_368 : decode cX7_init 368 = .ok (.bipush 38, 2) := by decide +kernel
theorem dX7_init_370 : decode cX7_init 370 = .ok (.bipush 49, 2) := by decide +kernel
theorem dX7_init_372 : decode cX7_init 372 = .ok (.iastore, 1) := by decide +kernel
theorem dX7_init_373 : decode cX7_init 373 = .ok (.dup, 1) := by decide +kernel
theorem dX7_init_374 : decode cX7_init 374 = .ok (.bipush 39, 2) := by decide +kernel
theorem dX7_init_376 : decode cX7_init 376 = .ok (.bipush 48, 2) := by decide +kernel
theorem dX7_init_378 : decode cX7_init 378 = .ok (.iastore, 1) := by decide +kernel
theorem dX7_init_379 : decode cX7_init 379 = .ok (.dup, 1) := by decide +kernel
theorem dX7_init_380 : decode cX7_init 380 = .ok (.bipush 40, 2) := by decide +kernel
theorem dX7_init_382 : decode cX7_init 382 = .ok (.bipush 32, 2) := by decide +kernel
theorem dX7_init_384 : decode cX7_init 384 = .ok (.iastore, 1) := by decide +kernel
theorem dX7_init_385 : decode cX7_init 385 = .ok (.dup, 1) := by decide +kernel
theorem dX7_init_386 : decode cX7_init 386 = .ok (.bipush 41, 2) := by decide +kernel
theorem dX7_init_388 : decode cX7_init 388 = .ok (.bipush 59, 2) := by decide +kernel
theorem dX7_init_390 : decode cX7_init 390 = .ok (.iastore, 1) := by decide +kernel
theorem dX7_init_391 : decode cX7_init 391 = .ok (.putfield 55, 3) := by decide +kernel
theorem dX7_init_394 : decode cX7_init 394 = .ok (.aload_n 0, 1) := by decide +kernel
theorem dX7_init_395 : decode cX7_init 395 = .ok (.bipush 96, 2) := by decide +kernel
theorem dX7_init_397 : decode cX7_init 397 = .ok (.newarray .int, 2) := by decide +kernel
theorem dX7_init_399 : decode cX7_init 399 = .ok (.dup, 1) := by decide +kernel
theorem dX7_init_400 : decode cX7_init 400 = .ok (.iconst 0, 1) := by decide +kernel
theorem dX7_init_401 : decode cX7_init 401 = .ok (.bipush 103, 2) := by decide +kernel
theorem dX7_init_403 : decode cX7_init 403 = .ok (.iastore, 1) := by decide +kernel
theorem dX7_init_404 : decode cX7_init 404 = .ok (.dup, 1) := by decide +kernel
theorem dX7_init_405 : decode cX7_init 405 = .ok (.iconst 1, 1) := by decide +kernel
theorem dX7_init_406 : decode cX7_init 406 = .ok (.bipush 114, 2) := by decide +kernel
theorem dX7_init_408 : decode cX7_init 408 = .ok (.iastore, 1) := by decide +kernel
theorem dX7_init_409 : decode cX7_init 409 = .ok (.dup, 1) := by decide +kernel
theorem dX7_init_410 : decode cX7_init 410 = .ok (.iconst 2, 1) := by decide +kernel
theorem dX7_init_411 : decode cX7_init 411 = .ok (.bipush 111, 2) := by decide +kernel
theorem dX7_init_413 : decode cX7_init 413 = .ok (.iastore, 1) := by decide +kernel
theorem dX7_init_414 : decode cX7_init 414 = .ok (.dup, 1) := by decide +kernel
theorem dX7_init_415 : decode cX7_init 415 = .ok (.iconst 3, 1) := by decide +kernel
theorem dX7_init_416 : decode cX7_init 416 = .ok (.bipush 119, 2) := by decide +kernel
theorem dX7_init_418 : decode cX7_init 418 = .ok (.iastore, 1) := by decide +kernel
theorem dX7_init_419 : decode cX7_init 419 = .ok (.dup, 1) := by decide +kernel
theorem dX7_init_420 : decode cX7_init 420 = .ok (.iconst 4, 1) := by decide +kernel
theorem dX7_init_421 : decode cX7_init 421 = .ok (.bipush 115, 2) := by decide +kernel
theorem dX7_init_423 : decode cX7_init 423 = .ok (.iastore, 1) := by decide +kernel
theorem dX7_init_424 : decode cX7_init 424 = .ok (.dup, 1) := by decide +kernel
theorem dX7_init_425 : decode cX7_init 425 = .ok (.iconst 5, 1) := by decide +kernel
theorem dX7_init_426 : decode cX7_init 426 = .ok (.bipush 32, 2) := by decide +kernel
theorem dX7_init_428 : decode cX7_init 428 = .ok (.iastore, 1) := by decide +kernel
theorem dX7_init_429 : decode cX7_init 429 = .ok (.dup, 1) := by decide +kernel
theorem dX7_init_430 : decode cX7_init 430 = .ok (.bipush 6, 2) := by decide +kernel
theorem dX7_init_432 : decode cX7_init 432 = .ok (.bipush 32, 2) := by decide +kernel
theorem dX7_init_434 : decode cX7_init 434 = .ok (.iastore, 1) := by decide +kernel
theorem dX7_init_435 : decode cX7_init 435 = .ok (.dup, 1) := by decide +kernel
theorem dX7_init_436 : decode cX7_init 436 = .ok (.bipush 7, 2) := by decide +kernel
theorem dX7_init_438 : decode cX7_init 438 = .ok (.bipush 32, 2) := by decide +kernel
theorem dX7_init_440 : decode cX7_init 440 = .ok (.iastore, 1) := by decide +kernel
theorem dX7_init_441 : decode cX7_init 441 = .ok (.dup, 1) := by decide +kernel
theorem dX7_init_442 : decode cX7_init 442 = .ok (.bipush 8, 2) := by decide +kernel
theorem dX7_init_444 : decode cX7_init 444 = .ok (.bipush 99, 2) := by decide +kernel
theorem dX7_init_446 : decode cX7_init 446 = .ok (.iastore, 1) := by decide +kernel
theorem dX7_init_447 : decode cX7_init 447 = .ok (.dup, 1) := by decide +kernel
theorem dX7_init_448 : decode cX7_init 448 = .ok (.bipush 9, 2) := by decide +kernel
theorem dX7_init_450 : decode cX7_init 450 = .ok (.bipush 111, 2) := by decide +kernel
theorem dX7_init_452 : decode cX7_init 452 = .ok (.iastore, 1) := by decide +kernel
theorem dX7_init_453 : decode cX7_init 453 = .ok (.dup, 1) := by decide +kernel
theorem dX7_init_454 : decode cX7_init 454 = .ok (.bipush 10, 2) := by decide +kernel
theorem dX7_init_456 : decode cX7_init 456 = .ok (.bipush 111, 2) := by decide +kernel
theorem dX7_init_458 : decode cX7_init 458 = .ok (.iastore, 1) := by decide +kernel
theorem dX7_init_459 : decode cX7_init 459 = .ok (.dup, 1) := by decide +kernel
theorem dX7_init_460 : decode cX7_init 460 = .ok (.bipush 11, 2) := by decide +kernel
theorem dX7_init_462 : decode cX7_init 462 = .ok (.bipush 108, 2) := by decide +kernel
theorem dX7_init_464 : decode cX7_init 464 = .ok (.iastore, 1) := by decide +kernel
theorem dX7_init_465 : decode cX7_init 465 = .ok (.dup, 1) := by decide +kernel
theorem dX7_init_466 : decode cX7_init 466 = .ok (.bipush 12, 2) := by decide +kernel
theorem dX7_init_468 : decode cX7_init 468 = .ok (.bipush 115, 2) := by decide +kernel
theorem dX7_init_470 : decode cX7_init 470 = .ok (.iastore, 1) := by decide +kernel
theorem dX7_init_471 : decode cX7_init 471 = .ok (.dup, 1) := by decide +kernel
theorem dX7_init_472 : decode cX7_init 472 = .ok (.bipush 13, 2) := by decide +kernel
theorem dX7_init_474 : decode cX7_init 474 = .ok (.bipush 32, 2) := by decide +kernel
theorem dX7_init_476 : decode cX7_init 476 = .ok (.iastore, 1) := by decide +kernel
theorem dX7_init_477 : decode cX7_init 477 = .ok (.dup, 1) := by decide +kernel
theorem dX7_init_478 : decode cX7_init 478 = .ok (.bipush 14, 2) := by decide +kernel
theorem dX7_init_480 : decode cX7_init 480 = .ok (.bipush 32, 2) := by decide +kernel
theorem dX7_init_482 : decode cX7_init 482 = .ok (.iastore, 1) := by decide +kernel
theorem dX7_init_483 : decode cX7_init 483 = .ok (.dup, 1) := by decide +kernel
theorem dX7_init_484 : decode cX7_init 484 = .ok (.bipush 15, 2) := by decide +kernel
theorem dX7_init_486 : decode cX7_init 486 = .ok (.bipush 32, 2) := by decide +kernel
theorem dX7_init_488 : decode cX7_init 488 = .ok (.iastore, 1) := by decide +kernel
theorem dX7_init_489 : decode cX7_init 489 = .ok (.dup, 1) := by decide +kernel
theorem dX7_init_490 : decode cX7_init 490 = .ok (.bipush 16, 2) := by decide +kernel
theorem dX7_init_492 : decode cX7_init 492 = .ok (.bipush 98, 2) := by decide +kernel
theorem dX7_init_494 : decode cX7_init 494 = .ok (.iastore, 1) := by decide +kernel
theorem dX7_init_495 : decode cX7_init 495 = .ok (.dup, 1) := by decide +kernel
theorem dX7_init_496 : decode cX7_init 496 = .ok (.bipush 17, 2) := by decide +kernel
theorem dX7_init_498 : decode cX7_init 498 = .ok (.bipush 117, 2) := by decide +kernel
theorem dX7_init_500 : decode cX7_init 500 = .ok (.iastore, 1) := by decide +kernel
theorem dX7_init_501 : decode cX7_init 501 = .ok (.dup, 1) := by decide +kernel
theorem dX7_init_502 : decode cX7_init 502 = .ok (.bipush 18, 2) := by decide +kernel
theorem dX7_init_504 : decode cX7_init 504 = .ok (.bipush 114, 2) := by decide +kernel
theorem dX7_init_506 : decode cX7_init 506 = .ok (.iastore, 1) := by decide +kernel
theorem dX7_init_507 : decode cX7_init 507 = .ok (.dup, 1) := by decide +kernel
theorem dX7_init_508 : decode cX7_init 508 = .ok (.bipush 19, 2) := by decide +kernel
theorem dX7_init_510 : decode cX7_init 510 = .ok (.bipush 110, 2) := by decide +kernel
theorem dX7_init_512 : decode cX7_init 512 = .ok (.iastore, 1) := by decide +kernel
theorem dX7_init_513 : decode cX7_init 513 = .ok (.dup, 1) := by decide +kernel
theorem dX7_init_514 : decode cX7_init 514 = .ok (.bipush 20, 2) := by decide +kernel
theorem dX7_init_516 : decode cX7_init 516 = .ok (.bipush 115, 2) := by decide +kernel
theorem dX7_init_518 : decode cX7_init 518 = .ok (.iastore, 1) := by decide +kernel
theorem dX7_init_519 : decode cX7_init 519 = .ok (.dup, 1) := by decide +kernel
theorem dX7_init_520 : decode cX7_init 520 = .ok (.bipush 21, 2) := by decide +kernel
theorem dX7_init_522 : decode cX7_init 522 = .ok (.bipush 32, 2) := by decide +kernel
theorem dX7_init_524 : decode cX7_init 524 = .ok (.iastore, 1) := by decide +kernel
theorem dX7_init_525 : decode cX7_init 525 = .ok (.dup, 1) := by decide +kernel
theorem dX7_init_526 : decode cX7_init 526 = .ok (.bipush 22, 2) := by decide +kernel
theorem dX7_init_528 : decode cX7_init 528 = .ok (.bipush 32, 2) := by decide +kernel
theorem dX7_init_530 : decode cX7_init 530 = .ok (.iastore, 1) := by decide +kernel
theorem dX7_init_531 : decode cX7_init 531 = .ok (.dup, 1) := by decide +kernel
theorem dX7_init_532 : decode cX7_init 532 = .ok (.bipush 23, 2) := by decide +kernel
theorem dX7_init_534 : decode cX7_init 534 = .ok (.bipush 32, 2) := by decide +kernel
theorem dX7_init_536 : decode cX7_init 536 = .ok (.iastore, 1) := by decide +kernel
theorem dX7_init_537 : decode cX7_init 537 = .ok (.dup, 1) := by decide +kernel
theorem dX7_init_538 : decode cX7_init 538 = .ok (.bipush 24, 2) := by decide +kernel
theorem dX7_init_540 : decode cX7_init 540 = .ok (.bipush 104, 2) := by decide +kernel
theorem dX7_init_542 : decode cX7_init 542 = .ok (.iastore, 1) := by decide +kernel
theorem dX7_init_543 : decode cX7_init 543 = .ok (.dup, 1) := by decide +kernel
theorem dX7_init_544 : decode cX7_init 544 = .ok (.bipush 25, 2) := by decide +kernel
theorem dX7_init_546 : decode cX7_init 546 = .ok (.bipush 101, 2) := by decide +kernel
theorem dX7_init_548 : decode cX7_init 548 = .ok (.iastore, 1) := by decide +kernel
theorem dX7_init_549 : decode cX7_init 549 = .ok (.dup, 1) := by decide +kernel
theorem dX7_init_550 : decode cX7_init 550 = .ok (.bipush 26, 2) := by decide +kernel
theorem dX7_init_552 : decode cX7_init 552 = .ok (.bipush 97, 2) := by decide +kernel
theorem dX7_init_554 : decode cX7_init 554 = .ok (.iastore, 1) := by decide +kernel
theorem dX7_init_555 : decode cX7_init 555 = .ok (.dup, 1) := by decide +kernel
theorem dX7_init_556 : decode cX7_init 556 = .ok (.bipush 27, 2) := by decide +kernel
theorem dX7_init_558 : decode cX7_init 558 = .ok (.bipush 116, 2) := by decide +kernel
theorem dX7_init_560 : decode cX7_init 560 = .ok (.iastore, 1) := by decide +kernel
theorem dX7_init_561 : decode cX7_init 561 = .ok (.dup, 1) := by decide +kernel
theorem dX7_init_562 : decode cX7_init 562 = .ok (.bipush 28, 2) := by decide +kernel
theorem dX7_init_564 : decode cX7_init 564 = .ok (.bipush 32, 2) := by decide +kernel
theorem dX7_init_566 : decode cX7_init 566 = .ok (.iastore, 1) := by decide +kernel
theorem dX7_init_567 : decode cX7_init 567 = .ok (.dup, 1) := by decide +kernel
theorem dX7_init_568 : decode cX7_init 568 = .ok (.bipush 29, 2) := by decide +kernel
theorem dX7_init_570 : decode cX7_init 570 = .ok (.bipush 32, 2) := by decide +kernel
theorem dX7_init_572 : decode cX7_init 572 = .ok (.iastore, 1) := by decide +kernel
theorem dX7_init_573 : decode cX7_init 573 = .ok (.dup, 1) := by decide +kernel
theorem dX7_init_574 : decode cX7_init 574 = .ok (.bipush 30, 2) := by decide +kernel
theorem dX7_init_576 : decode cX7_init 576 = .ok (.bipush 32, 2) := by decide +kernel
theorem dX7_init_578 : decode cX7_init 578 = .ok (.iastore, 1) := by decide +kernel
theorem dX7_init_579 : decode cX7_init 579 = .ok (.dup, 1) := by decide +kernel
theorem dX7_init_580 : decode cX7_init 580 = .ok (.bipush 31, 2) := by decide +kernel
theorem dX7_init_582 : decode cX7_init 582 = .ok (.bipush 32, 2) := by decide +kernel
theorem dX7_init_584 : decode cX7_init 584 = .ok (.iastore, 1) := by decide +kernel
theorem dX7_init_585 : decode cX7_init 585 = .ok (.dup, 1) := by decide +kernel
theorem dX7_init_586 : decode cX7_init 586 = .ok (.bipush 32, 2) := by decide +kernel
theorem dX7_init_588 : decode cX7_init 588 = .ok (.bipush 119, 2) := by decide +kernel
theorem dX7_init_590 : decode cX7_init 590 = .ok (.iastore, 1) := by decide +kernel
theorem dX7_init_591 : decode cX7_init 591 = .ok (.dup, 1) := by decide +kernel
theorem dX7_init_592 : decode cX7_init 592 = .ok (.bipush 33, 2) := by decide +kernel
theorem dX7_init_594 : decode cX7_init 594 = .ok (.bipush 111, 2) := by decide +kernel
theorem dX7_init_596 : decode cX7_init 596 = .ok (.iastore, 1) := by decide +kernel
theorem dX7_init_597 : decode cX7_init 597 = .ok (.dup, 1) := by decide +kernel
theorem dX7_init_598 : decode cX7_init 598 = .ok (.bipush 34, 2) := by decide +kernel
theorem dX7_init_600 : decode cX7_init 600 = .ok (.bipush 111, 2) := by decide +kernel
theorem dX7_init_602 : decode cX7_init 602 = .ok (.iastore, 1) := by decide +kernel
theorem dX7_init_603 : decode cX7_init 603 = .ok (.dup, 1) := by decide +kernel
theorem dX7_init_604 : decode cX7_init 604 = .ok (.bipush 35, 2) := by decide +kernel
theorem dX7_init_606 : decode cX7_init 606 = .ok (.bipush 100, 2) := by decide +kernel
theorem dX7_init_608 : decode cX7_init 608 = .ok (.iastore, 1) := by decide +kernel
theorem dX7_init_609 : decode cX7_init 609 = .ok (.dup, 1) := by decide +kernel
theorem dX7_init_610 : decode cX7_init 610 = .ok (.bipush 36, 2) := by decide +kernel
theorem dX7_init_612 : decode cX7_init 612 = .ok (.bipush 32, 2) := by decide +kernel
theorem dX7_init_614 : decode cX7_init 614 = .ok (.iastore, 1) := by decide +kernel
theorem dX7_init_615 : decode cX7_init 615 = .ok (.dup, 1) := by decide +kernel
theorem dX7_init_616 : decode cX7_init 616 = .ok (.bipush 37, 2) := by decide +kernel
theorem dX7_init_618 : decode cX7_init 618 = .ok (.bipush 32, 2) := by decide +kernel
theorem dX7_init_620 : decode cX7_init 620 = .ok (.iastore, 1) := by decide +kernel
theorem dX7_init_621 : decode cX7_init 621 = .ok (.dup, 1) := by decide +kernel
theorem dX7_init_622 : decode cX7_init 622 = .ok (.bipush 38, 2) := by decide +kernel
theorem dX7_init_624 : decode cX7_init 624 = .ok (.bipush 32, 2) := by decide +kernel
theorem dX7_init_626 : decode cX7_init 626 = .ok (.iastore, 1) := by decide +kernel
theorem dX7_init_627 : decode cX7_init 627 = .ok (.dup, 1) := by decide +kernel
theorem dX7_init_628 : decode cX7_init 628 = .ok (.bipush 39, 2) := by decide +kernel
theorem dX7_init_630 : decode cX7_init 630 = .ok (.bipush 32, 2) := by decide +kernel
theorem dX7_init_632 : decode cX7_init 632 = .ok (.iastore, 1) := by decide +kernel
theorem dX7_init_633 : decode cX7_init 633 = .ok (.dup, 1) := by decide +kernel
theorem dX7_init_634 : decode cX7_init 634 = .ok (.bipush 40, 2) := by decide +kernel
theorem dX7_init_636 : decode cX7_init 636 = .ok (.bipush 110, 2) := by decide +kernel
theorem dX7_init_638 : decode cX7_init 638 = .ok (.iastore, 1) := by decide +kernel
theorem dX7_init_639 : decode cX7_init 639 = .ok (.dup, 1) := by decide +kernel
theorem dX7_init_640 : decode cX7_init 640 = .ok (.bipush 41, 2) := by decide +kernel
theorem dX7_init_642 : decode cX7_init 642 = .ok (.bipush 105, 2) := by decide +kernel
theorem dX7_init_644 : decode cX7_init 644 = .ok (.iastore, 1) := by decide +kernel
theorem dX7_init_645 : decode cX7_init 645 = .ok (.dup, 1) := by decide +kernel
theorem dX7_init_646 : decode cX7_init 646 = .ok (.bipush 42, 2) := by decide +kernel
theorem dX7_init_648 : decode cX7_init 648 = .ok (.bipush 103, 2) := by decide +kernel
theorem dX7_init_650 : decode cX7_init 650 = .ok (.iastore, 1) := by decide +kernel
theorem dX7_init_651 : decode cX7_init 651 = .ok (.dup, 1) := by decide +kernel
theorem dX7_init_652 : decode cX7_init 652 = .ok (.bipush 43, 2) := by decide +kernel
theorem dX7_init_654 : decode cX7_init 654 = .ok (.bipush 104, 2) := by decide +kernel
theorem dX7_init_656 : decode cX7_init 656 = .ok (.iastore, 1) := by decide +kernel
theorem dX7_init_657 : decode cX7_init 657 = .ok (.dup, 1) := by decide +kernel
theorem dX7_init_658 : decode cX7_init 658 = .ok (.bipush 44, 2) := by decide +kernel
theorem dX7_init_660 : decode cX7_init 660 = .ok (.bipush 116, 2) := by decide +kernel
theorem dX7_init_662 : decode cX7_init 662 = .ok (.iastore, 1) := by decide +kernel
theorem dX7_init_663 : decode cX7_init 663 = .ok (.dup, 1) := by decide +kernel
theorem dX7_init_664 : decode cX7_init 664 = .ok (.bipush 45, 2) := by decide +kernel
theorem dX7_init_666 : decode cX7_init 666 = .ok (.bipush 32, 2) := by decide +kernel
theorem dX7_init_668 : decode cX7_init 668 = .ok (.iastore, 1) := by decide +kernel
theorem dX7_init_669 : decode cX7_init 669 = .ok (.dup, 1) := by decide +kernel
theorem dX7_init_670 : decode cX7_init 670 = .ok (.bipush 46, 2) := by decide +kernel
theorem dX7_init_672 : decode cX7_init 672 = .ok (.bipush 32, 2) := by decide +kernel
theorem dX7_init_674 : decode cX7_init 674 = .ok (.iastore, 1) := by decide +kernel
theorem dX7_init_675 : decode cX7_init 675 = .ok (.dup, 1) := by decide +kernel
theorem dX7_init_676 : decode cX7_init 676 = .ok (.bipush 47, 2) := by decide +kernel
theorem dX7_init_678 : decode cX7_init 678 = .ok (.bipush 32, 2) := by decide +kernel
theorem dX7_init_680 : decode cX7_init 680 = .ok (.iastore, 1) := by decide +kernel
theorem dX7_init_681 : decode cX7_init 681 = .ok (.dup, 1) := by decide +kernel
theorem dX7_init_682 : decode cX7_init 682 = .ok (.bipush 48, 2) := by decide +kernel
theorem dX7_init_684 : decode cX7_init 684 = .ok (.bipush 99, 2) := by decide +kernel
theorem dX7_init_686 : decode cX7_init 686 = .ok (.iastore, 1) := by decide +kernel
theorem dX7_init_687 : decode cX7_init 687 = .ok (.dup, 1) := by decide +kernel
theorem dX7_init_688 : decode cX7_init 688 = .ok (.bipush 49, 2) := by decide +kernel
theorem dX7_init_690 : decode cX7_init 690 = .ok (.bipush 111, 2) := by decide +kernel
theorem dX7_init_692 : decode cX7_init 692 = .ok (.iastore, 1) := by decide +kernel
theorem dX7_init_693 : decode cX7_init 693 = .ok (.dup, 1) := by decide +kernel
theorem dX7_init_694 : decode cX7_init 694 = .ok (.bipush 50, 2) := by decide +kernel
theorem dX7_init_696 : decode cX7_init 696 = .ok (.bipush 97, 2) := by decide +kernel
theorem dX7_init_698 : decode cX7_init 698 = .ok (.iastore, 1) := by decide +kernel
theorem dX7_init_699 : decode cX7_init 699 = .ok (.dup, 1) := by decide +kernel
theorem dX7_init_700 : decode cX7_init 700 = .ok (.bipush 51, 2) := by decide +kernel
theorem dX7_init_702 : decode cX7_init 702 = .ok (.bipush 108, 2) := by decide +kernel
theorem dX7_init_704 : decode cX7_init 704 = .ok (.iastore, 1) := by decide +kernel
theorem dX7_init_705 : decode cX7_init 705 = .ok (.dup, 1) := by decide +kernel
theorem dX7_init_706 : decode cX7_init 706 = .ok (.bipush 52, 2) := by decide +kernel
theorem dX7_init_708 : decode cX7_init 708 = .ok (.bipush 32, 2) := by decide +kernel
theorem dX7_init_710 : decode cX7_init 710 = .ok (.iastore, 1) := by decide +kernel
theorem dX7_init_711 : decode cX7_init 711 = .ok (.dup, 1) := by decide +kernel
theorem dX7_init_712 : decode cX7_init 712 = .ok (.bipush 53, 2) := by decide +kernel
theorem dX7_init_714 : decode cX7_init 714 = .ok (.bipush 32, 2) := by decide +kernel
theorem dX7_init_716 : decode cX7_init 716 = .ok (.iastore, 1) := by decide +kernel
theorem dX7_init_717 : decode cX7_init 717 = .ok (.dup, 1) := by decide +kernel
theorem dX7_init_718 : decode cX7_init 718 = .ok (.bipush 54, 2) := by decide +kernel
theorem dX7_init_720 : decode cX7_init 720 = .ok (.bipush 32, 2) := by decide +kernel
theorem dX7_init_722 : decode cX7_init 722 = .ok (.iastore, 1) := by decide +kernel
theorem dX7_init_723 : decode cX7_init 723 = .ok (.dup, 1) := by decide +kernel
theorem dX7_init_724 : decode cX7_init 724 = .ok (.bipush 55, 2) := by decide +kernel
theorem dX7_init_726 : decode cX7_init 726 = .ok (.bipush 32, 2) := by decide +kernel
theorem dX7_init_728 : decode cX7_init 728 = .ok (.iastore, 1) := by decide +kernel
theorem dX7_init_729 : decode cX7_init 729 = .ok (.dup, 1) := by decide +kernel
theorem dX7_init_730 : decode cX7_init 730 = .ok (.bipush 56, 2) := by decide +kernel
theorem dX7_init_732 : decode cX7_init 732 = .ok (.bipush 111, 2) := by decide +kernel
theorem dX7_init_734 : decode cX7_init 734 = .ok (.iastore, 1) := by decide +kernel
theorem dX7_init_735 : decode cX7_init 735 = .ok (.dup, 1) := by decide +kernel
theorem dX7_init_736 : decode cX7_init 736 = .ok (.bipush 57, 2) := by decide +kernel
theorem dX7_init_738 : decode cX7_init 738 = .ok (.bipush 119, 2) := by decide +kernel
theorem dX7_init_740 : decode cX7_init 740 = .ok (.iastore, 1) := by decide +kernel
theorem dX7_init_741 : decode cX7_init 741 = .ok (.dup, 1) := by decide +kernel
theorem dX7_init_742 : decode cX7_init 742 = .ok (.bipush 58, 2) := by decide +kernel
theorem dX7_init_744 : decode cX7_init 744 = .ok (.bipush 101, 2) := by decide +kernel
theorem dX7_init_746 : decode cX7_init 746 = .ok (.iastore, 1) := by decide +kernel
theorem dX7_init_747 : decode cX7_init 747 = .ok (.dup, 1) := by decide +kernel
theorem dX7_init_748 : decode cX7_init 748 = .ok (.bipush 59, 2) := by decide +kernel
theorem dX7_init_750 : decode cX7_init 750 = .ok (.bipush 100, 2) := by decide +kernel
theorem dX7_init_752 : decode cX7_init 752 = .ok (.iastore, 1) := by decide +kernel
theorem dX7_init_753 : decode cX7_init 753 = .ok (.dup, 1) := by decide +kernel
theorem dX7_init_754 : decode cX7_init 754 = .ok (.bipush 60, 2) := by decide +kernel
theorem dX7_init_756 : decode cX7_init 756 = .ok (.bipush 32, 2) := by decide +kernel
theorem dX7_init_758 : decode cX7_init 758 = .ok (.iastore, 1) := by decide +kernel
theorem dX7_init_759 : decode cX7_init 759 = .ok (.dup, 1) := by decide +kernel
theorem dX7_init_760 : decode cX7_init 760 = .ok (.bipush 61, 2) := by decide +kernel
theorem dX7_init_762 : decode cX7_init 762 = .ok (.bipush 32, 2) := by decide +kernel
theorem dX7_init_764 : decode cX7_init 764 = .ok (.iastore, 1) := by decide +kernel
theorem dX7_init_765 : decode cX7_init 765 = .ok (.dup, 1) := by decide +kernel
theorem dX7_init_766 : decode cX7_init 766 = .ok (.bipush 62, 2) := by decide +kernel
theorem dX7_init_768 : decode cX7_init 768 = .ok (.bipush 32, 2) := by decide +kernel
theorem dX7_init_770 : decode cX7_init 770 = .ok (.iastore, 1) := by decide +kernel
theorem dX7_init_771 : decode cX7_init 771 = .ok (.dup, 1) := by decide +kernel
theorem dX7_init_772 : decode cX7_init 772 = .ok (.bipush 63, 2) := by decide +kernel
theorem dX7_init_774 : decode cX7_init 774 = .ok (.bipush 32, 2) := by decide +kernel
theorem dX7_init_776 : decode cX7_init 776 = .ok (.iastore, 1) := by decide +kernel
theorem dX7_init_777 : decode cX7_init 777 = .ok (.dup, 1) := by decide +kernel
theorem dX7_init_778 : decode cX7_init 778 = .ok (.bipush 64, 2) := by decide +kernel
theorem dX7_init_780 : decode cX7_init 780 = .ok (.bipush 109, 2) := by decide +kernel
theorem dX7_init_782 : decode cX7_init 782 = .ok (.iastore, 1) := by decide +kernel
theorem dX7_init_783 : decode cX7_init 783 = .ok (.dup, 1) := by decide +kernel
theorem dX7_init_784 : decode cX7_init 784 = .ok (.bipush 65, 2) := by decide +kernel
theorem dX7_init_786 : decode cX7_init 786 = .ok (.bipush 111, 2) := by decide +kernel
theorem dX7_init_788 : decode cX7_init 788 = .ok (.iastore, 1) := by decide +kernel
theorem dX7_init_789 : decode cX7_init 789 = .ok (.dup, 1) := by decide +kernel
theorem dX7_init_790 : decode cX7_init 790 = .ok (.bipush 66, 2) := by decide +kernel
theorem dX7_init_792 : decode cX7_init 792 = .ok (.bipush 114, 2) := by decide +kernel
theorem dX7_init_794 : decode cX7_init 794 = .ok (.iastore, 1) := by decide +kernel
theorem dX7_init_795 : decode cX7_init 795 = .ok (.dup, 1) := by decide +kernel
theorem dX7_init_796 : decode cX7_init 796 = .ok (.bipush 67, 2) := by decide +kernel
theorem dX7_init_798 : decode cX7_init 798 = .ok (.bipush 101, 2) := by decide +kernel
theorem dX7_init_800 : decode cX7_init 800 = .ok (.iastore, 1) := by decide +kernel
theorem dX7_init_801 : decode cX7_init 801 = .ok (.dup, 1) := by decide +kernel
theorem dX7_init_802 : decode cX7_init 802 = .ok (.bipush 68, 2) := by decide +kernel
theorem dX7_init_804 : decode cX7_init 804 = .ok (.bipush 32, 2) := by decide +kernel
theorem dX7_init_806 : decode cX7_init 806 = .ok (.iastore, 1) := by decide +kernel
theorem dX7_init_807 : decode cX7_init 807 = .ok (.dup, 1) := by decide +kernel
theorem dX7_init_808 : decode cX7_init 808 = .ok (.bipush 69, 2) := by decide +kernel
theorem dX7_init_810 : decode cX7_init 810 = .ok (.bipush 32, 2) := by decide +kernel
theorem dX7_init_812 : decode cX7_init 812 = .ok (.iastore, 1) := by decide +kernel
theorem dX7_init_813 : decode cX7_init 813 = .ok (.dup, 1) := by decide +kernel
theorem dX7_init_814 : decode cX7_init 814 = .ok (.bipush 70, 2) := by decide +kernel
theorem dX7_init_816 : decode cX7_init 816 = .ok (.bipush 32, 2) := by decide +kernel
theorem dX7_init_818 : decode cX7_init 818 = .ok (.iastore, 1) := by decide +kernel
theorem dX7_init_819 : decode cX7_init 819 = .ok (.dup, 1) := by decide +kernel
theorem dX7_init_820 : decode cX7_init 820 = .ok (.bipush 71, 2) := by decide +kernel
theorem dX7_init_822 : decode cX7_init 822 = .ok (.bipush 32, 2) := by decide +kernel
theorem dX7_init_824 : decode cX7_init 824 = .ok (.iastore, 1) := by decide +kernel
theorem dX7_init_825 : decode cX7_init 825 = .ok (.dup, 1) := by decide +kernel
theorem dX7_init_826 : decode cX7_init 826 = .ok (.bipush 72, 2) := by decide +kernel
theorem dX7_init_828 : decode cX7_init 828 = .ok (.bipush 111, 2) := by decide +kernel
theorem dX7_init_830 : decode cX7_init 830 = .ok (.iastore, 1) := by decide +kernel
theorem dX7_init_831 : decode cX7_init 831 = .ok (.dup, 1) := by decide +kernel
theorem dX7_init_832 : decode cX7_init 832 = .ok (.bipush 73, 2) := by decide +kernel
theorem dX7_init_834 : decode cX7_init 834 = .ok (.bipush 114, 2) := by decide +kernel
theorem dX7_init_836 : decode cX7_init 836 = .ok (.iastore, 1) := by decide +kernel
theorem dX7_init_837 : decode cX7_init 837 = .ok (.dup, 1) := by decide +kernel
theorem dX7_init_838 : decode cX7_init 838 = .ok (.bipush 74, 2) := by decide +kernel
theorem dX7_init_840 : decode cX7_init 840 = .ok (.bipush 32, 2) := by decide +kernel
theorem dX7_init_842 : decode cX7_init 842 = .ok (.iastore, 1) := by decide +kernel
theorem dX7_init_843 : decode cX7_init 843 = .ok (.dup, 1) := by decide +kernel
theorem dX7_init_844 : decode cX7_init 844 = .ok (.bipush 75, 2) := by decide +kernel
theorem dX7_init_846 : decode cX7_init 846 = .ok (.bipush 32, 2) := by decide +kernel
theorem dX7_init_848 : decode cX7_init 848 = .ok (.iastore, 1) := by decide +kernel
theorem dX7_init_849 : decode cX7_init 849 = .ok (.dup, 1) := by decide +kernel
theorem dX7_init_850 : decode cX7_init 850 = .ok (.bipush 76, 2) := by decide +kernel
theorem dX7_init_852 : decode cX7_init 852 = .ok (.bipush 32, 2) := by decide +kernel
theorem dX7_init_854 : decode cX7_init 854 = .ok (.iastore, 1) := by decide +kernel
theorem dX7_init_855 : decode cX7_init 855 = .ok (.dup, 1) := by decide +kernel
theorem dX7_init_856 : decode cX7_init 856 = .ok (.bipush 77, 2) := by decide +kernel
theorem dX7_init_858 : decode cX7_init 858 = .ok (.bipush 32, 2) := by decide +kernel
theorem dX7_init_860 : decode cX7_init 860 = .ok (.iastore, 1) := by decide +kernel
theorem dX7_init_861 : decode cX7_init 861 = .ok (.dup, 1) := by decide +kernel
theorem dX7_init_862 : decode cX7_init 862 = .ok (.bipush 78, 2) := by decide +kernel
theorem dX7_init_864 : decode cX7_init 864 = .ok (.bipush 32, 2) := by decide +kernel
theorem dX7_init_866 : decode cX7_init 866 = .ok (.iastore, 1) := by decide +kernel
theorem dX7_init_867 : decode cX7_init 867 = .ok (.dup, 1) := by decide +kernel
theorem dX7_init_868 : decode cX7_init 868 = .ok (.bipush 79, 2) := by decide +kernel
theorem dX7_init_870 : decode cX7_init 870 = .ok (.bipush 32, 2) := by decide +kernel
theorem dX7_init_872 : decode cX7_init 872 = .ok (.iastore, 1) := by decide +kernel
theorem dX7_init_873 : decode cX7_init 873 = .ok (.dup, 1) := by decide +kernel
theorem dX7_init_874 : decode cX7_init 874 = .ok (.bipush 80, 2) := by decide +kernel
theorem dX7_init_876 : decode cX7_init 876 = .ok (.bipush 97, 2) := by decide +kernel
theorem dX7_init_878 : decode cX7_init 878 = .ok (.iastore, 1) := by decide +kernel
theorem dX7_init_879 : decode cX7_init 879 = .ok (.dup, 1) := by decide +kernel
theorem dX7_init_880 : decode cX7_init 880 = .ok (.bipush 81, 2) := by decide +kernel
theorem dX7_init_882 : decode cX7_init 882 = .ok (.bipush 110, 2) := by decide +kernel
theorem dX7_init_884 : decode cX7_init 884 = .ok (.iastore, 1) := by decide +kernel
theorem dX7_init_885 : decode cX7_init 885 = .ok (.dup, 1) := by decide +kernel
theorem dX7_init_886 : decode cX7_init 886 = .ok (.bipush 82, 2) := by decide +kernel
theorem dX7_init_888 : decode cX7_init 888 = .ok (.bipush 100, 2) := by decide +kernel
theorem dX7_init_890 : decode cX7_init 890 = .ok (.iastore, 1) := by decide +kernel
theorem dX7_init_891 : decode cX7_init 891 = .ok (.dup, 1) := by decide +kernel
theorem dX7_init_892 : decode cX7_init 892 = .ok (.bipush 83, 2) := by decide +kernel
theorem dX7_init_894 : decode cX7_init 894 = .ok (.bipush 32, 2) := by decide +kernel
theorem dX7_init_896 : decode cX7_init 896 = .ok (.iastore, 1) := by decide +kernel
theorem dX7_init_897 : decode cX7_init 897 = .ok (.dup, 1) := by decide +kernel
theorem dX7_init_898 : decode cX7_init 898 = .ok (.bipush 84, 2) := by decide +kernel
theorem dX7_init_900 : decode cX7_init 900 = .ok (.bipush 32, 2) := by decide +kernel
theorem dX7_init_902 : decode cX7_init 902 = .ok (.iastore, 1) := by decide +kernel
theorem dX7_init_903 : decode cX7_init 903 = .ok (.dup, 1) := by decide +kernel
theorem dX7_init_904 : decode cX7_init 904 = .ok (.bipush 85, 2) := by decide +kernel
theorem dX7_init_906 : decode cX7_init 906 = .ok (.bipush 32, 2) := by decide +kernel
theorem dX7_init_908 : decode cX7_init 908 = .ok (.iastore, 1) := by decide +kernel
theorem dX7_init_909 : decode cX7_init 909 = .ok (.dup, 1) := by decide +kernel
theorem dX7_init_910 : decode cX7_init 910 = .ok (.bipush 86, 2) := by decide +kernel
theorem dX7_init_912 : decode cX7_init 912 = .ok (.bipush 32, 2) := by decide +kernel
theorem dX7_init_914 : decode cX7_init 914 = .ok (.iastore, 1) := by decide +kernel
theorem dX7_init_915 : decode cX7_init 915 = .ok (.dup, 1) := by decide +kernel
theorem dX7_init_916 : decode cX7_init 916 = .ok (.bipush 87, 2) := by decide +kernel
theorem dX7_init_918 : decode cX7_init 918 = .ok (.bipush 32, 2) := by decide +kernel
theorem dX7_init_920 : decode cX7_init 920 = .ok (.iastore, 1) := by decide +kernel
theorem dX7_init_921 : decode cX7_init 921 = .ok (.dup, 1) := by decide +kernel
theorem dX7_init_922 : decode cX7_init 922 = .ok (.bipush 88, 2) := by decide +kernel
theorem dX7_init_924 : decode cX7_init 924 = .ok (.bipush 110, 2) := by decide +kernel
theorem dX7_init_926 : decode cX7_init 926 = .ok (.iastore, 1) := by decide +kernel
theorem dX7_init_927 : decode cX7_init 927 = .ok (.dup, 1) := by decide +kernel
theorem dX7_init_928 : decode cX7_init 928 = .ok (.bipush 89, 2) := by decide +kernel
theorem dX7_init_930 : decode cX7_init 930 = .ok (.bipush 111, 2) := by decide +kernel
theorem dX7_init_932 : decode cX7_init 932 = .ok (.iastore, 1) := by decide +kernel
theorem dX7_init_933 : decode cX7_init 933 = .ok (.dup, 1) := by decide +kernel
theorem dX7_init_934 : decode cX7_init 934 = .ok (.bipush 90, 2) := by decide +kernel
theorem dX7_init_936 : decode cX7_init 936 = .ok (.bipush 116, 2) := by decide +kernel
theorem dX7_init_938 : decode cX7_init 938 = .ok (.iastore, 1) := by decide +kernel
theorem dX7_init_939 : decode cX7_init 939 = .ok (.dup, 1) := by decide +kernel
theorem dX7_init_940 : decode cX7_init 940 = .ok (.bipush 91, 2) := by decide +kernel
theorem dX7_init_942 : decode cX7_init 942 = .ok (.bipush 32, 2) := by decide +kernel
theorem dX7_init_944 : decode cX7_init 944 = .ok (.iastore, 1) := by decide +kernel
theorem dX7_init_945 : decode cX7_init 945 = .ok (.dup, 1) := by decide +kernel
theorem dX7_init_946 : decode cX7_init 946 = .ok (.bipush 92, 2) := by decide +kernel
theorem dX7_init_948 : decode cX7_init 948 = .ok (.bipush 32, 2) := by decide +kernel
theorem dX7_init_950 : decode cX7_init 950 = .ok (.iastore, 1) := by decide +kernel
theorem dX7_init_951 : decode cX7_init 951 = .ok (.dup, 1) := by decide +kernel
theorem dX7_init_952 : decode cX7_init 952 = .ok (.bipush 93, 2) := by decide +kernel
theorem dX7_init_954 : decode cX7_init 954 = .ok (.bipush 32, 2) := by decide +kernel
theorem dX7_init_956 : decode cX7_init 956 = .ok (.iastore, 1) := by decide +kernel
theorem dX7_init_957 : decode cX7_init 957 = .ok (.dup, 1) := by decide +kernel
theorem dX7_init_958 : decode cX7_init 958 = .ok (.bipush 94, 2) := by decide +kernel
theorem dX7_init_960 : decode cX7_init 960 = .ok (.bipush 32, 2) := by decide +kernel
theorem dX7_init_962 : decode cX7_init 962 = .ok (.iastore, 1) := by decide +kernel
theorem dX7_init_963 : decode cX7_init 963 = .ok (.dup, 1) := by decide +kernel
theorem dX7_init_964 : decode cX7_init 964 = .ok (.bipush 95, 2) := by decide +kernel
theorem dX7_init_966 : decode cX7_init 966 = .ok (.bipush 32, 2) := by decide +kernel
theorem dX7_init_968 : decode cX7_init 968 = .ok (.iastore, 1) := by decide +kernel
theorem dX7_init_969 : decode cX7_init 969 = .ok (.putfield 58, 3) := by decide +kernel
theorem dX7_init_972 : decode cX7_init 972 = .ok (.aload_n 0, 1) := by decide +kernel
theorem dX7_init_973 : decode cX7_init 973 = .ok (.sipush 200, 3) := by decide +kernel
theorem dX7_init_976 : decode cX7_init 976 = .ok (.newarray .int, 2) := by decide +kernel
theorem dX7_init_978 : decode cX7_init 978 = .ok (.putfield 61, 3) := by decide +kernel
theorem dX7_init_981 : decode cX7_init 981 = .ok (.aload_n 0, 1) := by decide +kernel
theorem dX7_init_982 : decode cX7_init 982 = .ok (.sipush 200, 3) := by decide +kernel
theorem dX7_init_985 : decode cX7_init 985 = .ok (.newarray .int, 2) := by decide +kernel
theorem dX7_init_987 : decode cX7_init 987 = .ok (.putfield 64, 3) := by decide +kernel
theorem dX7_init_990 : decode cX7_init 990 = .ok (.aload_n 0, 1) := by decide +kernel
theorem dX7_init_991 : decode cX7_init 991 = .ok (.bipush 6, 2) := by decide +kernel
theorem dX7_init_993 : decode cX7_init 993 = .ok (.newarray .int, 2) := by decide +kernel
theorem dX7_init_995 : decode cX7_init 995 = .ok (.putfield 67, 3) := by decide +kernel
theorem dX7_init_998 : decode cX7_init 998 = .ok (.aload_n 0, 1) := by decide +kernel
theorem dX7_init_999 : decode cX7_init 999 = .ok (.bipush 60, 2) := by decide +kernel
theorem dX7_init_1001 : decode cX7_init 1001 = .ok (.newarray .int, 2) := by decide +kernel
theorem dX7_init_1003 : decode cX7_init 1003 = .ok (.putfield 70, 3) := by decide +kernel
theorem dX7_init_1006 : decode cX7_init 1006 = .ok (.aload_n 0, 1) := by decide +kernel
theorem dX7_init_1007 : decode cX7_init 1007 = .ok (.bipush 6, 2) := by decide +kernel
theorem dX7_init_1009 : decode cX7_init 1009 = .ok (.newarray .int, 2) := by decide +kernel
theorem dX7_init_1011 : decode cX7_init 1011 = .ok (.putfield 73, 3) := by decide +kernel
theorem dX7_init_1014 : decode cX7_init 1014 = .ok (.iconst 0, 1) := by decide +kernel
theorem dX7_init_1015 : decode cX7_init 1015 = .ok (.istore_n 1, 1) := by decide +kernel
theorem dX7_init_1016 : decode cX7_init 1016 = .ok (.iload_n 1, 1) := by decide +kernel
theorem dX7_init_1017 : decode cX7_init 1017 = .ok (.bipush 42, 2) := by decide +kernel
theorem dX7_init_1019 : decode cX7_init 1019 = .ok (.if_icmp .ge 21, 3) := by decide +kernel
theorem dX7_init_1022 : decode cX7_init 1022 = .ok (.aload_n 0, 1) := by decide +kernel
theorem dX7_init_1023 : decode cX7_init 1023 = .ok (.getfield 31, 3) := by decide +kernel
theorem dX7_init_1026 : decode cX7_init 1026 = .ok (.iload_n 1, 1) := by decide +kernel
theorem dX7_init_1027 : decode cX7_init 1027 = .ok (.aload_n 0, 1) := by decide +kernel
theorem dX7_init_1028 : decode cX7_init 1028 = .ok (.getfield 55, 3) := by decide +kernel
theorem dX7_init_1031 : decode cX7_init 1031 = .ok (.iload_n 1, 1) := by decide +kernel
theorem dX7_init_1032 : decode cX7_init 1032 = .ok (.iaload, 1) := by decide +kernel
theorem dX7_init_1033 : decode cX7_init 1033 = .ok (.iastore, 1) := by decide +kernel
theorem dX7_init_1034 : decode cX7_init 1034 = .ok (.iinc 1 1, 3) := by decide +kernel
theorem dX7_init_1037 : decode cX7_init 1037 = .ok (.goto (-21), 3) := by decide +kernel
theorem dX7_init_1040 : decode cX7_init 1040 = .ok (.aload_n 0, 1) := by decide +kernel
theorem dX7_init_1041 : decode cX7_init 1041 = .ok (.bipush 42, 2) := by decide +kernel
theorem dX7_init_1043 : decode cX7_init 1043 = .ok (.putfield 76, 3) := by decide +kernel
theorem dX7_init_1046 : decode cX7_init 1046 = .ok (.aload_n 0, 1) := by decide +kernel
theorem dX7_init_1047 : decode cX7_init 1047 = .ok (.invokevirtual 80, 3) := by decide +kernel
theorem dX7_init_1050 : decode cX7_init 1050 = .ok (.pop, 1) := by decide +kernel
theorem dX7_init_1051 : decode cX7_init 1051 = .ok (.return_, 1) := by decide +kernel
