theorem dX5_becomeAs_0 : decode cX5_becomeAs 0 = .ok (.aload_n 1, 1) := by decide +kernel
theorem dX5_becomeAs_1 : decode cX5_becomeAs 1 = .ok (.getfield 9, 3) := by decide +kernel
theorem dX5_becomeAs_4 : decode cX5_becomeAs 4 = .ok (.iconst 0, 1) := by decide +kernel
theorem dX5_becomeAs_5 : decode cX5_becomeAs 5 = .ok (.aload_n 0, 1) := by decide +kernel
theorem dX5_becomeAs_6 : decode cX5_becomeAs 6 = .ok (.getfield 9, 3) := by decide +kernel
theorem dX5_becomeAs_9 : decode cX5_becomeAs 9 = .ok (.iconst 0, 1) := by decide +kernel
theorem dX5_becomeAs_10 : decode cX5_becomeAs 10 = .ok (.bipush 6, 2) := by decide +kernel
theorem dX5_becomeAs_12 : decode cX5_becomeAs 12 = .ok (.invokestatic 48, 3) := by decide +kernel
theorem dX5_becomeAs_15 : decode cX5_becomeAs 15 = .ok (.aload_n 1, 1) := by decide +kernel
theorem dX5_becomeAs_16 : decode cX5_becomeAs 16 = .ok (.getfield 15, 3) := by decide +kernel
theorem dX5_becomeAs_19 : decode cX5_becomeAs 19 = .ok (.iconst 0, 1) := by decide +kernel
theorem dX5_becomeAs_20 : decode cX5_becomeAs 20 = .ok (.aload_n 0, 1) := by decide +kernel
theorem dX5_becomeAs_21 : decode cX5_becomeAs 21 = .ok (.getfield 15, 3) := by decide +kernel
theorem dX5_becomeAs_24 : decode cX5_becomeAs 24 = .ok (.iconst 0, 1) := by decide +kernel
theorem dX5_becomeAs_25 : decode cX5_becomeAs 25 = .ok (.bipush 6, 2) := by decide +kernel
theorem dX5_becomeAs_27 : decode cX5_becomeAs 27 = .ok (.invokestatic 48, 3) := by decide +kernel
theorem dX5_becomeAs_30 : decode cX5_becomeAs 30 = .ok (.aload_n 1, 1) := by decide +kernel
theorem dX5_becomeAs_31 : decode cX5_becomeAs 31 = .ok (.getfield 18, 3) := by decide +kernel
theorem dX5_becomeAs_34 : decode cX5_becomeAs 34 = .ok (.iconst 0, 1) := by decide +kernel
theorem dX5_becomeAs_35 : decode cX5_becomeAs 35 = .ok (.aload_n 0, 1) := by decide +kernel
theorem dX5_becomeAs_36 : decode cX5_becomeAs 36 = .ok (.getfield 18, 3) := by decide +kernel
theorem dX5_becomeAs_39 : decode cX5_becomeAs 39 = .ok (.iconst 0, 1) := by decide +kernel
theorem dX5_becomeAs_40 : decode cX5_becomeAs 40 = .ok (.bipush 6, 2) := by decide +kernel
theorem dX5_becomeAs_42 : decode cX5_becomeAs 42 = .ok (.invokestatic 48, 3) := by decide +kernel
theorem dX5_becomeAs_45 : decode cX5_becomeAs 45 = .ok (.aload_n 1, 1) := by decide +kernel
theorem dX5_becomeAs_46 : decode cX5_becomeAs 46 = .ok (.getfield 21, 3) := by decide +kernel
theorem dX5_becomeAs_49 : decode cX5_becomeAs 49 = .ok (.iconst 0, 1) := by decide +kernel
theorem dX5_becomeAs_50 : decode cX5_becomeAs 50 = .ok (.aload_n 0, 1) := by decide +kernel
theorem dX5_becomeAs_51 : decode cX5_becomeAs 51 = .ok (.getfield 21, 3) := by decide +kernel
theorem dX5_becomeAs_54 : decode cX5_becomeAs 54 = .ok (.iconst 0, 1) := by decide +kernel
theorem dX5_becomeAs_55 : decode cX5_becomeAs 55 = .ok (.bipush 6, 2) := by decide +kernel
theorem dX5_becomeAs_57 : decode cX5_becomeAs 57 = .ok (.invokestatic 48, 3) := by decide +kernel
theorem dX5_becomeAs_60 : decode cX5_becomeAs 60 = .ok (.aload_n 1, 1) := by decide +kernel
theorem dX5_becomeAs_61 : decode cX5_becomeAs 61 = .ok (.getfield 24, 3) := by decide +kernel
theorem dX5_becomeAs_64 : decode cX5_becomeAs 64 = .ok (.iconst 0, 1) := by decide +kernel
theorem dX5_becomeAs_65 : decode cX5_becomeAs 65 = .ok (.aload_n 0, 1) := by decide +kernel
theorem dX5_becomeAs_66 : decode cX5_becomeAs 66 = .ok (.getfield 24, 3) := by decide +kernel
theorem dX5_becomeAs_69 : decode cX5_becomeAs 69 = .ok (.iconst 0, 1) := by decide +kernel
theorem dX5_becomeAs_70 : decode cX5_becomeAs 70 = .ok (.bipush 6, 2) := by decide +kernel
theorem dX5_becomeAs_72 : decode cX5_becomeAs 72 = .ok (.invokestatic 48, 3) := by decide +kernel
theorem dX5_becomeAs_75 : decode cX5_becomeAs 75 = .ok (.aload_n 1, 1) := by decide +kernel
theorem dX5_becomeAs_76 : decode cX5_becomeAs 76 = .ok (.getfield 27, 3) := by decide +kernel
theorem dX5_becomeAs_79 : decode cX5_becomeAs 79 = .ok (.iconst 0, 1) := by decide +kernel
theorem dX5_becomeAs_80 : decode cX5_becomeAs 80 = .ok (.aload_n 0, 1) := by decide +kernel
theorem dX5_becomeAs_81 : decode cX5_becomeAs 81 = .ok (.getfield 27, 3) := by decide +kernel
theorem dX5_becomeAs_84 : decode cX5_becomeAs 84 = .ok (.iconst 0, 1) := by decide +kernel
theorem dX5_becomeAs_85 : decode cX5_becomeAs 85 = .ok (.bipush 10, 2) := by decide +kernel
theorem dX5_becomeAs_87 : decode cX5_becomeAs 87 = .ok (.invokestatic 48, 3) := by decide +kernel
theorem dX5_becomeAs_90 : decode cX5_becomeAs 90 = .ok (.aload_n 1, 1) := by decide +kernel
theorem dX5_becomeAs_91 : decode cX5_becomeAs 91 = .ok (.getfield 30, 3) := by decide +kernel
theorem dX5_becomeAs_94 : decode cX5_becomeAs 94 = .ok (.iconst 0, 1) := by decide +kernel
theorem dX5_becomeAs_95 : decode cX5_becomeAs 95 = .ok (.aload_n 0, 1) := by decide +kernel
theorem dX5_becomeAs_96 : decode cX5_becomeAs 96 = .ok (.getfield 30, 3) := by decide +kernel
theorem dX5_becomeAs_99 : decode cX5_becomeAs 99 = .ok (.iconst 0, 1) := by decide +kernel
theorem dX5_becomeAs_100 : decode cX5_becomeAs 100 = .ok (.bipush 10, 2) := by decide +kernel
theorem dX5_becomeAs_102 : decode cX5_becomeAs 102 = .ok (.invokestatic 48, 3) := by decide +kernel
theorem dX5_becomeAs_105 : decode cX5_becomeAs 105 = .ok (.aload_n 1, 1) := by decide +kernel
theorem dX5_becomeAs_106 : decode cX5_becomeAs 106 = .ok (.getfield 33, 3) := by decide +kernel
theorem dX5_becomeAs_109 : decode cX5_becomeAs 109 = .ok (.iconst 0, 1) := by decide +kernel
theorem dX5_becomeAs_110 : decode cX5_becomeAs 110 = .ok (.aload_n 0, 1) := by decide +kernel
theorem dX5_becomeAs_111 : decode cX5_becomeAs 111 = .ok (.getfield 33, 3) := by decide +kernel
theorem dX5_becomeAs_114 : decode cX5_becomeAs 114 = .ok (.iconst 0, 1) := by decide +kernel
theorem dX5_becomeAs_115 : decode cX5_becomeAs 115 = .ok (.bipush 10, 2) := by decide +kernel
theorem dX5_becomeAs_117 : decode cX5_becomeAs 117 = .ok (.invokestatic 48, 3) := by decide +kernel
theorem dX5_becomeAs_120 : decode cX5_becomeAs 120 = .ok (.aload_n 1, 1) := by decide +kernel
theorem dX5_becomeAs_121 : decode cX5_becomeAs 121 = .ok (.getfield 36, 3) := by decide +kernel
theorem dX5_becomeAs_124 : decode cX5_becomeAs 124 = .ok (.iconst 0, 1) := by decide +kernel
theorem dX5_becomeAs_125 : decode cX5_becomeAs 125 = .ok (.aload_n 0, 1) := by decide +kernel
theorem dX5_becomeAs_126 : decode cX5_becomeAs 126 = .ok (.getfield 36, 3) := by decide +kernel
theorem dX5_becomeAs_129 : decode cX5_becomeAs 129 = .ok (.iconst 0, 1) := by decide +kernel
theorem dX5_becomeAs_130 : decode cX5_becomeAs 130 = .ok (.bipush 10, 2) := by decide +kernel
theorem dX5_becomeAs_132 : decode cX5_becomeAs 132 = .ok (.invokestatic 48, 3) := by decide +kernel
theorem dX5_becomeAs_135 : decode cX5_becomeAs 135 = .ok (.aload_n 0, 1) := by decide +kernel
theorem dX5_becomeAs_136 : decode cX5_becomeAs 136 = .ok (.aload_n 1, 1) := by decide +kernel
theorem dX5_becomeAs_137 : decode cX5_becomeAs 137 = .ok (.getfield 54, 3) := by decide +kernel
theorem dX5_becomeAs_140 : decode cX5_becomeAs 140 = .ok (.putfield 54, 3) := by decide +kernel
theorem dX5_becomeAs_143 : decode cX5_becomeAs 143 = .ok (.aload_n 0, 1) := by decide +kernel
theorem dX5_becomeAs_144 : decode cX5_becomeAs 144 = .ok (.aload_n 1, 1) := by decide +kernel
theorem dX5_becomeAs_145 : decode cX5_becomeAs 145 = .ok (.getfield 58, 3) := by decide +kernel
theorem dX5_becomeAs_148 : decode cX5_becomeAs 148 = .ok (.putfield 58, 3) := by decide +kernel
theorem dX5_becomeAs_151 : decode cX5_becomeAs 151 = .ok (.aload_n 0, 1) := by decide +kernel
theorem dX5_becomeAs_152 : decode cX5_becomeAs 152 = .ok (.aload_n 1, 1) := by decide +kernel
theorem dX5_becomeAs_153 : decode cX5_becomeAs 153 = .ok (.getfield 61, 3) := by decide +kernel
theorem dX5_becomeAs_156 : decode cX5_becomeAs 156 = .ok (.putfield 61, 3) := by decide +kernel
theorem dX5_becomeAs_159 : decode cX5_becomeAs 159 = .ok (.aload_n 0, 1) := by decide +kernel
theorem dX5_becomeAs_160 : decode cX5_becomeAs 160 = .ok (.aload_n 1, 1) := by decide +kernel
theorem dX5_becomeAs_161 : decode cX5_becomeAs 161 = .ok (.getfield 64, 3) := by decide +kernel
theorem dX5_becomeAs_164 : decode cX5_becomeAs 164 = .ok (.putfield 64, 3) := by decide +kernel
theorem dX5_becomeAs_167 : decode cX5_becomeAs 167 = .ok (.return_, 1) := by decide +kernel
theorem dX5_isHut_0 : decode cX5_isHut 0 = .ok (.iload_n 1, 1) := by decide +kernel
theorem dX5_isHut_1 : decode cX5_isHut 1 = .ok (.ifCond .lt 15, 3) := by decide +kernel
theorem dX5_isHut_4 : decode cX5_isHut 4 = .ok (.iload_n 1, 1) := by decide +kernel
theorem dX5_isHut_5 : decode cX5_isHut 5 = .ok (.aload_n 0, 1) := by decide +kernel
theorem dX5_isHut_6 : decode cX5_isHut 6 = .ok (.getfield 54, 3) := by decide +kernel
theorem dX5_isHut_9 : decode cX5_isHut 9 = .ok (.if_icmp .ge 7, 3) := by decide +kernel
theorem dX5_isHut_12 : decode cX5_isHut 12 = .ok (.iconst 1, 1) := by decide +kernel
theorem dX5_isHut_13 : decode cX5_isHut 13 = .ok (.goto 4, 3) := by decide +kernel
theorem dX5_isHut_16 : decode cX5_isHut 16 = .ok (.iconst 0, 1) := by decide +kernel
theorem dX5_isHut_17 : decode cX5_isHut 17 = .ok (.ireturn, 1) := by decide +kernel
theorem dX5_isLoan_0 : decode cX5_isLoan 0 = .ok (.iload_n 1, 1) := by decide +kernel
theorem dX5_isLoan_1 : decode cX5_isLoan 1 = .ok (.ifCond .lt 15, 3) := by decide +kernel
theorem dX5_isLoan_4 : decode cX5_isLoan 4 = .ok (.iload_n 1, 1) := by decide +kernel
theorem dX5_isLoan_5 : decode cX5_isLoan 5 = .ok (.aload_n 0, 1) := by decide +kernel
theorem dX5_isLoan_6 : decode cX5_isLoan 6 = .ok (.getfield 58, 3) := by decide +kernel
theorem dX5_isLoan_9 : decode cX5_isLoan 9 = .ok (.if_icmp .ge 7, 3) := by decide +kernel
theorem dX5_isLoan_12 : decode cX5_isLoan 12 = .ok (.iconst 1, 1) := by decide +kernel
theorem dX5_isLoan_13 : decode cX5_isLoan 13 = .ok (.goto 4, 3) := by decide +kernel
theorem dX5_isLoan_16 : decode cX5_isLoan 16 = .ok (.iconst 0, 1) := by decide +kernel
theorem dX5_isLoan_17 : decode cX5_isLoan 17 = .ok (.ireturn, 1) := by decide +kernel
theorem dX5_comes_0 : decode cX5_comes 0 = .ok (.iload_n 1, 1) := by decide +kernel
theorem dX5_comes_1 : decode cX5_comes 1 = .ok (.iconst 0, 1) := by decide +kernel
theorem dX5_comes_2 : decode cX5_comes 2 = .ok (.bipush 59, 2) := by decide +kernel
theorem dX5_comes_4 : decode cX5_comes 4 = .ok (.invokestatic 67, 3) := by decide +kernel
theorem dX5_comes_7 : decode cX5_comes 7 = .ok (.ifCond .eq 13, 3) := by decide +kernel
theorem dX5_comes_10 : decode cX5_comes 10 = .ok (.iload_n 2, 1) := by decide +kernel
theorem dX5_comes_11 : decode cX5_comes 11 = .ok (.iconst 0, 1) := by decide +kernel
theorem dX5_comes_12 : decode cX5_comes 12 = .ok (.ldc 71, 2) := by decide +kernel
theorem dX5_comes_14 : decode cX5_comes 14 = .ok (.invokestatic 67, 3) := by decide +kernel
theorem dX5_comes_17 : decode cX5_comes 17 = .ok (.ifCond .ne 6, 3) := by decide +kernel
theorem dX5_comes_20 : decode cX5_comes 20 = .ok (.bipush (-2), 2) := by decide +kernel
theorem dX5_comes_22 : decode cX5_comes 22 = .ok (.ireturn, 1) := by decide +kernel
theorem dX5_comes_23 : decode cX5_comes 23 = .ok (.aload_n 0, 1) := by decide +kernel
theorem dX5_comes_24 : decode cX5_comes 24 = .ok (.getfield 54, 3) := by decide +kernel
theorem dX5_comes_27 : decode cX5_comes 27 = .ok (.bipush 6, 2) := by decide +kernel
theorem dX5_comes_29 : decode cX5_comes 29 = .ok (.if_icmp .lt 6, 3) := by decide +kernel
theorem dX5_comes_32 : decode cX5_comes 32 = .ok (.bipush (-4), 2) := by decide +kernel
theorem dX5_comes_34 : decode cX5_comes 34 = .ok (.ireturn, 1) := by decide +kernel
theorem dX5_comes_35 : decode cX5_comes 35 = .ok (.aload_n 0, 1) := by decide +kernel
theorem dX5_comes_36 : decode cX5_comes 36 = .ok (.getfield 21, 3) := by decide +kernel
theorem dX5_comes_39 : decode cX5_comes 39 = .ok (.aload_n 0, 1) := by decide +kernel
theorem dX5_comes_40 : decode cX5_comes 40 = .ok (.getfield 54, 3) := by decide +kernel
theorem dX5_comes_43 : decode cX5_comes 43 = .ok (.iload_n 1, 1) := by decide +kernel
theorem dX5_comes_44 : decode cX5_comes 44 = .ok (.bipush 10, 2) := by decide +kernel
theorem dX5_comes_46 : decode cX5_comes 46 = .ok (.idiv, 1) := by decide +kernel
theorem dX5_comes_47 : decode cX5_comes 47 = .ok (.iastore, 1) := by decide +kernel
theorem dX5_comes_48 : decode cX5_comes 48 = .ok (.aload_n 0, 1) := by decide +kernel
theorem dX5_comes_49 : decode cX5_comes 49 = .ok (.getfield 24, 3) := by decide +kernel
theorem dX5_comes_52 : decode cX5_comes 52 = .ok (.aload_n 0, 1) := by decide +kernel
theorem dX5_comes_53 : decode cX5_comes 53 = .ok (.getfield 54, 3) := by decide +kernel
theorem dX5_comes_56 : decode cX5_comes 56 = .ok (.iload_n 1, 1) := by decide +kernel
theorem dX5_comes_57 : decode cX5_comes 57 = .ok (.bipush 10, 2) := by decide +kernel
theorem dX5_comes_59 : decode cX5_comes 59 = .ok (.irem, 1) := by decide +kernel
theorem dX5_comes_60 : decode cX5_comes 60 = .ok (.iastore, 1) := by decide +kernel
theorem dX5_comes_61 : decode cX5_comes 61 = .ok (.aload_n 0, 1) := by decide +kernel
theorem dX5_comes_62 : decode cX5_comes 62 = .ok (.getfield 9, 3) := by decide +kernel
theorem dX5_comes_65 : decode cX5_comes 65 = .ok (.aload_n 0, 1) := by decide +kernel
theorem dX5_comes_66 : decode cX5_comes 66 = .ok (.getfield 54, 3) := by decide +kernel
theorem dX5_comes_69 : decode cX5_comes 69 = .ok (.iload_n 2, 1) := by decide +kernel
theorem dX5_comes_70 : decode cX5_comes 70 = .ok (.bipush 100, 2) := by decide +kernel
theorem dX5_comes_72 : decode cX5_comes 72 = .ok (.idiv, 1) := by decide +kernel
theorem dX5_comes_73 : decode cX5_comes 73 = .ok (.iastore, 1) := by decide +kernel
theorem dX5_comes_74 : decode cX5_comes 74 = .ok (.aload_n 0, 1) := by decide +kernel
theorem dX5_comes_75 : decode cX5_comes 75 = .ok (.getfield 15, 3) := by decide +kernel
theorem dX5_comes_78 : decode cX5_comes 78 = .ok (.aload_n 0, 1) := by decide +kernel
theorem dX5_comes_79 : decode cX5_comes 79 = .ok (.getfield 54, 3) := by decide +kernel
theorem dX5_comes_82 : decode cX5_comes 82 = .ok (.iload_n 2, 1) := by decide +kernel
theorem dX5_comes_83 : decode cX5_comes 83 = .ok (.bipush 100, 2) := by decide +kernel
theorem dX5_comes_85 : decode cX5_comes 85 = .ok (.irem, 1) := by decide +kernel
theorem dX5_comes_86 : decode cX5_comes 86 = .ok (.iastore, 1) := by decide +kernel
theorem dX5_comes_87 : decode cX5_comes 87 = .ok (.aload_n 0, 1) := by decide +kernel
theorem dX5_comes_88 : decode cX5_comes 88 = .ok (.getfield 18, 3) := by decide +kernel
theorem dX5_comes_91 : decode cX5_comes 91 = .ok (.aload_n 0, 1) := by decide +kernel
theorem dX5_comes_92 : decode cX5_comes 92 = .ok (.getfield 54, 3) := by decide +kernel
theorem dX5_comes_95 : decode cX5_comes 95 = .ok (.iconst 0, 1) := by decide +kernel
theorem dX5_comes_96 : decode cX5_comes 96 = .ok (.iastore, 1) := by decide +kernel
theorem dX5_comes_97 : decode cX5_comes 97 = .ok (.aload_n 0, 1) := by decide +kernel
theorem dX5_comes_98 : decode cX5_comes 98 = .ok (.dup, 1) := by decide +kernel
theorem dX5_comes_99 : decode cX5_comes 99 = .ok (.getfield 54, 3) := by decide +kernel
theorem dX5_comes_102 : decode cX5_comes 102 = .ok (.iconst 1, 1) := by decide +kernel
theorem dX5_comes_103 : decode cX5_comes 103 = .ok (.iadd, 1) := by decide +kernel
theorem dX5_comes_104 : decode cX5_comes 104 = .ok (.putfield 54, 3) := by decide +kernel
theorem dX5_comes_107 : decode cX5_comes 107 = .ok (.aload_n 0, 1) := by decide +kernel
theorem dX5_comes_108 : decode cX5_comes 108 = .ok (.getfield 54, 3) := by decide +kernel
theorem dX5_comes_111 : decode cX5_comes 111 = .ok (.iconst 1, 1) := by decide +kernel
theorem dX5_comes_112 : decode cX5_comes 112 = .ok (.isub, 1) := by decide +kernel
theorem dX5_comes_113 : decode cX5_comes 113 = .ok (.ireturn, 1) := by decide +kernel
theorem dX5_stateOf_0 : decode cX5_stateOf 0 = .ok (.iload_n 2, 1) := by decide +kernel
theorem dX5_stateOf_1 : decode cX5_stateOf 1 = .ok (.lookupswitch 41 #[(0, 27), (1, 34)], 27) := by decide +kernel
theorem dX5_stateOf_28 : decode cX5_stateOf 28 = .ok (.aload_n 0, 1) := by decide +kernel
theorem dX5_stateOf_29 : decode cX5_stateOf 29 = .ok (.getfield 9, 3) := by decide +kernel
theorem dX5_stateOf_32 : decode cX5_stateOf 32 = .ok (.iload_n 1, 1) := by decide +kernel
theorem dX5_stateOf_33 : decode cX5_stateOf 33 = .ok (.iaload, 1) := by decide +kernel
theorem dX5_stateOf_34 : decode cX5_stateOf 34 = .ok (.ireturn, 1) := by decide +kernel
theorem dX5_stateOf_35 : decode cX5_stateOf 35 = .ok (.aload_n 0, 1) := by decide +kernel
theorem dX5_stateOf_36 : decode cX5_stateOf 36 = .ok (.getfield 15, 3) := by decide +kernel
theorem dX5_stateOf_39 : decode cX5_stateOf 39 = .ok (.iload_n 1, 1) := by decide +kernel
theorem dX5_stateOf_40 : decode cX5_stateOf 40 = .ok (.iaload, 1) := by decide +kernel
theorem dX5_stateOf_41 : decode cX5_stateOf 41 = .ok (.ireturn, 1) := by decide +kernel
theorem dX5_stateOf_42 : decode cX5_stateOf 42 = .ok (.aload_n 0, 1) := by decide +kernel
theorem dX5_stateOf_43 : decode cX5_stateOf 43 = .ok (.getfield 18, 3) := by decide +kernel
theorem dX5_stateOf_46 : decode cX5_stateOf 46 = .ok (.iload_n 1, 1) := by decide +kernel
theorem dX5_stateOf_47 : decode cX5_stateOf 47 = .ok (.iaload, 1) := by decide +kernel
theorem dX5_stateOf_48 : decode cX5_stateOf 48 = .ok (.ireturn, 1) := by decide +kernel
theorem dX5_become_0 : decode cX5_become 0 = .ok (.iload_n 2, 1) := by decide +kernel
theorem dX5_become_1 : decode cX5_become 1 = .ok (.lookupswitch 47 #[(0, 27), (1, 37)], 27) := by decide +kernel
theorem dX5_become_28 : decode cX5_become 28 = .ok (.aload_n 0, 1) := by decide +kernel
theorem dX5_become_29 : decode cX5_become 29 = .ok (.getfield 9, 3) := by decide +kernel
theorem dX5_become_32 : decode cX5_become 32 = .ok (.iload_n 1, 1) := by decide +kernel
theorem dX5_become_33 : decode cX5_become 33 = .ok (.iload_n 3, 1) := by decide +kernel
theorem dX5_become_34 : decode cX5_become 34 = .ok (.iastore, 1) := by decide +kernel
theorem dX5_become_35 : decode cX5_become 35 = .ok (.goto 20, 3) := by decide +kernel
theorem dX5_become_38 : decode cX5_become 38 = .ok (.aload_n 0, 1) := by decide +kernel
theorem dX5_become_39 : decode cX5_become 39 = .ok (.getfield 15, 3) := by decide +kernel
theorem dX5_become_42 : decode cX5_become 42 = .ok (.iload_n 1, 1) := by decide +kernel
theorem dX5_become_43 : decode cX5_become 43 = .ok (.iload_n 3, 1) := by decide +kernel
theorem dX5_become_44 : decode cX5_become 44 = .ok (.iastore, 1) := by decide +kernel
theorem dX5_become_45 : decode cX5_become 45 = .ok (.goto 10, 3) := by decide +kernel
theorem dX5_become_48 : decode cX5_become 48 = .ok (.aload_n 0, 1) := by decide +kernel
theorem dX5_become_49 : decode cX5_become 49 = .ok (.getfield 18, 3) := by decide +kernel
theorem dX5_become_52 : decode cX5_become 52 = .ok (.iload_n 1, 1) := by decide +kernel
theorem dX5_become_53 : decode cX5_become 53 = .ok (.iload_n 3, 1) := by decide +kernel
theorem dX5_become_54 : decode cX5_become 54 = .ok (.iastore, 1) := by decide +kernel
theorem dX5_become_55 : decode cX5_become 55 = .ok (.return_, 1) := by decide +kernel
theorem dX5_heatOfAll_0 : decode cX5_heatOfAll 0 = .ok (.iconst 0, 1) := by decide +kernel
theorem dX5_heatOfAll_1 : decode cX5_heatOfAll 1 = .ok (.istore_n 1, 1) := by decide +kernel
theorem dX5_heatOfAll_2 : decode cX5_heatOfAll 2 = .ok (.iconst 0, 1) := by decide +kernel
theorem dX5_heatOfAll_3 : decode cX5_heatOfAll 3 = .ok (.istore_n 2, 1) := by decide +kernel
theorem dX5_heatOfAll_4 : decode cX5_heatOfAll 4 = .ok (.iload_n 2, 1) := by decide +kernel
theorem dX5_heatOfAll_5 : decode cX5_heatOfAll 5 = .ok (.aload_n 0, 1) := by decide +kernel
theorem dX5_heatOfAll_6 : decode cX5_heatOfAll 6 = .ok (.getfield 54, 3) := by decide +kernel
theorem dX5_heatOfAll_9 : decode cX5_heatOfAll 9 = .ok (.if_icmp .ge 18, 3) := by decide +kernel
theorem dX5_heatOfAll_12 : decode cX5_heatOfAll 12 = .ok (.iload_n 1, 1) := by decide +kernel
theorem dX5_heatOfAll_13 : decode cX5_heatOfAll 13 = .ok (.aload_n 0, 1) := by decide +kernel
theorem dX5_heatOfAll_14 : decode cX5_heatOfAll 14 = .ok (.getfield 9, 3) := by decide +kernel
theorem dX5_heatOfAll_17 : decode cX5_heatOfAll 17 = .ok (.iload_n 2, 1) := by decide +kernel
theorem dX5_heatOfAll_18 : decode cX5_heatOfAll 18 = .ok (.iaload, 1) := by decide +kernel
theorem dX5_heatOfAll_19 : decode cX5_heatOfAll 19 = .ok (.iadd, 1) := by decide +kernel
theorem dX5_heatOfAll_20 : decode cX5_heatOfAll 20 = .ok (.istore_n 1, 1) := by decide +kernel
theorem dX5_heatOfAll_21 : decode cX5_heatOfAll 21 = .ok (.iinc 2 1, 3) := by decide +kernel
theorem dX5_heatOfAll_24 : decode cX5_heatOfAll 24 = .ok (.goto (-20), 3) := by decide +kernel
theorem dX5_heatOfAll_27 : decode cX5_heatOfAll 27 = .ok (.iload_n 1, 1) := by decide +kernel
theorem dX5_heatOfAll_28 : decode cX5_heatOfAll 28 = .ok (.ireturn, 1) := by decide +kernel
theorem dX5_owes_0 : decode cX5_owes 0 = .ok (.aload_n 0, 1) := by decide +kernel
theorem dX5_owes_1 : decode cX5_owes 1 = .ok (.aload_n 0, 1) := by decide +kernel
theorem dX5_owes_2 : decode cX5_owes 2 = .ok (.getfield 30, 3) := by decide +kernel
theorem dX5_owes_5 : decode cX5_owes 5 = .ok (.iload_n 1, 1) := by decide +kernel
theorem dX5_owes_6 : decode cX5_owes 6 = .ok (.invokevirtual 72, 3) := by decide +kernel
theorem dX5_owes_9 : decode cX5_owes 9 = .ok (.ireturn, 1) := by decide +kernel
theorem dX5_isOwed_0 : decode cX5_isOwed 0 = .ok (.aload_n 0, 1) := by decide +kernel
theorem dX5_isOwed_1 : decode cX5_isOwed 1 = .ok (.aload_n 0, 1) := by decide +kernel
theorem dX5_isOwed_2 : decode cX5_isOwed 2 = .ok (.getfield 27, 3) := by decide +kernel
theorem dX5_isOwed_5 : decode cX5_isOwed 5 = .ok (.iload_n 1, 1) := by decide +kernel
theorem dX5_isOwed_6 : decode cX5_isOwed 6 = .ok (.invokevirtual 72, 3) := by decide +kernel
theorem dX5_isOwed_9 : decode cX5_isOwed 9 = .ok (.ireturn, 1) := by decide +kernel
theorem dX5_coalsWhere_0 : decode cX5_coalsWhere 0 = .ok (.iconst 0, 1) := by decide +kernel
theorem dX5_coalsWhere_1 : decode cX5_coalsWhere 1 = .ok (.istore_n 3, 1) := by decide +kernel
theorem dX5_coalsWhere_2 : decode cX5_coalsWhere 2 = .ok (.iconst 0, 1) := by decide +kernel
theorem dX5_coalsWhere_3 : decode cX5_coalsWhere 3 = .ok (.istore 4, 2) := by decide +kernel
theorem dX5_coalsWhere_5 : decode cX5_coalsWhere 5 = .ok (.iload 4, 2) := by decide +kernel
theorem dX5_coalsWhere_7 : decode cX5_coalsWhere 7 = .ok (.aload_n 0, 1) := by decide +kernel
theorem dX5_coalsWhere_8 : decode cX5_coalsWhere 8 = .ok (.getfield 58, 3) := by decide +kernel
theorem dX5_coalsWhere_11 : decode cX5_coalsWhere 11 = .ok (.if_icmp .ge 27, 3) := by decide +kernel
theorem dX5_coalsWhere_14 : decode cX5_coalsWhere 14 = .ok (.aload_n 1, 1) := by decide +kernel
theorem dX5_coalsWhere_15 : decode cX5_coalsWhere 15 = .ok (.iload 4, 2) := by decide +kernel
theorem dX5_coalsWhere_17 : decode cX5_coalsWhere 17 = .ok (.iaload, 1) := by decide +kernel
theorem dX5_coalsWhere_18 : decode cX5_coalsWhere 18 = .ok (.iload_n 2, 1) := by decide +kernel
theorem dX5_coalsWhere_19 : decode cX5_coalsWhere 19 = .ok (.if_icmp .ne 13, 3) := by decide +kernel
theorem dX5_coalsWhere_22 : decode cX5_coalsWhere 22 = .ok (.iload_n 3, 1) := by decide +kernel
theorem dX5_coalsWhere_23 : decode cX5_coalsWhere 23 = .ok (.aload_n 0, 1) := by decide +kernel
theorem dX5_coalsWhere_24 : decode cX5_coalsWhere 24 = .ok (.getfield 33, 3) := by decide +kernel
theorem dX5_coalsWhere_27 : decode cX5_coalsWhere 27 = .ok (.iload 4, 2) := by decide +kernel
theorem dX5_coalsWhere_29 : decode cX5_coalsWhere 29 = .ok (.iaload, 1) := by decide +kernel
theorem dX5_coalsWhere_30 : decode cX5_coalsWhere 30 = .ok (.iadd, 1) := by decide +kernel
theorem dX5_coalsWhere_31 : decode cX5_coalsWhere 31 = .ok (.istore_n 3, 1) := by decide +kernel
theorem dX5_coalsWhere_32 : decode cX5_coalsWhere 32 = .ok (.iinc 4 1, 3) := by decide +kernel
theorem dX5_coalsWhere_35 : decode cX5_coalsWhere 35 = .ok (.goto (-30), 3) := by decide +kernel
theorem dX5_coalsWhere_38 : decode cX5_coalsWhere 38 = .ok (.iload_n 3, 1) := by decide +kernel
theorem dX5_coalsWhere_39 : decode cX5_coalsWhere 39 = .ok (.ireturn, 1) := by decide +kernel
theorem dX5_loansFrom_0 : decode cX5_loansFrom 0 = .ok (.iconst 0, 1) := by decide +kernel
theorem dX5_loansFrom_1 : decode cX5_loansFrom 1 = .ok (.istore_n 2, 1) := by decide +kernel
theorem dX5_loansFrom_2 : decode cX5_loansFrom 2 = .ok (.iconst 0, 1) := by decide +kernel
theorem dX5_loansFrom_3 : decode cX5_loansFrom 3 = .ok (.istore_n 3, 1) := by decide +kernel
theorem dX5_loansFrom_4 : decode cX5_loansFrom 4 = .ok (.iload_n 3, 1) := by decide +kernel
theorem dX5_loansFrom_5 : decode cX5_loansFrom 5 = .ok (.aload_n 0, 1) := by decide +kernel
theorem dX5_loansFrom_6 : decode cX5_loansFrom 6 = .ok (.getfield 58, 3) := by decide +kernel
theorem dX5_loansFrom_9 : decode cX5_loansFrom 9 = .ok (.if_icmp .ge 22, 3) := by decide +kernel
theorem dX5_loansFrom_12 : decode cX5_loansFrom 12 = .ok (.aload_n 0, 1) := by decide +kernel
theorem dX5_loansFrom_13 : decode cX5_loansFrom 13 = .ok (.getfield 27, 3) := by decide +kernel
theorem dX5_loansFrom_16 : decode cX5_loansFrom 16 = .ok (.iload_n 3, 1) := by decide +kernel
theorem dX5_loansFrom_17 : decode cX5_loansFrom 17 = .ok (.iaload, 1) := by decide +kernel
theorem dX5_loansFrom_18 : decode cX5_loansFrom 18 = .ok (.iload_n 1, 1) := by decide +kernel
theorem dX5_loansFrom_19 : decode cX5_loansFrom 19 = .ok (.if_icmp .ne 6, 3) := by decide +kernel
theorem dX5_loansFrom_22 : decode cX5_loansFrom 22 = .ok (.iinc 2 1, 3) := by decide +kernel
theorem dX5_loansFrom_25 : decode cX5_loansFrom 25 = .ok (.iinc 3 1, 3) := by decide +kernel
theorem dX5_loansFrom_28 : decode cX5_loansFrom 28 = .ok (.goto (-24), 3) := by decide +kernel
theorem dX5_loansFrom_31 : decode cX5_loansFrom 31 = .ok (.iload_n 2, 1) := by decide +kernel
theorem dX5_loansFrom_32 : decode cX5_loansFrom 32 = .ok (.ireturn, 1) := by decide +kernel
theorem dX5_sourceOf_0 : decode cX5_sourceOf 0 = .ok (.iconst 0, 1) := by decide +kernel
theorem dX5_sourceOf_1 : decode cX5_sourceOf 1 = .ok (.istore_n 2, 1) := by decide +kernel
theorem dX5_sourceOf_2 : decode cX5_sourceOf 2 = .ok (.iconst 0, 1) := by decide +kernel
theorem dX5_sourceOf_3 : decode cX5_sourceOf 3 = .ok (.istore_n 3, 1) := by decide +kernel
theorem dX5_sourceOf_4 : decode cX5_sourceOf 4 = .ok (.iload_n 3, 1) := by decide +kernel
theorem dX5_sourceOf_5 : decode cX5_sourceOf 5 = .ok (.aload_n 0, 1) := by decide +kernel
theorem dX5_sourceOf_6 : decode cX5_sourceOf 6 = .ok (.getfield 54, 3) := by decide +kernel
theorem dX5_sourceOf_9 : decode cX5_sourceOf 9 = .ok (.if_icmp .ge 64, 3) := by decide +kernel
theorem dX5_sourceOf_12 : decode cX5_sourceOf 12 = .ok (.iconst 0, 1) := by decide +kernel
theorem dX5_sourceOf_13 : decode cX5_sourceOf 13 = .ok (.istore 4, 2) := by decide +kernel
theorem dX5_sourceOf_15 : decode cX5_sourceOf 15 = .ok (.iload 4, 2) := by decide +kernel
theorem dX5_sourceOf_17 : decode cX5_sourceOf 17 = .ok (.aload_n 0, 1) := by decide +kernel
theorem dX5_sourceOf_18 : decode cX5_sourceOf 18 = .ok (.getfield 58, 3) := by decide +kernel
theorem dX5_sourceOf_21 : decode cX5_sourceOf 21 = .ok (.if_icmp .ge 46, 3) := by decide +kernel
theorem dX5_sourceOf_24 : decode cX5_sourceOf 24 = .ok (.aload_n 0, 1) := by decide +kernel
theorem dX5_sourceOf_25 : decode cX5_sourceOf 25 = .ok (.getfield 30, 3) := by decide +kernel
theorem dX5_sourceOf_28 : decode cX5_sourceOf 28 = .ok (.iload 4, 2) := by decide +kernel
theorem dX5_sourceOf_30 : decode cX5_sourceOf 30 = .ok (.iaload, 1) := by decide +kernel
theorem dX5_sourceOf_31 : decode cX5_sourceOf 31 = .ok (.iload_n 1, 1) := by decide +kernel
theorem dX5_sourceOf_32 : decode cX5_sourceOf 32 = .ok (.if_icmp .eq 17, 3) := by decide +kernel
theorem dX5_sourceOf_35 : decode cX5_sourceOf 35 = .ok (.iload_n 2, 1) := by decide +kernel
theorem dX5_sourceOf_36 : decode cX5_sourceOf 36 = .ok (.aload_n 0, 1) := by decide +kernel
theorem dX5_sourceOf_37 : decode cX5_sourceOf 37 = .ok (.getfield 30, 3) := by decide +kernel
theorem dX5_sourceOf_40 : decode cX5_sourceOf 40 = .ok (.iload 4, 2) := by decide +kernel
theorem dX5_sourceOf_42 : decode cX5_sourceOf 42 = .ok (.iaload, 1) := by decide +kernel
theorem dX5_sourceOf_43 : decode cX5_sourceOf 43 = .ok (.invokestatic 76, 3) := by decide +kernel
theorem dX5_sourceOf_46 : decode cX5_sourceOf 46 = .ok (.ifCond .eq 15, 3) := by decide +kernel
theorem dX5_sourceOf_49 : decode cX5_sourceOf 49 = .ok (.iload_n 2, 1) := by decide +kernel
theorem dX5_sourceOf_50 : decode cX5_sourceOf 50 = .ok (.iconst 1, 1) := by decide +kernel
theorem dX5_sourceOf_51 : decode cX5_sourceOf 51 = .ok (.aload_n 0, 1) := by decide +kernel
theorem dX5_sourceOf_52 : decode cX5_sourceOf 52 = .ok (.getfield 27, 3) := by decide +kernel
theorem dX5_sourceOf_55 : decode cX5_sourceOf 55 = .ok (.iload 4, 2) := by decide +kernel
theorem dX5_sourceOf_57 : decode cX5_sourceOf 57 = .ok (.iaload, 1) := by decide +kernel
theorem dX5_sourceOf_58 : decode cX5_sourceOf 58 = .ok (.ishl, 1) := by decide +kernel
theorem dX5_sourceOf_59 : decode cX5_sourceOf 59 = .ok (.ior, 1) := by decide +kernel
theorem dX5_sourceOf_60 : decode cX5_sourceOf 60 = .ok (.istore_n 2, 1) := by decide +kernel
theorem dX5_sourceOf_61 : decode cX5_sourceOf 61 = .ok (.iinc 4 1, 3) := by decide +kernel
theorem dX5_sourceOf_64 : decode cX5_sourceOf 64 = .ok (.goto (-49), 3) := by decide +kernel
theorem dX5_sourceOf_67 : decode cX5_sourceOf 67 = .ok (.iinc 3 1, 3) := by decide +kernel
theorem dX5_sourceOf_70 : decode cX5_sourceOf 70 = .ok (.goto (-66), 3) := by decide +kernel
theorem dX5_sourceOf_73 : decode cX5_sourceOf 73 = .ok (.iload_n 2, 1) := by decide +kernel
theorem dX5_sourceOf_74 : decode cX5_sourceOf 74 = .ok (.ireturn, 1) := by decide +kernel
theorem dX5_lends_0 : decode cX5_lends 0 = .ok (.aload_n 0, 1) := by decide +kernel
theorem dX5_lends_1 : decode cX5_lends 1 = .ok (.getfield 58, 3) := by decide +kernel
theorem dX5_lends_4 : decode cX5_lends 4 = .ok (.bipush 10, 2) := by decide +kernel
theorem dX5_lends_6 : decode cX5_lends 6 = .ok (.if_icmp .lt 6, 3) := by decide +kernel
theorem dX5_lends_9 : decode cX5_lends 9 = .ok (.bipush (-4), 2) := by decide +kernel
theorem dX5_lends_11 : decode cX5_lends 11 = .ok (.ireturn, 1) := by decide +kernel
theorem dX5_lends_12 : decode cX5_lends 12 = .ok (.aload_n 0, 1) := by decide +kernel
theorem dX5_lends_13 : decode cX5_lends 13 = .ok (.getfield 18, 3) := by decide +kernel
theorem dX5_lends_16 : decode cX5_lends 16 = .ok (.iload_n 1, 1) := by decide +kernel
theorem dX5_lends_17 : decode cX5_lends 17 = .ok (.iaload, 1) := by decide +kernel
theorem dX5_lends_18 : decode cX5_lends 18 = .ok (.ifCond .gt 13, 3) := by decide +kernel
theorem dX5_lends_21 : decode cX5_lends 21 = .ok (.aload_n 0, 1) := by decide +kernel
theorem dX5_lends_22 : decode cX5_lends 22 = .ok (.getfield 9, 3) := by decide +kernel
theorem dX5_lends_25 : decode cX5_lends 25 = .ok (.iload_n 1, 1) := by decide +kernel
theorem dX5_lends_26 : decode cX5_lends 26 = .ok (.iaload, 1) := by decide +kernel
theorem dX5_lends_27 : decode cX5_lends 27 = .ok (.iload_n 3, 1) := by decide +kernel
theorem dX5_lends_28 : decode cX5_lends 28 = .ok (.if_icmp .ge 6, 3) := by decide +kernel
theorem dX5_lends_31 : decode cX5_lends 31 = .ok (.bipush (-3), 2) := by decide +kernel
theorem dX5_lends_33 : decode cX5_lends 33 = .ok (.ireturn, 1) := by decide +kernel
theorem dX5_lends_34 : decode cX5_lends 34 = .ok (.aload_n 0, 1) := by decide +kernel
theorem dX5_lends_35 : decode cX5_lends 35 = .ok (.iload_n 1, 1) := by decide +kernel
theorem dX5_lends_36 : decode cX5_lends 36 = .ok (.iload_n 2, 1) := by decide +kernel
theorem dX5_lends_37 : decode cX5_lends 37 = .ok (.iload_n 3, 1) := by decide +kernel
theorem dX5_lends_38 : decode cX5_lends 38 = .ok (.invokevirtual 80, 3) := by decide +kernel
theorem dX5_lends_41 : decode cX5_lends 41 = .ok (.aload_n 0, 1) := by decide +kernel
theorem dX5_lends_42 : decode cX5_lends 42 = .ok (.getfield 27, 3) := by decide +kernel
theorem dX5_lends_45 : decode cX5_lends 45 = .ok (.aload_n 0, 1) := by decide +kernel
theorem dX5_lends_46 : decode cX5_lends 46 = .ok (.getfield 58, 3) := by decide +kernel
theorem dX5_lends_49 : decode cX5_lends 49 = .ok (.iload_n 1, 1) := by decide +kernel
theorem dX5_lends_50 : decode cX5_lends 50 = .ok (.iastore, 1) := by decide +kernel
theorem dX5_lends_51 : decode cX5_lends 51 = .ok (.aload_n 0, 1) := by decide +kernel
theorem dX5_lends_52 : decode cX5_lends 52 = .ok (.getfield 30, 3) := by decide +kernel
theorem dX5_lends_55 : decode cX5_lends 55 = .ok (.aload_n 0, 1) := by decide +kernel
theorem dX5_lends_56 : decode cX5_lends 56 = .ok (.getfield 58, 3) := by decide +kernel
theorem dX5_lends_59 : decode cX5_lends 59 = .ok (.iload_n 2, 1) := by decide +kernel
theorem dX5_lends_60 : decode cX5_lends 60 = .ok (.iastore, 1) := by decide +kernel
theorem dX5_lends_61 : decode cX5_lends 61 = .ok (.aload_n 0, 1) := by decide +kernel
theorem dX5_lends_62 : decode cX5_lends 62 = .ok (.getfield 33, 3) := by decide +kernel
theorem dX5_lends_65 : decode cX5_lends 65 = .ok (.aload_n 0, 1) := by decide +kernel
theorem dX5_lends_66 : decode cX5_lends 66 = .ok (.getfield 58, 3) := by decide +kernel
theorem dX5_lends_69 : decode cX5_lends 69 = .ok (.iload_n 3, 1) := by decide +kernel
theorem dX5_lends_70 : decode cX5_lends 70 = .ok (.iastore, 1) := by decide +kernel
theorem dX5_lends_71 : decode cX5_lends 71 = .ok (.aload_n 0, 1) := by decide +kernel
theorem dX5_lends_72 : decode cX5_lends 72 = .ok (.getfield 36, 3) := by decide +kernel
theorem dX5_lends_75 : decode cX5_lends 75 = .ok (.aload_n 0, 1) := by decide +kernel
theorem dX5_lends_76 : decode cX5_lends 76 = .ok (.getfield 58, 3) := by decide +kernel
theorem dX5_lends_79 : decode cX5_lends 79 = .ok (.aload_n 0, 1) := by decide +kernel
theorem dX5_lends_80 : decode cX5_lends 80 = .ok (.getfield 61, 3) := by decide +kernel
theorem dX5_lends_83 : decode cX5_lends 83 = .ok (.iload 4, 2) := by decide +kernel
theorem dX5_lends_85 : decode cX5_lends 85 = .ok (.iadd, 1) := by decide +kernel
theorem dX5_lends_86 : decode cX5_lends 86 = .ok (.iastore, 1) := by decide +kernel
theorem dX5_lends_87 : decode cX5_lends 87 = .ok (.aload_n 0, 1) := by decide +kernel
theorem dX5_lends_88 : decode cX5_lends 88 = .ok (.dup, 1) := by decide +kernel
theorem dX5_lends_89 : decode cX5_lends 89 = .ok (.getfield 58, 3) := by decide +kernel
theorem dX5_lends_92 : decode cX5_lends 92 = .ok (.iconst 1, 1) := by decide +kernel
theorem dX5_lends_93 : decode cX5_lends 93 = .ok (.iadd, 1) := by decide +kernel
theorem dX5_lends_94 : decode cX5_lends 94 = .ok (.putfield 58, 3) := by decide +kernel
theorem dX5_lends_97 : decode cX5_lends 97 = .ok (.aload_n 0, 1) := by decide +kernel
theorem dX5_lends_98 : decode cX5_lends 98 = .ok (.getfield 58, 3) := by decide +kernel
theorem dX5_lends_101 : decode cX5_lends 101 = .ok (.iconst 1, 1) := by decide +kernel
theorem dX5_lends_102 : decode cX5_lends 102 = .ok (.isub, 1) := by decide +kernel
theorem dX5_lends_103 : decode cX5_lends 103 = .ok (.ireturn, 1) := by decide +kernel
theorem dX5_pass_0 : decode cX5_pass 0 = .ok (.aload_n 0, 1) := by decide +kernel
theorem dX5_pass_1 : decode cX5_pass 1 = .ok (.getfield 9, 3) := by decide +kernel
theorem dX5_pass_4 : decode cX5_pass 4 = .ok (.iload_n 1, 1) := by decide +kernel
theorem dX5_pass_5 : decode cX5_pass 5 = .ok (.dup2, 1) := by decide +kernel
theorem dX5_pass_6 : decode cX5_pass 6 = .ok (.iaload, 1) := by decide +kernel
theorem dX5_pass_7 : decode cX5_pass 7 = .ok (.iload_n 3, 1) := by decide +kernel
theorem dX5_pass_8 : decode cX5_pass 8 = .ok (.isub, 1) := by decide +kernel
theorem dX5_pass_9 : decode cX5_pass 9 = .ok (.iastore, 1) := by decide +kernel
theorem dX5_pass_10 : decode cX5_pass 10 = .ok (.aload_n 0, 1) := by decide +kernel
theorem dX5_pass_11 : decode cX5_pass 11 = .ok (.getfield 9, 3) := by decide +kernel
theorem dX5_pass_14 : decode cX5_pass 14 = .ok (.iload_n 2, 1) := by decide +kernel
theorem dX5_pass_15 : decode cX5_pass 15 = .ok (.sipush 9999, 3) := by decide +kernel
theorem dX5_pass_18 : decode cX5_pass 18 = .ok (.aload_n 0, 1) := by decide +kernel
theorem dX5_pass_19 : decode cX5_pass 19 = .ok (.getfield 9, 3) := by decide +kernel
theorem dX5_pass_22 : decode cX5_pass 22 = .ok (.iload_n 2, 1) := by decide +kernel
theorem dX5_pass_23 : decode cX5_pass 23 = .ok (.iaload, 1) := by decide +kernel
theorem dX5_pass_24 : decode cX5_pass 24 = .ok (.iload_n 3, 1) := by decide +kernel
theorem dX5_pass_25 : decode cX5_pass 25 = .ok (.iadd, 1) := by decide +kernel
theorem dX5_pass_26 : decode cX5_pass 26 = .ok (.invokestatic 84, 3) := by decide +kernel
theorem dX5_pass_29 : decode cX5_pass 29 = .ok (.iastore, 1) := by decide +kernel
theorem dX5_pass_30 : decode cX5_pass 30 = .ok (.return_, 1) := by decide +kernel
theorem dX5_canRepay_0 : decode cX5_canRepay 0 = .ok (.aload_n 0, 1) := by decide +kernel
theorem dX5_canRepay_1 : decode cX5_canRepay 1 = .ok (.getfield 9, 3) := by decide +kernel
theorem dX5_canRepay_4 : decode cX5_canRepay 4 = .ok (.aload_n 0, 1) := by decide +kernel
theorem dX5_canRepay_5 : decode cX5_canRepay 5 = .ok (.getfield 30, 3) := by decide +kernel
theorem dX5_canRepay_8 : decode cX5_canRepay 8 = .ok (.iload_n 1, 1) := by decide +kernel
theorem dX5_canRepay_9 : decode cX5_canRepay 9 = .ok (.iaload, 1) := by decide +kernel
theorem dX5_canRepay_10 : decode cX5_canRepay 10 = .ok (.iaload, 1) := by decide +kernel
theorem dX5_canRepay_11 : decode cX5_canRepay 11 = .ok (.aload_n 0, 1) := by decide +kernel
theorem dX5_canRepay_12 : decode cX5_canRepay 12 = .ok (.getfield 33, 3) := by decide +kernel
theorem dX5_canRepay_15 : decode cX5_canRepay 15 = .ok (.iload_n 1, 1) := by decide +kernel
theorem dX5_canRepay_16 : decode cX5_canRepay 16 = .ok (.iaload, 1) := by decide +kernel
theorem dX5_canRepay_17 : decode cX5_canRepay 17 = .ok (.if_icmp .lt 7, 3) := by decide +kernel
theorem dX5_canRepay_20 : decode cX5_canRepay 20 = .ok (.iconst 1, 1) := by decide +kernel
theorem dX5_canRepay_21 : decode cX5_canRepay 21 = .ok (.goto 4, 3) := by decide +kernel
theorem dX5_canRepay_24 : decode cX5_canRepay 24 = .ok (.iconst 0, 1) := by decide +kernel
theorem dX5_canRepay_25 : decode cX5_canRepay 25 = .ok (.ireturn, 1) := by decide +kernel
theorem dX5_payBack_0 : decode cX5_payBack 0 = .ok (.aload_n 0, 1) := by decide +kernel
theorem dX5_payBack_1 : decode cX5_payBack 1 = .ok (.aload_n 0, 1) := by decide +kernel
theorem dX5_payBack_2 : decode cX5_payBack 2 = .ok (.getfield 30, 3) := by decide +kernel
theorem dX5_payBack_5 : decode cX5_payBack 5 = .ok (.iload_n 1, 1) := by decide +kernel
theorem dX5_payBack_6 : decode cX5_payBack 6 = .ok (.iaload, 1) := by decide +kernel
theorem dX5_payBack_7 : decode cX5_payBack 7 = .ok (.aload_n 0, 1) := by decide +kernel
theorem dX5_payBack_8 : decode cX5_payBack 8 = .ok (.getfield 27, 3) := by decide +kernel
theorem dX5_payBack_11 : decode cX5_payBack 11 = .ok (.iload_n 1, 1) := by decide +kernel
theorem dX5_payBack_12 : decode cX5_payBack 12 = .ok (.iaload, 1) := by decide +kernel
theorem dX5_payBack_13 : decode cX5_payBack 13 = .ok (.aload_n 0, 1) := by decide +kernel
theorem dX5_payBack_14 : decode cX5_payBack 14 = .ok (.getfield 33, 3) := by decide +kernel
theorem dX5_payBack_17 : decode cX5_payBack 17 = .ok (.iload_n 1, 1) := by decide +kernel
theorem dX5_payBack_18 : decode cX5_payBack 18 = .ok (.iaload, 1) := by decide +kernel
theorem dX5_payBack_19 : decode cX5_payBack 19 = .ok (.invokevirtual 80, 3) := by decide +kernel
theorem dX5_payBack_22 : decode cX5_payBack 22 = .ok (.return_, 1) := by decide +kernel
theorem dX5_drop_0 : decode cX5_drop 0 = .ok (.aload_n 0, 1) := by decide +kernel
theorem dX5_drop_1 : decode cX5_drop 1 = .ok (.dup, 1) := by decide +kernel
theorem dX5_drop_2 : decode cX5_drop 2 = .ok (.getfield 58, 3) := by decide +kernel
theorem dX5_drop_5 : decode cX5_drop 5 = .ok (.iconst 1, 1) := by decide +kernel
theorem dX5_drop_6 : decode cX5_drop 6 = .ok (.isub, 1) := by decide +kernel
theorem dX5_drop_7 : decode cX5_drop 7 = .ok (.putfield 58, 3) := by decide +kernel
theorem dX5_drop_10 : decode cX5_drop 10 = .ok (.iload_n 1, 1) := by decide +kernel
theorem dX5_drop_11 : decode cX5_drop 11 = .ok (.istore_n 2, 1) := by decide +kernel
theorem dX5_drop_12 : decode cX5_drop 12 = .ok (.iload_n 2, 1) := by decide +kernel
theorem dX5_drop_13 : decode cX5_drop 13 = .ok (.aload_n 0, 1) := by decide +kernel
theorem dX5_drop_14 : decode cX5_drop 14 = .ok (.getfield 58, 3) := by decide +kernel
theorem dX5_drop_17 : decode cX5_drop 17 = .ok (.if_icmp .ge 65, 3) := by decide +kernel
theorem dX5_drop_20 : decode cX5_drop 20 = .ok (.aload_n 0, 1) := by decide +kernel
theorem dX5_drop_21 : decode cX5_drop 21 = .ok (.getfield 27, 3) := by decide +kernel
theorem dX5_drop_24 : decode cX5_drop 24 = .ok (.iload_n 2, 1) := by decide +kernel
theorem dX5_drop_25 : decode cX5_drop 25 = .ok (.aload_n 0, 1) := by decide +kernel
theorem dX5_drop_26 : decode cX5_drop 26 = .ok (.getfield 27, 3) := by decide +kernel
theorem dX5_drop_29 : decode cX5_drop 29 = .ok (.iload_n 2, 1) := by decide +kernel
theorem dX5_drop_30 : decode cX5_drop 30 = .ok (.iconst 1, 1) := by decide +kernel
theorem dX5_drop_31 : decode cX5_drop 31 = .ok (.iadd, 1) := by decide +kernel
theorem dX5_drop_32 : decode cX5_drop 32 = .ok (.iaload, 1) := by decide +kernel
theorem dX5_drop_33 : decode cX5_drop 33 = .ok (.iastore, 1) := by decide +kernel
theorem dX5_drop_34 : decode cX5_drop 34 = .ok (.aload_n 0, 1) := by decide +kernel
theorem dX5_drop_35 : decode cX5_drop 35 = .ok (.getfield 30, 3) := by decide +kernel
theorem dX5_drop_38 : decode cX5_drop 38 = .ok (.iload_n 2, 1) := by decide +kernel
theorem dX5_drop_39 : decode cX5_drop 39 = .ok (.aload_n 0, 1) := by decide +kernel
theorem dX5_drop_40 : decode cX5_drop 40 = .ok (.getfield 30, 3) := by decide +kernel
theorem dX5_drop_43 : decode cX5_drop 43 = .ok (.iload_n 2, 1) := by decide +kernel
theorem dX5_drop_44 : decode cX5_drop 44 = .ok (.iconst 1, 1) := by decide +kernel
theorem dX5_drop_45 : decode cX5_drop 45 = .ok (.iadd, 1) := by decide +kernel
theorem dX5_drop_46 : decode cX5_drop 46 = .ok (.iaload, 1) := by decide +kernel
theorem dX5_drop_47 : decode cX5_drop 47 = .ok (.iastore, 1) := by decide +kernel
theorem dX5_drop_48 : decode cX5_drop 48 = .ok (.aload_n 0, 1) := by decide +kernel
theorem dX5_drop_49 : decode cX5_drop 49 = .ok (.getfield 33, 3) := by decide +kernel
theorem dX5_drop_52 : decode cX5_drop 52 = .ok (.iload_n 2, 1) := by decide +kernel
theorem dX5_drop_53 : decode cX5_drop 53 = .ok (.aload_n 0, 1) := by decide +kernel
theorem dX5_drop_54 : decode cX5_drop 54 = .ok (.getfield 33, 3) := by decide +kernel
theorem dX5_drop_57 : decode cX5_drop 57 = .ok (.iload_n 2, 1) := by decide +kernel
theorem dX5_drop_58 : decode cX5_drop 58 = .ok (.iconst 1, 1) := by decide +kernel
theorem dX5_drop_59 : decode cX5_drop 59 = .ok (.iadd, 1) := by decide +kernel
theorem dX5_drop_60 : decode cX5_drop 60 = .ok (.iaload, 1) := by decide +kernel
theorem dX5_drop_61 : decode cX5_drop 61 = .ok (.iastore, 1) := by decide +kernel
theorem dX5_drop_62 : decode cX5_drop 62 = .ok (.aload_n 0, 1) := by decide +kernel
theorem dX5_drop_63 : decode cX5_drop 63 = .ok (.getfield 36, 3) := by decide +kernel
theorem dX5_drop_66 : decode cX5_drop 66 = .ok (.iload_n 2, 1) := by decide +kernel
theorem dX5_drop_67 : decode cX5_drop 67 = .ok (.aload_n 0, 1) := by decide +kernel
theorem dX5_drop_68 : decode cX5_drop 68 = .ok (.getfield 36, 3) := by decide +kernel
theorem dX5_drop_71 : decode cX5_drop 71 = .ok (.iload_n 2, 1) := by decide +kernel
theorem dX5_drop_72 : decode cX5_drop 72 = .ok (.iconst 1, 1) := by decide +kernel
theorem dX5_drop_73 : decode cX5_drop 73 = .ok (.iadd, 1) := by decide +kernel
theorem dX5_drop_74 : decode cX5_drop 74 = .ok (.iaload, 1) := by decide +kernel
theorem dX5_drop_75 : decode cX5_drop 75 = .ok (.iastore, 1) := by decide +kernel
theorem dX5_drop_76 : decode cX5_drop 76 = .ok (.iinc 2 1, 3) := by decide +kernel
theorem dX5_drop_79 : decode cX5_drop 79 = .ok (.goto (-67), 3) := by decide +kernel
theorem dX5_drop_82 : decode cX5_drop 82 = .ok (.return_, 1) := by decide +kernel
theorem dX5_passNight_0 : decode cX5_passNight 0 = .ok (.iconst 0, 1) := by decide +kernel
theorem dX5_passNight_1 : decode cX5_passNight 1 = .ok (.istore_n 1, 1) := by decide +kernel
theorem dX5_passNight_2 : decode cX5_passNight 2 = .ok (.iload_n 1, 1) := by decide +kernel
theorem dX5_passNight_3 : decode cX5_passNight 3 = .ok (.aload_n 0, 1) := by decide +kernel
theorem dX5_passNight_4 : decode cX5_passNight 4 = .ok (.getfield 58, 3) := by decide +kernel
theorem dX5_passNight_7 : decode cX5_passNight 7 = .ok (.if_icmp .ge 14, 3) := by decide +kernel
theorem dX5_passNight_10 : decode cX5_passNight 10 = .ok (.aload_n 0, 1) := by decide +kernel
theorem dX5_passNight_11 : decode cX5_passNight 11 = .ok (.iload_n 1, 1) := by decide +kernel
theorem dX5_passNight_12 : decode cX5_passNight 12 = .ok (.invokevirtual 90, 3) := by decide +kernel
theorem dX5_passNight_15 : decode cX5_passNight 15 = .ok (.iinc 1 1, 3) := by decide +kernel
theorem dX5_passNight_18 : decode cX5_passNight 18 = .ok (.goto (-16), 3) := by decide +kernel
theorem dX5_passNight_21 : decode cX5_passNight 21 = .ok (.aload_n 0, 1) := by decide +kernel
theorem dX5_passNight_22 : decode cX5_passNight 22 = .ok (.invokevirtual 94, 3) := by decide +kernel
theorem dX5_passNight_25 : decode cX5_passNight 25 = .ok (.istore_n 1, 1) := by decide +kernel
theorem dX5_passNight_26 : decode cX5_passNight 26 = .ok (.iconst 0, 1) := by decide +kernel
theorem dX5_passNight_27 : decode cX5_passNight 27 = .ok (.istore_n 2, 1) := by decide +kernel
theorem dX5_passNight_28 : decode cX5_passNight 28 = .ok (.iload_n 2, 1) := by decide +kernel
theorem dX5_passNight_29 : decode cX5_passNight 29 = .ok (.aload_n 0, 1) := by decide +kernel
theorem dX5_passNight_30 : decode cX5_passNight 30 = .ok (.getfield 54, 3) := by decide +kernel
theorem dX5_passNight_33 : decode cX5_passNight 33 = .ok (.if_icmp .ge 14, 3) := by decide +kernel
theorem dX5_passNight_36 : decode cX5_passNight 36 = .ok (.aload_n 0, 1) := by decide +kernel
theorem dX5_passNight_37 : decode cX5_passNight 37 = .ok (.iload_n 2, 1) := by decide +kernel
theorem dX5_passNight_38 : decode cX5_passNight 38 = .ok (.invokevirtual 98, 3) := by decide +kernel
theorem dX5_passNight_41 : decode cX5_passNight 41 = .ok (.iinc 2 1, 3) := by decide +kernel
theorem dX5_passNight_44 : decode cX5_passNight 44 = .ok (.goto (-16), 3) := by decide +kernel
theorem dX5_passNight_47 : decode cX5_passNight 47 = .ok (.aload_n 0, 1) := by decide +kernel
theorem dX5_passNight_48 : decode cX5_passNight 48 = .ok (.dup, 1) := by decide +kernel
theorem dX5_passNight_49 : decode cX5_passNight 49 = .ok (.getfield 61, 3) := by decide +kernel
theorem dX5_passNight_52 : decode cX5_passNight 52 = .ok (.iconst 1, 1) := by decide +kernel
theorem dX5_passNight_53 : decode cX5_passNight 53 = .ok (.iadd, 1) := by decide +kernel
theorem dX5_passNight_54 : decode cX5_passNight 54 = .ok (.putfield 61, 3) := by decide +kernel
theorem dX5_passNight_57 : decode cX5_passNight 57 = .ok (.iload_n 1, 1) := by decide +kernel
theorem dX5_passNight_58 : decode cX5_passNight 58 = .ok (.ireturn, 1) := by decide +kernel
theorem dX5_passNights_0 : decode cX5_passNights 0 = .ok (.iconst 0, 1) := by decide +kernel
theorem dX5_passNights_1 : decode cX5_passNights 1 = .ok (.istore_n 2, 1) := by decide +kernel
theorem dX5_passNights_2 : decode cX5_passNights 2 = .ok (.iconst 0, 1) := by decide +kernel
theorem dX5_passNights_3 : decode cX5_passNights 3 = .ok (.istore_n 3, 1) := by decide +kernel
theorem dX5_passNights_4 : decode cX5_passNights 4 = .ok (.iload_n 3, 1) := by decide +kernel
theorem dX5_passNights_5 : decode cX5_passNights 5 = .ok (.iload_n 1, 1) := by decide +kernel
theorem dX5_passNights_6 : decode cX5_passNights 6 = .ok (.if_icmp .ge 16, 3) := by decide +kernel
theorem dX5_passNights_9 : decode cX5_passNights 9 = .ok (.iload_n 2, 1) := by decide +kernel
theorem dX5_passNights_10 : decode cX5_passNights 10 = .ok (.aload_n 0, 1) := by decide +kernel
theorem dX5_passNights_11 : decode cX5_passNights 11 = .ok (.invokevirtual 101, 3) := by decide +kernel
theorem dX5_passNights_14 : decode cX5_passNights 14 = .ok (.ior, 1) := by decide +kernel
theorem dX5_passNights_15 : decode cX5_passNights 15 = .ok (.istore_n 2, 1) := by decide +kernel
theorem dX5_passNights_16 : decode cX5_passNights 16 = .ok (.iinc 3 1, 3) := by decide +kernel
theorem dX5_passNights_19 : decode cX5_passNights 19 = .ok (.goto (-15), 3) := by decide +kernel
theorem dX5_passNights_22 : decode cX5_passNights 22 = .ok (.iload_n 2, 1) := by decide +kernel
theorem dX5_passNights_23 : decode cX5_passNights 23 = .ok (.ireturn, 1) := by decide +kernel
theorem dX5_failedIn_0 : decode cX5_failedIn 0 = .ok (.iconst 0, 1) := by decide +kernel
theorem dX5_failedIn_1 : decode cX5_failedIn 1 = .ok (.istore_n 2, 1) := by decide +kernel
theorem dX5_failedIn_2 : decode cX5_failedIn 2 = .ok (.iconst 0, 1) := by decide +kernel
theorem dX5_failedIn_3 : decode cX5_failedIn 3 = .ok (.istore_n 3, 1) := by decide +kernel
theorem dX5_failedIn_4 : decode cX5_failedIn 4 = .ok (.iload_n 3, 1) := by decide +kernel
theorem dX5_failedIn_5 : decode cX5_failedIn 5 = .ok (.iload_n 1, 1) := by decide +kernel
theorem dX5_failedIn_6 : decode cX5_failedIn 6 = .ok (.if_icmp .ge 23, 3) := by decide +kernel
theorem dX5_failedIn_9 : decode cX5_failedIn 9 = .ok (.aload_n 0, 1) := by decide +kernel
theorem dX5_failedIn_10 : decode cX5_failedIn 10 = .ok (.getfield 58, 3) := by decide +kernel
theorem dX5_failedIn_13 : decode cX5_failedIn 13 = .ok (.ifCond .le 16, 3) := by decide +kernel
theorem dX5_failedIn_16 : decode cX5_failedIn 16 = .ok (.iload_n 2, 1) := by decide +kernel
theorem dX5_failedIn_17 : decode cX5_failedIn 17 = .ok (.aload_n 0, 1) := by decide +kernel
theorem dX5_failedIn_18 : decode cX5_failedIn 18 = .ok (.invokevirtual 101, 3) := by decide +kernel
theorem dX5_failedIn_21 : decode cX5_failedIn 21 = .ok (.ior, 1) := by decide +kernel
theorem dX5_failedIn_22 : decode cX5_failedIn 22 = .ok (.istore_n 2, 1) := by decide +kernel
theorem dX5_failedIn_23 : decode cX5_failedIn 23 = .ok (.iinc 3 1, 3) := by decide +kernel
theorem dX5_failedIn_26 : decode cX5_failedIn 26 = .ok (.goto (-22), 3) := by decide +kernel
theorem dX5_failedIn_29 : decode cX5_failedIn 29 = .ok (.iload_n 2, 1) := by decide +kernel
theorem dX5_failedIn_30 : decode cX5_failedIn 30 = .ok (.ireturn, 1) := by decide +kernel
theorem dX5_passSnow_0 : decode cX5_passSnow 0 = .ok (.aload_n 0, 1) := by decide +kernel
theorem dX5_passSnow_1 : decode cX5_passSnow 1 = .ok (.getfield 54, 3) := by decide +kernel
theorem dX5_passSnow_4 : decode cX5_passSnow 4 = .ok (.ifCond .gt 5, 3) := by decide +kernel
theorem dX5_passSnow_7 : decode cX5_passSnow 7 = .ok (.iconst 0, 1) := by decide +kernel
theorem dX5_passSnow_8 : decode cX5_passSnow 8 = .ok (.ireturn, 1) := by decide +kernel
theorem dX5_passSnow_9 : decode cX5_passSnow 9 = .ok (.iconst 0, 1) := by decide +kernel
theorem dX5_passSnow_10 : decode cX5_passSnow 10 = .ok (.istore_n 3, 1) := by decide +kernel
theorem dX5_passSnow_11 : decode cX5_passSnow 11 = .ok (.iload_n 1, 1) := by decide +kernel
theorem dX5_passSnow_12 : decode cX5_passSnow 12 = .ok (.i2l, 1) := by decide +kernel
theorem dX5_passSnow_13 : decode cX5_passSnow 13 = .ok (.lconst 1, 1) := by decide +kernel
theorem dX5_passSnow_14 : decode cX5_passSnow 14 = .ok (.ladd, 1) := by decide +kernel
theorem dX5_passSnow_15 : decode cX5_passSnow 15 = .ok (.lstore 4, 2) := by decide +kernel
theorem dX5_passSnow_17 : decode cX5_passSnow 17 = .ok (.iconst 0, 1) := by decide +kernel
theorem dX5_passSnow_18 : decode cX5_passSnow 18 = .ok (.istore 6, 2) := by decide +kernel
theorem dX5_passSnow_20 : decode cX5_passSnow 20 = .ok (.iload 6, 2) := by decide +kernel
theorem dX5_passSnow_22 : decode cX5_passSnow 22 = .ok (.iconst 5, 1) := by decide +kernel
theorem dX5_passSnow_23 : decode cX5_passSnow 23 = .ok (.if_icmp .ge 59, 3) := by decide +kernel
theorem dX5_passSnow_26 : decode cX5_passSnow 26 = .ok (.lload 4, 2) := by decide +kernel
theorem dX5_passSnow_28 : decode cX5_passSnow 28 = .ok (.ldc2_w 104, 3) := by decide +kernel
theorem dX5_passSnow_31 : decode cX5_passSnow 31 = .ok (.lmul, 1) := by decide +kernel
theorem dX5_passSnow_32 : decode cX5_passSnow 32 = .ok (.ldc2_w 106, 3) := by decide +kernel
theorem dX5_passSnow_35 : decode cX5_passSnow 35 = .ok (.lrem, 1) := by decide +kernel
theorem dX5_passSnow_36 : decode cX5_passSnow 36 = .ok (.lstore 4, 2) := by decide +kernel
theorem dX5_passSnow_38 : decode cX5_passSnow 38 = .ok (.lload 4, 2) := by decide +kernel
theorem dX5_passSnow_40 : decode cX5_passSnow 40 = .ok (.aload_n 0, 1) := by decide +kernel
theorem dX5_passSnow_41 : decode cX5_passSnow 41 = .ok (.getfield 54, 3) := by decide +kernel
theorem dX5_passSnow_44 : decode cX5_passSnow 44 = .ok (.i2l, 1) := by decide +kernel
theorem dX5_passSnow_45 : decode cX5_passSnow 45 = .ok (.lrem, 1) := by decide +kernel
theorem dX5_passSnow_46 : decode cX5_passSnow 46 = .ok (.l2i, 1) := by decide +kernel
theorem dX5_passSnow_47 : decode cX5_passSnow 47 = .ok (.istore 7, 2) := by decide +kernel
theorem dX5_passSnow_49 : decode cX5_passSnow 49 = .ok (.aload_n 0, 1) := by decide +kernel
theorem dX5_passSnow_50 : decode cX5_passSnow 50 = .ok (.getfield 9, 3) := by decide +kernel
theorem dX5_passSnow_53 : decode cX5_passSnow 53 = .ok (.iload 7, 2) := by decide +kernel
theorem dX5_passSnow_55 : decode cX5_passSnow 55 = .ok (.iconst 0, 1) := by decide +kernel
theorem dX5_passSnow_56 : decode cX5_passSnow 56 = .ok (.aload_n 0, 1) := by decide +kernel
theorem dX5_passSnow_57 : decode cX5_passSnow 57 = .ok (.getfield 9, 3) := by decide +kernel
theorem dX5_passSnow_60 : decode cX5_passSnow 60 = .ok (.iload 7, 2) := by decide +kernel
theorem dX5_passSnow_62 : decode cX5_passSnow 62 = .ok (.iaload, 1) := by decide +kernel
theorem dX5_passSnow_63 : decode cX5_passSnow 63 = .ok (.iload_n 2, 1) := by decide +kernel
theorem dX5_passSnow_64 : decode cX5_passSnow 64 = .ok (.isub, 1) := by decide +kernel
theorem dX5_passSnow_65 : decode cX5_passSnow 65 = .ok (.invokestatic 108, 3) := by decide +kernel
theorem dX5_passSnow_68 : decode cX5_passSnow 68 = .ok (.iastore, 1) := by decide +kernel
theorem dX5_passSnow_69 : decode cX5_passSnow 69 = .ok (.iload_n 3, 1) := by decide +kernel
theorem dX5_passSnow_70 : decode cX5_passSnow 70 = .ok (.aload_n 0, 1) := by decide +kernel
theorem dX5_passSnow_71 : decode cX5_passSnow 71 = .ok (.invokevirtual 101, 3) := by decide +kernel
theorem dX5_passSnow_74 : decode cX5_passSnow 74 = .ok (.ior, 1) := by decide +kernel
theorem dX5_passSnow_75 : decode cX5_passSnow 75 = .ok (.istore_n 3, 1) := by decide +kernel
theorem dX5_passSnow_76 : decode cX5_passSnow 76 = .ok (.iinc 6 1, 3) := by decide +kernel
theorem dX5_passSnow_79 : decode cX5_passSnow 79 = .ok (.goto (-59), 3) := by decide +kernel
theorem dX5_passSnow_82 : decode cX5_passSnow 82 = .ok (.iload_n 3, 1) := by decide +kernel
theorem dX5_passSnow_83 : decode cX5_passSnow 83 = .ok (.ireturn, 1) := by decide +kernel
theorem dX5_grow_0 : decode cX5_grow 0 = .ok (.aload_n 0, 1) := by decide +kernel
theorem dX5_grow_1 : decode cX5_grow 1 = .ok (.getfield 30, 3) := by decide +kernel
theorem dX5_grow_4 : decode cX5_grow 4 = .ok (.iload_n 1, 1) := by decide +kernel
theorem dX5_grow_5 : decode cX5_grow 5 = .ok (.iaload, 1) := by decide +kernel
theorem dX5_grow_6 : decode cX5_grow 6 = .ok (.istore_n 2, 1) := by decide +kernel
theorem dX5_grow_7 : decode cX5_grow 7 = .ok (.aload_n 0, 1) := by decide +kernel
theorem dX5_grow_8 : decode cX5_grow 8 = .ok (.getfield 21, 3) := by decide +kernel
theorem dX5_grow_11 : decode cX5_grow 11 = .ok (.iload_n 2, 1) := by decide +kernel
theorem dX5_grow_12 : decode cX5_grow 12 = .ok (.iaload, 1) := by decide +kernel
theorem dX5_grow_13 : decode cX5_grow 13 = .ok (.aload_n 0, 1) := by decide +kernel
theorem dX5_grow_14 : decode cX5_grow 14 = .ok (.getfield 24, 3) := by decide +kernel
theorem dX5_grow_17 : decode cX5_grow 17 = .ok (.iload_n 2, 1) := by decide +kernel
theorem dX5_grow_18 : decode cX5_grow 18 = .ok (.iaload, 1) := by decide +kernel
theorem dX5_grow_19 : decode cX5_grow 19 = .ok (.aload_n 0, 1) := by decide +kernel
theorem dX5_grow_20 : decode cX5_grow 20 = .ok (.getfield 33, 3) := by decide +kernel
theorem dX5_grow_23 : decode cX5_grow 23 = .ok (.iload_n 1, 1) := by decide +kernel
theorem dX5_grow_24 : decode cX5_grow 24 = .ok (.iaload, 1) := by decide +kernel
theorem dX5_grow_25 : decode cX5_grow 25 = .ok (.aload_n 0, 1) := by decide +kernel
theorem dX5_grow_26 : decode cX5_grow 26 = .ok (.iconst 0, 1) := by decide +kernel
theorem dX5_grow_27 : decode cX5_grow 27 = .ok (.iload_n 2, 1) := by decide +kernel
theorem dX5_grow_28 : decode cX5_grow 28 = .ok (.aload_n 0, 1) := by decide +kernel
theorem dX5_grow_29 : decode cX5_grow 29 = .ok (.getfield 33, 3) := by decide +kernel
theorem dX5_grow_32 : decode cX5_grow 32 = .ok (.iload_n 1, 1) := by decide +kernel
theorem dX5_grow_33 : decode cX5_grow 33 = .ok (.iaload, 1) := by decide +kernel
theorem dX5_grow_34 : decode cX5_grow 34 = .ok (.invokevirtual 111, 3) := by decide +kernel
theorem dX5_grow_37 : decode cX5_grow 37 = .ok (.invokestatic 115, 3) := by decide +kernel
theorem dX5_grow_40 : decode cX5_grow 40 = .ok (.istore_n 3, 1) := by decide +kernel
theorem dX5_grow_41 : decode cX5_grow 41 = .ok (.aload_n 0, 1) := by decide +kernel
theorem dX5_grow_42 : decode cX5_grow 42 = .ok (.getfield 33, 3) := by decide +kernel
theorem dX5_grow_45 : decode cX5_grow 45 = .ok (.iload_n 1, 1) := by decide +kernel
theorem dX5_grow_46 : decode cX5_grow 46 = .ok (.sipush 9999, 3) := by decide +kernel
theorem dX5_grow_49 : decode cX5_grow 49 = .ok (.aload_n 0, 1) := by decide +kernel
theorem dX5_grow_50 : decode cX5_grow 50 = .ok (.getfield 33, 3) := by decide +kernel
theorem dX5_grow_53 : decode cX5_grow 53 = .ok (.iload_n 1, 1) := by decide +kernel
theorem dX5_grow_54 : decode cX5_grow 54 = .ok (.iaload, 1) := by decide +kernel
theorem dX5_grow_55 : decode cX5_grow 55 = .ok (.iload_n 3, 1) := by decide +kernel
theorem dX5_grow_56 : decode cX5_grow 56 = .ok (.iadd, 1) := by decide +kernel
theorem dX5_grow_57 : decode cX5_grow 57 = .ok (.invokestatic 84, 3) := by decide +kernel
theorem dX5_grow_60 : decode cX5_grow 60 = .ok (.iastore, 1) := by decide +kernel
theorem dX5_grow_61 : decode cX5_grow 61 = .ok (.return_, 1) := by decide +kernel
theorem dX5_endDueLoans_0 : decode cX5_endDueLoans 0 = .ok (.iconst 0, 1) := by decide +kernel
theorem dX5_endDueLoans_1 : decode cX5_endDueLoans 1 = .ok (.istore_n 1, 1) := by decide +kernel
theorem dX5_endDueLoans_2 : decode cX5_endDueLoans 2 = .ok (.iconst 0, 1) := by decide +kernel
theorem dX5_endDueLoans_3 : decode cX5_endDueLoans 3 = .ok (.istore_n 2, 1) := by decide +kernel
theorem dX5_endDueLoans_4 : decode cX5_endDueLoans 4 = .ok (.aload_n 0, 1) := by decide +kernel
theorem dX5_endDueLoans_5 : decode cX5_endDueLoans 5 = .ok (.getfield 58, 3) := by decide +kernel
theorem dX5_endDueLoans_8 : decode cX5_endDueLoans 8 = .ok (.istore_n 3, 1) := by decide +kernel
theorem dX5_endDueLoans_9 : decode cX5_endDueLoans 9 = .ok (.iload_n 3, 1) := by decide +kernel
theorem dX5_endDueLoans_10 : decode cX5_endDueLoans 10 = .ok (.ifCond .le 73, 3) := by decide +kernel
theorem dX5_endDueLoans_13 : decode cX5_endDueLoans 13 = .ok (.aload_n 0, 1) := by decide +kernel
theorem dX5_endDueLoans_14 : decode cX5_endDueLoans 14 = .ok (.getfield 36, 3) := by decide +kernel
theorem dX5_endDueLoans_17 : decode cX5_endDueLoans 17 = .ok (.iload_n 2, 1) := by decide +kernel
theorem dX5_endDueLoans_18 : decode cX5_endDueLoans 18 = .ok (.iaload, 1) := by decide +kernel
theorem dX5_endDueLoans_19 : decode cX5_endDueLoans 19 = .ok (.aload_n 0, 1) := by decide +kernel
theorem dX5_endDueLoans_20 : decode cX5_endDueLoans 20 = .ok (.getfield 61, 3) := by decide +kernel
theorem dX5_endDueLoans_23 : decode cX5_endDueLoans 23 = .ok (.if_icmp .le 9, 3) := by decide +kernel
theorem dX5_endDueLoans_26 : decode cX5_endDueLoans 26 = .ok (.iinc 2 1, 3) := by decide +kernel
theorem dX5_endDueLoans_29 : decode cX5_endDueLoans 29 = .ok (.goto 48, 3) := by decide +kernel
theorem dX5_endDueLoans_32 : decode cX5_endDueLoans 32 = .ok (.aload_n 0, 1) := by decide +kernel
theorem dX5_endDueLoans_33 : decode cX5_endDueLoans 33 = .ok (.iload_n 2, 1) := by decide +kernel
theorem dX5_endDueLoans_34 : decode cX5_endDueLoans 34 = .ok (.invokevirtual 121, 3) := by decide +kernel
theorem dX5_endDueLoans_37 : decode cX5_endDueLoans 37 = .ok (.ifCond .eq 11, 3) := by decide +kernel
theorem dX5_endDueLoans_40 : decode cX5_endDueLoans 40 = .ok (.aload_n 0, 1) := by decide +kernel
theorem dX5_endDueLoans_41 : decode cX5_endDueLoans 41 = .ok (.iload_n 2, 1) := by decide +kernel
theorem dX5_endDueLoans_42 : decode cX5_endDueLoans 42 = .ok (.invokevirtual 125, 3) := by decide +kernel
theorem dX5_endDueLoans_45 : decode cX5_endDueLoans 45 = .ok (.goto 27, 3) := by decide +kernel
theorem dX5_endDueLoans_48 : decode cX5_endDueLoans 48 = .ok (.aload_n 0, 1) := by decide +kernel
theorem dX5_endDueLoans_49 : decode cX5_endDueLoans 49 = .ok (.getfield 18, 3) := by decide +kernel
theorem dX5_endDueLoans_52 : decode cX5_endDueLoans 52 = .ok (.aload_n 0, 1) := by decide +kernel
theorem dX5_endDueLoans_53 : decode cX5_endDueLoans 53 = .ok (.getfield 30, 3) := by decide +kernel
theorem dX5_endDueLoans_56 : decode cX5_endDueLoans 56 = .ok (.iload_n 2, 1) := by decide +kernel
theorem dX5_endDueLoans_57 : decode cX5_endDueLoans 57 = .ok (.iaload, 1) := by decide +kernel
theorem dX5_endDueLoans_58 : decode cX5_endDueLoans 58 = .ok (.bipush 20, 2) := by decide +kernel
theorem dX5_endDueLoans_60 : decode cX5_endDueLoans 60 = .ok (.iastore, 1) := by decide +kernel
theorem dX5_endDueLoans_61 : decode cX5_endDueLoans 61 = .ok (.iload_n 1, 1) := by decide +kernel
theorem dX5_endDueLoans_62 : decode cX5_endDueLoans 62 = .ok (.iconst 1, 1) := by decide +kernel
theorem dX5_endDueLoans_63 : decode cX5_endDueLoans 63 = .ok (.aload_n 0, 1) := by decide +kernel
theorem dX5_endDueLoans_64 : decode cX5_endDueLoans 64 = .ok (.getfield 30, 3) := by decide +kernel
theorem dX5_endDueLoans_67 : decode cX5_endDueLoans 67 = .ok (.iload_n 2, 1) := by decide +kernel
theorem dX5_endDueLoans_68 : decode cX5_endDueLoans 68 = .ok (.iaload, 1) := by decide +kernel
theorem dX5_endDueLoans_69 : decode cX5_endDueLoans 69 = .ok (.ishl, 1) := by decide +kernel
theorem dX5_endDueLoans_70 : decode cX5_endDueLoans 70 = .ok (.ior, 1) := by decide +kernel
theorem dX5_endDueLoans_71 : decode cX5_endDueLoans 71 = .ok (.istore_n 1, 1) := by decide +kernel
theorem dX5_endDueLoans_72 : decode cX5_endDueLoans 72 = .ok (.aload_n 0, 1) := by decide +kernel
theorem dX5_endDueLoans_73 : decode cX5_endDueLoans 73 = .ok (.iload_n 2, 1) := by decide +kernel
theorem dX5_endDueLoans_74 : decode cX5_endDueLoans 74 = .ok (.invokevirtual 128, 3) := by decide +kernel
theorem dX5_endDueLoans_77 : decode cX5_endDueLoans 77 = .ok (.iinc 3 (-1), 3) := by decide +kernel
theorem dX5_endDueLoans_80 : decode cX5_endDueLoans 80 = .ok (.goto (-71), 3) := by decide +kernel
theorem dX5_endDueLoans_83 : decode cX5_endDueLoans 83 = .ok (.iload_n 1, 1) := by decide +kernel
theorem dX5_endDueLoans_84 : decode cX5_endDueLoans 84 = .ok (.ireturn, 1) := by decide +kernel
theorem dX5_warm_0 : decode cX5_warm 0 = .ok (.aload_n 0, 1) := by decide +kernel
theorem dX5_warm_1 : decode cX5_warm 1 = .ok (.getfield 18, 3) := by decide +kernel
theorem dX5_warm_4 : decode cX5_warm 4 = .ok (.iload_n 1, 1) := by decide +kernel
theorem dX5_warm_5 : decode cX5_warm 5 = .ok (.iaload, 1) := by decide +kernel
theorem dX5_warm_6 : decode cX5_warm 6 = .ok (.ifCond .le 21, 3) := by decide +kernel
theorem dX5_warm_9 : decode cX5_warm 9 = .ok (.aload_n 0, 1) := by decide +kernel
theorem dX5_warm_10 : decode cX5_warm 10 = .ok (.getfield 18, 3) := by decide +kernel
theorem dX5_warm_13 : decode cX5_warm 13 = .ok (.iload_n 1, 1) := by decide +kernel
theorem dX5_warm_14 : decode cX5_warm 14 = .ok (.dup2, 1) := by decide +kernel
theorem dX5_warm_15 : decode cX5_warm 15 = .ok (.iaload, 1) := by decide +kernel
theorem dX5_warm_16 : decode cX5_warm 16 = .ok (.iconst 1, 1) := by decide +kernel
theorem dX5_warm_17 : decode cX5_warm 17 = .ok (.isub, 1) := by decide +kernel
theorem dX5_warm_18 : decode cX5_warm 18 = .ok (.iastore, 1) := by decide +kernel
theorem dX5_warm_19 : decode cX5_warm 19 = .ok (.aload_n 0, 1) := by decide +kernel
theorem dX5_warm_20 : decode cX5_warm 20 = .ok (.getfield 9, 3) := by decide +kernel
theorem dX5_warm_23 : decode cX5_warm 23 = .ok (.iload_n 1, 1) := by decide +kernel
theorem dX5_warm_24 : decode cX5_warm 24 = .ok (.iconst 0, 1) := by decide +kernel
theorem dX5_warm_25 : decode cX5_warm 25 = .ok (.iastore, 1) := by decide +kernel
theorem dX5_warm_26 : decode cX5_warm 26 = .ok (.return_, 1) := by decide +kernel
theorem dX5_warm_27 : decode cX5_warm 27 = .ok (.aload_n 0, 1) := by decide +kernel
theorem dX5_warm_28 : decode cX5_warm 28 = .ok (.getfield 15, 3) := by decide +kernel
theorem dX5_warm_31 : decode cX5_warm 31 = .ok (.iload_n 1, 1) := by decide +kernel
theorem dX5_warm_32 : decode cX5_warm 32 = .ok (.iaload, 1) := by decide +kernel
theorem dX5_warm_33 : decode cX5_warm 33 = .ok (.ifCond .le 60, 3) := by decide +kernel
theorem dX5_warm_36 : decode cX5_warm 36 = .ok (.aload_n 0, 1) := by decide +kernel
theorem dX5_warm_37 : decode cX5_warm 37 = .ok (.getfield 21, 3) := by decide +kernel
theorem dX5_warm_40 : decode cX5_warm 40 = .ok (.iload_n 1, 1) := by decide +kernel
theorem dX5_warm_41 : decode cX5_warm 41 = .ok (.iaload, 1) := by decide +kernel
theorem dX5_warm_42 : decode cX5_warm 42 = .ok (.aload_n 0, 1) := by decide +kernel
theorem dX5_warm_43 : decode cX5_warm 43 = .ok (.getfield 24, 3) := by decide +kernel
theorem dX5_warm_46 : decode cX5_warm 46 = .ok (.iload_n 1, 1) := by decide +kernel
theorem dX5_warm_47 : decode cX5_warm 47 = .ok (.iaload, 1) := by decide +kernel
theorem dX5_warm_48 : decode cX5_warm 48 = .ok (.aload_n 0, 1) := by decide +kernel
theorem dX5_warm_49 : decode cX5_warm 49 = .ok (.getfield 61, 3) := by decide +kernel
theorem dX5_warm_52 : decode cX5_warm 52 = .ok (.aload_n 0, 1) := by decide +kernel
theorem dX5_warm_53 : decode cX5_warm 53 = .ok (.iconst 2, 1) := by decide +kernel
theorem dX5_warm_54 : decode cX5_warm 54 = .ok (.iload_n 1, 1) := by decide +kernel
theorem dX5_warm_55 : decode cX5_warm 55 = .ok (.iconst 0, 1) := by decide +kernel
theorem dX5_warm_56 : decode cX5_warm 56 = .ok (.invokevirtual 111, 3) := by decide +kernel
theorem dX5_warm_59 : decode cX5_warm 59 = .ok (.invokestatic 131, 3) := by decide +kernel
theorem dX5_warm_62 : decode cX5_warm 62 = .ok (.istore_n 2, 1) := by decide +kernel
theorem dX5_warm_63 : decode cX5_warm 63 = .ok (.aload_n 0, 1) := by decide +kernel
theorem dX5_warm_64 : decode cX5_warm 64 = .ok (.getfield 9, 3) := by decide +kernel
theorem dX5_warm_67 : decode cX5_warm 67 = .ok (.iload_n 1, 1) := by decide +kernel
theorem dX5_warm_68 : decode cX5_warm 68 = .ok (.sipush 9999, 3) := by decide +kernel
theorem dX5_warm_71 : decode cX5_warm 71 = .ok (.aload_n 0, 1) := by decide +kernel
theorem dX5_warm_72 : decode cX5_warm 72 = .ok (.getfield 9, 3) := by decide +kernel
theorem dX5_warm_75 : decode cX5_warm 75 = .ok (.iload_n 1, 1) := by decide +kernel
theorem dX5_warm_76 : decode cX5_warm 76 = .ok (.iaload, 1) := by decide +kernel
theorem dX5_warm_77 : decode cX5_warm 77 = .ok (.iload_n 2, 1) := by decide +kernel
theorem dX5_warm_78 : decode cX5_warm 78 = .ok (.iadd, 1) := by decide +kernel
theorem dX5_warm_79 : decode cX5_warm 79 = .ok (.invokestatic 84, 3) := by decide +kernel
theorem dX5_warm_82 : decode cX5_warm 82 = .ok (.iastore, 1) := by decide +kernel
theorem dX5_warm_83 : decode cX5_warm 83 = .ok (.aload_n 0, 1) := by decide +kernel
theorem dX5_warm_84 : decode cX5_warm 84 = .ok (.getfield 15, 3) := by decide +kernel
theorem dX5_warm_87 : decode cX5_warm 87 = .ok (.iload_n 1, 1) := by decide +kernel
theorem dX5_warm_88 : decode cX5_warm 88 = .ok (.dup2, 1) := by decide +kernel
theorem dX5_warm_89 : decode cX5_warm 89 = .ok (.iaload, 1) := by decide +kernel
theorem dX5_warm_90 : decode cX5_warm 90 = .ok (.iconst 1, 1) := by decide +kernel
theorem dX5_warm_91 : decode cX5_warm 91 = .ok (.isub, 1) := by decide +kernel
theorem dX5_warm_92 : decode cX5_warm 92 = .ok (.iastore, 1) := by decide +kernel
theorem dX5_warm_93 : decode cX5_warm 93 = .ok (.aload_n 0, 1) := by decide +kernel
theorem dX5_warm_94 : decode cX5_warm 94 = .ok (.getfield 21, 3) := by decide +kernel
theorem dX5_warm_97 : decode cX5_warm 97 = .ok (.iload_n 1, 1) := by decide +kernel
theorem dX5_warm_98 : decode cX5_warm 98 = .ok (.iaload, 1) := by decide +kernel
theorem dX5_warm_99 : decode cX5_warm 99 = .ok (.aload_n 0, 1) := by decide +kernel
theorem dX5_warm_100 : decode cX5_warm 100 = .ok (.getfield 9, 3) := by decide +kernel
theorem dX5_warm_103 : decode cX5_warm 103 = .ok (.iload_n 1, 1) := by decide +kernel
theorem dX5_warm_104 : decode cX5_warm 104 = .ok (.iaload, 1) := by decide +kernel
theorem dX5_warm_105 : decode cX5_warm 105 = .ok (.aload_n 0, 1) := by decide +kernel
theorem dX5_warm_106 : decode cX5_warm 106 = .ok (.iconst 1, 1) := by decide +kernel
theorem dX5_warm_107 : decode cX5_warm 107 = .ok (.iload_n 1, 1) := by decide +kernel
theorem dX5_warm_108 : decode cX5_warm 108 = .ok (.iconst 0, 1) := by decide +kernel
theorem dX5_warm_109 : decode cX5_warm 109 = .ok (.invokevirtual 111, 3) := by decide +kernel
theorem dX5_warm_112 : decode cX5_warm 112 = .ok (.invokestatic 134, 3) := by decide +kernel
theorem dX5_warm_115 : decode cX5_warm 115 = .ok (.istore_n 2, 1) := by decide +kernel
theorem dX5_warm_116 : decode cX5_warm 116 = .ok (.aload_n 0, 1) := by decide +kernel
theorem dX5_warm_117 : decode cX5_warm 117 = .ok (.getfield 9, 3) := by decide +kernel
theorem dX5_warm_120 : decode cX5_warm 120 = .ok (.iload_n 1, 1) := by decide +kernel
theorem dX5_warm_121 : decode cX5_warm 121 = .ok (.iconst 0, 1) := by decide +kernel
theorem dX5_warm_122 : decode cX5_warm 122 = .ok (.aload_n 0, 1) := by decide +kernel
theorem dX5_warm_123 : decode cX5_warm 123 = .ok (.getfield 9, 3) := by decide +kernel
theorem dX5_warm_126 : decode cX5_warm 126 = .ok (.iload_n 1, 1) := by decide +kernel
theorem dX5_warm_127 : decode cX5_warm 127 = .ok (.iaload, 1) := by decide +kernel
theorem dX5_warm_128 : decode cX5_warm 128 = .ok (.iload_n 2, 1) := by decide +kernel
theorem dX5_warm_129 : decode cX5_warm 129 = .ok (.isub, 1) := by decide +kernel
theorem dX5_warm_130 : decode cX5_warm 130 = .ok (.invokestatic 108, 3) := by decide +kernel
theorem dX5_warm_133 : decode cX5_warm 133 = .ok (.iastore, 1) := by decide +kernel
theorem dX5_warm_134 : decode cX5_warm 134 = .ok (.return_, 1) := by decide +kernel
theorem dX5_says_0 : decode cX5_says 0 = .ok (.aload_n 0, 1) := by decide +kernel
theorem dX5_says_1 : decode cX5_says 1 = .ok (.getfield 41, 3) := by decide +kernel
theorem dX5_says_4 : decode cX5_says 4 = .ok (.iconst 0, 1) := by decide +kernel
theorem dX5_says_5 : decode cX5_says 5 = .ok (.aload_n 0, 1) := by decide +kernel
theorem dX5_says_6 : decode cX5_says 6 = .ok (.getfield 9, 3) := by decide +kernel
theorem dX5_says_9 : decode cX5_says 9 = .ok (.iload_n 2, 1) := by decide +kernel
theorem dX5_says_10 : decode cX5_says 10 = .ok (.iaload, 1) := by decide +kernel
theorem dX5_says_11 : decode cX5_says 11 = .ok (.iastore, 1) := by decide +kernel
theorem dX5_says_12 : decode cX5_says 12 = .ok (.aload_n 0, 1) := by decide +kernel
theorem dX5_says_13 : decode cX5_says 13 = .ok (.getfield 41, 3) := by decide +kernel
theorem dX5_says_16 : decode cX5_says 16 = .ok (.iconst 1, 1) := by decide +kernel
theorem dX5_says_17 : decode cX5_says 17 = .ok (.aload_n 0, 1) := by decide +kernel
theorem dX5_says_18 : decode cX5_says 18 = .ok (.getfield 15, 3) := by decide +kernel
theorem dX5_says_21 : decode cX5_says 21 = .ok (.iload_n 2, 1) := by decide +kernel
theorem dX5_says_22 : decode cX5_says 22 = .ok (.iaload, 1) := by decide +kernel
theorem dX5_says_23 : decode cX5_says 23 = .ok (.iastore, 1) := by decide +kernel
theorem dX5_says_24 : decode cX5_says 24 = .ok (.aload_n 0, 1) := by decide +kernel
theorem dX5_says_25 : decode cX5_says 25 = .ok (.getfield 41, 3) := by decide +kernel
theorem dX5_says_28 : decode cX5_says 28 = .ok (.iconst 2, 1) := by decide +kernel
theorem dX5_says_29 : decode cX5_says 29 = .ok (.aload_n 0, 1) := by decide +kernel
theorem dX5_says_30 : decode cX5_says 30 = .ok (.getfield 61, 3) := by decide +kernel
theorem dX5_says_33 : decode cX5_says 33 = .ok (.iastore, 1) := by decide +kernel
theorem dX5_says_34 : decode cX5_says 34 = .ok (.aload_n 0, 1) := by decide +kernel
theorem dX5_says_35 : decode cX5_says 35 = .ok (.getfield 41, 3) := by decide +kernel
theorem dX5_says_38 : decode cX5_says 38 = .ok (.iconst 3, 1) := by decide +kernel
theorem dX5_says_39 : decode cX5_says 39 = .ok (.iload_n 3, 1) := by decide +kernel
theorem dX5_says_40 : decode cX5_says 40 = .ok (.iastore, 1) := by decide +kernel
theorem dX5_says_41 : decode cX5_says 41 = .ok (.aload_n 0, 1) := by decide +kernel
theorem dX5_says_42 : decode cX5_says 42 = .ok (.getfield 41, 3) := by decide +kernel
theorem dX5_says_45 : decode cX5_says 45 = .ok (.iconst 4, 1) := by decide +kernel
theorem dX5_says_46 : decode cX5_says 46 = .ok (.aload_n 0, 1) := by decide +kernel
theorem dX5_says_47 : decode cX5_says 47 = .ok (.iload_n 2, 1) := by decide +kernel
theorem dX5_says_48 : decode cX5_says 48 = .ok (.invokevirtual 137, 3) := by decide +kernel
theorem dX5_says_51 : decode cX5_says 51 = .ok (.iastore, 1) := by decide +kernel
theorem dX5_says_52 : decode cX5_says 52 = .ok (.aload_n 0, 1) := by decide +kernel
theorem dX5_says_53 : decode cX5_says 53 = .ok (.getfield 41, 3) := by decide +kernel
theorem dX5_says_56 : decode cX5_says 56 = .ok (.iconst 5, 1) := by decide +kernel
theorem dX5_says_57 : decode cX5_says 57 = .ok (.aload_n 0, 1) := by decide +kernel
theorem dX5_says_58 : decode cX5_says 58 = .ok (.getfield 24, 3) := by decide +kernel
theorem dX5_says_61 : decode cX5_says 61 = .ok (.iload_n 2, 1) := by decide +kernel
theorem dX5_says_62 : decode cX5_says 62 = .ok (.iaload, 1) := by decide +kernel
theorem dX5_says_63 : decode cX5_says 63 = .ok (.iastore, 1) := by decide +kernel
theorem dX5_says_64 : decode cX5_says 64 = .ok (.iconst 0, 1) := by decide +kernel
theorem dX5_says_65 : decode cX5_says 65 = .ok (.bipush 99, 2) := by decide +kernel
theorem dX5_says_67 : decode cX5_says 67 = .ok (.aload_n 0, 1) := by decide +kernel
theorem dX5_says_68 : decode cX5_says 68 = .ok (.getfield 44, 3) := by decide +kernel
theorem dX5_says_71 : decode cX5_says 71 = .ok (.aload_n 0, 1) := by decide +kernel
theorem dX5_says_72 : decode cX5_says 72 = .ok (.getfield 64, 3) := by decide +kernel
theorem dX5_says_75 : decode cX5_says 75 = .ok (.iload_n 1, 1) := by decide +kernel
theorem dX5_says_76 : decode cX5_says 76 = .ok (.aload_n 0, 1) := by decide +kernel
theorem dX5_says_77 : decode cX5_says 77 = .ok (.getfield 41, 3) := by decide +kernel
theorem dX5_says_80 : decode cX5_says 80 = .ok (.invokevirtual 141, 3) := by decide +kernel
theorem dX5_says_83 : decode cX5_says 83 = .ok (.invokestatic 84, 3) := by decide +kernel
theorem dX5_says_86 : decode cX5_says 86 = .ok (.invokestatic 108, 3) := by decide +kernel
theorem dX5_says_89 : decode cX5_says 89 = .ok (.ireturn, 1) := by decide +kernel
