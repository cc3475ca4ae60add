theorem dX0_ofName_0 : decode cX0_ofName 0 = .ok (.iconst (-1), 1) := by decide +kernel
theorem dX0_ofName_1 : decode cX0_ofName 1 = .ok (.iload_n 0, 1) := by decide +kernel
theorem dX0_ofName_2 : decode cX0_ofName 2 = .ok (.isub, 1) := by decide +kernel
theorem dX0_ofName_3 : decode cX0_ofName 3 = .ok (.ireturn, 1) := by decide +kernel
theorem dX0_isName_0 : decode cX0_isName 0 = .ok (.iload_n 0, 1) := by decide +kernel
theorem dX0_isName_1 : decode cX0_isName 1 = .ok (.iconst (-1), 1) := by decide +kernel
theorem dX0_isName_2 : decode cX0_isName 2 = .ok (.if_icmp .gt 13, 3) := by decide +kernel
theorem dX0_isName_5 : decode cX0_isName 5 = .ok (.iload_n 0, 1) := by decide +kernel
theorem dX0_isName_6 : decode cX0_isName 6 = .ok (.bipush (-7), 2) := by decide +kernel
theorem dX0_isName_8 : decode cX0_isName 8 = .ok (.if_icmp .le 7, 3) := by decide +kernel
theorem dX0_isName_11 : decode cX0_isName 11 = .ok (.iconst 1, 1) := by decide +kernel
theorem dX0_isName_12 : decode cX0_isName 12 = .ok (.goto 4, 3) := by decide +kernel
theorem dX0_isName_15 : decode cX0_isName 15 = .ok (.iconst 0, 1) := by decide +kernel
theorem dX0_isName_16 : decode cX0_isName 16 = .ok (.ireturn, 1) := by decide +kernel
theorem dX0_isOfOne_0 : decode cX0_isOfOne 0 = .ok (.iload_n 0, 1) := by decide +kernel
theorem dX0_isOfOne_1 : decode cX0_isOfOne 1 = .ok (.bipush (-11), 2) := by decide +kernel
theorem dX0_isOfOne_3 : decode cX0_isOfOne 3 = .ok (.if_icmp .eq 9, 3) := by decide +kernel
theorem dX0_isOfOne_6 : decode cX0_isOfOne 6 = .ok (.iload_n 0, 1) := by decide +kernel
theorem dX0_isOfOne_7 : decode cX0_isOfOne 7 = .ok (.bipush (-12), 2) := by decide +kernel
theorem dX0_isOfOne_9 : decode cX0_isOfOne 9 = .ok (.if_icmp .ne 7, 3) := by decide +kernel
theorem dX0_isOfOne_12 : decode cX0_isOfOne 12 = .ok (.iconst 1, 1) := by decide +kernel
theorem dX0_isOfOne_13 : decode cX0_isOfOne 13 = .ok (.goto 4, 3) := by decide +kernel
theorem dX0_isOfOne_16 : decode cX0_isOfOne 16 = .ok (.iconst 0, 1) := by decide +kernel
theorem dX0_isOfOne_17 : decode cX0_isOfOne 17 = .ok (.ireturn, 1) := by decide +kernel
theorem dX0_ofOne_0 : decode cX0_ofOne 0 = .ok (.iload_n 0, 1) := by decide +kernel
theorem dX0_ofOne_1 : decode cX0_ofOne 1 = .ok (.bipush (-11), 2) := by decide +kernel
theorem dX0_ofOne_3 : decode cX0_ofOne 3 = .ok (.if_icmp .ne 6, 3) := by decide +kernel
theorem dX0_ofOne_6 : decode cX0_ofOne 6 = .ok (.iload_n 1, 1) := by decide +kernel
theorem dX0_ofOne_7 : decode cX0_ofOne 7 = .ok (.ineg, 1) := by decide +kernel
theorem dX0_ofOne_8 : decode cX0_ofOne 8 = .ok (.ireturn, 1) := by decide +kernel
theorem dX0_ofOne_9 : decode cX0_ofOne 9 = .ok (.iload_n 1, 1) := by decide +kernel
theorem dX0_ofOne_10 : decode cX0_ofOne 10 = .ok (.ifCond .ne 7, 3) := by decide +kernel
theorem dX0_ofOne_13 : decode cX0_ofOne 13 = .ok (.iconst 1, 1) := by decide +kernel
theorem dX0_ofOne_14 : decode cX0_ofOne 14 = .ok (.goto 4, 3) := by decide +kernel
theorem dX0_ofOne_17 : decode cX0_ofOne 17 = .ok (.iconst 0, 1) := by decide +kernel
theorem dX0_ofOne_18 : decode cX0_ofOne 18 = .ok (.ireturn, 1) := by decide +kernel
theorem dX0_isOfTwo_0 : decode cX0_isOfTwo 0 = .ok (.iload_n 0, 1) := by decide +kernel
theorem dX0_isOfTwo_1 : decode cX0_isOfTwo 1 = .ok (.bipush (-21), 2) := by decide +kernel
theorem dX0_isOfTwo_3 : decode cX0_isOfTwo 3 = .ok (.if_icmp .gt 13, 3) := by decide +kernel
theorem dX0_isOfTwo_6 : decode cX0_isOfTwo 6 = .ok (.iload_n 0, 1) := by decide +kernel
theorem dX0_isOfTwo_7 : decode cX0_isOfTwo 7 = .ok (.bipush (-27), 2) := by decide +kernel
theorem dX0_isOfTwo_9 : decode cX0_isOfTwo 9 = .ok (.if_icmp .lt 7, 3) := by decide +kernel
theorem dX0_isOfTwo_12 : decode cX0_isOfTwo 12 = .ok (.iconst 1, 1) := by decide +kernel
theorem dX0_isOfTwo_13 : decode cX0_isOfTwo 13 = .ok (.goto 4, 3) := by decide +kernel
theorem dX0_isOfTwo_16 : decode cX0_isOfTwo 16 = .ok (.iconst 0, 1) := by decide +kernel
theorem dX0_isOfTwo_17 : decode cX0_isOfTwo 17 = .ok (.ireturn, 1) := by decide +kernel
theorem dX0_ofTwo_0 : decode cX0_ofTwo 0 = .ok (.iload_n 0, 1) := by decide +kernel
theorem dX0_ofTwo_1 : decode cX0_ofTwo 1 = .ok (.tableswitch 87 (-26) (-21) #[73, 62, 51, 47, 43, 39], 39) := by decide +kernel
theorem dX0_ofTwo_40 : decode cX0_ofTwo 40 = .ok (.iload_n 1, 1) := by decide +kernel
theorem dX0_ofTwo_41 : decode cX0_ofTwo 41 = .ok (.iload_n 2, 1) := by decide +kernel
theorem dX0_ofTwo_42 : decode cX0_ofTwo 42 = .ok (.iadd, 1) := by decide +kernel
theorem dX0_ofTwo_43 : decode cX0_ofTwo 43 = .ok (.ireturn, 1) := by decide +kernel
theorem dX0_ofTwo_44 : decode cX0_ofTwo 44 = .ok (.iload_n 1, 1) := by decide +kernel
theorem dX0_ofTwo_45 : decode cX0_ofTwo 45 = .ok (.iload_n 2, 1) := by decide +kernel
theorem dX0_ofTwo_46 : decode cX0_ofTwo 46 = .ok (.isub, 1) := by decide +kernel
theorem dX0_ofTwo_47 : decode cX0_ofTwo 47 = .ok (.ireturn, 1) := by decide +kernel
theorem dX0_ofTwo_48 : decode cX0_ofTwo 48 = .ok (.iload_n 1, 1) := by decide +kernel
theorem dX0_ofTwo_49 : decode cX0_ofTwo 49 = .ok (.iload_n 2, 1) := by decide +kernel
theorem dX0_ofTwo_50 : decode cX0_ofTwo 50 = .ok (.imul, 1) := by decide +kernel
theorem dX0_ofTwo_51 : decode cX0_ofTwo 51 = .ok (.ireturn, 1) := by decide +kernel
theorem dX0_ofTwo_52 : decode cX0_ofTwo 52 = .ok (.iload_n 1, 1) := by decide +kernel
theorem dX0_ofTwo_53 : decode cX0_ofTwo 53 = .ok (.iload_n 2, 1) := by decide +kernel
theorem dX0_ofTwo_54 : decode cX0_ofTwo 54 = .ok (.if_icmp .ge 7, 3) := by decide +kernel
theorem dX0_ofTwo_57 : decode cX0_ofTwo 57 = .ok (.iconst 1, 1) := by decide +kernel
theorem dX0_ofTwo_58 : decode cX0_ofTwo 58 = .ok (.goto 4, 3) := by decide +kernel
theorem dX0_ofTwo_61 : decode cX0_ofTwo 61 = .ok (.iconst 0, 1) := by decide +kernel
theorem dX0_ofTwo_62 : decode cX0_ofTwo 62 = .ok (.ireturn, 1) := by decide +kernel
theorem dX0_ofTwo_63 : decode cX0_ofTwo 63 = .ok (.iload_n 1, 1) := by decide +kernel
theorem dX0_ofTwo_64 : decode cX0_ofTwo 64 = .ok (.iload_n 2, 1) := by decide +kernel
theorem dX0_ofTwo_65 : decode cX0_ofTwo 65 = .ok (.if_icmp .ne 7, 3) := by decide +kernel
theorem dX0_ofTwo_68 : decode cX0_ofTwo 68 = .ok (.iconst 1, 1) := by decide +kernel
theorem dX0_ofTwo_69 : decode cX0_ofTwo 69 = .ok (.goto 4, 3) := by decide +kernel
theorem dX0_ofTwo_72 : decode cX0_ofTwo 72 = .ok (.iconst 0, 1) := by decide +kernel
theorem dX0_ofTwo_73 : decode cX0_ofTwo 73 = .ok (.ireturn, 1) := by decide +kernel
theorem dX0_ofTwo_74 : decode cX0_ofTwo 74 = .ok (.iload_n 1, 1) := by decide +kernel
theorem dX0_ofTwo_75 : decode cX0_ofTwo 75 = .ok (.ifCond .eq 11, 3) := by decide +kernel
theorem dX0_ofTwo_78 : decode cX0_ofTwo 78 = .ok (.iload_n 2, 1) := by decide +kernel
theorem dX0_ofTwo_79 : decode cX0_ofTwo 79 = .ok (.ifCond .eq 7, 3) := by decide +kernel
theorem dX0_ofTwo_82 : decode cX0_ofTwo 82 = .ok (.iconst 1, 1) := by decide +kernel
theorem dX0_ofTwo_83 : decode cX0_ofTwo 83 = .ok (.goto 4, 3) := by decide +kernel
theorem dX0_ofTwo_86 : decode cX0_ofTwo 86 = .ok (.iconst 0, 1) := by decide +kernel
theorem dX0_ofTwo_87 : decode cX0_ofTwo 87 = .ok (.ireturn, 1) := by decide +kernel
theorem dX0_ofTwo_88 : decode cX0_ofTwo 88 = .ok (.iload_n 1, 1) := by decide +kernel
theorem dX0_ofTwo_89 : decode cX0_ofTwo 89 = .ok (.ifCond .ne 7, 3) := by decide +kernel
theorem dX0_ofTwo_92 : decode cX0_ofTwo 92 = .ok (.iload_n 2, 1) := by decide +kernel
theorem dX0_ofTwo_93 : decode cX0_ofTwo 93 = .ok (.ifCond .eq 7, 3) := by decide +kernel
theorem dX0_ofTwo_96 : decode cX0_ofTwo 96 = .ok (.iconst 1, 1) := by decide +kernel
theorem dX0_ofTwo_97 : decode cX0_ofTwo 97 = .ok (.goto 4, 3) := by decide +kernel
theorem dX0_ofTwo_100 : decode cX0_ofTwo 100 = .ok (.iconst 0, 1) := by decide +kernel
theorem dX0_ofTwo_101 : decode cX0_ofTwo 101 = .ok (.ireturn, 1) := by decide +kernel
theorem dX1_isOne_0 : decode cX1_isOne 0 = .ok (.iload_n 0, 1) := by decide +kernel
theorem dX1_isOne_1 : decode cX1_isOne 1 = .ok (.istore_n 2, 1) := by decide +kernel
theorem dX1_isOne_2 : decode cX1_isOne 2 = .ok (.iconst 0, 1) := by decide +kernel
theorem dX1_isOne_3 : decode cX1_isOne 3 = .ok (.istore_n 3, 1) := by decide +kernel
theorem dX1_isOne_4 : decode cX1_isOne 4 = .ok (.iload_n 3, 1) := by decide +kernel
theorem dX1_isOne_5 : decode cX1_isOne 5 = .ok (.getstatic 7, 3) := by decide +kernel
theorem dX1_isOne_8 : decode cX1_isOne 8 = .ok (.arraylength, 1) := by decide +kernel
theorem dX1_isOne_9 : decode cX1_isOne 9 = .ok (.if_icmp .ge 34, 3) := by decide +kernel
theorem dX1_isOne_12 : decode cX1_isOne 12 = .ok (.iload_n 2, 1) := by decide +kernel
theorem dX1_isOne_13 : decode cX1_isOne 13 = .ok (.ifCond .lt 30, 3) := by decide +kernel
theorem dX1_isOne_16 : decode cX1_isOne 16 = .ok (.iload_n 2, 1) := by decide +kernel
theorem dX1_isOne_17 : decode cX1_isOne 17 = .ok (.getstatic 7, 3) := by decide +kernel
theorem dX1_isOne_20 : decode cX1_isOne 20 = .ok (.arraylength, 1) := by decide +kernel
theorem dX1_isOne_21 : decode cX1_isOne 21 = .ok (.if_icmp .ge 22, 3) := by decide +kernel
theorem dX1_isOne_24 : decode cX1_isOne 24 = .ok (.iload_n 2, 1) := by decide +kernel
theorem dX1_isOne_25 : decode cX1_isOne 25 = .ok (.iload_n 1, 1) := by decide +kernel
theorem dX1_isOne_26 : decode cX1_isOne 26 = .ok (.if_icmp .ne 5, 3) := by decide +kernel
theorem dX1_isOne_29 : decode cX1_isOne 29 = .ok (.iconst 1, 1) := by decide +kernel
theorem dX1_isOne_30 : decode cX1_isOne 30 = .ok (.ireturn, 1) := by decide +kernel
theorem dX1_isOne_31 : decode cX1_isOne 31 = .ok (.getstatic 7, 3) := by decide +kernel
theorem dX1_isOne_34 : decode cX1_isOne 34 = .ok (.iload_n 2, 1) := by decide +kernel
theorem dX1_isOne_35 : decode cX1_isOne 35 = .ok (.iaload, 1) := by decide +kernel
theorem dX1_isOne_36 : decode cX1_isOne 36 = .ok (.istore_n 2, 1) := by decide +kernel
theorem dX1_isOne_37 : decode cX1_isOne 37 = .ok (.iinc 3 1, 3) := by decide +kernel
theorem dX1_isOne_40 : decode cX1_isOne 40 = .ok (.goto (-36), 3) := by decide +kernel
theorem dX1_isOne_43 : decode cX1_isOne 43 = .ok (.iconst 0, 1) := by decide +kernel
theorem dX1_isOne_44 : decode cX1_isOne 44 = .ok (.ireturn, 1) := by decide +kernel
theorem dX1_growth_0 : decode cX1_growth 0 = .ok (.iload_n 0, 1) := by decide +kernel
theorem dX1_growth_1 : decode cX1_growth 1 = .ok (.tableswitch 57 1 5 #[35, 57, 35, 49, 55], 35) := by decide +kernel
theorem dX1_growth_36 : decode cX1_growth 36 = .ok (.iload_n 2, 1) := by decide +kernel
theorem dX1_growth_37 : decode cX1_growth 37 = .ok (.bipush 50, 2) := by decide +kernel
theorem dX1_growth_39 : decode cX1_growth 39 = .ok (.if_icmp .le 9, 3) := by decide +kernel
theorem dX1_growth_42 : decode cX1_growth 42 = .ok (.iload_n 3, 1) := by decide +kernel
theorem dX1_growth_43 : decode cX1_growth 43 = .ok (.iload_n 1, 1) := by decide +kernel
theorem dX1_growth_44 : decode cX1_growth 44 = .ok (.iadd, 1) := by decide +kernel
theorem dX1_growth_45 : decode cX1_growth 45 = .ok (.goto 4, 3) := by decide +kernel
theorem dX1_growth_48 : decode cX1_growth 48 = .ok (.iload_n 3, 1) := by decide +kernel
theorem dX1_growth_49 : decode cX1_growth 49 = .ok (.ireturn, 1) := by decide +kernel
theorem dX1_growth_50 : decode cX1_growth 50 = .ok (.iconst 2, 1) := by decide +kernel
theorem dX1_growth_51 : decode cX1_growth 51 = .ok (.iload_n 3, 1) := by decide +kernel
theorem dX1_growth_52 : decode cX1_growth 52 = .ok (.imul, 1) := by decide +kernel
theorem dX1_growth_53 : decode cX1_growth 53 = .ok (.iconst 1, 1) := by decide +kernel
theorem dX1_growth_54 : decode cX1_growth 54 = .ok (.iadd, 1) := by decide +kernel
theorem dX1_growth_55 : decode cX1_growth 55 = .ok (.ireturn, 1) := by decide +kernel
theorem dX1_growth_56 : decode cX1_growth 56 = .ok (.iconst 0, 1) := by decide +kernel
theorem dX1_growth_57 : decode cX1_growth 57 = .ok (.ireturn, 1) := by decide +kernel
theorem dX1_growth_58 : decode cX1_growth 58 = .ok (.iload_n 3, 1) := by decide +kernel
theorem dX1_growth_59 : decode cX1_growth 59 = .ok (.ireturn, 1) := by decide +kernel
theorem dX1_cooling_0 : decode cX1_cooling 0 = .ok (.iload_n 0, 1) := by decide +kernel
theorem dX1_cooling_1 : decode cX1_cooling 1 = .ok (.tableswitch 57 1 4 #[31, 50, 35, 50], 31) := by decide +kernel
theorem dX1_cooling_32 : decode cX1_cooling 32 = .ok (.iload_n 2, 1) := by decide +kernel
theorem dX1_cooling_33 : decode cX1_cooling 33 = .ok (.iconst 2, 1) := by decide +kernel
theorem dX1_cooling_34 : decode cX1_cooling 34 = .ok (.idiv, 1) := by decide +kernel
theorem dX1_cooling_35 : decode cX1_cooling 35 = .ok (.ireturn, 1) := by decide +kernel
theorem dX1_cooling_36 : decode cX1_cooling 36 = .ok (.iload_n 1, 1) := by decide +kernel
theorem dX1_cooling_37 : decode cX1_cooling 37 = .ok (.sipush 200, 3) := by decide +kernel
theorem dX1_cooling_40 : decode cX1_cooling 40 = .ok (.if_icmp .le 7, 3) := by decide +kernel
theorem dX1_cooling_43 : decode cX1_cooling 43 = .ok (.iload_n 1, 1) := by decide +kernel
theorem dX1_cooling_44 : decode cX1_cooling 44 = .ok (.goto 6, 3) := by decide +kernel
theorem dX1_cooling_47 : decode cX1_cooling 47 = .ok (.iload_n 2, 1) := by decide +kernel
theorem dX1_cooling_48 : decode cX1_cooling 48 = .ok (.iconst 2, 1) := by decide +kernel
theorem dX1_cooling_49 : decode cX1_cooling 49 = .ok (.idiv, 1) := by decide +kernel
theorem dX1_cooling_50 : decode cX1_cooling 50 = .ok (.ireturn, 1) := by decide +kernel
theorem dX1_cooling_51 : decode cX1_cooling 51 = .ok (.iload_n 2, 1) := by decide +kernel
theorem dX1_cooling_52 : decode cX1_cooling 52 = .ok (.iload_n 1, 1) := by decide +kernel
theorem dX1_cooling_53 : decode cX1_cooling 53 = .ok (.bipush 20, 2) := by decide +kernel
theorem dX1_cooling_55 : decode cX1_cooling 55 = .ok (.idiv, 1) := by decide +kernel
theorem dX1_cooling_56 : decode cX1_cooling 56 = .ok (.iadd, 1) := by decide +kernel
theorem dX1_cooling_57 : decode cX1_cooling 57 = .ok (.ireturn, 1) := by decide +kernel
theorem dX1_cooling_58 : decode cX1_cooling 58 = .ok (.iload_n 2, 1) := by decide +kernel
theorem dX1_cooling_59 : decode cX1_cooling 59 = .ok (.ireturn, 1) := by decide +kernel
theorem dX1_burning_0 : decode cX1_burning 0 = .ok (.iload_n 0, 1) := by decide +kernel
theorem dX1_burning_1 : decode cX1_burning 1 = .ok (.tableswitch 65 2 5 #[31, 35, 39, 52], 31) := by decide +kernel
theorem dX1_burning_32 : decode cX1_burning 32 = .ok (.iconst 2, 1) := by decide +kernel
theorem dX1_burning_33 : decode cX1_burning 33 = .ok (.iload_n 3, 1) := by decide +kernel
theorem dX1_burning_34 : decode cX1_burning 34 = .ok (.imul, 1) := by decide +kernel
theorem dX1_burning_35 : decode cX1_burning 35 = .ok (.ireturn, 1) := by decide +kernel
theorem dX1_burning_36 : decode cX1_burning 36 = .ok (.iload_n 3, 1) := by decide +kernel
theorem dX1_burning_37 : decode cX1_burning 37 = .ok (.iload_n 1, 1) := by decide +kernel
theorem dX1_burning_38 : decode cX1_burning 38 = .ok (.iadd, 1) := by decide +kernel
theorem dX1_burning_39 : decode cX1_burning 39 = .ok (.ireturn, 1) := by decide +kernel
theorem dX1_burning_40 : decode cX1_burning 40 = .ok (.iload_n 2, 1) := by decide +kernel
theorem dX1_burning_41 : decode cX1_burning 41 = .ok (.iload_n 1, 1) := by decide +kernel
theorem dX1_burning_42 : decode cX1_burning 42 = .ok (.if_icmp .ge 7, 3) := by decide +kernel
theorem dX1_burning_45 : decode cX1_burning 45 = .ok (.iconst 0, 1) := by decide +kernel
theorem dX1_burning_46 : decode cX1_burning 46 = .ok (.goto 6, 3) := by decide +kernel
theorem dX1_burning_49 : decode cX1_burning 49 = .ok (.iconst 2, 1) := by decide +kernel
theorem dX1_burning_50 : decode cX1_burning 50 = .ok (.iload_n 3, 1) := by decide +kernel
theorem dX1_burning_51 : decode cX1_burning 51 = .ok (.imul, 1) := by decide +kernel
theorem dX1_burning_52 : decode cX1_burning 52 = .ok (.ireturn, 1) := by decide +kernel
theorem dX1_burning_53 : decode cX1_burning 53 = .ok (.iload_n 2, 1) := by decide +kernel
theorem dX1_burning_54 : decode cX1_burning 54 = .ok (.iconst 2, 1) := by decide +kernel
theorem dX1_burning_55 : decode cX1_burning 55 = .ok (.irem, 1) := by decide +kernel
theorem dX1_burning_56 : decode cX1_burning 56 = .ok (.ifCond .eq 8, 3) := by decide +kernel
theorem dX1_burning_59 : decode cX1_burning 59 = .ok (.bipush 30, 2) := by decide +kernel
theorem dX1_burning_61 : decode cX1_burning 61 = .ok (.goto 4, 3) := by decide +kernel
theorem dX1_burning_64 : decode cX1_burning 64 = .ok (.iconst 0, 1) := by decide +kernel
theorem dX1_burning_65 : decode cX1_burning 65 = .ok (.ireturn, 1) := by decide +kernel
theorem dX1_burning_66 : decode cX1_burning 66 = .ok (.iload_n 3, 1) := by decide +kernel
theorem dX1_burning_67 : decode cX1_burning 67 = .ok (.ireturn, 1) := by decide +kernel
theorem dX2_takeByte_0 : decode cX2_takeByte 0 = .ok (.aload_n 0, 1) := by decide +kernel
theorem dX2_takeByte_1 : decode cX2_takeByte 1 = .ok (.getfield 21, 3) := by decide +kernel
theorem dX2_takeByte_4 : decode cX2_takeByte 4 = .ok (.aload_n 0, 1) := by decide +kernel
theorem dX2_takeByte_5 : decode cX2_takeByte 5 = .ok (.getfield 9, 3) := by decide +kernel
theorem dX2_takeByte_8 : decode cX2_takeByte 8 = .ok (.arraylength, 1) := by decide +kernel
theorem dX2_takeByte_9 : decode cX2_takeByte 9 = .ok (.if_icmp .ge 23, 3) := by decide +kernel
theorem dX2_takeByte_12 : decode cX2_takeByte 12 = .ok (.aload_n 0, 1) := by decide +kernel
theorem dX2_takeByte_13 : decode cX2_takeByte 13 = .ok (.getfield 9, 3) := by decide +kernel
theorem dX2_takeByte_16 : decode cX2_takeByte 16 = .ok (.aload_n 0, 1) := by decide +kernel
theorem dX2_takeByte_17 : decode cX2_takeByte 17 = .ok (.getfield 21, 3) := by decide +kernel
theorem dX2_takeByte_20 : decode cX2_takeByte 20 = .ok (.iload_n 1, 1) := by decide +kernel
theorem dX2_takeByte_21 : decode cX2_takeByte 21 = .ok (.iastore, 1) := by decide +kernel
theorem dX2_takeByte_22 : decode cX2_takeByte 22 = .ok (.aload_n 0, 1) := by decide +kernel
theorem dX2_takeByte_23 : decode cX2_takeByte 23 = .ok (.dup, 1) := by decide +kernel
theorem dX2_takeByte_24 : decode cX2_takeByte 24 = .ok (.getfield 21, 3) := by decide +kernel
theorem dX2_takeByte_27 : decode cX2_takeByte 27 = .ok (.iconst 1, 1) := by decide +kernel
theorem dX2_takeByte_28 : decode cX2_takeByte 28 = .ok (.iadd, 1) := by decide +kernel
theorem dX2_takeByte_29 : decode cX2_takeByte 29 = .ok (.putfield 21, 3) := by decide +kernel
theorem dX2_takeByte_32 : decode cX2_takeByte 32 = .ok (.return_, 1) := by decide +kernel
theorem dX2_clear_0 : decode cX2_clear 0 = .ok (.aload_n 0, 1) := by decide +kernel
theorem dX2_clear_1 : decode cX2_clear 1 = .ok (.iconst 0, 1) := by decide +kernel
theorem dX2_clear_2 : decode cX2_clear 2 = .ok (.putfield 21, 3) := by decide +kernel
theorem dX2_clear_5 : decode cX2_clear 5 = .ok (.return_, 1) := by decide +kernel
theorem dX2_readText_0 : decode cX2_readText 0 = .ok (.aload_n 0, 1) := by decide +kernel
theorem dX2_readText_1 : decode cX2_readText 1 = .ok (.iconst 0, 1) := by decide +kernel
theorem dX2_readText_2 : decode cX2_readText 2 = .ok (.putfield 25, 3) := by decide +kernel
theorem dX2_readText_5 : decode cX2_readText 5 = .ok (.aload_n 0, 1) := by decide +kernel
theorem dX2_readText_6 : decode cX2_readText 6 = .ok (.iconst 0, 1) := by decide +kernel
theorem dX2_readText_7 : decode cX2_readText 7 = .ok (.putfield 28, 3) := by decide +kernel
theorem dX2_readText_10 : decode cX2_readText 10 = .ok (.aload_n 0, 1) := by decide +kernel
theorem dX2_readText_11 : decode cX2_readText 11 = .ok (.iconst (-1), 1) := by decide +kernel
theorem dX2_readText_12 : decode cX2_readText 12 = .ok (.putfield 31, 3) := by decide +kernel
theorem dX2_readText_15 : decode cX2_readText 15 = .ok (.aload_n 0, 1) := by decide +kernel
theorem dX2_readText_16 : decode cX2_readText 16 = .ok (.invokevirtual 34, 3) := by decide +kernel
theorem dX2_readText_19 : decode cX2_readText 19 = .ok (.iconst 0, 1) := by decide +kernel
theorem dX2_readText_20 : decode cX2_readText 20 = .ok (.istore_n 1, 1) := by decide +kernel
theorem dX2_readText_21 : decode cX2_readText 21 = .ok (.iload_n 1, 1) := by decide +kernel
theorem dX2_readText_22 : decode cX2_readText 22 = .ok (.iconst 3, 1) := by decide +kernel
theorem dX2_readText_23 : decode cX2_readText 23 = .ok (.if_icmp .ge 37, 3) := by decide +kernel
theorem dX2_readText_26 : decode cX2_readText 26 = .ok (.aload_n 0, 1) := by decide +kernel
theorem dX2_readText_27 : decode cX2_readText 27 = .ok (.iconst 4, 1) := by decide +kernel
theorem dX2_readText_28 : decode cX2_readText 28 = .ok (.iload_n 1, 1) := by decide +kernel
theorem dX2_readText_29 : decode cX2_readText 29 = .ok (.iadd, 1) := by decide +kernel
theorem dX2_readText_30 : decode cX2_readText 30 = .ok (.invokevirtual 37, 3) := by decide +kernel
theorem dX2_readText_33 : decode cX2_readText 33 = .ok (.aload_n 0, 1) := by decide +kernel
theorem dX2_readText_34 : decode cX2_readText 34 = .ok (.iconst 0, 1) := by decide +kernel
theorem dX2_readText_35 : decode cX2_readText 35 = .ok (.invokevirtual 41, 3) := by decide +kernel
theorem dX2_readText_38 : decode cX2_readText 38 = .ok (.aload_n 0, 1) := by decide +kernel
theorem dX2_readText_39 : decode cX2_readText 39 = .ok (.bipush 59, 2) := by decide +kernel
theorem dX2_readText_41 : decode cX2_readText 41 = .ok (.invokevirtual 37, 3) := by decide +kernel
theorem dX2_readText_44 : decode cX2_readText 44 = .ok (.aload_n 0, 1) := by decide +kernel
theorem dX2_readText_45 : decode cX2_readText 45 = .ok (.getfield 18, 3) := by decide +kernel
theorem dX2_readText_48 : decode cX2_readText 48 = .ok (.iload_n 1, 1) := by decide +kernel
theorem dX2_readText_49 : decode cX2_readText 49 = .ok (.aload_n 0, 1) := by decide +kernel
theorem dX2_readText_50 : decode cX2_readText 50 = .ok (.getfield 28, 3) := by decide +kernel
theorem dX2_readText_53 : decode cX2_readText 53 = .ok (.iastore, 1) := by decide +kernel
theorem dX2_readText_54 : decode cX2_readText 54 = .ok (.iinc 1 1, 3) := by decide +kernel
theorem dX2_readText_57 : decode cX2_readText 57 = .ok (.goto (-36), 3) := by decide +kernel
theorem dX2_readText_60 : decode cX2_readText 60 = .ok (.aload_n 0, 1) := by decide +kernel
theorem dX2_readText_61 : decode cX2_readText 61 = .ok (.iconst 0, 1) := by decide +kernel
theorem dX2_readText_62 : decode cX2_readText 62 = .ok (.invokevirtual 37, 3) := by decide +kernel
theorem dX2_readText_65 : decode cX2_readText 65 = .ok (.aload_n 0, 1) := by decide +kernel
theorem dX2_readText_66 : decode cX2_readText 66 = .ok (.getfield 31, 3) := by decide +kernel
theorem dX2_readText_69 : decode cX2_readText 69 = .ok (.ireturn, 1) := by decide +kernel
theorem dX2_expect_0 : decode cX2_expect 0 = .ok (.aload_n 0, 1) := by decide +kernel
theorem dX2_expect_1 : decode cX2_expect 1 = .ok (.getfield 44, 3) := by decide +kernel
theorem dX2_expect_4 : decode cX2_expect 4 = .ok (.iload_n 1, 1) := by decide +kernel
theorem dX2_expect_5 : decode cX2_expect 5 = .ok (.if_icmp .ne 10, 3) := by decide +kernel
theorem dX2_expect_8 : decode cX2_expect 8 = .ok (.aload_n 0, 1) := by decide +kernel
theorem dX2_expect_9 : decode cX2_expect 9 = .ok (.invokevirtual 34, 3) := by decide +kernel
theorem dX2_expect_12 : decode cX2_expect 12 = .ok (.goto 7, 3) := by decide +kernel
theorem dX2_expect_15 : decode cX2_expect 15 = .ok (.aload_n 0, 1) := by decide +kernel
theorem dX2_expect_16 : decode cX2_expect 16 = .ok (.invokevirtual 47, 3) := by decide +kernel
theorem dX2_expect_19 : decode cX2_expect 19 = .ok (.return_, 1) := by decide +kernel
theorem dX2_fail_0 : decode cX2_fail 0 = .ok (.aload_n 0, 1) := by decide +kernel
theorem dX2_fail_1 : decode cX2_fail 1 = .ok (.getfield 31, 3) := by decide +kernel
theorem dX2_fail_4 : decode cX2_fail 4 = .ok (.iconst (-1), 1) := by decide +kernel
theorem dX2_fail_5 : decode cX2_fail 5 = .ok (.if_icmp .ne 11, 3) := by decide +kernel
theorem dX2_fail_8 : decode cX2_fail 8 = .ok (.aload_n 0, 1) := by decide +kernel
theorem dX2_fail_9 : decode cX2_fail 9 = .ok (.aload_n 0, 1) := by decide +kernel
theorem dX2_fail_10 : decode cX2_fail 10 = .ok (.getfield 50, 3) := by decide +kernel
theorem dX2_fail_13 : decode cX2_fail 13 = .ok (.putfield 31, 3) := by decide +kernel
theorem dX2_fail_16 : decode cX2_fail 16 = .ok (.aload_n 0, 1) := by decide +kernel
theorem dX2_fail_17 : decode cX2_fail 17 = .ok (.iconst 1, 1) := by decide +kernel
theorem dX2_fail_18 : decode cX2_fail 18 = .ok (.putfield 44, 3) := by decide +kernel
theorem dX2_fail_21 : decode cX2_fail 21 = .ok (.return_, 1) := by decide +kernel
theorem dX2_emit_0 : decode cX2_emit 0 = .ok (.aload_n 0, 1) := by decide +kernel
theorem dX2_emit_1 : decode cX2_emit 1 = .ok (.getfield 28, 3) := by decide +kernel
theorem dX2_emit_4 : decode cX2_emit 4 = .ok (.aload_n 0, 1) := by decide +kernel
theorem dX2_emit_5 : decode cX2_emit 5 = .ok (.getfield 15, 3) := by decide +kernel
theorem dX2_emit_8 : decode cX2_emit 8 = .ok (.arraylength, 1) := by decide +kernel
theorem dX2_emit_9 : decode cX2_emit 9 = .ok (.if_icmp .ge 23, 3) := by decide +kernel
theorem dX2_emit_12 : decode cX2_emit 12 = .ok (.aload_n 0, 1) := by decide +kernel
theorem dX2_emit_13 : decode cX2_emit 13 = .ok (.getfield 15, 3) := by decide +kernel
theorem dX2_emit_16 : decode cX2_emit 16 = .ok (.aload_n 0, 1) := by decide +kernel
theorem dX2_emit_17 : decode cX2_emit 17 = .ok (.getfield 28, 3) := by decide +kernel
theorem dX2_emit_20 : decode cX2_emit 20 = .ok (.iload_n 1, 1) := by decide +kernel
theorem dX2_emit_21 : decode cX2_emit 21 = .ok (.iastore, 1) := by decide +kernel
theorem dX2_emit_22 : decode cX2_emit 22 = .ok (.aload_n 0, 1) := by decide +kernel
theorem dX2_emit_23 : decode cX2_emit 23 = .ok (.dup, 1) := by decide +kernel
theorem dX2_emit_24 : decode cX2_emit 24 = .ok (.getfield 28, 3) := by decide +kernel
theorem dX2_emit_27 : decode cX2_emit 27 = .ok (.iconst 1, 1) := by decide +kernel
theorem dX2_emit_28 : decode cX2_emit 28 = .ok (.iadd, 1) := by decide +kernel
theorem dX2_emit_29 : decode cX2_emit 29 = .ok (.putfield 28, 3) := by decide +kernel
theorem dX2_emit_32 : decode cX2_emit 32 = .ok (.return_, 1) := by decide +kernel
theorem dX2_readOr_0 : decode cX2_readOr 0 = .ok (.aload_n 0, 1) := by decide +kernel
theorem dX2_readOr_1 : decode cX2_readOr 1 = .ok (.iload_n 1, 1) := by decide +kernel
theorem dX2_readOr_2 : decode cX2_readOr 2 = .ok (.invokevirtual 53, 3) := by decide +kernel
theorem dX2_readOr_5 : decode cX2_readOr 5 = .ok (.iconst 0, 1) := by decide +kernel
theorem dX2_readOr_6 : decode cX2_readOr 6 = .ok (.istore_n 2, 1) := by decide +kernel
theorem dX2_readOr_7 : decode cX2_readOr 7 = .ok (.iload_n 2, 1) := by decide +kernel
theorem dX2_readOr_8 : decode cX2_readOr 8 = .ok (.sipush 160, 3) := by decide +kernel
theorem dX2_readOr_11 : decode cX2_readOr 11 = .ok (.if_icmp .ge 33, 3) := by decide +kernel
theorem dX2_readOr_14 : decode cX2_readOr 14 = .ok (.aload_n 0, 1) := by decide +kernel
theorem dX2_readOr_15 : decode cX2_readOr 15 = .ok (.getfield 44, 3) := by decide +kernel
theorem dX2_readOr_18 : decode cX2_readOr 18 = .ok (.bipush 7, 2) := by decide +kernel
theorem dX2_readOr_20 : decode cX2_readOr 20 = .ok (.if_icmp .ne 24, 3) := by decide +kernel
theorem dX2_readOr_23 : decode cX2_readOr 23 = .ok (.aload_n 0, 1) := by decide +kernel
theorem dX2_readOr_24 : decode cX2_readOr 24 = .ok (.invokevirtual 34, 3) := by decide +kernel
theorem dX2_readOr_27 : decode cX2_readOr 27 = .ok (.aload_n 0, 1) := by decide +kernel
theorem dX2_readOr_28 : decode cX2_readOr 28 = .ok (.iload_n 1, 1) := by decide +kernel
theorem dX2_readOr_29 : decode cX2_readOr 29 = .ok (.invokevirtual 53, 3) := by decide +kernel
theorem dX2_readOr_32 : decode cX2_readOr 32 = .ok (.aload_n 0, 1) := by decide +kernel
theorem dX2_readOr_33 : decode cX2_readOr 33 = .ok (.bipush (-27), 2) := by decide +kernel
theorem dX2_readOr_35 : decode cX2_readOr 35 = .ok (.invokevirtual 58, 3) := by decide +kernel
theorem dX2_readOr_38 : decode cX2_readOr 38 = .ok (.iinc 2 1, 3) := by decide +kernel
theorem dX2_readOr_41 : decode cX2_readOr 41 = .ok (.goto (-34), 3) := by decide +kernel
theorem dX2_readOr_44 : decode cX2_readOr 44 = .ok (.return_, 1) := by decide +kernel
theorem dX2_readAnd_0 : decode cX2_readAnd 0 = .ok (.aload_n 0, 1) := by decide +kernel
theorem dX2_readAnd_1 : decode cX2_readAnd 1 = .ok (.iload_n 1, 1) := by decide +kernel
theorem dX2_readAnd_2 : decode cX2_readAnd 2 = .ok (.invokevirtual 61, 3) := by decide +kernel
theorem dX2_readAnd_5 : decode cX2_readAnd 5 = .ok (.iconst 0, 1) := by decide +kernel
theorem dX2_readAnd_6 : decode cX2_readAnd 6 = .ok (.istore_n 2, 1) := by decide +kernel
theorem dX2_readAnd_7 : decode cX2_readAnd 7 = .ok (.iload_n 2, 1) := by decide +kernel
theorem dX2_readAnd_8 : decode cX2_readAnd 8 = .ok (.sipush 160, 3) := by decide +kernel
theorem dX2_readAnd_11 : decode cX2_readAnd 11 = .ok (.if_icmp .ge 33, 3) := by decide +kernel
theorem dX2_readAnd_14 : decode cX2_readAnd 14 = .ok (.aload_n 0, 1) := by decide +kernel
theorem dX2_readAnd_15 : decode cX2_readAnd 15 = .ok (.getfield 44, 3) := by decide +kernel
theorem dX2_readAnd_18 : decode cX2_readAnd 18 = .ok (.bipush 8, 2) := by decide +kernel
theorem dX2_readAnd_20 : decode cX2_readAnd 20 = .ok (.if_icmp .ne 24, 3) := by decide +kernel
theorem dX2_readAnd_23 : decode cX2_readAnd 23 = .ok (.aload_n 0, 1) := by decide +kernel
theorem dX2_readAnd_24 : decode cX2_readAnd 24 = .ok (.invokevirtual 34, 3) := by decide +kernel
theorem dX2_readAnd_27 : decode cX2_readAnd 27 = .ok (.aload_n 0, 1) := by decide +kernel
theorem dX2_readAnd_28 : decode cX2_readAnd 28 = .ok (.iload_n 1, 1) := by decide +kernel
theorem dX2_readAnd_29 : decode cX2_readAnd 29 = .ok (.invokevirtual 61, 3) := by decide +kernel
theorem dX2_readAnd_32 : decode cX2_readAnd 32 = .ok (.aload_n 0, 1) := by decide +kernel
theorem dX2_readAnd_33 : decode cX2_readAnd 33 = .ok (.bipush (-26), 2) := by decide +kernel
theorem dX2_readAnd_35 : decode cX2_readAnd 35 = .ok (.invokevirtual 58, 3) := by decide +kernel
theorem dX2_readAnd_38 : decode cX2_readAnd 38 = .ok (.iinc 2 1, 3) := by decide +kernel
theorem dX2_readAnd_41 : decode cX2_readAnd 41 = .ok (.goto (-34), 3) := by decide +kernel
theorem dX2_readAnd_44 : decode cX2_readAnd 44 = .ok (.return_, 1) := by decide +kernel
theorem dX2_readNot_0 : decode cX2_readNot 0 = .ok (.aload_n 0, 1) := by decide +kernel
theorem dX2_readNot_1 : decode cX2_readNot 1 = .ok (.getfield 44, 3) := by decide +kernel
theorem dX2_readNot_4 : decode cX2_readNot 4 = .ok (.bipush 9, 2) := by decide +kernel
theorem dX2_readNot_6 : decode cX2_readNot 6 = .ok (.if_icmp .ne 25, 3) := by decide +kernel
theorem dX2_readNot_9 : decode cX2_readNot 9 = .ok (.aload_n 0, 1) := by decide +kernel
theorem dX2_readNot_10 : decode cX2_readNot 10 = .ok (.iload_n 1, 1) := by decide +kernel
theorem dX2_readNot_11 : decode cX2_readNot 11 = .ok (.invokevirtual 64, 3) := by decide +kernel
theorem dX2_readNot_14 : decode cX2_readNot 14 = .ok (.ifCond .eq 16, 3) := by decide +kernel
theorem dX2_readNot_17 : decode cX2_readNot 17 = .ok (.aload_n 0, 1) := by decide +kernel
theorem dX2_readNot_18 : decode cX2_readNot 18 = .ok (.iload_n 1, 1) := by decide +kernel
theorem dX2_readNot_19 : decode cX2_readNot 19 = .ok (.iconst 1, 1) := by decide +kernel
theorem dX2_readNot_20 : decode cX2_readNot 20 = .ok (.iadd, 1) := by decide +kernel
theorem dX2_readNot_21 : decode cX2_readNot 21 = .ok (.invokevirtual 61, 3) := by decide +kernel
theorem dX2_readNot_24 : decode cX2_readNot 24 = .ok (.aload_n 0, 1) := by decide +kernel
theorem dX2_readNot_25 : decode cX2_readNot 25 = .ok (.bipush (-12), 2) := by decide +kernel
theorem dX2_readNot_27 : decode cX2_readNot 27 = .ok (.invokevirtual 58, 3) := by decide +kernel
theorem dX2_readNot_30 : decode cX2_readNot 30 = .ok (.return_, 1) := by decide +kernel
theorem dX2_readNot_31 : decode cX2_readNot 31 = .ok (.aload_n 0, 1) := by decide +kernel
theorem dX2_readNot_32 : decode cX2_readNot 32 = .ok (.iload_n 1, 1) := by decide +kernel
theorem dX2_readNot_33 : decode cX2_readNot 33 = .ok (.invokevirtual 68, 3) := by decide +kernel
theorem dX2_readNot_36 : decode cX2_readNot 36 = .ok (.aload_n 0, 1) := by decide +kernel
theorem dX2_readNot_37 : decode cX2_readNot 37 = .ok (.getfield 44, 3) := by decide +kernel
theorem dX2_readNot_40 : decode cX2_readNot 40 = .ok (.bipush 60, 2) := by decide +kernel
theorem dX2_readNot_42 : decode cX2_readNot 42 = .ok (.if_icmp .eq 12, 3) := by decide +kernel
theorem dX2_readNot_45 : decode cX2_readNot 45 = .ok (.aload_n 0, 1) := by decide +kernel
theorem dX2_readNot_46 : decode cX2_readNot 46 = .ok (.getfield 44, 3) := by decide +kernel
theorem dX2_readNot_49 : decode cX2_readNot 49 = .ok (.bipush 61, 2) := by decide +kernel
theorem dX2_readNot_51 : decode cX2_readNot 51 = .ok (.if_icmp .ne 34, 3) := by decide +kernel
theorem dX2_readNot_54 : decode cX2_readNot 54 = .ok (.aload_n 0, 1) := by decide +kernel
theorem dX2_readNot_55 : decode cX2_readNot 55 = .ok (.getfield 44, 3) := by decide +kernel
theorem dX2_readNot_58 : decode cX2_readNot 58 = .ok (.bipush 60, 2) := by decide +kernel
theorem dX2_readNot_60 : decode cX2_readNot 60 = .ok (.if_icmp .ne 8, 3) := by decide +kernel
theorem dX2_readNot_63 : decode cX2_readNot 63 = .ok (.bipush (-24), 2) := by decide +kernel
theorem dX2_readNot_65 : decode cX2_readNot 65 = .ok (.goto 5, 3) := by decide +kernel
theorem dX2_readNot_68 : decode cX2_readNot 68 = .ok (.bipush (-25), 2) := by decide +kernel
theorem dX2_readNot_70 : decode cX2_readNot 70 = .ok (.istore_n 2, 1) := by decide +kernel
theorem dX2_readNot_71 : decode cX2_readNot 71 = .ok (.aload_n 0, 1) := by decide +kernel
theorem dX2_readNot_72 : decode cX2_readNot 72 = .ok (.invokevirtual 34, 3) := by decide +kernel
theorem dX2_readNot_75 : decode cX2_readNot 75 = .ok (.aload_n 0, 1) := by decide +kernel
theorem dX2_readNot_76 : decode cX2_readNot 76 = .ok (.iload_n 1, 1) := by decide +kernel
theorem dX2_readNot_77 : decode cX2_readNot 77 = .ok (.invokevirtual 68, 3) := by decide +kernel
theorem dX2_readNot_80 : decode cX2_readNot 80 = .ok (.aload_n 0, 1) := by decide +kernel
theorem dX2_readNot_81 : decode cX2_readNot 81 = .ok (.iload_n 2, 1) := by decide +kernel
theorem dX2_readNot_82 : decode cX2_readNot 82 = .ok (.invokevirtual 58, 3) := by decide +kernel
theorem dX2_readNot_85 : decode cX2_readNot 85 = .ok (.return_, 1) := by decide +kernel
theorem dX2_readSum_0 : decode cX2_readSum 0 = .ok (.aload_n 0, 1) := by decide +kernel
theorem dX2_readSum_1 : decode cX2_readSum 1 = .ok (.iload_n 1, 1) := by decide +kernel
theorem dX2_readSum_2 : decode cX2_readSum 2 = .ok (.invokevirtual 71, 3) := by decide +kernel
theorem dX2_readSum_5 : decode cX2_readSum 5 = .ok (.iconst 0, 1) := by decide +kernel
theorem dX2_readSum_6 : decode cX2_readSum 6 = .ok (.istore_n 2, 1) := by decide +kernel
theorem dX2_readSum_7 : decode cX2_readSum 7 = .ok (.iload_n 2, 1) := by decide +kernel
theorem dX2_readSum_8 : decode cX2_readSum 8 = .ok (.sipush 160, 3) := by decide +kernel
theorem dX2_readSum_11 : decode cX2_readSum 11 = .ok (.if_icmp .ge 58, 3) := by decide +kernel
theorem dX2_readSum_14 : decode cX2_readSum 14 = .ok (.aload_n 0, 1) := by decide +kernel
theorem dX2_readSum_15 : decode cX2_readSum 15 = .ok (.getfield 44, 3) := by decide +kernel
theorem dX2_readSum_18 : decode cX2_readSum 18 = .ok (.bipush 43, 2) := by decide +kernel
theorem dX2_readSum_20 : decode cX2_readSum 20 = .ok (.if_icmp .eq 12, 3) := by decide +kernel
theorem dX2_readSum_23 : decode cX2_readSum 23 = .ok (.aload_n 0, 1) := by decide +kernel
theorem dX2_readSum_24 : decode cX2_readSum 24 = .ok (.getfield 44, 3) := by decide +kernel
theorem dX2_readSum_27 : decode cX2_readSum 27 = .ok (.bipush 45, 2) := by decide +kernel
theorem dX2_readSum_29 : decode cX2_readSum 29 = .ok (.if_icmp .ne 40, 3) := by decide +kernel
theorem dX2_readSum_32 : decode cX2_readSum 32 = .ok (.aload_n 0, 1) := by decide +kernel
theorem dX2_readSum_33 : decode cX2_readSum 33 = .ok (.getfield 44, 3) := by decide +kernel
theorem dX2_readSum_36 : decode cX2_readSum 36 = .ok (.bipush 43, 2) := by decide +kernel
theorem dX2_readSum_38 : decode cX2_readSum 38 = .ok (.if_icmp .ne 8, 3) := by decide +kernel
theorem dX2_readSum_41 : decode cX2_readSum 41 = .ok (.bipush (-21), 2) := by decide +kernel
theorem dX2_readSum_43 : decode cX2_readSum 43 = .ok (.goto 5, 3) := by decide +kernel
theorem dX2_readSum_46 : decode cX2_readSum 46 = .ok (.bipush (-22), 2) := by decide +kernel
theorem dX2_readSum_48 : decode cX2_readSum 48 = .ok (.istore_n 3, 1) := by decide +kernel
theorem dX2_readSum_49 : decode cX2_readSum 49 = .ok (.aload_n 0, 1) := by decide +kernel
theorem dX2_readSum_50 : decode cX2_readSum 50 = .ok (.invokevirtual 34, 3) := by decide +kernel
theorem dX2_readSum_53 : decode cX2_readSum 53 = .ok (.aload_n 0, 1) := by decide +kernel
theorem dX2_readSum_54 : decode cX2_readSum 54 = .ok (.iload_n 1, 1) := by decide +kernel
theorem dX2_readSum_55 : decode cX2_readSum 55 = .ok (.invokevirtual 71, 3) := by decide +kernel
theorem dX2_readSum_58 : decode cX2_readSum 58 = .ok (.aload_n 0, 1) := by decide +kernel
theorem dX2_readSum_59 : decode cX2_readSum 59 = .ok (.iload_n 3, 1) := by decide +kernel
theorem dX2_readSum_60 : decode cX2_readSum 60 = .ok (.invokevirtual 58, 3) := by decide +kernel
theorem dX2_readSum_63 : decode cX2_readSum 63 = .ok (.iinc 2 1, 3) := by decide +kernel
theorem dX2_readSum_66 : decode cX2_readSum 66 = .ok (.goto (-59), 3) := by decide +kernel
theorem dX2_readSum_69 : decode cX2_readSum 69 = .ok (.return_, 1) := by decide +kernel
theorem dX2_readTerm_0 : decode cX2_readTerm 0 = .ok (.aload_n 0, 1) := by decide +kernel
theorem dX2_readTerm_1 : decode cX2_readTerm 1 = .ok (.iload_n 1, 1) := by decide +kernel
theorem dX2_readTerm_2 : decode cX2_readTerm 2 = .ok (.invokevirtual 74, 3) := by decide +kernel
theorem dX2_readTerm_5 : decode cX2_readTerm 5 = .ok (.iconst 0, 1) := by decide +kernel
theorem dX2_readTerm_6 : decode cX2_readTerm 6 = .ok (.istore_n 2, 1) := by decide +kernel
theorem dX2_readTerm_7 : decode cX2_readTerm 7 = .ok (.iload_n 2, 1) := by decide +kernel
theorem dX2_readTerm_8 : decode cX2_readTerm 8 = .ok (.sipush 160, 3) := by decide +kernel
theorem dX2_readTerm_11 : decode cX2_readTerm 11 = .ok (.if_icmp .ge 33, 3) := by decide +kernel
theorem dX2_readTerm_14 : decode cX2_readTerm 14 = .ok (.aload_n 0, 1) := by decide +kernel
theorem dX2_readTerm_15 : decode cX2_readTerm 15 = .ok (.getfield 44, 3) := by decide +kernel
theorem dX2_readTerm_18 : decode cX2_readTerm 18 = .ok (.bipush 42, 2) := by decide +kernel
theorem dX2_readTerm_20 : decode cX2_readTerm 20 = .ok (.if_icmp .ne 24, 3) := by decide +kernel
theorem dX2_readTerm_23 : decode cX2_readTerm 23 = .ok (.aload_n 0, 1) := by decide +kernel
theorem dX2_readTerm_24 : decode cX2_readTerm 24 = .ok (.invokevirtual 34, 3) := by decide +kernel
theorem dX2_readTerm_27 : decode cX2_readTerm 27 = .ok (.aload_n 0, 1) := by decide +kernel
theorem dX2_readTerm_28 : decode cX2_readTerm 28 = .ok (.iload_n 1, 1) := by decide +kernel
theorem dX2_readTerm_29 : decode cX2_readTerm 29 = .ok (.invokevirtual 74, 3) := by decide +kernel
theorem dX2_readTerm_32 : decode cX2_readTerm 32 = .ok (.aload_n 0, 1) := by decide +kernel
theorem dX2_readTerm_33 : decode cX2_readTerm 33 = .ok (.bipush (-23), 2) := by decide +kernel
theorem dX2_readTerm_35 : decode cX2_readTerm 35 = .ok (.invokevirtual 58, 3) := by decide +kernel
theorem dX2_readTerm_38 : decode cX2_readTerm 38 = .ok (.iinc 2 1, 3) := by decide +kernel
theorem dX2_readTerm_41 : decode cX2_readTerm 41 = .ok (.goto (-34), 3) := by decide +kernel
theorem dX2_readTerm_44 : decode cX2_readTerm 44 = .ok (.return_, 1) := by decide +kernel
theorem dX2_readOne_0 : decode cX2_readOne 0 = .ok (.aload_n 0, 1) := by decide +kernel
theorem dX2_readOne_1 : decode cX2_readOne 1 = .ok (.getfield 44, 3) := by decide +kernel
theorem dX2_readOne_4 : decode cX2_readOne 4 = .ok (.iconst 2, 1) := by decide +kernel
theorem dX2_readOne_5 : decode cX2_readOne 5 = .ok (.if_icmp .eq 11, 3) := by decide +kernel
theorem dX2_readOne_8 : decode cX2_readOne 8 = .ok (.aload_n 0, 1) := by decide +kernel
theorem dX2_readOne_9 : decode cX2_readOne 9 = .ok (.getfield 44, 3) := by decide +kernel
theorem dX2_readOne_12 : decode cX2_readOne 12 = .ok (.iconst 3, 1) := by decide +kernel
theorem dX2_readOne_13 : decode cX2_readOne 13 = .ok (.if_icmp .ne 36, 3) := by decide +kernel
theorem dX2_readOne_16 : decode cX2_readOne 16 = .ok (.aload_n 0, 1) := by decide +kernel
theorem dX2_readOne_17 : decode cX2_readOne 17 = .ok (.aload_n 0, 1) := by decide +kernel
theorem dX2_readOne_18 : decode cX2_readOne 18 = .ok (.getfield 44, 3) := by decide +kernel
theorem dX2_readOne_21 : decode cX2_readOne 21 = .ok (.iconst 2, 1) := by decide +kernel
theorem dX2_readOne_22 : decode cX2_readOne 22 = .ok (.if_icmp .ne 10, 3) := by decide +kernel
theorem dX2_readOne_25 : decode cX2_readOne 25 = .ok (.aload_n 0, 1) := by decide +kernel
theorem dX2_readOne_26 : decode cX2_readOne 26 = .ok (.getfield 77, 3) := by decide +kernel
theorem dX2_readOne_29 : decode cX2_readOne 29 = .ok (.goto 10, 3) := by decide +kernel
theorem dX2_readOne_32 : decode cX2_readOne 32 = .ok (.aload_n 0, 1) := by decide +kernel
theorem dX2_readOne_33 : decode cX2_readOne 33 = .ok (.getfield 77, 3) := by decide +kernel
theorem dX2_readOne_36 : decode cX2_readOne 36 = .ok (.invokestatic 80, 3) := by decide +kernel
theorem dX2_readOne_39 : decode cX2_readOne 39 = .ok (.invokevirtual 58, 3) := by decide +kernel
theorem dX2_readOne_42 : decode cX2_readOne 42 = .ok (.aload_n 0, 1) := by decide +kernel
theorem dX2_readOne_43 : decode cX2_readOne 43 = .ok (.invokevirtual 34, 3) := by decide +kernel
theorem dX2_readOne_46 : decode cX2_readOne 46 = .ok (.goto 73, 3) := by decide +kernel
theorem dX2_readOne_49 : decode cX2_readOne 49 = .ok (.aload_n 0, 1) := by decide +kernel
theorem dX2_readOne_50 : decode cX2_readOne 50 = .ok (.getfield 44, 3) := by decide +kernel
theorem dX2_readOne_53 : decode cX2_readOne 53 = .ok (.bipush 45, 2) := by decide +kernel
theorem dX2_readOne_55 : decode cX2_readOne 55 = .ok (.if_icmp .ne 27, 3) := by decide +kernel
theorem dX2_readOne_58 : decode cX2_readOne 58 = .ok (.aload_n 0, 1) := by decide +kernel
theorem dX2_readOne_59 : decode cX2_readOne 59 = .ok (.iload_n 1, 1) := by decide +kernel
theorem dX2_readOne_60 : decode cX2_readOne 60 = .ok (.invokevirtual 64, 3) := by decide +kernel
theorem dX2_readOne_63 : decode cX2_readOne 63 = .ok (.ifCond .eq 56, 3) := by decide +kernel
theorem dX2_readOne_66 : decode cX2_readOne 66 = .ok (.aload_n 0, 1) := by decide +kernel
theorem dX2_readOne_67 : decode cX2_readOne 67 = .ok (.iload_n 1, 1) := by decide +kernel
theorem dX2_readOne_68 : decode cX2_readOne 68 = .ok (.iconst 1, 1) := by decide +kernel
theorem dX2_readOne_69 : decode cX2_readOne 69 = .ok (.iadd, 1) := by decide +kernel
theorem dX2_readOne_70 : decode cX2_readOne 70 = .ok (.invokevirtual 74, 3) := by decide +kernel
theorem dX2_readOne_73 : decode cX2_readOne 73 = .ok (.aload_n 0, 1) := by decide +kernel
theorem dX2_readOne_74 : decode cX2_readOne 74 = .ok (.bipush (-11), 2) := by decide +kernel
theorem dX2_readOne_76 : decode cX2_readOne 76 = .ok (.invokevirtual 58, 3) := by decide +kernel
theorem dX2_readOne_79 : decode cX2_readOne 79 = .ok (.goto 40, 3) := by decide +kernel
theorem dX2_readOne_82 : decode cX2_readOne 82 = .ok (.aload_n 0, 1) := by decide +kernel
theorem dX2_readOne_83 : decode cX2_readOne 83 = .ok (.getfield 44, 3) := by decide +kernel
theorem dX2_readOne_86 : decode cX2_readOne 86 = .ok (.bipush 40, 2) := by decide +kernel
theorem dX2_readOne_88 : decode cX2_readOne 88 = .ok (.if_icmp .ne 27, 3) := by decide +kernel
theorem dX2_readOne_91 : decode cX2_readOne 91 = .ok (.aload_n 0, 1) := by decide +kernel
theorem dX2_readOne_92 : decode cX2_readOne 92 = .ok (.iload_n 1, 1) := by decide +kernel
theorem dX2_readOne_93 : decode cX2_readOne 93 = .ok (.invokevirtual 64, 3) := by decide +kernel
theorem dX2_readOne_96 : decode cX2_readOne 96 = .ok (.ifCond .eq 23, 3) := by decide +kernel
theorem dX2_readOne_99 : decode cX2_readOne 99 = .ok (.aload_n 0, 1) := by decide +kernel
theorem dX2_readOne_100 : decode cX2_readOne 100 = .ok (.iload_n 1, 1) := by decide +kernel
theorem dX2_readOne_101 : decode cX2_readOne 101 = .ok (.iconst 1, 1) := by decide +kernel
theorem dX2_readOne_102 : decode cX2_readOne 102 = .ok (.iadd, 1) := by decide +kernel
theorem dX2_readOne_103 : decode cX2_readOne 103 = .ok (.invokevirtual 41, 3) := by decide +kernel
theorem dX2_readOne_106 : decode cX2_readOne 106 = .ok (.aload_n 0, 1) := by decide +kernel
theorem dX2_readOne_107 : decode cX2_readOne 107 = .ok (.bipush 41, 2) := by decide +kernel
theorem dX2_readOne_109 : decode cX2_readOne 109 = .ok (.invokevirtual 37, 3) := by decide +kernel
theorem dX2_readOne_112 : decode cX2_readOne 112 = .ok (.goto 7, 3) := by decide +kernel
theorem dX2_readOne_115 : decode cX2_readOne 115 = .ok (.aload_n 0, 1) := by decide +kernel
theorem dX2_readOne_116 : decode cX2_readOne 116 = .ok (.invokevirtual 47, 3) := by decide +kernel
theorem dX2_readOne_119 : decode cX2_readOne 119 = .ok (.return_, 1) := by decide +kernel
theorem dX2_opens_0 : decode cX2_opens 0 = .ok (.iload_n 1, 1) := by decide +kernel
theorem dX2_opens_1 : decode cX2_opens 1 = .ok (.iconst 5, 1) := by decide +kernel
theorem dX2_opens_2 : decode cX2_opens 2 = .ok (.if_icmp .lt 9, 3) := by decide +kernel
theorem dX2_opens_5 : decode cX2_opens 5 = .ok (.aload_n 0, 1) := by decide +kernel
theorem dX2_opens_6 : decode cX2_opens 6 = .ok (.invokevirtual 47, 3) := by decide +kernel
theorem dX2_opens_9 : decode cX2_opens 9 = .ok (.iconst 0, 1) := by decide +kernel
theorem dX2_opens_10 : decode cX2_opens 10 = .ok (.ireturn, 1) := by decide +kernel
theorem dX2_opens_11 : decode cX2_opens 11 = .ok (.aload_n 0, 1) := by decide +kernel
theorem dX2_opens_12 : decode cX2_opens 12 = .ok (.invokevirtual 34, 3) := by decide +kernel
theorem dX2_opens_15 : decode cX2_opens 15 = .ok (.iconst 1, 1) := by decide +kernel
theorem dX2_opens_16 : decode cX2_opens 16 = .ok (.ireturn, 1) := by decide +kernel
theorem dX2_readToken_0 : decode cX2_readToken 0 = .ok (.aload_n 0, 1) := by decide +kernel
theorem dX2_readToken_1 : decode cX2_readToken 1 = .ok (.getfield 25, 3) := by decide +kernel
theorem dX2_readToken_4 : decode cX2_readToken 4 = .ok (.istore_n 1, 1) := by decide +kernel
theorem dX2_readToken_5 : decode cX2_readToken 5 = .ok (.iload_n 1, 1) := by decide +kernel
theorem dX2_readToken_6 : decode cX2_readToken 6 = .ok (.aload_n 0, 1) := by decide +kernel
theorem dX2_readToken_7 : decode cX2_readToken 7 = .ok (.getfield 21, 3) := by decide +kernel
theorem dX2_readToken_10 : decode cX2_readToken 10 = .ok (.if_icmp .ge 27, 3) := by decide +kernel
theorem dX2_readToken_13 : decode cX2_readToken 13 = .ok (.aload_n 0, 1) := by decide +kernel
theorem dX2_readToken_14 : decode cX2_readToken 14 = .ok (.iload_n 1, 1) := by decide +kernel
theorem dX2_readToken_15 : decode cX2_readToken 15 = .ok (.invokevirtual 84, 3) := by decide +kernel
theorem dX2_readToken_18 : decode cX2_readToken 18 = .ok (.invokestatic 87, 3) := by decide +kernel
theorem dX2_readToken_21 : decode cX2_readToken 21 = .ok (.ifCond .eq 16, 3) := by decide +kernel
theorem dX2_readToken_24 : decode cX2_readToken 24 = .ok (.aload_n 0, 1) := by decide +kernel
theorem dX2_readToken_25 : decode cX2_readToken 25 = .ok (.iload_n 1, 1) := by decide +kernel
theorem dX2_readToken_26 : decode cX2_readToken 26 = .ok (.iconst 1, 1) := by decide +kernel
theorem dX2_readToken_27 : decode cX2_readToken 27 = .ok (.iadd, 1) := by decide +kernel
theorem dX2_readToken_28 : decode cX2_readToken 28 = .ok (.putfield 25, 3) := by decide +kernel
theorem dX2_readToken_31 : decode cX2_readToken 31 = .ok (.iinc 1 1, 3) := by decide +kernel
theorem dX2_readToken_34 : decode cX2_readToken 34 = .ok (.goto (-29), 3) := by decide +kernel
theorem dX2_readToken_37 : decode cX2_readToken 37 = .ok (.aload_n 0, 1) := by decide +kernel
theorem dX2_readToken_38 : decode cX2_readToken 38 = .ok (.aload_n 0, 1) := by decide +kernel
theorem dX2_readToken_39 : decode cX2_readToken 39 = .ok (.getfield 25, 3) := by decide +kernel
theorem dX2_readToken_42 : decode cX2_readToken 42 = .ok (.putfield 50, 3) := by decide +kernel
theorem dX2_readToken_45 : decode cX2_readToken 45 = .ok (.aload_n 0, 1) := by decide +kernel
theorem dX2_readToken_46 : decode cX2_readToken 46 = .ok (.aload_n 0, 1) := by decide +kernel
theorem dX2_readToken_47 : decode cX2_readToken 47 = .ok (.getfield 50, 3) := by decide +kernel
theorem dX2_readToken_50 : decode cX2_readToken 50 = .ok (.invokevirtual 84, 3) := by decide +kernel
theorem dX2_readToken_53 : decode cX2_readToken 53 = .ok (.istore_n 1, 1) := by decide +kernel
theorem dX2_readToken_54 : decode cX2_readToken 54 = .ok (.aload_n 0, 1) := by decide +kernel
theorem dX2_readToken_55 : decode cX2_readToken 55 = .ok (.getfield 50, 3) := by decide +kernel
theorem dX2_readToken_58 : decode cX2_readToken 58 = .ok (.aload_n 0, 1) := by decide +kernel
theorem dX2_readToken_59 : decode cX2_readToken 59 = .ok (.getfield 21, 3) := by decide +kernel
theorem dX2_readToken_62 : decode cX2_readToken 62 = .ok (.if_icmp .lt 11, 3) := by decide +kernel
theorem dX2_readToken_65 : decode cX2_readToken 65 = .ok (.aload_n 0, 1) := by decide +kernel
theorem dX2_readToken_66 : decode cX2_readToken 66 = .ok (.iconst 0, 1) := by decide +kernel
theorem dX2_readToken_67 : decode cX2_readToken 67 = .ok (.putfield 44, 3) := by decide +kernel
theorem dX2_readToken_70 : decode cX2_readToken 70 = .ok (.goto 89, 3) := by decide +kernel
theorem dX2_readToken_73 : decode cX2_readToken 73 = .ok (.iload_n 1, 1) := by decide +kernel
theorem dX2_readToken_74 : decode cX2_readToken 74 = .ok (.invokestatic 90, 3) := by decide +kernel
theorem dX2_readToken_77 : decode cX2_readToken 77 = .ok (.ifCond .eq 42, 3) := by decide +kernel
theorem dX2_readToken_80 : decode cX2_readToken 80 = .ok (.aload_n 0, 1) := by decide +kernel
theorem dX2_readToken_81 : decode cX2_readToken 81 = .ok (.aload_n 0, 1) := by decide +kernel
theorem dX2_readToken_82 : decode cX2_readToken 82 = .ok (.invokevirtual 93, 3) := by decide +kernel
theorem dX2_readToken_85 : decode cX2_readToken 85 = .ok (.putfield 25, 3) := by decide +kernel
theorem dX2_readToken_88 : decode cX2_readToken 88 = .ok (.aload_n 0, 1) := by decide +kernel
theorem dX2_readToken_89 : decode cX2_readToken 89 = .ok (.aload_n 0, 1) := by decide +kernel
theorem dX2_readToken_90 : decode cX2_readToken 90 = .ok (.invokevirtual 97, 3) := by decide +kernel
theorem dX2_readToken_93 : decode cX2_readToken 93 = .ok (.putfield 77, 3) := by decide +kernel
theorem dX2_readToken_96 : decode cX2_readToken 96 = .ok (.aload_n 0, 1) := by decide +kernel
theorem dX2_readToken_97 : decode cX2_readToken 97 = .ok (.aload_n 0, 1) := by decide +kernel
theorem dX2_readToken_98 : decode cX2_readToken 98 = .ok (.getfield 77, 3) := by decide +kernel
theorem dX2_readToken_101 : decode cX2_readToken 101 = .ok (.iconst (-1), 1) := by decide +kernel
theorem dX2_readToken_102 : decode cX2_readToken 102 = .ok (.if_icmp .ne 10, 3) := by decide +kernel
theorem dX2_readToken_105 : decode cX2_readToken 105 = .ok (.aload_n 0, 1) := by decide +kernel
theorem dX2_readToken_106 : decode cX2_readToken 106 = .ok (.invokevirtual 100, 3) := by decide +kernel
theorem dX2_readToken_109 : decode cX2_readToken 109 = .ok (.goto 4, 3) := by decide +kernel
theorem dX2_readToken_112 : decode cX2_readToken 112 = .ok (.iconst 3, 1) := by decide +kernel
theorem dX2_readToken_113 : decode cX2_readToken 113 = .ok (.putfield 44, 3) := by decide +kernel
theorem dX2_readToken_116 : decode cX2_readToken 116 = .ok (.goto 43, 3) := by decide +kernel
theorem dX2_readToken_119 : decode cX2_readToken 119 = .ok (.iload_n 1, 1) := by decide +kernel
theorem dX2_readToken_120 : decode cX2_readToken 120 = .ok (.invokestatic 103, 3) := by decide +kernel
theorem dX2_readToken_123 : decode cX2_readToken 123 = .ok (.ifCond .eq 10, 3) := by decide +kernel
theorem dX2_readToken_126 : decode cX2_readToken 126 = .ok (.aload_n 0, 1) := by decide +kernel
theorem dX2_readToken_127 : decode cX2_readToken 127 = .ok (.invokevirtual 106, 3) := by decide +kernel
theorem dX2_readToken_130 : decode cX2_readToken 130 = .ok (.goto 29, 3) := by decide +kernel
theorem dX2_readToken_133 : decode cX2_readToken 133 = .ok (.aload_n 0, 1) := by decide +kernel
theorem dX2_readToken_134 : decode cX2_readToken 134 = .ok (.aload_n 0, 1) := by decide +kernel
theorem dX2_readToken_135 : decode cX2_readToken 135 = .ok (.getfield 50, 3) := by decide +kernel
theorem dX2_readToken_138 : decode cX2_readToken 138 = .ok (.iconst 1, 1) := by decide +kernel
theorem dX2_readToken_139 : decode cX2_readToken 139 = .ok (.iadd, 1) := by decide +kernel
theorem dX2_readToken_140 : decode cX2_readToken 140 = .ok (.putfield 25, 3) := by decide +kernel
theorem dX2_readToken_143 : decode cX2_readToken 143 = .ok (.aload_n 0, 1) := by decide +kernel
theorem dX2_readToken_144 : decode cX2_readToken 144 = .ok (.iload_n 1, 1) := by decide +kernel
theorem dX2_readToken_145 : decode cX2_readToken 145 = .ok (.invokestatic 109, 3) := by decide +kernel
theorem dX2_readToken_148 : decode cX2_readToken 148 = .ok (.ifCond .eq 7, 3) := by decide +kernel
theorem dX2_readToken_151 : decode cX2_readToken 151 = .ok (.iload_n 1, 1) := by decide +kernel
theorem dX2_readToken_152 : decode cX2_readToken 152 = .ok (.goto 4, 3) := by decide +kernel
theorem dX2_readToken_155 : decode cX2_readToken 155 = .ok (.iconst 1, 1) := by decide +kernel
theorem dX2_readToken_156 : decode cX2_readToken 156 = .ok (.putfield 44, 3) := by decide +kernel
theorem dX2_readToken_159 : decode cX2_readToken 159 = .ok (.return_, 1) := by decide +kernel
theorem dX2_endOfWord_0 : decode cX2_endOfWord 0 = .ok (.aload_n 0, 1) := by decide +kernel
theorem dX2_endOfWord_1 : decode cX2_endOfWord 1 = .ok (.getfield 50, 3) := by decide +kernel
theorem dX2_endOfWord_4 : decode cX2_endOfWord 4 = .ok (.istore_n 1, 1) := by decide +kernel
theorem dX2_endOfWord_5 : decode cX2_endOfWord 5 = .ok (.aload_n 0, 1) := by decide +kernel
theorem dX2_endOfWord_6 : decode cX2_endOfWord 6 = .ok (.getfield 50, 3) := by decide +kernel
theorem dX2_endOfWord_9 : decode cX2_endOfWord 9 = .ok (.istore_n 2, 1) := by decide +kernel
theorem dX2_endOfWord_10 : decode cX2_endOfWord 10 = .ok (.iload_n 2, 1) := by decide +kernel
theorem dX2_endOfWord_11 : decode cX2_endOfWord 11 = .ok (.aload_n 0, 1) := by decide +kernel
theorem dX2_endOfWord_12 : decode cX2_endOfWord 12 = .ok (.getfield 21, 3) := by decide +kernel
theorem dX2_endOfWord_15 : decode cX2_endOfWord 15 = .ok (.if_icmp .ge 24, 3) := by decide +kernel
theorem dX2_endOfWord_18 : decode cX2_endOfWord 18 = .ok (.aload_n 0, 1) := by decide +kernel
theorem dX2_endOfWord_19 : decode cX2_endOfWord 19 = .ok (.iload_n 2, 1) := by decide +kernel
theorem dX2_endOfWord_20 : decode cX2_endOfWord 20 = .ok (.invokevirtual 84, 3) := by decide +kernel
theorem dX2_endOfWord_23 : decode cX2_endOfWord 23 = .ok (.invokestatic 90, 3) := by decide +kernel
theorem dX2_endOfWord_26 : decode cX2_endOfWord 26 = .ok (.ifCond .eq 13, 3) := by decide +kernel
theorem dX2_endOfWord_29 : decode cX2_endOfWord 29 = .ok (.iload_n 2, 1) := by decide +kernel
theorem dX2_endOfWord_30 : decode cX2_endOfWord 30 = .ok (.iconst 1, 1) := by decide +kernel
theorem dX2_endOfWord_31 : decode cX2_endOfWord 31 = .ok (.iadd, 1) := by decide +kernel
theorem dX2_endOfWord_32 : decode cX2_endOfWord 32 = .ok (.istore_n 1, 1) := by decide +kernel
theorem dX2_endOfWord_33 : decode cX2_endOfWord 33 = .ok (.iinc 2 1, 3) := by decide +kernel
theorem dX2_endOfWord_36 : decode cX2_endOfWord 36 = .ok (.goto (-26), 3) := by decide +kernel
theorem dX2_endOfWord_39 : decode cX2_endOfWord 39 = .ok (.iload_n 1, 1) := by decide +kernel
theorem dX2_endOfWord_40 : decode cX2_endOfWord 40 = .ok (.ireturn, 1) := by decide +kernel
theorem dX2_readNumber_0 : decode cX2_readNumber 0 = .ok (.aload_n 0, 1) := by decide +kernel
theorem dX2_readNumber_1 : decode cX2_readNumber 1 = .ok (.iconst 0, 1) := by decide +kernel
theorem dX2_readNumber_2 : decode cX2_readNumber 2 = .ok (.putfield 77, 3) := by decide +kernel
theorem dX2_readNumber_5 : decode cX2_readNumber 5 = .ok (.aload_n 0, 1) := by decide +kernel
theorem dX2_readNumber_6 : decode cX2_readNumber 6 = .ok (.getfield 50, 3) := by decide +kernel
theorem dX2_readNumber_9 : decode cX2_readNumber 9 = .ok (.istore_n 1, 1) := by decide +kernel
theorem dX2_readNumber_10 : decode cX2_readNumber 10 = .ok (.iload_n 1, 1) := by decide +kernel
theorem dX2_readNumber_11 : decode cX2_readNumber 11 = .ok (.aload_n 0, 1) := by decide +kernel
theorem dX2_readNumber_12 : decode cX2_readNumber 12 = .ok (.getfield 21, 3) := by decide +kernel
theorem dX2_readNumber_15 : decode cX2_readNumber 15 = .ok (.if_icmp .ge 47, 3) := by decide +kernel
theorem dX2_readNumber_18 : decode cX2_readNumber 18 = .ok (.aload_n 0, 1) := by decide +kernel
theorem dX2_readNumber_19 : decode cX2_readNumber 19 = .ok (.iload_n 1, 1) := by decide +kernel
theorem dX2_readNumber_20 : decode cX2_readNumber 20 = .ok (.invokevirtual 84, 3) := by decide +kernel
theorem dX2_readNumber_23 : decode cX2_readNumber 23 = .ok (.invokestatic 103, 3) := by decide +kernel
theorem dX2_readNumber_26 : decode cX2_readNumber 26 = .ok (.ifCond .eq 36, 3) := by decide +kernel
theorem dX2_readNumber_29 : decode cX2_readNumber 29 = .ok (.aload_n 0, 1) := by decide +kernel
theorem dX2_readNumber_30 : decode cX2_readNumber 30 = .ok (.iload_n 1, 1) := by decide +kernel
theorem dX2_readNumber_31 : decode cX2_readNumber 31 = .ok (.iconst 1, 1) := by decide +kernel
theorem dX2_readNumber_32 : decode cX2_readNumber 32 = .ok (.iadd, 1) := by decide +kernel
theorem dX2_readNumber_33 : decode cX2_readNumber 33 = .ok (.putfield 25, 3) := by decide +kernel
theorem dX2_readNumber_36 : decode cX2_readNumber 36 = .ok (.aload_n 0, 1) := by decide +kernel
theorem dX2_readNumber_37 : decode cX2_readNumber 37 = .ok (.aload_n 0, 1) := by decide +kernel
theorem dX2_readNumber_38 : decode cX2_readNumber 38 = .ok (.getfield 77, 3) := by decide +kernel
theorem dX2_readNumber_41 : decode cX2_readNumber 41 = .ok (.bipush 10, 2) := by decide +kernel
theorem dX2_readNumber_43 : decode cX2_readNumber 43 = .ok (.imul, 1) := by decide +kernel
theorem dX2_readNumber_44 : decode cX2_readNumber 44 = .ok (.aload_n 0, 1) := by decide +kernel
theorem dX2_readNumber_45 : decode cX2_readNumber 45 = .ok (.iload_n 1, 1) := by decide +kernel
theorem dX2_readNumber_46 : decode cX2_readNumber 46 = .ok (.invokevirtual 84, 3) := by decide +kernel
theorem dX2_readNumber_49 : decode cX2_readNumber 49 = .ok (.iadd, 1) := by decide +kernel
theorem dX2_readNumber_50 : decode cX2_readNumber 50 = .ok (.bipush 48, 2) := by decide +kernel
theorem dX2_readNumber_52 : decode cX2_readNumber 52 = .ok (.isub, 1) := by decide +kernel
theorem dX2_readNumber_53 : decode cX2_readNumber 53 = .ok (.putfield 77, 3) := by decide +kernel
theorem dX2_readNumber_56 : decode cX2_readNumber 56 = .ok (.iinc 1 1, 3) := by decide +kernel
theorem dX2_readNumber_59 : decode cX2_readNumber 59 = .ok (.goto (-49), 3) := by decide +kernel
theorem dX2_readNumber_62 : decode cX2_readNumber 62 = .ok (.aload_n 0, 1) := by decide +kernel
theorem dX2_readNumber_63 : decode cX2_readNumber 63 = .ok (.aload_n 0, 1) := by decide +kernel
theorem dX2_readNumber_64 : decode cX2_readNumber 64 = .ok (.getfield 25, 3) := by decide +kernel
theorem dX2_readNumber_67 : decode cX2_readNumber 67 = .ok (.aload_n 0, 1) := by decide +kernel
theorem dX2_readNumber_68 : decode cX2_readNumber 68 = .ok (.getfield 50, 3) := by decide +kernel
theorem dX2_readNumber_71 : decode cX2_readNumber 71 = .ok (.isub, 1) := by decide +kernel
theorem dX2_readNumber_72 : decode cX2_readNumber 72 = .ok (.iconst 4, 1) := by decide +kernel
theorem dX2_readNumber_73 : decode cX2_readNumber 73 = .ok (.if_icmp .le 7, 3) := by decide +kernel
theorem dX2_readNumber_76 : decode cX2_readNumber 76 = .ok (.iconst 1, 1) := by decide +kernel
theorem dX2_readNumber_77 : decode cX2_readNumber 77 = .ok (.goto 4, 3) := by decide +kernel
theorem dX2_readNumber_80 : decode cX2_readNumber 80 = .ok (.iconst 2, 1) := by decide +kernel
theorem dX2_readNumber_81 : decode cX2_readNumber 81 = .ok (.putfield 44, 3) := by decide +kernel
theorem dX2_readNumber_84 : decode cX2_readNumber 84 = .ok (.return_, 1) := by decide +kernel
theorem dX2_keyRead_0 : decode cX2_keyRead 0 = .ok (.aload_n 0, 1) := by decide +kernel
theorem dX2_keyRead_1 : decode cX2_keyRead 1 = .ok (.ldc 112, 2) := by decide +kernel
theorem dX2_keyRead_3 : decode cX2_keyRead 3 = .ok (.invokevirtual 114, 3) := by decide +kernel
theorem dX2_keyRead_6 : decode cX2_keyRead 6 = .ok (.ifCond .eq 5, 3) := by decide +kernel
theorem dX2_keyRead_9 : decode cX2_keyRead 9 = .ok (.iconst 4, 1) := by decide +kernel
theorem dX2_keyRead_10 : decode cX2_keyRead 10 = .ok (.ireturn, 1) := by decide +kernel
theorem dX2_keyRead_11 : decode cX2_keyRead 11 = .ok (.aload_n 0, 1) := by decide +kernel
theorem dX2_keyRead_12 : decode cX2_keyRead 12 = .ok (.ldc 118, 2) := by decide +kernel
theorem dX2_keyRead_14 : decode cX2_keyRead 14 = .ok (.invokevirtual 114, 3) := by decide +kernel
theorem dX2_keyRead_17 : decode cX2_keyRead 17 = .ok (.ifCond .eq 5, 3) := by decide +kernel
theorem dX2_keyRead_20 : decode cX2_keyRead 20 = .ok (.iconst 5, 1) := by decide +kernel
theorem dX2_keyRead_21 : decode cX2_keyRead 21 = .ok (.ireturn, 1) := by decide +kernel
theorem dX2_keyRead_22 : decode cX2_keyRead 22 = .ok (.aload_n 0, 1) := by decide +kernel
theorem dX2_keyRead_23 : decode cX2_keyRead 23 = .ok (.ldc 120, 2) := by decide +kernel
theorem dX2_keyRead_25 : decode cX2_keyRead 25 = .ok (.invokevirtual 114, 3) := by decide +kernel
theorem dX2_keyRead_28 : decode cX2_keyRead 28 = .ok (.ifCond .eq 6, 3) := by decide +kernel
theorem dX2_keyRead_31 : decode cX2_keyRead 31 = .ok (.bipush 6, 2) := by decide +kernel
theorem dX2_keyRead_33 : decode cX2_keyRead 33 = .ok (.ireturn, 1) := by decide +kernel
theorem dX2_keyRead_34 : decode cX2_keyRead 34 = .ok (.aload_n 0, 1) := by decide +kernel
theorem dX2_keyRead_35 : decode cX2_keyRead 35 = .ok (.ldc 122, 2) := by decide +kernel
theorem dX2_keyRead_37 : decode cX2_keyRead 37 = .ok (.invokevirtual 114, 3) := by decide +kernel
theorem dX2_keyRead_40 : decode cX2_keyRead 40 = .ok (.ifCond .eq 6, 3) := by decide +kernel
theorem dX2_keyRead_43 : decode cX2_keyRead 43 = .ok (.bipush 7, 2) := by decide +kernel
theorem dX2_keyRead_45 : decode cX2_keyRead 45 = .ok (.ireturn, 1) := by decide +kernel
theorem dX2_keyRead_46 : decode cX2_keyRead 46 = .ok (.aload_n 0, 1) := by decide +kernel
theorem dX2_keyRead_47 : decode cX2_keyRead 47 = .ok (.ldc 124, 2) := by decide +kernel
theorem dX2_keyRead_49 : decode cX2_keyRead 49 = .ok (.invokevirtual 114, 3) := by decide +kernel
theorem dX2_keyRead_52 : decode cX2_keyRead 52 = .ok (.ifCond .eq 6, 3) := by decide +kernel
theorem dX2_keyRead_55 : decode cX2_keyRead 55 = .ok (.bipush 8, 2) := by decide +kernel
theorem dX2_keyRead_57 : decode cX2_keyRead 57 = .ok (.ireturn, 1) := by decide +kernel
theorem dX2_keyRead_58 : decode cX2_keyRead 58 = .ok (.aload_n 0, 1) := by decide +kernel
theorem dX2_keyRead_59 : decode cX2_keyRead 59 = .ok (.ldc 126, 2) := by decide +kernel
theorem dX2_keyRead_61 : decode cX2_keyRead 61 = .ok (.invokevirtual 114, 3) := by decide +kernel
theorem dX2_keyRead_64 : decode cX2_keyRead 64 = .ok (.ifCond .eq 8, 3) := by decide +kernel
theorem dX2_keyRead_67 : decode cX2_keyRead 67 = .ok (.bipush 9, 2) := by decide +kernel
theorem dX2_keyRead_69 : decode cX2_keyRead 69 = .ok (.goto 4, 3) := by decide +kernel
theorem dX2_keyRead_72 : decode cX2_keyRead 72 = .ok (.iconst 1, 1) := by decide +kernel
theorem dX2_keyRead_73 : decode cX2_keyRead 73 = .ok (.ireturn, 1) := by decide +kernel
theorem dX2_nameRead_0 : decode cX2_nameRead 0 = .ok (.aload_n 0, 1) := by decide +kernel
theorem dX2_nameRead_1 : decode cX2_nameRead 1 = .ok (.ldc 128, 2) := by decide +kernel
theorem dX2_nameRead_3 : decode cX2_nameRead 3 = .ok (.invokevirtual 114, 3) := by decide +kernel
theorem dX2_nameRead_6 : decode cX2_nameRead 6 = .ok (.ifCond .eq 5, 3) := by decide +kernel
theorem dX2_nameRead_9 : decode cX2_nameRead 9 = .ok (.iconst 0, 1) := by decide +kernel
theorem dX2_nameRead_10 : decode cX2_nameRead 10 = .ok (.ireturn, 1) := by decide +kernel
theorem dX2_nameRead_11 : decode cX2_nameRead 11 = .ok (.aload_n 0, 1) := by decide +kernel
theorem dX2_nameRead_12 : decode cX2_nameRead 12 = .ok (.ldc 130, 2) := by decide +kernel
theorem dX2_nameRead_14 : decode cX2_nameRead 14 = .ok (.invokevirtual 114, 3) := by decide +kernel
theorem dX2_nameRead_17 : decode cX2_nameRead 17 = .ok (.ifCond .eq 5, 3) := by decide +kernel
theorem dX2_nameRead_20 : decode cX2_nameRead 20 = .ok (.iconst 1, 1) := by decide +kernel
theorem dX2_nameRead_21 : decode cX2_nameRead 21 = .ok (.ireturn, 1) := by decide +kernel
theorem dX2_nameRead_22 : decode cX2_nameRead 22 = .ok (.aload_n 0, 1) := by decide +kernel
theorem dX2_nameRead_23 : decode cX2_nameRead 23 = .ok (.ldc 132, 2) := by decide +kernel
theorem dX2_nameRead_25 : decode cX2_nameRead 25 = .ok (.invokevirtual 114, 3) := by decide +kernel
theorem dX2_nameRead_28 : decode cX2_nameRead 28 = .ok (.ifCond .eq 5, 3) := by decide +kernel
theorem dX2_nameRead_31 : decode cX2_nameRead 31 = .ok (.iconst 2, 1) := by decide +kernel
theorem dX2_nameRead_32 : decode cX2_nameRead 32 = .ok (.ireturn, 1) := by decide +kernel
theorem dX2_nameRead_33 : decode cX2_nameRead 33 = .ok (.aload_n 0, 1) := by decide +kernel
theorem dX2_nameRead_34 : decode cX2_nameRead 34 = .ok (.ldc 134, 2) := by decide +kernel
theorem dX2_nameRead_36 : decode cX2_nameRead 36 = .ok (.invokevirtual 114, 3) := by decide +kernel
theorem dX2_nameRead_39 : decode cX2_nameRead 39 = .ok (.ifCond .eq 5, 3) := by decide +kernel
theorem dX2_nameRead_42 : decode cX2_nameRead 42 = .ok (.iconst 3, 1) := by decide +kernel
theorem dX2_nameRead_43 : decode cX2_nameRead 43 = .ok (.ireturn, 1) := by decide +kernel
theorem dX2_nameRead_44 : decode cX2_nameRead 44 = .ok (.aload_n 0, 1) := by decide +kernel
theorem dX2_nameRead_45 : decode cX2_nameRead 45 = .ok (.ldc 136, 2) := by decide +kernel
theorem dX2_nameRead_47 : decode cX2_nameRead 47 = .ok (.invokevirtual 114, 3) := by decide +kernel
theorem dX2_nameRead_50 : decode cX2_nameRead 50 = .ok (.ifCond .eq 5, 3) := by decide +kernel
theorem dX2_nameRead_53 : decode cX2_nameRead 53 = .ok (.iconst 4, 1) := by decide +kernel
theorem dX2_nameRead_54 : decode cX2_nameRead 54 = .ok (.ireturn, 1) := by decide +kernel
theorem dX2_nameRead_55 : decode cX2_nameRead 55 = .ok (.aload_n 0, 1) := by decide +kernel
theorem dX2_nameRead_56 : decode cX2_nameRead 56 = .ok (.ldc 138, 2) := by decide +kernel
theorem dX2_nameRead_58 : decode cX2_nameRead 58 = .ok (.invokevirtual 114, 3) := by decide +kernel
theorem dX2_nameRead_61 : decode cX2_nameRead 61 = .ok (.ifCond .eq 7, 3) := by decide +kernel
theorem dX2_nameRead_64 : decode cX2_nameRead 64 = .ok (.iconst 5, 1) := by decide +kernel
theorem dX2_nameRead_65 : decode cX2_nameRead 65 = .ok (.goto 4, 3) := by decide +kernel
theorem dX2_nameRead_68 : decode cX2_nameRead 68 = .ok (.iconst (-1), 1) := by decide +kernel
theorem dX2_nameRead_69 : decode cX2_nameRead 69 = .ok (.ireturn, 1) := by decide +kernel
theorem dX2_isRead_0 : decode cX2_isRead 0 = .ok (.aload_n 0, 1) := by decide +kernel
theorem dX2_isRead_1 : decode cX2_isRead 1 = .ok (.getfield 25, 3) := by decide +kernel
theorem dX2_isRead_4 : decode cX2_isRead 4 = .ok (.aload_n 0, 1) := by decide +kernel
theorem dX2_isRead_5 : decode cX2_isRead 5 = .ok (.getfield 50, 3) := by decide +kernel
theorem dX2_isRead_8 : decode cX2_isRead 8 = .ok (.isub, 1) := by decide +kernel
theorem dX2_isRead_9 : decode cX2_isRead 9 = .ok (.aload_n 1, 1) := by decide +kernel
theorem dX2_isRead_10 : decode cX2_isRead 10 = .ok (.invokevirtual 140, 3) := by decide +kernel
theorem dX2_isRead_13 : decode cX2_isRead 13 = .ok (.if_icmp .eq 5, 3) := by decide +kernel
theorem dX2_isRead_16 : decode cX2_isRead 16 = .ok (.iconst 0, 1) := by decide +kernel
theorem dX2_isRead_17 : decode cX2_isRead 17 = .ok (.ireturn, 1) := by decide +kernel
theorem dX2_isRead_18 : decode cX2_isRead 18 = .ok (.iconst 0, 1) := by decide +kernel
theorem dX2_isRead_19 : decode cX2_isRead 19 = .ok (.istore_n 2, 1) := by decide +kernel
theorem dX2_isRead_20 : decode cX2_isRead 20 = .ok (.iload_n 2, 1) := by decide +kernel
theorem dX2_isRead_21 : decode cX2_isRead 21 = .ok (.aload_n 1, 1) := by decide +kernel
theorem dX2_isRead_22 : decode cX2_isRead 22 = .ok (.invokevirtual 140, 3) := by decide +kernel
theorem dX2_isRead_25 : decode cX2_isRead 25 = .ok (.if_icmp .ge 29, 3) := by decide +kernel
theorem dX2_isRead_28 : decode cX2_isRead 28 = .ok (.aload_n 0, 1) := by decide +kernel
theorem dX2_isRead_29 : decode cX2_isRead 29 = .ok (.aload_n 0, 1) := by decide +kernel
theorem dX2_isRead_30 : decode cX2_isRead 30 = .ok (.getfield 50, 3) := by decide +kernel
theorem dX2_isRead_33 : decode cX2_isRead 33 = .ok (.iload_n 2, 1) := by decide +kernel
theorem dX2_isRead_34 : decode cX2_isRead 34 = .ok (.iadd, 1) := by decide +kernel
theorem dX2_isRead_35 : decode cX2_isRead 35 = .ok (.invokevirtual 84, 3) := by decide +kernel
theorem dX2_isRead_38 : decode cX2_isRead 38 = .ok (.aload_n 1, 1) := by decide +kernel
theorem dX2_isRead_39 : decode cX2_isRead 39 = .ok (.iload_n 2, 1) := by decide +kernel
theorem dX2_isRead_40 : decode cX2_isRead 40 = .ok (.invokevirtual 145, 3) := by decide +kernel
theorem dX2_isRead_43 : decode cX2_isRead 43 = .ok (.if_icmp .eq 5, 3) := by decide +kernel
theorem dX2_isRead_46 : decode cX2_isRead 46 = .ok (.iconst 0, 1) := by decide +kernel
theorem dX2_isRead_47 : decode cX2_isRead 47 = .ok (.ireturn, 1) := by decide +kernel
theorem dX2_isRead_48 : decode cX2_isRead 48 = .ok (.iinc 2 1, 3) := by decide +kernel
theorem dX2_isRead_51 : decode cX2_isRead 51 = .ok (.goto (-31), 3) := by decide +kernel
theorem dX2_isRead_54 : decode cX2_isRead 54 = .ok (.iconst 1, 1) := by decide +kernel
theorem dX2_isRead_55 : decode cX2_isRead 55 = .ok (.ireturn, 1) := by decide +kernel
theorem dX2_byteAt_0 : decode cX2_byteAt 0 = .ok (.iload_n 1, 1) := by decide +kernel
theorem dX2_byteAt_1 : decode cX2_byteAt 1 = .ok (.ifCond .lt 21, 3) := by decide +kernel
theorem dX2_byteAt_4 : decode cX2_byteAt 4 = .ok (.iload_n 1, 1) := by decide +kernel
theorem dX2_byteAt_5 : decode cX2_byteAt 5 = .ok (.aload_n 0, 1) := by decide +kernel
theorem dX2_byteAt_6 : decode cX2_byteAt 6 = .ok (.getfield 9, 3) := by decide +kernel
theorem dX2_byteAt_9 : decode cX2_byteAt 9 = .ok (.arraylength, 1) := by decide +kernel
theorem dX2_byteAt_10 : decode cX2_byteAt 10 = .ok (.if_icmp .ge 12, 3) := by decide +kernel
theorem dX2_byteAt_13 : decode cX2_byteAt 13 = .ok (.aload_n 0, 1) := by decide +kernel
theorem dX2_byteAt_14 : decode cX2_byteAt 14 = .ok (.getfield 9, 3) := by decide +kernel
theorem dX2_byteAt_17 : decode cX2_byteAt 17 = .ok (.iload_n 1, 1) := by decide +kernel
theorem dX2_byteAt_18 : decode cX2_byteAt 18 = .ok (.iaload, 1) := by decide +kernel
theorem dX2_byteAt_19 : decode cX2_byteAt 19 = .ok (.goto 4, 3) := by decide +kernel
theorem dX2_byteAt_22 : decode cX2_byteAt 22 = .ok (.iconst (-1), 1) := by decide +kernel
theorem dX2_byteAt_23 : decode cX2_byteAt 23 = .ok (.ireturn, 1) := by decide +kernel
theorem dX2_isBlank_0 : decode cX2_isBlank 0 = .ok (.iload_n 0, 1) := by decide +kernel
theorem dX2_isBlank_1 : decode cX2_isBlank 1 = .ok (.bipush 32, 2) := by decide +kernel
theorem dX2_isBlank_3 : decode cX2_isBlank 3 = .ok (.if_icmp .eq 9, 3) := by decide +kernel
theorem dX2_isBlank_6 : decode cX2_isBlank 6 = .ok (.iload_n 0, 1) := by decide +kernel
theorem dX2_isBlank_7 : decode cX2_isBlank 7 = .ok (.bipush 10, 2) := by decide +kernel
theorem dX2_isBlank_9 : decode cX2_isBlank 9 = .ok (.if_icmp .ne 7, 3) := by decide +kernel
theorem dX2_isBlank_12 : decode cX2_isBlank 12 = .ok (.iconst 1, 1) := by decide +kernel
theorem dX2_isBlank_13 : decode cX2_isBlank 13 = .ok (.goto 4, 3) := by decide +kernel
theorem dX2_isBlank_16 : decode cX2_isBlank 16 = .ok (.iconst 0, 1) := by decide +kernel
theorem dX2_isBlank_17 : decode cX2_isBlank 17 = .ok (.ireturn, 1) := by decide +kernel
theorem dX2_isLetter_0 : decode cX2_isLetter 0 = .ok (.iload_n 0, 1) := by decide +kernel
theorem dX2_isLetter_1 : decode cX2_isLetter 1 = .ok (.bipush 97, 2) := by decide +kernel
theorem dX2_isLetter_3 : decode cX2_isLetter 3 = .ok (.bipush 122, 2) := by decide +kernel
theorem dX2_isLetter_5 : decode cX2_isLetter 5 = .ok (.invokestatic 149, 3) := by decide +kernel
theorem dX2_isLetter_8 : decode cX2_isLetter 8 = .ok (.ireturn, 1) := by decide +kernel
theorem dX2_isDigit_0 : decode cX2_isDigit 0 = .ok (.iload_n 0, 1) := by decide +kernel
theorem dX2_isDigit_1 : decode cX2_isDigit 1 = .ok (.bipush 48, 2) := by decide +kernel
theorem dX2_isDigit_3 : decode cX2_isDigit 3 = .ok (.bipush 57, 2) := by decide +kernel
theorem dX2_isDigit_5 : decode cX2_isDigit 5 = .ok (.invokestatic 149, 3) := by decide +kernel
theorem dX2_isDigit_8 : decode cX2_isDigit 8 = .ok (.ireturn, 1) := by decide +kernel
theorem dX2_isSign_0 : decode cX2_isSign 0 = .ok (.iload_n 0, 1) := by decide +kernel
theorem dX2_isSign_1 : decode cX2_isSign 1 = .ok (.tableswitch 105 40 61 #[103, 103, 103, 103, 105, 103, 105, 105, 105, 105, 105, 105, 105, 105, 105, 105, 105, 105, 105, 103, 103, 103], 103) := by decide +kernel
theorem dX2_isSign_104 : decode cX2_isSign 104 = .ok (.iconst 1, 1) := by decide +kernel
theorem dX2_isSign_105 : decode cX2_isSign 105 = .ok (.ireturn, 1) := by decide +kernel
theorem dX2_isSign_106 : decode cX2_isSign 106 = .ok (.iconst 0, 1) := by decide +kernel
theorem dX2_isSign_107 : decode cX2_isSign 107 = .ok (.ireturn, 1) := by decide +kernel
theorem dX3_isSheet_0 : decode cX3_isSheet 0 = .ok (.iload_n 1, 1) := by decide +kernel
theorem dX3_isSheet_1 : decode cX3_isSheet 1 = .ok (.ifCond .lt 12, 3) := by decide +kernel
theorem dX3_isSheet_4 : decode cX3_isSheet 4 = .ok (.iload_n 1, 1) := by decide +kernel
theorem dX3_isSheet_5 : decode cX3_isSheet 5 = .ok (.iconst 4, 1) := by decide +kernel
theorem dX3_isSheet_6 : decode cX3_isSheet 6 = .ok (.if_icmp .ge 7, 3) := by decide +kernel
theorem dX3_isSheet_9 : decode cX3_isSheet 9 = .ok (.iconst 1, 1) := by decide +kernel
theorem dX3_isSheet_10 : decode cX3_isSheet 10 = .ok (.goto 4, 3) := by decide +kernel
theorem dX3_isSheet_13 : decode cX3_isSheet 13 = .ok (.iconst 0, 1) := by decide +kernel
theorem dX3_isSheet_14 : decode cX3_isSheet 14 = .ok (.ireturn, 1) := by decide +kernel
theorem dX3_isMissing_0 : decode cX3_isMissing 0 = .ok (.aload_n 0, 1) := by decide +kernel
theorem dX3_isMissing_1 : decode cX3_isMissing 1 = .ok (.getfield 9, 3) := by decide +kernel
theorem dX3_isMissing_4 : decode cX3_isMissing 4 = .ok (.iload_n 1, 1) := by decide +kernel
theorem dX3_isMissing_5 : decode cX3_isMissing 5 = .ok (.iaload, 1) := by decide +kernel
theorem dX3_isMissing_6 : decode cX3_isMissing 6 = .ok (.iconst (-1), 1) := by decide +kernel
theorem dX3_isMissing_7 : decode cX3_isMissing 7 = .ok (.if_icmp .ne 7, 3) := by decide +kernel
theorem dX3_isMissing_10 : decode cX3_isMissing 10 = .ok (.iconst 1, 1) := by decide +kernel
theorem dX3_isMissing_11 : decode cX3_isMissing 11 = .ok (.goto 4, 3) := by decide +kernel
theorem dX3_isMissing_14 : decode cX3_isMissing 14 = .ok (.iconst 0, 1) := by decide +kernel
theorem dX3_isMissing_15 : decode cX3_isMissing 15 = .ok (.ireturn, 1) := by decide +kernel
theorem dX3_sortOf_0 : decode cX3_sortOf 0 = .ok (.aload_n 0, 1) := by decide +kernel
theorem dX3_sortOf_1 : decode cX3_sortOf 1 = .ok (.getfield 9, 3) := by decide +kernel
theorem dX3_sortOf_4 : decode cX3_sortOf 4 = .ok (.iload_n 1, 1) := by decide +kernel
theorem dX3_sortOf_5 : decode cX3_sortOf 5 = .ok (.iaload, 1) := by decide +kernel
theorem dX3_sortOf_6 : decode cX3_sortOf 6 = .ok (.ireturn, 1) := by decide +kernel
theorem dX3_sizeOf_0 : decode cX3_sizeOf 0 = .ok (.aload_n 0, 1) := by decide +kernel
theorem dX3_sizeOf_1 : decode cX3_sizeOf 1 = .ok (.getfield 13, 3) := by decide +kernel
theorem dX3_sizeOf_4 : decode cX3_sizeOf 4 = .ok (.iload_n 1, 1) := by decide +kernel
theorem dX3_sizeOf_5 : decode cX3_sizeOf 5 = .ok (.iaload, 1) := by decide +kernel
theorem dX3_sizeOf_6 : decode cX3_sizeOf 6 = .ok (.ireturn, 1) := by decide +kernel
theorem dX3_isPlace_0 : decode cX3_isPlace 0 = .ok (.iload_n 2, 1) := by decide +kernel
theorem dX3_isPlace_1 : decode cX3_isPlace 1 = .ok (.ifCond .lt 17, 3) := by decide +kernel
theorem dX3_isPlace_4 : decode cX3_isPlace 4 = .ok (.iload_n 2, 1) := by decide +kernel
theorem dX3_isPlace_5 : decode cX3_isPlace 5 = .ok (.aload_n 0, 1) := by decide +kernel
theorem dX3_isPlace_6 : decode cX3_isPlace 6 = .ok (.getfield 13, 3) := by decide +kernel
theorem dX3_isPlace_9 : decode cX3_isPlace 9 = .ok (.iload_n 1, 1) := by decide +kernel
theorem dX3_isPlace_10 : decode cX3_isPlace 10 = .ok (.iaload, 1) := by decide +kernel
theorem dX3_isPlace_11 : decode cX3_isPlace 11 = .ok (.if_icmp .ge 7, 3) := by decide +kernel
theorem dX3_isPlace_14 : decode cX3_isPlace 14 = .ok (.iconst 1, 1) := by decide +kernel
theorem dX3_isPlace_15 : decode cX3_isPlace 15 = .ok (.goto 4, 3) := by decide +kernel
theorem dX3_isPlace_18 : decode cX3_isPlace 18 = .ok (.iconst 0, 1) := by decide +kernel
theorem dX3_isPlace_19 : decode cX3_isPlace 19 = .ok (.ireturn, 1) := by decide +kernel
theorem dX3_isStretch_0 : decode cX3_isStretch 0 = .ok (.iload_n 2, 1) := by decide +kernel
theorem dX3_isStretch_1 : decode cX3_isStretch 1 = .ok (.ifCond .lt 27, 3) := by decide +kernel
theorem dX3_isStretch_4 : decode cX3_isStretch 4 = .ok (.iload_n 3, 1) := by decide +kernel
theorem dX3_isStretch_5 : decode cX3_isStretch 5 = .ok (.ifCond .lt 23, 3) := by decide +kernel
theorem dX3_isStretch_8 : decode cX3_isStretch 8 = .ok (.iload_n 2, 1) := by decide +kernel
theorem dX3_isStretch_9 : decode cX3_isStretch 9 = .ok (.i2l, 1) := by decide +kernel
theorem dX3_isStretch_10 : decode cX3_isStretch 10 = .ok (.iload_n 3, 1) := by decide +kernel
theorem dX3_isStretch_11 : decode cX3_isStretch 11 = .ok (.i2l, 1) := by decide +kernel
theorem dX3_isStretch_12 : decode cX3_isStretch 12 = .ok (.ladd, 1) := by decide +kernel
theorem dX3_isStretch_13 : decode cX3_isStretch 13 = .ok (.aload_n 0, 1) := by decide +kernel
theorem dX3_isStretch_14 : decode cX3_isStretch 14 = .ok (.getfield 13, 3) := by decide +kernel
theorem dX3_isStretch_17 : decode cX3_isStretch 17 = .ok (.iload_n 1, 1) := by decide +kernel
theorem dX3_isStretch_18 : decode cX3_isStretch 18 = .ok (.iaload, 1) := by decide +kernel
theorem dX3_isStretch_19 : decode cX3_isStretch 19 = .ok (.i2l, 1) := by decide +kernel
theorem dX3_isStretch_20 : decode cX3_isStretch 20 = .ok (.lcmp, 1) := by decide +kernel
theorem dX3_isStretch_21 : decode cX3_isStretch 21 = .ok (.ifCond .gt 7, 3) := by decide +kernel
theorem dX3_isStretch_24 : decode cX3_isStretch 24 = .ok (.iconst 1, 1) := by decide +kernel
theorem dX3_isStretch_25 : decode cX3_isStretch 25 = .ok (.goto 4, 3) := by decide +kernel
theorem dX3_isStretch_28 : decode cX3_isStretch 28 = .ok (.iconst 0, 1) := by decide +kernel
theorem dX3_isStretch_29 : decode cX3_isStretch 29 = .ok (.ireturn, 1) := by decide +kernel
theorem dX3_renew_0 : decode cX3_renew 0 = .ok (.aload_n 0, 1) := by decide +kernel
theorem dX3_renew_1 : decode cX3_renew 1 = .ok (.getfield 9, 3) := by decide +kernel
theorem dX3_renew_4 : decode cX3_renew 4 = .ok (.iload_n 1, 1) := by decide +kernel
theorem dX3_renew_5 : decode cX3_renew 5 = .ok (.iload_n 2, 1) := by decide +kernel
theorem dX3_renew_6 : decode cX3_renew 6 = .ok (.iastore, 1) := by decide +kernel
theorem dX3_renew_7 : decode cX3_renew 7 = .ok (.aload_n 0, 1) := by decide +kernel
theorem dX3_renew_8 : decode cX3_renew 8 = .ok (.getfield 13, 3) := by decide +kernel
theorem dX3_renew_11 : decode cX3_renew 11 = .ok (.iload_n 1, 1) := by decide +kernel
theorem dX3_renew_12 : decode cX3_renew 12 = .ok (.iload_n 3, 1) := by decide +kernel
theorem dX3_renew_13 : decode cX3_renew 13 = .ok (.iastore, 1) := by decide +kernel
theorem dX3_renew_14 : decode cX3_renew 14 = .ok (.iconst 0, 1) := by decide +kernel
theorem dX3_renew_15 : decode cX3_renew 15 = .ok (.istore 4, 2) := by decide +kernel
theorem dX3_renew_17 : decode cX3_renew 17 = .ok (.iload 4, 2) := by decide +kernel
theorem dX3_renew_19 : decode cX3_renew 19 = .ok (.bipush 40, 2) := by decide +kernel
theorem dX3_renew_21 : decode cX3_renew 21 = .ok (.if_icmp .ge 22, 3) := by decide +kernel
theorem dX3_renew_24 : decode cX3_renew 24 = .ok (.aload_n 0, 1) := by decide +kernel
theorem dX3_renew_25 : decode cX3_renew 25 = .ok (.getfield 16, 3) := by decide +kernel
theorem dX3_renew_28 : decode cX3_renew 28 = .ok (.iload_n 1, 1) := by decide +kernel
theorem dX3_renew_29 : decode cX3_renew 29 = .ok (.bipush 40, 2) := by decide +kernel
theorem dX3_renew_31 : decode cX3_renew 31 = .ok (.imul, 1) := by decide +kernel
theorem dX3_renew_32 : decode cX3_renew 32 = .ok (.iload 4, 2) := by decide +kernel
theorem dX3_renew_34 : decode cX3_renew 34 = .ok (.iadd, 1) := by decide +kernel
theorem dX3_renew_35 : decode cX3_renew 35 = .ok (.iconst 0, 1) := by decide +kernel
theorem dX3_renew_36 : decode cX3_renew 36 = .ok (.iastore, 1) := by decide +kernel
theorem dX3_renew_37 : decode cX3_renew 37 = .ok (.iinc 4 1, 3) := by decide +kernel
theorem dX3_renew_40 : decode cX3_renew 40 = .ok (.goto (-23), 3) := by decide +kernel
theorem dX3_renew_43 : decode cX3_renew 43 = .ok (.return_, 1) := by decide +kernel
theorem dX3_at_0 : decode cX3_at 0 = .ok (.aload_n 0, 1) := by decide +kernel
theorem dX3_at_1 : decode cX3_at 1 = .ok (.getfield 16, 3) := by decide +kernel
theorem dX3_at_4 : decode cX3_at 4 = .ok (.iload_n 1, 1) := by decide +kernel
theorem dX3_at_5 : decode cX3_at 5 = .ok (.bipush 40, 2) := by decide +kernel
theorem dX3_at_7 : decode cX3_at 7 = .ok (.imul, 1) := by decide +kernel
theorem dX3_at_8 : decode cX3_at 8 = .ok (.iload_n 2, 1) := by decide +kernel
theorem dX3_at_9 : decode cX3_at 9 = .ok (.iadd, 1) := by decide +kernel
theorem dX3_at_10 : decode cX3_at 10 = .ok (.iaload, 1) := by decide +kernel
theorem dX3_at_11 : decode cX3_at 11 = .ok (.ireturn, 1) := by decide +kernel
theorem dX3_write_0 : decode cX3_write 0 = .ok (.iload_n 3, 1) := by decide +kernel
theorem dX3_write_1 : decode cX3_write 1 = .ok (.istore 4, 2) := by decide +kernel
theorem dX3_write_3 : decode cX3_write 3 = .ok (.aload_n 0, 1) := by decide +kernel
theorem dX3_write_4 : decode cX3_write 4 = .ok (.getfield 9, 3) := by decide +kernel
theorem dX3_write_7 : decode cX3_write 7 = .ok (.iload_n 1, 1) := by decide +kernel
theorem dX3_write_8 : decode cX3_write 8 = .ok (.iaload, 1) := by decide +kernel
theorem dX3_write_9 : decode cX3_write 9 = .ok (.ifCond .ne 7, 3) := by decide +kernel
theorem dX3_write_12 : decode cX3_write 12 = .ok (.iload_n 3, 1) := by decide +kernel
theorem dX3_write_13 : decode cX3_write 13 = .ok (.i2b, 1) := by decide +kernel
theorem dX3_write_14 : decode cX3_write 14 = .ok (.istore 4, 2) := by decide +kernel
theorem dX3_write_16 : decode cX3_write 16 = .ok (.aload_n 0, 1) := by decide +kernel
theorem dX3_write_17 : decode cX3_write 17 = .ok (.getfield 9, 3) := by decide +kernel
theorem dX3_write_20 : decode cX3_write 20 = .ok (.iload_n 1, 1) := by decide +kernel
theorem dX3_write_21 : decode cX3_write 21 = .ok (.iaload, 1) := by decide +kernel
theorem dX3_write_22 : decode cX3_write 22 = .ok (.iconst 1, 1) := by decide +kernel
theorem dX3_write_23 : decode cX3_write 23 = .ok (.if_icmp .ne 7, 3) := by decide +kernel
theorem dX3_write_26 : decode cX3_write 26 = .ok (.iload_n 3, 1) := by decide +kernel
theorem dX3_write_27 : decode cX3_write 27 = .ok (.i2s, 1) := by decide +kernel
theorem dX3_write_28 : decode cX3_write 28 = .ok (.istore 4, 2) := by decide +kernel
theorem dX3_write_30 : decode cX3_write 30 = .ok (.aload_n 0, 1) := by decide +kernel
theorem dX3_write_31 : decode cX3_write 31 = .ok (.getfield 16, 3) := by decide +kernel
theorem dX3_write_34 : decode cX3_write 34 = .ok (.iload_n 1, 1) := by decide +kernel
theorem dX3_write_35 : decode cX3_write 35 = .ok (.bipush 40, 2) := by decide +kernel
theorem dX3_write_37 : decode cX3_write 37 = .ok (.imul, 1) := by decide +kernel
theorem dX3_write_38 : decode cX3_write 38 = .ok (.iload_n 2, 1) := by decide +kernel
theorem dX3_write_39 : decode cX3_write 39 = .ok (.iadd, 1) := by decide +kernel
theorem dX3_write_40 : decode cX3_write 40 = .ok (.iload 4, 2) := by decide +kernel
theorem dX3_write_42 : decode cX3_write 42 = .ok (.iastore, 1) := by decide +kernel
theorem dX3_write_43 : decode cX3_write 43 = .ok (.return_, 1) := by decide +kernel
theorem dX3_move_0 : decode cX3_move 0 = .ok (.aload_n 0, 1) := by decide +kernel
theorem dX3_move_1 : decode cX3_move 1 = .ok (.getfield 16, 3) := by decide +kernel
theorem dX3_move_4 : decode cX3_move 4 = .ok (.iload_n 1, 1) := by decide +kernel
theorem dX3_move_5 : decode cX3_move 5 = .ok (.bipush 40, 2) := by decide +kernel
theorem dX3_move_7 : decode cX3_move 7 = .ok (.imul, 1) := by decide +kernel
theorem dX3_move_8 : decode cX3_move 8 = .ok (.iload_n 2, 1) := by decide +kernel
theorem dX3_move_9 : decode cX3_move 9 = .ok (.iadd, 1) := by decide +kernel
theorem dX3_move_10 : decode cX3_move 10 = .ok (.aload_n 0, 1) := by decide +kernel
theorem dX3_move_11 : decode cX3_move 11 = .ok (.getfield 16, 3) := by decide +kernel
theorem dX3_move_14 : decode cX3_move 14 = .ok (.iload_n 3, 1) := by decide +kernel
theorem dX3_move_15 : decode cX3_move 15 = .ok (.bipush 40, 2) := by decide +kernel
theorem dX3_move_17 : decode cX3_move 17 = .ok (.imul, 1) := by decide +kernel
theorem dX3_move_18 : decode cX3_move 18 = .ok (.iload 4, 2) := by decide +kernel
theorem dX3_move_20 : decode cX3_move 20 = .ok (.iadd, 1) := by decide +kernel
theorem dX3_move_21 : decode cX3_move 21 = .ok (.iload 5, 2) := by decide +kernel
theorem dX3_move_23 : decode cX3_move 23 = .ok (.invokestatic 19, 3) := by decide +kernel
theorem dX3_move_26 : decode cX3_move 26 = .ok (.return_, 1) := by decide +kernel
theorem dX4_keep_0 : decode cX4_keep 0 = .ok (.aload_n 0, 1) := by decide +kernel
theorem dX4_keep_1 : decode cX4_keep 1 = .ok (.getfield 21, 3) := by decide +kernel
theorem dX4_keep_4 : decode cX4_keep 4 = .ok (.bipush 6, 2) := by decide +kernel
theorem dX4_keep_6 : decode cX4_keep 6 = .ok (.if_icmp .lt 6, 3) := by decide +kernel
theorem dX4_keep_9 : decode cX4_keep 9 = .ok (.bipush (-4), 2) := by decide +kernel
theorem dX4_keep_11 : decode cX4_keep 11 = .ok (.ireturn, 1) := by decide +kernel
theorem dX4_keep_12 : decode cX4_keep 12 = .ok (.aload_n 1, 1) := by decide +kernel
theorem dX4_keep_13 : decode cX4_keep 13 = .ok (.getfield 25, 3) := by decide +kernel
theorem dX4_keep_16 : decode cX4_keep 16 = .ok (.iconst 0, 1) := by decide +kernel
theorem dX4_keep_17 : decode cX4_keep 17 = .ok (.aload_n 0, 1) := by decide +kernel
theorem dX4_keep_18 : decode cX4_keep 18 = .ok (.getfield 9, 3) := by decide +kernel
theorem dX4_keep_21 : decode cX4_keep 21 = .ok (.aload_n 0, 1) := by decide +kernel
theorem dX4_keep_22 : decode cX4_keep 22 = .ok (.getfield 21, 3) := by decide +kernel
theorem dX4_keep_25 : decode cX4_keep 25 = .ok (.sipush 160, 3) := by decide +kernel
theorem dX4_keep_28 : decode cX4_keep 28 = .ok (.imul, 1) := by decide +kernel
theorem dX4_keep_29 : decode cX4_keep 29 = .ok (.sipush 160, 3) := by decide +kernel
theorem dX4_keep_32 : decode cX4_keep 32 = .ok (.invokestatic 28, 3) := by decide +kernel
theorem dX4_keep_35 : decode cX4_keep 35 = .ok (.aload_n 1, 1) := by decide +kernel
theorem dX4_keep_36 : decode cX4_keep 36 = .ok (.getfield 34, 3) := by decide +kernel
theorem dX4_keep_39 : decode cX4_keep 39 = .ok (.iconst 0, 1) := by decide +kernel
theorem dX4_keep_40 : decode cX4_keep 40 = .ok (.aload_n 0, 1) := by decide +kernel
theorem dX4_keep_41 : decode cX4_keep 41 = .ok (.getfield 15, 3) := by decide +kernel
theorem dX4_keep_44 : decode cX4_keep 44 = .ok (.aload_n 0, 1) := by decide +kernel
theorem dX4_keep_45 : decode cX4_keep 45 = .ok (.getfield 21, 3) := by decide +kernel
theorem dX4_keep_48 : decode cX4_keep 48 = .ok (.iconst 3, 1) := by decide +kernel
theorem dX4_keep_49 : decode cX4_keep 49 = .ok (.imul, 1) := by decide +kernel
theorem dX4_keep_50 : decode cX4_keep 50 = .ok (.iconst 3, 1) := by decide +kernel
theorem dX4_keep_51 : decode cX4_keep 51 = .ok (.invokestatic 28, 3) := by decide +kernel
theorem dX4_keep_54 : decode cX4_keep 54 = .ok (.aload_n 0, 1) := by decide +kernel
theorem dX4_keep_55 : decode cX4_keep 55 = .ok (.dup, 1) := by decide +kernel
theorem dX4_keep_56 : decode cX4_keep 56 = .ok (.getfield 21, 3) := by decide +kernel
theorem dX4_keep_59 : decode cX4_keep 59 = .ok (.iconst 1, 1) := by decide +kernel
theorem dX4_keep_60 : decode cX4_keep 60 = .ok (.iadd, 1) := by decide +kernel
theorem dX4_keep_61 : decode cX4_keep 61 = .ok (.putfield 21, 3) := by decide +kernel
theorem dX4_keep_64 : decode cX4_keep 64 = .ok (.aload_n 0, 1) := by decide +kernel
theorem dX4_keep_65 : decode cX4_keep 65 = .ok (.getfield 21, 3) := by decide +kernel
theorem dX4_keep_68 : decode cX4_keep 68 = .ok (.iconst 1, 1) := by decide +kernel
theorem dX4_keep_69 : decode cX4_keep 69 = .ok (.isub, 1) := by decide +kernel
theorem dX4_keep_70 : decode cX4_keep 70 = .ok (.ireturn, 1) := by decide +kernel
theorem dX4_valueOf_0 : decode cX4_valueOf 0 = .ok (.iload_n 1, 1) := by decide +kernel
theorem dX4_valueOf_1 : decode cX4_valueOf 1 = .ok (.sipush 160, 3) := by decide +kernel
theorem dX4_valueOf_4 : decode cX4_valueOf 4 = .ok (.imul, 1) := by decide +kernel
theorem dX4_valueOf_5 : decode cX4_valueOf 5 = .ok (.iload_n 2, 1) := by decide +kernel
theorem dX4_valueOf_6 : decode cX4_valueOf 6 = .ok (.ifCond .ne 7, 3) := by decide +kernel
theorem dX4_valueOf_9 : decode cX4_valueOf 9 = .ok (.iconst 0, 1) := by decide +kernel
theorem dX4_valueOf_10 : decode cX4_valueOf 10 = .ok (.goto 15, 3) := by decide +kernel
theorem dX4_valueOf_13 : decode cX4_valueOf 13 = .ok (.aload_n 0, 1) := by decide +kernel
theorem dX4_valueOf_14 : decode cX4_valueOf 14 = .ok (.getfield 15, 3) := by decide +kernel
theorem dX4_valueOf_17 : decode cX4_valueOf 17 = .ok (.iload_n 1, 1) := by decide +kernel
theorem dX4_valueOf_18 : decode cX4_valueOf 18 = .ok (.iconst 3, 1) := by decide +kernel
theorem dX4_valueOf_19 : decode cX4_valueOf 19 = .ok (.imul, 1) := by decide +kernel
theorem dX4_valueOf_20 : decode cX4_valueOf 20 = .ok (.iload_n 2, 1) := by decide +kernel
theorem dX4_valueOf_21 : decode cX4_valueOf 21 = .ok (.iadd, 1) := by decide +kernel
theorem dX4_valueOf_22 : decode cX4_valueOf 22 = .ok (.iconst 1, 1) := by decide +kernel
theorem dX4_valueOf_23 : decode cX4_valueOf 23 = .ok (.isub, 1) := by decide +kernel
theorem dX4_valueOf_24 : decode cX4_valueOf 24 = .ok (.iaload, 1) := by decide +kernel
theorem dX4_valueOf_25 : decode cX4_valueOf 25 = .ok (.iadd, 1) := by decide +kernel
theorem dX4_valueOf_26 : decode cX4_valueOf 26 = .ok (.istore 4, 2) := by decide +kernel
theorem dX4_valueOf_28 : decode cX4_valueOf 28 = .ok (.iload_n 1, 1) := by decide +kernel
theorem dX4_valueOf_29 : decode cX4_valueOf 29 = .ok (.sipush 160, 3) := by decide +kernel
theorem dX4_valueOf_32 : decode cX4_valueOf 32 = .ok (.imul, 1) := by decide +kernel
theorem dX4_valueOf_33 : decode cX4_valueOf 33 = .ok (.aload_n 0, 1) := by decide +kernel
theorem dX4_valueOf_34 : decode cX4_valueOf 34 = .ok (.getfield 15, 3) := by decide +kernel
theorem dX4_valueOf_37 : decode cX4_valueOf 37 = .ok (.iload_n 1, 1) := by decide +kernel
theorem dX4_valueOf_38 : decode cX4_valueOf 38 = .ok (.iconst 3, 1) := by decide +kernel
theorem dX4_valueOf_39 : decode cX4_valueOf 39 = .ok (.imul, 1) := by decide +kernel
theorem dX4_valueOf_40 : decode cX4_valueOf 40 = .ok (.iload_n 2, 1) := by decide +kernel
theorem dX4_valueOf_41 : decode cX4_valueOf 41 = .ok (.iadd, 1) := by decide +kernel
theorem dX4_valueOf_42 : decode cX4_valueOf 42 = .ok (.iaload, 1) := by decide +kernel
theorem dX4_valueOf_43 : decode cX4_valueOf 43 = .ok (.iadd, 1) := by decide +kernel
theorem dX4_valueOf_44 : decode cX4_valueOf 44 = .ok (.istore 5, 2) := by decide +kernel
theorem dX4_valueOf_46 : decode cX4_valueOf 46 = .ok (.iconst 0, 1) := by decide +kernel
theorem dX4_valueOf_47 : decode cX4_valueOf 47 = .ok (.istore 6, 2) := by decide +kernel
theorem dX4_valueOf_49 : decode cX4_valueOf 49 = .ok (.iload 4, 2) := by decide +kernel
theorem dX4_valueOf_51 : decode cX4_valueOf 51 = .ok (.istore 7, 2) := by decide +kernel
theorem dX4_valueOf_53 : decode cX4_valueOf 53 = .ok (.iload 7, 2) := by decide +kernel
theorem dX4_valueOf_55 : decode cX4_valueOf 55 = .ok (.iload 5, 2) := by decide +kernel
theorem dX4_valueOf_57 : decode cX4_valueOf 57 = .ok (.if_icmp .ge 138, 3) := by decide +kernel
theorem dX4_valueOf_60 : decode cX4_valueOf 60 = .ok (.aload_n 0, 1) := by decide +kernel
theorem dX4_valueOf_61 : decode cX4_valueOf 61 = .ok (.getfield 9, 3) := by decide +kernel
theorem dX4_valueOf_64 : decode cX4_valueOf 64 = .ok (.iload 7, 2) := by decide +kernel
theorem dX4_valueOf_66 : decode cX4_valueOf 66 = .ok (.iaload, 1) := by decide +kernel
theorem dX4_valueOf_67 : decode cX4_valueOf 67 = .ok (.istore 8, 2) := by decide +kernel
theorem dX4_valueOf_69 : decode cX4_valueOf 69 = .ok (.iload 8, 2) := by decide +kernel
theorem dX4_valueOf_71 : decode cX4_valueOf 71 = .ok (.istore 9, 2) := by decide +kernel
theorem dX4_valueOf_73 : decode cX4_valueOf 73 = .ok (.iload 8, 2) := by decide +kernel
theorem dX4_valueOf_75 : decode cX4_valueOf 75 = .ok (.invokestatic 35, 3) := by decide +kernel
theorem dX4_valueOf_78 : decode cX4_valueOf 78 = .ok (.ifCond .eq 38, 3) := by decide +kernel
theorem dX4_valueOf_81 : decode cX4_valueOf 81 = .ok (.iload 6, 2) := by decide +kernel
theorem dX4_valueOf_83 : decode cX4_valueOf 83 = .ok (.iconst 2, 1) := by decide +kernel
theorem dX4_valueOf_84 : decode cX4_valueOf 84 = .ok (.if_icmp .lt 32, 3) := by decide +kernel
theorem dX4_valueOf_87 : decode cX4_valueOf 87 = .ok (.iinc 6 (-2), 3) := by decide +kernel
theorem dX4_valueOf_90 : decode cX4_valueOf 90 = .ok (.iload 8, 2) := by decide +kernel
theorem dX4_valueOf_92 : decode cX4_valueOf 92 = .ok (.aload_n 0, 1) := by decide +kernel
theorem dX4_valueOf_93 : decode cX4_valueOf 93 = .ok (.getfield 18, 3) := by decide +kernel
theorem dX4_valueOf_96 : decode cX4_valueOf 96 = .ok (.iload 6, 2) := by decide +kernel
theorem dX4_valueOf_98 : decode cX4_valueOf 98 = .ok (.iaload, 1) := by decide +kernel
theorem dX4_valueOf_99 : decode cX4_valueOf 99 = .ok (.aload_n 0, 1) := by decide +kernel
theorem dX4_valueOf_100 : decode cX4_valueOf 100 = .ok (.getfield 18, 3) := by decide +kernel
theorem dX4_valueOf_103 : decode cX4_valueOf 103 = .ok (.iload 6, 2) := by decide +kernel
theorem dX4_valueOf_105 : decode cX4_valueOf 105 = .ok (.iconst 1, 1) := by decide +kernel
theorem dX4_valueOf_106 : decode cX4_valueOf 106 = .ok (.iadd, 1) := by decide +kernel
theorem dX4_valueOf_107 : decode cX4_valueOf 107 = .ok (.iaload, 1) := by decide +kernel
theorem dX4_valueOf_108 : decode cX4_valueOf 108 = .ok (.invokestatic 41, 3) := by decide +kernel
theorem dX4_valueOf_111 : decode cX4_valueOf 111 = .ok (.istore 9, 2) := by decide +kernel
theorem dX4_valueOf_113 : decode cX4_valueOf 113 = .ok (.goto 54, 3) := by decide +kernel
theorem dX4_valueOf_116 : decode cX4_valueOf 116 = .ok (.iload 8, 2) := by decide +kernel
theorem dX4_valueOf_118 : decode cX4_valueOf 118 = .ok (.invokestatic 45, 3) := by decide +kernel
theorem dX4_valueOf_121 : decode cX4_valueOf 121 = .ok (.ifCond .eq 29, 3) := by decide +kernel
theorem dX4_valueOf_124 : decode cX4_valueOf 124 = .ok (.iload 6, 2) := by decide +kernel
theorem dX4_valueOf_126 : decode cX4_valueOf 126 = .ok (.iconst 1, 1) := by decide +kernel
theorem dX4_valueOf_127 : decode cX4_valueOf 127 = .ok (.if_icmp .lt 23, 3) := by decide +kernel
theorem dX4_valueOf_130 : decode cX4_valueOf 130 = .ok (.iinc 6 (-1), 3) := by decide +kernel
theorem dX4_valueOf_133 : decode cX4_valueOf 133 = .ok (.iload 8, 2) := by decide +kernel
theorem dX4_valueOf_135 : decode cX4_valueOf 135 = .ok (.aload_n 0, 1) := by decide +kernel
theorem dX4_valueOf_136 : decode cX4_valueOf 136 = .ok (.getfield 18, 3) := by decide +kernel
theorem dX4_valueOf_139 : decode cX4_valueOf 139 = .ok (.iload 6, 2) := by decide +kernel
theorem dX4_valueOf_141 : decode cX4_valueOf 141 = .ok (.iaload, 1) := by decide +kernel
theorem dX4_valueOf_142 : decode cX4_valueOf 142 = .ok (.invokestatic 48, 3) := by decide +kernel
theorem dX4_valueOf_145 : decode cX4_valueOf 145 = .ok (.istore 9, 2) := by decide +kernel
theorem dX4_valueOf_147 : decode cX4_valueOf 147 = .ok (.goto 20, 3) := by decide +kernel
theorem dX4_valueOf_150 : decode cX4_valueOf 150 = .ok (.iload 8, 2) := by decide +kernel
theorem dX4_valueOf_152 : decode cX4_valueOf 152 = .ok (.invokestatic 52, 3) := by decide +kernel
theorem dX4_valueOf_155 : decode cX4_valueOf 155 = .ok (.ifCond .eq 12, 3) := by decide +kernel
theorem dX4_valueOf_158 : decode cX4_valueOf 158 = .ok (.aload_n 3, 1) := by decide +kernel
theorem dX4_valueOf_159 : decode cX4_valueOf 159 = .ok (.iload 8, 2) := by decide +kernel
theorem dX4_valueOf_161 : decode cX4_valueOf 161 = .ok (.invokestatic 55, 3) := by decide +kernel
theorem dX4_valueOf_164 : decode cX4_valueOf 164 = .ok (.iaload, 1) := by decide +kernel
theorem dX4_valueOf_165 : decode cX4_valueOf 165 = .ok (.istore 9, 2) := by decide +kernel
theorem dX4_valueOf_167 : decode cX4_valueOf 167 = .ok (.iload 6, 2) := by decide +kernel
theorem dX4_valueOf_169 : decode cX4_valueOf 169 = .ok (.aload_n 0, 1) := by decide +kernel
theorem dX4_valueOf_170 : decode cX4_valueOf 170 = .ok (.getfield 18, 3) := by decide +kernel
theorem dX4_valueOf_173 : decode cX4_valueOf 173 = .ok (.arraylength, 1) := by decide +kernel
theorem dX4_valueOf_174 : decode cX4_valueOf 174 = .ok (.if_icmp .ge 15, 3) := by decide +kernel
theorem dX4_valueOf_177 : decode cX4_valueOf 177 = .ok (.aload_n 0, 1) := by decide +kernel
theorem dX4_valueOf_178 : decode cX4_valueOf 178 = .ok (.getfield 18, 3) := by decide +kernel
theorem dX4_valueOf_181 : decode cX4_valueOf 181 = .ok (.iload 6, 2) := by decide +kernel
theorem dX4_valueOf_183 : decode cX4_valueOf 183 = .ok (.iload 9, 2) := by decide +kernel
theorem dX4_valueOf_185 : decode cX4_valueOf 185 = .ok (.iastore, 1) := by decide +kernel
theorem dX4_valueOf_186 : decode cX4_valueOf 186 = .ok (.iinc 6 1, 3) := by decide +kernel
theorem dX4_valueOf_189 : decode cX4_valueOf 189 = .ok (.iinc 7 1, 3) := by decide +kernel
theorem dX4_valueOf_192 : decode cX4_valueOf 192 = .ok (.goto (-139), 3) := by decide +kernel
theorem dX4_valueOf_195 : decode cX4_valueOf 195 = .ok (.iload 6, 2) := by decide +kernel
theorem dX4_valueOf_197 : decode cX4_valueOf 197 = .ok (.ifCond .le 12, 3) := by decide +kernel
theorem dX4_valueOf_200 : decode cX4_valueOf 200 = .ok (.aload_n 0, 1) := by decide +kernel
theorem dX4_valueOf_201 : decode cX4_valueOf 201 = .ok (.getfield 18, 3) := by decide +kernel
theorem dX4_valueOf_204 : decode cX4_valueOf 204 = .ok (.iconst 0, 1) := by decide +kernel
theorem dX4_valueOf_205 : decode cX4_valueOf 205 = .ok (.iaload, 1) := by decide +kernel
theorem dX4_valueOf_206 : decode cX4_valueOf 206 = .ok (.goto 4, 3) := by decide +kernel
theorem dX4_valueOf_209 : decode cX4_valueOf 209 = .ok (.iconst 0, 1) := by decide +kernel
theorem dX4_valueOf_210 : decode cX4_valueOf 210 = .ok (.ireturn, 1) := by decide +kernel
theorem dX6_isFromTo_0 : decode cX6_isFromTo 0 = .ok (.iload_n 0, 1) := by decide +kernel
theorem dX6_isFromTo_1 : decode cX6_isFromTo 1 = .ok (.iload_n 1, 1) := by decide +kernel
theorem dX6_isFromTo_2 : decode cX6_isFromTo 2 = .ok (.if_icmp .lt 12, 3) := by decide +kernel
theorem dX6_isFromTo_5 : decode cX6_isFromTo 5 = .ok (.iload_n 0, 1) := by decide +kernel
theorem dX6_isFromTo_6 : decode cX6_isFromTo 6 = .ok (.iload_n 2, 1) := by decide +kernel
theorem dX6_isFromTo_7 : decode cX6_isFromTo 7 = .ok (.if_icmp .gt 7, 3) := by decide +kernel
theorem dX6_isFromTo_10 : decode cX6_isFromTo 10 = .ok (.iconst 1, 1) := by decide +kernel
theorem dX6_isFromTo_11 : decode cX6_isFromTo 11 = .ok (.goto 4, 3) := by decide +kernel
theorem dX6_isFromTo_14 : decode cX6_isFromTo 14 = .ok (.iconst 0, 1) := by decide +kernel
theorem dX6_isFromTo_15 : decode cX6_isFromTo 15 = .ok (.ireturn, 1) := by decide +kernel
theorem dX6_isByte_0 : decode cX6_isByte 0 = .ok (.iload_n 0, 1) := by decide +kernel
theorem dX6_isByte_1 : decode cX6_isByte 1 = .ok (.iconst 0, 1) := by decide +kernel
theorem dX6_isByte_2 : decode cX6_isByte 2 = .ok (.sipush 255, 3) := by decide +kernel
theorem dX6_isByte_5 : decode cX6_isByte 5 = .ok (.invokestatic 101, 3) := by decide +kernel
theorem dX6_isByte_8 : decode cX6_isByte 8 = .ok (.ireturn, 1) := by decide +kernel
theorem dX6_has_0 : decode cX6_has 0 = .ok (.iload_n 0, 1) := by decide +kernel
theorem dX6_has_1 : decode cX6_has 1 = .ok (.iload_n 1, 1) := by decide +kernel
theorem dX6_has_2 : decode cX6_has 2 = .ok (.ishr, 1) := by decide +kernel
theorem dX6_has_3 : decode cX6_has 3 = .ok (.iconst 1, 1) := by decide +kernel
theorem dX6_has_4 : decode cX6_has 4 = .ok (.iand, 1) := by decide +kernel
theorem dX6_has_5 : decode cX6_has 5 = .ok (.ifCond .eq 7, 3) := by decide +kernel
theorem dX6_has_8 : decode cX6_has 8 = .ok (.iconst 1, 1) := by decide +kernel
theorem dX6_has_9 : decode cX6_has 9 = .ok (.goto 4, 3) := by decide +kernel
theorem dX6_has_12 : decode cX6_has 12 = .ok (.iconst 0, 1) := by decide +kernel
theorem dX6_has_13 : decode cX6_has 13 = .ok (.ireturn, 1) := by decide +kernel
theorem dJ6_bitCount_0f7a4_0 : decode cJ6_bitCount_0f7a4 0 = .ok (.iload_n 0, 1) := by decide +kernel
theorem dJ6_bitCount_0f7a4_1 : decode cJ6_bitCount_0f7a4 1 = .ok (.iload_n 0, 1) := by decide +kernel
theorem dJ6_bitCount_0f7a4_2 : decode cJ6_bitCount_0f7a4 2 = .ok (.iconst 1, 1) := by decide +kernel
theorem dJ6_bitCount_0f7a4_3 : decode cJ6_bitCount_0f7a4 3 = .ok (.iushr, 1) := by decide +kernel
theorem dJ6_bitCount_0f7a4_4 : decode cJ6_bitCount_0f7a4 4 = .ok (.ldc_w 265, 3) := by decide +kernel
theorem dJ6_bitCount_0f7a4_7 : decode cJ6_bitCount_0f7a4 7 = .ok (.iand, 1) := by decide +kernel
theorem dJ6_bitCount_0f7a4_8 : decode cJ6_bitCount_0f7a4 8 = .ok (.isub, 1) := by decide +kernel
theorem dJ6_bitCount_0f7a4_9 : decode cJ6_bitCount_0f7a4 9 = .ok (.istore_n 0, 1) := by decide +kernel
theorem dJ6_bitCount_0f7a4_10 : decode cJ6_bitCount_0f7a4 10 = .ok (.iload_n 0, 1) := by decide +kernel
theorem dJ6_bitCount_0f7a4_11 : decode cJ6_bitCount_0f7a4 11 = .ok (.ldc_w 266, 3) := by decide +kernel
theorem dJ6_bitCount_0f7a4_14 : decode cJ6_bitCount_0f7a4 14 = .ok (.iand, 1) := by decide +kernel
theorem dJ6_bitCount_0f7a4_15 : decode cJ6_bitCount_0f7a4 15 = .ok (.iload_n 0, 1) := by decide +kernel
theorem dJ6_bitCount_0f7a4_16 : decode cJ6_bitCount_0f7a4 16 = .ok (.iconst 2, 1) := by decide +kernel
theorem dJ6_bitCount_0f7a4_17 : decode cJ6_bitCount_0f7a4 17 = .ok (.iushr, 1) := by decide +kernel
theorem dJ6_bitCount_0f7a4_18 : decode cJ6_bitCount_0f7a4 18 = .ok (.ldc_w 266, 3) := by decide +kernel
theorem dJ6_bitCount_0f7a4_21 : decode cJ6_bitCount_0f7a4 21 = .ok (.iand, 1) := by decide +kernel
theorem dJ6_bitCount_0f7a4_22 : decode cJ6_bitCount_0f7a4 22 = .ok (.iadd, 1) := by decide +kernel
theorem dJ6_bitCount_0f7a4_23 : decode cJ6_bitCount_0f7a4 23 = .ok (.istore_n 0, 1) := by decide +kernel
theorem dJ6_bitCount_0f7a4_24 : decode cJ6_bitCount_0f7a4 24 = .ok (.iload_n 0, 1) := by decide +kernel
theorem dJ6_bitCount_0f7a4_25 : decode cJ6_bitCount_0f7a4 25 = .ok (.iload_n 0, 1) := by decide +kernel
theorem dJ6_bitCount_0f7a4_26 : decode cJ6_bitCount_0f7a4 26 = .ok (.iconst 4, 1) := by decide +kernel
theorem dJ6_bitCount_0f7a4_27 : decode cJ6_bitCount_0f7a4 27 = .ok (.iushr, 1) := by decide +kernel
theorem dJ6_bitCount_0f7a4_28 : decode cJ6_bitCount_0f7a4 28 = .ok (.iadd, 1) := by decide +kernel
theorem dJ6_bitCount_0f7a4_29 : decode cJ6_bitCount_0f7a4 29 = .ok (.ldc_w 267, 3) := by decide +kernel
theorem dJ6_bitCount_0f7a4_32 : decode cJ6_bitCount_0f7a4 32 = .ok (.iand, 1) := by decide +kernel
theorem dJ6_bitCount_0f7a4_33 : decode cJ6_bitCount_0f7a4 33 = .ok (.istore_n 0, 1) := by decide +kernel
theorem dJ6_bitCount_0f7a4_34 : decode cJ6_bitCount_0f7a4 34 = .ok (.iload_n 0, 1) := by decide +kernel
theorem dJ6_bitCount_0f7a4_35 : decode cJ6_bitCount_0f7a4 35 = .ok (.iload_n 0, 1) := by decide +kernel
theorem dJ6_bitCount_0f7a4_36 : decode cJ6_bitCount_0f7a4 36 = .ok (.bipush 8, 2) := by decide +kernel
theorem dJ6_bitCount_0f7a4_38 : decode cJ6_bitCount_0f7a4 38 = .ok (.iushr, 1) := by decide +kernel
theorem dJ6_bitCount_0f7a4_39 : decode cJ6_bitCount_0f7a4 39 = .ok (.iadd, 1) := by decide +kernel
theorem dJ6_bitCount_0f7a4_40 : decode cJ6_bitCount_0f7a4 40 = .ok (.istore_n 0, 1) := by decide +kernel
theorem dJ6_bitCount_0f7a4_41 : decode cJ6_bitCount_0f7a4 41 = .ok (.iload_n 0, 1) := by decide +kernel
theorem dJ6_bitCount_0f7a4_42 : decode cJ6_bitCount_0f7a4 42 = .ok (.iload_n 0, 1) := by decide +kernel
theorem dJ6_bitCount_0f7a4_43 : decode cJ6_bitCount_0f7a4 43 = .ok (.bipush 16, 2) := by decide +kernel
theorem dJ6_bitCount_0f7a4_45 : decode cJ6_bitCount_0f7a4 45 = .ok (.iushr, 1) := by decide +kernel
theorem dJ6_bitCount_0f7a4_46 : decode cJ6_bitCount_0f7a4 46 = .ok (.iadd, 1) := by decide +kernel
theorem dJ6_bitCount_0f7a4_47 : decode cJ6_bitCount_0f7a4 47 = .ok (.istore_n 0, 1) := by decide +kernel
theorem dJ6_bitCount_0f7a4_48 : decode cJ6_bitCount_0f7a4 48 = .ok (.iload_n 0, 1) := by decide +kernel
theorem dJ6_bitCount_0f7a4_49 : decode cJ6_bitCount_0f7a4 49 = .ok (.bipush 63, 2) := by decide +kernel
theorem dJ6_bitCount_0f7a4_51 : decode cJ6_bitCount_0f7a4 51 = .ok (.iand, 1) := by decide +kernel
theorem dJ6_bitCount_0f7a4_52 : decode cJ6_bitCount_0f7a4 52 = .ok (.ireturn, 1) := by decide +kernel
theorem dJ0_length_8abf5_0 : decode cJ0_length_8abf5 0 = .ok (.aload_n 0, 1) := by decide +kernel
theorem dJ0_length_8abf5_1 : decode cJ0_length_8abf5 1 = .ok (.getfield 9, 3) := by decide +kernel
theorem dJ0_length_8abf5_4 : decode cJ0_length_8abf5 4 = .ok (.arraylength, 1) := by decide +kernel
theorem dJ0_length_8abf5_5 : decode cJ0_length_8abf5 5 = .ok (.aload_n 0, 1) := by decide +kernel
theorem dJ0_length_8abf5_6 : decode cJ0_length_8abf5 6 = .ok (.invokevirtual 335, 3) := by decide +kernel
theorem dJ0_length_8abf5_9 : decode cJ0_length_8abf5 9 = .ok (.ishr, 1) := by decide +kernel
theorem dJ0_length_8abf5_10 : decode cJ0_length_8abf5 10 = .ok (.ireturn, 1) := by decide +kernel
theorem dJ0_charAt_5068e_0 : decode cJ0_charAt_5068e 0 = .ok (.aload_n 0, 1) := by decide +kernel
theorem dJ0_charAt_5068e_1 : decode cJ0_charAt_5068e 1 = .ok (.invokevirtual 492, 3) := by decide +kernel
theorem dJ0_charAt_5068e_4 : decode cJ0_charAt_5068e 4 = .ok (.ifCond .eq 12, 3) := by decide +kernel
theorem dJ0_charAt_5068e_7 : decode cJ0_charAt_5068e 7 = .ok (.aload_n 0, 1) := by decide +kernel
theorem dJ0_charAt_5068e_8 : decode cJ0_charAt_5068e 8 = .ok (.getfield 9, 3) := by decide +kernel
theorem dJ0_charAt_5068e_11 : decode cJ0_charAt_5068e 11 = .ok (.iload_n 1, 1) := by decide +kernel
theorem dJ0_charAt_5068e_12 : decode cJ0_charAt_5068e 12 = .ok (.invokestatic 495, 3) := by decide +kernel
theorem dJ0_charAt_5068e_15 : decode cJ0_charAt_5068e 15 = .ok (.ireturn, 1) := by decide +kernel
theorem dJ0_charAt_5068e_16 : decode cJ0_charAt_5068e 16 = .ok (.aload_n 0, 1) := by decide +kernel
theorem dJ0_charAt_5068e_17 : decode cJ0_charAt_5068e 17 = .ok (.getfield 9, 3) := by decide +kernel
theorem dJ0_charAt_5068e_20 : decode cJ0_charAt_5068e 20 = .ok (.iload_n 1, 1) := by decide +kernel
theorem dJ0_charAt_5068e_21 : decode cJ0_charAt_5068e 21 = .ok (.invokestatic 498, 3) := by decide +kernel
theorem dJ0_charAt_5068e_24 : decode cJ0_charAt_5068e 24 = .ok (.ireturn, 1) := by decide +kernel
theorem dJ0_coder_7d493_0 : decode cJ0_coder_7d493 0 = .ok (.getstatic 38, 3) := by decide +kernel
theorem dJ0_coder_7d493_3 : decode cJ0_coder_7d493 3 = .ok (.ifCond .eq 10, 3) := by decide +kernel
theorem dJ0_coder_7d493_6 : decode cJ0_coder_7d493 6 = .ok (.aload_n 0, 1) := by decide +kernel
theorem dJ0_coder_7d493_7 : decode cJ0_coder_7d493 7 = .ok (.getfield 15, 3) := by decide +kernel
theorem dJ0_coder_7d493_10 : decode cJ0_coder_7d493 10 = .ok (.goto 4, 3) := by decide +kernel
theorem dJ0_coder_7d493_13 : decode cJ0_coder_7d493 13 = .ok (.iconst 1, 1) := by decide +kernel
theorem dJ0_coder_7d493_14 : decode cJ0_coder_7d493 14 = .ok (.ireturn, 1) := by decide +kernel
theorem dJ0_isLatin1_aae02_0 : decode cJ0_isLatin1_aae02 0 = .ok (.getstatic 38, 3) := by decide +kernel
theorem dJ0_isLatin1_aae02_3 : decode cJ0_isLatin1_aae02 3 = .ok (.ifCond .eq 14, 3) := by decide +kernel
theorem dJ0_isLatin1_aae02_6 : decode cJ0_isLatin1_aae02 6 = .ok (.aload_n 0, 1) := by decide +kernel
theorem dJ0_isLatin1_aae02_7 : decode cJ0_isLatin1_aae02 7 = .ok (.getfield 15, 3) := by decide +kernel
theorem dJ0_isLatin1_aae02_10 : decode cJ0_isLatin1_aae02 10 = .ok (.ifCond .ne 7, 3) := by decide +kernel
theorem dJ0_isLatin1_aae02_13 : decode cJ0_isLatin1_aae02 13 = .ok (.iconst 1, 1) := by decide +kernel
theorem dJ0_isLatin1_aae02_14 : decode cJ0_isLatin1_aae02 14 = .ok (.goto 4, 3) := by decide +kernel
theorem dJ0_isLatin1_aae02_17 : decode cJ0_isLatin1_aae02 17 = .ok (.iconst 0, 1) := by decide +kernel
theorem dJ0_isLatin1_aae02_18 : decode cJ0_isLatin1_aae02 18 = .ok (.ireturn, 1) := by decide +kernel
theorem dJ0_checkIndex_df160_0 : decode cJ0_checkIndex_df160 0 = .ok (.iload_n 0, 1) := by decide +kernel
theorem dJ0_checkIndex_df160_1 : decode cJ0_checkIndex_df160 1 = .ok (.iload_n 1, 1) := by decide +kernel
theorem dJ0_checkIndex_df160_2 : decode cJ0_checkIndex_df160 2 = .ok (.getstatic 1053, 3) := by decide +kernel
theorem dJ0_checkIndex_df160_5 : decode cJ0_checkIndex_df160 5 = .ok (.invokestatic 1059, 3) := by decide +kernel
theorem dJ0_checkIndex_df160_8 : decode cJ0_checkIndex_df160 8 = .ok (.pop, 1) := by decide +kernel
theorem dJ0_checkIndex_df160_9 : decode cJ0_checkIndex_df160 9 = .ok (.return_, 1) := by decide +kernel
theorem dJ1_charAt_3b067_0 : decode cJ1_charAt_3b067 0 = .ok (.iload_n 1, 1) := by decide +kernel
theorem dJ1_charAt_3b067_1 : decode cJ1_charAt_3b067 1 = .ok (.aload_n 0, 1) := by decide +kernel
theorem dJ1_charAt_3b067_2 : decode cJ1_charAt_3b067 2 = .ok (.arraylength, 1) := by decide +kernel
theorem dJ1_charAt_3b067_3 : decode cJ1_charAt_3b067 3 = .ok (.invokestatic 9, 3) := by decide +kernel
theorem dJ1_charAt_3b067_6 : decode cJ1_charAt_3b067 6 = .ok (.aload_n 0, 1) := by decide +kernel
theorem dJ1_charAt_3b067_7 : decode cJ1_charAt_3b067 7 = .ok (.iload_n 1, 1) := by decide +kernel
theorem dJ1_charAt_3b067_8 : decode cJ1_charAt_3b067 8 = .ok (.baload, 1) := by decide +kernel
theorem dJ1_charAt_3b067_9 : decode cJ1_charAt_3b067 9 = .ok (.sipush 255, 3) := by decide +kernel
theorem dJ1_charAt_3b067_12 : decode cJ1_charAt_3b067 12 = .ok (.iand, 1) := by decide +kernel
theorem dJ1_charAt_3b067_13 : decode cJ1_charAt_3b067 13 = .ok (.i2c, 1) := by decide +kernel
theorem dJ1_charAt_3b067_14 : decode cJ1_charAt_3b067 14 = .ok (.ireturn, 1) := by decide +kernel
theorem dJ3_checkIndex_8e157_0 : decode cJ3_checkIndex_8e157 0 = .ok (.iload_n 0, 1) := by decide +kernel
theorem dJ3_checkIndex_8e157_1 : decode cJ3_checkIndex_8e157 1 = .ok (.ifCond .lt 8, 3) := by decide +kernel
theorem dJ3_checkIndex_8e157_4 : decode cJ3_checkIndex_8e157 4 = .ok (.iload_n 0, 1) := by decide +kernel
theorem dJ3_checkIndex_8e157_5 : decode cJ3_checkIndex_8e157 5 = .ok (.iload_n 1, 1) := by decide +kernel
theorem dJ3_checkIndex_8e157_6 : decode cJ3_checkIndex_8e157 6 = .ok (.if_icmp .lt 10, 3) := by decide +kernel
theorem dJ3_checkIndex_8e157_9 : decode cJ3_checkIndex_8e157 9 = .ok (.aload_n 2, 1) := by decide +kernel
theorem dJ3_checkIndex_8e157_10 : decode cJ3_checkIndex_8e157 10 = .ok (.iload_n 0, 1) := by decide +kernel
theorem dJ3_checkIndex_8e157_11 : decode cJ3_checkIndex_8e157 11 = .ok (.iload_n 1, 1) := by decide +kernel
theorem dJ3_checkIndex_8e157_12 : decode cJ3_checkIndex_8e157 12 = .ok (.invokestatic 95, 3) := by decide +kernel
theorem dJ3_checkIndex_8e157_15 : decode cJ3_checkIndex_8e157 15 = .ok (.athrow, 1) := by decide +kernel
theorem dJ3_checkIndex_8e157_16 : decode cJ3_checkIndex_8e157 16 = .ok (.iload_n 0, 1) := by decide +kernel
theorem dJ3_checkIndex_8e157_17 : decode cJ3_checkIndex_8e157 17 = .ok (.ireturn, 1) := by decide +kernel
