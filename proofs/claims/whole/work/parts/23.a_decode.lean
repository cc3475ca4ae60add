theorem dX7_in_0 : decode cX7_in 0 = .ok (.iload_n 0, 1) := by decide +kernel
theorem dX7_in_1 : decode cX7_in 1 = .ok (.iload_n 1, 1) := by decide +kernel
theorem dX7_in_2 : decode cX7_in 2 = .ok (.if_icmp .lt 12, 3) := by decide +kernel
theorem dX7_in_5 : decode cX7_in 5 = .ok (.iload_n 0, 1) := by decide +kernel
theorem dX7_in_6 : decode cX7_in 6 = .ok (.iload_n 2, 1) := by decide +kernel
theorem dX7_in_7 : decode cX7_in 7 = .ok (.if_icmp .gt 7, 3) := by decide +kernel
theorem dX7_in_10 : decode cX7_in 10 = .ok (.iconst 1, 1) := by decide +kernel
theorem dX7_in_11 : decode cX7_in 11 = .ok (.goto 4, 3) := by decide +kernel
theorem dX7_in_14 : decode cX7_in 14 = .ok (.iconst 0, 1) := by decide +kernel
theorem dX7_in_15 : decode cX7_in 15 = .ok (.ireturn, 1) := by decide +kernel
theorem dX7_within_0 : decode cX7_within 0 = .ok (.iload_n 0, 1) := by decide +kernel
theorem dX7_within_1 : decode cX7_within 1 = .ok (.iload_n 1, 1) := by decide +kernel
theorem dX7_within_2 : decode cX7_within 2 = .ok (.if_icmp .ge 7, 3) := by decide +kernel
theorem dX7_within_5 : decode cX7_within 5 = .ok (.iload_n 1, 1) := by decide +kernel
theorem dX7_within_6 : decode cX7_within 6 = .ok (.goto 13, 3) := by decide +kernel
theorem dX7_within_9 : decode cX7_within 9 = .ok (.iload_n 0, 1) := by decide +kernel
theorem dX7_within_10 : decode cX7_within 10 = .ok (.iload_n 2, 1) := by decide +kernel
theorem dX7_within_11 : decode cX7_within 11 = .ok (.if_icmp .le 7, 3) := by decide +kernel
theorem dX7_within_14 : decode cX7_within 14 = .ok (.iload_n 2, 1) := by decide +kernel
theorem dX7_within_15 : decode cX7_within 15 = .ok (.goto 4, 3) := by decide +kernel
theorem dX7_within_18 : decode cX7_within 18 = .ok (.iload_n 0, 1) := by decide +kernel
theorem dX7_within_19 : decode cX7_within 19 = .ok (.ireturn, 1) := by decide +kernel
theorem dX7_isHut_0 : decode cX7_isHut 0 = .ok (.iload_n 1, 1) := by decide +kernel
theorem dX7_isHut_1 : decode cX7_isHut 1 = .ok (.iconst 0, 1) := by decide +kernel
theorem dX7_isHut_2 : decode cX7_isHut 2 = .ok (.aload_n 0, 1) := by decide +kernel
theorem dX7_isHut_3 : decode cX7_isHut 3 = .ok (.getfield 84, 3) := by decide +kernel
theorem dX7_isHut_6 : decode cX7_isHut 6 = .ok (.iconst 1, 1) := by decide +kernel
theorem dX7_isHut_7 : decode cX7_isHut 7 = .ok (.isub, 1) := by decide +kernel
theorem dX7_isHut_8 : decode cX7_isHut 8 = .ok (.invokestatic 87, 3) := by decide +kernel
theorem dX7_isHut_11 : decode cX7_isHut 11 = .ok (.ireturn, 1) := by decide +kernel
theorem dX7_isLoan_0 : decode cX7_isLoan 0 = .ok (.iload_n 1, 1) := by decide +kernel
theorem dX7_isLoan_1 : decode cX7_isLoan 1 = .ok (.iconst 0, 1) := by decide +kernel
theorem dX7_isLoan_2 : decode cX7_isLoan 2 = .ok (.aload_n 0, 1) := by decide +kernel
theorem dX7_isLoan_3 : decode cX7_isLoan 3 = .ok (.getfield 91, 3) := by decide +kernel
theorem dX7_isLoan_6 : decode cX7_isLoan 6 = .ok (.iconst 1, 1) := by decide +kernel
theorem dX7_isLoan_7 : decode cX7_isLoan 7 = .ok (.isub, 1) := by decide +kernel
theorem dX7_isLoan_8 : decode cX7_isLoan 8 = .ok (.invokestatic 87, 3) := by decide +kernel
theorem dX7_isLoan_11 : decode cX7_isLoan 11 = .ok (.ireturn, 1) := by decide +kernel
theorem dX7_owedBy_0 : decode cX7_owedBy 0 = .ok (.iconst 0, 1) := by decide +kernel
theorem dX7_owedBy_1 : decode cX7_owedBy 1 = .ok (.istore_n 2, 1) := by decide +kernel
theorem dX7_owedBy_2 : decode cX7_owedBy 2 = .ok (.iconst 0, 1) := by decide +kernel
theorem dX7_owedBy_3 : decode cX7_owedBy 3 = .ok (.istore_n 3, 1) := by decide +kernel
theorem dX7_owedBy_4 : decode cX7_owedBy 4 = .ok (.iload_n 3, 1) := by decide +kernel
theorem dX7_owedBy_5 : decode cX7_owedBy 5 = .ok (.aload_n 0, 1) := by decide +kernel
theorem dX7_owedBy_6 : decode cX7_owedBy 6 = .ok (.getfield 91, 3) := by decide +kernel
theorem dX7_owedBy_9 : decode cX7_owedBy 9 = .ok (.if_icmp .ge 32, 3) := by decide +kernel
theorem dX7_owedBy_12 : decode cX7_owedBy 12 = .ok (.iload_n 2, 1) := by decide +kernel
theorem dX7_owedBy_13 : decode cX7_owedBy 13 = .ok (.aload_n 0, 1) := by decide +kernel
theorem dX7_owedBy_14 : decode cX7_owedBy 14 = .ok (.getfield 22, 3) := by decide +kernel
theorem dX7_owedBy_17 : decode cX7_owedBy 17 = .ok (.iload_n 3, 1) := by decide +kernel
theorem dX7_owedBy_18 : decode cX7_owedBy 18 = .ok (.iaload, 1) := by decide +kernel
theorem dX7_owedBy_19 : decode cX7_owedBy 19 = .ok (.iload_n 1, 1) := by decide +kernel
theorem dX7_owedBy_20 : decode cX7_owedBy 20 = .ok (.if_icmp .ne 12, 3) := by decide +kernel
theorem dX7_owedBy_23 : decode cX7_owedBy 23 = .ok (.aload_n 0, 1) := by decide +kernel
theorem dX7_owedBy_24 : decode cX7_owedBy 24 = .ok (.getfield 25, 3) := by decide +kernel
theorem dX7_owedBy_27 : decode cX7_owedBy 27 = .ok (.iload_n 3, 1) := by decide +kernel
theorem dX7_owedBy_28 : decode cX7_owedBy 28 = .ok (.iaload, 1) := by decide +kernel
theorem dX7_owedBy_29 : decode cX7_owedBy 29 = .ok (.goto 4, 3) := by decide +kernel
theorem dX7_owedBy_32 : decode cX7_owedBy 32 = .ok (.iconst 0, 1) := by decide +kernel
theorem dX7_owedBy_33 : decode cX7_owedBy 33 = .ok (.iadd, 1) := by decide +kernel
theorem dX7_owedBy_34 : decode cX7_owedBy 34 = .ok (.istore_n 2, 1) := by decide +kernel
theorem dX7_owedBy_35 : decode cX7_owedBy 35 = .ok (.iinc 3 1, 3) := by decide +kernel
theorem dX7_owedBy_38 : decode cX7_owedBy 38 = .ok (.goto (-34), 3) := by decide +kernel
theorem dX7_owedBy_41 : decode cX7_owedBy 41 = .ok (.iload_n 2, 1) := by decide +kernel
theorem dX7_owedBy_42 : decode cX7_owedBy 42 = .ok (.ireturn, 1) := by decide +kernel
theorem dX7_owedTo_0 : decode cX7_owedTo 0 = .ok (.iconst 0, 1) := by decide +kernel
theorem dX7_owedTo_1 : decode cX7_owedTo 1 = .ok (.istore_n 2, 1) := by decide +kernel
theorem dX7_owedTo_2 : decode cX7_owedTo 2 = .ok (.iconst 0, 1) := by decide +kernel
theorem dX7_owedTo_3 : decode cX7_owedTo 3 = .ok (.istore_n 3, 1) := by decide +kernel
theorem dX7_owedTo_4 : decode cX7_owedTo 4 = .ok (.iload_n 3, 1) := by decide +kernel
theorem dX7_owedTo_5 : decode cX7_owedTo 5 = .ok (.aload_n 0, 1) := by decide +kernel
theorem dX7_owedTo_6 : decode cX7_owedTo 6 = .ok (.getfield 91, 3) := by decide +kernel
theorem dX7_owedTo_9 : decode cX7_owedTo 9 = .ok (.if_icmp .ge 32, 3) := by decide +kernel
theorem dX7_owedTo_12 : decode cX7_owedTo 12 = .ok (.iload_n 2, 1) := by decide +kernel
theorem dX7_owedTo_13 : decode cX7_owedTo 13 = .ok (.aload_n 0, 1) := by decide +kernel
theorem dX7_owedTo_14 : decode cX7_owedTo 14 = .ok (.getfield 19, 3) := by decide +kernel
theorem dX7_owedTo_17 : decode cX7_owedTo 17 = .ok (.iload_n 3, 1) := by decide +kernel
theorem dX7_owedTo_18 : decode cX7_owedTo 18 = .ok (.iaload, 1) := by decide +kernel
theorem dX7_owedTo_19 : decode cX7_owedTo 19 = .ok (.iload_n 1, 1) := by decide +kernel
theorem dX7_owedTo_20 : decode cX7_owedTo 20 = .ok (.if_icmp .ne 12, 3) := by decide +kernel
theorem dX7_owedTo_23 : decode cX7_owedTo 23 = .ok (.aload_n 0, 1) := by decide +kernel
theorem dX7_owedTo_24 : decode cX7_owedTo 24 = .ok (.getfield 25, 3) := by decide +kernel
theorem dX7_owedTo_27 : decode cX7_owedTo 27 = .ok (.iload_n 3, 1) := by decide +kernel
theorem dX7_owedTo_28 : decode cX7_owedTo 28 = .ok (.iaload, 1) := by decide +kernel
theorem dX7_owedTo_29 : decode cX7_owedTo 29 = .ok (.goto 4, 3) := by decide +kernel
theorem dX7_owedTo_32 : decode cX7_owedTo 32 = .ok (.iconst 0, 1) := by decide +kernel
theorem dX7_owedTo_33 : decode cX7_owedTo 33 = .ok (.iadd, 1) := by decide +kernel
theorem dX7_owedTo_34 : decode cX7_owedTo 34 = .ok (.istore_n 2, 1) := by decide +kernel
theorem dX7_owedTo_35 : decode cX7_owedTo 35 = .ok (.iinc 3 1, 3) := by decide +kernel
theorem dX7_owedTo_38 : decode cX7_owedTo 38 = .ok (.goto (-34), 3) := by decide +kernel
theorem dX7_owedTo_41 : decode cX7_owedTo 41 = .ok (.iload_n 2, 1) := by decide +kernel
theorem dX7_owedTo_42 : decode cX7_owedTo 42 = .ok (.ireturn, 1) := by decide +kernel
theorem dX7_lentBy_0 : decode cX7_lentBy 0 = .ok (.iconst 0, 1) := by decide +kernel
theorem dX7_lentBy_1 : decode cX7_lentBy 1 = .ok (.istore_n 2, 1) := by decide +kernel
theorem dX7_lentBy_2 : decode cX7_lentBy 2 = .ok (.iconst 0, 1) := by decide +kernel
theorem dX7_lentBy_3 : decode cX7_lentBy 3 = .ok (.istore_n 3, 1) := by decide +kernel
theorem dX7_lentBy_4 : decode cX7_lentBy 4 = .ok (.iload_n 3, 1) := by decide +kernel
theorem dX7_lentBy_5 : decode cX7_lentBy 5 = .ok (.aload_n 0, 1) := by decide +kernel
theorem dX7_lentBy_6 : decode cX7_lentBy 6 = .ok (.getfield 91, 3) := by decide +kernel
theorem dX7_lentBy_9 : decode cX7_lentBy 9 = .ok (.if_icmp .ge 27, 3) := by decide +kernel
theorem dX7_lentBy_12 : decode cX7_lentBy 12 = .ok (.iload_n 2, 1) := by decide +kernel
theorem dX7_lentBy_13 : decode cX7_lentBy 13 = .ok (.aload_n 0, 1) := by decide +kernel
theorem dX7_lentBy_14 : decode cX7_lentBy 14 = .ok (.getfield 19, 3) := by decide +kernel
theorem dX7_lentBy_17 : decode cX7_lentBy 17 = .ok (.iload_n 3, 1) := by decide +kernel
theorem dX7_lentBy_18 : decode cX7_lentBy 18 = .ok (.iaload, 1) := by decide +kernel
theorem dX7_lentBy_19 : decode cX7_lentBy 19 = .ok (.iload_n 1, 1) := by decide +kernel
theorem dX7_lentBy_20 : decode cX7_lentBy 20 = .ok (.if_icmp .ne 7, 3) := by decide +kernel
theorem dX7_lentBy_23 : decode cX7_lentBy 23 = .ok (.iconst 1, 1) := by decide +kernel
theorem dX7_lentBy_24 : decode cX7_lentBy 24 = .ok (.goto 4, 3) := by decide +kernel
theorem dX7_lentBy_27 : decode cX7_lentBy 27 = .ok (.iconst 0, 1) := by decide +kernel
theorem dX7_lentBy_28 : decode cX7_lentBy 28 = .ok (.iadd, 1) := by decide +kernel
theorem dX7_lentBy_29 : decode cX7_lentBy 29 = .ok (.istore_n 2, 1) := by decide +kernel
theorem dX7_lentBy_30 : decode cX7_lentBy 30 = .ok (.iinc 3 1, 3) := by decide +kernel
theorem dX7_lentBy_33 : decode cX7_lentBy 33 = .ok (.goto (-29), 3) := by decide +kernel
theorem dX7_lentBy_36 : decode cX7_lentBy 36 = .ok (.iload_n 2, 1) := by decide +kernel
theorem dX7_lentBy_37 : decode cX7_lentBy 37 = .ok (.ireturn, 1) := by decide +kernel
theorem dX7_heatAll_0 : decode cX7_heatAll 0 = .ok (.iconst 0, 1) := by decide +kernel
theorem dX7_heatAll_1 : decode cX7_heatAll 1 = .ok (.istore_n 1, 1) := by decide +kernel
theorem dX7_heatAll_2 : decode cX7_heatAll 2 = .ok (.iconst 0, 1) := by decide +kernel
theorem dX7_heatAll_3 : decode cX7_heatAll 3 = .ok (.istore_n 2, 1) := by decide +kernel
theorem dX7_heatAll_4 : decode cX7_heatAll 4 = .ok (.iload_n 2, 1) := by decide +kernel
theorem dX7_heatAll_5 : decode cX7_heatAll 5 = .ok (.aload_n 0, 1) := by decide +kernel
theorem dX7_heatAll_6 : decode cX7_heatAll 6 = .ok (.getfield 84, 3) := by decide +kernel
theorem dX7_heatAll_9 : decode cX7_heatAll 9 = .ok (.if_icmp .ge 20, 3) := by decide +kernel
theorem dX7_heatAll_12 : decode cX7_heatAll 12 = .ok (.iload_n 1, 1) := by decide +kernel
theorem dX7_heatAll_13 : decode cX7_heatAll 13 = .ok (.aload_n 0, 1) := by decide +kernel
theorem dX7_heatAll_14 : decode cX7_heatAll 14 = .ok (.getfield 16, 3) := by decide +kernel
theorem dX7_heatAll_17 : decode cX7_heatAll 17 = .ok (.iconst 3, 1) := by decide +kernel
theorem dX7_heatAll_18 : decode cX7_heatAll 18 = .ok (.iload_n 2, 1) := by decide +kernel
theorem dX7_heatAll_19 : decode cX7_heatAll 19 = .ok (.imul, 1) := by decide +kernel
theorem dX7_heatAll_20 : decode cX7_heatAll 20 = .ok (.iaload, 1) := by decide +kernel
theorem dX7_heatAll_21 : decode cX7_heatAll 21 = .ok (.iadd, 1) := by decide +kernel
theorem dX7_heatAll_22 : decode cX7_heatAll 22 = .ok (.istore_n 1, 1) := by decide +kernel
theorem dX7_heatAll_23 : decode cX7_heatAll 23 = .ok (.iinc 2 1, 3) := by decide +kernel
theorem dX7_heatAll_26 : decode cX7_heatAll 26 = .ok (.goto (-22), 3) := by decide +kernel
theorem dX7_heatAll_29 : decode cX7_heatAll 29 = .ok (.iload_n 1, 1) := by decide +kernel
theorem dX7_heatAll_30 : decode cX7_heatAll 30 = .ok (.ireturn, 1) := by decide +kernel
theorem dX7_count_0 : decode cX7_count 0 = .ok (.iload_n 1, 1) := by decide +kernel
theorem dX7_count_1 : decode cX7_count 1 = .ok (.tableswitch 78 0 6 #[43, 48, 53, 58, 63, 68, 73], 43) := by decide +kernel
theorem dX7_count_44 : decode cX7_count 44 = .ok (.aload_n 0, 1) := by decide +kernel
theorem dX7_count_45 : decode cX7_count 45 = .ok (.getfield 84, 3) := by decide +kernel
theorem dX7_count_48 : decode cX7_count 48 = .ok (.ireturn, 1) := by decide +kernel
theorem dX7_count_49 : decode cX7_count 49 = .ok (.aload_n 0, 1) := by decide +kernel
theorem dX7_count_50 : decode cX7_count 50 = .ok (.getfield 91, 3) := by decide +kernel
theorem dX7_count_53 : decode cX7_count 53 = .ok (.ireturn, 1) := by decide +kernel
theorem dX7_count_54 : decode cX7_count 54 = .ok (.aload_n 0, 1) := by decide +kernel
theorem dX7_count_55 : decode cX7_count 55 = .ok (.getfield 94, 3) := by decide +kernel
theorem dX7_count_58 : decode cX7_count 58 = .ok (.ireturn, 1) := by decide +kernel
theorem dX7_count_59 : decode cX7_count 59 = .ok (.aload_n 0, 1) := by decide +kernel
theorem dX7_count_60 : decode cX7_count 60 = .ok (.invokevirtual 97, 3) := by decide +kernel
theorem dX7_count_63 : decode cX7_count 63 = .ok (.ireturn, 1) := by decide +kernel
theorem dX7_count_64 : decode cX7_count 64 = .ok (.aload_n 0, 1) := by decide +kernel
theorem dX7_count_65 : decode cX7_count 65 = .ok (.getfield 100, 3) := by decide +kernel
theorem dX7_count_68 : decode cX7_count 68 = .ok (.ireturn, 1) := by decide +kernel
theorem dX7_count_69 : decode cX7_count 69 = .ok (.aload_n 0, 1) := by decide +kernel
theorem dX7_count_70 : decode cX7_count 70 = .ok (.getfield 103, 3) := by decide +kernel
theorem dX7_count_73 : decode cX7_count 73 = .ok (.ireturn, 1) := by decide +kernel
theorem dX7_count_74 : decode cX7_count 74 = .ok (.aload_n 0, 1) := by decide +kernel
theorem dX7_count_75 : decode cX7_count 75 = .ok (.getfield 76, 3) := by decide +kernel
theorem dX7_count_78 : decode cX7_count 78 = .ok (.ireturn, 1) := by decide +kernel
theorem dX7_count_79 : decode cX7_count 79 = .ok (.bipush (-2), 2) := by decide +kernel
theorem dX7_count_81 : decode cX7_count 81 = .ok (.ireturn, 1) := by decide +kernel
theorem dX7_isByte_0 : decode cX7_isByte 0 = .ok (.iload_n 0, 1) := by decide +kernel
theorem dX7_isByte_1 : decode cX7_isByte 1 = .ok (.iconst 0, 1) := by decide +kernel
theorem dX7_isByte_2 : decode cX7_isByte 2 = .ok (.sipush 255, 3) := by decide +kernel
theorem dX7_isByte_5 : decode cX7_isByte 5 = .ok (.invokestatic 87, 3) := by decide +kernel
theorem dX7_isByte_8 : decode cX7_isByte 8 = .ok (.ireturn, 1) := by decide +kernel
theorem dX7_feed_0 : decode cX7_feed 0 = .ok (.iload_n 1, 1) := by decide +kernel
theorem dX7_feed_1 : decode cX7_feed 1 = .ok (.iconst 1, 1) := by decide +kernel
theorem dX7_feed_2 : decode cX7_feed 2 = .ok (.iconst 5, 1) := by decide +kernel
theorem dX7_feed_3 : decode cX7_feed 3 = .ok (.invokestatic 87, 3) := by decide +kernel
theorem dX7_feed_6 : decode cX7_feed 6 = .ok (.ifCond .eq 41, 3) := by decide +kernel
theorem dX7_feed_9 : decode cX7_feed 9 = .ok (.iload_n 2, 1) := by decide +kernel
theorem dX7_feed_10 : decode cX7_feed 10 = .ok (.invokestatic 106, 3) := by decide +kernel
theorem dX7_feed_13 : decode cX7_feed 13 = .ok (.ifCond .eq 34, 3) := by decide +kernel
theorem dX7_feed_16 : decode cX7_feed 16 = .ok (.iload_n 3, 1) := by decide +kernel
theorem dX7_feed_17 : decode cX7_feed 17 = .ok (.invokestatic 106, 3) := by decide +kernel
theorem dX7_feed_20 : decode cX7_feed 20 = .ok (.ifCond .eq 27, 3) := by decide +kernel
theorem dX7_feed_23 : decode cX7_feed 23 = .ok (.iload 4, 2) := by decide +kernel
theorem dX7_feed_25 : decode cX7_feed 25 = .ok (.invokestatic 106, 3) := by decide +kernel
theorem dX7_feed_28 : decode cX7_feed 28 = .ok (.ifCond .eq 19, 3) := by decide +kernel
theorem dX7_feed_31 : decode cX7_feed 31 = .ok (.iload 5, 2) := by decide +kernel
theorem dX7_feed_33 : decode cX7_feed 33 = .ok (.invokestatic 106, 3) := by decide +kernel
theorem dX7_feed_36 : decode cX7_feed 36 = .ok (.ifCond .eq 11, 3) := by decide +kernel
theorem dX7_feed_39 : decode cX7_feed 39 = .ok (.iload 6, 2) := by decide +kernel
theorem dX7_feed_41 : decode cX7_feed 41 = .ok (.invokestatic 106, 3) := by decide +kernel
theorem dX7_feed_44 : decode cX7_feed 44 = .ok (.ifCond .ne 6, 3) := by decide +kernel
theorem dX7_feed_47 : decode cX7_feed 47 = .ok (.bipush (-2), 2) := by decide +kernel
theorem dX7_feed_49 : decode cX7_feed 49 = .ok (.ireturn, 1) := by decide +kernel
theorem dX7_feed_50 : decode cX7_feed 50 = .ok (.aload_n 0, 1) := by decide +kernel
theorem dX7_feed_51 : decode cX7_feed 51 = .ok (.getfield 76, 3) := by decide +kernel
theorem dX7_feed_54 : decode cX7_feed 54 = .ok (.iload_n 1, 1) := by decide +kernel
theorem dX7_feed_55 : decode cX7_feed 55 = .ok (.iadd, 1) := by decide +kernel
theorem dX7_feed_56 : decode cX7_feed 56 = .ok (.sipush 160, 3) := by decide +kernel
theorem dX7_feed_59 : decode cX7_feed 59 = .ok (.if_icmp .le 6, 3) := by decide +kernel
theorem dX7_feed_62 : decode cX7_feed 62 = .ok (.bipush (-4), 2) := by decide +kernel
theorem dX7_feed_64 : decode cX7_feed 64 = .ok (.ireturn, 1) := by decide +kernel
theorem dX7_feed_65 : decode cX7_feed 65 = .ok (.iconst 0, 1) := by decide +kernel
theorem dX7_feed_66 : decode cX7_feed 66 = .ok (.istore 7, 2) := by decide +kernel
theorem dX7_feed_68 : decode cX7_feed 68 = .ok (.iload 7, 2) := by decide +kernel
theorem dX7_feed_70 : decode cX7_feed 70 = .ok (.iload_n 1, 1) := by decide +kernel
theorem dX7_feed_71 : decode cX7_feed 71 = .ok (.if_icmp .ge 71, 3) := by decide +kernel
theorem dX7_feed_74 : decode cX7_feed 74 = .ok (.aload_n 0, 1) := by decide +kernel
theorem dX7_feed_75 : decode cX7_feed 75 = .ok (.getfield 31, 3) := by decide +kernel
theorem dX7_feed_78 : decode cX7_feed 78 = .ok (.aload_n 0, 1) := by decide +kernel
theorem dX7_feed_79 : decode cX7_feed 79 = .ok (.getfield 76, 3) := by decide +kernel
theorem dX7_feed_82 : decode cX7_feed 82 = .ok (.iload 7, 2) := by decide +kernel
theorem dX7_feed_84 : decode cX7_feed 84 = .ok (.ifCond .ne 7, 3) := by decide +kernel
theorem dX7_feed_87 : decode cX7_feed 87 = .ok (.iload_n 2, 1) := by decide +kernel
theorem dX7_feed_88 : decode cX7_feed 88 = .ok (.goto 37, 3) := by decide +kernel
theorem dX7_feed_91 : decode cX7_feed 91 = .ok (.iload 7, 2) := by decide +kernel
theorem dX7_feed_93 : decode cX7_feed 93 = .ok (.iconst 1, 1) := by decide +kernel
theorem dX7_feed_94 : decode cX7_feed 94 = .ok (.if_icmp .ne 7, 3) := by decide +kernel
theorem dX7_feed_97 : decode cX7_feed 97 = .ok (.iload_n 3, 1) := by decide +kernel
theorem dX7_feed_98 : decode cX7_feed 98 = .ok (.goto 27, 3) := by decide +kernel
theorem dX7_feed_101 : decode cX7_feed 101 = .ok (.iload 7, 2) := by decide +kernel
theorem dX7_feed_103 : decode cX7_feed 103 = .ok (.iconst 2, 1) := by decide +kernel
theorem dX7_feed_104 : decode cX7_feed 104 = .ok (.if_icmp .ne 8, 3) := by decide +kernel
theorem dX7_feed_107 : decode cX7_feed 107 = .ok (.iload 4, 2) := by decide +kernel
theorem dX7_feed_109 : decode cX7_feed 109 = .ok (.goto 16, 3) := by decide +kernel
theorem dX7_feed_112 : decode cX7_feed 112 = .ok (.iload 7, 2) := by decide +kernel
theorem dX7_feed_114 : decode cX7_feed 114 = .ok (.iconst 3, 1) := by decide +kernel
theorem dX7_feed_115 : decode cX7_feed 115 = .ok (.if_icmp .ne 8, 3) := by decide +kernel
theorem dX7_feed_118 : decode cX7_feed 118 = .ok (.iload 5, 2) := by decide +kernel
theorem dX7_feed_120 : decode cX7_feed 120 = .ok (.goto 5, 3) := by decide +kernel
theorem dX7_feed_123 : decode cX7_feed 123 = .ok (.iload 6, 2) := by decide +kernel
theorem dX7_feed_125 : decode cX7_feed 125 = .ok (.iastore, 1) := by decide +kernel
theorem dX7_feed_126 : decode cX7_feed 126 = .ok (.aload_n 0, 1) := by decide +kernel
theorem dX7_feed_127 : decode cX7_feed 127 = .ok (.dup, 1) := by decide +kernel
theorem dX7_feed_128 : decode cX7_feed 128 = .ok (.getfield 76, 3) := by decide +kernel
theorem dX7_feed_131 : decode cX7_feed 131 = .ok (.iconst 1, 1) := by decide +kernel
theorem dX7_feed_132 : decode cX7_feed 132 = .ok (.iadd, 1) := by decide +kernel
theorem dX7_feed_133 : decode cX7_feed 133 = .ok (.putfield 76, 3) := by decide +kernel
theorem dX7_feed_136 : decode cX7_feed 136 = .ok (.iinc 7 1, 3) := by decide +kernel
theorem dX7_feed_139 : decode cX7_feed 139 = .ok (.goto (-71), 3) := by decide +kernel
theorem dX7_feed_142 : decode cX7_feed 142 = .ok (.aload_n 0, 1) := by decide +kernel
theorem dX7_feed_143 : decode cX7_feed 143 = .ok (.getfield 76, 3) := by decide +kernel
theorem dX7_feed_146 : decode cX7_feed 146 = .ok (.ireturn, 1) := by decide +kernel
theorem dX7_wordFrom_0 : decode cX7_wordFrom 0 = .ok (.iconst 0, 1) := by decide +kernel
theorem dX7_wordFrom_1 : decode cX7_wordFrom 1 = .ok (.istore_n 3, 1) := by decide +kernel
theorem dX7_wordFrom_2 : decode cX7_wordFrom 2 = .ok (.iload_n 3, 1) := by decide +kernel
theorem dX7_wordFrom_3 : decode cX7_wordFrom 3 = .ok (.bipush 12, 2) := by decide +kernel
theorem dX7_wordFrom_5 : decode cX7_wordFrom 5 = .ok (.if_icmp .ge 96, 3) := by decide +kernel
theorem dX7_wordFrom_8 : decode cX7_wordFrom 8 = .ok (.iload_n 2, 1) := by decide +kernel
theorem dX7_wordFrom_9 : decode cX7_wordFrom 9 = .ok (.iload_n 1, 1) := by decide +kernel
theorem dX7_wordFrom_10 : decode cX7_wordFrom 10 = .ok (.isub, 1) := by decide +kernel
theorem dX7_wordFrom_11 : decode cX7_wordFrom 11 = .ok (.bipush 8, 2) := by decide +kernel
theorem dX7_wordFrom_13 : decode cX7_wordFrom 13 = .ok (.if_icmp .gt 7, 3) := by decide +kernel
theorem dX7_wordFrom_16 : decode cX7_wordFrom 16 = .ok (.iconst 1, 1) := by decide +kernel
theorem dX7_wordFrom_17 : decode cX7_wordFrom 17 = .ok (.goto 4, 3) := by decide +kernel
theorem dX7_wordFrom_20 : decode cX7_wordFrom 20 = .ok (.iconst 0, 1) := by decide +kernel
theorem dX7_wordFrom_21 : decode cX7_wordFrom 21 = .ok (.istore 4, 2) := by decide +kernel
theorem dX7_wordFrom_23 : decode cX7_wordFrom 23 = .ok (.iconst 0, 1) := by decide +kernel
theorem dX7_wordFrom_24 : decode cX7_wordFrom 24 = .ok (.istore 5, 2) := by decide +kernel
theorem dX7_wordFrom_26 : decode cX7_wordFrom 26 = .ok (.iload 5, 2) := by decide +kernel
theorem dX7_wordFrom_28 : decode cX7_wordFrom 28 = .ok (.bipush 8, 2) := by decide +kernel
theorem dX7_wordFrom_30 : decode cX7_wordFrom 30 = .ok (.if_icmp .ge 58, 3) := by decide +kernel
theorem dX7_wordFrom_33 : decode cX7_wordFrom 33 = .ok (.iload 4, 2) := by decide +kernel
theorem dX7_wordFrom_35 : decode cX7_wordFrom 35 = .ok (.ifCond .eq 53, 3) := by decide +kernel
theorem dX7_wordFrom_38 : decode cX7_wordFrom 38 = .ok (.aload_n 0, 1) := by decide +kernel
theorem dX7_wordFrom_39 : decode cX7_wordFrom 39 = .ok (.getfield 58, 3) := by decide +kernel
theorem dX7_wordFrom_42 : decode cX7_wordFrom 42 = .ok (.bipush 8, 2) := by decide +kernel
theorem dX7_wordFrom_44 : decode cX7_wordFrom 44 = .ok (.iload_n 3, 1) := by decide +kernel
theorem dX7_wordFrom_45 : decode cX7_wordFrom 45 = .ok (.imul, 1) := by decide +kernel
theorem dX7_wordFrom_46 : decode cX7_wordFrom 46 = .ok (.iload 5, 2) := by decide +kernel
theorem dX7_wordFrom_48 : decode cX7_wordFrom 48 = .ok (.iadd, 1) := by decide +kernel
theorem dX7_wordFrom_49 : decode cX7_wordFrom 49 = .ok (.iaload, 1) := by decide +kernel
theorem dX7_wordFrom_50 : decode cX7_wordFrom 50 = .ok (.iload_n 1, 1) := by decide +kernel
theorem dX7_wordFrom_51 : decode cX7_wordFrom 51 = .ok (.iload 5, 2) := by decide +kernel
theorem dX7_wordFrom_53 : decode cX7_wordFrom 53 = .ok (.iadd, 1) := by decide +kernel
theorem dX7_wordFrom_54 : decode cX7_wordFrom 54 = .ok (.iload_n 2, 1) := by decide +kernel
theorem dX7_wordFrom_55 : decode cX7_wordFrom 55 = .ok (.if_icmp .ge 15, 3) := by decide +kernel
theorem dX7_wordFrom_58 : decode cX7_wordFrom 58 = .ok (.aload_n 0, 1) := by decide +kernel
theorem dX7_wordFrom_59 : decode cX7_wordFrom 59 = .ok (.getfield 31, 3) := by decide +kernel
theorem dX7_wordFrom_62 : decode cX7_wordFrom 62 = .ok (.iload_n 1, 1) := by decide +kernel
theorem dX7_wordFrom_63 : decode cX7_wordFrom 63 = .ok (.iload 5, 2) := by decide +kernel
theorem dX7_wordFrom_65 : decode cX7_wordFrom 65 = .ok (.iadd, 1) := by decide +kernel
theorem dX7_wordFrom_66 : decode cX7_wordFrom 66 = .ok (.iaload, 1) := by decide +kernel
theorem dX7_wordFrom_67 : decode cX7_wordFrom 67 = .ok (.goto 5, 3) := by decide +kernel
theorem dX7_wordFrom_70 : decode cX7_wordFrom 70 = .ok (.bipush 32, 2) := by decide +kernel
theorem dX7_wordFrom_72 : decode cX7_wordFrom 72 = .ok (.if_icmp .ne 7, 3) := by decide +kernel
theorem dX7_wordFrom_75 : decode cX7_wordFrom 75 = .ok (.iconst 1, 1) := by decide +kernel
theorem dX7_wordFrom_76 : decode cX7_wordFrom 76 = .ok (.goto 4, 3) := by decide +kernel
theorem dX7_wordFrom_79 : decode cX7_wordFrom 79 = .ok (.iconst 0, 1) := by decide +kernel
theorem dX7_wordFrom_80 : decode cX7_wordFrom 80 = .ok (.istore 4, 2) := by decide +kernel
theorem dX7_wordFrom_82 : decode cX7_wordFrom 82 = .ok (.iinc 5 1, 3) := by decide +kernel
theorem dX7_wordFrom_85 : decode cX7_wordFrom 85 = .ok (.goto (-59), 3) := by decide +kernel
theorem dX7_wordFrom_88 : decode cX7_wordFrom 88 = .ok (.iload 4, 2) := by decide +kernel
theorem dX7_wordFrom_90 : decode cX7_wordFrom 90 = .ok (.ifCond .eq 5, 3) := by decide +kernel
theorem dX7_wordFrom_93 : decode cX7_wordFrom 93 = .ok (.iload_n 3, 1) := by decide +kernel
theorem dX7_wordFrom_94 : decode cX7_wordFrom 94 = .ok (.ireturn, 1) := by decide +kernel
theorem dX7_wordFrom_95 : decode cX7_wordFrom 95 = .ok (.iinc 3 1, 3) := by decide +kernel
theorem dX7_wordFrom_98 : decode cX7_wordFrom 98 = .ok (.goto (-96), 3) := by decide +kernel
theorem dX7_wordFrom_101 : decode cX7_wordFrom 101 = .ok (.bipush 12, 2) := by decide +kernel
theorem dX7_wordFrom_103 : decode cX7_wordFrom 103 = .ok (.ireturn, 1) := by decide +kernel
theorem dX7_next_0 : decode cX7_next 0 = .ok (.aload_n 0, 1) := by decide +kernel
theorem dX7_next_1 : decode cX7_next 1 = .ok (.getfield 110, 3) := by decide +kernel
theorem dX7_next_4 : decode cX7_next 4 = .ok (.aload_n 0, 1) := by decide +kernel
theorem dX7_next_5 : decode cX7_next 5 = .ok (.getfield 76, 3) := by decide +kernel
theorem dX7_next_8 : decode cX7_next 8 = .ok (.if_icmp .ge 44, 3) := by decide +kernel
theorem dX7_next_11 : decode cX7_next 11 = .ok (.aload_n 0, 1) := by decide +kernel
theorem dX7_next_12 : decode cX7_next 12 = .ok (.getfield 31, 3) := by decide +kernel
theorem dX7_next_15 : decode cX7_next 15 = .ok (.aload_n 0, 1) := by decide +kernel
theorem dX7_next_16 : decode cX7_next 16 = .ok (.getfield 110, 3) := by decide +kernel
theorem dX7_next_19 : decode cX7_next 19 = .ok (.iaload, 1) := by decide +kernel
theorem dX7_next_20 : decode cX7_next 20 = .ok (.bipush 32, 2) := by decide +kernel
theorem dX7_next_22 : decode cX7_next 22 = .ok (.if_icmp .eq 17, 3) := by decide +kernel
theorem dX7_next_25 : decode cX7_next 25 = .ok (.aload_n 0, 1) := by decide +kernel
theorem dX7_next_26 : decode cX7_next 26 = .ok (.getfield 31, 3) := by decide +kernel
theorem dX7_next_29 : decode cX7_next 29 = .ok (.aload_n 0, 1) := by decide +kernel
theorem dX7_next_30 : decode cX7_next 30 = .ok (.getfield 110, 3) := by decide +kernel
theorem dX7_next_33 : decode cX7_next 33 = .ok (.iaload, 1) := by decide +kernel
theorem dX7_next_34 : decode cX7_next 34 = .ok (.bipush 10, 2) := by decide +kernel
theorem dX7_next_36 : decode cX7_next 36 = .ok (.if_icmp .ne 16, 3) := by decide +kernel
theorem dX7_next_39 : decode cX7_next 39 = .ok (.aload_n 0, 1) := by decide +kernel
theorem dX7_next_40 : decode cX7_next 40 = .ok (.dup, 1) := by decide +kernel
theorem dX7_next_41 : decode cX7_next 41 = .ok (.getfield 110, 3) := by decide +kernel
theorem dX7_next_44 : decode cX7_next 44 = .ok (.iconst 1, 1) := by decide +kernel
theorem dX7_next_45 : decode cX7_next 45 = .ok (.iadd, 1) := by decide +kernel
theorem dX7_next_46 : decode cX7_next 46 = .ok (.putfield 110, 3) := by decide +kernel
theorem dX7_next_49 : decode cX7_next 49 = .ok (.goto (-49), 3) := by decide +kernel
theorem dX7_next_52 : decode cX7_next 52 = .ok (.aload_n 0, 1) := by decide +kernel
theorem dX7_next_53 : decode cX7_next 53 = .ok (.aload_n 0, 1) := by decide +kernel
theorem dX7_next_54 : decode cX7_next 54 = .ok (.getfield 110, 3) := by decide +kernel
theorem dX7_next_57 : decode cX7_next 57 = .ok (.putfield 113, 3) := by decide +kernel
theorem dX7_next_60 : decode cX7_next 60 = .ok (.aload_n 0, 1) := by decide +kernel
theorem dX7_next_61 : decode cX7_next 61 = .ok (.iconst 0, 1) := by decide +kernel
theorem dX7_next_62 : decode cX7_next 62 = .ok (.putfield 116, 3) := by decide +kernel
theorem dX7_next_65 : decode cX7_next 65 = .ok (.aload_n 0, 1) := by decide +kernel
theorem dX7_next_66 : decode cX7_next 66 = .ok (.iconst 0, 1) := by decide +kernel
theorem dX7_next_67 : decode cX7_next 67 = .ok (.putfield 119, 3) := by decide +kernel
theorem dX7_next_70 : decode cX7_next 70 = .ok (.aload_n 0, 1) := by decide +kernel
theorem dX7_next_71 : decode cX7_next 71 = .ok (.getfield 110, 3) := by decide +kernel
theorem dX7_next_74 : decode cX7_next 74 = .ok (.aload_n 0, 1) := by decide +kernel
theorem dX7_next_75 : decode cX7_next 75 = .ok (.getfield 76, 3) := by decide +kernel
theorem dX7_next_78 : decode cX7_next 78 = .ok (.if_icmp .ne 4, 3) := by decide +kernel
theorem dX7_next_81 : decode cX7_next 81 = .ok (.return_, 1) := by decide +kernel
theorem dX7_next_82 : decode cX7_next 82 = .ok (.aload_n 0, 1) := by decide +kernel
theorem dX7_next_83 : decode cX7_next 83 = .ok (.getfield 31, 3) := by decide +kernel
theorem dX7_next_86 : decode cX7_next 86 = .ok (.aload_n 0, 1) := by decide +kernel
theorem dX7_next_87 : decode cX7_next 87 = .ok (.getfield 110, 3) := by decide +kernel
theorem dX7_next_90 : decode cX7_next 90 = .ok (.iaload, 1) := by decide +kernel
theorem dX7_next_91 : decode cX7_next 91 = .ok (.istore_n 1, 1) := by decide +kernel
theorem dX7_next_92 : decode cX7_next 92 = .ok (.iload_n 1, 1) := by decide +kernel
theorem dX7_next_93 : decode cX7_next 93 = .ok (.bipush 97, 2) := by decide +kernel
theorem dX7_next_95 : decode cX7_next 95 = .ok (.bipush 122, 2) := by decide +kernel
theorem dX7_next_97 : decode cX7_next 97 = .ok (.invokestatic 87, 3) := by decide +kernel
theorem dX7_next_100 : decode cX7_next 100 = .ok (.ifCond .eq 117, 3) := by decide +kernel
theorem dX7_next_103 : decode cX7_next 103 = .ok (.aload_n 0, 1) := by decide +kernel
theorem dX7_next_104 : decode cX7_next 104 = .ok (.getfield 110, 3) := by decide +kernel
theorem dX7_next_107 : decode cX7_next 107 = .ok (.aload_n 0, 1) := by decide +kernel
theorem dX7_next_108 : decode cX7_next 108 = .ok (.getfield 76, 3) := by decide +kernel
theorem dX7_next_111 : decode cX7_next 111 = .ok (.if_icmp .ge 35, 3) := by decide +kernel
theorem dX7_next_114 : decode cX7_next 114 = .ok (.aload_n 0, 1) := by decide +kernel
theorem dX7_next_115 : decode cX7_next 115 = .ok (.getfield 31, 3) := by decide +kernel
theorem dX7_next_118 : decode cX7_next 118 = .ok (.aload_n 0, 1) := by decide +kernel
theorem dX7_next_119 : decode cX7_next 119 = .ok (.getfield 110, 3) := by decide +kernel
theorem dX7_next_122 : decode cX7_next 122 = .ok (.iaload, 1) := by decide +kernel
theorem dX7_next_123 : decode cX7_next 123 = .ok (.bipush 97, 2) := by decide +kernel
theorem dX7_next_125 : decode cX7_next 125 = .ok (.bipush 122, 2) := by decide +kernel
theorem dX7_next_127 : decode cX7_next 127 = .ok (.invokestatic 87, 3) := by decide +kernel
theorem dX7_next_130 : decode cX7_next 130 = .ok (.ifCond .eq 16, 3) := by decide +kernel
theorem dX7_next_133 : decode cX7_next 133 = .ok (.aload_n 0, 1) := by decide +kernel
theorem dX7_next_134 : decode cX7_next 134 = .ok (.dup, 1) := by decide +kernel
theorem dX7_next_135 : decode cX7_next 135 = .ok (.getfield 110, 3) := by decide +kernel
theorem dX7_next_138 : decode cX7_next 138 = .ok (.iconst 1, 1) := by decide +kernel
theorem dX7_next_139 : decode cX7_next 139 = .ok (.iadd, 1) := by decide +kernel
theorem dX7_next_140 : decode cX7_next 140 = .ok (.putfield 110, 3) := by decide +kernel
theorem dX7_next_143 : decode cX7_next 143 = .ok (.goto (-40), 3) := by decide +kernel
theorem dX7_next_146 : decode cX7_next 146 = .ok (.aload_n 0, 1) := by decide +kernel
theorem dX7_next_147 : decode cX7_next 147 = .ok (.aload_n 0, 1) := by decide +kernel
theorem dX7_next_148 : decode cX7_next 148 = .ok (.getfield 113, 3) := by decide +kernel
theorem dX7_next_151 : decode cX7_next 151 = .ok (.aload_n 0, 1) := by decide +kernel
theorem dX7_next_152 : decode cX7_next 152 = .ok (.getfield 110, 3) := by decide +kernel
theorem dX7_next_155 : decode cX7_next 155 = .ok (.invokevirtual 122, 3) := by decide +kernel
theorem dX7_next_158 : decode cX7_next 158 = .ok (.istore_n 2, 1) := by decide +kernel
theorem dX7_next_159 : decode cX7_next 159 = .ok (.aload_n 0, 1) := by decide +kernel
theorem dX7_next_160 : decode cX7_next 160 = .ok (.iload_n 2, 1) := by decide +kernel
theorem dX7_next_161 : decode cX7_next 161 = .ok (.iconst 3, 1) := by decide +kernel
theorem dX7_next_162 : decode cX7_next 162 = .ok (.if_icmp .ge 7, 3) := by decide +kernel
theorem dX7_next_165 : decode cX7_next 165 = .ok (.iconst 3, 1) := by decide +kernel
theorem dX7_next_166 : decode cX7_next 166 = .ok (.goto 29, 3) := by decide +kernel
theorem dX7_next_169 : decode cX7_next 169 = .ok (.iload_n 2, 1) := by decide +kernel
theorem dX7_next_170 : decode cX7_next 170 = .ok (.bipush 9, 2) := by decide +kernel
theorem dX7_next_172 : decode cX7_next 172 = .ok (.if_icmp .ge 7, 3) := by decide +kernel
theorem dX7_next_175 : decode cX7_next 175 = .ok (.iconst 2, 1) := by decide +kernel
theorem dX7_next_176 : decode cX7_next 176 = .ok (.goto 19, 3) := by decide +kernel
theorem dX7_next_179 : decode cX7_next 179 = .ok (.iload_n 2, 1) := by decide +kernel
theorem dX7_next_180 : decode cX7_next 180 = .ok (.bipush 12, 2) := by decide +kernel
theorem dX7_next_182 : decode cX7_next 182 = .ok (.if_icmp .ne 7, 3) := by decide +kernel
theorem dX7_next_185 : decode cX7_next 185 = .ok (.iconst (-1), 1) := by decide +kernel
theorem dX7_next_186 : decode cX7_next 186 = .ok (.goto 9, 3) := by decide +kernel
theorem dX7_next_189 : decode cX7_next 189 = .ok (.iconst 4, 1) := by decide +kernel
theorem dX7_next_190 : decode cX7_next 190 = .ok (.iload_n 2, 1) := by decide +kernel
theorem dX7_next_191 : decode cX7_next 191 = .ok (.iadd, 1) := by decide +kernel
theorem dX7_next_192 : decode cX7_next 192 = .ok (.bipush 9, 2) := by decide +kernel
theorem dX7_next_194 : decode cX7_next 194 = .ok (.isub, 1) := by decide +kernel
theorem dX7_next_195 : decode cX7_next 195 = .ok (.putfield 116, 3) := by decide +kernel
theorem dX7_next_198 : decode cX7_next 198 = .ok (.aload_n 0, 1) := by decide +kernel
theorem dX7_next_199 : decode cX7_next 199 = .ok (.iload_n 2, 1) := by decide +kernel
theorem dX7_next_200 : decode cX7_next 200 = .ok (.iconst 3, 1) := by decide +kernel
theorem dX7_next_201 : decode cX7_next 201 = .ok (.if_icmp .ge 7, 3) := by decide +kernel
theorem dX7_next_204 : decode cX7_next 204 = .ok (.iload_n 2, 1) := by decide +kernel
theorem dX7_next_205 : decode cX7_next 205 = .ok (.goto 6, 3) := by decide +kernel
theorem dX7_next_208 : decode cX7_next 208 = .ok (.iload_n 2, 1) := by decide +kernel
theorem dX7_next_209 : decode cX7_next 209 = .ok (.iconst 3, 1) := by decide +kernel
theorem dX7_next_210 : decode cX7_next 210 = .ok (.isub, 1) := by decide +kernel
theorem dX7_next_211 : decode cX7_next 211 = .ok (.putfield 119, 3) := by decide +kernel
theorem dX7_next_214 : decode cX7_next 214 = .ok (.goto 189, 3) := by decide +kernel
theorem dX7_next_217 : decode cX7_next 217 = .ok (.iload_n 1, 1) := by decide +kernel
theorem dX7_next_218 : decode cX7_next 218 = .ok (.bipush 48, 2) := by decide +kernel
theorem dX7_next_220 : decode cX7_next 220 = .ok (.bipush 57, 2) := by decide +kernel
theorem dX7_next_222 : decode cX7_next 222 = .ok (.invokestatic 87, 3) := by decide +kernel
theorem dX7_next_225 : decode cX7_next 225 = .ok (.ifCond .eq 101, 3) := by decide +kernel
theorem dX7_next_228 : decode cX7_next 228 = .ok (.iconst 0, 1) := by decide +kernel
theorem dX7_next_229 : decode cX7_next 229 = .ok (.istore_n 2, 1) := by decide +kernel
theorem dX7_next_230 : decode cX7_next 230 = .ok (.aload_n 0, 1) := by decide +kernel
theorem dX7_next_231 : decode cX7_next 231 = .ok (.getfield 110, 3) := by decide +kernel
theorem dX7_next_234 : decode cX7_next 234 = .ok (.aload_n 0, 1) := by decide +kernel
theorem dX7_next_235 : decode cX7_next 235 = .ok (.getfield 76, 3) := by decide +kernel
theorem dX7_next_238 : decode cX7_next 238 = .ok (.if_icmp .ge 71, 3) := by decide +kernel
theorem dX7_next_241 : decode cX7_next 241 = .ok (.aload_n 0, 1) := by decide +kernel
theorem dX7_next_242 : decode cX7_next 242 = .ok (.getfield 31, 3) := by decide +kernel
theorem dX7_next_245 : decode cX7_next 245 = .ok (.aload_n 0, 1) := by decide +kernel
theorem dX7_next_246 : decode cX7_next 246 = .ok (.getfield 110, 3) := by decide +kernel
theorem dX7_next_249 : decode cX7_next 249 = .ok (.iaload, 1) := by decide +kernel
theorem dX7_next_250 : decode cX7_next 250 = .ok (.bipush 48, 2) := by decide +kernel
theorem dX7_next_252 : decode cX7_next 252 = .ok (.bipush 57, 2) := by decide +kernel
theorem dX7_next_254 : decode cX7_next 254 = .ok (.invokestatic 87, 3) := by decide +kernel
theorem dX7_next_257 : decode cX7_next 257 = .ok (.ifCond .eq 52, 3) := by decide +kernel
theorem dX7_next_260 : decode cX7_next 260 = .ok (.aload_n 0, 1) := by decide +kernel
theorem dX7_next_261 : decode cX7_next 261 = .ok (.iload_n 2, 1) := by decide +kernel
theorem dX7_next_262 : decode cX7_next 262 = .ok (.iconst 4, 1) := by decide +kernel
theorem dX7_next_263 : decode cX7_next 263 = .ok (.if_icmp .ge 26, 3) := by decide +kernel
theorem dX7_next_266 : decode cX7_next 266 = .ok (.bipush 10, 2) := by decide +kernel
theorem dX7_next_268 : decode cX7_next 268 = .ok (.aload_n 0, 1) := by decide +kernel
theorem dX7_next_269 : decode cX7_next 269 = .ok (.getfield 119, 3) := by decide +kernel
theorem dX7_next_272 : decode cX7_next 272 = .ok (.imul, 1) := by decide +kernel
theorem dX7_next_273 : decode cX7_next 273 = .ok (.aload_n 0, 1) := by decide +kernel
theorem dX7_next_274 : decode cX7_next 274 = .ok (.getfield 31, 3) := by decide +kernel
theorem dX7_next_277 : decode cX7_next 277 = .ok (.aload_n 0, 1) := by decide +kernel
theorem dX7_next_278 : decode cX7_next 278 = .ok (.getfield 110, 3) := by decide +kernel
theorem dX7_next_281 : decode cX7_next 281 = .ok (.iaload, 1) := by decide +kernel
theorem dX7_next_282 : decode cX7_next 282 = .ok (.iadd, 1) := by decide +kernel
theorem dX7_next_283 : decode cX7_next 283 = .ok (.bipush 48, 2) := by decide +kernel
theorem dX7_next_285 : decode cX7_next 285 = .ok (.isub, 1) := by decide +kernel
theorem dX7_next_286 : decode cX7_next 286 = .ok (.goto 4, 3) := by decide +kernel
theorem dX7_next_289 : decode cX7_next 289 = .ok (.iconst 0, 1) := by decide +kernel
theorem dX7_next_290 : decode cX7_next 290 = .ok (.putfield 119, 3) := by decide +kernel
theorem dX7_next_293 : decode cX7_next 293 = .ok (.iinc 2 1, 3) := by decide +kernel
theorem dX7_next_296 : decode cX7_next 296 = .ok (.aload_n 0, 1) := by decide +kernel
theorem dX7_next_297 : decode cX7_next 297 = .ok (.dup, 1) := by decide +kernel
theorem dX7_next_298 : decode cX7_next 298 = .ok (.getfield 110, 3) := by decide +kernel
theorem dX7_next_301 : decode cX7_next 301 = .ok (.iconst 1, 1) := by decide +kernel
theorem dX7_next_302 : decode cX7_next 302 = .ok (.iadd, 1) := by decide +kernel
theorem dX7_next_303 : decode cX7_next 303 = .ok (.putfield 110, 3) := by decide +kernel
theorem dX7_next_306 : decode cX7_next 306 = .ok (.goto (-76), 3) := by decide +kernel
theorem dX7_next_309 : decode cX7_next 309 = .ok (.aload_n 0, 1) := by decide +kernel
theorem dX7_next_310 : decode cX7_next 310 = .ok (.iload_n 2, 1) := by decide +kernel
theorem dX7_next_311 : decode cX7_next 311 = .ok (.iconst 4, 1) := by decide +kernel
theorem dX7_next_312 : decode cX7_next 312 = .ok (.if_icmp .le 7, 3) := by decide +kernel
theorem dX7_next_315 : decode cX7_next 315 = .ok (.iconst (-1), 1) := by decide +kernel
theorem dX7_next_316 : decode cX7_next 316 = .ok (.goto 4, 3) := by decide +kernel
theorem dX7_next_319 : decode cX7_next 319 = .ok (.iconst 1, 1) := by decide +kernel
theorem dX7_next_320 : decode cX7_next 320 = .ok (.putfield 116, 3) := by decide +kernel
theorem dX7_next_323 : decode cX7_next 323 = .ok (.goto 80, 3) := by decide +kernel
theorem dX7_next_326 : decode cX7_next 326 = .ok (.iload_n 1, 1) := by decide +kernel
theorem dX7_next_327 : decode cX7_next 327 = .ok (.bipush 40, 2) := by decide +kernel
theorem dX7_next_329 : decode cX7_next 329 = .ok (.if_icmp .eq 45, 3) := by decide +kernel
theorem dX7_next_332 : decode cX7_next 332 = .ok (.iload_n 1, 1) := by decide +kernel
theorem dX7_next_333 : decode cX7_next 333 = .ok (.bipush 41, 2) := by decide +kernel
theorem dX7_next_335 : decode cX7_next 335 = .ok (.if_icmp .eq 39, 3) := by decide +kernel
theorem dX7_next_338 : decode cX7_next 338 = .ok (.iload_n 1, 1) := by decide +kernel
theorem dX7_next_339 : decode cX7_next 339 = .ok (.bipush 59, 2) := by decide +kernel
theorem dX7_next_341 : decode cX7_next 341 = .ok (.if_icmp .eq 33, 3) := by decide +kernel
theorem dX7_next_344 : decode cX7_next 344 = .ok (.iload_n 1, 1) := by decide +kernel
theorem dX7_next_345 : decode cX7_next 345 = .ok (.bipush 43, 2) := by decide +kernel
theorem dX7_next_347 : decode cX7_next 347 = .ok (.if_icmp .eq 27, 3) := by decide +kernel
theorem dX7_next_350 : decode cX7_next 350 = .ok (.iload_n 1, 1) := by decide +kernel
theorem dX7_next_351 : decode cX7_next 351 = .ok (.bipush 45, 2) := by decide +kernel
theorem dX7_next_353 : decode cX7_next 353 = .ok (.if_icmp .eq 21, 3) := by decide +kernel
theorem dX7_next_356 : decode cX7_next 356 = .ok (.iload_n 1, 1) := by decide +kernel
theorem dX7_next_357 : decode cX7_next 357 = .ok (.bipush 42, 2) := by decide +kernel
theorem dX7_next_359 : decode cX7_next 359 = .ok (.if_icmp .eq 15, 3) := by decide +kernel
theorem dX7_next_362 : decode cX7_next 362 = .ok (.iload_n 1, 1) := by decide +kernel
theorem dX7_next_363 : decode cX7_next 363 = .ok (.bipush 60, 2) := by decide +kernel
theorem dX7_next_365 : decode cX7_next 365 = .ok (.if_icmp .eq 9, 3) := by decide +kernel
theorem dX7_next_368 : decode cX7_next 368 = .ok (.iload_n 1, 1) := by decide +kernel
theorem dX7_next_369 : decode cX7_next 369 = .ok (.bipush 61, 2) := by decide +kernel
theorem dX7_next_371 : decode cX7_next 371 = .ok (.if_icmp .ne 7, 3) := by decide +kernel
theorem dX7_next_374 : decode cX7_next 374 = .ok (.iconst 1, 1) := by decide +kernel
theorem dX7_next_375 : decode cX7_next 375 = .ok (.goto 4, 3) := by decide +kernel
theorem dX7_next_378 : decode cX7_next 378 = .ok (.iconst 0, 1) := by decide +kernel
theorem dX7_next_379 : decode cX7_next 379 = .ok (.istore_n 2, 1) := by decide +kernel
theorem dX7_next_380 : decode cX7_next 380 = .ok (.aload_n 0, 1) := by decide +kernel
theorem dX7_next_381 : decode cX7_next 381 = .ok (.iload_n 2, 1) := by decide +kernel
theorem dX7_next_382 : decode cX7_next 382 = .ok (.ifCond .eq 7, 3) := by decide +kernel
theorem dX7_next_385 : decode cX7_next 385 = .ok (.iload_n 1, 1) := by decide +kernel
theorem dX7_next_386 : decode cX7_next 386 = .ok (.goto 4, 3) := by decide +kernel
theorem dX7_next_389 : decode cX7_next 389 = .ok (.iconst (-1), 1) := by decide +kernel
theorem dX7_next_390 : decode cX7_next 390 = .ok (.putfield 116, 3) := by decide +kernel
theorem dX7_next_393 : decode cX7_next 393 = .ok (.aload_n 0, 1) := by decide +kernel
theorem dX7_next_394 : decode cX7_next 394 = .ok (.dup, 1) := by decide +kernel
theorem dX7_next_395 : decode cX7_next 395 = .ok (.getfield 110, 3) := by decide +kernel
theorem dX7_next_398 : decode cX7_next 398 = .ok (.iconst 1, 1) := by decide +kernel
theorem dX7_next_399 : decode cX7_next 399 = .ok (.iadd, 1) := by decide +kernel
theorem dX7_next_400 : decode cX7_next 400 = .ok (.putfield 110, 3) := by decide +kernel
theorem dX7_next_403 : decode cX7_next 403 = .ok (.return_, 1) := by decide +kernel
theorem dX7_rank_0 : decode cX7_rank 0 = .ok (.iload_n 0, 1) := by decide +kernel
theorem dX7_rank_1 : decode cX7_rank 1 = .ok (.ifCond .ne 7, 3) := by decide +kernel
theorem dX7_rank_4 : decode cX7_rank 4 = .ok (.iconst 0, 1) := by decide +kernel
theorem dX7_rank_5 : decode cX7_rank 5 = .ok (.goto 66, 3) := by decide +kernel
theorem dX7_rank_8 : decode cX7_rank 8 = .ok (.iload_n 0, 1) := by decide +kernel
theorem dX7_rank_9 : decode cX7_rank 9 = .ok (.bipush 11, 2) := by decide +kernel
theorem dX7_rank_11 : decode cX7_rank 11 = .ok (.if_icmp .ne 7, 3) := by decide +kernel
theorem dX7_rank_14 : decode cX7_rank 14 = .ok (.iconst 1, 1) := by decide +kernel
theorem dX7_rank_15 : decode cX7_rank 15 = .ok (.goto 56, 3) := by decide +kernel
theorem dX7_rank_18 : decode cX7_rank 18 = .ok (.iload_n 0, 1) := by decide +kernel
theorem dX7_rank_19 : decode cX7_rank 19 = .ok (.bipush 12, 2) := by decide +kernel
theorem dX7_rank_21 : decode cX7_rank 21 = .ok (.if_icmp .ne 7, 3) := by decide +kernel
theorem dX7_rank_24 : decode cX7_rank 24 = .ok (.iconst 2, 1) := by decide +kernel
theorem dX7_rank_25 : decode cX7_rank 25 = .ok (.goto 46, 3) := by decide +kernel
theorem dX7_rank_28 : decode cX7_rank 28 = .ok (.iload_n 0, 1) := by decide +kernel
theorem dX7_rank_29 : decode cX7_rank 29 = .ok (.bipush 13, 2) := by decide +kernel
theorem dX7_rank_31 : decode cX7_rank 31 = .ok (.if_icmp .ne 7, 3) := by decide +kernel
theorem dX7_rank_34 : decode cX7_rank 34 = .ok (.iconst 3, 1) := by decide +kernel
theorem dX7_rank_35 : decode cX7_rank 35 = .ok (.goto 36, 3) := by decide +kernel
theorem dX7_rank_38 : decode cX7_rank 38 = .ok (.iload_n 0, 1) := by decide +kernel
theorem dX7_rank_39 : decode cX7_rank 39 = .ok (.bipush 15, 2) := by decide +kernel
theorem dX7_rank_41 : decode cX7_rank 41 = .ok (.if_icmp .gt 7, 3) := by decide +kernel
theorem dX7_rank_44 : decode cX7_rank 44 = .ok (.iconst 4, 1) := by decide +kernel
theorem dX7_rank_45 : decode cX7_rank 45 = .ok (.goto 26, 3) := by decide +kernel
theorem dX7_rank_48 : decode cX7_rank 48 = .ok (.iload_n 0, 1) := by decide +kernel
theorem dX7_rank_49 : decode cX7_rank 49 = .ok (.bipush 17, 2) := by decide +kernel
theorem dX7_rank_51 : decode cX7_rank 51 = .ok (.if_icmp .gt 7, 3) := by decide +kernel
theorem dX7_rank_54 : decode cX7_rank 54 = .ok (.iconst 5, 1) := by decide +kernel
theorem dX7_rank_55 : decode cX7_rank 55 = .ok (.goto 16, 3) := by decide +kernel
theorem dX7_rank_58 : decode cX7_rank 58 = .ok (.iload_n 0, 1) := by decide +kernel
theorem dX7_rank_59 : decode cX7_rank 59 = .ok (.bipush 18, 2) := by decide +kernel
theorem dX7_rank_61 : decode cX7_rank 61 = .ok (.if_icmp .ne 8, 3) := by decide +kernel
theorem dX7_rank_64 : decode cX7_rank 64 = .ok (.bipush 6, 2) := by decide +kernel
theorem dX7_rank_66 : decode cX7_rank 66 = .ok (.goto 5, 3) := by decide +kernel
theorem dX7_rank_69 : decode cX7_rank 69 = .ok (.bipush 7, 2) := by decide +kernel
theorem dX7_rank_71 : decode cX7_rank 71 = .ok (.ireturn, 1) := by decide +kernel
theorem dX7_puts_0 : decode cX7_puts 0 = .ok (.aload_n 0, 1) := by decide +kernel
theorem dX7_puts_1 : decode cX7_puts 1 = .ok (.getfield 34, 3) := by decide +kernel
theorem dX7_puts_4 : decode cX7_puts 4 = .ok (.sipush 200, 3) := by decide +kernel
theorem dX7_puts_7 : decode cX7_puts 7 = .ok (.aload_n 0, 1) := by decide +kernel
theorem dX7_puts_8 : decode cX7_puts 8 = .ok (.getfield 100, 3) := by decide +kernel
theorem dX7_puts_11 : decode cX7_puts 11 = .ok (.imul, 1) := by decide +kernel
theorem dX7_puts_12 : decode cX7_puts 12 = .ok (.aload_n 0, 1) := by decide +kernel
theorem dX7_puts_13 : decode cX7_puts 13 = .ok (.getfield 126, 3) := by decide +kernel
theorem dX7_puts_16 : decode cX7_puts 16 = .ok (.iadd, 1) := by decide +kernel
theorem dX7_puts_17 : decode cX7_puts 17 = .ok (.iload_n 1, 1) := by decide +kernel
theorem dX7_puts_18 : decode cX7_puts 18 = .ok (.iastore, 1) := by decide +kernel
theorem dX7_puts_19 : decode cX7_puts 19 = .ok (.aload_n 0, 1) := by decide +kernel
theorem dX7_puts_20 : decode cX7_puts 20 = .ok (.dup, 1) := by decide +kernel
theorem dX7_puts_21 : decode cX7_puts 21 = .ok (.getfield 126, 3) := by decide +kernel
theorem dX7_puts_24 : decode cX7_puts 24 = .ok (.iconst 1, 1) := by decide +kernel
theorem dX7_puts_25 : decode cX7_puts 25 = .ok (.iadd, 1) := by decide +kernel
theorem dX7_puts_26 : decode cX7_puts 26 = .ok (.putfield 126, 3) := by decide +kernel
theorem dX7_puts_29 : decode cX7_puts 29 = .ok (.return_, 1) := by decide +kernel
theorem dX7_unwinds_0 : decode cX7_unwinds 0 = .ok (.aload_n 0, 1) := by decide +kernel
theorem dX7_unwinds_1 : decode cX7_unwinds 1 = .ok (.getfield 129, 3) := by decide +kernel
theorem dX7_unwinds_4 : decode cX7_unwinds 4 = .ok (.ifCond .le 75, 3) := by decide +kernel
theorem dX7_unwinds_7 : decode cX7_unwinds 7 = .ok (.aload_n 0, 1) := by decide +kernel
theorem dX7_unwinds_8 : decode cX7_unwinds 8 = .ok (.getfield 61, 3) := by decide +kernel
theorem dX7_unwinds_11 : decode cX7_unwinds 11 = .ok (.aload_n 0, 1) := by decide +kernel
theorem dX7_unwinds_12 : decode cX7_unwinds 12 = .ok (.getfield 129, 3) := by decide +kernel
theorem dX7_unwinds_15 : decode cX7_unwinds 15 = .ok (.iconst 1, 1) := by decide +kernel
theorem dX7_unwinds_16 : decode cX7_unwinds 16 = .ok (.isub, 1) := by decide +kernel
theorem dX7_unwinds_17 : decode cX7_unwinds 17 = .ok (.iaload, 1) := by decide +kernel
theorem dX7_unwinds_18 : decode cX7_unwinds 18 = .ok (.invokestatic 132, 3) := by decide +kernel
theorem dX7_unwinds_21 : decode cX7_unwinds 21 = .ok (.iload_n 1, 1) := by decide +kernel
theorem dX7_unwinds_22 : decode cX7_unwinds 22 = .ok (.if_icmp .lt 57, 3) := by decide +kernel
theorem dX7_unwinds_25 : decode cX7_unwinds 25 = .ok (.aload_n 0, 1) := by decide +kernel
theorem dX7_unwinds_26 : decode cX7_unwinds 26 = .ok (.dup, 1) := by decide +kernel
theorem dX7_unwinds_27 : decode cX7_unwinds 27 = .ok (.getfield 129, 3) := by decide +kernel
theorem dX7_unwinds_30 : decode cX7_unwinds 30 = .ok (.iconst 1, 1) := by decide +kernel
theorem dX7_unwinds_31 : decode cX7_unwinds 31 = .ok (.isub, 1) := by decide +kernel
theorem dX7_unwinds_32 : decode cX7_unwinds 32 = .ok (.putfield 129, 3) := by decide +kernel
theorem dX7_unwinds_35 : decode cX7_unwinds 35 = .ok (.aload_n 0, 1) := by decide +kernel
theorem dX7_unwinds_36 : decode cX7_unwinds 36 = .ok (.getfield 61, 3) := by decide +kernel
theorem dX7_unwinds_39 : decode cX7_unwinds 39 = .ok (.aload_n 0, 1) := by decide +kernel
theorem dX7_unwinds_40 : decode cX7_unwinds 40 = .ok (.getfield 129, 3) := by decide +kernel
theorem dX7_unwinds_43 : decode cX7_unwinds 43 = .ok (.iaload, 1) := by decide +kernel
theorem dX7_unwinds_44 : decode cX7_unwinds 44 = .ok (.istore_n 2, 1) := by decide +kernel
theorem dX7_unwinds_45 : decode cX7_unwinds 45 = .ok (.aload_n 0, 1) := by decide +kernel
theorem dX7_unwinds_46 : decode cX7_unwinds 46 = .ok (.dup, 1) := by decide +kernel
theorem dX7_unwinds_47 : decode cX7_unwinds 47 = .ok (.getfield 136, 3) := by decide +kernel
theorem dX7_unwinds_50 : decode cX7_unwinds 50 = .ok (.iload_n 2, 1) := by decide +kernel
theorem dX7_unwinds_51 : decode cX7_unwinds 51 = .ok (.bipush 13, 2) := by decide +kernel
theorem dX7_unwinds_53 : decode cX7_unwinds 53 = .ok (.if_icmp .eq 9, 3) := by decide +kernel
theorem dX7_unwinds_56 : decode cX7_unwinds 56 = .ok (.iload_n 2, 1) := by decide +kernel
theorem dX7_unwinds_57 : decode cX7_unwinds 57 = .ok (.bipush 19, 2) := by decide +kernel
theorem dX7_unwinds_59 : decode cX7_unwinds 59 = .ok (.if_icmp .ne 7, 3) := by decide +kernel
theorem dX7_unwinds_62 : decode cX7_unwinds 62 = .ok (.iconst 1, 1) := by decide +kernel
theorem dX7_unwinds_63 : decode cX7_unwinds 63 = .ok (.goto 4, 3) := by decide +kernel
theorem dX7_unwinds_66 : decode cX7_unwinds 66 = .ok (.iconst 0, 1) := by decide +kernel
theorem dX7_unwinds_67 : decode cX7_unwinds 67 = .ok (.isub, 1) := by decide +kernel
theorem dX7_unwinds_68 : decode cX7_unwinds 68 = .ok (.putfield 136, 3) := by decide +kernel
theorem dX7_unwinds_71 : decode cX7_unwinds 71 = .ok (.aload_n 0, 1) := by decide +kernel
theorem dX7_unwinds_72 : decode cX7_unwinds 72 = .ok (.iload_n 2, 1) := by decide +kernel
theorem dX7_unwinds_73 : decode cX7_unwinds 73 = .ok (.invokevirtual 139, 3) := by decide +kernel
theorem dX7_unwinds_76 : decode cX7_unwinds 76 = .ok (.goto (-76), 3) := by decide +kernel
theorem dX7_unwinds_79 : decode cX7_unwinds 79 = .ok (.return_, 1) := by decide +kernel
theorem dX7_holds_0 : decode cX7_holds 0 = .ok (.aload_n 0, 1) := by decide +kernel
theorem dX7_holds_1 : decode cX7_holds 1 = .ok (.getfield 61, 3) := by decide +kernel
theorem dX7_holds_4 : decode cX7_holds 4 = .ok (.aload_n 0, 1) := by decide +kernel
theorem dX7_holds_5 : decode cX7_holds 5 = .ok (.getfield 129, 3) := by decide +kernel
theorem dX7_holds_8 : decode cX7_holds 8 = .ok (.iload_n 1, 1) := by decide +kernel
theorem dX7_holds_9 : decode cX7_holds 9 = .ok (.iastore, 1) := by decide +kernel
theorem dX7_holds_10 : decode cX7_holds 10 = .ok (.aload_n 0, 1) := by decide +kernel
theorem dX7_holds_11 : decode cX7_holds 11 = .ok (.dup, 1) := by decide +kernel
theorem dX7_holds_12 : decode cX7_holds 12 = .ok (.getfield 129, 3) := by decide +kernel
theorem dX7_holds_15 : decode cX7_holds 15 = .ok (.iconst 1, 1) := by decide +kernel
theorem dX7_holds_16 : decode cX7_holds 16 = .ok (.iadd, 1) := by decide +kernel
theorem dX7_holds_17 : decode cX7_holds 17 = .ok (.putfield 129, 3) := by decide +kernel
theorem dX7_holds_20 : decode cX7_holds 20 = .ok (.return_, 1) := by decide +kernel
theorem dX7_opensOne_0 : decode cX7_opensOne 0 = .ok (.aload_n 0, 1) := by decide +kernel
theorem dX7_opensOne_1 : decode cX7_opensOne 1 = .ok (.getfield 136, 3) := by decide +kernel
theorem dX7_opensOne_4 : decode cX7_opensOne 4 = .ok (.iconst 5, 1) := by decide +kernel
theorem dX7_opensOne_5 : decode cX7_opensOne 5 = .ok (.if_icmp .ne 5, 3) := by decide +kernel
theorem dX7_opensOne_8 : decode cX7_opensOne 8 = .ok (.iconst 0, 1) := by decide +kernel
theorem dX7_opensOne_9 : decode cX7_opensOne 9 = .ok (.ireturn, 1) := by decide +kernel
theorem dX7_opensOne_10 : decode cX7_opensOne 10 = .ok (.aload_n 0, 1) := by decide +kernel
theorem dX7_opensOne_11 : decode cX7_opensOne 11 = .ok (.dup, 1) := by decide +kernel
theorem dX7_opensOne_12 : decode cX7_opensOne 12 = .ok (.getfield 136, 3) := by decide +kernel
theorem dX7_opensOne_15 : decode cX7_opensOne 15 = .ok (.iconst 1, 1) := by decide +kernel
theorem dX7_opensOne_16 : decode cX7_opensOne 16 = .ok (.iadd, 1) := by decide +kernel
theorem dX7_opensOne_17 : decode cX7_opensOne 17 = .ok (.putfield 136, 3) := by decide +kernel
theorem dX7_opensOne_20 : decode cX7_opensOne 20 = .ok (.aload_n 0, 1) := by decide +kernel
theorem dX7_opensOne_21 : decode cX7_opensOne 21 = .ok (.iload_n 1, 1) := by decide +kernel
theorem dX7_opensOne_22 : decode cX7_opensOne 22 = .ok (.invokevirtual 143, 3) := by decide +kernel
theorem dX7_opensOne_25 : decode cX7_opensOne 25 = .ok (.iconst 1, 1) := by decide +kernel
theorem dX7_opensOne_26 : decode cX7_opensOne 26 = .ok (.ireturn, 1) := by decide +kernel
theorem dX7_between_0 : decode cX7_between 0 = .ok (.aload_n 0, 1) := by decide +kernel
theorem dX7_between_1 : decode cX7_between 1 = .ok (.iload_n 1, 1) := by decide +kernel
theorem dX7_between_2 : decode cX7_between 2 = .ok (.invokestatic 132, 3) := by decide +kernel
theorem dX7_between_5 : decode cX7_between 5 = .ok (.iconst 4, 1) := by decide +kernel
theorem dX7_between_6 : decode cX7_between 6 = .ok (.if_icmp .ne 7, 3) := by decide +kernel
theorem dX7_between_9 : decode cX7_between 9 = .ok (.iconst 5, 1) := by decide +kernel
theorem dX7_between_10 : decode cX7_between 10 = .ok (.goto 7, 3) := by decide +kernel
theorem dX7_between_13 : decode cX7_between 13 = .ok (.iload_n 1, 1) := by decide +kernel
theorem dX7_between_14 : decode cX7_between 14 = .ok (.invokestatic 132, 3) := by decide +kernel
theorem dX7_between_17 : decode cX7_between 17 = .ok (.invokevirtual 146, 3) := by decide +kernel
theorem dX7_between_20 : decode cX7_between 20 = .ok (.iload_n 1, 1) := by decide +kernel
theorem dX7_between_21 : decode cX7_between 21 = .ok (.invokestatic 132, 3) := by decide +kernel
theorem dX7_between_24 : decode cX7_between 24 = .ok (.iconst 4, 1) := by decide +kernel
theorem dX7_between_25 : decode cX7_between 25 = .ok (.if_icmp .ne 30, 3) := by decide +kernel
theorem dX7_between_28 : decode cX7_between 28 = .ok (.aload_n 0, 1) := by decide +kernel
theorem dX7_between_29 : decode cX7_between 29 = .ok (.getfield 129, 3) := by decide +kernel
theorem dX7_between_32 : decode cX7_between 32 = .ok (.ifCond .le 23, 3) := by decide +kernel
theorem dX7_between_35 : decode cX7_between 35 = .ok (.aload_n 0, 1) := by decide +kernel
theorem dX7_between_36 : decode cX7_between 36 = .ok (.getfield 61, 3) := by decide +kernel
theorem dX7_between_39 : decode cX7_between 39 = .ok (.aload_n 0, 1) := by decide +kernel
theorem dX7_between_40 : decode cX7_between 40 = .ok (.getfield 129, 3) := by decide +kernel
theorem dX7_between_43 : decode cX7_between 43 = .ok (.iconst 1, 1) := by decide +kernel
theorem dX7_between_44 : decode cX7_between 44 = .ok (.isub, 1) := by decide +kernel
theorem dX7_between_45 : decode cX7_between 45 = .ok (.iaload, 1) := by decide +kernel
theorem dX7_between_46 : decode cX7_between 46 = .ok (.invokestatic 132, 3) := by decide +kernel
theorem dX7_between_49 : decode cX7_between 49 = .ok (.iconst 4, 1) := by decide +kernel
theorem dX7_between_50 : decode cX7_between 50 = .ok (.if_icmp .ne 5, 3) := by decide +kernel
theorem dX7_between_53 : decode cX7_between 53 = .ok (.iconst 0, 1) := by decide +kernel
theorem dX7_between_54 : decode cX7_between 54 = .ok (.ireturn, 1) := by decide +kernel
theorem dX7_between_55 : decode cX7_between 55 = .ok (.aload_n 0, 1) := by decide +kernel
theorem dX7_between_56 : decode cX7_between 56 = .ok (.iload_n 1, 1) := by decide +kernel
theorem dX7_between_57 : decode cX7_between 57 = .ok (.invokevirtual 143, 3) := by decide +kernel
theorem dX7_between_60 : decode cX7_between 60 = .ok (.iconst 1, 1) := by decide +kernel
theorem dX7_between_61 : decode cX7_between 61 = .ok (.ireturn, 1) := by decide +kernel
theorem dX7_signOf_0 : decode cX7_signOf 0 = .ok (.aload_n 0, 1) := by decide +kernel
theorem dX7_signOf_1 : decode cX7_signOf 1 = .ok (.getfield 116, 3) := by decide +kernel
theorem dX7_signOf_4 : decode cX7_signOf 4 = .ok (.iconst 4, 1) := by decide +kernel
theorem dX7_signOf_5 : decode cX7_signOf 5 = .ok (.if_icmp .ne 8, 3) := by decide +kernel
theorem dX7_signOf_8 : decode cX7_signOf 8 = .ok (.bipush 11, 2) := by decide +kernel
theorem dX7_signOf_10 : decode cX7_signOf 10 = .ok (.goto 87, 3) := by decide +kernel
theorem dX7_signOf_13 : decode cX7_signOf 13 = .ok (.aload_n 0, 1) := by decide +kernel
theorem dX7_signOf_14 : decode cX7_signOf 14 = .ok (.getfield 116, 3) := by decide +kernel
theorem dX7_signOf_17 : decode cX7_signOf 17 = .ok (.iconst 5, 1) := by decide +kernel
theorem dX7_signOf_18 : decode cX7_signOf 18 = .ok (.if_icmp .ne 8, 3) := by decide +kernel
theorem dX7_signOf_21 : decode cX7_signOf 21 = .ok (.bipush 12, 2) := by decide +kernel
theorem dX7_signOf_23 : decode cX7_signOf 23 = .ok (.goto 74, 3) := by decide +kernel
theorem dX7_signOf_26 : decode cX7_signOf 26 = .ok (.aload_n 0, 1) := by decide +kernel
theorem dX7_signOf_27 : decode cX7_signOf 27 = .ok (.getfield 116, 3) := by decide +kernel
theorem dX7_signOf_30 : decode cX7_signOf 30 = .ok (.bipush 60, 2) := by decide +kernel
theorem dX7_signOf_32 : decode cX7_signOf 32 = .ok (.if_icmp .ne 8, 3) := by decide +kernel
theorem dX7_signOf_35 : decode cX7_signOf 35 = .ok (.bipush 14, 2) := by decide +kernel
theorem dX7_signOf_37 : decode cX7_signOf 37 = .ok (.goto 60, 3) := by decide +kernel
theorem dX7_signOf_40 : decode cX7_signOf 40 = .ok (.aload_n 0, 1) := by decide +kernel
theorem dX7_signOf_41 : decode cX7_signOf 41 = .ok (.getfield 116, 3) := by decide +kernel
theorem dX7_signOf_44 : decode cX7_signOf 44 = .ok (.bipush 61, 2) := by decide +kernel
theorem dX7_signOf_46 : decode cX7_signOf 46 = .ok (.if_icmp .ne 8, 3) := by decide +kernel
theorem dX7_signOf_49 : decode cX7_signOf 49 = .ok (.bipush 15, 2) := by decide +kernel
theorem dX7_signOf_51 : decode cX7_signOf 51 = .ok (.goto 46, 3) := by decide +kernel
theorem dX7_signOf_54 : decode cX7_signOf 54 = .ok (.aload_n 0, 1) := by decide +kernel
theorem dX7_signOf_55 : decode cX7_signOf 55 = .ok (.getfield 116, 3) := by decide +kernel
theorem dX7_signOf_58 : decode cX7_signOf 58 = .ok (.bipush 43, 2) := by decide +kernel
theorem dX7_signOf_60 : decode cX7_signOf 60 = .ok (.if_icmp .ne 8, 3) := by decide +kernel
theorem dX7_signOf_63 : decode cX7_signOf 63 = .ok (.bipush 16, 2) := by decide +kernel
theorem dX7_signOf_65 : decode cX7_signOf 65 = .ok (.goto 32, 3) := by decide +kernel
theorem dX7_signOf_68 : decode cX7_signOf 68 = .ok (.aload_n 0, 1) := by decide +kernel
theorem dX7_signOf_69 : decode cX7_signOf 69 = .ok (.getfield 116, 3) := by decide +kernel
theorem dX7_signOf_72 : decode cX7_signOf 72 = .ok (.bipush 45, 2) := by decide +kernel
theorem dX7_signOf_74 : decode cX7_signOf 74 = .ok (.if_icmp .ne 8, 3) := by decide +kernel
theorem dX7_signOf_77 : decode cX7_signOf 77 = .ok (.bipush 17, 2) := by decide +kernel
theorem dX7_signOf_79 : decode cX7_signOf 79 = .ok (.goto 18, 3) := by decide +kernel
theorem dX7_signOf_82 : decode cX7_signOf 82 = .ok (.aload_n 0, 1) := by decide +kernel
theorem dX7_signOf_83 : decode cX7_signOf 83 = .ok (.getfield 116, 3) := by decide +kernel
theorem dX7_signOf_86 : decode cX7_signOf 86 = .ok (.bipush 42, 2) := by decide +kernel
theorem dX7_signOf_88 : decode cX7_signOf 88 = .ok (.if_icmp .ne 8, 3) := by decide +kernel
theorem dX7_signOf_91 : decode cX7_signOf 91 = .ok (.bipush 18, 2) := by decide +kernel
theorem dX7_signOf_93 : decode cX7_signOf 93 = .ok (.goto 4, 3) := by decide +kernel
theorem dX7_signOf_96 : decode cX7_signOf 96 = .ok (.iconst (-1), 1) := by decide +kernel
theorem dX7_signOf_97 : decode cX7_signOf 97 = .ok (.ireturn, 1) := by decide +kernel
theorem dX7_eRead_0 : decode cX7_eRead 0 = .ok (.aload_n 0, 1) := by decide +kernel
theorem dX7_eRead_1 : decode cX7_eRead 1 = .ok (.iconst 0, 1) := by decide +kernel
theorem dX7_eRead_2 : decode cX7_eRead 2 = .ok (.putfield 129, 3) := by decide +kernel
theorem dX7_eRead_5 : decode cX7_eRead 5 = .ok (.aload_n 0, 1) := by decide +kernel
theorem dX7_eRead_6 : decode cX7_eRead 6 = .ok (.iconst 0, 1) := by decide +kernel
theorem dX7_eRead_7 : decode cX7_eRead 7 = .ok (.putfield 136, 3) := by decide +kernel
theorem dX7_eRead_10 : decode cX7_eRead 10 = .ok (.iconst 1, 1) := by decide +kernel
theorem dX7_eRead_11 : decode cX7_eRead 11 = .ok (.istore_n 1, 1) := by decide +kernel
theorem dX7_eRead_12 : decode cX7_eRead 12 = .ok (.iconst 1, 1) := by decide +kernel
theorem dX7_eRead_13 : decode cX7_eRead 13 = .ok (.istore_n 2, 1) := by decide +kernel
theorem dX7_eRead_14 : decode cX7_eRead 14 = .ok (.aload_n 0, 1) := by decide +kernel
theorem dX7_eRead_15 : decode cX7_eRead 15 = .ok (.invokevirtual 149, 3) := by decide +kernel
theorem dX7_eRead_18 : decode cX7_eRead 18 = .ok (.iload_n 1, 1) := by decide +kernel
theorem dX7_eRead_19 : decode cX7_eRead 19 = .ok (.ifCond .eq 131, 3) := by decide +kernel
theorem dX7_eRead_22 : decode cX7_eRead 22 = .ok (.aload_n 0, 1) := by decide +kernel
theorem dX7_eRead_23 : decode cX7_eRead 23 = .ok (.getfield 116, 3) := by decide +kernel
theorem dX7_eRead_26 : decode cX7_eRead 26 = .ok (.iconst 1, 1) := by decide +kernel
theorem dX7_eRead_27 : decode cX7_eRead 27 = .ok (.if_icmp .eq 11, 3) := by decide +kernel
theorem dX7_eRead_30 : decode cX7_eRead 30 = .ok (.aload_n 0, 1) := by decide +kernel
theorem dX7_eRead_31 : decode cX7_eRead 31 = .ok (.getfield 116, 3) := by decide +kernel
theorem dX7_eRead_34 : decode cX7_eRead 34 = .ok (.iconst 2, 1) := by decide +kernel
theorem dX7_eRead_35 : decode cX7_eRead 35 = .ok (.if_icmp .ne 40, 3) := by decide +kernel
theorem dX7_eRead_38 : decode cX7_eRead 38 = .ok (.aload_n 0, 1) := by decide +kernel
theorem dX7_eRead_39 : decode cX7_eRead 39 = .ok (.aload_n 0, 1) := by decide +kernel
theorem dX7_eRead_40 : decode cX7_eRead 40 = .ok (.getfield 116, 3) := by decide +kernel
theorem dX7_eRead_43 : decode cX7_eRead 43 = .ok (.iconst 1, 1) := by decide +kernel
theorem dX7_eRead_44 : decode cX7_eRead 44 = .ok (.if_icmp .ne 13, 3) := by decide +kernel
theorem dX7_eRead_47 : decode cX7_eRead 47 = .ok (.ldc 152, 2) := by decide +kernel
theorem dX7_eRead_49 : decode cX7_eRead 49 = .ok (.aload_n 0, 1) := by decide +kernel
theorem dX7_eRead_50 : decode cX7_eRead 50 = .ok (.getfield 119, 3) := by decide +kernel
theorem dX7_eRead_53 : decode cX7_eRead 53 = .ok (.iadd, 1) := by decide +kernel
theorem dX7_eRead_54 : decode cX7_eRead 54 = .ok (.goto 7, 3) := by decide +kernel
theorem dX7_eRead_57 : decode cX7_eRead 57 = .ok (.aload_n 0, 1) := by decide +kernel
theorem dX7_eRead_58 : decode cX7_eRead 58 = .ok (.getfield 119, 3) := by decide +kernel
theorem dX7_eRead_61 : decode cX7_eRead 61 = .ok (.invokevirtual 139, 3) := by decide +kernel
theorem dX7_eRead_64 : decode cX7_eRead 64 = .ok (.aload_n 0, 1) := by decide +kernel
theorem dX7_eRead_65 : decode cX7_eRead 65 = .ok (.bipush 7, 2) := by decide +kernel
theorem dX7_eRead_67 : decode cX7_eRead 67 = .ok (.invokevirtual 146, 3) := by decide +kernel
theorem dX7_eRead_70 : decode cX7_eRead 70 = .ok (.iconst 0, 1) := by decide +kernel
theorem dX7_eRead_71 : decode cX7_eRead 71 = .ok (.istore_n 1, 1) := by decide +kernel
theorem dX7_eRead_72 : decode cX7_eRead 72 = .ok (.goto (-58), 3) := by decide +kernel
theorem dX7_eRead_75 : decode cX7_eRead 75 = .ok (.aload_n 0, 1) := by decide +kernel
theorem dX7_eRead_76 : decode cX7_eRead 76 = .ok (.getfield 116, 3) := by decide +kernel
theorem dX7_eRead_79 : decode cX7_eRead 79 = .ok (.bipush 6, 2) := by decide +kernel
theorem dX7_eRead_81 : decode cX7_eRead 81 = .ok (.if_icmp .ne 18, 3) := by decide +kernel
theorem dX7_eRead_84 : decode cX7_eRead 84 = .ok (.iload_n 2, 1) := by decide +kernel
theorem dX7_eRead_85 : decode cX7_eRead 85 = .ok (.ifCond .eq 14, 3) := by decide +kernel
theorem dX7_eRead_88 : decode cX7_eRead 88 = .ok (.aload_n 0, 1) := by decide +kernel
theorem dX7_eRead_89 : decode cX7_eRead 89 = .ok (.bipush 13, 2) := by decide +kernel
theorem dX7_eRead_91 : decode cX7_eRead 91 = .ok (.invokevirtual 153, 3) := by decide +kernel
theorem dX7_eRead_94 : decode cX7_eRead 94 = .ok (.ifCond .ne (-80), 3) := by decide +kernel
theorem dX7_eRead_97 : decode cX7_eRead 97 = .ok (.iconst 0, 1) := by decide +kernel
theorem dX7_eRead_98 : decode cX7_eRead 98 = .ok (.ireturn, 1) := by decide +kernel
theorem dX7_eRead_99 : decode cX7_eRead 99 = .ok (.aload_n 0, 1) := by decide +kernel
theorem dX7_eRead_100 : decode cX7_eRead 100 = .ok (.getfield 116, 3) := by decide +kernel
theorem dX7_eRead_103 : decode cX7_eRead 103 = .ok (.bipush 45, 2) := by decide +kernel
theorem dX7_eRead_105 : decode cX7_eRead 105 = .ok (.if_icmp .ne 19, 3) := by decide +kernel
theorem dX7_eRead_108 : decode cX7_eRead 108 = .ok (.aload_n 0, 1) := by decide +kernel
theorem dX7_eRead_109 : decode cX7_eRead 109 = .ok (.bipush 19, 2) := by decide +kernel
theorem dX7_eRead_111 : decode cX7_eRead 111 = .ok (.invokevirtual 153, 3) := by decide +kernel
theorem dX7_eRead_114 : decode cX7_eRead 114 = .ok (.ifCond .ne 5, 3) := by decide +kernel
theorem dX7_eRead_117 : decode cX7_eRead 117 = .ok (.iconst 0, 1) := by decide +kernel
theorem dX7_eRead_118 : decode cX7_eRead 118 = .ok (.ireturn, 1) := by decide +kernel
theorem dX7_eRead_119 : decode cX7_eRead 119 = .ok (.iconst 0, 1) := by decide +kernel
theorem dX7_eRead_120 : decode cX7_eRead 120 = .ok (.istore_n 2, 1) := by decide +kernel
theorem dX7_eRead_121 : decode cX7_eRead 121 = .ok (.goto (-107), 3) := by decide +kernel
theorem dX7_eRead_124 : decode cX7_eRead 124 = .ok (.aload_n 0, 1) := by decide +kernel
theorem dX7_eRead_125 : decode cX7_eRead 125 = .ok (.getfield 116, 3) := by decide +kernel
theorem dX7_eRead_128 : decode cX7_eRead 128 = .ok (.bipush 40, 2) := by decide +kernel
theorem dX7_eRead_130 : decode cX7_eRead 130 = .ok (.if_icmp .ne 18, 3) := by decide +kernel
theorem dX7_eRead_133 : decode cX7_eRead 133 = .ok (.aload_n 0, 1) := by decide +kernel
theorem dX7_eRead_134 : decode cX7_eRead 134 = .ok (.iconst 0, 1) := by decide +kernel
theorem dX7_eRead_135 : decode cX7_eRead 135 = .ok (.invokevirtual 153, 3) := by decide +kernel
theorem dX7_eRead_138 : decode cX7_eRead 138 = .ok (.ifCond .ne 5, 3) := by decide +kernel
theorem dX7_eRead_141 : decode cX7_eRead 141 = .ok (.iconst 0, 1) := by decide +kernel
theorem dX7_eRead_142 : decode cX7_eRead 142 = .ok (.ireturn, 1) := by decide +kernel
theorem dX7_eRead_143 : decode cX7_eRead 143 = .ok (.iconst 1, 1) := by decide +kernel
theorem dX7_eRead_144 : decode cX7_eRead 144 = .ok (.istore_n 2, 1) := by decide +kernel
theorem dX7_eRead_145 : decode cX7_eRead 145 = .ok (.goto (-131), 3) := by decide +kernel
theorem dX7_eRead_148 : decode cX7_eRead 148 = .ok (.iconst 0, 1) := by decide +kernel
theorem dX7_eRead_149 : decode cX7_eRead 149 = .ok (.ireturn, 1) := by decide +kernel
theorem dX7_eRead_150 : decode cX7_eRead 150 = .ok (.aload_n 0, 1) := by decide +kernel
theorem dX7_eRead_151 : decode cX7_eRead 151 = .ok (.getfield 116, 3) := by decide +kernel
theorem dX7_eRead_154 : decode cX7_eRead 154 = .ok (.bipush 59, 2) := by decide +kernel
theorem dX7_eRead_156 : decode cX7_eRead 156 = .ok (.if_icmp .ne 21, 3) := by decide +kernel
theorem dX7_eRead_159 : decode cX7_eRead 159 = .ok (.aload_n 0, 1) := by decide +kernel
theorem dX7_eRead_160 : decode cX7_eRead 160 = .ok (.iconst 1, 1) := by decide +kernel
theorem dX7_eRead_161 : decode cX7_eRead 161 = .ok (.invokevirtual 146, 3) := by decide +kernel
theorem dX7_eRead_164 : decode cX7_eRead 164 = .ok (.aload_n 0, 1) := by decide +kernel
theorem dX7_eRead_165 : decode cX7_eRead 165 = .ok (.getfield 129, 3) := by decide +kernel
theorem dX7_eRead_168 : decode cX7_eRead 168 = .ok (.ifCond .ne 7, 3) := by decide +kernel
theorem dX7_eRead_171 : decode cX7_eRead 171 = .ok (.iconst 1, 1) := by decide +kernel
theorem dX7_eRead_172 : decode cX7_eRead 172 = .ok (.goto 4, 3) := by decide +kernel
theorem dX7_eRead_175 : decode cX7_eRead 175 = .ok (.iconst 0, 1) := by decide +kernel
theorem dX7_eRead_176 : decode cX7_eRead 176 = .ok (.ireturn, 1) := by decide +kernel
theorem dX7_eRead_177 : decode cX7_eRead 177 = .ok (.aload_n 0, 1) := by decide +kernel
theorem dX7_eRead_178 : decode cX7_eRead 178 = .ok (.getfield 116, 3) := by decide +kernel
theorem dX7_eRead_181 : decode cX7_eRead 181 = .ok (.bipush 41, 2) := by decide +kernel
theorem dX7_eRead_183 : decode cX7_eRead 183 = .ok (.if_icmp .ne 46, 3) := by decide +kernel
theorem dX7_eRead_186 : decode cX7_eRead 186 = .ok (.aload_n 0, 1) := by decide +kernel
theorem dX7_eRead_187 : decode cX7_eRead 187 = .ok (.iconst 1, 1) := by decide +kernel
theorem dX7_eRead_188 : decode cX7_eRead 188 = .ok (.invokevirtual 146, 3) := by decide +kernel
theorem dX7_eRead_191 : decode cX7_eRead 191 = .ok (.aload_n 0, 1) := by decide +kernel
theorem dX7_eRead_192 : decode cX7_eRead 192 = .ok (.getfield 129, 3) := by decide +kernel
theorem dX7_eRead_195 : decode cX7_eRead 195 = .ok (.ifCond .ne 5, 3) := by decide +kernel
theorem dX7_eRead_198 : decode cX7_eRead 198 = .ok (.iconst 0, 1) := by decide +kernel
theorem dX7_eRead_199 : decode cX7_eRead 199 = .ok (.ireturn, 1) := by decide +kernel
theorem dX7_eRead_200 : decode cX7_eRead 200 = .ok (.aload_n 0, 1) := by decide +kernel
theorem dX7_eRead_201 : decode cX7_eRead 201 = .ok (.dup, 1) := by decide +kernel
theorem dX7_eRead_202 : decode cX7_eRead 202 = .ok (.getfield 129, 3) := by decide +kernel
theorem dX7_eRead_205 : decode cX7_eRead 205 = .ok (.iconst 1, 1) := by decide +kernel
theorem dX7_eRead_206 : decode cX7_eRead 206 = .ok (.isub, 1) := by decide +kernel
theorem dX7_eRead_207 : decode cX7_eRead 207 = .ok (.putfield 129, 3) := by decide +kernel
theorem dX7_eRead_210 : decode cX7_eRead 210 = .ok (.aload_n 0, 1) := by decide +kernel
theorem dX7_eRead_211 : decode cX7_eRead 211 = .ok (.dup, 1) := by decide +kernel
theorem dX7_eRead_212 : decode cX7_eRead 212 = .ok (.getfield 136, 3) := by decide +kernel
theorem dX7_eRead_215 : decode cX7_eRead 215 = .ok (.iconst 1, 1) := by decide +kernel
theorem dX7_eRead_216 : decode cX7_eRead 216 = .ok (.isub, 1) := by decide +kernel
theorem dX7_eRead_217 : decode cX7_eRead 217 = .ok (.putfield 136, 3) := by decide +kernel
theorem dX7_eRead_220 : decode cX7_eRead 220 = .ok (.aload_n 0, 1) := by decide +kernel
theorem dX7_eRead_221 : decode cX7_eRead 221 = .ok (.bipush 7, 2) := by decide +kernel
theorem dX7_eRead_223 : decode cX7_eRead 223 = .ok (.invokevirtual 146, 3) := by decide +kernel
theorem dX7_eRead_226 : decode cX7_eRead 226 = .ok (.goto (-212), 3) := by decide +kernel
theorem dX7_eRead_229 : decode cX7_eRead 229 = .ok (.aload_n 0, 1) := by decide +kernel
theorem dX7_eRead_230 : decode cX7_eRead 230 = .ok (.invokevirtual 156, 3) := by decide +kernel
theorem dX7_eRead_233 : decode cX7_eRead 233 = .ok (.istore_n 3, 1) := by decide +kernel
theorem dX7_eRead_234 : decode cX7_eRead 234 = .ok (.iload_n 3, 1) := by decide +kernel
theorem dX7_eRead_235 : decode cX7_eRead 235 = .ok (.iconst (-1), 1) := by decide +kernel
theorem dX7_eRead_236 : decode cX7_eRead 236 = .ok (.if_icmp .eq 11, 3) := by decide +kernel
theorem dX7_eRead_239 : decode cX7_eRead 239 = .ok (.aload_n 0, 1) := by decide +kernel
theorem dX7_eRead_240 : decode cX7_eRead 240 = .ok (.iload_n 3, 1) := by decide +kernel
theorem dX7_eRead_241 : decode cX7_eRead 241 = .ok (.invokevirtual 159, 3) := by decide +kernel
theorem dX7_eRead_244 : decode cX7_eRead 244 = .ok (.ifCond .ne 5, 3) := by decide +kernel
theorem dX7_eRead_247 : decode cX7_eRead 247 = .ok (.iconst 0, 1) := by decide +kernel
theorem dX7_eRead_248 : decode cX7_eRead 248 = .ok (.ireturn, 1) := by decide +kernel
theorem dX7_eRead_249 : decode cX7_eRead 249 = .ok (.iconst 1, 1) := by decide +kernel
theorem dX7_eRead_250 : decode cX7_eRead 250 = .ok (.istore_n 1, 1) := by decide +kernel
theorem dX7_eRead_251 : decode cX7_eRead 251 = .ok (.iload_n 3, 1) := by decide +kernel
theorem dX7_eRead_252 : decode cX7_eRead 252 = .ok (.bipush 12, 2) := by decide +kernel
theorem dX7_eRead_254 : decode cX7_eRead 254 = .ok (.if_icmp .gt 7, 3) := by decide +kernel
theorem dX7_eRead_257 : decode cX7_eRead 257 = .ok (.iconst 1, 1) := by decide +kernel
theorem dX7_eRead_258 : decode cX7_eRead 258 = .ok (.goto 4, 3) := by decide +kernel
theorem dX7_eRead_261 : decode cX7_eRead 261 = .ok (.iconst 0, 1) := by decide +kernel
theorem dX7_eRead_262 : decode cX7_eRead 262 = .ok (.istore_n 2, 1) := by decide +kernel
theorem dX7_eRead_263 : decode cX7_eRead 263 = .ok (.goto (-249), 3) := by decide +kernel
theorem dX7_text_0 : decode cX7_text 0 = .ok (.aload_n 0, 1) := by decide +kernel
theorem dX7_text_1 : decode cX7_text 1 = .ok (.getfield 100, 3) := by decide +kernel
theorem dX7_text_4 : decode cX7_text 4 = .ok (.bipush 6, 2) := by decide +kernel
theorem dX7_text_6 : decode cX7_text 6 = .ok (.if_icmp .ne 6, 3) := by decide +kernel
theorem dX7_text_9 : decode cX7_text 9 = .ok (.bipush (-4), 2) := by decide +kernel
theorem dX7_text_11 : decode cX7_text 11 = .ok (.ireturn, 1) := by decide +kernel
theorem dX7_text_12 : decode cX7_text 12 = .ok (.aload_n 0, 1) := by decide +kernel
theorem dX7_text_13 : decode cX7_text 13 = .ok (.iconst 0, 1) := by decide +kernel
theorem dX7_text_14 : decode cX7_text 14 = .ok (.putfield 110, 3) := by decide +kernel
theorem dX7_text_17 : decode cX7_text 17 = .ok (.aload_n 0, 1) := by decide +kernel
theorem dX7_text_18 : decode cX7_text 18 = .ok (.iconst 0, 1) := by decide +kernel
theorem dX7_text_19 : decode cX7_text 19 = .ok (.putfield 126, 3) := by decide +kernel
theorem dX7_text_22 : decode cX7_text 22 = .ok (.iconst 1, 1) := by decide +kernel
theorem dX7_text_23 : decode cX7_text 23 = .ok (.istore_n 1, 1) := by decide +kernel
theorem dX7_text_24 : decode cX7_text 24 = .ok (.iconst 0, 1) := by decide +kernel
theorem dX7_text_25 : decode cX7_text 25 = .ok (.istore_n 2, 1) := by decide +kernel
theorem dX7_text_26 : decode cX7_text 26 = .ok (.iload_n 2, 1) := by decide +kernel
theorem dX7_text_27 : decode cX7_text 27 = .ok (.iconst 3, 1) := by decide +kernel
theorem dX7_text_28 : decode cX7_text 28 = .ok (.if_icmp .ge 73, 3) := by decide +kernel
theorem dX7_text_31 : decode cX7_text 31 = .ok (.iload_n 1, 1) := by decide +kernel
theorem dX7_text_32 : decode cX7_text 32 = .ok (.ifCond .eq 69, 3) := by decide +kernel
theorem dX7_text_35 : decode cX7_text 35 = .ok (.aload_n 0, 1) := by decide +kernel
theorem dX7_text_36 : decode cX7_text 36 = .ok (.invokevirtual 149, 3) := by decide +kernel
theorem dX7_text_39 : decode cX7_text 39 = .ok (.aload_n 0, 1) := by decide +kernel
theorem dX7_text_40 : decode cX7_text 40 = .ok (.getfield 116, 3) := by decide +kernel
theorem dX7_text_43 : decode cX7_text 43 = .ok (.iconst 3, 1) := by decide +kernel
theorem dX7_text_44 : decode cX7_text 44 = .ok (.if_icmp .ne 15, 3) := by decide +kernel
theorem dX7_text_47 : decode cX7_text 47 = .ok (.aload_n 0, 1) := by decide +kernel
theorem dX7_text_48 : decode cX7_text 48 = .ok (.getfield 119, 3) := by decide +kernel
theorem dX7_text_51 : decode cX7_text 51 = .ok (.iload_n 2, 1) := by decide +kernel
theorem dX7_text_52 : decode cX7_text 52 = .ok (.if_icmp .ne 7, 3) := by decide +kernel
theorem dX7_text_55 : decode cX7_text 55 = .ok (.iconst 1, 1) := by decide +kernel
theorem dX7_text_56 : decode cX7_text 56 = .ok (.goto 4, 3) := by decide +kernel
theorem dX7_text_59 : decode cX7_text 59 = .ok (.iconst 0, 1) := by decide +kernel
theorem dX7_text_60 : decode cX7_text 60 = .ok (.istore_n 1, 1) := by decide +kernel
theorem dX7_text_61 : decode cX7_text 61 = .ok (.aload_n 0, 1) := by decide +kernel
theorem dX7_text_62 : decode cX7_text 62 = .ok (.getfield 37, 3) := by decide +kernel
theorem dX7_text_65 : decode cX7_text 65 = .ok (.iconst 4, 1) := by decide +kernel
theorem dX7_text_66 : decode cX7_text 66 = .ok (.aload_n 0, 1) := by decide +kernel
theorem dX7_text_67 : decode cX7_text 67 = .ok (.getfield 100, 3) := by decide +kernel
theorem dX7_text_70 : decode cX7_text 70 = .ok (.imul, 1) := by decide +kernel
theorem dX7_text_71 : decode cX7_text 71 = .ok (.iload_n 2, 1) := by decide +kernel
theorem dX7_text_72 : decode cX7_text 72 = .ok (.iadd, 1) := by decide +kernel
theorem dX7_text_73 : decode cX7_text 73 = .ok (.aload_n 0, 1) := by decide +kernel
theorem dX7_text_74 : decode cX7_text 74 = .ok (.getfield 126, 3) := by decide +kernel
theorem dX7_text_77 : decode cX7_text 77 = .ok (.iastore, 1) := by decide +kernel
theorem dX7_text_78 : decode cX7_text 78 = .ok (.iload_n 1, 1) := by decide +kernel
theorem dX7_text_79 : decode cX7_text 79 = .ok (.ifCond .eq 14, 3) := by decide +kernel
theorem dX7_text_82 : decode cX7_text 82 = .ok (.aload_n 0, 1) := by decide +kernel
theorem dX7_text_83 : decode cX7_text 83 = .ok (.invokevirtual 162, 3) := by decide +kernel
theorem dX7_text_86 : decode cX7_text 86 = .ok (.ifCond .eq 7, 3) := by decide +kernel
theorem dX7_text_89 : decode cX7_text 89 = .ok (.iconst 1, 1) := by decide +kernel
theorem dX7_text_90 : decode cX7_text 90 = .ok (.goto 4, 3) := by decide +kernel
theorem dX7_text_93 : decode cX7_text 93 = .ok (.iconst 0, 1) := by decide +kernel
theorem dX7_text_94 : decode cX7_text 94 = .ok (.istore_n 1, 1) := by decide +kernel
theorem dX7_text_95 : decode cX7_text 95 = .ok (.iinc 2 1, 3) := by decide +kernel
theorem dX7_text_98 : decode cX7_text 98 = .ok (.goto (-72), 3) := by decide +kernel
theorem dX7_text_101 : decode cX7_text 101 = .ok (.iload_n 1, 1) := by decide +kernel
theorem dX7_text_102 : decode cX7_text 102 = .ok (.ifCond .eq 20, 3) := by decide +kernel
theorem dX7_text_105 : decode cX7_text 105 = .ok (.aload_n 0, 1) := by decide +kernel
theorem dX7_text_106 : decode cX7_text 106 = .ok (.invokevirtual 149, 3) := by decide +kernel
theorem dX7_text_109 : decode cX7_text 109 = .ok (.aload_n 0, 1) := by decide +kernel
theorem dX7_text_110 : decode cX7_text 110 = .ok (.getfield 116, 3) := by decide +kernel
theorem dX7_text_113 : decode cX7_text 113 = .ok (.ifCond .ne 7, 3) := by decide +kernel
theorem dX7_text_116 : decode cX7_text 116 = .ok (.iconst 1, 1) := by decide +kernel
theorem dX7_text_117 : decode cX7_text 117 = .ok (.goto 4, 3) := by decide +kernel
theorem dX7_text_120 : decode cX7_text 120 = .ok (.iconst 0, 1) := by decide +kernel
theorem dX7_text_121 : decode cX7_text 121 = .ok (.istore_n 1, 1) := by decide +kernel
theorem dX7_text_122 : decode cX7_text 122 = .ok (.aload_n 0, 1) := by decide +kernel
theorem dX7_text_123 : decode cX7_text 123 = .ok (.getfield 37, 3) := by decide +kernel
theorem dX7_text_126 : decode cX7_text 126 = .ok (.iconst 4, 1) := by decide +kernel
theorem dX7_text_127 : decode cX7_text 127 = .ok (.aload_n 0, 1) := by decide +kernel
theorem dX7_text_128 : decode cX7_text 128 = .ok (.getfield 100, 3) := by decide +kernel
theorem dX7_text_131 : decode cX7_text 131 = .ok (.imul, 1) := by decide +kernel
theorem dX7_text_132 : decode cX7_text 132 = .ok (.iconst 3, 1) := by decide +kernel
theorem dX7_text_133 : decode cX7_text 133 = .ok (.iadd, 1) := by decide +kernel
theorem dX7_text_134 : decode cX7_text 134 = .ok (.aload_n 0, 1) := by decide +kernel
theorem dX7_text_135 : decode cX7_text 135 = .ok (.getfield 126, 3) := by decide +kernel
theorem dX7_text_138 : decode cX7_text 138 = .ok (.iastore, 1) := by decide +kernel
theorem dX7_text_139 : decode cX7_text 139 = .ok (.aload_n 0, 1) := by decide +kernel
theorem dX7_text_140 : decode cX7_text 140 = .ok (.iconst 0, 1) := by decide +kernel
theorem dX7_text_141 : decode cX7_text 141 = .ok (.putfield 76, 3) := by decide +kernel
theorem dX7_text_144 : decode cX7_text 144 = .ok (.iload_n 1, 1) := by decide +kernel
theorem dX7_text_145 : decode cX7_text 145 = .ok (.ifCond .ne 11, 3) := by decide +kernel
theorem dX7_text_148 : decode cX7_text 148 = .ok (.bipush (-100), 2) := by decide +kernel
theorem dX7_text_150 : decode cX7_text 150 = .ok (.aload_n 0, 1) := by decide +kernel
theorem dX7_text_151 : decode cX7_text 151 = .ok (.getfield 113, 3) := by decide +kernel
theorem dX7_text_154 : decode cX7_text 154 = .ok (.isub, 1) := by decide +kernel
theorem dX7_text_155 : decode cX7_text 155 = .ok (.ireturn, 1) := by decide +kernel
theorem dX7_text_156 : decode cX7_text 156 = .ok (.aload_n 0, 1) := by decide +kernel
theorem dX7_text_157 : decode cX7_text 157 = .ok (.dup, 1) := by decide +kernel
theorem dX7_text_158 : decode cX7_text 158 = .ok (.getfield 100, 3) := by decide +kernel
theorem dX7_text_161 : decode cX7_text 161 = .ok (.iconst 1, 1) := by decide +kernel
theorem dX7_text_162 : decode cX7_text 162 = .ok (.iadd, 1) := by decide +kernel
theorem dX7_text_163 : decode cX7_text 163 = .ok (.putfield 100, 3) := by decide +kernel
theorem dX7_text_166 : decode cX7_text 166 = .ok (.aload_n 0, 1) := by decide +kernel
theorem dX7_text_167 : decode cX7_text 167 = .ok (.getfield 100, 3) := by decide +kernel
theorem dX7_text_170 : decode cX7_text 170 = .ok (.iconst 1, 1) := by decide +kernel
theorem dX7_text_171 : decode cX7_text 171 = .ok (.isub, 1) := by decide +kernel
theorem dX7_text_172 : decode cX7_text 172 = .ok (.ireturn, 1) := by decide +kernel
theorem dX7_two_0 : decode cX7_two 0 = .ok (.iload_n 0, 1) := by decide +kernel
theorem dX7_two_1 : decode cX7_two 1 = .ok (.tableswitch 101 11 17 #[43, 57, 101, 71, 82, 93, 97], 43) := by decide +kernel
theorem dX7_two_44 : decode cX7_two 44 = .ok (.iload_n 1, 1) := by decide +kernel
theorem dX7_two_45 : decode cX7_two 45 = .ok (.ifCond .ne 7, 3) := by decide +kernel
theorem dX7_two_48 : decode cX7_two 48 = .ok (.iload_n 2, 1) := by decide +kernel
theorem dX7_two_49 : decode cX7_two 49 = .ok (.ifCond .eq 7, 3) := by decide +kernel
theorem dX7_two_52 : decode cX7_two 52 = .ok (.iconst 1, 1) := by decide +kernel
theorem dX7_two_53 : decode cX7_two 53 = .ok (.goto 4, 3) := by decide +kernel
theorem dX7_two_56 : decode cX7_two 56 = .ok (.iconst 0, 1) := by decide +kernel
theorem dX7_two_57 : decode cX7_two 57 = .ok (.ireturn, 1) := by decide +kernel
theorem dX7_two_58 : decode cX7_two 58 = .ok (.iload_n 1, 1) := by decide +kernel
theorem dX7_two_59 : decode cX7_two 59 = .ok (.ifCond .eq 11, 3) := by decide +kernel
theorem dX7_two_62 : decode cX7_two 62 = .ok (.iload_n 2, 1) := by decide +kernel
theorem dX7_two_63 : decode cX7_two 63 = .ok (.ifCond .eq 7, 3) := by decide +kernel
theorem dX7_two_66 : decode cX7_two 66 = .ok (.iconst 1, 1) := by decide +kernel
theorem dX7_two_67 : decode cX7_two 67 = .ok (.goto 4, 3) := by decide +kernel
theorem dX7_two_70 : decode cX7_two 70 = .ok (.iconst 0, 1) := by decide +kernel
theorem dX7_two_71 : decode cX7_two 71 = .ok (.ireturn, 1) := by decide +kernel
theorem dX7_two_72 : decode cX7_two 72 = .ok (.iload_n 1, 1) := by decide +kernel
theorem dX7_two_73 : decode cX7_two 73 = .ok (.iload_n 2, 1) := by decide +kernel
theorem dX7_two_74 : decode cX7_two 74 = .ok (.if_icmp .ge 7, 3) := by decide +kernel
theorem dX7_two_77 : decode cX7_two 77 = .ok (.iconst 1, 1) := by decide +kernel
theorem dX7_two_78 : decode cX7_two 78 = .ok (.goto 4, 3) := by decide +kernel
theorem dX7_two_81 : decode cX7_two 81 = .ok (.iconst 0, 1) := by decide +kernel
theorem dX7_two_82 : decode cX7_two 82 = .ok (.ireturn, 1) := by decide +kernel
theorem dX7_two_83 : decode cX7_two 83 = .ok (.iload_n 1, 1) := by decide +kernel
theorem dX7_two_84 : decode cX7_two 84 = .ok (.iload_n 2, 1) := by decide +kernel
theorem dX7_two_85 : decode cX7_two 85 = .ok (.if_icmp .ne 7, 3) := by decide +kernel
theorem dX7_two_88 : decode cX7_two 88 = .ok (.iconst 1, 1) := by decide +kernel
theorem dX7_two_89 : decode cX7_two 89 = .ok (.goto 4, 3) := by decide +kernel
theorem dX7_two_92 : decode cX7_two 92 = .ok (.iconst 0, 1) := by decide +kernel
theorem dX7_two_93 : decode cX7_two 93 = .ok (.ireturn, 1) := by decide +kernel
theorem dX7_two_94 : decode cX7_two 94 = .ok (.iload_n 1, 1) := by decide +kernel
theorem dX7_two_95 : decode cX7_two 95 = .ok (.iload_n 2, 1) := by decide +kernel
theorem dX7_two_96 : decode cX7_two 96 = .ok (.iadd, 1) := by decide +kernel
theorem dX7_two_97 : decode cX7_two 97 = .ok (.ireturn, 1) := by decide +kernel
theorem dX7_two_98 : decode cX7_two 98 = .ok (.iload_n 1, 1) := by decide +kernel
theorem dX7_two_99 : decode cX7_two 99 = .ok (.iload_n 2, 1) := by decide +kernel
theorem dX7_two_100 : decode cX7_two 100 = .ok (.isub, 1) := by decide +kernel
theorem dX7_two_101 : decode cX7_two 101 = .ok (.ireturn, 1) := by decide +kernel
theorem dX7_two_102 : decode cX7_two 102 = .ok (.iload_n 1, 1) := by decide +kernel
theorem dX7_two_103 : decode cX7_two 103 = .ok (.iload_n 2, 1) := by decide +kernel
theorem dX7_two_104 : decode cX7_two 104 = .ok (.imul, 1) := by decide +kernel
theorem dX7_two_105 : decode cX7_two 105 = .ok (.ireturn, 1) := by decide +kernel
theorem dX7_says_0 : decode cX7_says 0 = .ok (.iconst 0, 1) := by decide +kernel
theorem dX7_says_1 : decode cX7_says 1 = .ok (.istore_n 2, 1) := by decide +kernel
theorem dX7_says_2 : decode cX7_says 2 = .ok (.aload_n 0, 1) := by decide +kernel
theorem dX7_says_3 : decode cX7_says 3 = .ok (.getfield 37, 3) := by decide +kernel
theorem dX7_says_6 : decode cX7_says 6 = .ok (.iconst 4, 1) := by decide +kernel
theorem dX7_says_7 : decode cX7_says 7 = .ok (.aload_n 0, 1) := by decide +kernel
theorem dX7_says_8 : decode cX7_says 8 = .ok (.getfield 103, 3) := by decide +kernel
theorem dX7_says_11 : decode cX7_says 11 = .ok (.imul, 1) := by decide +kernel
theorem dX7_says_12 : decode cX7_says 12 = .ok (.iload_n 1, 1) := by decide +kernel
theorem dX7_says_13 : decode cX7_says 13 = .ok (.iadd, 1) := by decide +kernel
theorem dX7_says_14 : decode cX7_says 14 = .ok (.iaload, 1) := by decide +kernel
theorem dX7_says_15 : decode cX7_says 15 = .ok (.istore_n 3, 1) := by decide +kernel
theorem dX7_says_16 : decode cX7_says 16 = .ok (.iload_n 3, 1) := by decide +kernel
theorem dX7_says_17 : decode cX7_says 17 = .ok (.aload_n 0, 1) := by decide +kernel
theorem dX7_says_18 : decode cX7_says 18 = .ok (.getfield 37, 3) := by decide +kernel
theorem dX7_says_21 : decode cX7_says 21 = .ok (.iconst 4, 1) := by decide +kernel
theorem dX7_says_22 : decode cX7_says 22 = .ok (.aload_n 0, 1) := by decide +kernel
theorem dX7_says_23 : decode cX7_says 23 = .ok (.getfield 103, 3) := by decide +kernel
theorem dX7_says_26 : decode cX7_says 26 = .ok (.imul, 1) := by decide +kernel
theorem dX7_says_27 : decode cX7_says 27 = .ok (.iload_n 1, 1) := by decide +kernel
theorem dX7_says_28 : decode cX7_says 28 = .ok (.iadd, 1) := by decide +kernel
theorem dX7_says_29 : decode cX7_says 29 = .ok (.iconst 1, 1) := by decide +kernel
theorem dX7_says_30 : decode cX7_says 30 = .ok (.iadd, 1) := by decide +kernel
theorem dX7_says_31 : decode cX7_says 31 = .ok (.iaload, 1) := by decide +kernel
theorem dX7_says_32 : decode cX7_says 32 = .ok (.if_icmp .ge 165, 3) := by decide +kernel
theorem dX7_says_35 : decode cX7_says 35 = .ok (.aload_n 0, 1) := by decide +kernel
theorem dX7_says_36 : decode cX7_says 36 = .ok (.getfield 34, 3) := by decide +kernel
theorem dX7_says_39 : decode cX7_says 39 = .ok (.sipush 200, 3) := by decide +kernel
theorem dX7_says_42 : decode cX7_says 42 = .ok (.aload_n 0, 1) := by decide +kernel
theorem dX7_says_43 : decode cX7_says 43 = .ok (.getfield 103, 3) := by decide +kernel
theorem dX7_says_46 : decode cX7_says 46 = .ok (.imul, 1) := by decide +kernel
theorem dX7_says_47 : decode cX7_says 47 = .ok (.iload_n 3, 1) := by decide +kernel
theorem dX7_says_48 : decode cX7_says 48 = .ok (.iadd, 1) := by decide +kernel
theorem dX7_says_49 : decode cX7_says 49 = .ok (.iaload, 1) := by decide +kernel
theorem dX7_says_50 : decode cX7_says 50 = .ok (.istore 4, 2) := by decide +kernel
theorem dX7_says_52 : decode cX7_says 52 = .ok (.iload 4, 2) := by decide +kernel
theorem dX7_says_54 : decode cX7_says 54 = .ok (.ldc 152, 2) := by decide +kernel
theorem dX7_says_56 : decode cX7_says 56 = .ok (.if_icmp .ge 10, 3) := by decide +kernel
theorem dX7_says_59 : decode cX7_says 59 = .ok (.iload 4, 2) := by decide +kernel
theorem dX7_says_61 : decode cX7_says 61 = .ok (.bipush 11, 2) := by decide +kernel
theorem dX7_says_63 : decode cX7_says 63 = .ok (.if_icmp .ge 37, 3) := by decide +kernel
theorem dX7_says_66 : decode cX7_says 66 = .ok (.aload_n 0, 1) := by decide +kernel
theorem dX7_says_67 : decode cX7_says 67 = .ok (.getfield 64, 3) := by decide +kernel
theorem dX7_says_70 : decode cX7_says 70 = .ok (.iload_n 2, 1) := by decide +kernel
theorem dX7_says_71 : decode cX7_says 71 = .ok (.iload 4, 2) := by decide +kernel
theorem dX7_says_73 : decode cX7_says 73 = .ok (.bipush 11, 2) := by decide +kernel
theorem dX7_says_75 : decode cX7_says 75 = .ok (.if_icmp .ge 13, 3) := by decide +kernel
theorem dX7_says_78 : decode cX7_says 78 = .ok (.aload_n 0, 1) := by decide +kernel
theorem dX7_says_79 : decode cX7_says 79 = .ok (.getfield 67, 3) := by decide +kernel
theorem dX7_says_82 : decode cX7_says 82 = .ok (.iload 4, 2) := by decide +kernel
theorem dX7_says_84 : decode cX7_says 84 = .ok (.iaload, 1) := by decide +kernel
theorem dX7_says_85 : decode cX7_says 85 = .ok (.goto 8, 3) := by decide +kernel
theorem dX7_says_88 : decode cX7_says 88 = .ok (.iload 4, 2) := by decide +kernel
theorem dX7_says_90 : decode cX7_says 90 = .ok (.ldc 152, 2) := by decide +kernel
theorem dX7_says_92 : decode cX7_says 92 = .ok (.isub, 1) := by decide +kernel
theorem dX7_says_93 : decode cX7_says 93 = .ok (.iastore, 1) := by decide +kernel
theorem dX7_says_94 : decode cX7_says 94 = .ok (.iinc 2 1, 3) := by decide +kernel
theorem dX7_says_97 : decode cX7_says 97 = .ok (.goto 94, 3) := by decide +kernel
theorem dX7_says_100 : decode cX7_says 100 = .ok (.iload 4, 2) := by decide +kernel
theorem dX7_says_102 : decode cX7_says 102 = .ok (.bipush 13, 2) := by decide +kernel
theorem dX7_says_104 : decode cX7_says 104 = .ok (.if_icmp .ne 30, 3) := by decide +kernel
theorem dX7_says_107 : decode cX7_says 107 = .ok (.aload_n 0, 1) := by decide +kernel
theorem dX7_says_108 : decode cX7_says 108 = .ok (.getfield 64, 3) := by decide +kernel
theorem dX7_says_111 : decode cX7_says 111 = .ok (.iload_n 2, 1) := by decide +kernel
theorem dX7_says_112 : decode cX7_says 112 = .ok (.iconst 1, 1) := by decide +kernel
theorem dX7_says_113 : decode cX7_says 113 = .ok (.isub, 1) := by decide +kernel
theorem dX7_says_114 : decode cX7_says 114 = .ok (.aload_n 0, 1) := by decide +kernel
theorem dX7_says_115 : decode cX7_says 115 = .ok (.getfield 64, 3) := by decide +kernel
theorem dX7_says_118 : decode cX7_says 118 = .ok (.iload_n 2, 1) := by decide +kernel
theorem dX7_says_119 : decode cX7_says 119 = .ok (.iconst 1, 1) := by decide +kernel
theorem dX7_says_120 : decode cX7_says 120 = .ok (.isub, 1) := by decide +kernel
theorem dX7_says_121 : decode cX7_says 121 = .ok (.iaload, 1) := by decide +kernel
theorem dX7_says_122 : decode cX7_says 122 = .ok (.ifCond .ne 7, 3) := by decide +kernel
theorem dX7_says_125 : decode cX7_says 125 = .ok (.iconst 1, 1) := by decide +kernel
theorem dX7_says_126 : decode cX7_says 126 = .ok (.goto 4, 3) := by decide +kernel
theorem dX7_says_129 : decode cX7_says 129 = .ok (.iconst 0, 1) := by decide +kernel
theorem dX7_says_130 : decode cX7_says 130 = .ok (.iastore, 1) := by decide +kernel
theorem dX7_says_131 : decode cX7_says 131 = .ok (.goto 60, 3) := by decide +kernel
theorem dX7_says_134 : decode cX7_says 134 = .ok (.iload 4, 2) := by decide +kernel
theorem dX7_says_136 : decode cX7_says 136 = .ok (.bipush 19, 2) := by decide +kernel
theorem dX7_says_138 : decode cX7_says 138 = .ok (.if_icmp .ne 23, 3) := by decide +kernel
theorem dX7_says_141 : decode cX7_says 141 = .ok (.aload_n 0, 1) := by decide +kernel
theorem dX7_says_142 : decode cX7_says 142 = .ok (.getfield 64, 3) := by decide +kernel
theorem dX7_says_145 : decode cX7_says 145 = .ok (.iload_n 2, 1) := by decide +kernel
theorem dX7_says_146 : decode cX7_says 146 = .ok (.iconst 1, 1) := by decide +kernel
theorem dX7_says_147 : decode cX7_says 147 = .ok (.isub, 1) := by decide +kernel
theorem dX7_says_148 : decode cX7_says 148 = .ok (.aload_n 0, 1) := by decide +kernel
theorem dX7_says_149 : decode cX7_says 149 = .ok (.getfield 64, 3) := by decide +kernel
theorem dX7_says_152 : decode cX7_says 152 = .ok (.iload_n 2, 1) := by decide +kernel
theorem dX7_says_153 : decode cX7_says 153 = .ok (.iconst 1, 1) := by decide +kernel
theorem dX7_says_154 : decode cX7_says 154 = .ok (.isub, 1) := by decide +kernel
theorem dX7_says_155 : decode cX7_says 155 = .ok (.iaload, 1) := by decide +kernel
theorem dX7_says_156 : decode cX7_says 156 = .ok (.ineg, 1) := by decide +kernel
theorem dX7_says_157 : decode cX7_says 157 = .ok (.iastore, 1) := by decide +kernel
theorem dX7_says_158 : decode cX7_says 158 = .ok (.goto 33, 3) := by decide +kernel
theorem dX7_says_161 : decode cX7_says 161 = .ok (.iinc 2 (-1), 3) := by decide +kernel
theorem dX7_says_164 : decode cX7_says 164 = .ok (.aload_n 0, 1) := by decide +kernel
theorem dX7_says_165 : decode cX7_says 165 = .ok (.getfield 64, 3) := by decide +kernel
theorem dX7_says_168 : decode cX7_says 168 = .ok (.iload_n 2, 1) := by decide +kernel
theorem dX7_says_169 : decode cX7_says 169 = .ok (.iconst 1, 1) := by decide +kernel
theorem dX7_says_170 : decode cX7_says 170 = .ok (.isub, 1) := by decide +kernel
theorem dX7_says_171 : decode cX7_says 171 = .ok (.iload 4, 2) := by decide +kernel
theorem dX7_says_173 : decode cX7_says 173 = .ok (.aload_n 0, 1) := by decide +kernel
theorem dX7_says_174 : decode cX7_says 174 = .ok (.getfield 64, 3) := by decide +kernel
theorem dX7_says_177 : decode cX7_says 177 = .ok (.iload_n 2, 1) := by decide +kernel
theorem dX7_says_178 : decode cX7_says 178 = .ok (.iconst 1, 1) := by decide +kernel
theorem dX7_says_179 : decode cX7_says 179 = .ok (.isub, 1) := by decide +kernel
theorem dX7_says_180 : decode cX7_says 180 = .ok (.iaload, 1) := by decide +kernel
theorem dX7_says_181 : decode cX7_says 181 = .ok (.aload_n 0, 1) := by decide +kernel
theorem dX7_says_182 : decode cX7_says 182 = .ok (.getfield 64, 3) := by decide +kernel
theorem dX7_says_185 : decode cX7_says 185 = .ok (.iload_n 2, 1) := by decide +kernel
theorem dX7_says_186 : decode cX7_says 186 = .ok (.iaload, 1) := by decide +kernel
theorem dX7_says_187 : decode cX7_says 187 = .ok (.invokestatic 166, 3) := by decide +kernel
theorem dX7_says_190 : decode cX7_says 190 = .ok (.iastore, 1) := by decide +kernel
theorem dX7_says_191 : decode cX7_says 191 = .ok (.iinc 3 1, 3) := by decide +kernel
theorem dX7_says_194 : decode cX7_says 194 = .ok (.goto (-178), 3) := by decide +kernel
theorem dX7_says_197 : decode cX7_says 197 = .ok (.aload_n 0, 1) := by decide +kernel
theorem dX7_says_198 : decode cX7_says 198 = .ok (.getfield 64, 3) := by decide +kernel
theorem dX7_says_201 : decode cX7_says 201 = .ok (.iconst 0, 1) := by decide +kernel
theorem dX7_says_202 : decode cX7_says 202 = .ok (.iaload, 1) := by decide +kernel
theorem dX7_says_203 : decode cX7_says 203 = .ok (.ireturn, 1) := by decide +kernel
theorem dX7_force_0 : decode cX7_force 0 = .ok (.iload_n 1, 1) := by decide +kernel
theorem dX7_force_1 : decode cX7_force 1 = .ok (.iconst 0, 1) := by decide +kernel
theorem dX7_force_2 : decode cX7_force 2 = .ok (.aload_n 0, 1) := by decide +kernel
theorem dX7_force_3 : decode cX7_force 3 = .ok (.getfield 100, 3) := by decide +kernel
theorem dX7_force_6 : decode cX7_force 6 = .ok (.iconst 1, 1) := by decide +kernel
theorem dX7_force_7 : decode cX7_force 7 = .ok (.isub, 1) := by decide +kernel
theorem dX7_force_8 : decode cX7_force 8 = .ok (.invokestatic 87, 3) := by decide +kernel
theorem dX7_force_11 : decode cX7_force 11 = .ok (.ifCond .ne 6, 3) := by decide +kernel
theorem dX7_force_14 : decode cX7_force 14 = .ok (.bipush (-2), 2) := by decide +kernel
theorem dX7_force_16 : decode cX7_force 16 = .ok (.ireturn, 1) := by decide +kernel
theorem dX7_force_17 : decode cX7_force 17 = .ok (.aload_n 0, 1) := by decide +kernel
theorem dX7_force_18 : decode cX7_force 18 = .ok (.getfield 103, 3) := by decide +kernel
theorem dX7_force_21 : decode cX7_force 21 = .ok (.istore_n 2, 1) := by decide +kernel
theorem dX7_force_22 : decode cX7_force 22 = .ok (.aload_n 0, 1) := by decide +kernel
theorem dX7_force_23 : decode cX7_force 23 = .ok (.iload_n 1, 1) := by decide +kernel
theorem dX7_force_24 : decode cX7_force 24 = .ok (.putfield 103, 3) := by decide +kernel
theorem dX7_force_27 : decode cX7_force 27 = .ok (.iload_n 2, 1) := by decide +kernel
theorem dX7_force_28 : decode cX7_force 28 = .ok (.ireturn, 1) := by decide +kernel
theorem dX7_asksOf_0 : decode cX7_asksOf 0 = .ok (.aload_n 0, 1) := by decide +kernel
theorem dX7_asksOf_1 : decode cX7_asksOf 1 = .ok (.getfield 67, 3) := by decide +kernel
theorem dX7_asksOf_4 : decode cX7_asksOf 4 = .ok (.iconst 0, 1) := by decide +kernel
theorem dX7_asksOf_5 : decode cX7_asksOf 5 = .ok (.aload_n 0, 1) := by decide +kernel
theorem dX7_asksOf_6 : decode cX7_asksOf 6 = .ok (.getfield 16, 3) := by decide +kernel
theorem dX7_asksOf_9 : decode cX7_asksOf 9 = .ok (.iconst 3, 1) := by decide +kernel
theorem dX7_asksOf_10 : decode cX7_asksOf 10 = .ok (.iload_n 2, 1) := by decide +kernel
theorem dX7_asksOf_11 : decode cX7_asksOf 11 = .ok (.imul, 1) := by decide +kernel
theorem dX7_asksOf_12 : decode cX7_asksOf 12 = .ok (.iaload, 1) := by decide +kernel
theorem dX7_asksOf_13 : decode cX7_asksOf 13 = .ok (.iastore, 1) := by decide +kernel
theorem dX7_asksOf_14 : decode cX7_asksOf 14 = .ok (.aload_n 0, 1) := by decide +kernel
theorem dX7_asksOf_15 : decode cX7_asksOf 15 = .ok (.getfield 67, 3) := by decide +kernel
theorem dX7_asksOf_18 : decode cX7_asksOf 18 = .ok (.iconst 1, 1) := by decide +kernel
theorem dX7_asksOf_19 : decode cX7_asksOf 19 = .ok (.aload_n 0, 1) := by decide +kernel
theorem dX7_asksOf_20 : decode cX7_asksOf 20 = .ok (.getfield 16, 3) := by decide +kernel
theorem dX7_asksOf_23 : decode cX7_asksOf 23 = .ok (.iconst 3, 1) := by decide +kernel
theorem dX7_asksOf_24 : decode cX7_asksOf 24 = .ok (.iload_n 2, 1) := by decide +kernel
theorem dX7_asksOf_25 : decode cX7_asksOf 25 = .ok (.imul, 1) := by decide +kernel
theorem dX7_asksOf_26 : decode cX7_asksOf 26 = .ok (.iconst 1, 1) := by decide +kernel
theorem dX7_asksOf_27 : decode cX7_asksOf 27 = .ok (.iadd, 1) := by decide +kernel
theorem dX7_asksOf_28 : decode cX7_asksOf 28 = .ok (.iaload, 1) := by decide +kernel
theorem dX7_asksOf_29 : decode cX7_asksOf 29 = .ok (.iastore, 1) := by decide +kernel
theorem dX7_asksOf_30 : decode cX7_asksOf 30 = .ok (.aload_n 0, 1) := by decide +kernel
theorem dX7_asksOf_31 : decode cX7_asksOf 31 = .ok (.getfield 67, 3) := by decide +kernel
theorem dX7_asksOf_34 : decode cX7_asksOf 34 = .ok (.iconst 2, 1) := by decide +kernel
theorem dX7_asksOf_35 : decode cX7_asksOf 35 = .ok (.aload_n 0, 1) := by decide +kernel
theorem dX7_asksOf_36 : decode cX7_asksOf 36 = .ok (.getfield 94, 3) := by decide +kernel
theorem dX7_asksOf_39 : decode cX7_asksOf 39 = .ok (.iastore, 1) := by decide +kernel
theorem dX7_asksOf_40 : decode cX7_asksOf 40 = .ok (.aload_n 0, 1) := by decide +kernel
theorem dX7_asksOf_41 : decode cX7_asksOf 41 = .ok (.getfield 67, 3) := by decide +kernel
theorem dX7_asksOf_44 : decode cX7_asksOf 44 = .ok (.iconst 3, 1) := by decide +kernel
theorem dX7_asksOf_45 : decode cX7_asksOf 45 = .ok (.iload_n 3, 1) := by decide +kernel
theorem dX7_asksOf_46 : decode cX7_asksOf 46 = .ok (.iastore, 1) := by decide +kernel
theorem dX7_asksOf_47 : decode cX7_asksOf 47 = .ok (.aload_n 0, 1) := by decide +kernel
theorem dX7_asksOf_48 : decode cX7_asksOf 48 = .ok (.getfield 67, 3) := by decide +kernel
theorem dX7_asksOf_51 : decode cX7_asksOf 51 = .ok (.iconst 4, 1) := by decide +kernel
theorem dX7_asksOf_52 : decode cX7_asksOf 52 = .ok (.aload_n 0, 1) := by decide +kernel
theorem dX7_asksOf_53 : decode cX7_asksOf 53 = .ok (.iload_n 2, 1) := by decide +kernel
theorem dX7_asksOf_54 : decode cX7_asksOf 54 = .ok (.invokevirtual 170, 3) := by decide +kernel
theorem dX7_asksOf_57 : decode cX7_asksOf 57 = .ok (.iastore, 1) := by decide +kernel
theorem dX7_asksOf_58 : decode cX7_asksOf 58 = .ok (.aload_n 0, 1) := by decide +kernel
theorem dX7_asksOf_59 : decode cX7_asksOf 59 = .ok (.getfield 67, 3) := by decide +kernel
theorem dX7_asksOf_62 : decode cX7_asksOf 62 = .ok (.iconst 5, 1) := by decide +kernel
theorem dX7_asksOf_63 : decode cX7_asksOf 63 = .ok (.aload_n 0, 1) := by decide +kernel
theorem dX7_asksOf_64 : decode cX7_asksOf 64 = .ok (.getfield 13, 3) := by decide +kernel
theorem dX7_asksOf_67 : decode cX7_asksOf 67 = .ok (.iload_n 2, 1) := by decide +kernel
theorem dX7_asksOf_68 : decode cX7_asksOf 68 = .ok (.iaload, 1) := by decide +kernel
theorem dX7_asksOf_69 : decode cX7_asksOf 69 = .ok (.iastore, 1) := by decide +kernel
theorem dX7_asksOf_70 : decode cX7_asksOf 70 = .ok (.aload_n 0, 1) := by decide +kernel
theorem dX7_asksOf_71 : decode cX7_asksOf 71 = .ok (.iload_n 1, 1) := by decide +kernel
theorem dX7_asksOf_72 : decode cX7_asksOf 72 = .ok (.invokevirtual 173, 3) := by decide +kernel
theorem dX7_asksOf_75 : decode cX7_asksOf 75 = .ok (.iconst 0, 1) := by decide +kernel
theorem dX7_asksOf_76 : decode cX7_asksOf 76 = .ok (.bipush 99, 2) := by decide +kernel
theorem dX7_asksOf_78 : decode cX7_asksOf 78 = .ok (.invokestatic 176, 3) := by decide +kernel
theorem dX7_asksOf_81 : decode cX7_asksOf 81 = .ok (.ireturn, 1) := by decide +kernel
theorem dX7_asks_0 : decode cX7_asks 0 = .ok (.iload_n 1, 1) := by decide +kernel
theorem dX7_asks_1 : decode cX7_asks 1 = .ok (.iconst 0, 1) := by decide +kernel
theorem dX7_asks_2 : decode cX7_asks 2 = .ok (.iconst 2, 1) := by decide +kernel
theorem dX7_asks_3 : decode cX7_asks 3 = .ok (.invokestatic 87, 3) := by decide +kernel
theorem dX7_asks_6 : decode cX7_asks 6 = .ok (.ifCond .eq 32, 3) := by decide +kernel
theorem dX7_asks_9 : decode cX7_asks 9 = .ok (.aload_n 0, 1) := by decide +kernel
theorem dX7_asks_10 : decode cX7_asks 10 = .ok (.iload_n 2, 1) := by decide +kernel
theorem dX7_asks_11 : decode cX7_asks 11 = .ok (.invokevirtual 179, 3) := by decide +kernel
theorem dX7_asks_14 : decode cX7_asks 14 = .ok (.ifCond .eq 24, 3) := by decide +kernel
theorem dX7_asks_17 : decode cX7_asks 17 = .ok (.iload_n 3, 1) := by decide +kernel
theorem dX7_asks_18 : decode cX7_asks 18 = .ok (.iconst 0, 1) := by decide +kernel
theorem dX7_asks_19 : decode cX7_asks 19 = .ok (.sipush 9999, 3) := by decide +kernel
theorem dX7_asks_22 : decode cX7_asks 22 = .ok (.invokestatic 87, 3) := by decide +kernel
theorem dX7_asks_25 : decode cX7_asks 25 = .ok (.ifCond .eq 13, 3) := by decide +kernel
theorem dX7_asks_28 : decode cX7_asks 28 = .ok (.aload_n 0, 1) := by decide +kernel
theorem dX7_asks_29 : decode cX7_asks 29 = .ok (.iload_n 1, 1) := by decide +kernel
theorem dX7_asks_30 : decode cX7_asks 30 = .ok (.iload_n 2, 1) := by decide +kernel
theorem dX7_asks_31 : decode cX7_asks 31 = .ok (.iload_n 3, 1) := by decide +kernel
theorem dX7_asks_32 : decode cX7_asks 32 = .ok (.invokevirtual 182, 3) := by decide +kernel
theorem dX7_asks_35 : decode cX7_asks 35 = .ok (.goto 5, 3) := by decide +kernel
theorem dX7_asks_38 : decode cX7_asks 38 = .ok (.bipush (-2), 2) := by decide +kernel
theorem dX7_asks_40 : decode cX7_asks 40 = .ok (.ireturn, 1) := by decide +kernel
theorem dX7_hut_0 : decode cX7_hut 0 = .ok (.iload_n 1, 1) := by decide +kernel
theorem dX7_hut_1 : decode cX7_hut 1 = .ok (.iconst 0, 1) := by decide +kernel
theorem dX7_hut_2 : decode cX7_hut 2 = .ok (.bipush 59, 2) := by decide +kernel
theorem dX7_hut_4 : decode cX7_hut 4 = .ok (.invokestatic 87, 3) := by decide +kernel
theorem dX7_hut_7 : decode cX7_hut 7 = .ok (.ifCond .eq 13, 3) := by decide +kernel
theorem dX7_hut_10 : decode cX7_hut 10 = .ok (.iload_n 2, 1) := by decide +kernel
theorem dX7_hut_11 : decode cX7_hut 11 = .ok (.iconst 0, 1) := by decide +kernel
theorem dX7_hut_12 : decode cX7_hut 12 = .ok (.ldc 185, 2) := by decide +kernel
theorem dX7_hut_14 : decode cX7_hut 14 = .ok (.invokestatic 87, 3) := by decide +kernel
theorem dX7_hut_17 : decode cX7_hut 17 = .ok (.ifCond .ne 6, 3) := by decide +kernel
theorem dX7_hut_20 : decode cX7_hut 20 = .ok (.bipush (-2), 2) := by decide +kernel
theorem dX7_hut_22 : decode cX7_hut 22 = .ok (.ireturn, 1) := by decide +kernel
theorem dX7_hut_23 : decode cX7_hut 23 = .ok (.aload_n 0, 1) := by decide +kernel
theorem dX7_hut_24 : decode cX7_hut 24 = .ok (.getfield 84, 3) := by decide +kernel
theorem dX7_hut_27 : decode cX7_hut 27 = .ok (.bipush 6, 2) := by decide +kernel
theorem dX7_hut_29 : decode cX7_hut 29 = .ok (.if_icmp .ne 6, 3) := by decide +kernel
theorem dX7_hut_32 : decode cX7_hut 32 = .ok (.bipush (-4), 2) := by decide +kernel
theorem dX7_hut_34 : decode cX7_hut 34 = .ok (.ireturn, 1) := by decide +kernel
theorem dX7_hut_35 : decode cX7_hut 35 = .ok (.aload_n 0, 1) := by decide +kernel
theorem dX7_hut_36 : decode cX7_hut 36 = .ok (.getfield 7, 3) := by decide +kernel
theorem dX7_hut_39 : decode cX7_hut 39 = .ok (.aload_n 0, 1) := by decide +kernel
theorem dX7_hut_40 : decode cX7_hut 40 = .ok (.getfield 84, 3) := by decide +kernel
theorem dX7_hut_43 : decode cX7_hut 43 = .ok (.iload_n 1, 1) := by decide +kernel
theorem dX7_hut_44 : decode cX7_hut 44 = .ok (.bipush 10, 2) := by decide +kernel
theorem dX7_hut_46 : decode cX7_hut 46 = .ok (.idiv, 1) := by decide +kernel
theorem dX7_hut_47 : decode cX7_hut 47 = .ok (.iastore, 1) := by decide +kernel
theorem dX7_hut_48 : decode cX7_hut 48 = .ok (.aload_n 0, 1) := by decide +kernel
theorem dX7_hut_49 : decode cX7_hut 49 = .ok (.getfield 13, 3) := by decide +kernel
theorem dX7_hut_52 : decode cX7_hut 52 = .ok (.aload_n 0, 1) := by decide +kernel
theorem dX7_hut_53 : decode cX7_hut 53 = .ok (.getfield 84, 3) := by decide +kernel
theorem dX7_hut_56 : decode cX7_hut 56 = .ok (.iload_n 1, 1) := by decide +kernel
theorem dX7_hut_57 : decode cX7_hut 57 = .ok (.bipush 10, 2) := by decide +kernel
theorem dX7_hut_59 : decode cX7_hut 59 = .ok (.irem, 1) := by decide +kernel
theorem dX7_hut_60 : decode cX7_hut 60 = .ok (.iastore, 1) := by decide +kernel
theorem dX7_hut_61 : decode cX7_hut 61 = .ok (.aload_n 0, 1) := by decide +kernel
theorem dX7_hut_62 : decode cX7_hut 62 = .ok (.getfield 16, 3) := by decide +kernel
theorem dX7_hut_65 : decode cX7_hut 65 = .ok (.iconst 3, 1) := by decide +kernel
theorem dX7_hut_66 : decode cX7_hut 66 = .ok (.aload_n 0, 1) := by decide +kernel
theorem dX7_hut_67 : decode cX7_hut 67 = .ok (.getfield 84, 3) := by decide +kernel
theorem dX7_hut_70 : decode cX7_hut 70 = .ok (.imul, 1) := by decide +kernel
theorem dX7_hut_71 : decode cX7_hut 71 = .ok (.iload_n 2, 1) := by decide +kernel
theorem dX7_hut_72 : decode cX7_hut 72 = .ok (.bipush 100, 2) := by decide +kernel
theorem dX7_hut_74 : decode cX7_hut 74 = .ok (.idiv, 1) := by decide +kernel
theorem dX7_hut_75 : decode cX7_hut 75 = .ok (.iastore, 1) := by decide +kernel
theorem dX7_hut_76 : decode cX7_hut 76 = .ok (.aload_n 0, 1) := by decide +kernel
theorem dX7_hut_77 : decode cX7_hut 77 = .ok (.getfield 16, 3) := by decide +kernel
theorem dX7_hut_80 : decode cX7_hut 80 = .ok (.iconst 3, 1) := by decide +kernel
theorem dX7_hut_81 : decode cX7_hut 81 = .ok (.aload_n 0, 1) := by decide +kernel
theorem dX7_hut_82 : decode cX7_hut 82 = .ok (.getfield 84, 3) := by decide +kernel
theorem dX7_hut_85 : decode cX7_hut 85 = .ok (.imul, 1) := by decide +kernel
theorem dX7_hut_86 : decode cX7_hut 86 = .ok (.iconst 1, 1) := by decide +kernel
theorem dX7_hut_87 : decode cX7_hut 87 = .ok (.iadd, 1) := by decide +kernel
theorem dX7_hut_88 : decode cX7_hut 88 = .ok (.iload_n 2, 1) := by decide +kernel
theorem dX7_hut_89 : decode cX7_hut 89 = .ok (.bipush 100, 2) := by decide +kernel
theorem dX7_hut_91 : decode cX7_hut 91 = .ok (.irem, 1) := by decide +kernel
theorem dX7_hut_92 : decode cX7_hut 92 = .ok (.iastore, 1) := by decide +kernel
theorem dX7_hut_93 : decode cX7_hut 93 = .ok (.aload_n 0, 1) := by decide +kernel
theorem dX7_hut_94 : decode cX7_hut 94 = .ok (.getfield 16, 3) := by decide +kernel
theorem dX7_hut_97 : decode cX7_hut 97 = .ok (.iconst 3, 1) := by decide +kernel
theorem dX7_hut_98 : decode cX7_hut 98 = .ok (.aload_n 0, 1) := by decide +kernel
theorem dX7_hut_99 : decode cX7_hut 99 = .ok (.getfield 84, 3) := by decide +kernel
theorem dX7_hut_102 : decode cX7_hut 102 = .ok (.imul, 1) := by decide +kernel
theorem dX7_hut_103 : decode cX7_hut 103 = .ok (.iconst 2, 1) := by decide +kernel
theorem dX7_hut_104 : decode cX7_hut 104 = .ok (.iadd, 1) := by decide +kernel
theorem dX7_hut_105 : decode cX7_hut 105 = .ok (.iconst 0, 1) := by decide +kernel
theorem dX7_hut_106 : decode cX7_hut 106 = .ok (.iastore, 1) := by decide +kernel
theorem dX7_hut_107 : decode cX7_hut 107 = .ok (.aload_n 0, 1) := by decide +kernel
theorem dX7_hut_108 : decode cX7_hut 108 = .ok (.dup, 1) := by decide +kernel
theorem dX7_hut_109 : decode cX7_hut 109 = .ok (.getfield 84, 3) := by decide +kernel
theorem dX7_hut_112 : decode cX7_hut 112 = .ok (.iconst 1, 1) := by decide +kernel
theorem dX7_hut_113 : decode cX7_hut 113 = .ok (.iadd, 1) := by decide +kernel
theorem dX7_hut_114 : decode cX7_hut 114 = .ok (.putfield 84, 3) := by decide +kernel
theorem dX7_hut_117 : decode cX7_hut 117 = .ok (.aload_n 0, 1) := by decide +kernel
theorem dX7_hut_118 : decode cX7_hut 118 = .ok (.getfield 84, 3) := by decide +kernel
theorem dX7_hut_121 : decode cX7_hut 121 = .ok (.iconst 1, 1) := by decide +kernel
theorem dX7_hut_122 : decode cX7_hut 122 = .ok (.isub, 1) := by decide +kernel
theorem dX7_hut_123 : decode cX7_hut 123 = .ok (.ireturn, 1) := by decide +kernel
theorem dX7_put_0 : decode cX7_put 0 = .ok (.aload_n 0, 1) := by decide +kernel
theorem dX7_put_1 : decode cX7_put 1 = .ok (.iload_n 1, 1) := by decide +kernel
theorem dX7_put_2 : decode cX7_put 2 = .ok (.invokevirtual 179, 3) := by decide +kernel
theorem dX7_put_5 : decode cX7_put 5 = .ok (.ifCond .ne 6, 3) := by decide +kernel
theorem dX7_put_8 : decode cX7_put 8 = .ok (.bipush (-5), 2) := by decide +kernel
theorem dX7_put_10 : decode cX7_put 10 = .ok (.ireturn, 1) := by decide +kernel
theorem dX7_put_11 : decode cX7_put 11 = .ok (.iload_n 2, 1) := by decide +kernel
theorem dX7_put_12 : decode cX7_put 12 = .ok (.iconst 0, 1) := by decide +kernel
theorem dX7_put_13 : decode cX7_put 13 = .ok (.iconst 2, 1) := by decide +kernel
theorem dX7_put_14 : decode cX7_put 14 = .ok (.invokestatic 87, 3) := by decide +kernel
theorem dX7_put_17 : decode cX7_put 17 = .ok (.ifCond .eq 23, 3) := by decide +kernel
theorem dX7_put_20 : decode cX7_put 20 = .ok (.iload_n 3, 1) := by decide +kernel
theorem dX7_put_21 : decode cX7_put 21 = .ok (.iconst 0, 1) := by decide +kernel
theorem dX7_put_22 : decode cX7_put 22 = .ok (.iload_n 2, 1) := by decide +kernel
theorem dX7_put_23 : decode cX7_put 23 = .ok (.ifCond .ne 9, 3) := by decide +kernel
theorem dX7_put_26 : decode cX7_put 26 = .ok (.sipush 9999, 3) := by decide +kernel
theorem dX7_put_29 : decode cX7_put 29 = .ok (.goto 5, 3) := by decide +kernel
theorem dX7_put_32 : decode cX7_put 32 = .ok (.bipush 99, 2) := by decide +kernel
theorem dX7_put_34 : decode cX7_put 34 = .ok (.invokestatic 87, 3) := by decide +kernel
theorem dX7_put_37 : decode cX7_put 37 = .ok (.ifCond .ne 6, 3) := by decide +kernel
theorem dX7_put_40 : decode cX7_put 40 = .ok (.bipush (-7), 2) := by decide +kernel
theorem dX7_put_42 : decode cX7_put 42 = .ok (.ireturn, 1) := by decide +kernel
theorem dX7_put_43 : decode cX7_put 43 = .ok (.aload_n 0, 1) := by decide +kernel
theorem dX7_put_44 : decode cX7_put 44 = .ok (.getfield 16, 3) := by decide +kernel
theorem dX7_put_47 : decode cX7_put 47 = .ok (.iconst 3, 1) := by decide +kernel
theorem dX7_put_48 : decode cX7_put 48 = .ok (.iload_n 1, 1) := by decide +kernel
theorem dX7_put_49 : decode cX7_put 49 = .ok (.imul, 1) := by decide +kernel
theorem dX7_put_50 : decode cX7_put 50 = .ok (.iload_n 2, 1) := by decide +kernel
theorem dX7_put_51 : decode cX7_put 51 = .ok (.iadd, 1) := by decide +kernel
theorem dX7_put_52 : decode cX7_put 52 = .ok (.iaload, 1) := by decide +kernel
theorem dX7_put_53 : decode cX7_put 53 = .ok (.istore 4, 2) := by decide +kernel
theorem dX7_put_55 : decode cX7_put 55 = .ok (.aload_n 0, 1) := by decide +kernel
theorem dX7_put_56 : decode cX7_put 56 = .ok (.getfield 16, 3) := by decide +kernel
theorem dX7_put_59 : decode cX7_put 59 = .ok (.iconst 3, 1) := by decide +kernel
theorem dX7_put_60 : decode cX7_put 60 = .ok (.iload_n 1, 1) := by decide +kernel
theorem dX7_put_61 : decode cX7_put 61 = .ok (.imul, 1) := by decide +kernel
theorem dX7_put_62 : decode cX7_put 62 = .ok (.iload_n 2, 1) := by decide +kernel
theorem dX7_put_63 : decode cX7_put 63 = .ok (.iadd, 1) := by decide +kernel
theorem dX7_put_64 : decode cX7_put 64 = .ok (.iload_n 3, 1) := by decide +kernel
theorem dX7_put_65 : decode cX7_put 65 = .ok (.iastore, 1) := by decide +kernel
theorem dX7_put_66 : decode cX7_put 66 = .ok (.iload 4, 2) := by decide +kernel
theorem dX7_put_68 : decode cX7_put 68 = .ok (.ireturn, 1) := by decide +kernel
theorem dX7_told_0 : decode cX7_told 0 = .ok (.aload_n 0, 1) := by decide +kernel
theorem dX7_told_1 : decode cX7_told 1 = .ok (.iload_n 1, 1) := by decide +kernel
theorem dX7_told_2 : decode cX7_told 2 = .ok (.invokevirtual 179, 3) := by decide +kernel
theorem dX7_told_5 : decode cX7_told 5 = .ok (.ifCond .ne 6, 3) := by decide +kernel
theorem dX7_told_8 : decode cX7_told 8 = .ok (.bipush (-5), 2) := by decide +kernel
theorem dX7_told_10 : decode cX7_told 10 = .ok (.ireturn, 1) := by decide +kernel
theorem dX7_told_11 : decode cX7_told 11 = .ok (.iload_n 2, 1) := by decide +kernel
theorem dX7_told_12 : decode cX7_told 12 = .ok (.tableswitch 91 0 7 #[48, 48, 48, 59, 66, 73, 79, 85], 48) := by decide +kernel
theorem dX7_told_60 : decode cX7_told 60 = .ok (.aload_n 0, 1) := by decide +kernel
theorem dX7_told_61 : decode cX7_told 61 = .ok (.getfield 16, 3) := by decide +kernel
theorem dX7_told_64 : decode cX7_told 64 = .ok (.iconst 3, 1) := by decide +kernel
theorem dX7_told_65 : decode cX7_told 65 = .ok (.iload_n 1, 1) := by decide +kernel
theorem dX7_told_66 : decode cX7_told 66 = .ok (.imul, 1) := by decide +kernel
theorem dX7_told_67 : decode cX7_told 67 = .ok (.iload_n 2, 1) := by decide +kernel
theorem dX7_told_68 : decode cX7_told 68 = .ok (.iadd, 1) := by decide +kernel
theorem dX7_told_69 : decode cX7_told 69 = .ok (.iaload, 1) := by decide +kernel
theorem dX7_told_70 : decode cX7_told 70 = .ok (.ireturn, 1) := by decide +kernel
theorem dX7_told_71 : decode cX7_told 71 = .ok (.aload_n 0, 1) := by decide +kernel
theorem dX7_told_72 : decode cX7_told 72 = .ok (.getfield 7, 3) := by decide +kernel
theorem dX7_told_75 : decode cX7_told 75 = .ok (.iload_n 1, 1) := by decide +kernel
theorem dX7_told_76 : decode cX7_told 76 = .ok (.iaload, 1) := by decide +kernel
theorem dX7_told_77 : decode cX7_told 77 = .ok (.ireturn, 1) := by decide +kernel
theorem dX7_told_78 : decode cX7_told 78 = .ok (.aload_n 0, 1) := by decide +kernel
theorem dX7_told_79 : decode cX7_told 79 = .ok (.getfield 13, 3) := by decide +kernel
theorem dX7_told_82 : decode cX7_told 82 = .ok (.iload_n 1, 1) := by decide +kernel
theorem dX7_told_83 : decode cX7_told 83 = .ok (.iaload, 1) := by decide +kernel
theorem dX7_told_84 : decode cX7_told 84 = .ok (.ireturn, 1) := by decide +kernel
theorem dX7_told_85 : decode cX7_told 85 = .ok (.aload_n 0, 1) := by decide +kernel
theorem dX7_told_86 : decode cX7_told 86 = .ok (.iload_n 1, 1) := by decide +kernel
theorem dX7_told_87 : decode cX7_told 87 = .ok (.invokevirtual 170, 3) := by decide +kernel
theorem dX7_told_90 : decode cX7_told 90 = .ok (.ireturn, 1) := by decide +kernel
theorem dX7_told_91 : decode cX7_told 91 = .ok (.aload_n 0, 1) := by decide +kernel
theorem dX7_told_92 : decode cX7_told 92 = .ok (.iload_n 1, 1) := by decide +kernel
theorem dX7_told_93 : decode cX7_told 93 = .ok (.invokevirtual 186, 3) := by decide +kernel
theorem dX7_told_96 : decode cX7_told 96 = .ok (.ireturn, 1) := by decide +kernel
theorem dX7_told_97 : decode cX7_told 97 = .ok (.aload_n 0, 1) := by decide +kernel
theorem dX7_told_98 : decode cX7_told 98 = .ok (.iload_n 1, 1) := by decide +kernel
theorem dX7_told_99 : decode cX7_told 99 = .ok (.invokevirtual 189, 3) := by decide +kernel
theorem dX7_told_102 : decode cX7_told 102 = .ok (.ireturn, 1) := by decide +kernel
theorem dX7_told_103 : decode cX7_told 103 = .ok (.bipush (-7), 2) := by decide +kernel
theorem dX7_told_105 : decode cX7_told 105 = .ok (.ireturn, 1) := by decide +kernel
theorem dX7_areCoalNights_0 : decode cX7_areCoalNights 0 = .ok (.iload_n 0, 1) := by decide +kernel
theorem dX7_areCoalNights_1 : decode cX7_areCoalNights 1 = .ok (.bipush 101, 2) := by decide +kernel
theorem dX7_areCoalNights_3 : decode cX7_areCoalNights 3 = .ok (.ldc 185, 2) := by decide +kernel
theorem dX7_areCoalNights_5 : decode cX7_areCoalNights 5 = .ok (.invokestatic 87, 3) := by decide +kernel
theorem dX7_areCoalNights_8 : decode cX7_areCoalNights 8 = .ok (.ifCond .eq 14, 3) := by decide +kernel
theorem dX7_areCoalNights_11 : decode cX7_areCoalNights 11 = .ok (.iload_n 0, 1) := by decide +kernel
theorem dX7_areCoalNights_12 : decode cX7_areCoalNights 12 = .ok (.bipush 100, 2) := by decide +kernel
theorem dX7_areCoalNights_14 : decode cX7_areCoalNights 14 = .ok (.irem, 1) := by decide +kernel
theorem dX7_areCoalNights_15 : decode cX7_areCoalNights 15 = .ok (.ifCond .le 7, 3) := by decide +kernel
theorem dX7_areCoalNights_18 : decode cX7_areCoalNights 18 = .ok (.iconst 1, 1) := by decide +kernel
theorem dX7_areCoalNights_19 : decode cX7_areCoalNights 19 = .ok (.goto 4, 3) := by decide +kernel
theorem dX7_areCoalNights_22 : decode cX7_areCoalNights 22 = .ok (.iconst 0, 1) := by decide +kernel
theorem dX7_areCoalNights_23 : decode cX7_areCoalNights 23 = .ok (.ireturn, 1) := by decide +kernel
theorem dX7_mayLend_0 : decode cX7_mayLend 0 = .ok (.aload_n 0, 1) := by decide +kernel
theorem dX7_mayLend_1 : decode cX7_mayLend 1 = .ok (.getfield 16, 3) := by decide +kernel
theorem dX7_mayLend_4 : decode cX7_mayLend 4 = .ok (.iconst 3, 1) := by decide +kernel
theorem dX7_mayLend_5 : decode cX7_mayLend 5 = .ok (.iload_n 1, 1) := by decide +kernel
theorem dX7_mayLend_6 : decode cX7_mayLend 6 = .ok (.imul, 1) := by decide +kernel
theorem dX7_mayLend_7 : decode cX7_mayLend 7 = .ok (.iconst 2, 1) := by decide +kernel
theorem dX7_mayLend_8 : decode cX7_mayLend 8 = .ok (.iadd, 1) := by decide +kernel
theorem dX7_mayLend_9 : decode cX7_mayLend 9 = .ok (.iaload, 1) := by decide +kernel
theorem dX7_mayLend_10 : decode cX7_mayLend 10 = .ok (.ifCond .ne 19, 3) := by decide +kernel
theorem dX7_mayLend_13 : decode cX7_mayLend 13 = .ok (.aload_n 0, 1) := by decide +kernel
theorem dX7_mayLend_14 : decode cX7_mayLend 14 = .ok (.getfield 16, 3) := by decide +kernel
theorem dX7_mayLend_17 : decode cX7_mayLend 17 = .ok (.iconst 3, 1) := by decide +kernel
theorem dX7_mayLend_18 : decode cX7_mayLend 18 = .ok (.iload_n 1, 1) := by decide +kernel
theorem dX7_mayLend_19 : decode cX7_mayLend 19 = .ok (.imul, 1) := by decide +kernel
theorem dX7_mayLend_20 : decode cX7_mayLend 20 = .ok (.iaload, 1) := by decide +kernel
theorem dX7_mayLend_21 : decode cX7_mayLend 21 = .ok (.iload_n 2, 1) := by decide +kernel
theorem dX7_mayLend_22 : decode cX7_mayLend 22 = .ok (.if_icmp .lt 7, 3) := by decide +kernel
theorem dX7_mayLend_25 : decode cX7_mayLend 25 = .ok (.iconst 1, 1) := by decide +kernel
theorem dX7_mayLend_26 : decode cX7_mayLend 26 = .ok (.goto 4, 3) := by decide +kernel
theorem dX7_mayLend_29 : decode cX7_mayLend 29 = .ok (.iconst 0, 1) := by decide +kernel
theorem dX7_mayLend_30 : decode cX7_mayLend 30 = .ok (.ireturn, 1) := by decide +kernel
theorem dX7_moves_0 : decode cX7_moves 0 = .ok (.aload_n 0, 1) := by decide +kernel
theorem dX7_moves_1 : decode cX7_moves 1 = .ok (.getfield 16, 3) := by decide +kernel
theorem dX7_moves_4 : decode cX7_moves 4 = .ok (.iconst 3, 1) := by decide +kernel
theorem dX7_moves_5 : decode cX7_moves 5 = .ok (.iload_n 1, 1) := by decide +kernel
theorem dX7_moves_6 : decode cX7_moves 6 = .ok (.imul, 1) := by decide +kernel
theorem dX7_moves_7 : decode cX7_moves 7 = .ok (.dup2, 1) := by decide +kernel
theorem dX7_moves_8 : decode cX7_moves 8 = .ok (.iaload, 1) := by decide +kernel
theorem dX7_moves_9 : decode cX7_moves 9 = .ok (.iload_n 3, 1) := by decide +kernel
theorem dX7_moves_10 : decode cX7_moves 10 = .ok (.isub, 1) := by decide +kernel
theorem dX7_moves_11 : decode cX7_moves 11 = .ok (.iastore, 1) := by decide +kernel
theorem dX7_moves_12 : decode cX7_moves 12 = .ok (.aload_n 0, 1) := by decide +kernel
theorem dX7_moves_13 : decode cX7_moves 13 = .ok (.getfield 16, 3) := by decide +kernel
theorem dX7_moves_16 : decode cX7_moves 16 = .ok (.iconst 3, 1) := by decide +kernel
theorem dX7_moves_17 : decode cX7_moves 17 = .ok (.iload_n 2, 1) := by decide +kernel
theorem dX7_moves_18 : decode cX7_moves 18 = .ok (.imul, 1) := by decide +kernel
theorem dX7_moves_19 : decode cX7_moves 19 = .ok (.aload_n 0, 1) := by decide +kernel
theorem dX7_moves_20 : decode cX7_moves 20 = .ok (.getfield 16, 3) := by decide +kernel
theorem dX7_moves_23 : decode cX7_moves 23 = .ok (.iconst 3, 1) := by decide +kernel
theorem dX7_moves_24 : decode cX7_moves 24 = .ok (.iload_n 2, 1) := by decide +kernel
theorem dX7_moves_25 : decode cX7_moves 25 = .ok (.imul, 1) := by decide +kernel
theorem dX7_moves_26 : decode cX7_moves 26 = .ok (.iaload, 1) := by decide +kernel
theorem dX7_moves_27 : decode cX7_moves 27 = .ok (.iload_n 3, 1) := by decide +kernel
theorem dX7_moves_28 : decode cX7_moves 28 = .ok (.iadd, 1) := by decide +kernel
theorem dX7_moves_29 : decode cX7_moves 29 = .ok (.iconst 0, 1) := by decide +kernel
theorem dX7_moves_30 : decode cX7_moves 30 = .ok (.sipush 9999, 3) := by decide +kernel
theorem dX7_moves_33 : decode cX7_moves 33 = .ok (.invokestatic 176, 3) := by decide +kernel
theorem dX7_moves_36 : decode cX7_moves 36 = .ok (.iastore, 1) := by decide +kernel
theorem dX7_moves_37 : decode cX7_moves 37 = .ok (.return_, 1) := by decide +kernel
theorem dX7_lends_0 : decode cX7_lends 0 = .ok (.aload_n 0, 1) := by decide +kernel
theorem dX7_lends_1 : decode cX7_lends 1 = .ok (.getfield 19, 3) := by decide +kernel
theorem dX7_lends_4 : decode cX7_lends 4 = .ok (.aload_n 0, 1) := by decide +kernel
theorem dX7_lends_5 : decode cX7_lends 5 = .ok (.getfield 91, 3) := by decide +kernel
theorem dX7_lends_8 : decode cX7_lends 8 = .ok (.iload_n 1, 1) := by decide +kernel
theorem dX7_lends_9 : decode cX7_lends 9 = .ok (.iastore, 1) := by decide +kernel
theorem dX7_lends_10 : decode cX7_lends 10 = .ok (.aload_n 0, 1) := by decide +kernel
theorem dX7_lends_11 : decode cX7_lends 11 = .ok (.getfield 22, 3) := by decide +kernel
theorem dX7_lends_14 : decode cX7_lends 14 = .ok (.aload_n 0, 1) := by decide +kernel
theorem dX7_lends_15 : decode cX7_lends 15 = .ok (.getfield 91, 3) := by decide +kernel
theorem dX7_lends_18 : decode cX7_lends 18 = .ok (.iload_n 2, 1) := by decide +kernel
theorem dX7_lends_19 : decode cX7_lends 19 = .ok (.iastore, 1) := by decide +kernel
theorem dX7_lends_20 : decode cX7_lends 20 = .ok (.aload_n 0, 1) := by decide +kernel
theorem dX7_lends_21 : decode cX7_lends 21 = .ok (.getfield 25, 3) := by decide +kernel
theorem dX7_lends_24 : decode cX7_lends 24 = .ok (.aload_n 0, 1) := by decide +kernel
theorem dX7_lends_25 : decode cX7_lends 25 = .ok (.getfield 91, 3) := by decide +kernel
theorem dX7_lends_28 : decode cX7_lends 28 = .ok (.iload_n 3, 1) := by decide +kernel
theorem dX7_lends_29 : decode cX7_lends 29 = .ok (.bipush 100, 2) := by decide +kernel
theorem dX7_lends_31 : decode cX7_lends 31 = .ok (.idiv, 1) := by decide +kernel
theorem dX7_lends_32 : decode cX7_lends 32 = .ok (.iastore, 1) := by decide +kernel
theorem dX7_lends_33 : decode cX7_lends 33 = .ok (.aload_n 0, 1) := by decide +kernel
theorem dX7_lends_34 : decode cX7_lends 34 = .ok (.getfield 28, 3) := by decide +kernel
theorem dX7_lends_37 : decode cX7_lends 37 = .ok (.aload_n 0, 1) := by decide +kernel
theorem dX7_lends_38 : decode cX7_lends 38 = .ok (.getfield 91, 3) := by decide +kernel
theorem dX7_lends_41 : decode cX7_lends 41 = .ok (.aload_n 0, 1) := by decide +kernel
theorem dX7_lends_42 : decode cX7_lends 42 = .ok (.getfield 94, 3) := by decide +kernel
theorem dX7_lends_45 : decode cX7_lends 45 = .ok (.iload_n 3, 1) := by decide +kernel
theorem dX7_lends_46 : decode cX7_lends 46 = .ok (.bipush 100, 2) := by decide +kernel
theorem dX7_lends_48 : decode cX7_lends 48 = .ok (.irem, 1) := by decide +kernel
theorem dX7_lends_49 : decode cX7_lends 49 = .ok (.iadd, 1) := by decide +kernel
theorem dX7_lends_50 : decode cX7_lends 50 = .ok (.iastore, 1) := by decide +kernel
theorem dX7_lends_51 : decode cX7_lends 51 = .ok (.aload_n 0, 1) := by decide +kernel
theorem dX7_lends_52 : decode cX7_lends 52 = .ok (.iload_n 1, 1) := by decide +kernel
theorem dX7_lends_53 : decode cX7_lends 53 = .ok (.iload_n 2, 1) := by decide +kernel
theorem dX7_lends_54 : decode cX7_lends 54 = .ok (.iload_n 3, 1) := by decide +kernel
theorem dX7_lends_55 : decode cX7_lends 55 = .ok (.bipush 100, 2) := by decide +kernel
theorem dX7_lends_57 : decode cX7_lends 57 = .ok (.idiv, 1) := by decide +kernel
theorem dX7_lends_58 : decode cX7_lends 58 = .ok (.invokevirtual 192, 3) := by decide +kernel
theorem dX7_lends_61 : decode cX7_lends 61 = .ok (.aload_n 0, 1) := by decide +kernel
theorem dX7_lends_62 : decode cX7_lends 62 = .ok (.dup, 1) := by decide +kernel
theorem dX7_lends_63 : decode cX7_lends 63 = .ok (.getfield 91, 3) := by decide +kernel
theorem dX7_lends_66 : decode cX7_lends 66 = .ok (.iconst 1, 1) := by decide +kernel
theorem dX7_lends_67 : decode cX7_lends 67 = .ok (.iadd, 1) := by decide +kernel
theorem dX7_lends_68 : decode cX7_lends 68 = .ok (.putfield 91, 3) := by decide +kernel
theorem dX7_lends_71 : decode cX7_lends 71 = .ok (.return_, 1) := by decide +kernel
theorem dX7_lend_0 : decode cX7_lend 0 = .ok (.iload_n 1, 1) := by decide +kernel
theorem dX7_lend_1 : decode cX7_lend 1 = .ok (.bipush 10, 2) := by decide +kernel
theorem dX7_lend_3 : decode cX7_lend 3 = .ok (.idiv, 1) := by decide +kernel
theorem dX7_lend_4 : decode cX7_lend 4 = .ok (.istore_n 3, 1) := by decide +kernel
theorem dX7_lend_5 : decode cX7_lend 5 = .ok (.iload_n 1, 1) := by decide +kernel
theorem dX7_lend_6 : decode cX7_lend 6 = .ok (.bipush 10, 2) := by decide +kernel
theorem dX7_lend_8 : decode cX7_lend 8 = .ok (.irem, 1) := by decide +kernel
theorem dX7_lend_9 : decode cX7_lend 9 = .ok (.istore 4, 2) := by decide +kernel
theorem dX7_lend_11 : decode cX7_lend 11 = .ok (.iload_n 1, 1) := by decide +kernel
theorem dX7_lend_12 : decode cX7_lend 12 = .ok (.iconst 0, 1) := by decide +kernel
theorem dX7_lend_13 : decode cX7_lend 13 = .ok (.bipush 55, 2) := by decide +kernel
theorem dX7_lend_15 : decode cX7_lend 15 = .ok (.invokestatic 87, 3) := by decide +kernel
theorem dX7_lend_18 : decode cX7_lend 18 = .ok (.ifCond .eq 26, 3) := by decide +kernel
theorem dX7_lend_21 : decode cX7_lend 21 = .ok (.aload_n 0, 1) := by decide +kernel
theorem dX7_lend_22 : decode cX7_lend 22 = .ok (.iload_n 3, 1) := by decide +kernel
theorem dX7_lend_23 : decode cX7_lend 23 = .ok (.invokevirtual 179, 3) := by decide +kernel
theorem dX7_lend_26 : decode cX7_lend 26 = .ok (.ifCond .eq 18, 3) := by decide +kernel
theorem dX7_lend_29 : decode cX7_lend 29 = .ok (.aload_n 0, 1) := by decide +kernel
theorem dX7_lend_30 : decode cX7_lend 30 = .ok (.iload 4, 2) := by decide +kernel
theorem dX7_lend_32 : decode cX7_lend 32 = .ok (.invokevirtual 179, 3) := by decide +kernel
theorem dX7_lend_35 : decode cX7_lend 35 = .ok (.ifCond .eq 9, 3) := by decide +kernel
theorem dX7_lend_38 : decode cX7_lend 38 = .ok (.iload_n 3, 1) := by decide +kernel
theorem dX7_lend_39 : decode cX7_lend 39 = .ok (.iload 4, 2) := by decide +kernel
theorem dX7_lend_41 : decode cX7_lend 41 = .ok (.if_icmp .ne 6, 3) := by decide +kernel
theorem dX7_lend_44 : decode cX7_lend 44 = .ok (.bipush (-5), 2) := by decide +kernel
theorem dX7_lend_46 : decode cX7_lend 46 = .ok (.ireturn, 1) := by decide +kernel
theorem dX7_lend_47 : decode cX7_lend 47 = .ok (.iload_n 2, 1) := by decide +kernel
theorem dX7_lend_48 : decode cX7_lend 48 = .ok (.invokestatic 196, 3) := by decide +kernel
theorem dX7_lend_51 : decode cX7_lend 51 = .ok (.ifCond .ne 6, 3) := by decide +kernel
theorem dX7_lend_54 : decode cX7_lend 54 = .ok (.bipush (-7), 2) := by decide +kernel
theorem dX7_lend_56 : decode cX7_lend 56 = .ok (.ireturn, 1) := by decide +kernel
theorem dX7_lend_57 : decode cX7_lend 57 = .ok (.aload_n 0, 1) := by decide +kernel
theorem dX7_lend_58 : decode cX7_lend 58 = .ok (.getfield 91, 3) := by decide +kernel
theorem dX7_lend_61 : decode cX7_lend 61 = .ok (.bipush 10, 2) := by decide +kernel
theorem dX7_lend_63 : decode cX7_lend 63 = .ok (.if_icmp .ne 6, 3) := by decide +kernel
theorem dX7_lend_66 : decode cX7_lend 66 = .ok (.bipush (-4), 2) := by decide +kernel
theorem dX7_lend_68 : decode cX7_lend 68 = .ok (.ireturn, 1) := by decide +kernel
theorem dX7_lend_69 : decode cX7_lend 69 = .ok (.aload_n 0, 1) := by decide +kernel
theorem dX7_lend_70 : decode cX7_lend 70 = .ok (.iload_n 3, 1) := by decide +kernel
theorem dX7_lend_71 : decode cX7_lend 71 = .ok (.iload_n 2, 1) := by decide +kernel
theorem dX7_lend_72 : decode cX7_lend 72 = .ok (.bipush 100, 2) := by decide +kernel
theorem dX7_lend_74 : decode cX7_lend 74 = .ok (.idiv, 1) := by decide +kernel
theorem dX7_lend_75 : decode cX7_lend 75 = .ok (.invokevirtual 199, 3) := by decide +kernel
theorem dX7_lend_78 : decode cX7_lend 78 = .ok (.ifCond .ne 6, 3) := by decide +kernel
theorem dX7_lend_81 : decode cX7_lend 81 = .ok (.bipush (-3), 2) := by decide +kernel
theorem dX7_lend_83 : decode cX7_lend 83 = .ok (.ireturn, 1) := by decide +kernel
theorem dX7_lend_84 : decode cX7_lend 84 = .ok (.aload_n 0, 1) := by decide +kernel
theorem dX7_lend_85 : decode cX7_lend 85 = .ok (.iload_n 3, 1) := by decide +kernel
theorem dX7_lend_86 : decode cX7_lend 86 = .ok (.iload 4, 2) := by decide +kernel
theorem dX7_lend_88 : decode cX7_lend 88 = .ok (.iload_n 2, 1) := by decide +kernel
theorem dX7_lend_89 : decode cX7_lend 89 = .ok (.invokevirtual 203, 3) := by decide +kernel
theorem dX7_lend_92 : decode cX7_lend 92 = .ok (.aload_n 0, 1) := by decide +kernel
theorem dX7_lend_93 : decode cX7_lend 93 = .ok (.getfield 91, 3) := by decide +kernel
theorem dX7_lend_96 : decode cX7_lend 96 = .ok (.iconst 1, 1) := by decide +kernel
theorem dX7_lend_97 : decode cX7_lend 97 = .ok (.isub, 1) := by decide +kernel
theorem dX7_lend_98 : decode cX7_lend 98 = .ok (.ireturn, 1) := by decide +kernel
theorem dX7_loan_0 : decode cX7_loan 0 = .ok (.aload_n 0, 1) := by decide +kernel
theorem dX7_loan_1 : decode cX7_loan 1 = .ok (.iload_n 1, 1) := by decide +kernel
theorem dX7_loan_2 : decode cX7_loan 2 = .ok (.invokevirtual 206, 3) := by decide +kernel
theorem dX7_loan_5 : decode cX7_loan 5 = .ok (.ifCond .ne 6, 3) := by decide +kernel
theorem dX7_loan_8 : decode cX7_loan 8 = .ok (.bipush (-5), 2) := by decide +kernel
theorem dX7_loan_10 : decode cX7_loan 10 = .ok (.ireturn, 1) := by decide +kernel
theorem dX7_loan_11 : decode cX7_loan 11 = .ok (.iload_n 2, 1) := by decide +kernel
theorem dX7_loan_12 : decode cX7_loan 12 = .ok (.tableswitch 60 0 3 #[32, 39, 46, 53], 32) := by decide +kernel
theorem dX7_loan_44 : decode cX7_loan 44 = .ok (.aload_n 0, 1) := by decide +kernel
theorem dX7_loan_45 : decode cX7_loan 45 = .ok (.getfield 19, 3) := by decide +kernel
theorem dX7_loan_48 : decode cX7_loan 48 = .ok (.iload_n 1, 1) := by decide +kernel
theorem dX7_loan_49 : decode cX7_loan 49 = .ok (.iaload, 1) := by decide +kernel
theorem dX7_loan_50 : decode cX7_loan 50 = .ok (.ireturn, 1) := by decide +kernel
theorem dX7_loan_51 : decode cX7_loan 51 = .ok (.aload_n 0, 1) := by decide +kernel
theorem dX7_loan_52 : decode cX7_loan 52 = .ok (.getfield 22, 3) := by decide +kernel
theorem dX7_loan_55 : decode cX7_loan 55 = .ok (.iload_n 1, 1) := by decide +kernel
theorem dX7_loan_56 : decode cX7_loan 56 = .ok (.iaload, 1) := by decide +kernel
theorem dX7_loan_57 : decode cX7_loan 57 = .ok (.ireturn, 1) := by decide +kernel
theorem dX7_loan_58 : decode cX7_loan 58 = .ok (.aload_n 0, 1) := by decide +kernel
theorem dX7_loan_59 : decode cX7_loan 59 = .ok (.getfield 25, 3) := by decide +kernel
theorem dX7_loan_62 : decode cX7_loan 62 = .ok (.iload_n 1, 1) := by decide +kernel
theorem dX7_loan_63 : decode cX7_loan 63 = .ok (.iaload, 1) := by decide +kernel
theorem dX7_loan_64 : decode cX7_loan 64 = .ok (.ireturn, 1) := by decide +kernel
theorem dX7_loan_65 : decode cX7_loan 65 = .ok (.aload_n 0, 1) := by decide +kernel
theorem dX7_loan_66 : decode cX7_loan 66 = .ok (.getfield 28, 3) := by decide +kernel
theorem dX7_loan_69 : decode cX7_loan 69 = .ok (.iload_n 1, 1) := by decide +kernel
theorem dX7_loan_70 : decode cX7_loan 70 = .ok (.iaload, 1) := by decide +kernel
theorem dX7_loan_71 : decode cX7_loan 71 = .ok (.ireturn, 1) := by decide +kernel
theorem dX7_loan_72 : decode cX7_loan 72 = .ok (.bipush (-7), 2) := by decide +kernel
theorem dX7_loan_74 : decode cX7_loan 74 = .ok (.ireturn, 1) := by decide +kernel
theorem dX7_drops_0 : decode cX7_drops 0 = .ok (.iload_n 1, 1) := by decide +kernel
theorem dX7_drops_1 : decode cX7_drops 1 = .ok (.istore_n 2, 1) := by decide +kernel
theorem dX7_drops_2 : decode cX7_drops 2 = .ok (.iload_n 2, 1) := by decide +kernel
theorem dX7_drops_3 : decode cX7_drops 3 = .ok (.iconst 1, 1) := by decide +kernel
theorem dX7_drops_4 : decode cX7_drops 4 = .ok (.iadd, 1) := by decide +kernel
theorem dX7_drops_5 : decode cX7_drops 5 = .ok (.aload_n 0, 1) := by decide +kernel
theorem dX7_drops_6 : decode cX7_drops 6 = .ok (.getfield 91, 3) := by decide +kernel
theorem dX7_drops_9 : decode cX7_drops 9 = .ok (.if_icmp .ge 65, 3) := by decide +kernel
theorem dX7_drops_12 : decode cX7_drops 12 = .ok (.aload_n 0, 1) := by decide +kernel
theorem dX7_drops_13 : decode cX7_drops 13 = .ok (.getfield 19, 3) := by decide +kernel
theorem dX7_drops_16 : decode cX7_drops 16 = .ok (.iload_n 2, 1) := by decide +kernel
theorem dX7_drops_17 : decode cX7_drops 17 = .ok (.aload_n 0, 1) := by decide +kernel
theorem dX7_drops_18 : decode cX7_drops 18 = .ok (.getfield 19, 3) := by decide +kernel
theorem dX7_drops_21 : decode cX7_drops 21 = .ok (.iload_n 2, 1) := by decide +kernel
theorem dX7_drops_22 : decode cX7_drops 22 = .ok (.iconst 1, 1) := by decide +kernel
theorem dX7_drops_23 : decode cX7_drops 23 = .ok (.iadd, 1) := by decide +kernel
theorem dX7_drops_24 : decode cX7_drops 24 = .ok (.iaload, 1) := by decide +kernel
theorem dX7_drops_25 : decode cX7_drops 25 = .ok (.iastore, 1) := by decide +kernel
theorem dX7_drops_26 : decode cX7_drops 26 = .ok (.aload_n 0, 1) := by decide +kernel
theorem dX7_drops_27 : decode cX7_drops 27 = .ok (.getfield 22, 3) := by decide +kernel
theorem dX7_drops_30 : decode cX7_drops 30 = .ok (.iload_n 2, 1) := by decide +kernel
theorem dX7_drops_31 : decode cX7_drops 31 = .ok (.aload_n 0, 1) := by decide +kernel
theorem dX7_drops_32 : decode cX7_drops 32 = .ok (.getfield 22, 3) := by decide +kernel
theorem dX7_drops_35 : decode cX7_drops 35 = .ok (.iload_n 2, 1) := by decide +kernel
theorem dX7_drops_36 : decode cX7_drops 36 = .ok (.iconst 1, 1) := by decide +kernel
theorem dX7_drops_37 : decode cX7_drops 37 = .ok (.iadd, 1) := by decide +kernel
theorem dX7_drops_38 : decode cX7_drops 38 = .ok (.iaload, 1) := by decide +kernel
theorem dX7_drops_39 : decode cX7_drops 39 = .ok (.iastore, 1) := by decide +kernel
theorem dX7_drops_40 : decode cX7_drops 40 = .ok (.aload_n 0, 1) := by decide +kernel
theorem dX7_drops_41 : decode cX7_drops 41 = .ok (.getfield 25, 3) := by decide +kernel
theorem dX7_drops_44 : decode cX7_drops 44 = .ok (.iload_n 2, 1) := by decide +kernel
theorem dX7_drops_45 : decode cX7_drops 45 = .ok (.aload_n 0, 1) := by decide +kernel
theorem dX7_drops_46 : decode cX7_drops 46 = .ok (.getfield 25, 3) := by decide +kernel
theorem dX7_drops_49 : decode cX7_drops 49 = .ok (.iload_n 2, 1) := by decide +kernel
theorem dX7_drops_50 : decode cX7_drops 50 = .ok (.iconst 1, 1) := by decide +kernel
theorem dX7_drops_51 : decode cX7_drops 51 = .ok (.iadd, 1) := by decide +kernel
theorem dX7_drops_52 : decode cX7_drops 52 = .ok (.iaload, 1) := by decide +kernel
theorem dX7_drops_53 : decode cX7_drops 53 = .ok (.iastore, 1) := by decide +kernel
theorem dX7_drops_54 : decode cX7_drops 54 = .ok (.aload_n 0, 1) := by decide +kernel
theorem dX7_drops_55 : decode cX7_drops 55 = .ok (.getfield 28, 3) := by decide +kernel
theorem dX7_drops_58 : decode cX7_drops 58 = .ok (.iload_n 2, 1) := by decide +kernel
theorem dX7_drops_59 : decode cX7_drops 59 = .ok (.aload_n 0, 1) := by decide +kernel
theorem dX7_drops_60 : decode cX7_drops 60 = .ok (.getfield 28, 3) := by decide +kernel
theorem dX7_drops_63 : decode cX7_drops 63 = .ok (.iload_n 2, 1) := by decide +kernel
theorem dX7_drops_64 : decode cX7_drops 64 = .ok (.iconst 1, 1) := by decide +kernel
theorem dX7_drops_65 : decode cX7_drops 65 = .ok (.iadd, 1) := by decide +kernel
theorem dX7_drops_66 : decode cX7_drops 66 = .ok (.iaload, 1) := by decide +kernel
theorem dX7_drops_67 : decode cX7_drops 67 = .ok (.iastore, 1) := by decide +kernel
theorem dX7_drops_68 : decode cX7_drops 68 = .ok (.iinc 2 1, 3) := by decide +kernel
theorem dX7_drops_71 : decode cX7_drops 71 = .ok (.goto (-69), 3) := by decide +kernel
theorem dX7_drops_74 : decode cX7_drops 74 = .ok (.aload_n 0, 1) := by decide +kernel
theorem dX7_drops_75 : decode cX7_drops 75 = .ok (.dup, 1) := by decide +kernel
theorem dX7_drops_76 : decode cX7_drops 76 = .ok (.getfield 91, 3) := by decide +kernel
theorem dX7_drops_79 : decode cX7_drops 79 = .ok (.iconst 1, 1) := by decide +kernel
theorem dX7_drops_80 : decode cX7_drops 80 = .ok (.isub, 1) := by decide +kernel
theorem dX7_drops_81 : decode cX7_drops 81 = .ok (.putfield 91, 3) := by decide +kernel
theorem dX7_drops_84 : decode cX7_drops 84 = .ok (.return_, 1) := by decide +kernel
theorem dX7_repay_0 : decode cX7_repay 0 = .ok (.aload_n 0, 1) := by decide +kernel
theorem dX7_repay_1 : decode cX7_repay 1 = .ok (.iload_n 1, 1) := by decide +kernel
theorem dX7_repay_2 : decode cX7_repay 2 = .ok (.invokevirtual 206, 3) := by decide +kernel
theorem dX7_repay_5 : decode cX7_repay 5 = .ok (.ifCond .ne 6, 3) := by decide +kernel
theorem dX7_repay_8 : decode cX7_repay 8 = .ok (.bipush (-5), 2) := by decide +kernel
theorem dX7_repay_10 : decode cX7_repay 10 = .ok (.ireturn, 1) := by decide +kernel
theorem dX7_repay_11 : decode cX7_repay 11 = .ok (.aload_n 0, 1) := by decide +kernel
theorem dX7_repay_12 : decode cX7_repay 12 = .ok (.getfield 25, 3) := by decide +kernel
theorem dX7_repay_15 : decode cX7_repay 15 = .ok (.iload_n 1, 1) := by decide +kernel
theorem dX7_repay_16 : decode cX7_repay 16 = .ok (.iaload, 1) := by decide +kernel
theorem dX7_repay_17 : decode cX7_repay 17 = .ok (.istore_n 2, 1) := by decide +kernel
theorem dX7_repay_18 : decode cX7_repay 18 = .ok (.aload_n 0, 1) := by decide +kernel
theorem dX7_repay_19 : decode cX7_repay 19 = .ok (.getfield 16, 3) := by decide +kernel
theorem dX7_repay_22 : decode cX7_repay 22 = .ok (.iconst 3, 1) := by decide +kernel
theorem dX7_repay_23 : decode cX7_repay 23 = .ok (.aload_n 0, 1) := by decide +kernel
theorem dX7_repay_24 : decode cX7_repay 24 = .ok (.getfield 22, 3) := by decide +kernel
theorem dX7_repay_27 : decode cX7_repay 27 = .ok (.iload_n 1, 1) := by decide +kernel
theorem dX7_repay_28 : decode cX7_repay 28 = .ok (.iaload, 1) := by decide +kernel
theorem dX7_repay_29 : decode cX7_repay 29 = .ok (.imul, 1) := by decide +kernel
theorem dX7_repay_30 : decode cX7_repay 30 = .ok (.iaload, 1) := by decide +kernel
theorem dX7_repay_31 : decode cX7_repay 31 = .ok (.iload_n 2, 1) := by decide +kernel
theorem dX7_repay_32 : decode cX7_repay 32 = .ok (.if_icmp .ge 6, 3) := by decide +kernel
theorem dX7_repay_35 : decode cX7_repay 35 = .ok (.bipush (-3), 2) := by decide +kernel
theorem dX7_repay_37 : decode cX7_repay 37 = .ok (.ireturn, 1) := by decide +kernel
theorem dX7_repay_38 : decode cX7_repay 38 = .ok (.aload_n 0, 1) := by decide +kernel
theorem dX7_repay_39 : decode cX7_repay 39 = .ok (.aload_n 0, 1) := by decide +kernel
theorem dX7_repay_40 : decode cX7_repay 40 = .ok (.getfield 22, 3) := by decide +kernel
theorem dX7_repay_43 : decode cX7_repay 43 = .ok (.iload_n 1, 1) := by decide +kernel
theorem dX7_repay_44 : decode cX7_repay 44 = .ok (.iaload, 1) := by decide +kernel
theorem dX7_repay_45 : decode cX7_repay 45 = .ok (.aload_n 0, 1) := by decide +kernel
theorem dX7_repay_46 : decode cX7_repay 46 = .ok (.getfield 19, 3) := by decide +kernel
theorem dX7_repay_49 : decode cX7_repay 49 = .ok (.iload_n 1, 1) := by decide +kernel
theorem dX7_repay_50 : decode cX7_repay 50 = .ok (.iaload, 1) := by decide +kernel
theorem dX7_repay_51 : decode cX7_repay 51 = .ok (.iload_n 2, 1) := by decide +kernel
theorem dX7_repay_52 : decode cX7_repay 52 = .ok (.invokevirtual 192, 3) := by decide +kernel
theorem dX7_repay_55 : decode cX7_repay 55 = .ok (.aload_n 0, 1) := by decide +kernel
theorem dX7_repay_56 : decode cX7_repay 56 = .ok (.iload_n 1, 1) := by decide +kernel
theorem dX7_repay_57 : decode cX7_repay 57 = .ok (.invokevirtual 209, 3) := by decide +kernel
theorem dX7_repay_60 : decode cX7_repay 60 = .ok (.iload_n 2, 1) := by decide +kernel
theorem dX7_repay_61 : decode cX7_repay 61 = .ok (.ireturn, 1) := by decide +kernel
theorem dX7_forgive_0 : decode cX7_forgive 0 = .ok (.aload_n 0, 1) := by decide +kernel
theorem dX7_forgive_1 : decode cX7_forgive 1 = .ok (.iload_n 1, 1) := by decide +kernel
theorem dX7_forgive_2 : decode cX7_forgive 2 = .ok (.invokevirtual 206, 3) := by decide +kernel
theorem dX7_forgive_5 : decode cX7_forgive 5 = .ok (.ifCond .ne 6, 3) := by decide +kernel
theorem dX7_forgive_8 : decode cX7_forgive 8 = .ok (.bipush (-5), 2) := by decide +kernel
theorem dX7_forgive_10 : decode cX7_forgive 10 = .ok (.ireturn, 1) := by decide +kernel
theorem dX7_forgive_11 : decode cX7_forgive 11 = .ok (.aload_n 0, 1) := by decide +kernel
theorem dX7_forgive_12 : decode cX7_forgive 12 = .ok (.getfield 25, 3) := by decide +kernel
theorem dX7_forgive_15 : decode cX7_forgive 15 = .ok (.iload_n 1, 1) := by decide +kernel
theorem dX7_forgive_16 : decode cX7_forgive 16 = .ok (.iaload, 1) := by decide +kernel
theorem dX7_forgive_17 : decode cX7_forgive 17 = .ok (.istore_n 2, 1) := by decide +kernel
theorem dX7_forgive_18 : decode cX7_forgive 18 = .ok (.aload_n 0, 1) := by decide +kernel
theorem dX7_forgive_19 : decode cX7_forgive 19 = .ok (.iload_n 1, 1) := by decide +kernel
theorem dX7_forgive_20 : decode cX7_forgive 20 = .ok (.invokevirtual 209, 3) := by decide +kernel
theorem dX7_forgive_23 : decode cX7_forgive 23 = .ok (.iload_n 2, 1) := by decide +kernel
theorem dX7_forgive_24 : decode cX7_forgive 24 = .ok (.ireturn, 1) := by decide +kernel
theorem dX7_growsOf_0 : decode cX7_growsOf 0 = .ok (.aload_n 0, 1) := by decide +kernel
theorem dX7_growsOf_1 : decode cX7_growsOf 1 = .ok (.iconst 0, 1) := by decide +kernel
theorem dX7_growsOf_2 : decode cX7_growsOf 2 = .ok (.iload_n 1, 1) := by decide +kernel
theorem dX7_growsOf_3 : decode cX7_growsOf 3 = .ok (.iload_n 2, 1) := by decide +kernel
theorem dX7_growsOf_4 : decode cX7_growsOf 4 = .ok (.invokevirtual 182, 3) := by decide +kernel
theorem dX7_growsOf_7 : decode cX7_growsOf 7 = .ok (.istore_n 3, 1) := by decide +kernel
theorem dX7_growsOf_8 : decode cX7_growsOf 8 = .ok (.aload_n 0, 1) := by decide +kernel
theorem dX7_growsOf_9 : decode cX7_growsOf 9 = .ok (.getfield 7, 3) := by decide +kernel
theorem dX7_growsOf_12 : decode cX7_growsOf 12 = .ok (.iload_n 1, 1) := by decide +kernel
theorem dX7_growsOf_13 : decode cX7_growsOf 13 = .ok (.iaload, 1) := by decide +kernel
theorem dX7_growsOf_14 : decode cX7_growsOf 14 = .ok (.tableswitch 61 1 5 #[34, 61, 34, 53, 59], 34) := by decide +kernel
theorem dX7_growsOf_48 : decode cX7_growsOf 48 = .ok (.iload_n 2, 1) := by decide +kernel
theorem dX7_growsOf_49 : decode cX7_growsOf 49 = .ok (.bipush 50, 2) := by decide +kernel
theorem dX7_growsOf_51 : decode cX7_growsOf 51 = .ok (.if_icmp .le 14, 3) := by decide +kernel
theorem dX7_growsOf_54 : decode cX7_growsOf 54 = .ok (.iload_n 3, 1) := by decide +kernel
theorem dX7_growsOf_55 : decode cX7_growsOf 55 = .ok (.aload_n 0, 1) := by decide +kernel
theorem dX7_growsOf_56 : decode cX7_growsOf 56 = .ok (.getfield 13, 3) := by decide +kernel
theorem dX7_growsOf_59 : decode cX7_growsOf 59 = .ok (.iload_n 1, 1) := by decide +kernel
theorem dX7_growsOf_60 : decode cX7_growsOf 60 = .ok (.iaload, 1) := by decide +kernel
theorem dX7_growsOf_61 : decode cX7_growsOf 61 = .ok (.iadd, 1) := by decide +kernel
theorem dX7_growsOf_62 : decode cX7_growsOf 62 = .ok (.goto 4, 3) := by decide +kernel
theorem dX7_growsOf_65 : decode cX7_growsOf 65 = .ok (.iload_n 3, 1) := by decide +kernel
theorem dX7_growsOf_66 : decode cX7_growsOf 66 = .ok (.ireturn, 1) := by decide +kernel
theorem dX7_growsOf_67 : decode cX7_growsOf 67 = .ok (.iconst 2, 1) := by decide +kernel
theorem dX7_growsOf_68 : decode cX7_growsOf 68 = .ok (.iload_n 3, 1) := by decide +kernel
theorem dX7_growsOf_69 : decode cX7_growsOf 69 = .ok (.imul, 1) := by decide +kernel
theorem dX7_growsOf_70 : decode cX7_growsOf 70 = .ok (.iconst 1, 1) := by decide +kernel
theorem dX7_growsOf_71 : decode cX7_growsOf 71 = .ok (.iadd, 1) := by decide +kernel
theorem dX7_growsOf_72 : decode cX7_growsOf 72 = .ok (.ireturn, 1) := by decide +kernel
theorem dX7_growsOf_73 : decode cX7_growsOf 73 = .ok (.iconst 0, 1) := by decide +kernel
theorem dX7_growsOf_74 : decode cX7_growsOf 74 = .ok (.ireturn, 1) := by decide +kernel
theorem dX7_growsOf_75 : decode cX7_growsOf 75 = .ok (.iload_n 3, 1) := by decide +kernel
theorem dX7_growsOf_76 : decode cX7_growsOf 76 = .ok (.ireturn, 1) := by decide +kernel
theorem dX7_coolsOf_0 : decode cX7_coolsOf 0 = .ok (.aload_n 0, 1) := by decide +kernel
theorem dX7_coolsOf_1 : decode cX7_coolsOf 1 = .ok (.iconst 1, 1) := by decide +kernel
theorem dX7_coolsOf_2 : decode cX7_coolsOf 2 = .ok (.iload_n 1, 1) := by decide +kernel
theorem dX7_coolsOf_3 : decode cX7_coolsOf 3 = .ok (.iconst 0, 1) := by decide +kernel
theorem dX7_coolsOf_4 : decode cX7_coolsOf 4 = .ok (.invokevirtual 182, 3) := by decide +kernel
theorem dX7_coolsOf_7 : decode cX7_coolsOf 7 = .ok (.istore_n 2, 1) := by decide +kernel
theorem dX7_coolsOf_8 : decode cX7_coolsOf 8 = .ok (.aload_n 0, 1) := by decide +kernel
theorem dX7_coolsOf_9 : decode cX7_coolsOf 9 = .ok (.getfield 16, 3) := by decide +kernel
theorem dX7_coolsOf_12 : decode cX7_coolsOf 12 = .ok (.iconst 3, 1) := by decide +kernel
theorem dX7_coolsOf_13 : decode cX7_coolsOf 13 = .ok (.iload_n 1, 1) := by decide +kernel
theorem dX7_coolsOf_14 : decode cX7_coolsOf 14 = .ok (.imul, 1) := by decide +kernel
theorem dX7_coolsOf_15 : decode cX7_coolsOf 15 = .ok (.iaload, 1) := by decide +kernel
theorem dX7_coolsOf_16 : decode cX7_coolsOf 16 = .ok (.istore_n 3, 1) := by decide +kernel
theorem dX7_coolsOf_17 : decode cX7_coolsOf 17 = .ok (.aload_n 0, 1) := by decide +kernel
theorem dX7_coolsOf_18 : decode cX7_coolsOf 18 = .ok (.getfield 7, 3) := by decide +kernel
theorem dX7_coolsOf_21 : decode cX7_coolsOf 21 = .ok (.iload_n 1, 1) := by decide +kernel
theorem dX7_coolsOf_22 : decode cX7_coolsOf 22 = .ok (.iaload, 1) := by decide +kernel
theorem dX7_coolsOf_23 : decode cX7_coolsOf 23 = .ok (.tableswitch 55 1 4 #[29, 33, 40, 33], 29) := by decide +kernel
theorem dX7_coolsOf_52 : decode cX7_coolsOf 52 = .ok (.iload_n 2, 1) := by decide +kernel
theorem dX7_coolsOf_53 : decode cX7_coolsOf 53 = .ok (.iconst 2, 1) := by decide +kernel
theorem dX7_coolsOf_54 : decode cX7_coolsOf 54 = .ok (.idiv, 1) := by decide +kernel
theorem dX7_coolsOf_55 : decode cX7_coolsOf 55 = .ok (.ireturn, 1) := by decide +kernel
theorem dX7_coolsOf_56 : decode cX7_coolsOf 56 = .ok (.iload_n 2, 1) := by decide +kernel
theorem dX7_coolsOf_57 : decode cX7_coolsOf 57 = .ok (.iload_n 3, 1) := by decide +kernel
theorem dX7_coolsOf_58 : decode cX7_coolsOf 58 = .ok (.bipush 20, 2) := by decide +kernel
theorem dX7_coolsOf_60 : decode cX7_coolsOf 60 = .ok (.idiv, 1) := by decide +kernel
theorem dX7_coolsOf_61 : decode cX7_coolsOf 61 = .ok (.iadd, 1) := by decide +kernel
theorem dX7_coolsOf_62 : decode cX7_coolsOf 62 = .ok (.ireturn, 1) := by decide +kernel
theorem dX7_coolsOf_63 : decode cX7_coolsOf 63 = .ok (.iload_n 3, 1) := by decide +kernel
theorem dX7_coolsOf_64 : decode cX7_coolsOf 64 = .ok (.sipush 200, 3) := by decide +kernel
theorem dX7_coolsOf_67 : decode cX7_coolsOf 67 = .ok (.if_icmp .le 7, 3) := by decide +kernel
theorem dX7_coolsOf_70 : decode cX7_coolsOf 70 = .ok (.iload_n 3, 1) := by decide +kernel
theorem dX7_coolsOf_71 : decode cX7_coolsOf 71 = .ok (.goto 6, 3) := by decide +kernel
theorem dX7_coolsOf_74 : decode cX7_coolsOf 74 = .ok (.iload_n 2, 1) := by decide +kernel
theorem dX7_coolsOf_75 : decode cX7_coolsOf 75 = .ok (.iconst 2, 1) := by decide +kernel
theorem dX7_coolsOf_76 : decode cX7_coolsOf 76 = .ok (.idiv, 1) := by decide +kernel
theorem dX7_coolsOf_77 : decode cX7_coolsOf 77 = .ok (.ireturn, 1) := by decide +kernel
theorem dX7_coolsOf_78 : decode cX7_coolsOf 78 = .ok (.iload_n 2, 1) := by decide +kernel
theorem dX7_coolsOf_79 : decode cX7_coolsOf 79 = .ok (.ireturn, 1) := by decide +kernel
theorem dX7_burnsOf_0 : decode cX7_burnsOf 0 = .ok (.aload_n 0, 1) := by decide +kernel
theorem dX7_burnsOf_1 : decode cX7_burnsOf 1 = .ok (.iconst 2, 1) := by decide +kernel
theorem dX7_burnsOf_2 : decode cX7_burnsOf 2 = .ok (.iload_n 1, 1) := by decide +kernel
theorem dX7_burnsOf_3 : decode cX7_burnsOf 3 = .ok (.iconst 0, 1) := by decide +kernel
theorem dX7_burnsOf_4 : decode cX7_burnsOf 4 = .ok (.invokevirtual 182, 3) := by decide +kernel
theorem dX7_burnsOf_7 : decode cX7_burnsOf 7 = .ok (.istore_n 2, 1) := by decide +kernel
theorem dX7_burnsOf_8 : decode cX7_burnsOf 8 = .ok (.aload_n 0, 1) := by decide +kernel
theorem dX7_burnsOf_9 : decode cX7_burnsOf 9 = .ok (.getfield 7, 3) := by decide +kernel
theorem dX7_burnsOf_12 : decode cX7_burnsOf 12 = .ok (.iload_n 1, 1) := by decide +kernel
theorem dX7_burnsOf_13 : decode cX7_burnsOf 13 = .ok (.iaload, 1) := by decide +kernel
theorem dX7_burnsOf_14 : decode cX7_burnsOf 14 = .ok (.tableswitch 81 2 5 #[30, 34, 43, 64], 30) := by decide +kernel
theorem dX7_burnsOf_44 : decode cX7_burnsOf 44 = .ok (.iconst 2, 1) := by decide +kernel
theorem dX7_burnsOf_45 : decode cX7_burnsOf 45 = .ok (.iload_n 2, 1) := by decide +kernel
theorem dX7_burnsOf_46 : decode cX7_burnsOf 46 = .ok (.imul, 1) := by decide +kernel
theorem dX7_burnsOf_47 : decode cX7_burnsOf 47 = .ok (.ireturn, 1) := by decide +kernel
theorem dX7_burnsOf_48 : decode cX7_burnsOf 48 = .ok (.iload_n 2, 1) := by decide +kernel
theorem dX7_burnsOf_49 : decode cX7_burnsOf 49 = .ok (.aload_n 0, 1) := by decide +kernel
theorem dX7_burnsOf_50 : decode cX7_burnsOf 50 = .ok (.getfield 13, 3) := by decide +kernel
theorem dX7_burnsOf_53 : decode cX7_burnsOf 53 = .ok (.iload_n 1, 1) := by decide +kernel
theorem dX7_burnsOf_54 : decode cX7_burnsOf 54 = .ok (.iaload, 1) := by decide +kernel
theorem dX7_burnsOf_55 : decode cX7_burnsOf 55 = .ok (.iadd, 1) := by decide +kernel
theorem dX7_burnsOf_56 : decode cX7_burnsOf 56 = .ok (.ireturn, 1) := by decide +kernel
theorem dX7_burnsOf_57 : decode cX7_burnsOf 57 = .ok (.aload_n 0, 1) := by decide +kernel
theorem dX7_burnsOf_58 : decode cX7_burnsOf 58 = .ok (.getfield 94, 3) := by decide +kernel
theorem dX7_burnsOf_61 : decode cX7_burnsOf 61 = .ok (.aload_n 0, 1) := by decide +kernel
theorem dX7_burnsOf_62 : decode cX7_burnsOf 62 = .ok (.getfield 13, 3) := by decide +kernel
theorem dX7_burnsOf_65 : decode cX7_burnsOf 65 = .ok (.iload_n 1, 1) := by decide +kernel
theorem dX7_burnsOf_66 : decode cX7_burnsOf 66 = .ok (.iaload, 1) := by decide +kernel
theorem dX7_burnsOf_67 : decode cX7_burnsOf 67 = .ok (.if_icmp .ge 7, 3) := by decide +kernel
theorem dX7_burnsOf_70 : decode cX7_burnsOf 70 = .ok (.iconst 0, 1) := by decide +kernel
theorem dX7_burnsOf_71 : decode cX7_burnsOf 71 = .ok (.goto 6, 3) := by decide +kernel
theorem dX7_burnsOf_74 : decode cX7_burnsOf 74 = .ok (.iconst 2, 1) := by decide +kernel
theorem dX7_burnsOf_75 : decode cX7_burnsOf 75 = .ok (.iload_n 2, 1) := by decide +kernel
theorem dX7_burnsOf_76 : decode cX7_burnsOf 76 = .ok (.imul, 1) := by decide +kernel
theorem dX7_burnsOf_77 : decode cX7_burnsOf 77 = .ok (.ireturn, 1) := by decide +kernel
theorem dX7_burnsOf_78 : decode cX7_burnsOf 78 = .ok (.aload_n 0, 1) := by decide +kernel
theorem dX7_burnsOf_79 : decode cX7_burnsOf 79 = .ok (.getfield 94, 3) := by decide +kernel
theorem dX7_burnsOf_82 : decode cX7_burnsOf 82 = .ok (.iconst 2, 1) := by decide +kernel
theorem dX7_burnsOf_83 : decode cX7_burnsOf 83 = .ok (.irem, 1) := by decide +kernel
theorem dX7_burnsOf_84 : decode cX7_burnsOf 84 = .ok (.iconst 1, 1) := by decide +kernel
theorem dX7_burnsOf_85 : decode cX7_burnsOf 85 = .ok (.if_icmp .ne 8, 3) := by decide +kernel
theorem dX7_burnsOf_88 : decode cX7_burnsOf 88 = .ok (.bipush 30, 2) := by decide +kernel
theorem dX7_burnsOf_90 : decode cX7_burnsOf 90 = .ok (.goto 4, 3) := by decide +kernel
theorem dX7_burnsOf_93 : decode cX7_burnsOf 93 = .ok (.iconst 0, 1) := by decide +kernel
theorem dX7_burnsOf_94 : decode cX7_burnsOf 94 = .ok (.ireturn, 1) := by decide +kernel
theorem dX7_burnsOf_95 : decode cX7_burnsOf 95 = .ok (.iload_n 2, 1) := by decide +kernel
theorem dX7_burnsOf_96 : decode cX7_burnsOf 96 = .ok (.ireturn, 1) := by decide +kernel
theorem dX7_hearth_0 : decode cX7_hearth 0 = .ok (.aload_n 0, 1) := by decide +kernel
theorem dX7_hearth_1 : decode cX7_hearth 1 = .ok (.getfield 16, 3) := by decide +kernel
theorem dX7_hearth_4 : decode cX7_hearth 4 = .ok (.iconst 3, 1) := by decide +kernel
theorem dX7_hearth_5 : decode cX7_hearth 5 = .ok (.iload_n 1, 1) := by decide +kernel
theorem dX7_hearth_6 : decode cX7_hearth 6 = .ok (.imul, 1) := by decide +kernel
theorem dX7_hearth_7 : decode cX7_hearth 7 = .ok (.iconst 2, 1) := by decide +kernel
theorem dX7_hearth_8 : decode cX7_hearth 8 = .ok (.iadd, 1) := by decide +kernel
theorem dX7_hearth_9 : decode cX7_hearth 9 = .ok (.iaload, 1) := by decide +kernel
theorem dX7_hearth_10 : decode cX7_hearth 10 = .ok (.ifCond .le 29, 3) := by decide +kernel
theorem dX7_hearth_13 : decode cX7_hearth 13 = .ok (.aload_n 0, 1) := by decide +kernel
theorem dX7_hearth_14 : decode cX7_hearth 14 = .ok (.getfield 16, 3) := by decide +kernel
theorem dX7_hearth_17 : decode cX7_hearth 17 = .ok (.iconst 3, 1) := by decide +kernel
theorem dX7_hearth_18 : decode cX7_hearth 18 = .ok (.iload_n 1, 1) := by decide +kernel
theorem dX7_hearth_19 : decode cX7_hearth 19 = .ok (.imul, 1) := by decide +kernel
theorem dX7_hearth_20 : decode cX7_hearth 20 = .ok (.iconst 2, 1) := by decide +kernel
theorem dX7_hearth_21 : decode cX7_hearth 21 = .ok (.iadd, 1) := by decide +kernel
theorem dX7_hearth_22 : decode cX7_hearth 22 = .ok (.dup2, 1) := by decide +kernel
theorem dX7_hearth_23 : decode cX7_hearth 23 = .ok (.iaload, 1) := by decide +kernel
theorem dX7_hearth_24 : decode cX7_hearth 24 = .ok (.iconst 1, 1) := by decide +kernel
theorem dX7_hearth_25 : decode cX7_hearth 25 = .ok (.isub, 1) := by decide +kernel
theorem dX7_hearth_26 : decode cX7_hearth 26 = .ok (.iastore, 1) := by decide +kernel
theorem dX7_hearth_27 : decode cX7_hearth 27 = .ok (.aload_n 0, 1) := by decide +kernel
theorem dX7_hearth_28 : decode cX7_hearth 28 = .ok (.getfield 16, 3) := by decide +kernel
theorem dX7_hearth_31 : decode cX7_hearth 31 = .ok (.iconst 3, 1) := by decide +kernel
theorem dX7_hearth_32 : decode cX7_hearth 32 = .ok (.iload_n 1, 1) := by decide +kernel
theorem dX7_hearth_33 : decode cX7_hearth 33 = .ok (.imul, 1) := by decide +kernel
theorem dX7_hearth_34 : decode cX7_hearth 34 = .ok (.iconst 0, 1) := by decide +kernel
theorem dX7_hearth_35 : decode cX7_hearth 35 = .ok (.iastore, 1) := by decide +kernel
theorem dX7_hearth_36 : decode cX7_hearth 36 = .ok (.goto 93, 3) := by decide +kernel
theorem dX7_hearth_39 : decode cX7_hearth 39 = .ok (.aload_n 0, 1) := by decide +kernel
theorem dX7_hearth_40 : decode cX7_hearth 40 = .ok (.getfield 16, 3) := by decide +kernel
theorem dX7_hearth_43 : decode cX7_hearth 43 = .ok (.iconst 3, 1) := by decide +kernel
theorem dX7_hearth_44 : decode cX7_hearth 44 = .ok (.iload_n 1, 1) := by decide +kernel
theorem dX7_hearth_45 : decode cX7_hearth 45 = .ok (.imul, 1) := by decide +kernel
theorem dX7_hearth_46 : decode cX7_hearth 46 = .ok (.iconst 1, 1) := by decide +kernel
theorem dX7_hearth_47 : decode cX7_hearth 47 = .ok (.iadd, 1) := by decide +kernel
theorem dX7_hearth_48 : decode cX7_hearth 48 = .ok (.iaload, 1) := by decide +kernel
theorem dX7_hearth_49 : decode cX7_hearth 49 = .ok (.ifCond .le 48, 3) := by decide +kernel
theorem dX7_hearth_52 : decode cX7_hearth 52 = .ok (.aload_n 0, 1) := by decide +kernel
theorem dX7_hearth_53 : decode cX7_hearth 53 = .ok (.iload_n 1, 1) := by decide +kernel
theorem dX7_hearth_54 : decode cX7_hearth 54 = .ok (.invokevirtual 212, 3) := by decide +kernel
theorem dX7_hearth_57 : decode cX7_hearth 57 = .ok (.istore_n 2, 1) := by decide +kernel
theorem dX7_hearth_58 : decode cX7_hearth 58 = .ok (.aload_n 0, 1) := by decide +kernel
theorem dX7_hearth_59 : decode cX7_hearth 59 = .ok (.getfield 16, 3) := by decide +kernel
theorem dX7_hearth_62 : decode cX7_hearth 62 = .ok (.iconst 3, 1) := by decide +kernel
theorem dX7_hearth_63 : decode cX7_hearth 63 = .ok (.iload_n 1, 1) := by decide +kernel
theorem dX7_hearth_64 : decode cX7_hearth 64 = .ok (.imul, 1) := by decide +kernel
theorem dX7_hearth_65 : decode cX7_hearth 65 = .ok (.aload_n 0, 1) := by decide +kernel
theorem dX7_hearth_66 : decode cX7_hearth 66 = .ok (.getfield 16, 3) := by decide +kernel
theorem dX7_hearth_69 : decode cX7_hearth 69 = .ok (.iconst 3, 1) := by decide +kernel
theorem dX7_hearth_70 : decode cX7_hearth 70 = .ok (.iload_n 1, 1) := by decide +kernel
theorem dX7_hearth_71 : decode cX7_hearth 71 = .ok (.imul, 1) := by decide +kernel
theorem dX7_hearth_72 : decode cX7_hearth 72 = .ok (.iaload, 1) := by decide +kernel
theorem dX7_hearth_73 : decode cX7_hearth 73 = .ok (.iload_n 2, 1) := by decide +kernel
theorem dX7_hearth_74 : decode cX7_hearth 74 = .ok (.iadd, 1) := by decide +kernel
theorem dX7_hearth_75 : decode cX7_hearth 75 = .ok (.iconst 0, 1) := by decide +kernel
theorem dX7_hearth_76 : decode cX7_hearth 76 = .ok (.sipush 9999, 3) := by decide +kernel
theorem dX7_hearth_79 : decode cX7_hearth 79 = .ok (.invokestatic 176, 3) := by decide +kernel
theorem dX7_hearth_82 : decode cX7_hearth 82 = .ok (.iastore, 1) := by decide +kernel
theorem dX7_hearth_83 : decode cX7_hearth 83 = .ok (.aload_n 0, 1) := by decide +kernel
theorem dX7_hearth_84 : decode cX7_hearth 84 = .ok (.getfield 16, 3) := by decide +kernel
theorem dX7_hearth_87 : decode cX7_hearth 87 = .ok (.iconst 3, 1) := by decide +kernel
theorem dX7_hearth_88 : decode cX7_hearth 88 = .ok (.iload_n 1, 1) := by decide +kernel
theorem dX7_hearth_89 : decode cX7_hearth 89 = .ok (.imul, 1) := by decide +kernel
theorem dX7_hearth_90 : decode cX7_hearth 90 = .ok (.iconst 1, 1) := by decide +kernel
theorem dX7_hearth_91 : decode cX7_hearth 91 = .ok (.iadd, 1) := by decide +kernel
theorem dX7_hearth_92 : decode cX7_hearth 92 = .ok (.dup2, 1) := by decide +kernel
theorem dX7_hearth_93 : decode cX7_hearth 93 = .ok (.iaload, 1) := by decide +kernel
theorem dX7_hearth_94 : decode cX7_hearth 94 = .ok (.iconst 1, 1) := by decide +kernel
theorem dX7_hearth_95 : decode cX7_hearth 95 = .ok (.isub, 1) := by decide +kernel
theorem dX7_hearth_96 : decode cX7_hearth 96 = .ok (.iastore, 1) := by decide +kernel
theorem dX7_hearth_97 : decode cX7_hearth 97 = .ok (.aload_n 0, 1) := by decide +kernel
theorem dX7_hearth_98 : decode cX7_hearth 98 = .ok (.getfield 16, 3) := by decide +kernel
theorem dX7_hearth_101 : decode cX7_hearth 101 = .ok (.iconst 3, 1) := by decide +kernel
theorem dX7_hearth_102 : decode cX7_hearth 102 = .ok (.iload_n 1, 1) := by decide +kernel
theorem dX7_hearth_103 : decode cX7_hearth 103 = .ok (.imul, 1) := by decide +kernel
theorem dX7_hearth_104 : decode cX7_hearth 104 = .ok (.iaload, 1) := by decide +kernel
theorem dX7_hearth_105 : decode cX7_hearth 105 = .ok (.aload_n 0, 1) := by decide +kernel
theorem dX7_hearth_106 : decode cX7_hearth 106 = .ok (.iload_n 1, 1) := by decide +kernel
theorem dX7_hearth_107 : decode cX7_hearth 107 = .ok (.invokevirtual 215, 3) := by decide +kernel
theorem dX7_hearth_110 : decode cX7_hearth 110 = .ok (.isub, 1) := by decide +kernel
theorem dX7_hearth_111 : decode cX7_hearth 111 = .ok (.istore_n 2, 1) := by decide +kernel
theorem dX7_hearth_112 : decode cX7_hearth 112 = .ok (.aload_n 0, 1) := by decide +kernel
theorem dX7_hearth_113 : decode cX7_hearth 113 = .ok (.getfield 16, 3) := by decide +kernel
theorem dX7_hearth_116 : decode cX7_hearth 116 = .ok (.iconst 3, 1) := by decide +kernel
theorem dX7_hearth_117 : decode cX7_hearth 117 = .ok (.iload_n 1, 1) := by decide +kernel
theorem dX7_hearth_118 : decode cX7_hearth 118 = .ok (.imul, 1) := by decide +kernel
theorem dX7_hearth_119 : decode cX7_hearth 119 = .ok (.iload_n 2, 1) := by decide +kernel
theorem dX7_hearth_120 : decode cX7_hearth 120 = .ok (.ifCond .ge 7, 3) := by decide +kernel
theorem dX7_hearth_123 : decode cX7_hearth 123 = .ok (.iconst 0, 1) := by decide +kernel
theorem dX7_hearth_124 : decode cX7_hearth 124 = .ok (.goto 4, 3) := by decide +kernel
theorem dX7_hearth_127 : decode cX7_hearth 127 = .ok (.iload_n 2, 1) := by decide +kernel
theorem dX7_hearth_128 : decode cX7_hearth 128 = .ok (.iastore, 1) := by decide +kernel
theorem dX7_hearth_129 : decode cX7_hearth 129 = .ok (.return_, 1) := by decide +kernel
theorem dX7_nightOf_0 : decode cX7_nightOf 0 = .ok (.iconst 0, 1) := by decide +kernel
theorem dX7_nightOf_1 : decode cX7_nightOf 1 = .ok (.istore_n 1, 1) := by decide +kernel
theorem dX7_nightOf_2 : decode cX7_nightOf 2 = .ok (.iconst 0, 1) := by decide +kernel
theorem dX7_nightOf_3 : decode cX7_nightOf 3 = .ok (.istore_n 2, 1) := by decide +kernel
theorem dX7_nightOf_4 : decode cX7_nightOf 4 = .ok (.iload_n 2, 1) := by decide +kernel
theorem dX7_nightOf_5 : decode cX7_nightOf 5 = .ok (.aload_n 0, 1) := by decide +kernel
theorem dX7_nightOf_6 : decode cX7_nightOf 6 = .ok (.getfield 91, 3) := by decide +kernel
theorem dX7_nightOf_9 : decode cX7_nightOf 9 = .ok (.if_icmp .ge 45, 3) := by decide +kernel
theorem dX7_nightOf_12 : decode cX7_nightOf 12 = .ok (.aload_n 0, 1) := by decide +kernel
theorem dX7_nightOf_13 : decode cX7_nightOf 13 = .ok (.getfield 25, 3) := by decide +kernel
theorem dX7_nightOf_16 : decode cX7_nightOf 16 = .ok (.iload_n 2, 1) := by decide +kernel
theorem dX7_nightOf_17 : decode cX7_nightOf 17 = .ok (.aload_n 0, 1) := by decide +kernel
theorem dX7_nightOf_18 : decode cX7_nightOf 18 = .ok (.getfield 25, 3) := by decide +kernel
theorem dX7_nightOf_21 : decode cX7_nightOf 21 = .ok (.iload_n 2, 1) := by decide +kernel
theorem dX7_nightOf_22 : decode cX7_nightOf 22 = .ok (.iaload, 1) := by decide +kernel
theorem dX7_nightOf_23 : decode cX7_nightOf 23 = .ok (.aload_n 0, 1) := by decide +kernel
theorem dX7_nightOf_24 : decode cX7_nightOf 24 = .ok (.aload_n 0, 1) := by decide +kernel
theorem dX7_nightOf_25 : decode cX7_nightOf 25 = .ok (.getfield 22, 3) := by decide +kernel
theorem dX7_nightOf_28 : decode cX7_nightOf 28 = .ok (.iload_n 2, 1) := by decide +kernel
theorem dX7_nightOf_29 : decode cX7_nightOf 29 = .ok (.iaload, 1) := by decide +kernel
theorem dX7_nightOf_30 : decode cX7_nightOf 30 = .ok (.aload_n 0, 1) := by decide +kernel
theorem dX7_nightOf_31 : decode cX7_nightOf 31 = .ok (.getfield 25, 3) := by decide +kernel
theorem dX7_nightOf_34 : decode cX7_nightOf 34 = .ok (.iload_n 2, 1) := by decide +kernel
theorem dX7_nightOf_35 : decode cX7_nightOf 35 = .ok (.iaload, 1) := by decide +kernel
theorem dX7_nightOf_36 : decode cX7_nightOf 36 = .ok (.invokevirtual 218, 3) := by decide +kernel
theorem dX7_nightOf_39 : decode cX7_nightOf 39 = .ok (.iadd, 1) := by decide +kernel
theorem dX7_nightOf_40 : decode cX7_nightOf 40 = .ok (.iconst 0, 1) := by decide +kernel
theorem dX7_nightOf_41 : decode cX7_nightOf 41 = .ok (.sipush 9999, 3) := by decide +kernel
theorem dX7_nightOf_44 : decode cX7_nightOf 44 = .ok (.invokestatic 176, 3) := by decide +kernel
theorem dX7_nightOf_47 : decode cX7_nightOf 47 = .ok (.iastore, 1) := by decide +kernel
theorem dX7_nightOf_48 : decode cX7_nightOf 48 = .ok (.iinc 2 1, 3) := by decide +kernel
theorem dX7_nightOf_51 : decode cX7_nightOf 51 = .ok (.goto (-47), 3) := by decide +kernel
theorem dX7_nightOf_54 : decode cX7_nightOf 54 = .ok (.iconst 0, 1) := by decide +kernel
theorem dX7_nightOf_55 : decode cX7_nightOf 55 = .ok (.istore_n 2, 1) := by decide +kernel
theorem dX7_nightOf_56 : decode cX7_nightOf 56 = .ok (.iload_n 2, 1) := by decide +kernel
theorem dX7_nightOf_57 : decode cX7_nightOf 57 = .ok (.aload_n 0, 1) := by decide +kernel
theorem dX7_nightOf_58 : decode cX7_nightOf 58 = .ok (.getfield 91, 3) := by decide +kernel
theorem dX7_nightOf_61 : decode cX7_nightOf 61 = .ok (.if_icmp .ge 92, 3) := by decide +kernel
theorem dX7_nightOf_64 : decode cX7_nightOf 64 = .ok (.aload_n 0, 1) := by decide +kernel
theorem dX7_nightOf_65 : decode cX7_nightOf 65 = .ok (.getfield 28, 3) := by decide +kernel
theorem dX7_nightOf_68 : decode cX7_nightOf 68 = .ok (.iload_n 2, 1) := by decide +kernel
theorem dX7_nightOf_69 : decode cX7_nightOf 69 = .ok (.iaload, 1) := by decide +kernel
theorem dX7_nightOf_70 : decode cX7_nightOf 70 = .ok (.aload_n 0, 1) := by decide +kernel
theorem dX7_nightOf_71 : decode cX7_nightOf 71 = .ok (.getfield 94, 3) := by decide +kernel
theorem dX7_nightOf_74 : decode cX7_nightOf 74 = .ok (.if_icmp .le 9, 3) := by decide +kernel
theorem dX7_nightOf_77 : decode cX7_nightOf 77 = .ok (.iinc 2 1, 3) := by decide +kernel
theorem dX7_nightOf_80 : decode cX7_nightOf 80 = .ok (.goto (-24), 3) := by decide +kernel
theorem dX7_nightOf_83 : decode cX7_nightOf 83 = .ok (.aload_n 0, 1) := by decide +kernel
theorem dX7_nightOf_84 : decode cX7_nightOf 84 = .ok (.getfield 22, 3) := by decide +kernel
theorem dX7_nightOf_87 : decode cX7_nightOf 87 = .ok (.iload_n 2, 1) := by decide +kernel
theorem dX7_nightOf_88 : decode cX7_nightOf 88 = .ok (.iaload, 1) := by decide +kernel
theorem dX7_nightOf_89 : decode cX7_nightOf 89 = .ok (.istore_n 3, 1) := by decide +kernel
theorem dX7_nightOf_90 : decode cX7_nightOf 90 = .ok (.aload_n 0, 1) := by decide +kernel
theorem dX7_nightOf_91 : decode cX7_nightOf 91 = .ok (.getfield 16, 3) := by decide +kernel
theorem dX7_nightOf_94 : decode cX7_nightOf 94 = .ok (.iconst 3, 1) := by decide +kernel
theorem dX7_nightOf_95 : decode cX7_nightOf 95 = .ok (.iload_n 3, 1) := by decide +kernel
theorem dX7_nightOf_96 : decode cX7_nightOf 96 = .ok (.imul, 1) := by decide +kernel
theorem dX7_nightOf_97 : decode cX7_nightOf 97 = .ok (.iaload, 1) := by decide +kernel
theorem dX7_nightOf_98 : decode cX7_nightOf 98 = .ok (.aload_n 0, 1) := by decide +kernel
theorem dX7_nightOf_99 : decode cX7_nightOf 99 = .ok (.getfield 25, 3) := by decide +kernel
theorem dX7_nightOf_102 : decode cX7_nightOf 102 = .ok (.iload_n 2, 1) := by decide +kernel
theorem dX7_nightOf_103 : decode cX7_nightOf 103 = .ok (.iaload, 1) := by decide +kernel
theorem dX7_nightOf_104 : decode cX7_nightOf 104 = .ok (.if_icmp .lt 23, 3) := by decide +kernel
theorem dX7_nightOf_107 : decode cX7_nightOf 107 = .ok (.aload_n 0, 1) := by decide +kernel
theorem dX7_nightOf_108 : decode cX7_nightOf 108 = .ok (.iload_n 3, 1) := by decide +kernel
theorem dX7_nightOf_109 : decode cX7_nightOf 109 = .ok (.aload_n 0, 1) := by decide +kernel
theorem dX7_nightOf_110 : decode cX7_nightOf 110 = .ok (.getfield 19, 3) := by decide +kernel
theorem dX7_nightOf_113 : decode cX7_nightOf 113 = .ok (.iload_n 2, 1) := by decide +kernel
theorem dX7_nightOf_114 : decode cX7_nightOf 114 = .ok (.iaload, 1) := by decide +kernel
theorem dX7_nightOf_115 : decode cX7_nightOf 115 = .ok (.aload_n 0, 1) := by decide +kernel
theorem dX7_nightOf_116 : decode cX7_nightOf 116 = .ok (.getfield 25, 3) := by decide +kernel
theorem dX7_nightOf_119 : decode cX7_nightOf 119 = .ok (.iload_n 2, 1) := by decide +kernel
theorem dX7_nightOf_120 : decode cX7_nightOf 120 = .ok (.iaload, 1) := by decide +kernel
theorem dX7_nightOf_121 : decode cX7_nightOf 121 = .ok (.invokevirtual 192, 3) := by decide +kernel
theorem dX7_nightOf_124 : decode cX7_nightOf 124 = .ok (.goto 21, 3) := by decide +kernel
theorem dX7_nightOf_127 : decode cX7_nightOf 127 = .ok (.aload_n 0, 1) := by decide +kernel
theorem dX7_nightOf_128 : decode cX7_nightOf 128 = .ok (.getfield 16, 3) := by decide +kernel
theorem dX7_nightOf_131 : decode cX7_nightOf 131 = .ok (.iconst 3, 1) := by decide +kernel
theorem dX7_nightOf_132 : decode cX7_nightOf 132 = .ok (.iload_n 3, 1) := by decide +kernel
theorem dX7_nightOf_133 : decode cX7_nightOf 133 = .ok (.imul, 1) := by decide +kernel
theorem dX7_nightOf_134 : decode cX7_nightOf 134 = .ok (.iconst 2, 1) := by decide +kernel
theorem dX7_nightOf_135 : decode cX7_nightOf 135 = .ok (.iadd, 1) := by decide +kernel
theorem dX7_nightOf_136 : decode cX7_nightOf 136 = .ok (.bipush 20, 2) := by decide +kernel
theorem dX7_nightOf_138 : decode cX7_nightOf 138 = .ok (.iastore, 1) := by decide +kernel
theorem dX7_nightOf_139 : decode cX7_nightOf 139 = .ok (.iload_n 1, 1) := by decide +kernel
theorem dX7_nightOf_140 : decode cX7_nightOf 140 = .ok (.iconst 1, 1) := by decide +kernel
theorem dX7_nightOf_141 : decode cX7_nightOf 141 = .ok (.iload_n 3, 1) := by decide +kernel
theorem dX7_nightOf_142 : decode cX7_nightOf 142 = .ok (.ishl, 1) := by decide +kernel
theorem dX7_nightOf_143 : decode cX7_nightOf 143 = .ok (.ior, 1) := by decide +kernel
theorem dX7_nightOf_144 : decode cX7_nightOf 144 = .ok (.istore_n 1, 1) := by decide +kernel
theorem dX7_nightOf_145 : decode cX7_nightOf 145 = .ok (.aload_n 0, 1) := by decide +kernel
theorem dX7_nightOf_146 : decode cX7_nightOf 146 = .ok (.iload_n 2, 1) := by decide +kernel
theorem dX7_nightOf_147 : decode cX7_nightOf 147 = .ok (.invokevirtual 209, 3) := by decide +kernel
theorem dX7_nightOf_150 : decode cX7_nightOf 150 = .ok (.goto (-94), 3) := by decide +kernel
theorem dX7_nightOf_153 : decode cX7_nightOf 153 = .ok (.iconst 0, 1) := by decide +kernel
theorem dX7_nightOf_154 : decode cX7_nightOf 154 = .ok (.istore_n 3, 1) := by decide +kernel
theorem dX7_nightOf_155 : decode cX7_nightOf 155 = .ok (.iload_n 3, 1) := by decide +kernel
theorem dX7_nightOf_156 : decode cX7_nightOf 156 = .ok (.aload_n 0, 1) := by decide +kernel
theorem dX7_nightOf_157 : decode cX7_nightOf 157 = .ok (.getfield 84, 3) := by decide +kernel
theorem dX7_nightOf_160 : decode cX7_nightOf 160 = .ok (.if_icmp .ge 14, 3) := by decide +kernel
theorem dX7_nightOf_163 : decode cX7_nightOf 163 = .ok (.aload_n 0, 1) := by decide +kernel
theorem dX7_nightOf_164 : decode cX7_nightOf 164 = .ok (.iload_n 3, 1) := by decide +kernel
theorem dX7_nightOf_165 : decode cX7_nightOf 165 = .ok (.invokevirtual 221, 3) := by decide +kernel
theorem dX7_nightOf_168 : decode cX7_nightOf 168 = .ok (.iinc 3 1, 3) := by decide +kernel
theorem dX7_nightOf_171 : decode cX7_nightOf 171 = .ok (.goto (-16), 3) := by decide +kernel
theorem dX7_nightOf_174 : decode cX7_nightOf 174 = .ok (.aload_n 0, 1) := by decide +kernel
theorem dX7_nightOf_175 : decode cX7_nightOf 175 = .ok (.dup, 1) := by decide +kernel
theorem dX7_nightOf_176 : decode cX7_nightOf 176 = .ok (.getfield 94, 3) := by decide +kernel
theorem dX7_nightOf_179 : decode cX7_nightOf 179 = .ok (.iconst 1, 1) := by decide +kernel
theorem dX7_nightOf_180 : decode cX7_nightOf 180 = .ok (.iadd, 1) := by decide +kernel
theorem dX7_nightOf_181 : decode cX7_nightOf 181 = .ok (.putfield 94, 3) := by decide +kernel
theorem dX7_nightOf_184 : decode cX7_nightOf 184 = .ok (.iload_n 1, 1) := by decide +kernel
theorem dX7_nightOf_185 : decode cX7_nightOf 185 = .ok (.ireturn, 1) := by decide +kernel
theorem dX7_night_0 : decode cX7_night 0 = .ok (.aload_n 0, 1) := by decide +kernel
theorem dX7_night_1 : decode cX7_night 1 = .ok (.getfield 94, 3) := by decide +kernel
theorem dX7_night_4 : decode cX7_night 4 = .ok (.sipush 999, 3) := by decide +kernel
theorem dX7_night_7 : decode cX7_night 7 = .ok (.if_icmp .ne 8, 3) := by decide +kernel
theorem dX7_night_10 : decode cX7_night 10 = .ok (.bipush (-3), 2) := by decide +kernel
theorem dX7_night_12 : decode cX7_night 12 = .ok (.goto 7, 3) := by decide +kernel
theorem dX7_night_15 : decode cX7_night 15 = .ok (.aload_n 0, 1) := by decide +kernel
theorem dX7_night_16 : decode cX7_night 16 = .ok (.invokevirtual 224, 3) := by decide +kernel
theorem dX7_night_19 : decode cX7_night 19 = .ok (.ireturn, 1) := by decide +kernel
theorem dX7_keeps_0 : decode cX7_keeps 0 = .ok (.iconst 0, 1) := by decide +kernel
theorem dX7_keeps_1 : decode cX7_keeps 1 = .ok (.istore_n 1, 1) := by decide +kernel
theorem dX7_keeps_2 : decode cX7_keeps 2 = .ok (.iload_n 1, 1) := by decide +kernel
theorem dX7_keeps_3 : decode cX7_keeps 3 = .ok (.bipush 18, 2) := by decide +kernel
theorem dX7_keeps_5 : decode cX7_keeps 5 = .ok (.if_icmp .ge 21, 3) := by decide +kernel
theorem dX7_keeps_8 : decode cX7_keeps 8 = .ok (.aload_n 0, 1) := by decide +kernel
theorem dX7_keeps_9 : decode cX7_keeps 9 = .ok (.getfield 70, 3) := by decide +kernel
theorem dX7_keeps_12 : decode cX7_keeps 12 = .ok (.iload_n 1, 1) := by decide +kernel
theorem dX7_keeps_13 : decode cX7_keeps 13 = .ok (.aload_n 0, 1) := by decide +kernel
theorem dX7_keeps_14 : decode cX7_keeps 14 = .ok (.getfield 16, 3) := by decide +kernel
theorem dX7_keeps_17 : decode cX7_keeps 17 = .ok (.iload_n 1, 1) := by decide +kernel
theorem dX7_keeps_18 : decode cX7_keeps 18 = .ok (.iaload, 1) := by decide +kernel
theorem dX7_keeps_19 : decode cX7_keeps 19 = .ok (.iastore, 1) := by decide +kernel
theorem dX7_keeps_20 : decode cX7_keeps 20 = .ok (.iinc 1 1, 3) := by decide +kernel
theorem dX7_keeps_23 : decode cX7_keeps 23 = .ok (.goto (-21), 3) := by decide +kernel
theorem dX7_keeps_26 : decode cX7_keeps 26 = .ok (.iconst 0, 1) := by decide +kernel
theorem dX7_keeps_27 : decode cX7_keeps 27 = .ok (.istore_n 1, 1) := by decide +kernel
theorem dX7_keeps_28 : decode cX7_keeps 28 = .ok (.iload_n 1, 1) := by decide +kernel
theorem dX7_keeps_29 : decode cX7_keeps 29 = .ok (.bipush 10, 2) := by decide +kernel
theorem dX7_keeps_31 : decode cX7_keeps 31 = .ok (.if_icmp .ge 69, 3) := by decide +kernel
theorem dX7_keeps_34 : decode cX7_keeps 34 = .ok (.aload_n 0, 1) := by decide +kernel
theorem dX7_keeps_35 : decode cX7_keeps 35 = .ok (.getfield 70, 3) := by decide +kernel
theorem dX7_keeps_38 : decode cX7_keeps 38 = .ok (.bipush 18, 2) := by decide +kernel
theorem dX7_keeps_40 : decode cX7_keeps 40 = .ok (.iload_n 1, 1) := by decide +kernel
theorem dX7_keeps_41 : decode cX7_keeps 41 = .ok (.iadd, 1) := by decide +kernel
theorem dX7_keeps_42 : decode cX7_keeps 42 = .ok (.aload_n 0, 1) := by decide +kernel
theorem dX7_keeps_43 : decode cX7_keeps 43 = .ok (.getfield 19, 3) := by decide +kernel
theorem dX7_keeps_46 : decode cX7_keeps 46 = .ok (.iload_n 1, 1) := by decide +kernel
theorem dX7_keeps_47 : decode cX7_keeps 47 = .ok (.iaload, 1) := by decide +kernel
theorem dX7_keeps_48 : decode cX7_keeps 48 = .ok (.iastore, 1) := by decide +kernel
theorem dX7_keeps_49 : decode cX7_keeps 49 = .ok (.aload_n 0, 1) := by decide +kernel
theorem dX7_keeps_50 : decode cX7_keeps 50 = .ok (.getfield 70, 3) := by decide +kernel
theorem dX7_keeps_53 : decode cX7_keeps 53 = .ok (.bipush 28, 2) := by decide +kernel
theorem dX7_keeps_55 : decode cX7_keeps 55 = .ok (.iload_n 1, 1) := by decide +kernel
theorem dX7_keeps_56 : decode cX7_keeps 56 = .ok (.iadd, 1) := by decide +kernel
theorem dX7_keeps_57 : decode cX7_keeps 57 = .ok (.aload_n 0, 1) := by decide +kernel
theorem dX7_keeps_58 : decode cX7_keeps 58 = .ok (.getfield 22, 3) := by decide +kernel
theorem dX7_keeps_61 : decode cX7_keeps 61 = .ok (.iload_n 1, 1) := by decide +kernel
theorem dX7_keeps_62 : decode cX7_keeps 62 = .ok (.iaload, 1) := by decide +kernel
theorem dX7_keeps_63 : decode cX7_keeps 63 = .ok (.iastore, 1) := by decide +kernel
theorem dX7_keeps_64 : decode cX7_keeps 64 = .ok (.aload_n 0, 1) := by decide +kernel
theorem dX7_keeps_65 : decode cX7_keeps 65 = .ok (.getfield 70, 3) := by decide +kernel
theorem dX7_keeps_68 : decode cX7_keeps 68 = .ok (.bipush 38, 2) := by decide +kernel
theorem dX7_keeps_70 : decode cX7_keeps 70 = .ok (.iload_n 1, 1) := by decide +kernel
theorem dX7_keeps_71 : decode cX7_keeps 71 = .ok (.iadd, 1) := by decide +kernel
theorem dX7_keeps_72 : decode cX7_keeps 72 = .ok (.aload_n 0, 1) := by decide +kernel
theorem dX7_keeps_73 : decode cX7_keeps 73 = .ok (.getfield 25, 3) := by decide +kernel
theorem dX7_keeps_76 : decode cX7_keeps 76 = .ok (.iload_n 1, 1) := by decide +kernel
theorem dX7_keeps_77 : decode cX7_keeps 77 = .ok (.iaload, 1) := by decide +kernel
theorem dX7_keeps_78 : decode cX7_keeps 78 = .ok (.iastore, 1) := by decide +kernel
theorem dX7_keeps_79 : decode cX7_keeps 79 = .ok (.aload_n 0, 1) := by decide +kernel
theorem dX7_keeps_80 : decode cX7_keeps 80 = .ok (.getfield 70, 3) := by decide +kernel
theorem dX7_keeps_83 : decode cX7_keeps 83 = .ok (.bipush 48, 2) := by decide +kernel
theorem dX7_keeps_85 : decode cX7_keeps 85 = .ok (.iload_n 1, 1) := by decide +kernel
theorem dX7_keeps_86 : decode cX7_keeps 86 = .ok (.iadd, 1) := by decide +kernel
theorem dX7_keeps_87 : decode cX7_keeps 87 = .ok (.aload_n 0, 1) := by decide +kernel
theorem dX7_keeps_88 : decode cX7_keeps 88 = .ok (.getfield 28, 3) := by decide +kernel
theorem dX7_keeps_91 : decode cX7_keeps 91 = .ok (.iload_n 1, 1) := by decide +kernel
theorem dX7_keeps_92 : decode cX7_keeps 92 = .ok (.iaload, 1) := by decide +kernel
theorem dX7_keeps_93 : decode cX7_keeps 93 = .ok (.iastore, 1) := by decide +kernel
theorem dX7_keeps_94 : decode cX7_keeps 94 = .ok (.iinc 1 1, 3) := by decide +kernel
theorem dX7_keeps_97 : decode cX7_keeps 97 = .ok (.goto (-69), 3) := by decide +kernel
theorem dX7_keeps_100 : decode cX7_keeps 100 = .ok (.aload_n 0, 1) := by decide +kernel
theorem dX7_keeps_101 : decode cX7_keeps 101 = .ok (.getfield 70, 3) := by decide +kernel
theorem dX7_keeps_104 : decode cX7_keeps 104 = .ok (.bipush 58, 2) := by decide +kernel
theorem dX7_keeps_106 : decode cX7_keeps 106 = .ok (.aload_n 0, 1) := by decide +kernel
theorem dX7_keeps_107 : decode cX7_keeps 107 = .ok (.getfield 91, 3) := by decide +kernel
theorem dX7_keeps_110 : decode cX7_keeps 110 = .ok (.iastore, 1) := by decide +kernel
theorem dX7_keeps_111 : decode cX7_keeps 111 = .ok (.aload_n 0, 1) := by decide +kernel
theorem dX7_keeps_112 : decode cX7_keeps 112 = .ok (.getfield 70, 3) := by decide +kernel
theorem dX7_keeps_115 : decode cX7_keeps 115 = .ok (.bipush 59, 2) := by decide +kernel
theorem dX7_keeps_117 : decode cX7_keeps 117 = .ok (.aload_n 0, 1) := by decide +kernel
theorem dX7_keeps_118 : decode cX7_keeps 118 = .ok (.getfield 94, 3) := by decide +kernel
theorem dX7_keeps_121 : decode cX7_keeps 121 = .ok (.iastore, 1) := by decide +kernel
theorem dX7_keeps_122 : decode cX7_keeps 122 = .ok (.return_, 1) := by decide +kernel
theorem dX7_lays_0 : decode cX7_lays 0 = .ok (.iconst 0, 1) := by decide +kernel
theorem dX7_lays_1 : decode cX7_lays 1 = .ok (.istore_n 1, 1) := by decide +kernel
theorem dX7_lays_2 : decode cX7_lays 2 = .ok (.iload_n 1, 1) := by decide +kernel
theorem dX7_lays_3 : decode cX7_lays 3 = .ok (.bipush 18, 2) := by decide +kernel
theorem dX7_lays_5 : decode cX7_lays 5 = .ok (.if_icmp .ge 21, 3) := by decide +kernel
theorem dX7_lays_8 : decode cX7_lays 8 = .ok (.aload_n 0, 1) := by decide +kernel
theorem dX7_lays_9 : decode cX7_lays 9 = .ok (.getfield 16, 3) := by decide +kernel
theorem dX7_lays_12 : decode cX7_lays 12 = .ok (.iload_n 1, 1) := by decide +kernel
theorem dX7_lays_13 : decode cX7_lays 13 = .ok (.aload_n 0, 1) := by decide +kernel
theorem dX7_lays_14 : decode cX7_lays 14 = .ok (.getfield 70, 3) := by decide +kernel
theorem dX7_lays_17 : decode cX7_lays 17 = .ok (.iload_n 1, 1) := by decide +kernel
theorem dX7_lays_18 : decode cX7_lays 18 = .ok (.iaload, 1) := by decide +kernel
theorem dX7_lays_19 : decode cX7_lays 19 = .ok (.iastore, 1) := by decide +kernel
theorem dX7_lays_20 : decode cX7_lays 20 = .ok (.iinc 1 1, 3) := by decide +kernel
theorem dX7_lays_23 : decode cX7_lays 23 = .ok (.goto (-21), 3) := by decide +kernel
theorem dX7_lays_26 : decode cX7_lays 26 = .ok (.iconst 0, 1) := by decide +kernel
theorem dX7_lays_27 : decode cX7_lays 27 = .ok (.istore_n 1, 1) := by decide +kernel
theorem dX7_lays_28 : decode cX7_lays 28 = .ok (.iload_n 1, 1) := by decide +kernel
theorem dX7_lays_29 : decode cX7_lays 29 = .ok (.bipush 10, 2) := by decide +kernel
theorem dX7_lays_31 : decode cX7_lays 31 = .ok (.if_icmp .ge 69, 3) := by decide +kernel
theorem dX7_lays_34 : decode cX7_lays 34 = .ok (.aload_n 0, 1) := by decide +kernel
theorem dX7_lays_35 : decode cX7_lays 35 = .ok (.getfield 19, 3) := by decide +kernel
theorem dX7_lays_38 : decode cX7_lays 38 = .ok (.iload_n 1, 1) := by decide +kernel
theorem dX7_lays_39 : decode cX7_lays 39 = .ok (.aload_n 0, 1) := by decide +kernel
theorem dX7_lays_40 : decode cX7_lays 40 = .ok (.getfield 70, 3) := by decide +kernel
theorem dX7_lays_43 : decode cX7_lays 43 = .ok (.bipush 18, 2) := by decide +kernel
theorem dX7_lays_45 : decode cX7_lays 45 = .ok (.iload_n 1, 1) := by decide +kernel
theorem dX7_lays_46 : decode cX7_lays 46 = .ok (.iadd, 1) := by decide +kernel
theorem dX7_lays_47 : decode cX7_lays 47 = .ok (.iaload, 1) := by decide +kernel
theorem dX7_lays_48 : decode cX7_lays 48 = .ok (.iastore, 1) := by decide +kernel
theorem dX7_lays_49 : decode cX7_lays 49 = .ok (.aload_n 0, 1) := by decide +kernel
theorem dX7_lays_50 : decode cX7_lays 50 = .ok (.getfield 22, 3) := by decide +kernel
theorem dX7_lays_53 : decode cX7_lays 53 = .ok (.iload_n 1, 1) := by decide +kernel
theorem dX7_lays_54 : decode cX7_lays 54 = .ok (.aload_n 0, 1) := by decide +kernel
theorem dX7_lays_55 : decode cX7_lays 55 = .ok (.getfield 70, 3) := by decide +kernel
theorem dX7_lays_58 : decode cX7_lays 58 = .ok (.bipush 28, 2) := by decide +kernel
theorem dX7_lays_60 : decode cX7_lays 60 = .ok (.iload_n 1, 1) := by decide +kernel
theorem dX7_lays_61 : decode cX7_lays 61 = .ok (.iadd, 1) := by decide +kernel
theorem dX7_lays_62 : decode cX7_lays 62 = .ok (.iaload, 1) := by decide +kernel
theorem dX7_lays_63 : decode cX7_lays 63 = .ok (.iastore, 1) := by decide +kernel
theorem dX7_lays_64 : decode cX7_lays 64 = .ok (.aload_n 0, 1) := by decide +kernel
theorem dX7_lays_65 : decode cX7_lays 65 = .ok (.getfield 25, 3) := by decide +kernel
theorem dX7_lays_68 : decode cX7_lays 68 = .ok (.iload_n 1, 1) := by decide +kernel
theorem dX7_lays_69 : decode cX7_lays 69 = .ok (.aload_n 0, 1) := by decide +kernel
theorem dX7_lays_70 : decode cX7_lays 70 = .ok (.getfield 70, 3) := by decide +kernel
theorem dX7_lays_73 : decode cX7_lays 73 = .ok (.bipush 38, 2) := by decide +kernel
theorem dX7_lays_75 : decode cX7_lays 75 = .ok (.iload_n 1, 1) := by decide +kernel
theorem dX7_lays_76 : decode cX7_lays 76 = .ok (.iadd, 1) := by decide +kernel
theorem dX7_lays_77 : decode cX7_lays 77 = .ok (.iaload, 1) := by decide +kernel
theorem dX7_lays_78 : decode cX7_lays 78 = .ok (.iastore, 1) := by decide +kernel
theorem dX7_lays_79 : decode cX7_lays 79 = .ok (.aload_n 0, 1) := by decide +kernel
theorem dX7_lays_80 : decode cX7_lays 80 = .ok (.getfield 28, 3) := by decide +kernel
theorem dX7_lays_83 : decode cX7_lays 83 = .ok (.iload_n 1, 1) := by decide +kernel
theorem dX7_lays_84 : decode cX7_lays 84 = .ok (.aload_n 0, 1) := by decide +kernel
theorem dX7_lays_85 : decode cX7_lays 85 = .ok (.getfield 70, 3) := by decide +kernel
theorem dX7_lays_88 : decode cX7_lays 88 = .ok (.bipush 48, 2) := by decide +kernel
theorem dX7_lays_90 : decode cX7_lays 90 = .ok (.iload_n 1, 1) := by decide +kernel
theorem dX7_lays_91 : decode cX7_lays 91 = .ok (.iadd, 1) := by decide +kernel
theorem dX7_lays_92 : decode cX7_lays 92 = .ok (.iaload, 1) := by decide +kernel
theorem dX7_lays_93 : decode cX7_lays 93 = .ok (.iastore, 1) := by decide +kernel
theorem dX7_lays_94 : decode cX7_lays 94 = .ok (.iinc 1 1, 3) := by decide +kernel
theorem dX7_lays_97 : decode cX7_lays 97 = .ok (.goto (-69), 3) := by decide +kernel
theorem dX7_lays_100 : decode cX7_lays 100 = .ok (.aload_n 0, 1) := by decide +kernel
theorem dX7_lays_101 : decode cX7_lays 101 = .ok (.aload_n 0, 1) := by decide +kernel
theorem dX7_lays_102 : decode cX7_lays 102 = .ok (.getfield 70, 3) := by decide +kernel
theorem dX7_lays_105 : decode cX7_lays 105 = .ok (.bipush 58, 2) := by decide +kernel
theorem dX7_lays_107 : decode cX7_lays 107 = .ok (.iaload, 1) := by decide +kernel
theorem dX7_lays_108 : decode cX7_lays 108 = .ok (.putfield 91, 3) := by decide +kernel
theorem dX7_lays_111 : decode cX7_lays 111 = .ok (.aload_n 0, 1) := by decide +kernel
theorem dX7_lays_112 : decode cX7_lays 112 = .ok (.aload_n 0, 1) := by decide +kernel
theorem dX7_lays_113 : decode cX7_lays 113 = .ok (.getfield 70, 3) := by decide +kernel
theorem dX7_lays_116 : decode cX7_lays 116 = .ok (.bipush 59, 2) := by decide +kernel
theorem dX7_lays_118 : decode cX7_lays 118 = .ok (.iaload, 1) := by decide +kernel
theorem dX7_lays_119 : decode cX7_lays 119 = .ok (.putfield 94, 3) := by decide +kernel
theorem dX7_lays_122 : decode cX7_lays 122 = .ok (.return_, 1) := by decide +kernel
theorem dX7_goes_0 : decode cX7_goes 0 = .ok (.iconst 0, 1) := by decide +kernel
theorem dX7_goes_1 : decode cX7_goes 1 = .ok (.istore_n 2, 1) := by decide +kernel
theorem dX7_goes_2 : decode cX7_goes 2 = .ok (.iconst 0, 1) := by decide +kernel
theorem dX7_goes_3 : decode cX7_goes 3 = .ok (.istore_n 3, 1) := by decide +kernel
theorem dX7_goes_4 : decode cX7_goes 4 = .ok (.iload_n 3, 1) := by decide +kernel
theorem dX7_goes_5 : decode cX7_goes 5 = .ok (.iload_n 1, 1) := by decide +kernel
theorem dX7_goes_6 : decode cX7_goes 6 = .ok (.if_icmp .ge 16, 3) := by decide +kernel
theorem dX7_goes_9 : decode cX7_goes 9 = .ok (.iload_n 2, 1) := by decide +kernel
theorem dX7_goes_10 : decode cX7_goes 10 = .ok (.aload_n 0, 1) := by decide +kernel
theorem dX7_goes_11 : decode cX7_goes 11 = .ok (.invokevirtual 224, 3) := by decide +kernel
theorem dX7_goes_14 : decode cX7_goes 14 = .ok (.ior, 1) := by decide +kernel
theorem dX7_goes_15 : decode cX7_goes 15 = .ok (.istore_n 2, 1) := by decide +kernel
theorem dX7_goes_16 : decode cX7_goes 16 = .ok (.iinc 3 1, 3) := by decide +kernel
theorem dX7_goes_19 : decode cX7_goes 19 = .ok (.goto (-15), 3) := by decide +kernel
theorem dX7_goes_22 : decode cX7_goes 22 = .ok (.iload_n 2, 1) := by decide +kernel
theorem dX7_goes_23 : decode cX7_goes 23 = .ok (.ireturn, 1) := by decide +kernel
theorem dX7_ones_0 : decode cX7_ones 0 = .ok (.iconst 0, 1) := by decide +kernel
theorem dX7_ones_1 : decode cX7_ones 1 = .ok (.istore_n 1, 1) := by decide +kernel
theorem dX7_ones_2 : decode cX7_ones 2 = .ok (.iconst 0, 1) := by decide +kernel
theorem dX7_ones_3 : decode cX7_ones 3 = .ok (.istore_n 2, 1) := by decide +kernel
theorem dX7_ones_4 : decode cX7_ones 4 = .ok (.iload_n 2, 1) := by decide +kernel
theorem dX7_ones_5 : decode cX7_ones 5 = .ok (.bipush 6, 2) := by decide +kernel
theorem dX7_ones_7 : decode cX7_ones 7 = .ok (.if_icmp .ge 17, 3) := by decide +kernel
theorem dX7_ones_10 : decode cX7_ones 10 = .ok (.iload_n 1, 1) := by decide +kernel
theorem dX7_ones_11 : decode cX7_ones 11 = .ok (.iload_n 0, 1) := by decide +kernel
theorem dX7_ones_12 : decode cX7_ones 12 = .ok (.iload_n 2, 1) := by decide +kernel
theorem dX7_ones_13 : decode cX7_ones 13 = .ok (.ishr, 1) := by decide +kernel
theorem dX7_ones_14 : decode cX7_ones 14 = .ok (.iconst 1, 1) := by decide +kernel
theorem dX7_ones_15 : decode cX7_ones 15 = .ok (.iand, 1) := by decide +kernel
theorem dX7_ones_16 : decode cX7_ones 16 = .ok (.iadd, 1) := by decide +kernel
theorem dX7_ones_17 : decode cX7_ones 17 = .ok (.istore_n 1, 1) := by decide +kernel
theorem dX7_ones_18 : decode cX7_ones 18 = .ok (.iinc 2 1, 3) := by decide +kernel
theorem dX7_ones_21 : decode cX7_ones 21 = .ok (.goto (-17), 3) := by decide +kernel
theorem dX7_ones_24 : decode cX7_ones 24 = .ok (.iload_n 1, 1) := by decide +kernel
theorem dX7_ones_25 : decode cX7_ones 25 = .ok (.ireturn, 1) := by decide +kernel
theorem dX7_run_0 : decode cX7_run 0 = .ok (.iload_n 1, 1) := by decide +kernel
theorem dX7_run_1 : decode cX7_run 1 = .ok (.iconst 0, 1) := by decide +kernel
theorem dX7_run_2 : decode cX7_run 2 = .ok (.bipush 40, 2) := by decide +kernel
theorem dX7_run_4 : decode cX7_run 4 = .ok (.invokestatic 87, 3) := by decide +kernel
theorem dX7_run_7 : decode cX7_run 7 = .ok (.ifCond .eq 28, 3) := by decide +kernel
theorem dX7_run_10 : decode cX7_run 10 = .ok (.iload_n 2, 1) := by decide +kernel
theorem dX7_run_11 : decode cX7_run 11 = .ok (.iconst 0, 1) := by decide +kernel
theorem dX7_run_12 : decode cX7_run 12 = .ok (.iconst 2, 1) := by decide +kernel
theorem dX7_run_13 : decode cX7_run 13 = .ok (.invokestatic 87, 3) := by decide +kernel
theorem dX7_run_16 : decode cX7_run 16 = .ok (.ifCond .ne 22, 3) := by decide +kernel
theorem dX7_run_19 : decode cX7_run 19 = .ok (.iload_n 2, 1) := by decide +kernel
theorem dX7_run_20 : decode cX7_run 20 = .ok (.bipush 10, 2) := by decide +kernel
theorem dX7_run_22 : decode cX7_run 22 = .ok (.bipush 9, 2) := by decide +kernel
theorem dX7_run_24 : decode cX7_run 24 = .ok (.aload_n 0, 1) := by decide +kernel
theorem dX7_run_25 : decode cX7_run 25 = .ok (.getfield 84, 3) := by decide +kernel
theorem dX7_run_28 : decode cX7_run 28 = .ok (.iadd, 1) := by decide +kernel
theorem dX7_run_29 : decode cX7_run 29 = .ok (.invokestatic 87, 3) := by decide +kernel
theorem dX7_run_32 : decode cX7_run 32 = .ok (.ifCond .ne 6, 3) := by decide +kernel
theorem dX7_run_35 : decode cX7_run 35 = .ok (.bipush (-2), 2) := by decide +kernel
theorem dX7_run_37 : decode cX7_run 37 = .ok (.ireturn, 1) := by decide +kernel
theorem dX7_run_38 : decode cX7_run 38 = .ok (.aload_n 0, 1) := by decide +kernel
theorem dX7_run_39 : decode cX7_run 39 = .ok (.invokevirtual 227, 3) := by decide +kernel
theorem dX7_run_42 : decode cX7_run 42 = .ok (.aload_n 0, 1) := by decide +kernel
theorem dX7_run_43 : decode cX7_run 43 = .ok (.iload_n 1, 1) := by decide +kernel
theorem dX7_run_44 : decode cX7_run 44 = .ok (.invokevirtual 230, 3) := by decide +kernel
theorem dX7_run_47 : decode cX7_run 47 = .ok (.istore_n 3, 1) := by decide +kernel
theorem dX7_run_48 : decode cX7_run 48 = .ok (.iload_n 2, 1) := by decide +kernel
theorem dX7_run_49 : decode cX7_run 49 = .ok (.ifCond .ne 10, 3) := by decide +kernel
theorem dX7_run_52 : decode cX7_run 52 = .ok (.aload_n 0, 1) := by decide +kernel
theorem dX7_run_53 : decode cX7_run 53 = .ok (.invokevirtual 97, 3) := by decide +kernel
theorem dX7_run_56 : decode cX7_run 56 = .ok (.goto 40, 3) := by decide +kernel
theorem dX7_run_59 : decode cX7_run 59 = .ok (.iload_n 2, 1) := by decide +kernel
theorem dX7_run_60 : decode cX7_run 60 = .ok (.iconst 1, 1) := by decide +kernel
theorem dX7_run_61 : decode cX7_run 61 = .ok (.if_icmp .ne 7, 3) := by decide +kernel
theorem dX7_run_64 : decode cX7_run 64 = .ok (.iload_n 3, 1) := by decide +kernel
theorem dX7_run_65 : decode cX7_run 65 = .ok (.goto 31, 3) := by decide +kernel
theorem dX7_run_68 : decode cX7_run 68 = .ok (.iload_n 2, 1) := by decide +kernel
theorem dX7_run_69 : decode cX7_run 69 = .ok (.iconst 2, 1) := by decide +kernel
theorem dX7_run_70 : decode cX7_run 70 = .ok (.if_icmp .ne 10, 3) := by decide +kernel
theorem dX7_run_73 : decode cX7_run 73 = .ok (.aload_n 0, 1) := by decide +kernel
theorem dX7_run_74 : decode cX7_run 74 = .ok (.getfield 91, 3) := by decide +kernel
theorem dX7_run_77 : decode cX7_run 77 = .ok (.goto 19, 3) := by decide +kernel
theorem dX7_run_80 : decode cX7_run 80 = .ok (.aload_n 0, 1) := by decide +kernel
theorem dX7_run_81 : decode cX7_run 81 = .ok (.getfield 16, 3) := by decide +kernel
theorem dX7_run_84 : decode cX7_run 84 = .ok (.iconst 3, 1) := by decide +kernel
theorem dX7_run_85 : decode cX7_run 85 = .ok (.iload_n 2, 1) := by decide +kernel
theorem dX7_run_86 : decode cX7_run 86 = .ok (.bipush 10, 2) := by decide +kernel
theorem dX7_run_88 : decode cX7_run 88 = .ok (.isub, 1) := by decide +kernel
theorem dX7_run_89 : decode cX7_run 89 = .ok (.iconst 0, 1) := by decide +kernel
theorem dX7_run_90 : decode cX7_run 90 = .ok (.iconst 5, 1) := by decide +kernel
theorem dX7_run_91 : decode cX7_run 91 = .ok (.invokestatic 176, 3) := by decide +kernel
theorem dX7_run_94 : decode cX7_run 94 = .ok (.imul, 1) := by decide +kernel
theorem dX7_run_95 : decode cX7_run 95 = .ok (.iaload, 1) := by decide +kernel
theorem dX7_run_96 : decode cX7_run 96 = .ok (.istore 4, 2) := by decide +kernel
theorem dX7_run_98 : decode cX7_run 98 = .ok (.aload_n 0, 1) := by decide +kernel
theorem dX7_run_99 : decode cX7_run 99 = .ok (.invokevirtual 233, 3) := by decide +kernel
theorem dX7_run_102 : decode cX7_run 102 = .ok (.iload 4, 2) := by decide +kernel
theorem dX7_run_104 : decode cX7_run 104 = .ok (.ireturn, 1) := by decide +kernel
theorem dX7_lasts_0 : decode cX7_lasts 0 = .ok (.aload_n 0, 1) := by decide +kernel
theorem dX7_lasts_1 : decode cX7_lasts 1 = .ok (.iload_n 1, 1) := by decide +kernel
theorem dX7_lasts_2 : decode cX7_lasts 2 = .ok (.invokevirtual 179, 3) := by decide +kernel
theorem dX7_lasts_5 : decode cX7_lasts 5 = .ok (.ifCond .ne 6, 3) := by decide +kernel
theorem dX7_lasts_8 : decode cX7_lasts 8 = .ok (.bipush (-5), 2) := by decide +kernel
theorem dX7_lasts_10 : decode cX7_lasts 10 = .ok (.ireturn, 1) := by decide +kernel
theorem dX7_lasts_11 : decode cX7_lasts 11 = .ok (.iload_n 2, 1) := by decide +kernel
theorem dX7_lasts_12 : decode cX7_lasts 12 = .ok (.iconst 0, 1) := by decide +kernel
theorem dX7_lasts_13 : decode cX7_lasts 13 = .ok (.iconst 1, 1) := by decide +kernel
theorem dX7_lasts_14 : decode cX7_lasts 14 = .ok (.invokestatic 87, 3) := by decide +kernel
theorem dX7_lasts_17 : decode cX7_lasts 17 = .ok (.ifCond .ne 6, 3) := by decide +kernel
theorem dX7_lasts_20 : decode cX7_lasts 20 = .ok (.bipush (-7), 2) := by decide +kernel
theorem dX7_lasts_22 : decode cX7_lasts 22 = .ok (.ireturn, 1) := by decide +kernel
theorem dX7_lasts_23 : decode cX7_lasts 23 = .ok (.iconst (-1), 1) := by decide +kernel
theorem dX7_lasts_24 : decode cX7_lasts 24 = .ok (.istore_n 3, 1) := by decide +kernel
theorem dX7_lasts_25 : decode cX7_lasts 25 = .ok (.aload_n 0, 1) := by decide +kernel
theorem dX7_lasts_26 : decode cX7_lasts 26 = .ok (.invokevirtual 227, 3) := by decide +kernel
theorem dX7_lasts_29 : decode cX7_lasts 29 = .ok (.iload_n 2, 1) := by decide +kernel
theorem dX7_lasts_30 : decode cX7_lasts 30 = .ok (.iconst 1, 1) := by decide +kernel
theorem dX7_lasts_31 : decode cX7_lasts 31 = .ok (.if_icmp .ne 16, 3) := by decide +kernel
theorem dX7_lasts_34 : decode cX7_lasts 34 = .ok (.aload_n 0, 1) := by decide +kernel
theorem dX7_lasts_35 : decode cX7_lasts 35 = .ok (.getfield 16, 3) := by decide +kernel
theorem dX7_lasts_38 : decode cX7_lasts 38 = .ok (.iconst 3, 1) := by decide +kernel
theorem dX7_lasts_39 : decode cX7_lasts 39 = .ok (.iload_n 1, 1) := by decide +kernel
theorem dX7_lasts_40 : decode cX7_lasts 40 = .ok (.imul, 1) := by decide +kernel
theorem dX7_lasts_41 : decode cX7_lasts 41 = .ok (.iaload, 1) := by decide +kernel
theorem dX7_lasts_42 : decode cX7_lasts 42 = .ok (.ifCond .ne 5, 3) := by decide +kernel
theorem dX7_lasts_45 : decode cX7_lasts 45 = .ok (.iconst 0, 1) := by decide +kernel
theorem dX7_lasts_46 : decode cX7_lasts 46 = .ok (.istore_n 3, 1) := by decide +kernel
theorem dX7_lasts_47 : decode cX7_lasts 47 = .ok (.iconst 1, 1) := by decide +kernel
theorem dX7_lasts_48 : decode cX7_lasts 48 = .ok (.istore 4, 2) := by decide +kernel
theorem dX7_lasts_50 : decode cX7_lasts 50 = .ok (.iload 4, 2) := by decide +kernel
theorem dX7_lasts_52 : decode cX7_lasts 52 = .ok (.bipush 40, 2) := by decide +kernel
theorem dX7_lasts_54 : decode cX7_lasts 54 = .ok (.if_icmp .gt 72, 3) := by decide +kernel
theorem dX7_lasts_57 : decode cX7_lasts 57 = .ok (.iload_n 3, 1) := by decide +kernel
theorem dX7_lasts_58 : decode cX7_lasts 58 = .ok (.iconst (-1), 1) := by decide +kernel
theorem dX7_lasts_59 : decode cX7_lasts 59 = .ok (.if_icmp .ne 67, 3) := by decide +kernel
theorem dX7_lasts_62 : decode cX7_lasts 62 = .ok (.aload_n 0, 1) := by decide +kernel
theorem dX7_lasts_63 : decode cX7_lasts 63 = .ok (.invokevirtual 224, 3) := by decide +kernel
theorem dX7_lasts_66 : decode cX7_lasts 66 = .ok (.istore 5, 2) := by decide +kernel
theorem dX7_lasts_68 : decode cX7_lasts 68 = .ok (.iload_n 2, 1) := by decide +kernel
theorem dX7_lasts_69 : decode cX7_lasts 69 = .ok (.ifCond .ne 21, 3) := by decide +kernel
theorem dX7_lasts_72 : decode cX7_lasts 72 = .ok (.iload 5, 2) := by decide +kernel
theorem dX7_lasts_74 : decode cX7_lasts 74 = .ok (.iload_n 1, 1) := by decide +kernel
theorem dX7_lasts_75 : decode cX7_lasts 75 = .ok (.ishr, 1) := by decide +kernel
theorem dX7_lasts_76 : decode cX7_lasts 76 = .ok (.iconst 1, 1) := by decide +kernel
theorem dX7_lasts_77 : decode cX7_lasts 77 = .ok (.iand, 1) := by decide +kernel
theorem dX7_lasts_78 : decode cX7_lasts 78 = .ok (.iconst 1, 1) := by decide +kernel
theorem dX7_lasts_79 : decode cX7_lasts 79 = .ok (.if_icmp .ne 7, 3) := by decide +kernel
theorem dX7_lasts_82 : decode cX7_lasts 82 = .ok (.iconst 1, 1) := by decide +kernel
theorem dX7_lasts_83 : decode cX7_lasts 83 = .ok (.goto 23, 3) := by decide +kernel
theorem dX7_lasts_86 : decode cX7_lasts 86 = .ok (.iconst 0, 1) := by decide +kernel
theorem dX7_lasts_87 : decode cX7_lasts 87 = .ok (.goto 19, 3) := by decide +kernel
theorem dX7_lasts_90 : decode cX7_lasts 90 = .ok (.aload_n 0, 1) := by decide +kernel
theorem dX7_lasts_91 : decode cX7_lasts 91 = .ok (.getfield 16, 3) := by decide +kernel
theorem dX7_lasts_94 : decode cX7_lasts 94 = .ok (.iconst 3, 1) := by decide +kernel
theorem dX7_lasts_95 : decode cX7_lasts 95 = .ok (.iload_n 1, 1) := by decide +kernel
theorem dX7_lasts_96 : decode cX7_lasts 96 = .ok (.imul, 1) := by decide +kernel
theorem dX7_lasts_97 : decode cX7_lasts 97 = .ok (.iaload, 1) := by decide +kernel
theorem dX7_lasts_98 : decode cX7_lasts 98 = .ok (.ifCond .ne 7, 3) := by decide +kernel
theorem dX7_lasts_101 : decode cX7_lasts 101 = .ok (.iconst 1, 1) := by decide +kernel
theorem dX7_lasts_102 : decode cX7_lasts 102 = .ok (.goto 4, 3) := by decide +kernel
theorem dX7_lasts_105 : decode cX7_lasts 105 = .ok (.iconst 0, 1) := by decide +kernel
theorem dX7_lasts_106 : decode cX7_lasts 106 = .ok (.istore 6, 2) := by decide +kernel
theorem dX7_lasts_108 : decode cX7_lasts 108 = .ok (.iload 6, 2) := by decide +kernel
theorem dX7_lasts_110 : decode cX7_lasts 110 = .ok (.ifCond .eq 8, 3) := by decide +kernel
theorem dX7_lasts_113 : decode cX7_lasts 113 = .ok (.iload 4, 2) := by decide +kernel
theorem dX7_lasts_115 : decode cX7_lasts 115 = .ok (.goto 4, 3) := by decide +kernel
theorem dX7_lasts_118 : decode cX7_lasts 118 = .ok (.iconst (-1), 1) := by decide +kernel
theorem dX7_lasts_119 : decode cX7_lasts 119 = .ok (.istore_n 3, 1) := by decide +kernel
theorem dX7_lasts_120 : decode cX7_lasts 120 = .ok (.iinc 4 1, 3) := by decide +kernel
theorem dX7_lasts_123 : decode cX7_lasts 123 = .ok (.goto (-73), 3) := by decide +kernel
theorem dX7_lasts_126 : decode cX7_lasts 126 = .ok (.aload_n 0, 1) := by decide +kernel
theorem dX7_lasts_127 : decode cX7_lasts 127 = .ok (.invokevirtual 233, 3) := by decide +kernel
theorem dX7_lasts_130 : decode cX7_lasts 130 = .ok (.iload_n 3, 1) := by decide +kernel
theorem dX7_lasts_131 : decode cX7_lasts 131 = .ok (.ireturn, 1) := by decide +kernel
theorem dX7_net_0 : decode cX7_net 0 = .ok (.aload_n 0, 1) := by decide +kernel
theorem dX7_net_1 : decode cX7_net 1 = .ok (.iload_n 1, 1) := by decide +kernel
theorem dX7_net_2 : decode cX7_net 2 = .ok (.invokevirtual 179, 3) := by decide +kernel
theorem dX7_net_5 : decode cX7_net 5 = .ok (.ifCond .eq 17, 3) := by decide +kernel
theorem dX7_net_8 : decode cX7_net 8 = .ok (.aload_n 0, 1) := by decide +kernel
theorem dX7_net_9 : decode cX7_net 9 = .ok (.iload_n 1, 1) := by decide +kernel
theorem dX7_net_10 : decode cX7_net 10 = .ok (.invokevirtual 186, 3) := by decide +kernel
theorem dX7_net_13 : decode cX7_net 13 = .ok (.aload_n 0, 1) := by decide +kernel
theorem dX7_net_14 : decode cX7_net 14 = .ok (.iload_n 1, 1) := by decide +kernel
theorem dX7_net_15 : decode cX7_net 15 = .ok (.invokevirtual 170, 3) := by decide +kernel
theorem dX7_net_18 : decode cX7_net 18 = .ok (.isub, 1) := by decide +kernel
theorem dX7_net_19 : decode cX7_net 19 = .ok (.goto 5, 3) := by decide +kernel
theorem dX7_net_22 : decode cX7_net 22 = .ok (.ldc 236, 2) := by decide +kernel
theorem dX7_net_24 : decode cX7_net 24 = .ok (.ireturn, 1) := by decide +kernel
theorem dX7_settle_0 : decode cX7_settle 0 = .ok (.iload_n 1, 1) := by decide +kernel
theorem dX7_settle_1 : decode cX7_settle 1 = .ok (.iconst 0, 1) := by decide +kernel
theorem dX7_settle_2 : decode cX7_settle 2 = .ok (.iconst 1, 1) := by decide +kernel
theorem dX7_settle_3 : decode cX7_settle 3 = .ok (.invokestatic 87, 3) := by decide +kernel
theorem dX7_settle_6 : decode cX7_settle 6 = .ok (.ifCond .ne 6, 3) := by decide +kernel
theorem dX7_settle_9 : decode cX7_settle 9 = .ok (.bipush (-2), 2) := by decide +kernel
theorem dX7_settle_11 : decode cX7_settle 11 = .ok (.ireturn, 1) := by decide +kernel
theorem dX7_settle_12 : decode cX7_settle 12 = .ok (.iconst 0, 1) := by decide +kernel
theorem dX7_settle_13 : decode cX7_settle 13 = .ok (.istore_n 2, 1) := by decide +kernel
theorem dX7_settle_14 : decode cX7_settle 14 = .ok (.iload_n 2, 1) := by decide +kernel
theorem dX7_settle_15 : decode cX7_settle 15 = .ok (.aload_n 0, 1) := by decide +kernel
theorem dX7_settle_16 : decode cX7_settle 16 = .ok (.getfield 84, 3) := by decide +kernel
theorem dX7_settle_19 : decode cX7_settle 19 = .ok (.if_icmp .ge 26, 3) := by decide +kernel
theorem dX7_settle_22 : decode cX7_settle 22 = .ok (.aload_n 0, 1) := by decide +kernel
theorem dX7_settle_23 : decode cX7_settle 23 = .ok (.getfield 73, 3) := by decide +kernel
theorem dX7_settle_26 : decode cX7_settle 26 = .ok (.iload_n 2, 1) := by decide +kernel
theorem dX7_settle_27 : decode cX7_settle 27 = .ok (.aload_n 0, 1) := by decide +kernel
theorem dX7_settle_28 : decode cX7_settle 28 = .ok (.iload_n 2, 1) := by decide +kernel
theorem dX7_settle_29 : decode cX7_settle 29 = .ok (.invokevirtual 186, 3) := by decide +kernel
theorem dX7_settle_32 : decode cX7_settle 32 = .ok (.aload_n 0, 1) := by decide +kernel
theorem dX7_settle_33 : decode cX7_settle 33 = .ok (.iload_n 2, 1) := by decide +kernel
theorem dX7_settle_34 : decode cX7_settle 34 = .ok (.invokevirtual 170, 3) := by decide +kernel
theorem dX7_settle_37 : decode cX7_settle 37 = .ok (.isub, 1) := by decide +kernel
theorem dX7_settle_38 : decode cX7_settle 38 = .ok (.iastore, 1) := by decide +kernel
theorem dX7_settle_39 : decode cX7_settle 39 = .ok (.iinc 2 1, 3) := by decide +kernel
theorem dX7_settle_42 : decode cX7_settle 42 = .ok (.goto (-28), 3) := by decide +kernel
theorem dX7_settle_45 : decode cX7_settle 45 = .ok (.iconst 0, 1) := by decide +kernel
theorem dX7_settle_46 : decode cX7_settle 46 = .ok (.istore_n 2, 1) := by decide +kernel
theorem dX7_settle_47 : decode cX7_settle 47 = .ok (.iconst 0, 1) := by decide +kernel
theorem dX7_settle_48 : decode cX7_settle 48 = .ok (.istore_n 3, 1) := by decide +kernel
theorem dX7_settle_49 : decode cX7_settle 49 = .ok (.iconst 1, 1) := by decide +kernel
theorem dX7_settle_50 : decode cX7_settle 50 = .ok (.istore 4, 2) := by decide +kernel
theorem dX7_settle_52 : decode cX7_settle 52 = .ok (.iload 4, 2) := by decide +kernel
theorem dX7_settle_54 : decode cX7_settle 54 = .ok (.ifCond .eq 181, 3) := by decide +kernel
theorem dX7_settle_57 : decode cX7_settle 57 = .ok (.iconst 0, 1) := by decide +kernel
theorem dX7_settle_58 : decode cX7_settle 58 = .ok (.istore 5, 2) := by decide +kernel
theorem dX7_settle_60 : decode cX7_settle 60 = .ok (.iconst 0, 1) := by decide +kernel
theorem dX7_settle_61 : decode cX7_settle 61 = .ok (.istore 6, 2) := by decide +kernel
theorem dX7_settle_63 : decode cX7_settle 63 = .ok (.iconst 1, 1) := by decide +kernel
theorem dX7_settle_64 : decode cX7_settle 64 = .ok (.istore 7, 2) := by decide +kernel
theorem dX7_settle_66 : decode cX7_settle 66 = .ok (.iload 7, 2) := by decide +kernel
theorem dX7_settle_68 : decode cX7_settle 68 = .ok (.aload_n 0, 1) := by decide +kernel
theorem dX7_settle_69 : decode cX7_settle 69 = .ok (.getfield 84, 3) := by decide +kernel
theorem dX7_settle_72 : decode cX7_settle 72 = .ok (.if_icmp .ge 61, 3) := by decide +kernel
theorem dX7_settle_75 : decode cX7_settle 75 = .ok (.aload_n 0, 1) := by decide +kernel
theorem dX7_settle_76 : decode cX7_settle 76 = .ok (.getfield 73, 3) := by decide +kernel
theorem dX7_settle_79 : decode cX7_settle 79 = .ok (.iload 7, 2) := by decide +kernel
theorem dX7_settle_81 : decode cX7_settle 81 = .ok (.iaload, 1) := by decide +kernel
theorem dX7_settle_82 : decode cX7_settle 82 = .ok (.aload_n 0, 1) := by decide +kernel
theorem dX7_settle_83 : decode cX7_settle 83 = .ok (.getfield 73, 3) := by decide +kernel
theorem dX7_settle_86 : decode cX7_settle 86 = .ok (.iload 5, 2) := by decide +kernel
theorem dX7_settle_88 : decode cX7_settle 88 = .ok (.iaload, 1) := by decide +kernel
theorem dX7_settle_89 : decode cX7_settle 89 = .ok (.if_icmp .ge 8, 3) := by decide +kernel
theorem dX7_settle_92 : decode cX7_settle 92 = .ok (.iload 7, 2) := by decide +kernel
theorem dX7_settle_94 : decode cX7_settle 94 = .ok (.goto 5, 3) := by decide +kernel
theorem dX7_settle_97 : decode cX7_settle 97 = .ok (.iload 5, 2) := by decide +kernel
theorem dX7_settle_99 : decode cX7_settle 99 = .ok (.istore 5, 2) := by decide +kernel
theorem dX7_settle_101 : decode cX7_settle 101 = .ok (.aload_n 0, 1) := by decide +kernel
theorem dX7_settle_102 : decode cX7_settle 102 = .ok (.getfield 73, 3) := by decide +kernel
theorem dX7_settle_105 : decode cX7_settle 105 = .ok (.iload 7, 2) := by decide +kernel
theorem dX7_settle_107 : decode cX7_settle 107 = .ok (.iaload, 1) := by decide +kernel
theorem dX7_settle_108 : decode cX7_settle 108 = .ok (.aload_n 0, 1) := by decide +kernel
theorem dX7_settle_109 : decode cX7_settle 109 = .ok (.getfield 73, 3) := by decide +kernel
theorem dX7_settle_112 : decode cX7_settle 112 = .ok (.iload 6, 2) := by decide +kernel
theorem dX7_settle_114 : decode cX7_settle 114 = .ok (.iaload, 1) := by decide +kernel
theorem dX7_settle_115 : decode cX7_settle 115 = .ok (.if_icmp .le 8, 3) := by decide +kernel
theorem dX7_settle_118 : decode cX7_settle 118 = .ok (.iload 7, 2) := by decide +kernel
theorem dX7_settle_120 : decode cX7_settle 120 = .ok (.goto 5, 3) := by decide +kernel
theorem dX7_settle_123 : decode cX7_settle 123 = .ok (.iload 6, 2) := by decide +kernel
theorem dX7_settle_125 : decode cX7_settle 125 = .ok (.istore 6, 2) := by decide +kernel
theorem dX7_settle_127 : decode cX7_settle 127 = .ok (.iinc 7 1, 3) := by decide +kernel
theorem dX7_settle_130 : decode cX7_settle 130 = .ok (.goto (-64), 3) := by decide +kernel
theorem dX7_settle_133 : decode cX7_settle 133 = .ok (.aload_n 0, 1) := by decide +kernel
theorem dX7_settle_134 : decode cX7_settle 134 = .ok (.getfield 73, 3) := by decide +kernel
theorem dX7_settle_137 : decode cX7_settle 137 = .ok (.iload 5, 2) := by decide +kernel
theorem dX7_settle_139 : decode cX7_settle 139 = .ok (.iaload, 1) := by decide +kernel
theorem dX7_settle_140 : decode cX7_settle 140 = .ok (.ifCond .ge 14, 3) := by decide +kernel
theorem dX7_settle_143 : decode cX7_settle 143 = .ok (.aload_n 0, 1) := by decide +kernel
theorem dX7_settle_144 : decode cX7_settle 144 = .ok (.getfield 84, 3) := by decide +kernel
theorem dX7_settle_147 : decode cX7_settle 147 = .ok (.ifCond .le 7, 3) := by decide +kernel
theorem dX7_settle_150 : decode cX7_settle 150 = .ok (.iconst 1, 1) := by decide +kernel
theorem dX7_settle_151 : decode cX7_settle 151 = .ok (.goto 4, 3) := by decide +kernel
theorem dX7_settle_154 : decode cX7_settle 154 = .ok (.iconst 0, 1) := by decide +kernel
theorem dX7_settle_155 : decode cX7_settle 155 = .ok (.istore 4, 2) := by decide +kernel
theorem dX7_settle_157 : decode cX7_settle 157 = .ok (.iload 4, 2) := by decide +kernel
theorem dX7_settle_159 : decode cX7_settle 159 = .ok (.ifCond .eq 73, 3) := by decide +kernel
theorem dX7_settle_162 : decode cX7_settle 162 = .ok (.aload_n 0, 1) := by decide +kernel
theorem dX7_settle_163 : decode cX7_settle 163 = .ok (.getfield 73, 3) := by decide +kernel
theorem dX7_settle_166 : decode cX7_settle 166 = .ok (.iload 5, 2) := by decide +kernel
theorem dX7_settle_168 : decode cX7_settle 168 = .ok (.iaload, 1) := by decide +kernel
theorem dX7_settle_169 : decode cX7_settle 169 = .ok (.ineg, 1) := by decide +kernel
theorem dX7_settle_170 : decode cX7_settle 170 = .ok (.aload_n 0, 1) := by decide +kernel
theorem dX7_settle_171 : decode cX7_settle 171 = .ok (.getfield 73, 3) := by decide +kernel
theorem dX7_settle_174 : decode cX7_settle 174 = .ok (.iload 6, 2) := by decide +kernel
theorem dX7_settle_176 : decode cX7_settle 176 = .ok (.iaload, 1) := by decide +kernel
theorem dX7_settle_177 : decode cX7_settle 177 = .ok (.if_icmp .ge 14, 3) := by decide +kernel
theorem dX7_settle_180 : decode cX7_settle 180 = .ok (.aload_n 0, 1) := by decide +kernel
theorem dX7_settle_181 : decode cX7_settle 181 = .ok (.getfield 73, 3) := by decide +kernel
theorem dX7_settle_184 : decode cX7_settle 184 = .ok (.iload 5, 2) := by decide +kernel
theorem dX7_settle_186 : decode cX7_settle 186 = .ok (.iaload, 1) := by decide +kernel
theorem dX7_settle_187 : decode cX7_settle 187 = .ok (.ineg, 1) := by decide +kernel
theorem dX7_settle_188 : decode cX7_settle 188 = .ok (.goto 10, 3) := by decide +kernel
theorem dX7_settle_191 : decode cX7_settle 191 = .ok (.aload_n 0, 1) := by decide +kernel
theorem dX7_settle_192 : decode cX7_settle 192 = .ok (.getfield 73, 3) := by decide +kernel
theorem dX7_settle_195 : decode cX7_settle 195 = .ok (.iload 6, 2) := by decide +kernel
theorem dX7_settle_197 : decode cX7_settle 197 = .ok (.iaload, 1) := by decide +kernel
theorem dX7_settle_198 : decode cX7_settle 198 = .ok (.istore 7, 2) := by decide +kernel
theorem dX7_settle_200 : decode cX7_settle 200 = .ok (.aload_n 0, 1) := by decide +kernel
theorem dX7_settle_201 : decode cX7_settle 201 = .ok (.getfield 73, 3) := by decide +kernel
theorem dX7_settle_204 : decode cX7_settle 204 = .ok (.iload 5, 2) := by decide +kernel
theorem dX7_settle_206 : decode cX7_settle 206 = .ok (.dup2, 1) := by decide +kernel
theorem dX7_settle_207 : decode cX7_settle 207 = .ok (.iaload, 1) := by decide +kernel
theorem dX7_settle_208 : decode cX7_settle 208 = .ok (.iload 7, 2) := by decide +kernel
theorem dX7_settle_210 : decode cX7_settle 210 = .ok (.iadd, 1) := by decide +kernel
theorem dX7_settle_211 : decode cX7_settle 211 = .ok (.iastore, 1) := by decide +kernel
theorem dX7_settle_212 : decode cX7_settle 212 = .ok (.aload_n 0, 1) := by decide +kernel
theorem dX7_settle_213 : decode cX7_settle 213 = .ok (.getfield 73, 3) := by decide +kernel
theorem dX7_settle_216 : decode cX7_settle 216 = .ok (.iload 6, 2) := by decide +kernel
theorem dX7_settle_218 : decode cX7_settle 218 = .ok (.dup2, 1) := by decide +kernel
theorem dX7_settle_219 : decode cX7_settle 219 = .ok (.iaload, 1) := by decide +kernel
theorem dX7_settle_220 : decode cX7_settle 220 = .ok (.iload 7, 2) := by decide +kernel
theorem dX7_settle_222 : decode cX7_settle 222 = .ok (.isub, 1) := by decide +kernel
theorem dX7_settle_223 : decode cX7_settle 223 = .ok (.iastore, 1) := by decide +kernel
theorem dX7_settle_224 : decode cX7_settle 224 = .ok (.iinc 2 1, 3) := by decide +kernel
theorem dX7_settle_227 : decode cX7_settle 227 = .ok (.iload_n 3, 1) := by decide +kernel
theorem dX7_settle_228 : decode cX7_settle 228 = .ok (.iload 7, 2) := by decide +kernel
theorem dX7_settle_230 : decode cX7_settle 230 = .ok (.iadd, 1) := by decide +kernel
theorem dX7_settle_231 : decode cX7_settle 231 = .ok (.istore_n 3, 1) := by decide +kernel
theorem dX7_settle_232 : decode cX7_settle 232 = .ok (.goto (-180), 3) := by decide +kernel
theorem dX7_settle_235 : decode cX7_settle 235 = .ok (.iload_n 1, 1) := by decide +kernel
theorem dX7_settle_236 : decode cX7_settle 236 = .ok (.ifCond .ne 7, 3) := by decide +kernel
theorem dX7_settle_239 : decode cX7_settle 239 = .ok (.iload_n 2, 1) := by decide +kernel
theorem dX7_settle_240 : decode cX7_settle 240 = .ok (.goto 4, 3) := by decide +kernel
theorem dX7_settle_243 : decode cX7_settle 243 = .ok (.iload_n 3, 1) := by decide +kernel
theorem dX7_settle_244 : decode cX7_settle 244 = .ok (.ireturn, 1) := by decide +kernel
theorem dX7_sourceOf_0 : decode cX7_sourceOf 0 = .ok (.iconst 0, 1) := by decide +kernel
theorem dX7_sourceOf_1 : decode cX7_sourceOf 1 = .ok (.istore_n 2, 1) := by decide +kernel
theorem dX7_sourceOf_2 : decode cX7_sourceOf 2 = .ok (.iconst (-1), 1) := by decide +kernel
theorem dX7_sourceOf_3 : decode cX7_sourceOf 3 = .ok (.istore_n 3, 1) := by decide +kernel
theorem dX7_sourceOf_4 : decode cX7_sourceOf 4 = .ok (.iload_n 3, 1) := by decide +kernel
theorem dX7_sourceOf_5 : decode cX7_sourceOf 5 = .ok (.iload_n 2, 1) := by decide +kernel
theorem dX7_sourceOf_6 : decode cX7_sourceOf 6 = .ok (.if_icmp .eq 80, 3) := by decide +kernel
theorem dX7_sourceOf_9 : decode cX7_sourceOf 9 = .ok (.iload_n 2, 1) := by decide +kernel
theorem dX7_sourceOf_10 : decode cX7_sourceOf 10 = .ok (.istore_n 3, 1) := by decide +kernel
theorem dX7_sourceOf_11 : decode cX7_sourceOf 11 = .ok (.iconst 0, 1) := by decide +kernel
theorem dX7_sourceOf_12 : decode cX7_sourceOf 12 = .ok (.istore 4, 2) := by decide +kernel
theorem dX7_sourceOf_14 : decode cX7_sourceOf 14 = .ok (.iload 4, 2) := by decide +kernel
theorem dX7_sourceOf_16 : decode cX7_sourceOf 16 = .ok (.aload_n 0, 1) := by decide +kernel
theorem dX7_sourceOf_17 : decode cX7_sourceOf 17 = .ok (.getfield 91, 3) := by decide +kernel
theorem dX7_sourceOf_20 : decode cX7_sourceOf 20 = .ok (.if_icmp .ge 63, 3) := by decide +kernel
theorem dX7_sourceOf_23 : decode cX7_sourceOf 23 = .ok (.aload_n 0, 1) := by decide +kernel
theorem dX7_sourceOf_24 : decode cX7_sourceOf 24 = .ok (.getfield 22, 3) := by decide +kernel
theorem dX7_sourceOf_27 : decode cX7_sourceOf 27 = .ok (.iload 4, 2) := by decide +kernel
theorem dX7_sourceOf_29 : decode cX7_sourceOf 29 = .ok (.iaload, 1) := by decide +kernel
theorem dX7_sourceOf_30 : decode cX7_sourceOf 30 = .ok (.iload_n 1, 1) := by decide +kernel
theorem dX7_sourceOf_31 : decode cX7_sourceOf 31 = .ok (.if_icmp .eq 18, 3) := by decide +kernel
theorem dX7_sourceOf_34 : decode cX7_sourceOf 34 = .ok (.iload_n 2, 1) := by decide +kernel
theorem dX7_sourceOf_35 : decode cX7_sourceOf 35 = .ok (.aload_n 0, 1) := by decide +kernel
theorem dX7_sourceOf_36 : decode cX7_sourceOf 36 = .ok (.getfield 22, 3) := by decide +kernel
theorem dX7_sourceOf_39 : decode cX7_sourceOf 39 = .ok (.iload 4, 2) := by decide +kernel
theorem dX7_sourceOf_41 : decode cX7_sourceOf 41 = .ok (.iaload, 1) := by decide +kernel
theorem dX7_sourceOf_42 : decode cX7_sourceOf 42 = .ok (.ishr, 1) := by decide +kernel
theorem dX7_sourceOf_43 : decode cX7_sourceOf 43 = .ok (.iconst 1, 1) := by decide +kernel
theorem dX7_sourceOf_44 : decode cX7_sourceOf 44 = .ok (.iand, 1) := by decide +kernel
theorem dX7_sourceOf_45 : decode cX7_sourceOf 45 = .ok (.iconst 1, 1) := by decide +kernel
theorem dX7_sourceOf_46 : decode cX7_sourceOf 46 = .ok (.if_icmp .ne 7, 3) := by decide +kernel
theorem dX7_sourceOf_49 : decode cX7_sourceOf 49 = .ok (.iconst 1, 1) := by decide +kernel
theorem dX7_sourceOf_50 : decode cX7_sourceOf 50 = .ok (.goto 4, 3) := by decide +kernel
theorem dX7_sourceOf_53 : decode cX7_sourceOf 53 = .ok (.iconst 0, 1) := by decide +kernel
theorem dX7_sourceOf_54 : decode cX7_sourceOf 54 = .ok (.istore 5, 2) := by decide +kernel
theorem dX7_sourceOf_56 : decode cX7_sourceOf 56 = .ok (.iload_n 2, 1) := by decide +kernel
theorem dX7_sourceOf_57 : decode cX7_sourceOf 57 = .ok (.iload 5, 2) := by decide +kernel
theorem dX7_sourceOf_59 : decode cX7_sourceOf 59 = .ok (.ifCond .eq 15, 3) := by decide +kernel
theorem dX7_sourceOf_62 : decode cX7_sourceOf 62 = .ok (.iconst 1, 1) := by decide +kernel
theorem dX7_sourceOf_63 : decode cX7_sourceOf 63 = .ok (.aload_n 0, 1) := by decide +kernel
theorem dX7_sourceOf_64 : decode cX7_sourceOf 64 = .ok (.getfield 19, 3) := by decide +kernel
theorem dX7_sourceOf_67 : decode cX7_sourceOf 67 = .ok (.iload 4, 2) := by decide +kernel
theorem dX7_sourceOf_69 : decode cX7_sourceOf 69 = .ok (.iaload, 1) := by decide +kernel
theorem dX7_sourceOf_70 : decode cX7_sourceOf 70 = .ok (.ishl, 1) := by decide +kernel
theorem dX7_sourceOf_71 : decode cX7_sourceOf 71 = .ok (.goto 4, 3) := by decide +kernel
theorem dX7_sourceOf_74 : decode cX7_sourceOf 74 = .ok (.iconst 0, 1) := by decide +kernel
theorem dX7_sourceOf_75 : decode cX7_sourceOf 75 = .ok (.ior, 1) := by decide +kernel
theorem dX7_sourceOf_76 : decode cX7_sourceOf 76 = .ok (.istore_n 2, 1) := by decide +kernel
theorem dX7_sourceOf_77 : decode cX7_sourceOf 77 = .ok (.iinc 4 1, 3) := by decide +kernel
theorem dX7_sourceOf_80 : decode cX7_sourceOf 80 = .ok (.goto (-66), 3) := by decide +kernel
theorem dX7_sourceOf_83 : decode cX7_sourceOf 83 = .ok (.goto (-79), 3) := by decide +kernel
theorem dX7_sourceOf_86 : decode cX7_sourceOf 86 = .ok (.iload_n 2, 1) := by decide +kernel
theorem dX7_sourceOf_87 : decode cX7_sourceOf 87 = .ok (.ireturn, 1) := by decide +kernel
theorem dX7_source_0 : decode cX7_source 0 = .ok (.aload_n 0, 1) := by decide +kernel
theorem dX7_source_1 : decode cX7_source 1 = .ok (.iload_n 1, 1) := by decide +kernel
theorem dX7_source_2 : decode cX7_source 2 = .ok (.invokevirtual 179, 3) := by decide +kernel
theorem dX7_source_5 : decode cX7_source 5 = .ok (.ifCond .eq 11, 3) := by decide +kernel
theorem dX7_source_8 : decode cX7_source 8 = .ok (.aload_n 0, 1) := by decide +kernel
theorem dX7_source_9 : decode cX7_source 9 = .ok (.iload_n 1, 1) := by decide +kernel
theorem dX7_source_10 : decode cX7_source 10 = .ok (.invokevirtual 237, 3) := by decide +kernel
theorem dX7_source_13 : decode cX7_source 13 = .ok (.goto 5, 3) := by decide +kernel
theorem dX7_source_16 : decode cX7_source 16 = .ok (.bipush (-5), 2) := by decide +kernel
theorem dX7_source_18 : decode cX7_source 18 = .ok (.ireturn, 1) := by decide +kernel
theorem dX7_rings_0 : decode cX7_rings 0 = .ok (.iload_n 1, 1) := by decide +kernel
theorem dX7_rings_1 : decode cX7_rings 1 = .ok (.iconst 0, 1) := by decide +kernel
theorem dX7_rings_2 : decode cX7_rings 2 = .ok (.iconst 1, 1) := by decide +kernel
theorem dX7_rings_3 : decode cX7_rings 3 = .ok (.invokestatic 87, 3) := by decide +kernel
theorem dX7_rings_6 : decode cX7_rings 6 = .ok (.ifCond .ne 6, 3) := by decide +kernel
theorem dX7_rings_9 : decode cX7_rings 9 = .ok (.bipush (-2), 2) := by decide +kernel
theorem dX7_rings_11 : decode cX7_rings 11 = .ok (.ireturn, 1) := by decide +kernel
theorem dX7_rings_12 : decode cX7_rings 12 = .ok (.iconst 0, 1) := by decide +kernel
theorem dX7_rings_13 : decode cX7_rings 13 = .ok (.istore_n 2, 1) := by decide +kernel
theorem dX7_rings_14 : decode cX7_rings 14 = .ok (.iconst 0, 1) := by decide +kernel
theorem dX7_rings_15 : decode cX7_rings 15 = .ok (.istore_n 3, 1) := by decide +kernel
theorem dX7_rings_16 : decode cX7_rings 16 = .ok (.iload_n 3, 1) := by decide +kernel
theorem dX7_rings_17 : decode cX7_rings 17 = .ok (.aload_n 0, 1) := by decide +kernel
theorem dX7_rings_18 : decode cX7_rings 18 = .ok (.getfield 84, 3) := by decide +kernel
theorem dX7_rings_21 : decode cX7_rings 21 = .ok (.if_icmp .ge 73, 3) := by decide +kernel
theorem dX7_rings_24 : decode cX7_rings 24 = .ok (.aload_n 0, 1) := by decide +kernel
theorem dX7_rings_25 : decode cX7_rings 25 = .ok (.iload_n 3, 1) := by decide +kernel
theorem dX7_rings_26 : decode cX7_rings 26 = .ok (.invokevirtual 237, 3) := by decide +kernel
theorem dX7_rings_29 : decode cX7_rings 29 = .ok (.istore 4, 2) := by decide +kernel
theorem dX7_rings_31 : decode cX7_rings 31 = .ok (.iload_n 1, 1) := by decide +kernel
theorem dX7_rings_32 : decode cX7_rings 32 = .ok (.ifCond .ne 21, 3) := by decide +kernel
theorem dX7_rings_35 : decode cX7_rings 35 = .ok (.iload 4, 2) := by decide +kernel
theorem dX7_rings_37 : decode cX7_rings 37 = .ok (.iload_n 3, 1) := by decide +kernel
theorem dX7_rings_38 : decode cX7_rings 38 = .ok (.ishr, 1) := by decide +kernel
theorem dX7_rings_39 : decode cX7_rings 39 = .ok (.iconst 1, 1) := by decide +kernel
theorem dX7_rings_40 : decode cX7_rings 40 = .ok (.iand, 1) := by decide +kernel
theorem dX7_rings_41 : decode cX7_rings 41 = .ok (.iconst 1, 1) := by decide +kernel
theorem dX7_rings_42 : decode cX7_rings 42 = .ok (.if_icmp .ne 7, 3) := by decide +kernel
theorem dX7_rings_45 : decode cX7_rings 45 = .ok (.iconst 1, 1) := by decide +kernel
theorem dX7_rings_46 : decode cX7_rings 46 = .ok (.goto 25, 3) := by decide +kernel
theorem dX7_rings_49 : decode cX7_rings 49 = .ok (.iconst 0, 1) := by decide +kernel
theorem dX7_rings_50 : decode cX7_rings 50 = .ok (.goto 21, 3) := by decide +kernel
theorem dX7_rings_53 : decode cX7_rings 53 = .ok (.iload 4, 2) := by decide +kernel
theorem dX7_rings_55 : decode cX7_rings 55 = .ok (.ifCond .ne 15, 3) := by decide +kernel
theorem dX7_rings_58 : decode cX7_rings 58 = .ok (.aload_n 0, 1) := by decide +kernel
theorem dX7_rings_59 : decode cX7_rings 59 = .ok (.iload_n 3, 1) := by decide +kernel
theorem dX7_rings_60 : decode cX7_rings 60 = .ok (.invokevirtual 189, 3) := by decide +kernel
theorem dX7_rings_63 : decode cX7_rings 63 = .ok (.ifCond .le 7, 3) := by decide +kernel
theorem dX7_rings_66 : decode cX7_rings 66 = .ok (.iconst 1, 1) := by decide +kernel
theorem dX7_rings_67 : decode cX7_rings 67 = .ok (.goto 4, 3) := by decide +kernel
theorem dX7_rings_70 : decode cX7_rings 70 = .ok (.iconst 0, 1) := by decide +kernel
theorem dX7_rings_71 : decode cX7_rings 71 = .ok (.istore 5, 2) := by decide +kernel
theorem dX7_rings_73 : decode cX7_rings 73 = .ok (.iload_n 2, 1) := by decide +kernel
theorem dX7_rings_74 : decode cX7_rings 74 = .ok (.iload 5, 2) := by decide +kernel
theorem dX7_rings_76 : decode cX7_rings 76 = .ok (.ifCond .eq 9, 3) := by decide +kernel
theorem dX7_rings_79 : decode cX7_rings 79 = .ok (.iconst 1, 1) := by decide +kernel
theorem dX7_rings_80 : decode cX7_rings 80 = .ok (.iload_n 3, 1) := by decide +kernel
theorem dX7_rings_81 : decode cX7_rings 81 = .ok (.ishl, 1) := by decide +kernel
theorem dX7_rings_82 : decode cX7_rings 82 = .ok (.goto 4, 3) := by decide +kernel
theorem dX7_rings_85 : decode cX7_rings 85 = .ok (.iconst 0, 1) := by decide +kernel
theorem dX7_rings_86 : decode cX7_rings 86 = .ok (.ior, 1) := by decide +kernel
theorem dX7_rings_87 : decode cX7_rings 87 = .ok (.istore_n 2, 1) := by decide +kernel
theorem dX7_rings_88 : decode cX7_rings 88 = .ok (.iinc 3 1, 3) := by decide +kernel
theorem dX7_rings_91 : decode cX7_rings 91 = .ok (.goto (-75), 3) := by decide +kernel
theorem dX7_rings_94 : decode cX7_rings 94 = .ok (.iload_n 2, 1) := by decide +kernel
theorem dX7_rings_95 : decode cX7_rings 95 = .ok (.ireturn, 1) := by decide +kernel
theorem dX7_ask_0 : decode cX7_ask 0 = .ok (.aload_n 0, 1) := by decide +kernel
theorem dX7_ask_1 : decode cX7_ask 1 = .ok (.iload_n 1, 1) := by decide +kernel
theorem dX7_ask_2 : decode cX7_ask 2 = .ok (.invokevirtual 179, 3) := by decide +kernel
theorem dX7_ask_5 : decode cX7_ask 5 = .ok (.ifCond .ne 6, 3) := by decide +kernel
theorem dX7_ask_8 : decode cX7_ask 8 = .ok (.bipush (-5), 2) := by decide +kernel
theorem dX7_ask_10 : decode cX7_ask 10 = .ok (.ireturn, 1) := by decide +kernel
theorem dX7_ask_11 : decode cX7_ask 11 = .ok (.iload_n 2, 1) := by decide +kernel
theorem dX7_ask_12 : decode cX7_ask 12 = .ok (.invokestatic 196, 3) := by decide +kernel
theorem dX7_ask_15 : decode cX7_ask 15 = .ok (.ifCond .eq 21, 3) := by decide +kernel
theorem dX7_ask_18 : decode cX7_ask 18 = .ok (.iload_n 2, 1) := by decide +kernel
theorem dX7_ask_19 : decode cX7_ask 19 = .ok (.bipush 100, 2) := by decide +kernel
theorem dX7_ask_21 : decode cX7_ask 21 = .ok (.irem, 1) := by decide +kernel
theorem dX7_ask_22 : decode cX7_ask 22 = .ok (.bipush 39, 2) := by decide +kernel
theorem dX7_ask_24 : decode cX7_ask 24 = .ok (.if_icmp .gt 12, 3) := by decide +kernel
theorem dX7_ask_27 : decode cX7_ask 27 = .ok (.iload_n 3, 1) := by decide +kernel
theorem dX7_ask_28 : decode cX7_ask 28 = .ok (.iconst 0, 1) := by decide +kernel
theorem dX7_ask_29 : decode cX7_ask 29 = .ok (.iconst 1, 1) := by decide +kernel
theorem dX7_ask_30 : decode cX7_ask 30 = .ok (.invokestatic 87, 3) := by decide +kernel
theorem dX7_ask_33 : decode cX7_ask 33 = .ok (.ifCond .ne 6, 3) := by decide +kernel
theorem dX7_ask_36 : decode cX7_ask 36 = .ok (.bipush (-7), 2) := by decide +kernel
theorem dX7_ask_38 : decode cX7_ask 38 = .ok (.ireturn, 1) := by decide +kernel
theorem dX7_ask_39 : decode cX7_ask 39 = .ok (.iconst (-1), 1) := by decide +kernel
theorem dX7_ask_40 : decode cX7_ask 40 = .ok (.istore 4, 2) := by decide +kernel
theorem dX7_ask_42 : decode cX7_ask 42 = .ok (.iconst (-1), 1) := by decide +kernel
theorem dX7_ask_43 : decode cX7_ask 43 = .ok (.istore 5, 2) := by decide +kernel
theorem dX7_ask_45 : decode cX7_ask 45 = .ok (.iconst 0, 1) := by decide +kernel
theorem dX7_ask_46 : decode cX7_ask 46 = .ok (.istore 6, 2) := by decide +kernel
theorem dX7_ask_48 : decode cX7_ask 48 = .ok (.iload 6, 2) := by decide +kernel
theorem dX7_ask_50 : decode cX7_ask 50 = .ok (.aload_n 0, 1) := by decide +kernel
theorem dX7_ask_51 : decode cX7_ask 51 = .ok (.getfield 84, 3) := by decide +kernel
theorem dX7_ask_54 : decode cX7_ask 54 = .ok (.if_icmp .ge 102, 3) := by decide +kernel
theorem dX7_ask_57 : decode cX7_ask 57 = .ok (.iload 6, 2) := by decide +kernel
theorem dX7_ask_59 : decode cX7_ask 59 = .ok (.iload_n 1, 1) := by decide +kernel
theorem dX7_ask_60 : decode cX7_ask 60 = .ok (.if_icmp .eq 90, 3) := by decide +kernel
theorem dX7_ask_63 : decode cX7_ask 63 = .ok (.aload_n 0, 1) := by decide +kernel
theorem dX7_ask_64 : decode cX7_ask 64 = .ok (.getfield 91, 3) := by decide +kernel
theorem dX7_ask_67 : decode cX7_ask 67 = .ok (.bipush 10, 2) := by decide +kernel
theorem dX7_ask_69 : decode cX7_ask 69 = .ok (.if_icmp .ge 81, 3) := by decide +kernel
theorem dX7_ask_72 : decode cX7_ask 72 = .ok (.aload_n 0, 1) := by decide +kernel
theorem dX7_ask_73 : decode cX7_ask 73 = .ok (.iload 6, 2) := by decide +kernel
theorem dX7_ask_75 : decode cX7_ask 75 = .ok (.iload_n 2, 1) := by decide +kernel
theorem dX7_ask_76 : decode cX7_ask 76 = .ok (.bipush 100, 2) := by decide +kernel
theorem dX7_ask_78 : decode cX7_ask 78 = .ok (.idiv, 1) := by decide +kernel
theorem dX7_ask_79 : decode cX7_ask 79 = .ok (.invokevirtual 199, 3) := by decide +kernel
theorem dX7_ask_82 : decode cX7_ask 82 = .ok (.ifCond .eq 68, 3) := by decide +kernel
theorem dX7_ask_85 : decode cX7_ask 85 = .ok (.aload_n 0, 1) := by decide +kernel
theorem dX7_ask_86 : decode cX7_ask 86 = .ok (.invokevirtual 227, 3) := by decide +kernel
theorem dX7_ask_89 : decode cX7_ask 89 = .ok (.aload_n 0, 1) := by decide +kernel
theorem dX7_ask_90 : decode cX7_ask 90 = .ok (.iload 6, 2) := by decide +kernel
theorem dX7_ask_92 : decode cX7_ask 92 = .ok (.iload_n 1, 1) := by decide +kernel
theorem dX7_ask_93 : decode cX7_ask 93 = .ok (.iload_n 2, 1) := by decide +kernel
theorem dX7_ask_94 : decode cX7_ask 94 = .ok (.invokevirtual 203, 3) := by decide +kernel
theorem dX7_ask_97 : decode cX7_ask 97 = .ok (.aload_n 0, 1) := by decide +kernel
theorem dX7_ask_98 : decode cX7_ask 98 = .ok (.iload_n 2, 1) := by decide +kernel
theorem dX7_ask_99 : decode cX7_ask 99 = .ok (.bipush 100, 2) := by decide +kernel
theorem dX7_ask_101 : decode cX7_ask 101 = .ok (.irem, 1) := by decide +kernel
theorem dX7_ask_102 : decode cX7_ask 102 = .ok (.iconst 1, 1) := by decide +kernel
theorem dX7_ask_103 : decode cX7_ask 103 = .ok (.iadd, 1) := by decide +kernel
theorem dX7_ask_104 : decode cX7_ask 104 = .ok (.invokevirtual 230, 3) := by decide +kernel
theorem dX7_ask_107 : decode cX7_ask 107 = .ok (.pop, 1) := by decide +kernel
theorem dX7_ask_108 : decode cX7_ask 108 = .ok (.aload_n 0, 1) := by decide +kernel
theorem dX7_ask_109 : decode cX7_ask 109 = .ok (.invokevirtual 97, 3) := by decide +kernel
theorem dX7_ask_112 : decode cX7_ask 112 = .ok (.istore 7, 2) := by decide +kernel
theorem dX7_ask_114 : decode cX7_ask 114 = .ok (.aload_n 0, 1) := by decide +kernel
theorem dX7_ask_115 : decode cX7_ask 115 = .ok (.invokevirtual 233, 3) := by decide +kernel
theorem dX7_ask_118 : decode cX7_ask 118 = .ok (.iload 7, 2) := by decide +kernel
theorem dX7_ask_120 : decode cX7_ask 120 = .ok (.iload 5, 2) := by decide +kernel
theorem dX7_ask_122 : decode cX7_ask 122 = .ok (.if_icmp .le 8, 3) := by decide +kernel
theorem dX7_ask_125 : decode cX7_ask 125 = .ok (.iload 6, 2) := by decide +kernel
theorem dX7_ask_127 : decode cX7_ask 127 = .ok (.goto 5, 3) := by decide +kernel
theorem dX7_ask_130 : decode cX7_ask 130 = .ok (.iload 4, 2) := by decide +kernel
theorem dX7_ask_132 : decode cX7_ask 132 = .ok (.istore 4, 2) := by decide +kernel
theorem dX7_ask_134 : decode cX7_ask 134 = .ok (.iload 7, 2) := by decide +kernel
theorem dX7_ask_136 : decode cX7_ask 136 = .ok (.iload 5, 2) := by decide +kernel
theorem dX7_ask_138 : decode cX7_ask 138 = .ok (.if_icmp .le 8, 3) := by decide +kernel
theorem dX7_ask_141 : decode cX7_ask 141 = .ok (.iload 7, 2) := by decide +kernel
theorem dX7_ask_143 : decode cX7_ask 143 = .ok (.goto 5, 3) := by decide +kernel
theorem dX7_ask_146 : decode cX7_ask 146 = .ok (.iload 5, 2) := by decide +kernel
theorem dX7_ask_148 : decode cX7_ask 148 = .ok (.istore 5, 2) := by decide +kernel
theorem dX7_ask_150 : decode cX7_ask 150 = .ok (.iinc 6 1, 3) := by decide +kernel
theorem dX7_ask_153 : decode cX7_ask 153 = .ok (.goto (-105), 3) := by decide +kernel
theorem dX7_ask_156 : decode cX7_ask 156 = .ok (.iload_n 3, 1) := by decide +kernel
theorem dX7_ask_157 : decode cX7_ask 157 = .ok (.ifCond .ne 8, 3) := by decide +kernel
theorem dX7_ask_160 : decode cX7_ask 160 = .ok (.iload 4, 2) := by decide +kernel
theorem dX7_ask_162 : decode cX7_ask 162 = .ok (.goto 5, 3) := by decide +kernel
theorem dX7_ask_165 : decode cX7_ask 165 = .ok (.iload 5, 2) := by decide +kernel
theorem dX7_ask_167 : decode cX7_ask 167 = .ok (.ireturn, 1) := by decide +kernel
theorem dX7_needs_0 : decode cX7_needs 0 = .ok (.aload_n 0, 1) := by decide +kernel
theorem dX7_needs_1 : decode cX7_needs 1 = .ok (.iload_n 1, 1) := by decide +kernel
theorem dX7_needs_2 : decode cX7_needs 2 = .ok (.invokevirtual 179, 3) := by decide +kernel
theorem dX7_needs_5 : decode cX7_needs 5 = .ok (.ifCond .ne 6, 3) := by decide +kernel
theorem dX7_needs_8 : decode cX7_needs 8 = .ok (.bipush (-5), 2) := by decide +kernel
theorem dX7_needs_10 : decode cX7_needs 10 = .ok (.ireturn, 1) := by decide +kernel
theorem dX7_needs_11 : decode cX7_needs 11 = .ok (.iload_n 2, 1) := by decide +kernel
theorem dX7_needs_12 : decode cX7_needs 12 = .ok (.iconst 0, 1) := by decide +kernel
theorem dX7_needs_13 : decode cX7_needs 13 = .ok (.bipush 40, 2) := by decide +kernel
theorem dX7_needs_15 : decode cX7_needs 15 = .ok (.invokestatic 87, 3) := by decide +kernel
theorem dX7_needs_18 : decode cX7_needs 18 = .ok (.ifCond .ne 6, 3) := by decide +kernel
theorem dX7_needs_21 : decode cX7_needs 21 = .ok (.bipush (-7), 2) := by decide +kernel
theorem dX7_needs_23 : decode cX7_needs 23 = .ok (.ireturn, 1) := by decide +kernel
theorem dX7_needs_24 : decode cX7_needs 24 = .ok (.iconst 0, 1) := by decide +kernel
theorem dX7_needs_25 : decode cX7_needs 25 = .ok (.istore_n 3, 1) := by decide +kernel
theorem dX7_needs_26 : decode cX7_needs 26 = .ok (.iload_n 3, 1) := by decide +kernel
theorem dX7_needs_27 : decode cX7_needs 27 = .ok (.bipush 99, 2) := by decide +kernel
theorem dX7_needs_29 : decode cX7_needs 29 = .ok (.if_icmp .gt 46, 3) := by decide +kernel
theorem dX7_needs_32 : decode cX7_needs 32 = .ok (.aload_n 0, 1) := by decide +kernel
theorem dX7_needs_33 : decode cX7_needs 33 = .ok (.invokevirtual 227, 3) := by decide +kernel
theorem dX7_needs_36 : decode cX7_needs 36 = .ok (.aload_n 0, 1) := by decide +kernel
theorem dX7_needs_37 : decode cX7_needs 37 = .ok (.getfield 16, 3) := by decide +kernel
theorem dX7_needs_40 : decode cX7_needs 40 = .ok (.iconst 3, 1) := by decide +kernel
theorem dX7_needs_41 : decode cX7_needs 41 = .ok (.iload_n 1, 1) := by decide +kernel
theorem dX7_needs_42 : decode cX7_needs 42 = .ok (.imul, 1) := by decide +kernel
theorem dX7_needs_43 : decode cX7_needs 43 = .ok (.iconst 1, 1) := by decide +kernel
theorem dX7_needs_44 : decode cX7_needs 44 = .ok (.iadd, 1) := by decide +kernel
theorem dX7_needs_45 : decode cX7_needs 45 = .ok (.iload_n 3, 1) := by decide +kernel
theorem dX7_needs_46 : decode cX7_needs 46 = .ok (.iastore, 1) := by decide +kernel
theorem dX7_needs_47 : decode cX7_needs 47 = .ok (.aload_n 0, 1) := by decide +kernel
theorem dX7_needs_48 : decode cX7_needs 48 = .ok (.iload_n 2, 1) := by decide +kernel
theorem dX7_needs_49 : decode cX7_needs 49 = .ok (.invokevirtual 230, 3) := by decide +kernel
theorem dX7_needs_52 : decode cX7_needs 52 = .ok (.istore 4, 2) := by decide +kernel
theorem dX7_needs_54 : decode cX7_needs 54 = .ok (.aload_n 0, 1) := by decide +kernel
theorem dX7_needs_55 : decode cX7_needs 55 = .ok (.invokevirtual 233, 3) := by decide +kernel
theorem dX7_needs_58 : decode cX7_needs 58 = .ok (.iload 4, 2) := by decide +kernel
theorem dX7_needs_60 : decode cX7_needs 60 = .ok (.iload_n 1, 1) := by decide +kernel
theorem dX7_needs_61 : decode cX7_needs 61 = .ok (.ishr, 1) := by decide +kernel
theorem dX7_needs_62 : decode cX7_needs 62 = .ok (.iconst 1, 1) := by decide +kernel
theorem dX7_needs_63 : decode cX7_needs 63 = .ok (.iand, 1) := by decide +kernel
theorem dX7_needs_64 : decode cX7_needs 64 = .ok (.ifCond .ne 5, 3) := by decide +kernel
theorem dX7_needs_67 : decode cX7_needs 67 = .ok (.iload_n 3, 1) := by decide +kernel
theorem dX7_needs_68 : decode cX7_needs 68 = .ok (.ireturn, 1) := by decide +kernel
theorem dX7_needs_69 : decode cX7_needs 69 = .ok (.iinc 3 1, 3) := by decide +kernel
theorem dX7_needs_72 : decode cX7_needs 72 = .ok (.goto (-46), 3) := by decide +kernel
theorem dX7_needs_75 : decode cX7_needs 75 = .ok (.iconst (-1), 1) := by decide +kernel
theorem dX7_needs_76 : decode cX7_needs 76 = .ok (.ireturn, 1) := by decide +kernel
theorem dX7_failsBut_0 : decode cX7_failsBut 0 = .ok (.aload_n 0, 1) := by decide +kernel
theorem dX7_failsBut_1 : decode cX7_failsBut 1 = .ok (.invokevirtual 227, 3) := by decide +kernel
theorem dX7_failsBut_4 : decode cX7_failsBut 4 = .ok (.iload_n 1, 1) := by decide +kernel
theorem dX7_failsBut_5 : decode cX7_failsBut 5 = .ok (.iconst (-1), 1) := by decide +kernel
theorem dX7_failsBut_6 : decode cX7_failsBut 6 = .ok (.if_icmp .eq 8, 3) := by decide +kernel
theorem dX7_failsBut_9 : decode cX7_failsBut 9 = .ok (.aload_n 0, 1) := by decide +kernel
theorem dX7_failsBut_10 : decode cX7_failsBut 10 = .ok (.iload_n 1, 1) := by decide +kernel
theorem dX7_failsBut_11 : decode cX7_failsBut 11 = .ok (.invokevirtual 209, 3) := by decide +kernel
theorem dX7_failsBut_14 : decode cX7_failsBut 14 = .ok (.aload_n 0, 1) := by decide +kernel
theorem dX7_failsBut_15 : decode cX7_failsBut 15 = .ok (.iload_n 2, 1) := by decide +kernel
theorem dX7_failsBut_16 : decode cX7_failsBut 16 = .ok (.invokevirtual 230, 3) := by decide +kernel
theorem dX7_failsBut_19 : decode cX7_failsBut 19 = .ok (.invokestatic 240, 3) := by decide +kernel
theorem dX7_failsBut_22 : decode cX7_failsBut 22 = .ok (.istore_n 3, 1) := by decide +kernel
theorem dX7_failsBut_23 : decode cX7_failsBut 23 = .ok (.aload_n 0, 1) := by decide +kernel
theorem dX7_failsBut_24 : decode cX7_failsBut 24 = .ok (.invokevirtual 233, 3) := by decide +kernel
theorem dX7_failsBut_27 : decode cX7_failsBut 27 = .ok (.iload_n 3, 1) := by decide +kernel
theorem dX7_failsBut_28 : decode cX7_failsBut 28 = .ok (.ireturn, 1) := by decide +kernel
theorem dX7_mercy_0 : decode cX7_mercy 0 = .ok (.iload_n 1, 1) := by decide +kernel
theorem dX7_mercy_1 : decode cX7_mercy 1 = .ok (.iconst 0, 1) := by decide +kernel
theorem dX7_mercy_2 : decode cX7_mercy 2 = .ok (.bipush 40, 2) := by decide +kernel
theorem dX7_mercy_4 : decode cX7_mercy 4 = .ok (.invokestatic 87, 3) := by decide +kernel
theorem dX7_mercy_7 : decode cX7_mercy 7 = .ok (.ifCond .eq 12, 3) := by decide +kernel
theorem dX7_mercy_10 : decode cX7_mercy 10 = .ok (.iload_n 2, 1) := by decide +kernel
theorem dX7_mercy_11 : decode cX7_mercy 11 = .ok (.iconst 0, 1) := by decide +kernel
theorem dX7_mercy_12 : decode cX7_mercy 12 = .ok (.iconst 1, 1) := by decide +kernel
theorem dX7_mercy_13 : decode cX7_mercy 13 = .ok (.invokestatic 87, 3) := by decide +kernel
theorem dX7_mercy_16 : decode cX7_mercy 16 = .ok (.ifCond .ne 6, 3) := by decide +kernel
theorem dX7_mercy_19 : decode cX7_mercy 19 = .ok (.bipush (-2), 2) := by decide +kernel
theorem dX7_mercy_21 : decode cX7_mercy 21 = .ok (.ireturn, 1) := by decide +kernel
theorem dX7_mercy_22 : decode cX7_mercy 22 = .ok (.iconst (-1), 1) := by decide +kernel
theorem dX7_mercy_23 : decode cX7_mercy 23 = .ok (.istore_n 3, 1) := by decide +kernel
theorem dX7_mercy_24 : decode cX7_mercy 24 = .ok (.aload_n 0, 1) := by decide +kernel
theorem dX7_mercy_25 : decode cX7_mercy 25 = .ok (.iconst (-1), 1) := by decide +kernel
theorem dX7_mercy_26 : decode cX7_mercy 26 = .ok (.iload_n 1, 1) := by decide +kernel
theorem dX7_mercy_27 : decode cX7_mercy 27 = .ok (.invokevirtual 243, 3) := by decide +kernel
theorem dX7_mercy_30 : decode cX7_mercy 30 = .ok (.istore 4, 2) := by decide +kernel
theorem dX7_mercy_32 : decode cX7_mercy 32 = .ok (.iconst 0, 1) := by decide +kernel
theorem dX7_mercy_33 : decode cX7_mercy 33 = .ok (.istore 5, 2) := by decide +kernel
theorem dX7_mercy_35 : decode cX7_mercy 35 = .ok (.iload 5, 2) := by decide +kernel
theorem dX7_mercy_37 : decode cX7_mercy 37 = .ok (.aload_n 0, 1) := by decide +kernel
theorem dX7_mercy_38 : decode cX7_mercy 38 = .ok (.getfield 91, 3) := by decide +kernel
theorem dX7_mercy_41 : decode cX7_mercy 41 = .ok (.if_icmp .ge 48, 3) := by decide +kernel
theorem dX7_mercy_44 : decode cX7_mercy 44 = .ok (.aload_n 0, 1) := by decide +kernel
theorem dX7_mercy_45 : decode cX7_mercy 45 = .ok (.iload 5, 2) := by decide +kernel
theorem dX7_mercy_47 : decode cX7_mercy 47 = .ok (.iload_n 1, 1) := by decide +kernel
theorem dX7_mercy_48 : decode cX7_mercy 48 = .ok (.invokevirtual 243, 3) := by decide +kernel
theorem dX7_mercy_51 : decode cX7_mercy 51 = .ok (.istore 6, 2) := by decide +kernel
theorem dX7_mercy_53 : decode cX7_mercy 53 = .ok (.iload 6, 2) := by decide +kernel
theorem dX7_mercy_55 : decode cX7_mercy 55 = .ok (.iload 4, 2) := by decide +kernel
theorem dX7_mercy_57 : decode cX7_mercy 57 = .ok (.if_icmp .ge 8, 3) := by decide +kernel
theorem dX7_mercy_60 : decode cX7_mercy 60 = .ok (.iload 5, 2) := by decide +kernel
theorem dX7_mercy_62 : decode cX7_mercy 62 = .ok (.goto 4, 3) := by decide +kernel
theorem dX7_mercy_65 : decode cX7_mercy 65 = .ok (.iload_n 3, 1) := by decide +kernel
theorem dX7_mercy_66 : decode cX7_mercy 66 = .ok (.istore_n 3, 1) := by decide +kernel
theorem dX7_mercy_67 : decode cX7_mercy 67 = .ok (.iload 6, 2) := by decide +kernel
theorem dX7_mercy_69 : decode cX7_mercy 69 = .ok (.iload 4, 2) := by decide +kernel
theorem dX7_mercy_71 : decode cX7_mercy 71 = .ok (.if_icmp .ge 8, 3) := by decide +kernel
theorem dX7_mercy_74 : decode cX7_mercy 74 = .ok (.iload 6, 2) := by decide +kernel
theorem dX7_mercy_76 : decode cX7_mercy 76 = .ok (.goto 5, 3) := by decide +kernel
theorem dX7_mercy_79 : decode cX7_mercy 79 = .ok (.iload 4, 2) := by decide +kernel
theorem dX7_mercy_81 : decode cX7_mercy 81 = .ok (.istore 4, 2) := by decide +kernel
theorem dX7_mercy_83 : decode cX7_mercy 83 = .ok (.iinc 5 1, 3) := by decide +kernel
theorem dX7_mercy_86 : decode cX7_mercy 86 = .ok (.goto (-51), 3) := by decide +kernel
theorem dX7_mercy_89 : decode cX7_mercy 89 = .ok (.iload_n 2, 1) := by decide +kernel
theorem dX7_mercy_90 : decode cX7_mercy 90 = .ok (.ifCond .ne 7, 3) := by decide +kernel
theorem dX7_mercy_93 : decode cX7_mercy 93 = .ok (.iload_n 3, 1) := by decide +kernel
theorem dX7_mercy_94 : decode cX7_mercy 94 = .ok (.goto 5, 3) := by decide +kernel
theorem dX7_mercy_97 : decode cX7_mercy 97 = .ok (.iload 4, 2) := by decide +kernel
theorem dX7_mercy_99 : decode cX7_mercy 99 = .ok (.ireturn, 1) := by decide +kernel
theorem dX7_worst_0 : decode cX7_worst 0 = .ok (.iload_n 1, 1) := by decide +kernel
theorem dX7_worst_1 : decode cX7_worst 1 = .ok (.iconst 0, 1) := by decide +kernel
theorem dX7_worst_2 : decode cX7_worst 2 = .ok (.bipush 40, 2) := by decide +kernel
theorem dX7_worst_4 : decode cX7_worst 4 = .ok (.invokestatic 87, 3) := by decide +kernel
theorem dX7_worst_7 : decode cX7_worst 7 = .ok (.ifCond .eq 12, 3) := by decide +kernel
theorem dX7_worst_10 : decode cX7_worst 10 = .ok (.iload_n 2, 1) := by decide +kernel
theorem dX7_worst_11 : decode cX7_worst 11 = .ok (.iconst 0, 1) := by decide +kernel
theorem dX7_worst_12 : decode cX7_worst 12 = .ok (.iconst 1, 1) := by decide +kernel
theorem dX7_worst_13 : decode cX7_worst 13 = .ok (.invokestatic 87, 3) := by decide +kernel
theorem dX7_worst_16 : decode cX7_worst 16 = .ok (.ifCond .ne 6, 3) := by decide +kernel
theorem dX7_worst_19 : decode cX7_worst 19 = .ok (.bipush (-2), 2) := by decide +kernel
theorem dX7_worst_21 : decode cX7_worst 21 = .ok (.ireturn, 1) := by decide +kernel
theorem dX7_worst_22 : decode cX7_worst 22 = .ok (.iconst (-1), 1) := by decide +kernel
theorem dX7_worst_23 : decode cX7_worst 23 = .ok (.istore_n 3, 1) := by decide +kernel
theorem dX7_worst_24 : decode cX7_worst 24 = .ok (.iconst (-1), 1) := by decide +kernel
theorem dX7_worst_25 : decode cX7_worst 25 = .ok (.istore 4, 2) := by decide +kernel
theorem dX7_worst_27 : decode cX7_worst 27 = .ok (.iconst 0, 1) := by decide +kernel
theorem dX7_worst_28 : decode cX7_worst 28 = .ok (.istore 5, 2) := by decide +kernel
theorem dX7_worst_30 : decode cX7_worst 30 = .ok (.iload 5, 2) := by decide +kernel
theorem dX7_worst_32 : decode cX7_worst 32 = .ok (.aload_n 0, 1) := by decide +kernel
theorem dX7_worst_33 : decode cX7_worst 33 = .ok (.getfield 84, 3) := by decide +kernel
theorem dX7_worst_36 : decode cX7_worst 36 = .ok (.if_icmp .ge 106, 3) := by decide +kernel
theorem dX7_worst_39 : decode cX7_worst 39 = .ok (.aload_n 0, 1) := by decide +kernel
theorem dX7_worst_40 : decode cX7_worst 40 = .ok (.invokevirtual 227, 3) := by decide +kernel
theorem dX7_worst_43 : decode cX7_worst 43 = .ok (.aload_n 0, 1) := by decide +kernel
theorem dX7_worst_44 : decode cX7_worst 44 = .ok (.getfield 16, 3) := by decide +kernel
theorem dX7_worst_47 : decode cX7_worst 47 = .ok (.iconst 3, 1) := by decide +kernel
theorem dX7_worst_48 : decode cX7_worst 48 = .ok (.iload 5, 2) := by decide +kernel
theorem dX7_worst_50 : decode cX7_worst 50 = .ok (.imul, 1) := by decide +kernel
theorem dX7_worst_51 : decode cX7_worst 51 = .ok (.iconst 0, 1) := by decide +kernel
theorem dX7_worst_52 : decode cX7_worst 52 = .ok (.iastore, 1) := by decide +kernel
theorem dX7_worst_53 : decode cX7_worst 53 = .ok (.aload_n 0, 1) := by decide +kernel
theorem dX7_worst_54 : decode cX7_worst 54 = .ok (.getfield 16, 3) := by decide +kernel
theorem dX7_worst_57 : decode cX7_worst 57 = .ok (.iconst 3, 1) := by decide +kernel
theorem dX7_worst_58 : decode cX7_worst 58 = .ok (.iload 5, 2) := by decide +kernel
theorem dX7_worst_60 : decode cX7_worst 60 = .ok (.imul, 1) := by decide +kernel
theorem dX7_worst_61 : decode cX7_worst 61 = .ok (.iconst 1, 1) := by decide +kernel
theorem dX7_worst_62 : decode cX7_worst 62 = .ok (.iadd, 1) := by decide +kernel
theorem dX7_worst_63 : decode cX7_worst 63 = .ok (.iconst 0, 1) := by decide +kernel
theorem dX7_worst_64 : decode cX7_worst 64 = .ok (.iastore, 1) := by decide +kernel
theorem dX7_worst_65 : decode cX7_worst 65 = .ok (.aload_n 0, 1) := by decide +kernel
theorem dX7_worst_66 : decode cX7_worst 66 = .ok (.iload_n 1, 1) := by decide +kernel
theorem dX7_worst_67 : decode cX7_worst 67 = .ok (.invokevirtual 230, 3) := by decide +kernel
theorem dX7_worst_70 : decode cX7_worst 70 = .ok (.pop, 1) := by decide +kernel
theorem dX7_worst_71 : decode cX7_worst 71 = .ok (.aload_n 0, 1) := by decide +kernel
theorem dX7_worst_72 : decode cX7_worst 72 = .ok (.invokevirtual 97, 3) := by decide +kernel
theorem dX7_worst_75 : decode cX7_worst 75 = .ok (.aload_n 0, 1) := by decide +kernel
theorem dX7_worst_76 : decode cX7_worst 76 = .ok (.getfield 16, 3) := by decide +kernel
theorem dX7_worst_79 : decode cX7_worst 79 = .ok (.iconst 3, 1) := by decide +kernel
theorem dX7_worst_80 : decode cX7_worst 80 = .ok (.iload 5, 2) := by decide +kernel
theorem dX7_worst_82 : decode cX7_worst 82 = .ok (.imul, 1) := by decide +kernel
theorem dX7_worst_83 : decode cX7_worst 83 = .ok (.iaload, 1) := by decide +kernel
theorem dX7_worst_84 : decode cX7_worst 84 = .ok (.isub, 1) := by decide +kernel
theorem dX7_worst_85 : decode cX7_worst 85 = .ok (.istore 6, 2) := by decide +kernel
theorem dX7_worst_87 : decode cX7_worst 87 = .ok (.aload_n 0, 1) := by decide +kernel
theorem dX7_worst_88 : decode cX7_worst 88 = .ok (.invokevirtual 233, 3) := by decide +kernel
theorem dX7_worst_91 : decode cX7_worst 91 = .ok (.iload_n 3, 1) := by decide +kernel
theorem dX7_worst_92 : decode cX7_worst 92 = .ok (.iconst (-1), 1) := by decide +kernel
theorem dX7_worst_93 : decode cX7_worst 93 = .ok (.if_icmp .eq 10, 3) := by decide +kernel
theorem dX7_worst_96 : decode cX7_worst 96 = .ok (.iload 6, 2) := by decide +kernel
theorem dX7_worst_98 : decode cX7_worst 98 = .ok (.iload 4, 2) := by decide +kernel
theorem dX7_worst_100 : decode cX7_worst 100 = .ok (.if_icmp .ge 7, 3) := by decide +kernel
theorem dX7_worst_103 : decode cX7_worst 103 = .ok (.iconst 1, 1) := by decide +kernel
theorem dX7_worst_104 : decode cX7_worst 104 = .ok (.goto 4, 3) := by decide +kernel
theorem dX7_worst_107 : decode cX7_worst 107 = .ok (.iconst 0, 1) := by decide +kernel
theorem dX7_worst_108 : decode cX7_worst 108 = .ok (.istore 7, 2) := by decide +kernel
theorem dX7_worst_110 : decode cX7_worst 110 = .ok (.iload 7, 2) := by decide +kernel
theorem dX7_worst_112 : decode cX7_worst 112 = .ok (.ifCond .eq 8, 3) := by decide +kernel
theorem dX7_worst_115 : decode cX7_worst 115 = .ok (.iload 5, 2) := by decide +kernel
theorem dX7_worst_117 : decode cX7_worst 117 = .ok (.goto 4, 3) := by decide +kernel
theorem dX7_worst_120 : decode cX7_worst 120 = .ok (.iload_n 3, 1) := by decide +kernel
theorem dX7_worst_121 : decode cX7_worst 121 = .ok (.istore_n 3, 1) := by decide +kernel
theorem dX7_worst_122 : decode cX7_worst 122 = .ok (.iload 7, 2) := by decide +kernel
theorem dX7_worst_124 : decode cX7_worst 124 = .ok (.ifCond .eq 8, 3) := by decide +kernel
theorem dX7_worst_127 : decode cX7_worst 127 = .ok (.iload 6, 2) := by decide +kernel
theorem dX7_worst_129 : decode cX7_worst 129 = .ok (.goto 5, 3) := by decide +kernel
theorem dX7_worst_132 : decode cX7_worst 132 = .ok (.iload 4, 2) := by decide +kernel
theorem dX7_worst_134 : decode cX7_worst 134 = .ok (.istore 4, 2) := by decide +kernel
theorem dX7_worst_136 : decode cX7_worst 136 = .ok (.iinc 5 1, 3) := by decide +kernel
theorem dX7_worst_139 : decode cX7_worst 139 = .ok (.goto (-109), 3) := by decide +kernel
theorem dX7_worst_142 : decode cX7_worst 142 = .ok (.iload_n 2, 1) := by decide +kernel
theorem dX7_worst_143 : decode cX7_worst 143 = .ok (.ifCond .ne 7, 3) := by decide +kernel
theorem dX7_worst_146 : decode cX7_worst 146 = .ok (.iload_n 3, 1) := by decide +kernel
theorem dX7_worst_147 : decode cX7_worst 147 = .ok (.goto 5, 3) := by decide +kernel
theorem dX7_worst_150 : decode cX7_worst 150 = .ok (.iload 4, 2) := by decide +kernel
theorem dX7_worst_152 : decode cX7_worst 152 = .ok (.ireturn, 1) := by decide +kernel
theorem dX7_sheetWrong_0 : decode cX7_sheetWrong 0 = .ok (.iload_n 1, 1) := by decide +kernel
theorem dX7_sheetWrong_1 : decode cX7_sheetWrong 1 = .ok (.iconst 0, 1) := by decide +kernel
theorem dX7_sheetWrong_2 : decode cX7_sheetWrong 2 = .ok (.iconst 3, 1) := by decide +kernel
theorem dX7_sheetWrong_3 : decode cX7_sheetWrong 3 = .ok (.invokestatic 87, 3) := by decide +kernel
theorem dX7_sheetWrong_6 : decode cX7_sheetWrong 6 = .ok (.ifCond .ne 6, 3) := by decide +kernel
theorem dX7_sheetWrong_9 : decode cX7_sheetWrong 9 = .ok (.bipush (-2), 2) := by decide +kernel
theorem dX7_sheetWrong_11 : decode cX7_sheetWrong 11 = .ok (.ireturn, 1) := by decide +kernel
theorem dX7_sheetWrong_12 : decode cX7_sheetWrong 12 = .ok (.aload_n 0, 1) := by decide +kernel
theorem dX7_sheetWrong_13 : decode cX7_sheetWrong 13 = .ok (.getfield 46, 3) := by decide +kernel
theorem dX7_sheetWrong_16 : decode cX7_sheetWrong 16 = .ok (.iload_n 1, 1) := by decide +kernel
theorem dX7_sheetWrong_17 : decode cX7_sheetWrong 17 = .ok (.iaload, 1) := by decide +kernel
theorem dX7_sheetWrong_18 : decode cX7_sheetWrong 18 = .ok (.iconst (-1), 1) := by decide +kernel
theorem dX7_sheetWrong_19 : decode cX7_sheetWrong 19 = .ok (.if_icmp .ne 6, 3) := by decide +kernel
theorem dX7_sheetWrong_22 : decode cX7_sheetWrong 22 = .ok (.bipush (-11), 2) := by decide +kernel
theorem dX7_sheetWrong_24 : decode cX7_sheetWrong 24 = .ok (.ireturn, 1) := by decide +kernel
theorem dX7_sheetWrong_25 : decode cX7_sheetWrong 25 = .ok (.aload_n 0, 1) := by decide +kernel
theorem dX7_sheetWrong_26 : decode cX7_sheetWrong 26 = .ok (.getfield 49, 3) := by decide +kernel
theorem dX7_sheetWrong_29 : decode cX7_sheetWrong 29 = .ok (.iload_n 1, 1) := by decide +kernel
theorem dX7_sheetWrong_30 : decode cX7_sheetWrong 30 = .ok (.iaload, 1) := by decide +kernel
theorem dX7_sheetWrong_31 : decode cX7_sheetWrong 31 = .ok (.bipush 20, 2) := by decide +kernel
theorem dX7_sheetWrong_33 : decode cX7_sheetWrong 33 = .ok (.if_icmp .le 8, 3) := by decide +kernel
theorem dX7_sheetWrong_36 : decode cX7_sheetWrong 36 = .ok (.bipush (-2), 2) := by decide +kernel
theorem dX7_sheetWrong_38 : decode cX7_sheetWrong 38 = .ok (.goto 4, 3) := by decide +kernel
theorem dX7_sheetWrong_41 : decode cX7_sheetWrong 41 = .ok (.iconst 0, 1) := by decide +kernel
theorem dX7_sheetWrong_42 : decode cX7_sheetWrong 42 = .ok (.ireturn, 1) := by decide +kernel
theorem dX7_toldWrong_0 : decode cX7_toldWrong 0 = .ok (.aload_n 0, 1) := by decide +kernel
theorem dX7_toldWrong_1 : decode cX7_toldWrong 1 = .ok (.iload_n 1, 1) := by decide +kernel
theorem dX7_toldWrong_2 : decode cX7_toldWrong 2 = .ok (.invokevirtual 246, 3) := by decide +kernel
theorem dX7_toldWrong_5 : decode cX7_toldWrong 5 = .ok (.istore_n 3, 1) := by decide +kernel
theorem dX7_toldWrong_6 : decode cX7_toldWrong 6 = .ok (.iload_n 3, 1) := by decide +kernel
theorem dX7_toldWrong_7 : decode cX7_toldWrong 7 = .ok (.ifCond .eq 7, 3) := by decide +kernel
theorem dX7_toldWrong_10 : decode cX7_toldWrong 10 = .ok (.iload_n 3, 1) := by decide +kernel
theorem dX7_toldWrong_11 : decode cX7_toldWrong 11 = .ok (.goto 17, 3) := by decide +kernel
theorem dX7_toldWrong_14 : decode cX7_toldWrong 14 = .ok (.aload_n 0, 1) := by decide +kernel
theorem dX7_toldWrong_15 : decode cX7_toldWrong 15 = .ok (.iload_n 2, 1) := by decide +kernel
theorem dX7_toldWrong_16 : decode cX7_toldWrong 16 = .ok (.invokevirtual 179, 3) := by decide +kernel
theorem dX7_toldWrong_19 : decode cX7_toldWrong 19 = .ok (.ifCond .eq 7, 3) := by decide +kernel
theorem dX7_toldWrong_22 : decode cX7_toldWrong 22 = .ok (.iconst 0, 1) := by decide +kernel
theorem dX7_toldWrong_23 : decode cX7_toldWrong 23 = .ok (.goto 5, 3) := by decide +kernel
theorem dX7_toldWrong_26 : decode cX7_toldWrong 26 = .ok (.bipush (-5), 2) := by decide +kernel
theorem dX7_toldWrong_28 : decode cX7_toldWrong 28 = .ok (.ireturn, 1) := by decide +kernel
theorem dX7_unlike_0 : decode cX7_unlike 0 = .ok (.iconst (-1), 1) := by decide +kernel
theorem dX7_unlike_1 : decode cX7_unlike 1 = .ok (.istore_n 3, 1) := by decide +kernel
theorem dX7_unlike_2 : decode cX7_unlike 2 = .ok (.aload_n 0, 1) := by decide +kernel
theorem dX7_unlike_3 : decode cX7_unlike 3 = .ok (.invokevirtual 227, 3) := by decide +kernel
theorem dX7_unlike_6 : decode cX7_unlike 6 = .ok (.iconst 0, 1) := by decide +kernel
theorem dX7_unlike_7 : decode cX7_unlike 7 = .ok (.istore 4, 2) := by decide +kernel
theorem dX7_unlike_9 : decode cX7_unlike 9 = .ok (.iload 4, 2) := by decide +kernel
theorem dX7_unlike_11 : decode cX7_unlike 11 = .ok (.aload_n 0, 1) := by decide +kernel
theorem dX7_unlike_12 : decode cX7_unlike 12 = .ok (.getfield 49, 3) := by decide +kernel
theorem dX7_unlike_15 : decode cX7_unlike 15 = .ok (.iload_n 1, 1) := by decide +kernel
theorem dX7_unlike_16 : decode cX7_unlike 16 = .ok (.iaload, 1) := by decide +kernel
theorem dX7_unlike_17 : decode cX7_unlike 17 = .ok (.if_icmp .ge 49, 3) := by decide +kernel
theorem dX7_unlike_20 : decode cX7_unlike 20 = .ok (.iload_n 3, 1) := by decide +kernel
theorem dX7_unlike_21 : decode cX7_unlike 21 = .ok (.iconst (-1), 1) := by decide +kernel
theorem dX7_unlike_22 : decode cX7_unlike 22 = .ok (.if_icmp .ne 44, 3) := by decide +kernel
theorem dX7_unlike_25 : decode cX7_unlike 25 = .ok (.aload_n 0, 1) := by decide +kernel
theorem dX7_unlike_26 : decode cX7_unlike 26 = .ok (.invokevirtual 224, 3) := by decide +kernel
theorem dX7_unlike_29 : decode cX7_unlike 29 = .ok (.pop, 1) := by decide +kernel
theorem dX7_unlike_30 : decode cX7_unlike 30 = .ok (.aload_n 0, 1) := by decide +kernel
theorem dX7_unlike_31 : decode cX7_unlike 31 = .ok (.getfield 52, 3) := by decide +kernel
theorem dX7_unlike_34 : decode cX7_unlike 34 = .ok (.bipush 40, 2) := by decide +kernel
theorem dX7_unlike_36 : decode cX7_unlike 36 = .ok (.iload_n 1, 1) := by decide +kernel
theorem dX7_unlike_37 : decode cX7_unlike 37 = .ok (.imul, 1) := by decide +kernel
theorem dX7_unlike_38 : decode cX7_unlike 38 = .ok (.iload 4, 2) := by decide +kernel
theorem dX7_unlike_40 : decode cX7_unlike 40 = .ok (.iadd, 1) := by decide +kernel
theorem dX7_unlike_41 : decode cX7_unlike 41 = .ok (.iaload, 1) := by decide +kernel
theorem dX7_unlike_42 : decode cX7_unlike 42 = .ok (.aload_n 0, 1) := by decide +kernel
theorem dX7_unlike_43 : decode cX7_unlike 43 = .ok (.getfield 16, 3) := by decide +kernel
theorem dX7_unlike_46 : decode cX7_unlike 46 = .ok (.iconst 3, 1) := by decide +kernel
theorem dX7_unlike_47 : decode cX7_unlike 47 = .ok (.iload_n 2, 1) := by decide +kernel
theorem dX7_unlike_48 : decode cX7_unlike 48 = .ok (.imul, 1) := by decide +kernel
theorem dX7_unlike_49 : decode cX7_unlike 49 = .ok (.iaload, 1) := by decide +kernel
theorem dX7_unlike_50 : decode cX7_unlike 50 = .ok (.if_icmp .ne 7, 3) := by decide +kernel
theorem dX7_unlike_53 : decode cX7_unlike 53 = .ok (.iconst (-1), 1) := by decide +kernel
theorem dX7_unlike_54 : decode cX7_unlike 54 = .ok (.goto 5, 3) := by decide +kernel
theorem dX7_unlike_57 : decode cX7_unlike 57 = .ok (.iload 4, 2) := by decide +kernel
theorem dX7_unlike_59 : decode cX7_unlike 59 = .ok (.istore_n 3, 1) := by decide +kernel
theorem dX7_unlike_60 : decode cX7_unlike 60 = .ok (.iinc 4 1, 3) := by decide +kernel
theorem dX7_unlike_63 : decode cX7_unlike 63 = .ok (.goto (-54), 3) := by decide +kernel
theorem dX7_unlike_66 : decode cX7_unlike 66 = .ok (.aload_n 0, 1) := by decide +kernel
theorem dX7_unlike_67 : decode cX7_unlike 67 = .ok (.invokevirtual 233, 3) := by decide +kernel
theorem dX7_unlike_70 : decode cX7_unlike 70 = .ok (.iload_n 3, 1) := by decide +kernel
theorem dX7_unlike_71 : decode cX7_unlike 71 = .ok (.ireturn, 1) := by decide +kernel
theorem dX7_judge_0 : decode cX7_judge 0 = .ok (.aload_n 0, 1) := by decide +kernel
theorem dX7_judge_1 : decode cX7_judge 1 = .ok (.iload_n 1, 1) := by decide +kernel
theorem dX7_judge_2 : decode cX7_judge 2 = .ok (.iload_n 2, 1) := by decide +kernel
theorem dX7_judge_3 : decode cX7_judge 3 = .ok (.invokevirtual 249, 3) := by decide +kernel
theorem dX7_judge_6 : decode cX7_judge 6 = .ok (.istore_n 3, 1) := by decide +kernel
theorem dX7_judge_7 : decode cX7_judge 7 = .ok (.iload_n 3, 1) := by decide +kernel
theorem dX7_judge_8 : decode cX7_judge 8 = .ok (.ifCond .ne 12, 3) := by decide +kernel
theorem dX7_judge_11 : decode cX7_judge 11 = .ok (.aload_n 0, 1) := by decide +kernel
theorem dX7_judge_12 : decode cX7_judge 12 = .ok (.iload_n 1, 1) := by decide +kernel
theorem dX7_judge_13 : decode cX7_judge 13 = .ok (.iload_n 2, 1) := by decide +kernel
theorem dX7_judge_14 : decode cX7_judge 14 = .ok (.invokevirtual 252, 3) := by decide +kernel
theorem dX7_judge_17 : decode cX7_judge 17 = .ok (.goto 4, 3) := by decide +kernel
theorem dX7_judge_20 : decode cX7_judge 20 = .ok (.iload_n 3, 1) := by decide +kernel
theorem dX7_judge_21 : decode cX7_judge 21 = .ok (.ireturn, 1) := by decide +kernel
theorem dX7_kinds_0 : decode cX7_kinds 0 = .ok (.aload_n 0, 1) := by decide +kernel
theorem dX7_kinds_1 : decode cX7_kinds 1 = .ok (.iload_n 1, 1) := by decide +kernel
theorem dX7_kinds_2 : decode cX7_kinds 2 = .ok (.iload_n 2, 1) := by decide +kernel
theorem dX7_kinds_3 : decode cX7_kinds 3 = .ok (.invokevirtual 249, 3) := by decide +kernel
theorem dX7_kinds_6 : decode cX7_kinds 6 = .ok (.istore 4, 2) := by decide +kernel
theorem dX7_kinds_8 : decode cX7_kinds 8 = .ok (.iload 4, 2) := by decide +kernel
theorem dX7_kinds_10 : decode cX7_kinds 10 = .ok (.ifCond .eq 6, 3) := by decide +kernel
theorem dX7_kinds_13 : decode cX7_kinds 13 = .ok (.iload 4, 2) := by decide +kernel
theorem dX7_kinds_15 : decode cX7_kinds 15 = .ok (.ireturn, 1) := by decide +kernel
theorem dX7_kinds_16 : decode cX7_kinds 16 = .ok (.iload_n 3, 1) := by decide +kernel
theorem dX7_kinds_17 : decode cX7_kinds 17 = .ok (.iconst 0, 1) := by decide +kernel
theorem dX7_kinds_18 : decode cX7_kinds 18 = .ok (.iconst 1, 1) := by decide +kernel
theorem dX7_kinds_19 : decode cX7_kinds 19 = .ok (.invokestatic 87, 3) := by decide +kernel
theorem dX7_kinds_22 : decode cX7_kinds 22 = .ok (.ifCond .ne 6, 3) := by decide +kernel
theorem dX7_kinds_25 : decode cX7_kinds 25 = .ok (.bipush (-7), 2) := by decide +kernel
theorem dX7_kinds_27 : decode cX7_kinds 27 = .ok (.ireturn, 1) := by decide +kernel
theorem dX7_kinds_28 : decode cX7_kinds 28 = .ok (.aload_n 0, 1) := by decide +kernel
theorem dX7_kinds_29 : decode cX7_kinds 29 = .ok (.getfield 7, 3) := by decide +kernel
theorem dX7_kinds_32 : decode cX7_kinds 32 = .ok (.iload_n 2, 1) := by decide +kernel
theorem dX7_kinds_33 : decode cX7_kinds 33 = .ok (.iaload, 1) := by decide +kernel
theorem dX7_kinds_34 : decode cX7_kinds 34 = .ok (.istore 5, 2) := by decide +kernel
theorem dX7_kinds_36 : decode cX7_kinds 36 = .ok (.aload_n 0, 1) := by decide +kernel
theorem dX7_kinds_37 : decode cX7_kinds 37 = .ok (.getfield 13, 3) := by decide +kernel
theorem dX7_kinds_40 : decode cX7_kinds 40 = .ok (.iload_n 2, 1) := by decide +kernel
theorem dX7_kinds_41 : decode cX7_kinds 41 = .ok (.iaload, 1) := by decide +kernel
theorem dX7_kinds_42 : decode cX7_kinds 42 = .ok (.istore 6, 2) := by decide +kernel
theorem dX7_kinds_44 : decode cX7_kinds 44 = .ok (.iconst 0, 1) := by decide +kernel
theorem dX7_kinds_45 : decode cX7_kinds 45 = .ok (.istore 7, 2) := by decide +kernel
theorem dX7_kinds_47 : decode cX7_kinds 47 = .ok (.iconst 0, 1) := by decide +kernel
theorem dX7_kinds_48 : decode cX7_kinds 48 = .ok (.istore 8, 2) := by decide +kernel
theorem dX7_kinds_50 : decode cX7_kinds 50 = .ok (.iload 8, 2) := by decide +kernel
theorem dX7_kinds_52 : decode cX7_kinds 52 = .ok (.iload_n 3, 1) := by decide +kernel
theorem dX7_kinds_53 : decode cX7_kinds 53 = .ok (.ifCond .ne 8, 3) := by decide +kernel
theorem dX7_kinds_56 : decode cX7_kinds 56 = .ok (.bipush 6, 2) := by decide +kernel
theorem dX7_kinds_58 : decode cX7_kinds 58 = .ok (.goto 5, 3) := by decide +kernel
theorem dX7_kinds_61 : decode cX7_kinds 61 = .ok (.bipush 10, 2) := by decide +kernel
theorem dX7_kinds_63 : decode cX7_kinds 63 = .ok (.if_icmp .ge 67, 3) := by decide +kernel
theorem dX7_kinds_66 : decode cX7_kinds 66 = .ok (.aload_n 0, 1) := by decide +kernel
theorem dX7_kinds_67 : decode cX7_kinds 67 = .ok (.getfield 7, 3) := by decide +kernel
theorem dX7_kinds_70 : decode cX7_kinds 70 = .ok (.iload_n 2, 1) := by decide +kernel
theorem dX7_kinds_71 : decode cX7_kinds 71 = .ok (.iload_n 3, 1) := by decide +kernel
theorem dX7_kinds_72 : decode cX7_kinds 72 = .ok (.ifCond .ne 8, 3) := by decide +kernel
theorem dX7_kinds_75 : decode cX7_kinds 75 = .ok (.iload 8, 2) := by decide +kernel
theorem dX7_kinds_77 : decode cX7_kinds 77 = .ok (.goto 5, 3) := by decide +kernel
theorem dX7_kinds_80 : decode cX7_kinds 80 = .ok (.iload 5, 2) := by decide +kernel
theorem dX7_kinds_82 : decode cX7_kinds 82 = .ok (.iastore, 1) := by decide +kernel
theorem dX7_kinds_83 : decode cX7_kinds 83 = .ok (.aload_n 0, 1) := by decide +kernel
theorem dX7_kinds_84 : decode cX7_kinds 84 = .ok (.getfield 13, 3) := by decide +kernel
theorem dX7_kinds_87 : decode cX7_kinds 87 = .ok (.iload_n 2, 1) := by decide +kernel
theorem dX7_kinds_88 : decode cX7_kinds 88 = .ok (.iload_n 3, 1) := by decide +kernel
theorem dX7_kinds_89 : decode cX7_kinds 89 = .ok (.iconst 1, 1) := by decide +kernel
theorem dX7_kinds_90 : decode cX7_kinds 90 = .ok (.if_icmp .ne 8, 3) := by decide +kernel
theorem dX7_kinds_93 : decode cX7_kinds 93 = .ok (.iload 8, 2) := by decide +kernel
theorem dX7_kinds_95 : decode cX7_kinds 95 = .ok (.goto 5, 3) := by decide +kernel
theorem dX7_kinds_98 : decode cX7_kinds 98 = .ok (.iload 6, 2) := by decide +kernel
theorem dX7_kinds_100 : decode cX7_kinds 100 = .ok (.iastore, 1) := by decide +kernel
theorem dX7_kinds_101 : decode cX7_kinds 101 = .ok (.iload 7, 2) := by decide +kernel
theorem dX7_kinds_103 : decode cX7_kinds 103 = .ok (.aload_n 0, 1) := by decide +kernel
theorem dX7_kinds_104 : decode cX7_kinds 104 = .ok (.iload_n 1, 1) := by decide +kernel
theorem dX7_kinds_105 : decode cX7_kinds 105 = .ok (.iload_n 2, 1) := by decide +kernel
theorem dX7_kinds_106 : decode cX7_kinds 106 = .ok (.invokevirtual 252, 3) := by decide +kernel
theorem dX7_kinds_109 : decode cX7_kinds 109 = .ok (.iconst (-1), 1) := by decide +kernel
theorem dX7_kinds_110 : decode cX7_kinds 110 = .ok (.if_icmp .ne 10, 3) := by decide +kernel
theorem dX7_kinds_113 : decode cX7_kinds 113 = .ok (.iconst 1, 1) := by decide +kernel
theorem dX7_kinds_114 : decode cX7_kinds 114 = .ok (.iload 8, 2) := by decide +kernel
theorem dX7_kinds_116 : decode cX7_kinds 116 = .ok (.ishl, 1) := by decide +kernel
theorem dX7_kinds_117 : decode cX7_kinds 117 = .ok (.goto 4, 3) := by decide +kernel
theorem dX7_kinds_120 : decode cX7_kinds 120 = .ok (.iconst 0, 1) := by decide +kernel
theorem dX7_kinds_121 : decode cX7_kinds 121 = .ok (.ior, 1) := by decide +kernel
theorem dX7_kinds_122 : decode cX7_kinds 122 = .ok (.istore 7, 2) := by decide +kernel
theorem dX7_kinds_124 : decode cX7_kinds 124 = .ok (.iinc 8 1, 3) := by decide +kernel
theorem dX7_kinds_127 : decode cX7_kinds 127 = .ok (.goto (-77), 3) := by decide +kernel
theorem dX7_kinds_130 : decode cX7_kinds 130 = .ok (.aload_n 0, 1) := by decide +kernel
theorem dX7_kinds_131 : decode cX7_kinds 131 = .ok (.getfield 7, 3) := by decide +kernel
theorem dX7_kinds_134 : decode cX7_kinds 134 = .ok (.iload_n 2, 1) := by decide +kernel
theorem dX7_kinds_135 : decode cX7_kinds 135 = .ok (.iload 5, 2) := by decide +kernel
theorem dX7_kinds_137 : decode cX7_kinds 137 = .ok (.iastore, 1) := by decide +kernel
theorem dX7_kinds_138 : decode cX7_kinds 138 = .ok (.aload_n 0, 1) := by decide +kernel
theorem dX7_kinds_139 : decode cX7_kinds 139 = .ok (.getfield 13, 3) := by decide +kernel
theorem dX7_kinds_142 : decode cX7_kinds 142 = .ok (.iload_n 2, 1) := by decide +kernel
theorem dX7_kinds_143 : decode cX7_kinds 143 = .ok (.iload 6, 2) := by decide +kernel
theorem dX7_kinds_145 : decode cX7_kinds 145 = .ok (.iastore, 1) := by decide +kernel
theorem dX7_kinds_146 : decode cX7_kinds 146 = .ok (.iload 7, 2) := by decide +kernel
theorem dX7_kinds_148 : decode cX7_kinds 148 = .ok (.ireturn, 1) := by decide +kernel
theorem dX7_states_0 : decode cX7_states 0 = .ok (.aload_n 0, 1) := by decide +kernel
theorem dX7_states_1 : decode cX7_states 1 = .ok (.iload_n 1, 1) := by decide +kernel
theorem dX7_states_2 : decode cX7_states 2 = .ok (.iload_n 2, 1) := by decide +kernel
theorem dX7_states_3 : decode cX7_states 3 = .ok (.invokevirtual 249, 3) := by decide +kernel
theorem dX7_states_6 : decode cX7_states 6 = .ok (.istore 5, 2) := by decide +kernel
theorem dX7_states_8 : decode cX7_states 8 = .ok (.iload 5, 2) := by decide +kernel
theorem dX7_states_10 : decode cX7_states 10 = .ok (.ifCond .eq 6, 3) := by decide +kernel
theorem dX7_states_13 : decode cX7_states 13 = .ok (.iload 5, 2) := by decide +kernel
theorem dX7_states_15 : decode cX7_states 15 = .ok (.ireturn, 1) := by decide +kernel
theorem dX7_states_16 : decode cX7_states 16 = .ok (.iload_n 3, 1) := by decide +kernel
theorem dX7_states_17 : decode cX7_states 17 = .ok (.iconst 0, 1) := by decide +kernel
theorem dX7_states_18 : decode cX7_states 18 = .ok (.iconst 2, 1) := by decide +kernel
theorem dX7_states_19 : decode cX7_states 19 = .ok (.invokestatic 87, 3) := by decide +kernel
theorem dX7_states_22 : decode cX7_states 22 = .ok (.ifCond .eq 13, 3) := by decide +kernel
theorem dX7_states_25 : decode cX7_states 25 = .ok (.iload 4, 2) := by decide +kernel
theorem dX7_states_27 : decode cX7_states 27 = .ok (.iconst 0, 1) := by decide +kernel
theorem dX7_states_28 : decode cX7_states 28 = .ok (.iconst 1, 1) := by decide +kernel
theorem dX7_states_29 : decode cX7_states 29 = .ok (.invokestatic 87, 3) := by decide +kernel
theorem dX7_states_32 : decode cX7_states 32 = .ok (.ifCond .ne 6, 3) := by decide +kernel
theorem dX7_states_35 : decode cX7_states 35 = .ok (.bipush (-7), 2) := by decide +kernel
theorem dX7_states_37 : decode cX7_states 37 = .ok (.ireturn, 1) := by decide +kernel
theorem dX7_states_38 : decode cX7_states 38 = .ok (.aload_n 0, 1) := by decide +kernel
theorem dX7_states_39 : decode cX7_states 39 = .ok (.getfield 16, 3) := by decide +kernel
theorem dX7_states_42 : decode cX7_states 42 = .ok (.iconst 3, 1) := by decide +kernel
theorem dX7_states_43 : decode cX7_states 43 = .ok (.iload_n 2, 1) := by decide +kernel
theorem dX7_states_44 : decode cX7_states 44 = .ok (.imul, 1) := by decide +kernel
theorem dX7_states_45 : decode cX7_states 45 = .ok (.iload_n 3, 1) := by decide +kernel
theorem dX7_states_46 : decode cX7_states 46 = .ok (.iadd, 1) := by decide +kernel
theorem dX7_states_47 : decode cX7_states 47 = .ok (.iaload, 1) := by decide +kernel
theorem dX7_states_48 : decode cX7_states 48 = .ok (.istore 6, 2) := by decide +kernel
theorem dX7_states_50 : decode cX7_states 50 = .ok (.iconst 0, 1) := by decide +kernel
theorem dX7_states_51 : decode cX7_states 51 = .ok (.istore 7, 2) := by decide +kernel
theorem dX7_states_53 : decode cX7_states 53 = .ok (.iconst (-1), 1) := by decide +kernel
theorem dX7_states_54 : decode cX7_states 54 = .ok (.istore 8, 2) := by decide +kernel
theorem dX7_states_56 : decode cX7_states 56 = .ok (.iconst 0, 1) := by decide +kernel
theorem dX7_states_57 : decode cX7_states 57 = .ok (.istore 9, 2) := by decide +kernel
theorem dX7_states_59 : decode cX7_states 59 = .ok (.iload 9, 2) := by decide +kernel
theorem dX7_states_61 : decode cX7_states 61 = .ok (.iload_n 3, 1) := by decide +kernel
theorem dX7_states_62 : decode cX7_states 62 = .ok (.ifCond .ne 9, 3) := by decide +kernel
theorem dX7_states_65 : decode cX7_states 65 = .ok (.sipush 299, 3) := by decide +kernel
theorem dX7_states_68 : decode cX7_states 68 = .ok (.goto 5, 3) := by decide +kernel
theorem dX7_states_71 : decode cX7_states 71 = .ok (.bipush 99, 2) := by decide +kernel
theorem dX7_states_73 : decode cX7_states 73 = .ok (.if_icmp .gt 73, 3) := by decide +kernel
theorem dX7_states_76 : decode cX7_states 76 = .ok (.aload_n 0, 1) := by decide +kernel
theorem dX7_states_77 : decode cX7_states 77 = .ok (.getfield 16, 3) := by decide +kernel
theorem dX7_states_80 : decode cX7_states 80 = .ok (.iconst 3, 1) := by decide +kernel
theorem dX7_states_81 : decode cX7_states 81 = .ok (.iload_n 2, 1) := by decide +kernel
theorem dX7_states_82 : decode cX7_states 82 = .ok (.imul, 1) := by decide +kernel
theorem dX7_states_83 : decode cX7_states 83 = .ok (.iload_n 3, 1) := by decide +kernel
theorem dX7_states_84 : decode cX7_states 84 = .ok (.iadd, 1) := by decide +kernel
theorem dX7_states_85 : decode cX7_states 85 = .ok (.iload 9, 2) := by decide +kernel
theorem dX7_states_87 : decode cX7_states 87 = .ok (.iastore, 1) := by decide +kernel
theorem dX7_states_88 : decode cX7_states 88 = .ok (.aload_n 0, 1) := by decide +kernel
theorem dX7_states_89 : decode cX7_states 89 = .ok (.iload_n 1, 1) := by decide +kernel
theorem dX7_states_90 : decode cX7_states 90 = .ok (.iload_n 2, 1) := by decide +kernel
theorem dX7_states_91 : decode cX7_states 91 = .ok (.invokevirtual 252, 3) := by decide +kernel
theorem dX7_states_94 : decode cX7_states 94 = .ok (.iconst (-1), 1) := by decide +kernel
theorem dX7_states_95 : decode cX7_states 95 = .ok (.if_icmp .ne 7, 3) := by decide +kernel
theorem dX7_states_98 : decode cX7_states 98 = .ok (.iconst 1, 1) := by decide +kernel
theorem dX7_states_99 : decode cX7_states 99 = .ok (.goto 4, 3) := by decide +kernel
theorem dX7_states_102 : decode cX7_states 102 = .ok (.iconst 0, 1) := by decide +kernel
theorem dX7_states_103 : decode cX7_states 103 = .ok (.istore 10, 2) := by decide +kernel
theorem dX7_states_105 : decode cX7_states 105 = .ok (.iload 7, 2) := by decide +kernel
theorem dX7_states_107 : decode cX7_states 107 = .ok (.iload 10, 2) := by decide +kernel
theorem dX7_states_109 : decode cX7_states 109 = .ok (.ifCond .eq 7, 3) := by decide +kernel
theorem dX7_states_112 : decode cX7_states 112 = .ok (.iconst 1, 1) := by decide +kernel
theorem dX7_states_113 : decode cX7_states 113 = .ok (.goto 4, 3) := by decide +kernel
theorem dX7_states_116 : decode cX7_states 116 = .ok (.iconst 0, 1) := by decide +kernel
theorem dX7_states_117 : decode cX7_states 117 = .ok (.iadd, 1) := by decide +kernel
theorem dX7_states_118 : decode cX7_states 118 = .ok (.istore 7, 2) := by decide +kernel
theorem dX7_states_120 : decode cX7_states 120 = .ok (.iload 10, 2) := by decide +kernel
theorem dX7_states_122 : decode cX7_states 122 = .ok (.ifCond .eq 14, 3) := by decide +kernel
theorem dX7_states_125 : decode cX7_states 125 = .ok (.iload 8, 2) := by decide +kernel
theorem dX7_states_127 : decode cX7_states 127 = .ok (.iconst (-1), 1) := by decide +kernel
theorem dX7_states_128 : decode cX7_states 128 = .ok (.if_icmp .ne 8, 3) := by decide +kernel
theorem dX7_states_131 : decode cX7_states 131 = .ok (.iload 9, 2) := by decide +kernel
theorem dX7_states_133 : decode cX7_states 133 = .ok (.goto 5, 3) := by decide +kernel
theorem dX7_states_136 : decode cX7_states 136 = .ok (.iload 8, 2) := by decide +kernel
theorem dX7_states_138 : decode cX7_states 138 = .ok (.istore 8, 2) := by decide +kernel
theorem dX7_states_140 : decode cX7_states 140 = .ok (.iinc 9 1, 3) := by decide +kernel
theorem dX7_states_143 : decode cX7_states 143 = .ok (.goto (-84), 3) := by decide +kernel
theorem dX7_states_146 : decode cX7_states 146 = .ok (.aload_n 0, 1) := by decide +kernel
theorem dX7_states_147 : decode cX7_states 147 = .ok (.getfield 16, 3) := by decide +kernel
theorem dX7_states_150 : decode cX7_states 150 = .ok (.iconst 3, 1) := by decide +kernel
theorem dX7_states_151 : decode cX7_states 151 = .ok (.iload_n 2, 1) := by decide +kernel
theorem dX7_states_152 : decode cX7_states 152 = .ok (.imul, 1) := by decide +kernel
theorem dX7_states_153 : decode cX7_states 153 = .ok (.iload_n 3, 1) := by decide +kernel
theorem dX7_states_154 : decode cX7_states 154 = .ok (.iadd, 1) := by decide +kernel
theorem dX7_states_155 : decode cX7_states 155 = .ok (.iload 6, 2) := by decide +kernel
theorem dX7_states_157 : decode cX7_states 157 = .ok (.iastore, 1) := by decide +kernel
theorem dX7_states_158 : decode cX7_states 158 = .ok (.iload 4, 2) := by decide +kernel
theorem dX7_states_160 : decode cX7_states 160 = .ok (.ifCond .ne 8, 3) := by decide +kernel
theorem dX7_states_163 : decode cX7_states 163 = .ok (.iload 7, 2) := by decide +kernel
theorem dX7_states_165 : decode cX7_states 165 = .ok (.goto 5, 3) := by decide +kernel
theorem dX7_states_168 : decode cX7_states 168 = .ok (.iload 8, 2) := by decide +kernel
theorem dX7_states_170 : decode cX7_states 170 = .ok (.ireturn, 1) := by decide +kernel
theorem dX7_whose_0 : decode cX7_whose 0 = .ok (.aload_n 0, 1) := by decide +kernel
theorem dX7_whose_1 : decode cX7_whose 1 = .ok (.iload_n 1, 1) := by decide +kernel
theorem dX7_whose_2 : decode cX7_whose 2 = .ok (.invokevirtual 246, 3) := by decide +kernel
theorem dX7_whose_5 : decode cX7_whose 5 = .ok (.istore_n 2, 1) := by decide +kernel
theorem dX7_whose_6 : decode cX7_whose 6 = .ok (.iload_n 2, 1) := by decide +kernel
theorem dX7_whose_7 : decode cX7_whose 7 = .ok (.ifCond .eq 5, 3) := by decide +kernel
theorem dX7_whose_10 : decode cX7_whose 10 = .ok (.iload_n 2, 1) := by decide +kernel
theorem dX7_whose_11 : decode cX7_whose 11 = .ok (.ireturn, 1) := by decide +kernel
theorem dX7_whose_12 : decode cX7_whose 12 = .ok (.iconst 0, 1) := by decide +kernel
theorem dX7_whose_13 : decode cX7_whose 13 = .ok (.istore_n 3, 1) := by decide +kernel
theorem dX7_whose_14 : decode cX7_whose 14 = .ok (.iconst 0, 1) := by decide +kernel
theorem dX7_whose_15 : decode cX7_whose 15 = .ok (.istore 4, 2) := by decide +kernel
theorem dX7_whose_17 : decode cX7_whose 17 = .ok (.iload 4, 2) := by decide +kernel
theorem dX7_whose_19 : decode cX7_whose 19 = .ok (.aload_n 0, 1) := by decide +kernel
theorem dX7_whose_20 : decode cX7_whose 20 = .ok (.getfield 84, 3) := by decide +kernel
theorem dX7_whose_23 : decode cX7_whose 23 = .ok (.if_icmp .ge 31, 3) := by decide +kernel
theorem dX7_whose_26 : decode cX7_whose 26 = .ok (.iload_n 3, 1) := by decide +kernel
theorem dX7_whose_27 : decode cX7_whose 27 = .ok (.aload_n 0, 1) := by decide +kernel
theorem dX7_whose_28 : decode cX7_whose 28 = .ok (.iload_n 1, 1) := by decide +kernel
theorem dX7_whose_29 : decode cX7_whose 29 = .ok (.iload 4, 2) := by decide +kernel
theorem dX7_whose_31 : decode cX7_whose 31 = .ok (.invokevirtual 252, 3) := by decide +kernel
theorem dX7_whose_34 : decode cX7_whose 34 = .ok (.iconst (-1), 1) := by decide +kernel
theorem dX7_whose_35 : decode cX7_whose 35 = .ok (.if_icmp .ne 10, 3) := by decide +kernel
theorem dX7_whose_38 : decode cX7_whose 38 = .ok (.iconst 1, 1) := by decide +kernel
theorem dX7_whose_39 : decode cX7_whose 39 = .ok (.iload 4, 2) := by decide +kernel
theorem dX7_whose_41 : decode cX7_whose 41 = .ok (.ishl, 1) := by decide +kernel
theorem dX7_whose_42 : decode cX7_whose 42 = .ok (.goto 4, 3) := by decide +kernel
theorem dX7_whose_45 : decode cX7_whose 45 = .ok (.iconst 0, 1) := by decide +kernel
theorem dX7_whose_46 : decode cX7_whose 46 = .ok (.ior, 1) := by decide +kernel
theorem dX7_whose_47 : decode cX7_whose 47 = .ok (.istore_n 3, 1) := by decide +kernel
theorem dX7_whose_48 : decode cX7_whose 48 = .ok (.iinc 4 1, 3) := by decide +kernel
theorem dX7_whose_51 : decode cX7_whose 51 = .ok (.goto (-34), 3) := by decide +kernel
theorem dX7_whose_54 : decode cX7_whose 54 = .ok (.iload_n 3, 1) := by decide +kernel
theorem dX7_whose_55 : decode cX7_whose 55 = .ok (.ireturn, 1) := by decide +kernel
theorem dX7_laws_0 : decode cX7_laws 0 = .ok (.aload_n 0, 1) := by decide +kernel
theorem dX7_laws_1 : decode cX7_laws 1 = .ok (.iload_n 1, 1) := by decide +kernel
theorem dX7_laws_2 : decode cX7_laws 2 = .ok (.iload_n 2, 1) := by decide +kernel
theorem dX7_laws_3 : decode cX7_laws 3 = .ok (.invokevirtual 249, 3) := by decide +kernel
theorem dX7_laws_6 : decode cX7_laws 6 = .ok (.istore_n 3, 1) := by decide +kernel
theorem dX7_laws_7 : decode cX7_laws 7 = .ok (.iload_n 3, 1) := by decide +kernel
theorem dX7_laws_8 : decode cX7_laws 8 = .ok (.ifCond .eq 5, 3) := by decide +kernel
theorem dX7_laws_11 : decode cX7_laws 11 = .ok (.iload_n 3, 1) := by decide +kernel
theorem dX7_laws_12 : decode cX7_laws 12 = .ok (.ireturn, 1) := by decide +kernel
theorem dX7_laws_13 : decode cX7_laws 13 = .ok (.aload_n 0, 1) := by decide +kernel
theorem dX7_laws_14 : decode cX7_laws 14 = .ok (.getfield 103, 3) := by decide +kernel
theorem dX7_laws_17 : decode cX7_laws 17 = .ok (.istore 4, 2) := by decide +kernel
theorem dX7_laws_19 : decode cX7_laws 19 = .ok (.iconst 0, 1) := by decide +kernel
theorem dX7_laws_20 : decode cX7_laws 20 = .ok (.istore 5, 2) := by decide +kernel
theorem dX7_laws_22 : decode cX7_laws 22 = .ok (.iconst 0, 1) := by decide +kernel
theorem dX7_laws_23 : decode cX7_laws 23 = .ok (.istore 6, 2) := by decide +kernel
theorem dX7_laws_25 : decode cX7_laws 25 = .ok (.iload 6, 2) := by decide +kernel
theorem dX7_laws_27 : decode cX7_laws 27 = .ok (.aload_n 0, 1) := by decide +kernel
theorem dX7_laws_28 : decode cX7_laws 28 = .ok (.getfield 100, 3) := by decide +kernel
theorem dX7_laws_31 : decode cX7_laws 31 = .ok (.if_icmp .ge 38, 3) := by decide +kernel
theorem dX7_laws_34 : decode cX7_laws 34 = .ok (.aload_n 0, 1) := by decide +kernel
theorem dX7_laws_35 : decode cX7_laws 35 = .ok (.iload 6, 2) := by decide +kernel
theorem dX7_laws_37 : decode cX7_laws 37 = .ok (.putfield 103, 3) := by decide +kernel
theorem dX7_laws_40 : decode cX7_laws 40 = .ok (.iload 5, 2) := by decide +kernel
theorem dX7_laws_42 : decode cX7_laws 42 = .ok (.aload_n 0, 1) := by decide +kernel
theorem dX7_laws_43 : decode cX7_laws 43 = .ok (.iload_n 1, 1) := by decide +kernel
theorem dX7_laws_44 : decode cX7_laws 44 = .ok (.iload_n 2, 1) := by decide +kernel
theorem dX7_laws_45 : decode cX7_laws 45 = .ok (.invokevirtual 252, 3) := by decide +kernel
theorem dX7_laws_48 : decode cX7_laws 48 = .ok (.iconst (-1), 1) := by decide +kernel
theorem dX7_laws_49 : decode cX7_laws 49 = .ok (.if_icmp .ne 10, 3) := by decide +kernel
theorem dX7_laws_52 : decode cX7_laws 52 = .ok (.iconst 1, 1) := by decide +kernel
theorem dX7_laws_53 : decode cX7_laws 53 = .ok (.iload 6, 2) := by decide +kernel
theorem dX7_laws_55 : decode cX7_laws 55 = .ok (.ishl, 1) := by decide +kernel
theorem dX7_laws_56 : decode cX7_laws 56 = .ok (.goto 4, 3) := by decide +kernel
theorem dX7_laws_59 : decode cX7_laws 59 = .ok (.iconst 0, 1) := by decide +kernel
theorem dX7_laws_60 : decode cX7_laws 60 = .ok (.ior, 1) := by decide +kernel
theorem dX7_laws_61 : decode cX7_laws 61 = .ok (.istore 5, 2) := by decide +kernel
theorem dX7_laws_63 : decode cX7_laws 63 = .ok (.iinc 6 1, 3) := by decide +kernel
theorem dX7_laws_66 : decode cX7_laws 66 = .ok (.goto (-41), 3) := by decide +kernel
theorem dX7_laws_69 : decode cX7_laws 69 = .ok (.aload_n 0, 1) := by decide +kernel
theorem dX7_laws_70 : decode cX7_laws 70 = .ok (.iload 4, 2) := by decide +kernel
theorem dX7_laws_72 : decode cX7_laws 72 = .ok (.putfield 103, 3) := by decide +kernel
theorem dX7_laws_75 : decode cX7_laws 75 = .ok (.iload 5, 2) := by decide +kernel
theorem dX7_laws_77 : decode cX7_laws 77 = .ok (.ireturn, 1) := by decide +kernel
theorem dX7_film_0 : decode cX7_film 0 = .ok (.iload_n 1, 1) := by decide +kernel
theorem dX7_film_1 : decode cX7_film 1 = .ok (.iconst 0, 1) := by decide +kernel
theorem dX7_film_2 : decode cX7_film 2 = .ok (.iconst 3, 1) := by decide +kernel
theorem dX7_film_3 : decode cX7_film 3 = .ok (.invokestatic 87, 3) := by decide +kernel
theorem dX7_film_6 : decode cX7_film 6 = .ok (.ifCond .ne 6, 3) := by decide +kernel
theorem dX7_film_9 : decode cX7_film 9 = .ok (.bipush (-2), 2) := by decide +kernel
theorem dX7_film_11 : decode cX7_film 11 = .ok (.ireturn, 1) := by decide +kernel
theorem dX7_film_12 : decode cX7_film 12 = .ok (.aload_n 0, 1) := by decide +kernel
theorem dX7_film_13 : decode cX7_film 13 = .ok (.iload_n 2, 1) := by decide +kernel
theorem dX7_film_14 : decode cX7_film 14 = .ok (.invokevirtual 179, 3) := by decide +kernel
theorem dX7_film_17 : decode cX7_film 17 = .ok (.ifCond .ne 6, 3) := by decide +kernel
theorem dX7_film_20 : decode cX7_film 20 = .ok (.bipush (-5), 2) := by decide +kernel
theorem dX7_film_22 : decode cX7_film 22 = .ok (.ireturn, 1) := by decide +kernel
theorem dX7_film_23 : decode cX7_film 23 = .ok (.iload_n 3, 1) := by decide +kernel
theorem dX7_film_24 : decode cX7_film 24 = .ok (.iconst 0, 1) := by decide +kernel
theorem dX7_film_25 : decode cX7_film 25 = .ok (.bipush 20, 2) := by decide +kernel
theorem dX7_film_27 : decode cX7_film 27 = .ok (.invokestatic 87, 3) := by decide +kernel
theorem dX7_film_30 : decode cX7_film 30 = .ok (.ifCond .ne 6, 3) := by decide +kernel
theorem dX7_film_33 : decode cX7_film 33 = .ok (.bipush (-7), 2) := by decide +kernel
theorem dX7_film_35 : decode cX7_film 35 = .ok (.ireturn, 1) := by decide +kernel
theorem dX7_film_36 : decode cX7_film 36 = .ok (.aload_n 0, 1) := by decide +kernel
theorem dX7_film_37 : decode cX7_film 37 = .ok (.getfield 46, 3) := by decide +kernel
theorem dX7_film_40 : decode cX7_film 40 = .ok (.iload_n 1, 1) := by decide +kernel
theorem dX7_film_41 : decode cX7_film 41 = .ok (.iconst 1, 1) := by decide +kernel
theorem dX7_film_42 : decode cX7_film 42 = .ok (.iastore, 1) := by decide +kernel
theorem dX7_film_43 : decode cX7_film 43 = .ok (.aload_n 0, 1) := by decide +kernel
theorem dX7_film_44 : decode cX7_film 44 = .ok (.getfield 49, 3) := by decide +kernel
theorem dX7_film_47 : decode cX7_film 47 = .ok (.iload_n 1, 1) := by decide +kernel
theorem dX7_film_48 : decode cX7_film 48 = .ok (.iload_n 3, 1) := by decide +kernel
theorem dX7_film_49 : decode cX7_film 49 = .ok (.iastore, 1) := by decide +kernel
theorem dX7_film_50 : decode cX7_film 50 = .ok (.aload_n 0, 1) := by decide +kernel
theorem dX7_film_51 : decode cX7_film 51 = .ok (.invokevirtual 227, 3) := by decide +kernel
theorem dX7_film_54 : decode cX7_film 54 = .ok (.iconst 0, 1) := by decide +kernel
theorem dX7_film_55 : decode cX7_film 55 = .ok (.istore 4, 2) := by decide +kernel
theorem dX7_film_57 : decode cX7_film 57 = .ok (.iload 4, 2) := by decide +kernel
theorem dX7_film_59 : decode cX7_film 59 = .ok (.bipush 40, 2) := by decide +kernel
theorem dX7_film_61 : decode cX7_film 61 = .ok (.if_icmp .ge 53, 3) := by decide +kernel
theorem dX7_film_64 : decode cX7_film 64 = .ok (.aload_n 0, 1) := by decide +kernel
theorem dX7_film_65 : decode cX7_film 65 = .ok (.getfield 52, 3) := by decide +kernel
theorem dX7_film_68 : decode cX7_film 68 = .ok (.bipush 40, 2) := by decide +kernel
theorem dX7_film_70 : decode cX7_film 70 = .ok (.iload_n 1, 1) := by decide +kernel
theorem dX7_film_71 : decode cX7_film 71 = .ok (.imul, 1) := by decide +kernel
theorem dX7_film_72 : decode cX7_film 72 = .ok (.iload 4, 2) := by decide +kernel
theorem dX7_film_74 : decode cX7_film 74 = .ok (.iadd, 1) := by decide +kernel
theorem dX7_film_75 : decode cX7_film 75 = .ok (.iconst 0, 1) := by decide +kernel
theorem dX7_film_76 : decode cX7_film 76 = .ok (.iastore, 1) := by decide +kernel
theorem dX7_film_77 : decode cX7_film 77 = .ok (.iload 4, 2) := by decide +kernel
theorem dX7_film_79 : decode cX7_film 79 = .ok (.iload_n 3, 1) := by decide +kernel
theorem dX7_film_80 : decode cX7_film 80 = .ok (.if_icmp .ge 28, 3) := by decide +kernel
theorem dX7_film_83 : decode cX7_film 83 = .ok (.aload_n 0, 1) := by decide +kernel
theorem dX7_film_84 : decode cX7_film 84 = .ok (.invokevirtual 224, 3) := by decide +kernel
theorem dX7_film_87 : decode cX7_film 87 = .ok (.pop, 1) := by decide +kernel
theorem dX7_film_88 : decode cX7_film 88 = .ok (.aload_n 0, 1) := by decide +kernel
theorem dX7_film_89 : decode cX7_film 89 = .ok (.getfield 52, 3) := by decide +kernel
theorem dX7_film_92 : decode cX7_film 92 = .ok (.bipush 40, 2) := by decide +kernel
theorem dX7_film_94 : decode cX7_film 94 = .ok (.iload_n 1, 1) := by decide +kernel
theorem dX7_film_95 : decode cX7_film 95 = .ok (.imul, 1) := by decide +kernel
theorem dX7_film_96 : decode cX7_film 96 = .ok (.iload 4, 2) := by decide +kernel
theorem dX7_film_98 : decode cX7_film 98 = .ok (.iadd, 1) := by decide +kernel
theorem dX7_film_99 : decode cX7_film 99 = .ok (.aload_n 0, 1) := by decide +kernel
theorem dX7_film_100 : decode cX7_film 100 = .ok (.getfield 16, 3) := by decide +kernel
theorem dX7_film_103 : decode cX7_film 103 = .ok (.iconst 3, 1) := by decide +kernel
theorem dX7_film_104 : decode cX7_film 104 = .ok (.iload_n 2, 1) := by decide +kernel
theorem dX7_film_105 : decode cX7_film 105 = .ok (.imul, 1) := by decide +kernel
theorem dX7_film_106 : decode cX7_film 106 = .ok (.iaload, 1) := by decide +kernel
theorem dX7_film_107 : decode cX7_film 107 = .ok (.iastore, 1) := by decide +kernel
theorem dX7_film_108 : decode cX7_film 108 = .ok (.iinc 4 1, 3) := by decide +kernel
theorem dX7_film_111 : decode cX7_film 111 = .ok (.goto (-54), 3) := by decide +kernel
theorem dX7_film_114 : decode cX7_film 114 = .ok (.aload_n 0, 1) := by decide +kernel
theorem dX7_film_115 : decode cX7_film 115 = .ok (.invokevirtual 233, 3) := by decide +kernel
theorem dX7_film_118 : decode cX7_film 118 = .ok (.iload_n 3, 1) := by decide +kernel
theorem dX7_film_119 : decode cX7_film 119 = .ok (.ireturn, 1) := by decide +kernel
theorem dX7_snows_0 : decode cX7_snows 0 = .ok (.iload_n 1, 1) := by decide +kernel
theorem dX7_snows_1 : decode cX7_snows 1 = .ok (.i2l, 1) := by decide +kernel
theorem dX7_snows_2 : decode cX7_snows 2 = .ok (.lconst 1, 1) := by decide +kernel
theorem dX7_snows_3 : decode cX7_snows 3 = .ok (.ladd, 1) := by decide +kernel
theorem dX7_snows_4 : decode cX7_snows 4 = .ok (.lstore_n 3, 1) := by decide +kernel
theorem dX7_snows_5 : decode cX7_snows 5 = .ok (.iconst 0, 1) := by decide +kernel
theorem dX7_snows_6 : decode cX7_snows 6 = .ok (.istore 5, 2) := by decide +kernel
theorem dX7_snows_8 : decode cX7_snows 8 = .ok (.aload_n 0, 1) := by decide +kernel
theorem dX7_snows_9 : decode cX7_snows 9 = .ok (.invokevirtual 227, 3) := by decide +kernel
theorem dX7_snows_12 : decode cX7_snows 12 = .ok (.iconst 0, 1) := by decide +kernel
theorem dX7_snows_13 : decode cX7_snows 13 = .ok (.istore 6, 2) := by decide +kernel
theorem dX7_snows_15 : decode cX7_snows 15 = .ok (.iload 6, 2) := by decide +kernel
theorem dX7_snows_17 : decode cX7_snows 17 = .ok (.iconst 5, 1) := by decide +kernel
theorem dX7_snows_18 : decode cX7_snows 18 = .ok (.if_icmp .ge 87, 3) := by decide +kernel
theorem dX7_snows_21 : decode cX7_snows 21 = .ok (.aload_n 0, 1) := by decide +kernel
theorem dX7_snows_22 : decode cX7_snows 22 = .ok (.getfield 84, 3) := by decide +kernel
theorem dX7_snows_25 : decode cX7_snows 25 = .ok (.ifCond .le 80, 3) := by decide +kernel
theorem dX7_snows_28 : decode cX7_snows 28 = .ok (.lload_n 3, 1) := by decide +kernel
theorem dX7_snows_29 : decode cX7_snows 29 = .ok (.ldc2_w 255, 3) := by decide +kernel
theorem dX7_snows_32 : decode cX7_snows 32 = .ok (.lmul, 1) := by decide +kernel
theorem dX7_snows_33 : decode cX7_snows 33 = .ok (.ldc2_w 257, 3) := by decide +kernel
theorem dX7_snows_36 : decode cX7_snows 36 = .ok (.lrem, 1) := by decide +kernel
theorem dX7_snows_37 : decode cX7_snows 37 = .ok (.lstore_n 3, 1) := by decide +kernel
theorem dX7_snows_38 : decode cX7_snows 38 = .ok (.lload_n 3, 1) := by decide +kernel
theorem dX7_snows_39 : decode cX7_snows 39 = .ok (.aload_n 0, 1) := by decide +kernel
theorem dX7_snows_40 : decode cX7_snows 40 = .ok (.getfield 84, 3) := by decide +kernel
theorem dX7_snows_43 : decode cX7_snows 43 = .ok (.i2l, 1) := by decide +kernel
theorem dX7_snows_44 : decode cX7_snows 44 = .ok (.lrem, 1) := by decide +kernel
theorem dX7_snows_45 : decode cX7_snows 45 = .ok (.l2i, 1) := by decide +kernel
theorem dX7_snows_46 : decode cX7_snows 46 = .ok (.iconst 0, 1) := by decide +kernel
theorem dX7_snows_47 : decode cX7_snows 47 = .ok (.iconst 5, 1) := by decide +kernel
theorem dX7_snows_48 : decode cX7_snows 48 = .ok (.invokestatic 176, 3) := by decide +kernel
theorem dX7_snows_51 : decode cX7_snows 51 = .ok (.istore 7, 2) := by decide +kernel
theorem dX7_snows_53 : decode cX7_snows 53 = .ok (.aload_n 0, 1) := by decide +kernel
theorem dX7_snows_54 : decode cX7_snows 54 = .ok (.getfield 16, 3) := by decide +kernel
theorem dX7_snows_57 : decode cX7_snows 57 = .ok (.iconst 3, 1) := by decide +kernel
theorem dX7_snows_58 : decode cX7_snows 58 = .ok (.iload 7, 2) := by decide +kernel
theorem dX7_snows_60 : decode cX7_snows 60 = .ok (.imul, 1) := by decide +kernel
theorem dX7_snows_61 : decode cX7_snows 61 = .ok (.aload_n 0, 1) := by decide +kernel
theorem dX7_snows_62 : decode cX7_snows 62 = .ok (.getfield 16, 3) := by decide +kernel
theorem dX7_snows_65 : decode cX7_snows 65 = .ok (.iconst 3, 1) := by decide +kernel
theorem dX7_snows_66 : decode cX7_snows 66 = .ok (.iload 7, 2) := by decide +kernel
theorem dX7_snows_68 : decode cX7_snows 68 = .ok (.imul, 1) := by decide +kernel
theorem dX7_snows_69 : decode cX7_snows 69 = .ok (.iaload, 1) := by decide +kernel
theorem dX7_snows_70 : decode cX7_snows 70 = .ok (.iload_n 2, 1) := by decide +kernel
theorem dX7_snows_71 : decode cX7_snows 71 = .ok (.if_icmp .ge 7, 3) := by decide +kernel
theorem dX7_snows_74 : decode cX7_snows 74 = .ok (.iconst 0, 1) := by decide +kernel
theorem dX7_snows_75 : decode cX7_snows 75 = .ok (.goto 14, 3) := by decide +kernel
theorem dX7_snows_78 : decode cX7_snows 78 = .ok (.aload_n 0, 1) := by decide +kernel
theorem dX7_snows_79 : decode cX7_snows 79 = .ok (.getfield 16, 3) := by decide +kernel
theorem dX7_snows_82 : decode cX7_snows 82 = .ok (.iconst 3, 1) := by decide +kernel
theorem dX7_snows_83 : decode cX7_snows 83 = .ok (.iload 7, 2) := by decide +kernel
theorem dX7_snows_85 : decode cX7_snows 85 = .ok (.imul, 1) := by decide +kernel
theorem dX7_snows_86 : decode cX7_snows 86 = .ok (.iaload, 1) := by decide +kernel
theorem dX7_snows_87 : decode cX7_snows 87 = .ok (.iload_n 2, 1) := by decide +kernel
theorem dX7_snows_88 : decode cX7_snows 88 = .ok (.isub, 1) := by decide +kernel
theorem dX7_snows_89 : decode cX7_snows 89 = .ok (.iastore, 1) := by decide +kernel
theorem dX7_snows_90 : decode cX7_snows 90 = .ok (.iload 5, 2) := by decide +kernel
theorem dX7_snows_92 : decode cX7_snows 92 = .ok (.aload_n 0, 1) := by decide +kernel
theorem dX7_snows_93 : decode cX7_snows 93 = .ok (.invokevirtual 224, 3) := by decide +kernel
theorem dX7_snows_96 : decode cX7_snows 96 = .ok (.ior, 1) := by decide +kernel
theorem dX7_snows_97 : decode cX7_snows 97 = .ok (.istore 5, 2) := by decide +kernel
theorem dX7_snows_99 : decode cX7_snows 99 = .ok (.iinc 6 1, 3) := by decide +kernel
theorem dX7_snows_102 : decode cX7_snows 102 = .ok (.goto (-87), 3) := by decide +kernel
theorem dX7_snows_105 : decode cX7_snows 105 = .ok (.aload_n 0, 1) := by decide +kernel
theorem dX7_snows_106 : decode cX7_snows 106 = .ok (.aload_n 0, 1) := by decide +kernel
theorem dX7_snows_107 : decode cX7_snows 107 = .ok (.invokevirtual 97, 3) := by decide +kernel
theorem dX7_snows_110 : decode cX7_snows 110 = .ok (.putfield 259, 3) := by decide +kernel
theorem dX7_snows_113 : decode cX7_snows 113 = .ok (.aload_n 0, 1) := by decide +kernel
theorem dX7_snows_114 : decode cX7_snows 114 = .ok (.invokevirtual 233, 3) := by decide +kernel
theorem dX7_snows_117 : decode cX7_snows 117 = .ok (.iload 5, 2) := by decide +kernel
theorem dX7_snows_119 : decode cX7_snows 119 = .ok (.ireturn, 1) := by decide +kernel
theorem dX7_drawn_0 : decode cX7_drawn 0 = .ok (.iload_n 1, 1) := by decide +kernel
theorem dX7_drawn_1 : decode cX7_drawn 1 = .ok (.iconst 0, 1) := by decide +kernel
theorem dX7_drawn_2 : decode cX7_drawn 2 = .ok (.ldc_w 262, 3) := by decide +kernel
theorem dX7_drawn_5 : decode cX7_drawn 5 = .ok (.invokestatic 87, 3) := by decide +kernel
theorem dX7_drawn_8 : decode cX7_drawn 8 = .ok (.ifCond .eq 23, 3) := by decide +kernel
theorem dX7_drawn_11 : decode cX7_drawn 11 = .ok (.iload_n 2, 1) := by decide +kernel
theorem dX7_drawn_12 : decode cX7_drawn 12 = .ok (.iconst 0, 1) := by decide +kernel
theorem dX7_drawn_13 : decode cX7_drawn 13 = .ok (.sipush 999, 3) := by decide +kernel
theorem dX7_drawn_16 : decode cX7_drawn 16 = .ok (.invokestatic 87, 3) := by decide +kernel
theorem dX7_drawn_19 : decode cX7_drawn 19 = .ok (.ifCond .eq 12, 3) := by decide +kernel
theorem dX7_drawn_22 : decode cX7_drawn 22 = .ok (.iload_n 3, 1) := by decide +kernel
theorem dX7_drawn_23 : decode cX7_drawn 23 = .ok (.iconst 0, 1) := by decide +kernel
theorem dX7_drawn_24 : decode cX7_drawn 24 = .ok (.iconst 1, 1) := by decide +kernel
theorem dX7_drawn_25 : decode cX7_drawn 25 = .ok (.invokestatic 87, 3) := by decide +kernel
theorem dX7_drawn_28 : decode cX7_drawn 28 = .ok (.ifCond .ne 6, 3) := by decide +kernel
theorem dX7_drawn_31 : decode cX7_drawn 31 = .ok (.bipush (-2), 2) := by decide +kernel
theorem dX7_drawn_33 : decode cX7_drawn 33 = .ok (.ireturn, 1) := by decide +kernel
theorem dX7_drawn_34 : decode cX7_drawn 34 = .ok (.aload_n 0, 1) := by decide +kernel
theorem dX7_drawn_35 : decode cX7_drawn 35 = .ok (.iload_n 1, 1) := by decide +kernel
theorem dX7_drawn_36 : decode cX7_drawn 36 = .ok (.iload_n 2, 1) := by decide +kernel
theorem dX7_drawn_37 : decode cX7_drawn 37 = .ok (.invokevirtual 263, 3) := by decide +kernel
theorem dX7_drawn_40 : decode cX7_drawn 40 = .ok (.istore 4, 2) := by decide +kernel
theorem dX7_drawn_42 : decode cX7_drawn 42 = .ok (.iload_n 3, 1) := by decide +kernel
theorem dX7_drawn_43 : decode cX7_drawn 43 = .ok (.ifCond .ne 8, 3) := by decide +kernel
theorem dX7_drawn_46 : decode cX7_drawn 46 = .ok (.iload 4, 2) := by decide +kernel
theorem dX7_drawn_48 : decode cX7_drawn 48 = .ok (.goto 7, 3) := by decide +kernel
theorem dX7_drawn_51 : decode cX7_drawn 51 = .ok (.aload_n 0, 1) := by decide +kernel
theorem dX7_drawn_52 : decode cX7_drawn 52 = .ok (.getfield 259, 3) := by decide +kernel
theorem dX7_drawn_55 : decode cX7_drawn 55 = .ok (.ireturn, 1) := by decide +kernel
theorem dX7_lowest_0 : decode cX7_lowest 0 = .ok (.lload_n 0, 1) := by decide +kernel
theorem dX7_lowest_1 : decode cX7_lowest 1 = .ok (.lconst 0, 1) := by decide +kernel
theorem dX7_lowest_2 : decode cX7_lowest 2 = .ok (.lcmp, 1) := by decide +kernel
theorem dX7_lowest_3 : decode cX7_lowest 3 = .ok (.ifCond .ne 7, 3) := by decide +kernel
theorem dX7_lowest_6 : decode cX7_lowest 6 = .ok (.iload 4, 2) := by decide +kernel
theorem dX7_lowest_8 : decode cX7_lowest 8 = .ok (.i2l, 1) := by decide +kernel
theorem dX7_lowest_9 : decode cX7_lowest 9 = .ok (.lreturn, 1) := by decide +kernel
theorem dX7_lowest_10 : decode cX7_lowest 10 = .ok (.lload_n 0, 1) := by decide +kernel
theorem dX7_lowest_11 : decode cX7_lowest 11 = .ok (.lstore 5, 2) := by decide +kernel
theorem dX7_lowest_13 : decode cX7_lowest 13 = .ok (.lload_n 2, 1) := by decide +kernel
theorem dX7_lowest_14 : decode cX7_lowest 14 = .ok (.lstore 7, 2) := by decide +kernel
theorem dX7_lowest_16 : decode cX7_lowest 16 = .ok (.lload 7, 2) := by decide +kernel
theorem dX7_lowest_18 : decode cX7_lowest 18 = .ok (.lconst 0, 1) := by decide +kernel
theorem dX7_lowest_19 : decode cX7_lowest 19 = .ok (.lcmp, 1) := by decide +kernel
theorem dX7_lowest_20 : decode cX7_lowest 20 = .ok (.ifCond .eq 21, 3) := by decide +kernel
theorem dX7_lowest_23 : decode cX7_lowest 23 = .ok (.lload 5, 2) := by decide +kernel
theorem dX7_lowest_25 : decode cX7_lowest 25 = .ok (.lload 7, 2) := by decide +kernel
theorem dX7_lowest_27 : decode cX7_lowest 27 = .ok (.lrem, 1) := by decide +kernel
theorem dX7_lowest_28 : decode cX7_lowest 28 = .ok (.lstore 9, 2) := by decide +kernel
theorem dX7_lowest_30 : decode cX7_lowest 30 = .ok (.lload 7, 2) := by decide +kernel
theorem dX7_lowest_32 : decode cX7_lowest 32 = .ok (.lstore 5, 2) := by decide +kernel
theorem dX7_lowest_34 : decode cX7_lowest 34 = .ok (.lload 9, 2) := by decide +kernel
theorem dX7_lowest_36 : decode cX7_lowest 36 = .ok (.lstore 7, 2) := by decide +kernel
theorem dX7_lowest_38 : decode cX7_lowest 38 = .ok (.goto (-22), 3) := by decide +kernel
theorem dX7_lowest_41 : decode cX7_lowest 41 = .ok (.iload 4, 2) := by decide +kernel
theorem dX7_lowest_43 : decode cX7_lowest 43 = .ok (.ifCond .ne 7, 3) := by decide +kernel
theorem dX7_lowest_46 : decode cX7_lowest 46 = .ok (.lload_n 0, 1) := by decide +kernel
theorem dX7_lowest_47 : decode cX7_lowest 47 = .ok (.goto 4, 3) := by decide +kernel
theorem dX7_lowest_50 : decode cX7_lowest 50 = .ok (.lload_n 2, 1) := by decide +kernel
theorem dX7_lowest_51 : decode cX7_lowest 51 = .ok (.lload 5, 2) := by decide +kernel
theorem dX7_lowest_53 : decode cX7_lowest 53 = .ok (.ldiv, 1) := by decide +kernel
theorem dX7_lowest_54 : decode cX7_lowest 54 = .ok (.lreturn, 1) := by decide +kernel
theorem dX7_odds_0 : decode cX7_odds 0 = .ok (.iload_n 1, 1) := by decide +kernel
theorem dX7_odds_1 : decode cX7_odds 1 = .ok (.iconst 0, 1) := by decide +kernel
theorem dX7_odds_2 : decode cX7_odds 2 = .ok (.ldc_w 262, 3) := by decide +kernel
theorem dX7_odds_5 : decode cX7_odds 5 = .ok (.invokestatic 87, 3) := by decide +kernel
theorem dX7_odds_8 : decode cX7_odds 8 = .ok (.ifCond .eq 28, 3) := by decide +kernel
theorem dX7_odds_11 : decode cX7_odds 11 = .ok (.iload_n 2, 1) := by decide +kernel
theorem dX7_odds_12 : decode cX7_odds 12 = .ok (.iconst 1, 1) := by decide +kernel
theorem dX7_odds_13 : decode cX7_odds 13 = .ok (.bipush 40, 2) := by decide +kernel
theorem dX7_odds_15 : decode cX7_odds 15 = .ok (.invokestatic 87, 3) := by decide +kernel
theorem dX7_odds_18 : decode cX7_odds 18 = .ok (.ifCond .eq 18, 3) := by decide +kernel
theorem dX7_odds_21 : decode cX7_odds 21 = .ok (.iload_n 3, 1) := by decide +kernel
theorem dX7_odds_22 : decode cX7_odds 22 = .ok (.iconst 0, 1) := by decide +kernel
theorem dX7_odds_23 : decode cX7_odds 23 = .ok (.sipush 999, 3) := by decide +kernel
theorem dX7_odds_26 : decode cX7_odds 26 = .ok (.invokestatic 87, 3) := by decide +kernel
theorem dX7_odds_29 : decode cX7_odds 29 = .ok (.ifCond .eq 7, 3) := by decide +kernel
theorem dX7_odds_32 : decode cX7_odds 32 = .ok (.iconst 1, 1) := by decide +kernel
theorem dX7_odds_33 : decode cX7_odds 33 = .ok (.goto 4, 3) := by decide +kernel
theorem dX7_odds_36 : decode cX7_odds 36 = .ok (.iconst 0, 1) := by decide +kernel
theorem dX7_odds_37 : decode cX7_odds 37 = .ok (.istore 6, 2) := by decide +kernel
theorem dX7_odds_39 : decode cX7_odds 39 = .ok (.iload 6, 2) := by decide +kernel
theorem dX7_odds_41 : decode cX7_odds 41 = .ok (.ifCond .eq 24, 3) := by decide +kernel
theorem dX7_odds_44 : decode cX7_odds 44 = .ok (.iload 4, 2) := by decide +kernel
theorem dX7_odds_46 : decode cX7_odds 46 = .ok (.iconst 0, 1) := by decide +kernel
theorem dX7_odds_47 : decode cX7_odds 47 = .ok (.bipush 6, 2) := by decide +kernel
theorem dX7_odds_49 : decode cX7_odds 49 = .ok (.invokestatic 87, 3) := by decide +kernel
theorem dX7_odds_52 : decode cX7_odds 52 = .ok (.ifCond .eq 13, 3) := by decide +kernel
theorem dX7_odds_55 : decode cX7_odds 55 = .ok (.iload 5, 2) := by decide +kernel
theorem dX7_odds_57 : decode cX7_odds 57 = .ok (.iconst 0, 1) := by decide +kernel
theorem dX7_odds_58 : decode cX7_odds 58 = .ok (.iconst 1, 1) := by decide +kernel
theorem dX7_odds_59 : decode cX7_odds 59 = .ok (.invokestatic 87, 3) := by decide +kernel
theorem dX7_odds_62 : decode cX7_odds 62 = .ok (.ifCond .ne 7, 3) := by decide +kernel
theorem dX7_odds_65 : decode cX7_odds 65 = .ok (.ldc2_w 266, 3) := by decide +kernel
theorem dX7_odds_68 : decode cX7_odds 68 = .ok (.lreturn, 1) := by decide +kernel
theorem dX7_odds_69 : decode cX7_odds 69 = .ok (.lconst 0, 1) := by decide +kernel
theorem dX7_odds_70 : decode cX7_odds 70 = .ok (.lstore 7, 2) := by decide +kernel
theorem dX7_odds_72 : decode cX7_odds 72 = .ok (.iconst 0, 1) := by decide +kernel
theorem dX7_odds_73 : decode cX7_odds 73 = .ok (.istore 9, 2) := by decide +kernel
theorem dX7_odds_75 : decode cX7_odds 75 = .ok (.iload 9, 2) := by decide +kernel
theorem dX7_odds_77 : decode cX7_odds 77 = .ok (.iload_n 2, 1) := by decide +kernel
theorem dX7_odds_78 : decode cX7_odds 78 = .ok (.if_icmp .ge 36, 3) := by decide +kernel
theorem dX7_odds_81 : decode cX7_odds 81 = .ok (.lload 7, 2) := by decide +kernel
theorem dX7_odds_83 : decode cX7_odds 83 = .ok (.aload_n 0, 1) := by decide +kernel
theorem dX7_odds_84 : decode cX7_odds 84 = .ok (.iload_n 1, 1) := by decide +kernel
theorem dX7_odds_85 : decode cX7_odds 85 = .ok (.iload 9, 2) := by decide +kernel
theorem dX7_odds_87 : decode cX7_odds 87 = .ok (.iadd, 1) := by decide +kernel
theorem dX7_odds_88 : decode cX7_odds 88 = .ok (.iload_n 3, 1) := by decide +kernel
theorem dX7_odds_89 : decode cX7_odds 89 = .ok (.invokevirtual 263, 3) := by decide +kernel
theorem dX7_odds_92 : decode cX7_odds 92 = .ok (.invokestatic 240, 3) := by decide +kernel
theorem dX7_odds_95 : decode cX7_odds 95 = .ok (.iload 4, 2) := by decide +kernel
theorem dX7_odds_97 : decode cX7_odds 97 = .ok (.if_icmp .lt 7, 3) := by decide +kernel
theorem dX7_odds_100 : decode cX7_odds 100 = .ok (.lconst 1, 1) := by decide +kernel
theorem dX7_odds_101 : decode cX7_odds 101 = .ok (.goto 4, 3) := by decide +kernel
theorem dX7_odds_104 : decode cX7_odds 104 = .ok (.lconst 0, 1) := by decide +kernel
theorem dX7_odds_105 : decode cX7_odds 105 = .ok (.ladd, 1) := by decide +kernel
theorem dX7_odds_106 : decode cX7_odds 106 = .ok (.lstore 7, 2) := by decide +kernel
theorem dX7_odds_108 : decode cX7_odds 108 = .ok (.iinc 9 1, 3) := by decide +kernel
theorem dX7_odds_111 : decode cX7_odds 111 = .ok (.goto (-36), 3) := by decide +kernel
theorem dX7_odds_114 : decode cX7_odds 114 = .ok (.lload 7, 2) := by decide +kernel
theorem dX7_odds_116 : decode cX7_odds 116 = .ok (.iload_n 2, 1) := by decide +kernel
theorem dX7_odds_117 : decode cX7_odds 117 = .ok (.i2l, 1) := by decide +kernel
theorem dX7_odds_118 : decode cX7_odds 118 = .ok (.iload 5, 2) := by decide +kernel
theorem dX7_odds_120 : decode cX7_odds 120 = .ok (.invokestatic 268, 3) := by decide +kernel
theorem dX7_odds_123 : decode cX7_odds 123 = .ok (.lreturn, 1) := by decide +kernel
theorem dX7_image_0 : decode cX7_image 0 = .ok (.aload_n 0, 1) := by decide +kernel
theorem dX7_image_1 : decode cX7_image 1 = .ok (.iconst 1, 1) := by decide +kernel
theorem dX7_image_2 : decode cX7_image 2 = .ok (.putfield 272, 3) := by decide +kernel
theorem dX7_image_5 : decode cX7_image 5 = .ok (.iconst 0, 1) := by decide +kernel
theorem dX7_image_6 : decode cX7_image 6 = .ok (.istore_n 1, 1) := by decide +kernel
theorem dX7_image_7 : decode cX7_image 7 = .ok (.iload_n 1, 1) := by decide +kernel
theorem dX7_image_8 : decode cX7_image 8 = .ok (.bipush 18, 2) := by decide +kernel
theorem dX7_image_10 : decode cX7_image 10 = .ok (.if_icmp .ge 21, 3) := by decide +kernel
theorem dX7_image_13 : decode cX7_image 13 = .ok (.aload_n 0, 1) := by decide +kernel
theorem dX7_image_14 : decode cX7_image 14 = .ok (.getfield 40, 3) := by decide +kernel
theorem dX7_image_17 : decode cX7_image 17 = .ok (.iload_n 1, 1) := by decide +kernel
theorem dX7_image_18 : decode cX7_image 18 = .ok (.aload_n 0, 1) := by decide +kernel
theorem dX7_image_19 : decode cX7_image 19 = .ok (.getfield 16, 3) := by decide +kernel
theorem dX7_image_22 : decode cX7_image 22 = .ok (.iload_n 1, 1) := by decide +kernel
theorem dX7_image_23 : decode cX7_image 23 = .ok (.iaload, 1) := by decide +kernel
theorem dX7_image_24 : decode cX7_image 24 = .ok (.iastore, 1) := by decide +kernel
theorem dX7_image_25 : decode cX7_image 25 = .ok (.iinc 1 1, 3) := by decide +kernel
theorem dX7_image_28 : decode cX7_image 28 = .ok (.goto (-21), 3) := by decide +kernel
theorem dX7_image_31 : decode cX7_image 31 = .ok (.iconst 0, 1) := by decide +kernel
theorem dX7_image_32 : decode cX7_image 32 = .ok (.istore_n 1, 1) := by decide +kernel
theorem dX7_image_33 : decode cX7_image 33 = .ok (.iload_n 1, 1) := by decide +kernel
theorem dX7_image_34 : decode cX7_image 34 = .ok (.bipush 10, 2) := by decide +kernel
theorem dX7_image_36 : decode cX7_image 36 = .ok (.if_icmp .ge 69, 3) := by decide +kernel
theorem dX7_image_39 : decode cX7_image 39 = .ok (.aload_n 0, 1) := by decide +kernel
theorem dX7_image_40 : decode cX7_image 40 = .ok (.getfield 40, 3) := by decide +kernel
theorem dX7_image_43 : decode cX7_image 43 = .ok (.bipush 18, 2) := by decide +kernel
theorem dX7_image_45 : decode cX7_image 45 = .ok (.iload_n 1, 1) := by decide +kernel
theorem dX7_image_46 : decode cX7_image 46 = .ok (.iadd, 1) := by decide +kernel
theorem dX7_image_47 : decode cX7_image 47 = .ok (.aload_n 0, 1) := by decide +kernel
theorem dX7_image_48 : decode cX7_image 48 = .ok (.getfield 19, 3) := by decide +kernel
theorem dX7_image_51 : decode cX7_image 51 = .ok (.iload_n 1, 1) := by decide +kernel
theorem dX7_image_52 : decode cX7_image 52 = .ok (.iaload, 1) := by decide +kernel
theorem dX7_image_53 : decode cX7_image 53 = .ok (.iastore, 1) := by decide +kernel
theorem dX7_image_54 : decode cX7_image 54 = .ok (.aload_n 0, 1) := by decide +kernel
theorem dX7_image_55 : decode cX7_image 55 = .ok (.getfield 40, 3) := by decide +kernel
theorem dX7_image_58 : decode cX7_image 58 = .ok (.bipush 28, 2) := by decide +kernel
theorem dX7_image_60 : decode cX7_image 60 = .ok (.iload_n 1, 1) := by decide +kernel
theorem dX7_image_61 : decode cX7_image 61 = .ok (.iadd, 1) := by decide +kernel
theorem dX7_image_62 : decode cX7_image 62 = .ok (.aload_n 0, 1) := by decide +kernel
theorem dX7_image_63 : decode cX7_image 63 = .ok (.getfield 22, 3) := by decide +kernel
theorem dX7_image_66 : decode cX7_image 66 = .ok (.iload_n 1, 1) := by decide +kernel
theorem dX7_image_67 : decode cX7_image 67 = .ok (.iaload, 1) := by decide +kernel
theorem dX7_image_68 : decode cX7_image 68 = .ok (.iastore, 1) := by decide +kernel
theorem dX7_image_69 : decode cX7_image 69 = .ok (.aload_n 0, 1) := by decide +kernel
theorem dX7_image_70 : decode cX7_image 70 = .ok (.getfield 40, 3) := by decide +kernel
theorem dX7_image_73 : decode cX7_image 73 = .ok (.bipush 38, 2) := by decide +kernel
theorem dX7_image_75 : decode cX7_image 75 = .ok (.iload_n 1, 1) := by decide +kernel
theorem dX7_image_76 : decode cX7_image 76 = .ok (.iadd, 1) := by decide +kernel
theorem dX7_image_77 : decode cX7_image 77 = .ok (.aload_n 0, 1) := by decide +kernel
theorem dX7_image_78 : decode cX7_image 78 = .ok (.getfield 25, 3) := by decide +kernel
theorem dX7_image_81 : decode cX7_image 81 = .ok (.iload_n 1, 1) := by decide +kernel
theorem dX7_image_82 : decode cX7_image 82 = .ok (.iaload, 1) := by decide +kernel
theorem dX7_image_83 : decode cX7_image 83 = .ok (.iastore, 1) := by decide +kernel
theorem dX7_image_84 : decode cX7_image 84 = .ok (.aload_n 0, 1) := by decide +kernel
theorem dX7_image_85 : decode cX7_image 85 = .ok (.getfield 40, 3) := by decide +kernel
theorem dX7_image_88 : decode cX7_image 88 = .ok (.bipush 48, 2) := by decide +kernel
theorem dX7_image_90 : decode cX7_image 90 = .ok (.iload_n 1, 1) := by decide +kernel
theorem dX7_image_91 : decode cX7_image 91 = .ok (.iadd, 1) := by decide +kernel
theorem dX7_image_92 : decode cX7_image 92 = .ok (.aload_n 0, 1) := by decide +kernel
theorem dX7_image_93 : decode cX7_image 93 = .ok (.getfield 28, 3) := by decide +kernel
theorem dX7_image_96 : decode cX7_image 96 = .ok (.iload_n 1, 1) := by decide +kernel
theorem dX7_image_97 : decode cX7_image 97 = .ok (.iaload, 1) := by decide +kernel
theorem dX7_image_98 : decode cX7_image 98 = .ok (.iastore, 1) := by decide +kernel
theorem dX7_image_99 : decode cX7_image 99 = .ok (.iinc 1 1, 3) := by decide +kernel
theorem dX7_image_102 : decode cX7_image 102 = .ok (.goto (-69), 3) := by decide +kernel
theorem dX7_image_105 : decode cX7_image 105 = .ok (.aload_n 0, 1) := by decide +kernel
theorem dX7_image_106 : decode cX7_image 106 = .ok (.getfield 43, 3) := by decide +kernel
theorem dX7_image_109 : decode cX7_image 109 = .ok (.iconst 0, 1) := by decide +kernel
theorem dX7_image_110 : decode cX7_image 110 = .ok (.aload_n 0, 1) := by decide +kernel
theorem dX7_image_111 : decode cX7_image 111 = .ok (.getfield 84, 3) := by decide +kernel
theorem dX7_image_114 : decode cX7_image 114 = .ok (.iastore, 1) := by decide +kernel
theorem dX7_image_115 : decode cX7_image 115 = .ok (.aload_n 0, 1) := by decide +kernel
theorem dX7_image_116 : decode cX7_image 116 = .ok (.getfield 43, 3) := by decide +kernel
theorem dX7_image_119 : decode cX7_image 119 = .ok (.iconst 1, 1) := by decide +kernel
theorem dX7_image_120 : decode cX7_image 120 = .ok (.aload_n 0, 1) := by decide +kernel
theorem dX7_image_121 : decode cX7_image 121 = .ok (.getfield 91, 3) := by decide +kernel
theorem dX7_image_124 : decode cX7_image 124 = .ok (.iastore, 1) := by decide +kernel
theorem dX7_image_125 : decode cX7_image 125 = .ok (.aload_n 0, 1) := by decide +kernel
theorem dX7_image_126 : decode cX7_image 126 = .ok (.getfield 43, 3) := by decide +kernel
theorem dX7_image_129 : decode cX7_image 129 = .ok (.iconst 2, 1) := by decide +kernel
theorem dX7_image_130 : decode cX7_image 130 = .ok (.aload_n 0, 1) := by decide +kernel
theorem dX7_image_131 : decode cX7_image 131 = .ok (.getfield 94, 3) := by decide +kernel
theorem dX7_image_134 : decode cX7_image 134 = .ok (.iastore, 1) := by decide +kernel
theorem dX7_image_135 : decode cX7_image 135 = .ok (.aload_n 0, 1) := by decide +kernel
theorem dX7_image_136 : decode cX7_image 136 = .ok (.getfield 43, 3) := by decide +kernel
theorem dX7_image_139 : decode cX7_image 139 = .ok (.iconst 3, 1) := by decide +kernel
theorem dX7_image_140 : decode cX7_image 140 = .ok (.aload_n 0, 1) := by decide +kernel
theorem dX7_image_141 : decode cX7_image 141 = .ok (.getfield 103, 3) := by decide +kernel
theorem dX7_image_144 : decode cX7_image 144 = .ok (.iastore, 1) := by decide +kernel
theorem dX7_image_145 : decode cX7_image 145 = .ok (.aload_n 0, 1) := by decide +kernel
theorem dX7_image_146 : decode cX7_image 146 = .ok (.getfield 84, 3) := by decide +kernel
theorem dX7_image_149 : decode cX7_image 149 = .ok (.ireturn, 1) := by decide +kernel
theorem dX7_back_0 : decode cX7_back 0 = .ok (.aload_n 0, 1) := by decide +kernel
theorem dX7_back_1 : decode cX7_back 1 = .ok (.getfield 272, 3) := by decide +kernel
theorem dX7_back_4 : decode cX7_back 4 = .ok (.ifCond .ne 6, 3) := by decide +kernel
theorem dX7_back_7 : decode cX7_back 7 = .ok (.bipush (-3), 2) := by decide +kernel
theorem dX7_back_9 : decode cX7_back 9 = .ok (.ireturn, 1) := by decide +kernel
theorem dX7_back_10 : decode cX7_back 10 = .ok (.iconst 0, 1) := by decide +kernel
theorem dX7_back_11 : decode cX7_back 11 = .ok (.istore_n 1, 1) := by decide +kernel
theorem dX7_back_12 : decode cX7_back 12 = .ok (.iload_n 1, 1) := by decide +kernel
theorem dX7_back_13 : decode cX7_back 13 = .ok (.bipush 18, 2) := by decide +kernel
theorem dX7_back_15 : decode cX7_back 15 = .ok (.if_icmp .ge 21, 3) := by decide +kernel
theorem dX7_back_18 : decode cX7_back 18 = .ok (.aload_n 0, 1) := by decide +kernel
theorem dX7_back_19 : decode cX7_back 19 = .ok (.getfield 16, 3) := by decide +kernel
theorem dX7_back_22 : decode cX7_back 22 = .ok (.iload_n 1, 1) := by decide +kernel
theorem dX7_back_23 : decode cX7_back 23 = .ok (.aload_n 0, 1) := by decide +kernel
theorem dX7_back_24 : decode cX7_back 24 = .ok (.getfield 40, 3) := by decide +kernel
theorem dX7_back_27 : decode cX7_back 27 = .ok (.iload_n 1, 1) := by decide +kernel
theorem dX7_back_28 : decode cX7_back 28 = .ok (.iaload, 1) := by decide +kernel
theorem dX7_back_29 : decode cX7_back 29 = .ok (.iastore, 1) := by decide +kernel
theorem dX7_back_30 : decode cX7_back 30 = .ok (.iinc 1 1, 3) := by decide +kernel
theorem dX7_back_33 : decode cX7_back 33 = .ok (.goto (-21), 3) := by decide +kernel
theorem dX7_back_36 : decode cX7_back 36 = .ok (.iconst 0, 1) := by decide +kernel
theorem dX7_back_37 : decode cX7_back 37 = .ok (.istore_n 1, 1) := by decide +kernel
theorem dX7_back_38 : decode cX7_back 38 = .ok (.iload_n 1, 1) := by decide +kernel
theorem dX7_back_39 : decode cX7_back 39 = .ok (.bipush 10, 2) := by decide +kernel
theorem dX7_back_41 : decode cX7_back 41 = .ok (.if_icmp .ge 69, 3) := by decide +kernel
theorem dX7_back_44 : decode cX7_back 44 = .ok (.aload_n 0, 1) := by decide +kernel
theorem dX7_back_45 : decode cX7_back 45 = .ok (.getfield 19, 3) := by decide +kernel
theorem dX7_back_48 : decode cX7_back 48 = .ok (.iload_n 1, 1) := by decide +kernel
theorem dX7_back_49 : decode cX7_back 49 = .ok (.aload_n 0, 1) := by decide +kernel
theorem dX7_back_50 : decode cX7_back 50 = .ok (.getfield 40, 3) := by decide +kernel
theorem dX7_back_53 : decode cX7_back 53 = .ok (.bipush 18, 2) := by decide +kernel
theorem dX7_back_55 : decode cX7_back 55 = .ok (.iload_n 1, 1) := by decide +kernel
theorem dX7_back_56 : decode cX7_back 56 = .ok (.iadd, 1) := by decide +kernel
theorem dX7_back_57 : decode cX7_back 57 = .ok (.iaload, 1) := by decide +kernel
theorem dX7_back_58 : decode cX7_back 58 = .ok (.iastore, 1) := by decide +kernel
theorem dX7_back_59 : decode cX7_back 59 = .ok (.aload_n 0, 1) := by decide +kernel
theorem dX7_back_60 : decode cX7_back 60 = .ok (.getfield 22, 3) := by decide +kernel
theorem dX7_back_63 : decode cX7_back 63 = .ok (.iload_n 1, 1) := by decide +kernel
theorem dX7_back_64 : decode cX7_back 64 = .ok (.aload_n 0, 1) := by decide +kernel
theorem dX7_back_65 : decode cX7_back 65 = .ok (.getfield 40, 3) := by decide +kernel
theorem dX7_back_68 : decode cX7_back 68 = .ok (.bipush 28, 2) := by decide +kernel
theorem dX7_back_70 : decode cX7_back 70 = .ok (.iload_n 1, 1) := by decide +kernel
theorem dX7_back_71 : decode cX7_back 71 = .ok (.iadd, 1) := by decide +kernel
theorem dX7_back_72 : decode cX7_back 72 = .ok (.iaload, 1) := by decide +kernel
theorem dX7_back_73 : decode cX7_back 73 = .ok (.iastore, 1) := by decide +kernel
theorem dX7_back_74 : decode cX7_back 74 = .ok (.aload_n 0, 1) := by decide +kernel
theorem dX7_back_75 : decode cX7_back 75 = .ok (.getfield 25, 3) := by decide +kernel
theorem dX7_back_78 : decode cX7_back 78 = .ok (.iload_n 1, 1) := by decide +kernel
theorem dX7_back_79 : decode cX7_back 79 = .ok (.aload_n 0, 1) := by decide +kernel
theorem dX7_back_80 : decode cX7_back 80 = .ok (.getfield 40, 3) := by decide +kernel
theorem dX7_back_83 : decode cX7_back 83 = .ok (.bipush 38, 2) := by decide +kernel
theorem dX7_back_85 : decode cX7_back 85 = .ok (.iload_n 1, 1) := by decide +kernel
theorem dX7_back_86 : decode cX7_back 86 = .ok (.iadd, 1) := by decide +kernel
theorem dX7_back_87 : decode cX7_back 87 = .ok (.iaload, 1) := by decide +kernel
theorem dX7_back_88 : decode cX7_back 88 = .ok (.iastore, 1) := by decide +kernel
theorem dX7_back_89 : decode cX7_back 89 = .ok (.aload_n 0, 1) := by decide +kernel
theorem dX7_back_90 : decode cX7_back 90 = .ok (.getfield 28, 3) := by decide +kernel
theorem dX7_back_93 : decode cX7_back 93 = .ok (.iload_n 1, 1) := by decide +kernel
theorem dX7_back_94 : decode cX7_back 94 = .ok (.aload_n 0, 1) := by decide +kernel
theorem dX7_back_95 : decode cX7_back 95 = .ok (.getfield 40, 3) := by decide +kernel
theorem dX7_back_98 : decode cX7_back 98 = .ok (.bipush 48, 2) := by decide +kernel
theorem dX7_back_100 : decode cX7_back 100 = .ok (.iload_n 1, 1) := by decide +kernel
theorem dX7_back_101 : decode cX7_back 101 = .ok (.iadd, 1) := by decide +kernel
theorem dX7_back_102 : decode cX7_back 102 = .ok (.iaload, 1) := by decide +kernel
theorem dX7_back_103 : decode cX7_back 103 = .ok (.iastore, 1) := by decide +kernel
theorem dX7_back_104 : decode cX7_back 104 = .ok (.iinc 1 1, 3) := by decide +kernel
theorem dX7_back_107 : decode cX7_back 107 = .ok (.goto (-69), 3) := by decide +kernel
theorem dX7_back_110 : decode cX7_back 110 = .ok (.aload_n 0, 1) := by decide +kernel
theorem dX7_back_111 : decode cX7_back 111 = .ok (.aload_n 0, 1) := by decide +kernel
theorem dX7_back_112 : decode cX7_back 112 = .ok (.getfield 43, 3) := by decide +kernel
theorem dX7_back_115 : decode cX7_back 115 = .ok (.iconst 0, 1) := by decide +kernel
theorem dX7_back_116 : decode cX7_back 116 = .ok (.iaload, 1) := by decide +kernel
theorem dX7_back_117 : decode cX7_back 117 = .ok (.putfield 84, 3) := by decide +kernel
theorem dX7_back_120 : decode cX7_back 120 = .ok (.aload_n 0, 1) := by decide +kernel
theorem dX7_back_121 : decode cX7_back 121 = .ok (.aload_n 0, 1) := by decide +kernel
theorem dX7_back_122 : decode cX7_back 122 = .ok (.getfield 43, 3) := by decide +kernel
theorem dX7_back_125 : decode cX7_back 125 = .ok (.iconst 1, 1) := by decide +kernel
theorem dX7_back_126 : decode cX7_back 126 = .ok (.iaload, 1) := by decide +kernel
theorem dX7_back_127 : decode cX7_back 127 = .ok (.putfield 91, 3) := by decide +kernel
theorem dX7_back_130 : decode cX7_back 130 = .ok (.aload_n 0, 1) := by decide +kernel
theorem dX7_back_131 : decode cX7_back 131 = .ok (.aload_n 0, 1) := by decide +kernel
theorem dX7_back_132 : decode cX7_back 132 = .ok (.getfield 43, 3) := by decide +kernel
theorem dX7_back_135 : decode cX7_back 135 = .ok (.iconst 2, 1) := by decide +kernel
theorem dX7_back_136 : decode cX7_back 136 = .ok (.iaload, 1) := by decide +kernel
theorem dX7_back_137 : decode cX7_back 137 = .ok (.putfield 94, 3) := by decide +kernel
theorem dX7_back_140 : decode cX7_back 140 = .ok (.aload_n 0, 1) := by decide +kernel
theorem dX7_back_141 : decode cX7_back 141 = .ok (.aload_n 0, 1) := by decide +kernel
theorem dX7_back_142 : decode cX7_back 142 = .ok (.getfield 43, 3) := by decide +kernel
theorem dX7_back_145 : decode cX7_back 145 = .ok (.iconst 3, 1) := by decide +kernel
theorem dX7_back_146 : decode cX7_back 146 = .ok (.iaload, 1) := by decide +kernel
theorem dX7_back_147 : decode cX7_back 147 = .ok (.putfield 103, 3) := by decide +kernel
theorem dX7_back_150 : decode cX7_back 150 = .ok (.aload_n 0, 1) := by decide +kernel
theorem dX7_back_151 : decode cX7_back 151 = .ok (.getfield 84, 3) := by decide +kernel
theorem dX7_back_154 : decode cX7_back 154 = .ok (.ireturn, 1) := by decide +kernel
theorem dX7_sheet_0 : decode cX7_sheet 0 = .ok (.iload_n 1, 1) := by decide +kernel
theorem dX7_sheet_1 : decode cX7_sheet 1 = .ok (.iconst 0, 1) := by decide +kernel
theorem dX7_sheet_2 : decode cX7_sheet 2 = .ok (.iconst 3, 1) := by decide +kernel
theorem dX7_sheet_3 : decode cX7_sheet 3 = .ok (.invokestatic 87, 3) := by decide +kernel
theorem dX7_sheet_6 : decode cX7_sheet 6 = .ok (.ifCond .eq 23, 3) := by decide +kernel
theorem dX7_sheet_9 : decode cX7_sheet 9 = .ok (.iload_n 2, 1) := by decide +kernel
theorem dX7_sheet_10 : decode cX7_sheet 10 = .ok (.iconst (-1), 1) := by decide +kernel
theorem dX7_sheet_11 : decode cX7_sheet 11 = .ok (.iconst 2, 1) := by decide +kernel
theorem dX7_sheet_12 : decode cX7_sheet 12 = .ok (.invokestatic 87, 3) := by decide +kernel
theorem dX7_sheet_15 : decode cX7_sheet 15 = .ok (.ifCond .eq 14, 3) := by decide +kernel
theorem dX7_sheet_18 : decode cX7_sheet 18 = .ok (.iload_n 2, 1) := by decide +kernel
theorem dX7_sheet_19 : decode cX7_sheet 19 = .ok (.iconst (-1), 1) := by decide +kernel
theorem dX7_sheet_20 : decode cX7_sheet 20 = .ok (.if_icmp .eq 12, 3) := by decide +kernel
theorem dX7_sheet_23 : decode cX7_sheet 23 = .ok (.iload_n 3, 1) := by decide +kernel
theorem dX7_sheet_24 : decode cX7_sheet 24 = .ok (.bipush 40, 2) := by decide +kernel
theorem dX7_sheet_26 : decode cX7_sheet 26 = .ok (.if_icmp .le 6, 3) := by decide +kernel
theorem dX7_sheet_29 : decode cX7_sheet 29 = .ok (.bipush (-2), 2) := by decide +kernel
theorem dX7_sheet_31 : decode cX7_sheet 31 = .ok (.ireturn, 1) := by decide +kernel
theorem dX7_sheet_32 : decode cX7_sheet 32 = .ok (.iload_n 2, 1) := by decide +kernel
theorem dX7_sheet_33 : decode cX7_sheet 33 = .ok (.iconst (-1), 1) := by decide +kernel
theorem dX7_sheet_34 : decode cX7_sheet 34 = .ok (.if_icmp .eq 10, 3) := by decide +kernel
theorem dX7_sheet_37 : decode cX7_sheet 37 = .ok (.iload_n 3, 1) := by decide +kernel
theorem dX7_sheet_38 : decode cX7_sheet 38 = .ok (.ifCond .ge 6, 3) := by decide +kernel
theorem dX7_sheet_41 : decode cX7_sheet 41 = .ok (.bipush (-14), 2) := by decide +kernel
theorem dX7_sheet_43 : decode cX7_sheet 43 = .ok (.ireturn, 1) := by decide +kernel
theorem dX7_sheet_44 : decode cX7_sheet 44 = .ok (.aload_n 0, 1) := by decide +kernel
theorem dX7_sheet_45 : decode cX7_sheet 45 = .ok (.getfield 46, 3) := by decide +kernel
theorem dX7_sheet_48 : decode cX7_sheet 48 = .ok (.iload_n 1, 1) := by decide +kernel
theorem dX7_sheet_49 : decode cX7_sheet 49 = .ok (.iload_n 2, 1) := by decide +kernel
theorem dX7_sheet_50 : decode cX7_sheet 50 = .ok (.iastore, 1) := by decide +kernel
theorem dX7_sheet_51 : decode cX7_sheet 51 = .ok (.aload_n 0, 1) := by decide +kernel
theorem dX7_sheet_52 : decode cX7_sheet 52 = .ok (.getfield 49, 3) := by decide +kernel
theorem dX7_sheet_55 : decode cX7_sheet 55 = .ok (.iload_n 1, 1) := by decide +kernel
theorem dX7_sheet_56 : decode cX7_sheet 56 = .ok (.iload_n 2, 1) := by decide +kernel
theorem dX7_sheet_57 : decode cX7_sheet 57 = .ok (.iconst (-1), 1) := by decide +kernel
theorem dX7_sheet_58 : decode cX7_sheet 58 = .ok (.if_icmp .ne 7, 3) := by decide +kernel
theorem dX7_sheet_61 : decode cX7_sheet 61 = .ok (.iconst 0, 1) := by decide +kernel
theorem dX7_sheet_62 : decode cX7_sheet 62 = .ok (.goto 4, 3) := by decide +kernel
theorem dX7_sheet_65 : decode cX7_sheet 65 = .ok (.iload_n 3, 1) := by decide +kernel
theorem dX7_sheet_66 : decode cX7_sheet 66 = .ok (.iastore, 1) := by decide +kernel
theorem dX7_sheet_67 : decode cX7_sheet 67 = .ok (.iconst 0, 1) := by decide +kernel
theorem dX7_sheet_68 : decode cX7_sheet 68 = .ok (.istore 4, 2) := by decide +kernel
theorem dX7_sheet_70 : decode cX7_sheet 70 = .ok (.iload 4, 2) := by decide +kernel
theorem dX7_sheet_72 : decode cX7_sheet 72 = .ok (.bipush 40, 2) := by decide +kernel
theorem dX7_sheet_74 : decode cX7_sheet 74 = .ok (.if_icmp .ge 22, 3) := by decide +kernel
theorem dX7_sheet_77 : decode cX7_sheet 77 = .ok (.aload_n 0, 1) := by decide +kernel
theorem dX7_sheet_78 : decode cX7_sheet 78 = .ok (.getfield 52, 3) := by decide +kernel
theorem dX7_sheet_81 : decode cX7_sheet 81 = .ok (.bipush 40, 2) := by decide +kernel
theorem dX7_sheet_83 : decode cX7_sheet 83 = .ok (.iload_n 1, 1) := by decide +kernel
theorem dX7_sheet_84 : decode cX7_sheet 84 = .ok (.imul, 1) := by decide +kernel
theorem dX7_sheet_85 : decode cX7_sheet 85 = .ok (.iload 4, 2) := by decide +kernel
theorem dX7_sheet_87 : decode cX7_sheet 87 = .ok (.iadd, 1) := by decide +kernel
theorem dX7_sheet_88 : decode cX7_sheet 88 = .ok (.iconst 0, 1) := by decide +kernel
theorem dX7_sheet_89 : decode cX7_sheet 89 = .ok (.iastore, 1) := by decide +kernel
theorem dX7_sheet_90 : decode cX7_sheet 90 = .ok (.iinc 4 1, 3) := by decide +kernel
theorem dX7_sheet_93 : decode cX7_sheet 93 = .ok (.goto (-23), 3) := by decide +kernel
theorem dX7_sheet_96 : decode cX7_sheet 96 = .ok (.iconst 1, 1) := by decide +kernel
theorem dX7_sheet_97 : decode cX7_sheet 97 = .ok (.ireturn, 1) := by decide +kernel
theorem dX7_cell_0 : decode cX7_cell 0 = .ok (.iload_n 1, 1) := by decide +kernel
theorem dX7_cell_1 : decode cX7_cell 1 = .ok (.iconst 0, 1) := by decide +kernel
theorem dX7_cell_2 : decode cX7_cell 2 = .ok (.iconst 3, 1) := by decide +kernel
theorem dX7_cell_3 : decode cX7_cell 3 = .ok (.invokestatic 87, 3) := by decide +kernel
theorem dX7_cell_6 : decode cX7_cell 6 = .ok (.ifCond .ne 6, 3) := by decide +kernel
theorem dX7_cell_9 : decode cX7_cell 9 = .ok (.bipush (-2), 2) := by decide +kernel
theorem dX7_cell_11 : decode cX7_cell 11 = .ok (.ireturn, 1) := by decide +kernel
theorem dX7_cell_12 : decode cX7_cell 12 = .ok (.aload_n 0, 1) := by decide +kernel
theorem dX7_cell_13 : decode cX7_cell 13 = .ok (.getfield 46, 3) := by decide +kernel
theorem dX7_cell_16 : decode cX7_cell 16 = .ok (.iload_n 1, 1) := by decide +kernel
theorem dX7_cell_17 : decode cX7_cell 17 = .ok (.iaload, 1) := by decide +kernel
theorem dX7_cell_18 : decode cX7_cell 18 = .ok (.iconst (-1), 1) := by decide +kernel
theorem dX7_cell_19 : decode cX7_cell 19 = .ok (.if_icmp .ne 6, 3) := by decide +kernel
theorem dX7_cell_22 : decode cX7_cell 22 = .ok (.bipush (-11), 2) := by decide +kernel
theorem dX7_cell_24 : decode cX7_cell 24 = .ok (.ireturn, 1) := by decide +kernel
theorem dX7_cell_25 : decode cX7_cell 25 = .ok (.iload_n 2, 1) := by decide +kernel
theorem dX7_cell_26 : decode cX7_cell 26 = .ok (.iconst 0, 1) := by decide +kernel
theorem dX7_cell_27 : decode cX7_cell 27 = .ok (.aload_n 0, 1) := by decide +kernel
theorem dX7_cell_28 : decode cX7_cell 28 = .ok (.getfield 49, 3) := by decide +kernel
theorem dX7_cell_31 : decode cX7_cell 31 = .ok (.iload_n 1, 1) := by decide +kernel
theorem dX7_cell_32 : decode cX7_cell 32 = .ok (.iaload, 1) := by decide +kernel
theorem dX7_cell_33 : decode cX7_cell 33 = .ok (.iconst 1, 1) := by decide +kernel
theorem dX7_cell_34 : decode cX7_cell 34 = .ok (.isub, 1) := by decide +kernel
theorem dX7_cell_35 : decode cX7_cell 35 = .ok (.invokestatic 87, 3) := by decide +kernel
theorem dX7_cell_38 : decode cX7_cell 38 = .ok (.ifCond .ne 6, 3) := by decide +kernel
theorem dX7_cell_41 : decode cX7_cell 41 = .ok (.bipush (-12), 2) := by decide +kernel
theorem dX7_cell_43 : decode cX7_cell 43 = .ok (.ireturn, 1) := by decide +kernel
theorem dX7_cell_44 : decode cX7_cell 44 = .ok (.aload_n 0, 1) := by decide +kernel
theorem dX7_cell_45 : decode cX7_cell 45 = .ok (.getfield 52, 3) := by decide +kernel
theorem dX7_cell_48 : decode cX7_cell 48 = .ok (.bipush 40, 2) := by decide +kernel
theorem dX7_cell_50 : decode cX7_cell 50 = .ok (.iload_n 1, 1) := by decide +kernel
theorem dX7_cell_51 : decode cX7_cell 51 = .ok (.imul, 1) := by decide +kernel
theorem dX7_cell_52 : decode cX7_cell 52 = .ok (.iload_n 2, 1) := by decide +kernel
theorem dX7_cell_53 : decode cX7_cell 53 = .ok (.iadd, 1) := by decide +kernel
theorem dX7_cell_54 : decode cX7_cell 54 = .ok (.aload_n 0, 1) := by decide +kernel
theorem dX7_cell_55 : decode cX7_cell 55 = .ok (.getfield 46, 3) := by decide +kernel
theorem dX7_cell_58 : decode cX7_cell 58 = .ok (.iload_n 1, 1) := by decide +kernel
theorem dX7_cell_59 : decode cX7_cell 59 = .ok (.iaload, 1) := by decide +kernel
theorem dX7_cell_60 : decode cX7_cell 60 = .ok (.ifCond .ne 8, 3) := by decide +kernel
theorem dX7_cell_63 : decode cX7_cell 63 = .ok (.iload_n 3, 1) := by decide +kernel
theorem dX7_cell_64 : decode cX7_cell 64 = .ok (.i2b, 1) := by decide +kernel
theorem dX7_cell_65 : decode cX7_cell 65 = .ok (.goto 19, 3) := by decide +kernel
theorem dX7_cell_68 : decode cX7_cell 68 = .ok (.aload_n 0, 1) := by decide +kernel
theorem dX7_cell_69 : decode cX7_cell 69 = .ok (.getfield 46, 3) := by decide +kernel
theorem dX7_cell_72 : decode cX7_cell 72 = .ok (.iload_n 1, 1) := by decide +kernel
theorem dX7_cell_73 : decode cX7_cell 73 = .ok (.iaload, 1) := by decide +kernel
theorem dX7_cell_74 : decode cX7_cell 74 = .ok (.iconst 1, 1) := by decide +kernel
theorem dX7_cell_75 : decode cX7_cell 75 = .ok (.if_icmp .ne 8, 3) := by decide +kernel
theorem dX7_cell_78 : decode cX7_cell 78 = .ok (.iload_n 3, 1) := by decide +kernel
theorem dX7_cell_79 : decode cX7_cell 79 = .ok (.i2s, 1) := by decide +kernel
theorem dX7_cell_80 : decode cX7_cell 80 = .ok (.goto 4, 3) := by decide +kernel
theorem dX7_cell_83 : decode cX7_cell 83 = .ok (.iload_n 3, 1) := by decide +kernel
theorem dX7_cell_84 : decode cX7_cell 84 = .ok (.iastore, 1) := by decide +kernel
theorem dX7_cell_85 : decode cX7_cell 85 = .ok (.iconst 1, 1) := by decide +kernel
theorem dX7_cell_86 : decode cX7_cell 86 = .ok (.ireturn, 1) := by decide +kernel
theorem dX7_copy_0 : decode cX7_copy 0 = .ok (.iload_n 1, 1) := by decide +kernel
theorem dX7_copy_1 : decode cX7_copy 1 = .ok (.iconst 0, 1) := by decide +kernel
theorem dX7_copy_2 : decode cX7_copy 2 = .ok (.iconst 3, 1) := by decide +kernel
theorem dX7_copy_3 : decode cX7_copy 3 = .ok (.invokestatic 87, 3) := by decide +kernel
theorem dX7_copy_6 : decode cX7_copy 6 = .ok (.ifCond .eq 12, 3) := by decide +kernel
theorem dX7_copy_9 : decode cX7_copy 9 = .ok (.iload_n 3, 1) := by decide +kernel
theorem dX7_copy_10 : decode cX7_copy 10 = .ok (.iconst 0, 1) := by decide +kernel
theorem dX7_copy_11 : decode cX7_copy 11 = .ok (.iconst 3, 1) := by decide +kernel
theorem dX7_copy_12 : decode cX7_copy 12 = .ok (.invokestatic 87, 3) := by decide +kernel
theorem dX7_copy_15 : decode cX7_copy 15 = .ok (.ifCond .ne 6, 3) := by decide +kernel
theorem dX7_copy_18 : decode cX7_copy 18 = .ok (.bipush (-2), 2) := by decide +kernel
theorem dX7_copy_20 : decode cX7_copy 20 = .ok (.ireturn, 1) := by decide +kernel
theorem dX7_copy_21 : decode cX7_copy 21 = .ok (.aload_n 0, 1) := by decide +kernel
theorem dX7_copy_22 : decode cX7_copy 22 = .ok (.getfield 46, 3) := by decide +kernel
theorem dX7_copy_25 : decode cX7_copy 25 = .ok (.iload_n 1, 1) := by decide +kernel
theorem dX7_copy_26 : decode cX7_copy 26 = .ok (.iaload, 1) := by decide +kernel
theorem dX7_copy_27 : decode cX7_copy 27 = .ok (.iconst (-1), 1) := by decide +kernel
theorem dX7_copy_28 : decode cX7_copy 28 = .ok (.if_icmp .eq 13, 3) := by decide +kernel
theorem dX7_copy_31 : decode cX7_copy 31 = .ok (.aload_n 0, 1) := by decide +kernel
theorem dX7_copy_32 : decode cX7_copy 32 = .ok (.getfield 46, 3) := by decide +kernel
theorem dX7_copy_35 : decode cX7_copy 35 = .ok (.iload_n 3, 1) := by decide +kernel
theorem dX7_copy_36 : decode cX7_copy 36 = .ok (.iaload, 1) := by decide +kernel
theorem dX7_copy_37 : decode cX7_copy 37 = .ok (.iconst (-1), 1) := by decide +kernel
theorem dX7_copy_38 : decode cX7_copy 38 = .ok (.if_icmp .ne 6, 3) := by decide +kernel
theorem dX7_copy_41 : decode cX7_copy 41 = .ok (.bipush (-11), 2) := by decide +kernel
theorem dX7_copy_43 : decode cX7_copy 43 = .ok (.ireturn, 1) := by decide +kernel
theorem dX7_copy_44 : decode cX7_copy 44 = .ok (.aload_n 0, 1) := by decide +kernel
theorem dX7_copy_45 : decode cX7_copy 45 = .ok (.getfield 46, 3) := by decide +kernel
theorem dX7_copy_48 : decode cX7_copy 48 = .ok (.iload_n 1, 1) := by decide +kernel
theorem dX7_copy_49 : decode cX7_copy 49 = .ok (.iaload, 1) := by decide +kernel
theorem dX7_copy_50 : decode cX7_copy 50 = .ok (.aload_n 0, 1) := by decide +kernel
theorem dX7_copy_51 : decode cX7_copy 51 = .ok (.getfield 46, 3) := by decide +kernel
theorem dX7_copy_54 : decode cX7_copy 54 = .ok (.iload_n 3, 1) := by decide +kernel
theorem dX7_copy_55 : decode cX7_copy 55 = .ok (.iaload, 1) := by decide +kernel
theorem dX7_copy_56 : decode cX7_copy 56 = .ok (.if_icmp .eq 6, 3) := by decide +kernel
theorem dX7_copy_59 : decode cX7_copy 59 = .ok (.bipush (-13), 2) := by decide +kernel
theorem dX7_copy_61 : decode cX7_copy 61 = .ok (.ireturn, 1) := by decide +kernel
theorem dX7_copy_62 : decode cX7_copy 62 = .ok (.iload 5, 2) := by decide +kernel
theorem dX7_copy_64 : decode cX7_copy 64 = .ok (.ifCond .lt 60, 3) := by decide +kernel
theorem dX7_copy_67 : decode cX7_copy 67 = .ok (.iload_n 2, 1) := by decide +kernel
theorem dX7_copy_68 : decode cX7_copy 68 = .ok (.ifCond .lt 56, 3) := by decide +kernel
theorem dX7_copy_71 : decode cX7_copy 71 = .ok (.iload 4, 2) := by decide +kernel
theorem dX7_copy_73 : decode cX7_copy 73 = .ok (.ifCond .lt 51, 3) := by decide +kernel
theorem dX7_copy_76 : decode cX7_copy 76 = .ok (.iload_n 2, 1) := by decide +kernel
theorem dX7_copy_77 : decode cX7_copy 77 = .ok (.aload_n 0, 1) := by decide +kernel
theorem dX7_copy_78 : decode cX7_copy 78 = .ok (.getfield 49, 3) := by decide +kernel
theorem dX7_copy_81 : decode cX7_copy 81 = .ok (.iload_n 1, 1) := by decide +kernel
theorem dX7_copy_82 : decode cX7_copy 82 = .ok (.iaload, 1) := by decide +kernel
theorem dX7_copy_83 : decode cX7_copy 83 = .ok (.if_icmp .gt 41, 3) := by decide +kernel
theorem dX7_copy_86 : decode cX7_copy 86 = .ok (.iload 4, 2) := by decide +kernel
theorem dX7_copy_88 : decode cX7_copy 88 = .ok (.aload_n 0, 1) := by decide +kernel
theorem dX7_copy_89 : decode cX7_copy 89 = .ok (.getfield 49, 3) := by decide +kernel
theorem dX7_copy_92 : decode cX7_copy 92 = .ok (.iload_n 3, 1) := by decide +kernel
theorem dX7_copy_93 : decode cX7_copy 93 = .ok (.iaload, 1) := by decide +kernel
theorem dX7_copy_94 : decode cX7_copy 94 = .ok (.if_icmp .gt 30, 3) := by decide +kernel
theorem dX7_copy_97 : decode cX7_copy 97 = .ok (.iload 5, 2) := by decide +kernel
theorem dX7_copy_99 : decode cX7_copy 99 = .ok (.aload_n 0, 1) := by decide +kernel
theorem dX7_copy_100 : decode cX7_copy 100 = .ok (.getfield 49, 3) := by decide +kernel
theorem dX7_copy_103 : decode cX7_copy 103 = .ok (.iload_n 1, 1) := by decide +kernel
theorem dX7_copy_104 : decode cX7_copy 104 = .ok (.iaload, 1) := by decide +kernel
theorem dX7_copy_105 : decode cX7_copy 105 = .ok (.iload_n 2, 1) := by decide +kernel
theorem dX7_copy_106 : decode cX7_copy 106 = .ok (.isub, 1) := by decide +kernel
theorem dX7_copy_107 : decode cX7_copy 107 = .ok (.if_icmp .gt 17, 3) := by decide +kernel
theorem dX7_copy_110 : decode cX7_copy 110 = .ok (.iload 5, 2) := by decide +kernel
theorem dX7_copy_112 : decode cX7_copy 112 = .ok (.aload_n 0, 1) := by decide +kernel
theorem dX7_copy_113 : decode cX7_copy 113 = .ok (.getfield 49, 3) := by decide +kernel
theorem dX7_copy_116 : decode cX7_copy 116 = .ok (.iload_n 3, 1) := by decide +kernel
theorem dX7_copy_117 : decode cX7_copy 117 = .ok (.iaload, 1) := by decide +kernel
theorem dX7_copy_118 : decode cX7_copy 118 = .ok (.iload 4, 2) := by decide +kernel
theorem dX7_copy_120 : decode cX7_copy 120 = .ok (.isub, 1) := by decide +kernel
theorem dX7_copy_121 : decode cX7_copy 121 = .ok (.if_icmp .le 6, 3) := by decide +kernel
theorem dX7_copy_124 : decode cX7_copy 124 = .ok (.bipush (-12), 2) := by decide +kernel
theorem dX7_copy_126 : decode cX7_copy 126 = .ok (.ireturn, 1) := by decide +kernel
theorem dX7_copy_127 : decode cX7_copy 127 = .ok (.bipush 40, 2) := by decide +kernel
theorem dX7_copy_129 : decode cX7_copy 129 = .ok (.iload_n 1, 1) := by decide +kernel
theorem dX7_copy_130 : decode cX7_copy 130 = .ok (.imul, 1) := by decide +kernel
theorem dX7_copy_131 : decode cX7_copy 131 = .ok (.iload_n 2, 1) := by decide +kernel
theorem dX7_copy_132 : decode cX7_copy 132 = .ok (.iadd, 1) := by decide +kernel
theorem dX7_copy_133 : decode cX7_copy 133 = .ok (.istore 6, 2) := by decide +kernel
theorem dX7_copy_135 : decode cX7_copy 135 = .ok (.bipush 40, 2) := by decide +kernel
theorem dX7_copy_137 : decode cX7_copy 137 = .ok (.iload_n 3, 1) := by decide +kernel
theorem dX7_copy_138 : decode cX7_copy 138 = .ok (.imul, 1) := by decide +kernel
theorem dX7_copy_139 : decode cX7_copy 139 = .ok (.iload 4, 2) := by decide +kernel
theorem dX7_copy_141 : decode cX7_copy 141 = .ok (.iadd, 1) := by decide +kernel
theorem dX7_copy_142 : decode cX7_copy 142 = .ok (.istore 7, 2) := by decide +kernel
theorem dX7_copy_144 : decode cX7_copy 144 = .ok (.iconst 0, 1) := by decide +kernel
theorem dX7_copy_145 : decode cX7_copy 145 = .ok (.istore 8, 2) := by decide +kernel
theorem dX7_copy_147 : decode cX7_copy 147 = .ok (.iload 8, 2) := by decide +kernel
theorem dX7_copy_149 : decode cX7_copy 149 = .ok (.iload 5, 2) := by decide +kernel
theorem dX7_copy_151 : decode cX7_copy 151 = .ok (.if_icmp .ge 50, 3) := by decide +kernel
theorem dX7_copy_154 : decode cX7_copy 154 = .ok (.iload 6, 2) := by decide +kernel
theorem dX7_copy_156 : decode cX7_copy 156 = .ok (.iload 7, 2) := by decide +kernel
theorem dX7_copy_158 : decode cX7_copy 158 = .ok (.if_icmp .ge 13, 3) := by decide +kernel
theorem dX7_copy_161 : decode cX7_copy 161 = .ok (.iload 5, 2) := by decide +kernel
theorem dX7_copy_163 : decode cX7_copy 163 = .ok (.iconst 1, 1) := by decide +kernel
theorem dX7_copy_164 : decode cX7_copy 164 = .ok (.isub, 1) := by decide +kernel
theorem dX7_copy_165 : decode cX7_copy 165 = .ok (.iload 8, 2) := by decide +kernel
theorem dX7_copy_167 : decode cX7_copy 167 = .ok (.isub, 1) := by decide +kernel
theorem dX7_copy_168 : decode cX7_copy 168 = .ok (.goto 5, 3) := by decide +kernel
theorem dX7_copy_171 : decode cX7_copy 171 = .ok (.iload 8, 2) := by decide +kernel
theorem dX7_copy_173 : decode cX7_copy 173 = .ok (.istore 9, 2) := by decide +kernel
theorem dX7_copy_175 : decode cX7_copy 175 = .ok (.aload_n 0, 1) := by decide +kernel
theorem dX7_copy_176 : decode cX7_copy 176 = .ok (.getfield 52, 3) := by decide +kernel
theorem dX7_copy_179 : decode cX7_copy 179 = .ok (.iload 7, 2) := by decide +kernel
theorem dX7_copy_181 : decode cX7_copy 181 = .ok (.iload 9, 2) := by decide +kernel
theorem dX7_copy_183 : decode cX7_copy 183 = .ok (.iadd, 1) := by decide +kernel
theorem dX7_copy_184 : decode cX7_copy 184 = .ok (.aload_n 0, 1) := by decide +kernel
theorem dX7_copy_185 : decode cX7_copy 185 = .ok (.getfield 52, 3) := by decide +kernel
theorem dX7_copy_188 : decode cX7_copy 188 = .ok (.iload 6, 2) := by decide +kernel
theorem dX7_copy_190 : decode cX7_copy 190 = .ok (.iload 9, 2) := by decide +kernel
theorem dX7_copy_192 : decode cX7_copy 192 = .ok (.iadd, 1) := by decide +kernel
theorem dX7_copy_193 : decode cX7_copy 193 = .ok (.iaload, 1) := by decide +kernel
theorem dX7_copy_194 : decode cX7_copy 194 = .ok (.iastore, 1) := by decide +kernel
theorem dX7_copy_195 : decode cX7_copy 195 = .ok (.iinc 8 1, 3) := by decide +kernel
theorem dX7_copy_198 : decode cX7_copy 198 = .ok (.goto (-51), 3) := by decide +kernel
theorem dX7_copy_201 : decode cX7_copy 201 = .ok (.iload 5, 2) := by decide +kernel
theorem dX7_copy_203 : decode cX7_copy 203 = .ok (.ireturn, 1) := by decide +kernel
theorem dX7_hutsBy_0 : decode cX7_hutsBy 0 = .ok (.iload_n 1, 1) := by decide +kernel
theorem dX7_hutsBy_1 : decode cX7_hutsBy 1 = .ok (.iconst 0, 1) := by decide +kernel
theorem dX7_hutsBy_2 : decode cX7_hutsBy 2 = .ok (.iconst 3, 1) := by decide +kernel
theorem dX7_hutsBy_3 : decode cX7_hutsBy 3 = .ok (.invokestatic 87, 3) := by decide +kernel
theorem dX7_hutsBy_6 : decode cX7_hutsBy 6 = .ok (.ifCond .eq 23, 3) := by decide +kernel
theorem dX7_hutsBy_9 : decode cX7_hutsBy 9 = .ok (.iload_n 2, 1) := by decide +kernel
theorem dX7_hutsBy_10 : decode cX7_hutsBy 10 = .ok (.iconst 0, 1) := by decide +kernel
theorem dX7_hutsBy_11 : decode cX7_hutsBy 11 = .ok (.iconst 2, 1) := by decide +kernel
theorem dX7_hutsBy_12 : decode cX7_hutsBy 12 = .ok (.invokestatic 87, 3) := by decide +kernel
theorem dX7_hutsBy_15 : decode cX7_hutsBy 15 = .ok (.ifCond .eq 14, 3) := by decide +kernel
theorem dX7_hutsBy_18 : decode cX7_hutsBy 18 = .ok (.iload 4, 2) := by decide +kernel
theorem dX7_hutsBy_20 : decode cX7_hutsBy 20 = .ok (.iconst 0, 1) := by decide +kernel
theorem dX7_hutsBy_21 : decode cX7_hutsBy 21 = .ok (.bipush 6, 2) := by decide +kernel
theorem dX7_hutsBy_23 : decode cX7_hutsBy 23 = .ok (.invokestatic 87, 3) := by decide +kernel
theorem dX7_hutsBy_26 : decode cX7_hutsBy 26 = .ok (.ifCond .ne 6, 3) := by decide +kernel
theorem dX7_hutsBy_29 : decode cX7_hutsBy 29 = .ok (.bipush (-2), 2) := by decide +kernel
theorem dX7_hutsBy_31 : decode cX7_hutsBy 31 = .ok (.ireturn, 1) := by decide +kernel
theorem dX7_hutsBy_32 : decode cX7_hutsBy 32 = .ok (.aload_n 0, 1) := by decide +kernel
theorem dX7_hutsBy_33 : decode cX7_hutsBy 33 = .ok (.getfield 46, 3) := by decide +kernel
theorem dX7_hutsBy_36 : decode cX7_hutsBy 36 = .ok (.iload_n 1, 1) := by decide +kernel
theorem dX7_hutsBy_37 : decode cX7_hutsBy 37 = .ok (.iaload, 1) := by decide +kernel
theorem dX7_hutsBy_38 : decode cX7_hutsBy 38 = .ok (.iconst (-1), 1) := by decide +kernel
theorem dX7_hutsBy_39 : decode cX7_hutsBy 39 = .ok (.if_icmp .ne 6, 3) := by decide +kernel
theorem dX7_hutsBy_42 : decode cX7_hutsBy 42 = .ok (.bipush (-11), 2) := by decide +kernel
theorem dX7_hutsBy_44 : decode cX7_hutsBy 44 = .ok (.ireturn, 1) := by decide +kernel
theorem dX7_hutsBy_45 : decode cX7_hutsBy 45 = .ok (.aload_n 0, 1) := by decide +kernel
theorem dX7_hutsBy_46 : decode cX7_hutsBy 46 = .ok (.getfield 46, 3) := by decide +kernel
theorem dX7_hutsBy_49 : decode cX7_hutsBy 49 = .ok (.iload_n 1, 1) := by decide +kernel
theorem dX7_hutsBy_50 : decode cX7_hutsBy 50 = .ok (.iaload, 1) := by decide +kernel
theorem dX7_hutsBy_51 : decode cX7_hutsBy 51 = .ok (.iload_n 2, 1) := by decide +kernel
theorem dX7_hutsBy_52 : decode cX7_hutsBy 52 = .ok (.if_icmp .eq 6, 3) := by decide +kernel
theorem dX7_hutsBy_55 : decode cX7_hutsBy 55 = .ok (.bipush (-13), 2) := by decide +kernel
theorem dX7_hutsBy_57 : decode cX7_hutsBy 57 = .ok (.ireturn, 1) := by decide +kernel
theorem dX7_hutsBy_58 : decode cX7_hutsBy 58 = .ok (.iconst 0, 1) := by decide +kernel
theorem dX7_hutsBy_59 : decode cX7_hutsBy 59 = .ok (.istore 5, 2) := by decide +kernel
theorem dX7_hutsBy_61 : decode cX7_hutsBy 61 = .ok (.iconst 0, 1) := by decide +kernel
theorem dX7_hutsBy_62 : decode cX7_hutsBy 62 = .ok (.istore 6, 2) := by decide +kernel
theorem dX7_hutsBy_64 : decode cX7_hutsBy 64 = .ok (.iload 6, 2) := by decide +kernel
theorem dX7_hutsBy_66 : decode cX7_hutsBy 66 = .ok (.iload 4, 2) := by decide +kernel
theorem dX7_hutsBy_68 : decode cX7_hutsBy 68 = .ok (.if_icmp .ge 85, 3) := by decide +kernel
theorem dX7_hutsBy_71 : decode cX7_hutsBy 71 = .ok (.iload_n 3, 1) := by decide +kernel
theorem dX7_hutsBy_72 : decode cX7_hutsBy 72 = .ok (.iconst 2, 1) := by decide +kernel
theorem dX7_hutsBy_73 : decode cX7_hutsBy 73 = .ok (.iload 6, 2) := by decide +kernel
theorem dX7_hutsBy_75 : decode cX7_hutsBy 75 = .ok (.imul, 1) := by decide +kernel
theorem dX7_hutsBy_76 : decode cX7_hutsBy 76 = .ok (.iadd, 1) := by decide +kernel
theorem dX7_hutsBy_77 : decode cX7_hutsBy 77 = .ok (.istore 7, 2) := by decide +kernel
theorem dX7_hutsBy_79 : decode cX7_hutsBy 79 = .ok (.iload_n 3, 1) := by decide +kernel
theorem dX7_hutsBy_80 : decode cX7_hutsBy 80 = .ok (.ifCond .lt 22, 3) := by decide +kernel
theorem dX7_hutsBy_83 : decode cX7_hutsBy 83 = .ok (.iload 7, 2) := by decide +kernel
theorem dX7_hutsBy_85 : decode cX7_hutsBy 85 = .ok (.iload_n 3, 1) := by decide +kernel
theorem dX7_hutsBy_86 : decode cX7_hutsBy 86 = .ok (.if_icmp .lt 16, 3) := by decide +kernel
theorem dX7_hutsBy_89 : decode cX7_hutsBy 89 = .ok (.iload 7, 2) := by decide +kernel
theorem dX7_hutsBy_91 : decode cX7_hutsBy 91 = .ok (.aload_n 0, 1) := by decide +kernel
theorem dX7_hutsBy_92 : decode cX7_hutsBy 92 = .ok (.getfield 49, 3) := by decide +kernel
theorem dX7_hutsBy_95 : decode cX7_hutsBy 95 = .ok (.iload_n 1, 1) := by decide +kernel
theorem dX7_hutsBy_96 : decode cX7_hutsBy 96 = .ok (.iaload, 1) := by decide +kernel
theorem dX7_hutsBy_97 : decode cX7_hutsBy 97 = .ok (.iconst 2, 1) := by decide +kernel
theorem dX7_hutsBy_98 : decode cX7_hutsBy 98 = .ok (.isub, 1) := by decide +kernel
theorem dX7_hutsBy_99 : decode cX7_hutsBy 99 = .ok (.if_icmp .le 6, 3) := by decide +kernel
theorem dX7_hutsBy_102 : decode cX7_hutsBy 102 = .ok (.bipush (-12), 2) := by decide +kernel
theorem dX7_hutsBy_104 : decode cX7_hutsBy 104 = .ok (.ireturn, 1) := by decide +kernel
theorem dX7_hutsBy_105 : decode cX7_hutsBy 105 = .ok (.bipush 40, 2) := by decide +kernel
theorem dX7_hutsBy_107 : decode cX7_hutsBy 107 = .ok (.iload_n 1, 1) := by decide +kernel
theorem dX7_hutsBy_108 : decode cX7_hutsBy 108 = .ok (.imul, 1) := by decide +kernel
theorem dX7_hutsBy_109 : decode cX7_hutsBy 109 = .ok (.iload 7, 2) := by decide +kernel
theorem dX7_hutsBy_111 : decode cX7_hutsBy 111 = .ok (.iadd, 1) := by decide +kernel
theorem dX7_hutsBy_112 : decode cX7_hutsBy 112 = .ok (.istore 8, 2) := by decide +kernel
theorem dX7_hutsBy_114 : decode cX7_hutsBy 114 = .ok (.iload 5, 2) := by decide +kernel
theorem dX7_hutsBy_116 : decode cX7_hutsBy 116 = .ok (.aload_n 0, 1) := by decide +kernel
theorem dX7_hutsBy_117 : decode cX7_hutsBy 117 = .ok (.aload_n 0, 1) := by decide +kernel
theorem dX7_hutsBy_118 : decode cX7_hutsBy 118 = .ok (.getfield 52, 3) := by decide +kernel
theorem dX7_hutsBy_121 : decode cX7_hutsBy 121 = .ok (.iload 8, 2) := by decide +kernel
theorem dX7_hutsBy_123 : decode cX7_hutsBy 123 = .ok (.iaload, 1) := by decide +kernel
theorem dX7_hutsBy_124 : decode cX7_hutsBy 124 = .ok (.aload_n 0, 1) := by decide +kernel
theorem dX7_hutsBy_125 : decode cX7_hutsBy 125 = .ok (.getfield 52, 3) := by decide +kernel
theorem dX7_hutsBy_128 : decode cX7_hutsBy 128 = .ok (.iload 8, 2) := by decide +kernel
theorem dX7_hutsBy_130 : decode cX7_hutsBy 130 = .ok (.iconst 1, 1) := by decide +kernel
theorem dX7_hutsBy_131 : decode cX7_hutsBy 131 = .ok (.iadd, 1) := by decide +kernel
theorem dX7_hutsBy_132 : decode cX7_hutsBy 132 = .ok (.iaload, 1) := by decide +kernel
theorem dX7_hutsBy_133 : decode cX7_hutsBy 133 = .ok (.invokevirtual 276, 3) := by decide +kernel
theorem dX7_hutsBy_136 : decode cX7_hutsBy 136 = .ok (.ifCond .lt 7, 3) := by decide +kernel
theorem dX7_hutsBy_139 : decode cX7_hutsBy 139 = .ok (.iconst 1, 1) := by decide +kernel
theorem dX7_hutsBy_140 : decode cX7_hutsBy 140 = .ok (.goto 4, 3) := by decide +kernel
theorem dX7_hutsBy_143 : decode cX7_hutsBy 143 = .ok (.iconst 0, 1) := by decide +kernel
theorem dX7_hutsBy_144 : decode cX7_hutsBy 144 = .ok (.iadd, 1) := by decide +kernel
theorem dX7_hutsBy_145 : decode cX7_hutsBy 145 = .ok (.istore 5, 2) := by decide +kernel
theorem dX7_hutsBy_147 : decode cX7_hutsBy 147 = .ok (.iinc 6 1, 3) := by decide +kernel
theorem dX7_hutsBy_150 : decode cX7_hutsBy 150 = .ok (.goto (-86), 3) := by decide +kernel
theorem dX7_hutsBy_153 : decode cX7_hutsBy 153 = .ok (.iload 5, 2) := by decide +kernel
theorem dX7_hutsBy_155 : decode cX7_hutsBy 155 = .ok (.ireturn, 1) := by decide +kernel
theorem dX7_isUnder_0 : decode cX7_isUnder 0 = .ok (.iload_n 1, 1) := by decide +kernel
theorem dX7_isUnder_1 : decode cX7_isUnder 1 = .ok (.ifCond .eq 28, 3) := by decide +kernel
theorem dX7_isUnder_4 : decode cX7_isUnder 4 = .ok (.iload_n 0, 1) := by decide +kernel
theorem dX7_isUnder_5 : decode cX7_isUnder 5 = .ok (.iload_n 1, 1) := by decide +kernel
theorem dX7_isUnder_6 : decode cX7_isUnder 6 = .ok (.if_icmp .eq 23, 3) := by decide +kernel
theorem dX7_isUnder_9 : decode cX7_isUnder 9 = .ok (.iload_n 1, 1) := by decide +kernel
theorem dX7_isUnder_10 : decode cX7_isUnder 10 = .ok (.iconst 1, 1) := by decide +kernel
theorem dX7_isUnder_11 : decode cX7_isUnder 11 = .ok (.if_icmp .ne 8, 3) := by decide +kernel
theorem dX7_isUnder_14 : decode cX7_isUnder 14 = .ok (.iload_n 0, 1) := by decide +kernel
theorem dX7_isUnder_15 : decode cX7_isUnder 15 = .ok (.iconst 3, 1) := by decide +kernel
theorem dX7_isUnder_16 : decode cX7_isUnder 16 = .ok (.if_icmp .eq 13, 3) := by decide +kernel
theorem dX7_isUnder_19 : decode cX7_isUnder 19 = .ok (.iload_n 1, 1) := by decide +kernel
theorem dX7_isUnder_20 : decode cX7_isUnder 20 = .ok (.iconst 2, 1) := by decide +kernel
theorem dX7_isUnder_21 : decode cX7_isUnder 21 = .ok (.if_icmp .ne 12, 3) := by decide +kernel
theorem dX7_isUnder_24 : decode cX7_isUnder 24 = .ok (.iload_n 0, 1) := by decide +kernel
theorem dX7_isUnder_25 : decode cX7_isUnder 25 = .ok (.iconst 4, 1) := by decide +kernel
theorem dX7_isUnder_26 : decode cX7_isUnder 26 = .ok (.if_icmp .ne 7, 3) := by decide +kernel
theorem dX7_isUnder_29 : decode cX7_isUnder 29 = .ok (.iconst 1, 1) := by decide +kernel
theorem dX7_isUnder_30 : decode cX7_isUnder 30 = .ok (.goto 4, 3) := by decide +kernel
theorem dX7_isUnder_33 : decode cX7_isUnder 33 = .ok (.iconst 0, 1) := by decide +kernel
theorem dX7_isUnder_34 : decode cX7_isUnder 34 = .ok (.ireturn, 1) := by decide +kernel
theorem dX7_taken_0 : decode cX7_taken 0 = .ok (.iload_n 2, 1) := by decide +kernel
theorem dX7_taken_1 : decode cX7_taken 1 = .ok (.iconst 0, 1) := by decide +kernel
theorem dX7_taken_2 : decode cX7_taken 2 = .ok (.bipush 6, 2) := by decide +kernel
theorem dX7_taken_4 : decode cX7_taken 4 = .ok (.invokestatic 87, 3) := by decide +kernel
theorem dX7_taken_7 : decode cX7_taken 7 = .ok (.ifCond .ne 6, 3) := by decide +kernel
theorem dX7_taken_10 : decode cX7_taken 10 = .ok (.bipush (-2), 2) := by decide +kernel
theorem dX7_taken_12 : decode cX7_taken 12 = .ok (.ireturn, 1) := by decide +kernel
theorem dX7_taken_13 : decode cX7_taken 13 = .ok (.iload_n 1, 1) := by decide +kernel
theorem dX7_taken_14 : decode cX7_taken 14 = .ok (.iconst 0, 1) := by decide +kernel
theorem dX7_taken_15 : decode cX7_taken 15 = .ok (.bipush 11, 2) := by decide +kernel
theorem dX7_taken_17 : decode cX7_taken 17 = .ok (.invokestatic 87, 3) := by decide +kernel
theorem dX7_taken_20 : decode cX7_taken 20 = .ok (.ifCond .ne 6, 3) := by decide +kernel
theorem dX7_taken_23 : decode cX7_taken 23 = .ok (.bipush (-12), 2) := by decide +kernel
theorem dX7_taken_25 : decode cX7_taken 25 = .ok (.ireturn, 1) := by decide +kernel
theorem dX7_taken_26 : decode cX7_taken 26 = .ok (.iload_n 1, 1) := by decide +kernel
theorem dX7_taken_27 : decode cX7_taken 27 = .ok (.bipush 6, 2) := by decide +kernel
theorem dX7_taken_29 : decode cX7_taken 29 = .ok (.irem, 1) := by decide +kernel
theorem dX7_taken_30 : decode cX7_taken 30 = .ok (.aload_n 0, 1) := by decide +kernel
theorem dX7_taken_31 : decode cX7_taken 31 = .ok (.getfield 84, 3) := by decide +kernel
theorem dX7_taken_34 : decode cX7_taken 34 = .ok (.if_icmp .lt 6, 3) := by decide +kernel
theorem dX7_taken_37 : decode cX7_taken 37 = .ok (.bipush (-11), 2) := by decide +kernel
theorem dX7_taken_39 : decode cX7_taken 39 = .ok (.ireturn, 1) := by decide +kernel
theorem dX7_taken_40 : decode cX7_taken 40 = .ok (.iload_n 1, 1) := by decide +kernel
theorem dX7_taken_41 : decode cX7_taken 41 = .ok (.bipush 6, 2) := by decide +kernel
theorem dX7_taken_43 : decode cX7_taken 43 = .ok (.if_icmp .lt 26, 3) := by decide +kernel
theorem dX7_taken_46 : decode cX7_taken 46 = .ok (.iload_n 2, 1) := by decide +kernel
theorem dX7_taken_47 : decode cX7_taken 47 = .ok (.bipush 6, 2) := by decide +kernel
theorem dX7_taken_49 : decode cX7_taken 49 = .ok (.if_icmp .ne 17, 3) := by decide +kernel
theorem dX7_taken_52 : decode cX7_taken 52 = .ok (.aload_n 0, 1) := by decide +kernel
theorem dX7_taken_53 : decode cX7_taken 53 = .ok (.getfield 16, 3) := by decide +kernel
theorem dX7_taken_56 : decode cX7_taken 56 = .ok (.iconst 3, 1) := by decide +kernel
theorem dX7_taken_57 : decode cX7_taken 57 = .ok (.iload_n 1, 1) := by decide +kernel
theorem dX7_taken_58 : decode cX7_taken 58 = .ok (.bipush 6, 2) := by decide +kernel
theorem dX7_taken_60 : decode cX7_taken 60 = .ok (.isub, 1) := by decide +kernel
theorem dX7_taken_61 : decode cX7_taken 61 = .ok (.imul, 1) := by decide +kernel
theorem dX7_taken_62 : decode cX7_taken 62 = .ok (.iaload, 1) := by decide +kernel
theorem dX7_taken_63 : decode cX7_taken 63 = .ok (.goto 5, 3) := by decide +kernel
theorem dX7_taken_66 : decode cX7_taken 66 = .ok (.bipush (-13), 2) := by decide +kernel
theorem dX7_taken_68 : decode cX7_taken 68 = .ok (.ireturn, 1) := by decide +kernel
theorem dX7_taken_69 : decode cX7_taken 69 = .ok (.iload_n 2, 1) := by decide +kernel
theorem dX7_taken_70 : decode cX7_taken 70 = .ok (.bipush 6, 2) := by decide +kernel
theorem dX7_taken_72 : decode cX7_taken 72 = .ok (.if_icmp .ge 20, 3) := by decide +kernel
theorem dX7_taken_75 : decode cX7_taken 75 = .ok (.aload_n 0, 1) := by decide +kernel
theorem dX7_taken_76 : decode cX7_taken 76 = .ok (.getfield 7, 3) := by decide +kernel
theorem dX7_taken_79 : decode cX7_taken 79 = .ok (.iload_n 1, 1) := by decide +kernel
theorem dX7_taken_80 : decode cX7_taken 80 = .ok (.iaload, 1) := by decide +kernel
theorem dX7_taken_81 : decode cX7_taken 81 = .ok (.iload_n 2, 1) := by decide +kernel
theorem dX7_taken_82 : decode cX7_taken 82 = .ok (.invokestatic 279, 3) := by decide +kernel
theorem dX7_taken_85 : decode cX7_taken 85 = .ok (.ifCond .eq 7, 3) := by decide +kernel
theorem dX7_taken_88 : decode cX7_taken 88 = .ok (.iload_n 1, 1) := by decide +kernel
theorem dX7_taken_89 : decode cX7_taken 89 = .ok (.goto 5, 3) := by decide +kernel
theorem dX7_taken_92 : decode cX7_taken 92 = .ok (.bipush (-13), 2) := by decide +kernel
theorem dX7_taken_94 : decode cX7_taken 94 = .ok (.ireturn, 1) := by decide +kernel
