theorem dX6_count_0 : decode cX6_count 0 = .ok (.iload_n 1, 1) := by decide +kernel
theorem dX6_count_1 : decode cX6_count 1 = .ok (.tableswitch 99 0 6 #[43, 51, 59, 67, 75, 83, 91], 43) := by decide +kernel
theorem dX6_count_44 : decode cX6_count 44 = .ok (.aload_n 0, 1) := by decide +kernel
theorem dX6_count_45 : decode cX6_count 45 = .ok (.getfield 54, 3) := by decide +kernel
theorem dX6_count_48 : decode cX6_count 48 = .ok (.getfield 79, 3) := by decide +kernel
theorem dX6_count_51 : decode cX6_count 51 = .ok (.ireturn, 1) := by decide +kernel
theorem dX6_count_52 : decode cX6_count 52 = .ok (.aload_n 0, 1) := by decide +kernel
theorem dX6_count_53 : decode cX6_count 53 = .ok (.getfield 54, 3) := by decide +kernel
theorem dX6_count_56 : decode cX6_count 56 = .ok (.getfield 83, 3) := by decide +kernel
theorem dX6_count_59 : decode cX6_count 59 = .ok (.ireturn, 1) := by decide +kernel
theorem dX6_count_60 : decode cX6_count 60 = .ok (.aload_n 0, 1) := by decide +kernel
theorem dX6_count_61 : decode cX6_count 61 = .ok (.getfield 54, 3) := by decide +kernel
theorem dX6_count_64 : decode cX6_count 64 = .ok (.getfield 86, 3) := by decide +kernel
theorem dX6_count_67 : decode cX6_count 67 = .ok (.ireturn, 1) := by decide +kernel
theorem dX6_count_68 : decode cX6_count 68 = .ok (.aload_n 0, 1) := by decide +kernel
theorem dX6_count_69 : decode cX6_count 69 = .ok (.getfield 54, 3) := by decide +kernel
theorem dX6_count_72 : decode cX6_count 72 = .ok (.invokevirtual 89, 3) := by decide +kernel
theorem dX6_count_75 : decode cX6_count 75 = .ok (.ireturn, 1) := by decide +kernel
theorem dX6_count_76 : decode cX6_count 76 = .ok (.aload_n 0, 1) := by decide +kernel
theorem dX6_count_77 : decode cX6_count 77 = .ok (.getfield 10, 3) := by decide +kernel
theorem dX6_count_80 : decode cX6_count 80 = .ok (.getfield 92, 3) := by decide +kernel
theorem dX6_count_83 : decode cX6_count 83 = .ok (.ireturn, 1) := by decide +kernel
theorem dX6_count_84 : decode cX6_count 84 = .ok (.aload_n 0, 1) := by decide +kernel
theorem dX6_count_85 : decode cX6_count 85 = .ok (.getfield 54, 3) := by decide +kernel
theorem dX6_count_88 : decode cX6_count 88 = .ok (.getfield 95, 3) := by decide +kernel
theorem dX6_count_91 : decode cX6_count 91 = .ok (.ireturn, 1) := by decide +kernel
theorem dX6_count_92 : decode cX6_count 92 = .ok (.aload_n 0, 1) := by decide +kernel
theorem dX6_count_93 : decode cX6_count 93 = .ok (.getfield 19, 3) := by decide +kernel
theorem dX6_count_96 : decode cX6_count 96 = .ok (.getfield 98, 3) := by decide +kernel
theorem dX6_count_99 : decode cX6_count 99 = .ok (.ireturn, 1) := by decide +kernel
theorem dX6_count_100 : decode cX6_count 100 = .ok (.bipush (-2), 2) := by decide +kernel
theorem dX6_count_102 : decode cX6_count 102 = .ok (.ireturn, 1) := by decide +kernel
theorem dX6_feed_0 : decode cX6_feed 0 = .ok (.iload_n 1, 1) := by decide +kernel
theorem dX6_feed_1 : decode cX6_feed 1 = .ok (.iconst 1, 1) := by decide +kernel
theorem dX6_feed_2 : decode cX6_feed 2 = .ok (.iconst 5, 1) := by decide +kernel
theorem dX6_feed_3 : decode cX6_feed 3 = .ok (.invokestatic 101, 3) := by decide +kernel
theorem dX6_feed_6 : decode cX6_feed 6 = .ok (.ifCond .eq 41, 3) := by decide +kernel
theorem dX6_feed_9 : decode cX6_feed 9 = .ok (.iload_n 2, 1) := by decide +kernel
theorem dX6_feed_10 : decode cX6_feed 10 = .ok (.invokestatic 105, 3) := by decide +kernel
theorem dX6_feed_13 : decode cX6_feed 13 = .ok (.ifCond .eq 34, 3) := by decide +kernel
theorem dX6_feed_16 : decode cX6_feed 16 = .ok (.iload_n 3, 1) := by decide +kernel
theorem dX6_feed_17 : decode cX6_feed 17 = .ok (.invokestatic 105, 3) := by decide +kernel
theorem dX6_feed_20 : decode cX6_feed 20 = .ok (.ifCond .eq 27, 3) := by decide +kernel
theorem dX6_feed_23 : decode cX6_feed 23 = .ok (.iload 4, 2) := by decide +kernel
theorem dX6_feed_25 : decode cX6_feed 25 = .ok (.invokestatic 105, 3) := by decide +kernel
theorem dX6_feed_28 : decode cX6_feed 28 = .ok (.ifCond .eq 19, 3) := by decide +kernel
theorem dX6_feed_31 : decode cX6_feed 31 = .ok (.iload 5, 2) := by decide +kernel
theorem dX6_feed_33 : decode cX6_feed 33 = .ok (.invokestatic 105, 3) := by decide +kernel
theorem dX6_feed_36 : decode cX6_feed 36 = .ok (.ifCond .eq 11, 3) := by decide +kernel
theorem dX6_feed_39 : decode cX6_feed 39 = .ok (.iload 6, 2) := by decide +kernel
theorem dX6_feed_41 : decode cX6_feed 41 = .ok (.invokestatic 105, 3) := by decide +kernel
theorem dX6_feed_44 : decode cX6_feed 44 = .ok (.ifCond .ne 6, 3) := by decide +kernel
theorem dX6_feed_47 : decode cX6_feed 47 = .ok (.bipush (-2), 2) := by decide +kernel
theorem dX6_feed_49 : decode cX6_feed 49 = .ok (.ireturn, 1) := by decide +kernel
theorem dX6_feed_50 : decode cX6_feed 50 = .ok (.aload_n 0, 1) := by decide +kernel
theorem dX6_feed_51 : decode cX6_feed 51 = .ok (.getfield 19, 3) := by decide +kernel
theorem dX6_feed_54 : decode cX6_feed 54 = .ok (.getfield 98, 3) := by decide +kernel
theorem dX6_feed_57 : decode cX6_feed 57 = .ok (.iload_n 1, 1) := by decide +kernel
theorem dX6_feed_58 : decode cX6_feed 58 = .ok (.iadd, 1) := by decide +kernel
theorem dX6_feed_59 : decode cX6_feed 59 = .ok (.sipush 160, 3) := by decide +kernel
theorem dX6_feed_62 : decode cX6_feed 62 = .ok (.if_icmp .le 6, 3) := by decide +kernel
theorem dX6_feed_65 : decode cX6_feed 65 = .ok (.bipush (-4), 2) := by decide +kernel
theorem dX6_feed_67 : decode cX6_feed 67 = .ok (.ireturn, 1) := by decide +kernel
theorem dX6_feed_68 : decode cX6_feed 68 = .ok (.aload_n 0, 1) := by decide +kernel
theorem dX6_feed_69 : decode cX6_feed 69 = .ok (.getfield 19, 3) := by decide +kernel
theorem dX6_feed_72 : decode cX6_feed 72 = .ok (.iload_n 2, 1) := by decide +kernel
theorem dX6_feed_73 : decode cX6_feed 73 = .ok (.invokevirtual 35, 3) := by decide +kernel
theorem dX6_feed_76 : decode cX6_feed 76 = .ok (.iload_n 1, 1) := by decide +kernel
theorem dX6_feed_77 : decode cX6_feed 77 = .ok (.iconst 1, 1) := by decide +kernel
theorem dX6_feed_78 : decode cX6_feed 78 = .ok (.if_icmp .le 11, 3) := by decide +kernel
theorem dX6_feed_81 : decode cX6_feed 81 = .ok (.aload_n 0, 1) := by decide +kernel
theorem dX6_feed_82 : decode cX6_feed 82 = .ok (.getfield 19, 3) := by decide +kernel
theorem dX6_feed_85 : decode cX6_feed 85 = .ok (.iload_n 3, 1) := by decide +kernel
theorem dX6_feed_86 : decode cX6_feed 86 = .ok (.invokevirtual 35, 3) := by decide +kernel
theorem dX6_feed_89 : decode cX6_feed 89 = .ok (.iload_n 1, 1) := by decide +kernel
theorem dX6_feed_90 : decode cX6_feed 90 = .ok (.iconst 2, 1) := by decide +kernel
theorem dX6_feed_91 : decode cX6_feed 91 = .ok (.if_icmp .le 12, 3) := by decide +kernel
theorem dX6_feed_94 : decode cX6_feed 94 = .ok (.aload_n 0, 1) := by decide +kernel
theorem dX6_feed_95 : decode cX6_feed 95 = .ok (.getfield 19, 3) := by decide +kernel
theorem dX6_feed_98 : decode cX6_feed 98 = .ok (.iload 4, 2) := by decide +kernel
theorem dX6_feed_100 : decode cX6_feed 100 = .ok (.invokevirtual 35, 3) := by decide +kernel
theorem dX6_feed_103 : decode cX6_feed 103 = .ok (.iload_n 1, 1) := by decide +kernel
theorem dX6_feed_104 : decode cX6_feed 104 = .ok (.iconst 3, 1) := by decide +kernel
theorem dX6_feed_105 : decode cX6_feed 105 = .ok (.if_icmp .le 12, 3) := by decide +kernel
theorem dX6_feed_108 : decode cX6_feed 108 = .ok (.aload_n 0, 1) := by decide +kernel
theorem dX6_feed_109 : decode cX6_feed 109 = .ok (.getfield 19, 3) := by decide +kernel
theorem dX6_feed_112 : decode cX6_feed 112 = .ok (.iload 5, 2) := by decide +kernel
theorem dX6_feed_114 : decode cX6_feed 114 = .ok (.invokevirtual 35, 3) := by decide +kernel
theorem dX6_feed_117 : decode cX6_feed 117 = .ok (.iload_n 1, 1) := by decide +kernel
theorem dX6_feed_118 : decode cX6_feed 118 = .ok (.iconst 4, 1) := by decide +kernel
theorem dX6_feed_119 : decode cX6_feed 119 = .ok (.if_icmp .le 12, 3) := by decide +kernel
theorem dX6_feed_122 : decode cX6_feed 122 = .ok (.aload_n 0, 1) := by decide +kernel
theorem dX6_feed_123 : decode cX6_feed 123 = .ok (.getfield 19, 3) := by decide +kernel
theorem dX6_feed_126 : decode cX6_feed 126 = .ok (.iload 6, 2) := by decide +kernel
theorem dX6_feed_128 : decode cX6_feed 128 = .ok (.invokevirtual 35, 3) := by decide +kernel
theorem dX6_feed_131 : decode cX6_feed 131 = .ok (.aload_n 0, 1) := by decide +kernel
theorem dX6_feed_132 : decode cX6_feed 132 = .ok (.getfield 19, 3) := by decide +kernel
theorem dX6_feed_135 : decode cX6_feed 135 = .ok (.getfield 98, 3) := by decide +kernel
theorem dX6_feed_138 : decode cX6_feed 138 = .ok (.ireturn, 1) := by decide +kernel
theorem dX6_text_0 : decode cX6_text 0 = .ok (.aload_n 0, 1) := by decide +kernel
theorem dX6_text_1 : decode cX6_text 1 = .ok (.getfield 10, 3) := by decide +kernel
theorem dX6_text_4 : decode cX6_text 4 = .ok (.getfield 92, 3) := by decide +kernel
theorem dX6_text_7 : decode cX6_text 7 = .ok (.bipush 6, 2) := by decide +kernel
theorem dX6_text_9 : decode cX6_text 9 = .ok (.if_icmp .lt 6, 3) := by decide +kernel
theorem dX6_text_12 : decode cX6_text 12 = .ok (.bipush (-4), 2) := by decide +kernel
theorem dX6_text_14 : decode cX6_text 14 = .ok (.ireturn, 1) := by decide +kernel
theorem dX6_text_15 : decode cX6_text 15 = .ok (.aload_n 0, 1) := by decide +kernel
theorem dX6_text_16 : decode cX6_text 16 = .ok (.getfield 19, 3) := by decide +kernel
theorem dX6_text_19 : decode cX6_text 19 = .ok (.invokevirtual 39, 3) := by decide +kernel
theorem dX6_text_22 : decode cX6_text 22 = .ok (.istore_n 1, 1) := by decide +kernel
theorem dX6_text_23 : decode cX6_text 23 = .ok (.iload_n 1, 1) := by decide +kernel
theorem dX6_text_24 : decode cX6_text 24 = .ok (.iconst (-1), 1) := by decide +kernel
theorem dX6_text_25 : decode cX6_text 25 = .ok (.if_icmp .ne 17, 3) := by decide +kernel
theorem dX6_text_28 : decode cX6_text 28 = .ok (.aload_n 0, 1) := by decide +kernel
theorem dX6_text_29 : decode cX6_text 29 = .ok (.getfield 10, 3) := by decide +kernel
theorem dX6_text_32 : decode cX6_text 32 = .ok (.aload_n 0, 1) := by decide +kernel
theorem dX6_text_33 : decode cX6_text 33 = .ok (.getfield 19, 3) := by decide +kernel
theorem dX6_text_36 : decode cX6_text 36 = .ok (.invokevirtual 42, 3) := by decide +kernel
theorem dX6_text_39 : decode cX6_text 39 = .ok (.goto 7, 3) := by decide +kernel
theorem dX6_text_42 : decode cX6_text 42 = .ok (.bipush (-100), 2) := by decide +kernel
theorem dX6_text_44 : decode cX6_text 44 = .ok (.iload_n 1, 1) := by decide +kernel
theorem dX6_text_45 : decode cX6_text 45 = .ok (.isub, 1) := by decide +kernel
theorem dX6_text_46 : decode cX6_text 46 = .ok (.istore_n 2, 1) := by decide +kernel
theorem dX6_text_47 : decode cX6_text 47 = .ok (.aload_n 0, 1) := by decide +kernel
theorem dX6_text_48 : decode cX6_text 48 = .ok (.getfield 19, 3) := by decide +kernel
theorem dX6_text_51 : decode cX6_text 51 = .ok (.invokevirtual 46, 3) := by decide +kernel
theorem dX6_text_54 : decode cX6_text 54 = .ok (.iload_n 2, 1) := by decide +kernel
theorem dX6_text_55 : decode cX6_text 55 = .ok (.ireturn, 1) := by decide +kernel
theorem dX6_force_0 : decode cX6_force 0 = .ok (.iload_n 1, 1) := by decide +kernel
theorem dX6_force_1 : decode cX6_force 1 = .ok (.iconst 0, 1) := by decide +kernel
theorem dX6_force_2 : decode cX6_force 2 = .ok (.aload_n 0, 1) := by decide +kernel
theorem dX6_force_3 : decode cX6_force 3 = .ok (.getfield 10, 3) := by decide +kernel
theorem dX6_force_6 : decode cX6_force 6 = .ok (.getfield 92, 3) := by decide +kernel
theorem dX6_force_9 : decode cX6_force 9 = .ok (.iconst 1, 1) := by decide +kernel
theorem dX6_force_10 : decode cX6_force 10 = .ok (.isub, 1) := by decide +kernel
theorem dX6_force_11 : decode cX6_force 11 = .ok (.invokestatic 101, 3) := by decide +kernel
theorem dX6_force_14 : decode cX6_force 14 = .ok (.ifCond .ne 6, 3) := by decide +kernel
theorem dX6_force_17 : decode cX6_force 17 = .ok (.bipush (-2), 2) := by decide +kernel
theorem dX6_force_19 : decode cX6_force 19 = .ok (.ireturn, 1) := by decide +kernel
theorem dX6_force_20 : decode cX6_force 20 = .ok (.aload_n 0, 1) := by decide +kernel
theorem dX6_force_21 : decode cX6_force 21 = .ok (.getfield 54, 3) := by decide +kernel
theorem dX6_force_24 : decode cX6_force 24 = .ok (.getfield 95, 3) := by decide +kernel
theorem dX6_force_27 : decode cX6_force 27 = .ok (.istore_n 2, 1) := by decide +kernel
theorem dX6_force_28 : decode cX6_force 28 = .ok (.aload_n 0, 1) := by decide +kernel
theorem dX6_force_29 : decode cX6_force 29 = .ok (.getfield 54, 3) := by decide +kernel
theorem dX6_force_32 : decode cX6_force 32 = .ok (.iload_n 1, 1) := by decide +kernel
theorem dX6_force_33 : decode cX6_force 33 = .ok (.putfield 95, 3) := by decide +kernel
theorem dX6_force_36 : decode cX6_force 36 = .ok (.iload_n 2, 1) := by decide +kernel
theorem dX6_force_37 : decode cX6_force 37 = .ok (.ireturn, 1) := by decide +kernel
theorem dX6_asks_0 : decode cX6_asks 0 = .ok (.iload_n 1, 1) := by decide +kernel
theorem dX6_asks_1 : decode cX6_asks 1 = .ok (.iconst 0, 1) := by decide +kernel
theorem dX6_asks_2 : decode cX6_asks 2 = .ok (.iconst 2, 1) := by decide +kernel
theorem dX6_asks_3 : decode cX6_asks 3 = .ok (.invokestatic 101, 3) := by decide +kernel
theorem dX6_asks_6 : decode cX6_asks 6 = .ok (.ifCond .eq 25, 3) := by decide +kernel
theorem dX6_asks_9 : decode cX6_asks 9 = .ok (.aload_n 0, 1) := by decide +kernel
theorem dX6_asks_10 : decode cX6_asks 10 = .ok (.getfield 54, 3) := by decide +kernel
theorem dX6_asks_13 : decode cX6_asks 13 = .ok (.iload_n 2, 1) := by decide +kernel
theorem dX6_asks_14 : decode cX6_asks 14 = .ok (.invokevirtual 109, 3) := by decide +kernel
theorem dX6_asks_17 : decode cX6_asks 17 = .ok (.ifCond .eq 14, 3) := by decide +kernel
theorem dX6_asks_20 : decode cX6_asks 20 = .ok (.iload_n 3, 1) := by decide +kernel
theorem dX6_asks_21 : decode cX6_asks 21 = .ok (.iconst 0, 1) := by decide +kernel
theorem dX6_asks_22 : decode cX6_asks 22 = .ok (.sipush 9999, 3) := by decide +kernel
theorem dX6_asks_25 : decode cX6_asks 25 = .ok (.invokestatic 101, 3) := by decide +kernel
theorem dX6_asks_28 : decode cX6_asks 28 = .ok (.ifCond .ne 6, 3) := by decide +kernel
theorem dX6_asks_31 : decode cX6_asks 31 = .ok (.bipush (-2), 2) := by decide +kernel
theorem dX6_asks_33 : decode cX6_asks 33 = .ok (.ireturn, 1) := by decide +kernel
theorem dX6_asks_34 : decode cX6_asks 34 = .ok (.aload_n 0, 1) := by decide +kernel
theorem dX6_asks_35 : decode cX6_asks 35 = .ok (.getfield 54, 3) := by decide +kernel
theorem dX6_asks_38 : decode cX6_asks 38 = .ok (.iload_n 1, 1) := by decide +kernel
theorem dX6_asks_39 : decode cX6_asks 39 = .ok (.iload_n 2, 1) := by decide +kernel
theorem dX6_asks_40 : decode cX6_asks 40 = .ok (.iload_n 3, 1) := by decide +kernel
theorem dX6_asks_41 : decode cX6_asks 41 = .ok (.invokevirtual 112, 3) := by decide +kernel
theorem dX6_asks_44 : decode cX6_asks 44 = .ok (.ireturn, 1) := by decide +kernel
theorem dX6_hut_0 : decode cX6_hut 0 = .ok (.aload_n 0, 1) := by decide +kernel
theorem dX6_hut_1 : decode cX6_hut 1 = .ok (.getfield 54, 3) := by decide +kernel
theorem dX6_hut_4 : decode cX6_hut 4 = .ok (.iload_n 1, 1) := by decide +kernel
theorem dX6_hut_5 : decode cX6_hut 5 = .ok (.iload_n 2, 1) := by decide +kernel
theorem dX6_hut_6 : decode cX6_hut 6 = .ok (.invokevirtual 116, 3) := by decide +kernel
theorem dX6_hut_9 : decode cX6_hut 9 = .ok (.ireturn, 1) := by decide +kernel
theorem dX6_put_0 : decode cX6_put 0 = .ok (.aload_n 0, 1) := by decide +kernel
theorem dX6_put_1 : decode cX6_put 1 = .ok (.getfield 54, 3) := by decide +kernel
theorem dX6_put_4 : decode cX6_put 4 = .ok (.iload_n 1, 1) := by decide +kernel
theorem dX6_put_5 : decode cX6_put 5 = .ok (.invokevirtual 109, 3) := by decide +kernel
theorem dX6_put_8 : decode cX6_put 8 = .ok (.ifCond .ne 6, 3) := by decide +kernel
theorem dX6_put_11 : decode cX6_put 11 = .ok (.bipush (-5), 2) := by decide +kernel
theorem dX6_put_13 : decode cX6_put 13 = .ok (.ireturn, 1) := by decide +kernel
theorem dX6_put_14 : decode cX6_put 14 = .ok (.iload_n 2, 1) := by decide +kernel
theorem dX6_put_15 : decode cX6_put 15 = .ok (.iconst 0, 1) := by decide +kernel
theorem dX6_put_16 : decode cX6_put 16 = .ok (.iconst 2, 1) := by decide +kernel
theorem dX6_put_17 : decode cX6_put 17 = .ok (.invokestatic 101, 3) := by decide +kernel
theorem dX6_put_20 : decode cX6_put 20 = .ok (.ifCond .eq 15, 3) := by decide +kernel
theorem dX6_put_23 : decode cX6_put 23 = .ok (.iload_n 3, 1) := by decide +kernel
theorem dX6_put_24 : decode cX6_put 24 = .ok (.iconst 0, 1) := by decide +kernel
theorem dX6_put_25 : decode cX6_put 25 = .ok (.iload_n 2, 1) := by decide +kernel
theorem dX6_put_26 : decode cX6_put 26 = .ok (.invokestatic 120, 3) := by decide +kernel
theorem dX6_put_29 : decode cX6_put 29 = .ok (.invokestatic 101, 3) := by decide +kernel
theorem dX6_put_32 : decode cX6_put 32 = .ok (.ifCond .ne 6, 3) := by decide +kernel
theorem dX6_put_35 : decode cX6_put 35 = .ok (.bipush (-7), 2) := by decide +kernel
theorem dX6_put_37 : decode cX6_put 37 = .ok (.ireturn, 1) := by decide +kernel
theorem dX6_put_38 : decode cX6_put 38 = .ok (.aload_n 0, 1) := by decide +kernel
theorem dX6_put_39 : decode cX6_put 39 = .ok (.getfield 54, 3) := by decide +kernel
theorem dX6_put_42 : decode cX6_put 42 = .ok (.iload_n 1, 1) := by decide +kernel
theorem dX6_put_43 : decode cX6_put 43 = .ok (.iload_n 2, 1) := by decide +kernel
theorem dX6_put_44 : decode cX6_put 44 = .ok (.invokevirtual 124, 3) := by decide +kernel
theorem dX6_put_47 : decode cX6_put 47 = .ok (.istore 4, 2) := by decide +kernel
theorem dX6_put_49 : decode cX6_put 49 = .ok (.aload_n 0, 1) := by decide +kernel
theorem dX6_put_50 : decode cX6_put 50 = .ok (.getfield 54, 3) := by decide +kernel
theorem dX6_put_53 : decode cX6_put 53 = .ok (.iload_n 1, 1) := by decide +kernel
theorem dX6_put_54 : decode cX6_put 54 = .ok (.iload_n 2, 1) := by decide +kernel
theorem dX6_put_55 : decode cX6_put 55 = .ok (.iload_n 3, 1) := by decide +kernel
theorem dX6_put_56 : decode cX6_put 56 = .ok (.invokevirtual 127, 3) := by decide +kernel
theorem dX6_put_59 : decode cX6_put 59 = .ok (.iload 4, 2) := by decide +kernel
theorem dX6_put_61 : decode cX6_put 61 = .ok (.ireturn, 1) := by decide +kernel
theorem dX6_told_0 : decode cX6_told 0 = .ok (.aload_n 0, 1) := by decide +kernel
theorem dX6_told_1 : decode cX6_told 1 = .ok (.getfield 54, 3) := by decide +kernel
theorem dX6_told_4 : decode cX6_told 4 = .ok (.iload_n 1, 1) := by decide +kernel
theorem dX6_told_5 : decode cX6_told 5 = .ok (.invokevirtual 109, 3) := by decide +kernel
theorem dX6_told_8 : decode cX6_told 8 = .ok (.ifCond .ne 6, 3) := by decide +kernel
theorem dX6_told_11 : decode cX6_told 11 = .ok (.bipush (-5), 2) := by decide +kernel
theorem dX6_told_13 : decode cX6_told 13 = .ok (.ireturn, 1) := by decide +kernel
theorem dX6_told_14 : decode cX6_told 14 = .ok (.iload_n 2, 1) := by decide +kernel
theorem dX6_told_15 : decode cX6_told 15 = .ok (.tableswitch 102 0 7 #[45, 45, 45, 55, 65, 75, 84, 93], 45) := by decide +kernel
theorem dX6_told_60 : decode cX6_told 60 = .ok (.aload_n 0, 1) := by decide +kernel
theorem dX6_told_61 : decode cX6_told 61 = .ok (.getfield 54, 3) := by decide +kernel
theorem dX6_told_64 : decode cX6_told 64 = .ok (.iload_n 1, 1) := by decide +kernel
theorem dX6_told_65 : decode cX6_told 65 = .ok (.iload_n 2, 1) := by decide +kernel
theorem dX6_told_66 : decode cX6_told 66 = .ok (.invokevirtual 124, 3) := by decide +kernel
theorem dX6_told_69 : decode cX6_told 69 = .ok (.ireturn, 1) := by decide +kernel
theorem dX6_told_70 : decode cX6_told 70 = .ok (.aload_n 0, 1) := by decide +kernel
theorem dX6_told_71 : decode cX6_told 71 = .ok (.getfield 54, 3) := by decide +kernel
theorem dX6_told_74 : decode cX6_told 74 = .ok (.getfield 131, 3) := by decide +kernel
theorem dX6_told_77 : decode cX6_told 77 = .ok (.iload_n 1, 1) := by decide +kernel
theorem dX6_told_78 : decode cX6_told 78 = .ok (.iaload, 1) := by decide +kernel
theorem dX6_told_79 : decode cX6_told 79 = .ok (.ireturn, 1) := by decide +kernel
theorem dX6_told_80 : decode cX6_told 80 = .ok (.aload_n 0, 1) := by decide +kernel
theorem dX6_told_81 : decode cX6_told 81 = .ok (.getfield 54, 3) := by decide +kernel
theorem dX6_told_84 : decode cX6_told 84 = .ok (.getfield 134, 3) := by decide +kernel
theorem dX6_told_87 : decode cX6_told 87 = .ok (.iload_n 1, 1) := by decide +kernel
theorem dX6_told_88 : decode cX6_told 88 = .ok (.iaload, 1) := by decide +kernel
theorem dX6_told_89 : decode cX6_told 89 = .ok (.ireturn, 1) := by decide +kernel
theorem dX6_told_90 : decode cX6_told 90 = .ok (.aload_n 0, 1) := by decide +kernel
theorem dX6_told_91 : decode cX6_told 91 = .ok (.getfield 54, 3) := by decide +kernel
theorem dX6_told_94 : decode cX6_told 94 = .ok (.iload_n 1, 1) := by decide +kernel
theorem dX6_told_95 : decode cX6_told 95 = .ok (.invokevirtual 137, 3) := by decide +kernel
theorem dX6_told_98 : decode cX6_told 98 = .ok (.ireturn, 1) := by decide +kernel
theorem dX6_told_99 : decode cX6_told 99 = .ok (.aload_n 0, 1) := by decide +kernel
theorem dX6_told_100 : decode cX6_told 100 = .ok (.getfield 54, 3) := by decide +kernel
theorem dX6_told_103 : decode cX6_told 103 = .ok (.iload_n 1, 1) := by decide +kernel
theorem dX6_told_104 : decode cX6_told 104 = .ok (.invokevirtual 140, 3) := by decide +kernel
theorem dX6_told_107 : decode cX6_told 107 = .ok (.ireturn, 1) := by decide +kernel
theorem dX6_told_108 : decode cX6_told 108 = .ok (.aload_n 0, 1) := by decide +kernel
theorem dX6_told_109 : decode cX6_told 109 = .ok (.getfield 54, 3) := by decide +kernel
theorem dX6_told_112 : decode cX6_told 112 = .ok (.iload_n 1, 1) := by decide +kernel
theorem dX6_told_113 : decode cX6_told 113 = .ok (.invokevirtual 143, 3) := by decide +kernel
theorem dX6_told_116 : decode cX6_told 116 = .ok (.ireturn, 1) := by decide +kernel
theorem dX6_told_117 : decode cX6_told 117 = .ok (.bipush (-7), 2) := by decide +kernel
theorem dX6_told_119 : decode cX6_told 119 = .ok (.ireturn, 1) := by decide +kernel
theorem dX6_lend_0 : decode cX6_lend 0 = .ok (.iload_n 1, 1) := by decide +kernel
theorem dX6_lend_1 : decode cX6_lend 1 = .ok (.bipush 10, 2) := by decide +kernel
theorem dX6_lend_3 : decode cX6_lend 3 = .ok (.idiv, 1) := by decide +kernel
theorem dX6_lend_4 : decode cX6_lend 4 = .ok (.istore_n 3, 1) := by decide +kernel
theorem dX6_lend_5 : decode cX6_lend 5 = .ok (.iload_n 1, 1) := by decide +kernel
theorem dX6_lend_6 : decode cX6_lend 6 = .ok (.bipush 10, 2) := by decide +kernel
theorem dX6_lend_8 : decode cX6_lend 8 = .ok (.irem, 1) := by decide +kernel
theorem dX6_lend_9 : decode cX6_lend 9 = .ok (.istore 4, 2) := by decide +kernel
theorem dX6_lend_11 : decode cX6_lend 11 = .ok (.iload_n 1, 1) := by decide +kernel
theorem dX6_lend_12 : decode cX6_lend 12 = .ok (.ifCond .lt 32, 3) := by decide +kernel
theorem dX6_lend_15 : decode cX6_lend 15 = .ok (.aload_n 0, 1) := by decide +kernel
theorem dX6_lend_16 : decode cX6_lend 16 = .ok (.getfield 54, 3) := by decide +kernel
theorem dX6_lend_19 : decode cX6_lend 19 = .ok (.iload_n 3, 1) := by decide +kernel
theorem dX6_lend_20 : decode cX6_lend 20 = .ok (.invokevirtual 109, 3) := by decide +kernel
theorem dX6_lend_23 : decode cX6_lend 23 = .ok (.ifCond .eq 21, 3) := by decide +kernel
theorem dX6_lend_26 : decode cX6_lend 26 = .ok (.aload_n 0, 1) := by decide +kernel
theorem dX6_lend_27 : decode cX6_lend 27 = .ok (.getfield 54, 3) := by decide +kernel
theorem dX6_lend_30 : decode cX6_lend 30 = .ok (.iload 4, 2) := by decide +kernel
theorem dX6_lend_32 : decode cX6_lend 32 = .ok (.invokevirtual 109, 3) := by decide +kernel
theorem dX6_lend_35 : decode cX6_lend 35 = .ok (.ifCond .eq 9, 3) := by decide +kernel
theorem dX6_lend_38 : decode cX6_lend 38 = .ok (.iload_n 3, 1) := by decide +kernel
theorem dX6_lend_39 : decode cX6_lend 39 = .ok (.iload 4, 2) := by decide +kernel
theorem dX6_lend_41 : decode cX6_lend 41 = .ok (.if_icmp .ne 6, 3) := by decide +kernel
theorem dX6_lend_44 : decode cX6_lend 44 = .ok (.bipush (-5), 2) := by decide +kernel
theorem dX6_lend_46 : decode cX6_lend 46 = .ok (.ireturn, 1) := by decide +kernel
theorem dX6_lend_47 : decode cX6_lend 47 = .ok (.iload_n 2, 1) := by decide +kernel
theorem dX6_lend_48 : decode cX6_lend 48 = .ok (.bipush 99, 2) := by decide +kernel
theorem dX6_lend_50 : decode cX6_lend 50 = .ok (.invokestatic 146, 3) := by decide +kernel
theorem dX6_lend_53 : decode cX6_lend 53 = .ok (.ifCond .ne 6, 3) := by decide +kernel
theorem dX6_lend_56 : decode cX6_lend 56 = .ok (.bipush (-7), 2) := by decide +kernel
theorem dX6_lend_58 : decode cX6_lend 58 = .ok (.ireturn, 1) := by decide +kernel
theorem dX6_lend_59 : decode cX6_lend 59 = .ok (.aload_n 0, 1) := by decide +kernel
theorem dX6_lend_60 : decode cX6_lend 60 = .ok (.getfield 54, 3) := by decide +kernel
theorem dX6_lend_63 : decode cX6_lend 63 = .ok (.iload_n 3, 1) := by decide +kernel
theorem dX6_lend_64 : decode cX6_lend 64 = .ok (.iload 4, 2) := by decide +kernel
theorem dX6_lend_66 : decode cX6_lend 66 = .ok (.iload_n 2, 1) := by decide +kernel
theorem dX6_lend_67 : decode cX6_lend 67 = .ok (.bipush 100, 2) := by decide +kernel
theorem dX6_lend_69 : decode cX6_lend 69 = .ok (.idiv, 1) := by decide +kernel
theorem dX6_lend_70 : decode cX6_lend 70 = .ok (.iload_n 2, 1) := by decide +kernel
theorem dX6_lend_71 : decode cX6_lend 71 = .ok (.bipush 100, 2) := by decide +kernel
theorem dX6_lend_73 : decode cX6_lend 73 = .ok (.irem, 1) := by decide +kernel
theorem dX6_lend_74 : decode cX6_lend 74 = .ok (.invokevirtual 150, 3) := by decide +kernel
theorem dX6_lend_77 : decode cX6_lend 77 = .ok (.ireturn, 1) := by decide +kernel
theorem dX6_loan_0 : decode cX6_loan 0 = .ok (.aload_n 0, 1) := by decide +kernel
theorem dX6_loan_1 : decode cX6_loan 1 = .ok (.getfield 54, 3) := by decide +kernel
theorem dX6_loan_4 : decode cX6_loan 4 = .ok (.iload_n 1, 1) := by decide +kernel
theorem dX6_loan_5 : decode cX6_loan 5 = .ok (.invokevirtual 154, 3) := by decide +kernel
theorem dX6_loan_8 : decode cX6_loan 8 = .ok (.ifCond .ne 6, 3) := by decide +kernel
theorem dX6_loan_11 : decode cX6_loan 11 = .ok (.bipush (-5), 2) := by decide +kernel
theorem dX6_loan_13 : decode cX6_loan 13 = .ok (.ireturn, 1) := by decide +kernel
theorem dX6_loan_14 : decode cX6_loan 14 = .ok (.iload_n 2, 1) := by decide +kernel
theorem dX6_loan_15 : decode cX6_loan 15 = .ok (.tableswitch 69 0 3 #[29, 39, 49, 59], 29) := by decide +kernel
theorem dX6_loan_44 : decode cX6_loan 44 = .ok (.aload_n 0, 1) := by decide +kernel
theorem dX6_loan_45 : decode cX6_loan 45 = .ok (.getfield 54, 3) := by decide +kernel
theorem dX6_loan_48 : decode cX6_loan 48 = .ok (.getfield 157, 3) := by decide +kernel
theorem dX6_loan_51 : decode cX6_loan 51 = .ok (.iload_n 1, 1) := by decide +kernel
theorem dX6_loan_52 : decode cX6_loan 52 = .ok (.iaload, 1) := by decide +kernel
theorem dX6_loan_53 : decode cX6_loan 53 = .ok (.ireturn, 1) := by decide +kernel
theorem dX6_loan_54 : decode cX6_loan 54 = .ok (.aload_n 0, 1) := by decide +kernel
theorem dX6_loan_55 : decode cX6_loan 55 = .ok (.getfield 54, 3) := by decide +kernel
theorem dX6_loan_58 : decode cX6_loan 58 = .ok (.getfield 160, 3) := by decide +kernel
theorem dX6_loan_61 : decode cX6_loan 61 = .ok (.iload_n 1, 1) := by decide +kernel
theorem dX6_loan_62 : decode cX6_loan 62 = .ok (.iaload, 1) := by decide +kernel
theorem dX6_loan_63 : decode cX6_loan 63 = .ok (.ireturn, 1) := by decide +kernel
theorem dX6_loan_64 : decode cX6_loan 64 = .ok (.aload_n 0, 1) := by decide +kernel
theorem dX6_loan_65 : decode cX6_loan 65 = .ok (.getfield 54, 3) := by decide +kernel
theorem dX6_loan_68 : decode cX6_loan 68 = .ok (.getfield 163, 3) := by decide +kernel
theorem dX6_loan_71 : decode cX6_loan 71 = .ok (.iload_n 1, 1) := by decide +kernel
theorem dX6_loan_72 : decode cX6_loan 72 = .ok (.iaload, 1) := by decide +kernel
theorem dX6_loan_73 : decode cX6_loan 73 = .ok (.ireturn, 1) := by decide +kernel
theorem dX6_loan_74 : decode cX6_loan 74 = .ok (.aload_n 0, 1) := by decide +kernel
theorem dX6_loan_75 : decode cX6_loan 75 = .ok (.getfield 54, 3) := by decide +kernel
theorem dX6_loan_78 : decode cX6_loan 78 = .ok (.getfield 166, 3) := by decide +kernel
theorem dX6_loan_81 : decode cX6_loan 81 = .ok (.iload_n 1, 1) := by decide +kernel
theorem dX6_loan_82 : decode cX6_loan 82 = .ok (.iaload, 1) := by decide +kernel
theorem dX6_loan_83 : decode cX6_loan 83 = .ok (.ireturn, 1) := by decide +kernel
theorem dX6_loan_84 : decode cX6_loan 84 = .ok (.bipush (-7), 2) := by decide +kernel
theorem dX6_loan_86 : decode cX6_loan 86 = .ok (.ireturn, 1) := by decide +kernel
theorem dX6_repay_0 : decode cX6_repay 0 = .ok (.aload_n 0, 1) := by decide +kernel
theorem dX6_repay_1 : decode cX6_repay 1 = .ok (.getfield 54, 3) := by decide +kernel
theorem dX6_repay_4 : decode cX6_repay 4 = .ok (.iload_n 1, 1) := by decide +kernel
theorem dX6_repay_5 : decode cX6_repay 5 = .ok (.invokevirtual 154, 3) := by decide +kernel
theorem dX6_repay_8 : decode cX6_repay 8 = .ok (.ifCond .ne 6, 3) := by decide +kernel
theorem dX6_repay_11 : decode cX6_repay 11 = .ok (.bipush (-5), 2) := by decide +kernel
theorem dX6_repay_13 : decode cX6_repay 13 = .ok (.ireturn, 1) := by decide +kernel
theorem dX6_repay_14 : decode cX6_repay 14 = .ok (.aload_n 0, 1) := by decide +kernel
theorem dX6_repay_15 : decode cX6_repay 15 = .ok (.getfield 54, 3) := by decide +kernel
theorem dX6_repay_18 : decode cX6_repay 18 = .ok (.iload_n 1, 1) := by decide +kernel
theorem dX6_repay_19 : decode cX6_repay 19 = .ok (.invokevirtual 169, 3) := by decide +kernel
theorem dX6_repay_22 : decode cX6_repay 22 = .ok (.ifCond .ne 6, 3) := by decide +kernel
theorem dX6_repay_25 : decode cX6_repay 25 = .ok (.bipush (-3), 2) := by decide +kernel
theorem dX6_repay_27 : decode cX6_repay 27 = .ok (.ireturn, 1) := by decide +kernel
theorem dX6_repay_28 : decode cX6_repay 28 = .ok (.aload_n 0, 1) := by decide +kernel
theorem dX6_repay_29 : decode cX6_repay 29 = .ok (.getfield 54, 3) := by decide +kernel
theorem dX6_repay_32 : decode cX6_repay 32 = .ok (.getfield 163, 3) := by decide +kernel
theorem dX6_repay_35 : decode cX6_repay 35 = .ok (.iload_n 1, 1) := by decide +kernel
theorem dX6_repay_36 : decode cX6_repay 36 = .ok (.iaload, 1) := by decide +kernel
theorem dX6_repay_37 : decode cX6_repay 37 = .ok (.istore_n 2, 1) := by decide +kernel
theorem dX6_repay_38 : decode cX6_repay 38 = .ok (.aload_n 0, 1) := by decide +kernel
theorem dX6_repay_39 : decode cX6_repay 39 = .ok (.getfield 54, 3) := by decide +kernel
theorem dX6_repay_42 : decode cX6_repay 42 = .ok (.iload_n 1, 1) := by decide +kernel
theorem dX6_repay_43 : decode cX6_repay 43 = .ok (.invokevirtual 172, 3) := by decide +kernel
theorem dX6_repay_46 : decode cX6_repay 46 = .ok (.aload_n 0, 1) := by decide +kernel
theorem dX6_repay_47 : decode cX6_repay 47 = .ok (.getfield 54, 3) := by decide +kernel
theorem dX6_repay_50 : decode cX6_repay 50 = .ok (.iload_n 1, 1) := by decide +kernel
theorem dX6_repay_51 : decode cX6_repay 51 = .ok (.invokevirtual 175, 3) := by decide +kernel
theorem dX6_repay_54 : decode cX6_repay 54 = .ok (.iload_n 2, 1) := by decide +kernel
theorem dX6_repay_55 : decode cX6_repay 55 = .ok (.ireturn, 1) := by decide +kernel
theorem dX6_forgive_0 : decode cX6_forgive 0 = .ok (.aload_n 0, 1) := by decide +kernel
theorem dX6_forgive_1 : decode cX6_forgive 1 = .ok (.getfield 54, 3) := by decide +kernel
theorem dX6_forgive_4 : decode cX6_forgive 4 = .ok (.iload_n 1, 1) := by decide +kernel
theorem dX6_forgive_5 : decode cX6_forgive 5 = .ok (.invokevirtual 154, 3) := by decide +kernel
theorem dX6_forgive_8 : decode cX6_forgive 8 = .ok (.ifCond .ne 6, 3) := by decide +kernel
theorem dX6_forgive_11 : decode cX6_forgive 11 = .ok (.bipush (-5), 2) := by decide +kernel
theorem dX6_forgive_13 : decode cX6_forgive 13 = .ok (.ireturn, 1) := by decide +kernel
theorem dX6_forgive_14 : decode cX6_forgive 14 = .ok (.aload_n 0, 1) := by decide +kernel
theorem dX6_forgive_15 : decode cX6_forgive 15 = .ok (.getfield 54, 3) := by decide +kernel
theorem dX6_forgive_18 : decode cX6_forgive 18 = .ok (.getfield 163, 3) := by decide +kernel
theorem dX6_forgive_21 : decode cX6_forgive 21 = .ok (.iload_n 1, 1) := by decide +kernel
theorem dX6_forgive_22 : decode cX6_forgive 22 = .ok (.iaload, 1) := by decide +kernel
theorem dX6_forgive_23 : decode cX6_forgive 23 = .ok (.istore_n 2, 1) := by decide +kernel
theorem dX6_forgive_24 : decode cX6_forgive 24 = .ok (.aload_n 0, 1) := by decide +kernel
theorem dX6_forgive_25 : decode cX6_forgive 25 = .ok (.getfield 54, 3) := by decide +kernel
theorem dX6_forgive_28 : decode cX6_forgive 28 = .ok (.iload_n 1, 1) := by decide +kernel
theorem dX6_forgive_29 : decode cX6_forgive 29 = .ok (.invokevirtual 175, 3) := by decide +kernel
theorem dX6_forgive_32 : decode cX6_forgive 32 = .ok (.iload_n 2, 1) := by decide +kernel
theorem dX6_forgive_33 : decode cX6_forgive 33 = .ok (.ireturn, 1) := by decide +kernel
theorem dX6_night_0 : decode cX6_night 0 = .ok (.aload_n 0, 1) := by decide +kernel
theorem dX6_night_1 : decode cX6_night 1 = .ok (.getfield 54, 3) := by decide +kernel
theorem dX6_night_4 : decode cX6_night 4 = .ok (.getfield 86, 3) := by decide +kernel
theorem dX6_night_7 : decode cX6_night 7 = .ok (.sipush 999, 3) := by decide +kernel
theorem dX6_night_10 : decode cX6_night 10 = .ok (.if_icmp .lt 8, 3) := by decide +kernel
theorem dX6_night_13 : decode cX6_night 13 = .ok (.bipush (-3), 2) := by decide +kernel
theorem dX6_night_15 : decode cX6_night 15 = .ok (.goto 10, 3) := by decide +kernel
theorem dX6_night_18 : decode cX6_night 18 = .ok (.aload_n 0, 1) := by decide +kernel
theorem dX6_night_19 : decode cX6_night 19 = .ok (.getfield 54, 3) := by decide +kernel
theorem dX6_night_22 : decode cX6_night 22 = .ok (.invokevirtual 178, 3) := by decide +kernel
theorem dX6_night_25 : decode cX6_night 25 = .ok (.ireturn, 1) := by decide +kernel
theorem dX6_run_0 : decode cX6_run 0 = .ok (.iload_n 2, 1) := by decide +kernel
theorem dX6_run_1 : decode cX6_run 1 = .ok (.bipush 10, 2) := by decide +kernel
theorem dX6_run_3 : decode cX6_run 3 = .ok (.if_icmp .lt 21, 3) := by decide +kernel
theorem dX6_run_6 : decode cX6_run 6 = .ok (.aload_n 0, 1) := by decide +kernel
theorem dX6_run_7 : decode cX6_run 7 = .ok (.getfield 54, 3) := by decide +kernel
theorem dX6_run_10 : decode cX6_run 10 = .ok (.iload_n 2, 1) := by decide +kernel
theorem dX6_run_11 : decode cX6_run 11 = .ok (.bipush 10, 2) := by decide +kernel
theorem dX6_run_13 : decode cX6_run 13 = .ok (.isub, 1) := by decide +kernel
theorem dX6_run_14 : decode cX6_run 14 = .ok (.invokevirtual 109, 3) := by decide +kernel
theorem dX6_run_17 : decode cX6_run 17 = .ok (.ifCond .eq 7, 3) := by decide +kernel
theorem dX6_run_20 : decode cX6_run 20 = .ok (.iconst 1, 1) := by decide +kernel
theorem dX6_run_21 : decode cX6_run 21 = .ok (.goto 4, 3) := by decide +kernel
theorem dX6_run_24 : decode cX6_run 24 = .ok (.iconst 0, 1) := by decide +kernel
theorem dX6_run_25 : decode cX6_run 25 = .ok (.istore_n 3, 1) := by decide +kernel
theorem dX6_run_26 : decode cX6_run 26 = .ok (.iload_n 1, 1) := by decide +kernel
theorem dX6_run_27 : decode cX6_run 27 = .ok (.iconst 0, 1) := by decide +kernel
theorem dX6_run_28 : decode cX6_run 28 = .ok (.bipush 40, 2) := by decide +kernel
theorem dX6_run_30 : decode cX6_run 30 = .ok (.invokestatic 101, 3) := by decide +kernel
theorem dX6_run_33 : decode cX6_run 33 = .ok (.ifCond .eq 16, 3) := by decide +kernel
theorem dX6_run_36 : decode cX6_run 36 = .ok (.iload_n 2, 1) := by decide +kernel
theorem dX6_run_37 : decode cX6_run 37 = .ok (.iconst 0, 1) := by decide +kernel
theorem dX6_run_38 : decode cX6_run 38 = .ok (.iconst 2, 1) := by decide +kernel
theorem dX6_run_39 : decode cX6_run 39 = .ok (.invokestatic 101, 3) := by decide +kernel
theorem dX6_run_42 : decode cX6_run 42 = .ok (.ifCond .ne 10, 3) := by decide +kernel
theorem dX6_run_45 : decode cX6_run 45 = .ok (.iload_n 3, 1) := by decide +kernel
theorem dX6_run_46 : decode cX6_run 46 = .ok (.ifCond .ne 6, 3) := by decide +kernel
theorem dX6_run_49 : decode cX6_run 49 = .ok (.bipush (-2), 2) := by decide +kernel
theorem dX6_run_51 : decode cX6_run 51 = .ok (.ireturn, 1) := by decide +kernel
theorem dX6_run_52 : decode cX6_run 52 = .ok (.aload_n 0, 1) := by decide +kernel
theorem dX6_run_53 : decode cX6_run 53 = .ok (.invokevirtual 181, 3) := by decide +kernel
theorem dX6_run_56 : decode cX6_run 56 = .ok (.astore 4, 2) := by decide +kernel
theorem dX6_run_58 : decode cX6_run 58 = .ok (.aload 4, 2) := by decide +kernel
theorem dX6_run_60 : decode cX6_run 60 = .ok (.iload_n 1, 1) := by decide +kernel
theorem dX6_run_61 : decode cX6_run 61 = .ok (.invokevirtual 185, 3) := by decide +kernel
theorem dX6_run_64 : decode cX6_run 64 = .ok (.istore 5, 2) := by decide +kernel
theorem dX6_run_66 : decode cX6_run 66 = .ok (.iload_n 2, 1) := by decide +kernel
theorem dX6_run_67 : decode cX6_run 67 = .ok (.tableswitch 40 0 2 #[25, 31, 34], 25) := by decide +kernel
theorem dX6_run_92 : decode cX6_run 92 = .ok (.aload 4, 2) := by decide +kernel
theorem dX6_run_94 : decode cX6_run 94 = .ok (.invokevirtual 89, 3) := by decide +kernel
theorem dX6_run_97 : decode cX6_run 97 = .ok (.ireturn, 1) := by decide +kernel
theorem dX6_run_98 : decode cX6_run 98 = .ok (.iload 5, 2) := by decide +kernel
theorem dX6_run_100 : decode cX6_run 100 = .ok (.ireturn, 1) := by decide +kernel
theorem dX6_run_101 : decode cX6_run 101 = .ok (.aload 4, 2) := by decide +kernel
theorem dX6_run_103 : decode cX6_run 103 = .ok (.getfield 83, 3) := by decide +kernel
theorem dX6_run_106 : decode cX6_run 106 = .ok (.ireturn, 1) := by decide +kernel
theorem dX6_run_107 : decode cX6_run 107 = .ok (.aload 4, 2) := by decide +kernel
theorem dX6_run_109 : decode cX6_run 109 = .ok (.getfield 188, 3) := by decide +kernel
theorem dX6_run_112 : decode cX6_run 112 = .ok (.iload_n 2, 1) := by decide +kernel
theorem dX6_run_113 : decode cX6_run 113 = .ok (.bipush 10, 2) := by decide +kernel
theorem dX6_run_115 : decode cX6_run 115 = .ok (.isub, 1) := by decide +kernel
theorem dX6_run_116 : decode cX6_run 116 = .ok (.iaload, 1) := by decide +kernel
theorem dX6_run_117 : decode cX6_run 117 = .ok (.ireturn, 1) := by decide +kernel
theorem dX6_lasts_0 : decode cX6_lasts 0 = .ok (.aload_n 0, 1) := by decide +kernel
theorem dX6_lasts_1 : decode cX6_lasts 1 = .ok (.getfield 54, 3) := by decide +kernel
theorem dX6_lasts_4 : decode cX6_lasts 4 = .ok (.iload_n 1, 1) := by decide +kernel
theorem dX6_lasts_5 : decode cX6_lasts 5 = .ok (.invokevirtual 109, 3) := by decide +kernel
theorem dX6_lasts_8 : decode cX6_lasts 8 = .ok (.ifCond .ne 6, 3) := by decide +kernel
theorem dX6_lasts_11 : decode cX6_lasts 11 = .ok (.bipush (-5), 2) := by decide +kernel
theorem dX6_lasts_13 : decode cX6_lasts 13 = .ok (.ireturn, 1) := by decide +kernel
theorem dX6_lasts_14 : decode cX6_lasts 14 = .ok (.iload_n 2, 1) := by decide +kernel
theorem dX6_lasts_15 : decode cX6_lasts 15 = .ok (.iconst 0, 1) := by decide +kernel
theorem dX6_lasts_16 : decode cX6_lasts 16 = .ok (.iconst 1, 1) := by decide +kernel
theorem dX6_lasts_17 : decode cX6_lasts 17 = .ok (.invokestatic 101, 3) := by decide +kernel
theorem dX6_lasts_20 : decode cX6_lasts 20 = .ok (.ifCond .ne 6, 3) := by decide +kernel
theorem dX6_lasts_23 : decode cX6_lasts 23 = .ok (.bipush (-7), 2) := by decide +kernel
theorem dX6_lasts_25 : decode cX6_lasts 25 = .ok (.ireturn, 1) := by decide +kernel
theorem dX6_lasts_26 : decode cX6_lasts 26 = .ok (.iload_n 2, 1) := by decide +kernel
theorem dX6_lasts_27 : decode cX6_lasts 27 = .ok (.ifCond .ne 11, 3) := by decide +kernel
theorem dX6_lasts_30 : decode cX6_lasts 30 = .ok (.aload_n 0, 1) := by decide +kernel
theorem dX6_lasts_31 : decode cX6_lasts 31 = .ok (.iload_n 1, 1) := by decide +kernel
theorem dX6_lasts_32 : decode cX6_lasts 32 = .ok (.invokevirtual 191, 3) := by decide +kernel
theorem dX6_lasts_35 : decode cX6_lasts 35 = .ok (.goto 8, 3) := by decide +kernel
theorem dX6_lasts_38 : decode cX6_lasts 38 = .ok (.aload_n 0, 1) := by decide +kernel
theorem dX6_lasts_39 : decode cX6_lasts 39 = .ok (.iload_n 1, 1) := by decide +kernel
theorem dX6_lasts_40 : decode cX6_lasts 40 = .ok (.invokevirtual 194, 3) := by decide +kernel
theorem dX6_lasts_43 : decode cX6_lasts 43 = .ok (.ireturn, 1) := by decide +kernel
theorem dX6_nightsToFailing_0 : decode cX6_nightsToFailing 0 = .ok (.aload_n 0, 1) := by decide +kernel
theorem dX6_nightsToFailing_1 : decode cX6_nightsToFailing 1 = .ok (.invokevirtual 181, 3) := by decide +kernel
theorem dX6_nightsToFailing_4 : decode cX6_nightsToFailing 4 = .ok (.astore_n 2, 1) := by decide +kernel
theorem dX6_nightsToFailing_5 : decode cX6_nightsToFailing 5 = .ok (.iconst 1, 1) := by decide +kernel
theorem dX6_nightsToFailing_6 : decode cX6_nightsToFailing 6 = .ok (.istore_n 3, 1) := by decide +kernel
theorem dX6_nightsToFailing_7 : decode cX6_nightsToFailing 7 = .ok (.iload_n 3, 1) := by decide +kernel
theorem dX6_nightsToFailing_8 : decode cX6_nightsToFailing 8 = .ok (.bipush 40, 2) := by decide +kernel
theorem dX6_nightsToFailing_10 : decode cX6_nightsToFailing 10 = .ok (.if_icmp .gt 22, 3) := by decide +kernel
theorem dX6_nightsToFailing_13 : decode cX6_nightsToFailing 13 = .ok (.aload_n 2, 1) := by decide +kernel
theorem dX6_nightsToFailing_14 : decode cX6_nightsToFailing 14 = .ok (.invokevirtual 178, 3) := by decide +kernel
theorem dX6_nightsToFailing_17 : decode cX6_nightsToFailing 17 = .ok (.iload_n 1, 1) := by decide +kernel
theorem dX6_nightsToFailing_18 : decode cX6_nightsToFailing 18 = .ok (.invokestatic 197, 3) := by decide +kernel
theorem dX6_nightsToFailing_21 : decode cX6_nightsToFailing 21 = .ok (.ifCond .eq 5, 3) := by decide +kernel
theorem dX6_nightsToFailing_24 : decode cX6_nightsToFailing 24 = .ok (.iload_n 3, 1) := by decide +kernel
theorem dX6_nightsToFailing_25 : decode cX6_nightsToFailing 25 = .ok (.ireturn, 1) := by decide +kernel
theorem dX6_nightsToFailing_26 : decode cX6_nightsToFailing 26 = .ok (.iinc 3 1, 3) := by decide +kernel
theorem dX6_nightsToFailing_29 : decode cX6_nightsToFailing 29 = .ok (.goto (-22), 3) := by decide +kernel
theorem dX6_nightsToFailing_32 : decode cX6_nightsToFailing 32 = .ok (.iconst (-1), 1) := by decide +kernel
theorem dX6_nightsToFailing_33 : decode cX6_nightsToFailing 33 = .ok (.ireturn, 1) := by decide +kernel
theorem dX6_nightsToNoHeat_0 : decode cX6_nightsToNoHeat 0 = .ok (.aload_n 0, 1) := by decide +kernel
theorem dX6_nightsToNoHeat_1 : decode cX6_nightsToNoHeat 1 = .ok (.invokevirtual 181, 3) := by decide +kernel
theorem dX6_nightsToNoHeat_4 : decode cX6_nightsToNoHeat 4 = .ok (.astore_n 2, 1) := by decide +kernel
theorem dX6_nightsToNoHeat_5 : decode cX6_nightsToNoHeat 5 = .ok (.iconst 0, 1) := by decide +kernel
theorem dX6_nightsToNoHeat_6 : decode cX6_nightsToNoHeat 6 = .ok (.istore_n 3, 1) := by decide +kernel
theorem dX6_nightsToNoHeat_7 : decode cX6_nightsToNoHeat 7 = .ok (.iload_n 3, 1) := by decide +kernel
theorem dX6_nightsToNoHeat_8 : decode cX6_nightsToNoHeat 8 = .ok (.bipush 40, 2) := by decide +kernel
theorem dX6_nightsToNoHeat_10 : decode cX6_nightsToNoHeat 10 = .ok (.if_icmp .gt 25, 3) := by decide +kernel
theorem dX6_nightsToNoHeat_13 : decode cX6_nightsToNoHeat 13 = .ok (.aload_n 2, 1) := by decide +kernel
theorem dX6_nightsToNoHeat_14 : decode cX6_nightsToNoHeat 14 = .ok (.getfield 188, 3) := by decide +kernel
theorem dX6_nightsToNoHeat_17 : decode cX6_nightsToNoHeat 17 = .ok (.iload_n 1, 1) := by decide +kernel
theorem dX6_nightsToNoHeat_18 : decode cX6_nightsToNoHeat 18 = .ok (.iaload, 1) := by decide +kernel
theorem dX6_nightsToNoHeat_19 : decode cX6_nightsToNoHeat 19 = .ok (.ifCond .ne 5, 3) := by decide +kernel
theorem dX6_nightsToNoHeat_22 : decode cX6_nightsToNoHeat 22 = .ok (.iload_n 3, 1) := by decide +kernel
theorem dX6_nightsToNoHeat_23 : decode cX6_nightsToNoHeat 23 = .ok (.ireturn, 1) := by decide +kernel
theorem dX6_nightsToNoHeat_24 : decode cX6_nightsToNoHeat 24 = .ok (.aload_n 2, 1) := by decide +kernel
theorem dX6_nightsToNoHeat_25 : decode cX6_nightsToNoHeat 25 = .ok (.invokevirtual 178, 3) := by decide +kernel
theorem dX6_nightsToNoHeat_28 : decode cX6_nightsToNoHeat 28 = .ok (.pop, 1) := by decide +kernel
theorem dX6_nightsToNoHeat_29 : decode cX6_nightsToNoHeat 29 = .ok (.iinc 3 1, 3) := by decide +kernel
theorem dX6_nightsToNoHeat_32 : decode cX6_nightsToNoHeat 32 = .ok (.goto (-25), 3) := by decide +kernel
theorem dX6_nightsToNoHeat_35 : decode cX6_nightsToNoHeat 35 = .ok (.iconst (-1), 1) := by decide +kernel
theorem dX6_nightsToNoHeat_36 : decode cX6_nightsToNoHeat 36 = .ok (.ireturn, 1) := by decide +kernel
theorem dX6_net_0 : decode cX6_net 0 = .ok (.aload_n 0, 1) := by decide +kernel
theorem dX6_net_1 : decode cX6_net 1 = .ok (.getfield 54, 3) := by decide +kernel
theorem dX6_net_4 : decode cX6_net 4 = .ok (.iload_n 1, 1) := by decide +kernel
theorem dX6_net_5 : decode cX6_net 5 = .ok (.invokevirtual 109, 3) := by decide +kernel
theorem dX6_net_8 : decode cX6_net 8 = .ok (.ifCond .eq 23, 3) := by decide +kernel
theorem dX6_net_11 : decode cX6_net 11 = .ok (.aload_n 0, 1) := by decide +kernel
theorem dX6_net_12 : decode cX6_net 12 = .ok (.getfield 54, 3) := by decide +kernel
theorem dX6_net_15 : decode cX6_net 15 = .ok (.iload_n 1, 1) := by decide +kernel
theorem dX6_net_16 : decode cX6_net 16 = .ok (.invokevirtual 140, 3) := by decide +kernel
theorem dX6_net_19 : decode cX6_net 19 = .ok (.aload_n 0, 1) := by decide +kernel
theorem dX6_net_20 : decode cX6_net 20 = .ok (.getfield 54, 3) := by decide +kernel
theorem dX6_net_23 : decode cX6_net 23 = .ok (.iload_n 1, 1) := by decide +kernel
theorem dX6_net_24 : decode cX6_net 24 = .ok (.invokevirtual 137, 3) := by decide +kernel
theorem dX6_net_27 : decode cX6_net 27 = .ok (.isub, 1) := by decide +kernel
theorem dX6_net_28 : decode cX6_net 28 = .ok (.goto 5, 3) := by decide +kernel
theorem dX6_net_31 : decode cX6_net 31 = .ok (.ldc 200, 2) := by decide +kernel
theorem dX6_net_33 : decode cX6_net 33 = .ok (.ireturn, 1) := by decide +kernel
theorem dX6_settle_0 : decode cX6_settle 0 = .ok (.iload_n 1, 1) := by decide +kernel
theorem dX6_settle_1 : decode cX6_settle 1 = .ok (.iconst 0, 1) := by decide +kernel
theorem dX6_settle_2 : decode cX6_settle 2 = .ok (.iconst 1, 1) := by decide +kernel
theorem dX6_settle_3 : decode cX6_settle 3 = .ok (.invokestatic 101, 3) := by decide +kernel
theorem dX6_settle_6 : decode cX6_settle 6 = .ok (.ifCond .ne 6, 3) := by decide +kernel
theorem dX6_settle_9 : decode cX6_settle 9 = .ok (.bipush (-2), 2) := by decide +kernel
theorem dX6_settle_11 : decode cX6_settle 11 = .ok (.ireturn, 1) := by decide +kernel
theorem dX6_settle_12 : decode cX6_settle 12 = .ok (.iconst 0, 1) := by decide +kernel
theorem dX6_settle_13 : decode cX6_settle 13 = .ok (.istore_n 2, 1) := by decide +kernel
theorem dX6_settle_14 : decode cX6_settle 14 = .ok (.iload_n 2, 1) := by decide +kernel
theorem dX6_settle_15 : decode cX6_settle 15 = .ok (.aload_n 0, 1) := by decide +kernel
theorem dX6_settle_16 : decode cX6_settle 16 = .ok (.getfield 54, 3) := by decide +kernel
theorem dX6_settle_19 : decode cX6_settle 19 = .ok (.getfield 79, 3) := by decide +kernel
theorem dX6_settle_22 : decode cX6_settle 22 = .ok (.if_icmp .ge 20, 3) := by decide +kernel
theorem dX6_settle_25 : decode cX6_settle 25 = .ok (.aload_n 0, 1) := by decide +kernel
theorem dX6_settle_26 : decode cX6_settle 26 = .ok (.getfield 71, 3) := by decide +kernel
theorem dX6_settle_29 : decode cX6_settle 29 = .ok (.iload_n 2, 1) := by decide +kernel
theorem dX6_settle_30 : decode cX6_settle 30 = .ok (.aload_n 0, 1) := by decide +kernel
theorem dX6_settle_31 : decode cX6_settle 31 = .ok (.iload_n 2, 1) := by decide +kernel
theorem dX6_settle_32 : decode cX6_settle 32 = .ok (.invokevirtual 201, 3) := by decide +kernel
theorem dX6_settle_35 : decode cX6_settle 35 = .ok (.iastore, 1) := by decide +kernel
theorem dX6_settle_36 : decode cX6_settle 36 = .ok (.iinc 2 1, 3) := by decide +kernel
theorem dX6_settle_39 : decode cX6_settle 39 = .ok (.goto (-25), 3) := by decide +kernel
theorem dX6_settle_42 : decode cX6_settle 42 = .ok (.iconst 0, 1) := by decide +kernel
theorem dX6_settle_43 : decode cX6_settle 43 = .ok (.istore_n 2, 1) := by decide +kernel
theorem dX6_settle_44 : decode cX6_settle 44 = .ok (.iconst 0, 1) := by decide +kernel
theorem dX6_settle_45 : decode cX6_settle 45 = .ok (.istore_n 3, 1) := by decide +kernel
theorem dX6_settle_46 : decode cX6_settle 46 = .ok (.iconst 0, 1) := by decide +kernel
theorem dX6_settle_47 : decode cX6_settle 47 = .ok (.istore 4, 2) := by decide +kernel
theorem dX6_settle_49 : decode cX6_settle 49 = .ok (.iload 4, 2) := by decide +kernel
theorem dX6_settle_51 : decode cX6_settle 51 = .ok (.aload_n 0, 1) := by decide +kernel
theorem dX6_settle_52 : decode cX6_settle 52 = .ok (.getfield 54, 3) := by decide +kernel
theorem dX6_settle_55 : decode cX6_settle 55 = .ok (.getfield 79, 3) := by decide +kernel
theorem dX6_settle_58 : decode cX6_settle 58 = .ok (.if_icmp .ge 28, 3) := by decide +kernel
theorem dX6_settle_61 : decode cX6_settle 61 = .ok (.aload_n 0, 1) := by decide +kernel
theorem dX6_settle_62 : decode cX6_settle 62 = .ok (.invokevirtual 204, 3) := by decide +kernel
theorem dX6_settle_65 : decode cX6_settle 65 = .ok (.istore 5, 2) := by decide +kernel
theorem dX6_settle_67 : decode cX6_settle 67 = .ok (.iload 5, 2) := by decide +kernel
theorem dX6_settle_69 : decode cX6_settle 69 = .ok (.ifCond .le 11, 3) := by decide +kernel
theorem dX6_settle_72 : decode cX6_settle 72 = .ok (.iinc 2 1, 3) := by decide +kernel
theorem dX6_settle_75 : decode cX6_settle 75 = .ok (.iload_n 3, 1) := by decide +kernel
theorem dX6_settle_76 : decode cX6_settle 76 = .ok (.iload 5, 2) := by decide +kernel
theorem dX6_settle_78 : decode cX6_settle 78 = .ok (.iadd, 1) := by decide +kernel
theorem dX6_settle_79 : decode cX6_settle 79 = .ok (.istore_n 3, 1) := by decide +kernel
theorem dX6_settle_80 : decode cX6_settle 80 = .ok (.iinc 4 1, 3) := by decide +kernel
theorem dX6_settle_83 : decode cX6_settle 83 = .ok (.goto (-34), 3) := by decide +kernel
theorem dX6_settle_86 : decode cX6_settle 86 = .ok (.iload_n 1, 1) := by decide +kernel
theorem dX6_settle_87 : decode cX6_settle 87 = .ok (.ifCond .ne 7, 3) := by decide +kernel
theorem dX6_settle_90 : decode cX6_settle 90 = .ok (.iload_n 2, 1) := by decide +kernel
theorem dX6_settle_91 : decode cX6_settle 91 = .ok (.goto 4, 3) := by decide +kernel
theorem dX6_settle_94 : decode cX6_settle 94 = .ok (.iload_n 3, 1) := by decide +kernel
theorem dX6_settle_95 : decode cX6_settle 95 = .ok (.ireturn, 1) := by decide +kernel
theorem dX6_payOnce_0 : decode cX6_payOnce 0 = .ok (.iconst 0, 1) := by decide +kernel
theorem dX6_payOnce_1 : decode cX6_payOnce 1 = .ok (.istore_n 1, 1) := by decide +kernel
theorem dX6_payOnce_2 : decode cX6_payOnce 2 = .ok (.iconst 0, 1) := by decide +kernel
theorem dX6_payOnce_3 : decode cX6_payOnce 3 = .ok (.istore_n 2, 1) := by decide +kernel
theorem dX6_payOnce_4 : decode cX6_payOnce 4 = .ok (.iconst 1, 1) := by decide +kernel
theorem dX6_payOnce_5 : decode cX6_payOnce 5 = .ok (.istore_n 3, 1) := by decide +kernel
theorem dX6_payOnce_6 : decode cX6_payOnce 6 = .ok (.iload_n 3, 1) := by decide +kernel
theorem dX6_payOnce_7 : decode cX6_payOnce 7 = .ok (.aload_n 0, 1) := by decide +kernel
theorem dX6_payOnce_8 : decode cX6_payOnce 8 = .ok (.getfield 54, 3) := by decide +kernel
theorem dX6_payOnce_11 : decode cX6_payOnce 11 = .ok (.getfield 79, 3) := by decide +kernel
theorem dX6_payOnce_14 : decode cX6_payOnce 14 = .ok (.if_icmp .ge 43, 3) := by decide +kernel
theorem dX6_payOnce_17 : decode cX6_payOnce 17 = .ok (.aload_n 0, 1) := by decide +kernel
theorem dX6_payOnce_18 : decode cX6_payOnce 18 = .ok (.getfield 71, 3) := by decide +kernel
theorem dX6_payOnce_21 : decode cX6_payOnce 21 = .ok (.iload_n 3, 1) := by decide +kernel
theorem dX6_payOnce_22 : decode cX6_payOnce 22 = .ok (.iaload, 1) := by decide +kernel
theorem dX6_payOnce_23 : decode cX6_payOnce 23 = .ok (.aload_n 0, 1) := by decide +kernel
theorem dX6_payOnce_24 : decode cX6_payOnce 24 = .ok (.getfield 71, 3) := by decide +kernel
theorem dX6_payOnce_27 : decode cX6_payOnce 27 = .ok (.iload_n 1, 1) := by decide +kernel
theorem dX6_payOnce_28 : decode cX6_payOnce 28 = .ok (.iaload, 1) := by decide +kernel
theorem dX6_payOnce_29 : decode cX6_payOnce 29 = .ok (.if_icmp .ge 5, 3) := by decide +kernel
theorem dX6_payOnce_32 : decode cX6_payOnce 32 = .ok (.iload_n 3, 1) := by decide +kernel
theorem dX6_payOnce_33 : decode cX6_payOnce 33 = .ok (.istore_n 1, 1) := by decide +kernel
theorem dX6_payOnce_34 : decode cX6_payOnce 34 = .ok (.aload_n 0, 1) := by decide +kernel
theorem dX6_payOnce_35 : decode cX6_payOnce 35 = .ok (.getfield 71, 3) := by decide +kernel
theorem dX6_payOnce_38 : decode cX6_payOnce 38 = .ok (.iload_n 3, 1) := by decide +kernel
theorem dX6_payOnce_39 : decode cX6_payOnce 39 = .ok (.iaload, 1) := by decide +kernel
theorem dX6_payOnce_40 : decode cX6_payOnce 40 = .ok (.aload_n 0, 1) := by decide +kernel
theorem dX6_payOnce_41 : decode cX6_payOnce 41 = .ok (.getfield 71, 3) := by decide +kernel
theorem dX6_payOnce_44 : decode cX6_payOnce 44 = .ok (.iload_n 2, 1) := by decide +kernel
theorem dX6_payOnce_45 : decode cX6_payOnce 45 = .ok (.iaload, 1) := by decide +kernel
theorem dX6_payOnce_46 : decode cX6_payOnce 46 = .ok (.if_icmp .le 5, 3) := by decide +kernel
theorem dX6_payOnce_49 : decode cX6_payOnce 49 = .ok (.iload_n 3, 1) := by decide +kernel
theorem dX6_payOnce_50 : decode cX6_payOnce 50 = .ok (.istore_n 2, 1) := by decide +kernel
theorem dX6_payOnce_51 : decode cX6_payOnce 51 = .ok (.iinc 3 1, 3) := by decide +kernel
theorem dX6_payOnce_54 : decode cX6_payOnce 54 = .ok (.goto (-48), 3) := by decide +kernel
theorem dX6_payOnce_57 : decode cX6_payOnce 57 = .ok (.aload_n 0, 1) := by decide +kernel
theorem dX6_payOnce_58 : decode cX6_payOnce 58 = .ok (.getfield 71, 3) := by decide +kernel
theorem dX6_payOnce_61 : decode cX6_payOnce 61 = .ok (.iload_n 1, 1) := by decide +kernel
theorem dX6_payOnce_62 : decode cX6_payOnce 62 = .ok (.iaload, 1) := by decide +kernel
theorem dX6_payOnce_63 : decode cX6_payOnce 63 = .ok (.ineg, 1) := by decide +kernel
theorem dX6_payOnce_64 : decode cX6_payOnce 64 = .ok (.aload_n 0, 1) := by decide +kernel
theorem dX6_payOnce_65 : decode cX6_payOnce 65 = .ok (.getfield 71, 3) := by decide +kernel
theorem dX6_payOnce_68 : decode cX6_payOnce 68 = .ok (.iload_n 2, 1) := by decide +kernel
theorem dX6_payOnce_69 : decode cX6_payOnce 69 = .ok (.iaload, 1) := by decide +kernel
theorem dX6_payOnce_70 : decode cX6_payOnce 70 = .ok (.invokestatic 207, 3) := by decide +kernel
theorem dX6_payOnce_73 : decode cX6_payOnce 73 = .ok (.istore_n 3, 1) := by decide +kernel
theorem dX6_payOnce_74 : decode cX6_payOnce 74 = .ok (.iload_n 3, 1) := by decide +kernel
theorem dX6_payOnce_75 : decode cX6_payOnce 75 = .ok (.ifCond .gt 5, 3) := by decide +kernel
theorem dX6_payOnce_78 : decode cX6_payOnce 78 = .ok (.iconst 0, 1) := by decide +kernel
theorem dX6_payOnce_79 : decode cX6_payOnce 79 = .ok (.ireturn, 1) := by decide +kernel
theorem dX6_payOnce_80 : decode cX6_payOnce 80 = .ok (.aload_n 0, 1) := by decide +kernel
theorem dX6_payOnce_81 : decode cX6_payOnce 81 = .ok (.getfield 71, 3) := by decide +kernel
theorem dX6_payOnce_84 : decode cX6_payOnce 84 = .ok (.iload_n 1, 1) := by decide +kernel
theorem dX6_payOnce_85 : decode cX6_payOnce 85 = .ok (.dup2, 1) := by decide +kernel
theorem dX6_payOnce_86 : decode cX6_payOnce 86 = .ok (.iaload, 1) := by decide +kernel
theorem dX6_payOnce_87 : decode cX6_payOnce 87 = .ok (.iload_n 3, 1) := by decide +kernel
theorem dX6_payOnce_88 : decode cX6_payOnce 88 = .ok (.iadd, 1) := by decide +kernel
theorem dX6_payOnce_89 : decode cX6_payOnce 89 = .ok (.iastore, 1) := by decide +kernel
theorem dX6_payOnce_90 : decode cX6_payOnce 90 = .ok (.aload_n 0, 1) := by decide +kernel
theorem dX6_payOnce_91 : decode cX6_payOnce 91 = .ok (.getfield 71, 3) := by decide +kernel
theorem dX6_payOnce_94 : decode cX6_payOnce 94 = .ok (.iload_n 2, 1) := by decide +kernel
theorem dX6_payOnce_95 : decode cX6_payOnce 95 = .ok (.dup2, 1) := by decide +kernel
theorem dX6_payOnce_96 : decode cX6_payOnce 96 = .ok (.iaload, 1) := by decide +kernel
theorem dX6_payOnce_97 : decode cX6_payOnce 97 = .ok (.iload_n 3, 1) := by decide +kernel
theorem dX6_payOnce_98 : decode cX6_payOnce 98 = .ok (.isub, 1) := by decide +kernel
theorem dX6_payOnce_99 : decode cX6_payOnce 99 = .ok (.iastore, 1) := by decide +kernel
theorem dX6_payOnce_100 : decode cX6_payOnce 100 = .ok (.iload_n 3, 1) := by decide +kernel
theorem dX6_payOnce_101 : decode cX6_payOnce 101 = .ok (.ireturn, 1) := by decide +kernel
theorem dX6_source_0 : decode cX6_source 0 = .ok (.aload_n 0, 1) := by decide +kernel
theorem dX6_source_1 : decode cX6_source 1 = .ok (.getfield 54, 3) := by decide +kernel
theorem dX6_source_4 : decode cX6_source 4 = .ok (.iload_n 1, 1) := by decide +kernel
theorem dX6_source_5 : decode cX6_source 5 = .ok (.invokevirtual 109, 3) := by decide +kernel
theorem dX6_source_8 : decode cX6_source 8 = .ok (.ifCond .eq 14, 3) := by decide +kernel
theorem dX6_source_11 : decode cX6_source 11 = .ok (.aload_n 0, 1) := by decide +kernel
theorem dX6_source_12 : decode cX6_source 12 = .ok (.getfield 54, 3) := by decide +kernel
theorem dX6_source_15 : decode cX6_source 15 = .ok (.iload_n 1, 1) := by decide +kernel
theorem dX6_source_16 : decode cX6_source 16 = .ok (.invokevirtual 212, 3) := by decide +kernel
theorem dX6_source_19 : decode cX6_source 19 = .ok (.goto 5, 3) := by decide +kernel
theorem dX6_source_22 : decode cX6_source 22 = .ok (.bipush (-5), 2) := by decide +kernel
theorem dX6_source_24 : decode cX6_source 24 = .ok (.ireturn, 1) := by decide +kernel
theorem dX6_rings_0 : decode cX6_rings 0 = .ok (.iload_n 1, 1) := by decide +kernel
theorem dX6_rings_1 : decode cX6_rings 1 = .ok (.iconst 0, 1) := by decide +kernel
theorem dX6_rings_2 : decode cX6_rings 2 = .ok (.iconst 1, 1) := by decide +kernel
theorem dX6_rings_3 : decode cX6_rings 3 = .ok (.invokestatic 101, 3) := by decide +kernel
theorem dX6_rings_6 : decode cX6_rings 6 = .ok (.ifCond .ne 6, 3) := by decide +kernel
theorem dX6_rings_9 : decode cX6_rings 9 = .ok (.bipush (-2), 2) := by decide +kernel
theorem dX6_rings_11 : decode cX6_rings 11 = .ok (.ireturn, 1) := by decide +kernel
theorem dX6_rings_12 : decode cX6_rings 12 = .ok (.iconst 0, 1) := by decide +kernel
theorem dX6_rings_13 : decode cX6_rings 13 = .ok (.istore_n 2, 1) := by decide +kernel
theorem dX6_rings_14 : decode cX6_rings 14 = .ok (.iconst 0, 1) := by decide +kernel
theorem dX6_rings_15 : decode cX6_rings 15 = .ok (.istore_n 3, 1) := by decide +kernel
theorem dX6_rings_16 : decode cX6_rings 16 = .ok (.iload_n 3, 1) := by decide +kernel
theorem dX6_rings_17 : decode cX6_rings 17 = .ok (.aload_n 0, 1) := by decide +kernel
theorem dX6_rings_18 : decode cX6_rings 18 = .ok (.getfield 54, 3) := by decide +kernel
theorem dX6_rings_21 : decode cX6_rings 21 = .ok (.getfield 79, 3) := by decide +kernel
theorem dX6_rings_24 : decode cX6_rings 24 = .ok (.if_icmp .ge 66, 3) := by decide +kernel
theorem dX6_rings_27 : decode cX6_rings 27 = .ok (.aload_n 0, 1) := by decide +kernel
theorem dX6_rings_28 : decode cX6_rings 28 = .ok (.getfield 54, 3) := by decide +kernel
theorem dX6_rings_31 : decode cX6_rings 31 = .ok (.iload_n 3, 1) := by decide +kernel
theorem dX6_rings_32 : decode cX6_rings 32 = .ok (.invokevirtual 212, 3) := by decide +kernel
theorem dX6_rings_35 : decode cX6_rings 35 = .ok (.istore 4, 2) := by decide +kernel
theorem dX6_rings_37 : decode cX6_rings 37 = .ok (.iload_n 1, 1) := by decide +kernel
theorem dX6_rings_38 : decode cX6_rings 38 = .ok (.ifCond .ne 12, 3) := by decide +kernel
theorem dX6_rings_41 : decode cX6_rings 41 = .ok (.iload 4, 2) := by decide +kernel
theorem dX6_rings_43 : decode cX6_rings 43 = .ok (.iload_n 3, 1) := by decide +kernel
theorem dX6_rings_44 : decode cX6_rings 44 = .ok (.invokestatic 197, 3) := by decide +kernel
theorem dX6_rings_47 : decode cX6_rings 47 = .ok (.goto 24, 3) := by decide +kernel
theorem dX6_rings_50 : decode cX6_rings 50 = .ok (.iload 4, 2) := by decide +kernel
theorem dX6_rings_52 : decode cX6_rings 52 = .ok (.ifCond .ne 18, 3) := by decide +kernel
theorem dX6_rings_55 : decode cX6_rings 55 = .ok (.aload_n 0, 1) := by decide +kernel
theorem dX6_rings_56 : decode cX6_rings 56 = .ok (.getfield 54, 3) := by decide +kernel
theorem dX6_rings_59 : decode cX6_rings 59 = .ok (.iload_n 3, 1) := by decide +kernel
theorem dX6_rings_60 : decode cX6_rings 60 = .ok (.invokevirtual 143, 3) := by decide +kernel
theorem dX6_rings_63 : decode cX6_rings 63 = .ok (.ifCond .le 7, 3) := by decide +kernel
theorem dX6_rings_66 : decode cX6_rings 66 = .ok (.iconst 1, 1) := by decide +kernel
theorem dX6_rings_67 : decode cX6_rings 67 = .ok (.goto 4, 3) := by decide +kernel
theorem dX6_rings_70 : decode cX6_rings 70 = .ok (.iconst 0, 1) := by decide +kernel
theorem dX6_rings_71 : decode cX6_rings 71 = .ok (.istore 5, 2) := by decide +kernel
theorem dX6_rings_73 : decode cX6_rings 73 = .ok (.iload 5, 2) := by decide +kernel
theorem dX6_rings_75 : decode cX6_rings 75 = .ok (.ifCond .eq 9, 3) := by decide +kernel
theorem dX6_rings_78 : decode cX6_rings 78 = .ok (.iload_n 2, 1) := by decide +kernel
theorem dX6_rings_79 : decode cX6_rings 79 = .ok (.iconst 1, 1) := by decide +kernel
theorem dX6_rings_80 : decode cX6_rings 80 = .ok (.iload_n 3, 1) := by decide +kernel
theorem dX6_rings_81 : decode cX6_rings 81 = .ok (.ishl, 1) := by decide +kernel
theorem dX6_rings_82 : decode cX6_rings 82 = .ok (.ior, 1) := by decide +kernel
theorem dX6_rings_83 : decode cX6_rings 83 = .ok (.istore_n 2, 1) := by decide +kernel
theorem dX6_rings_84 : decode cX6_rings 84 = .ok (.iinc 3 1, 3) := by decide +kernel
theorem dX6_rings_87 : decode cX6_rings 87 = .ok (.goto (-71), 3) := by decide +kernel
theorem dX6_rings_90 : decode cX6_rings 90 = .ok (.iload_n 2, 1) := by decide +kernel
theorem dX6_rings_91 : decode cX6_rings 91 = .ok (.ireturn, 1) := by decide +kernel
theorem dX6_ask_0 : decode cX6_ask 0 = .ok (.aload_n 0, 1) := by decide +kernel
theorem dX6_ask_1 : decode cX6_ask 1 = .ok (.getfield 54, 3) := by decide +kernel
theorem dX6_ask_4 : decode cX6_ask 4 = .ok (.iload_n 1, 1) := by decide +kernel
theorem dX6_ask_5 : decode cX6_ask 5 = .ok (.invokevirtual 109, 3) := by decide +kernel
theorem dX6_ask_8 : decode cX6_ask 8 = .ok (.ifCond .ne 6, 3) := by decide +kernel
theorem dX6_ask_11 : decode cX6_ask 11 = .ok (.bipush (-5), 2) := by decide +kernel
theorem dX6_ask_13 : decode cX6_ask 13 = .ok (.ireturn, 1) := by decide +kernel
theorem dX6_ask_14 : decode cX6_ask 14 = .ok (.iload_n 2, 1) := by decide +kernel
theorem dX6_ask_15 : decode cX6_ask 15 = .ok (.bipush 39, 2) := by decide +kernel
theorem dX6_ask_17 : decode cX6_ask 17 = .ok (.invokestatic 146, 3) := by decide +kernel
theorem dX6_ask_20 : decode cX6_ask 20 = .ok (.ifCond .eq 12, 3) := by decide +kernel
theorem dX6_ask_23 : decode cX6_ask 23 = .ok (.iload_n 3, 1) := by decide +kernel
theorem dX6_ask_24 : decode cX6_ask 24 = .ok (.iconst 0, 1) := by decide +kernel
theorem dX6_ask_25 : decode cX6_ask 25 = .ok (.iconst 1, 1) := by decide +kernel
theorem dX6_ask_26 : decode cX6_ask 26 = .ok (.invokestatic 101, 3) := by decide +kernel
theorem dX6_ask_29 : decode cX6_ask 29 = .ok (.ifCond .ne 6, 3) := by decide +kernel
theorem dX6_ask_32 : decode cX6_ask 32 = .ok (.bipush (-7), 2) := by decide +kernel
theorem dX6_ask_34 : decode cX6_ask 34 = .ok (.ireturn, 1) := by decide +kernel
theorem dX6_ask_35 : decode cX6_ask 35 = .ok (.iconst (-1), 1) := by decide +kernel
theorem dX6_ask_36 : decode cX6_ask 36 = .ok (.istore 4, 2) := by decide +kernel
theorem dX6_ask_38 : decode cX6_ask 38 = .ok (.iconst (-1), 1) := by decide +kernel
theorem dX6_ask_39 : decode cX6_ask 39 = .ok (.istore 5, 2) := by decide +kernel
theorem dX6_ask_41 : decode cX6_ask 41 = .ok (.iconst 0, 1) := by decide +kernel
theorem dX6_ask_42 : decode cX6_ask 42 = .ok (.istore 6, 2) := by decide +kernel
theorem dX6_ask_44 : decode cX6_ask 44 = .ok (.iload 6, 2) := by decide +kernel
theorem dX6_ask_46 : decode cX6_ask 46 = .ok (.aload_n 0, 1) := by decide +kernel
theorem dX6_ask_47 : decode cX6_ask 47 = .ok (.getfield 54, 3) := by decide +kernel
theorem dX6_ask_50 : decode cX6_ask 50 = .ok (.getfield 79, 3) := by decide +kernel
theorem dX6_ask_53 : decode cX6_ask 53 = .ok (.if_icmp .ge 34, 3) := by decide +kernel
theorem dX6_ask_56 : decode cX6_ask 56 = .ok (.aload_n 0, 1) := by decide +kernel
theorem dX6_ask_57 : decode cX6_ask 57 = .ok (.iload 6, 2) := by decide +kernel
theorem dX6_ask_59 : decode cX6_ask 59 = .ok (.iload_n 1, 1) := by decide +kernel
theorem dX6_ask_60 : decode cX6_ask 60 = .ok (.iload_n 2, 1) := by decide +kernel
theorem dX6_ask_61 : decode cX6_ask 61 = .ok (.invokevirtual 215, 3) := by decide +kernel
theorem dX6_ask_64 : decode cX6_ask 64 = .ok (.istore 7, 2) := by decide +kernel
theorem dX6_ask_66 : decode cX6_ask 66 = .ok (.iload 7, 2) := by decide +kernel
theorem dX6_ask_68 : decode cX6_ask 68 = .ok (.iload 5, 2) := by decide +kernel
theorem dX6_ask_70 : decode cX6_ask 70 = .ok (.if_icmp .le 11, 3) := by decide +kernel
theorem dX6_ask_73 : decode cX6_ask 73 = .ok (.iload 7, 2) := by decide +kernel
theorem dX6_ask_75 : decode cX6_ask 75 = .ok (.istore 5, 2) := by decide +kernel
theorem dX6_ask_77 : decode cX6_ask 77 = .ok (.iload 6, 2) := by decide +kernel
theorem dX6_ask_79 : decode cX6_ask 79 = .ok (.istore 4, 2) := by decide +kernel
theorem dX6_ask_81 : decode cX6_ask 81 = .ok (.iinc 6 1, 3) := by decide +kernel
theorem dX6_ask_84 : decode cX6_ask 84 = .ok (.goto (-40), 3) := by decide +kernel
theorem dX6_ask_87 : decode cX6_ask 87 = .ok (.iload_n 3, 1) := by decide +kernel
theorem dX6_ask_88 : decode cX6_ask 88 = .ok (.ifCond .ne 8, 3) := by decide +kernel
theorem dX6_ask_91 : decode cX6_ask 91 = .ok (.iload 4, 2) := by decide +kernel
theorem dX6_ask_93 : decode cX6_ask 93 = .ok (.goto 5, 3) := by decide +kernel
theorem dX6_ask_96 : decode cX6_ask 96 = .ok (.iload 5, 2) := by decide +kernel
theorem dX6_ask_98 : decode cX6_ask 98 = .ok (.ireturn, 1) := by decide +kernel
theorem dX6_heatIfLent_0 : decode cX6_heatIfLent 0 = .ok (.aload_n 0, 1) := by decide +kernel
theorem dX6_heatIfLent_1 : decode cX6_heatIfLent 1 = .ok (.invokevirtual 181, 3) := by decide +kernel
theorem dX6_heatIfLent_4 : decode cX6_heatIfLent 4 = .ok (.astore 4, 2) := by decide +kernel
theorem dX6_heatIfLent_6 : decode cX6_heatIfLent 6 = .ok (.iload_n 3, 1) := by decide +kernel
theorem dX6_heatIfLent_7 : decode cX6_heatIfLent 7 = .ok (.bipush 100, 2) := by decide +kernel
theorem dX6_heatIfLent_9 : decode cX6_heatIfLent 9 = .ok (.irem, 1) := by decide +kernel
theorem dX6_heatIfLent_10 : decode cX6_heatIfLent 10 = .ok (.istore 5, 2) := by decide +kernel
theorem dX6_heatIfLent_12 : decode cX6_heatIfLent 12 = .ok (.iload_n 1, 1) := by decide +kernel
theorem dX6_heatIfLent_13 : decode cX6_heatIfLent 13 = .ok (.iload_n 2, 1) := by decide +kernel
theorem dX6_heatIfLent_14 : decode cX6_heatIfLent 14 = .ok (.if_icmp .eq 19, 3) := by decide +kernel
theorem dX6_heatIfLent_17 : decode cX6_heatIfLent 17 = .ok (.aload 4, 2) := by decide +kernel
theorem dX6_heatIfLent_19 : decode cX6_heatIfLent 19 = .ok (.iload_n 1, 1) := by decide +kernel
theorem dX6_heatIfLent_20 : decode cX6_heatIfLent 20 = .ok (.iload_n 2, 1) := by decide +kernel
theorem dX6_heatIfLent_21 : decode cX6_heatIfLent 21 = .ok (.iload_n 3, 1) := by decide +kernel
theorem dX6_heatIfLent_22 : decode cX6_heatIfLent 22 = .ok (.bipush 100, 2) := by decide +kernel
theorem dX6_heatIfLent_24 : decode cX6_heatIfLent 24 = .ok (.idiv, 1) := by decide +kernel
theorem dX6_heatIfLent_25 : decode cX6_heatIfLent 25 = .ok (.iload 5, 2) := by decide +kernel
theorem dX6_heatIfLent_27 : decode cX6_heatIfLent 27 = .ok (.invokevirtual 150, 3) := by decide +kernel
theorem dX6_heatIfLent_30 : decode cX6_heatIfLent 30 = .ok (.ifCond .ge 5, 3) := by decide +kernel
theorem dX6_heatIfLent_33 : decode cX6_heatIfLent 33 = .ok (.iconst (-1), 1) := by decide +kernel
theorem dX6_heatIfLent_34 : decode cX6_heatIfLent 34 = .ok (.ireturn, 1) := by decide +kernel
theorem dX6_heatIfLent_35 : decode cX6_heatIfLent 35 = .ok (.aload 4, 2) := by decide +kernel
theorem dX6_heatIfLent_37 : decode cX6_heatIfLent 37 = .ok (.iload 5, 2) := by decide +kernel
theorem dX6_heatIfLent_39 : decode cX6_heatIfLent 39 = .ok (.iconst 1, 1) := by decide +kernel
theorem dX6_heatIfLent_40 : decode cX6_heatIfLent 40 = .ok (.iadd, 1) := by decide +kernel
theorem dX6_heatIfLent_41 : decode cX6_heatIfLent 41 = .ok (.invokevirtual 185, 3) := by decide +kernel
theorem dX6_heatIfLent_44 : decode cX6_heatIfLent 44 = .ok (.pop, 1) := by decide +kernel
theorem dX6_heatIfLent_45 : decode cX6_heatIfLent 45 = .ok (.aload 4, 2) := by decide +kernel
theorem dX6_heatIfLent_47 : decode cX6_heatIfLent 47 = .ok (.invokevirtual 89, 3) := by decide +kernel
theorem dX6_heatIfLent_50 : decode cX6_heatIfLent 50 = .ok (.ireturn, 1) := by decide +kernel
theorem dX6_needs_0 : decode cX6_needs 0 = .ok (.aload_n 0, 1) := by decide +kernel
theorem dX6_needs_1 : decode cX6_needs 1 = .ok (.getfield 54, 3) := by decide +kernel
theorem dX6_needs_4 : decode cX6_needs 4 = .ok (.iload_n 1, 1) := by decide +kernel
theorem dX6_needs_5 : decode cX6_needs 5 = .ok (.invokevirtual 109, 3) := by decide +kernel
theorem dX6_needs_8 : decode cX6_needs 8 = .ok (.ifCond .ne 6, 3) := by decide +kernel
theorem dX6_needs_11 : decode cX6_needs 11 = .ok (.bipush (-5), 2) := by decide +kernel
theorem dX6_needs_13 : decode cX6_needs 13 = .ok (.ireturn, 1) := by decide +kernel
theorem dX6_needs_14 : decode cX6_needs 14 = .ok (.iload_n 2, 1) := by decide +kernel
theorem dX6_needs_15 : decode cX6_needs 15 = .ok (.iconst 0, 1) := by decide +kernel
theorem dX6_needs_16 : decode cX6_needs 16 = .ok (.bipush 40, 2) := by decide +kernel
theorem dX6_needs_18 : decode cX6_needs 18 = .ok (.invokestatic 101, 3) := by decide +kernel
theorem dX6_needs_21 : decode cX6_needs 21 = .ok (.ifCond .ne 6, 3) := by decide +kernel
theorem dX6_needs_24 : decode cX6_needs 24 = .ok (.bipush (-7), 2) := by decide +kernel
theorem dX6_needs_26 : decode cX6_needs 26 = .ok (.ireturn, 1) := by decide +kernel
theorem dX6_needs_27 : decode cX6_needs 27 = .ok (.iconst 0, 1) := by decide +kernel
theorem dX6_needs_28 : decode cX6_needs 28 = .ok (.istore_n 3, 1) := by decide +kernel
theorem dX6_needs_29 : decode cX6_needs 29 = .ok (.iload_n 3, 1) := by decide +kernel
theorem dX6_needs_30 : decode cX6_needs 30 = .ok (.bipush 99, 2) := by decide +kernel
theorem dX6_needs_32 : decode cX6_needs 32 = .ok (.if_icmp .gt 38, 3) := by decide +kernel
theorem dX6_needs_35 : decode cX6_needs 35 = .ok (.aload_n 0, 1) := by decide +kernel
theorem dX6_needs_36 : decode cX6_needs 36 = .ok (.invokevirtual 181, 3) := by decide +kernel
theorem dX6_needs_39 : decode cX6_needs 39 = .ok (.astore 4, 2) := by decide +kernel
theorem dX6_needs_41 : decode cX6_needs 41 = .ok (.aload 4, 2) := by decide +kernel
theorem dX6_needs_43 : decode cX6_needs 43 = .ok (.getfield 218, 3) := by decide +kernel
theorem dX6_needs_46 : decode cX6_needs 46 = .ok (.iload_n 1, 1) := by decide +kernel
theorem dX6_needs_47 : decode cX6_needs 47 = .ok (.iload_n 3, 1) := by decide +kernel
theorem dX6_needs_48 : decode cX6_needs 48 = .ok (.iastore, 1) := by decide +kernel
theorem dX6_needs_49 : decode cX6_needs 49 = .ok (.aload 4, 2) := by decide +kernel
theorem dX6_needs_51 : decode cX6_needs 51 = .ok (.iload_n 2, 1) := by decide +kernel
theorem dX6_needs_52 : decode cX6_needs 52 = .ok (.invokevirtual 221, 3) := by decide +kernel
theorem dX6_needs_55 : decode cX6_needs 55 = .ok (.iload_n 1, 1) := by decide +kernel
theorem dX6_needs_56 : decode cX6_needs 56 = .ok (.invokestatic 197, 3) := by decide +kernel
theorem dX6_needs_59 : decode cX6_needs 59 = .ok (.ifCond .ne 5, 3) := by decide +kernel
theorem dX6_needs_62 : decode cX6_needs 62 = .ok (.iload_n 3, 1) := by decide +kernel
theorem dX6_needs_63 : decode cX6_needs 63 = .ok (.ireturn, 1) := by decide +kernel
theorem dX6_needs_64 : decode cX6_needs 64 = .ok (.iinc 3 1, 3) := by decide +kernel
theorem dX6_needs_67 : decode cX6_needs 67 = .ok (.goto (-38), 3) := by decide +kernel
theorem dX6_needs_70 : decode cX6_needs 70 = .ok (.iconst (-1), 1) := by decide +kernel
theorem dX6_needs_71 : decode cX6_needs 71 = .ok (.ireturn, 1) := by decide +kernel
theorem dX6_mercy_0 : decode cX6_mercy 0 = .ok (.iload_n 1, 1) := by decide +kernel
theorem dX6_mercy_1 : decode cX6_mercy 1 = .ok (.iconst 0, 1) := by decide +kernel
theorem dX6_mercy_2 : decode cX6_mercy 2 = .ok (.bipush 40, 2) := by decide +kernel
theorem dX6_mercy_4 : decode cX6_mercy 4 = .ok (.invokestatic 101, 3) := by decide +kernel
theorem dX6_mercy_7 : decode cX6_mercy 7 = .ok (.ifCond .eq 12, 3) := by decide +kernel
theorem dX6_mercy_10 : decode cX6_mercy 10 = .ok (.iload_n 2, 1) := by decide +kernel
theorem dX6_mercy_11 : decode cX6_mercy 11 = .ok (.iconst 0, 1) := by decide +kernel
theorem dX6_mercy_12 : decode cX6_mercy 12 = .ok (.iconst 1, 1) := by decide +kernel
theorem dX6_mercy_13 : decode cX6_mercy 13 = .ok (.invokestatic 101, 3) := by decide +kernel
theorem dX6_mercy_16 : decode cX6_mercy 16 = .ok (.ifCond .ne 6, 3) := by decide +kernel
theorem dX6_mercy_19 : decode cX6_mercy 19 = .ok (.bipush (-2), 2) := by decide +kernel
theorem dX6_mercy_21 : decode cX6_mercy 21 = .ok (.ireturn, 1) := by decide +kernel
theorem dX6_mercy_22 : decode cX6_mercy 22 = .ok (.iconst (-1), 1) := by decide +kernel
theorem dX6_mercy_23 : decode cX6_mercy 23 = .ok (.istore_n 3, 1) := by decide +kernel
theorem dX6_mercy_24 : decode cX6_mercy 24 = .ok (.aload_n 0, 1) := by decide +kernel
theorem dX6_mercy_25 : decode cX6_mercy 25 = .ok (.invokevirtual 181, 3) := by decide +kernel
theorem dX6_mercy_28 : decode cX6_mercy 28 = .ok (.iload_n 1, 1) := by decide +kernel
theorem dX6_mercy_29 : decode cX6_mercy 29 = .ok (.invokevirtual 221, 3) := by decide +kernel
theorem dX6_mercy_32 : decode cX6_mercy 32 = .ok (.invokestatic 224, 3) := by decide +kernel
theorem dX6_mercy_35 : decode cX6_mercy 35 = .ok (.istore 4, 2) := by decide +kernel
theorem dX6_mercy_37 : decode cX6_mercy 37 = .ok (.iconst 0, 1) := by decide +kernel
theorem dX6_mercy_38 : decode cX6_mercy 38 = .ok (.istore 5, 2) := by decide +kernel
theorem dX6_mercy_40 : decode cX6_mercy 40 = .ok (.iload 5, 2) := by decide +kernel
theorem dX6_mercy_42 : decode cX6_mercy 42 = .ok (.aload_n 0, 1) := by decide +kernel
theorem dX6_mercy_43 : decode cX6_mercy 43 = .ok (.getfield 54, 3) := by decide +kernel
theorem dX6_mercy_46 : decode cX6_mercy 46 = .ok (.getfield 83, 3) := by decide +kernel
theorem dX6_mercy_49 : decode cX6_mercy 49 = .ok (.if_icmp .ge 47, 3) := by decide +kernel
theorem dX6_mercy_52 : decode cX6_mercy 52 = .ok (.aload_n 0, 1) := by decide +kernel
theorem dX6_mercy_53 : decode cX6_mercy 53 = .ok (.invokevirtual 181, 3) := by decide +kernel
theorem dX6_mercy_56 : decode cX6_mercy 56 = .ok (.astore 6, 2) := by decide +kernel
theorem dX6_mercy_58 : decode cX6_mercy 58 = .ok (.aload 6, 2) := by decide +kernel
theorem dX6_mercy_60 : decode cX6_mercy 60 = .ok (.iload 5, 2) := by decide +kernel
theorem dX6_mercy_62 : decode cX6_mercy 62 = .ok (.invokevirtual 175, 3) := by decide +kernel
theorem dX6_mercy_65 : decode cX6_mercy 65 = .ok (.aload 6, 2) := by decide +kernel
theorem dX6_mercy_67 : decode cX6_mercy 67 = .ok (.iload_n 1, 1) := by decide +kernel
theorem dX6_mercy_68 : decode cX6_mercy 68 = .ok (.invokevirtual 221, 3) := by decide +kernel
theorem dX6_mercy_71 : decode cX6_mercy 71 = .ok (.invokestatic 224, 3) := by decide +kernel
theorem dX6_mercy_74 : decode cX6_mercy 74 = .ok (.istore 7, 2) := by decide +kernel
theorem dX6_mercy_76 : decode cX6_mercy 76 = .ok (.iload 7, 2) := by decide +kernel
theorem dX6_mercy_78 : decode cX6_mercy 78 = .ok (.iload 4, 2) := by decide +kernel
theorem dX6_mercy_80 : decode cX6_mercy 80 = .ok (.if_icmp .ge 10, 3) := by decide +kernel
theorem dX6_mercy_83 : decode cX6_mercy 83 = .ok (.iload 7, 2) := by decide +kernel
theorem dX6_mercy_85 : decode cX6_mercy 85 = .ok (.istore 4, 2) := by decide +kernel
theorem dX6_mercy_87 : decode cX6_mercy 87 = .ok (.iload 5, 2) := by decide +kernel
theorem dX6_mercy_89 : decode cX6_mercy 89 = .ok (.istore_n 3, 1) := by decide +kernel
theorem dX6_mercy_90 : decode cX6_mercy 90 = .ok (.iinc 5 1, 3) := by decide +kernel
theorem dX6_mercy_93 : decode cX6_mercy 93 = .ok (.goto (-53), 3) := by decide +kernel
theorem dX6_mercy_96 : decode cX6_mercy 96 = .ok (.iload_n 2, 1) := by decide +kernel
theorem dX6_mercy_97 : decode cX6_mercy 97 = .ok (.ifCond .ne 7, 3) := by decide +kernel
theorem dX6_mercy_100 : decode cX6_mercy 100 = .ok (.iload_n 3, 1) := by decide +kernel
theorem dX6_mercy_101 : decode cX6_mercy 101 = .ok (.goto 5, 3) := by decide +kernel
theorem dX6_mercy_104 : decode cX6_mercy 104 = .ok (.iload 4, 2) := by decide +kernel
theorem dX6_mercy_106 : decode cX6_mercy 106 = .ok (.ireturn, 1) := by decide +kernel
theorem dX6_worst_0 : decode cX6_worst 0 = .ok (.iload_n 1, 1) := by decide +kernel
theorem dX6_worst_1 : decode cX6_worst 1 = .ok (.iconst 0, 1) := by decide +kernel
theorem dX6_worst_2 : decode cX6_worst 2 = .ok (.bipush 40, 2) := by decide +kernel
theorem dX6_worst_4 : decode cX6_worst 4 = .ok (.invokestatic 101, 3) := by decide +kernel
theorem dX6_worst_7 : decode cX6_worst 7 = .ok (.ifCond .eq 12, 3) := by decide +kernel
theorem dX6_worst_10 : decode cX6_worst 10 = .ok (.iload_n 2, 1) := by decide +kernel
theorem dX6_worst_11 : decode cX6_worst 11 = .ok (.iconst 0, 1) := by decide +kernel
theorem dX6_worst_12 : decode cX6_worst 12 = .ok (.iconst 1, 1) := by decide +kernel
theorem dX6_worst_13 : decode cX6_worst 13 = .ok (.invokestatic 101, 3) := by decide +kernel
theorem dX6_worst_16 : decode cX6_worst 16 = .ok (.ifCond .ne 6, 3) := by decide +kernel
theorem dX6_worst_19 : decode cX6_worst 19 = .ok (.bipush (-2), 2) := by decide +kernel
theorem dX6_worst_21 : decode cX6_worst 21 = .ok (.ireturn, 1) := by decide +kernel
theorem dX6_worst_22 : decode cX6_worst 22 = .ok (.iconst (-1), 1) := by decide +kernel
theorem dX6_worst_23 : decode cX6_worst 23 = .ok (.istore_n 3, 1) := by decide +kernel
theorem dX6_worst_24 : decode cX6_worst 24 = .ok (.iconst (-1), 1) := by decide +kernel
theorem dX6_worst_25 : decode cX6_worst 25 = .ok (.istore 4, 2) := by decide +kernel
theorem dX6_worst_27 : decode cX6_worst 27 = .ok (.iconst 0, 1) := by decide +kernel
theorem dX6_worst_28 : decode cX6_worst 28 = .ok (.istore 5, 2) := by decide +kernel
theorem dX6_worst_30 : decode cX6_worst 30 = .ok (.iload 5, 2) := by decide +kernel
theorem dX6_worst_32 : decode cX6_worst 32 = .ok (.aload_n 0, 1) := by decide +kernel
theorem dX6_worst_33 : decode cX6_worst 33 = .ok (.getfield 54, 3) := by decide +kernel
theorem dX6_worst_36 : decode cX6_worst 36 = .ok (.getfield 79, 3) := by decide +kernel
theorem dX6_worst_39 : decode cX6_worst 39 = .ok (.if_icmp .ge 37, 3) := by decide +kernel
theorem dX6_worst_42 : decode cX6_worst 42 = .ok (.aload_n 0, 1) := by decide +kernel
theorem dX6_worst_43 : decode cX6_worst 43 = .ok (.iload 5, 2) := by decide +kernel
theorem dX6_worst_45 : decode cX6_worst 45 = .ok (.iload_n 1, 1) := by decide +kernel
theorem dX6_worst_46 : decode cX6_worst 46 = .ok (.invokevirtual 229, 3) := by decide +kernel
theorem dX6_worst_49 : decode cX6_worst 49 = .ok (.istore 6, 2) := by decide +kernel
theorem dX6_worst_51 : decode cX6_worst 51 = .ok (.iload_n 3, 1) := by decide +kernel
theorem dX6_worst_52 : decode cX6_worst 52 = .ok (.iconst (-1), 1) := by decide +kernel
theorem dX6_worst_53 : decode cX6_worst 53 = .ok (.if_icmp .eq 10, 3) := by decide +kernel
theorem dX6_worst_56 : decode cX6_worst 56 = .ok (.iload 6, 2) := by decide +kernel
theorem dX6_worst_58 : decode cX6_worst 58 = .ok (.iload 4, 2) := by decide +kernel
theorem dX6_worst_60 : decode cX6_worst 60 = .ok (.if_icmp .ge 10, 3) := by decide +kernel
theorem dX6_worst_63 : decode cX6_worst 63 = .ok (.iload 6, 2) := by decide +kernel
theorem dX6_worst_65 : decode cX6_worst 65 = .ok (.istore 4, 2) := by decide +kernel
theorem dX6_worst_67 : decode cX6_worst 67 = .ok (.iload 5, 2) := by decide +kernel
theorem dX6_worst_69 : decode cX6_worst 69 = .ok (.istore_n 3, 1) := by decide +kernel
theorem dX6_worst_70 : decode cX6_worst 70 = .ok (.iinc 5 1, 3) := by decide +kernel
theorem dX6_worst_73 : decode cX6_worst 73 = .ok (.goto (-43), 3) := by decide +kernel
theorem dX6_worst_76 : decode cX6_worst 76 = .ok (.iload_n 2, 1) := by decide +kernel
theorem dX6_worst_77 : decode cX6_worst 77 = .ok (.ifCond .ne 7, 3) := by decide +kernel
theorem dX6_worst_80 : decode cX6_worst 80 = .ok (.iload_n 3, 1) := by decide +kernel
theorem dX6_worst_81 : decode cX6_worst 81 = .ok (.goto 5, 3) := by decide +kernel
theorem dX6_worst_84 : decode cX6_worst 84 = .ok (.iload 4, 2) := by decide +kernel
theorem dX6_worst_86 : decode cX6_worst 86 = .ok (.ireturn, 1) := by decide +kernel
theorem dX6_heatOfOthersWithout_0 : decode cX6_heatOfOthersWithout 0 = .ok (.aload_n 0, 1) := by decide +kernel
theorem dX6_heatOfOthersWithout_1 : decode cX6_heatOfOthersWithout 1 = .ok (.invokevirtual 181, 3) := by decide +kernel
theorem dX6_heatOfOthersWithout_4 : decode cX6_heatOfOthersWithout 4 = .ok (.astore_n 3, 1) := by decide +kernel
theorem dX6_heatOfOthersWithout_5 : decode cX6_heatOfOthersWithout 5 = .ok (.aload_n 3, 1) := by decide +kernel
theorem dX6_heatOfOthersWithout_6 : decode cX6_heatOfOthersWithout 6 = .ok (.getfield 188, 3) := by decide +kernel
theorem dX6_heatOfOthersWithout_9 : decode cX6_heatOfOthersWithout 9 = .ok (.iload_n 1, 1) := by decide +kernel
theorem dX6_heatOfOthersWithout_10 : decode cX6_heatOfOthersWithout 10 = .ok (.iconst 0, 1) := by decide +kernel
theorem dX6_heatOfOthersWithout_11 : decode cX6_heatOfOthersWithout 11 = .ok (.iastore, 1) := by decide +kernel
theorem dX6_heatOfOthersWithout_12 : decode cX6_heatOfOthersWithout 12 = .ok (.aload_n 3, 1) := by decide +kernel
theorem dX6_heatOfOthersWithout_13 : decode cX6_heatOfOthersWithout 13 = .ok (.getfield 218, 3) := by decide +kernel
theorem dX6_heatOfOthersWithout_16 : decode cX6_heatOfOthersWithout 16 = .ok (.iload_n 1, 1) := by decide +kernel
theorem dX6_heatOfOthersWithout_17 : decode cX6_heatOfOthersWithout 17 = .ok (.iconst 0, 1) := by decide +kernel
theorem dX6_heatOfOthersWithout_18 : decode cX6_heatOfOthersWithout 18 = .ok (.iastore, 1) := by decide +kernel
theorem dX6_heatOfOthersWithout_19 : decode cX6_heatOfOthersWithout 19 = .ok (.aload_n 3, 1) := by decide +kernel
theorem dX6_heatOfOthersWithout_20 : decode cX6_heatOfOthersWithout 20 = .ok (.iload_n 2, 1) := by decide +kernel
theorem dX6_heatOfOthersWithout_21 : decode cX6_heatOfOthersWithout 21 = .ok (.invokevirtual 185, 3) := by decide +kernel
theorem dX6_heatOfOthersWithout_24 : decode cX6_heatOfOthersWithout 24 = .ok (.pop, 1) := by decide +kernel
theorem dX6_heatOfOthersWithout_25 : decode cX6_heatOfOthersWithout 25 = .ok (.aload_n 3, 1) := by decide +kernel
theorem dX6_heatOfOthersWithout_26 : decode cX6_heatOfOthersWithout 26 = .ok (.invokevirtual 89, 3) := by decide +kernel
theorem dX6_heatOfOthersWithout_29 : decode cX6_heatOfOthersWithout 29 = .ok (.aload_n 3, 1) := by decide +kernel
theorem dX6_heatOfOthersWithout_30 : decode cX6_heatOfOthersWithout 30 = .ok (.getfield 188, 3) := by decide +kernel
theorem dX6_heatOfOthersWithout_33 : decode cX6_heatOfOthersWithout 33 = .ok (.iload_n 1, 1) := by decide +kernel
theorem dX6_heatOfOthersWithout_34 : decode cX6_heatOfOthersWithout 34 = .ok (.iaload, 1) := by decide +kernel
theorem dX6_heatOfOthersWithout_35 : decode cX6_heatOfOthersWithout 35 = .ok (.isub, 1) := by decide +kernel
theorem dX6_heatOfOthersWithout_36 : decode cX6_heatOfOthersWithout 36 = .ok (.ireturn, 1) := by decide +kernel
theorem dX6_judge_0 : decode cX6_judge 0 = .ok (.aload_n 0, 1) := by decide +kernel
theorem dX6_judge_1 : decode cX6_judge 1 = .ok (.iload_n 1, 1) := by decide +kernel
theorem dX6_judge_2 : decode cX6_judge 2 = .ok (.iload_n 2, 1) := by decide +kernel
theorem dX6_judge_3 : decode cX6_judge 3 = .ok (.invokevirtual 232, 3) := by decide +kernel
theorem dX6_judge_6 : decode cX6_judge 6 = .ok (.istore_n 3, 1) := by decide +kernel
theorem dX6_judge_7 : decode cX6_judge 7 = .ok (.iload_n 3, 1) := by decide +kernel
theorem dX6_judge_8 : decode cX6_judge 8 = .ok (.ifCond .eq 7, 3) := by decide +kernel
theorem dX6_judge_11 : decode cX6_judge 11 = .ok (.iload_n 3, 1) := by decide +kernel
theorem dX6_judge_12 : decode cX6_judge 12 = .ok (.goto 13, 3) := by decide +kernel
theorem dX6_judge_15 : decode cX6_judge 15 = .ok (.aload_n 0, 1) := by decide +kernel
theorem dX6_judge_16 : decode cX6_judge 16 = .ok (.iload_n 1, 1) := by decide +kernel
theorem dX6_judge_17 : decode cX6_judge 17 = .ok (.aload_n 0, 1) := by decide +kernel
theorem dX6_judge_18 : decode cX6_judge 18 = .ok (.invokevirtual 181, 3) := by decide +kernel
theorem dX6_judge_21 : decode cX6_judge 21 = .ok (.iload_n 2, 1) := by decide +kernel
theorem dX6_judge_22 : decode cX6_judge 22 = .ok (.invokevirtual 235, 3) := by decide +kernel
theorem dX6_judge_25 : decode cX6_judge 25 = .ok (.ireturn, 1) := by decide +kernel
theorem dX6_kinds_0 : decode cX6_kinds 0 = .ok (.aload_n 0, 1) := by decide +kernel
theorem dX6_kinds_1 : decode cX6_kinds 1 = .ok (.iload_n 1, 1) := by decide +kernel
theorem dX6_kinds_2 : decode cX6_kinds 2 = .ok (.iload_n 2, 1) := by decide +kernel
theorem dX6_kinds_3 : decode cX6_kinds 3 = .ok (.invokevirtual 232, 3) := by decide +kernel
theorem dX6_kinds_6 : decode cX6_kinds 6 = .ok (.istore 4, 2) := by decide +kernel
theorem dX6_kinds_8 : decode cX6_kinds 8 = .ok (.iload 4, 2) := by decide +kernel
theorem dX6_kinds_10 : decode cX6_kinds 10 = .ok (.ifCond .eq 6, 3) := by decide +kernel
theorem dX6_kinds_13 : decode cX6_kinds 13 = .ok (.iload 4, 2) := by decide +kernel
theorem dX6_kinds_15 : decode cX6_kinds 15 = .ok (.ireturn, 1) := by decide +kernel
theorem dX6_kinds_16 : decode cX6_kinds 16 = .ok (.iload_n 3, 1) := by decide +kernel
theorem dX6_kinds_17 : decode cX6_kinds 17 = .ok (.iconst 0, 1) := by decide +kernel
theorem dX6_kinds_18 : decode cX6_kinds 18 = .ok (.iconst 1, 1) := by decide +kernel
theorem dX6_kinds_19 : decode cX6_kinds 19 = .ok (.invokestatic 101, 3) := by decide +kernel
theorem dX6_kinds_22 : decode cX6_kinds 22 = .ok (.ifCond .ne 6, 3) := by decide +kernel
theorem dX6_kinds_25 : decode cX6_kinds 25 = .ok (.bipush (-7), 2) := by decide +kernel
theorem dX6_kinds_27 : decode cX6_kinds 27 = .ok (.ireturn, 1) := by decide +kernel
theorem dX6_kinds_28 : decode cX6_kinds 28 = .ok (.iconst 0, 1) := by decide +kernel
theorem dX6_kinds_29 : decode cX6_kinds 29 = .ok (.istore 5, 2) := by decide +kernel
theorem dX6_kinds_31 : decode cX6_kinds 31 = .ok (.iconst 0, 1) := by decide +kernel
theorem dX6_kinds_32 : decode cX6_kinds 32 = .ok (.istore 6, 2) := by decide +kernel
theorem dX6_kinds_34 : decode cX6_kinds 34 = .ok (.iload 6, 2) := by decide +kernel
theorem dX6_kinds_36 : decode cX6_kinds 36 = .ok (.iload_n 3, 1) := by decide +kernel
theorem dX6_kinds_37 : decode cX6_kinds 37 = .ok (.ifCond .ne 7, 3) := by decide +kernel
theorem dX6_kinds_40 : decode cX6_kinds 40 = .ok (.iconst 5, 1) := by decide +kernel
theorem dX6_kinds_41 : decode cX6_kinds 41 = .ok (.goto 5, 3) := by decide +kernel
theorem dX6_kinds_44 : decode cX6_kinds 44 = .ok (.bipush 9, 2) := by decide +kernel
theorem dX6_kinds_46 : decode cX6_kinds 46 = .ok (.if_icmp .gt 60, 3) := by decide +kernel
theorem dX6_kinds_49 : decode cX6_kinds 49 = .ok (.aload_n 0, 1) := by decide +kernel
theorem dX6_kinds_50 : decode cX6_kinds 50 = .ok (.invokevirtual 181, 3) := by decide +kernel
theorem dX6_kinds_53 : decode cX6_kinds 53 = .ok (.astore 7, 2) := by decide +kernel
theorem dX6_kinds_55 : decode cX6_kinds 55 = .ok (.iload_n 3, 1) := by decide +kernel
theorem dX6_kinds_56 : decode cX6_kinds 56 = .ok (.ifCond .ne 15, 3) := by decide +kernel
theorem dX6_kinds_59 : decode cX6_kinds 59 = .ok (.aload 7, 2) := by decide +kernel
theorem dX6_kinds_61 : decode cX6_kinds 61 = .ok (.getfield 131, 3) := by decide +kernel
theorem dX6_kinds_64 : decode cX6_kinds 64 = .ok (.iload_n 2, 1) := by decide +kernel
theorem dX6_kinds_65 : decode cX6_kinds 65 = .ok (.iload 6, 2) := by decide +kernel
theorem dX6_kinds_67 : decode cX6_kinds 67 = .ok (.iastore, 1) := by decide +kernel
theorem dX6_kinds_68 : decode cX6_kinds 68 = .ok (.goto 12, 3) := by decide +kernel
theorem dX6_kinds_71 : decode cX6_kinds 71 = .ok (.aload 7, 2) := by decide +kernel
theorem dX6_kinds_73 : decode cX6_kinds 73 = .ok (.getfield 134, 3) := by decide +kernel
theorem dX6_kinds_76 : decode cX6_kinds 76 = .ok (.iload_n 2, 1) := by decide +kernel
theorem dX6_kinds_77 : decode cX6_kinds 77 = .ok (.iload 6, 2) := by decide +kernel
theorem dX6_kinds_79 : decode cX6_kinds 79 = .ok (.iastore, 1) := by decide +kernel
theorem dX6_kinds_80 : decode cX6_kinds 80 = .ok (.aload_n 0, 1) := by decide +kernel
theorem dX6_kinds_81 : decode cX6_kinds 81 = .ok (.iload_n 1, 1) := by decide +kernel
theorem dX6_kinds_82 : decode cX6_kinds 82 = .ok (.aload 7, 2) := by decide +kernel
theorem dX6_kinds_84 : decode cX6_kinds 84 = .ok (.iload_n 2, 1) := by decide +kernel
theorem dX6_kinds_85 : decode cX6_kinds 85 = .ok (.invokevirtual 241, 3) := by decide +kernel
theorem dX6_kinds_88 : decode cX6_kinds 88 = .ok (.ifCond .eq 12, 3) := by decide +kernel
theorem dX6_kinds_91 : decode cX6_kinds 91 = .ok (.iload 5, 2) := by decide +kernel
theorem dX6_kinds_93 : decode cX6_kinds 93 = .ok (.iconst 1, 1) := by decide +kernel
theorem dX6_kinds_94 : decode cX6_kinds 94 = .ok (.iload 6, 2) := by decide +kernel
theorem dX6_kinds_96 : decode cX6_kinds 96 = .ok (.ishl, 1) := by decide +kernel
theorem dX6_kinds_97 : decode cX6_kinds 97 = .ok (.ior, 1) := by decide +kernel
theorem dX6_kinds_98 : decode cX6_kinds 98 = .ok (.istore 5, 2) := by decide +kernel
theorem dX6_kinds_100 : decode cX6_kinds 100 = .ok (.iinc 6 1, 3) := by decide +kernel
theorem dX6_kinds_103 : decode cX6_kinds 103 = .ok (.goto (-69), 3) := by decide +kernel
theorem dX6_kinds_106 : decode cX6_kinds 106 = .ok (.iload 5, 2) := by decide +kernel
theorem dX6_kinds_108 : decode cX6_kinds 108 = .ok (.ireturn, 1) := by decide +kernel
theorem dX6_states_0 : decode cX6_states 0 = .ok (.aload_n 0, 1) := by decide +kernel
theorem dX6_states_1 : decode cX6_states 1 = .ok (.iload_n 1, 1) := by decide +kernel
theorem dX6_states_2 : decode cX6_states 2 = .ok (.iload_n 2, 1) := by decide +kernel
theorem dX6_states_3 : decode cX6_states 3 = .ok (.invokevirtual 232, 3) := by decide +kernel
theorem dX6_states_6 : decode cX6_states 6 = .ok (.istore 5, 2) := by decide +kernel
theorem dX6_states_8 : decode cX6_states 8 = .ok (.iload 5, 2) := by decide +kernel
theorem dX6_states_10 : decode cX6_states 10 = .ok (.ifCond .eq 6, 3) := by decide +kernel
theorem dX6_states_13 : decode cX6_states 13 = .ok (.iload 5, 2) := by decide +kernel
theorem dX6_states_15 : decode cX6_states 15 = .ok (.ireturn, 1) := by decide +kernel
theorem dX6_states_16 : decode cX6_states 16 = .ok (.iload_n 3, 1) := by decide +kernel
theorem dX6_states_17 : decode cX6_states 17 = .ok (.iconst 0, 1) := by decide +kernel
theorem dX6_states_18 : decode cX6_states 18 = .ok (.iconst 2, 1) := by decide +kernel
theorem dX6_states_19 : decode cX6_states 19 = .ok (.invokestatic 101, 3) := by decide +kernel
theorem dX6_states_22 : decode cX6_states 22 = .ok (.ifCond .eq 13, 3) := by decide +kernel
theorem dX6_states_25 : decode cX6_states 25 = .ok (.iload 4, 2) := by decide +kernel
theorem dX6_states_27 : decode cX6_states 27 = .ok (.iconst 0, 1) := by decide +kernel
theorem dX6_states_28 : decode cX6_states 28 = .ok (.iconst 1, 1) := by decide +kernel
theorem dX6_states_29 : decode cX6_states 29 = .ok (.invokestatic 101, 3) := by decide +kernel
theorem dX6_states_32 : decode cX6_states 32 = .ok (.ifCond .ne 6, 3) := by decide +kernel
theorem dX6_states_35 : decode cX6_states 35 = .ok (.bipush (-7), 2) := by decide +kernel
theorem dX6_states_37 : decode cX6_states 37 = .ok (.ireturn, 1) := by decide +kernel
theorem dX6_states_38 : decode cX6_states 38 = .ok (.iconst 0, 1) := by decide +kernel
theorem dX6_states_39 : decode cX6_states 39 = .ok (.istore 6, 2) := by decide +kernel
theorem dX6_states_41 : decode cX6_states 41 = .ok (.iconst (-1), 1) := by decide +kernel
theorem dX6_states_42 : decode cX6_states 42 = .ok (.istore 7, 2) := by decide +kernel
theorem dX6_states_44 : decode cX6_states 44 = .ok (.iconst 0, 1) := by decide +kernel
theorem dX6_states_45 : decode cX6_states 45 = .ok (.istore 8, 2) := by decide +kernel
theorem dX6_states_47 : decode cX6_states 47 = .ok (.iload 8, 2) := by decide +kernel
theorem dX6_states_49 : decode cX6_states 49 = .ok (.iload_n 3, 1) := by decide +kernel
theorem dX6_states_50 : decode cX6_states 50 = .ok (.ifCond .ne 9, 3) := by decide +kernel
theorem dX6_states_53 : decode cX6_states 53 = .ok (.sipush 299, 3) := by decide +kernel
theorem dX6_states_56 : decode cX6_states 56 = .ok (.goto 7, 3) := by decide +kernel
theorem dX6_states_59 : decode cX6_states 59 = .ok (.iload_n 3, 1) := by decide +kernel
theorem dX6_states_60 : decode cX6_states 60 = .ok (.invokestatic 120, 3) := by decide +kernel
theorem dX6_states_63 : decode cX6_states 63 = .ok (.if_icmp .gt 48, 3) := by decide +kernel
theorem dX6_states_66 : decode cX6_states 66 = .ok (.aload_n 0, 1) := by decide +kernel
theorem dX6_states_67 : decode cX6_states 67 = .ok (.invokevirtual 181, 3) := by decide +kernel
theorem dX6_states_70 : decode cX6_states 70 = .ok (.astore 9, 2) := by decide +kernel
theorem dX6_states_72 : decode cX6_states 72 = .ok (.aload 9, 2) := by decide +kernel
theorem dX6_states_74 : decode cX6_states 74 = .ok (.iload_n 2, 1) := by decide +kernel
theorem dX6_states_75 : decode cX6_states 75 = .ok (.iload_n 3, 1) := by decide +kernel
theorem dX6_states_76 : decode cX6_states 76 = .ok (.iload 8, 2) := by decide +kernel
theorem dX6_states_78 : decode cX6_states 78 = .ok (.invokevirtual 127, 3) := by decide +kernel
theorem dX6_states_81 : decode cX6_states 81 = .ok (.aload_n 0, 1) := by decide +kernel
theorem dX6_states_82 : decode cX6_states 82 = .ok (.iload_n 1, 1) := by decide +kernel
theorem dX6_states_83 : decode cX6_states 83 = .ok (.aload 9, 2) := by decide +kernel
theorem dX6_states_85 : decode cX6_states 85 = .ok (.iload_n 2, 1) := by decide +kernel
theorem dX6_states_86 : decode cX6_states 86 = .ok (.invokevirtual 241, 3) := by decide +kernel
theorem dX6_states_89 : decode cX6_states 89 = .ok (.ifCond .eq 16, 3) := by decide +kernel
theorem dX6_states_92 : decode cX6_states 92 = .ok (.iinc 6 1, 3) := by decide +kernel
theorem dX6_states_95 : decode cX6_states 95 = .ok (.iload 7, 2) := by decide +kernel
theorem dX6_states_97 : decode cX6_states 97 = .ok (.iconst (-1), 1) := by decide +kernel
theorem dX6_states_98 : decode cX6_states 98 = .ok (.if_icmp .ne 7, 3) := by decide +kernel
theorem dX6_states_101 : decode cX6_states 101 = .ok (.iload 8, 2) := by decide +kernel
theorem dX6_states_103 : decode cX6_states 103 = .ok (.istore 7, 2) := by decide +kernel
theorem dX6_states_105 : decode cX6_states 105 = .ok (.iinc 8 1, 3) := by decide +kernel
theorem dX6_states_108 : decode cX6_states 108 = .ok (.goto (-61), 3) := by decide +kernel
theorem dX6_states_111 : decode cX6_states 111 = .ok (.iload 4, 2) := by decide +kernel
theorem dX6_states_113 : decode cX6_states 113 = .ok (.ifCond .ne 8, 3) := by decide +kernel
theorem dX6_states_116 : decode cX6_states 116 = .ok (.iload 6, 2) := by decide +kernel
theorem dX6_states_118 : decode cX6_states 118 = .ok (.goto 5, 3) := by decide +kernel
theorem dX6_states_121 : decode cX6_states 121 = .ok (.iload 7, 2) := by decide +kernel
theorem dX6_states_123 : decode cX6_states 123 = .ok (.ireturn, 1) := by decide +kernel
theorem dX6_whose_0 : decode cX6_whose 0 = .ok (.aload_n 0, 1) := by decide +kernel
theorem dX6_whose_1 : decode cX6_whose 1 = .ok (.iload_n 1, 1) := by decide +kernel
theorem dX6_whose_2 : decode cX6_whose 2 = .ok (.invokevirtual 245, 3) := by decide +kernel
theorem dX6_whose_5 : decode cX6_whose 5 = .ok (.istore_n 2, 1) := by decide +kernel
theorem dX6_whose_6 : decode cX6_whose 6 = .ok (.iload_n 2, 1) := by decide +kernel
theorem dX6_whose_7 : decode cX6_whose 7 = .ok (.ifCond .eq 5, 3) := by decide +kernel
theorem dX6_whose_10 : decode cX6_whose 10 = .ok (.iload_n 2, 1) := by decide +kernel
theorem dX6_whose_11 : decode cX6_whose 11 = .ok (.ireturn, 1) := by decide +kernel
theorem dX6_whose_12 : decode cX6_whose 12 = .ok (.iconst 0, 1) := by decide +kernel
theorem dX6_whose_13 : decode cX6_whose 13 = .ok (.istore_n 3, 1) := by decide +kernel
theorem dX6_whose_14 : decode cX6_whose 14 = .ok (.iconst 0, 1) := by decide +kernel
theorem dX6_whose_15 : decode cX6_whose 15 = .ok (.istore 4, 2) := by decide +kernel
theorem dX6_whose_17 : decode cX6_whose 17 = .ok (.iload 4, 2) := by decide +kernel
theorem dX6_whose_19 : decode cX6_whose 19 = .ok (.aload_n 0, 1) := by decide +kernel
theorem dX6_whose_20 : decode cX6_whose 20 = .ok (.getfield 54, 3) := by decide +kernel
theorem dX6_whose_23 : decode cX6_whose 23 = .ok (.getfield 79, 3) := by decide +kernel
theorem dX6_whose_26 : decode cX6_whose 26 = .ok (.if_icmp .ge 30, 3) := by decide +kernel
theorem dX6_whose_29 : decode cX6_whose 29 = .ok (.aload_n 0, 1) := by decide +kernel
theorem dX6_whose_30 : decode cX6_whose 30 = .ok (.iload_n 1, 1) := by decide +kernel
theorem dX6_whose_31 : decode cX6_whose 31 = .ok (.aload_n 0, 1) := by decide +kernel
theorem dX6_whose_32 : decode cX6_whose 32 = .ok (.invokevirtual 181, 3) := by decide +kernel
theorem dX6_whose_35 : decode cX6_whose 35 = .ok (.iload 4, 2) := by decide +kernel
theorem dX6_whose_37 : decode cX6_whose 37 = .ok (.invokevirtual 241, 3) := by decide +kernel
theorem dX6_whose_40 : decode cX6_whose 40 = .ok (.ifCond .eq 10, 3) := by decide +kernel
theorem dX6_whose_43 : decode cX6_whose 43 = .ok (.iload_n 3, 1) := by decide +kernel
theorem dX6_whose_44 : decode cX6_whose 44 = .ok (.iconst 1, 1) := by decide +kernel
theorem dX6_whose_45 : decode cX6_whose 45 = .ok (.iload 4, 2) := by decide +kernel
theorem dX6_whose_47 : decode cX6_whose 47 = .ok (.ishl, 1) := by decide +kernel
theorem dX6_whose_48 : decode cX6_whose 48 = .ok (.ior, 1) := by decide +kernel
theorem dX6_whose_49 : decode cX6_whose 49 = .ok (.istore_n 3, 1) := by decide +kernel
theorem dX6_whose_50 : decode cX6_whose 50 = .ok (.iinc 4 1, 3) := by decide +kernel
theorem dX6_whose_53 : decode cX6_whose 53 = .ok (.goto (-36), 3) := by decide +kernel
theorem dX6_whose_56 : decode cX6_whose 56 = .ok (.iload_n 3, 1) := by decide +kernel
theorem dX6_whose_57 : decode cX6_whose 57 = .ok (.ireturn, 1) := by decide +kernel
theorem dX6_laws_0 : decode cX6_laws 0 = .ok (.aload_n 0, 1) := by decide +kernel
theorem dX6_laws_1 : decode cX6_laws 1 = .ok (.iload_n 1, 1) := by decide +kernel
theorem dX6_laws_2 : decode cX6_laws 2 = .ok (.iload_n 2, 1) := by decide +kernel
theorem dX6_laws_3 : decode cX6_laws 3 = .ok (.invokevirtual 232, 3) := by decide +kernel
theorem dX6_laws_6 : decode cX6_laws 6 = .ok (.istore_n 3, 1) := by decide +kernel
theorem dX6_laws_7 : decode cX6_laws 7 = .ok (.iload_n 3, 1) := by decide +kernel
theorem dX6_laws_8 : decode cX6_laws 8 = .ok (.ifCond .eq 5, 3) := by decide +kernel
theorem dX6_laws_11 : decode cX6_laws 11 = .ok (.iload_n 3, 1) := by decide +kernel
theorem dX6_laws_12 : decode cX6_laws 12 = .ok (.ireturn, 1) := by decide +kernel
theorem dX6_laws_13 : decode cX6_laws 13 = .ok (.iconst 0, 1) := by decide +kernel
theorem dX6_laws_14 : decode cX6_laws 14 = .ok (.istore 4, 2) := by decide +kernel
theorem dX6_laws_16 : decode cX6_laws 16 = .ok (.iconst 0, 1) := by decide +kernel
theorem dX6_laws_17 : decode cX6_laws 17 = .ok (.istore 5, 2) := by decide +kernel
theorem dX6_laws_19 : decode cX6_laws 19 = .ok (.iload 5, 2) := by decide +kernel
theorem dX6_laws_21 : decode cX6_laws 21 = .ok (.aload_n 0, 1) := by decide +kernel
theorem dX6_laws_22 : decode cX6_laws 22 = .ok (.getfield 10, 3) := by decide +kernel
theorem dX6_laws_25 : decode cX6_laws 25 = .ok (.getfield 92, 3) := by decide +kernel
theorem dX6_laws_28 : decode cX6_laws 28 = .ok (.if_icmp .ge 42, 3) := by decide +kernel
theorem dX6_laws_31 : decode cX6_laws 31 = .ok (.aload_n 0, 1) := by decide +kernel
theorem dX6_laws_32 : decode cX6_laws 32 = .ok (.invokevirtual 181, 3) := by decide +kernel
theorem dX6_laws_35 : decode cX6_laws 35 = .ok (.astore 6, 2) := by decide +kernel
theorem dX6_laws_37 : decode cX6_laws 37 = .ok (.aload 6, 2) := by decide +kernel
theorem dX6_laws_39 : decode cX6_laws 39 = .ok (.iload 5, 2) := by decide +kernel
theorem dX6_laws_41 : decode cX6_laws 41 = .ok (.putfield 95, 3) := by decide +kernel
theorem dX6_laws_44 : decode cX6_laws 44 = .ok (.aload_n 0, 1) := by decide +kernel
theorem dX6_laws_45 : decode cX6_laws 45 = .ok (.iload_n 1, 1) := by decide +kernel
theorem dX6_laws_46 : decode cX6_laws 46 = .ok (.aload 6, 2) := by decide +kernel
theorem dX6_laws_48 : decode cX6_laws 48 = .ok (.iload_n 2, 1) := by decide +kernel
theorem dX6_laws_49 : decode cX6_laws 49 = .ok (.invokevirtual 241, 3) := by decide +kernel
theorem dX6_laws_52 : decode cX6_laws 52 = .ok (.ifCond .eq 12, 3) := by decide +kernel
theorem dX6_laws_55 : decode cX6_laws 55 = .ok (.iload 4, 2) := by decide +kernel
theorem dX6_laws_57 : decode cX6_laws 57 = .ok (.iconst 1, 1) := by decide +kernel
theorem dX6_laws_58 : decode cX6_laws 58 = .ok (.iload 5, 2) := by decide +kernel
theorem dX6_laws_60 : decode cX6_laws 60 = .ok (.ishl, 1) := by decide +kernel
theorem dX6_laws_61 : decode cX6_laws 61 = .ok (.ior, 1) := by decide +kernel
theorem dX6_laws_62 : decode cX6_laws 62 = .ok (.istore 4, 2) := by decide +kernel
theorem dX6_laws_64 : decode cX6_laws 64 = .ok (.iinc 5 1, 3) := by decide +kernel
theorem dX6_laws_67 : decode cX6_laws 67 = .ok (.goto (-48), 3) := by decide +kernel
theorem dX6_laws_70 : decode cX6_laws 70 = .ok (.iload 4, 2) := by decide +kernel
theorem dX6_laws_72 : decode cX6_laws 72 = .ok (.ireturn, 1) := by decide +kernel
theorem dX6_film_0 : decode cX6_film 0 = .ok (.aload_n 0, 1) := by decide +kernel
theorem dX6_film_1 : decode cX6_film 1 = .ok (.getfield 67, 3) := by decide +kernel
theorem dX6_film_4 : decode cX6_film 4 = .ok (.iload_n 1, 1) := by decide +kernel
theorem dX6_film_5 : decode cX6_film 5 = .ok (.invokevirtual 248, 3) := by decide +kernel
theorem dX6_film_8 : decode cX6_film 8 = .ok (.ifCond .ne 6, 3) := by decide +kernel
theorem dX6_film_11 : decode cX6_film 11 = .ok (.bipush (-2), 2) := by decide +kernel
theorem dX6_film_13 : decode cX6_film 13 = .ok (.ireturn, 1) := by decide +kernel
theorem dX6_film_14 : decode cX6_film 14 = .ok (.aload_n 0, 1) := by decide +kernel
theorem dX6_film_15 : decode cX6_film 15 = .ok (.getfield 54, 3) := by decide +kernel
theorem dX6_film_18 : decode cX6_film 18 = .ok (.iload_n 2, 1) := by decide +kernel
theorem dX6_film_19 : decode cX6_film 19 = .ok (.invokevirtual 109, 3) := by decide +kernel
theorem dX6_film_22 : decode cX6_film 22 = .ok (.ifCond .ne 6, 3) := by decide +kernel
theorem dX6_film_25 : decode cX6_film 25 = .ok (.bipush (-5), 2) := by decide +kernel
theorem dX6_film_27 : decode cX6_film 27 = .ok (.ireturn, 1) := by decide +kernel
theorem dX6_film_28 : decode cX6_film 28 = .ok (.iload_n 3, 1) := by decide +kernel
theorem dX6_film_29 : decode cX6_film 29 = .ok (.iconst 0, 1) := by decide +kernel
theorem dX6_film_30 : decode cX6_film 30 = .ok (.bipush 20, 2) := by decide +kernel
theorem dX6_film_32 : decode cX6_film 32 = .ok (.invokestatic 101, 3) := by decide +kernel
theorem dX6_film_35 : decode cX6_film 35 = .ok (.ifCond .ne 6, 3) := by decide +kernel
theorem dX6_film_38 : decode cX6_film 38 = .ok (.bipush (-7), 2) := by decide +kernel
theorem dX6_film_40 : decode cX6_film 40 = .ok (.ireturn, 1) := by decide +kernel
theorem dX6_film_41 : decode cX6_film 41 = .ok (.aload_n 0, 1) := by decide +kernel
theorem dX6_film_42 : decode cX6_film 42 = .ok (.getfield 67, 3) := by decide +kernel
theorem dX6_film_45 : decode cX6_film 45 = .ok (.iload_n 1, 1) := by decide +kernel
theorem dX6_film_46 : decode cX6_film 46 = .ok (.iconst 1, 1) := by decide +kernel
theorem dX6_film_47 : decode cX6_film 47 = .ok (.iload_n 3, 1) := by decide +kernel
theorem dX6_film_48 : decode cX6_film 48 = .ok (.invokevirtual 251, 3) := by decide +kernel
theorem dX6_film_51 : decode cX6_film 51 = .ok (.aload_n 0, 1) := by decide +kernel
theorem dX6_film_52 : decode cX6_film 52 = .ok (.invokevirtual 181, 3) := by decide +kernel
theorem dX6_film_55 : decode cX6_film 55 = .ok (.astore 4, 2) := by decide +kernel
theorem dX6_film_57 : decode cX6_film 57 = .ok (.iconst 0, 1) := by decide +kernel
theorem dX6_film_58 : decode cX6_film 58 = .ok (.istore 5, 2) := by decide +kernel
theorem dX6_film_60 : decode cX6_film 60 = .ok (.iload 5, 2) := by decide +kernel
theorem dX6_film_62 : decode cX6_film 62 = .ok (.iload_n 3, 1) := by decide +kernel
theorem dX6_film_63 : decode cX6_film 63 = .ok (.if_icmp .ge 32, 3) := by decide +kernel
theorem dX6_film_66 : decode cX6_film 66 = .ok (.aload 4, 2) := by decide +kernel
theorem dX6_film_68 : decode cX6_film 68 = .ok (.invokevirtual 178, 3) := by decide +kernel
theorem dX6_film_71 : decode cX6_film 71 = .ok (.pop, 1) := by decide +kernel
theorem dX6_film_72 : decode cX6_film 72 = .ok (.aload_n 0, 1) := by decide +kernel
theorem dX6_film_73 : decode cX6_film 73 = .ok (.getfield 67, 3) := by decide +kernel
theorem dX6_film_76 : decode cX6_film 76 = .ok (.iload_n 1, 1) := by decide +kernel
theorem dX6_film_77 : decode cX6_film 77 = .ok (.iload 5, 2) := by decide +kernel
theorem dX6_film_79 : decode cX6_film 79 = .ok (.aload 4, 2) := by decide +kernel
theorem dX6_film_81 : decode cX6_film 81 = .ok (.getfield 188, 3) := by decide +kernel
theorem dX6_film_84 : decode cX6_film 84 = .ok (.iload_n 2, 1) := by decide +kernel
theorem dX6_film_85 : decode cX6_film 85 = .ok (.iaload, 1) := by decide +kernel
theorem dX6_film_86 : decode cX6_film 86 = .ok (.invokevirtual 254, 3) := by decide +kernel
theorem dX6_film_89 : decode cX6_film 89 = .ok (.iinc 5 1, 3) := by decide +kernel
theorem dX6_film_92 : decode cX6_film 92 = .ok (.goto (-32), 3) := by decide +kernel
theorem dX6_film_95 : decode cX6_film 95 = .ok (.iload_n 3, 1) := by decide +kernel
theorem dX6_film_96 : decode cX6_film 96 = .ok (.ireturn, 1) := by decide +kernel
theorem dX6_firstOtherwise_0 : decode cX6_firstOtherwise 0 = .ok (.aload_n 0, 1) := by decide +kernel
theorem dX6_firstOtherwise_1 : decode cX6_firstOtherwise 1 = .ok (.getfield 67, 3) := by decide +kernel
theorem dX6_firstOtherwise_4 : decode cX6_firstOtherwise 4 = .ok (.iload_n 1, 1) := by decide +kernel
theorem dX6_firstOtherwise_5 : decode cX6_firstOtherwise 5 = .ok (.invokevirtual 257, 3) := by decide +kernel
theorem dX6_firstOtherwise_8 : decode cX6_firstOtherwise 8 = .ok (.istore 4, 2) := by decide +kernel
theorem dX6_firstOtherwise_10 : decode cX6_firstOtherwise 10 = .ok (.iconst 0, 1) := by decide +kernel
theorem dX6_firstOtherwise_11 : decode cX6_firstOtherwise 11 = .ok (.istore 5, 2) := by decide +kernel
theorem dX6_firstOtherwise_13 : decode cX6_firstOtherwise 13 = .ok (.iload 5, 2) := by decide +kernel
theorem dX6_firstOtherwise_15 : decode cX6_firstOtherwise 15 = .ok (.iload 4, 2) := by decide +kernel
theorem dX6_firstOtherwise_17 : decode cX6_firstOtherwise 17 = .ok (.if_icmp .ge 36, 3) := by decide +kernel
theorem dX6_firstOtherwise_20 : decode cX6_firstOtherwise 20 = .ok (.aload_n 2, 1) := by decide +kernel
theorem dX6_firstOtherwise_21 : decode cX6_firstOtherwise 21 = .ok (.invokevirtual 178, 3) := by decide +kernel
theorem dX6_firstOtherwise_24 : decode cX6_firstOtherwise 24 = .ok (.pop, 1) := by decide +kernel
theorem dX6_firstOtherwise_25 : decode cX6_firstOtherwise 25 = .ok (.aload_n 2, 1) := by decide +kernel
theorem dX6_firstOtherwise_26 : decode cX6_firstOtherwise 26 = .ok (.getfield 188, 3) := by decide +kernel
theorem dX6_firstOtherwise_29 : decode cX6_firstOtherwise 29 = .ok (.iload_n 3, 1) := by decide +kernel
theorem dX6_firstOtherwise_30 : decode cX6_firstOtherwise 30 = .ok (.iaload, 1) := by decide +kernel
theorem dX6_firstOtherwise_31 : decode cX6_firstOtherwise 31 = .ok (.aload_n 0, 1) := by decide +kernel
theorem dX6_firstOtherwise_32 : decode cX6_firstOtherwise 32 = .ok (.getfield 67, 3) := by decide +kernel
theorem dX6_firstOtherwise_35 : decode cX6_firstOtherwise 35 = .ok (.iload_n 1, 1) := by decide +kernel
theorem dX6_firstOtherwise_36 : decode cX6_firstOtherwise 36 = .ok (.iload 5, 2) := by decide +kernel
theorem dX6_firstOtherwise_38 : decode cX6_firstOtherwise 38 = .ok (.invokevirtual 260, 3) := by decide +kernel
theorem dX6_firstOtherwise_41 : decode cX6_firstOtherwise 41 = .ok (.if_icmp .eq 6, 3) := by decide +kernel
theorem dX6_firstOtherwise_44 : decode cX6_firstOtherwise 44 = .ok (.iload 5, 2) := by decide +kernel
theorem dX6_firstOtherwise_46 : decode cX6_firstOtherwise 46 = .ok (.ireturn, 1) := by decide +kernel
theorem dX6_firstOtherwise_47 : decode cX6_firstOtherwise 47 = .ok (.iinc 5 1, 3) := by decide +kernel
theorem dX6_firstOtherwise_50 : decode cX6_firstOtherwise 50 = .ok (.goto (-37), 3) := by decide +kernel
theorem dX6_firstOtherwise_53 : decode cX6_firstOtherwise 53 = .ok (.iconst (-1), 1) := by decide +kernel
theorem dX6_firstOtherwise_54 : decode cX6_firstOtherwise 54 = .ok (.ireturn, 1) := by decide +kernel
theorem dX6_isTold_0 : decode cX6_isTold 0 = .ok (.aload_n 0, 1) := by decide +kernel
theorem dX6_isTold_1 : decode cX6_isTold 1 = .ok (.iload_n 1, 1) := by decide +kernel
theorem dX6_isTold_2 : decode cX6_isTold 2 = .ok (.aload_n 2, 1) := by decide +kernel
theorem dX6_isTold_3 : decode cX6_isTold 3 = .ok (.iload_n 3, 1) := by decide +kernel
theorem dX6_isTold_4 : decode cX6_isTold 4 = .ok (.invokevirtual 235, 3) := by decide +kernel
theorem dX6_isTold_7 : decode cX6_isTold 7 = .ok (.iconst (-1), 1) := by decide +kernel
theorem dX6_isTold_8 : decode cX6_isTold 8 = .ok (.if_icmp .ne 7, 3) := by decide +kernel
theorem dX6_isTold_11 : decode cX6_isTold 11 = .ok (.iconst 1, 1) := by decide +kernel
theorem dX6_isTold_12 : decode cX6_isTold 12 = .ok (.goto 4, 3) := by decide +kernel
theorem dX6_isTold_15 : decode cX6_isTold 15 = .ok (.iconst 0, 1) := by decide +kernel
theorem dX6_isTold_16 : decode cX6_isTold 16 = .ok (.ireturn, 1) := by decide +kernel
theorem dX6_toldRefusal_0 : decode cX6_toldRefusal 0 = .ok (.aload_n 0, 1) := by decide +kernel
theorem dX6_toldRefusal_1 : decode cX6_toldRefusal 1 = .ok (.getfield 67, 3) := by decide +kernel
theorem dX6_toldRefusal_4 : decode cX6_toldRefusal 4 = .ok (.iload_n 1, 1) := by decide +kernel
theorem dX6_toldRefusal_5 : decode cX6_toldRefusal 5 = .ok (.invokevirtual 248, 3) := by decide +kernel
theorem dX6_toldRefusal_8 : decode cX6_toldRefusal 8 = .ok (.ifCond .ne 6, 3) := by decide +kernel
theorem dX6_toldRefusal_11 : decode cX6_toldRefusal 11 = .ok (.bipush (-2), 2) := by decide +kernel
theorem dX6_toldRefusal_13 : decode cX6_toldRefusal 13 = .ok (.ireturn, 1) := by decide +kernel
theorem dX6_toldRefusal_14 : decode cX6_toldRefusal 14 = .ok (.aload_n 0, 1) := by decide +kernel
theorem dX6_toldRefusal_15 : decode cX6_toldRefusal 15 = .ok (.getfield 67, 3) := by decide +kernel
theorem dX6_toldRefusal_18 : decode cX6_toldRefusal 18 = .ok (.iload_n 1, 1) := by decide +kernel
theorem dX6_toldRefusal_19 : decode cX6_toldRefusal 19 = .ok (.invokevirtual 263, 3) := by decide +kernel
theorem dX6_toldRefusal_22 : decode cX6_toldRefusal 22 = .ok (.ifCond .eq 6, 3) := by decide +kernel
theorem dX6_toldRefusal_25 : decode cX6_toldRefusal 25 = .ok (.bipush (-11), 2) := by decide +kernel
theorem dX6_toldRefusal_27 : decode cX6_toldRefusal 27 = .ok (.ireturn, 1) := by decide +kernel
theorem dX6_toldRefusal_28 : decode cX6_toldRefusal 28 = .ok (.aload_n 0, 1) := by decide +kernel
theorem dX6_toldRefusal_29 : decode cX6_toldRefusal 29 = .ok (.getfield 67, 3) := by decide +kernel
theorem dX6_toldRefusal_32 : decode cX6_toldRefusal 32 = .ok (.iload_n 1, 1) := by decide +kernel
theorem dX6_toldRefusal_33 : decode cX6_toldRefusal 33 = .ok (.invokevirtual 257, 3) := by decide +kernel
theorem dX6_toldRefusal_36 : decode cX6_toldRefusal 36 = .ok (.bipush 20, 2) := by decide +kernel
theorem dX6_toldRefusal_38 : decode cX6_toldRefusal 38 = .ok (.if_icmp .le 8, 3) := by decide +kernel
theorem dX6_toldRefusal_41 : decode cX6_toldRefusal 41 = .ok (.bipush (-2), 2) := by decide +kernel
theorem dX6_toldRefusal_43 : decode cX6_toldRefusal 43 = .ok (.goto 4, 3) := by decide +kernel
theorem dX6_toldRefusal_46 : decode cX6_toldRefusal 46 = .ok (.iconst 0, 1) := by decide +kernel
theorem dX6_toldRefusal_47 : decode cX6_toldRefusal 47 = .ok (.ireturn, 1) := by decide +kernel
theorem dX6_judgeRefusal_0 : decode cX6_judgeRefusal 0 = .ok (.aload_n 0, 1) := by decide +kernel
theorem dX6_judgeRefusal_1 : decode cX6_judgeRefusal 1 = .ok (.iload_n 1, 1) := by decide +kernel
theorem dX6_judgeRefusal_2 : decode cX6_judgeRefusal 2 = .ok (.invokevirtual 245, 3) := by decide +kernel
theorem dX6_judgeRefusal_5 : decode cX6_judgeRefusal 5 = .ok (.istore_n 3, 1) := by decide +kernel
theorem dX6_judgeRefusal_6 : decode cX6_judgeRefusal 6 = .ok (.iload_n 3, 1) := by decide +kernel
theorem dX6_judgeRefusal_7 : decode cX6_judgeRefusal 7 = .ok (.ifCond .ne 19, 3) := by decide +kernel
theorem dX6_judgeRefusal_10 : decode cX6_judgeRefusal 10 = .ok (.aload_n 0, 1) := by decide +kernel
theorem dX6_judgeRefusal_11 : decode cX6_judgeRefusal 11 = .ok (.getfield 54, 3) := by decide +kernel
theorem dX6_judgeRefusal_14 : decode cX6_judgeRefusal 14 = .ok (.iload_n 2, 1) := by decide +kernel
theorem dX6_judgeRefusal_15 : decode cX6_judgeRefusal 15 = .ok (.invokevirtual 109, 3) := by decide +kernel
theorem dX6_judgeRefusal_18 : decode cX6_judgeRefusal 18 = .ok (.ifCond .ne 8, 3) := by decide +kernel
theorem dX6_judgeRefusal_21 : decode cX6_judgeRefusal 21 = .ok (.bipush (-5), 2) := by decide +kernel
theorem dX6_judgeRefusal_23 : decode cX6_judgeRefusal 23 = .ok (.goto 4, 3) := by decide +kernel
theorem dX6_judgeRefusal_26 : decode cX6_judgeRefusal 26 = .ok (.iload_n 3, 1) := by decide +kernel
theorem dX6_judgeRefusal_27 : decode cX6_judgeRefusal 27 = .ok (.ireturn, 1) := by decide +kernel
theorem dX6_drawn_0 : decode cX6_drawn 0 = .ok (.iload_n 1, 1) := by decide +kernel
theorem dX6_drawn_1 : decode cX6_drawn 1 = .ok (.iload_n 2, 1) := by decide +kernel
theorem dX6_drawn_2 : decode cX6_drawn 2 = .ok (.invokestatic 266, 3) := by decide +kernel
theorem dX6_drawn_5 : decode cX6_drawn 5 = .ok (.ifCond .eq 12, 3) := by decide +kernel
theorem dX6_drawn_8 : decode cX6_drawn 8 = .ok (.iload_n 3, 1) := by decide +kernel
theorem dX6_drawn_9 : decode cX6_drawn 9 = .ok (.iconst 0, 1) := by decide +kernel
theorem dX6_drawn_10 : decode cX6_drawn 10 = .ok (.iconst 1, 1) := by decide +kernel
theorem dX6_drawn_11 : decode cX6_drawn 11 = .ok (.invokestatic 101, 3) := by decide +kernel
theorem dX6_drawn_14 : decode cX6_drawn 14 = .ok (.ifCond .ne 6, 3) := by decide +kernel
theorem dX6_drawn_17 : decode cX6_drawn 17 = .ok (.bipush (-2), 2) := by decide +kernel
theorem dX6_drawn_19 : decode cX6_drawn 19 = .ok (.ireturn, 1) := by decide +kernel
theorem dX6_drawn_20 : decode cX6_drawn 20 = .ok (.aload_n 0, 1) := by decide +kernel
theorem dX6_drawn_21 : decode cX6_drawn 21 = .ok (.invokevirtual 181, 3) := by decide +kernel
theorem dX6_drawn_24 : decode cX6_drawn 24 = .ok (.astore 4, 2) := by decide +kernel
theorem dX6_drawn_26 : decode cX6_drawn 26 = .ok (.aload 4, 2) := by decide +kernel
theorem dX6_drawn_28 : decode cX6_drawn 28 = .ok (.iload_n 1, 1) := by decide +kernel
theorem dX6_drawn_29 : decode cX6_drawn 29 = .ok (.iload_n 2, 1) := by decide +kernel
theorem dX6_drawn_30 : decode cX6_drawn 30 = .ok (.invokevirtual 269, 3) := by decide +kernel
theorem dX6_drawn_33 : decode cX6_drawn 33 = .ok (.istore 5, 2) := by decide +kernel
theorem dX6_drawn_35 : decode cX6_drawn 35 = .ok (.iload_n 3, 1) := by decide +kernel
theorem dX6_drawn_36 : decode cX6_drawn 36 = .ok (.ifCond .ne 8, 3) := by decide +kernel
theorem dX6_drawn_39 : decode cX6_drawn 39 = .ok (.iload 5, 2) := by decide +kernel
theorem dX6_drawn_41 : decode cX6_drawn 41 = .ok (.goto 8, 3) := by decide +kernel
theorem dX6_drawn_44 : decode cX6_drawn 44 = .ok (.aload 4, 2) := by decide +kernel
theorem dX6_drawn_46 : decode cX6_drawn 46 = .ok (.invokevirtual 89, 3) := by decide +kernel
theorem dX6_drawn_49 : decode cX6_drawn 49 = .ok (.ireturn, 1) := by decide +kernel
theorem dX6_odds_0 : decode cX6_odds 0 = .ok (.iload_n 1, 1) := by decide +kernel
theorem dX6_odds_1 : decode cX6_odds 1 = .ok (.iload_n 3, 1) := by decide +kernel
theorem dX6_odds_2 : decode cX6_odds 2 = .ok (.invokestatic 266, 3) := by decide +kernel
theorem dX6_odds_5 : decode cX6_odds 5 = .ok (.ifCond .eq 34, 3) := by decide +kernel
theorem dX6_odds_8 : decode cX6_odds 8 = .ok (.iload_n 2, 1) := by decide +kernel
theorem dX6_odds_9 : decode cX6_odds 9 = .ok (.iconst 1, 1) := by decide +kernel
theorem dX6_odds_10 : decode cX6_odds 10 = .ok (.bipush 40, 2) := by decide +kernel
theorem dX6_odds_12 : decode cX6_odds 12 = .ok (.invokestatic 101, 3) := by decide +kernel
theorem dX6_odds_15 : decode cX6_odds 15 = .ok (.ifCond .eq 24, 3) := by decide +kernel
theorem dX6_odds_18 : decode cX6_odds 18 = .ok (.iload 4, 2) := by decide +kernel
theorem dX6_odds_20 : decode cX6_odds 20 = .ok (.iconst 0, 1) := by decide +kernel
theorem dX6_odds_21 : decode cX6_odds 21 = .ok (.bipush 6, 2) := by decide +kernel
theorem dX6_odds_23 : decode cX6_odds 23 = .ok (.invokestatic 101, 3) := by decide +kernel
theorem dX6_odds_26 : decode cX6_odds 26 = .ok (.ifCond .eq 13, 3) := by decide +kernel
theorem dX6_odds_29 : decode cX6_odds 29 = .ok (.iload 5, 2) := by decide +kernel
theorem dX6_odds_31 : decode cX6_odds 31 = .ok (.iconst 0, 1) := by decide +kernel
theorem dX6_odds_32 : decode cX6_odds 32 = .ok (.iconst 1, 1) := by decide +kernel
theorem dX6_odds_33 : decode cX6_odds 33 = .ok (.invokestatic 101, 3) := by decide +kernel
theorem dX6_odds_36 : decode cX6_odds 36 = .ok (.ifCond .ne 7, 3) := by decide +kernel
theorem dX6_odds_39 : decode cX6_odds 39 = .ok (.ldc2_w 272, 3) := by decide +kernel
theorem dX6_odds_42 : decode cX6_odds 42 = .ok (.lreturn, 1) := by decide +kernel
theorem dX6_odds_43 : decode cX6_odds 43 = .ok (.iconst 0, 1) := by decide +kernel
theorem dX6_odds_44 : decode cX6_odds 44 = .ok (.istore 6, 2) := by decide +kernel
theorem dX6_odds_46 : decode cX6_odds 46 = .ok (.iconst 0, 1) := by decide +kernel
theorem dX6_odds_47 : decode cX6_odds 47 = .ok (.istore 7, 2) := by decide +kernel
theorem dX6_odds_49 : decode cX6_odds 49 = .ok (.iload 7, 2) := by decide +kernel
theorem dX6_odds_51 : decode cX6_odds 51 = .ok (.iload_n 2, 1) := by decide +kernel
theorem dX6_odds_52 : decode cX6_odds 52 = .ok (.if_icmp .ge 32, 3) := by decide +kernel
theorem dX6_odds_55 : decode cX6_odds 55 = .ok (.aload_n 0, 1) := by decide +kernel
theorem dX6_odds_56 : decode cX6_odds 56 = .ok (.invokevirtual 181, 3) := by decide +kernel
theorem dX6_odds_59 : decode cX6_odds 59 = .ok (.iload_n 1, 1) := by decide +kernel
theorem dX6_odds_60 : decode cX6_odds 60 = .ok (.iload 7, 2) := by decide +kernel
theorem dX6_odds_62 : decode cX6_odds 62 = .ok (.iadd, 1) := by decide +kernel
theorem dX6_odds_63 : decode cX6_odds 63 = .ok (.iload_n 3, 1) := by decide +kernel
theorem dX6_odds_64 : decode cX6_odds 64 = .ok (.invokevirtual 269, 3) := by decide +kernel
theorem dX6_odds_67 : decode cX6_odds 67 = .ok (.invokestatic 224, 3) := by decide +kernel
theorem dX6_odds_70 : decode cX6_odds 70 = .ok (.iload 4, 2) := by decide +kernel
theorem dX6_odds_72 : decode cX6_odds 72 = .ok (.if_icmp .lt 6, 3) := by decide +kernel
theorem dX6_odds_75 : decode cX6_odds 75 = .ok (.iinc 6 1, 3) := by decide +kernel
theorem dX6_odds_78 : decode cX6_odds 78 = .ok (.iinc 7 1, 3) := by decide +kernel
theorem dX6_odds_81 : decode cX6_odds 81 = .ok (.goto (-32), 3) := by decide +kernel
theorem dX6_odds_84 : decode cX6_odds 84 = .ok (.iload 6, 2) := by decide +kernel
theorem dX6_odds_86 : decode cX6_odds 86 = .ok (.iload_n 2, 1) := by decide +kernel
theorem dX6_odds_87 : decode cX6_odds 87 = .ok (.invokestatic 274, 3) := by decide +kernel
theorem dX6_odds_90 : decode cX6_odds 90 = .ok (.istore 7, 2) := by decide +kernel
theorem dX6_odds_92 : decode cX6_odds 92 = .ok (.iload 5, 2) := by decide +kernel
theorem dX6_odds_94 : decode cX6_odds 94 = .ok (.ifCond .ne 12, 3) := by decide +kernel
theorem dX6_odds_97 : decode cX6_odds 97 = .ok (.iload 6, 2) := by decide +kernel
theorem dX6_odds_99 : decode cX6_odds 99 = .ok (.iload 7, 2) := by decide +kernel
theorem dX6_odds_101 : decode cX6_odds 101 = .ok (.idiv, 1) := by decide +kernel
theorem dX6_odds_102 : decode cX6_odds 102 = .ok (.i2l, 1) := by decide +kernel
theorem dX6_odds_103 : decode cX6_odds 103 = .ok (.goto 8, 3) := by decide +kernel
theorem dX6_odds_106 : decode cX6_odds 106 = .ok (.iload_n 2, 1) := by decide +kernel
theorem dX6_odds_107 : decode cX6_odds 107 = .ok (.iload 7, 2) := by decide +kernel
theorem dX6_odds_109 : decode cX6_odds 109 = .ok (.idiv, 1) := by decide +kernel
theorem dX6_odds_110 : decode cX6_odds 110 = .ok (.i2l, 1) := by decide +kernel
theorem dX6_odds_111 : decode cX6_odds 111 = .ok (.lreturn, 1) := by decide +kernel
theorem dX6_greatestShared_0 : decode cX6_greatestShared 0 = .ok (.iload_n 1, 1) := by decide +kernel
theorem dX6_greatestShared_1 : decode cX6_greatestShared 1 = .ok (.istore_n 2, 1) := by decide +kernel
theorem dX6_greatestShared_2 : decode cX6_greatestShared 2 = .ok (.iload_n 2, 1) := by decide +kernel
theorem dX6_greatestShared_3 : decode cX6_greatestShared 3 = .ok (.iconst 1, 1) := by decide +kernel
theorem dX6_greatestShared_4 : decode cX6_greatestShared 4 = .ok (.if_icmp .le 23, 3) := by decide +kernel
theorem dX6_greatestShared_7 : decode cX6_greatestShared 7 = .ok (.iload_n 0, 1) := by decide +kernel
theorem dX6_greatestShared_8 : decode cX6_greatestShared 8 = .ok (.iload_n 2, 1) := by decide +kernel
theorem dX6_greatestShared_9 : decode cX6_greatestShared 9 = .ok (.irem, 1) := by decide +kernel
theorem dX6_greatestShared_10 : decode cX6_greatestShared 10 = .ok (.ifCond .ne 11, 3) := by decide +kernel
theorem dX6_greatestShared_13 : decode cX6_greatestShared 13 = .ok (.iload_n 1, 1) := by decide +kernel
theorem dX6_greatestShared_14 : decode cX6_greatestShared 14 = .ok (.iload_n 2, 1) := by decide +kernel
theorem dX6_greatestShared_15 : decode cX6_greatestShared 15 = .ok (.irem, 1) := by decide +kernel
theorem dX6_greatestShared_16 : decode cX6_greatestShared 16 = .ok (.ifCond .ne 5, 3) := by decide +kernel
theorem dX6_greatestShared_19 : decode cX6_greatestShared 19 = .ok (.iload_n 2, 1) := by decide +kernel
theorem dX6_greatestShared_20 : decode cX6_greatestShared 20 = .ok (.ireturn, 1) := by decide +kernel
theorem dX6_greatestShared_21 : decode cX6_greatestShared 21 = .ok (.iinc 2 (-1), 3) := by decide +kernel
theorem dX6_greatestShared_24 : decode cX6_greatestShared 24 = .ok (.goto (-22), 3) := by decide +kernel
theorem dX6_greatestShared_27 : decode cX6_greatestShared 27 = .ok (.iconst 1, 1) := by decide +kernel
theorem dX6_greatestShared_28 : decode cX6_greatestShared 28 = .ok (.ireturn, 1) := by decide +kernel
theorem dX6_image_0 : decode cX6_image 0 = .ok (.aload_n 0, 1) := by decide +kernel
theorem dX6_image_1 : decode cX6_image 1 = .ok (.getfield 61, 3) := by decide +kernel
theorem dX6_image_4 : decode cX6_image 4 = .ok (.aload_n 0, 1) := by decide +kernel
theorem dX6_image_5 : decode cX6_image 5 = .ok (.getfield 54, 3) := by decide +kernel
theorem dX6_image_8 : decode cX6_image 8 = .ok (.invokevirtual 277, 3) := by decide +kernel
theorem dX6_image_11 : decode cX6_image 11 = .ok (.aload_n 0, 1) := by decide +kernel
theorem dX6_image_12 : decode cX6_image 12 = .ok (.iconst 1, 1) := by decide +kernel
theorem dX6_image_13 : decode cX6_image 13 = .ok (.putfield 75, 3) := by decide +kernel
theorem dX6_image_16 : decode cX6_image 16 = .ok (.aload_n 0, 1) := by decide +kernel
theorem dX6_image_17 : decode cX6_image 17 = .ok (.getfield 54, 3) := by decide +kernel
theorem dX6_image_20 : decode cX6_image 20 = .ok (.getfield 79, 3) := by decide +kernel
theorem dX6_image_23 : decode cX6_image 23 = .ok (.ireturn, 1) := by decide +kernel
theorem dX6_back_0 : decode cX6_back 0 = .ok (.aload_n 0, 1) := by decide +kernel
theorem dX6_back_1 : decode cX6_back 1 = .ok (.getfield 75, 3) := by decide +kernel
theorem dX6_back_4 : decode cX6_back 4 = .ok (.ifCond .ne 6, 3) := by decide +kernel
theorem dX6_back_7 : decode cX6_back 7 = .ok (.bipush (-3), 2) := by decide +kernel
theorem dX6_back_9 : decode cX6_back 9 = .ok (.ireturn, 1) := by decide +kernel
theorem dX6_back_10 : decode cX6_back 10 = .ok (.aload_n 0, 1) := by decide +kernel
theorem dX6_back_11 : decode cX6_back 11 = .ok (.getfield 54, 3) := by decide +kernel
theorem dX6_back_14 : decode cX6_back 14 = .ok (.aload_n 0, 1) := by decide +kernel
theorem dX6_back_15 : decode cX6_back 15 = .ok (.getfield 61, 3) := by decide +kernel
theorem dX6_back_18 : decode cX6_back 18 = .ok (.invokevirtual 277, 3) := by decide +kernel
theorem dX6_back_21 : decode cX6_back 21 = .ok (.aload_n 0, 1) := by decide +kernel
theorem dX6_back_22 : decode cX6_back 22 = .ok (.getfield 54, 3) := by decide +kernel
theorem dX6_back_25 : decode cX6_back 25 = .ok (.getfield 79, 3) := by decide +kernel
theorem dX6_back_28 : decode cX6_back 28 = .ok (.ireturn, 1) := by decide +kernel
theorem dX6_sheet_0 : decode cX6_sheet 0 = .ok (.aload_n 0, 1) := by decide +kernel
theorem dX6_sheet_1 : decode cX6_sheet 1 = .ok (.getfield 67, 3) := by decide +kernel
theorem dX6_sheet_4 : decode cX6_sheet 4 = .ok (.iload_n 1, 1) := by decide +kernel
theorem dX6_sheet_5 : decode cX6_sheet 5 = .ok (.invokevirtual 248, 3) := by decide +kernel
theorem dX6_sheet_8 : decode cX6_sheet 8 = .ok (.ifCond .eq 12, 3) := by decide +kernel
theorem dX6_sheet_11 : decode cX6_sheet 11 = .ok (.iload_n 2, 1) := by decide +kernel
theorem dX6_sheet_12 : decode cX6_sheet 12 = .ok (.iconst (-1), 1) := by decide +kernel
theorem dX6_sheet_13 : decode cX6_sheet 13 = .ok (.iconst 2, 1) := by decide +kernel
theorem dX6_sheet_14 : decode cX6_sheet 14 = .ok (.invokestatic 101, 3) := by decide +kernel
theorem dX6_sheet_17 : decode cX6_sheet 17 = .ok (.ifCond .ne 6, 3) := by decide +kernel
theorem dX6_sheet_20 : decode cX6_sheet 20 = .ok (.bipush (-2), 2) := by decide +kernel
theorem dX6_sheet_22 : decode cX6_sheet 22 = .ok (.ireturn, 1) := by decide +kernel
theorem dX6_sheet_23 : decode cX6_sheet 23 = .ok (.iload_n 2, 1) := by decide +kernel
theorem dX6_sheet_24 : decode cX6_sheet 24 = .ok (.iconst (-1), 1) := by decide +kernel
theorem dX6_sheet_25 : decode cX6_sheet 25 = .ok (.if_icmp .ne 7, 3) := by decide +kernel
theorem dX6_sheet_28 : decode cX6_sheet 28 = .ok (.iconst 0, 1) := by decide +kernel
theorem dX6_sheet_29 : decode cX6_sheet 29 = .ok (.goto 4, 3) := by decide +kernel
theorem dX6_sheet_32 : decode cX6_sheet 32 = .ok (.iload_n 3, 1) := by decide +kernel
theorem dX6_sheet_33 : decode cX6_sheet 33 = .ok (.istore 4, 2) := by decide +kernel
theorem dX6_sheet_35 : decode cX6_sheet 35 = .ok (.iload 4, 2) := by decide +kernel
theorem dX6_sheet_37 : decode cX6_sheet 37 = .ok (.bipush 40, 2) := by decide +kernel
theorem dX6_sheet_39 : decode cX6_sheet 39 = .ok (.if_icmp .le 6, 3) := by decide +kernel
theorem dX6_sheet_42 : decode cX6_sheet 42 = .ok (.bipush (-2), 2) := by decide +kernel
theorem dX6_sheet_44 : decode cX6_sheet 44 = .ok (.ireturn, 1) := by decide +kernel
theorem dX6_sheet_45 : decode cX6_sheet 45 = .ok (.iload 4, 2) := by decide +kernel
theorem dX6_sheet_47 : decode cX6_sheet 47 = .ok (.ifCond .ge 6, 3) := by decide +kernel
theorem dX6_sheet_50 : decode cX6_sheet 50 = .ok (.bipush (-14), 2) := by decide +kernel
theorem dX6_sheet_52 : decode cX6_sheet 52 = .ok (.ireturn, 1) := by decide +kernel
theorem dX6_sheet_53 : decode cX6_sheet 53 = .ok (.aload_n 0, 1) := by decide +kernel
theorem dX6_sheet_54 : decode cX6_sheet 54 = .ok (.getfield 67, 3) := by decide +kernel
theorem dX6_sheet_57 : decode cX6_sheet 57 = .ok (.iload_n 1, 1) := by decide +kernel
theorem dX6_sheet_58 : decode cX6_sheet 58 = .ok (.iload_n 2, 1) := by decide +kernel
theorem dX6_sheet_59 : decode cX6_sheet 59 = .ok (.iload 4, 2) := by decide +kernel
theorem dX6_sheet_61 : decode cX6_sheet 61 = .ok (.invokevirtual 251, 3) := by decide +kernel
theorem dX6_sheet_64 : decode cX6_sheet 64 = .ok (.iconst 1, 1) := by decide +kernel
theorem dX6_sheet_65 : decode cX6_sheet 65 = .ok (.ireturn, 1) := by decide +kernel
theorem dX6_cell_0 : decode cX6_cell 0 = .ok (.aload_n 0, 1) := by decide +kernel
theorem dX6_cell_1 : decode cX6_cell 1 = .ok (.getfield 67, 3) := by decide +kernel
theorem dX6_cell_4 : decode cX6_cell 4 = .ok (.iload_n 1, 1) := by decide +kernel
theorem dX6_cell_5 : decode cX6_cell 5 = .ok (.invokevirtual 248, 3) := by decide +kernel
theorem dX6_cell_8 : decode cX6_cell 8 = .ok (.ifCond .ne 6, 3) := by decide +kernel
theorem dX6_cell_11 : decode cX6_cell 11 = .ok (.bipush (-2), 2) := by decide +kernel
theorem dX6_cell_13 : decode cX6_cell 13 = .ok (.ireturn, 1) := by decide +kernel
theorem dX6_cell_14 : decode cX6_cell 14 = .ok (.aload_n 0, 1) := by decide +kernel
theorem dX6_cell_15 : decode cX6_cell 15 = .ok (.getfield 67, 3) := by decide +kernel
theorem dX6_cell_18 : decode cX6_cell 18 = .ok (.iload_n 1, 1) := by decide +kernel
theorem dX6_cell_19 : decode cX6_cell 19 = .ok (.invokevirtual 263, 3) := by decide +kernel
theorem dX6_cell_22 : decode cX6_cell 22 = .ok (.ifCond .eq 6, 3) := by decide +kernel
theorem dX6_cell_25 : decode cX6_cell 25 = .ok (.bipush (-11), 2) := by decide +kernel
theorem dX6_cell_27 : decode cX6_cell 27 = .ok (.ireturn, 1) := by decide +kernel
theorem dX6_cell_28 : decode cX6_cell 28 = .ok (.aload_n 0, 1) := by decide +kernel
theorem dX6_cell_29 : decode cX6_cell 29 = .ok (.getfield 67, 3) := by decide +kernel
theorem dX6_cell_32 : decode cX6_cell 32 = .ok (.iload_n 1, 1) := by decide +kernel
theorem dX6_cell_33 : decode cX6_cell 33 = .ok (.iload_n 2, 1) := by decide +kernel
theorem dX6_cell_34 : decode cX6_cell 34 = .ok (.invokevirtual 281, 3) := by decide +kernel
theorem dX6_cell_37 : decode cX6_cell 37 = .ok (.ifCond .ne 6, 3) := by decide +kernel
theorem dX6_cell_40 : decode cX6_cell 40 = .ok (.bipush (-12), 2) := by decide +kernel
theorem dX6_cell_42 : decode cX6_cell 42 = .ok (.ireturn, 1) := by decide +kernel
theorem dX6_cell_43 : decode cX6_cell 43 = .ok (.aload_n 0, 1) := by decide +kernel
theorem dX6_cell_44 : decode cX6_cell 44 = .ok (.getfield 67, 3) := by decide +kernel
theorem dX6_cell_47 : decode cX6_cell 47 = .ok (.iload_n 1, 1) := by decide +kernel
theorem dX6_cell_48 : decode cX6_cell 48 = .ok (.iload_n 2, 1) := by decide +kernel
theorem dX6_cell_49 : decode cX6_cell 49 = .ok (.iload_n 3, 1) := by decide +kernel
theorem dX6_cell_50 : decode cX6_cell 50 = .ok (.invokevirtual 254, 3) := by decide +kernel
theorem dX6_cell_53 : decode cX6_cell 53 = .ok (.iconst 1, 1) := by decide +kernel
theorem dX6_cell_54 : decode cX6_cell 54 = .ok (.ireturn, 1) := by decide +kernel
theorem dX6_copy_0 : decode cX6_copy 0 = .ok (.aload_n 0, 1) := by decide +kernel
theorem dX6_copy_1 : decode cX6_copy 1 = .ok (.getfield 67, 3) := by decide +kernel
theorem dX6_copy_4 : decode cX6_copy 4 = .ok (.iload_n 1, 1) := by decide +kernel
theorem dX6_copy_5 : decode cX6_copy 5 = .ok (.invokevirtual 248, 3) := by decide +kernel
theorem dX6_copy_8 : decode cX6_copy 8 = .ok (.ifCond .eq 14, 3) := by decide +kernel
theorem dX6_copy_11 : decode cX6_copy 11 = .ok (.aload_n 0, 1) := by decide +kernel
theorem dX6_copy_12 : decode cX6_copy 12 = .ok (.getfield 67, 3) := by decide +kernel
theorem dX6_copy_15 : decode cX6_copy 15 = .ok (.iload_n 3, 1) := by decide +kernel
theorem dX6_copy_16 : decode cX6_copy 16 = .ok (.invokevirtual 248, 3) := by decide +kernel
theorem dX6_copy_19 : decode cX6_copy 19 = .ok (.ifCond .ne 6, 3) := by decide +kernel
theorem dX6_copy_22 : decode cX6_copy 22 = .ok (.bipush (-2), 2) := by decide +kernel
theorem dX6_copy_24 : decode cX6_copy 24 = .ok (.ireturn, 1) := by decide +kernel
theorem dX6_copy_25 : decode cX6_copy 25 = .ok (.aload_n 0, 1) := by decide +kernel
theorem dX6_copy_26 : decode cX6_copy 26 = .ok (.getfield 67, 3) := by decide +kernel
theorem dX6_copy_29 : decode cX6_copy 29 = .ok (.iload_n 1, 1) := by decide +kernel
theorem dX6_copy_30 : decode cX6_copy 30 = .ok (.invokevirtual 263, 3) := by decide +kernel
theorem dX6_copy_33 : decode cX6_copy 33 = .ok (.ifCond .ne 14, 3) := by decide +kernel
theorem dX6_copy_36 : decode cX6_copy 36 = .ok (.aload_n 0, 1) := by decide +kernel
theorem dX6_copy_37 : decode cX6_copy 37 = .ok (.getfield 67, 3) := by decide +kernel
theorem dX6_copy_40 : decode cX6_copy 40 = .ok (.iload_n 3, 1) := by decide +kernel
theorem dX6_copy_41 : decode cX6_copy 41 = .ok (.invokevirtual 263, 3) := by decide +kernel
theorem dX6_copy_44 : decode cX6_copy 44 = .ok (.ifCond .eq 6, 3) := by decide +kernel
theorem dX6_copy_47 : decode cX6_copy 47 = .ok (.bipush (-11), 2) := by decide +kernel
theorem dX6_copy_49 : decode cX6_copy 49 = .ok (.ireturn, 1) := by decide +kernel
theorem dX6_copy_50 : decode cX6_copy 50 = .ok (.aload_n 0, 1) := by decide +kernel
theorem dX6_copy_51 : decode cX6_copy 51 = .ok (.getfield 67, 3) := by decide +kernel
theorem dX6_copy_54 : decode cX6_copy 54 = .ok (.iload_n 1, 1) := by decide +kernel
theorem dX6_copy_55 : decode cX6_copy 55 = .ok (.invokevirtual 284, 3) := by decide +kernel
theorem dX6_copy_58 : decode cX6_copy 58 = .ok (.aload_n 0, 1) := by decide +kernel
theorem dX6_copy_59 : decode cX6_copy 59 = .ok (.getfield 67, 3) := by decide +kernel
theorem dX6_copy_62 : decode cX6_copy 62 = .ok (.iload_n 3, 1) := by decide +kernel
theorem dX6_copy_63 : decode cX6_copy 63 = .ok (.invokevirtual 284, 3) := by decide +kernel
theorem dX6_copy_66 : decode cX6_copy 66 = .ok (.if_icmp .eq 6, 3) := by decide +kernel
theorem dX6_copy_69 : decode cX6_copy 69 = .ok (.bipush (-13), 2) := by decide +kernel
theorem dX6_copy_71 : decode cX6_copy 71 = .ok (.ireturn, 1) := by decide +kernel
theorem dX6_copy_72 : decode cX6_copy 72 = .ok (.aload_n 0, 1) := by decide +kernel
theorem dX6_copy_73 : decode cX6_copy 73 = .ok (.getfield 67, 3) := by decide +kernel
theorem dX6_copy_76 : decode cX6_copy 76 = .ok (.iload_n 1, 1) := by decide +kernel
theorem dX6_copy_77 : decode cX6_copy 77 = .ok (.iload_n 2, 1) := by decide +kernel
theorem dX6_copy_78 : decode cX6_copy 78 = .ok (.iload 5, 2) := by decide +kernel
theorem dX6_copy_80 : decode cX6_copy 80 = .ok (.invokevirtual 287, 3) := by decide +kernel
theorem dX6_copy_83 : decode cX6_copy 83 = .ok (.ifCond .eq 18, 3) := by decide +kernel
theorem dX6_copy_86 : decode cX6_copy 86 = .ok (.aload_n 0, 1) := by decide +kernel
theorem dX6_copy_87 : decode cX6_copy 87 = .ok (.getfield 67, 3) := by decide +kernel
theorem dX6_copy_90 : decode cX6_copy 90 = .ok (.iload_n 3, 1) := by decide +kernel
theorem dX6_copy_91 : decode cX6_copy 91 = .ok (.iload 4, 2) := by decide +kernel
theorem dX6_copy_93 : decode cX6_copy 93 = .ok (.iload 5, 2) := by decide +kernel
theorem dX6_copy_95 : decode cX6_copy 95 = .ok (.invokevirtual 287, 3) := by decide +kernel
theorem dX6_copy_98 : decode cX6_copy 98 = .ok (.ifCond .ne 6, 3) := by decide +kernel
theorem dX6_copy_101 : decode cX6_copy 101 = .ok (.bipush (-12), 2) := by decide +kernel
theorem dX6_copy_103 : decode cX6_copy 103 = .ok (.ireturn, 1) := by decide +kernel
theorem dX6_copy_104 : decode cX6_copy 104 = .ok (.aload_n 0, 1) := by decide +kernel
theorem dX6_copy_105 : decode cX6_copy 105 = .ok (.getfield 67, 3) := by decide +kernel
theorem dX6_copy_108 : decode cX6_copy 108 = .ok (.iload_n 1, 1) := by decide +kernel
theorem dX6_copy_109 : decode cX6_copy 109 = .ok (.iload_n 2, 1) := by decide +kernel
theorem dX6_copy_110 : decode cX6_copy 110 = .ok (.iload_n 3, 1) := by decide +kernel
theorem dX6_copy_111 : decode cX6_copy 111 = .ok (.iload 4, 2) := by decide +kernel
theorem dX6_copy_113 : decode cX6_copy 113 = .ok (.iload 5, 2) := by decide +kernel
theorem dX6_copy_115 : decode cX6_copy 115 = .ok (.invokevirtual 290, 3) := by decide +kernel
theorem dX6_copy_118 : decode cX6_copy 118 = .ok (.iload 5, 2) := by decide +kernel
theorem dX6_copy_120 : decode cX6_copy 120 = .ok (.ireturn, 1) := by decide +kernel
theorem dX6_hutsBy_0 : decode cX6_hutsBy 0 = .ok (.aload_n 0, 1) := by decide +kernel
theorem dX6_hutsBy_1 : decode cX6_hutsBy 1 = .ok (.getfield 67, 3) := by decide +kernel
theorem dX6_hutsBy_4 : decode cX6_hutsBy 4 = .ok (.iload_n 1, 1) := by decide +kernel
theorem dX6_hutsBy_5 : decode cX6_hutsBy 5 = .ok (.invokevirtual 248, 3) := by decide +kernel
theorem dX6_hutsBy_8 : decode cX6_hutsBy 8 = .ok (.ifCond .eq 23, 3) := by decide +kernel
theorem dX6_hutsBy_11 : decode cX6_hutsBy 11 = .ok (.iload_n 2, 1) := by decide +kernel
theorem dX6_hutsBy_12 : decode cX6_hutsBy 12 = .ok (.iconst 0, 1) := by decide +kernel
theorem dX6_hutsBy_13 : decode cX6_hutsBy 13 = .ok (.iconst 2, 1) := by decide +kernel
theorem dX6_hutsBy_14 : decode cX6_hutsBy 14 = .ok (.invokestatic 101, 3) := by decide +kernel
theorem dX6_hutsBy_17 : decode cX6_hutsBy 17 = .ok (.ifCond .eq 14, 3) := by decide +kernel
theorem dX6_hutsBy_20 : decode cX6_hutsBy 20 = .ok (.iload 4, 2) := by decide +kernel
theorem dX6_hutsBy_22 : decode cX6_hutsBy 22 = .ok (.iconst 0, 1) := by decide +kernel
theorem dX6_hutsBy_23 : decode cX6_hutsBy 23 = .ok (.bipush 6, 2) := by decide +kernel
theorem dX6_hutsBy_25 : decode cX6_hutsBy 25 = .ok (.invokestatic 101, 3) := by decide +kernel
theorem dX6_hutsBy_28 : decode cX6_hutsBy 28 = .ok (.ifCond .ne 6, 3) := by decide +kernel
theorem dX6_hutsBy_31 : decode cX6_hutsBy 31 = .ok (.bipush (-2), 2) := by decide +kernel
theorem dX6_hutsBy_33 : decode cX6_hutsBy 33 = .ok (.ireturn, 1) := by decide +kernel
theorem dX6_hutsBy_34 : decode cX6_hutsBy 34 = .ok (.aload_n 0, 1) := by decide +kernel
theorem dX6_hutsBy_35 : decode cX6_hutsBy 35 = .ok (.getfield 67, 3) := by decide +kernel
theorem dX6_hutsBy_38 : decode cX6_hutsBy 38 = .ok (.iload_n 1, 1) := by decide +kernel
theorem dX6_hutsBy_39 : decode cX6_hutsBy 39 = .ok (.invokevirtual 263, 3) := by decide +kernel
theorem dX6_hutsBy_42 : decode cX6_hutsBy 42 = .ok (.ifCond .eq 6, 3) := by decide +kernel
theorem dX6_hutsBy_45 : decode cX6_hutsBy 45 = .ok (.bipush (-11), 2) := by decide +kernel
theorem dX6_hutsBy_47 : decode cX6_hutsBy 47 = .ok (.ireturn, 1) := by decide +kernel
theorem dX6_hutsBy_48 : decode cX6_hutsBy 48 = .ok (.aload_n 0, 1) := by decide +kernel
theorem dX6_hutsBy_49 : decode cX6_hutsBy 49 = .ok (.getfield 67, 3) := by decide +kernel
theorem dX6_hutsBy_52 : decode cX6_hutsBy 52 = .ok (.iload_n 1, 1) := by decide +kernel
theorem dX6_hutsBy_53 : decode cX6_hutsBy 53 = .ok (.invokevirtual 284, 3) := by decide +kernel
theorem dX6_hutsBy_56 : decode cX6_hutsBy 56 = .ok (.iload_n 2, 1) := by decide +kernel
theorem dX6_hutsBy_57 : decode cX6_hutsBy 57 = .ok (.if_icmp .eq 6, 3) := by decide +kernel
theorem dX6_hutsBy_60 : decode cX6_hutsBy 60 = .ok (.bipush (-13), 2) := by decide +kernel
theorem dX6_hutsBy_62 : decode cX6_hutsBy 62 = .ok (.ireturn, 1) := by decide +kernel
theorem dX6_hutsBy_63 : decode cX6_hutsBy 63 = .ok (.iconst 0, 1) := by decide +kernel
theorem dX6_hutsBy_64 : decode cX6_hutsBy 64 = .ok (.istore 5, 2) := by decide +kernel
theorem dX6_hutsBy_66 : decode cX6_hutsBy 66 = .ok (.iconst 0, 1) := by decide +kernel
theorem dX6_hutsBy_67 : decode cX6_hutsBy 67 = .ok (.istore 6, 2) := by decide +kernel
theorem dX6_hutsBy_69 : decode cX6_hutsBy 69 = .ok (.iload 6, 2) := by decide +kernel
theorem dX6_hutsBy_71 : decode cX6_hutsBy 71 = .ok (.iload 4, 2) := by decide +kernel
theorem dX6_hutsBy_73 : decode cX6_hutsBy 73 = .ok (.if_icmp .ge 73, 3) := by decide +kernel
theorem dX6_hutsBy_76 : decode cX6_hutsBy 76 = .ok (.aload_n 0, 1) := by decide +kernel
theorem dX6_hutsBy_77 : decode cX6_hutsBy 77 = .ok (.getfield 67, 3) := by decide +kernel
theorem dX6_hutsBy_80 : decode cX6_hutsBy 80 = .ok (.iload_n 1, 1) := by decide +kernel
theorem dX6_hutsBy_81 : decode cX6_hutsBy 81 = .ok (.iload_n 3, 1) := by decide +kernel
theorem dX6_hutsBy_82 : decode cX6_hutsBy 82 = .ok (.iconst 2, 1) := by decide +kernel
theorem dX6_hutsBy_83 : decode cX6_hutsBy 83 = .ok (.iload 6, 2) := by decide +kernel
theorem dX6_hutsBy_85 : decode cX6_hutsBy 85 = .ok (.imul, 1) := by decide +kernel
theorem dX6_hutsBy_86 : decode cX6_hutsBy 86 = .ok (.iconst 2, 1) := by decide +kernel
theorem dX6_hutsBy_87 : decode cX6_hutsBy 87 = .ok (.iadd, 1) := by decide +kernel
theorem dX6_hutsBy_88 : decode cX6_hutsBy 88 = .ok (.invokevirtual 287, 3) := by decide +kernel
theorem dX6_hutsBy_91 : decode cX6_hutsBy 91 = .ok (.ifCond .ne 6, 3) := by decide +kernel
theorem dX6_hutsBy_94 : decode cX6_hutsBy 94 = .ok (.bipush (-12), 2) := by decide +kernel
theorem dX6_hutsBy_96 : decode cX6_hutsBy 96 = .ok (.ireturn, 1) := by decide +kernel
theorem dX6_hutsBy_97 : decode cX6_hutsBy 97 = .ok (.iload_n 3, 1) := by decide +kernel
theorem dX6_hutsBy_98 : decode cX6_hutsBy 98 = .ok (.iconst 2, 1) := by decide +kernel
theorem dX6_hutsBy_99 : decode cX6_hutsBy 99 = .ok (.iload 6, 2) := by decide +kernel
theorem dX6_hutsBy_101 : decode cX6_hutsBy 101 = .ok (.imul, 1) := by decide +kernel
theorem dX6_hutsBy_102 : decode cX6_hutsBy 102 = .ok (.iadd, 1) := by decide +kernel
theorem dX6_hutsBy_103 : decode cX6_hutsBy 103 = .ok (.istore 7, 2) := by decide +kernel
theorem dX6_hutsBy_105 : decode cX6_hutsBy 105 = .ok (.aload_n 0, 1) := by decide +kernel
theorem dX6_hutsBy_106 : decode cX6_hutsBy 106 = .ok (.getfield 54, 3) := by decide +kernel
theorem dX6_hutsBy_109 : decode cX6_hutsBy 109 = .ok (.aload_n 0, 1) := by decide +kernel
theorem dX6_hutsBy_110 : decode cX6_hutsBy 110 = .ok (.getfield 67, 3) := by decide +kernel
theorem dX6_hutsBy_113 : decode cX6_hutsBy 113 = .ok (.iload_n 1, 1) := by decide +kernel
theorem dX6_hutsBy_114 : decode cX6_hutsBy 114 = .ok (.iload 7, 2) := by decide +kernel
theorem dX6_hutsBy_116 : decode cX6_hutsBy 116 = .ok (.invokevirtual 260, 3) := by decide +kernel
theorem dX6_hutsBy_119 : decode cX6_hutsBy 119 = .ok (.aload_n 0, 1) := by decide +kernel
theorem dX6_hutsBy_120 : decode cX6_hutsBy 120 = .ok (.getfield 67, 3) := by decide +kernel
theorem dX6_hutsBy_123 : decode cX6_hutsBy 123 = .ok (.iload_n 1, 1) := by decide +kernel
theorem dX6_hutsBy_124 : decode cX6_hutsBy 124 = .ok (.iload 7, 2) := by decide +kernel
theorem dX6_hutsBy_126 : decode cX6_hutsBy 126 = .ok (.iconst 1, 1) := by decide +kernel
theorem dX6_hutsBy_127 : decode cX6_hutsBy 127 = .ok (.iadd, 1) := by decide +kernel
theorem dX6_hutsBy_128 : decode cX6_hutsBy 128 = .ok (.invokevirtual 260, 3) := by decide +kernel
theorem dX6_hutsBy_131 : decode cX6_hutsBy 131 = .ok (.invokevirtual 116, 3) := by decide +kernel
theorem dX6_hutsBy_134 : decode cX6_hutsBy 134 = .ok (.ifCond .lt 6, 3) := by decide +kernel
theorem dX6_hutsBy_137 : decode cX6_hutsBy 137 = .ok (.iinc 5 1, 3) := by decide +kernel
theorem dX6_hutsBy_140 : decode cX6_hutsBy 140 = .ok (.iinc 6 1, 3) := by decide +kernel
theorem dX6_hutsBy_143 : decode cX6_hutsBy 143 = .ok (.goto (-74), 3) := by decide +kernel
theorem dX6_hutsBy_146 : decode cX6_hutsBy 146 = .ok (.iload 5, 2) := by decide +kernel
theorem dX6_hutsBy_148 : decode cX6_hutsBy 148 = .ok (.ireturn, 1) := by decide +kernel
theorem dX6_taken_0 : decode cX6_taken 0 = .ok (.iload_n 2, 1) := by decide +kernel
theorem dX6_taken_1 : decode cX6_taken 1 = .ok (.iconst 0, 1) := by decide +kernel
theorem dX6_taken_2 : decode cX6_taken 2 = .ok (.bipush 6, 2) := by decide +kernel
theorem dX6_taken_4 : decode cX6_taken 4 = .ok (.invokestatic 101, 3) := by decide +kernel
theorem dX6_taken_7 : decode cX6_taken 7 = .ok (.ifCond .ne 6, 3) := by decide +kernel
theorem dX6_taken_10 : decode cX6_taken 10 = .ok (.bipush (-2), 2) := by decide +kernel
theorem dX6_taken_12 : decode cX6_taken 12 = .ok (.ireturn, 1) := by decide +kernel
theorem dX6_taken_13 : decode cX6_taken 13 = .ok (.iload_n 1, 1) := by decide +kernel
theorem dX6_taken_14 : decode cX6_taken 14 = .ok (.iconst 0, 1) := by decide +kernel
theorem dX6_taken_15 : decode cX6_taken 15 = .ok (.bipush 11, 2) := by decide +kernel
theorem dX6_taken_17 : decode cX6_taken 17 = .ok (.invokestatic 101, 3) := by decide +kernel
theorem dX6_taken_20 : decode cX6_taken 20 = .ok (.ifCond .ne 6, 3) := by decide +kernel
theorem dX6_taken_23 : decode cX6_taken 23 = .ok (.bipush (-12), 2) := by decide +kernel
theorem dX6_taken_25 : decode cX6_taken 25 = .ok (.ireturn, 1) := by decide +kernel
theorem dX6_taken_26 : decode cX6_taken 26 = .ok (.iload_n 1, 1) := by decide +kernel
theorem dX6_taken_27 : decode cX6_taken 27 = .ok (.bipush 6, 2) := by decide +kernel
theorem dX6_taken_29 : decode cX6_taken 29 = .ok (.irem, 1) := by decide +kernel
theorem dX6_taken_30 : decode cX6_taken 30 = .ok (.istore_n 3, 1) := by decide +kernel
theorem dX6_taken_31 : decode cX6_taken 31 = .ok (.aload_n 0, 1) := by decide +kernel
theorem dX6_taken_32 : decode cX6_taken 32 = .ok (.getfield 54, 3) := by decide +kernel
theorem dX6_taken_35 : decode cX6_taken 35 = .ok (.iload_n 3, 1) := by decide +kernel
theorem dX6_taken_36 : decode cX6_taken 36 = .ok (.invokevirtual 109, 3) := by decide +kernel
theorem dX6_taken_39 : decode cX6_taken 39 = .ok (.ifCond .ne 6, 3) := by decide +kernel
theorem dX6_taken_42 : decode cX6_taken 42 = .ok (.bipush (-11), 2) := by decide +kernel
theorem dX6_taken_44 : decode cX6_taken 44 = .ok (.ireturn, 1) := by decide +kernel
theorem dX6_taken_45 : decode cX6_taken 45 = .ok (.iload_n 2, 1) := by decide +kernel
theorem dX6_taken_46 : decode cX6_taken 46 = .ok (.iconst 5, 1) := by decide +kernel
theorem dX6_taken_47 : decode cX6_taken 47 = .ok (.if_icmp .le 7, 3) := by decide +kernel
theorem dX6_taken_50 : decode cX6_taken 50 = .ok (.iconst 1, 1) := by decide +kernel
theorem dX6_taken_51 : decode cX6_taken 51 = .ok (.goto 4, 3) := by decide +kernel
theorem dX6_taken_54 : decode cX6_taken 54 = .ok (.iconst 0, 1) := by decide +kernel
theorem dX6_taken_55 : decode cX6_taken 55 = .ok (.istore 4, 2) := by decide +kernel
theorem dX6_taken_57 : decode cX6_taken 57 = .ok (.iload_n 1, 1) := by decide +kernel
theorem dX6_taken_58 : decode cX6_taken 58 = .ok (.bipush 6, 2) := by decide +kernel
theorem dX6_taken_60 : decode cX6_taken 60 = .ok (.if_icmp .lt 23, 3) := by decide +kernel
theorem dX6_taken_63 : decode cX6_taken 63 = .ok (.iload 4, 2) := by decide +kernel
theorem dX6_taken_65 : decode cX6_taken 65 = .ok (.ifCond .eq 15, 3) := by decide +kernel
theorem dX6_taken_68 : decode cX6_taken 68 = .ok (.aload_n 0, 1) := by decide +kernel
theorem dX6_taken_69 : decode cX6_taken 69 = .ok (.getfield 54, 3) := by decide +kernel
theorem dX6_taken_72 : decode cX6_taken 72 = .ok (.getfield 188, 3) := by decide +kernel
theorem dX6_taken_75 : decode cX6_taken 75 = .ok (.iload_n 3, 1) := by decide +kernel
theorem dX6_taken_76 : decode cX6_taken 76 = .ok (.iaload, 1) := by decide +kernel
theorem dX6_taken_77 : decode cX6_taken 77 = .ok (.goto 5, 3) := by decide +kernel
theorem dX6_taken_80 : decode cX6_taken 80 = .ok (.bipush (-13), 2) := by decide +kernel
theorem dX6_taken_82 : decode cX6_taken 82 = .ok (.ireturn, 1) := by decide +kernel
theorem dX6_taken_83 : decode cX6_taken 83 = .ok (.iload 4, 2) := by decide +kernel
theorem dX6_taken_85 : decode cX6_taken 85 = .ok (.ifCond .ne 23, 3) := by decide +kernel
theorem dX6_taken_88 : decode cX6_taken 88 = .ok (.aload_n 0, 1) := by decide +kernel
theorem dX6_taken_89 : decode cX6_taken 89 = .ok (.getfield 54, 3) := by decide +kernel
theorem dX6_taken_92 : decode cX6_taken 92 = .ok (.getfield 131, 3) := by decide +kernel
theorem dX6_taken_95 : decode cX6_taken 95 = .ok (.iload_n 3, 1) := by decide +kernel
theorem dX6_taken_96 : decode cX6_taken 96 = .ok (.iaload, 1) := by decide +kernel
theorem dX6_taken_97 : decode cX6_taken 97 = .ok (.iload_n 2, 1) := by decide +kernel
theorem dX6_taken_98 : decode cX6_taken 98 = .ok (.invokestatic 294, 3) := by decide +kernel
theorem dX6_taken_101 : decode cX6_taken 101 = .ok (.ifCond .eq 7, 3) := by decide +kernel
theorem dX6_taken_104 : decode cX6_taken 104 = .ok (.iload_n 3, 1) := by decide +kernel
theorem dX6_taken_105 : decode cX6_taken 105 = .ok (.goto 5, 3) := by decide +kernel
theorem dX6_taken_108 : decode cX6_taken 108 = .ok (.bipush (-13), 2) := by decide +kernel
theorem dX6_taken_110 : decode cX6_taken 110 = .ok (.ireturn, 1) := by decide +kernel
theorem dX6_think_0 : decode cX6_think 0 = .ok (.aload_n 0, 1) := by decide +kernel
theorem dX6_think_1 : decode cX6_think 1 = .ok (.getfield 58, 3) := by decide +kernel
theorem dX6_think_4 : decode cX6_think 4 = .ok (.aload_n 0, 1) := by decide +kernel
theorem dX6_think_5 : decode cX6_think 5 = .ok (.getfield 54, 3) := by decide +kernel
theorem dX6_think_8 : decode cX6_think 8 = .ok (.invokevirtual 277, 3) := by decide +kernel
theorem dX6_think_11 : decode cX6_think 11 = .ok (.aload_n 0, 1) := by decide +kernel
theorem dX6_think_12 : decode cX6_think 12 = .ok (.getfield 58, 3) := by decide +kernel
theorem dX6_think_15 : decode cX6_think 15 = .ok (.areturn, 1) := by decide +kernel
theorem dX6_isCoalNights_0 : decode cX6_isCoalNights 0 = .ok (.iload_n 0, 1) := by decide +kernel
theorem dX6_isCoalNights_1 : decode cX6_isCoalNights 1 = .ok (.ifCond .lt 33, 3) := by decide +kernel
theorem dX6_isCoalNights_4 : decode cX6_isCoalNights 4 = .ok (.iload_n 0, 1) := by decide +kernel
theorem dX6_isCoalNights_5 : decode cX6_isCoalNights 5 = .ok (.bipush 100, 2) := by decide +kernel
theorem dX6_isCoalNights_7 : decode cX6_isCoalNights 7 = .ok (.idiv, 1) := by decide +kernel
theorem dX6_isCoalNights_8 : decode cX6_isCoalNights 8 = .ok (.iconst 1, 1) := by decide +kernel
theorem dX6_isCoalNights_9 : decode cX6_isCoalNights 9 = .ok (.sipush 9999, 3) := by decide +kernel
theorem dX6_isCoalNights_12 : decode cX6_isCoalNights 12 = .ok (.invokestatic 101, 3) := by decide +kernel
theorem dX6_isCoalNights_15 : decode cX6_isCoalNights 15 = .ok (.ifCond .eq 19, 3) := by decide +kernel
theorem dX6_isCoalNights_18 : decode cX6_isCoalNights 18 = .ok (.iload_n 0, 1) := by decide +kernel
theorem dX6_isCoalNights_19 : decode cX6_isCoalNights 19 = .ok (.bipush 100, 2) := by decide +kernel
theorem dX6_isCoalNights_21 : decode cX6_isCoalNights 21 = .ok (.irem, 1) := by decide +kernel
theorem dX6_isCoalNights_22 : decode cX6_isCoalNights 22 = .ok (.iconst 1, 1) := by decide +kernel
theorem dX6_isCoalNights_23 : decode cX6_isCoalNights 23 = .ok (.iload_n 1, 1) := by decide +kernel
theorem dX6_isCoalNights_24 : decode cX6_isCoalNights 24 = .ok (.invokestatic 101, 3) := by decide +kernel
theorem dX6_isCoalNights_27 : decode cX6_isCoalNights 27 = .ok (.ifCond .eq 7, 3) := by decide +kernel
theorem dX6_isCoalNights_30 : decode cX6_isCoalNights 30 = .ok (.iconst 1, 1) := by decide +kernel
theorem dX6_isCoalNights_31 : decode cX6_isCoalNights 31 = .ok (.goto 4, 3) := by decide +kernel
theorem dX6_isCoalNights_34 : decode cX6_isCoalNights 34 = .ok (.iconst 0, 1) := by decide +kernel
theorem dX6_isCoalNights_35 : decode cX6_isCoalNights 35 = .ok (.ireturn, 1) := by decide +kernel
theorem dX6_isSnow_0 : decode cX6_isSnow 0 = .ok (.iload_n 0, 1) := by decide +kernel
theorem dX6_isSnow_1 : decode cX6_isSnow 1 = .ok (.iconst 0, 1) := by decide +kernel
theorem dX6_isSnow_2 : decode cX6_isSnow 2 = .ok (.ldc_w 297, 3) := by decide +kernel
theorem dX6_isSnow_5 : decode cX6_isSnow 5 = .ok (.invokestatic 101, 3) := by decide +kernel
theorem dX6_isSnow_8 : decode cX6_isSnow 8 = .ok (.ifCond .eq 18, 3) := by decide +kernel
theorem dX6_isSnow_11 : decode cX6_isSnow 11 = .ok (.iload_n 1, 1) := by decide +kernel
theorem dX6_isSnow_12 : decode cX6_isSnow 12 = .ok (.iconst 0, 1) := by decide +kernel
theorem dX6_isSnow_13 : decode cX6_isSnow 13 = .ok (.sipush 999, 3) := by decide +kernel
theorem dX6_isSnow_16 : decode cX6_isSnow 16 = .ok (.invokestatic 101, 3) := by decide +kernel
theorem dX6_isSnow_19 : decode cX6_isSnow 19 = .ok (.ifCond .eq 7, 3) := by decide +kernel
theorem dX6_isSnow_22 : decode cX6_isSnow 22 = .ok (.iconst 1, 1) := by decide +kernel
theorem dX6_isSnow_23 : decode cX6_isSnow 23 = .ok (.goto 4, 3) := by decide +kernel
theorem dX6_isSnow_26 : decode cX6_isSnow 26 = .ok (.iconst 0, 1) := by decide +kernel
theorem dX6_isSnow_27 : decode cX6_isSnow 27 = .ok (.ireturn, 1) := by decide +kernel
theorem dX6_mostOf_0 : decode cX6_mostOf 0 = .ok (.iload_n 0, 1) := by decide +kernel
theorem dX6_mostOf_1 : decode cX6_mostOf 1 = .ok (.lookupswitch 34 #[(0, 27), (1, 31)], 27) := by decide +kernel
theorem dX6_mostOf_28 : decode cX6_mostOf 28 = .ok (.sipush 9999, 3) := by decide +kernel
theorem dX6_mostOf_31 : decode cX6_mostOf 31 = .ok (.ireturn, 1) := by decide +kernel
theorem dX6_mostOf_32 : decode cX6_mostOf 32 = .ok (.bipush 99, 2) := by decide +kernel
theorem dX6_mostOf_34 : decode cX6_mostOf 34 = .ok (.ireturn, 1) := by decide +kernel
theorem dX6_mostOf_35 : decode cX6_mostOf 35 = .ok (.bipush 99, 2) := by decide +kernel
theorem dX6_mostOf_37 : decode cX6_mostOf 37 = .ok (.ireturn, 1) := by decide +kernel
