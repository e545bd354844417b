theorem dX7_goToMarket_28 : decode cX7_goToMarket 28 = .ok (.iload_n 3, 1) := by decide +kernel
theorem dX7_goToMarket_29 : decode cX7_goToMarket 29 = .ok (.iaload, 1) := by decide +kernel
theorem dX7_goToMarket_30 : decode cX7_goToMarket 30 = .ok (.iload_n 1, 1) := by decide +kernel
theorem dX7_goToMarket_31 : decode cX7_goToMarket 31 = .ok (.iadd, 1) := by decide +kernel
theorem dX7_goToMarket_32 : decode cX7_goToMarket 32 = .ok (.invokestatic 32, 3) := by decide +kernel
theorem dX7_goToMarket_35 : decode cX7_goToMarket 35 = .ok (.iastore, 1) := by decide +kernel
theorem dX7_goToMarket_36 : decode cX7_goToMarket 36 = .ok (.aload_n 0, 1) := by decide +kernel
theorem dX7_goToMarket_37 : decode cX7_goToMarket 37 = .ok (.getfield 15, 3) := by decide +kernel
theorem dX7_goToMarket_40 : decode cX7_goToMarket 40 = .ok (.iload_n 3, 1) := by decide +kernel
theorem dX7_goToMarket_41 : decode cX7_goToMarket 41 = .ok (.aload_n 0, 1) := by decide +kernel
theorem dX7_goToMarket_42 : decode cX7_goToMarket 42 = .ok (.getfield 15, 3) := by decide +kernel
theorem dX7_goToMarket_45 : decode cX7_goToMarket 45 = .ok (.iload_n 3, 1) := by decide +kernel
theorem dX7_goToMarket_46 : decode cX7_goToMarket 46 = .ok (.iaload, 1) := by decide +kernel
theorem dX7_goToMarket_47 : decode cX7_goToMarket 47 = .ok (.aload_n 0, 1) := by decide +kernel
theorem dX7_goToMarket_48 : decode cX7_goToMarket 48 = .ok (.getfield 9, 3) := by decide +kernel
theorem dX7_goToMarket_51 : decode cX7_goToMarket 51 = .ok (.iload_n 3, 1) := by decide +kernel
theorem dX7_goToMarket_52 : decode cX7_goToMarket 52 = .ok (.iconst 1, 1) := by decide +kernel
theorem dX7_goToMarket_53 : decode cX7_goToMarket 53 = .ok (.isub, 1) := by decide +kernel
theorem dX7_goToMarket_54 : decode cX7_goToMarket 54 = .ok (.iaload, 1) := by decide +kernel
theorem dX7_goToMarket_55 : decode cX7_goToMarket 55 = .ok (.iload_n 1, 1) := by decide +kernel
theorem dX7_goToMarket_56 : decode cX7_goToMarket 56 = .ok (.isub, 1) := by decide +kernel
theorem dX7_goToMarket_57 : decode cX7_goToMarket 57 = .ok (.invokestatic 32, 3) := by decide +kernel
theorem dX7_goToMarket_60 : decode cX7_goToMarket 60 = .ok (.iastore, 1) := by decide +kernel
theorem dX7_goToMarket_61 : decode cX7_goToMarket 61 = .ok (.iinc 3 1, 3) := by decide +kernel
theorem dX7_goToMarket_64 : decode cX7_goToMarket 64 = .ok (.goto (-62), 3) := by decide +kernel
theorem dX7_goToMarket_67 : decode cX7_goToMarket 67 = .ok (.return_, 1) := by decide +kernel
theorem dX7_most_0 : decode cX7_most 0 = .ok (.iload_n 1, 1) := by decide +kernel
theorem dX7_most_1 : decode cX7_most 1 = .ok (.iconst 0, 1) := by decide +kernel
theorem dX7_most_2 : decode cX7_most 2 = .ok (.bipush 9, 2) := by decide +kernel
theorem dX7_most_4 : decode cX7_most 4 = .ok (.invokestatic 38, 3) := by decide +kernel
theorem dX7_most_7 : decode cX7_most 7 = .ok (.ifCond .eq 12, 3) := by decide +kernel
theorem dX7_most_10 : decode cX7_most 10 = .ok (.aload_n 0, 1) := by decide +kernel
theorem dX7_most_11 : decode cX7_most 11 = .ok (.getfield 9, 3) := by decide +kernel
theorem dX7_most_14 : decode cX7_most 14 = .ok (.iload_n 1, 1) := by decide +kernel
theorem dX7_most_15 : decode cX7_most 15 = .ok (.iaload, 1) := by decide +kernel
theorem dX7_most_16 : decode cX7_most 16 = .ok (.goto 4, 3) := by decide +kernel
theorem dX7_most_19 : decode cX7_most 19 = .ok (.iconst 0, 1) := by decide +kernel
theorem dX7_most_20 : decode cX7_most 20 = .ok (.ireturn, 1) := by decide +kernel
theorem dX7_fewest_0 : decode cX7_fewest 0 = .ok (.aload_n 0, 1) := by decide +kernel
theorem dX7_fewest_1 : decode cX7_fewest 1 = .ok (.iload_n 1, 1) := by decide +kernel
theorem dX7_fewest_2 : decode cX7_fewest 2 = .ok (.invokevirtual 42, 3) := by decide +kernel
theorem dX7_fewest_5 : decode cX7_fewest 5 = .ok (.istore_n 2, 1) := by decide +kernel
theorem dX7_fewest_6 : decode cX7_fewest 6 = .ok (.iconst 0, 1) := by decide +kernel
theorem dX7_fewest_7 : decode cX7_fewest 7 = .ok (.istore_n 3, 1) := by decide +kernel
theorem dX7_fewest_8 : decode cX7_fewest 8 = .ok (.iload_n 3, 1) := by decide +kernel
theorem dX7_fewest_9 : decode cX7_fewest 9 = .ok (.iload_n 1, 1) := by decide +kernel
theorem dX7_fewest_10 : decode cX7_fewest 10 = .ok (.if_icmp .ge 20, 3) := by decide +kernel
theorem dX7_fewest_13 : decode cX7_fewest 13 = .ok (.aload_n 0, 1) := by decide +kernel
theorem dX7_fewest_14 : decode cX7_fewest 14 = .ok (.iload_n 3, 1) := by decide +kernel
theorem dX7_fewest_15 : decode cX7_fewest 15 = .ok (.invokevirtual 42, 3) := by decide +kernel
theorem dX7_fewest_18 : decode cX7_fewest 18 = .ok (.iload_n 2, 1) := by decide +kernel
theorem dX7_fewest_19 : decode cX7_fewest 19 = .ok (.if_icmp .ne 5, 3) := by decide +kernel
theorem dX7_fewest_22 : decode cX7_fewest 22 = .ok (.iload_n 3, 1) := by decide +kernel
theorem dX7_fewest_23 : decode cX7_fewest 23 = .ok (.ireturn, 1) := by decide +kernel
theorem dX7_fewest_24 : decode cX7_fewest 24 = .ok (.iinc 3 1, 3) := by decide +kernel
theorem dX7_fewest_27 : decode cX7_fewest 27 = .ok (.goto (-19), 3) := by decide +kernel
theorem dX7_fewest_30 : decode cX7_fewest 30 = .ok (.iload_n 1, 1) := by decide +kernel
theorem dX7_fewest_31 : decode cX7_fewest 31 = .ok (.ireturn, 1) := by decide +kernel
theorem dX8_init_0 : decode cX8_init 0 = .ok (.aload_n 0, 1) := by decide +kernel
theorem dX8_init_1 : decode cX8_init 1 = .ok (.invokespecial 3, 3) := by decide +kernel
theorem dX8_init_4 : decode cX8_init 4 = .ok (.aload_n 0, 1) := by decide +kernel
theorem dX8_init_5 : decode cX8_init 5 = .ok (.new 9, 3) := by decide +kernel
theorem dX8_init_8 : decode cX8_init 8 = .ok (.dup, 1) := by decide +kernel
theorem dX8_init_9 : decode cX8_init 9 = .ok (.invokespecial 11, 3) := by decide +kernel
theorem dX8_init_12 : decode cX8_init 12 = .ok (.putfield 12, 3) := by decide +kernel
theorem dX8_init_15 : decode cX8_init 15 = .ok (.aload_n 0, 1) := by decide +kernel
theorem dX8_init_16 : decode cX8_init 16 = .ok (.new 18, 3) := by decide +kernel
theorem dX8_init_19 : decode cX8_init 19 = .ok (.dup, 1) := by decide +kernel
theorem dX8_init_20 : decode cX8_init 20 = .ok (.invokespecial 20, 3) := by decide +kernel
theorem dX8_init_23 : decode cX8_init 23 = .ok (.putfield 21, 3) := by decide +kernel
theorem dX8_init_26 : decode cX8_init 26 = .ok (.return_, 1) := by decide +kernel
theorem dX8_run_0 : decode cX8_run 0 = .ok (.aload_n 0, 1) := by decide +kernel
theorem dX8_run_1 : decode cX8_run 1 = .ok (.getfield 12, 3) := by decide +kernel
theorem dX8_run_4 : decode cX8_run 4 = .ok (.aload_n 2, 1) := by decide +kernel
theorem dX8_run_5 : decode cX8_run 5 = .ok (.invokevirtual 25, 3) := by decide +kernel
theorem dX8_run_8 : decode cX8_run 8 = .ok (.aload_n 0, 1) := by decide +kernel
theorem dX8_run_9 : decode cX8_run 9 = .ok (.iconst 0, 1) := by decide +kernel
theorem dX8_run_10 : decode cX8_run 10 = .ok (.putfield 29, 3) := by decide +kernel
theorem dX8_run_13 : decode cX8_run 13 = .ok (.aload_n 0, 1) := by decide +kernel
theorem dX8_run_14 : decode cX8_run 14 = .ok (.iconst 0, 1) := by decide +kernel
theorem dX8_run_15 : decode cX8_run 15 = .ok (.putfield 33, 3) := by decide +kernel
theorem dX8_run_18 : decode cX8_run 18 = .ok (.aload_n 0, 1) := by decide +kernel
theorem dX8_run_19 : decode cX8_run 19 = .ok (.bipush (-6), 2) := by decide +kernel
theorem dX8_run_21 : decode cX8_run 21 = .ok (.putfield 36, 3) := by decide +kernel
theorem dX8_run_24 : decode cX8_run 24 = .ok (.aload_n 0, 1) := by decide +kernel
theorem dX8_run_25 : decode cX8_run 25 = .ok (.getfield 21, 3) := by decide +kernel
theorem dX8_run_28 : decode cX8_run 28 = .ok (.invokevirtual 39, 3) := by decide +kernel
theorem dX8_run_31 : decode cX8_run 31 = .ok (.iconst 0, 1) := by decide +kernel
theorem dX8_run_32 : decode cX8_run 32 = .ok (.istore_n 3, 1) := by decide +kernel
theorem dX8_run_33 : decode cX8_run 33 = .ok (.iload_n 3, 1) := by decide +kernel
theorem dX8_run_34 : decode cX8_run 34 = .ok (.aload_n 1, 1) := by decide +kernel
theorem dX8_run_35 : decode cX8_run 35 = .ok (.getfield 42, 3) := by decide +kernel
theorem dX8_run_38 : decode cX8_run 38 = .ok (.if_icmp .ge 131, 3) := by decide +kernel
theorem dX8_run_41 : decode cX8_run 41 = .ok (.aload_n 0, 1) := by decide +kernel
theorem dX8_run_42 : decode cX8_run 42 = .ok (.getfield 33, 3) := by decide +kernel
theorem dX8_run_45 : decode cX8_run 45 = .ok (.ifCond .ne 124, 3) := by decide +kernel
theorem dX8_run_48 : decode cX8_run 48 = .ok (.aload_n 0, 1) := by decide +kernel
theorem dX8_run_49 : decode cX8_run 49 = .ok (.getfield 21, 3) := by decide +kernel
theorem dX8_run_52 : decode cX8_run 52 = .ok (.aload_n 1, 1) := by decide +kernel
theorem dX8_run_53 : decode cX8_run 53 = .ok (.iload_n 3, 1) := by decide +kernel
theorem dX8_run_54 : decode cX8_run 54 = .ok (.invokevirtual 47, 3) := by decide +kernel
theorem dX8_run_57 : decode cX8_run 57 = .ok (.invokevirtual 51, 3) := by decide +kernel
theorem dX8_run_60 : decode cX8_run 60 = .ok (.istore 4, 2) := by decide +kernel
theorem dX8_run_62 : decode cX8_run 62 = .ok (.iload 4, 2) := by decide +kernel
theorem dX8_run_64 : decode cX8_run 64 = .ok (.ifCond .eq 66, 3) := by decide +kernel
theorem dX8_run_67 : decode cX8_run 67 = .ok (.aload_n 0, 1) := by decide +kernel
theorem dX8_run_68 : decode cX8_run 68 = .ok (.getfield 21, 3) := by decide +kernel
theorem dX8_run_71 : decode cX8_run 71 = .ok (.invokevirtual 55, 3) := by decide +kernel
theorem dX8_run_74 : decode cX8_run 74 = .ok (.ifCond .eq 56, 3) := by decide +kernel
theorem dX8_run_77 : decode cX8_run 77 = .ok (.aload_n 0, 1) := by decide +kernel
theorem dX8_run_78 : decode cX8_run 78 = .ok (.aload_n 0, 1) := by decide +kernel
theorem dX8_run_79 : decode cX8_run 79 = .ok (.getfield 12, 3) := by decide +kernel
theorem dX8_run_82 : decode cX8_run 82 = .ok (.aload_n 0, 1) := by decide +kernel
theorem dX8_run_83 : decode cX8_run 83 = .ok (.getfield 21, 3) := by decide +kernel
theorem dX8_run_86 : decode cX8_run 86 = .ok (.getfield 59, 3) := by decide +kernel
theorem dX8_run_89 : decode cX8_run 89 = .ok (.aload_n 0, 1) := by decide +kernel
theorem dX8_run_90 : decode cX8_run 90 = .ok (.getfield 21, 3) := by decide +kernel
theorem dX8_run_93 : decode cX8_run 93 = .ok (.getfield 62, 3) := by decide +kernel
theorem dX8_run_96 : decode cX8_run 96 = .ok (.aload_n 0, 1) := by decide +kernel
theorem dX8_run_97 : decode cX8_run 97 = .ok (.getfield 21, 3) := by decide +kernel
theorem dX8_run_100 : decode cX8_run 100 = .ok (.getfield 65, 3) := by decide +kernel
theorem dX8_run_103 : decode cX8_run 103 = .ok (.invokevirtual 68, 3) := by decide +kernel
theorem dX8_run_106 : decode cX8_run 106 = .ok (.putfield 33, 3) := by decide +kernel
theorem dX8_run_109 : decode cX8_run 109 = .ok (.aload_n 0, 1) := by decide +kernel
theorem dX8_run_110 : decode cX8_run 110 = .ok (.dup, 1) := by decide +kernel
theorem dX8_run_111 : decode cX8_run 111 = .ok (.getfield 29, 3) := by decide +kernel
theorem dX8_run_114 : decode cX8_run 114 = .ok (.aload_n 0, 1) := by decide +kernel
theorem dX8_run_115 : decode cX8_run 115 = .ok (.getfield 33, 3) := by decide +kernel
theorem dX8_run_118 : decode cX8_run 118 = .ok (.ifCond .ne 7, 3) := by decide +kernel
theorem dX8_run_121 : decode cX8_run 121 = .ok (.iconst 1, 1) := by decide +kernel
theorem dX8_run_122 : decode cX8_run 122 = .ok (.goto 4, 3) := by decide +kernel
theorem dX8_run_125 : decode cX8_run 125 = .ok (.iconst 0, 1) := by decide +kernel
theorem dX8_run_126 : decode cX8_run 126 = .ok (.iadd, 1) := by decide +kernel
theorem dX8_run_127 : decode cX8_run 127 = .ok (.putfield 29, 3) := by decide +kernel
theorem dX8_run_130 : decode cX8_run 130 = .ok (.aload_n 0, 1) := by decide +kernel
theorem dX8_run_131 : decode cX8_run 131 = .ok (.getfield 36, 3) := by decide +kernel
theorem dX8_run_134 : decode cX8_run 134 = .ok (.bipush (-6), 2) := by decide +kernel
theorem dX8_run_136 : decode cX8_run 136 = .ok (.if_icmp .ne 27, 3) := by decide +kernel
theorem dX8_run_139 : decode cX8_run 139 = .ok (.aload_n 0, 1) := by decide +kernel
theorem dX8_run_140 : decode cX8_run 140 = .ok (.getfield 12, 3) := by decide +kernel
theorem dX8_run_143 : decode cX8_run 143 = .ok (.getfield 72, 3) := by decide +kernel
theorem dX8_run_146 : decode cX8_run 146 = .ok (.aload_n 2, 1) := by decide +kernel
theorem dX8_run_147 : decode cX8_run 147 = .ok (.getfield 72, 3) := by decide +kernel
theorem dX8_run_150 : decode cX8_run 150 = .ok (.if_icmp .le 13, 3) := by decide +kernel
theorem dX8_run_153 : decode cX8_run 153 = .ok (.aload_n 0, 1) := by decide +kernel
theorem dX8_run_154 : decode cX8_run 154 = .ok (.aload_n 0, 1) := by decide +kernel
theorem dX8_run_155 : decode cX8_run 155 = .ok (.getfield 29, 3) := by decide +kernel
theorem dX8_run_158 : decode cX8_run 158 = .ok (.iconst 1, 1) := by decide +kernel
theorem dX8_run_159 : decode cX8_run 159 = .ok (.isub, 1) := by decide +kernel
theorem dX8_run_160 : decode cX8_run 160 = .ok (.putfield 36, 3) := by decide +kernel
theorem dX8_run_163 : decode cX8_run 163 = .ok (.iinc 3 1, 3) := by decide +kernel
theorem dX8_run_166 : decode cX8_run 166 = .ok (.goto (-133), 3) := by decide +kernel
theorem dX8_run_169 : decode cX8_run 169 = .ok (.return_, 1) := by decide +kernel
theorem dX9_init_0 : decode cX9_init 0 = .ok (.aload_n 0, 1) := by decide +kernel
theorem dX9_init_1 : decode cX9_init 1 = .ok (.invokespecial 3, 3) := by decide +kernel
theorem dX9_init_4 : decode cX9_init 4 = .ok (.aload_n 0, 1) := by decide +kernel
theorem dX9_init_5 : decode cX9_init 5 = .ok (.bipush 82, 2) := by decide +kernel
theorem dX9_init_7 : decode cX9_init 7 = .ok (.newarray .int, 2) := by decide +kernel
theorem dX9_init_9 : decode cX9_init 9 = .ok (.putfield 9, 3) := by decide +kernel
theorem dX9_init_12 : decode cX9_init 12 = .ok (.return_, 1) := by decide +kernel
theorem dX9_neededSets_0 : decode cX9_neededSets 0 = .ok (.aload_n 0, 1) := by decide +kernel
theorem dX9_neededSets_1 : decode cX9_neededSets 1 = .ok (.aload_n 1, 1) := by decide +kernel
theorem dX9_neededSets_2 : decode cX9_neededSets 2 = .ok (.iload_n 3, 1) := by decide +kernel
theorem dX9_neededSets_3 : decode cX9_neededSets 3 = .ok (.invokevirtual 15, 3) := by decide +kernel
theorem dX9_neededSets_6 : decode cX9_neededSets 6 = .ok (.aload_n 0, 1) := by decide +kernel
theorem dX9_neededSets_7 : decode cX9_neededSets 7 = .ok (.iload_n 2, 1) := by decide +kernel
theorem dX9_neededSets_8 : decode cX9_neededSets 8 = .ok (.aload_n 1, 1) := by decide +kernel
theorem dX9_neededSets_9 : decode cX9_neededSets 9 = .ok (.iload_n 3, 1) := by decide +kernel
theorem dX9_neededSets_10 : decode cX9_neededSets 10 = .ok (.invokevirtual 19, 3) := by decide +kernel
theorem dX9_neededSets_13 : decode cX9_neededSets 13 = .ok (.isub, 1) := by decide +kernel
theorem dX9_neededSets_14 : decode cX9_neededSets 14 = .ok (.iload_n 2, 1) := by decide +kernel
theorem dX9_neededSets_15 : decode cX9_neededSets 15 = .ok (.iconst 1, 1) := by decide +kernel
theorem dX9_neededSets_16 : decode cX9_neededSets 16 = .ok (.isub, 1) := by decide +kernel
theorem dX9_neededSets_17 : decode cX9_neededSets 17 = .ok (.invokevirtual 25, 3) := by decide +kernel
theorem dX9_neededSets_20 : decode cX9_neededSets 20 = .ok (.ireturn, 1) := by decide +kernel
theorem dX9_carryingSets_0 : decode cX9_carryingSets 0 = .ok (.aload_n 0, 1) := by decide +kernel
theorem dX9_carryingSets_1 : decode cX9_carryingSets 1 = .ok (.aload_n 1, 1) := by decide +kernel
theorem dX9_carryingSets_2 : decode cX9_carryingSets 2 = .ok (.iconst (-1), 1) := by decide +kernel
theorem dX9_carryingSets_3 : decode cX9_carryingSets 3 = .ok (.invokevirtual 15, 3) := by decide +kernel
theorem dX9_carryingSets_6 : decode cX9_carryingSets 6 = .ok (.aload_n 0, 1) := by decide +kernel
theorem dX9_carryingSets_7 : decode cX9_carryingSets 7 = .ok (.iload_n 2, 1) := by decide +kernel
theorem dX9_carryingSets_8 : decode cX9_carryingSets 8 = .ok (.bipush 81, 2) := by decide +kernel
theorem dX9_carryingSets_10 : decode cX9_carryingSets 10 = .ok (.invokevirtual 25, 3) := by decide +kernel
theorem dX9_carryingSets_13 : decode cX9_carryingSets 13 = .ok (.ireturn, 1) := by decide +kernel
theorem dX9_countSets_0 : decode cX9_countSets 0 = .ok (.iconst 1, 1) := by decide +kernel
theorem dX9_countSets_1 : decode cX9_countSets 1 = .ok (.istore_n 3, 1) := by decide +kernel
theorem dX9_countSets_2 : decode cX9_countSets 2 = .ok (.iload_n 3, 1) := by decide +kernel
theorem dX9_countSets_3 : decode cX9_countSets 3 = .ok (.bipush 81, 2) := by decide +kernel
theorem dX9_countSets_5 : decode cX9_countSets 5 = .ok (.if_icmp .gt 16, 3) := by decide +kernel
theorem dX9_countSets_8 : decode cX9_countSets 8 = .ok (.aload_n 0, 1) := by decide +kernel
theorem dX9_countSets_9 : decode cX9_countSets 9 = .ok (.getfield 9, 3) := by decide +kernel
theorem dX9_countSets_12 : decode cX9_countSets 12 = .ok (.iload_n 3, 1) := by decide +kernel
theorem dX9_countSets_13 : decode cX9_countSets 13 = .ok (.iconst 0, 1) := by decide +kernel
theorem dX9_countSets_14 : decode cX9_countSets 14 = .ok (.iastore, 1) := by decide +kernel
theorem dX9_countSets_15 : decode cX9_countSets 15 = .ok (.iinc 3 1, 3) := by decide +kernel
theorem dX9_countSets_18 : decode cX9_countSets 18 = .ok (.goto (-16), 3) := by decide +kernel
theorem dX9_countSets_21 : decode cX9_countSets 21 = .ok (.aload_n 0, 1) := by decide +kernel
theorem dX9_countSets_22 : decode cX9_countSets 22 = .ok (.getfield 9, 3) := by decide +kernel
theorem dX9_countSets_25 : decode cX9_countSets 25 = .ok (.iconst 0, 1) := by decide +kernel
theorem dX9_countSets_26 : decode cX9_countSets 26 = .ok (.iconst 1, 1) := by decide +kernel
theorem dX9_countSets_27 : decode cX9_countSets 27 = .ok (.iastore, 1) := by decide +kernel
theorem dX9_countSets_28 : decode cX9_countSets 28 = .ok (.iconst 0, 1) := by decide +kernel
theorem dX9_countSets_29 : decode cX9_countSets 29 = .ok (.istore_n 3, 1) := by decide +kernel
theorem dX9_countSets_30 : decode cX9_countSets 30 = .ok (.iload_n 3, 1) := by decide +kernel
theorem dX9_countSets_31 : decode cX9_countSets 31 = .ok (.aload_n 1, 1) := by decide +kernel
theorem dX9_countSets_32 : decode cX9_countSets 32 = .ok (.getfield 29, 3) := by decide +kernel
theorem dX9_countSets_35 : decode cX9_countSets 35 = .ok (.if_icmp .ge 23, 3) := by decide +kernel
theorem dX9_countSets_38 : decode cX9_countSets 38 = .ok (.iload_n 3, 1) := by decide +kernel
theorem dX9_countSets_39 : decode cX9_countSets 39 = .ok (.iload_n 2, 1) := by decide +kernel
theorem dX9_countSets_40 : decode cX9_countSets 40 = .ok (.if_icmp .eq 12, 3) := by decide +kernel
theorem dX9_countSets_43 : decode cX9_countSets 43 = .ok (.aload_n 0, 1) := by decide +kernel
theorem dX9_countSets_44 : decode cX9_countSets 44 = .ok (.aload_n 1, 1) := by decide +kernel
theorem dX9_countSets_45 : decode cX9_countSets 45 = .ok (.iload_n 3, 1) := by decide +kernel
theorem dX9_countSets_46 : decode cX9_countSets 46 = .ok (.invokevirtual 19, 3) := by decide +kernel
theorem dX9_countSets_49 : decode cX9_countSets 49 = .ok (.invokevirtual 33, 3) := by decide +kernel
theorem dX9_countSets_52 : decode cX9_countSets 52 = .ok (.iinc 3 1, 3) := by decide +kernel
theorem dX9_countSets_55 : decode cX9_countSets 55 = .ok (.goto (-25), 3) := by decide +kernel
theorem dX9_countSets_58 : decode cX9_countSets 58 = .ok (.return_, 1) := by decide +kernel
theorem dX9_addVoter_0 : decode cX9_addVoter 0 = .ok (.iconst 0, 1) := by decide +kernel
theorem dX9_addVoter_1 : decode cX9_addVoter 1 = .ok (.iload_n 1, 1) := by decide +kernel
theorem dX9_addVoter_2 : decode cX9_addVoter 2 = .ok (.invokestatic 37, 3) := by decide +kernel
theorem dX9_addVoter_5 : decode cX9_addVoter 5 = .ok (.istore_n 2, 1) := by decide +kernel
theorem dX9_addVoter_6 : decode cX9_addVoter 6 = .ok (.bipush 81, 2) := by decide +kernel
theorem dX9_addVoter_8 : decode cX9_addVoter 8 = .ok (.istore_n 3, 1) := by decide +kernel
theorem dX9_addVoter_9 : decode cX9_addVoter 9 = .ok (.iload_n 3, 1) := by decide +kernel
theorem dX9_addVoter_10 : decode cX9_addVoter 10 = .ok (.iload_n 2, 1) := by decide +kernel
theorem dX9_addVoter_11 : decode cX9_addVoter 11 = .ok (.if_icmp .lt 26, 3) := by decide +kernel
theorem dX9_addVoter_14 : decode cX9_addVoter 14 = .ok (.aload_n 0, 1) := by decide +kernel
theorem dX9_addVoter_15 : decode cX9_addVoter 15 = .ok (.getfield 9, 3) := by decide +kernel
theorem dX9_addVoter_18 : decode cX9_addVoter 18 = .ok (.iload_n 3, 1) := by decide +kernel
theorem dX9_addVoter_19 : decode cX9_addVoter 19 = .ok (.dup2, 1) := by decide +kernel
theorem dX9_addVoter_20 : decode cX9_addVoter 20 = .ok (.iaload, 1) := by decide +kernel
theorem dX9_addVoter_21 : decode cX9_addVoter 21 = .ok (.aload_n 0, 1) := by decide +kernel
theorem dX9_addVoter_22 : decode cX9_addVoter 22 = .ok (.getfield 9, 3) := by decide +kernel
theorem dX9_addVoter_25 : decode cX9_addVoter 25 = .ok (.iload_n 3, 1) := by decide +kernel
theorem dX9_addVoter_26 : decode cX9_addVoter 26 = .ok (.iload_n 2, 1) := by decide +kernel
theorem dX9_addVoter_27 : decode cX9_addVoter 27 = .ok (.isub, 1) := by decide +kernel
theorem dX9_addVoter_28 : decode cX9_addVoter 28 = .ok (.iaload, 1) := by decide +kernel
theorem dX9_addVoter_29 : decode cX9_addVoter 29 = .ok (.iadd, 1) := by decide +kernel
theorem dX9_addVoter_30 : decode cX9_addVoter 30 = .ok (.iastore, 1) := by decide +kernel
theorem dX9_addVoter_31 : decode cX9_addVoter 31 = .ok (.iinc 3 (-1), 3) := by decide +kernel
theorem dX9_addVoter_34 : decode cX9_addVoter 34 = .ok (.goto (-25), 3) := by decide +kernel
theorem dX9_addVoter_37 : decode cX9_addVoter 37 = .ok (.return_, 1) := by decide +kernel
theorem dX9_setsWithin_0 : decode cX9_setsWithin 0 = .ok (.iconst 0, 1) := by decide +kernel
theorem dX9_setsWithin_1 : decode cX9_setsWithin 1 = .ok (.istore_n 3, 1) := by decide +kernel
theorem dX9_setsWithin_2 : decode cX9_setsWithin 2 = .ok (.iconst 0, 1) := by decide +kernel
theorem dX9_setsWithin_3 : decode cX9_setsWithin 3 = .ok (.iload_n 1, 1) := by decide +kernel
theorem dX9_setsWithin_4 : decode cX9_setsWithin 4 = .ok (.invokestatic 37, 3) := by decide +kernel
theorem dX9_setsWithin_7 : decode cX9_setsWithin 7 = .ok (.istore 4, 2) := by decide +kernel
theorem dX9_setsWithin_9 : decode cX9_setsWithin 9 = .ok (.iload 4, 2) := by decide +kernel
theorem dX9_setsWithin_11 : decode cX9_setsWithin 11 = .ok (.iload_n 2, 1) := by decide +kernel
theorem dX9_setsWithin_12 : decode cX9_setsWithin 12 = .ok (.if_icmp .gt 26, 3) := by decide +kernel
theorem dX9_setsWithin_15 : decode cX9_setsWithin 15 = .ok (.iload 4, 2) := by decide +kernel
theorem dX9_setsWithin_17 : decode cX9_setsWithin 17 = .ok (.bipush 81, 2) := by decide +kernel
theorem dX9_setsWithin_19 : decode cX9_setsWithin 19 = .ok (.if_icmp .gt 19, 3) := by decide +kernel
theorem dX9_setsWithin_22 : decode cX9_setsWithin 22 = .ok (.iload_n 3, 1) := by decide +kernel
theorem dX9_setsWithin_23 : decode cX9_setsWithin 23 = .ok (.aload_n 0, 1) := by decide +kernel
theorem dX9_setsWithin_24 : decode cX9_setsWithin 24 = .ok (.getfield 9, 3) := by decide +kernel
theorem dX9_setsWithin_27 : decode cX9_setsWithin 27 = .ok (.iload 4, 2) := by decide +kernel
theorem dX9_setsWithin_29 : decode cX9_setsWithin 29 = .ok (.iaload, 1) := by decide +kernel
theorem dX9_setsWithin_30 : decode cX9_setsWithin 30 = .ok (.iadd, 1) := by decide +kernel
theorem dX9_setsWithin_31 : decode cX9_setsWithin 31 = .ok (.istore_n 3, 1) := by decide +kernel
theorem dX9_setsWithin_32 : decode cX9_setsWithin 32 = .ok (.iinc 4 1, 3) := by decide +kernel
theorem dX9_setsWithin_35 : decode cX9_setsWithin 35 = .ok (.goto (-26), 3) := by decide +kernel
theorem dX9_setsWithin_38 : decode cX9_setsWithin 38 = .ok (.iload_n 3, 1) := by decide +kernel
theorem dX9_setsWithin_39 : decode cX9_setsWithin 39 = .ok (.ireturn, 1) := by decide +kernel
theorem dX10_init_0 : decode cX10_init 0 = .ok (.aload_n 0, 1) := by decide +kernel
theorem dX10_init_1 : decode cX10_init 1 = .ok (.invokespecial 1, 3) := by decide +kernel
theorem dX10_init_4 : decode cX10_init 4 = .ok (.aload_n 0, 1) := by decide +kernel
theorem dX10_init_5 : decode cX10_init 5 = .ok (.new 7, 3) := by decide +kernel
theorem dX10_init_8 : decode cX10_init 8 = .ok (.dup, 1) := by decide +kernel
theorem dX10_init_9 : decode cX10_init 9 = .ok (.invokespecial 9, 3) := by decide +kernel
theorem dX10_init_12 : decode cX10_init 12 = .ok (.putfield 10, 3) := by decide +kernel
theorem dX10_init_15 : decode cX10_init 15 = .ok (.aload_n 0, 1) := by decide +kernel
theorem dX10_init_16 : decode cX10_init 16 = .ok (.new 16, 3) := by decide +kernel
theorem dX10_init_19 : decode cX10_init 19 = .ok (.dup, 1) := by decide +kernel
theorem dX10_init_20 : decode cX10_init 20 = .ok (.invokespecial 18, 3) := by decide +kernel
theorem dX10_init_23 : decode cX10_init 23 = .ok (.putfield 19, 3) := by decide +kernel
theorem dX10_init_26 : decode cX10_init 26 = .ok (.aload_n 0, 1) := by decide +kernel
theorem dX10_init_27 : decode cX10_init 27 = .ok (.new 23, 3) := by decide +kernel
theorem dX10_init_30 : decode cX10_init 30 = .ok (.dup, 1) := by decide +kernel
theorem dX10_init_31 : decode cX10_init 31 = .ok (.invokespecial 25, 3) := by decide +kernel
theorem dX10_init_34 : decode cX10_init 34 = .ok (.putfield 26, 3) := by decide +kernel
theorem dX10_init_37 : decode cX10_init 37 = .ok (.aload_n 0, 1) := by decide +kernel
theorem dX10_init_38 : decode cX10_init 38 = .ok (.new 30, 3) := by decide +kernel
theorem dX10_init_41 : decode cX10_init 41 = .ok (.dup, 1) := by decide +kernel
theorem dX10_init_42 : decode cX10_init 42 = .ok (.invokespecial 32, 3) := by decide +kernel
theorem dX10_init_45 : decode cX10_init 45 = .ok (.putfield 33, 3) := by decide +kernel
theorem dX10_init_48 : decode cX10_init 48 = .ok (.aload_n 0, 1) := by decide +kernel
theorem dX10_init_49 : decode cX10_init 49 = .ok (.new 37, 3) := by decide +kernel
theorem dX10_init_52 : decode cX10_init 52 = .ok (.dup, 1) := by decide +kernel
theorem dX10_init_53 : decode cX10_init 53 = .ok (.invokespecial 39, 3) := by decide +kernel
theorem dX10_init_56 : decode cX10_init 56 = .ok (.putfield 40, 3) := by decide +kernel
theorem dX10_init_59 : decode cX10_init 59 = .ok (.aload_n 0, 1) := by decide +kernel
theorem dX10_init_60 : decode cX10_init 60 = .ok (.new 37, 3) := by decide +kernel
theorem dX10_init_63 : decode cX10_init 63 = .ok (.dup, 1) := by decide +kernel
theorem dX10_init_64 : decode cX10_init 64 = .ok (.invokespecial 39, 3) := by decide +kernel
theorem dX10_init_67 : decode cX10_init 67 = .ok (.putfield 44, 3) := by decide +kernel
theorem dX10_init_70 : decode cX10_init 70 = .ok (.aload_n 0, 1) := by decide +kernel
theorem dX10_init_71 : decode cX10_init 71 = .ok (.new 47, 3) := by decide +kernel
theorem dX10_init_74 : decode cX10_init 74 = .ok (.dup, 1) := by decide +kernel
theorem dX10_init_75 : decode cX10_init 75 = .ok (.invokespecial 49, 3) := by decide +kernel
theorem dX10_init_78 : decode cX10_init 78 = .ok (.putfield 50, 3) := by decide +kernel
theorem dX10_init_81 : decode cX10_init 81 = .ok (.aload_n 0, 1) := by decide +kernel
theorem dX10_init_82 : decode cX10_init 82 = .ok (.new 54, 3) := by decide +kernel
theorem dX10_init_85 : decode cX10_init 85 = .ok (.dup, 1) := by decide +kernel
theorem dX10_init_86 : decode cX10_init 86 = .ok (.invokespecial 56, 3) := by decide +kernel
theorem dX10_init_89 : decode cX10_init 89 = .ok (.putfield 57, 3) := by decide +kernel
theorem dX10_init_92 : decode cX10_init 92 = .ok (.aload_n 0, 1) := by decide +kernel
theorem dX10_init_93 : decode cX10_init 93 = .ok (.new 61, 3) := by decide +kernel
theorem dX10_init_96 : decode cX10_init 96 = .ok (.dup, 1) := by decide +kernel
theorem dX10_init_97 : decode cX10_init 97 = .ok (.invokespecial 63, 3) := by decide +kernel
theorem dX10_init_100 : decode cX10_init 100 = .ok (.putfield 64, 3) := by decide +kernel
theorem dX10_init_103 : decode cX10_init 103 = .ok (.aload_n 0, 1) := by decide +kernel
theorem dX10_init_104 : decode cX10_init 104 = .ok (.new 68, 3) := by decide +kernel
theorem dX10_init_107 : decode cX10_init 107 = .ok (.dup, 1) := by decide +kernel
theorem dX10_init_108 : decode cX10_init 108 = .ok (.invokespecial 70, 3) := by decide +kernel
theorem dX10_init_111 : decode cX10_init 111 = .ok (.putfield 71, 3) := by decide +kernel
theorem dX10_init_114 : decode cX10_init 114 = .ok (.return_, 1) := by decide +kernel
theorem dX10_one_0 : decode cX10_one 0 = .ok (.iload_n 1, 1) := by decide +kernel
theorem dX10_one_1 : decode cX10_one 1 = .ok (.invokestatic 75, 3) := by decide +kernel
theorem dX10_one_4 : decode cX10_one 4 = .ok (.ifCond .ne 5, 3) := by decide +kernel
theorem dX10_one_7 : decode cX10_one 7 = .ok (.iconst (-1), 1) := by decide +kernel
theorem dX10_one_8 : decode cX10_one 8 = .ok (.ireturn, 1) := by decide +kernel
theorem dX10_one_9 : decode cX10_one 9 = .ok (.iload_n 2, 1) := by decide +kernel
theorem dX10_one_10 : decode cX10_one 10 = .ok (.invokestatic 79, 3) := by decide +kernel
theorem dX10_one_13 : decode cX10_one 13 = .ok (.ifCond .ne 8, 3) := by decide +kernel
theorem dX10_one_16 : decode cX10_one 16 = .ok (.iload_n 2, 1) := by decide +kernel
theorem dX10_one_17 : decode cX10_one 17 = .ok (.iconst (-1), 1) := by decide +kernel
theorem dX10_one_18 : decode cX10_one 18 = .ok (.if_icmp .ne 7, 3) := by decide +kernel
theorem dX10_one_21 : decode cX10_one 21 = .ok (.iconst 1, 1) := by decide +kernel
theorem dX10_one_22 : decode cX10_one 22 = .ok (.goto 4, 3) := by decide +kernel
theorem dX10_one_25 : decode cX10_one 25 = .ok (.iconst 0, 1) := by decide +kernel
theorem dX10_one_26 : decode cX10_one 26 = .ok (.istore 5, 2) := by decide +kernel
theorem dX10_one_28 : decode cX10_one 28 = .ok (.iload 5, 2) := by decide +kernel
theorem dX10_one_30 : decode cX10_one 30 = .ok (.ifCond .eq 24, 3) := by decide +kernel
theorem dX10_one_33 : decode cX10_one 33 = .ok (.iload_n 3, 1) := by decide +kernel
theorem dX10_one_34 : decode cX10_one 34 = .ok (.iconst 0, 1) := by decide +kernel
theorem dX10_one_35 : decode cX10_one 35 = .ok (.bipush 9, 2) := by decide +kernel
theorem dX10_one_37 : decode cX10_one 37 = .ok (.invokestatic 82, 3) := by decide +kernel
theorem dX10_one_40 : decode cX10_one 40 = .ok (.ifCond .eq 14, 3) := by decide +kernel
theorem dX10_one_43 : decode cX10_one 43 = .ok (.iload 4, 2) := by decide +kernel
theorem dX10_one_45 : decode cX10_one 45 = .ok (.iconst 0, 1) := by decide +kernel
theorem dX10_one_46 : decode cX10_one 46 = .ok (.bipush 99, 2) := by decide +kernel
theorem dX10_one_48 : decode cX10_one 48 = .ok (.invokestatic 82, 3) := by decide +kernel
theorem dX10_one_51 : decode cX10_one 51 = .ok (.ifCond .ne 6, 3) := by decide +kernel
theorem dX10_one_54 : decode cX10_one 54 = .ok (.bipush (-2), 2) := by decide +kernel
theorem dX10_one_56 : decode cX10_one 56 = .ok (.ireturn, 1) := by decide +kernel
theorem dX10_one_57 : decode cX10_one 57 = .ok (.bipush 100, 2) := by decide +kernel
theorem dX10_one_59 : decode cX10_one 59 = .ok (.aload_n 0, 1) := by decide +kernel
theorem dX10_one_60 : decode cX10_one 60 = .ok (.getfield 10, 3) := by decide +kernel
theorem dX10_one_63 : decode cX10_one 63 = .ok (.getfield 86, 3) := by decide +kernel
theorem dX10_one_66 : decode cX10_one 66 = .ok (.iload_n 1, 1) := by decide +kernel
theorem dX10_one_67 : decode cX10_one 67 = .ok (.iaload, 1) := by decide +kernel
theorem dX10_one_68 : decode cX10_one 68 = .ok (.imul, 1) := by decide +kernel
theorem dX10_one_69 : decode cX10_one 69 = .ok (.aload_n 0, 1) := by decide +kernel
theorem dX10_one_70 : decode cX10_one 70 = .ok (.getfield 10, 3) := by decide +kernel
theorem dX10_one_73 : decode cX10_one 73 = .ok (.getfield 90, 3) := by decide +kernel
theorem dX10_one_76 : decode cX10_one 76 = .ok (.iload_n 1, 1) := by decide +kernel
theorem dX10_one_77 : decode cX10_one 77 = .ok (.iaload, 1) := by decide +kernel
theorem dX10_one_78 : decode cX10_one 78 = .ok (.iadd, 1) := by decide +kernel
theorem dX10_one_79 : decode cX10_one 79 = .ok (.istore 6, 2) := by decide +kernel
theorem dX10_one_81 : decode cX10_one 81 = .ok (.aload_n 0, 1) := by decide +kernel
theorem dX10_one_82 : decode cX10_one 82 = .ok (.getfield 10, 3) := by decide +kernel
theorem dX10_one_85 : decode cX10_one 85 = .ok (.getfield 93, 3) := by decide +kernel
theorem dX10_one_88 : decode cX10_one 88 = .ok (.iload_n 1, 1) := by decide +kernel
theorem dX10_one_89 : decode cX10_one 89 = .ok (.iload_n 2, 1) := by decide +kernel
theorem dX10_one_90 : decode cX10_one 90 = .ok (.iastore, 1) := by decide +kernel
theorem dX10_one_91 : decode cX10_one 91 = .ok (.aload_n 0, 1) := by decide +kernel
theorem dX10_one_92 : decode cX10_one 92 = .ok (.getfield 10, 3) := by decide +kernel
theorem dX10_one_95 : decode cX10_one 95 = .ok (.getfield 86, 3) := by decide +kernel
theorem dX10_one_98 : decode cX10_one 98 = .ok (.iload_n 1, 1) := by decide +kernel
theorem dX10_one_99 : decode cX10_one 99 = .ok (.iload_n 3, 1) := by decide +kernel
theorem dX10_one_100 : decode cX10_one 100 = .ok (.iastore, 1) := by decide +kernel
theorem dX10_one_101 : decode cX10_one 101 = .ok (.aload_n 0, 1) := by decide +kernel
theorem dX10_one_102 : decode cX10_one 102 = .ok (.getfield 10, 3) := by decide +kernel
theorem dX10_one_105 : decode cX10_one 105 = .ok (.getfield 90, 3) := by decide +kernel
theorem dX10_one_108 : decode cX10_one 108 = .ok (.iload_n 1, 1) := by decide +kernel
theorem dX10_one_109 : decode cX10_one 109 = .ok (.iload 4, 2) := by decide +kernel
theorem dX10_one_111 : decode cX10_one 111 = .ok (.iastore, 1) := by decide +kernel
theorem dX10_one_112 : decode cX10_one 112 = .ok (.iload 6, 2) := by decide +kernel
theorem dX10_one_114 : decode cX10_one 114 = .ok (.ireturn, 1) := by decide +kernel
theorem dX10_cart_0 : decode cX10_cart 0 = .ok (.iload_n 1, 1) := by decide +kernel
theorem dX10_cart_1 : decode cX10_cart 1 = .ok (.invokestatic 96, 3) := by decide +kernel
theorem dX10_cart_4 : decode cX10_cart 4 = .ok (.ifCond .ne 5, 3) := by decide +kernel
theorem dX10_cart_7 : decode cX10_cart 7 = .ok (.iconst (-1), 1) := by decide +kernel
theorem dX10_cart_8 : decode cX10_cart 8 = .ok (.ireturn, 1) := by decide +kernel
theorem dX10_cart_9 : decode cX10_cart 9 = .ok (.iload_n 2, 1) := by decide +kernel
theorem dX10_cart_10 : decode cX10_cart 10 = .ok (.iconst 0, 1) := by decide +kernel
theorem dX10_cart_11 : decode cX10_cart 11 = .ok (.bipush 9, 2) := by decide +kernel
theorem dX10_cart_13 : decode cX10_cart 13 = .ok (.invokestatic 82, 3) := by decide +kernel
theorem dX10_cart_16 : decode cX10_cart 16 = .ok (.ifCond .ne 6, 3) := by decide +kernel
theorem dX10_cart_19 : decode cX10_cart 19 = .ok (.bipush (-2), 2) := by decide +kernel
theorem dX10_cart_21 : decode cX10_cart 21 = .ok (.ireturn, 1) := by decide +kernel
theorem dX10_cart_22 : decode cX10_cart 22 = .ok (.aload_n 0, 1) := by decide +kernel
theorem dX10_cart_23 : decode cX10_cart 23 = .ok (.getfield 10, 3) := by decide +kernel
theorem dX10_cart_26 : decode cX10_cart 26 = .ok (.getfield 99, 3) := by decide +kernel
theorem dX10_cart_29 : decode cX10_cart 29 = .ok (.iload_n 1, 1) := by decide +kernel
theorem dX10_cart_30 : decode cX10_cart 30 = .ok (.iaload, 1) := by decide +kernel
theorem dX10_cart_31 : decode cX10_cart 31 = .ok (.istore_n 3, 1) := by decide +kernel
theorem dX10_cart_32 : decode cX10_cart 32 = .ok (.aload_n 0, 1) := by decide +kernel
theorem dX10_cart_33 : decode cX10_cart 33 = .ok (.getfield 10, 3) := by decide +kernel
theorem dX10_cart_36 : decode cX10_cart 36 = .ok (.getfield 99, 3) := by decide +kernel
theorem dX10_cart_39 : decode cX10_cart 39 = .ok (.iload_n 1, 1) := by decide +kernel
theorem dX10_cart_40 : decode cX10_cart 40 = .ok (.iload_n 2, 1) := by decide +kernel
theorem dX10_cart_41 : decode cX10_cart 41 = .ok (.iastore, 1) := by decide +kernel
theorem dX10_cart_42 : decode cX10_cart 42 = .ok (.iload_n 3, 1) := by decide +kernel
theorem dX10_cart_43 : decode cX10_cart 43 = .ok (.ireturn, 1) := by decide +kernel
theorem dX10_day_0 : decode cX10_day 0 = .ok (.iload_n 1, 1) := by decide +kernel
theorem dX10_day_1 : decode cX10_day 1 = .ok (.invokestatic 79, 3) := by decide +kernel
theorem dX10_day_4 : decode cX10_day 4 = .ok (.ifCond .ne 6, 3) := by decide +kernel
theorem dX10_day_7 : decode cX10_day 7 = .ok (.bipush (-2), 2) := by decide +kernel
theorem dX10_day_9 : decode cX10_day 9 = .ok (.ireturn, 1) := by decide +kernel
theorem dX10_day_10 : decode cX10_day 10 = .ok (.aload_n 0, 1) := by decide +kernel
theorem dX10_day_11 : decode cX10_day 11 = .ok (.getfield 10, 3) := by decide +kernel
theorem dX10_day_14 : decode cX10_day 14 = .ok (.getfield 102, 3) := by decide +kernel
theorem dX10_day_17 : decode cX10_day 17 = .ok (.istore_n 2, 1) := by decide +kernel
theorem dX10_day_18 : decode cX10_day 18 = .ok (.aload_n 0, 1) := by decide +kernel
theorem dX10_day_19 : decode cX10_day 19 = .ok (.getfield 10, 3) := by decide +kernel
theorem dX10_day_22 : decode cX10_day 22 = .ok (.iload_n 1, 1) := by decide +kernel
theorem dX10_day_23 : decode cX10_day 23 = .ok (.putfield 102, 3) := by decide +kernel
theorem dX10_day_26 : decode cX10_day 26 = .ok (.iload_n 2, 1) := by decide +kernel
theorem dX10_day_27 : decode cX10_day 27 = .ok (.ireturn, 1) := by decide +kernel
theorem dX10_say_0 : decode cX10_say 0 = .ok (.iload_n 1, 1) := by decide +kernel
theorem dX10_say_1 : decode cX10_say 1 = .ok (.bipush 33, 2) := by decide +kernel
theorem dX10_say_3 : decode cX10_say 3 = .ok (.bipush 126, 2) := by decide +kernel
theorem dX10_say_5 : decode cX10_say 5 = .ok (.invokestatic 82, 3) := by decide +kernel
theorem dX10_say_8 : decode cX10_say 8 = .ok (.ifCond .ne 6, 3) := by decide +kernel
theorem dX10_say_11 : decode cX10_say 11 = .ok (.bipush (-2), 2) := by decide +kernel
theorem dX10_say_13 : decode cX10_say 13 = .ok (.ireturn, 1) := by decide +kernel
theorem dX10_say_14 : decode cX10_say 14 = .ok (.aload_n 0, 1) := by decide +kernel
theorem dX10_say_15 : decode cX10_say 15 = .ok (.getfield 19, 3) := by decide +kernel
theorem dX10_say_18 : decode cX10_say 18 = .ok (.iload_n 1, 1) := by decide +kernel
theorem dX10_say_19 : decode cX10_say 19 = .ok (.invokevirtual 106, 3) := by decide +kernel
theorem dX10_say_22 : decode cX10_say 22 = .ok (.ifCond .eq 13, 3) := by decide +kernel
theorem dX10_say_25 : decode cX10_say 25 = .ok (.aload_n 0, 1) := by decide +kernel
theorem dX10_say_26 : decode cX10_say 26 = .ok (.getfield 19, 3) := by decide +kernel
theorem dX10_say_29 : decode cX10_say 29 = .ok (.getfield 109, 3) := by decide +kernel
theorem dX10_say_32 : decode cX10_say 32 = .ok (.goto 5, 3) := by decide +kernel
theorem dX10_say_35 : decode cX10_say 35 = .ok (.bipush (-4), 2) := by decide +kernel
theorem dX10_say_37 : decode cX10_say 37 = .ok (.ireturn, 1) := by decide +kernel
theorem dX10_wipe_0 : decode cX10_wipe 0 = .ok (.aload_n 0, 1) := by decide +kernel
theorem dX10_wipe_1 : decode cX10_wipe 1 = .ok (.getfield 19, 3) := by decide +kernel
theorem dX10_wipe_4 : decode cX10_wipe 4 = .ok (.invokevirtual 112, 3) := by decide +kernel
theorem dX10_wipe_7 : decode cX10_wipe 7 = .ok (.ireturn, 1) := by decide +kernel
theorem dX10_fault_0 : decode cX10_fault 0 = .ok (.aload_n 0, 1) := by decide +kernel
theorem dX10_fault_1 : decode cX10_fault 1 = .ok (.getfield 19, 3) := by decide +kernel
theorem dX10_fault_4 : decode cX10_fault 4 = .ok (.invokevirtual 116, 3) := by decide +kernel
theorem dX10_fault_7 : decode cX10_fault 7 = .ok (.ireturn, 1) := by decide +kernel
theorem dX10_judge_0 : decode cX10_judge 0 = .ok (.iload_n 1, 1) := by decide +kernel
theorem dX10_judge_1 : decode cX10_judge 1 = .ok (.iconst 0, 1) := by decide +kernel
theorem dX10_judge_2 : decode cX10_judge 2 = .ok (.iconst 1, 1) := by decide +kernel
theorem dX10_judge_3 : decode cX10_judge 3 = .ok (.invokestatic 82, 3) := by decide +kernel
theorem dX10_judge_6 : decode cX10_judge 6 = .ok (.ifCond .ne 6, 3) := by decide +kernel
theorem dX10_judge_9 : decode cX10_judge 9 = .ok (.bipush (-2), 2) := by decide +kernel
theorem dX10_judge_11 : decode cX10_judge 11 = .ok (.ireturn, 1) := by decide +kernel
theorem dX10_judge_12 : decode cX10_judge 12 = .ok (.aload_n 0, 1) := by decide +kernel
theorem dX10_judge_13 : decode cX10_judge 13 = .ok (.getfield 19, 3) := by decide +kernel
theorem dX10_judge_16 : decode cX10_judge 16 = .ok (.invokevirtual 116, 3) := by decide +kernel
theorem dX10_judge_19 : decode cX10_judge 19 = .ok (.bipush (-6), 2) := by decide +kernel
theorem dX10_judge_21 : decode cX10_judge 21 = .ok (.if_icmp .eq 6, 3) := by decide +kernel
theorem dX10_judge_24 : decode cX10_judge 24 = .ok (.bipush (-5), 2) := by decide +kernel
theorem dX10_judge_26 : decode cX10_judge 26 = .ok (.ireturn, 1) := by decide +kernel
theorem dX10_judge_27 : decode cX10_judge 27 = .ok (.aload_n 0, 1) := by decide +kernel
theorem dX10_judge_28 : decode cX10_judge 28 = .ok (.getfield 26, 3) := by decide +kernel
theorem dX10_judge_31 : decode cX10_judge 31 = .ok (.aload_n 0, 1) := by decide +kernel
theorem dX10_judge_32 : decode cX10_judge 32 = .ok (.getfield 19, 3) := by decide +kernel
theorem dX10_judge_35 : decode cX10_judge 35 = .ok (.aload_n 0, 1) := by decide +kernel
theorem dX10_judge_36 : decode cX10_judge 36 = .ok (.getfield 10, 3) := by decide +kernel
theorem dX10_judge_39 : decode cX10_judge 39 = .ok (.invokevirtual 119, 3) := by decide +kernel
theorem dX10_judge_42 : decode cX10_judge 42 = .ok (.aload_n 0, 1) := by decide +kernel
theorem dX10_judge_43 : decode cX10_judge 43 = .ok (.getfield 26, 3) := by decide +kernel
theorem dX10_judge_46 : decode cX10_judge 46 = .ok (.getfield 123, 3) := by decide +kernel
theorem dX10_judge_49 : decode cX10_judge 49 = .ok (.ifCond .ne 6, 3) := by decide +kernel
theorem dX10_judge_52 : decode cX10_judge 52 = .ok (.bipush (-6), 2) := by decide +kernel
theorem dX10_judge_54 : decode cX10_judge 54 = .ok (.ireturn, 1) := by decide +kernel
theorem dX10_judge_55 : decode cX10_judge 55 = .ok (.iload_n 1, 1) := by decide +kernel
theorem dX10_judge_56 : decode cX10_judge 56 = .ok (.ifCond .ne 13, 3) := by decide +kernel
theorem dX10_judge_59 : decode cX10_judge 59 = .ok (.aload_n 0, 1) := by decide +kernel
theorem dX10_judge_60 : decode cX10_judge 60 = .ok (.getfield 26, 3) := by decide +kernel
theorem dX10_judge_63 : decode cX10_judge 63 = .ok (.getfield 126, 3) := by decide +kernel
theorem dX10_judge_66 : decode cX10_judge 66 = .ok (.goto 10, 3) := by decide +kernel
theorem dX10_judge_69 : decode cX10_judge 69 = .ok (.aload_n 0, 1) := by decide +kernel
theorem dX10_judge_70 : decode cX10_judge 70 = .ok (.getfield 26, 3) := by decide +kernel
theorem dX10_judge_73 : decode cX10_judge 73 = .ok (.getfield 123, 3) := by decide +kernel
theorem dX10_judge_76 : decode cX10_judge 76 = .ok (.ireturn, 1) := by decide +kernel
theorem dX10_done_0 : decode cX10_done 0 = .ok (.aload_n 0, 1) := by decide +kernel
theorem dX10_done_1 : decode cX10_done 1 = .ok (.invokevirtual 129, 3) := by decide +kernel
theorem dX10_done_4 : decode cX10_done 4 = .ok (.ifCond .ne 6, 3) := by decide +kernel
theorem dX10_done_7 : decode cX10_done 7 = .ok (.bipush (-5), 2) := by decide +kernel
theorem dX10_done_9 : decode cX10_done 9 = .ok (.ireturn, 1) := by decide +kernel
theorem dX10_done_10 : decode cX10_done 10 = .ok (.aload_n 0, 1) := by decide +kernel
theorem dX10_done_11 : decode cX10_done 11 = .ok (.getfield 10, 3) := by decide +kernel
theorem dX10_done_14 : decode cX10_done 14 = .ok (.aload_n 0, 1) := by decide +kernel
theorem dX10_done_15 : decode cX10_done 15 = .ok (.getfield 26, 3) := by decide +kernel
theorem dX10_done_18 : decode cX10_done 18 = .ok (.getfield 133, 3) := by decide +kernel
theorem dX10_done_21 : decode cX10_done 21 = .ok (.invokevirtual 136, 3) := by decide +kernel
theorem dX10_done_24 : decode cX10_done 24 = .ok (.aload_n 0, 1) := by decide +kernel
theorem dX10_done_25 : decode cX10_done 25 = .ok (.getfield 19, 3) := by decide +kernel
theorem dX10_done_28 : decode cX10_done 28 = .ok (.invokevirtual 112, 3) := by decide +kernel
theorem dX10_done_31 : decode cX10_done 31 = .ok (.pop, 1) := by decide +kernel
theorem dX10_done_32 : decode cX10_done 32 = .ok (.aload_n 0, 1) := by decide +kernel
theorem dX10_done_33 : decode cX10_done 33 = .ok (.getfield 26, 3) := by decide +kernel
theorem dX10_done_36 : decode cX10_done 36 = .ok (.getfield 126, 3) := by decide +kernel
theorem dX10_done_39 : decode cX10_done 39 = .ok (.ireturn, 1) := by decide +kernel
theorem dX10_behind_0 : decode cX10_behind 0 = .ok (.iload_n 1, 1) := by decide +kernel
theorem dX10_behind_1 : decode cX10_behind 1 = .ok (.invokestatic 75, 3) := by decide +kernel
theorem dX10_behind_4 : decode cX10_behind 4 = .ok (.ifCond .ne 5, 3) := by decide +kernel
theorem dX10_behind_7 : decode cX10_behind 7 = .ok (.iconst (-1), 1) := by decide +kernel
theorem dX10_behind_8 : decode cX10_behind 8 = .ok (.ireturn, 1) := by decide +kernel
theorem dX10_behind_9 : decode cX10_behind 9 = .ok (.iload_n 2, 1) := by decide +kernel
theorem dX10_behind_10 : decode cX10_behind 10 = .ok (.iconst 0, 1) := by decide +kernel
theorem dX10_behind_11 : decode cX10_behind 11 = .ok (.iconst 2, 1) := by decide +kernel
theorem dX10_behind_12 : decode cX10_behind 12 = .ok (.invokestatic 82, 3) := by decide +kernel
theorem dX10_behind_15 : decode cX10_behind 15 = .ok (.ifCond .ne 6, 3) := by decide +kernel
theorem dX10_behind_18 : decode cX10_behind 18 = .ok (.bipush (-2), 2) := by decide +kernel
theorem dX10_behind_20 : decode cX10_behind 20 = .ok (.ireturn, 1) := by decide +kernel
theorem dX10_behind_21 : decode cX10_behind 21 = .ok (.aload_n 0, 1) := by decide +kernel
theorem dX10_behind_22 : decode cX10_behind 22 = .ok (.invokevirtual 129, 3) := by decide +kernel
theorem dX10_behind_25 : decode cX10_behind 25 = .ok (.ifCond .ne 6, 3) := by decide +kernel
theorem dX10_behind_28 : decode cX10_behind 28 = .ok (.bipush (-5), 2) := by decide +kernel
theorem dX10_behind_30 : decode cX10_behind 30 = .ok (.ireturn, 1) := by decide +kernel
theorem dX10_behind_31 : decode cX10_behind 31 = .ok (.iload_n 2, 1) := by decide +kernel
theorem dX10_behind_32 : decode cX10_behind 32 = .ok (.lookupswitch 57 #[(0, 28), (1, 44)], 28) := by decide +kernel
theorem dX10_behind_60 : decode cX10_behind 60 = .ok (.aload_n 0, 1) := by decide +kernel
theorem dX10_behind_61 : decode cX10_behind 61 = .ok (.getfield 26, 3) := by decide +kernel
theorem dX10_behind_64 : decode cX10_behind 64 = .ok (.getfield 133, 3) := by decide +kernel
theorem dX10_behind_67 : decode cX10_behind 67 = .ok (.getfield 93, 3) := by decide +kernel
theorem dX10_behind_70 : decode cX10_behind 70 = .ok (.iload_n 1, 1) := by decide +kernel
theorem dX10_behind_71 : decode cX10_behind 71 = .ok (.iaload, 1) := by decide +kernel
theorem dX10_behind_72 : decode cX10_behind 72 = .ok (.invokestatic 140, 3) := by decide +kernel
theorem dX10_behind_75 : decode cX10_behind 75 = .ok (.ireturn, 1) := by decide +kernel
theorem dX10_behind_76 : decode cX10_behind 76 = .ok (.aload_n 0, 1) := by decide +kernel
theorem dX10_behind_77 : decode cX10_behind 77 = .ok (.getfield 26, 3) := by decide +kernel
theorem dX10_behind_80 : decode cX10_behind 80 = .ok (.getfield 133, 3) := by decide +kernel
theorem dX10_behind_83 : decode cX10_behind 83 = .ok (.getfield 86, 3) := by decide +kernel
theorem dX10_behind_86 : decode cX10_behind 86 = .ok (.iload_n 1, 1) := by decide +kernel
theorem dX10_behind_87 : decode cX10_behind 87 = .ok (.iaload, 1) := by decide +kernel
theorem dX10_behind_88 : decode cX10_behind 88 = .ok (.ireturn, 1) := by decide +kernel
theorem dX10_behind_89 : decode cX10_behind 89 = .ok (.aload_n 0, 1) := by decide +kernel
theorem dX10_behind_90 : decode cX10_behind 90 = .ok (.getfield 26, 3) := by decide +kernel
theorem dX10_behind_93 : decode cX10_behind 93 = .ok (.getfield 133, 3) := by decide +kernel
theorem dX10_behind_96 : decode cX10_behind 96 = .ok (.getfield 90, 3) := by decide +kernel
theorem dX10_behind_99 : decode cX10_behind 99 = .ok (.iload_n 1, 1) := by decide +kernel
theorem dX10_behind_100 : decode cX10_behind 100 = .ok (.iaload, 1) := by decide +kernel
theorem dX10_behind_101 : decode cX10_behind 101 = .ok (.ireturn, 1) := by decide +kernel
theorem dX10_comes_0 : decode cX10_comes 0 = .ok (.iload_n 1, 1) := by decide +kernel
theorem dX10_comes_1 : decode cX10_comes 1 = .ok (.invokestatic 96, 3) := by decide +kernel
theorem dX10_comes_4 : decode cX10_comes 4 = .ok (.ifCond .ne 5, 3) := by decide +kernel
theorem dX10_comes_7 : decode cX10_comes 7 = .ok (.iconst (-1), 1) := by decide +kernel
theorem dX10_comes_8 : decode cX10_comes 8 = .ok (.ireturn, 1) := by decide +kernel
theorem dX10_comes_9 : decode cX10_comes 9 = .ok (.aload_n 0, 1) := by decide +kernel
theorem dX10_comes_10 : decode cX10_comes 10 = .ok (.invokevirtual 129, 3) := by decide +kernel
theorem dX10_comes_13 : decode cX10_comes 13 = .ok (.ifCond .eq 18, 3) := by decide +kernel
theorem dX10_comes_16 : decode cX10_comes 16 = .ok (.aload_n 0, 1) := by decide +kernel
theorem dX10_comes_17 : decode cX10_comes 17 = .ok (.getfield 26, 3) := by decide +kernel
theorem dX10_comes_20 : decode cX10_comes 20 = .ok (.getfield 133, 3) := by decide +kernel
theorem dX10_comes_23 : decode cX10_comes 23 = .ok (.getfield 99, 3) := by decide +kernel
theorem dX10_comes_26 : decode cX10_comes 26 = .ok (.iload_n 1, 1) := by decide +kernel
theorem dX10_comes_27 : decode cX10_comes 27 = .ok (.iaload, 1) := by decide +kernel
theorem dX10_comes_28 : decode cX10_comes 28 = .ok (.goto 5, 3) := by decide +kernel
theorem dX10_comes_31 : decode cX10_comes 31 = .ok (.bipush (-5), 2) := by decide +kernel
theorem dX10_comes_33 : decode cX10_comes 33 = .ok (.ireturn, 1) := by decide +kernel
theorem dX10_then_0 : decode cX10_then 0 = .ok (.iload_n 1, 1) := by decide +kernel
theorem dX10_then_1 : decode cX10_then 1 = .ok (.iconst 0, 1) := by decide +kernel
theorem dX10_then_2 : decode cX10_then 2 = .ok (.bipush 6, 2) := by decide +kernel
theorem dX10_then_4 : decode cX10_then 4 = .ok (.invokestatic 82, 3) := by decide +kernel
theorem dX10_then_7 : decode cX10_then 7 = .ok (.ifCond .ne 6, 3) := by decide +kernel
theorem dX10_then_10 : decode cX10_then 10 = .ok (.bipush (-2), 2) := by decide +kernel
theorem dX10_then_12 : decode cX10_then 12 = .ok (.ireturn, 1) := by decide +kernel
theorem dX10_then_13 : decode cX10_then 13 = .ok (.aload_n 0, 1) := by decide +kernel
theorem dX10_then_14 : decode cX10_then 14 = .ok (.invokevirtual 129, 3) := by decide +kernel
theorem dX10_then_17 : decode cX10_then 17 = .ok (.ifCond .ne 6, 3) := by decide +kernel
theorem dX10_then_20 : decode cX10_then 20 = .ok (.bipush (-5), 2) := by decide +kernel
theorem dX10_then_22 : decode cX10_then 22 = .ok (.ireturn, 1) := by decide +kernel
theorem dX10_then_23 : decode cX10_then 23 = .ok (.aload_n 0, 1) := by decide +kernel
theorem dX10_then_24 : decode cX10_then 24 = .ok (.getfield 26, 3) := by decide +kernel
theorem dX10_then_27 : decode cX10_then 27 = .ok (.getfield 133, 3) := by decide +kernel
theorem dX10_then_30 : decode cX10_then 30 = .ok (.astore_n 2, 1) := by decide +kernel
theorem dX10_then_31 : decode cX10_then 31 = .ok (.iload_n 1, 1) := by decide +kernel
theorem dX10_then_32 : decode cX10_then 32 = .ok (.tableswitch 90 0 5 #[40, 45, 50, 59, 72, 77], 40) := by decide +kernel
theorem dX10_then_72 : decode cX10_then 72 = .ok (.aload_n 2, 1) := by decide +kernel
theorem dX10_then_73 : decode cX10_then 73 = .ok (.getfield 102, 3) := by decide +kernel
theorem dX10_then_76 : decode cX10_then 76 = .ok (.ireturn, 1) := by decide +kernel
theorem dX10_then_77 : decode cX10_then 77 = .ok (.aload_n 2, 1) := by decide +kernel
theorem dX10_then_78 : decode cX10_then 78 = .ok (.invokevirtual 144, 3) := by decide +kernel
theorem dX10_then_81 : decode cX10_then 81 = .ok (.ireturn, 1) := by decide +kernel
theorem dX10_then_82 : decode cX10_then 82 = .ok (.aload_n 2, 1) := by decide +kernel
theorem dX10_then_83 : decode cX10_then 83 = .ok (.aload_n 2, 1) := by decide +kernel
theorem dX10_then_84 : decode cX10_then 84 = .ok (.invokevirtual 144, 3) := by decide +kernel
theorem dX10_then_87 : decode cX10_then 87 = .ok (.invokevirtual 147, 3) := by decide +kernel
theorem dX10_then_90 : decode cX10_then 90 = .ok (.ireturn, 1) := by decide +kernel
theorem dX10_then_91 : decode cX10_then 91 = .ok (.aload_n 2, 1) := by decide +kernel
theorem dX10_then_92 : decode cX10_then 92 = .ok (.getfield 150, 3) := by decide +kernel
theorem dX10_then_95 : decode cX10_then 95 = .ok (.aload_n 0, 1) := by decide +kernel
theorem dX10_then_96 : decode cX10_then 96 = .ok (.getfield 10, 3) := by decide +kernel
theorem dX10_then_99 : decode cX10_then 99 = .ok (.getfield 150, 3) := by decide +kernel
theorem dX10_then_102 : decode cX10_then 102 = .ok (.isub, 1) := by decide +kernel
theorem dX10_then_103 : decode cX10_then 103 = .ok (.ireturn, 1) := by decide +kernel
theorem dX10_then_104 : decode cX10_then 104 = .ok (.aload_n 2, 1) := by decide +kernel
theorem dX10_then_105 : decode cX10_then 105 = .ok (.getfield 153, 3) := by decide +kernel
theorem dX10_then_108 : decode cX10_then 108 = .ok (.ireturn, 1) := by decide +kernel
theorem dX10_then_109 : decode cX10_then 109 = .ok (.aload_n 2, 1) := by decide +kernel
theorem dX10_then_110 : decode cX10_then 110 = .ok (.getfield 156, 3) := by decide +kernel
theorem dX10_then_113 : decode cX10_then 113 = .ok (.aload_n 0, 1) := by decide +kernel
theorem dX10_then_114 : decode cX10_then 114 = .ok (.getfield 10, 3) := by decide +kernel
theorem dX10_then_117 : decode cX10_then 117 = .ok (.getfield 156, 3) := by decide +kernel
theorem dX10_then_120 : decode cX10_then 120 = .ok (.isub, 1) := by decide +kernel
theorem dX10_then_121 : decode cX10_then 121 = .ok (.ireturn, 1) := by decide +kernel
theorem dX10_then_122 : decode cX10_then 122 = .ok (.aload_n 0, 1) := by decide +kernel
theorem dX10_then_123 : decode cX10_then 123 = .ok (.getfield 26, 3) := by decide +kernel
theorem dX10_then_126 : decode cX10_then 126 = .ok (.getfield 159, 3) := by decide +kernel
theorem dX10_then_129 : decode cX10_then 129 = .ok (.ireturn, 1) := by decide +kernel
theorem dX10_chalk_0 : decode cX10_chalk 0 = .ok (.iload_n 1, 1) := by decide +kernel
theorem dX10_chalk_1 : decode cX10_chalk 1 = .ok (.invokestatic 79, 3) := by decide +kernel
theorem dX10_chalk_4 : decode cX10_chalk 4 = .ok (.ifCond .eq 14, 3) := by decide +kernel
theorem dX10_chalk_7 : decode cX10_chalk 7 = .ok (.aload_n 0, 1) := by decide +kernel
theorem dX10_chalk_8 : decode cX10_chalk 8 = .ok (.getfield 10, 3) := by decide +kernel
theorem dX10_chalk_11 : decode cX10_chalk 11 = .ok (.iload_n 1, 1) := by decide +kernel
theorem dX10_chalk_12 : decode cX10_chalk 12 = .ok (.invokevirtual 147, 3) := by decide +kernel
theorem dX10_chalk_15 : decode cX10_chalk 15 = .ok (.goto 5, 3) := by decide +kernel
theorem dX10_chalk_18 : decode cX10_chalk 18 = .ok (.bipush (-2), 2) := by decide +kernel
theorem dX10_chalk_20 : decode cX10_chalk 20 = .ok (.ireturn, 1) := by decide +kernel
theorem dX10_sway_0 : decode cX10_sway 0 = .ok (.iload_n 1, 1) := by decide +kernel
theorem dX10_sway_1 : decode cX10_sway 1 = .ok (.invokestatic 79, 3) := by decide +kernel
theorem dX10_sway_4 : decode cX10_sway 4 = .ok (.ifCond .eq 14, 3) := by decide +kernel
theorem dX10_sway_7 : decode cX10_sway 7 = .ok (.aload_n 0, 1) := by decide +kernel
theorem dX10_sway_8 : decode cX10_sway 8 = .ok (.getfield 10, 3) := by decide +kernel
theorem dX10_sway_11 : decode cX10_sway 11 = .ok (.iload_n 1, 1) := by decide +kernel
theorem dX10_sway_12 : decode cX10_sway 12 = .ok (.invokevirtual 162, 3) := by decide +kernel
theorem dX10_sway_15 : decode cX10_sway 15 = .ok (.goto 5, 3) := by decide +kernel
theorem dX10_sway_18 : decode cX10_sway 18 = .ok (.bipush (-2), 2) := by decide +kernel
theorem dX10_sway_20 : decode cX10_sway 20 = .ok (.ireturn, 1) := by decide +kernel
theorem dX10_needed_0 : decode cX10_needed 0 = .ok (.aload_n 0, 1) := by decide +kernel
theorem dX10_needed_1 : decode cX10_needed 1 = .ok (.getfield 50, 3) := by decide +kernel
theorem dX10_needed_4 : decode cX10_needed 4 = .ok (.iload_n 1, 1) := by decide +kernel
theorem dX10_needed_5 : decode cX10_needed 5 = .ok (.iload_n 2, 1) := by decide +kernel
theorem dX10_needed_6 : decode cX10_needed 6 = .ok (.invokevirtual 165, 3) := by decide +kernel
theorem dX10_needed_9 : decode cX10_needed 9 = .ok (.ifCond .eq 13, 3) := by decide +kernel
theorem dX10_needed_12 : decode cX10_needed 12 = .ok (.iload_n 3, 1) := by decide +kernel
theorem dX10_needed_13 : decode cX10_needed 13 = .ok (.iconst 1, 1) := by decide +kernel
theorem dX10_needed_14 : decode cX10_needed 14 = .ok (.bipush 81, 2) := by decide +kernel
theorem dX10_needed_16 : decode cX10_needed 16 = .ok (.invokestatic 82, 3) := by decide +kernel
theorem dX10_needed_19 : decode cX10_needed 19 = .ok (.ifCond .ne 6, 3) := by decide +kernel
theorem dX10_needed_22 : decode cX10_needed 22 = .ok (.bipush (-2), 2) := by decide +kernel
theorem dX10_needed_24 : decode cX10_needed 24 = .ok (.ireturn, 1) := by decide +kernel
theorem dX10_needed_25 : decode cX10_needed 25 = .ok (.iload 4, 2) := by decide +kernel
theorem dX10_needed_27 : decode cX10_needed 27 = .ok (.iconst 0, 1) := by decide +kernel
theorem dX10_needed_28 : decode cX10_needed 28 = .ok (.iload_n 2, 1) := by decide +kernel
theorem dX10_needed_29 : decode cX10_needed 29 = .ok (.iconst 1, 1) := by decide +kernel
theorem dX10_needed_30 : decode cX10_needed 30 = .ok (.isub, 1) := by decide +kernel
theorem dX10_needed_31 : decode cX10_needed 31 = .ok (.invokestatic 82, 3) := by decide +kernel
theorem dX10_needed_34 : decode cX10_needed 34 = .ok (.ifCond .eq 13, 3) := by decide +kernel
theorem dX10_needed_37 : decode cX10_needed 37 = .ok (.iload 5, 2) := by decide +kernel
theorem dX10_needed_39 : decode cX10_needed 39 = .ok (.iconst 0, 1) := by decide +kernel
theorem dX10_needed_40 : decode cX10_needed 40 = .ok (.iconst 1, 1) := by decide +kernel
theorem dX10_needed_41 : decode cX10_needed 41 = .ok (.invokestatic 82, 3) := by decide +kernel
theorem dX10_needed_44 : decode cX10_needed 44 = .ok (.ifCond .ne 6, 3) := by decide +kernel
theorem dX10_needed_47 : decode cX10_needed 47 = .ok (.bipush (-2), 2) := by decide +kernel
theorem dX10_needed_49 : decode cX10_needed 49 = .ok (.ireturn, 1) := by decide +kernel
theorem dX10_needed_50 : decode cX10_needed 50 = .ok (.iload 5, 2) := by decide +kernel
theorem dX10_needed_52 : decode cX10_needed 52 = .ok (.ifCond .ne 20, 3) := by decide +kernel
theorem dX10_needed_55 : decode cX10_needed 55 = .ok (.aload_n 0, 1) := by decide +kernel
theorem dX10_needed_56 : decode cX10_needed 56 = .ok (.getfield 57, 3) := by decide +kernel
theorem dX10_needed_59 : decode cX10_needed 59 = .ok (.aload_n 0, 1) := by decide +kernel
theorem dX10_needed_60 : decode cX10_needed 60 = .ok (.getfield 50, 3) := by decide +kernel
theorem dX10_needed_63 : decode cX10_needed 63 = .ok (.iload_n 3, 1) := by decide +kernel
theorem dX10_needed_64 : decode cX10_needed 64 = .ok (.iload 4, 2) := by decide +kernel
theorem dX10_needed_66 : decode cX10_needed 66 = .ok (.invokevirtual 169, 3) := by decide +kernel
theorem dX10_needed_69 : decode cX10_needed 69 = .ok (.goto 15, 3) := by decide +kernel
theorem dX10_needed_72 : decode cX10_needed 72 = .ok (.aload_n 0, 1) := by decide +kernel
theorem dX10_needed_73 : decode cX10_needed 73 = .ok (.getfield 57, 3) := by decide +kernel
theorem dX10_needed_76 : decode cX10_needed 76 = .ok (.aload_n 0, 1) := by decide +kernel
theorem dX10_needed_77 : decode cX10_needed 77 = .ok (.getfield 50, 3) := by decide +kernel
theorem dX10_needed_80 : decode cX10_needed 80 = .ok (.iload_n 3, 1) := by decide +kernel
theorem dX10_needed_81 : decode cX10_needed 81 = .ok (.invokevirtual 173, 3) := by decide +kernel
theorem dX10_needed_84 : decode cX10_needed 84 = .ok (.ireturn, 1) := by decide +kernel
theorem dX10_trade_0 : decode cX10_trade 0 = .ok (.aload_n 0, 1) := by decide +kernel
theorem dX10_trade_1 : decode cX10_trade 1 = .ok (.getfield 50, 3) := by decide +kernel
theorem dX10_trade_4 : decode cX10_trade 4 = .ok (.iload_n 1, 1) := by decide +kernel
theorem dX10_trade_5 : decode cX10_trade 5 = .ok (.iload_n 2, 1) := by decide +kernel
theorem dX10_trade_6 : decode cX10_trade 6 = .ok (.invokevirtual 165, 3) := by decide +kernel
theorem dX10_trade_9 : decode cX10_trade 9 = .ok (.ifCond .eq 23, 3) := by decide +kernel
theorem dX10_trade_12 : decode cX10_trade 12 = .ok (.iload_n 3, 1) := by decide +kernel
theorem dX10_trade_13 : decode cX10_trade 13 = .ok (.iconst 0, 1) := by decide +kernel
theorem dX10_trade_14 : decode cX10_trade 14 = .ok (.bipush 9, 2) := by decide +kernel
theorem dX10_trade_16 : decode cX10_trade 16 = .ok (.invokestatic 82, 3) := by decide +kernel
theorem dX10_trade_19 : decode cX10_trade 19 = .ok (.ifCond .eq 13, 3) := by decide +kernel
theorem dX10_trade_22 : decode cX10_trade 22 = .ok (.iload 4, 2) := by decide +kernel
theorem dX10_trade_24 : decode cX10_trade 24 = .ok (.iconst 0, 1) := by decide +kernel
theorem dX10_trade_25 : decode cX10_trade 25 = .ok (.iconst 1, 1) := by decide +kernel
theorem dX10_trade_26 : decode cX10_trade 26 = .ok (.invokestatic 82, 3) := by decide +kernel
theorem dX10_trade_29 : decode cX10_trade 29 = .ok (.ifCond .ne 6, 3) := by decide +kernel
theorem dX10_trade_32 : decode cX10_trade 32 = .ok (.bipush (-2), 2) := by decide +kernel
theorem dX10_trade_34 : decode cX10_trade 34 = .ok (.ireturn, 1) := by decide +kernel
theorem dX10_trade_35 : decode cX10_trade 35 = .ok (.aload_n 0, 1) := by decide +kernel
theorem dX10_trade_36 : decode cX10_trade 36 = .ok (.getfield 64, 3) := by decide +kernel
theorem dX10_trade_39 : decode cX10_trade 39 = .ok (.aload_n 0, 1) := by decide +kernel
theorem dX10_trade_40 : decode cX10_trade 40 = .ok (.getfield 50, 3) := by decide +kernel
theorem dX10_trade_43 : decode cX10_trade 43 = .ok (.iload_n 3, 1) := by decide +kernel
theorem dX10_trade_44 : decode cX10_trade 44 = .ok (.invokevirtual 177, 3) := by decide +kernel
theorem dX10_trade_47 : decode cX10_trade 47 = .ok (.iload 4, 2) := by decide +kernel
theorem dX10_trade_49 : decode cX10_trade 49 = .ok (.ifCond .ne 14, 3) := by decide +kernel
theorem dX10_trade_52 : decode cX10_trade 52 = .ok (.aload_n 0, 1) := by decide +kernel
theorem dX10_trade_53 : decode cX10_trade 53 = .ok (.getfield 64, 3) := by decide +kernel
theorem dX10_trade_56 : decode cX10_trade 56 = .ok (.iload_n 3, 1) := by decide +kernel
theorem dX10_trade_57 : decode cX10_trade 57 = .ok (.invokevirtual 180, 3) := by decide +kernel
theorem dX10_trade_60 : decode cX10_trade 60 = .ok (.goto 11, 3) := by decide +kernel
theorem dX10_trade_63 : decode cX10_trade 63 = .ok (.aload_n 0, 1) := by decide +kernel
theorem dX10_trade_64 : decode cX10_trade 64 = .ok (.getfield 64, 3) := by decide +kernel
theorem dX10_trade_67 : decode cX10_trade 67 = .ok (.iload_n 3, 1) := by decide +kernel
theorem dX10_trade_68 : decode cX10_trade 68 = .ok (.invokevirtual 183, 3) := by decide +kernel
theorem dX10_trade_71 : decode cX10_trade 71 = .ok (.ireturn, 1) := by decide +kernel
theorem dX10_seen_0 : decode cX10_seen 0 = .ok (.iload_n 1, 1) := by decide +kernel
theorem dX10_seen_1 : decode cX10_seen 1 = .ok (.iconst 0, 1) := by decide +kernel
theorem dX10_seen_2 : decode cX10_seen 2 = .ok (.bipush 9, 2) := by decide +kernel
theorem dX10_seen_4 : decode cX10_seen 4 = .ok (.invokestatic 82, 3) := by decide +kernel
theorem dX10_seen_7 : decode cX10_seen 7 = .ok (.ifCond .eq 22, 3) := by decide +kernel
theorem dX10_seen_10 : decode cX10_seen 10 = .ok (.iload_n 2, 1) := by decide +kernel
theorem dX10_seen_11 : decode cX10_seen 11 = .ok (.iconst 0, 1) := by decide +kernel
theorem dX10_seen_12 : decode cX10_seen 12 = .ok (.bipush 9, 2) := by decide +kernel
theorem dX10_seen_14 : decode cX10_seen 14 = .ok (.invokestatic 82, 3) := by decide +kernel
theorem dX10_seen_17 : decode cX10_seen 17 = .ok (.ifCond .eq 12, 3) := by decide +kernel
theorem dX10_seen_20 : decode cX10_seen 20 = .ok (.iload_n 3, 1) := by decide +kernel
theorem dX10_seen_21 : decode cX10_seen 21 = .ok (.iconst 0, 1) := by decide +kernel
theorem dX10_seen_22 : decode cX10_seen 22 = .ok (.iconst 2, 1) := by decide +kernel
theorem dX10_seen_23 : decode cX10_seen 23 = .ok (.invokestatic 82, 3) := by decide +kernel
theorem dX10_seen_26 : decode cX10_seen 26 = .ok (.ifCond .ne 6, 3) := by decide +kernel
theorem dX10_seen_29 : decode cX10_seen 29 = .ok (.bipush (-2), 2) := by decide +kernel
theorem dX10_seen_31 : decode cX10_seen 31 = .ok (.ireturn, 1) := by decide +kernel
theorem dX10_seen_32 : decode cX10_seen 32 = .ok (.aload_n 0, 1) := by decide +kernel
theorem dX10_seen_33 : decode cX10_seen 33 = .ok (.getfield 33, 3) := by decide +kernel
theorem dX10_seen_36 : decode cX10_seen 36 = .ok (.iload_n 1, 1) := by decide +kernel
theorem dX10_seen_37 : decode cX10_seen 37 = .ok (.iload_n 2, 1) := by decide +kernel
theorem dX10_seen_38 : decode cX10_seen 38 = .ok (.isub, 1) := by decide +kernel
theorem dX10_seen_39 : decode cX10_seen 39 = .ok (.iload_n 3, 1) := by decide +kernel
theorem dX10_seen_40 : decode cX10_seen 40 = .ok (.invokevirtual 186, 3) := by decide +kernel
theorem dX10_seen_43 : decode cX10_seen 43 = .ok (.ifCond .eq 13, 3) := by decide +kernel
theorem dX10_seen_46 : decode cX10_seen 46 = .ok (.aload_n 0, 1) := by decide +kernel
theorem dX10_seen_47 : decode cX10_seen 47 = .ok (.getfield 33, 3) := by decide +kernel
theorem dX10_seen_50 : decode cX10_seen 50 = .ok (.getfield 188, 3) := by decide +kernel
theorem dX10_seen_53 : decode cX10_seen 53 = .ok (.goto 5, 3) := by decide +kernel
theorem dX10_seen_56 : decode cX10_seen 56 = .ok (.bipush (-4), 2) := by decide +kernel
theorem dX10_seen_58 : decode cX10_seen 58 = .ok (.ireturn, 1) := by decide +kernel
theorem dX10_forget_0 : decode cX10_forget 0 = .ok (.aload_n 0, 1) := by decide +kernel
theorem dX10_forget_1 : decode cX10_forget 1 = .ok (.getfield 33, 3) := by decide +kernel
theorem dX10_forget_4 : decode cX10_forget 4 = .ok (.invokevirtual 191, 3) := by decide +kernel
theorem dX10_forget_7 : decode cX10_forget 7 = .ok (.ireturn, 1) := by decide +kernel
theorem dX10_slates_0 : decode cX10_slates 0 = .ok (.iload_n 1, 1) := by decide +kernel
theorem dX10_slates_1 : decode cX10_slates 1 = .ok (.iconst (-1), 1) := by decide +kernel
theorem dX10_slates_2 : decode cX10_slates 2 = .ok (.if_icmp .ne 13, 3) := by decide +kernel
theorem dX10_slates_5 : decode cX10_slates 5 = .ok (.aload_n 0, 1) := by decide +kernel
theorem dX10_slates_6 : decode cX10_slates 6 = .ok (.getfield 33, 3) := by decide +kernel
theorem dX10_slates_9 : decode cX10_slates 9 = .ok (.invokevirtual 192, 3) := by decide +kernel
theorem dX10_slates_12 : decode cX10_slates 12 = .ok (.goto 11, 3) := by decide +kernel
theorem dX10_slates_15 : decode cX10_slates 15 = .ok (.aload_n 0, 1) := by decide +kernel
theorem dX10_slates_16 : decode cX10_slates 16 = .ok (.getfield 33, 3) := by decide +kernel
theorem dX10_slates_19 : decode cX10_slates 19 = .ok (.iload_n 1, 1) := by decide +kernel
theorem dX10_slates_20 : decode cX10_slates 20 = .ok (.invokevirtual 195, 3) := by decide +kernel
theorem dX10_slates_23 : decode cX10_slates 23 = .ok (.ireturn, 1) := by decide +kernel
theorem dX10_ask_0 : decode cX10_ask 0 = .ok (.iload_n 1, 1) := by decide +kernel
theorem dX10_ask_1 : decode cX10_ask 1 = .ok (.iconst 0, 1) := by decide +kernel
theorem dX10_ask_2 : decode cX10_ask 2 = .ok (.iconst 1, 1) := by decide +kernel
theorem dX10_ask_3 : decode cX10_ask 3 = .ok (.invokestatic 82, 3) := by decide +kernel
theorem dX10_ask_6 : decode cX10_ask 6 = .ok (.ifCond .ne 6, 3) := by decide +kernel
theorem dX10_ask_9 : decode cX10_ask 9 = .ok (.bipush (-2), 2) := by decide +kernel
theorem dX10_ask_11 : decode cX10_ask 11 = .ok (.ireturn, 1) := by decide +kernel
theorem dX10_ask_12 : decode cX10_ask 12 = .ok (.aload_n 0, 1) := by decide +kernel
theorem dX10_ask_13 : decode cX10_ask 13 = .ok (.getfield 33, 3) := by decide +kernel
theorem dX10_ask_16 : decode cX10_ask 16 = .ok (.iload_n 1, 1) := by decide +kernel
theorem dX10_ask_17 : decode cX10_ask 17 = .ok (.iconst 1, 1) := by decide +kernel
theorem dX10_ask_18 : decode cX10_ask 18 = .ok (.if_icmp .ne 7, 3) := by decide +kernel
theorem dX10_ask_21 : decode cX10_ask 21 = .ok (.iconst 1, 1) := by decide +kernel
theorem dX10_ask_22 : decode cX10_ask 22 = .ok (.goto 4, 3) := by decide +kernel
theorem dX10_ask_25 : decode cX10_ask 25 = .ok (.iconst 0, 1) := by decide +kernel
theorem dX10_ask_26 : decode cX10_ask 26 = .ok (.invokevirtual 198, 3) := by decide +kernel
theorem dX10_ask_29 : decode cX10_ask 29 = .ok (.ireturn, 1) := by decide +kernel
theorem dX10_cakes_0 : decode cX10_cakes 0 = .ok (.iload_n 1, 1) := by decide +kernel
theorem dX10_cakes_1 : decode cX10_cakes 1 = .ok (.iconst 0, 1) := by decide +kernel
theorem dX10_cakes_2 : decode cX10_cakes 2 = .ok (.bipush 99, 2) := by decide +kernel
theorem dX10_cakes_4 : decode cX10_cakes 4 = .ok (.invokestatic 82, 3) := by decide +kernel
theorem dX10_cakes_7 : decode cX10_cakes 7 = .ok (.ifCond .eq 22, 3) := by decide +kernel
theorem dX10_cakes_10 : decode cX10_cakes 10 = .ok (.iload_n 2, 1) := by decide +kernel
theorem dX10_cakes_11 : decode cX10_cakes 11 = .ok (.iconst 0, 1) := by decide +kernel
theorem dX10_cakes_12 : decode cX10_cakes 12 = .ok (.bipush 99, 2) := by decide +kernel
theorem dX10_cakes_14 : decode cX10_cakes 14 = .ok (.invokestatic 82, 3) := by decide +kernel
theorem dX10_cakes_17 : decode cX10_cakes 17 = .ok (.ifCond .eq 12, 3) := by decide +kernel
theorem dX10_cakes_20 : decode cX10_cakes 20 = .ok (.iload_n 3, 1) := by decide +kernel
theorem dX10_cakes_21 : decode cX10_cakes 21 = .ok (.iconst 0, 1) := by decide +kernel
theorem dX10_cakes_22 : decode cX10_cakes 22 = .ok (.iconst 1, 1) := by decide +kernel
theorem dX10_cakes_23 : decode cX10_cakes 23 = .ok (.invokestatic 82, 3) := by decide +kernel
theorem dX10_cakes_26 : decode cX10_cakes 26 = .ok (.ifCond .ne 6, 3) := by decide +kernel
theorem dX10_cakes_29 : decode cX10_cakes 29 = .ok (.bipush (-2), 2) := by decide +kernel
theorem dX10_cakes_31 : decode cX10_cakes 31 = .ok (.ireturn, 1) := by decide +kernel
theorem dX10_cakes_32 : decode cX10_cakes 32 = .ok (.iload_n 1, 1) := by decide +kernel
theorem dX10_cakes_33 : decode cX10_cakes 33 = .ok (.invokestatic 202, 3) := by decide +kernel
theorem dX10_cakes_36 : decode cX10_cakes 36 = .ok (.istore 4, 2) := by decide +kernel
theorem dX10_cakes_38 : decode cX10_cakes 38 = .ok (.iload_n 1, 1) := by decide +kernel
theorem dX10_cakes_39 : decode cX10_cakes 39 = .ok (.ifCond .le 13, 3) := by decide +kernel
theorem dX10_cakes_42 : decode cX10_cakes 42 = .ok (.iload 4, 2) := by decide +kernel
theorem dX10_cakes_44 : decode cX10_cakes 44 = .ok (.iload_n 2, 1) := by decide +kernel
theorem dX10_cakes_45 : decode cX10_cakes 45 = .ok (.if_icmp .gt 7, 3) := by decide +kernel
theorem dX10_cakes_48 : decode cX10_cakes 48 = .ok (.iconst 1, 1) := by decide +kernel
theorem dX10_cakes_49 : decode cX10_cakes 49 = .ok (.goto 4, 3) := by decide +kernel
theorem dX10_cakes_52 : decode cX10_cakes 52 = .ok (.iconst 0, 1) := by decide +kernel
theorem dX10_cakes_53 : decode cX10_cakes 53 = .ok (.istore 5, 2) := by decide +kernel
theorem dX10_cakes_55 : decode cX10_cakes 55 = .ok (.iload_n 3, 1) := by decide +kernel
theorem dX10_cakes_56 : decode cX10_cakes 56 = .ok (.ifCond .ne 14, 3) := by decide +kernel
theorem dX10_cakes_59 : decode cX10_cakes 59 = .ok (.iload 5, 2) := by decide +kernel
theorem dX10_cakes_61 : decode cX10_cakes 61 = .ok (.ifCond .eq 7, 3) := by decide +kernel
theorem dX10_cakes_64 : decode cX10_cakes 64 = .ok (.iconst 1, 1) := by decide +kernel
theorem dX10_cakes_65 : decode cX10_cakes 65 = .ok (.goto 4, 3) := by decide +kernel
theorem dX10_cakes_68 : decode cX10_cakes 68 = .ok (.iconst 0, 1) := by decide +kernel
theorem dX10_cakes_69 : decode cX10_cakes 69 = .ok (.ireturn, 1) := by decide +kernel
theorem dX10_cakes_70 : decode cX10_cakes 70 = .ok (.iload 5, 2) := by decide +kernel
theorem dX10_cakes_72 : decode cX10_cakes 72 = .ok (.ifCond .eq 8, 3) := by decide +kernel
theorem dX10_cakes_75 : decode cX10_cakes 75 = .ok (.iload 4, 2) := by decide +kernel
theorem dX10_cakes_77 : decode cX10_cakes 77 = .ok (.goto 5, 3) := by decide +kernel
theorem dX10_cakes_80 : decode cX10_cakes 80 = .ok (.bipush (-6), 2) := by decide +kernel
theorem dX10_cakes_82 : decode cX10_cakes 82 = .ok (.ireturn, 1) := by decide +kernel
theorem dX10_rung_0 : decode cX10_rung 0 = .ok (.iload_n 1, 1) := by decide +kernel
theorem dX10_rung_1 : decode cX10_rung 1 = .ok (.iconst 0, 1) := by decide +kernel
theorem dX10_rung_2 : decode cX10_rung 2 = .ok (.bipush 12, 2) := by decide +kernel
theorem dX10_rung_4 : decode cX10_rung 4 = .ok (.invokestatic 82, 3) := by decide +kernel
theorem dX10_rung_7 : decode cX10_rung 7 = .ok (.ifCond .eq 24, 3) := by decide +kernel
theorem dX10_rung_10 : decode cX10_rung 10 = .ok (.iload_n 2, 1) := by decide +kernel
theorem dX10_rung_11 : decode cX10_rung 11 = .ok (.iconst 1, 1) := by decide +kernel
theorem dX10_rung_12 : decode cX10_rung 12 = .ok (.bipush 7, 2) := by decide +kernel
theorem dX10_rung_14 : decode cX10_rung 14 = .ok (.invokestatic 82, 3) := by decide +kernel
theorem dX10_rung_17 : decode cX10_rung 17 = .ok (.ifCond .eq 14, 3) := by decide +kernel
theorem dX10_rung_20 : decode cX10_rung 20 = .ok (.iload_n 3, 1) := by decide +kernel
theorem dX10_rung_21 : decode cX10_rung 21 = .ok (.iconst 0, 1) := by decide +kernel
theorem dX10_rung_22 : decode cX10_rung 22 = .ok (.iload_n 2, 1) := by decide +kernel
theorem dX10_rung_23 : decode cX10_rung 23 = .ok (.iconst 1, 1) := by decide +kernel
theorem dX10_rung_24 : decode cX10_rung 24 = .ok (.isub, 1) := by decide +kernel
theorem dX10_rung_25 : decode cX10_rung 25 = .ok (.invokestatic 82, 3) := by decide +kernel
theorem dX10_rung_28 : decode cX10_rung 28 = .ok (.ifCond .ne 7, 3) := by decide +kernel
theorem dX10_rung_31 : decode cX10_rung 31 = .ok (.ldc2_w 205, 3) := by decide +kernel
theorem dX10_rung_34 : decode cX10_rung 34 = .ok (.lreturn, 1) := by decide +kernel
theorem dX10_rung_35 : decode cX10_rung 35 = .ok (.iload 4, 2) := by decide +kernel
theorem dX10_rung_37 : decode cX10_rung 37 = .ok (.iconst 0, 1) := by decide +kernel
theorem dX10_rung_38 : decode cX10_rung 38 = .ok (.iconst 1, 1) := by decide +kernel
theorem dX10_rung_39 : decode cX10_rung 39 = .ok (.invokestatic 82, 3) := by decide +kernel
theorem dX10_rung_42 : decode cX10_rung 42 = .ok (.ifCond .eq 13, 3) := by decide +kernel
theorem dX10_rung_45 : decode cX10_rung 45 = .ok (.iload 5, 2) := by decide +kernel
theorem dX10_rung_47 : decode cX10_rung 47 = .ok (.iconst 0, 1) := by decide +kernel
theorem dX10_rung_48 : decode cX10_rung 48 = .ok (.iconst 1, 1) := by decide +kernel
theorem dX10_rung_49 : decode cX10_rung 49 = .ok (.invokestatic 82, 3) := by decide +kernel
theorem dX10_rung_52 : decode cX10_rung 52 = .ok (.ifCond .ne 7, 3) := by decide +kernel
theorem dX10_rung_55 : decode cX10_rung 55 = .ok (.ldc2_w 205, 3) := by decide +kernel
theorem dX10_rung_58 : decode cX10_rung 58 = .ok (.lreturn, 1) := by decide +kernel
theorem dX10_rung_59 : decode cX10_rung 59 = .ok (.iload 4, 2) := by decide +kernel
theorem dX10_rung_61 : decode cX10_rung 61 = .ok (.ifCond .ne 16, 3) := by decide +kernel
theorem dX10_rung_64 : decode cX10_rung 64 = .ok (.aload_n 0, 1) := by decide +kernel
theorem dX10_rung_65 : decode cX10_rung 65 = .ok (.getfield 71, 3) := by decide +kernel
theorem dX10_rung_68 : decode cX10_rung 68 = .ok (.iload_n 1, 1) := by decide +kernel
theorem dX10_rung_69 : decode cX10_rung 69 = .ok (.iload_n 2, 1) := by decide +kernel
theorem dX10_rung_70 : decode cX10_rung 70 = .ok (.iload_n 3, 1) := by decide +kernel
theorem dX10_rung_71 : decode cX10_rung 71 = .ok (.invokevirtual 207, 3) := by decide +kernel
theorem dX10_rung_74 : decode cX10_rung 74 = .ok (.goto 10, 3) := by decide +kernel
theorem dX10_rung_77 : decode cX10_rung 77 = .ok (.iload_n 2, 1) := by decide +kernel
theorem dX10_rung_78 : decode cX10_rung 78 = .ok (.iconst 1, 1) := by decide +kernel
theorem dX10_rung_79 : decode cX10_rung 79 = .ok (.isub, 1) := by decide +kernel
theorem dX10_rung_80 : decode cX10_rung 80 = .ok (.iload_n 1, 1) := by decide +kernel
theorem dX10_rung_81 : decode cX10_rung 81 = .ok (.invokestatic 211, 3) := by decide +kernel
theorem dX10_rung_84 : decode cX10_rung 84 = .ok (.lstore 6, 2) := by decide +kernel
theorem dX10_rung_86 : decode cX10_rung 86 = .ok (.lload 6, 2) := by decide +kernel
theorem dX10_rung_88 : decode cX10_rung 88 = .ok (.iload_n 2, 1) := by decide +kernel
theorem dX10_rung_89 : decode cX10_rung 89 = .ok (.iload_n 1, 1) := by decide +kernel
theorem dX10_rung_90 : decode cX10_rung 90 = .ok (.invokestatic 211, 3) := by decide +kernel
theorem dX10_rung_93 : decode cX10_rung 93 = .ok (.iload 5, 2) := by decide +kernel
theorem dX10_rung_95 : decode cX10_rung 95 = .ok (.invokestatic 215, 3) := by decide +kernel
theorem dX10_rung_98 : decode cX10_rung 98 = .ok (.lreturn, 1) := by decide +kernel
theorem dX10_year_0 : decode cX10_year 0 = .ok (.iload_n 1, 1) := by decide +kernel
theorem dX10_year_1 : decode cX10_year 1 = .ok (.iconst 0, 1) := by decide +kernel
theorem dX10_year_2 : decode cX10_year 2 = .ok (.sipush 9999, 3) := by decide +kernel
theorem dX10_year_5 : decode cX10_year 5 = .ok (.invokestatic 82, 3) := by decide +kernel
theorem dX10_year_8 : decode cX10_year 8 = .ok (.ifCond .eq 22, 3) := by decide +kernel
theorem dX10_year_11 : decode cX10_year 11 = .ok (.iload_n 2, 1) := by decide +kernel
theorem dX10_year_12 : decode cX10_year 12 = .ok (.iconst 1, 1) := by decide +kernel
theorem dX10_year_13 : decode cX10_year 13 = .ok (.bipush 99, 2) := by decide +kernel
theorem dX10_year_15 : decode cX10_year 15 = .ok (.invokestatic 82, 3) := by decide +kernel
theorem dX10_year_18 : decode cX10_year 18 = .ok (.ifCond .eq 12, 3) := by decide +kernel
theorem dX10_year_21 : decode cX10_year 21 = .ok (.iload_n 3, 1) := by decide +kernel
theorem dX10_year_22 : decode cX10_year 22 = .ok (.iconst 0, 1) := by decide +kernel
theorem dX10_year_23 : decode cX10_year 23 = .ok (.iconst 2, 1) := by decide +kernel
theorem dX10_year_24 : decode cX10_year 24 = .ok (.invokestatic 82, 3) := by decide +kernel
theorem dX10_year_27 : decode cX10_year 27 = .ok (.ifCond .ne 6, 3) := by decide +kernel
theorem dX10_year_30 : decode cX10_year 30 = .ok (.bipush (-2), 2) := by decide +kernel
theorem dX10_year_32 : decode cX10_year 32 = .ok (.ireturn, 1) := by decide +kernel
theorem dX10_year_33 : decode cX10_year 33 = .ok (.aload_n 0, 1) := by decide +kernel
theorem dX10_year_34 : decode cX10_year 34 = .ok (.getfield 26, 3) := by decide +kernel
theorem dX10_year_37 : decode cX10_year 37 = .ok (.getfield 133, 3) := by decide +kernel
theorem dX10_year_40 : decode cX10_year 40 = .ok (.astore 4, 2) := by decide +kernel
theorem dX10_year_42 : decode cX10_year 42 = .ok (.aload 4, 2) := by decide +kernel
theorem dX10_year_44 : decode cX10_year 44 = .ok (.aload_n 0, 1) := by decide +kernel
theorem dX10_year_45 : decode cX10_year 45 = .ok (.getfield 10, 3) := by decide +kernel
theorem dX10_year_48 : decode cX10_year 48 = .ok (.invokevirtual 136, 3) := by decide +kernel
theorem dX10_year_51 : decode cX10_year 51 = .ok (.aload 4, 2) := by decide +kernel
theorem dX10_year_53 : decode cX10_year 53 = .ok (.iload_n 1, 1) := by decide +kernel
theorem dX10_year_54 : decode cX10_year 54 = .ok (.iload_n 2, 1) := by decide +kernel
theorem dX10_year_55 : decode cX10_year 55 = .ok (.invokevirtual 219, 3) := by decide +kernel
theorem dX10_year_58 : decode cX10_year 58 = .ok (.iload_n 3, 1) := by decide +kernel
theorem dX10_year_59 : decode cX10_year 59 = .ok (.lookupswitch 47 #[(0, 25), (1, 39)], 25) := by decide +kernel
theorem dX10_year_84 : decode cX10_year 84 = .ok (.aload 4, 2) := by decide +kernel
theorem dX10_year_86 : decode cX10_year 86 = .ok (.getfield 150, 3) := by decide +kernel
theorem dX10_year_89 : decode cX10_year 89 = .ok (.aload_n 0, 1) := by decide +kernel
theorem dX10_year_90 : decode cX10_year 90 = .ok (.getfield 10, 3) := by decide +kernel
theorem dX10_year_93 : decode cX10_year 93 = .ok (.getfield 150, 3) := by decide +kernel
theorem dX10_year_96 : decode cX10_year 96 = .ok (.isub, 1) := by decide +kernel
theorem dX10_year_97 : decode cX10_year 97 = .ok (.ireturn, 1) := by decide +kernel
theorem dX10_year_98 : decode cX10_year 98 = .ok (.aload 4, 2) := by decide +kernel
theorem dX10_year_100 : decode cX10_year 100 = .ok (.getfield 90, 3) := by decide +kernel
theorem dX10_year_103 : decode cX10_year 103 = .ok (.iconst 0, 1) := by decide +kernel
theorem dX10_year_104 : decode cX10_year 104 = .ok (.iaload, 1) := by decide +kernel
theorem dX10_year_105 : decode cX10_year 105 = .ok (.ireturn, 1) := by decide +kernel
theorem dX10_year_106 : decode cX10_year 106 = .ok (.aload 4, 2) := by decide +kernel
theorem dX10_year_108 : decode cX10_year 108 = .ok (.getfield 156, 3) := by decide +kernel
theorem dX10_year_111 : decode cX10_year 111 = .ok (.aload_n 0, 1) := by decide +kernel
theorem dX10_year_112 : decode cX10_year 112 = .ok (.getfield 10, 3) := by decide +kernel
theorem dX10_year_115 : decode cX10_year 115 = .ok (.getfield 156, 3) := by decide +kernel
theorem dX10_year_118 : decode cX10_year 118 = .ok (.isub, 1) := by decide +kernel
theorem dX10_year_119 : decode cX10_year 119 = .ok (.ireturn, 1) := by decide +kernel
theorem dX10_image_0 : decode cX10_image 0 = .ok (.iload_n 1, 1) := by decide +kernel
theorem dX10_image_1 : decode cX10_image 1 = .ok (.iconst 0, 1) := by decide +kernel
theorem dX10_image_2 : decode cX10_image 2 = .ok (.iconst 1, 1) := by decide +kernel
theorem dX10_image_3 : decode cX10_image 3 = .ok (.invokestatic 82, 3) := by decide +kernel
theorem dX10_image_6 : decode cX10_image 6 = .ok (.ifCond .ne 6, 3) := by decide +kernel
theorem dX10_image_9 : decode cX10_image 9 = .ok (.bipush (-2), 2) := by decide +kernel
theorem dX10_image_11 : decode cX10_image 11 = .ok (.ireturn, 1) := by decide +kernel
theorem dX10_image_12 : decode cX10_image 12 = .ok (.aload_n 0, 1) := by decide +kernel
theorem dX10_image_13 : decode cX10_image 13 = .ok (.iload_n 1, 1) := by decide +kernel
theorem dX10_image_14 : decode cX10_image 14 = .ok (.invokevirtual 223, 3) := by decide +kernel
theorem dX10_image_17 : decode cX10_image 17 = .ok (.aload_n 0, 1) := by decide +kernel
theorem dX10_image_18 : decode cX10_image 18 = .ok (.getfield 10, 3) := by decide +kernel
theorem dX10_image_21 : decode cX10_image 21 = .ok (.aload_n 0, 1) := by decide +kernel
theorem dX10_image_22 : decode cX10_image 22 = .ok (.getfield 33, 3) := by decide +kernel
theorem dX10_image_25 : decode cX10_image 25 = .ok (.invokevirtual 227, 3) := by decide +kernel
theorem dX10_image_28 : decode cX10_image 28 = .ok (.iconst 1, 1) := by decide +kernel
theorem dX10_image_29 : decode cX10_image 29 = .ok (.ireturn, 1) := by decide +kernel
theorem dX10_restore_0 : decode cX10_restore 0 = .ok (.iload_n 1, 1) := by decide +kernel
theorem dX10_restore_1 : decode cX10_restore 1 = .ok (.iconst 0, 1) := by decide +kernel
theorem dX10_restore_2 : decode cX10_restore 2 = .ok (.iconst 1, 1) := by decide +kernel
theorem dX10_restore_3 : decode cX10_restore 3 = .ok (.invokestatic 82, 3) := by decide +kernel
theorem dX10_restore_6 : decode cX10_restore 6 = .ok (.ifCond .ne 6, 3) := by decide +kernel
theorem dX10_restore_9 : decode cX10_restore 9 = .ok (.bipush (-2), 2) := by decide +kernel
theorem dX10_restore_11 : decode cX10_restore 11 = .ok (.ireturn, 1) := by decide +kernel
theorem dX10_restore_12 : decode cX10_restore 12 = .ok (.aload_n 0, 1) := by decide +kernel
theorem dX10_restore_13 : decode cX10_restore 13 = .ok (.iload_n 1, 1) := by decide +kernel
theorem dX10_restore_14 : decode cX10_restore 14 = .ok (.invokevirtual 223, 3) := by decide +kernel
theorem dX10_restore_17 : decode cX10_restore 17 = .ok (.aload_n 0, 1) := by decide +kernel
theorem dX10_restore_18 : decode cX10_restore 18 = .ok (.getfield 10, 3) := by decide +kernel
theorem dX10_restore_21 : decode cX10_restore 21 = .ok (.aload_n 0, 1) := by decide +kernel
theorem dX10_restore_22 : decode cX10_restore 22 = .ok (.getfield 33, 3) := by decide +kernel
theorem dX10_restore_25 : decode cX10_restore 25 = .ok (.invokevirtual 231, 3) := by decide +kernel
theorem dX10_restore_28 : decode cX10_restore 28 = .ok (.ifCond .eq 7, 3) := by decide +kernel
theorem dX10_restore_31 : decode cX10_restore 31 = .ok (.iconst 1, 1) := by decide +kernel
theorem dX10_restore_32 : decode cX10_restore 32 = .ok (.goto 5, 3) := by decide +kernel
theorem dX10_restore_35 : decode cX10_restore 35 = .ok (.bipush (-3), 2) := by decide +kernel
theorem dX10_restore_37 : decode cX10_restore 37 = .ok (.ireturn, 1) := by decide +kernel
theorem dX10_told_0 : decode cX10_told 0 = .ok (.iload_n 1, 1) := by decide +kernel
theorem dX10_told_1 : decode cX10_told 1 = .ok (.tableswitch 87 0 5 #[39, 47, 55, 63, 71, 79], 39) := by decide +kernel
theorem dX10_told_40 : decode cX10_told 40 = .ok (.aload_n 0, 1) := by decide +kernel
theorem dX10_told_41 : decode cX10_told 41 = .ok (.getfield 19, 3) := by decide +kernel
theorem dX10_told_44 : decode cX10_told 44 = .ok (.getfield 109, 3) := by decide +kernel
theorem dX10_told_47 : decode cX10_told 47 = .ok (.ireturn, 1) := by decide +kernel
theorem dX10_told_48 : decode cX10_told 48 = .ok (.aload_n 0, 1) := by decide +kernel
theorem dX10_told_49 : decode cX10_told 49 = .ok (.getfield 10, 3) := by decide +kernel
theorem dX10_told_52 : decode cX10_told 52 = .ok (.getfield 102, 3) := by decide +kernel
theorem dX10_told_55 : decode cX10_told 55 = .ok (.ireturn, 1) := by decide +kernel
theorem dX10_told_56 : decode cX10_told 56 = .ok (.aload_n 0, 1) := by decide +kernel
theorem dX10_told_57 : decode cX10_told 57 = .ok (.getfield 10, 3) := by decide +kernel
theorem dX10_told_60 : decode cX10_told 60 = .ok (.invokevirtual 144, 3) := by decide +kernel
theorem dX10_told_63 : decode cX10_told 63 = .ok (.ireturn, 1) := by decide +kernel
theorem dX10_told_64 : decode cX10_told 64 = .ok (.aload_n 0, 1) := by decide +kernel
theorem dX10_told_65 : decode cX10_told 65 = .ok (.getfield 10, 3) := by decide +kernel
theorem dX10_told_68 : decode cX10_told 68 = .ok (.getfield 150, 3) := by decide +kernel
theorem dX10_told_71 : decode cX10_told 71 = .ok (.ireturn, 1) := by decide +kernel
theorem dX10_told_72 : decode cX10_told 72 = .ok (.aload_n 0, 1) := by decide +kernel
theorem dX10_told_73 : decode cX10_told 73 = .ok (.getfield 10, 3) := by decide +kernel
theorem dX10_told_76 : decode cX10_told 76 = .ok (.getfield 153, 3) := by decide +kernel
theorem dX10_told_79 : decode cX10_told 79 = .ok (.ireturn, 1) := by decide +kernel
theorem dX10_told_80 : decode cX10_told 80 = .ok (.aload_n 0, 1) := by decide +kernel
theorem dX10_told_81 : decode cX10_told 81 = .ok (.getfield 33, 3) := by decide +kernel
theorem dX10_told_84 : decode cX10_told 84 = .ok (.getfield 188, 3) := by decide +kernel
theorem dX10_told_87 : decode cX10_told 87 = .ok (.ireturn, 1) := by decide +kernel
theorem dX10_told_88 : decode cX10_told 88 = .ok (.aload_n 0, 1) := by decide +kernel
theorem dX10_told_89 : decode cX10_told 89 = .ok (.iload_n 1, 1) := by decide +kernel
theorem dX10_told_90 : decode cX10_told 90 = .ok (.invokevirtual 235, 3) := by decide +kernel
theorem dX10_told_93 : decode cX10_told 93 = .ok (.ireturn, 1) := by decide +kernel
theorem dX10_toldOfSome_0 : decode cX10_toldOfSome 0 = .ok (.iload_n 1, 1) := by decide +kernel
theorem dX10_toldOfSome_1 : decode cX10_toldOfSome 1 = .ok (.bipush 10, 2) := by decide +kernel
theorem dX10_toldOfSome_3 : decode cX10_toldOfSome 3 = .ok (.isub, 1) := by decide +kernel
theorem dX10_toldOfSome_4 : decode cX10_toldOfSome 4 = .ok (.invokestatic 75, 3) := by decide +kernel
theorem dX10_toldOfSome_7 : decode cX10_toldOfSome 7 = .ok (.ifCond .eq 19, 3) := by decide +kernel
theorem dX10_toldOfSome_10 : decode cX10_toldOfSome 10 = .ok (.aload_n 0, 1) := by decide +kernel
theorem dX10_toldOfSome_11 : decode cX10_toldOfSome 11 = .ok (.getfield 10, 3) := by decide +kernel
theorem dX10_toldOfSome_14 : decode cX10_toldOfSome 14 = .ok (.getfield 93, 3) := by decide +kernel
theorem dX10_toldOfSome_17 : decode cX10_toldOfSome 17 = .ok (.iload_n 1, 1) := by decide +kernel
theorem dX10_toldOfSome_18 : decode cX10_toldOfSome 18 = .ok (.bipush 10, 2) := by decide +kernel
theorem dX10_toldOfSome_20 : decode cX10_toldOfSome 20 = .ok (.isub, 1) := by decide +kernel
theorem dX10_toldOfSome_21 : decode cX10_toldOfSome 21 = .ok (.iaload, 1) := by decide +kernel
theorem dX10_toldOfSome_22 : decode cX10_toldOfSome 22 = .ok (.invokestatic 140, 3) := by decide +kernel
theorem dX10_toldOfSome_25 : decode cX10_toldOfSome 25 = .ok (.ireturn, 1) := by decide +kernel
theorem dX10_toldOfSome_26 : decode cX10_toldOfSome 26 = .ok (.iload_n 1, 1) := by decide +kernel
theorem dX10_toldOfSome_27 : decode cX10_toldOfSome 27 = .ok (.bipush 20, 2) := by decide +kernel
theorem dX10_toldOfSome_29 : decode cX10_toldOfSome 29 = .ok (.isub, 1) := by decide +kernel
theorem dX10_toldOfSome_30 : decode cX10_toldOfSome 30 = .ok (.invokestatic 75, 3) := by decide +kernel
theorem dX10_toldOfSome_33 : decode cX10_toldOfSome 33 = .ok (.ifCond .eq 16, 3) := by decide +kernel
theorem dX10_toldOfSome_36 : decode cX10_toldOfSome 36 = .ok (.aload_n 0, 1) := by decide +kernel
theorem dX10_toldOfSome_37 : decode cX10_toldOfSome 37 = .ok (.getfield 10, 3) := by decide +kernel
theorem dX10_toldOfSome_40 : decode cX10_toldOfSome 40 = .ok (.getfield 86, 3) := by decide +kernel
theorem dX10_toldOfSome_43 : decode cX10_toldOfSome 43 = .ok (.iload_n 1, 1) := by decide +kernel
theorem dX10_toldOfSome_44 : decode cX10_toldOfSome 44 = .ok (.bipush 20, 2) := by decide +kernel
theorem dX10_toldOfSome_46 : decode cX10_toldOfSome 46 = .ok (.isub, 1) := by decide +kernel
theorem dX10_toldOfSome_47 : decode cX10_toldOfSome 47 = .ok (.iaload, 1) := by decide +kernel
theorem dX10_toldOfSome_48 : decode cX10_toldOfSome 48 = .ok (.ireturn, 1) := by decide +kernel
theorem dX10_toldOfSome_49 : decode cX10_toldOfSome 49 = .ok (.iload_n 1, 1) := by decide +kernel
theorem dX10_toldOfSome_50 : decode cX10_toldOfSome 50 = .ok (.bipush 30, 2) := by decide +kernel
theorem dX10_toldOfSome_52 : decode cX10_toldOfSome 52 = .ok (.isub, 1) := by decide +kernel
theorem dX10_toldOfSome_53 : decode cX10_toldOfSome 53 = .ok (.invokestatic 75, 3) := by decide +kernel
theorem dX10_toldOfSome_56 : decode cX10_toldOfSome 56 = .ok (.ifCond .eq 16, 3) := by decide +kernel
theorem dX10_toldOfSome_59 : decode cX10_toldOfSome 59 = .ok (.aload_n 0, 1) := by decide +kernel
theorem dX10_toldOfSome_60 : decode cX10_toldOfSome 60 = .ok (.getfield 10, 3) := by decide +kernel
theorem dX10_toldOfSome_63 : decode cX10_toldOfSome 63 = .ok (.getfield 90, 3) := by decide +kernel
theorem dX10_toldOfSome_66 : decode cX10_toldOfSome 66 = .ok (.iload_n 1, 1) := by decide +kernel
theorem dX10_toldOfSome_67 : decode cX10_toldOfSome 67 = .ok (.bipush 30, 2) := by decide +kernel
theorem dX10_toldOfSome_69 : decode cX10_toldOfSome 69 = .ok (.isub, 1) := by decide +kernel
theorem dX10_toldOfSome_70 : decode cX10_toldOfSome 70 = .ok (.iaload, 1) := by decide +kernel
theorem dX10_toldOfSome_71 : decode cX10_toldOfSome 71 = .ok (.ireturn, 1) := by decide +kernel
theorem dX10_toldOfSome_72 : decode cX10_toldOfSome 72 = .ok (.iload_n 1, 1) := by decide +kernel
theorem dX10_toldOfSome_73 : decode cX10_toldOfSome 73 = .ok (.bipush 40, 2) := by decide +kernel
theorem dX10_toldOfSome_75 : decode cX10_toldOfSome 75 = .ok (.isub, 1) := by decide +kernel
theorem dX10_toldOfSome_76 : decode cX10_toldOfSome 76 = .ok (.invokestatic 96, 3) := by decide +kernel
theorem dX10_toldOfSome_79 : decode cX10_toldOfSome 79 = .ok (.ifCond .eq 18, 3) := by decide +kernel
theorem dX10_toldOfSome_82 : decode cX10_toldOfSome 82 = .ok (.aload_n 0, 1) := by decide +kernel
theorem dX10_toldOfSome_83 : decode cX10_toldOfSome 83 = .ok (.getfield 10, 3) := by decide +kernel
theorem dX10_toldOfSome_86 : decode cX10_toldOfSome 86 = .ok (.getfield 99, 3) := by decide +kernel
theorem dX10_toldOfSome_89 : decode cX10_toldOfSome 89 = .ok (.iload_n 1, 1) := by decide +kernel
theorem dX10_toldOfSome_90 : decode cX10_toldOfSome 90 = .ok (.bipush 40, 2) := by decide +kernel
theorem dX10_toldOfSome_92 : decode cX10_toldOfSome 92 = .ok (.isub, 1) := by decide +kernel
theorem dX10_toldOfSome_93 : decode cX10_toldOfSome 93 = .ok (.iaload, 1) := by decide +kernel
theorem dX10_toldOfSome_94 : decode cX10_toldOfSome 94 = .ok (.goto 5, 3) := by decide +kernel
theorem dX10_toldOfSome_97 : decode cX10_toldOfSome 97 = .ok (.bipush (-2), 2) := by decide +kernel
theorem dX10_toldOfSome_99 : decode cX10_toldOfSome 99 = .ok (.ireturn, 1) := by decide +kernel
theorem dX10_imageOf_0 : decode cX10_imageOf 0 = .ok (.iload_n 1, 1) := by decide +kernel
theorem dX10_imageOf_1 : decode cX10_imageOf 1 = .ok (.ifCond .ne 10, 3) := by decide +kernel
theorem dX10_imageOf_4 : decode cX10_imageOf 4 = .ok (.aload_n 0, 1) := by decide +kernel
theorem dX10_imageOf_5 : decode cX10_imageOf 5 = .ok (.getfield 40, 3) := by decide +kernel
theorem dX10_imageOf_8 : decode cX10_imageOf 8 = .ok (.goto 7, 3) := by decide +kernel
theorem dX10_imageOf_11 : decode cX10_imageOf 11 = .ok (.aload_n 0, 1) := by decide +kernel
theorem dX10_imageOf_12 : decode cX10_imageOf 12 = .ok (.getfield 44, 3) := by decide +kernel
theorem dX10_imageOf_15 : decode cX10_imageOf 15 = .ok (.areturn, 1) := by decide +kernel
theorem dX10_canBeDone_0 : decode cX10_canBeDone 0 = .ok (.aload_n 0, 1) := by decide +kernel
theorem dX10_canBeDone_1 : decode cX10_canBeDone 1 = .ok (.getfield 19, 3) := by decide +kernel
theorem dX10_canBeDone_4 : decode cX10_canBeDone 4 = .ok (.invokevirtual 116, 3) := by decide +kernel
theorem dX10_canBeDone_7 : decode cX10_canBeDone 7 = .ok (.bipush (-6), 2) := by decide +kernel
theorem dX10_canBeDone_9 : decode cX10_canBeDone 9 = .ok (.if_icmp .eq 5, 3) := by decide +kernel
theorem dX10_canBeDone_12 : decode cX10_canBeDone 12 = .ok (.iconst 0, 1) := by decide +kernel
theorem dX10_canBeDone_13 : decode cX10_canBeDone 13 = .ok (.ireturn, 1) := by decide +kernel
theorem dX10_canBeDone_14 : decode cX10_canBeDone 14 = .ok (.aload_n 0, 1) := by decide +kernel
theorem dX10_canBeDone_15 : decode cX10_canBeDone 15 = .ok (.getfield 26, 3) := by decide +kernel
theorem dX10_canBeDone_18 : decode cX10_canBeDone 18 = .ok (.aload_n 0, 1) := by decide +kernel
theorem dX10_canBeDone_19 : decode cX10_canBeDone 19 = .ok (.getfield 19, 3) := by decide +kernel
theorem dX10_canBeDone_22 : decode cX10_canBeDone 22 = .ok (.aload_n 0, 1) := by decide +kernel
theorem dX10_canBeDone_23 : decode cX10_canBeDone 23 = .ok (.getfield 10, 3) := by decide +kernel
theorem dX10_canBeDone_26 : decode cX10_canBeDone 26 = .ok (.invokevirtual 119, 3) := by decide +kernel
theorem dX10_canBeDone_29 : decode cX10_canBeDone 29 = .ok (.aload_n 0, 1) := by decide +kernel
theorem dX10_canBeDone_30 : decode cX10_canBeDone 30 = .ok (.getfield 26, 3) := by decide +kernel
theorem dX10_canBeDone_33 : decode cX10_canBeDone 33 = .ok (.getfield 123, 3) := by decide +kernel
theorem dX10_canBeDone_36 : decode cX10_canBeDone 36 = .ok (.ifCond .ne 7, 3) := by decide +kernel
theorem dX10_canBeDone_39 : decode cX10_canBeDone 39 = .ok (.iconst 1, 1) := by decide +kernel
theorem dX10_canBeDone_40 : decode cX10_canBeDone 40 = .ok (.goto 4, 3) := by decide +kernel
theorem dX10_canBeDone_43 : decode cX10_canBeDone 43 = .ok (.iconst 0, 1) := by decide +kernel
theorem dX10_canBeDone_44 : decode cX10_canBeDone 44 = .ok (.ireturn, 1) := by decide +kernel
theorem dX10_isWithin_0 : decode cX10_isWithin 0 = .ok (.iload_n 0, 1) := by decide +kernel
theorem dX10_isWithin_1 : decode cX10_isWithin 1 = .ok (.iload_n 1, 1) := by decide +kernel
theorem dX10_isWithin_2 : decode cX10_isWithin 2 = .ok (.if_icmp .lt 12, 3) := by decide +kernel
theorem dX10_isWithin_5 : decode cX10_isWithin 5 = .ok (.iload_n 0, 1) := by decide +kernel
theorem dX10_isWithin_6 : decode cX10_isWithin 6 = .ok (.iload_n 2, 1) := by decide +kernel
theorem dX10_isWithin_7 : decode cX10_isWithin 7 = .ok (.if_icmp .gt 7, 3) := by decide +kernel
theorem dX10_isWithin_10 : decode cX10_isWithin 10 = .ok (.iconst 1, 1) := by decide +kernel
theorem dX10_isWithin_11 : decode cX10_isWithin 11 = .ok (.goto 4, 3) := by decide +kernel
theorem dX10_isWithin_14 : decode cX10_isWithin 14 = .ok (.iconst 0, 1) := by decide +kernel
theorem dX10_isWithin_15 : decode cX10_isWithin 15 = .ok (.ireturn, 1) := by decide +kernel
theorem dX10_isOne_0 : decode cX10_isOne 0 = .ok (.iload_n 0, 1) := by decide +kernel
theorem dX10_isOne_1 : decode cX10_isOne 1 = .ok (.ifCond .lt 13, 3) := by decide +kernel
theorem dX10_isOne_4 : decode cX10_isOne 4 = .ok (.iload_n 0, 1) := by decide +kernel
theorem dX10_isOne_5 : decode cX10_isOne 5 = .ok (.bipush 8, 2) := by decide +kernel
theorem dX10_isOne_7 : decode cX10_isOne 7 = .ok (.if_icmp .ge 7, 3) := by decide +kernel
theorem dX10_isOne_10 : decode cX10_isOne 10 = .ok (.iconst 1, 1) := by decide +kernel
theorem dX10_isOne_11 : decode cX10_isOne 11 = .ok (.goto 4, 3) := by decide +kernel
theorem dX10_isOne_14 : decode cX10_isOne 14 = .ok (.iconst 0, 1) := by decide +kernel
theorem dX10_isOne_15 : decode cX10_isOne 15 = .ok (.ireturn, 1) := by decide +kernel
theorem dX10_isCart_0 : decode cX10_isCart 0 = .ok (.iload_n 0, 1) := by decide +kernel
theorem dX10_isCart_1 : decode cX10_isCart 1 = .ok (.ifCond .lt 12, 3) := by decide +kernel
theorem dX10_isCart_4 : decode cX10_isCart 4 = .ok (.iload_n 0, 1) := by decide +kernel
theorem dX10_isCart_5 : decode cX10_isCart 5 = .ok (.iconst 4, 1) := by decide +kernel
theorem dX10_isCart_6 : decode cX10_isCart 6 = .ok (.if_icmp .ge 7, 3) := by decide +kernel
theorem dX10_isCart_9 : decode cX10_isCart 9 = .ok (.iconst 1, 1) := by decide +kernel
theorem dX10_isCart_10 : decode cX10_isCart 10 = .ok (.goto 4, 3) := by decide +kernel
theorem dX10_isCart_13 : decode cX10_isCart 13 = .ok (.iconst 0, 1) := by decide +kernel
theorem dX10_isCart_14 : decode cX10_isCart 14 = .ok (.ireturn, 1) := by decide +kernel
theorem dX10_isDay_0 : decode cX10_isDay 0 = .ok (.iload_n 0, 1) := by decide +kernel
theorem dX10_isDay_1 : decode cX10_isDay 1 = .ok (.ifCond .lt 13, 3) := by decide +kernel
theorem dX10_isDay_4 : decode cX10_isDay 4 = .ok (.iload_n 0, 1) := by decide +kernel
theorem dX10_isDay_5 : decode cX10_isDay 5 = .ok (.bipush 7, 2) := by decide +kernel
theorem dX10_isDay_7 : decode cX10_isDay 7 = .ok (.if_icmp .ge 7, 3) := by decide +kernel
theorem dX10_isDay_10 : decode cX10_isDay 10 = .ok (.iconst 1, 1) := by decide +kernel
theorem dX10_isDay_11 : decode cX10_isDay 11 = .ok (.goto 4, 3) := by decide +kernel
theorem dX10_isDay_14 : decode cX10_isDay 14 = .ok (.iconst 0, 1) := by decide +kernel
theorem dX10_isDay_15 : decode cX10_isDay 15 = .ok (.ireturn, 1) := by decide +kernel
theorem dX10_dayOrNone_0 : decode cX10_dayOrNone 0 = .ok (.iload_n 0, 1) := by decide +kernel
theorem dX10_dayOrNone_1 : decode cX10_dayOrNone 1 = .ok (.iconst (-1), 1) := by decide +kernel
theorem dX10_dayOrNone_2 : decode cX10_dayOrNone 2 = .ok (.if_icmp .ne 8, 3) := by decide +kernel
theorem dX10_dayOrNone_5 : decode cX10_dayOrNone 5 = .ok (.bipush (-6), 2) := by decide +kernel
theorem dX10_dayOrNone_7 : decode cX10_dayOrNone 7 = .ok (.goto 4, 3) := by decide +kernel
theorem dX10_dayOrNone_10 : decode cX10_dayOrNone 10 = .ok (.iload_n 0, 1) := by decide +kernel
theorem dX10_dayOrNone_11 : decode cX10_dayOrNone 11 = .ok (.ireturn, 1) := by decide +kernel
theorem dX10_leastBeside_0 : decode cX10_leastBeside 0 = .ok (.iload_n 0, 1) := by decide +kernel
theorem dX10_leastBeside_1 : decode cX10_leastBeside 1 = .ok (.iload_n 1, 1) := by decide +kernel
theorem dX10_leastBeside_2 : decode cX10_leastBeside 2 = .ok (.if_icmp .ge 9, 3) := by decide +kernel
theorem dX10_leastBeside_5 : decode cX10_leastBeside 5 = .ok (.iload_n 2, 1) := by decide +kernel
theorem dX10_leastBeside_6 : decode cX10_leastBeside 6 = .ok (.iconst 1, 1) := by decide +kernel
theorem dX10_leastBeside_7 : decode cX10_leastBeside 7 = .ok (.iadd, 1) := by decide +kernel
theorem dX10_leastBeside_8 : decode cX10_leastBeside 8 = .ok (.goto 4, 3) := by decide +kernel
theorem dX10_leastBeside_11 : decode cX10_leastBeside 11 = .ok (.iload_n 2, 1) := by decide +kernel
theorem dX10_leastBeside_12 : decode cX10_leastBeside 12 = .ok (.ireturn, 1) := by decide +kernel
theorem dX10_leastWinningTake_0 : decode cX10_leastWinningTake 0 = .ok (.iload_n 0, 1) := by decide +kernel
theorem dX10_leastWinningTake_1 : decode cX10_leastWinningTake 1 = .ok (.istore_n 1, 1) := by decide +kernel
theorem dX10_leastWinningTake_2 : decode cX10_leastWinningTake 2 = .ok (.iconst 0, 1) := by decide +kernel
theorem dX10_leastWinningTake_3 : decode cX10_leastWinningTake 3 = .ok (.istore_n 2, 1) := by decide +kernel
theorem dX10_leastWinningTake_4 : decode cX10_leastWinningTake 4 = .ok (.getstatic 238, 3) := by decide +kernel
theorem dX10_leastWinningTake_7 : decode cX10_leastWinningTake 7 = .ok (.arraylength, 1) := by decide +kernel
theorem dX10_leastWinningTake_8 : decode cX10_leastWinningTake 8 = .ok (.iconst 1, 1) := by decide +kernel
theorem dX10_leastWinningTake_9 : decode cX10_leastWinningTake 9 = .ok (.isub, 1) := by decide +kernel
theorem dX10_leastWinningTake_10 : decode cX10_leastWinningTake 10 = .ok (.istore_n 3, 1) := by decide +kernel
theorem dX10_leastWinningTake_11 : decode cX10_leastWinningTake 11 = .ok (.iload_n 3, 1) := by decide +kernel
theorem dX10_leastWinningTake_12 : decode cX10_leastWinningTake 12 = .ok (.ifCond .lt 28, 3) := by decide +kernel
theorem dX10_leastWinningTake_15 : decode cX10_leastWinningTake 15 = .ok (.getstatic 238, 3) := by decide +kernel
theorem dX10_leastWinningTake_18 : decode cX10_leastWinningTake 18 = .ok (.iload_n 3, 1) := by decide +kernel
theorem dX10_leastWinningTake_19 : decode cX10_leastWinningTake 19 = .ok (.iaload, 1) := by decide +kernel
theorem dX10_leastWinningTake_20 : decode cX10_leastWinningTake 20 = .ok (.iload_n 1, 1) := by decide +kernel
theorem dX10_leastWinningTake_21 : decode cX10_leastWinningTake 21 = .ok (.if_icmp .gt 13, 3) := by decide +kernel
theorem dX10_leastWinningTake_24 : decode cX10_leastWinningTake 24 = .ok (.getstatic 238, 3) := by decide +kernel
theorem dX10_leastWinningTake_27 : decode cX10_leastWinningTake 27 = .ok (.iload_n 3, 1) := by decide +kernel
theorem dX10_leastWinningTake_28 : decode cX10_leastWinningTake 28 = .ok (.iaload, 1) := by decide +kernel
theorem dX10_leastWinningTake_29 : decode cX10_leastWinningTake 29 = .ok (.istore_n 2, 1) := by decide +kernel
theorem dX10_leastWinningTake_30 : decode cX10_leastWinningTake 30 = .ok (.iload_n 1, 1) := by decide +kernel
theorem dX10_leastWinningTake_31 : decode cX10_leastWinningTake 31 = .ok (.iload_n 2, 1) := by decide +kernel
theorem dX10_leastWinningTake_32 : decode cX10_leastWinningTake 32 = .ok (.isub, 1) := by decide +kernel
theorem dX10_leastWinningTake_33 : decode cX10_leastWinningTake 33 = .ok (.istore_n 1, 1) := by decide +kernel
theorem dX10_leastWinningTake_34 : decode cX10_leastWinningTake 34 = .ok (.iinc 3 (-1), 3) := by decide +kernel
theorem dX10_leastWinningTake_37 : decode cX10_leastWinningTake 37 = .ok (.goto (-26), 3) := by decide +kernel
theorem dX10_leastWinningTake_40 : decode cX10_leastWinningTake 40 = .ok (.iload_n 2, 1) := by decide +kernel
theorem dX10_leastWinningTake_41 : decode cX10_leastWinningTake 41 = .ok (.ireturn, 1) := by decide +kernel
theorem dX10_power_0 : decode cX10_power 0 = .ok (.lconst 1, 1) := by decide +kernel
theorem dX10_power_1 : decode cX10_power 1 = .ok (.lstore_n 2, 1) := by decide +kernel
theorem dX10_power_2 : decode cX10_power 2 = .ok (.iconst 0, 1) := by decide +kernel
theorem dX10_power_3 : decode cX10_power 3 = .ok (.istore 4, 2) := by decide +kernel
theorem dX10_power_5 : decode cX10_power 5 = .ok (.iload 4, 2) := by decide +kernel
theorem dX10_power_7 : decode cX10_power 7 = .ok (.iload_n 1, 1) := by decide +kernel
theorem dX10_power_8 : decode cX10_power 8 = .ok (.if_icmp .ge 14, 3) := by decide +kernel
theorem dX10_power_11 : decode cX10_power 11 = .ok (.lload_n 2, 1) := by decide +kernel
theorem dX10_power_12 : decode cX10_power 12 = .ok (.iload_n 0, 1) := by decide +kernel
theorem dX10_power_13 : decode cX10_power 13 = .ok (.i2l, 1) := by decide +kernel
theorem dX10_power_14 : decode cX10_power 14 = .ok (.lmul, 1) := by decide +kernel
theorem dX10_power_15 : decode cX10_power 15 = .ok (.lstore_n 2, 1) := by decide +kernel
theorem dX10_power_16 : decode cX10_power 16 = .ok (.iinc 4 1, 3) := by decide +kernel
theorem dX10_power_19 : decode cX10_power 19 = .ok (.goto (-14), 3) := by decide +kernel
theorem dX10_power_22 : decode cX10_power 22 = .ok (.lload_n 2, 1) := by decide +kernel
theorem dX10_power_23 : decode cX10_power 23 = .ok (.lreturn, 1) := by decide +kernel
theorem dX10_inLowestTerms_0 : decode cX10_inLowestTerms 0 = .ok (.lload_n 0, 1) := by decide +kernel
theorem dX10_inLowestTerms_1 : decode cX10_inLowestTerms 1 = .ok (.lload_n 2, 1) := by decide +kernel
theorem dX10_inLowestTerms_2 : decode cX10_inLowestTerms 2 = .ok (.invokestatic 241, 3) := by decide +kernel
theorem dX10_inLowestTerms_5 : decode cX10_inLowestTerms 5 = .ok (.lstore 5, 2) := by decide +kernel
theorem dX10_inLowestTerms_7 : decode cX10_inLowestTerms 7 = .ok (.iload 4, 2) := by decide +kernel
theorem dX10_inLowestTerms_9 : decode cX10_inLowestTerms 9 = .ok (.ifCond .ne 7, 3) := by decide +kernel
theorem dX10_inLowestTerms_12 : decode cX10_inLowestTerms 12 = .ok (.lload_n 0, 1) := by decide +kernel
theorem dX10_inLowestTerms_13 : decode cX10_inLowestTerms 13 = .ok (.goto 4, 3) := by decide +kernel
theorem dX10_inLowestTerms_16 : decode cX10_inLowestTerms 16 = .ok (.lload_n 2, 1) := by decide +kernel
theorem dX10_inLowestTerms_17 : decode cX10_inLowestTerms 17 = .ok (.lstore 7, 2) := by decide +kernel
theorem dX10_inLowestTerms_19 : decode cX10_inLowestTerms 19 = .ok (.lload 5, 2) := by decide +kernel
theorem dX10_inLowestTerms_21 : decode cX10_inLowestTerms 21 = .ok (.lconst 1, 1) := by decide +kernel
theorem dX10_inLowestTerms_22 : decode cX10_inLowestTerms 22 = .ok (.lcmp, 1) := by decide +kernel
theorem dX10_inLowestTerms_23 : decode cX10_inLowestTerms 23 = .ok (.ifCond .le 11, 3) := by decide +kernel
theorem dX10_inLowestTerms_26 : decode cX10_inLowestTerms 26 = .ok (.lload 7, 2) := by decide +kernel
theorem dX10_inLowestTerms_28 : decode cX10_inLowestTerms 28 = .ok (.lload 5, 2) := by decide +kernel
theorem dX10_inLowestTerms_30 : decode cX10_inLowestTerms 30 = .ok (.ldiv, 1) := by decide +kernel
theorem dX10_inLowestTerms_31 : decode cX10_inLowestTerms 31 = .ok (.goto 5, 3) := by decide +kernel
theorem dX10_inLowestTerms_34 : decode cX10_inLowestTerms 34 = .ok (.lload 7, 2) := by decide +kernel
theorem dX10_inLowestTerms_36 : decode cX10_inLowestTerms 36 = .ok (.lreturn, 1) := by decide +kernel
theorem dX10_commonDivisor_0 : decode cX10_commonDivisor 0 = .ok (.lload_n 0, 1) := by decide +kernel
theorem dX10_commonDivisor_1 : decode cX10_commonDivisor 1 = .ok (.lstore 4, 2) := by decide +kernel
theorem dX10_commonDivisor_3 : decode cX10_commonDivisor 3 = .ok (.lload_n 2, 1) := by decide +kernel
theorem dX10_commonDivisor_4 : decode cX10_commonDivisor 4 = .ok (.lstore 6, 2) := by decide +kernel
theorem dX10_commonDivisor_6 : decode cX10_commonDivisor 6 = .ok (.iconst 0, 1) := by decide +kernel
theorem dX10_commonDivisor_7 : decode cX10_commonDivisor 7 = .ok (.istore 8, 2) := by decide +kernel
theorem dX10_commonDivisor_9 : decode cX10_commonDivisor 9 = .ok (.iload 8, 2) := by decide +kernel
theorem dX10_commonDivisor_11 : decode cX10_commonDivisor 11 = .ok (.sipush 1000, 3) := by decide +kernel
theorem dX10_commonDivisor_14 : decode cX10_commonDivisor 14 = .ok (.if_icmp .ge 31, 3) := by decide +kernel
theorem dX10_commonDivisor_17 : decode cX10_commonDivisor 17 = .ok (.lload 6, 2) := by decide +kernel
theorem dX10_commonDivisor_19 : decode cX10_commonDivisor 19 = .ok (.lconst 0, 1) := by decide +kernel
theorem dX10_commonDivisor_20 : decode cX10_commonDivisor 20 = .ok (.lcmp, 1) := by decide +kernel
theorem dX10_commonDivisor_21 : decode cX10_commonDivisor 21 = .ok (.ifCond .eq 24, 3) := by decide +kernel
theorem dX10_commonDivisor_24 : decode cX10_commonDivisor 24 = .ok (.lload 4, 2) := by decide +kernel
theorem dX10_commonDivisor_26 : decode cX10_commonDivisor 26 = .ok (.lload 6, 2) := by decide +kernel
theorem dX10_commonDivisor_28 : decode cX10_commonDivisor 28 = .ok (.lrem, 1) := by decide +kernel
theorem dX10_commonDivisor_29 : decode cX10_commonDivisor 29 = .ok (.lstore 9, 2) := by decide +kernel
theorem dX10_commonDivisor_31 : decode cX10_commonDivisor 31 = .ok (.lload 6, 2) := by decide +kernel
theorem dX10_commonDivisor_33 : decode cX10_commonDivisor 33 = .ok (.lstore 4, 2) := by decide +kernel
theorem dX10_commonDivisor_35 : decode cX10_commonDivisor 35 = .ok (.lload 9, 2) := by decide +kernel
theorem dX10_commonDivisor_37 : decode cX10_commonDivisor 37 = .ok (.lstore 6, 2) := by decide +kernel
theorem dX10_commonDivisor_39 : decode cX10_commonDivisor 39 = .ok (.iinc 8 1, 3) := by decide +kernel
theorem dX10_commonDivisor_42 : decode cX10_commonDivisor 42 = .ok (.goto (-33), 3) := by decide +kernel
theorem dX10_commonDivisor_45 : decode cX10_commonDivisor 45 = .ok (.lload 4, 2) := by decide +kernel
theorem dX10_commonDivisor_47 : decode cX10_commonDivisor 47 = .ok (.lreturn, 1) := by decide +kernel
theorem dX11_init_0 : decode cX11_init 0 = .ok (.aload_n 0, 1) := by decide +kernel
theorem dX11_init_1 : decode cX11_init 1 = .ok (.invokespecial 1, 3) := by decide +kernel
theorem dX11_init_4 : decode cX11_init 4 = .ok (.aload_n 0, 1) := by decide +kernel
theorem dX11_init_5 : decode cX11_init 5 = .ok (.bipush 31, 2) := by decide +kernel
theorem dX11_init_7 : decode cX11_init 7 = .ok (.newarray .int, 2) := by decide +kernel
theorem dX11_init_9 : decode cX11_init 9 = .ok (.putfield 7, 3) := by decide +kernel
theorem dX11_init_12 : decode cX11_init 12 = .ok (.aload_n 0, 1) := by decide +kernel
theorem dX11_init_13 : decode cX11_init 13 = .ok (.bipush 31, 2) := by decide +kernel
theorem dX11_init_15 : decode cX11_init 15 = .ok (.newarray .int, 2) := by decide +kernel
theorem dX11_init_17 : decode cX11_init 17 = .ok (.putfield 13, 3) := by decide +kernel
theorem dX11_init_20 : decode cX11_init 20 = .ok (.aload_n 0, 1) := by decide +kernel
theorem dX11_init_21 : decode cX11_init 21 = .ok (.bipush 24, 2) := by decide +kernel
theorem dX11_init_23 : decode cX11_init 23 = .ok (.newarray .int, 2) := by decide +kernel
theorem dX11_init_25 : decode cX11_init 25 = .ok (.putfield 16, 3) := by decide +kernel
theorem dX11_init_28 : decode cX11_init 28 = .ok (.aload_n 0, 1) := by decide +kernel
theorem dX11_init_29 : decode cX11_init 29 = .ok (.bipush 60, 2) := by decide +kernel
theorem dX11_init_31 : decode cX11_init 31 = .ok (.newarray .int, 2) := by decide +kernel
theorem dX11_init_33 : decode cX11_init 33 = .ok (.putfield 19, 3) := by decide +kernel
theorem dX11_init_36 : decode cX11_init 36 = .ok (.aload_n 0, 1) := by decide +kernel
theorem dX11_init_37 : decode cX11_init 37 = .ok (.bipush 9, 2) := by decide +kernel
theorem dX11_init_39 : decode cX11_init 39 = .ok (.newarray .int, 2) := by decide +kernel
theorem dX11_init_41 : decode cX11_init 41 = .ok (.putfield 22, 3) := by decide +kernel
theorem dX11_init_44 : decode cX11_init 44 = .ok (.aload_n 0, 1) := by decide +kernel
theorem dX11_init_45 : decode cX11_init 45 = .ok (.bipush 11, 2) := by decide +kernel
theorem dX11_init_47 : decode cX11_init 47 = .ok (.newarray .int, 2) := by decide +kernel
theorem dX11_init_49 : decode cX11_init 49 = .ok (.putfield 25, 3) := by decide +kernel
theorem dX11_init_52 : decode cX11_init 52 = .ok (.aload_n 0, 1) := by decide +kernel
theorem dX11_init_53 : decode cX11_init 53 = .ok (.bipush 11, 2) := by decide +kernel
theorem dX11_init_55 : decode cX11_init 55 = .ok (.newarray .int, 2) := by decide +kernel
theorem dX11_init_57 : decode cX11_init 57 = .ok (.putfield 28, 3) := by decide +kernel
theorem dX11_init_60 : decode cX11_init 60 = .ok (.aload_n 0, 1) := by decide +kernel
theorem dX11_init_61 : decode cX11_init 61 = .ok (.iconst 3, 1) := by decide +kernel
theorem dX11_init_62 : decode cX11_init 62 = .ok (.newarray .int, 2) := by decide +kernel
theorem dX11_init_64 : decode cX11_init 64 = .ok (.putfield 31, 3) := by decide +kernel
theorem dX11_init_67 : decode cX11_init 67 = .ok (.aload_n 0, 1) := by decide +kernel
theorem dX11_init_68 : decode cX11_init 68 = .ok (.bipush 100, 2) := by decide +kernel
theorem dX11_init_70 : decode cX11_init 70 = .ok (.newarray .int, 2) := by decide +kernel
theorem dX11_init_72 : decode cX11_init 72 = .ok (.putfield 34, 3) := by decide +kernel
theorem dX11_init_75 : decode cX11_init 75 = .ok (.aload_n 0, 1) := by decide +kernel
theorem dX11_init_76 : decode cX11_init 76 = .ok (.bipush 13, 2) := by decide +kernel
theorem dX11_init_78 : decode cX11_init 78 = .ok (.newarray .long, 2) := by decide +kernel
theorem dX11_init_80 : decode cX11_init 80 = .ok (.putfield 37, 3) := by decide +kernel
theorem dX11_init_83 : decode cX11_init 83 = .ok (.aload_n 0, 1) := by decide +kernel
theorem dX11_init_84 : decode cX11_init 84 = .ok (.bipush 13, 2) := by decide +kernel
theorem dX11_init_86 : decode cX11_init 86 = .ok (.newarray .long, 2) := by decide +kernel
theorem dX11_init_88 : decode cX11_init 88 = .ok (.putfield 41, 3) := by decide +kernel
theorem dX11_init_91 : decode cX11_init 91 = .ok (.aload_n 0, 1) := by decide +kernel
theorem dX11_init_92 : decode cX11_init 92 = .ok (.sipush 169, 3) := by decide +kernel
theorem dX11_init_95 : decode cX11_init 95 = .ok (.newarray .long, 2) := by decide +kernel
theorem dX11_init_97 : decode cX11_init 97 = .ok (.putfield 44, 3) := by decide +kernel
theorem dX11_init_100 : decode cX11_init 100 = .ok (.aload_n 0, 1) := by decide +kernel
theorem dX11_init_101 : decode cX11_init 101 = .ok (.bipush 120, 2) := by decide +kernel
theorem dX11_init_103 : decode cX11_init 103 = .ok (.newarray .int, 2) := by decide +kernel
theorem dX11_init_105 : decode cX11_init 105 = .ok (.putfield 47, 3) := by decide +kernel
theorem dX11_init_108 : decode cX11_init 108 = .ok (.aload_n 0, 1) := by decide +kernel
theorem dX11_init_109 : decode cX11_init 109 = .ok (.iconst 2, 1) := by decide +kernel
theorem dX11_init_110 : decode cX11_init 110 = .ok (.newarray .boolean, 2) := by decide +kernel
theorem dX11_init_112 : decode cX11_init 112 = .ok (.putfield 50, 3) := by decide +kernel
theorem dX11_init_115 : decode cX11_init 115 = .ok (.iconst 0, 1) := by decide +kernel
theorem dX11_init_116 : decode cX11_init 116 = .ok (.istore_n 1, 1) := by decide +kernel
theorem dX11_init_117 : decode cX11_init 117 = .ok (.iload_n 1, 1) := by decide +kernel
theorem dX11_init_118 : decode cX11_init 118 = .ok (.bipush 8, 2) := by decide +kernel
theorem dX11_init_120 : decode cX11_init 120 = .ok (.if_icmp .ge 38, 3) := by decide +kernel
theorem dX11_init_123 : decode cX11_init 123 = .ok (.aload_n 0, 1) := by decide +kernel
theorem dX11_init_124 : decode cX11_init 124 = .ok (.getfield 7, 3) := by decide +kernel
theorem dX11_init_127 : decode cX11_init 127 = .ok (.iload_n 1, 1) := by decide +kernel
theorem dX11_init_128 : decode cX11_init 128 = .ok (.bipush (-6), 2) := by decide +kernel
theorem dX11_init_130 : decode cX11_init 130 = .ok (.iastore, 1) := by decide +kernel
theorem dX11_init_131 : decode cX11_init 131 = .ok (.aload_n 0, 1) := by decide +kernel
theorem dX11_init_132 : decode cX11_init 132 = .ok (.getfield 7, 3) := by decide +kernel
theorem dX11_init_135 : decode cX11_init 135 = .ok (.bipush 8, 2) := by decide +kernel
theorem dX11_init_137 : decode cX11_init 137 = .ok (.iload_n 1, 1) := by decide +kernel
theorem dX11_init_138 : decode cX11_init 138 = .ok (.iadd, 1) := by decide +kernel
theorem dX11_init_139 : decode cX11_init 139 = .ok (.iconst 5, 1) := by decide +kernel
theorem dX11_init_140 : decode cX11_init 140 = .ok (.iastore, 1) := by decide +kernel
theorem dX11_init_141 : decode cX11_init 141 = .ok (.aload_n 0, 1) := by decide +kernel
theorem dX11_init_142 : decode cX11_init 142 = .ok (.getfield 7, 3) := by decide +kernel
theorem dX11_init_145 : decode cX11_init 145 = .ok (.bipush 16, 2) := by decide +kernel
theorem dX11_init_147 : decode cX11_init 147 = .ok (.iload_n 1, 1) := by decide +kernel
theorem dX11_init_148 : decode cX11_init 148 = .ok (.iadd, 1) := by decide +kernel
theorem dX11_init_149 : decode cX11_init 149 = .ok (.bipush 10, 2) := by decide +kernel
theorem dX11_init_151 : decode cX11_init 151 = .ok (.iastore, 1) := by decide +kernel
theorem dX11_init_152 : decode cX11_init 152 = .ok (.iinc 1 1, 3) := by decide +kernel
theorem dX11_init_155 : decode cX11_init 155 = .ok (.goto (-38), 3) := by decide +kernel
theorem dX11_init_158 : decode cX11_init 158 = .ok (.iconst 0, 1) := by decide +kernel
theorem dX11_init_159 : decode cX11_init 159 = .ok (.istore_n 1, 1) := by decide +kernel
theorem dX11_init_160 : decode cX11_init 160 = .ok (.iload_n 1, 1) := by decide +kernel
theorem dX11_init_161 : decode cX11_init 161 = .ok (.iconst 4, 1) := by decide +kernel
theorem dX11_init_162 : decode cX11_init 162 = .ok (.if_icmp .ge 19, 3) := by decide +kernel
theorem dX11_init_165 : decode cX11_init 165 = .ok (.aload_n 0, 1) := by decide +kernel
theorem dX11_init_166 : decode cX11_init 166 = .ok (.getfield 7, 3) := by decide +kernel
theorem dX11_init_169 : decode cX11_init 169 = .ok (.bipush 24, 2) := by decide +kernel
theorem dX11_init_171 : decode cX11_init 171 = .ok (.iload_n 1, 1) := by decide +kernel
theorem dX11_init_172 : decode cX11_init 172 = .ok (.iadd, 1) := by decide +kernel
theorem dX11_init_173 : decode cX11_init 173 = .ok (.iconst 3, 1) := by decide +kernel
theorem dX11_init_174 : decode cX11_init 174 = .ok (.iastore, 1) := by decide +kernel
theorem dX11_init_175 : decode cX11_init 175 = .ok (.iinc 1 1, 3) := by decide +kernel
theorem dX11_init_178 : decode cX11_init 178 = .ok (.goto (-18), 3) := by decide +kernel
theorem dX11_init_181 : decode cX11_init 181 = .ok (.return_, 1) := by decide +kernel
theorem dX11_in_0 : decode cX11_in 0 = .ok (.iload_n 0, 1) := by decide +kernel
theorem dX11_in_1 : decode cX11_in 1 = .ok (.iload_n 1, 1) := by decide +kernel
theorem dX11_in_2 : decode cX11_in 2 = .ok (.if_icmp .lt 12, 3) := by decide +kernel
theorem dX11_in_5 : decode cX11_in 5 = .ok (.iload_n 0, 1) := by decide +kernel
theorem dX11_in_6 : decode cX11_in 6 = .ok (.iload_n 2, 1) := by decide +kernel
theorem dX11_in_7 : decode cX11_in 7 = .ok (.if_icmp .gt 7, 3) := by decide +kernel
theorem dX11_in_10 : decode cX11_in 10 = .ok (.iconst 1, 1) := by decide +kernel
theorem dX11_in_11 : decode cX11_in 11 = .ok (.goto 4, 3) := by decide +kernel
theorem dX11_in_14 : decode cX11_in 14 = .ok (.iconst 0, 1) := by decide +kernel
theorem dX11_in_15 : decode cX11_in 15 = .ok (.ireturn, 1) := by decide +kernel
theorem dX11_has_0 : decode cX11_has 0 = .ok (.iload_n 0, 1) := by decide +kernel
theorem dX11_has_1 : decode cX11_has 1 = .ok (.iload_n 1, 1) := by decide +kernel
theorem dX11_has_2 : decode cX11_has 2 = .ok (.ishr, 1) := by decide +kernel
theorem dX11_has_3 : decode cX11_has 3 = .ok (.iconst 1, 1) := by decide +kernel
theorem dX11_has_4 : decode cX11_has 4 = .ok (.iand, 1) := by decide +kernel
theorem dX11_has_5 : decode cX11_has 5 = .ok (.iconst 1, 1) := by decide +kernel
theorem dX11_has_6 : decode cX11_has 6 = .ok (.if_icmp .ne 7, 3) := by decide +kernel
theorem dX11_has_9 : decode cX11_has 9 = .ok (.iconst 1, 1) := by decide +kernel
theorem dX11_has_10 : decode cX11_has 10 = .ok (.goto 4, 3) := by decide +kernel
theorem dX11_has_13 : decode cX11_has 13 = .ok (.iconst 0, 1) := by decide +kernel
theorem dX11_has_14 : decode cX11_has 14 = .ok (.ireturn, 1) := by decide +kernel
theorem dX11_one_0 : decode cX11_one 0 = .ok (.iload_n 1, 1) := by decide +kernel
theorem dX11_one_1 : decode cX11_one 1 = .ok (.iconst 0, 1) := by decide +kernel
theorem dX11_one_2 : decode cX11_one 2 = .ok (.bipush 7, 2) := by decide +kernel
theorem dX11_one_4 : decode cX11_one 4 = .ok (.invokestatic 54, 3) := by decide +kernel
theorem dX11_one_7 : decode cX11_one 7 = .ok (.ifCond .ne 5, 3) := by decide +kernel
theorem dX11_one_10 : decode cX11_one 10 = .ok (.iconst (-1), 1) := by decide +kernel
theorem dX11_one_11 : decode cX11_one 11 = .ok (.ireturn, 1) := by decide +kernel
theorem dX11_one_12 : decode cX11_one 12 = .ok (.iload_n 2, 1) := by decide +kernel
theorem dX11_one_13 : decode cX11_one 13 = .ok (.iconst (-1), 1) := by decide +kernel
theorem dX11_one_14 : decode cX11_one 14 = .ok (.bipush 6, 2) := by decide +kernel
theorem dX11_one_16 : decode cX11_one 16 = .ok (.invokestatic 54, 3) := by decide +kernel
theorem dX11_one_19 : decode cX11_one 19 = .ok (.ifCond .eq 24, 3) := by decide +kernel
theorem dX11_one_22 : decode cX11_one 22 = .ok (.iload_n 3, 1) := by decide +kernel
theorem dX11_one_23 : decode cX11_one 23 = .ok (.iconst 0, 1) := by decide +kernel
theorem dX11_one_24 : decode cX11_one 24 = .ok (.bipush 9, 2) := by decide +kernel
theorem dX11_one_26 : decode cX11_one 26 = .ok (.invokestatic 54, 3) := by decide +kernel
theorem dX11_one_29 : decode cX11_one 29 = .ok (.ifCond .eq 14, 3) := by decide +kernel
theorem dX11_one_32 : decode cX11_one 32 = .ok (.iload 4, 2) := by decide +kernel
theorem dX11_one_34 : decode cX11_one 34 = .ok (.iconst 0, 1) := by decide +kernel
theorem dX11_one_35 : decode cX11_one 35 = .ok (.bipush 99, 2) := by decide +kernel
theorem dX11_one_37 : decode cX11_one 37 = .ok (.invokestatic 54, 3) := by decide +kernel
theorem dX11_one_40 : decode cX11_one 40 = .ok (.ifCond .ne 6, 3) := by decide +kernel
theorem dX11_one_43 : decode cX11_one 43 = .ok (.bipush (-2), 2) := by decide +kernel
theorem dX11_one_45 : decode cX11_one 45 = .ok (.ireturn, 1) := by decide +kernel
theorem dX11_one_46 : decode cX11_one 46 = .ok (.bipush 100, 2) := by decide +kernel
theorem dX11_one_48 : decode cX11_one 48 = .ok (.aload_n 0, 1) := by decide +kernel
theorem dX11_one_49 : decode cX11_one 49 = .ok (.getfield 7, 3) := by decide +kernel
theorem dX11_one_52 : decode cX11_one 52 = .ok (.bipush 8, 2) := by decide +kernel
theorem dX11_one_54 : decode cX11_one 54 = .ok (.iload_n 1, 1) := by decide +kernel
theorem dX11_one_55 : decode cX11_one 55 = .ok (.iadd, 1) := by decide +kernel
theorem dX11_one_56 : decode cX11_one 56 = .ok (.iaload, 1) := by decide +kernel
theorem dX11_one_57 : decode cX11_one 57 = .ok (.imul, 1) := by decide +kernel
theorem dX11_one_58 : decode cX11_one 58 = .ok (.aload_n 0, 1) := by decide +kernel
theorem dX11_one_59 : decode cX11_one 59 = .ok (.getfield 7, 3) := by decide +kernel
theorem dX11_one_62 : decode cX11_one 62 = .ok (.bipush 16, 2) := by decide +kernel
theorem dX11_one_64 : decode cX11_one 64 = .ok (.iload_n 1, 1) := by decide +kernel
theorem dX11_one_65 : decode cX11_one 65 = .ok (.iadd, 1) := by decide +kernel
theorem dX11_one_66 : decode cX11_one 66 = .ok (.iaload, 1) := by decide +kernel
theorem dX11_one_67 : decode cX11_one 67 = .ok (.iadd, 1) := by decide +kernel
theorem dX11_one_68 : decode cX11_one 68 = .ok (.istore 5, 2) := by decide +kernel
theorem dX11_one_70 : decode cX11_one 70 = .ok (.aload_n 0, 1) := by decide +kernel
theorem dX11_one_71 : decode cX11_one 71 = .ok (.getfield 7, 3) := by decide +kernel
theorem dX11_one_74 : decode cX11_one 74 = .ok (.iload_n 1, 1) := by decide +kernel
theorem dX11_one_75 : decode cX11_one 75 = .ok (.iload_n 2, 1) := by decide +kernel
theorem dX11_one_76 : decode cX11_one 76 = .ok (.ifCond .ge 8, 3) := by decide +kernel
theorem dX11_one_79 : decode cX11_one 79 = .ok (.bipush (-6), 2) := by decide +kernel
theorem dX11_one_81 : decode cX11_one 81 = .ok (.goto 4, 3) := by decide +kernel
theorem dX11_one_84 : decode cX11_one 84 = .ok (.iload_n 2, 1) := by decide +kernel
theorem dX11_one_85 : decode cX11_one 85 = .ok (.iastore, 1) := by decide +kernel
theorem dX11_one_86 : decode cX11_one 86 = .ok (.aload_n 0, 1) := by decide +kernel
theorem dX11_one_87 : decode cX11_one 87 = .ok (.getfield 7, 3) := by decide +kernel
theorem dX11_one_90 : decode cX11_one 90 = .ok (.bipush 8, 2) := by decide +kernel
theorem dX11_one_92 : decode cX11_one 92 = .ok (.iload_n 1, 1) := by decide +kernel
theorem dX11_one_93 : decode cX11_one 93 = .ok (.iadd, 1) := by decide +kernel
theorem dX11_one_94 : decode cX11_one 94 = .ok (.iload_n 3, 1) := by decide +kernel
theorem dX11_one_95 : decode cX11_one 95 = .ok (.iastore, 1) := by decide +kernel
theorem dX11_one_96 : decode cX11_one 96 = .ok (.aload_n 0, 1) := by decide +kernel
theorem dX11_one_97 : decode cX11_one 97 = .ok (.getfield 7, 3) := by decide +kernel
theorem dX11_one_100 : decode cX11_one 100 = .ok (.bipush 16, 2) := by decide +kernel
theorem dX11_one_102 : decode cX11_one 102 = .ok (.iload_n 1, 1) := by decide +kernel
theorem dX11_one_103 : decode cX11_one 103 = .ok (.iadd, 1) := by decide +kernel
theorem dX11_one_104 : decode cX11_one 104 = .ok (.iload 4, 2) := by decide +kernel
theorem dX11_one_106 : decode cX11_one 106 = .ok (.iastore, 1) := by decide +kernel
theorem dX11_one_107 : decode cX11_one 107 = .ok (.iload 5, 2) := by decide +kernel
theorem dX11_one_109 : decode cX11_one 109 = .ok (.ireturn, 1) := by decide +kernel
theorem dX11_cart_0 : decode cX11_cart 0 = .ok (.iload_n 1, 1) := by decide +kernel
theorem dX11_cart_1 : decode cX11_cart 1 = .ok (.iconst 0, 1) := by decide +kernel
theorem dX11_cart_2 : decode cX11_cart 2 = .ok (.iconst 3, 1) := by decide +kernel
theorem dX11_cart_3 : decode cX11_cart 3 = .ok (.invokestatic 54, 3) := by decide +kernel
theorem dX11_cart_6 : decode cX11_cart 6 = .ok (.ifCond .ne 5, 3) := by decide +kernel
theorem dX11_cart_9 : decode cX11_cart 9 = .ok (.iconst (-1), 1) := by decide +kernel
theorem dX11_cart_10 : decode cX11_cart 10 = .ok (.ireturn, 1) := by decide +kernel
theorem dX11_cart_11 : decode cX11_cart 11 = .ok (.iload_n 2, 1) := by decide +kernel
theorem dX11_cart_12 : decode cX11_cart 12 = .ok (.iconst 0, 1) := by decide +kernel
theorem dX11_cart_13 : decode cX11_cart 13 = .ok (.bipush 9, 2) := by decide +kernel
theorem dX11_cart_15 : decode cX11_cart 15 = .ok (.invokestatic 54, 3) := by decide +kernel
theorem dX11_cart_18 : decode cX11_cart 18 = .ok (.ifCond .ne 6, 3) := by decide +kernel
theorem dX11_cart_21 : decode cX11_cart 21 = .ok (.bipush (-2), 2) := by decide +kernel
theorem dX11_cart_23 : decode cX11_cart 23 = .ok (.ireturn, 1) := by decide +kernel
theorem dX11_cart_24 : decode cX11_cart 24 = .ok (.aload_n 0, 1) := by decide +kernel
theorem dX11_cart_25 : decode cX11_cart 25 = .ok (.getfield 7, 3) := by decide +kernel
theorem dX11_cart_28 : decode cX11_cart 28 = .ok (.bipush 24, 2) := by decide +kernel
theorem dX11_cart_30 : decode cX11_cart 30 = .ok (.iload_n 1, 1) := by decide +kernel
theorem dX11_cart_31 : decode cX11_cart 31 = .ok (.iadd, 1) := by decide +kernel
theorem dX11_cart_32 : decode cX11_cart 32 = .ok (.iaload, 1) := by decide +kernel
theorem dX11_cart_33 : decode cX11_cart 33 = .ok (.istore_n 3, 1) := by decide +kernel
theorem dX11_cart_34 : decode cX11_cart 34 = .ok (.aload_n 0, 1) := by decide +kernel
theorem dX11_cart_35 : decode cX11_cart 35 = .ok (.getfield 7, 3) := by decide +kernel
theorem dX11_cart_38 : decode cX11_cart 38 = .ok (.bipush 24, 2) := by decide +kernel
theorem dX11_cart_40 : decode cX11_cart 40 = .ok (.iload_n 1, 1) := by decide +kernel
theorem dX11_cart_41 : decode cX11_cart 41 = .ok (.iadd, 1) := by decide +kernel
theorem dX11_cart_42 : decode cX11_cart 42 = .ok (.iload_n 2, 1) := by decide +kernel
theorem dX11_cart_43 : decode cX11_cart 43 = .ok (.iastore, 1) := by decide +kernel
theorem dX11_cart_44 : decode cX11_cart 44 = .ok (.iload_n 3, 1) := by decide +kernel
theorem dX11_cart_45 : decode cX11_cart 45 = .ok (.ireturn, 1) := by decide +kernel
theorem dX11_day_0 : decode cX11_day 0 = .ok (.iload_n 1, 1) := by decide +kernel
theorem dX11_day_1 : decode cX11_day 1 = .ok (.iconst 0, 1) := by decide +kernel
theorem dX11_day_2 : decode cX11_day 2 = .ok (.bipush 6, 2) := by decide +kernel
theorem dX11_day_4 : decode cX11_day 4 = .ok (.invokestatic 54, 3) := by decide +kernel
theorem dX11_day_7 : decode cX11_day 7 = .ok (.ifCond .ne 6, 3) := by decide +kernel
theorem dX11_day_10 : decode cX11_day 10 = .ok (.bipush (-2), 2) := by decide +kernel
theorem dX11_day_12 : decode cX11_day 12 = .ok (.ireturn, 1) := by decide +kernel
theorem dX11_day_13 : decode cX11_day 13 = .ok (.aload_n 0, 1) := by decide +kernel
theorem dX11_day_14 : decode cX11_day 14 = .ok (.getfield 7, 3) := by decide +kernel
theorem dX11_day_17 : decode cX11_day 17 = .ok (.bipush 28, 2) := by decide +kernel
theorem dX11_day_19 : decode cX11_day 19 = .ok (.iaload, 1) := by decide +kernel
theorem dX11_day_20 : decode cX11_day 20 = .ok (.istore_n 2, 1) := by decide +kernel
theorem dX11_day_21 : decode cX11_day 21 = .ok (.aload_n 0, 1) := by decide +kernel
theorem dX11_day_22 : decode cX11_day 22 = .ok (.getfield 7, 3) := by decide +kernel
theorem dX11_day_25 : decode cX11_day 25 = .ok (.bipush 28, 2) := by decide +kernel
theorem dX11_day_27 : decode cX11_day 27 = .ok (.iload_n 1, 1) := by decide +kernel
theorem dX11_day_28 : decode cX11_day 28 = .ok (.iastore, 1) := by decide +kernel
theorem dX11_day_29 : decode cX11_day 29 = .ok (.iload_n 2, 1) := by decide +kernel
theorem dX11_day_30 : decode cX11_day 30 = .ok (.ireturn, 1) := by decide +kernel
theorem dX11_say_0 : decode cX11_say 0 = .ok (.iload_n 1, 1) := by decide +kernel
theorem dX11_say_1 : decode cX11_say 1 = .ok (.bipush 33, 2) := by decide +kernel
theorem dX11_say_3 : decode cX11_say 3 = .ok (.bipush 126, 2) := by decide +kernel
theorem dX11_say_5 : decode cX11_say 5 = .ok (.invokestatic 54, 3) := by decide +kernel
theorem dX11_say_8 : decode cX11_say 8 = .ok (.ifCond .ne 6, 3) := by decide +kernel
theorem dX11_say_11 : decode cX11_say 11 = .ok (.bipush (-2), 2) := by decide +kernel
theorem dX11_say_13 : decode cX11_say 13 = .ok (.ireturn, 1) := by decide +kernel
theorem dX11_say_14 : decode cX11_say 14 = .ok (.aload_n 0, 1) := by decide +kernel
theorem dX11_say_15 : decode cX11_say 15 = .ok (.getfield 58, 3) := by decide +kernel
theorem dX11_say_18 : decode cX11_say 18 = .ok (.bipush 60, 2) := by decide +kernel
theorem dX11_say_20 : decode cX11_say 20 = .ok (.if_icmp .ne 6, 3) := by decide +kernel
theorem dX11_say_23 : decode cX11_say 23 = .ok (.bipush (-4), 2) := by decide +kernel
theorem dX11_say_25 : decode cX11_say 25 = .ok (.ireturn, 1) := by decide +kernel
theorem dX11_say_26 : decode cX11_say 26 = .ok (.aload_n 0, 1) := by decide +kernel
theorem dX11_say_27 : decode cX11_say 27 = .ok (.getfield 19, 3) := by decide +kernel
theorem dX11_say_30 : decode cX11_say 30 = .ok (.aload_n 0, 1) := by decide +kernel
theorem dX11_say_31 : decode cX11_say 31 = .ok (.getfield 58, 3) := by decide +kernel
theorem dX11_say_34 : decode cX11_say 34 = .ok (.iload_n 1, 1) := by decide +kernel
theorem dX11_say_35 : decode cX11_say 35 = .ok (.iastore, 1) := by decide +kernel
theorem dX11_say_36 : decode cX11_say 36 = .ok (.aload_n 0, 1) := by decide +kernel
theorem dX11_say_37 : decode cX11_say 37 = .ok (.dup, 1) := by decide +kernel
theorem dX11_say_38 : decode cX11_say 38 = .ok (.getfield 58, 3) := by decide +kernel
theorem dX11_say_41 : decode cX11_say 41 = .ok (.iconst 1, 1) := by decide +kernel
theorem dX11_say_42 : decode cX11_say 42 = .ok (.iadd, 1) := by decide +kernel
theorem dX11_say_43 : decode cX11_say 43 = .ok (.putfield 58, 3) := by decide +kernel
theorem dX11_say_46 : decode cX11_say 46 = .ok (.aload_n 0, 1) := by decide +kernel
theorem dX11_say_47 : decode cX11_say 47 = .ok (.getfield 58, 3) := by decide +kernel
theorem dX11_say_50 : decode cX11_say 50 = .ok (.ireturn, 1) := by decide +kernel
theorem dX11_wipe_0 : decode cX11_wipe 0 = .ok (.aload_n 0, 1) := by decide +kernel
theorem dX11_wipe_1 : decode cX11_wipe 1 = .ok (.getfield 58, 3) := by decide +kernel
theorem dX11_wipe_4 : decode cX11_wipe 4 = .ok (.istore_n 1, 1) := by decide +kernel
theorem dX11_wipe_5 : decode cX11_wipe 5 = .ok (.aload_n 0, 1) := by decide +kernel
theorem dX11_wipe_6 : decode cX11_wipe 6 = .ok (.iconst 0, 1) := by decide +kernel
theorem dX11_wipe_7 : decode cX11_wipe 7 = .ok (.putfield 58, 3) := by decide +kernel
theorem dX11_wipe_10 : decode cX11_wipe 10 = .ok (.iload_n 1, 1) := by decide +kernel
theorem dX11_wipe_11 : decode cX11_wipe 11 = .ok (.ireturn, 1) := by decide +kernel
theorem dX11_step_0 : decode cX11_step 0 = .ok (.iload_n 1, 1) := by decide +kernel
theorem dX11_step_1 : decode cX11_step 1 = .ok (.bipush 65, 2) := by decide +kernel
theorem dX11_step_3 : decode cX11_step 3 = .ok (.bipush 72, 2) := by decide +kernel
theorem dX11_step_5 : decode cX11_step 5 = .ok (.invokestatic 54, 3) := by decide +kernel
theorem dX11_step_8 : decode cX11_step 8 = .ok (.istore_n 2, 1) := by decide +kernel
theorem dX11_step_9 : decode cX11_step 9 = .ok (.iload_n 0, 1) := by decide +kernel
theorem dX11_step_10 : decode cX11_step 10 = .ok (.tableswitch 114 0 2 #[26, 57, 103], 26) := by decide +kernel
theorem dX11_step_36 : decode cX11_step 36 = .ok (.iload_n 2, 1) := by decide +kernel
theorem dX11_step_37 : decode cX11_step 37 = .ok (.ifCond .eq 7, 3) := by decide +kernel
theorem dX11_step_40 : decode cX11_step 40 = .ok (.iconst 1, 1) := by decide +kernel
theorem dX11_step_41 : decode cX11_step 41 = .ok (.goto 25, 3) := by decide +kernel
theorem dX11_step_44 : decode cX11_step 44 = .ok (.iload_n 1, 1) := by decide +kernel
theorem dX11_step_45 : decode cX11_step 45 = .ok (.bipush 99, 2) := by decide +kernel
