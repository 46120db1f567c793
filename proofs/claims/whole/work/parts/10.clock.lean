theorem dX6_ask_0 : decode cX6_ask 0 = .ok (.aload_n 0, 1) := by decide +kernel
theorem dX6_ask_1 : decode cX6_ask 1 = .ok (.getfield 27, 3) := by decide +kernel
theorem dX6_ask_4 : decode cX6_ask 4 = .ok (.iload_n 1, 1) := by decide +kernel
theorem dX6_ask_5 : decode cX6_ask 5 = .ok (.invokevirtual 121, 3) := by decide +kernel
theorem dX6_ask_8 : decode cX6_ask 8 = .ok (.ifCond .eq 14, 3) := by decide +kernel
theorem dX6_ask_11 : decode cX6_ask 11 = .ok (.aload_n 0, 1) := by decide +kernel
theorem dX6_ask_12 : decode cX6_ask 12 = .ok (.getfield 27, 3) := by decide +kernel
theorem dX6_ask_15 : decode cX6_ask 15 = .ok (.iload_n 2, 1) := by decide +kernel
theorem dX6_ask_16 : decode cX6_ask 16 = .ok (.invokevirtual 95, 3) := by decide +kernel
theorem dX6_ask_19 : decode cX6_ask 19 = .ok (.ifCond .ne 5, 3) := by decide +kernel
theorem dX6_ask_22 : decode cX6_ask 22 = .ok (.iconst (-1), 1) := by decide +kernel
theorem dX6_ask_23 : decode cX6_ask 23 = .ok (.ireturn, 1) := by decide +kernel
theorem dX6_ask_24 : decode cX6_ask 24 = .ok (.iload_n 2, 1) := by decide +kernel
theorem dX6_ask_25 : decode cX6_ask 25 = .ok (.aload_n 0, 1) := by decide +kernel
theorem dX6_ask_26 : decode cX6_ask 26 = .ok (.getfield 27, 3) := by decide +kernel
theorem dX6_ask_29 : decode cX6_ask 29 = .ok (.getfield 124, 3) := by decide +kernel
theorem dX6_ask_32 : decode cX6_ask 32 = .ok (.iload_n 1, 1) := by decide +kernel
theorem dX6_ask_33 : decode cX6_ask 33 = .ok (.iaload, 1) := by decide +kernel
theorem dX6_ask_34 : decode cX6_ask 34 = .ok (.if_icmp .lt 16, 3) := by decide +kernel
theorem dX6_ask_37 : decode cX6_ask 37 = .ok (.iload_n 2, 1) := by decide +kernel
theorem dX6_ask_38 : decode cX6_ask 38 = .ok (.aload_n 0, 1) := by decide +kernel
theorem dX6_ask_39 : decode cX6_ask 39 = .ok (.getfield 27, 3) := by decide +kernel
theorem dX6_ask_42 : decode cX6_ask 42 = .ok (.getfield 127, 3) := by decide +kernel
theorem dX6_ask_45 : decode cX6_ask 45 = .ok (.iload_n 1, 1) := by decide +kernel
theorem dX6_ask_46 : decode cX6_ask 46 = .ok (.iaload, 1) := by decide +kernel
theorem dX6_ask_47 : decode cX6_ask 47 = .ok (.if_icmp .le 6, 3) := by decide +kernel
theorem dX6_ask_50 : decode cX6_ask 50 = .ok (.bipush (-2), 2) := by decide +kernel
theorem dX6_ask_52 : decode cX6_ask 52 = .ok (.ireturn, 1) := by decide +kernel
theorem dX6_ask_53 : decode cX6_ask 53 = .ok (.aload_n 0, 1) := by decide +kernel
theorem dX6_ask_54 : decode cX6_ask 54 = .ok (.getfield 37, 3) := by decide +kernel
theorem dX6_ask_57 : decode cX6_ask 57 = .ok (.getfield 130, 3) := by decide +kernel
theorem dX6_ask_60 : decode cX6_ask 60 = .ok (.iload_n 1, 1) := by decide +kernel
theorem dX6_ask_61 : decode cX6_ask 61 = .ok (.iaload, 1) := by decide +kernel
theorem dX6_ask_62 : decode cX6_ask 62 = .ok (.bipush (-9), 2) := by decide +kernel
theorem dX6_ask_64 : decode cX6_ask 64 = .ok (.if_icmp .eq 6, 3) := by decide +kernel
theorem dX6_ask_67 : decode cX6_ask 67 = .ok (.bipush (-3), 2) := by decide +kernel
theorem dX6_ask_69 : decode cX6_ask 69 = .ok (.ireturn, 1) := by decide +kernel
theorem dX6_ask_70 : decode cX6_ask 70 = .ok (.aload_n 0, 1) := by decide +kernel
theorem dX6_ask_71 : decode cX6_ask 71 = .ok (.getfield 37, 3) := by decide +kernel
theorem dX6_ask_74 : decode cX6_ask 74 = .ok (.getfield 130, 3) := by decide +kernel
theorem dX6_ask_77 : decode cX6_ask 77 = .ok (.iload_n 1, 1) := by decide +kernel
theorem dX6_ask_78 : decode cX6_ask 78 = .ok (.iload_n 2, 1) := by decide +kernel
theorem dX6_ask_79 : decode cX6_ask 79 = .ok (.iastore, 1) := by decide +kernel
theorem dX6_ask_80 : decode cX6_ask 80 = .ok (.aload_n 0, 1) := by decide +kernel
theorem dX6_ask_81 : decode cX6_ask 81 = .ok (.getfield 44, 3) := by decide +kernel
theorem dX6_ask_84 : decode cX6_ask 84 = .ok (.iconst 0, 1) := by decide +kernel
theorem dX6_ask_85 : decode cX6_ask 85 = .ok (.iload_n 1, 1) := by decide +kernel
theorem dX6_ask_86 : decode cX6_ask 86 = .ok (.iconst 0, 1) := by decide +kernel
theorem dX6_ask_87 : decode cX6_ask 87 = .ok (.invokevirtual 136, 3) := by decide +kernel
theorem dX6_ask_90 : decode cX6_ask 90 = .ok (.aload_n 0, 1) := by decide +kernel
theorem dX6_ask_91 : decode cX6_ask 91 = .ok (.getfield 27, 3) := by decide +kernel
theorem dX6_ask_94 : decode cX6_ask 94 = .ok (.iload_n 2, 1) := by decide +kernel
theorem dX6_ask_95 : decode cX6_ask 95 = .ok (.invokevirtual 140, 3) := by decide +kernel
theorem dX6_ask_98 : decode cX6_ask 98 = .ok (.ireturn, 1) := by decide +kernel
theorem dX6_asker_0 : decode cX6_asker 0 = .ok (.aload_n 0, 1) := by decide +kernel
theorem dX6_asker_1 : decode cX6_asker 1 = .ok (.getfield 27, 3) := by decide +kernel
theorem dX6_asker_4 : decode cX6_asker 4 = .ok (.iload_n 1, 1) := by decide +kernel
theorem dX6_asker_5 : decode cX6_asker 5 = .ok (.invokevirtual 121, 3) := by decide +kernel
theorem dX6_asker_8 : decode cX6_asker 8 = .ok (.ifCond .ne 5, 3) := by decide +kernel
theorem dX6_asker_11 : decode cX6_asker 11 = .ok (.iconst (-1), 1) := by decide +kernel
theorem dX6_asker_12 : decode cX6_asker 12 = .ok (.ireturn, 1) := by decide +kernel
theorem dX6_asker_13 : decode cX6_asker 13 = .ok (.iload_n 2, 1) := by decide +kernel
theorem dX6_asker_14 : decode cX6_asker 14 = .ok (.tableswitch 69 0 3 #[30, 40, 50, 60], 30) := by decide +kernel
theorem dX6_asker_44 : decode cX6_asker 44 = .ok (.aload_n 0, 1) := by decide +kernel
theorem dX6_asker_45 : decode cX6_asker 45 = .ok (.getfield 27, 3) := by decide +kernel
theorem dX6_asker_48 : decode cX6_asker 48 = .ok (.getfield 124, 3) := by decide +kernel
theorem dX6_asker_51 : decode cX6_asker 51 = .ok (.iload_n 1, 1) := by decide +kernel
theorem dX6_asker_52 : decode cX6_asker 52 = .ok (.iaload, 1) := by decide +kernel
theorem dX6_asker_53 : decode cX6_asker 53 = .ok (.ireturn, 1) := by decide +kernel
theorem dX6_asker_54 : decode cX6_asker 54 = .ok (.aload_n 0, 1) := by decide +kernel
theorem dX6_asker_55 : decode cX6_asker 55 = .ok (.getfield 27, 3) := by decide +kernel
theorem dX6_asker_58 : decode cX6_asker 58 = .ok (.getfield 127, 3) := by decide +kernel
theorem dX6_asker_61 : decode cX6_asker 61 = .ok (.iload_n 1, 1) := by decide +kernel
theorem dX6_asker_62 : decode cX6_asker 62 = .ok (.iaload, 1) := by decide +kernel
theorem dX6_asker_63 : decode cX6_asker 63 = .ok (.ireturn, 1) := by decide +kernel
theorem dX6_asker_64 : decode cX6_asker 64 = .ok (.aload_n 0, 1) := by decide +kernel
theorem dX6_asker_65 : decode cX6_asker 65 = .ok (.getfield 37, 3) := by decide +kernel
theorem dX6_asker_68 : decode cX6_asker 68 = .ok (.getfield 130, 3) := by decide +kernel
theorem dX6_asker_71 : decode cX6_asker 71 = .ok (.iload_n 1, 1) := by decide +kernel
theorem dX6_asker_72 : decode cX6_asker 72 = .ok (.iaload, 1) := by decide +kernel
theorem dX6_asker_73 : decode cX6_asker 73 = .ok (.ireturn, 1) := by decide +kernel
theorem dX6_asker_74 : decode cX6_asker 74 = .ok (.aload_n 0, 1) := by decide +kernel
theorem dX6_asker_75 : decode cX6_asker 75 = .ok (.getfield 37, 3) := by decide +kernel
theorem dX6_asker_78 : decode cX6_asker 78 = .ok (.iload_n 1, 1) := by decide +kernel
theorem dX6_asker_79 : decode cX6_asker 79 = .ok (.invokevirtual 133, 3) := by decide +kernel
theorem dX6_asker_82 : decode cX6_asker 82 = .ok (.ireturn, 1) := by decide +kernel
theorem dX6_asker_83 : decode cX6_asker 83 = .ok (.bipush (-2), 2) := by decide +kernel
theorem dX6_asker_85 : decode cX6_asker 85 = .ok (.ireturn, 1) := by decide +kernel
theorem dX6_partsSeen_0 : decode cX6_partsSeen 0 = .ok (.aload_n 0, 1) := by decide +kernel
theorem dX6_partsSeen_1 : decode cX6_partsSeen 1 = .ok (.getfield 27, 3) := by decide +kernel
theorem dX6_partsSeen_4 : decode cX6_partsSeen 4 = .ok (.aload_n 0, 1) := by decide +kernel
theorem dX6_partsSeen_5 : decode cX6_partsSeen 5 = .ok (.getfield 27, 3) := by decide +kernel
theorem dX6_partsSeen_8 : decode cX6_partsSeen 8 = .ok (.aload_n 0, 1) := by decide +kernel
theorem dX6_partsSeen_9 : decode cX6_partsSeen 9 = .ok (.getfield 37, 3) := by decide +kernel
theorem dX6_partsSeen_12 : decode cX6_partsSeen 12 = .ok (.getfield 143, 3) := by decide +kernel
theorem dX6_partsSeen_15 : decode cX6_partsSeen 15 = .ok (.invokevirtual 160, 3) := by decide +kernel
theorem dX6_partsSeen_18 : decode cX6_partsSeen 18 = .ok (.invokevirtual 163, 3) := by decide +kernel
theorem dX6_partsSeen_21 : decode cX6_partsSeen 21 = .ok (.ireturn, 1) := by decide +kernel
theorem dX6_by_0 : decode cX6_by 0 = .ok (.aload_n 0, 1) := by decide +kernel
theorem dX6_by_1 : decode cX6_by 1 = .ok (.getfield 27, 3) := by decide +kernel
theorem dX6_by_4 : decode cX6_by 4 = .ok (.iload_n 1, 1) := by decide +kernel
theorem dX6_by_5 : decode cX6_by 5 = .ok (.invokevirtual 121, 3) := by decide +kernel
theorem dX6_by_8 : decode cX6_by 8 = .ok (.ifCond .ne 5, 3) := by decide +kernel
theorem dX6_by_11 : decode cX6_by 11 = .ok (.iconst (-1), 1) := by decide +kernel
theorem dX6_by_12 : decode cX6_by 12 = .ok (.ireturn, 1) := by decide +kernel
theorem dX6_by_13 : decode cX6_by 13 = .ok (.aload_n 0, 1) := by decide +kernel
theorem dX6_by_14 : decode cX6_by 14 = .ok (.invokevirtual 185, 3) := by decide +kernel
theorem dX6_by_17 : decode cX6_by 17 = .ok (.ifCond .ne 6, 3) := by decide +kernel
theorem dX6_by_20 : decode cX6_by 20 = .ok (.bipush (-3), 2) := by decide +kernel
theorem dX6_by_22 : decode cX6_by 22 = .ok (.ireturn, 1) := by decide +kernel
theorem dX6_by_23 : decode cX6_by 23 = .ok (.aload_n 0, 1) := by decide +kernel
theorem dX6_by_24 : decode cX6_by 24 = .ok (.getfield 62, 3) := by decide +kernel
theorem dX6_by_27 : decode cX6_by 27 = .ok (.aload_n 0, 1) := by decide +kernel
theorem dX6_by_28 : decode cX6_by 28 = .ok (.getfield 27, 3) := by decide +kernel
theorem dX6_by_31 : decode cX6_by 31 = .ok (.aload_n 0, 1) := by decide +kernel
theorem dX6_by_32 : decode cX6_by 32 = .ok (.getfield 37, 3) := by decide +kernel
theorem dX6_by_35 : decode cX6_by 35 = .ok (.invokevirtual 188, 3) := by decide +kernel
theorem dX6_by_38 : decode cX6_by 38 = .ok (.aload_n 0, 1) := by decide +kernel
theorem dX6_by_39 : decode cX6_by 39 = .ok (.getfield 62, 3) := by decide +kernel
theorem dX6_by_42 : decode cX6_by 42 = .ok (.aload_n 0, 1) := by decide +kernel
theorem dX6_by_43 : decode cX6_by 43 = .ok (.getfield 27, 3) := by decide +kernel
theorem dX6_by_46 : decode cX6_by 46 = .ok (.aload_n 0, 1) := by decide +kernel
theorem dX6_by_47 : decode cX6_by 47 = .ok (.getfield 37, 3) := by decide +kernel
theorem dX6_by_50 : decode cX6_by 50 = .ok (.iload_n 1, 1) := by decide +kernel
theorem dX6_by_51 : decode cX6_by 51 = .ok (.invokevirtual 196, 3) := by decide +kernel
theorem dX6_by_54 : decode cX6_by 54 = .ok (.ireturn, 1) := by decide +kernel
theorem dX6_canSellWell_0 : decode cX6_canSellWell 0 = .ok (.aload_n 0, 1) := by decide +kernel
theorem dX6_canSellWell_1 : decode cX6_canSellWell 1 = .ok (.getfield 27, 3) := by decide +kernel
theorem dX6_canSellWell_4 : decode cX6_canSellWell 4 = .ok (.iload_n 1, 1) := by decide +kernel
theorem dX6_canSellWell_5 : decode cX6_canSellWell 5 = .ok (.invokevirtual 95, 3) := by decide +kernel
theorem dX6_canSellWell_8 : decode cX6_canSellWell 8 = .ok (.ifCond .eq 27, 3) := by decide +kernel
theorem dX6_canSellWell_11 : decode cX6_canSellWell 11 = .ok (.iload_n 2, 1) := by decide +kernel
theorem dX6_canSellWell_12 : decode cX6_canSellWell 12 = .ok (.iload_n 1, 1) := by decide +kernel
theorem dX6_canSellWell_13 : decode cX6_canSellWell 13 = .ok (.ishr, 1) := by decide +kernel
theorem dX6_canSellWell_14 : decode cX6_canSellWell 14 = .ok (.iconst 1, 1) := by decide +kernel
theorem dX6_canSellWell_15 : decode cX6_canSellWell 15 = .ok (.iand, 1) := by decide +kernel
theorem dX6_canSellWell_16 : decode cX6_canSellWell 16 = .ok (.ifCond .ne 19, 3) := by decide +kernel
theorem dX6_canSellWell_19 : decode cX6_canSellWell 19 = .ok (.aload_n 0, 1) := by decide +kernel
theorem dX6_canSellWell_20 : decode cX6_canSellWell 20 = .ok (.getfield 27, 3) := by decide +kernel
theorem dX6_canSellWell_23 : decode cX6_canSellWell 23 = .ok (.iload_n 1, 1) := by decide +kernel
theorem dX6_canSellWell_24 : decode cX6_canSellWell 24 = .ok (.invokevirtual 140, 3) := by decide +kernel
theorem dX6_canSellWell_27 : decode cX6_canSellWell 27 = .ok (.iload_n 3, 1) := by decide +kernel
theorem dX6_canSellWell_28 : decode cX6_canSellWell 28 = .ok (.if_icmp .le 7, 3) := by decide +kernel
theorem dX6_canSellWell_31 : decode cX6_canSellWell 31 = .ok (.iconst 1, 1) := by decide +kernel
theorem dX6_canSellWell_32 : decode cX6_canSellWell 32 = .ok (.goto 4, 3) := by decide +kernel
theorem dX6_canSellWell_35 : decode cX6_canSellWell 35 = .ok (.iconst 0, 1) := by decide +kernel
theorem dX6_canSellWell_36 : decode cX6_canSellWell 36 = .ok (.ireturn, 1) := by decide +kernel
theorem dX6_count_0 : decode cX6_count 0 = .ok (.iload_n 1, 1) := by decide +kernel
theorem dX6_count_1 : decode cX6_count 1 = .ok (.tableswitch 155 0 10 #[59, 64, 72, 80, 88, 96, 104, 116, 131, 139, 147], 59) := by decide +kernel
theorem dX6_count_60 : decode cX6_count 60 = .ok (.aload_n 0, 1) := by decide +kernel
theorem dX6_count_61 : decode cX6_count 61 = .ok (.getfield 13, 3) := by decide +kernel
theorem dX6_count_64 : decode cX6_count 64 = .ok (.ireturn, 1) := by decide +kernel
theorem dX6_count_65 : decode cX6_count 65 = .ok (.aload_n 0, 1) := by decide +kernel
theorem dX6_count_66 : decode cX6_count 66 = .ok (.getfield 27, 3) := by decide +kernel
theorem dX6_count_69 : decode cX6_count 69 = .ok (.getfield 89, 3) := by decide +kernel
theorem dX6_count_72 : decode cX6_count 72 = .ok (.ireturn, 1) := by decide +kernel
theorem dX6_count_73 : decode cX6_count 73 = .ok (.aload_n 0, 1) := by decide +kernel
theorem dX6_count_74 : decode cX6_count 74 = .ok (.getfield 27, 3) := by decide +kernel
theorem dX6_count_77 : decode cX6_count 77 = .ok (.getfield 92, 3) := by decide +kernel
theorem dX6_count_80 : decode cX6_count 80 = .ok (.ireturn, 1) := by decide +kernel
theorem dX6_count_81 : decode cX6_count 81 = .ok (.aload_n 0, 1) := by decide +kernel
theorem dX6_count_82 : decode cX6_count 82 = .ok (.getfield 27, 3) := by decide +kernel
theorem dX6_count_85 : decode cX6_count 85 = .ok (.getfield 263, 3) := by decide +kernel
theorem dX6_count_88 : decode cX6_count 88 = .ok (.ireturn, 1) := by decide +kernel
theorem dX6_count_89 : decode cX6_count 89 = .ok (.aload_n 0, 1) := by decide +kernel
theorem dX6_count_90 : decode cX6_count 90 = .ok (.getfield 37, 3) := by decide +kernel
theorem dX6_count_93 : decode cX6_count 93 = .ok (.getfield 143, 3) := by decide +kernel
theorem dX6_count_96 : decode cX6_count 96 = .ok (.ireturn, 1) := by decide +kernel
theorem dX6_count_97 : decode cX6_count 97 = .ok (.aload_n 0, 1) := by decide +kernel
theorem dX6_count_98 : decode cX6_count 98 = .ok (.getfield 37, 3) := by decide +kernel
theorem dX6_count_101 : decode cX6_count 101 = .ok (.getfield 146, 3) := by decide +kernel
theorem dX6_count_104 : decode cX6_count 104 = .ok (.ireturn, 1) := by decide +kernel
theorem dX6_count_105 : decode cX6_count 105 = .ok (.aload_n 0, 1) := by decide +kernel
theorem dX6_count_106 : decode cX6_count 106 = .ok (.getfield 37, 3) := by decide +kernel
theorem dX6_count_109 : decode cX6_count 109 = .ok (.aload_n 0, 1) := by decide +kernel
theorem dX6_count_110 : decode cX6_count 110 = .ok (.getfield 27, 3) := by decide +kernel
theorem dX6_count_113 : decode cX6_count 113 = .ok (.invokevirtual 232, 3) := by decide +kernel
theorem dX6_count_116 : decode cX6_count 116 = .ok (.ireturn, 1) := by decide +kernel
theorem dX6_count_117 : decode cX6_count 117 = .ok (.aload_n 0, 1) := by decide +kernel
theorem dX6_count_118 : decode cX6_count 118 = .ok (.getfield 27, 3) := by decide +kernel
theorem dX6_count_121 : decode cX6_count 121 = .ok (.aload_n 0, 1) := by decide +kernel
theorem dX6_count_122 : decode cX6_count 122 = .ok (.getfield 37, 3) := by decide +kernel
theorem dX6_count_125 : decode cX6_count 125 = .ok (.getfield 143, 3) := by decide +kernel
theorem dX6_count_128 : decode cX6_count 128 = .ok (.invokevirtual 266, 3) := by decide +kernel
theorem dX6_count_131 : decode cX6_count 131 = .ok (.ireturn, 1) := by decide +kernel
theorem dX6_count_132 : decode cX6_count 132 = .ok (.aload_n 0, 1) := by decide +kernel
theorem dX6_count_133 : decode cX6_count 133 = .ok (.getfield 37, 3) := by decide +kernel
theorem dX6_count_136 : decode cX6_count 136 = .ok (.invokevirtual 269, 3) := by decide +kernel
theorem dX6_count_139 : decode cX6_count 139 = .ok (.ireturn, 1) := by decide +kernel
theorem dX6_count_140 : decode cX6_count 140 = .ok (.aload_n 0, 1) := by decide +kernel
theorem dX6_count_141 : decode cX6_count 141 = .ok (.getfield 44, 3) := by decide +kernel
theorem dX6_count_144 : decode cX6_count 144 = .ok (.getfield 83, 3) := by decide +kernel
theorem dX6_count_147 : decode cX6_count 147 = .ok (.ireturn, 1) := by decide +kernel
theorem dX6_count_148 : decode cX6_count 148 = .ok (.aload_n 0, 1) := by decide +kernel
theorem dX6_count_149 : decode cX6_count 149 = .ok (.getfield 55, 3) := by decide +kernel
theorem dX6_count_152 : decode cX6_count 152 = .ok (.getfield 215, 3) := by decide +kernel
theorem dX6_count_155 : decode cX6_count 155 = .ok (.ireturn, 1) := by decide +kernel
theorem dX6_count_156 : decode cX6_count 156 = .ok (.bipush (-2), 2) := by decide +kernel
theorem dX6_count_158 : decode cX6_count 158 = .ok (.ireturn, 1) := by decide +kernel
theorem dX6_hasEnded_0 : decode cX6_hasEnded 0 = .ok (.aload_n 0, 1) := by decide +kernel
theorem dX6_hasEnded_1 : decode cX6_hasEnded 1 = .ok (.getfield 27, 3) := by decide +kernel
theorem dX6_hasEnded_4 : decode cX6_hasEnded 4 = .ok (.iload_n 1, 1) := by decide +kernel
theorem dX6_hasEnded_5 : decode cX6_hasEnded 5 = .ok (.invokevirtual 140, 3) := by decide +kernel
theorem dX6_hasEnded_8 : decode cX6_hasEnded 8 = .ok (.aload_n 0, 1) := by decide +kernel
theorem dX6_hasEnded_9 : decode cX6_hasEnded 9 = .ok (.getfield 37, 3) := by decide +kernel
theorem dX6_hasEnded_12 : decode cX6_hasEnded 12 = .ok (.getfield 143, 3) := by decide +kernel
theorem dX6_hasEnded_15 : decode cX6_hasEnded 15 = .ok (.if_icmp .gt 7, 3) := by decide +kernel
theorem dX6_hasEnded_18 : decode cX6_hasEnded 18 = .ok (.iconst 1, 1) := by decide +kernel
theorem dX6_hasEnded_19 : decode cX6_hasEnded 19 = .ok (.goto 4, 3) := by decide +kernel
theorem dX6_hasEnded_22 : decode cX6_hasEnded 22 = .ok (.iconst 0, 1) := by decide +kernel
theorem dX6_hasEnded_23 : decode cX6_hasEnded 23 = .ok (.ireturn, 1) := by decide +kernel
theorem dX6_day_0 : decode cX6_day 0 = .ok (.aload_n 0, 1) := by decide +kernel
theorem dX6_day_1 : decode cX6_day 1 = .ok (.getfield 37, 3) := by decide +kernel
theorem dX6_day_4 : decode cX6_day 4 = .ok (.getfield 143, 3) := by decide +kernel
theorem dX6_day_7 : decode cX6_day 7 = .ok (.bipush 9, 2) := by decide +kernel
theorem dX6_day_9 : decode cX6_day 9 = .ok (.if_icmp .lt 6, 3) := by decide +kernel
theorem dX6_day_12 : decode cX6_day 12 = .ok (.bipush (-3), 2) := by decide +kernel
theorem dX6_day_14 : decode cX6_day 14 = .ok (.ireturn, 1) := by decide +kernel
theorem dX6_day_15 : decode cX6_day 15 = .ok (.iconst 0, 1) := by decide +kernel
theorem dX6_day_16 : decode cX6_day 16 = .ok (.istore_n 1, 1) := by decide +kernel
theorem dX6_day_17 : decode cX6_day 17 = .ok (.iconst 0, 1) := by decide +kernel
theorem dX6_day_18 : decode cX6_day 18 = .ok (.istore_n 2, 1) := by decide +kernel
theorem dX6_day_19 : decode cX6_day 19 = .ok (.iload_n 2, 1) := by decide +kernel
theorem dX6_day_20 : decode cX6_day 20 = .ok (.aload_n 0, 1) := by decide +kernel
theorem dX6_day_21 : decode cX6_day 21 = .ok (.getfield 27, 3) := by decide +kernel
theorem dX6_day_24 : decode cX6_day 24 = .ok (.getfield 89, 3) := by decide +kernel
theorem dX6_day_27 : decode cX6_day 27 = .ok (.if_icmp .ge 34, 3) := by decide +kernel
theorem dX6_day_30 : decode cX6_day 30 = .ok (.aload_n 0, 1) := by decide +kernel
theorem dX6_day_31 : decode cX6_day 31 = .ok (.getfield 37, 3) := by decide +kernel
theorem dX6_day_34 : decode cX6_day 34 = .ok (.getfield 111, 3) := by decide +kernel
theorem dX6_day_37 : decode cX6_day 37 = .ok (.iload_n 2, 1) := by decide +kernel
theorem dX6_day_38 : decode cX6_day 38 = .ok (.iaload, 1) := by decide +kernel
theorem dX6_day_39 : decode cX6_day 39 = .ok (.bipush (-9), 2) := by decide +kernel
theorem dX6_day_41 : decode cX6_day 41 = .ok (.if_icmp .ne 14, 3) := by decide +kernel
theorem dX6_day_44 : decode cX6_day 44 = .ok (.aload_n 0, 1) := by decide +kernel
theorem dX6_day_45 : decode cX6_day 45 = .ok (.iload_n 2, 1) := by decide +kernel
theorem dX6_day_46 : decode cX6_day 46 = .ok (.invokevirtual 114, 3) := by decide +kernel
theorem dX6_day_49 : decode cX6_day 49 = .ok (.ifCond .ne 6, 3) := by decide +kernel
theorem dX6_day_52 : decode cX6_day 52 = .ok (.iinc 1 1, 3) := by decide +kernel
theorem dX6_day_55 : decode cX6_day 55 = .ok (.iinc 2 1, 3) := by decide +kernel
theorem dX6_day_58 : decode cX6_day 58 = .ok (.goto (-39), 3) := by decide +kernel
theorem dX6_day_61 : decode cX6_day 61 = .ok (.aload_n 0, 1) := by decide +kernel
theorem dX6_day_62 : decode cX6_day 62 = .ok (.getfield 37, 3) := by decide +kernel
theorem dX6_day_65 : decode cX6_day 65 = .ok (.dup, 1) := by decide +kernel
theorem dX6_day_66 : decode cX6_day 66 = .ok (.getfield 143, 3) := by decide +kernel
theorem dX6_day_69 : decode cX6_day 69 = .ok (.iconst 1, 1) := by decide +kernel
theorem dX6_day_70 : decode cX6_day 70 = .ok (.iadd, 1) := by decide +kernel
theorem dX6_day_71 : decode cX6_day 71 = .ok (.putfield 143, 3) := by decide +kernel
theorem dX6_day_74 : decode cX6_day 74 = .ok (.aload_n 0, 1) := by decide +kernel
theorem dX6_day_75 : decode cX6_day 75 = .ok (.getfield 37, 3) := by decide +kernel
theorem dX6_day_78 : decode cX6_day 78 = .ok (.dup, 1) := by decide +kernel
theorem dX6_day_79 : decode cX6_day 79 = .ok (.getfield 146, 3) := by decide +kernel
theorem dX6_day_82 : decode cX6_day 82 = .ok (.iload_n 1, 1) := by decide +kernel
theorem dX6_day_83 : decode cX6_day 83 = .ok (.iadd, 1) := by decide +kernel
theorem dX6_day_84 : decode cX6_day 84 = .ok (.putfield 146, 3) := by decide +kernel
theorem dX6_day_87 : decode cX6_day 87 = .ok (.aload_n 0, 1) := by decide +kernel
theorem dX6_day_88 : decode cX6_day 88 = .ok (.getfield 44, 3) := by decide +kernel
theorem dX6_day_91 : decode cX6_day 91 = .ok (.iconst 1, 1) := by decide +kernel
theorem dX6_day_92 : decode cX6_day 92 = .ok (.iconst 0, 1) := by decide +kernel
theorem dX6_day_93 : decode cX6_day 93 = .ok (.iload_n 1, 1) := by decide +kernel
theorem dX6_day_94 : decode cX6_day 94 = .ok (.invokevirtual 136, 3) := by decide +kernel
theorem dX6_day_97 : decode cX6_day 97 = .ok (.iload_n 1, 1) := by decide +kernel
theorem dX6_day_98 : decode cX6_day 98 = .ok (.ireturn, 1) := by decide +kernel
theorem dX6_drawWorld_0 : decode cX6_drawWorld 0 = .ok (.iconst 0, 1) := by decide +kernel
theorem dX6_drawWorld_1 : decode cX6_drawWorld 1 = .ok (.istore_n 1, 1) := by decide +kernel
theorem dX6_drawWorld_2 : decode cX6_drawWorld 2 = .ok (.iconst 0, 1) := by decide +kernel
theorem dX6_drawWorld_3 : decode cX6_drawWorld 3 = .ok (.istore_n 2, 1) := by decide +kernel
theorem dX6_drawWorld_4 : decode cX6_drawWorld 4 = .ok (.iload_n 2, 1) := by decide +kernel
theorem dX6_drawWorld_5 : decode cX6_drawWorld 5 = .ok (.aload_n 0, 1) := by decide +kernel
theorem dX6_drawWorld_6 : decode cX6_drawWorld 6 = .ok (.getfield 27, 3) := by decide +kernel
theorem dX6_drawWorld_9 : decode cX6_drawWorld 9 = .ok (.getfield 89, 3) := by decide +kernel
theorem dX6_drawWorld_12 : decode cX6_drawWorld 12 = .ok (.if_icmp .ge 56, 3) := by decide +kernel
theorem dX6_drawWorld_15 : decode cX6_drawWorld 15 = .ok (.aload_n 0, 1) := by decide +kernel
theorem dX6_drawWorld_16 : decode cX6_drawWorld 16 = .ok (.aload_n 0, 1) := by decide +kernel
theorem dX6_drawWorld_17 : decode cX6_drawWorld 17 = .ok (.getfield 69, 3) := by decide +kernel
theorem dX6_drawWorld_20 : decode cX6_drawWorld 20 = .ok (.ldc2_w 283, 3) := by decide +kernel
theorem dX6_drawWorld_23 : decode cX6_drawWorld 23 = .ok (.lmul, 1) := by decide +kernel
theorem dX6_drawWorld_24 : decode cX6_drawWorld 24 = .ok (.ldc2_w 285, 3) := by decide +kernel
theorem dX6_drawWorld_27 : decode cX6_drawWorld 27 = .ok (.ladd, 1) := by decide +kernel
theorem dX6_drawWorld_28 : decode cX6_drawWorld 28 = .ok (.putfield 69, 3) := by decide +kernel
theorem dX6_drawWorld_31 : decode cX6_drawWorld 31 = .ok (.aload_n 0, 1) := by decide +kernel
theorem dX6_drawWorld_32 : decode cX6_drawWorld 32 = .ok (.getfield 69, 3) := by decide +kernel
theorem dX6_drawWorld_35 : decode cX6_drawWorld 35 = .ok (.bipush 33, 2) := by decide +kernel
theorem dX6_drawWorld_37 : decode cX6_drawWorld 37 = .ok (.lushr, 1) := by decide +kernel
theorem dX6_drawWorld_38 : decode cX6_drawWorld 38 = .ok (.ldc2_w 287, 3) := by decide +kernel
theorem dX6_drawWorld_41 : decode cX6_drawWorld 41 = .ok (.lrem, 1) := by decide +kernel
theorem dX6_drawWorld_42 : decode cX6_drawWorld 42 = .ok (.aload_n 0, 1) := by decide +kernel
theorem dX6_drawWorld_43 : decode cX6_drawWorld 43 = .ok (.getfield 27, 3) := by decide +kernel
theorem dX6_drawWorld_46 : decode cX6_drawWorld 46 = .ok (.getfield 105, 3) := by decide +kernel
theorem dX6_drawWorld_49 : decode cX6_drawWorld 49 = .ok (.iload_n 2, 1) := by decide +kernel
theorem dX6_drawWorld_50 : decode cX6_drawWorld 50 = .ok (.iaload, 1) := by decide +kernel
theorem dX6_drawWorld_51 : decode cX6_drawWorld 51 = .ok (.i2l, 1) := by decide +kernel
theorem dX6_drawWorld_52 : decode cX6_drawWorld 52 = .ok (.lcmp, 1) := by decide +kernel
theorem dX6_drawWorld_53 : decode cX6_drawWorld 53 = .ok (.ifCond .lt 9, 3) := by decide +kernel
theorem dX6_drawWorld_56 : decode cX6_drawWorld 56 = .ok (.iload_n 1, 1) := by decide +kernel
theorem dX6_drawWorld_57 : decode cX6_drawWorld 57 = .ok (.iconst 1, 1) := by decide +kernel
theorem dX6_drawWorld_58 : decode cX6_drawWorld 58 = .ok (.iload_n 2, 1) := by decide +kernel
theorem dX6_drawWorld_59 : decode cX6_drawWorld 59 = .ok (.ishl, 1) := by decide +kernel
theorem dX6_drawWorld_60 : decode cX6_drawWorld 60 = .ok (.ior, 1) := by decide +kernel
theorem dX6_drawWorld_61 : decode cX6_drawWorld 61 = .ok (.istore_n 1, 1) := by decide +kernel
theorem dX6_drawWorld_62 : decode cX6_drawWorld 62 = .ok (.iinc 2 1, 3) := by decide +kernel
theorem dX6_drawWorld_65 : decode cX6_drawWorld 65 = .ok (.goto (-61), 3) := by decide +kernel
theorem dX6_drawWorld_68 : decode cX6_drawWorld 68 = .ok (.aload_n 0, 1) := by decide +kernel
theorem dX6_drawWorld_69 : decode cX6_drawWorld 69 = .ok (.getfield 27, 3) := by decide +kernel
theorem dX6_drawWorld_72 : decode cX6_drawWorld 72 = .ok (.iload_n 1, 1) := by decide +kernel
theorem dX6_drawWorld_73 : decode cX6_drawWorld 73 = .ok (.invokevirtual 289, 3) := by decide +kernel
theorem dX6_drawWorld_76 : decode cX6_drawWorld 76 = .ok (.ireturn, 1) := by decide +kernel
theorem dX6_readText_0 : decode cX6_readText 0 = .ok (.aload_n 0, 1) := by decide +kernel
theorem dX6_readText_1 : decode cX6_readText 1 = .ok (.getfield 20, 3) := by decide +kernel
theorem dX6_readText_4 : decode cX6_readText 4 = .ok (.aload_n 0, 1) := by decide +kernel
theorem dX6_readText_5 : decode cX6_readText 5 = .ok (.getfield 31, 3) := by decide +kernel
theorem dX6_readText_8 : decode cX6_readText 8 = .ok (.invokevirtual 272, 3) := by decide +kernel
theorem dX6_readText_11 : decode cX6_readText 11 = .ok (.iconst 0, 1) := by decide +kernel
theorem dX6_readText_12 : decode cX6_readText 12 = .ok (.istore_n 1, 1) := by decide +kernel
theorem dX6_readText_13 : decode cX6_readText 13 = .ok (.iload_n 1, 1) := by decide +kernel
theorem dX6_readText_14 : decode cX6_readText 14 = .ok (.aload_n 0, 1) := by decide +kernel
theorem dX6_readText_15 : decode cX6_readText 15 = .ok (.getfield 13, 3) := by decide +kernel
theorem dX6_readText_18 : decode cX6_readText 18 = .ok (.if_icmp .ge 31, 3) := by decide +kernel
theorem dX6_readText_21 : decode cX6_readText 21 = .ok (.aload_n 0, 1) := by decide +kernel
theorem dX6_readText_22 : decode cX6_readText 22 = .ok (.getfield 20, 3) := by decide +kernel
theorem dX6_readText_25 : decode cX6_readText 25 = .ok (.aload_n 0, 1) := by decide +kernel
theorem dX6_readText_26 : decode cX6_readText 26 = .ok (.getfield 9, 3) := by decide +kernel
theorem dX6_readText_29 : decode cX6_readText 29 = .ok (.iload_n 1, 1) := by decide +kernel
theorem dX6_readText_30 : decode cX6_readText 30 = .ok (.iaload, 1) := by decide +kernel
theorem dX6_readText_31 : decode cX6_readText 31 = .ok (.aload_n 0, 1) := by decide +kernel
theorem dX6_readText_32 : decode cX6_readText 32 = .ok (.getfield 31, 3) := by decide +kernel
theorem dX6_readText_35 : decode cX6_readText 35 = .ok (.invokevirtual 275, 3) := by decide +kernel
theorem dX6_readText_38 : decode cX6_readText 38 = .ok (.ifCond .ne 5, 3) := by decide +kernel
theorem dX6_readText_41 : decode cX6_readText 41 = .ok (.iload_n 1, 1) := by decide +kernel
theorem dX6_readText_42 : decode cX6_readText 42 = .ok (.ireturn, 1) := by decide +kernel
theorem dX6_readText_43 : decode cX6_readText 43 = .ok (.iinc 1 1, 3) := by decide +kernel
theorem dX6_readText_46 : decode cX6_readText 46 = .ok (.goto (-33), 3) := by decide +kernel
theorem dX6_readText_49 : decode cX6_readText 49 = .ok (.aload_n 0, 1) := by decide +kernel
theorem dX6_readText_50 : decode cX6_readText 50 = .ok (.getfield 20, 3) := by decide +kernel
theorem dX6_readText_53 : decode cX6_readText 53 = .ok (.invokevirtual 279, 3) := by decide +kernel
theorem dX6_readText_56 : decode cX6_readText 56 = .ok (.ifCond .eq 8, 3) := by decide +kernel
theorem dX6_readText_59 : decode cX6_readText 59 = .ok (.bipush (-9), 2) := by decide +kernel
theorem dX6_readText_61 : decode cX6_readText 61 = .ok (.goto 7, 3) := by decide +kernel
theorem dX6_readText_64 : decode cX6_readText 64 = .ok (.aload_n 0, 1) := by decide +kernel
theorem dX6_readText_65 : decode cX6_readText 65 = .ok (.getfield 13, 3) := by decide +kernel
theorem dX6_readText_68 : decode cX6_readText 68 = .ok (.ireturn, 1) := by decide +kernel
theorem dX6_fault_0 : decode cX6_fault 0 = .ok (.aload_n 0, 1) := by decide +kernel
theorem dX6_fault_1 : decode cX6_fault 1 = .ok (.invokevirtual 73, 3) := by decide +kernel
theorem dX6_fault_4 : decode cX6_fault 4 = .ok (.ireturn, 1) := by decide +kernel
theorem dX6_fewest_0 : decode cX6_fewest 0 = .ok (.aload_n 0, 1) := by decide +kernel
theorem dX6_fewest_1 : decode cX6_fewest 1 = .ok (.getfield 27, 3) := by decide +kernel
theorem dX6_fewest_4 : decode cX6_fewest 4 = .ok (.aload_n 0, 1) := by decide +kernel
theorem dX6_fewest_5 : decode cX6_fewest 5 = .ok (.getfield 37, 3) := by decide +kernel
theorem dX6_fewest_8 : decode cX6_fewest 8 = .ok (.getfield 143, 3) := by decide +kernel
theorem dX6_fewest_11 : decode cX6_fewest 11 = .ok (.invokevirtual 160, 3) := by decide +kernel
theorem dX6_fewest_14 : decode cX6_fewest 14 = .ok (.istore_n 1, 1) := by decide +kernel
theorem dX6_fewest_15 : decode cX6_fewest 15 = .ok (.iconst 1, 1) := by decide +kernel
theorem dX6_fewest_16 : decode cX6_fewest 16 = .ok (.aload_n 0, 1) := by decide +kernel
theorem dX6_fewest_17 : decode cX6_fewest 17 = .ok (.getfield 27, 3) := by decide +kernel
theorem dX6_fewest_20 : decode cX6_fewest 20 = .ok (.getfield 89, 3) := by decide +kernel
theorem dX6_fewest_23 : decode cX6_fewest 23 = .ok (.ishl, 1) := by decide +kernel
theorem dX6_fewest_24 : decode cX6_fewest 24 = .ok (.iconst 1, 1) := by decide +kernel
theorem dX6_fewest_25 : decode cX6_fewest 25 = .ok (.isub, 1) := by decide +kernel
theorem dX6_fewest_26 : decode cX6_fewest 26 = .ok (.istore_n 2, 1) := by decide +kernel
theorem dX6_fewest_27 : decode cX6_fewest 27 = .ok (.iconst 0, 1) := by decide +kernel
theorem dX6_fewest_28 : decode cX6_fewest 28 = .ok (.istore_n 3, 1) := by decide +kernel
theorem dX6_fewest_29 : decode cX6_fewest 29 = .ok (.iload_n 3, 1) := by decide +kernel
theorem dX6_fewest_30 : decode cX6_fewest 30 = .ok (.iconst 1, 1) := by decide +kernel
theorem dX6_fewest_31 : decode cX6_fewest 31 = .ok (.aload_n 0, 1) := by decide +kernel
theorem dX6_fewest_32 : decode cX6_fewest 32 = .ok (.getfield 27, 3) := by decide +kernel
theorem dX6_fewest_35 : decode cX6_fewest 35 = .ok (.getfield 89, 3) := by decide +kernel
theorem dX6_fewest_38 : decode cX6_fewest 38 = .ok (.ishl, 1) := by decide +kernel
theorem dX6_fewest_39 : decode cX6_fewest 39 = .ok (.if_icmp .ge 34, 3) := by decide +kernel
theorem dX6_fewest_42 : decode cX6_fewest 42 = .ok (.iload_n 3, 1) := by decide +kernel
theorem dX6_fewest_43 : decode cX6_fewest 43 = .ok (.invokestatic 155, 3) := by decide +kernel
theorem dX6_fewest_46 : decode cX6_fewest 46 = .ok (.iload_n 2, 1) := by decide +kernel
theorem dX6_fewest_47 : decode cX6_fewest 47 = .ok (.invokestatic 155, 3) := by decide +kernel
theorem dX6_fewest_50 : decode cX6_fewest 50 = .ok (.if_icmp .ge 17, 3) := by decide +kernel
theorem dX6_fewest_53 : decode cX6_fewest 53 = .ok (.aload_n 0, 1) := by decide +kernel
theorem dX6_fewest_54 : decode cX6_fewest 54 = .ok (.getfield 27, 3) := by decide +kernel
theorem dX6_fewest_57 : decode cX6_fewest 57 = .ok (.iload_n 1, 1) := by decide +kernel
theorem dX6_fewest_58 : decode cX6_fewest 58 = .ok (.iload_n 3, 1) := by decide +kernel
theorem dX6_fewest_59 : decode cX6_fewest 59 = .ok (.invokevirtual 200, 3) := by decide +kernel
theorem dX6_fewest_62 : decode cX6_fewest 62 = .ok (.ifCond .eq 5, 3) := by decide +kernel
theorem dX6_fewest_65 : decode cX6_fewest 65 = .ok (.iload_n 3, 1) := by decide +kernel
theorem dX6_fewest_66 : decode cX6_fewest 66 = .ok (.istore_n 2, 1) := by decide +kernel
theorem dX6_fewest_67 : decode cX6_fewest 67 = .ok (.iinc 3 1, 3) := by decide +kernel
theorem dX6_fewest_70 : decode cX6_fewest 70 = .ok (.goto (-41), 3) := by decide +kernel
theorem dX6_fewest_73 : decode cX6_fewest 73 = .ok (.iload_n 2, 1) := by decide +kernel
theorem dX6_fewest_74 : decode cX6_fewest 74 = .ok (.ireturn, 1) := by decide +kernel
theorem dX6_figureAt_0 : decode cX6_figureAt 0 = .ok (.iload_n 0, 1) := by decide +kernel
theorem dX6_figureAt_1 : decode cX6_figureAt 1 = .ok (.istore_n 2, 1) := by decide +kernel
theorem dX6_figureAt_2 : decode cX6_figureAt 2 = .ok (.iconst 0, 1) := by decide +kernel
theorem dX6_figureAt_3 : decode cX6_figureAt 3 = .ok (.istore_n 3, 1) := by decide +kernel
theorem dX6_figureAt_4 : decode cX6_figureAt 4 = .ok (.iload_n 3, 1) := by decide +kernel
theorem dX6_figureAt_5 : decode cX6_figureAt 5 = .ok (.iload_n 1, 1) := by decide +kernel
theorem dX6_figureAt_6 : decode cX6_figureAt 6 = .ok (.if_icmp .ge 14, 3) := by decide +kernel
theorem dX6_figureAt_9 : decode cX6_figureAt 9 = .ok (.iload_n 2, 1) := by decide +kernel
theorem dX6_figureAt_10 : decode cX6_figureAt 10 = .ok (.bipush 10, 2) := by decide +kernel
theorem dX6_figureAt_12 : decode cX6_figureAt 12 = .ok (.idiv, 1) := by decide +kernel
theorem dX6_figureAt_13 : decode cX6_figureAt 13 = .ok (.istore_n 2, 1) := by decide +kernel
theorem dX6_figureAt_14 : decode cX6_figureAt 14 = .ok (.iinc 3 1, 3) := by decide +kernel
theorem dX6_figureAt_17 : decode cX6_figureAt 17 = .ok (.goto (-13), 3) := by decide +kernel
theorem dX6_figureAt_20 : decode cX6_figureAt 20 = .ok (.iload_n 2, 1) := by decide +kernel
theorem dX6_figureAt_21 : decode cX6_figureAt 21 = .ok (.bipush 10, 2) := by decide +kernel
theorem dX6_figureAt_23 : decode cX6_figureAt 23 = .ok (.irem, 1) := by decide +kernel
theorem dX6_figureAt_24 : decode cX6_figureAt 24 = .ok (.ireturn, 1) := by decide +kernel
theorem dX6_greatestDivisor_0 : decode cX6_greatestDivisor 0 = .ok (.iload_n 0, 1) := by decide +kernel
theorem dX6_greatestDivisor_1 : decode cX6_greatestDivisor 1 = .ok (.istore_n 2, 1) := by decide +kernel
theorem dX6_greatestDivisor_2 : decode cX6_greatestDivisor 2 = .ok (.iload_n 1, 1) := by decide +kernel
theorem dX6_greatestDivisor_3 : decode cX6_greatestDivisor 3 = .ok (.istore_n 3, 1) := by decide +kernel
theorem dX6_greatestDivisor_4 : decode cX6_greatestDivisor 4 = .ok (.iconst 0, 1) := by decide +kernel
theorem dX6_greatestDivisor_5 : decode cX6_greatestDivisor 5 = .ok (.istore 4, 2) := by decide +kernel
theorem dX6_greatestDivisor_7 : decode cX6_greatestDivisor 7 = .ok (.iload 4, 2) := by decide +kernel
theorem dX6_greatestDivisor_9 : decode cX6_greatestDivisor 9 = .ok (.bipush 64, 2) := by decide +kernel
theorem dX6_greatestDivisor_11 : decode cX6_greatestDivisor 11 = .ok (.if_icmp .ge 23, 3) := by decide +kernel
theorem dX6_greatestDivisor_14 : decode cX6_greatestDivisor 14 = .ok (.iload_n 3, 1) := by decide +kernel
theorem dX6_greatestDivisor_15 : decode cX6_greatestDivisor 15 = .ok (.ifCond .eq 19, 3) := by decide +kernel
theorem dX6_greatestDivisor_18 : decode cX6_greatestDivisor 18 = .ok (.iload_n 2, 1) := by decide +kernel
theorem dX6_greatestDivisor_19 : decode cX6_greatestDivisor 19 = .ok (.iload_n 3, 1) := by decide +kernel
theorem dX6_greatestDivisor_20 : decode cX6_greatestDivisor 20 = .ok (.irem, 1) := by decide +kernel
theorem dX6_greatestDivisor_21 : decode cX6_greatestDivisor 21 = .ok (.istore 5, 2) := by decide +kernel
theorem dX6_greatestDivisor_23 : decode cX6_greatestDivisor 23 = .ok (.iload_n 3, 1) := by decide +kernel
theorem dX6_greatestDivisor_24 : decode cX6_greatestDivisor 24 = .ok (.istore_n 2, 1) := by decide +kernel
theorem dX6_greatestDivisor_25 : decode cX6_greatestDivisor 25 = .ok (.iload 5, 2) := by decide +kernel
theorem dX6_greatestDivisor_27 : decode cX6_greatestDivisor 27 = .ok (.istore_n 3, 1) := by decide +kernel
theorem dX6_greatestDivisor_28 : decode cX6_greatestDivisor 28 = .ok (.iinc 4 1, 3) := by decide +kernel
theorem dX6_greatestDivisor_31 : decode cX6_greatestDivisor 31 = .ok (.goto (-24), 3) := by decide +kernel
theorem dX6_greatestDivisor_34 : decode cX6_greatestDivisor 34 = .ok (.iload_n 2, 1) := by decide +kernel
theorem dX6_greatestDivisor_35 : decode cX6_greatestDivisor 35 = .ok (.ireturn, 1) := by decide +kernel
theorem dX6_fraction_0 : decode cX6_fraction 0 = .ok (.iload_n 0, 1) := by decide +kernel
theorem dX6_fraction_1 : decode cX6_fraction 1 = .ok (.iload_n 1, 1) := by decide +kernel
theorem dX6_fraction_2 : decode cX6_fraction 2 = .ok (.invokestatic 292, 3) := by decide +kernel
theorem dX6_fraction_5 : decode cX6_fraction 5 = .ok (.istore_n 3, 1) := by decide +kernel
theorem dX6_fraction_6 : decode cX6_fraction 6 = .ok (.iload_n 3, 1) := by decide +kernel
theorem dX6_fraction_7 : decode cX6_fraction 7 = .ok (.ifCond .gt 5, 3) := by decide +kernel
theorem dX6_fraction_10 : decode cX6_fraction 10 = .ok (.iconst 0, 1) := by decide +kernel
theorem dX6_fraction_11 : decode cX6_fraction 11 = .ok (.ireturn, 1) := by decide +kernel
theorem dX6_fraction_12 : decode cX6_fraction 12 = .ok (.iload_n 2, 1) := by decide +kernel
theorem dX6_fraction_13 : decode cX6_fraction 13 = .ok (.ifCond .eq 7, 3) := by decide +kernel
theorem dX6_fraction_16 : decode cX6_fraction 16 = .ok (.iload_n 0, 1) := by decide +kernel
theorem dX6_fraction_17 : decode cX6_fraction 17 = .ok (.goto 4, 3) := by decide +kernel
theorem dX6_fraction_20 : decode cX6_fraction 20 = .ok (.iload_n 1, 1) := by decide +kernel
theorem dX6_fraction_21 : decode cX6_fraction 21 = .ok (.iload_n 3, 1) := by decide +kernel
theorem dX6_fraction_22 : decode cX6_fraction 22 = .ok (.idiv, 1) := by decide +kernel
theorem dX6_fraction_23 : decode cX6_fraction 23 = .ok (.ireturn, 1) := by decide +kernel
theorem dX6_heldWorlds_0 : decode cX6_heldWorlds 0 = .ok (.aload_n 0, 1) := by decide +kernel
theorem dX6_heldWorlds_1 : decode cX6_heldWorlds 1 = .ok (.getfield 27, 3) := by decide +kernel
theorem dX6_heldWorlds_4 : decode cX6_heldWorlds 4 = .ok (.aload_n 0, 1) := by decide +kernel
theorem dX6_heldWorlds_5 : decode cX6_heldWorlds 5 = .ok (.getfield 27, 3) := by decide +kernel
theorem dX6_heldWorlds_8 : decode cX6_heldWorlds 8 = .ok (.aload_n 0, 1) := by decide +kernel
theorem dX6_heldWorlds_9 : decode cX6_heldWorlds 9 = .ok (.getfield 37, 3) := by decide +kernel
theorem dX6_heldWorlds_12 : decode cX6_heldWorlds 12 = .ok (.getfield 143, 3) := by decide +kernel
theorem dX6_heldWorlds_15 : decode cX6_heldWorlds 15 = .ok (.invokevirtual 160, 3) := by decide +kernel
theorem dX6_heldWorlds_18 : decode cX6_heldWorlds 18 = .ok (.aload_n 0, 1) := by decide +kernel
theorem dX6_heldWorlds_19 : decode cX6_heldWorlds 19 = .ok (.getfield 37, 3) := by decide +kernel
theorem dX6_heldWorlds_22 : decode cX6_heldWorlds 22 = .ok (.iload_n 1, 1) := by decide +kernel
theorem dX6_heldWorlds_23 : decode cX6_heldWorlds 23 = .ok (.invokevirtual 133, 3) := by decide +kernel
theorem dX6_heldWorlds_26 : decode cX6_heldWorlds 26 = .ok (.aload_n 0, 1) := by decide +kernel
theorem dX6_heldWorlds_27 : decode cX6_heldWorlds 27 = .ok (.getfield 27, 3) := by decide +kernel
theorem dX6_heldWorlds_30 : decode cX6_heldWorlds 30 = .ok (.getfield 223, 3) := by decide +kernel
theorem dX6_heldWorlds_33 : decode cX6_heldWorlds 33 = .ok (.invokevirtual 226, 3) := by decide +kernel
theorem dX6_heldWorlds_36 : decode cX6_heldWorlds 36 = .ok (.ireturn, 1) := by decide +kernel
theorem dX6_holds_0 : decode cX6_holds 0 = .ok (.aload_n 0, 1) := by decide +kernel
theorem dX6_holds_1 : decode cX6_holds 1 = .ok (.getfield 27, 3) := by decide +kernel
theorem dX6_holds_4 : decode cX6_holds 4 = .ok (.iload_n 1, 1) := by decide +kernel
theorem dX6_holds_5 : decode cX6_holds 5 = .ok (.invokevirtual 121, 3) := by decide +kernel
theorem dX6_holds_8 : decode cX6_holds 8 = .ok (.ifCond .ne 5, 3) := by decide +kernel
theorem dX6_holds_11 : decode cX6_holds 11 = .ok (.iconst (-1), 1) := by decide +kernel
theorem dX6_holds_12 : decode cX6_holds 12 = .ok (.ireturn, 1) := by decide +kernel
theorem dX6_holds_13 : decode cX6_holds 13 = .ok (.aload_n 0, 1) := by decide +kernel
theorem dX6_holds_14 : decode cX6_holds 14 = .ok (.iload_n 1, 1) := by decide +kernel
theorem dX6_holds_15 : decode cX6_holds 15 = .ok (.invokevirtual 166, 3) := by decide +kernel
theorem dX6_holds_18 : decode cX6_holds 18 = .ok (.invokestatic 155, 3) := by decide +kernel
theorem dX6_holds_21 : decode cX6_holds 21 = .ok (.ireturn, 1) := by decide +kernel
theorem dX6_powerOfTen_0 : decode cX6_powerOfTen 0 = .ok (.iconst 1, 1) := by decide +kernel
theorem dX6_powerOfTen_1 : decode cX6_powerOfTen 1 = .ok (.istore_n 1, 1) := by decide +kernel
theorem dX6_powerOfTen_2 : decode cX6_powerOfTen 2 = .ok (.iconst 0, 1) := by decide +kernel
theorem dX6_powerOfTen_3 : decode cX6_powerOfTen 3 = .ok (.istore_n 2, 1) := by decide +kernel
theorem dX6_powerOfTen_4 : decode cX6_powerOfTen 4 = .ok (.iload_n 2, 1) := by decide +kernel
theorem dX6_powerOfTen_5 : decode cX6_powerOfTen 5 = .ok (.iload_n 0, 1) := by decide +kernel
theorem dX6_powerOfTen_6 : decode cX6_powerOfTen 6 = .ok (.if_icmp .ge 14, 3) := by decide +kernel
theorem dX6_powerOfTen_9 : decode cX6_powerOfTen 9 = .ok (.iload_n 1, 1) := by decide +kernel
theorem dX6_powerOfTen_10 : decode cX6_powerOfTen 10 = .ok (.bipush 10, 2) := by decide +kernel
theorem dX6_powerOfTen_12 : decode cX6_powerOfTen 12 = .ok (.imul, 1) := by decide +kernel
theorem dX6_powerOfTen_13 : decode cX6_powerOfTen 13 = .ok (.istore_n 1, 1) := by decide +kernel
theorem dX6_powerOfTen_14 : decode cX6_powerOfTen 14 = .ok (.iinc 2 1, 3) := by decide +kernel
theorem dX6_powerOfTen_17 : decode cX6_powerOfTen 17 = .ok (.goto (-13), 3) := by decide +kernel
theorem dX6_powerOfTen_20 : decode cX6_powerOfTen 20 = .ok (.iload_n 1, 1) := by decide +kernel
theorem dX6_powerOfTen_21 : decode cX6_powerOfTen 21 = .ok (.ireturn, 1) := by decide +kernel
theorem dX6_judge_0 : decode cX6_judge 0 = .ok (.iload_n 1, 1) := by decide +kernel
theorem dX6_judge_1 : decode cX6_judge 1 = .ok (.iconst 1, 1) := by decide +kernel
theorem dX6_judge_2 : decode cX6_judge 2 = .ok (.if_icmp .lt 21, 3) := by decide +kernel
theorem dX6_judge_5 : decode cX6_judge 5 = .ok (.iload_n 1, 1) := by decide +kernel
theorem dX6_judge_6 : decode cX6_judge 6 = .ok (.bipush 8, 2) := by decide +kernel
theorem dX6_judge_8 : decode cX6_judge 8 = .ok (.if_icmp .gt 15, 3) := by decide +kernel
theorem dX6_judge_11 : decode cX6_judge 11 = .ok (.iload_n 2, 1) := by decide +kernel
theorem dX6_judge_12 : decode cX6_judge 12 = .ok (.ifCond .lt 11, 3) := by decide +kernel
theorem dX6_judge_15 : decode cX6_judge 15 = .ok (.iload_n 2, 1) := by decide +kernel
theorem dX6_judge_16 : decode cX6_judge 16 = .ok (.iload_n 1, 1) := by decide +kernel
theorem dX6_judge_17 : decode cX6_judge 17 = .ok (.invokestatic 229, 3) := by decide +kernel
theorem dX6_judge_20 : decode cX6_judge 20 = .ok (.if_icmp .lt 6, 3) := by decide +kernel
theorem dX6_judge_23 : decode cX6_judge 23 = .ok (.bipush (-2), 2) := by decide +kernel
theorem dX6_judge_25 : decode cX6_judge 25 = .ok (.ireturn, 1) := by decide +kernel
theorem dX6_judge_26 : decode cX6_judge 26 = .ok (.aload_n 0, 1) := by decide +kernel
theorem dX6_judge_27 : decode cX6_judge 27 = .ok (.getfield 37, 3) := by decide +kernel
theorem dX6_judge_30 : decode cX6_judge 30 = .ok (.getfield 143, 3) := by decide +kernel
theorem dX6_judge_33 : decode cX6_judge 33 = .ok (.istore_n 3, 1) := by decide +kernel
theorem dX6_judge_34 : decode cX6_judge 34 = .ok (.aload_n 0, 1) := by decide +kernel
theorem dX6_judge_35 : decode cX6_judge 35 = .ok (.getfield 37, 3) := by decide +kernel
theorem dX6_judge_38 : decode cX6_judge 38 = .ok (.aload_n 0, 1) := by decide +kernel
theorem dX6_judge_39 : decode cX6_judge 39 = .ok (.getfield 27, 3) := by decide +kernel
theorem dX6_judge_42 : decode cX6_judge 42 = .ok (.invokevirtual 232, 3) := by decide +kernel
theorem dX6_judge_45 : decode cX6_judge 45 = .ok (.istore 4, 2) := by decide +kernel
theorem dX6_judge_47 : decode cX6_judge 47 = .ok (.iconst 0, 1) := by decide +kernel
theorem dX6_judge_48 : decode cX6_judge 48 = .ok (.istore 5, 2) := by decide +kernel
theorem dX6_judge_50 : decode cX6_judge 50 = .ok (.iload 5, 2) := by decide +kernel
theorem dX6_judge_52 : decode cX6_judge 52 = .ok (.iload_n 1, 1) := by decide +kernel
theorem dX6_judge_53 : decode cX6_judge 53 = .ok (.if_icmp .ge 66, 3) := by decide +kernel
theorem dX6_judge_56 : decode cX6_judge 56 = .ok (.iload_n 2, 1) := by decide +kernel
theorem dX6_judge_57 : decode cX6_judge 57 = .ok (.iload_n 1, 1) := by decide +kernel
theorem dX6_judge_58 : decode cX6_judge 58 = .ok (.iconst 1, 1) := by decide +kernel
theorem dX6_judge_59 : decode cX6_judge 59 = .ok (.isub, 1) := by decide +kernel
theorem dX6_judge_60 : decode cX6_judge 60 = .ok (.iload 5, 2) := by decide +kernel
theorem dX6_judge_62 : decode cX6_judge 62 = .ok (.isub, 1) := by decide +kernel
theorem dX6_judge_63 : decode cX6_judge 63 = .ok (.invokestatic 235, 3) := by decide +kernel
theorem dX6_judge_66 : decode cX6_judge 66 = .ok (.istore 6, 2) := by decide +kernel
theorem dX6_judge_68 : decode cX6_judge 68 = .ok (.iload 6, 2) := by decide +kernel
theorem dX6_judge_70 : decode cX6_judge 70 = .ok (.iconst 4, 1) := by decide +kernel
theorem dX6_judge_71 : decode cX6_judge 71 = .ok (.if_icmp .ne 15, 3) := by decide +kernel
theorem dX6_judge_74 : decode cX6_judge 74 = .ok (.iload_n 3, 1) := by decide +kernel
theorem dX6_judge_75 : decode cX6_judge 75 = .ok (.bipush 9, 2) := by decide +kernel
theorem dX6_judge_77 : decode cX6_judge 77 = .ok (.if_icmp .ge 9, 3) := by decide +kernel
theorem dX6_judge_80 : decode cX6_judge 80 = .ok (.iinc 3 1, 3) := by decide +kernel
theorem dX6_judge_83 : decode cX6_judge 83 = .ok (.goto 30, 3) := by decide +kernel
theorem dX6_judge_86 : decode cX6_judge 86 = .ok (.aload_n 0, 1) := by decide +kernel
theorem dX6_judge_87 : decode cX6_judge 87 = .ok (.iload 6, 2) := by decide +kernel
theorem dX6_judge_89 : decode cX6_judge 89 = .ok (.iload 4, 2) := by decide +kernel
theorem dX6_judge_91 : decode cX6_judge 91 = .ok (.iload_n 3, 1) := by decide +kernel
theorem dX6_judge_92 : decode cX6_judge 92 = .ok (.invokevirtual 238, 3) := by decide +kernel
theorem dX6_judge_95 : decode cX6_judge 95 = .ok (.ifCond .eq 15, 3) := by decide +kernel
theorem dX6_judge_98 : decode cX6_judge 98 = .ok (.iload 4, 2) := by decide +kernel
theorem dX6_judge_100 : decode cX6_judge 100 = .ok (.iconst 1, 1) := by decide +kernel
theorem dX6_judge_101 : decode cX6_judge 101 = .ok (.iload 6, 2) := by decide +kernel
theorem dX6_judge_103 : decode cX6_judge 103 = .ok (.ishl, 1) := by decide +kernel
theorem dX6_judge_104 : decode cX6_judge 104 = .ok (.ior, 1) := by decide +kernel
theorem dX6_judge_105 : decode cX6_judge 105 = .ok (.istore 4, 2) := by decide +kernel
theorem dX6_judge_107 : decode cX6_judge 107 = .ok (.goto 6, 3) := by decide +kernel
theorem dX6_judge_110 : decode cX6_judge 110 = .ok (.iload 5, 2) := by decide +kernel
theorem dX6_judge_112 : decode cX6_judge 112 = .ok (.ireturn, 1) := by decide +kernel
theorem dX6_judge_113 : decode cX6_judge 113 = .ok (.iinc 5 1, 3) := by decide +kernel
theorem dX6_judge_116 : decode cX6_judge 116 = .ok (.goto (-66), 3) := by decide +kernel
theorem dX6_judge_119 : decode cX6_judge 119 = .ok (.bipush (-9), 2) := by decide +kernel
theorem dX6_judge_121 : decode cX6_judge 121 = .ok (.ireturn, 1) := by decide +kernel
theorem dX6_knownEnd_0 : decode cX6_knownEnd 0 = .ok (.aload_n 0, 1) := by decide +kernel
theorem dX6_knownEnd_1 : decode cX6_knownEnd 1 = .ok (.getfield 37, 3) := by decide +kernel
theorem dX6_knownEnd_4 : decode cX6_knownEnd 4 = .ok (.invokevirtual 269, 3) := by decide +kernel
theorem dX6_knownEnd_7 : decode cX6_knownEnd 7 = .ok (.iload_n 1, 1) := by decide +kernel
theorem dX6_knownEnd_8 : decode cX6_knownEnd 8 = .ok (.ishr, 1) := by decide +kernel
theorem dX6_knownEnd_9 : decode cX6_knownEnd 9 = .ok (.iconst 1, 1) := by decide +kernel
theorem dX6_knownEnd_10 : decode cX6_knownEnd 10 = .ok (.iand, 1) := by decide +kernel
theorem dX6_knownEnd_11 : decode cX6_knownEnd 11 = .ok (.ifCond .eq 7, 3) := by decide +kernel
theorem dX6_knownEnd_14 : decode cX6_knownEnd 14 = .ok (.iconst 1, 1) := by decide +kernel
theorem dX6_knownEnd_15 : decode cX6_knownEnd 15 = .ok (.goto 4, 3) := by decide +kernel
theorem dX6_knownEnd_18 : decode cX6_knownEnd 18 = .ok (.iconst 0, 1) := by decide +kernel
theorem dX6_knownEnd_19 : decode cX6_knownEnd 19 = .ok (.istore_n 2, 1) := by decide +kernel
theorem dX6_knownEnd_20 : decode cX6_knownEnd 20 = .ok (.aload_n 0, 1) := by decide +kernel
theorem dX6_knownEnd_21 : decode cX6_knownEnd 21 = .ok (.iload_n 1, 1) := by decide +kernel
theorem dX6_knownEnd_22 : decode cX6_knownEnd 22 = .ok (.invokevirtual 114, 3) := by decide +kernel
theorem dX6_knownEnd_25 : decode cX6_knownEnd 25 = .ok (.ifCond .ne 7, 3) := by decide +kernel
theorem dX6_knownEnd_28 : decode cX6_knownEnd 28 = .ok (.iload_n 2, 1) := by decide +kernel
theorem dX6_knownEnd_29 : decode cX6_knownEnd 29 = .ok (.ifCond .eq 14, 3) := by decide +kernel
theorem dX6_knownEnd_32 : decode cX6_knownEnd 32 = .ok (.aload_n 0, 1) := by decide +kernel
theorem dX6_knownEnd_33 : decode cX6_knownEnd 33 = .ok (.getfield 27, 3) := by decide +kernel
theorem dX6_knownEnd_36 : decode cX6_knownEnd 36 = .ok (.iload_n 1, 1) := by decide +kernel
theorem dX6_knownEnd_37 : decode cX6_knownEnd 37 = .ok (.invokevirtual 140, 3) := by decide +kernel
theorem dX6_knownEnd_40 : decode cX6_knownEnd 40 = .ok (.goto 5, 3) := by decide +kernel
theorem dX6_knownEnd_43 : decode cX6_knownEnd 43 = .ok (.bipush (-9), 2) := by decide +kernel
theorem dX6_knownEnd_45 : decode cX6_knownEnd 45 = .ok (.ireturn, 1) := by decide +kernel
theorem dX6_likely_0 : decode cX6_likely 0 = .ok (.aload_n 0, 1) := by decide +kernel
theorem dX6_likely_1 : decode cX6_likely 1 = .ok (.getfield 27, 3) := by decide +kernel
theorem dX6_likely_4 : decode cX6_likely 4 = .ok (.iload_n 1, 1) := by decide +kernel
theorem dX6_likely_5 : decode cX6_likely 5 = .ok (.invokevirtual 121, 3) := by decide +kernel
theorem dX6_likely_8 : decode cX6_likely 8 = .ok (.ifCond .eq 14, 3) := by decide +kernel
theorem dX6_likely_11 : decode cX6_likely 11 = .ok (.aload_n 0, 1) := by decide +kernel
theorem dX6_likely_12 : decode cX6_likely 12 = .ok (.getfield 27, 3) := by decide +kernel
theorem dX6_likely_15 : decode cX6_likely 15 = .ok (.iload_n 2, 1) := by decide +kernel
theorem dX6_likely_16 : decode cX6_likely 16 = .ok (.invokevirtual 95, 3) := by decide +kernel
theorem dX6_likely_19 : decode cX6_likely 19 = .ok (.ifCond .ne 5, 3) := by decide +kernel
theorem dX6_likely_22 : decode cX6_likely 22 = .ok (.iconst (-1), 1) := by decide +kernel
theorem dX6_likely_23 : decode cX6_likely 23 = .ok (.ireturn, 1) := by decide +kernel
theorem dX6_likely_24 : decode cX6_likely 24 = .ok (.aload_n 0, 1) := by decide +kernel
theorem dX6_likely_25 : decode cX6_likely 25 = .ok (.iload_n 1, 1) := by decide +kernel
theorem dX6_likely_26 : decode cX6_likely 26 = .ok (.invokevirtual 166, 3) := by decide +kernel
theorem dX6_likely_29 : decode cX6_likely 29 = .ok (.istore 4, 2) := by decide +kernel
theorem dX6_likely_31 : decode cX6_likely 31 = .ok (.aload_n 0, 1) := by decide +kernel
theorem dX6_likely_32 : decode cX6_likely 32 = .ok (.getfield 27, 3) := by decide +kernel
theorem dX6_likely_35 : decode cX6_likely 35 = .ok (.iload 4, 2) := by decide +kernel
theorem dX6_likely_37 : decode cX6_likely 37 = .ok (.invokevirtual 163, 3) := by decide +kernel
theorem dX6_likely_40 : decode cX6_likely 40 = .ok (.istore 5, 2) := by decide +kernel
theorem dX6_likely_42 : decode cX6_likely 42 = .ok (.iload 5, 2) := by decide +kernel
theorem dX6_likely_44 : decode cX6_likely 44 = .ok (.ifCond .ne 6, 3) := by decide +kernel
theorem dX6_likely_47 : decode cX6_likely 47 = .ok (.bipush (-3), 2) := by decide +kernel
theorem dX6_likely_49 : decode cX6_likely 49 = .ok (.ireturn, 1) := by decide +kernel
theorem dX6_likely_50 : decode cX6_likely 50 = .ok (.aload_n 0, 1) := by decide +kernel
theorem dX6_likely_51 : decode cX6_likely 51 = .ok (.getfield 27, 3) := by decide +kernel
theorem dX6_likely_54 : decode cX6_likely 54 = .ok (.iload 4, 2) := by decide +kernel
theorem dX6_likely_56 : decode cX6_likely 56 = .ok (.iload_n 2, 1) := by decide +kernel
theorem dX6_likely_57 : decode cX6_likely 57 = .ok (.invokevirtual 169, 3) := by decide +kernel
theorem dX6_likely_60 : decode cX6_likely 60 = .ok (.iload 5, 2) := by decide +kernel
theorem dX6_likely_62 : decode cX6_likely 62 = .ok (.iload_n 3, 1) := by decide +kernel
theorem dX6_likely_63 : decode cX6_likely 63 = .ok (.invokestatic 173, 3) := by decide +kernel
theorem dX6_likely_66 : decode cX6_likely 66 = .ok (.ireturn, 1) := by decide +kernel
theorem dX6_see_0 : decode cX6_see 0 = .ok (.aload_n 0, 1) := by decide +kernel
theorem dX6_see_1 : decode cX6_see 1 = .ok (.getfield 27, 3) := by decide +kernel
theorem dX6_see_4 : decode cX6_see 4 = .ok (.iload_n 1, 1) := by decide +kernel
theorem dX6_see_5 : decode cX6_see 5 = .ok (.invokevirtual 95, 3) := by decide +kernel
theorem dX6_see_8 : decode cX6_see 8 = .ok (.ifCond .ne 5, 3) := by decide +kernel
theorem dX6_see_11 : decode cX6_see 11 = .ok (.iconst (-1), 1) := by decide +kernel
theorem dX6_see_12 : decode cX6_see 12 = .ok (.ireturn, 1) := by decide +kernel
theorem dX6_see_13 : decode cX6_see 13 = .ok (.iload_n 2, 1) := by decide +kernel
theorem dX6_see_14 : decode cX6_see 14 = .ok (.ifCond .lt 9, 3) := by decide +kernel
theorem dX6_see_17 : decode cX6_see 17 = .ok (.iload_n 2, 1) := by decide +kernel
theorem dX6_see_18 : decode cX6_see 18 = .ok (.bipush 9, 2) := by decide +kernel
theorem dX6_see_20 : decode cX6_see 20 = .ok (.if_icmp .le 6, 3) := by decide +kernel
theorem dX6_see_23 : decode cX6_see 23 = .ok (.bipush (-2), 2) := by decide +kernel
theorem dX6_see_25 : decode cX6_see 25 = .ok (.ireturn, 1) := by decide +kernel
theorem dX6_see_26 : decode cX6_see 26 = .ok (.aload_n 0, 1) := by decide +kernel
theorem dX6_see_27 : decode cX6_see 27 = .ok (.getfield 55, 3) := by decide +kernel
theorem dX6_see_30 : decode cX6_see 30 = .ok (.getfield 215, 3) := by decide +kernel
theorem dX6_see_33 : decode cX6_see 33 = .ok (.bipush 6, 2) := by decide +kernel
theorem dX6_see_35 : decode cX6_see 35 = .ok (.if_icmp .lt 6, 3) := by decide +kernel
theorem dX6_see_38 : decode cX6_see 38 = .ok (.bipush (-4), 2) := by decide +kernel
theorem dX6_see_40 : decode cX6_see 40 = .ok (.ireturn, 1) := by decide +kernel
theorem dX6_see_41 : decode cX6_see 41 = .ok (.aload_n 0, 1) := by decide +kernel
theorem dX6_see_42 : decode cX6_see 42 = .ok (.getfield 55, 3) := by decide +kernel
theorem dX6_see_45 : decode cX6_see 45 = .ok (.iload_n 1, 1) := by decide +kernel
theorem dX6_see_46 : decode cX6_see 46 = .ok (.iload_n 2, 1) := by decide +kernel
theorem dX6_see_47 : decode cX6_see 47 = .ok (.invokevirtual 216, 3) := by decide +kernel
theorem dX6_see_50 : decode cX6_see 50 = .ok (.aload_n 0, 1) := by decide +kernel
theorem dX6_see_51 : decode cX6_see 51 = .ok (.getfield 55, 3) := by decide +kernel
theorem dX6_see_54 : decode cX6_see 54 = .ok (.getfield 215, 3) := by decide +kernel
theorem dX6_see_57 : decode cX6_see 57 = .ok (.ireturn, 1) := by decide +kernel
theorem dX6_seed_0 : decode cX6_seed 0 = .ok (.aload_n 0, 1) := by decide +kernel
theorem dX6_seed_1 : decode cX6_seed 1 = .ok (.getfield 69, 3) := by decide +kernel
theorem dX6_seed_4 : decode cX6_seed 4 = .ok (.lstore_n 3, 1) := by decide +kernel
theorem dX6_seed_5 : decode cX6_seed 5 = .ok (.aload_n 0, 1) := by decide +kernel
theorem dX6_seed_6 : decode cX6_seed 6 = .ok (.lload_n 1, 1) := by decide +kernel
theorem dX6_seed_7 : decode cX6_seed 7 = .ok (.putfield 69, 3) := by decide +kernel
theorem dX6_seed_10 : decode cX6_seed 10 = .ok (.lload_n 3, 1) := by decide +kernel
theorem dX6_seed_11 : decode cX6_seed 11 = .ok (.lreturn, 1) := by decide +kernel
theorem dX6_sell_0 : decode cX6_sell 0 = .ok (.aload_n 0, 1) := by decide +kernel
theorem dX6_sell_1 : decode cX6_sell 1 = .ok (.getfield 27, 3) := by decide +kernel
theorem dX6_sell_4 : decode cX6_sell 4 = .ok (.iload_n 1, 1) := by decide +kernel
theorem dX6_sell_5 : decode cX6_sell 5 = .ok (.invokevirtual 95, 3) := by decide +kernel
theorem dX6_sell_8 : decode cX6_sell 8 = .ok (.ifCond .ne 5, 3) := by decide +kernel
theorem dX6_sell_11 : decode cX6_sell 11 = .ok (.iconst (-1), 1) := by decide +kernel
theorem dX6_sell_12 : decode cX6_sell 12 = .ok (.ireturn, 1) := by decide +kernel
theorem dX6_sell_13 : decode cX6_sell 13 = .ok (.aload_n 0, 1) := by decide +kernel
theorem dX6_sell_14 : decode cX6_sell 14 = .ok (.getfield 37, 3) := by decide +kernel
theorem dX6_sell_17 : decode cX6_sell 17 = .ok (.getfield 111, 3) := by decide +kernel
theorem dX6_sell_20 : decode cX6_sell 20 = .ok (.iload_n 1, 1) := by decide +kernel
theorem dX6_sell_21 : decode cX6_sell 21 = .ok (.iaload, 1) := by decide +kernel
theorem dX6_sell_22 : decode cX6_sell 22 = .ok (.bipush (-9), 2) := by decide +kernel
theorem dX6_sell_24 : decode cX6_sell 24 = .ok (.if_icmp .eq 6, 3) := by decide +kernel
theorem dX6_sell_27 : decode cX6_sell 27 = .ok (.bipush (-3), 2) := by decide +kernel
theorem dX6_sell_29 : decode cX6_sell 29 = .ok (.ireturn, 1) := by decide +kernel
theorem dX6_sell_30 : decode cX6_sell 30 = .ok (.aload_n 0, 1) := by decide +kernel
theorem dX6_sell_31 : decode cX6_sell 31 = .ok (.iload_n 1, 1) := by decide +kernel
theorem dX6_sell_32 : decode cX6_sell 32 = .ok (.invokevirtual 114, 3) := by decide +kernel
theorem dX6_sell_35 : decode cX6_sell 35 = .ok (.ifCond .eq 7, 3) := by decide +kernel
theorem dX6_sell_38 : decode cX6_sell 38 = .ok (.iconst 0, 1) := by decide +kernel
theorem dX6_sell_39 : decode cX6_sell 39 = .ok (.goto 12, 3) := by decide +kernel
theorem dX6_sell_42 : decode cX6_sell 42 = .ok (.aload_n 0, 1) := by decide +kernel
theorem dX6_sell_43 : decode cX6_sell 43 = .ok (.getfield 27, 3) := by decide +kernel
theorem dX6_sell_46 : decode cX6_sell 46 = .ok (.getfield 108, 3) := by decide +kernel
theorem dX6_sell_49 : decode cX6_sell 49 = .ok (.iload_n 1, 1) := by decide +kernel
theorem dX6_sell_50 : decode cX6_sell 50 = .ok (.iaload, 1) := by decide +kernel
theorem dX6_sell_51 : decode cX6_sell 51 = .ok (.istore_n 2, 1) := by decide +kernel
theorem dX6_sell_52 : decode cX6_sell 52 = .ok (.aload_n 0, 1) := by decide +kernel
theorem dX6_sell_53 : decode cX6_sell 53 = .ok (.getfield 37, 3) := by decide +kernel
theorem dX6_sell_56 : decode cX6_sell 56 = .ok (.getfield 111, 3) := by decide +kernel
theorem dX6_sell_59 : decode cX6_sell 59 = .ok (.iload_n 1, 1) := by decide +kernel
theorem dX6_sell_60 : decode cX6_sell 60 = .ok (.aload_n 0, 1) := by decide +kernel
theorem dX6_sell_61 : decode cX6_sell 61 = .ok (.getfield 37, 3) := by decide +kernel
theorem dX6_sell_64 : decode cX6_sell 64 = .ok (.getfield 143, 3) := by decide +kernel
theorem dX6_sell_67 : decode cX6_sell 67 = .ok (.iastore, 1) := by decide +kernel
theorem dX6_sell_68 : decode cX6_sell 68 = .ok (.aload_n 0, 1) := by decide +kernel
theorem dX6_sell_69 : decode cX6_sell 69 = .ok (.getfield 37, 3) := by decide +kernel
theorem dX6_sell_72 : decode cX6_sell 72 = .ok (.dup, 1) := by decide +kernel
theorem dX6_sell_73 : decode cX6_sell 73 = .ok (.getfield 146, 3) := by decide +kernel
theorem dX6_sell_76 : decode cX6_sell 76 = .ok (.iload_n 2, 1) := by decide +kernel
theorem dX6_sell_77 : decode cX6_sell 77 = .ok (.iadd, 1) := by decide +kernel
theorem dX6_sell_78 : decode cX6_sell 78 = .ok (.putfield 146, 3) := by decide +kernel
theorem dX6_sell_81 : decode cX6_sell 81 = .ok (.aload_n 0, 1) := by decide +kernel
theorem dX6_sell_82 : decode cX6_sell 82 = .ok (.getfield 44, 3) := by decide +kernel
theorem dX6_sell_85 : decode cX6_sell 85 = .ok (.iconst 2, 1) := by decide +kernel
theorem dX6_sell_86 : decode cX6_sell 86 = .ok (.iload_n 1, 1) := by decide +kernel
theorem dX6_sell_87 : decode cX6_sell 87 = .ok (.iload_n 2, 1) := by decide +kernel
theorem dX6_sell_88 : decode cX6_sell 88 = .ok (.invokevirtual 136, 3) := by decide +kernel
theorem dX6_sell_91 : decode cX6_sell 91 = .ok (.iload_n 2, 1) := by decide +kernel
theorem dX6_sell_92 : decode cX6_sell 92 = .ok (.ireturn, 1) := by decide +kernel
theorem dX6_thing_0 : decode cX6_thing 0 = .ok (.aload_n 0, 1) := by decide +kernel
theorem dX6_thing_1 : decode cX6_thing 1 = .ok (.getfield 27, 3) := by decide +kernel
theorem dX6_thing_4 : decode cX6_thing 4 = .ok (.iload_n 1, 1) := by decide +kernel
theorem dX6_thing_5 : decode cX6_thing 5 = .ok (.invokevirtual 95, 3) := by decide +kernel
theorem dX6_thing_8 : decode cX6_thing 8 = .ok (.ifCond .ne 5, 3) := by decide +kernel
theorem dX6_thing_11 : decode cX6_thing 11 = .ok (.iconst (-1), 1) := by decide +kernel
theorem dX6_thing_12 : decode cX6_thing 12 = .ok (.ireturn, 1) := by decide +kernel
theorem dX6_thing_13 : decode cX6_thing 13 = .ok (.iload_n 2, 1) := by decide +kernel
theorem dX6_thing_14 : decode cX6_thing 14 = .ok (.tableswitch 112 0 6 #[42, 52, 62, 72, 82, 92, 106], 42) := by decide +kernel
theorem dX6_thing_56 : decode cX6_thing 56 = .ok (.aload_n 0, 1) := by decide +kernel
theorem dX6_thing_57 : decode cX6_thing 57 = .ok (.getfield 27, 3) := by decide +kernel
theorem dX6_thing_60 : decode cX6_thing 60 = .ok (.getfield 99, 3) := by decide +kernel
theorem dX6_thing_63 : decode cX6_thing 63 = .ok (.iload_n 1, 1) := by decide +kernel
theorem dX6_thing_64 : decode cX6_thing 64 = .ok (.iaload, 1) := by decide +kernel
theorem dX6_thing_65 : decode cX6_thing 65 = .ok (.ireturn, 1) := by decide +kernel
theorem dX6_thing_66 : decode cX6_thing 66 = .ok (.aload_n 0, 1) := by decide +kernel
theorem dX6_thing_67 : decode cX6_thing 67 = .ok (.getfield 27, 3) := by decide +kernel
theorem dX6_thing_70 : decode cX6_thing 70 = .ok (.getfield 102, 3) := by decide +kernel
theorem dX6_thing_73 : decode cX6_thing 73 = .ok (.iload_n 1, 1) := by decide +kernel
theorem dX6_thing_74 : decode cX6_thing 74 = .ok (.iaload, 1) := by decide +kernel
theorem dX6_thing_75 : decode cX6_thing 75 = .ok (.ireturn, 1) := by decide +kernel
theorem dX6_thing_76 : decode cX6_thing 76 = .ok (.aload_n 0, 1) := by decide +kernel
theorem dX6_thing_77 : decode cX6_thing 77 = .ok (.getfield 27, 3) := by decide +kernel
theorem dX6_thing_80 : decode cX6_thing 80 = .ok (.getfield 105, 3) := by decide +kernel
theorem dX6_thing_83 : decode cX6_thing 83 = .ok (.iload_n 1, 1) := by decide +kernel
theorem dX6_thing_84 : decode cX6_thing 84 = .ok (.iaload, 1) := by decide +kernel
theorem dX6_thing_85 : decode cX6_thing 85 = .ok (.ireturn, 1) := by decide +kernel
theorem dX6_thing_86 : decode cX6_thing 86 = .ok (.aload_n 0, 1) := by decide +kernel
theorem dX6_thing_87 : decode cX6_thing 87 = .ok (.getfield 27, 3) := by decide +kernel
theorem dX6_thing_90 : decode cX6_thing 90 = .ok (.getfield 108, 3) := by decide +kernel
theorem dX6_thing_93 : decode cX6_thing 93 = .ok (.iload_n 1, 1) := by decide +kernel
theorem dX6_thing_94 : decode cX6_thing 94 = .ok (.iaload, 1) := by decide +kernel
theorem dX6_thing_95 : decode cX6_thing 95 = .ok (.ireturn, 1) := by decide +kernel
theorem dX6_thing_96 : decode cX6_thing 96 = .ok (.aload_n 0, 1) := by decide +kernel
theorem dX6_thing_97 : decode cX6_thing 97 = .ok (.getfield 37, 3) := by decide +kernel
theorem dX6_thing_100 : decode cX6_thing 100 = .ok (.getfield 111, 3) := by decide +kernel
theorem dX6_thing_103 : decode cX6_thing 103 = .ok (.iload_n 1, 1) := by decide +kernel
theorem dX6_thing_104 : decode cX6_thing 104 = .ok (.iaload, 1) := by decide +kernel
theorem dX6_thing_105 : decode cX6_thing 105 = .ok (.ireturn, 1) := by decide +kernel
theorem dX6_thing_106 : decode cX6_thing 106 = .ok (.aload_n 0, 1) := by decide +kernel
theorem dX6_thing_107 : decode cX6_thing 107 = .ok (.iload_n 1, 1) := by decide +kernel
theorem dX6_thing_108 : decode cX6_thing 108 = .ok (.invokevirtual 114, 3) := by decide +kernel
theorem dX6_thing_111 : decode cX6_thing 111 = .ok (.ifCond .eq 7, 3) := by decide +kernel
theorem dX6_thing_114 : decode cX6_thing 114 = .ok (.iconst 1, 1) := by decide +kernel
theorem dX6_thing_115 : decode cX6_thing 115 = .ok (.goto 4, 3) := by decide +kernel
theorem dX6_thing_118 : decode cX6_thing 118 = .ok (.iconst 0, 1) := by decide +kernel
theorem dX6_thing_119 : decode cX6_thing 119 = .ok (.ireturn, 1) := by decide +kernel
theorem dX6_thing_120 : decode cX6_thing 120 = .ok (.aload_n 0, 1) := by decide +kernel
theorem dX6_thing_121 : decode cX6_thing 121 = .ok (.iload_n 1, 1) := by decide +kernel
theorem dX6_thing_122 : decode cX6_thing 122 = .ok (.invokevirtual 117, 3) := by decide +kernel
theorem dX6_thing_125 : decode cX6_thing 125 = .ok (.ireturn, 1) := by decide +kernel
theorem dX6_thing_126 : decode cX6_thing 126 = .ok (.bipush (-2), 2) := by decide +kernel
theorem dX6_thing_128 : decode cX6_thing 128 = .ok (.ireturn, 1) := by decide +kernel
theorem dX6_toAsk_0 : decode cX6_toAsk 0 = .ok (.aload_n 0, 1) := by decide +kernel
theorem dX6_toAsk_1 : decode cX6_toAsk 1 = .ok (.invokevirtual 185, 3) := by decide +kernel
theorem dX6_toAsk_4 : decode cX6_toAsk 4 = .ok (.ifCond .ne 6, 3) := by decide +kernel
theorem dX6_toAsk_7 : decode cX6_toAsk 7 = .ok (.bipush (-3), 2) := by decide +kernel
theorem dX6_toAsk_9 : decode cX6_toAsk 9 = .ok (.ireturn, 1) := by decide +kernel
theorem dX6_toAsk_10 : decode cX6_toAsk 10 = .ok (.aload_n 0, 1) := by decide +kernel
theorem dX6_toAsk_11 : decode cX6_toAsk 11 = .ok (.getfield 62, 3) := by decide +kernel
theorem dX6_toAsk_14 : decode cX6_toAsk 14 = .ok (.aload_n 0, 1) := by decide +kernel
theorem dX6_toAsk_15 : decode cX6_toAsk 15 = .ok (.getfield 27, 3) := by decide +kernel
theorem dX6_toAsk_18 : decode cX6_toAsk 18 = .ok (.aload_n 0, 1) := by decide +kernel
theorem dX6_toAsk_19 : decode cX6_toAsk 19 = .ok (.getfield 37, 3) := by decide +kernel
theorem dX6_toAsk_22 : decode cX6_toAsk 22 = .ok (.invokevirtual 188, 3) := by decide +kernel
theorem dX6_toAsk_25 : decode cX6_toAsk 25 = .ok (.aload_n 0, 1) := by decide +kernel
theorem dX6_toAsk_26 : decode cX6_toAsk 26 = .ok (.getfield 62, 3) := by decide +kernel
theorem dX6_toAsk_29 : decode cX6_toAsk 29 = .ok (.aload_n 0, 1) := by decide +kernel
theorem dX6_toAsk_30 : decode cX6_toAsk 30 = .ok (.getfield 27, 3) := by decide +kernel
theorem dX6_toAsk_33 : decode cX6_toAsk 33 = .ok (.aload_n 0, 1) := by decide +kernel
theorem dX6_toAsk_34 : decode cX6_toAsk 34 = .ok (.getfield 37, 3) := by decide +kernel
theorem dX6_toAsk_37 : decode cX6_toAsk 37 = .ok (.invokevirtual 192, 3) := by decide +kernel
theorem dX6_toAsk_40 : decode cX6_toAsk 40 = .ok (.ireturn, 1) := by decide +kernel
theorem dX6_undo_0 : decode cX6_undo 0 = .ok (.aload_n 0, 1) := by decide +kernel
theorem dX6_undo_1 : decode cX6_undo 1 = .ok (.getfield 44, 3) := by decide +kernel
theorem dX6_undo_4 : decode cX6_undo 4 = .ok (.getfield 83, 3) := by decide +kernel
theorem dX6_undo_7 : decode cX6_undo 7 = .ok (.ifCond .gt 6, 3) := by decide +kernel
theorem dX6_undo_10 : decode cX6_undo 10 = .ok (.bipush (-3), 2) := by decide +kernel
theorem dX6_undo_12 : decode cX6_undo 12 = .ok (.ireturn, 1) := by decide +kernel
theorem dX6_undo_13 : decode cX6_undo 13 = .ok (.aload_n 0, 1) := by decide +kernel
theorem dX6_undo_14 : decode cX6_undo 14 = .ok (.getfield 44, 3) := by decide +kernel
theorem dX6_undo_17 : decode cX6_undo 17 = .ok (.aload_n 0, 1) := by decide +kernel
theorem dX6_undo_18 : decode cX6_undo 18 = .ok (.getfield 37, 3) := by decide +kernel
theorem dX6_undo_21 : decode cX6_undo 21 = .ok (.invokevirtual 148, 3) := by decide +kernel
theorem dX6_undo_24 : decode cX6_undo 24 = .ok (.aload_n 0, 1) := by decide +kernel
theorem dX6_undo_25 : decode cX6_undo 25 = .ok (.getfield 44, 3) := by decide +kernel
theorem dX6_undo_28 : decode cX6_undo 28 = .ok (.getfield 83, 3) := by decide +kernel
theorem dX6_undo_31 : decode cX6_undo 31 = .ok (.ireturn, 1) := by decide +kernel
theorem dX6_unsee_0 : decode cX6_unsee 0 = .ok (.aload_n 0, 1) := by decide +kernel
theorem dX6_unsee_1 : decode cX6_unsee 1 = .ok (.getfield 55, 3) := by decide +kernel
theorem dX6_unsee_4 : decode cX6_unsee 4 = .ok (.getfield 215, 3) := by decide +kernel
theorem dX6_unsee_7 : decode cX6_unsee 7 = .ok (.istore_n 1, 1) := by decide +kernel
theorem dX6_unsee_8 : decode cX6_unsee 8 = .ok (.aload_n 0, 1) := by decide +kernel
theorem dX6_unsee_9 : decode cX6_unsee 9 = .ok (.getfield 55, 3) := by decide +kernel
theorem dX6_unsee_12 : decode cX6_unsee 12 = .ok (.iconst 0, 1) := by decide +kernel
theorem dX6_unsee_13 : decode cX6_unsee 13 = .ok (.putfield 215, 3) := by decide +kernel
theorem dX6_unsee_16 : decode cX6_unsee 16 = .ok (.iload_n 1, 1) := by decide +kernel
theorem dX6_unsee_17 : decode cX6_unsee 17 = .ok (.ireturn, 1) := by decide +kernel
theorem dX6_which_0 : decode cX6_which 0 = .ok (.aload_n 0, 1) := by decide +kernel
theorem dX6_which_1 : decode cX6_which 1 = .ok (.getfield 55, 3) := by decide +kernel
theorem dX6_which_4 : decode cX6_which 4 = .ok (.aload_n 0, 1) := by decide +kernel
theorem dX6_which_5 : decode cX6_which 5 = .ok (.getfield 27, 3) := by decide +kernel
theorem dX6_which_8 : decode cX6_which 8 = .ok (.aload_n 0, 1) := by decide +kernel
theorem dX6_which_9 : decode cX6_which 9 = .ok (.getfield 27, 3) := by decide +kernel
theorem dX6_which_12 : decode cX6_which 12 = .ok (.getfield 152, 3) := by decide +kernel
theorem dX6_which_15 : decode cX6_which 15 = .ok (.invokevirtual 219, 3) := by decide +kernel
theorem dX6_which_18 : decode cX6_which 18 = .ok (.ifCond .eq 8, 3) := by decide +kernel
theorem dX6_which_21 : decode cX6_which 21 = .ok (.bipush 16, 2) := by decide +kernel
theorem dX6_which_23 : decode cX6_which 23 = .ok (.goto 4, 3) := by decide +kernel
theorem dX6_which_26 : decode cX6_which 26 = .ok (.iconst 0, 1) := by decide +kernel
theorem dX6_which_27 : decode cX6_which 27 = .ok (.istore_n 1, 1) := by decide +kernel
theorem dX6_which_28 : decode cX6_which 28 = .ok (.iconst 0, 1) := by decide +kernel
theorem dX6_which_29 : decode cX6_which 29 = .ok (.istore_n 2, 1) := by decide +kernel
theorem dX6_which_30 : decode cX6_which 30 = .ok (.iload_n 2, 1) := by decide +kernel
theorem dX6_which_31 : decode cX6_which 31 = .ok (.aload_n 0, 1) := by decide +kernel
theorem dX6_which_32 : decode cX6_which 32 = .ok (.getfield 27, 3) := by decide +kernel
theorem dX6_which_35 : decode cX6_which 35 = .ok (.getfield 89, 3) := by decide +kernel
theorem dX6_which_38 : decode cX6_which 38 = .ok (.if_icmp .ge 66, 3) := by decide +kernel
theorem dX6_which_41 : decode cX6_which 41 = .ok (.aload_n 0, 1) := by decide +kernel
theorem dX6_which_42 : decode cX6_which 42 = .ok (.getfield 27, 3) := by decide +kernel
theorem dX6_which_45 : decode cX6_which 45 = .ok (.aload_n 0, 1) := by decide +kernel
theorem dX6_which_46 : decode cX6_which 46 = .ok (.getfield 27, 3) := by decide +kernel
theorem dX6_which_49 : decode cX6_which 49 = .ok (.getfield 152, 3) := by decide +kernel
theorem dX6_which_52 : decode cX6_which 52 = .ok (.iconst 1, 1) := by decide +kernel
theorem dX6_which_53 : decode cX6_which 53 = .ok (.iload_n 2, 1) := by decide +kernel
theorem dX6_which_54 : decode cX6_which 54 = .ok (.ishl, 1) := by decide +kernel
theorem dX6_which_55 : decode cX6_which 55 = .ok (.aload_n 0, 1) := by decide +kernel
theorem dX6_which_56 : decode cX6_which 56 = .ok (.getfield 27, 3) := by decide +kernel
theorem dX6_which_59 : decode cX6_which 59 = .ok (.getfield 223, 3) := by decide +kernel
theorem dX6_which_62 : decode cX6_which 62 = .ok (.invokevirtual 226, 3) := by decide +kernel
theorem dX6_which_65 : decode cX6_which 65 = .ok (.istore_n 3, 1) := by decide +kernel
theorem dX6_which_66 : decode cX6_which 66 = .ok (.aload_n 0, 1) := by decide +kernel
theorem dX6_which_67 : decode cX6_which 67 = .ok (.getfield 27, 3) := by decide +kernel
theorem dX6_which_70 : decode cX6_which 70 = .ok (.iload_n 3, 1) := by decide +kernel
theorem dX6_which_71 : decode cX6_which 71 = .ok (.invokevirtual 163, 3) := by decide +kernel
theorem dX6_which_74 : decode cX6_which 74 = .ok (.ifCond .eq 24, 3) := by decide +kernel
theorem dX6_which_77 : decode cX6_which 77 = .ok (.aload_n 0, 1) := by decide +kernel
theorem dX6_which_78 : decode cX6_which 78 = .ok (.getfield 55, 3) := by decide +kernel
theorem dX6_which_81 : decode cX6_which 81 = .ok (.aload_n 0, 1) := by decide +kernel
theorem dX6_which_82 : decode cX6_which 82 = .ok (.getfield 27, 3) := by decide +kernel
theorem dX6_which_85 : decode cX6_which 85 = .ok (.iload_n 3, 1) := by decide +kernel
theorem dX6_which_86 : decode cX6_which 86 = .ok (.invokevirtual 219, 3) := by decide +kernel
theorem dX6_which_89 : decode cX6_which 89 = .ok (.ifCond .eq 9, 3) := by decide +kernel
theorem dX6_which_92 : decode cX6_which 92 = .ok (.iload_n 1, 1) := by decide +kernel
theorem dX6_which_93 : decode cX6_which 93 = .ok (.iconst 1, 1) := by decide +kernel
theorem dX6_which_94 : decode cX6_which 94 = .ok (.iload_n 2, 1) := by decide +kernel
theorem dX6_which_95 : decode cX6_which 95 = .ok (.ishl, 1) := by decide +kernel
theorem dX6_which_96 : decode cX6_which 96 = .ok (.ior, 1) := by decide +kernel
theorem dX6_which_97 : decode cX6_which 97 = .ok (.istore_n 1, 1) := by decide +kernel
theorem dX6_which_98 : decode cX6_which 98 = .ok (.iinc 2 1, 3) := by decide +kernel
theorem dX6_which_101 : decode cX6_which 101 = .ok (.goto (-71), 3) := by decide +kernel
theorem dX6_which_104 : decode cX6_which 104 = .ok (.iload_n 1, 1) := by decide +kernel
theorem dX6_which_105 : decode cX6_which 105 = .ok (.ireturn, 1) := by decide +kernel
theorem dX6_wipe_0 : decode cX6_wipe 0 = .ok (.aload_n 0, 1) := by decide +kernel
theorem dX6_wipe_1 : decode cX6_wipe 1 = .ok (.getfield 13, 3) := by decide +kernel
theorem dX6_wipe_4 : decode cX6_wipe 4 = .ok (.istore_n 1, 1) := by decide +kernel
theorem dX6_wipe_5 : decode cX6_wipe 5 = .ok (.aload_n 0, 1) := by decide +kernel
theorem dX6_wipe_6 : decode cX6_wipe 6 = .ok (.iconst 0, 1) := by decide +kernel
theorem dX6_wipe_7 : decode cX6_wipe 7 = .ok (.putfield 13, 3) := by decide +kernel
theorem dX6_wipe_10 : decode cX6_wipe 10 = .ok (.iload_n 1, 1) := by decide +kernel
theorem dX6_wipe_11 : decode cX6_wipe 11 = .ok (.ireturn, 1) := by decide +kernel
theorem dX6_wise_0 : decode cX6_wise 0 = .ok (.aload_n 0, 1) := by decide +kernel
theorem dX6_wise_1 : decode cX6_wise 1 = .ok (.getfield 27, 3) := by decide +kernel
theorem dX6_wise_4 : decode cX6_wise 4 = .ok (.iload_n 1, 1) := by decide +kernel
theorem dX6_wise_5 : decode cX6_wise 5 = .ok (.invokevirtual 121, 3) := by decide +kernel
theorem dX6_wise_8 : decode cX6_wise 8 = .ok (.ifCond .eq 14, 3) := by decide +kernel
theorem dX6_wise_11 : decode cX6_wise 11 = .ok (.aload_n 0, 1) := by decide +kernel
theorem dX6_wise_12 : decode cX6_wise 12 = .ok (.getfield 27, 3) := by decide +kernel
theorem dX6_wise_15 : decode cX6_wise 15 = .ok (.iload_n 2, 1) := by decide +kernel
theorem dX6_wise_16 : decode cX6_wise 16 = .ok (.invokevirtual 95, 3) := by decide +kernel
theorem dX6_wise_19 : decode cX6_wise 19 = .ok (.ifCond .ne 5, 3) := by decide +kernel
theorem dX6_wise_22 : decode cX6_wise 22 = .ok (.iconst (-1), 1) := by decide +kernel
theorem dX6_wise_23 : decode cX6_wise 23 = .ok (.ireturn, 1) := by decide +kernel
theorem dX6_wise_24 : decode cX6_wise 24 = .ok (.aload_n 0, 1) := by decide +kernel
theorem dX6_wise_25 : decode cX6_wise 25 = .ok (.iload_n 1, 1) := by decide +kernel
theorem dX6_wise_26 : decode cX6_wise 26 = .ok (.invokevirtual 166, 3) := by decide +kernel
theorem dX6_wise_29 : decode cX6_wise 29 = .ok (.istore_n 3, 1) := by decide +kernel
theorem dX6_wise_30 : decode cX6_wise 30 = .ok (.aload_n 0, 1) := by decide +kernel
theorem dX6_wise_31 : decode cX6_wise 31 = .ok (.getfield 27, 3) := by decide +kernel
theorem dX6_wise_34 : decode cX6_wise 34 = .ok (.iload_n 3, 1) := by decide +kernel
theorem dX6_wise_35 : decode cX6_wise 35 = .ok (.invokevirtual 163, 3) := by decide +kernel
theorem dX6_wise_38 : decode cX6_wise 38 = .ok (.ifCond .eq 17, 3) := by decide +kernel
theorem dX6_wise_41 : decode cX6_wise 41 = .ok (.aload_n 0, 1) := by decide +kernel
theorem dX6_wise_42 : decode cX6_wise 42 = .ok (.getfield 37, 3) := by decide +kernel
theorem dX6_wise_45 : decode cX6_wise 45 = .ok (.getfield 111, 3) := by decide +kernel
theorem dX6_wise_48 : decode cX6_wise 48 = .ok (.iload_n 2, 1) := by decide +kernel
theorem dX6_wise_49 : decode cX6_wise 49 = .ok (.iaload, 1) := by decide +kernel
theorem dX6_wise_50 : decode cX6_wise 50 = .ok (.bipush (-9), 2) := by decide +kernel
theorem dX6_wise_52 : decode cX6_wise 52 = .ok (.if_icmp .eq 6, 3) := by decide +kernel
theorem dX6_wise_55 : decode cX6_wise 55 = .ok (.bipush (-3), 2) := by decide +kernel
theorem dX6_wise_57 : decode cX6_wise 57 = .ok (.ireturn, 1) := by decide +kernel
theorem dX6_wise_58 : decode cX6_wise 58 = .ok (.aload_n 0, 1) := by decide +kernel
theorem dX6_wise_59 : decode cX6_wise 59 = .ok (.getfield 27, 3) := by decide +kernel
theorem dX6_wise_62 : decode cX6_wise 62 = .ok (.iload_n 3, 1) := by decide +kernel
theorem dX6_wise_63 : decode cX6_wise 63 = .ok (.iload_n 2, 1) := by decide +kernel
theorem dX6_wise_64 : decode cX6_wise 64 = .ok (.aload_n 0, 1) := by decide +kernel
theorem dX6_wise_65 : decode cX6_wise 65 = .ok (.getfield 37, 3) := by decide +kernel
theorem dX6_wise_68 : decode cX6_wise 68 = .ok (.getfield 143, 3) := by decide +kernel
theorem dX6_wise_71 : decode cX6_wise 71 = .ok (.invokevirtual 177, 3) := by decide +kernel
theorem dX6_wise_74 : decode cX6_wise 74 = .ok (.ireturn, 1) := by decide +kernel
theorem dX6_worlds_0 : decode cX6_worlds 0 = .ok (.iload_n 1, 1) := by decide +kernel
theorem dX6_worlds_1 : decode cX6_worlds 1 = .ok (.tableswitch 97 0 3 #[31, 42, 60, 75], 31) := by decide +kernel
theorem dX6_worlds_32 : decode cX6_worlds 32 = .ok (.aload_n 0, 1) := by decide +kernel
theorem dX6_worlds_33 : decode cX6_worlds 33 = .ok (.getfield 27, 3) := by decide +kernel
theorem dX6_worlds_36 : decode cX6_worlds 36 = .ok (.getfield 152, 3) := by decide +kernel
theorem dX6_worlds_39 : decode cX6_worlds 39 = .ok (.invokestatic 155, 3) := by decide +kernel
theorem dX6_worlds_42 : decode cX6_worlds 42 = .ok (.ireturn, 1) := by decide +kernel
theorem dX6_worlds_43 : decode cX6_worlds 43 = .ok (.aload_n 0, 1) := by decide +kernel
theorem dX6_worlds_44 : decode cX6_worlds 44 = .ok (.getfield 27, 3) := by decide +kernel
theorem dX6_worlds_47 : decode cX6_worlds 47 = .ok (.aload_n 0, 1) := by decide +kernel
theorem dX6_worlds_48 : decode cX6_worlds 48 = .ok (.getfield 37, 3) := by decide +kernel
theorem dX6_worlds_51 : decode cX6_worlds 51 = .ok (.getfield 143, 3) := by decide +kernel
theorem dX6_worlds_54 : decode cX6_worlds 54 = .ok (.invokevirtual 160, 3) := by decide +kernel
theorem dX6_worlds_57 : decode cX6_worlds 57 = .ok (.invokestatic 155, 3) := by decide +kernel
theorem dX6_worlds_60 : decode cX6_worlds 60 = .ok (.ireturn, 1) := by decide +kernel
theorem dX6_worlds_61 : decode cX6_worlds 61 = .ok (.aload_n 0, 1) := by decide +kernel
theorem dX6_worlds_62 : decode cX6_worlds 62 = .ok (.getfield 27, 3) := by decide +kernel
theorem dX6_worlds_65 : decode cX6_worlds 65 = .ok (.aload_n 0, 1) := by decide +kernel
theorem dX6_worlds_66 : decode cX6_worlds 66 = .ok (.getfield 27, 3) := by decide +kernel
theorem dX6_worlds_69 : decode cX6_worlds 69 = .ok (.getfield 152, 3) := by decide +kernel
theorem dX6_worlds_72 : decode cX6_worlds 72 = .ok (.invokevirtual 163, 3) := by decide +kernel
theorem dX6_worlds_75 : decode cX6_worlds 75 = .ok (.ireturn, 1) := by decide +kernel
theorem dX6_worlds_76 : decode cX6_worlds 76 = .ok (.aload_n 0, 1) := by decide +kernel
theorem dX6_worlds_77 : decode cX6_worlds 77 = .ok (.getfield 27, 3) := by decide +kernel
theorem dX6_worlds_80 : decode cX6_worlds 80 = .ok (.aload_n 0, 1) := by decide +kernel
theorem dX6_worlds_81 : decode cX6_worlds 81 = .ok (.getfield 27, 3) := by decide +kernel
theorem dX6_worlds_84 : decode cX6_worlds 84 = .ok (.aload_n 0, 1) := by decide +kernel
theorem dX6_worlds_85 : decode cX6_worlds 85 = .ok (.getfield 37, 3) := by decide +kernel
theorem dX6_worlds_88 : decode cX6_worlds 88 = .ok (.getfield 143, 3) := by decide +kernel
theorem dX6_worlds_91 : decode cX6_worlds 91 = .ok (.invokevirtual 160, 3) := by decide +kernel
theorem dX6_worlds_94 : decode cX6_worlds 94 = .ok (.invokevirtual 163, 3) := by decide +kernel
theorem dX6_worlds_97 : decode cX6_worlds 97 = .ok (.ireturn, 1) := by decide +kernel
theorem dX6_worlds_98 : decode cX6_worlds 98 = .ok (.bipush (-2), 2) := by decide +kernel
theorem dX6_worlds_100 : decode cX6_worlds 100 = .ok (.ireturn, 1) := by decide +kernel
theorem dX6_worth_0 : decode cX6_worth 0 = .ok (.iload_n 1, 1) := by decide +kernel
theorem dX6_worth_1 : decode cX6_worth 1 = .ok (.ifCond .lt 16, 3) := by decide +kernel
theorem dX6_worth_4 : decode cX6_worth 4 = .ok (.iload_n 1, 1) := by decide +kernel
theorem dX6_worth_5 : decode cX6_worth 5 = .ok (.iconst 1, 1) := by decide +kernel
theorem dX6_worth_6 : decode cX6_worth 6 = .ok (.aload_n 0, 1) := by decide +kernel
theorem dX6_worth_7 : decode cX6_worth 7 = .ok (.getfield 27, 3) := by decide +kernel
theorem dX6_worth_10 : decode cX6_worth 10 = .ok (.getfield 89, 3) := by decide +kernel
theorem dX6_worth_13 : decode cX6_worth 13 = .ok (.ishl, 1) := by decide +kernel
theorem dX6_worth_14 : decode cX6_worth 14 = .ok (.if_icmp .lt 6, 3) := by decide +kernel
theorem dX6_worth_17 : decode cX6_worth 17 = .ok (.bipush (-2), 2) := by decide +kernel
theorem dX6_worth_19 : decode cX6_worth 19 = .ok (.ireturn, 1) := by decide +kernel
theorem dX6_worth_20 : decode cX6_worth 20 = .ok (.aload_n 0, 1) := by decide +kernel
theorem dX6_worth_21 : decode cX6_worth 21 = .ok (.getfield 27, 3) := by decide +kernel
theorem dX6_worth_24 : decode cX6_worth 24 = .ok (.aload_n 0, 1) := by decide +kernel
theorem dX6_worth_25 : decode cX6_worth 25 = .ok (.getfield 37, 3) := by decide +kernel
theorem dX6_worth_28 : decode cX6_worth 28 = .ok (.getfield 143, 3) := by decide +kernel
theorem dX6_worth_31 : decode cX6_worth 31 = .ok (.invokevirtual 160, 3) := by decide +kernel
theorem dX6_worth_34 : decode cX6_worth 34 = .ok (.istore_n 3, 1) := by decide +kernel
theorem dX6_worth_35 : decode cX6_worth 35 = .ok (.aload_n 0, 1) := by decide +kernel
theorem dX6_worth_36 : decode cX6_worth 36 = .ok (.getfield 27, 3) := by decide +kernel
theorem dX6_worth_39 : decode cX6_worth 39 = .ok (.iload_n 3, 1) := by decide +kernel
theorem dX6_worth_40 : decode cX6_worth 40 = .ok (.invokevirtual 163, 3) := by decide +kernel
theorem dX6_worth_43 : decode cX6_worth 43 = .ok (.istore 4, 2) := by decide +kernel
theorem dX6_worth_45 : decode cX6_worth 45 = .ok (.iload 4, 2) := by decide +kernel
theorem dX6_worth_47 : decode cX6_worth 47 = .ok (.ifCond .ne 6, 3) := by decide +kernel
theorem dX6_worth_50 : decode cX6_worth 50 = .ok (.bipush (-3), 2) := by decide +kernel
theorem dX6_worth_52 : decode cX6_worth 52 = .ok (.ireturn, 1) := by decide +kernel
theorem dX6_worth_53 : decode cX6_worth 53 = .ok (.aload_n 0, 1) := by decide +kernel
theorem dX6_worth_54 : decode cX6_worth 54 = .ok (.getfield 62, 3) := by decide +kernel
theorem dX6_worth_57 : decode cX6_worth 57 = .ok (.aload_n 0, 1) := by decide +kernel
theorem dX6_worth_58 : decode cX6_worth 58 = .ok (.getfield 27, 3) := by decide +kernel
theorem dX6_worth_61 : decode cX6_worth 61 = .ok (.aload_n 0, 1) := by decide +kernel
theorem dX6_worth_62 : decode cX6_worth 62 = .ok (.getfield 37, 3) := by decide +kernel
theorem dX6_worth_65 : decode cX6_worth 65 = .ok (.iload_n 3, 1) := by decide +kernel
theorem dX6_worth_66 : decode cX6_worth 66 = .ok (.iload_n 1, 1) := by decide +kernel
theorem dX6_worth_67 : decode cX6_worth 67 = .ok (.invokevirtual 181, 3) := by decide +kernel
theorem dX6_worth_70 : decode cX6_worth 70 = .ok (.iload 4, 2) := by decide +kernel
theorem dX6_worth_72 : decode cX6_worth 72 = .ok (.iload_n 2, 1) := by decide +kernel
theorem dX6_worth_73 : decode cX6_worth 73 = .ok (.invokestatic 173, 3) := by decide +kernel
theorem dX6_worth_76 : decode cX6_worth 76 = .ok (.ireturn, 1) := by decide +kernel
theorem dX6_write_0 : decode cX6_write 0 = .ok (.iload_n 1, 1) := by decide +kernel
theorem dX6_write_1 : decode cX6_write 1 = .ok (.ifCond .lt 10, 3) := by decide +kernel
theorem dX6_write_4 : decode cX6_write 4 = .ok (.iload_n 1, 1) := by decide +kernel
theorem dX6_write_5 : decode cX6_write 5 = .ok (.sipush 255, 3) := by decide +kernel
theorem dX6_write_8 : decode cX6_write 8 = .ok (.if_icmp .le 6, 3) := by decide +kernel
theorem dX6_write_11 : decode cX6_write 11 = .ok (.bipush (-2), 2) := by decide +kernel
theorem dX6_write_13 : decode cX6_write 13 = .ok (.ireturn, 1) := by decide +kernel
theorem dX6_write_14 : decode cX6_write 14 = .ok (.aload_n 0, 1) := by decide +kernel
theorem dX6_write_15 : decode cX6_write 15 = .ok (.getfield 13, 3) := by decide +kernel
theorem dX6_write_18 : decode cX6_write 18 = .ok (.bipush 48, 2) := by decide +kernel
theorem dX6_write_20 : decode cX6_write 20 = .ok (.if_icmp .lt 6, 3) := by decide +kernel
theorem dX6_write_23 : decode cX6_write 23 = .ok (.bipush (-4), 2) := by decide +kernel
theorem dX6_write_25 : decode cX6_write 25 = .ok (.ireturn, 1) := by decide +kernel
theorem dX6_write_26 : decode cX6_write 26 = .ok (.aload_n 0, 1) := by decide +kernel
theorem dX6_write_27 : decode cX6_write 27 = .ok (.getfield 9, 3) := by decide +kernel
theorem dX6_write_30 : decode cX6_write 30 = .ok (.aload_n 0, 1) := by decide +kernel
theorem dX6_write_31 : decode cX6_write 31 = .ok (.getfield 13, 3) := by decide +kernel
theorem dX6_write_34 : decode cX6_write 34 = .ok (.iload_n 1, 1) := by decide +kernel
theorem dX6_write_35 : decode cX6_write 35 = .ok (.iastore, 1) := by decide +kernel
theorem dX6_write_36 : decode cX6_write 36 = .ok (.aload_n 0, 1) := by decide +kernel
theorem dX6_write_37 : decode cX6_write 37 = .ok (.dup, 1) := by decide +kernel
theorem dX6_write_38 : decode cX6_write 38 = .ok (.getfield 13, 3) := by decide +kernel
theorem dX6_write_41 : decode cX6_write 41 = .ok (.iconst 1, 1) := by decide +kernel
theorem dX6_write_42 : decode cX6_write 42 = .ok (.iadd, 1) := by decide +kernel
theorem dX6_write_43 : decode cX6_write 43 = .ok (.putfield 13, 3) := by decide +kernel
theorem dX6_write_46 : decode cX6_write 46 = .ok (.aload_n 0, 1) := by decide +kernel
theorem dX6_write_47 : decode cX6_write 47 = .ok (.getfield 13, 3) := by decide +kernel
theorem dX6_write_50 : decode cX6_write 50 = .ok (.ireturn, 1) := by decide +kernel
theorem dX6_year_0 : decode cX6_year 0 = .ok (.iload_n 1, 1) := by decide +kernel
theorem dX6_year_1 : decode cX6_year 1 = .ok (.iconst 1, 1) := by decide +kernel
theorem dX6_year_2 : decode cX6_year 2 = .ok (.if_icmp .lt 9, 3) := by decide +kernel
theorem dX6_year_5 : decode cX6_year 5 = .ok (.iload_n 1, 1) := by decide +kernel
theorem dX6_year_6 : decode cX6_year 6 = .ok (.bipush 30, 2) := by decide +kernel
theorem dX6_year_8 : decode cX6_year 8 = .ok (.if_icmp .le 6, 3) := by decide +kernel
theorem dX6_year_11 : decode cX6_year 11 = .ok (.bipush (-2), 2) := by decide +kernel
theorem dX6_year_13 : decode cX6_year 13 = .ok (.ireturn, 1) := by decide +kernel
theorem dX6_year_14 : decode cX6_year 14 = .ok (.iconst 0, 1) := by decide +kernel
theorem dX6_year_15 : decode cX6_year 15 = .ok (.istore_n 2, 1) := by decide +kernel
theorem dX6_year_16 : decode cX6_year 16 = .ok (.iload_n 2, 1) := by decide +kernel
theorem dX6_year_17 : decode cX6_year 17 = .ok (.aload_n 0, 1) := by decide +kernel
theorem dX6_year_18 : decode cX6_year 18 = .ok (.getfield 27, 3) := by decide +kernel
theorem dX6_year_21 : decode cX6_year 21 = .ok (.getfield 89, 3) := by decide +kernel
theorem dX6_year_24 : decode cX6_year 24 = .ok (.if_icmp .ge 31, 3) := by decide +kernel
theorem dX6_year_27 : decode cX6_year 27 = .ok (.aload_n 0, 1) := by decide +kernel
theorem dX6_year_28 : decode cX6_year 28 = .ok (.getfield 66, 3) := by decide +kernel
theorem dX6_year_31 : decode cX6_year 31 = .ok (.iload_n 2, 1) := by decide +kernel
theorem dX6_year_32 : decode cX6_year 32 = .ok (.aload_n 0, 1) := by decide +kernel
theorem dX6_year_33 : decode cX6_year 33 = .ok (.getfield 27, 3) := by decide +kernel
theorem dX6_year_36 : decode cX6_year 36 = .ok (.aload_n 0, 1) := by decide +kernel
theorem dX6_year_37 : decode cX6_year 37 = .ok (.getfield 27, 3) := by decide +kernel
theorem dX6_year_40 : decode cX6_year 40 = .ok (.getfield 152, 3) := by decide +kernel
theorem dX6_year_43 : decode cX6_year 43 = .ok (.iload_n 2, 1) := by decide +kernel
theorem dX6_year_44 : decode cX6_year 44 = .ok (.iconst 0, 1) := by decide +kernel
theorem dX6_year_45 : decode cX6_year 45 = .ok (.invokevirtual 177, 3) := by decide +kernel
theorem dX6_year_48 : decode cX6_year 48 = .ok (.iastore, 1) := by decide +kernel
theorem dX6_year_49 : decode cX6_year 49 = .ok (.iinc 2 1, 3) := by decide +kernel
theorem dX6_year_52 : decode cX6_year 52 = .ok (.goto (-36), 3) := by decide +kernel
theorem dX6_year_55 : decode cX6_year 55 = .ok (.iconst 0, 1) := by decide +kernel
theorem dX6_year_56 : decode cX6_year 56 = .ok (.istore_n 2, 1) := by decide +kernel
theorem dX6_year_57 : decode cX6_year 57 = .ok (.iconst 0, 1) := by decide +kernel
theorem dX6_year_58 : decode cX6_year 58 = .ok (.istore_n 3, 1) := by decide +kernel
theorem dX6_year_59 : decode cX6_year 59 = .ok (.iload_n 3, 1) := by decide +kernel
theorem dX6_year_60 : decode cX6_year 60 = .ok (.iload_n 1, 1) := by decide +kernel
theorem dX6_year_61 : decode cX6_year 61 = .ok (.if_icmp .ge 67, 3) := by decide +kernel
theorem dX6_year_64 : decode cX6_year 64 = .ok (.aload_n 0, 1) := by decide +kernel
theorem dX6_year_65 : decode cX6_year 65 = .ok (.invokevirtual 242, 3) := by decide +kernel
theorem dX6_year_68 : decode cX6_year 68 = .ok (.istore 4, 2) := by decide +kernel
theorem dX6_year_70 : decode cX6_year 70 = .ok (.iconst 0, 1) := by decide +kernel
theorem dX6_year_71 : decode cX6_year 71 = .ok (.istore 5, 2) := by decide +kernel
theorem dX6_year_73 : decode cX6_year 73 = .ok (.iload 5, 2) := by decide +kernel
theorem dX6_year_75 : decode cX6_year 75 = .ok (.aload_n 0, 1) := by decide +kernel
theorem dX6_year_76 : decode cX6_year 76 = .ok (.getfield 27, 3) := by decide +kernel
theorem dX6_year_79 : decode cX6_year 79 = .ok (.getfield 89, 3) := by decide +kernel
theorem dX6_year_82 : decode cX6_year 82 = .ok (.if_icmp .ge 40, 3) := by decide +kernel
theorem dX6_year_85 : decode cX6_year 85 = .ok (.iload_n 2, 1) := by decide +kernel
theorem dX6_year_86 : decode cX6_year 86 = .ok (.aload_n 0, 1) := by decide +kernel
theorem dX6_year_87 : decode cX6_year 87 = .ok (.getfield 27, 3) := by decide +kernel
theorem dX6_year_90 : decode cX6_year 90 = .ok (.iload 5, 2) := by decide +kernel
theorem dX6_year_92 : decode cX6_year 92 = .ok (.aload_n 0, 1) := by decide +kernel
theorem dX6_year_93 : decode cX6_year 93 = .ok (.getfield 27, 3) := by decide +kernel
theorem dX6_year_96 : decode cX6_year 96 = .ok (.iload 4, 2) := by decide +kernel
theorem dX6_year_98 : decode cX6_year 98 = .ok (.iload 5, 2) := by decide +kernel
theorem dX6_year_100 : decode cX6_year 100 = .ok (.invokevirtual 245, 3) := by decide +kernel
theorem dX6_year_103 : decode cX6_year 103 = .ok (.iconst 0, 1) := by decide +kernel
theorem dX6_year_104 : decode cX6_year 104 = .ok (.aload_n 0, 1) := by decide +kernel
theorem dX6_year_105 : decode cX6_year 105 = .ok (.getfield 66, 3) := by decide +kernel
theorem dX6_year_108 : decode cX6_year 108 = .ok (.iload 5, 2) := by decide +kernel
theorem dX6_year_110 : decode cX6_year 110 = .ok (.iaload, 1) := by decide +kernel
theorem dX6_year_111 : decode cX6_year 111 = .ok (.invokevirtual 248, 3) := by decide +kernel
theorem dX6_year_114 : decode cX6_year 114 = .ok (.iadd, 1) := by decide +kernel
theorem dX6_year_115 : decode cX6_year 115 = .ok (.istore_n 2, 1) := by decide +kernel
theorem dX6_year_116 : decode cX6_year 116 = .ok (.iinc 5 1, 3) := by decide +kernel
theorem dX6_year_119 : decode cX6_year 119 = .ok (.goto (-46), 3) := by decide +kernel
theorem dX6_year_122 : decode cX6_year 122 = .ok (.iinc 3 1, 3) := by decide +kernel
theorem dX6_year_125 : decode cX6_year 125 = .ok (.goto (-66), 3) := by decide +kernel
theorem dX6_year_128 : decode cX6_year 128 = .ok (.iload_n 2, 1) := by decide +kernel
theorem dX6_year_129 : decode cX6_year 129 = .ok (.ireturn, 1) := by decide +kernel
abbrev rm_X6_ask : Room := { frames := 3, cells := 0, slots := 0, locals := 123 }
set_option maxRecDepth 20000 in
theorem k_X6_ask_X5_hasAsker_121 : GoodIn wsX6_ask (wsV RX6 121 RX5 yX5_hasAsker wsX5_hasAsker) := goodIn_r _ [7, 8, 9, 10, 11, 12, 62, 63, 64, 65, 66, 67, 68, 69, 70, 71, 72, 73, 74, 75] rfl (by decide +kernel)
set_option maxRecDepth 20000 in
theorem k_X6_ask_X5_hasThing_95 : GoodIn wsX6_ask (wsV RX6 95 RX5 yX5_hasThing wsX5_hasThing) := goodIn_r _ [13, 14, 15, 10, 16, 17, 62, 63, 64, 65, 66, 67, 68, 69, 70, 71, 72, 73, 74, 75] rfl (by decide +kernel)
set_option maxRecDepth 20000 in
theorem k_X6_ask_X0_add_136 : GoodIn wsX6_ask (wsV RX6 136 RX0 yX0_add wsX0_add) := goodIn_r _ [18, 19, 20, 21, 22, 23, 24, 25, 26, 27, 28, 29, 21, 30, 31, 32, 33, 34, 81, 82, 83, 84] rfl (by decide +kernel)
set_option maxRecDepth 20000 in
theorem k_X6_ask_X5_trueEnd_140 : GoodIn wsX6_ask (wsV RX6 140 RX5 yX5_trueEnd wsX5_trueEnd) := goodIn_r _ [35, 36, 37, 10, 38, 39, 40, 41, 42, 10, 43, 44, 45, 46, 47, 48, 49, 62, 63, 64, 65, 66, 67, 68, 69, 70, 71, 72, 73, 74, 75] rfl (by decide +kernel)
set_option maxHeartbeats 4000000 in
set_option maxRecDepth 100000 in
theorem c_X6_ask (l : Launch) (D : va_G) (cI cZ cO : ClassId) (N : Nat) (a0 : Nat → Nat → Nat) (c0 : CU) (sd : Int64) (p1 : Int32) (p2 : Int32) (sz : Nat) (out : Int32 × CU) (h : f_X6_ask N c0 sd p1 p2 = some out) : Met l yX6_ask wsX6_ask rm_X6_ask (va_Pc [.ref ((a0 0) 0), .int p1, .int p2] (mk_Pe D vwCl (tyA cI cZ cO) (wX6 cI cO a0 c0 sd) sz)) (va_Qi (fun r u => (r, u) = out) (mk_Be D vwCl (wX6 cI cO a0 c0 sd) sz (fun q => (wX6 cI cO a0 q sd))) (va_A (wX6 cI cO a0 c0 sd) sz)) 0 0 (va_A (wX6 cI cO a0 c0 sd) sz) := by
  refine em_i (own := RX6) (cc := cX6_ask) (maxL := 3) (by decide) rfl rfl (Nat.le_of_ble_eq_true rfl) ?_
  intro p e s m args below meth c Q A H0 H locs ls hx hb hml hown hts hP hK hD hS hA hl hret
  have hl : lv_has ls 3 [(0, .ref ((a0 0) 0)), (1, .int p1), (2, .int p2)] := hl
  have hiX2 : ∀ w ∈ u_ws RX2 TX2 5, w ∈ wsX6_ask := mk_seg 76 5 rfl
  have hiX5 : ∀ w ∈ u_ws RX5 TX5 14, w ∈ wsX6_ask := mk_seg 62 14 rfl
  have hiX6 : ∀ w ∈ u_ws RX6 TX6 12, w ∈ wsX6_ask := mk_seg 50 12 rfl
  unfold f_X6_ask at h
  refine lv_aload_n hx hb dX6_ask_0 rfl (lv_at hl 0 rfl) ?_
  refine va_get (D := D) (ci := 6) (v := .ref ((a0 2) 0)) (C := RX6) (T := TX6) (N := 12) hx hb hts hiX6 hown hK hP 0 rfl rfl 3 (by decide) (hts (.fieldLink RX6 27 "ClockOnce" "town" "LClockOnce$Town;") (List.mem_of_getElem? (i := 1) rfl)) (fun _ h9 => h9) rfl dX6_ask_1 ?_
  refine lv_iload_n hx hb dX6_ask_4 rfl (lv_at hl 1 rfl) ?_
  obtain ⟨r_1, er_1, h⟩ := mk_bd h
  refine pc_v (As := [.int p1]) (rest := []) ⟨hx, hb, hml, hown, hts⟩ (c_X5_hasAsker l D cI cZ cO N (a0 2) (c0 2) p1 r_1 er_1) (cwV 1 hts k_X6_ask_X5_hasAsker_121 rfl rfl rfl (by decide +kernel) ⟨(Nat.le_of_ble_eq_true rfl), (Nat.le_of_ble_eq_true rfl)⟩) (va_recv hK hP (ci := 5) (q0 := 6) rfl rfl) (hP.sub (ws' := wX5 cI (a0 2) (c0 2)) [6, 7, 8, 9, 10, 11, 12, 13, 14, 15] rfl) hK rfl hl.1 rfl (Nat.le_of_ble_eq_true rfl) dX6_ask_5 ⟨Nat.zero_le _, Nat.zero_le _⟩ ?_
  refine lv_if_eq (tgt := 22) hx hb dX6_ask_8 (by decide) (fun q_2 => ?_) (fun q_2 => ?_)
  · have h := mk_ifp q_2 h
    refine lv_iconst (v := (-1 : Int32)) hx hb dX6_ask_22 (by decide) ?_
    exact hret _ _ _ _ _ _ h hP hD hS dX6_ask_23
  · have h := mk_ifn q_2 h
    refine lv_aload_n hx hb dX6_ask_11 rfl (lv_at hl 0 rfl) ?_
    refine va_get (D := D) (ci := 6) (v := .ref ((a0 2) 0)) (C := RX6) (T := TX6) (N := 12) hx hb hts hiX6 hown hK hP 0 rfl rfl 3 (by decide) (hts (.fieldLink RX6 27 "ClockOnce" "town" "LClockOnce$Town;") (List.mem_of_getElem? (i := 1) rfl)) (fun _ h9 => h9) rfl dX6_ask_12 ?_
    refine lv_iload_n hx hb dX6_ask_15 rfl (lv_at hl 2 rfl) ?_
    obtain ⟨r_3, er_3, h⟩ := mk_bd h
    refine pc_v (As := [.int p2]) (rest := []) ⟨hx, hb, hml, hown, hts⟩ (c_X5_hasThing l D cI cZ cO N (a0 2) (c0 2) p2 r_3 er_3) (cwV 1 hts k_X6_ask_X5_hasThing_95 rfl rfl rfl (by decide +kernel) ⟨(Nat.le_of_ble_eq_true rfl), (Nat.le_of_ble_eq_true rfl)⟩) (va_recv hK hP (ci := 5) (q0 := 6) rfl rfl) (hP.sub (ws' := wX5 cI (a0 2) (c0 2)) [6, 7, 8, 9, 10, 11, 12, 13, 14, 15] rfl) hK rfl hl.1 rfl (Nat.le_of_ble_eq_true rfl) dX6_ask_16 ⟨Nat.zero_le _, Nat.zero_le _⟩ ?_
    refine lv_if_ne (tgt := 24) hx hb dX6_ask_19 (by decide) (fun q_4 => ?_) (fun q_4 => ?_)
    · have h := mk_ifn q_4 h
      refine lv_iload_n hx hb dX6_ask_24 rfl (lv_at hl 2 rfl) ?_
      refine lv_aload_n hx hb dX6_ask_25 rfl (lv_at hl 0 rfl) ?_
      refine va_get (D := D) (ci := 6) (v := .ref ((a0 2) 0)) (C := RX6) (T := TX6) (N := 12) hx hb hts hiX6 hown hK hP 0 rfl rfl 3 (by decide) (hts (.fieldLink RX6 27 "ClockOnce" "town" "LClockOnce$Town;") (List.mem_of_getElem? (i := 1) rfl)) (fun _ h9 => h9) rfl dX6_ask_26 ?_
      refine va_get (D := D) (ci := 5) (v := .ref ((a0 2) 5)) (C := RX5) (T := TX5) (N := 14) hx hb hts hiX5 hown hK hP 6 rfl rfl 6 (by decide) (hts (.fieldLink RX6 124 "ClockOnce$Town" "first" "[I") (List.mem_of_getElem? (i := 2) rfl)) (fun _ h9 => h9) rfl dX6_ask_29 ?_
      refine lv_iload_n hx hb dX6_ask_32 rfl (lv_at hl 1 rfl) ?_
      obtain ⟨v_5, ev_5, hiv_5, h⟩ := mk_rdE h
      refine va_iald hx hb hK hP 11 0 rfl rfl hiv_5 dX6_ask_33 ?_
      refine mk_topi ev_5 ?_
      refine lv_icmp_lt (tgt := 50) hx hb dX6_ask_34 (by decide) (fun q_6 => ?_) (fun q_6 => ?_)
      · have h := mk_ifp q_6 h
        refine lv_bipush (v := (-2 : Int32)) hx hb dX6_ask_50 (by decide) ?_
        exact hret _ _ _ _ _ _ h hP hD hS dX6_ask_52
      · have h := mk_ifn q_6 h
        refine lv_iload_n hx hb dX6_ask_37 rfl (lv_at hl 2 rfl) ?_
        refine lv_aload_n hx hb dX6_ask_38 rfl (lv_at hl 0 rfl) ?_
        refine va_get (D := D) (ci := 6) (v := .ref ((a0 2) 0)) (C := RX6) (T := TX6) (N := 12) hx hb hts hiX6 hown hK hP 0 rfl rfl 3 (by decide) (hts (.fieldLink RX6 27 "ClockOnce" "town" "LClockOnce$Town;") (List.mem_of_getElem? (i := 1) rfl)) (fun _ h9 => h9) rfl dX6_ask_39 ?_
        refine va_get (D := D) (ci := 5) (v := .ref ((a0 2) 6)) (C := RX5) (T := TX5) (N := 14) hx hb hts hiX5 hown hK hP 6 rfl rfl 7 (by decide) (hts (.fieldLink RX6 127 "ClockOnce$Town" "last" "[I") (List.mem_of_getElem? (i := 3) rfl)) (fun _ h9 => h9) rfl dX6_ask_42 ?_
        refine lv_iload_n hx hb dX6_ask_45 rfl (lv_at hl 1 rfl) ?_
        obtain ⟨v_7, ev_7, hiv_7, h⟩ := mk_rdE h
        refine va_iald hx hb hK hP 12 0 rfl rfl hiv_7 dX6_ask_46 ?_
        refine mk_topi ev_7 ?_
        refine lv_icmp_le (tgt := 53) hx hb dX6_ask_47 (by decide) (fun q_8 => ?_) (fun q_8 => ?_)
        · have h := mk_ifp q_8 h
          refine lv_aload_n hx hb dX6_ask_53 rfl (lv_at hl 0 rfl) ?_
          refine va_get (D := D) (ci := 6) (v := .ref ((a0 4) 0)) (C := RX6) (T := TX6) (N := 12) hx hb hts hiX6 hown hK hP 0 rfl rfl 5 (by decide) (hts (.fieldLink RX6 37 "ClockOnce" "life" "LClockOnce$Life;") (List.mem_of_getElem? (i := 4) rfl)) (fun _ h9 => h9) rfl dX6_ask_54 ?_
          refine va_get (D := D) (ci := 2) (v := .ref ((a0 4) 1)) (C := RX2) (T := TX2) (N := 5) hx hb hts hiX2 hown hK hP 26 rfl rfl 2 (by decide) (hts (.fieldLink RX6 130 "ClockOnce$Life" "askedOf" "[I") (List.mem_of_getElem? (i := 5) rfl)) (fun _ h9 => h9) rfl dX6_ask_57 ?_
          refine lv_iload_n hx hb dX6_ask_60 rfl (lv_at hl 1 rfl) ?_
          obtain ⟨v_9, ev_9, hiv_9, h⟩ := mk_rdE h
          refine va_iald hx hb hK hP 27 0 rfl rfl hiv_9 dX6_ask_61 ?_
          refine mk_topi ev_9 ?_
          refine lv_bipush (v := (-9 : Int32)) hx hb dX6_ask_62 (by decide) ?_
          refine lv_icmp_eq (tgt := 70) hx hb dX6_ask_64 (by decide) (fun q_10 => ?_) (fun q_10 => ?_)
          · have h := mk_ifp q_10 h
            refine lv_aload_n hx hb dX6_ask_70 rfl (lv_at hl 0 rfl) ?_
            refine va_get (D := D) (ci := 6) (v := .ref ((a0 4) 0)) (C := RX6) (T := TX6) (N := 12) hx hb hts hiX6 hown hK hP 0 rfl rfl 5 (by decide) (hts (.fieldLink RX6 37 "ClockOnce" "life" "LClockOnce$Life;") (List.mem_of_getElem? (i := 4) rfl)) (fun _ h9 => h9) rfl dX6_ask_71 ?_
            refine va_get (D := D) (ci := 2) (v := .ref ((a0 4) 1)) (C := RX2) (T := TX2) (N := 5) hx hb hts hiX2 hown hK hP 26 rfl rfl 2 (by decide) (hts (.fieldLink RX6 130 "ClockOnce$Life" "askedOf" "[I") (List.mem_of_getElem? (i := 5) rfl)) (fun _ h9 => h9) rfl dX6_ask_74 ?_
            refine lv_iload_n hx hb dX6_ask_77 rfl (lv_at hl 1 rfl) ?_
            refine lv_iload_n hx hb dX6_ask_78 rfl (lv_at hl 2 rfl) ?_
            obtain ⟨hx_11, h⟩ := mk_ixE h
            obtain ⟨w_12, ew_12, h⟩ := mk_nmE h
            refine va_iast hx hb hK hP hD hS 27 0 rfl rfl hx_11 dX6_ask_79 (fun H locs hP hD hS => ?_)
            have hP : va_P D vwCl (wX6 cI cO a0 w_12 sd) H := by rw [ew_12]; exact hP
            have hD : va_D A (wX6 cI cO a0 w_12 sd) := by rw [ew_12]; exact hD
            refine lv_aload_n hx hb dX6_ask_80 rfl (lv_at hl 0 rfl) ?_
            refine va_get (D := D) (ci := 6) (v := .ref ((a0 5) 0)) (C := RX6) (T := TX6) (N := 12) hx hb hts hiX6 hown hK hP 0 rfl rfl 6 (by decide) (hts (.fieldLink RX6 44 "ClockOnce" "acts" "LClockOnce$Acts;") (List.mem_of_getElem? (i := 6) rfl)) (fun _ h9 => h9) rfl dX6_ask_81 ?_
            refine lv_iconst (v := (0 : Int32)) hx hb dX6_ask_84 (by decide) ?_
            refine lv_iload_n hx hb dX6_ask_85 rfl (lv_at hl 1 rfl) ?_
            refine lv_iconst (v := (0 : Int32)) hx hb dX6_ask_86 (by decide) ?_
            obtain ⟨r_13, er_13, h⟩ := mk_bd h
            refine ec_vv (As := [.int (0 : Int32), .int p1, .int (0 : Int32)]) (rest := []) (w' := (wX6 cI cO a0 (mk_set3 w_12 5 r_13) sd)) ⟨hx, hb, hml, hown, hts⟩ (c_X0_add l D cI cZ cO N (a0 5) (w_12 5) (0 : Int32) p1 (0 : Int32) H.size r_13 er_13) (cwV 3 hts k_X6_ask_X0_add_136 rfl rfl rfl (by decide +kernel) ⟨(Nat.le_of_ble_eq_true rfl), (Nat.le_of_ble_eq_true rfl)⟩) (va_recv hK hP (ci := 0) (q0 := 29) rfl rfl) hK hP hD hS hA [29, 30, 31, 32] [0, 1, 2, 3, 4, 5, 6, 7, 8, 9, 10, 11, 12, 13, 14, 15, 16, 17, 18, 19, 20, 21, 22, 23, 24, 25, 26, 27, 28, 33, 34, 35, 36, 37, 38, 39, 40, 41, 42, 43] [0, 1, 2, 3, 4, 5, 6, 7, 8, 9, 10, 11, 12, 13, 14, 15, 16, 17, 18, 19, 20, 21, 22, 23, 24, 25, 26, 27, 28, 40, 41, 42, 43, 29, 30, 31, 32, 33, 34, 35, 36, 37, 38, 39] (hP.sub (ws' := wX0 cI (a0 5) (w_12 5)) [29, 30, 31, 32] rfl) (hD.sub (ws' := wX0 cI (a0 5) (w_12 5)) [29, 30, 31, 32] (by decide) rfl) rfl rfl (by decide) (by decide) rfl (by decide) rfl hl.1 rfl (Nat.le_of_ble_eq_true rfl) dX6_ask_87 ⟨Nat.zero_le _, Nat.zero_le _⟩ (fun H locs hP hD hS => ?_)
            obtain ⟨w_14, ew_14, h⟩ := mk_nmE h
            rw [← ew_14] at hP hD
            refine lv_aload_n hx hb dX6_ask_90 rfl (lv_at hl 0 rfl) ?_
            refine va_get (D := D) (ci := 6) (v := .ref ((a0 2) 0)) (C := RX6) (T := TX6) (N := 12) hx hb hts hiX6 hown hK hP 0 rfl rfl 3 (by decide) (hts (.fieldLink RX6 27 "ClockOnce" "town" "LClockOnce$Town;") (List.mem_of_getElem? (i := 1) rfl)) (fun _ h9 => h9) rfl dX6_ask_91 ?_
            refine lv_iload_n hx hb dX6_ask_94 rfl (lv_at hl 2 rfl) ?_
            obtain ⟨r_15, er_15, h⟩ := mk_bd h
            refine pc_v (As := [.int p2]) (rest := []) ⟨hx, hb, hml, hown, hts⟩ (c_X5_trueEnd l D cI cZ cO N (a0 2) (w_14 2) p2 r_15 er_15) (cwV 1 hts k_X6_ask_X5_trueEnd_140 rfl rfl rfl (by decide +kernel) ⟨(Nat.le_of_ble_eq_true rfl), (Nat.le_of_ble_eq_true rfl)⟩) (va_recv hK hP (ci := 5) (q0 := 6) rfl rfl) (hP.sub (ws' := wX5 cI (a0 2) (w_14 2)) [6, 7, 8, 9, 10, 11, 12, 13, 14, 15] rfl) hK rfl hl.1 rfl (Nat.le_of_ble_eq_true rfl) dX6_ask_95 ⟨Nat.zero_le _, Nat.zero_le _⟩ ?_
            exact hret _ _ _ _ _ _ h hP hD hS dX6_ask_98
          · have h := mk_ifn q_10 h
            refine lv_bipush (v := (-3 : Int32)) hx hb dX6_ask_67 (by decide) ?_
            exact hret _ _ _ _ _ _ h hP hD hS dX6_ask_69
        · have h := mk_ifn q_8 h
          refine lv_bipush (v := (-2 : Int32)) hx hb dX6_ask_50 (by decide) ?_
          exact hret _ _ _ _ _ _ h hP hD hS dX6_ask_52
    · have h := mk_ifp q_4 h
      refine lv_iconst (v := (-1 : Int32)) hx hb dX6_ask_22 (by decide) ?_
      exact hret _ _ _ _ _ _ h hP hD hS dX6_ask_23

abbrev rm_X6_asker : Room := { frames := 2, cells := 0, slots := 0, locals := 42 }
set_option maxRecDepth 20000 in
theorem k_X6_asker_X5_hasAsker_121 : GoodIn wsX6_asker (wsV RX6 121 RX5 yX5_hasAsker wsX5_hasAsker) := goodIn_r _ [6, 7, 8, 9, 10, 11, 34, 35, 36, 37, 38, 39, 40, 41, 42, 43, 44, 45, 46, 47] rfl (by decide +kernel)
set_option maxRecDepth 20000 in
theorem k_X6_asker_X2_heardBy_133 : GoodIn wsX6_asker (wsV RX6 133 RX2 yX2_heardBy wsX2_heardBy) := goodIn_r _ [12, 13, 14, 15, 16, 17, 18, 19, 15, 20, 21, 48, 49, 50, 51, 52] rfl (by decide +kernel)
set_option maxHeartbeats 4000000 in
set_option maxRecDepth 100000 in
theorem c_X6_asker (l : Launch) (D : va_G) (cI cZ cO : ClassId) (N : Nat) (a0 : Nat → Nat → Nat) (c0 : CU) (sd : Int64) (p1 : Int32) (p2 : Int32) (out : Int32) (h : f_X6_asker N c0 sd p1 p2 = some out) : Met l yX6_asker wsX6_asker rm_X6_asker (va_Pc [.ref ((a0 0) 0), .int p1, .int p2] (fun U => va_P D vwCl (wX6 cI cO a0 c0 sd) U.heap ∧ va_K D vwCl (tyA cI cZ cO) U)) (vp_Si (fun r => r = out)) 0 0 (fun _ => False) := by
  refine pm_i (own := RX6) (cc := cX6_asker) (maxL := 3) (by decide) rfl rfl (Nat.le_of_ble_eq_true rfl) ?_
  intro p e s m args below meth c Q H ls hx hb hml hown hts hP hK hl hret
  have hl : lv_has ls 3 [(0, .ref ((a0 0) 0)), (1, .int p1), (2, .int p2)] := hl
  have hiX2 : ∀ w ∈ u_ws RX2 TX2 5, w ∈ wsX6_asker := mk_seg 48 5 rfl
  have hiX5 : ∀ w ∈ u_ws RX5 TX5 14, w ∈ wsX6_asker := mk_seg 34 14 rfl
  have hiX6 : ∀ w ∈ u_ws RX6 TX6 12, w ∈ wsX6_asker := mk_seg 22 12 rfl
  unfold f_X6_asker at h
  refine lv_aload_n hx hb dX6_asker_0 rfl (lv_at hl 0 rfl) ?_
  refine va_get (D := D) (ci := 6) (v := .ref ((a0 2) 0)) (C := RX6) (T := TX6) (N := 12) hx hb hts hiX6 hown hK hP 0 rfl rfl 3 (by decide) (hts (.fieldLink RX6 27 "ClockOnce" "town" "LClockOnce$Town;") (List.mem_of_getElem? (i := 1) rfl)) (fun _ h9 => h9) rfl dX6_asker_1 ?_
  refine lv_iload_n hx hb dX6_asker_4 rfl (lv_at hl 1 rfl) ?_
  obtain ⟨r_1, er_1, h⟩ := mk_bd h
  refine pc_v (As := [.int p1]) (rest := []) ⟨hx, hb, hml, hown, hts⟩ (c_X5_hasAsker l D cI cZ cO N (a0 2) (c0 2) p1 r_1 er_1) (cwV 1 hts k_X6_asker_X5_hasAsker_121 rfl rfl rfl (by decide +kernel) ⟨(Nat.le_of_ble_eq_true rfl), (Nat.le_of_ble_eq_true rfl)⟩) (va_recv hK hP (ci := 5) (q0 := 6) rfl rfl) (hP.sub (ws' := wX5 cI (a0 2) (c0 2)) [6, 7, 8, 9, 10, 11, 12, 13, 14, 15] rfl) hK rfl hl.1 rfl (Nat.le_of_ble_eq_true rfl) dX6_asker_5 ⟨Nat.zero_le _, Nat.zero_le _⟩ ?_
  refine lv_if_ne (tgt := 13) hx hb dX6_asker_8 (by decide) (fun q_2 => ?_) (fun q_2 => ?_)
  · have h := mk_ifn q_2 h
    refine lv_iload_n hx hb dX6_asker_13 rfl (lv_at hl 2 rfl) ?_
    by_cases q_3 : p2 = (0 : Int32)
    · have h := mk_ifp q_3 h
      refine lv_tableIn (off := 30) (tgt := 44) hx hb dX6_asker_14 (by rw [q_3]; decide) (by rw [q_3]; decide) (by rw [q_3]; rfl) (by decide) ?_
      refine lv_aload_n hx hb dX6_asker_44 rfl (lv_at hl 0 rfl) ?_
      refine va_get (D := D) (ci := 6) (v := .ref ((a0 2) 0)) (C := RX6) (T := TX6) (N := 12) hx hb hts hiX6 hown hK hP 0 rfl rfl 3 (by decide) (hts (.fieldLink RX6 27 "ClockOnce" "town" "LClockOnce$Town;") (List.mem_of_getElem? (i := 1) rfl)) (fun _ h9 => h9) rfl dX6_asker_45 ?_
      refine va_get (D := D) (ci := 5) (v := .ref ((a0 2) 5)) (C := RX5) (T := TX5) (N := 14) hx hb hts hiX5 hown hK hP 6 rfl rfl 6 (by decide) (hts (.fieldLink RX6 124 "ClockOnce$Town" "first" "[I") (List.mem_of_getElem? (i := 2) rfl)) (fun _ h9 => h9) rfl dX6_asker_48 ?_
      refine lv_iload_n hx hb dX6_asker_51 rfl (lv_at hl 1 rfl) ?_
      obtain ⟨v_4, ev_4, hiv_4, h⟩ := mk_rdE h
      refine va_iald hx hb hK hP 11 0 rfl rfl hiv_4 dX6_asker_52 ?_
      refine mk_topi ev_4 ?_
      exact hret _ _ _ h dX6_asker_53
    have h := mk_ifn q_3 h
    by_cases q_5 : p2 = (1 : Int32)
    · have h := mk_ifp q_5 h
      refine lv_tableIn (off := 40) (tgt := 54) hx hb dX6_asker_14 (by rw [q_5]; decide) (by rw [q_5]; decide) (by rw [q_5]; rfl) (by decide) ?_
      refine lv_aload_n hx hb dX6_asker_54 rfl (lv_at hl 0 rfl) ?_
      refine va_get (D := D) (ci := 6) (v := .ref ((a0 2) 0)) (C := RX6) (T := TX6) (N := 12) hx hb hts hiX6 hown hK hP 0 rfl rfl 3 (by decide) (hts (.fieldLink RX6 27 "ClockOnce" "town" "LClockOnce$Town;") (List.mem_of_getElem? (i := 1) rfl)) (fun _ h9 => h9) rfl dX6_asker_55 ?_
      refine va_get (D := D) (ci := 5) (v := .ref ((a0 2) 6)) (C := RX5) (T := TX5) (N := 14) hx hb hts hiX5 hown hK hP 6 rfl rfl 7 (by decide) (hts (.fieldLink RX6 127 "ClockOnce$Town" "last" "[I") (List.mem_of_getElem? (i := 3) rfl)) (fun _ h9 => h9) rfl dX6_asker_58 ?_
      refine lv_iload_n hx hb dX6_asker_61 rfl (lv_at hl 1 rfl) ?_
      obtain ⟨v_6, ev_6, hiv_6, h⟩ := mk_rdE h
      refine va_iald hx hb hK hP 12 0 rfl rfl hiv_6 dX6_asker_62 ?_
      refine mk_topi ev_6 ?_
      exact hret _ _ _ h dX6_asker_63
    have h := mk_ifn q_5 h
    by_cases q_7 : p2 = (2 : Int32)
    · have h := mk_ifp q_7 h
      refine lv_tableIn (off := 50) (tgt := 64) hx hb dX6_asker_14 (by rw [q_7]; decide) (by rw [q_7]; decide) (by rw [q_7]; rfl) (by decide) ?_
      refine lv_aload_n hx hb dX6_asker_64 rfl (lv_at hl 0 rfl) ?_
      refine va_get (D := D) (ci := 6) (v := .ref ((a0 4) 0)) (C := RX6) (T := TX6) (N := 12) hx hb hts hiX6 hown hK hP 0 rfl rfl 5 (by decide) (hts (.fieldLink RX6 37 "ClockOnce" "life" "LClockOnce$Life;") (List.mem_of_getElem? (i := 4) rfl)) (fun _ h9 => h9) rfl dX6_asker_65 ?_
      refine va_get (D := D) (ci := 2) (v := .ref ((a0 4) 1)) (C := RX2) (T := TX2) (N := 5) hx hb hts hiX2 hown hK hP 26 rfl rfl 2 (by decide) (hts (.fieldLink RX6 130 "ClockOnce$Life" "askedOf" "[I") (List.mem_of_getElem? (i := 5) rfl)) (fun _ h9 => h9) rfl dX6_asker_68 ?_
      refine lv_iload_n hx hb dX6_asker_71 rfl (lv_at hl 1 rfl) ?_
      obtain ⟨v_8, ev_8, hiv_8, h⟩ := mk_rdE h
      refine va_iald hx hb hK hP 27 0 rfl rfl hiv_8 dX6_asker_72 ?_
      refine mk_topi ev_8 ?_
      exact hret _ _ _ h dX6_asker_73
    have h := mk_ifn q_7 h
    by_cases q_9 : p2 = (3 : Int32)
    · have h := mk_ifp q_9 h
      refine lv_tableIn (off := 60) (tgt := 74) hx hb dX6_asker_14 (by rw [q_9]; decide) (by rw [q_9]; decide) (by rw [q_9]; rfl) (by decide) ?_
      refine lv_aload_n hx hb dX6_asker_74 rfl (lv_at hl 0 rfl) ?_
      refine va_get (D := D) (ci := 6) (v := .ref ((a0 4) 0)) (C := RX6) (T := TX6) (N := 12) hx hb hts hiX6 hown hK hP 0 rfl rfl 5 (by decide) (hts (.fieldLink RX6 37 "ClockOnce" "life" "LClockOnce$Life;") (List.mem_of_getElem? (i := 4) rfl)) (fun _ h9 => h9) rfl dX6_asker_75 ?_
      refine lv_iload_n hx hb dX6_asker_78 rfl (lv_at hl 1 rfl) ?_
      obtain ⟨r_10, er_10, h⟩ := mk_bd h
      refine pc_v (As := [.int p1]) (rest := []) ⟨hx, hb, hml, hown, hts⟩ (c_X2_heardBy l D cI cZ cO N (a0 4) (c0 4) p1 r_10 er_10) (cwV 1 hts k_X6_asker_X2_heardBy_133 rfl rfl rfl (by decide +kernel) ⟨(Nat.le_of_ble_eq_true rfl), (Nat.le_of_ble_eq_true rfl)⟩) (va_recv hK hP (ci := 2) (q0 := 26) rfl rfl) (hP.sub (ws' := wX2 cI (a0 4) (c0 4)) [26, 27, 28] rfl) hK rfl hl.1 rfl (Nat.le_of_ble_eq_true rfl) dX6_asker_79 ⟨Nat.zero_le _, Nat.zero_le _⟩ ?_
      exact hret _ _ _ h dX6_asker_82
    have h := mk_ifn q_9 h
    refine lv_tableOut (tgt := 83) hx hb dX6_asker_14 (by have zq_3 := mk_ne (z := 0) (by decide) q_3; have zq_5 := mk_ne (z := 1) (by decide) q_5; have zq_7 := mk_ne (z := 2) (by decide) q_7; have zq_9 := mk_ne (z := 3) (by decide) q_9; omega) (by decide) ?_
    refine lv_bipush (v := (-2 : Int32)) hx hb dX6_asker_83 (by decide) ?_
    exact hret _ _ _ h dX6_asker_85
  · have h := mk_ifp q_2 h
    refine lv_iconst (v := (-1 : Int32)) hx hb dX6_asker_11 (by decide) ?_
    exact hret _ _ _ h dX6_asker_12

abbrev rm_X6_partsSeen : Room := { frames := 5, cells := 0, slots := 0, locals := 113 }
set_option maxRecDepth 20000 in
theorem k_X6_partsSeen_X5_worldsSeenOn_160 : GoodIn wsX6_partsSeen (wsV RX6 160 RX5 yX5_worldsSeenOn wsX5_worldsSeenOn) := goodIn_r _ [4, 5, 6, 7, 8, 9, 10, 11, 12, 13, 14, 7, 15, 16, 17, 18, 19, 20, 21, 22, 23, 24, 25, 26, 27, 28, 29, 30, 31, 32, 33, 34, 35, 36, 37, 60, 61, 62, 63, 64, 65, 66, 67, 68, 69, 70, 71, 72, 73] rfl (by decide +kernel)
set_option maxRecDepth 20000 in
theorem k_X6_partsSeen_X5_partsOf_163 : GoodIn wsX6_partsSeen (wsV RX6 163 RX5 yX5_partsOf wsX5_partsOf) := goodIn_r _ [38, 39, 40, 7, 41, 11, 42, 60, 61, 62, 63, 64, 65, 66, 67, 68, 69, 70, 71, 72, 73] rfl (by decide +kernel)
set_option maxHeartbeats 4000000 in
set_option maxRecDepth 100000 in
theorem c_X6_partsSeen (l : Launch) (D : va_G) (cI cZ cO : ClassId) (N : Nat) (a0 : Nat → Nat → Nat) (c0 : CU) (sd : Int64) (out : Int32) (h : f_X6_partsSeen N c0 sd = some out) : Met l yX6_partsSeen wsX6_partsSeen rm_X6_partsSeen (va_Pc [.ref ((a0 0) 0)] (fun U => va_P D vwCl (wX6 cI cO a0 c0 sd) U.heap ∧ va_K D vwCl (tyA cI cZ cO) U)) (vp_Si (fun r => r = out)) 0 0 (fun _ => False) := by
  refine pm_i (own := RX6) (cc := cX6_partsSeen) (maxL := 1) (by decide) rfl rfl (Nat.le_of_ble_eq_true rfl) ?_
  intro p e s m args below meth c Q H ls hx hb hml hown hts hP hK hl hret
  have hl : lv_has ls 1 [(0, .ref ((a0 0) 0))] := hl
  have hiX2 : ∀ w ∈ u_ws RX2 TX2 5, w ∈ wsX6_partsSeen := mk_seg 55 5 rfl
  have hiX6 : ∀ w ∈ u_ws RX6 TX6 12, w ∈ wsX6_partsSeen := mk_seg 43 12 rfl
  unfold f_X6_partsSeen at h
  refine lv_aload_n hx hb dX6_partsSeen_0 rfl (lv_at hl 0 rfl) ?_
  refine va_get (D := D) (ci := 6) (v := .ref ((a0 2) 0)) (C := RX6) (T := TX6) (N := 12) hx hb hts hiX6 hown hK hP 0 rfl rfl 3 (by decide) (hts (.fieldLink RX6 27 "ClockOnce" "town" "LClockOnce$Town;") (List.mem_of_getElem? (i := 1) rfl)) (fun _ h9 => h9) rfl dX6_partsSeen_1 ?_
  refine lv_aload_n hx hb dX6_partsSeen_4 rfl (lv_at hl 0 rfl) ?_
  refine va_get (D := D) (ci := 6) (v := .ref ((a0 2) 0)) (C := RX6) (T := TX6) (N := 12) hx hb hts hiX6 hown hK hP 0 rfl rfl 3 (by decide) (hts (.fieldLink RX6 27 "ClockOnce" "town" "LClockOnce$Town;") (List.mem_of_getElem? (i := 1) rfl)) (fun _ h9 => h9) rfl dX6_partsSeen_5 ?_
  refine lv_aload_n hx hb dX6_partsSeen_8 rfl (lv_at hl 0 rfl) ?_
  refine va_get (D := D) (ci := 6) (v := .ref ((a0 4) 0)) (C := RX6) (T := TX6) (N := 12) hx hb hts hiX6 hown hK hP 0 rfl rfl 5 (by decide) (hts (.fieldLink RX6 37 "ClockOnce" "life" "LClockOnce$Life;") (List.mem_of_getElem? (i := 2) rfl)) (fun _ h9 => h9) rfl dX6_partsSeen_9 ?_
  refine va_get (D := D) (ci := 2) (v := .int ((c0 4) 0 0)) (C := RX2) (T := TX2) (N := 5) hx hb hts hiX2 hown hK hP 26 rfl rfl 0 (by decide) (hts (.fieldLink RX6 143 "ClockOnce$Life" "day" "I") (List.mem_of_getElem? (i := 3) rfl)) (fun _ h9 => h9) rfl dX6_partsSeen_12 ?_
  obtain ⟨r_1, er_1, h⟩ := mk_bd h
  refine pc_v (As := [.int ((c0 4) 0 0)]) (rest := [.ref ((a0 2) 0)]) ⟨hx, hb, hml, hown, hts⟩ (c_X5_worldsSeenOn l D cI cZ cO N (a0 2) (c0 2) ((c0 4) 0 0) r_1 er_1) (cwV 1 hts k_X6_partsSeen_X5_worldsSeenOn_160 rfl rfl rfl (by decide +kernel) ⟨(Nat.le_of_ble_eq_true rfl), (Nat.le_of_ble_eq_true rfl)⟩) (va_recv hK hP (ci := 5) (q0 := 6) rfl rfl) (hP.sub (ws' := wX5 cI (a0 2) (c0 2)) [6, 7, 8, 9, 10, 11, 12, 13, 14, 15] rfl) hK rfl hl.1 rfl (Nat.le_of_ble_eq_true rfl) dX6_partsSeen_15 ⟨Nat.zero_le _, Nat.zero_le _⟩ ?_
  obtain ⟨r_2, er_2, h⟩ := mk_bd h
  refine pc_v (As := [.int r_1]) (rest := []) ⟨hx, hb, hml, hown, hts⟩ (c_X5_partsOf l D cI cZ cO N (a0 2) (c0 2) r_1 r_2 er_2) (cwV 1 hts k_X6_partsSeen_X5_partsOf_163 rfl rfl rfl (by decide +kernel) ⟨(Nat.le_of_ble_eq_true rfl), (Nat.le_of_ble_eq_true rfl)⟩) (va_recv hK hP (ci := 5) (q0 := 6) rfl rfl) (hP.sub (ws' := wX5 cI (a0 2) (c0 2)) [6, 7, 8, 9, 10, 11, 12, 13, 14, 15] rfl) hK rfl hl.1 rfl (Nat.le_of_ble_eq_true rfl) dX6_partsSeen_18 ⟨Nat.zero_le _, Nat.zero_le _⟩ ?_
  exact hret _ _ _ h dX6_partsSeen_21

abbrev rm_X6_by : Room := { frames := 6, cells := 0, slots := 0, locals := 156 }
set_option maxRecDepth 20000 in
theorem k_X6_by_X5_hasAsker_121 : GoodIn wsX6_by (wsV RX6 121 RX5 yX5_hasAsker wsX5_hasAsker) := goodIn_r _ [4, 5, 6, 7, 8, 9, 149, 150, 151, 152, 153, 154, 155, 156, 157, 158, 159, 160, 161, 162] rfl (by decide +kernel)
set_option maxRecDepth 20000 in
theorem k_X6_by_X6_partsSeen_185 : GoodIn wsX6_by (wsV RX6 185 RX6 yX6_partsSeen wsX6_partsSeen) := goodIn_r _ [10, 11, 12, 13, 14, 1, 3, 15, 16, 17, 18, 7, 19, 20, 21, 22, 23, 24, 25, 26, 27, 28, 29, 30, 31, 32, 33, 34, 35, 36, 37, 38, 39, 40, 41, 42, 43, 44, 45, 46, 47, 48, 49, 50, 51, 52, 53, 137, 138, 139, 140, 141, 142, 143, 144, 145, 146, 147, 148, 163, 164, 165, 166, 167, 149, 150, 151, 152, 153, 154, 155, 156, 157, 158, 159, 160, 161, 162] rfl (by decide +kernel)
set_option maxRecDepth 20000 in
theorem k_X6_by_X1_findWorths_188 : GoodIn wsX6_by (wsV RX6 188 RX1 yX1_findWorths wsX1_findWorths) := goodIn_r _ [54, 55, 56, 57, 58, 59, 60, 61, 62, 17, 18, 7, 19, 20, 21, 22, 23, 24, 25, 26, 27, 28, 29, 30, 31, 32, 33, 34, 35, 36, 37, 38, 39, 40, 41, 42, 43, 44, 45, 46, 47, 48, 63, 64, 65, 57, 66, 67, 68, 69, 70, 71, 72, 73, 74, 75, 76, 77, 78, 79, 80, 81, 82, 53, 83, 50, 51, 52, 84, 85, 86, 87, 88, 89, 90, 91, 92, 93, 94, 95, 96, 163, 164, 165, 166, 167, 149, 150, 151, 152, 153, 154, 155, 156, 157, 158, 159, 160, 161, 162, 168] rfl (by decide +kernel)
set_option maxRecDepth 20000 in
theorem k_X6_by_X1_thingAskedBy_196 : GoodIn wsX6_by (wsV RX6 196 RX1 yX1_thingAskedBy wsX1_thingAskedBy) := goodIn_r _ [97, 98, 99, 57, 100, 101, 102, 103, 57, 104, 105, 106, 107, 70, 108, 109, 110, 111, 112, 113, 114, 115, 116, 117, 118, 119, 60, 120, 121, 122, 123, 124, 125, 61, 126, 127, 128, 129, 130, 131, 132, 133, 134, 135, 136, 149, 150, 151, 152, 153, 154, 155, 156, 157, 158, 159, 160, 161, 162, 163, 164, 165, 166, 167, 168] rfl (by decide +kernel)
set_option maxHeartbeats 4000000 in
set_option maxRecDepth 100000 in
theorem c_X6_by (l : Launch) (D : va_G) (cI cZ cO : ClassId) (N : Nat) (a0 : Nat → Nat → Nat) (c0 : CU) (sd : Int64) (p1 : Int32) (sz : Nat) (out : Int32 × CU) (h : f_X6_by N c0 sd p1 = some out) : Met l yX6_by wsX6_by rm_X6_by (va_Pc [.ref ((a0 0) 0), .int p1] (mk_Pe D vwCl (tyA cI cZ cO) (wX6 cI cO a0 c0 sd) sz)) (va_Qi (fun r u => (r, u) = out) (mk_Be D vwCl (wX6 cI cO a0 c0 sd) sz (fun q => (wX6 cI cO a0 q sd))) (va_A (wX6 cI cO a0 c0 sd) sz)) 0 0 (va_A (wX6 cI cO a0 c0 sd) sz) := by
  refine em_i (own := RX6) (cc := cX6_by) (maxL := 2) (by decide) rfl rfl (Nat.le_of_ble_eq_true rfl) ?_
  intro p e s m args below meth c Q A H0 H locs ls hx hb hml hown hts hP hK hD hS hA hl hret
  have hl : lv_has ls 2 [(0, .ref ((a0 0) 0)), (1, .int p1)] := hl
  have hiX6 : ∀ w ∈ u_ws RX6 TX6 12, w ∈ wsX6_by := mk_seg 137 12 rfl
  unfold f_X6_by at h
  refine lv_aload_n hx hb dX6_by_0 rfl (lv_at hl 0 rfl) ?_
  refine va_get (D := D) (ci := 6) (v := .ref ((a0 2) 0)) (C := RX6) (T := TX6) (N := 12) hx hb hts hiX6 hown hK hP 0 rfl rfl 3 (by decide) (hts (.fieldLink RX6 27 "ClockOnce" "town" "LClockOnce$Town;") (List.mem_of_getElem? (i := 1) rfl)) (fun _ h9 => h9) rfl dX6_by_1 ?_
  refine lv_iload_n hx hb dX6_by_4 rfl (lv_at hl 1 rfl) ?_
  obtain ⟨r_1, er_1, h⟩ := mk_bd h
  refine pc_v (As := [.int p1]) (rest := []) ⟨hx, hb, hml, hown, hts⟩ (c_X5_hasAsker l D cI cZ cO N (a0 2) (c0 2) p1 r_1 er_1) (cwV 1 hts k_X6_by_X5_hasAsker_121 rfl rfl rfl (by decide +kernel) ⟨(Nat.le_of_ble_eq_true rfl), (Nat.le_of_ble_eq_true rfl)⟩) (va_recv hK hP (ci := 5) (q0 := 6) rfl rfl) (hP.sub (ws' := wX5 cI (a0 2) (c0 2)) [6, 7, 8, 9, 10, 11, 12, 13, 14, 15] rfl) hK rfl hl.1 rfl (Nat.le_of_ble_eq_true rfl) dX6_by_5 ⟨Nat.zero_le _, Nat.zero_le _⟩ ?_
  refine lv_if_ne (tgt := 13) hx hb dX6_by_8 (by decide) (fun q_2 => ?_) (fun q_2 => ?_)
  · have h := mk_ifn q_2 h
    refine lv_aload_n hx hb dX6_by_13 rfl (lv_at hl 0 rfl) ?_
    obtain ⟨r_3, er_3, h⟩ := mk_bd h
    refine pc_v (As := []) (rest := []) ⟨hx, hb, hml, hown, hts⟩ (c_X6_partsSeen l D cI cZ cO N a0 c0 sd r_3 er_3) (cwV 0 hts k_X6_by_X6_partsSeen_185 rfl rfl rfl (by decide +kernel) ⟨(Nat.le_of_ble_eq_true rfl), (Nat.le_of_ble_eq_true rfl)⟩) (va_recv hK hP (ci := 6) (q0 := 0) rfl rfl) hP hK rfl hl.1 rfl (Nat.le_of_ble_eq_true rfl) dX6_by_14 ⟨Nat.zero_le _, Nat.zero_le _⟩ ?_
    refine lv_if_ne (tgt := 23) hx hb dX6_by_17 (by decide) (fun q_4 => ?_) (fun q_4 => ?_)
    · have h := mk_ifn q_4 h
      refine lv_aload_n hx hb dX6_by_23 rfl (lv_at hl 0 rfl) ?_
      refine va_get (D := D) (ci := 6) (v := .ref ((a0 9) 0)) (C := RX6) (T := TX6) (N := 12) hx hb hts hiX6 hown hK hP 0 rfl rfl 9 (by decide) (hts (.fieldLink RX6 62 "ClockOnce" "asking" "LClockOnce$Asking;") (List.mem_of_getElem? (i := 2) rfl)) (fun _ h9 => h9) rfl dX6_by_24 ?_
      refine lv_aload_n hx hb dX6_by_27 rfl (lv_at hl 0 rfl) ?_
      refine va_get (D := D) (ci := 6) (v := .ref ((a0 2) 0)) (C := RX6) (T := TX6) (N := 12) hx hb hts hiX6 hown hK hP 0 rfl rfl 3 (by decide) (hts (.fieldLink RX6 27 "ClockOnce" "town" "LClockOnce$Town;") (List.mem_of_getElem? (i := 1) rfl)) (fun _ h9 => h9) rfl dX6_by_28 ?_
      refine lv_aload_n hx hb dX6_by_31 rfl (lv_at hl 0 rfl) ?_
      refine va_get (D := D) (ci := 6) (v := .ref ((a0 4) 0)) (C := RX6) (T := TX6) (N := 12) hx hb hts hiX6 hown hK hP 0 rfl rfl 5 (by decide) (hts (.fieldLink RX6 37 "ClockOnce" "life" "LClockOnce$Life;") (List.mem_of_getElem? (i := 3) rfl)) (fun _ h9 => h9) rfl dX6_by_32 ?_
      obtain ⟨r_5, er_5, h⟩ := mk_bd h
      refine ec_vv (As := [.ref ((a0 2) 0), .ref ((a0 4) 0)]) (rest := []) (w' := (wX6 cI cO a0 (mk_set3 c0 9 r_5) sd)) ⟨hx, hb, hml, hown, hts⟩ (c_X1_findWorths l D cI cZ cO N (a0 9) (c0 9) (a0 2) (c0 2) (a0 4) (c0 4) H.size r_5 er_5) (cwV 2 hts k_X6_by_X1_findWorths_188 rfl rfl rfl (by decide +kernel) ⟨(Nat.le_of_ble_eq_true rfl), (Nat.le_of_ble_eq_true rfl)⟩) (va_recv hK hP (ci := 1) (q0 := 42) rfl rfl) hK hP hD hS hA [42, 43, 6, 7, 8, 9, 10, 11, 12, 13, 14, 15, 26, 27, 28] [0, 1, 2, 3, 4, 5, 16, 17, 18, 19, 20, 21, 22, 23, 24, 25, 29, 30, 31, 32, 33, 34, 35, 36, 37, 38, 39, 40, 41] [0, 1, 2, 3, 4, 5, 31, 32, 33, 34, 35, 36, 37, 38, 39, 40, 6, 7, 8, 9, 10, 11, 12, 13, 14, 15, 41, 42, 43, 16, 17, 18, 19, 20, 21, 22, 23, 24, 25, 26, 27, 28, 29, 30] (hP.sub (ws' := wX1 cI (a0 9) (c0 9) ++ wX5 cI (a0 2) (c0 2) ++ wX2 cI (a0 4) (c0 4)) [42, 43, 6, 7, 8, 9, 10, 11, 12, 13, 14, 15, 26, 27, 28] rfl) (hD.sub (ws' := wX1 cI (a0 9) (c0 9) ++ wX5 cI (a0 2) (c0 2) ++ wX2 cI (a0 4) (c0 4)) [42, 43, 6, 7, 8, 9, 10, 11, 12, 13, 14, 15, 26, 27, 28] (by decide) rfl) rfl rfl (by decide) (by decide) rfl (by decide) rfl hl.1 rfl (Nat.le_of_ble_eq_true rfl) dX6_by_35 ⟨Nat.zero_le _, Nat.zero_le _⟩ (fun H locs hP hD hS => ?_)
      obtain ⟨w_6, ew_6, h⟩ := mk_nmE h
      rw [← ew_6] at hP hD
      refine lv_aload_n hx hb dX6_by_38 rfl (lv_at hl 0 rfl) ?_
      refine va_get (D := D) (ci := 6) (v := .ref ((a0 9) 0)) (C := RX6) (T := TX6) (N := 12) hx hb hts hiX6 hown hK hP 0 rfl rfl 9 (by decide) (hts (.fieldLink RX6 62 "ClockOnce" "asking" "LClockOnce$Asking;") (List.mem_of_getElem? (i := 2) rfl)) (fun _ h9 => h9) rfl dX6_by_39 ?_
      refine lv_aload_n hx hb dX6_by_42 rfl (lv_at hl 0 rfl) ?_
      refine va_get (D := D) (ci := 6) (v := .ref ((a0 2) 0)) (C := RX6) (T := TX6) (N := 12) hx hb hts hiX6 hown hK hP 0 rfl rfl 3 (by decide) (hts (.fieldLink RX6 27 "ClockOnce" "town" "LClockOnce$Town;") (List.mem_of_getElem? (i := 1) rfl)) (fun _ h9 => h9) rfl dX6_by_43 ?_
      refine lv_aload_n hx hb dX6_by_46 rfl (lv_at hl 0 rfl) ?_
      refine va_get (D := D) (ci := 6) (v := .ref ((a0 4) 0)) (C := RX6) (T := TX6) (N := 12) hx hb hts hiX6 hown hK hP 0 rfl rfl 5 (by decide) (hts (.fieldLink RX6 37 "ClockOnce" "life" "LClockOnce$Life;") (List.mem_of_getElem? (i := 3) rfl)) (fun _ h9 => h9) rfl dX6_by_47 ?_
      refine lv_iload_n hx hb dX6_by_50 rfl (lv_at hl 1 rfl) ?_
      obtain ⟨r_7, er_7, h⟩ := mk_bd h
      refine pc_v (As := [.ref ((a0 2) 0), .ref ((a0 4) 0), .int p1]) (rest := []) ⟨hx, hb, hml, hown, hts⟩ (c_X1_thingAskedBy l D cI cZ cO N (a0 9) (w_6 9) (a0 2) (w_6 2) (a0 4) (w_6 4) p1 r_7 er_7) (cwV 3 hts k_X6_by_X1_thingAskedBy_196 rfl rfl rfl (by decide +kernel) ⟨(Nat.le_of_ble_eq_true rfl), (Nat.le_of_ble_eq_true rfl)⟩) (va_recv hK hP (ci := 1) (q0 := 42) rfl rfl) (hP.sub (ws' := wX1 cI (a0 9) (w_6 9) ++ wX5 cI (a0 2) (w_6 2) ++ wX2 cI (a0 4) (w_6 4)) [42, 43, 6, 7, 8, 9, 10, 11, 12, 13, 14, 15, 26, 27, 28] rfl) hK rfl hl.1 rfl (Nat.le_of_ble_eq_true rfl) dX6_by_51 ⟨Nat.zero_le _, Nat.zero_le _⟩ ?_
      exact hret _ _ _ _ _ _ h hP hD hS dX6_by_54
    · have h := mk_ifp q_4 h
      refine lv_bipush (v := (-3 : Int32)) hx hb dX6_by_20 (by decide) ?_
      exact hret _ _ _ _ _ _ h hP hD hS dX6_by_22
  · have h := mk_ifp q_2 h
    refine lv_iconst (v := (-1 : Int32)) hx hb dX6_by_11 (by decide) ?_
    exact hret _ _ _ _ _ _ h hP hD hS dX6_by_12

abbrev rm_X6_canSellWell : Room := { frames := 3, cells := 0, slots := 0, locals := 65 }
set_option maxRecDepth 20000 in
theorem k_X6_canSellWell_X5_hasThing_95 : GoodIn wsX6_canSellWell (wsV RX6 95 RX5 yX5_hasThing wsX5_hasThing) := goodIn_r _ [2, 3, 4, 5, 6, 7, 35, 36, 37, 38, 39, 40, 41, 42, 43, 44, 45, 46, 47, 48] rfl (by decide +kernel)
set_option maxRecDepth 20000 in
theorem k_X6_canSellWell_X5_trueEnd_140 : GoodIn wsX6_canSellWell (wsV RX6 140 RX5 yX5_trueEnd wsX5_trueEnd) := goodIn_r _ [8, 9, 10, 5, 11, 12, 13, 14, 15, 5, 16, 17, 18, 19, 20, 21, 22, 35, 36, 37, 38, 39, 40, 41, 42, 43, 44, 45, 46, 47, 48] rfl (by decide +kernel)
set_option maxHeartbeats 4000000 in
set_option maxRecDepth 100000 in
theorem c_X6_canSellWell (l : Launch) (D : va_G) (cI cZ cO : ClassId) (N : Nat) (a0 : Nat → Nat → Nat) (c0 : CU) (sd : Int64) (p1 : Int32) (p2 : Int32) (p3 : Int32) (out : Int32) (h : f_X6_canSellWell N c0 sd p1 p2 p3 = some out) : Met l yX6_canSellWell wsX6_canSellWell rm_X6_canSellWell (va_Pc [.ref ((a0 0) 0), .int p1, .int p2, .int p3] (fun U => va_P D vwCl (wX6 cI cO a0 c0 sd) U.heap ∧ va_K D vwCl (tyA cI cZ cO) U)) (vp_Si (fun r => r = out)) 0 0 (fun _ => False) := by
  refine pm_z (own := RX6) (cc := cX6_canSellWell) (maxL := 4) (by decide) rfl rfl (Nat.le_of_ble_eq_true rfl) ?_
  intro p e s m args below meth c Q H ls hx hb hml hown hts hP hK hl hret
  have hl : lv_has ls 4 [(0, .ref ((a0 0) 0)), (1, .int p1), (2, .int p2), (3, .int p3)] := hl
  have hiX6 : ∀ w ∈ u_ws RX6 TX6 12, w ∈ wsX6_canSellWell := mk_seg 23 12 rfl
  unfold f_X6_canSellWell at h
  refine lv_aload_n hx hb dX6_canSellWell_0 rfl (lv_at hl 0 rfl) ?_
  refine va_get (D := D) (ci := 6) (v := .ref ((a0 2) 0)) (C := RX6) (T := TX6) (N := 12) hx hb hts hiX6 hown hK hP 0 rfl rfl 3 (by decide) (hts (.fieldLink RX6 27 "ClockOnce" "town" "LClockOnce$Town;") (List.mem_of_getElem? (i := 1) rfl)) (fun _ h9 => h9) rfl dX6_canSellWell_1 ?_
  refine lv_iload_n hx hb dX6_canSellWell_4 rfl (lv_at hl 1 rfl) ?_
  obtain ⟨r_1, er_1, h⟩ := mk_bd h
  refine pc_v (As := [.int p1]) (rest := []) ⟨hx, hb, hml, hown, hts⟩ (c_X5_hasThing l D cI cZ cO N (a0 2) (c0 2) p1 r_1 er_1) (cwV 1 hts k_X6_canSellWell_X5_hasThing_95 rfl rfl rfl (by decide +kernel) ⟨(Nat.le_of_ble_eq_true rfl), (Nat.le_of_ble_eq_true rfl)⟩) (va_recv hK hP (ci := 5) (q0 := 6) rfl rfl) (hP.sub (ws' := wX5 cI (a0 2) (c0 2)) [6, 7, 8, 9, 10, 11, 12, 13, 14, 15] rfl) hK rfl hl.1 rfl (Nat.le_of_ble_eq_true rfl) dX6_canSellWell_5 ⟨Nat.zero_le _, Nat.zero_le _⟩ ?_
  refine lv_if_eq (tgt := 35) hx hb dX6_canSellWell_8 (by decide) (fun q_2 => ?_) (fun q_2 => ?_)
  · have h := mk_ifp q_2 h
    refine lv_iconst (v := (0 : Int32)) hx hb dX6_canSellWell_35 (by decide) ?_
    exact hret _ _ _ h (Or.inl rfl) dX6_canSellWell_36
  · have h := mk_ifn q_2 h
    refine lv_iload_n hx hb dX6_canSellWell_11 rfl (lv_at hl 2 rfl) ?_
    refine lv_iload_n hx hb dX6_canSellWell_12 rfl (lv_at hl 1 rfl) ?_
    refine lv_ishr hx hb dX6_canSellWell_13 ?_
    refine lv_iconst (v := (1 : Int32)) hx hb dX6_canSellWell_14 (by decide) ?_
    refine lv_iand hx hb dX6_canSellWell_15 ?_
    refine lv_if_ne (tgt := 35) hx hb dX6_canSellWell_16 (by decide) (fun q_3 => ?_) (fun q_3 => ?_)
    · have h := mk_ifn q_3 h
      refine lv_iconst (v := (0 : Int32)) hx hb dX6_canSellWell_35 (by decide) ?_
      exact hret _ _ _ h (Or.inl rfl) dX6_canSellWell_36
    · have h := mk_ifp q_3 h
      refine lv_aload_n hx hb dX6_canSellWell_19 rfl (lv_at hl 0 rfl) ?_
      refine va_get (D := D) (ci := 6) (v := .ref ((a0 2) 0)) (C := RX6) (T := TX6) (N := 12) hx hb hts hiX6 hown hK hP 0 rfl rfl 3 (by decide) (hts (.fieldLink RX6 27 "ClockOnce" "town" "LClockOnce$Town;") (List.mem_of_getElem? (i := 1) rfl)) (fun _ h9 => h9) rfl dX6_canSellWell_20 ?_
      refine lv_iload_n hx hb dX6_canSellWell_23 rfl (lv_at hl 1 rfl) ?_
      obtain ⟨r_4, er_4, h⟩ := mk_bd h
      refine pc_v (As := [.int p1]) (rest := []) ⟨hx, hb, hml, hown, hts⟩ (c_X5_trueEnd l D cI cZ cO N (a0 2) (c0 2) p1 r_4 er_4) (cwV 1 hts k_X6_canSellWell_X5_trueEnd_140 rfl rfl rfl (by decide +kernel) ⟨(Nat.le_of_ble_eq_true rfl), (Nat.le_of_ble_eq_true rfl)⟩) (va_recv hK hP (ci := 5) (q0 := 6) rfl rfl) (hP.sub (ws' := wX5 cI (a0 2) (c0 2)) [6, 7, 8, 9, 10, 11, 12, 13, 14, 15] rfl) hK rfl hl.1 rfl (Nat.le_of_ble_eq_true rfl) dX6_canSellWell_24 ⟨Nat.zero_le _, Nat.zero_le _⟩ ?_
      refine lv_iload_n hx hb dX6_canSellWell_27 rfl (lv_at hl 3 rfl) ?_
      refine lv_icmp_le (tgt := 35) hx hb dX6_canSellWell_28 (by decide) (fun q_5 => ?_) (fun q_5 => ?_)
      · have h := mk_ifp q_5 h
        refine lv_iconst (v := (0 : Int32)) hx hb dX6_canSellWell_35 (by decide) ?_
        exact hret _ _ _ h (Or.inl rfl) dX6_canSellWell_36
      · have h := mk_ifn q_5 h
        refine lv_iconst (v := (1 : Int32)) hx hb dX6_canSellWell_31 (by decide) ?_
        refine lv_goto (tgt := 36) hx hb dX6_canSellWell_32 (by decide) ?_
        exact hret _ _ _ h (Or.inr rfl) dX6_canSellWell_36

abbrev rm_X6_count : Room := { frames := 4, cells := 0, slots := 0, locals := 88 }
set_option maxRecDepth 20000 in
theorem k_X6_count_X2_soldThings_232 : GoodIn wsX6_count (wsV RX6 232 RX2 yX2_soldThings wsX2_soldThings) := goodIn_r _ [13, 14, 15, 16, 17, 18, 19, 62, 63, 64, 65, 66, 67, 68, 69, 70, 71, 72, 73, 74, 75, 76, 77, 78, 79, 80] rfl (by decide +kernel)
set_option maxRecDepth 20000 in
theorem k_X6_count_X5_thingsEndedOn_266 : GoodIn wsX6_count (wsV RX6 266 RX5 yX5_thingsEndedOn wsX5_thingsEndedOn) := goodIn_r _ [20, 21, 22, 23, 24, 25, 26, 27, 28, 23, 29, 30, 31, 32, 33, 34, 35, 36, 37, 38, 39, 40, 62, 63, 64, 65, 66, 67, 68, 69, 70, 71, 72, 73, 74, 75] rfl (by decide +kernel)
set_option maxRecDepth 20000 in
theorem k_X6_count_X2_askedThings_269 : GoodIn wsX6_count (wsV RX6 269 RX2 yX2_askedThings wsX2_askedThings) := goodIn_r _ [41, 42, 43, 16, 44, 45, 46, 47, 16, 48, 49, 76, 77, 78, 79, 80] rfl (by decide +kernel)
set_option maxHeartbeats 4000000 in
set_option maxRecDepth 100000 in
theorem c_X6_count (l : Launch) (D : va_G) (cI cZ cO : ClassId) (N : Nat) (a0 : Nat → Nat → Nat) (c0 : CU) (sd : Int64) (p1 : Int32) (out : Int32) (h : f_X6_count N c0 sd p1 = some out) : Met l yX6_count wsX6_count rm_X6_count (va_Pc [.ref ((a0 0) 0), .int p1] (fun U => va_P D vwCl (wX6 cI cO a0 c0 sd) U.heap ∧ va_K D vwCl (tyA cI cZ cO) U)) (vp_Si (fun r => r = out)) 0 0 (fun _ => False) := by
  refine pm_i (own := RX6) (cc := cX6_count) (maxL := 2) (by decide) rfl rfl (Nat.le_of_ble_eq_true rfl) ?_
  intro p e s m args below meth c Q H ls hx hb hml hown hts hP hK hl hret
  have hl : lv_has ls 2 [(0, .ref ((a0 0) 0)), (1, .int p1)] := hl
  have hiX0 : ∀ w ∈ u_ws RX0 TX0 4, w ∈ wsX6_count := mk_seg 81 4 rfl
  have hiX2 : ∀ w ∈ u_ws RX2 TX2 5, w ∈ wsX6_count := mk_seg 76 5 rfl
  have hiX4 : ∀ w ∈ u_ws RX4 TX4 3, w ∈ wsX6_count := mk_seg 85 3 rfl
  have hiX5 : ∀ w ∈ u_ws RX5 TX5 14, w ∈ wsX6_count := mk_seg 62 14 rfl
  have hiX6 : ∀ w ∈ u_ws RX6 TX6 12, w ∈ wsX6_count := mk_seg 50 12 rfl
  unfold f_X6_count at h
  refine lv_iload_n hx hb dX6_count_0 rfl (lv_at hl 1 rfl) ?_
  by_cases q_1 : p1 = (0 : Int32)
  · have h := mk_ifp q_1 h
    refine lv_tableIn (off := 59) (tgt := 60) hx hb dX6_count_1 (by rw [q_1]; decide) (by rw [q_1]; decide) (by rw [q_1]; rfl) (by decide) ?_
    refine lv_aload_n hx hb dX6_count_60 rfl (lv_at hl 0 rfl) ?_
    refine va_get (D := D) (ci := 6) (v := .int ((c0 0) 0 0)) (C := RX6) (T := TX6) (N := 12) hx hb hts hiX6 hown hK hP 0 rfl rfl 1 (by decide) (hts (.fieldLink RX6 13 "ClockOnce" "length" "I") (List.mem_of_getElem? (i := 1) rfl)) (fun _ h9 => h9) rfl dX6_count_61 ?_
    exact hret _ _ _ h dX6_count_64
  have h := mk_ifn q_1 h
  by_cases q_2 : p1 = (1 : Int32)
  · have h := mk_ifp q_2 h
    refine lv_tableIn (off := 64) (tgt := 65) hx hb dX6_count_1 (by rw [q_2]; decide) (by rw [q_2]; decide) (by rw [q_2]; rfl) (by decide) ?_
    refine lv_aload_n hx hb dX6_count_65 rfl (lv_at hl 0 rfl) ?_
    refine va_get (D := D) (ci := 6) (v := .ref ((a0 2) 0)) (C := RX6) (T := TX6) (N := 12) hx hb hts hiX6 hown hK hP 0 rfl rfl 3 (by decide) (hts (.fieldLink RX6 27 "ClockOnce" "town" "LClockOnce$Town;") (List.mem_of_getElem? (i := 2) rfl)) (fun _ h9 => h9) rfl dX6_count_66 ?_
    refine va_get (D := D) (ci := 5) (v := .int ((c0 2) 0 0)) (C := RX5) (T := TX5) (N := 14) hx hb hts hiX5 hown hK hP 6 rfl rfl 4 (by decide) (hts (.fieldLink RX6 89 "ClockOnce$Town" "things" "I") (List.mem_of_getElem? (i := 3) rfl)) (fun _ h9 => h9) rfl dX6_count_69 ?_
    exact hret _ _ _ h dX6_count_72
  have h := mk_ifn q_2 h
  by_cases q_3 : p1 = (2 : Int32)
  · have h := mk_ifp q_3 h
    refine lv_tableIn (off := 72) (tgt := 73) hx hb dX6_count_1 (by rw [q_3]; decide) (by rw [q_3]; decide) (by rw [q_3]; rfl) (by decide) ?_
    refine lv_aload_n hx hb dX6_count_73 rfl (lv_at hl 0 rfl) ?_
    refine va_get (D := D) (ci := 6) (v := .ref ((a0 2) 0)) (C := RX6) (T := TX6) (N := 12) hx hb hts hiX6 hown hK hP 0 rfl rfl 3 (by decide) (hts (.fieldLink RX6 27 "ClockOnce" "town" "LClockOnce$Town;") (List.mem_of_getElem? (i := 2) rfl)) (fun _ h9 => h9) rfl dX6_count_74 ?_
    refine va_get (D := D) (ci := 5) (v := .int ((c0 2) 0 2)) (C := RX5) (T := TX5) (N := 14) hx hb hts hiX5 hown hK hP 6 rfl rfl 8 (by decide) (hts (.fieldLink RX6 92 "ClockOnce$Town" "askers" "I") (List.mem_of_getElem? (i := 4) rfl)) (fun _ h9 => h9) rfl dX6_count_77 ?_
    exact hret _ _ _ h dX6_count_80
  have h := mk_ifn q_3 h
  by_cases q_4 : p1 = (3 : Int32)
  · have h := mk_ifp q_4 h
    refine lv_tableIn (off := 80) (tgt := 81) hx hb dX6_count_1 (by rw [q_4]; decide) (by rw [q_4]; decide) (by rw [q_4]; rfl) (by decide) ?_
    refine lv_aload_n hx hb dX6_count_81 rfl (lv_at hl 0 rfl) ?_
    refine va_get (D := D) (ci := 6) (v := .ref ((a0 2) 0)) (C := RX6) (T := TX6) (N := 12) hx hb hts hiX6 hown hK hP 0 rfl rfl 3 (by decide) (hts (.fieldLink RX6 27 "ClockOnce" "town" "LClockOnce$Town;") (List.mem_of_getElem? (i := 2) rfl)) (fun _ h9 => h9) rfl dX6_count_82 ?_
    refine va_get (D := D) (ci := 5) (v := .int ((c0 2) 0 3)) (C := RX5) (T := TX5) (N := 14) hx hb hts hiX5 hown hK hP 6 rfl rfl 11 (by decide) (hts (.fieldLink RX6 263 "ClockOnce$Town" "links" "I") (List.mem_of_getElem? (i := 5) rfl)) (fun _ h9 => h9) rfl dX6_count_85 ?_
    exact hret _ _ _ h dX6_count_88
  have h := mk_ifn q_4 h
  by_cases q_5 : p1 = (4 : Int32)
  · have h := mk_ifp q_5 h
    refine lv_tableIn (off := 88) (tgt := 89) hx hb dX6_count_1 (by rw [q_5]; decide) (by rw [q_5]; decide) (by rw [q_5]; rfl) (by decide) ?_
    refine lv_aload_n hx hb dX6_count_89 rfl (lv_at hl 0 rfl) ?_
    refine va_get (D := D) (ci := 6) (v := .ref ((a0 4) 0)) (C := RX6) (T := TX6) (N := 12) hx hb hts hiX6 hown hK hP 0 rfl rfl 5 (by decide) (hts (.fieldLink RX6 37 "ClockOnce" "life" "LClockOnce$Life;") (List.mem_of_getElem? (i := 6) rfl)) (fun _ h9 => h9) rfl dX6_count_90 ?_
    refine va_get (D := D) (ci := 2) (v := .int ((c0 4) 0 0)) (C := RX2) (T := TX2) (N := 5) hx hb hts hiX2 hown hK hP 26 rfl rfl 0 (by decide) (hts (.fieldLink RX6 143 "ClockOnce$Life" "day" "I") (List.mem_of_getElem? (i := 7) rfl)) (fun _ h9 => h9) rfl dX6_count_93 ?_
    exact hret _ _ _ h dX6_count_96
  have h := mk_ifn q_5 h
  by_cases q_6 : p1 = (5 : Int32)
  · have h := mk_ifp q_6 h
    refine lv_tableIn (off := 96) (tgt := 97) hx hb dX6_count_1 (by rw [q_6]; decide) (by rw [q_6]; decide) (by rw [q_6]; rfl) (by decide) ?_
    refine lv_aload_n hx hb dX6_count_97 rfl (lv_at hl 0 rfl) ?_
    refine va_get (D := D) (ci := 6) (v := .ref ((a0 4) 0)) (C := RX6) (T := TX6) (N := 12) hx hb hts hiX6 hown hK hP 0 rfl rfl 5 (by decide) (hts (.fieldLink RX6 37 "ClockOnce" "life" "LClockOnce$Life;") (List.mem_of_getElem? (i := 6) rfl)) (fun _ h9 => h9) rfl dX6_count_98 ?_
    refine va_get (D := D) (ci := 2) (v := .int ((c0 4) 0 1)) (C := RX2) (T := TX2) (N := 5) hx hb hts hiX2 hown hK hP 26 rfl rfl 1 (by decide) (hts (.fieldLink RX6 146 "ClockOnce$Life" "coins" "I") (List.mem_of_getElem? (i := 8) rfl)) (fun _ h9 => h9) rfl dX6_count_101 ?_
    exact hret _ _ _ h dX6_count_104
  have h := mk_ifn q_6 h
  by_cases q_7 : p1 = (6 : Int32)
  · have h := mk_ifp q_7 h
    refine lv_tableIn (off := 104) (tgt := 105) hx hb dX6_count_1 (by rw [q_7]; decide) (by rw [q_7]; decide) (by rw [q_7]; rfl) (by decide) ?_
    refine lv_aload_n hx hb dX6_count_105 rfl (lv_at hl 0 rfl) ?_
    refine va_get (D := D) (ci := 6) (v := .ref ((a0 4) 0)) (C := RX6) (T := TX6) (N := 12) hx hb hts hiX6 hown hK hP 0 rfl rfl 5 (by decide) (hts (.fieldLink RX6 37 "ClockOnce" "life" "LClockOnce$Life;") (List.mem_of_getElem? (i := 6) rfl)) (fun _ h9 => h9) rfl dX6_count_106 ?_
    refine lv_aload_n hx hb dX6_count_109 rfl (lv_at hl 0 rfl) ?_
    refine va_get (D := D) (ci := 6) (v := .ref ((a0 2) 0)) (C := RX6) (T := TX6) (N := 12) hx hb hts hiX6 hown hK hP 0 rfl rfl 3 (by decide) (hts (.fieldLink RX6 27 "ClockOnce" "town" "LClockOnce$Town;") (List.mem_of_getElem? (i := 2) rfl)) (fun _ h9 => h9) rfl dX6_count_110 ?_
    obtain ⟨r_8, er_8, h⟩ := mk_bd h
    refine pc_v (As := [.ref ((a0 2) 0)]) (rest := []) ⟨hx, hb, hml, hown, hts⟩ (c_X2_soldThings l D cI cZ cO N (a0 4) (c0 4) (a0 2) (c0 2) r_8 er_8) (cwV 1 hts k_X6_count_X2_soldThings_232 rfl rfl rfl (by decide +kernel) ⟨(Nat.le_of_ble_eq_true rfl), (Nat.le_of_ble_eq_true rfl)⟩) (va_recv hK hP (ci := 2) (q0 := 26) rfl rfl) (hP.sub (ws' := wX2 cI (a0 4) (c0 4) ++ wX5 cI (a0 2) (c0 2)) [26, 27, 28, 6, 7, 8, 9, 10, 11, 12, 13, 14, 15] rfl) hK rfl hl.1 rfl (Nat.le_of_ble_eq_true rfl) dX6_count_113 ⟨Nat.zero_le _, Nat.zero_le _⟩ ?_
    exact hret _ _ _ h dX6_count_116
  have h := mk_ifn q_7 h
  by_cases q_9 : p1 = (7 : Int32)
  · have h := mk_ifp q_9 h
    refine lv_tableIn (off := 116) (tgt := 117) hx hb dX6_count_1 (by rw [q_9]; decide) (by rw [q_9]; decide) (by rw [q_9]; rfl) (by decide) ?_
    refine lv_aload_n hx hb dX6_count_117 rfl (lv_at hl 0 rfl) ?_
    refine va_get (D := D) (ci := 6) (v := .ref ((a0 2) 0)) (C := RX6) (T := TX6) (N := 12) hx hb hts hiX6 hown hK hP 0 rfl rfl 3 (by decide) (hts (.fieldLink RX6 27 "ClockOnce" "town" "LClockOnce$Town;") (List.mem_of_getElem? (i := 2) rfl)) (fun _ h9 => h9) rfl dX6_count_118 ?_
    refine lv_aload_n hx hb dX6_count_121 rfl (lv_at hl 0 rfl) ?_
    refine va_get (D := D) (ci := 6) (v := .ref ((a0 4) 0)) (C := RX6) (T := TX6) (N := 12) hx hb hts hiX6 hown hK hP 0 rfl rfl 5 (by decide) (hts (.fieldLink RX6 37 "ClockOnce" "life" "LClockOnce$Life;") (List.mem_of_getElem? (i := 6) rfl)) (fun _ h9 => h9) rfl dX6_count_122 ?_
    refine va_get (D := D) (ci := 2) (v := .int ((c0 4) 0 0)) (C := RX2) (T := TX2) (N := 5) hx hb hts hiX2 hown hK hP 26 rfl rfl 0 (by decide) (hts (.fieldLink RX6 143 "ClockOnce$Life" "day" "I") (List.mem_of_getElem? (i := 7) rfl)) (fun _ h9 => h9) rfl dX6_count_125 ?_
    obtain ⟨r_10, er_10, h⟩ := mk_bd h
    refine pc_v (As := [.int ((c0 4) 0 0)]) (rest := []) ⟨hx, hb, hml, hown, hts⟩ (c_X5_thingsEndedOn l D cI cZ cO N (a0 2) (c0 2) ((c0 4) 0 0) r_10 er_10) (cwV 1 hts k_X6_count_X5_thingsEndedOn_266 rfl rfl rfl (by decide +kernel) ⟨(Nat.le_of_ble_eq_true rfl), (Nat.le_of_ble_eq_true rfl)⟩) (va_recv hK hP (ci := 5) (q0 := 6) rfl rfl) (hP.sub (ws' := wX5 cI (a0 2) (c0 2)) [6, 7, 8, 9, 10, 11, 12, 13, 14, 15] rfl) hK rfl hl.1 rfl (Nat.le_of_ble_eq_true rfl) dX6_count_128 ⟨Nat.zero_le _, Nat.zero_le _⟩ ?_
    exact hret _ _ _ h dX6_count_131
  have h := mk_ifn q_9 h
  by_cases q_11 : p1 = (8 : Int32)
  · have h := mk_ifp q_11 h
    refine lv_tableIn (off := 131) (tgt := 132) hx hb dX6_count_1 (by rw [q_11]; decide) (by rw [q_11]; decide) (by rw [q_11]; rfl) (by decide) ?_
    refine lv_aload_n hx hb dX6_count_132 rfl (lv_at hl 0 rfl) ?_
    refine va_get (D := D) (ci := 6) (v := .ref ((a0 4) 0)) (C := RX6) (T := TX6) (N := 12) hx hb hts hiX6 hown hK hP 0 rfl rfl 5 (by decide) (hts (.fieldLink RX6 37 "ClockOnce" "life" "LClockOnce$Life;") (List.mem_of_getElem? (i := 6) rfl)) (fun _ h9 => h9) rfl dX6_count_133 ?_
    obtain ⟨r_12, er_12, h⟩ := mk_bd h
    refine pc_v (As := []) (rest := []) ⟨hx, hb, hml, hown, hts⟩ (c_X2_askedThings l D cI cZ cO N (a0 4) (c0 4) r_12 er_12) (cwV 0 hts k_X6_count_X2_askedThings_269 rfl rfl rfl (by decide +kernel) ⟨(Nat.le_of_ble_eq_true rfl), (Nat.le_of_ble_eq_true rfl)⟩) (va_recv hK hP (ci := 2) (q0 := 26) rfl rfl) (hP.sub (ws' := wX2 cI (a0 4) (c0 4)) [26, 27, 28] rfl) hK rfl hl.1 rfl (Nat.le_of_ble_eq_true rfl) dX6_count_136 ⟨Nat.zero_le _, Nat.zero_le _⟩ ?_
    exact hret _ _ _ h dX6_count_139
  have h := mk_ifn q_11 h
  by_cases q_13 : p1 = (9 : Int32)
  · have h := mk_ifp q_13 h
    refine lv_tableIn (off := 139) (tgt := 140) hx hb dX6_count_1 (by rw [q_13]; decide) (by rw [q_13]; decide) (by rw [q_13]; rfl) (by decide) ?_
    refine lv_aload_n hx hb dX6_count_140 rfl (lv_at hl 0 rfl) ?_
    refine va_get (D := D) (ci := 6) (v := .ref ((a0 5) 0)) (C := RX6) (T := TX6) (N := 12) hx hb hts hiX6 hown hK hP 0 rfl rfl 6 (by decide) (hts (.fieldLink RX6 44 "ClockOnce" "acts" "LClockOnce$Acts;") (List.mem_of_getElem? (i := 9) rfl)) (fun _ h9 => h9) rfl dX6_count_141 ?_
    refine va_get (D := D) (ci := 0) (v := .int ((c0 5) 0 0)) (C := RX0) (T := TX0) (N := 4) hx hb hts hiX0 hown hK hP 29 rfl rfl 3 (by decide) (hts (.fieldLink RX6 83 "ClockOnce$Acts" "size" "I") (List.mem_of_getElem? (i := 10) rfl)) (fun _ h9 => h9) rfl dX6_count_144 ?_
    exact hret _ _ _ h dX6_count_147
  have h := mk_ifn q_13 h
  by_cases q_14 : p1 = (10 : Int32)
  · have h := mk_ifp q_14 h
    refine lv_tableIn (off := 147) (tgt := 148) hx hb dX6_count_1 (by rw [q_14]; decide) (by rw [q_14]; decide) (by rw [q_14]; rfl) (by decide) ?_
    refine lv_aload_n hx hb dX6_count_148 rfl (lv_at hl 0 rfl) ?_
    refine va_get (D := D) (ci := 6) (v := .ref ((a0 8) 0)) (C := RX6) (T := TX6) (N := 12) hx hb hts hiX6 hown hK hP 0 rfl rfl 8 (by decide) (hts (.fieldLink RX6 55 "ClockOnce" "seen" "LClockOnce$Sales;") (List.mem_of_getElem? (i := 11) rfl)) (fun _ h9 => h9) rfl dX6_count_149 ?_
    refine va_get (D := D) (ci := 4) (v := .int ((c0 8) 0 0)) (C := RX4) (T := TX4) (N := 3) hx hb hts hiX4 hown hK hP 39 rfl rfl 2 (by decide) (hts (.fieldLink RX6 215 "ClockOnce$Sales" "size" "I") (List.mem_of_getElem? (i := 12) rfl)) (fun _ h9 => h9) rfl dX6_count_152 ?_
    exact hret _ _ _ h dX6_count_155
  have h := mk_ifn q_14 h
  refine lv_tableOut (tgt := 156) hx hb dX6_count_1 (by have zq_1 := mk_ne (z := 0) (by decide) q_1; have zq_2 := mk_ne (z := 1) (by decide) q_2; have zq_3 := mk_ne (z := 2) (by decide) q_3; have zq_4 := mk_ne (z := 3) (by decide) q_4; have zq_5 := mk_ne (z := 4) (by decide) q_5; have zq_6 := mk_ne (z := 5) (by decide) q_6; have zq_7 := mk_ne (z := 6) (by decide) q_7; have zq_9 := mk_ne (z := 7) (by decide) q_9; have zq_11 := mk_ne (z := 8) (by decide) q_11; have zq_13 := mk_ne (z := 9) (by decide) q_13; have zq_14 := mk_ne (z := 10) (by decide) q_14; omega) (by decide) ?_
  refine lv_bipush (v := (-2 : Int32)) hx hb dX6_count_156 (by decide) ?_
  exact hret _ _ _ h dX6_count_158

abbrev rm_X6_hasEnded : Room := { frames := 3, cells := 0, slots := 0, locals := 65 }
set_option maxRecDepth 20000 in
theorem k_X6_hasEnded_X5_trueEnd_140 : GoodIn wsX6_hasEnded (wsV RX6 140 RX5 yX5_trueEnd wsX5_trueEnd) := goodIn_r _ [4, 5, 6, 7, 8, 9, 10, 11, 12, 7, 13, 14, 15, 16, 17, 18, 19, 37, 38, 39, 40, 41, 42, 43, 44, 45, 46, 47, 48, 49, 50] rfl (by decide +kernel)
set_option maxHeartbeats 4000000 in
set_option maxRecDepth 100000 in
theorem c_X6_hasEnded (l : Launch) (D : va_G) (cI cZ cO : ClassId) (N : Nat) (a0 : Nat → Nat → Nat) (c0 : CU) (sd : Int64) (p1 : Int32) (out : Int32) (h : f_X6_hasEnded N c0 sd p1 = some out) : Met l yX6_hasEnded wsX6_hasEnded rm_X6_hasEnded (va_Pc [.ref ((a0 0) 0), .int p1] (fun U => va_P D vwCl (wX6 cI cO a0 c0 sd) U.heap ∧ va_K D vwCl (tyA cI cZ cO) U)) (vp_Si (fun r => r = out)) 0 0 (fun _ => False) := by
  refine pm_z (own := RX6) (cc := cX6_hasEnded) (maxL := 2) (by decide) rfl rfl (Nat.le_of_ble_eq_true rfl) ?_
  intro p e s m args below meth c Q H ls hx hb hml hown hts hP hK hl hret
  have hl : lv_has ls 2 [(0, .ref ((a0 0) 0)), (1, .int p1)] := hl
  have hiX2 : ∀ w ∈ u_ws RX2 TX2 5, w ∈ wsX6_hasEnded := mk_seg 32 5 rfl
  have hiX6 : ∀ w ∈ u_ws RX6 TX6 12, w ∈ wsX6_hasEnded := mk_seg 20 12 rfl
  unfold f_X6_hasEnded at h
  refine lv_aload_n hx hb dX6_hasEnded_0 rfl (lv_at hl 0 rfl) ?_
  refine va_get (D := D) (ci := 6) (v := .ref ((a0 2) 0)) (C := RX6) (T := TX6) (N := 12) hx hb hts hiX6 hown hK hP 0 rfl rfl 3 (by decide) (hts (.fieldLink RX6 27 "ClockOnce" "town" "LClockOnce$Town;") (List.mem_of_getElem? (i := 1) rfl)) (fun _ h9 => h9) rfl dX6_hasEnded_1 ?_
  refine lv_iload_n hx hb dX6_hasEnded_4 rfl (lv_at hl 1 rfl) ?_
  obtain ⟨r_1, er_1, h⟩ := mk_bd h
  refine pc_v (As := [.int p1]) (rest := []) ⟨hx, hb, hml, hown, hts⟩ (c_X5_trueEnd l D cI cZ cO N (a0 2) (c0 2) p1 r_1 er_1) (cwV 1 hts k_X6_hasEnded_X5_trueEnd_140 rfl rfl rfl (by decide +kernel) ⟨(Nat.le_of_ble_eq_true rfl), (Nat.le_of_ble_eq_true rfl)⟩) (va_recv hK hP (ci := 5) (q0 := 6) rfl rfl) (hP.sub (ws' := wX5 cI (a0 2) (c0 2)) [6, 7, 8, 9, 10, 11, 12, 13, 14, 15] rfl) hK rfl hl.1 rfl (Nat.le_of_ble_eq_true rfl) dX6_hasEnded_5 ⟨Nat.zero_le _, Nat.zero_le _⟩ ?_
  refine lv_aload_n hx hb dX6_hasEnded_8 rfl (lv_at hl 0 rfl) ?_
  refine va_get (D := D) (ci := 6) (v := .ref ((a0 4) 0)) (C := RX6) (T := TX6) (N := 12) hx hb hts hiX6 hown hK hP 0 rfl rfl 5 (by decide) (hts (.fieldLink RX6 37 "ClockOnce" "life" "LClockOnce$Life;") (List.mem_of_getElem? (i := 2) rfl)) (fun _ h9 => h9) rfl dX6_hasEnded_9 ?_
  refine va_get (D := D) (ci := 2) (v := .int ((c0 4) 0 0)) (C := RX2) (T := TX2) (N := 5) hx hb hts hiX2 hown hK hP 26 rfl rfl 0 (by decide) (hts (.fieldLink RX6 143 "ClockOnce$Life" "day" "I") (List.mem_of_getElem? (i := 3) rfl)) (fun _ h9 => h9) rfl dX6_hasEnded_12 ?_
  refine lv_icmp_gt (tgt := 22) hx hb dX6_hasEnded_15 (by decide) (fun q_2 => ?_) (fun q_2 => ?_)
  · have h := mk_ifp q_2 h
    refine lv_iconst (v := (0 : Int32)) hx hb dX6_hasEnded_22 (by decide) ?_
    exact hret _ _ _ h (Or.inl rfl) dX6_hasEnded_23
  · have h := mk_ifn q_2 h
    refine lv_iconst (v := (1 : Int32)) hx hb dX6_hasEnded_18 (by decide) ?_
    refine lv_goto (tgt := 23) hx hb dX6_hasEnded_19 (by decide) ?_
    exact hret _ _ _ h (Or.inr rfl) dX6_hasEnded_23

abbrev rm_X6_day : Room := { frames := 4, cells := 0, slots := 0, locals := 123 }
set_option maxRecDepth 20000 in
theorem k_X6_day_X0_add_136 : GoodIn wsX6_day (wsV RX6 136 RX0 yX0_add wsX0_add) := goodIn_r _ [29, 30, 31, 32, 33, 34, 35, 36, 37, 38, 39, 40, 32, 41, 42, 43, 44, 45, 77, 78, 79, 80] rfl (by decide +kernel)
set_option maxRecDepth 20000 in
theorem k_X6_day_X6_hasEnded_114 : GoodIn wsX6_day (wsV RX6 114 RX6 yX6_hasEnded wsX6_hasEnded) := goodIn_r _ [8, 9, 10, 11, 12, 3, 1, 2, 13, 14, 15, 16, 17, 18, 19, 20, 21, 22, 23, 24, 25, 26, 27, 28, 46, 47, 48, 49, 50, 51, 52, 53, 54, 55, 56, 57, 58, 59, 60, 61, 62, 63, 64, 65, 66, 67, 68, 69, 70, 71, 72, 73, 74, 75, 76] rfl (by decide +kernel)
set_option maxHeartbeats 4000000 in
set_option maxRecDepth 100000 in
theorem c_X6_day (l : Launch) (D : va_G) (cI cZ cO : ClassId) (N : Nat) (a0 : Nat → Nat → Nat) (c0 : CU) (sd : Int64) (sz : Nat) (out : Int32 × CU) (h : f_X6_day N c0 sd = some out) : Met l yX6_day wsX6_day rm_X6_day (va_Pc [.ref ((a0 0) 0)] (mk_Pe D vwCl (tyA cI cZ cO) (wX6 cI cO a0 c0 sd) sz)) (va_Qi (fun r u => (r, u) = out) (mk_Be D vwCl (wX6 cI cO a0 c0 sd) sz (fun q => (wX6 cI cO a0 q sd))) (va_A (wX6 cI cO a0 c0 sd) sz)) 0 0 (va_A (wX6 cI cO a0 c0 sd) sz) := by
  refine em_i (own := RX6) (cc := cX6_day) (maxL := 3) (by decide) rfl rfl (Nat.le_of_ble_eq_true rfl) ?_
  intro p e s m args below meth c Q A H0 H locs ls hx hb hml hown hts hP hK hD hS hA hl hret
  have hl : lv_has ls 3 [(0, .ref ((a0 0) 0))] := hl
  have hiX2 : ∀ w ∈ u_ws RX2 TX2 5, w ∈ wsX6_day := mk_seg 58 5 rfl
  have hiX5 : ∀ w ∈ u_ws RX5 TX5 14, w ∈ wsX6_day := mk_seg 63 14 rfl
  have hiX6 : ∀ w ∈ u_ws RX6 TX6 12, w ∈ wsX6_day := mk_seg 46 12 rfl
  have K19 : ∀ (c0 : CU) (x1 : Int32) (x2 : Int32) (H : Heap) (locs : List Loc) (ls : Array Slot), va_P D vwCl (wX6 cI cO a0 c0 sd) H → va_D A (wX6 cI cO a0 c0 sd) → va_S A H0 H locs → lv_has ls 3 [(0, .ref ((a0 0) 0)), (1, .int x1), (2, .int x2)] → lq2 (g_X6_day_19 N c0 sd) N x1 x2 = some out → W p l e rm_X6_day s m args below meth c H locs 0 0 Q (F0 m 19 ls []) := by
    intro c0 x1 x2 H locs ls hP hD hS hl h
    refine lq2_W (Wd := fun x1 x2 => ∀ (H : Heap) (locs : List Loc) (ls : Array Slot), va_P D vwCl (wX6 cI cO a0 c0 sd) H → va_D A (wX6 cI cO a0 c0 sd) → va_S A H0 H locs → lv_has ls 3 [(0, .ref ((a0 0) 0)), (1, .int x1), (2, .int x2)] → W p l e rm_X6_day s m args below meth c H locs 0 0 Q (F0 m 19 ls [])) (fun rec19 ih19 x1 x2 h H locs ls hP hD hS hl => ?_) N x1 x2 h H locs ls hP hD hS hl
    unfold g_X6_day_19 at h
    refine lv_iload_n hx hb dX6_day_19 rfl (lv_at hl 2 rfl) ?_
    refine lv_aload_n hx hb dX6_day_20 rfl (lv_at hl 0 rfl) ?_
    refine va_get (D := D) (ci := 6) (v := .ref ((a0 2) 0)) (C := RX6) (T := TX6) (N := 12) hx hb hts hiX6 hown hK hP 0 rfl rfl 3 (by decide) (hts (.fieldLink RX6 27 "ClockOnce" "town" "LClockOnce$Town;") (List.mem_of_getElem? (i := 3) rfl)) (fun _ h9 => h9) rfl dX6_day_21 ?_
    refine va_get (D := D) (ci := 5) (v := .int ((c0 2) 0 0)) (C := RX5) (T := TX5) (N := 14) hx hb hts hiX5 hown hK hP 6 rfl rfl 4 (by decide) (hts (.fieldLink RX6 89 "ClockOnce$Town" "things" "I") (List.mem_of_getElem? (i := 4) rfl)) (fun _ h9 => h9) rfl dX6_day_24 ?_
    refine lv_icmp_ge (tgt := 61) hx hb dX6_day_27 (by decide) (fun q_1 => ?_) (fun q_1 => ?_)
    · have h := mk_ifp q_1 h
      refine lv_aload_n hx hb dX6_day_61 rfl (lv_at hl 0 rfl) ?_
      refine va_get (D := D) (ci := 6) (v := .ref ((a0 4) 0)) (C := RX6) (T := TX6) (N := 12) hx hb hts hiX6 hown hK hP 0 rfl rfl 5 (by decide) (hts (.fieldLink RX6 37 "ClockOnce" "life" "LClockOnce$Life;") (List.mem_of_getElem? (i := 1) rfl)) (fun _ h9 => h9) rfl dX6_day_62 ?_
      refine lv_dup hx hb dX6_day_65 rfl ?_
      refine va_get (D := D) (ci := 2) (v := .int ((c0 4) 0 0)) (C := RX2) (T := TX2) (N := 5) hx hb hts hiX2 hown hK hP 26 rfl rfl 0 (by decide) (hts (.fieldLink RX6 143 "ClockOnce$Life" "day" "I") (List.mem_of_getElem? (i := 2) rfl)) (fun _ h9 => h9) rfl dX6_day_66 ?_
      refine lv_iconst (v := (1 : Int32)) hx hb dX6_day_69 (by decide) ?_
      refine lv_iadd hx hb dX6_day_70 ?_
      obtain ⟨w_2, ew_2, h⟩ := mk_nmE h
      refine va_put (D := D) (ci := 2) (v := .int (((c0 4) 0 0) + (1 : Int32))) (ty := .int) (C := RX2) (T := TX2) (N := 5) hx hb hts hiX2 tyX2 tyX2_ok nmX2 hown hK hP hD hS 26 rfl rfl 0 (by decide) (hts (.fieldLink RX6 143 "ClockOnce$Life" "day" "I") (List.mem_of_getElem? (i := 2) rfl)) (fun _ h9 => h9) rfl (by decide +kernel) rfl rfl (Nat.le_of_ble_eq_true rfl) dX6_day_71 (fun H locs hP hD hS => ?_)
      have hP : va_P D vwCl (wX6 cI cO a0 w_2 sd) H := by rw [ew_2]; exact hP
      have hD : va_D A (wX6 cI cO a0 w_2 sd) := by rw [ew_2]; exact hD
      refine lv_aload_n hx hb dX6_day_74 rfl (lv_at hl 0 rfl) ?_
      refine va_get (D := D) (ci := 6) (v := .ref ((a0 4) 0)) (C := RX6) (T := TX6) (N := 12) hx hb hts hiX6 hown hK hP 0 rfl rfl 5 (by decide) (hts (.fieldLink RX6 37 "ClockOnce" "life" "LClockOnce$Life;") (List.mem_of_getElem? (i := 1) rfl)) (fun _ h9 => h9) rfl dX6_day_75 ?_
      refine lv_dup hx hb dX6_day_78 rfl ?_
      refine va_get (D := D) (ci := 2) (v := .int ((w_2 4) 0 1)) (C := RX2) (T := TX2) (N := 5) hx hb hts hiX2 hown hK hP 26 rfl rfl 1 (by decide) (hts (.fieldLink RX6 146 "ClockOnce$Life" "coins" "I") (List.mem_of_getElem? (i := 6) rfl)) (fun _ h9 => h9) rfl dX6_day_79 ?_
      refine lv_iload_n hx hb dX6_day_82 rfl (lv_at hl 1 rfl) ?_
      refine lv_iadd hx hb dX6_day_83 ?_
      obtain ⟨w_3, ew_3, h⟩ := mk_nmE h
      refine va_put (D := D) (ci := 2) (v := .int (((w_2 4) 0 1) + x1)) (ty := .int) (C := RX2) (T := TX2) (N := 5) hx hb hts hiX2 tyX2 tyX2_ok nmX2 hown hK hP hD hS 26 rfl rfl 1 (by decide) (hts (.fieldLink RX6 146 "ClockOnce$Life" "coins" "I") (List.mem_of_getElem? (i := 6) rfl)) (fun _ h9 => h9) rfl (by decide +kernel) rfl rfl (Nat.le_of_ble_eq_true rfl) dX6_day_84 (fun H locs hP hD hS => ?_)
      have hP : va_P D vwCl (wX6 cI cO a0 w_3 sd) H := by rw [ew_3]; exact hP
      have hD : va_D A (wX6 cI cO a0 w_3 sd) := by rw [ew_3]; exact hD
      refine lv_aload_n hx hb dX6_day_87 rfl (lv_at hl 0 rfl) ?_
      refine va_get (D := D) (ci := 6) (v := .ref ((a0 5) 0)) (C := RX6) (T := TX6) (N := 12) hx hb hts hiX6 hown hK hP 0 rfl rfl 6 (by decide) (hts (.fieldLink RX6 44 "ClockOnce" "acts" "LClockOnce$Acts;") (List.mem_of_getElem? (i := 7) rfl)) (fun _ h9 => h9) rfl dX6_day_88 ?_
      refine lv_iconst (v := (1 : Int32)) hx hb dX6_day_91 (by decide) ?_
      refine lv_iconst (v := (0 : Int32)) hx hb dX6_day_92 (by decide) ?_
      refine lv_iload_n hx hb dX6_day_93 rfl (lv_at hl 1 rfl) ?_
      obtain ⟨r_4, er_4, h⟩ := mk_bd h
      refine ec_vv (As := [.int (1 : Int32), .int (0 : Int32), .int x1]) (rest := []) (w' := (wX6 cI cO a0 (mk_set3 w_3 5 r_4) sd)) ⟨hx, hb, hml, hown, hts⟩ (c_X0_add l D cI cZ cO N (a0 5) (w_3 5) (1 : Int32) (0 : Int32) x1 H.size r_4 er_4) (cwV 3 hts k_X6_day_X0_add_136 rfl rfl rfl (by decide +kernel) ⟨(Nat.le_of_ble_eq_true rfl), (Nat.le_of_ble_eq_true rfl)⟩) (va_recv hK hP (ci := 0) (q0 := 29) rfl rfl) hK hP hD hS hA [29, 30, 31, 32] [0, 1, 2, 3, 4, 5, 6, 7, 8, 9, 10, 11, 12, 13, 14, 15, 16, 17, 18, 19, 20, 21, 22, 23, 24, 25, 26, 27, 28, 33, 34, 35, 36, 37, 38, 39, 40, 41, 42, 43] [0, 1, 2, 3, 4, 5, 6, 7, 8, 9, 10, 11, 12, 13, 14, 15, 16, 17, 18, 19, 20, 21, 22, 23, 24, 25, 26, 27, 28, 40, 41, 42, 43, 29, 30, 31, 32, 33, 34, 35, 36, 37, 38, 39] (hP.sub (ws' := wX0 cI (a0 5) (w_3 5)) [29, 30, 31, 32] rfl) (hD.sub (ws' := wX0 cI (a0 5) (w_3 5)) [29, 30, 31, 32] (by decide) rfl) rfl rfl (by decide) (by decide) rfl (by decide) rfl hl.1 rfl (Nat.le_of_ble_eq_true rfl) dX6_day_94 ⟨Nat.zero_le _, Nat.zero_le _⟩ (fun H locs hP hD hS => ?_)
      obtain ⟨w_5, ew_5, h⟩ := mk_nmE h
      rw [← ew_5] at hP hD
      refine lv_iload_n hx hb dX6_day_97 rfl (lv_at hl 1 rfl) ?_
      exact hret _ _ _ _ _ _ h hP hD hS dX6_day_98
    · have h := mk_ifn q_1 h
      refine lv_aload_n hx hb dX6_day_30 rfl (lv_at hl 0 rfl) ?_
      refine va_get (D := D) (ci := 6) (v := .ref ((a0 4) 0)) (C := RX6) (T := TX6) (N := 12) hx hb hts hiX6 hown hK hP 0 rfl rfl 5 (by decide) (hts (.fieldLink RX6 37 "ClockOnce" "life" "LClockOnce$Life;") (List.mem_of_getElem? (i := 1) rfl)) (fun _ h9 => h9) rfl dX6_day_31 ?_
      refine va_get (D := D) (ci := 2) (v := .ref ((a0 4) 2)) (C := RX2) (T := TX2) (N := 5) hx hb hts hiX2 hown hK hP 26 rfl rfl 3 (by decide) (hts (.fieldLink RX6 111 "ClockOnce$Life" "soldOn" "[I") (List.mem_of_getElem? (i := 5) rfl)) (fun _ h9 => h9) rfl dX6_day_34 ?_
      refine lv_iload_n hx hb dX6_day_37 rfl (lv_at hl 2 rfl) ?_
      obtain ⟨v_6, ev_6, hiv_6, h⟩ := mk_rdE h
      refine va_iald hx hb hK hP 28 0 rfl rfl hiv_6 dX6_day_38 ?_
      refine mk_topi ev_6 ?_
      refine lv_bipush (v := (-9 : Int32)) hx hb dX6_day_39 (by decide) ?_
      refine lv_icmp_ne (tgt := 55) hx hb dX6_day_41 (by decide) (fun q_7 => ?_) (fun q_7 => ?_)
      · have h := mk_ifn q_7 h
        refine lv_iinc (v := (x2 + (1 : Int32))) (lv' := [(2, .int (x2 + (1 : Int32))), (0, .ref ((a0 0) 0)), (1, .int x1)]) hx hb dX6_day_55 hl (k := 2) rfl rfl (by decide) rfl (fun ls hl => ?_)
        refine lv_goto (tgt := 19) hx hb dX6_day_58 (by decide) ?_
        exact ih19 x1 (x2 + (1 : Int32)) h H locs ls hP hD hS (lv_sub hl [1, 2, 0] rfl)
      · have h := mk_ifp q_7 h
        refine lv_aload_n hx hb dX6_day_44 rfl (lv_at hl 0 rfl) ?_
        refine lv_iload_n hx hb dX6_day_45 rfl (lv_at hl 2 rfl) ?_
        obtain ⟨r_8, er_8, h⟩ := mk_bd h
        refine pc_v (As := [.int x2]) (rest := []) ⟨hx, hb, hml, hown, hts⟩ (c_X6_hasEnded l D cI cZ cO N a0 c0 sd x2 r_8 er_8) (cwV 1 hts k_X6_day_X6_hasEnded_114 rfl rfl rfl (by decide +kernel) ⟨(Nat.le_of_ble_eq_true rfl), (Nat.le_of_ble_eq_true rfl)⟩) (va_recv hK hP (ci := 6) (q0 := 0) rfl rfl) hP hK rfl hl.1 rfl (Nat.le_of_ble_eq_true rfl) dX6_day_46 ⟨Nat.zero_le _, Nat.zero_le _⟩ ?_
        refine lv_if_ne (tgt := 55) hx hb dX6_day_49 (by decide) (fun q_9 => ?_) (fun q_9 => ?_)
        · have h := mk_ifn q_9 h
          refine lv_iinc (v := (x2 + (1 : Int32))) (lv' := [(2, .int (x2 + (1 : Int32))), (0, .ref ((a0 0) 0)), (1, .int x1)]) hx hb dX6_day_55 hl (k := 2) rfl rfl (by decide) rfl (fun ls hl => ?_)
          refine lv_goto (tgt := 19) hx hb dX6_day_58 (by decide) ?_
          exact ih19 x1 (x2 + (1 : Int32)) h H locs ls hP hD hS (lv_sub hl [1, 2, 0] rfl)
        · have h := mk_ifp q_9 h
          refine lv_iinc (v := (x1 + (1 : Int32))) (lv' := [(1, .int (x1 + (1 : Int32))), (0, .ref ((a0 0) 0)), (2, .int x2)]) hx hb dX6_day_52 hl (k := 1) rfl rfl (by decide) rfl (fun ls hl => ?_)
          refine lv_iinc (v := (x2 + (1 : Int32))) (lv' := [(2, .int (x2 + (1 : Int32))), (1, .int (x1 + (1 : Int32))), (0, .ref ((a0 0) 0))]) hx hb dX6_day_55 hl (k := 2) rfl rfl (by decide) rfl (fun ls hl => ?_)
          refine lv_goto (tgt := 19) hx hb dX6_day_58 (by decide) ?_
          exact ih19 (x1 + (1 : Int32)) (x2 + (1 : Int32)) h H locs ls hP hD hS (lv_sub hl [2, 1, 0] rfl)
  unfold f_X6_day at h
  refine lv_aload_n hx hb dX6_day_0 rfl (lv_at hl 0 rfl) ?_
  refine va_get (D := D) (ci := 6) (v := .ref ((a0 4) 0)) (C := RX6) (T := TX6) (N := 12) hx hb hts hiX6 hown hK hP 0 rfl rfl 5 (by decide) (hts (.fieldLink RX6 37 "ClockOnce" "life" "LClockOnce$Life;") (List.mem_of_getElem? (i := 1) rfl)) (fun _ h9 => h9) rfl dX6_day_1 ?_
  refine va_get (D := D) (ci := 2) (v := .int ((c0 4) 0 0)) (C := RX2) (T := TX2) (N := 5) hx hb hts hiX2 hown hK hP 26 rfl rfl 0 (by decide) (hts (.fieldLink RX6 143 "ClockOnce$Life" "day" "I") (List.mem_of_getElem? (i := 2) rfl)) (fun _ h9 => h9) rfl dX6_day_4 ?_
  refine lv_bipush (v := (9 : Int32)) hx hb dX6_day_7 (by decide) ?_
  refine lv_icmp_lt (tgt := 15) hx hb dX6_day_9 (by decide) (fun q_10 => ?_) (fun q_10 => ?_)
  · have h := mk_ifp q_10 h
    refine lv_iconst (v := (0 : Int32)) hx hb dX6_day_15 (by decide) ?_
    refine lv_istore_n (lv' := [(1, .int (0 : Int32)), (0, .ref ((a0 0) 0))]) hx hb dX6_day_16 rfl hl (by decide) rfl (fun ls hl => ?_)
    refine lv_iconst (v := (0 : Int32)) hx hb dX6_day_17 (by decide) ?_
    refine lv_istore_n (lv' := [(2, .int (0 : Int32)), (1, .int (0 : Int32)), (0, .ref ((a0 0) 0))]) hx hb dX6_day_18 rfl hl (by decide) rfl (fun ls hl => ?_)
    exact K19 c0 (0 : Int32) (0 : Int32) H locs ls hP hD hS (lv_sub hl [2, 1, 0] rfl) h
  · have h := mk_ifn q_10 h
    refine lv_bipush (v := (-3 : Int32)) hx hb dX6_day_12 (by decide) ?_
    exact hret _ _ _ _ _ _ h hP hD hS dX6_day_14

abbrev rm_X6_drawWorld : Room := { frames := 3, cells := 0, slots := 0, locals := 69 }
set_option maxRecDepth 20000 in
theorem k_X6_drawWorld_X5_withLinksHeld_289 : GoodIn wsX6_drawWorld (wsV RX6 289 RX5 yX5_withLinksHeld wsX5_withLinksHeld) := goodIn_r _ [8, 9, 10, 11, 12, 13, 14, 15, 16, 11, 17, 18, 19, 20, 21, 22, 23, 36, 37, 38, 39, 40, 41, 42, 43, 44, 45, 46, 47, 48, 49] rfl (by decide +kernel)
set_option maxHeartbeats 4000000 in
set_option maxRecDepth 100000 in
theorem c_X6_drawWorld (l : Launch) (D : va_G) (cI cZ cO : ClassId) (N : Nat) (a0 : Nat → Nat → Nat) (c0 : CU) (sd : Int64) (sz : Nat) (out : Int32 × Int64) (h : f_X6_drawWorld N c0 sd = some out) : Met l yX6_drawWorld wsX6_drawWorld rm_X6_drawWorld (va_Pc [.ref ((a0 0) 0)] (mk_Pe D vwCl (tyA cI cZ cO) (wX6 cI cO a0 c0 sd) sz)) (va_Qi (fun r u => (r, u) = out) (mk_Be D vwCl (wX6 cI cO a0 c0 sd) sz (fun q => (wX6 cI cO a0 c0 q))) (va_A (wX6 cI cO a0 c0 sd) sz)) 0 0 (va_A (wX6 cI cO a0 c0 sd) sz) := by
  refine em_i (own := RX6) (cc := cX6_drawWorld) (maxL := 3) (by decide) rfl rfl (Nat.le_of_ble_eq_true rfl) ?_
  intro p e s m args below meth c Q A H0 H locs ls hx hb hml hown hts hP hK hD hS hA hl hret
  have hl : lv_has ls 3 [(0, .ref ((a0 0) 0))] := hl
  have hiX5 : ∀ w ∈ u_ws RX5 TX5 14, w ∈ wsX6_drawWorld := mk_seg 36 14 rfl
  have hiX6 : ∀ w ∈ u_ws RX6 TX6 12, w ∈ wsX6_drawWorld := mk_seg 24 12 rfl
  have K4 : ∀ (sd : Int64) (x1 : Int32) (x2 : Int32) (H : Heap) (locs : List Loc) (ls : Array Slot), va_P D vwCl (wX6 cI cO a0 c0 sd) H → va_D A (wX6 cI cO a0 c0 sd) → va_S A H0 H locs → lv_has ls 3 [(0, .ref ((a0 0) 0)), (1, .int x1), (2, .int x2)] → lq3 (g_X6_drawWorld_4 N c0) N sd x1 x2 = some out → W p l e rm_X6_drawWorld s m args below meth c H locs 0 0 Q (F0 m 4 ls []) := by
    intro sd x1 x2 H locs ls hP hD hS hl h
    refine lq3_W (Wd := fun sd x1 x2 => ∀ (H : Heap) (locs : List Loc) (ls : Array Slot), va_P D vwCl (wX6 cI cO a0 c0 sd) H → va_D A (wX6 cI cO a0 c0 sd) → va_S A H0 H locs → lv_has ls 3 [(0, .ref ((a0 0) 0)), (1, .int x1), (2, .int x2)] → W p l e rm_X6_drawWorld s m args below meth c H locs 0 0 Q (F0 m 4 ls [])) (fun rec4 ih4 sd x1 x2 h H locs ls hP hD hS hl => ?_) N sd x1 x2 h H locs ls hP hD hS hl
    unfold g_X6_drawWorld_4 at h
    refine lv_iload_n hx hb dX6_drawWorld_4 rfl (lv_at hl 2 rfl) ?_
    refine lv_aload_n hx hb dX6_drawWorld_5 rfl (lv_at hl 0 rfl) ?_
    refine va_get (D := D) (ci := 6) (v := .ref ((a0 2) 0)) (C := RX6) (T := TX6) (N := 12) hx hb hts hiX6 hown hK hP 0 rfl rfl 3 (by decide) (hts (.fieldLink RX6 27 "ClockOnce" "town" "LClockOnce$Town;") (List.mem_of_getElem? (i := 1) rfl)) (fun _ h9 => h9) rfl dX6_drawWorld_6 ?_
    refine va_get (D := D) (ci := 5) (v := .int ((c0 2) 0 0)) (C := RX5) (T := TX5) (N := 14) hx hb hts hiX5 hown hK hP 6 rfl rfl 4 (by decide) (hts (.fieldLink RX6 89 "ClockOnce$Town" "things" "I") (List.mem_of_getElem? (i := 2) rfl)) (fun _ h9 => h9) rfl dX6_drawWorld_9 ?_
    refine lv_icmp_ge (tgt := 68) hx hb dX6_drawWorld_12 (by decide) (fun q_1 => ?_) (fun q_1 => ?_)
    · have h := mk_ifp q_1 h
      refine lv_aload_n hx hb dX6_drawWorld_68 rfl (lv_at hl 0 rfl) ?_
      refine va_get (D := D) (ci := 6) (v := .ref ((a0 2) 0)) (C := RX6) (T := TX6) (N := 12) hx hb hts hiX6 hown hK hP 0 rfl rfl 3 (by decide) (hts (.fieldLink RX6 27 "ClockOnce" "town" "LClockOnce$Town;") (List.mem_of_getElem? (i := 1) rfl)) (fun _ h9 => h9) rfl dX6_drawWorld_69 ?_
      refine lv_iload_n hx hb dX6_drawWorld_72 rfl (lv_at hl 1 rfl) ?_
      obtain ⟨r_2, er_2, h⟩ := mk_bd h
      refine pc_v (As := [.int x1]) (rest := []) ⟨hx, hb, hml, hown, hts⟩ (c_X5_withLinksHeld l D cI cZ cO N (a0 2) (c0 2) x1 r_2 er_2) (cwV 1 hts k_X6_drawWorld_X5_withLinksHeld_289 rfl rfl rfl (by decide +kernel) ⟨(Nat.le_of_ble_eq_true rfl), (Nat.le_of_ble_eq_true rfl)⟩) (va_recv hK hP (ci := 5) (q0 := 6) rfl rfl) (hP.sub (ws' := wX5 cI (a0 2) (c0 2)) [6, 7, 8, 9, 10, 11, 12, 13, 14, 15] rfl) hK rfl hl.1 rfl (Nat.le_of_ble_eq_true rfl) dX6_drawWorld_73 ⟨Nat.zero_le _, Nat.zero_le _⟩ ?_
      exact hret _ _ _ _ _ _ h hP hD hS dX6_drawWorld_76
    · have h := mk_ifn q_1 h
      refine lv_aload_n hx hb dX6_drawWorld_15 rfl (lv_at hl 0 rfl) ?_
      refine lv_aload_n hx hb dX6_drawWorld_16 rfl (lv_at hl 0 rfl) ?_
      refine va_get (D := D) (ci := 6) (v := .long sd) (C := RX6) (T := TX6) (N := 12) hx hb hts hiX6 hown hK hP 0 rfl rfl 11 (by decide) (hts (.fieldLink RX6 69 "ClockOnce" "seed" "J") (List.mem_of_getElem? (i := 3) rfl)) (fun _ h9 => h9) rfl dX6_drawWorld_17 ?_
      refine lv_ldc2 (v := (6364136223846793005 : Int64)) hx hb hown (hts (.constantLong RX6 283 (6364136223846793005)) (List.mem_of_getElem? (i := 4) rfl)) dX6_drawWorld_20 ?_
      refine lv_lmul hx hb dX6_drawWorld_23 ?_
      refine lv_ldc2 (v := (1442695040888963407 : Int64)) hx hb hown (hts (.constantLong RX6 285 (1442695040888963407)) (List.mem_of_getElem? (i := 5) rfl)) dX6_drawWorld_24 ?_
      refine lv_ladd hx hb dX6_drawWorld_27 ?_
      obtain ⟨y_3, ey_3, h⟩ := mk_nmE h
      refine va_put (D := D) (ci := 6) (v := .long ((sd * (6364136223846793005 : Int64)) + (1442695040888963407 : Int64))) (ty := .long) (C := RX6) (T := TX6) (N := 12) hx hb hts hiX6 tyX6 tyX6_ok nmX6 hown hK hP hD hS 0 rfl rfl 11 (by decide) (hts (.fieldLink RX6 69 "ClockOnce" "seed" "J") (List.mem_of_getElem? (i := 3) rfl)) (fun _ h9 => h9) rfl (by decide +kernel) rfl rfl (Nat.le_of_ble_eq_true rfl) dX6_drawWorld_28 (fun H locs hP hD hS => ?_)
      have hP : va_P D vwCl (wX6 cI cO a0 c0 y_3) H := by rw [ey_3]; exact hP
      have hD : va_D A (wX6 cI cO a0 c0 y_3) := by rw [ey_3]; exact hD
      refine lv_aload_n hx hb dX6_drawWorld_31 rfl (lv_at hl 0 rfl) ?_
      refine va_get (D := D) (ci := 6) (v := .long y_3) (C := RX6) (T := TX6) (N := 12) hx hb hts hiX6 hown hK hP 0 rfl rfl 11 (by decide) (hts (.fieldLink RX6 69 "ClockOnce" "seed" "J") (List.mem_of_getElem? (i := 3) rfl)) (fun _ h9 => h9) rfl dX6_drawWorld_32 ?_
      refine lv_bipush (v := (33 : Int32)) hx hb dX6_drawWorld_35 (by decide) ?_
      refine lv_lushr (v := ((y_3.toUInt64 >>> ((33 : Int32).toInt64.toUInt64 &&& Int64.toUInt64 63)).toInt64)) hx hb dX6_drawWorld_37 rfl ?_
      refine lv_ldc2 (v := (10 : Int64)) hx hb hown (hts (.constantLong RX6 287 (10)) (List.mem_of_getElem? (i := 6) rfl)) dX6_drawWorld_38 ?_
      refine lv_lrem hx hb dX6_drawWorld_41 (by decide) ?_
      refine lv_aload_n hx hb dX6_drawWorld_42 rfl (lv_at hl 0 rfl) ?_
      refine va_get (D := D) (ci := 6) (v := .ref ((a0 2) 0)) (C := RX6) (T := TX6) (N := 12) hx hb hts hiX6 hown hK hP 0 rfl rfl 3 (by decide) (hts (.fieldLink RX6 27 "ClockOnce" "town" "LClockOnce$Town;") (List.mem_of_getElem? (i := 1) rfl)) (fun _ h9 => h9) rfl dX6_drawWorld_43 ?_
      refine va_get (D := D) (ci := 5) (v := .ref ((a0 2) 3)) (C := RX5) (T := TX5) (N := 14) hx hb hts hiX5 hown hK hP 6 rfl rfl 2 (by decide) (hts (.fieldLink RX6 105 "ClockOnce$Town" "tenths" "[I") (List.mem_of_getElem? (i := 7) rfl)) (fun _ h9 => h9) rfl dX6_drawWorld_46 ?_
      refine lv_iload_n hx hb dX6_drawWorld_49 rfl (lv_at hl 2 rfl) ?_
      obtain ⟨v_4, ev_4, hiv_4, h⟩ := mk_rdE h
      refine va_iald hx hb hK hP 9 0 rfl rfl hiv_4 dX6_drawWorld_50 ?_
      refine mk_topi ev_4 ?_
      refine lv_i2l (v := (v_4.toInt64)) hx hb dX6_drawWorld_51 rfl ?_
      refine W.lcmp hx hb dX6_drawWorld_52 ?_
      refine lv_if_lt (tgt := 62) hx hb dX6_drawWorld_53 (by decide) (fun q_5 => ?_) (fun q_5 => ?_)
      · have h := mk_ifp q_5 h
        refine lv_iinc (v := (x2 + (1 : Int32))) (lv' := [(2, .int (x2 + (1 : Int32))), (0, .ref ((a0 0) 0)), (1, .int x1)]) hx hb dX6_drawWorld_62 hl (k := 2) rfl rfl (by decide) rfl (fun ls hl => ?_)
        refine lv_goto (tgt := 4) hx hb dX6_drawWorld_65 (by decide) ?_
        exact ih4 y_3 x1 (x2 + (1 : Int32)) h H locs ls hP hD hS (lv_sub hl [1, 2, 0] rfl)
      · have h := mk_ifn q_5 h
        refine lv_iload_n hx hb dX6_drawWorld_56 rfl (lv_at hl 1 rfl) ?_
        refine lv_iconst (v := (1 : Int32)) hx hb dX6_drawWorld_57 (by decide) ?_
        refine lv_iload_n hx hb dX6_drawWorld_58 rfl (lv_at hl 2 rfl) ?_
        refine lv_ishl hx hb dX6_drawWorld_59 ?_
        refine lv_ior hx hb dX6_drawWorld_60 ?_
        refine lv_istore_n (lv' := [(1, .int (x1 ||| ((1 : Int32) <<< (x2 &&& 31)))), (0, .ref ((a0 0) 0)), (2, .int x2)]) hx hb dX6_drawWorld_61 rfl hl (by decide) rfl (fun ls hl => ?_)
        refine lv_iinc (v := (x2 + (1 : Int32))) (lv' := [(2, .int (x2 + (1 : Int32))), (1, .int (x1 ||| ((1 : Int32) <<< (x2 &&& 31)))), (0, .ref ((a0 0) 0))]) hx hb dX6_drawWorld_62 hl (k := 2) rfl rfl (by decide) rfl (fun ls hl => ?_)
        refine lv_goto (tgt := 4) hx hb dX6_drawWorld_65 (by decide) ?_
        exact ih4 y_3 (x1 ||| ((1 : Int32) <<< (x2 &&& 31))) (x2 + (1 : Int32)) h H locs ls hP hD hS (lv_sub hl [2, 1, 0] rfl)
  unfold f_X6_drawWorld at h
  refine lv_iconst (v := (0 : Int32)) hx hb dX6_drawWorld_0 (by decide) ?_
  refine lv_istore_n (lv' := [(1, .int (0 : Int32)), (0, .ref ((a0 0) 0))]) hx hb dX6_drawWorld_1 rfl hl (by decide) rfl (fun ls hl => ?_)
  refine lv_iconst (v := (0 : Int32)) hx hb dX6_drawWorld_2 (by decide) ?_
  refine lv_istore_n (lv' := [(2, .int (0 : Int32)), (1, .int (0 : Int32)), (0, .ref ((a0 0) 0))]) hx hb dX6_drawWorld_3 rfl hl (by decide) rfl (fun ls hl => ?_)
  exact K4 sd (0 : Int32) (0 : Int32) H locs ls hP hD hS (lv_sub hl [2, 1, 0] rfl) h

abbrev rm_X6_readText : Room := { frames := 6, cells := 0, slots := 0, locals := 134 }
set_option maxRecDepth 20000 in
theorem k_X6_readText_X3_isAtEnd_279 : GoodIn wsX6_readText (wsV RX6 279 RX3 yX3_isAtEnd wsX3_isAtEnd) := goodIn_r _ [99, 100, 101, 8, 102, 10, 11, 115, 116, 117, 118] rfl (by decide +kernel)
set_option maxRecDepth 20000 in
theorem k_X6_readText_X3_takes_275 : GoodIn wsX6_readText (wsV RX6 275 RX3 yX3_takes wsX3_takes) := goodIn_r _ [21, 22, 23, 8, 24, 10, 11, 25, 26, 27, 28, 8, 29, 30, 31, 32, 15, 33, 17, 34, 35, 36, 37, 19, 38, 39, 40, 41, 20, 42, 43, 44, 45, 46, 47, 48, 49, 50, 51, 18, 52, 53, 54, 55, 56, 57, 58, 59, 60, 61, 62, 63, 64, 65, 66, 67, 68, 69, 70, 71, 72, 73, 74, 75, 76, 77, 78, 79, 80, 81, 82, 83, 84, 85, 86, 87, 88, 89, 90, 91, 92, 93, 94, 95, 96, 97, 98, 115, 116, 117, 118, 119, 120, 121, 122, 123, 124, 125, 126, 127, 128, 129, 130, 131, 132] rfl (by decide +kernel)
set_option maxRecDepth 20000 in
theorem k_X6_readText_X3_startAnew_272 : GoodIn wsX6_readText (wsV RX6 272 RX3 yX3_startAnew wsX3_startAnew) := goodIn_r _ [5, 6, 7, 8, 9, 10, 11, 12, 13, 14, 15, 16, 17, 18, 19, 20, 115, 116, 117, 118, 119, 120, 121, 122, 123, 124, 125, 126, 127, 128, 129, 130, 131, 132] rfl (by decide +kernel)
set_option maxHeartbeats 4000000 in
set_option maxRecDepth 100000 in
theorem c_X6_readText (l : Launch) (D : va_G) (cI cZ cO : ClassId) (N : Nat) (a0 : Nat → Nat → Nat) (c0 : CU) (sd : Int64) (sz : Nat) (out : Int32 × CU) (h : f_X6_readText N c0 sd = some out) : Met l yX6_readText wsX6_readText rm_X6_readText (va_Pc [.ref ((a0 0) 0)] (mk_Pe D vwCl (tyA cI cZ cO) (wX6 cI cO a0 c0 sd) sz)) (va_Qi (fun r u => (r, u) = out) (mk_Be D vwCl (wX6 cI cO a0 c0 sd) sz (fun q => (wX6 cI cO a0 q sd))) (va_A (wX6 cI cO a0 c0 sd) sz)) 0 0 (va_A (wX6 cI cO a0 c0 sd) sz) := by
  refine em_i (own := RX6) (cc := cX6_readText) (maxL := 2) (by decide) rfl rfl (Nat.le_of_ble_eq_true rfl) ?_
  intro p e s m args below meth c Q A H0 H locs ls hx hb hml hown hts hP hK hD hS hA hl hret
  have hl : lv_has ls 2 [(0, .ref ((a0 0) 0))] := hl
  have hiX6 : ∀ w ∈ u_ws RX6 TX6 12, w ∈ wsX6_readText := mk_seg 103 12 rfl
  have K13 : ∀ (c0 : CU) (x1 : Int32) (H : Heap) (locs : List Loc) (ls : Array Slot), va_P D vwCl (wX6 cI cO a0 c0 sd) H → va_D A (wX6 cI cO a0 c0 sd) → va_S A H0 H locs → lv_has ls 2 [(0, .ref ((a0 0) 0)), (1, .int x1)] → lq2 (g_X6_readText_13 N sd) N c0 x1 = some out → W p l e rm_X6_readText s m args below meth c H locs 0 0 Q (F0 m 13 ls []) := by
    intro c0 x1 H locs ls hP hD hS hl h
    refine lq2_W (Wd := fun c0 x1 => ∀ (H : Heap) (locs : List Loc) (ls : Array Slot), va_P D vwCl (wX6 cI cO a0 c0 sd) H → va_D A (wX6 cI cO a0 c0 sd) → va_S A H0 H locs → lv_has ls 2 [(0, .ref ((a0 0) 0)), (1, .int x1)] → W p l e rm_X6_readText s m args below meth c H locs 0 0 Q (F0 m 13 ls [])) (fun rec13 ih13 c0 x1 h H locs ls hP hD hS hl => ?_) N c0 x1 h H locs ls hP hD hS hl
    unfold g_X6_readText_13 at h
    refine lv_iload_n hx hb dX6_readText_13 rfl (lv_at hl 1 rfl) ?_
    refine lv_aload_n hx hb dX6_readText_14 rfl (lv_at hl 0 rfl) ?_
    refine va_get (D := D) (ci := 6) (v := .int ((c0 0) 0 0)) (C := RX6) (T := TX6) (N := 12) hx hb hts hiX6 hown hK hP 0 rfl rfl 1 (by decide) (hts (.fieldLink RX6 13 "ClockOnce" "length" "I") (List.mem_of_getElem? (i := 3) rfl)) (fun _ h9 => h9) rfl dX6_readText_15 ?_
    refine lv_icmp_ge (tgt := 49) hx hb dX6_readText_18 (by decide) (fun q_1 => ?_) (fun q_1 => ?_)
    · have h := mk_ifp q_1 h
      refine lv_aload_n hx hb dX6_readText_49 rfl (lv_at hl 0 rfl) ?_
      refine va_get (D := D) (ci := 6) (v := .ref ((a0 1) 0)) (C := RX6) (T := TX6) (N := 12) hx hb hts hiX6 hown hK hP 0 rfl rfl 2 (by decide) (hts (.fieldLink RX6 20 "ClockOnce" "reader" "LClockOnce$Reader;") (List.mem_of_getElem? (i := 1) rfl)) (fun _ h9 => h9) rfl dX6_readText_50 ?_
      obtain ⟨r_2, er_2, h⟩ := mk_bd h
      refine pc_v (As := []) (rest := []) ⟨hx, hb, hml, hown, hts⟩ (c_X3_isAtEnd l D cI cZ cO N (a0 1) (c0 1) r_2 er_2) (cwV 0 hts k_X6_readText_X3_isAtEnd_279 rfl rfl rfl (by decide +kernel) ⟨(Nat.le_of_ble_eq_true rfl), (Nat.le_of_ble_eq_true rfl)⟩) (va_recv hK hP (ci := 3) (q0 := 4) rfl rfl) (hP.sub (ws' := wX3 cI (a0 1) (c0 1)) [4, 5] rfl) hK rfl hl.1 rfl (Nat.le_of_ble_eq_true rfl) dX6_readText_53 ⟨Nat.zero_le _, Nat.zero_le _⟩ ?_
      refine lv_if_eq (tgt := 64) hx hb dX6_readText_56 (by decide) (fun q_3 => ?_) (fun q_3 => ?_)
      · have h := mk_ifp q_3 h
        refine lv_aload_n hx hb dX6_readText_64 rfl (lv_at hl 0 rfl) ?_
        refine va_get (D := D) (ci := 6) (v := .int ((c0 0) 0 0)) (C := RX6) (T := TX6) (N := 12) hx hb hts hiX6 hown hK hP 0 rfl rfl 1 (by decide) (hts (.fieldLink RX6 13 "ClockOnce" "length" "I") (List.mem_of_getElem? (i := 3) rfl)) (fun _ h9 => h9) rfl dX6_readText_65 ?_
        exact hret _ _ _ _ _ _ h hP hD hS dX6_readText_68
      · have h := mk_ifn q_3 h
        refine lv_bipush (v := (-9 : Int32)) hx hb dX6_readText_59 (by decide) ?_
        refine lv_goto (tgt := 68) hx hb dX6_readText_61 (by decide) ?_
        exact hret _ _ _ _ _ _ h hP hD hS dX6_readText_68
    · have h := mk_ifn q_1 h
      refine lv_aload_n hx hb dX6_readText_21 rfl (lv_at hl 0 rfl) ?_
      refine va_get (D := D) (ci := 6) (v := .ref ((a0 1) 0)) (C := RX6) (T := TX6) (N := 12) hx hb hts hiX6 hown hK hP 0 rfl rfl 2 (by decide) (hts (.fieldLink RX6 20 "ClockOnce" "reader" "LClockOnce$Reader;") (List.mem_of_getElem? (i := 1) rfl)) (fun _ h9 => h9) rfl dX6_readText_22 ?_
      refine lv_aload_n hx hb dX6_readText_25 rfl (lv_at hl 0 rfl) ?_
      refine va_get (D := D) (ci := 6) (v := .ref ((a0 0) 1)) (C := RX6) (T := TX6) (N := 12) hx hb hts hiX6 hown hK hP 0 rfl rfl 0 (by decide) (hts (.fieldLink RX6 9 "ClockOnce" "letters" "[I") (List.mem_of_getElem? (i := 4) rfl)) (fun _ h9 => h9) rfl dX6_readText_26 ?_
      refine lv_iload_n hx hb dX6_readText_29 rfl (lv_at hl 1 rfl) ?_
      obtain ⟨v_4, ev_4, hiv_4, h⟩ := mk_rdE h
      refine va_iald hx hb hK hP 1 0 rfl rfl hiv_4 dX6_readText_30 ?_
      refine mk_topi ev_4 ?_
      refine lv_aload_n hx hb dX6_readText_31 rfl (lv_at hl 0 rfl) ?_
      refine va_get (D := D) (ci := 6) (v := .ref ((a0 3) 0)) (C := RX6) (T := TX6) (N := 12) hx hb hts hiX6 hown hK hP 0 rfl rfl 4 (by decide) (hts (.fieldLink RX6 31 "ClockOnce" "draft" "LClockOnce$Town;") (List.mem_of_getElem? (i := 2) rfl)) (fun _ h9 => h9) rfl dX6_readText_32 ?_
      obtain ⟨r_5, er_5, h⟩ := mk_bd h
      refine ec_vi (As := [.int v_4, .ref ((a0 3) 0)]) (rest := []) (w' := (wX6 cI cO a0 (mk_set3 (mk_set3 c0 1 r_5.2.1) 3 r_5.2.2) sd)) ⟨hx, hb, hml, hown, hts⟩ (c_X3_takes l D cI cZ cO N (a0 1) (c0 1) (a0 3) (c0 3) v_4 H.size r_5 er_5) (cwV 2 hts k_X6_readText_X3_takes_275 rfl rfl rfl (by decide +kernel) ⟨(Nat.le_of_ble_eq_true rfl), (Nat.le_of_ble_eq_true rfl)⟩) (va_recv hK hP (ci := 3) (q0 := 4) rfl rfl) hK hP hD hS hA [4, 5, 16, 17, 18, 19, 20, 21, 22, 23, 24, 25] [0, 1, 2, 3, 6, 7, 8, 9, 10, 11, 12, 13, 14, 15, 26, 27, 28, 29, 30, 31, 32, 33, 34, 35, 36, 37, 38, 39, 40, 41, 42, 43] [0, 1, 2, 3, 32, 33, 4, 5, 6, 7, 8, 9, 10, 11, 12, 13, 34, 35, 36, 37, 38, 39, 40, 41, 42, 43, 14, 15, 16, 17, 18, 19, 20, 21, 22, 23, 24, 25, 26, 27, 28, 29, 30, 31] (hP.sub (ws' := wX3 cI (a0 1) (c0 1) ++ wX5 cI (a0 3) (c0 3)) [4, 5, 16, 17, 18, 19, 20, 21, 22, 23, 24, 25] rfl) (hD.sub (ws' := wX3 cI (a0 1) (c0 1) ++ wX5 cI (a0 3) (c0 3)) [4, 5, 16, 17, 18, 19, 20, 21, 22, 23, 24, 25] (by decide) rfl) rfl rfl (by decide) (by decide) rfl (by decide) rfl hl.1 rfl (Nat.le_of_ble_eq_true rfl) dX6_readText_35 ⟨Nat.zero_le _, Nat.zero_le _⟩ (fun H locs hP hD hS => ?_)
      obtain ⟨w_6, ew_6, h⟩ := mk_nmE h
      rw [← ew_6] at hP hD
      obtain ⟨w_7, ew_7, h⟩ := mk_nmE h
      rw [← ew_7] at hP hD
      refine lv_if_ne (tgt := 43) hx hb dX6_readText_38 (by decide) (fun q_8 => ?_) (fun q_8 => ?_)
      · have h := mk_ifn q_8 h
        refine lv_iinc (v := (x1 + (1 : Int32))) (lv' := [(1, .int (x1 + (1 : Int32))), (0, .ref ((a0 0) 0))]) hx hb dX6_readText_43 hl (k := 1) rfl rfl (by decide) rfl (fun ls hl => ?_)
        refine lv_goto (tgt := 13) hx hb dX6_readText_46 (by decide) ?_
        exact ih13 w_7 (x1 + (1 : Int32)) h H locs ls hP hD hS (lv_sub hl [1, 0] rfl)
      · have h := mk_ifp q_8 h
        refine lv_iload_n hx hb dX6_readText_41 rfl (lv_at hl 1 rfl) ?_
        exact hret _ _ _ _ _ _ h hP hD hS dX6_readText_42
  unfold f_X6_readText at h
  refine lv_aload_n hx hb dX6_readText_0 rfl (lv_at hl 0 rfl) ?_
  refine va_get (D := D) (ci := 6) (v := .ref ((a0 1) 0)) (C := RX6) (T := TX6) (N := 12) hx hb hts hiX6 hown hK hP 0 rfl rfl 2 (by decide) (hts (.fieldLink RX6 20 "ClockOnce" "reader" "LClockOnce$Reader;") (List.mem_of_getElem? (i := 1) rfl)) (fun _ h9 => h9) rfl dX6_readText_1 ?_
  refine lv_aload_n hx hb dX6_readText_4 rfl (lv_at hl 0 rfl) ?_
  refine va_get (D := D) (ci := 6) (v := .ref ((a0 3) 0)) (C := RX6) (T := TX6) (N := 12) hx hb hts hiX6 hown hK hP 0 rfl rfl 4 (by decide) (hts (.fieldLink RX6 31 "ClockOnce" "draft" "LClockOnce$Town;") (List.mem_of_getElem? (i := 2) rfl)) (fun _ h9 => h9) rfl dX6_readText_5 ?_
  obtain ⟨r_9, er_9, h⟩ := mk_bd h
  refine ec_vv (As := [.ref ((a0 3) 0)]) (rest := []) (w' := (wX6 cI cO a0 (mk_set3 (mk_set3 c0 1 r_9.1) 3 r_9.2) sd)) ⟨hx, hb, hml, hown, hts⟩ (c_X3_startAnew l D cI cZ cO N (a0 1) (c0 1) (a0 3) (c0 3) H.size r_9 er_9) (cwV 1 hts k_X6_readText_X3_startAnew_272 rfl rfl rfl (by decide +kernel) ⟨(Nat.le_of_ble_eq_true rfl), (Nat.le_of_ble_eq_true rfl)⟩) (va_recv hK hP (ci := 3) (q0 := 4) rfl rfl) hK hP hD hS hA [4, 5, 16, 17, 18, 19, 20, 21, 22, 23, 24, 25] [0, 1, 2, 3, 6, 7, 8, 9, 10, 11, 12, 13, 14, 15, 26, 27, 28, 29, 30, 31, 32, 33, 34, 35, 36, 37, 38, 39, 40, 41, 42, 43] [0, 1, 2, 3, 32, 33, 4, 5, 6, 7, 8, 9, 10, 11, 12, 13, 34, 35, 36, 37, 38, 39, 40, 41, 42, 43, 14, 15, 16, 17, 18, 19, 20, 21, 22, 23, 24, 25, 26, 27, 28, 29, 30, 31] (hP.sub (ws' := wX3 cI (a0 1) (c0 1) ++ wX5 cI (a0 3) (c0 3)) [4, 5, 16, 17, 18, 19, 20, 21, 22, 23, 24, 25] rfl) (hD.sub (ws' := wX3 cI (a0 1) (c0 1) ++ wX5 cI (a0 3) (c0 3)) [4, 5, 16, 17, 18, 19, 20, 21, 22, 23, 24, 25] (by decide) rfl) rfl rfl (by decide) (by decide) rfl (by decide) rfl hl.1 rfl (Nat.le_of_ble_eq_true rfl) dX6_readText_8 ⟨Nat.zero_le _, Nat.zero_le _⟩ (fun H locs hP hD hS => ?_)
  obtain ⟨w_10, ew_10, h⟩ := mk_nmE h
  rw [← ew_10] at hP hD
  obtain ⟨w_11, ew_11, h⟩ := mk_nmE h
  rw [← ew_11] at hP hD
  refine lv_iconst (v := (0 : Int32)) hx hb dX6_readText_11 (by decide) ?_
  refine lv_istore_n (lv' := [(1, .int (0 : Int32)), (0, .ref ((a0 0) 0))]) hx hb dX6_readText_12 rfl hl (by decide) rfl (fun ls hl => ?_)
  exact K13 w_11 (0 : Int32) H locs ls hP hD hS (lv_sub hl [1, 0] rfl) h

abbrev rm_X6_fault : Room := { frames := 7, cells := 0, slots := 0, locals := 155 }
set_option maxRecDepth 20000 in
theorem k_X6_fault_X6_readText_73 : GoodIn wsX6_fault (wsV RX6 73 RX6 yX6_readText wsX6_readText) := goodIn_r _ [1, 2, 3, 4, 5, 6, 7, 8, 9, 10, 11, 12, 13, 14, 15, 16, 17, 18, 19, 20, 21, 22, 23, 24, 25, 26, 27, 28, 29, 30, 31, 32, 33, 34, 35, 36, 37, 38, 39, 40, 41, 42, 43, 44, 45, 46, 47, 48, 49, 50, 51, 52, 53, 54, 55, 56, 57, 58, 59, 60, 61, 62, 63, 64, 65, 66, 67, 68, 69, 70, 71, 72, 73, 74, 75, 76, 77, 78, 79, 80, 81, 82, 83, 84, 85, 86, 87, 88, 89, 90, 91, 92, 93, 94, 95, 96, 97, 98, 99, 100, 101, 102, 103, 104, 105, 106, 107, 108, 109, 110, 111, 112, 113, 114, 115, 116, 117, 118, 119, 120, 121, 122, 123, 124, 125, 126, 127, 128, 129, 130, 131, 132, 133, 134, 135, 136, 137] rfl (by decide +kernel)
set_option maxHeartbeats 4000000 in
set_option maxRecDepth 100000 in
theorem c_X6_fault (l : Launch) (D : va_G) (cI cZ cO : ClassId) (N : Nat) (a0 : Nat → Nat → Nat) (c0 : CU) (sd : Int64) (sz : Nat) (out : Int32 × CU) (h : f_X6_fault N c0 sd = some out) : Met l yX6_fault wsX6_fault rm_X6_fault (va_Pc [.ref ((a0 0) 0)] (mk_Pe D vwCl (tyA cI cZ cO) (wX6 cI cO a0 c0 sd) sz)) (va_Qi (fun r u => (r, u) = out) (mk_Be D vwCl (wX6 cI cO a0 c0 sd) sz (fun q => (wX6 cI cO a0 q sd))) (va_A (wX6 cI cO a0 c0 sd) sz)) 0 0 (va_A (wX6 cI cO a0 c0 sd) sz) := by
  refine em_i (own := RX6) (cc := cX6_fault) (maxL := 1) (by decide) rfl rfl (Nat.le_of_ble_eq_true rfl) ?_
  intro p e s m args below meth c Q A H0 H locs ls hx hb hml hown hts hP hK hD hS hA hl hret
  have hl : lv_has ls 1 [(0, .ref ((a0 0) 0))] := hl
  unfold f_X6_fault at h
  refine lv_aload_n hx hb dX6_fault_0 rfl (lv_at hl 0 rfl) ?_
  obtain ⟨r_1, er_1, h⟩ := mk_bd h
  refine es_vi (As := []) (rest := []) (w' := (wX6 cI cO a0 r_1.2 sd)) ⟨hx, hb, hml, hown, hts⟩ (c_X6_readText l D cI cZ cO N a0 c0 sd H.size r_1 er_1) (cwV 0 hts k_X6_fault_X6_readText_73 rfl rfl rfl (by decide +kernel) ⟨(Nat.le_of_ble_eq_true rfl), (Nat.le_of_ble_eq_true rfl)⟩) (va_recv hK hP (ci := 6) (q0 := 0) rfl rfl) hK hP hD hS hA rfl rfl hl.1 rfl (Nat.le_of_ble_eq_true rfl) dX6_fault_1 ⟨Nat.zero_le _, Nat.zero_le _⟩ (fun H locs hP hD hS => ?_)
  exact hret _ _ _ _ _ _ h hP hD hS dX6_fault_4

abbrev rm_X6_fewest : Room := { frames := 5, cells := 0, slots := 0, locals := 113 }
set_option maxRecDepth 20000 in
theorem k_X6_fewest_J6_bitCount_0f7a4_155 : GoodIn wsX6_fewest (va_wsS RX6 155 yJ6_bitCount_0f7a4 wsJ6_bitCount_0f7a4) := goodIn_r _ [39, 40, 41, 42, 43, 44, 45] rfl (by decide +kernel)
set_option maxRecDepth 20000 in
theorem k_X6_fewest_X5_tellsApart_200 : GoodIn wsX6_fewest (wsV RX6 200 RX5 yX5_tellsApart wsX5_tellsApart) := goodIn_r _ [46, 47, 48, 8, 49, 12, 31, 32, 33, 8, 34, 50, 40, 41, 42, 43, 44, 45, 68, 69, 70, 71, 72, 73, 74, 75, 76, 77, 78, 79, 80, 81] rfl (by decide +kernel)
set_option maxRecDepth 20000 in
theorem k_X6_fewest_X5_worldsSeenOn_160 : GoodIn wsX6_fewest (wsV RX6 160 RX5 yX5_worldsSeenOn wsX5_worldsSeenOn) := goodIn_r _ [5, 6, 7, 8, 9, 10, 11, 12, 13, 14, 15, 8, 16, 17, 18, 19, 20, 21, 22, 23, 24, 25, 26, 27, 28, 29, 30, 31, 32, 33, 34, 35, 36, 37, 38, 68, 69, 70, 71, 72, 73, 74, 75, 76, 77, 78, 79, 80, 81] rfl (by decide +kernel)
set_option maxHeartbeats 4000000 in
set_option maxRecDepth 100000 in
theorem c_X6_fewest (l : Launch) (D : va_G) (cI cZ cO : ClassId) (N : Nat) (a0 : Nat → Nat → Nat) (c0 : CU) (sd : Int64) (out : Int32) (h : f_X6_fewest N c0 sd = some out) : Met l yX6_fewest wsX6_fewest rm_X6_fewest (va_Pc [.ref ((a0 0) 0)] (fun U => va_P D vwCl (wX6 cI cO a0 c0 sd) U.heap ∧ va_K D vwCl (tyA cI cZ cO) U)) (vp_Si (fun r => r = out)) 0 0 (fun _ => False) := by
  refine pm_i (own := RX6) (cc := cX6_fewest) (maxL := 4) (by decide) rfl rfl (Nat.le_of_ble_eq_true rfl) ?_
  intro p e s m args below meth c Q H ls hx hb hml hown hts hP hK hl hret
  have hl : lv_has ls 4 [(0, .ref ((a0 0) 0))] := hl
  have hiX2 : ∀ w ∈ u_ws RX2 TX2 5, w ∈ wsX6_fewest := mk_seg 63 5 rfl
  have hiX5 : ∀ w ∈ u_ws RX5 TX5 14, w ∈ wsX6_fewest := mk_seg 68 14 rfl
  have hiX6 : ∀ w ∈ u_ws RX6 TX6 12, w ∈ wsX6_fewest := mk_seg 51 12 rfl
  have K29 : ∀ (x1 : Int32) (x2 : Int32) (x3 : Int32) (ls : Array Slot), lv_has ls 4 [(0, .ref ((a0 0) 0)), (1, .int x1), (2, .int x2), (3, .int x3)] → lq2 (g_X6_fewest_29 N c0 sd x1) N x2 x3 = some out → W p l e rm_X6_fewest s m args below meth c H [] 0 0 Q (F0 m 29 ls []) := by
    intro x1 x2 x3 ls hl h
    refine lq2_W (Wd := fun x2 x3 => ∀ (ls : Array Slot), lv_has ls 4 [(0, .ref ((a0 0) 0)), (1, .int x1), (2, .int x2), (3, .int x3)] → W p l e rm_X6_fewest s m args below meth c H [] 0 0 Q (F0 m 29 ls [])) (fun rec29 ih29 x2 x3 h ls hl => ?_) N x2 x3 h ls hl
    unfold g_X6_fewest_29 at h
    refine lv_iload_n hx hb dX6_fewest_29 rfl (lv_at hl 3 rfl) ?_
    refine lv_iconst (v := (1 : Int32)) hx hb dX6_fewest_30 (by decide) ?_
    refine lv_aload_n hx hb dX6_fewest_31 rfl (lv_at hl 0 rfl) ?_
    refine va_get (D := D) (ci := 6) (v := .ref ((a0 2) 0)) (C := RX6) (T := TX6) (N := 12) hx hb hts hiX6 hown hK hP 0 rfl rfl 3 (by decide) (hts (.fieldLink RX6 27 "ClockOnce" "town" "LClockOnce$Town;") (List.mem_of_getElem? (i := 1) rfl)) (fun _ h9 => h9) rfl dX6_fewest_32 ?_
    refine va_get (D := D) (ci := 5) (v := .int ((c0 2) 0 0)) (C := RX5) (T := TX5) (N := 14) hx hb hts hiX5 hown hK hP 6 rfl rfl 4 (by decide) (hts (.fieldLink RX6 89 "ClockOnce$Town" "things" "I") (List.mem_of_getElem? (i := 4) rfl)) (fun _ h9 => h9) rfl dX6_fewest_35 ?_
    refine lv_ishl hx hb dX6_fewest_38 ?_
    refine lv_icmp_ge (tgt := 73) hx hb dX6_fewest_39 (by decide) (fun q_1 => ?_) (fun q_1 => ?_)
    · have h := mk_ifp q_1 h
      refine lv_iload_n hx hb dX6_fewest_73 rfl (lv_at hl 2 rfl) ?_
      exact hret _ _ _ h dX6_fewest_74
    · have h := mk_ifn q_1 h
      refine lv_iload_n hx hb dX6_fewest_42 rfl (lv_at hl 3 rfl) ?_
      obtain ⟨r_2, er_2, h⟩ := mk_bd h
      refine pc_s (As := [.int x3]) (rest := []) ⟨hx, hb, hml, hown, hts⟩ (c_J6_bitCount_0f7a4 l D cI cZ cO N x3 r_2 er_2) (va_cwS 1 hts k_X6_fewest_J6_bitCount_0f7a4_155 rfl rfl rfl (by decide +kernel) ⟨(Nat.le_of_ble_eq_true rfl), (Nat.le_of_ble_eq_true rfl)⟩) (hP.sub (ws' := []) [] rfl) hK rfl hl.1 rfl (Nat.le_of_ble_eq_true rfl) dX6_fewest_43 ⟨Nat.zero_le _, Nat.zero_le _⟩ ?_
      refine lv_iload_n hx hb dX6_fewest_46 rfl (lv_at hl 2 rfl) ?_
      obtain ⟨r_3, er_3, h⟩ := mk_bd h
      refine pc_s (As := [.int x2]) (rest := [.int r_2]) ⟨hx, hb, hml, hown, hts⟩ (c_J6_bitCount_0f7a4 l D cI cZ cO N x2 r_3 er_3) (va_cwS 1 hts k_X6_fewest_J6_bitCount_0f7a4_155 rfl rfl rfl (by decide +kernel) ⟨(Nat.le_of_ble_eq_true rfl), (Nat.le_of_ble_eq_true rfl)⟩) (hP.sub (ws' := []) [] rfl) hK rfl hl.1 rfl (Nat.le_of_ble_eq_true rfl) dX6_fewest_47 ⟨Nat.zero_le _, Nat.zero_le _⟩ ?_
      refine lv_icmp_ge (tgt := 67) hx hb dX6_fewest_50 (by decide) (fun q_4 => ?_) (fun q_4 => ?_)
      · have h := mk_ifp q_4 h
        refine lv_iinc (v := (x3 + (1 : Int32))) (lv' := [(3, .int (x3 + (1 : Int32))), (0, .ref ((a0 0) 0)), (1, .int x1), (2, .int x2)]) hx hb dX6_fewest_67 hl (k := 3) rfl rfl (by decide) rfl (fun ls hl => ?_)
        refine lv_goto (tgt := 29) hx hb dX6_fewest_70 (by decide) ?_
        exact ih29 x2 (x3 + (1 : Int32)) h ls (lv_sub hl [1, 2, 3, 0] rfl)
      · have h := mk_ifn q_4 h
        refine lv_aload_n hx hb dX6_fewest_53 rfl (lv_at hl 0 rfl) ?_
        refine va_get (D := D) (ci := 6) (v := .ref ((a0 2) 0)) (C := RX6) (T := TX6) (N := 12) hx hb hts hiX6 hown hK hP 0 rfl rfl 3 (by decide) (hts (.fieldLink RX6 27 "ClockOnce" "town" "LClockOnce$Town;") (List.mem_of_getElem? (i := 1) rfl)) (fun _ h9 => h9) rfl dX6_fewest_54 ?_
        refine lv_iload_n hx hb dX6_fewest_57 rfl (lv_at hl 1 rfl) ?_
        refine lv_iload_n hx hb dX6_fewest_58 rfl (lv_at hl 3 rfl) ?_
        obtain ⟨r_5, er_5, h⟩ := mk_bd h
        refine pc_v (As := [.int x1, .int x3]) (rest := []) ⟨hx, hb, hml, hown, hts⟩ (c_X5_tellsApart l D cI cZ cO N (a0 2) (c0 2) x1 x3 r_5 er_5) (cwV 2 hts k_X6_fewest_X5_tellsApart_200 rfl rfl rfl (by decide +kernel) ⟨(Nat.le_of_ble_eq_true rfl), (Nat.le_of_ble_eq_true rfl)⟩) (va_recv hK hP (ci := 5) (q0 := 6) rfl rfl) (hP.sub (ws' := wX5 cI (a0 2) (c0 2)) [6, 7, 8, 9, 10, 11, 12, 13, 14, 15] rfl) hK rfl hl.1 rfl (Nat.le_of_ble_eq_true rfl) dX6_fewest_59 ⟨Nat.zero_le _, Nat.zero_le _⟩ ?_
        refine lv_if_eq (tgt := 67) hx hb dX6_fewest_62 (by decide) (fun q_6 => ?_) (fun q_6 => ?_)
        · have h := mk_ifp q_6 h
          refine lv_iinc (v := (x3 + (1 : Int32))) (lv' := [(3, .int (x3 + (1 : Int32))), (0, .ref ((a0 0) 0)), (1, .int x1), (2, .int x2)]) hx hb dX6_fewest_67 hl (k := 3) rfl rfl (by decide) rfl (fun ls hl => ?_)
          refine lv_goto (tgt := 29) hx hb dX6_fewest_70 (by decide) ?_
          exact ih29 x2 (x3 + (1 : Int32)) h ls (lv_sub hl [1, 2, 3, 0] rfl)
        · have h := mk_ifn q_6 h
          refine lv_iload_n hx hb dX6_fewest_65 rfl (lv_at hl 3 rfl) ?_
          refine lv_istore_n (lv' := [(2, .int x3), (0, .ref ((a0 0) 0)), (1, .int x1), (3, .int x3)]) hx hb dX6_fewest_66 rfl hl (by decide) rfl (fun ls hl => ?_)
          refine lv_iinc (v := (x3 + (1 : Int32))) (lv' := [(3, .int (x3 + (1 : Int32))), (2, .int x3), (0, .ref ((a0 0) 0)), (1, .int x1)]) hx hb dX6_fewest_67 hl (k := 3) rfl rfl (by decide) rfl (fun ls hl => ?_)
          refine lv_goto (tgt := 29) hx hb dX6_fewest_70 (by decide) ?_
          exact ih29 x3 (x3 + (1 : Int32)) h ls (lv_sub hl [2, 3, 1, 0] rfl)
  unfold f_X6_fewest at h
  refine lv_aload_n hx hb dX6_fewest_0 rfl (lv_at hl 0 rfl) ?_
  refine va_get (D := D) (ci := 6) (v := .ref ((a0 2) 0)) (C := RX6) (T := TX6) (N := 12) hx hb hts hiX6 hown hK hP 0 rfl rfl 3 (by decide) (hts (.fieldLink RX6 27 "ClockOnce" "town" "LClockOnce$Town;") (List.mem_of_getElem? (i := 1) rfl)) (fun _ h9 => h9) rfl dX6_fewest_1 ?_
  refine lv_aload_n hx hb dX6_fewest_4 rfl (lv_at hl 0 rfl) ?_
  refine va_get (D := D) (ci := 6) (v := .ref ((a0 4) 0)) (C := RX6) (T := TX6) (N := 12) hx hb hts hiX6 hown hK hP 0 rfl rfl 5 (by decide) (hts (.fieldLink RX6 37 "ClockOnce" "life" "LClockOnce$Life;") (List.mem_of_getElem? (i := 2) rfl)) (fun _ h9 => h9) rfl dX6_fewest_5 ?_
  refine va_get (D := D) (ci := 2) (v := .int ((c0 4) 0 0)) (C := RX2) (T := TX2) (N := 5) hx hb hts hiX2 hown hK hP 26 rfl rfl 0 (by decide) (hts (.fieldLink RX6 143 "ClockOnce$Life" "day" "I") (List.mem_of_getElem? (i := 3) rfl)) (fun _ h9 => h9) rfl dX6_fewest_8 ?_
  obtain ⟨r_7, er_7, h⟩ := mk_bd h
  refine pc_v (As := [.int ((c0 4) 0 0)]) (rest := []) ⟨hx, hb, hml, hown, hts⟩ (c_X5_worldsSeenOn l D cI cZ cO N (a0 2) (c0 2) ((c0 4) 0 0) r_7 er_7) (cwV 1 hts k_X6_fewest_X5_worldsSeenOn_160 rfl rfl rfl (by decide +kernel) ⟨(Nat.le_of_ble_eq_true rfl), (Nat.le_of_ble_eq_true rfl)⟩) (va_recv hK hP (ci := 5) (q0 := 6) rfl rfl) (hP.sub (ws' := wX5 cI (a0 2) (c0 2)) [6, 7, 8, 9, 10, 11, 12, 13, 14, 15] rfl) hK rfl hl.1 rfl (Nat.le_of_ble_eq_true rfl) dX6_fewest_11 ⟨Nat.zero_le _, Nat.zero_le _⟩ ?_
  refine lv_istore_n (lv' := [(1, .int r_7), (0, .ref ((a0 0) 0))]) hx hb dX6_fewest_14 rfl hl (by decide) rfl (fun ls hl => ?_)
  refine lv_iconst (v := (1 : Int32)) hx hb dX6_fewest_15 (by decide) ?_
  refine lv_aload_n hx hb dX6_fewest_16 rfl (lv_at hl 1 rfl) ?_
  refine va_get (D := D) (ci := 6) (v := .ref ((a0 2) 0)) (C := RX6) (T := TX6) (N := 12) hx hb hts hiX6 hown hK hP 0 rfl rfl 3 (by decide) (hts (.fieldLink RX6 27 "ClockOnce" "town" "LClockOnce$Town;") (List.mem_of_getElem? (i := 1) rfl)) (fun _ h9 => h9) rfl dX6_fewest_17 ?_
  refine va_get (D := D) (ci := 5) (v := .int ((c0 2) 0 0)) (C := RX5) (T := TX5) (N := 14) hx hb hts hiX5 hown hK hP 6 rfl rfl 4 (by decide) (hts (.fieldLink RX6 89 "ClockOnce$Town" "things" "I") (List.mem_of_getElem? (i := 4) rfl)) (fun _ h9 => h9) rfl dX6_fewest_20 ?_
  refine lv_ishl hx hb dX6_fewest_23 ?_
  refine lv_iconst (v := (1 : Int32)) hx hb dX6_fewest_24 (by decide) ?_
  refine lv_isub hx hb dX6_fewest_25 ?_
  refine lv_istore_n (lv' := [(2, .int (((1 : Int32) <<< (((c0 2) 0 0) &&& 31)) - (1 : Int32))), (1, .int r_7), (0, .ref ((a0 0) 0))]) hx hb dX6_fewest_26 rfl hl (by decide) rfl (fun ls hl => ?_)
  refine lv_iconst (v := (0 : Int32)) hx hb dX6_fewest_27 (by decide) ?_
  refine lv_istore_n (lv' := [(3, .int (0 : Int32)), (2, .int (((1 : Int32) <<< (((c0 2) 0 0) &&& 31)) - (1 : Int32))), (1, .int r_7), (0, .ref ((a0 0) 0))]) hx hb dX6_fewest_28 rfl hl (by decide) rfl (fun ls hl => ?_)
  exact K29 r_7 (((1 : Int32) <<< (((c0 2) 0 0) &&& 31)) - (1 : Int32)) (0 : Int32) ls (lv_sub hl [3, 2, 1, 0] rfl) h

abbrev rm_X6_figureAt : Room := { frames := 0, cells := 0, slots := 0, locals := 0 }
set_option maxHeartbeats 4000000 in
set_option maxRecDepth 100000 in
theorem c_X6_figureAt (l : Launch) (D : va_G) (cI cZ cO : ClassId) (N : Nat) (p0 : Int32) (p1 : Int32) (out : Int32) (h : f_X6_figureAt N  p0 p1 = some out) : Met l yX6_figureAt wsX6_figureAt rm_X6_figureAt (va_Pc [.int p0, .int p1] (fun U => va_P D vwCl [] U.heap ∧ va_K D vwCl (tyA cI cZ cO) U)) (vp_Si (fun r => r = out)) 0 0 (fun _ => False) := by
  refine pm_i (own := RX6) (cc := cX6_figureAt) (maxL := 4) (by decide) rfl rfl (Nat.le_of_ble_eq_true rfl) ?_
  intro p e s m args below meth c Q H ls hx hb hml hown hts hP hK hl hret
  have hl : lv_has ls 4 [(0, .int p0), (1, .int p1)] := hl
  have K4 : ∀ (x1 : Int32) (x2 : Int32) (x3 : Int32) (ls : Array Slot), lv_has ls 4 [(1, .int x1), (2, .int x2), (3, .int x3)] → lq2 (g_X6_figureAt_4 N x1) N x2 x3 = some out → W p l e rm_X6_figureAt s m args below meth c H [] 0 0 Q (F0 m 4 ls []) := by
    intro x1 x2 x3 ls hl h
    refine lq2_W (Wd := fun x2 x3 => ∀ (ls : Array Slot), lv_has ls 4 [(1, .int x1), (2, .int x2), (3, .int x3)] → W p l e rm_X6_figureAt s m args below meth c H [] 0 0 Q (F0 m 4 ls [])) (fun rec4 ih4 x2 x3 h ls hl => ?_) N x2 x3 h ls hl
    unfold g_X6_figureAt_4 at h
    refine lv_iload_n hx hb dX6_figureAt_4 rfl (lv_at hl 2 rfl) ?_
    refine lv_iload_n hx hb dX6_figureAt_5 rfl (lv_at hl 0 rfl) ?_
    refine lv_icmp_ge (tgt := 20) hx hb dX6_figureAt_6 (by decide) (fun q_1 => ?_) (fun q_1 => ?_)
    · have h := mk_ifp q_1 h
      refine lv_iload_n hx hb dX6_figureAt_20 rfl (lv_at hl 1 rfl) ?_
      refine lv_bipush (v := (10 : Int32)) hx hb dX6_figureAt_21 (by decide) ?_
      refine lv_irem hx hb dX6_figureAt_23 (by decide) ?_
      exact hret _ _ _ h dX6_figureAt_24
    · have h := mk_ifn q_1 h
      refine lv_iload_n hx hb dX6_figureAt_9 rfl (lv_at hl 1 rfl) ?_
      refine lv_bipush (v := (10 : Int32)) hx hb dX6_figureAt_10 (by decide) ?_
      refine lv_idiv hx hb dX6_figureAt_12 (by decide) ?_
      refine lv_istore_n (lv' := [(2, .int (x2 / (10 : Int32))), (1, .int x1), (3, .int x3)]) hx hb dX6_figureAt_13 rfl hl (by decide) rfl (fun ls hl => ?_)
      refine lv_iinc (v := (x3 + (1 : Int32))) (lv' := [(3, .int (x3 + (1 : Int32))), (2, .int (x2 / (10 : Int32))), (1, .int x1)]) hx hb dX6_figureAt_14 hl (k := 2) rfl rfl (by decide) rfl (fun ls hl => ?_)
      refine lv_goto (tgt := 4) hx hb dX6_figureAt_17 (by decide) ?_
      exact ih4 (x2 / (10 : Int32)) (x3 + (1 : Int32)) h ls (lv_sub hl [2, 1, 0] rfl)
  unfold f_X6_figureAt at h
  refine lv_iload_n hx hb dX6_figureAt_0 rfl (lv_at hl 0 rfl) ?_
  refine lv_istore_n (lv' := [(2, .int p0), (0, .int p0), (1, .int p1)]) hx hb dX6_figureAt_1 rfl hl (by decide) rfl (fun ls hl => ?_)
  refine lv_iconst (v := (0 : Int32)) hx hb dX6_figureAt_2 (by decide) ?_
  refine lv_istore_n (lv' := [(3, .int (0 : Int32)), (2, .int p0), (0, .int p0), (1, .int p1)]) hx hb dX6_figureAt_3 rfl hl (by decide) rfl (fun ls hl => ?_)
  exact K4 p1 p0 (0 : Int32) ls (lv_sub hl [3, 1, 0] rfl) h

abbrev rm_X6_greatestDivisor : Room := { frames := 0, cells := 0, slots := 0, locals := 0 }
set_option maxHeartbeats 4000000 in
set_option maxRecDepth 100000 in
theorem c_X6_greatestDivisor (l : Launch) (D : va_G) (cI cZ cO : ClassId) (N : Nat) (p0 : Int32) (p1 : Int32) (out : Int32) (h : f_X6_greatestDivisor N  p0 p1 = some out) : Met l yX6_greatestDivisor wsX6_greatestDivisor rm_X6_greatestDivisor (va_Pc [.int p0, .int p1] (fun U => va_P D vwCl [] U.heap ∧ va_K D vwCl (tyA cI cZ cO) U)) (vp_Si (fun r => r = out)) 0 0 (fun _ => False) := by
  refine pm_i (own := RX6) (cc := cX6_greatestDivisor) (maxL := 6) (by decide) rfl rfl (Nat.le_of_ble_eq_true rfl) ?_
  intro p e s m args below meth c Q H ls hx hb hml hown hts hP hK hl hret
  have hl : lv_has ls 6 [(0, .int p0), (1, .int p1)] := hl
  have K7 : ∀ (x2 : Int32) (x3 : Int32) (x4 : Int32) (ls : Array Slot), lv_has ls 6 [(2, .int x2), (3, .int x3), (4, .int x4)] → lq3 (g_X6_greatestDivisor_7 N) N x2 x3 x4 = some out → W p l e rm_X6_greatestDivisor s m args below meth c H [] 0 0 Q (F0 m 7 ls []) := by
    intro x2 x3 x4 ls hl h
    refine lq3_W (Wd := fun x2 x3 x4 => ∀ (ls : Array Slot), lv_has ls 6 [(2, .int x2), (3, .int x3), (4, .int x4)] → W p l e rm_X6_greatestDivisor s m args below meth c H [] 0 0 Q (F0 m 7 ls [])) (fun rec7 ih7 x2 x3 x4 h ls hl => ?_) N x2 x3 x4 h ls hl
    unfold g_X6_greatestDivisor_7 at h
    refine lv_iload hx hb dX6_greatestDivisor_7 (lv_at hl 2 rfl) ?_
    refine lv_bipush (v := (64 : Int32)) hx hb dX6_greatestDivisor_9 (by decide) ?_
    refine lv_icmp_ge (tgt := 34) hx hb dX6_greatestDivisor_11 (by decide) (fun q_1 => ?_) (fun q_1 => ?_)
    · have h := mk_ifp q_1 h
      refine lv_iload_n hx hb dX6_greatestDivisor_34 rfl (lv_at hl 0 rfl) ?_
      exact hret _ _ _ h dX6_greatestDivisor_35
    · have h := mk_ifn q_1 h
      refine lv_iload_n hx hb dX6_greatestDivisor_14 rfl (lv_at hl 1 rfl) ?_
      refine lv_if_eq (tgt := 34) hx hb dX6_greatestDivisor_15 (by decide) (fun q_2 => ?_) (fun q_2 => ?_)
      · have h := mk_ifp q_2 h
        refine lv_iload_n hx hb dX6_greatestDivisor_34 rfl (lv_at hl 0 rfl) ?_
        exact hret _ _ _ h dX6_greatestDivisor_35
      · have h := mk_ifn q_2 h
        refine lv_iload_n hx hb dX6_greatestDivisor_18 rfl (lv_at hl 0 rfl) ?_
        refine lv_iload_n hx hb dX6_greatestDivisor_19 rfl (lv_at hl 1 rfl) ?_
        obtain ⟨hz_3, h⟩ := mk_nzE h
        refine lv_irem hx hb dX6_greatestDivisor_20 hz_3 ?_
        refine lv_istore (lv' := [(5, .int (x2 - x2 / x3 * x3)), (2, .int x2), (3, .int x3), (4, .int x4)]) hx hb dX6_greatestDivisor_21 hl (by decide) rfl (fun ls hl => ?_)
        refine lv_iload_n hx hb dX6_greatestDivisor_23 rfl (lv_at hl 2 rfl) ?_
        refine lv_istore_n (lv' := [(2, .int x3), (5, .int (x2 - x2 / x3 * x3)), (3, .int x3), (4, .int x4)]) hx hb dX6_greatestDivisor_24 rfl hl (by decide) rfl (fun ls hl => ?_)
        refine lv_iload hx hb dX6_greatestDivisor_25 (lv_at hl 1 rfl) ?_
        refine lv_istore_n (lv' := [(3, .int (x2 - x2 / x3 * x3)), (2, .int x3), (5, .int (x2 - x2 / x3 * x3)), (4, .int x4)]) hx hb dX6_greatestDivisor_27 rfl hl (by decide) rfl (fun ls hl => ?_)
        refine lv_iinc (v := (x4 + (1 : Int32))) (lv' := [(4, .int (x4 + (1 : Int32))), (3, .int (x2 - x2 / x3 * x3)), (2, .int x3), (5, .int (x2 - x2 / x3 * x3))]) hx hb dX6_greatestDivisor_28 hl (k := 3) rfl rfl (by decide) rfl (fun ls hl => ?_)
        refine lv_goto (tgt := 7) hx hb dX6_greatestDivisor_31 (by decide) ?_
        exact ih7 x3 (x2 - x2 / x3 * x3) (x4 + (1 : Int32)) h ls (lv_sub hl [2, 1, 0] rfl)
  unfold f_X6_greatestDivisor at h
  refine lv_iload_n hx hb dX6_greatestDivisor_0 rfl (lv_at hl 0 rfl) ?_
  refine lv_istore_n (lv' := [(2, .int p0), (0, .int p0), (1, .int p1)]) hx hb dX6_greatestDivisor_1 rfl hl (by decide) rfl (fun ls hl => ?_)
  refine lv_iload_n hx hb dX6_greatestDivisor_2 rfl (lv_at hl 2 rfl) ?_
  refine lv_istore_n (lv' := [(3, .int p1), (2, .int p0), (0, .int p0), (1, .int p1)]) hx hb dX6_greatestDivisor_3 rfl hl (by decide) rfl (fun ls hl => ?_)
  refine lv_iconst (v := (0 : Int32)) hx hb dX6_greatestDivisor_4 (by decide) ?_
  refine lv_istore (lv' := [(4, .int (0 : Int32)), (3, .int p1), (2, .int p0), (0, .int p0), (1, .int p1)]) hx hb dX6_greatestDivisor_5 hl (by decide) rfl (fun ls hl => ?_)
  exact K7 p0 p1 (0 : Int32) ls (lv_sub hl [2, 1, 0] rfl) h

abbrev rm_X6_fraction : Room := { frames := 1, cells := 0, slots := 0, locals := 25 }
set_option maxRecDepth 20000 in
theorem k_X6_fraction_X6_greatestDivisor_292 : GoodIn wsX6_fraction (va_wsS RX6 292 yX6_greatestDivisor wsX6_greatestDivisor) := goodIn_r _ [1, 2, 3, 4] rfl (by decide +kernel)
set_option maxHeartbeats 4000000 in
set_option maxRecDepth 100000 in
theorem c_X6_fraction (l : Launch) (D : va_G) (cI cZ cO : ClassId) (N : Nat) (p0 : Int32) (p1 : Int32) (p2 : Int32) (out : Int32) (h : f_X6_fraction N  p0 p1 p2 = some out) : Met l yX6_fraction wsX6_fraction rm_X6_fraction (va_Pc [.int p0, .int p1, .int p2] (fun U => va_P D vwCl [] U.heap ∧ va_K D vwCl (tyA cI cZ cO) U)) (vp_Si (fun r => r = out)) 0 0 (fun _ => False) := by
  refine pm_i (own := RX6) (cc := cX6_fraction) (maxL := 4) (by decide) rfl rfl (Nat.le_of_ble_eq_true rfl) ?_
  intro p e s m args below meth c Q H ls hx hb hml hown hts hP hK hl hret
  have hl : lv_has ls 4 [(0, .int p0), (1, .int p1), (2, .int p2)] := hl
  unfold f_X6_fraction at h
  refine lv_iload_n hx hb dX6_fraction_0 rfl (lv_at hl 0 rfl) ?_
  refine lv_iload_n hx hb dX6_fraction_1 rfl (lv_at hl 1 rfl) ?_
  obtain ⟨r_1, er_1, h⟩ := mk_bd h
  refine pc_s (As := [.int p0, .int p1]) (rest := []) ⟨hx, hb, hml, hown, hts⟩ (c_X6_greatestDivisor l D cI cZ cO N p0 p1 r_1 er_1) (va_cwS 2 hts k_X6_fraction_X6_greatestDivisor_292 rfl rfl rfl (by decide +kernel) ⟨(Nat.le_of_ble_eq_true rfl), (Nat.le_of_ble_eq_true rfl)⟩) hP hK rfl hl.1 rfl (Nat.le_of_ble_eq_true rfl) dX6_fraction_2 ⟨Nat.zero_le _, Nat.zero_le _⟩ ?_
  refine lv_istore_n (lv' := [(3, .int r_1), (0, .int p0), (1, .int p1), (2, .int p2)]) hx hb dX6_fraction_5 rfl hl (by decide) rfl (fun ls hl => ?_)
  refine lv_iload_n hx hb dX6_fraction_6 rfl (lv_at hl 0 rfl) ?_
  refine lv_if_gt (tgt := 12) hx hb dX6_fraction_7 (by decide) (fun q_2 => ?_) (fun q_2 => ?_)
  · have h := mk_ifp q_2 h
    refine lv_iload_n hx hb dX6_fraction_12 rfl (lv_at hl 3 rfl) ?_
    refine lv_if_eq (tgt := 20) hx hb dX6_fraction_13 (by decide) (fun q_3 => ?_) (fun q_3 => ?_)
    · have h := mk_ifp q_3 h
      refine lv_iload_n hx hb dX6_fraction_20 rfl (lv_at hl 2 rfl) ?_
      refine lv_iload_n hx hb dX6_fraction_21 rfl (lv_at hl 0 rfl) ?_
      obtain ⟨hz_4, h⟩ := mk_nzE h
      refine lv_idiv hx hb dX6_fraction_22 hz_4 ?_
      exact hret _ _ _ h dX6_fraction_23
    · have h := mk_ifn q_3 h
      refine lv_iload_n hx hb dX6_fraction_16 rfl (lv_at hl 1 rfl) ?_
      refine lv_goto (tgt := 21) hx hb dX6_fraction_17 (by decide) ?_
      refine lv_iload_n hx hb dX6_fraction_21 rfl (lv_at hl 0 rfl) ?_
      obtain ⟨hz_5, h⟩ := mk_nzE h
      refine lv_idiv hx hb dX6_fraction_22 hz_5 ?_
      exact hret _ _ _ h dX6_fraction_23
  · have h := mk_ifn q_2 h
    refine lv_iconst (v := (0 : Int32)) hx hb dX6_fraction_10 (by decide) ?_
    exact hret _ _ _ h dX6_fraction_11

abbrev rm_X6_heldWorlds : Room := { frames := 5, cells := 0, slots := 0, locals := 113 }
set_option maxRecDepth 20000 in
theorem k_X6_heldWorlds_X5_worldsSeenOn_160 : GoodIn wsX6_heldWorlds (wsV RX6 160 RX5 yX5_worldsSeenOn wsX5_worldsSeenOn) := goodIn_r _ [5, 6, 7, 8, 9, 10, 11, 12, 13, 14, 15, 8, 16, 17, 18, 19, 20, 21, 22, 23, 24, 25, 26, 27, 28, 29, 30, 31, 32, 33, 34, 35, 36, 37, 38, 67, 68, 69, 70, 71, 72, 73, 74, 75, 76, 77, 78, 79, 80] rfl (by decide +kernel)
set_option maxRecDepth 20000 in
theorem k_X6_heldWorlds_X2_heardBy_133 : GoodIn wsX6_heldWorlds (wsV RX6 133 RX2 yX2_heardBy wsX2_heardBy) := goodIn_r _ [39, 40, 41, 42, 43, 44, 45, 46, 42, 47, 48, 62, 63, 64, 65, 66] rfl (by decide +kernel)
set_option maxRecDepth 20000 in
theorem k_X6_heldWorlds_X5_worldsLike_226 : GoodIn wsX6_heldWorlds (wsV RX6 226 RX5 yX5_worldsLike wsX5_worldsLike) := goodIn_r _ [49, 32, 33, 8, 34, 12, 67, 68, 69, 70, 71, 72, 73, 74, 75, 76, 77, 78, 79, 80] rfl (by decide +kernel)
set_option maxHeartbeats 4000000 in
set_option maxRecDepth 100000 in
theorem c_X6_heldWorlds (l : Launch) (D : va_G) (cI cZ cO : ClassId) (N : Nat) (a0 : Nat → Nat → Nat) (c0 : CU) (sd : Int64) (p1 : Int32) (out : Int32) (h : f_X6_heldWorlds N c0 sd p1 = some out) : Met l yX6_heldWorlds wsX6_heldWorlds rm_X6_heldWorlds (va_Pc [.ref ((a0 0) 0), .int p1] (fun U => va_P D vwCl (wX6 cI cO a0 c0 sd) U.heap ∧ va_K D vwCl (tyA cI cZ cO) U)) (vp_Si (fun r => r = out)) 0 0 (fun _ => False) := by
  refine pm_i (own := RX6) (cc := cX6_heldWorlds) (maxL := 2) (by decide) rfl rfl (Nat.le_of_ble_eq_true rfl) ?_
  intro p e s m args below meth c Q H ls hx hb hml hown hts hP hK hl hret
  have hl : lv_has ls 2 [(0, .ref ((a0 0) 0)), (1, .int p1)] := hl
  have hiX2 : ∀ w ∈ u_ws RX2 TX2 5, w ∈ wsX6_heldWorlds := mk_seg 62 5 rfl
  have hiX5 : ∀ w ∈ u_ws RX5 TX5 14, w ∈ wsX6_heldWorlds := mk_seg 67 14 rfl
  have hiX6 : ∀ w ∈ u_ws RX6 TX6 12, w ∈ wsX6_heldWorlds := mk_seg 50 12 rfl
  unfold f_X6_heldWorlds at h
  refine lv_aload_n hx hb dX6_heldWorlds_0 rfl (lv_at hl 0 rfl) ?_
  refine va_get (D := D) (ci := 6) (v := .ref ((a0 2) 0)) (C := RX6) (T := TX6) (N := 12) hx hb hts hiX6 hown hK hP 0 rfl rfl 3 (by decide) (hts (.fieldLink RX6 27 "ClockOnce" "town" "LClockOnce$Town;") (List.mem_of_getElem? (i := 1) rfl)) (fun _ h9 => h9) rfl dX6_heldWorlds_1 ?_
  refine lv_aload_n hx hb dX6_heldWorlds_4 rfl (lv_at hl 0 rfl) ?_
  refine va_get (D := D) (ci := 6) (v := .ref ((a0 2) 0)) (C := RX6) (T := TX6) (N := 12) hx hb hts hiX6 hown hK hP 0 rfl rfl 3 (by decide) (hts (.fieldLink RX6 27 "ClockOnce" "town" "LClockOnce$Town;") (List.mem_of_getElem? (i := 1) rfl)) (fun _ h9 => h9) rfl dX6_heldWorlds_5 ?_
  refine lv_aload_n hx hb dX6_heldWorlds_8 rfl (lv_at hl 0 rfl) ?_
  refine va_get (D := D) (ci := 6) (v := .ref ((a0 4) 0)) (C := RX6) (T := TX6) (N := 12) hx hb hts hiX6 hown hK hP 0 rfl rfl 5 (by decide) (hts (.fieldLink RX6 37 "ClockOnce" "life" "LClockOnce$Life;") (List.mem_of_getElem? (i := 2) rfl)) (fun _ h9 => h9) rfl dX6_heldWorlds_9 ?_
  refine va_get (D := D) (ci := 2) (v := .int ((c0 4) 0 0)) (C := RX2) (T := TX2) (N := 5) hx hb hts hiX2 hown hK hP 26 rfl rfl 0 (by decide) (hts (.fieldLink RX6 143 "ClockOnce$Life" "day" "I") (List.mem_of_getElem? (i := 3) rfl)) (fun _ h9 => h9) rfl dX6_heldWorlds_12 ?_
  obtain ⟨r_1, er_1, h⟩ := mk_bd h
  refine pc_v (As := [.int ((c0 4) 0 0)]) (rest := [.ref ((a0 2) 0)]) ⟨hx, hb, hml, hown, hts⟩ (c_X5_worldsSeenOn l D cI cZ cO N (a0 2) (c0 2) ((c0 4) 0 0) r_1 er_1) (cwV 1 hts k_X6_heldWorlds_X5_worldsSeenOn_160 rfl rfl rfl (by decide +kernel) ⟨(Nat.le_of_ble_eq_true rfl), (Nat.le_of_ble_eq_true rfl)⟩) (va_recv hK hP (ci := 5) (q0 := 6) rfl rfl) (hP.sub (ws' := wX5 cI (a0 2) (c0 2)) [6, 7, 8, 9, 10, 11, 12, 13, 14, 15] rfl) hK rfl hl.1 rfl (Nat.le_of_ble_eq_true rfl) dX6_heldWorlds_15 ⟨Nat.zero_le _, Nat.zero_le _⟩ ?_
  refine lv_aload_n hx hb dX6_heldWorlds_18 rfl (lv_at hl 0 rfl) ?_
  refine va_get (D := D) (ci := 6) (v := .ref ((a0 4) 0)) (C := RX6) (T := TX6) (N := 12) hx hb hts hiX6 hown hK hP 0 rfl rfl 5 (by decide) (hts (.fieldLink RX6 37 "ClockOnce" "life" "LClockOnce$Life;") (List.mem_of_getElem? (i := 2) rfl)) (fun _ h9 => h9) rfl dX6_heldWorlds_19 ?_
  refine lv_iload_n hx hb dX6_heldWorlds_22 rfl (lv_at hl 1 rfl) ?_
  obtain ⟨r_2, er_2, h⟩ := mk_bd h
  refine pc_v (As := [.int p1]) (rest := [.int r_1, .ref ((a0 2) 0)]) ⟨hx, hb, hml, hown, hts⟩ (c_X2_heardBy l D cI cZ cO N (a0 4) (c0 4) p1 r_2 er_2) (cwV 1 hts k_X6_heldWorlds_X2_heardBy_133 rfl rfl rfl (by decide +kernel) ⟨(Nat.le_of_ble_eq_true rfl), (Nat.le_of_ble_eq_true rfl)⟩) (va_recv hK hP (ci := 2) (q0 := 26) rfl rfl) (hP.sub (ws' := wX2 cI (a0 4) (c0 4)) [26, 27, 28] rfl) hK rfl hl.1 rfl (Nat.le_of_ble_eq_true rfl) dX6_heldWorlds_23 ⟨Nat.zero_le _, Nat.zero_le _⟩ ?_
  refine lv_aload_n hx hb dX6_heldWorlds_26 rfl (lv_at hl 0 rfl) ?_
  refine va_get (D := D) (ci := 6) (v := .ref ((a0 2) 0)) (C := RX6) (T := TX6) (N := 12) hx hb hts hiX6 hown hK hP 0 rfl rfl 3 (by decide) (hts (.fieldLink RX6 27 "ClockOnce" "town" "LClockOnce$Town;") (List.mem_of_getElem? (i := 1) rfl)) (fun _ h9 => h9) rfl dX6_heldWorlds_27 ?_
  refine va_get (D := D) (ci := 5) (v := .int ((c0 2) 0 1)) (C := RX5) (T := TX5) (N := 14) hx hb hts hiX5 hown hK hP 6 rfl rfl 5 (by decide) (hts (.fieldLink RX6 223 "ClockOnce$Town" "truth" "I") (List.mem_of_getElem? (i := 4) rfl)) (fun _ h9 => h9) rfl dX6_heldWorlds_30 ?_
  obtain ⟨r_3, er_3, h⟩ := mk_bd h
  refine pc_v (As := [.int r_1, .int r_2, .int ((c0 2) 0 1)]) (rest := []) ⟨hx, hb, hml, hown, hts⟩ (c_X5_worldsLike l D cI cZ cO N (a0 2) (c0 2) r_1 r_2 ((c0 2) 0 1) r_3 er_3) (cwV 3 hts k_X6_heldWorlds_X5_worldsLike_226 rfl rfl rfl (by decide +kernel) ⟨(Nat.le_of_ble_eq_true rfl), (Nat.le_of_ble_eq_true rfl)⟩) (va_recv hK hP (ci := 5) (q0 := 6) rfl rfl) (hP.sub (ws' := wX5 cI (a0 2) (c0 2)) [6, 7, 8, 9, 10, 11, 12, 13, 14, 15] rfl) hK rfl hl.1 rfl (Nat.le_of_ble_eq_true rfl) dX6_heldWorlds_33 ⟨Nat.zero_le _, Nat.zero_le _⟩ ?_
  exact hret _ _ _ h dX6_heldWorlds_36

abbrev rm_X6_holds : Room := { frames := 6, cells := 0, slots := 0, locals := 134 }
set_option maxRecDepth 20000 in
theorem k_X6_holds_X5_hasAsker_121 : GoodIn wsX6_holds (wsV RX6 121 RX5 yX5_hasAsker wsX5_hasAsker) := goodIn_r _ [2, 3, 4, 5, 6, 7, 79, 80, 81, 82, 83, 84, 85, 86, 87, 88, 89, 90, 91, 92] rfl (by decide +kernel)
set_option maxRecDepth 20000 in
theorem k_X6_holds_X6_heldWorlds_166 : GoodIn wsX6_holds (wsV RX6 166 RX6 yX6_heldWorlds wsX6_heldWorlds) := goodIn_r _ [8, 9, 10, 11, 12, 1, 13, 14, 15, 16, 17, 18, 5, 19, 20, 21, 22, 23, 24, 25, 26, 27, 28, 29, 30, 31, 32, 33, 34, 35, 36, 37, 38, 39, 40, 41, 42, 43, 44, 45, 46, 47, 48, 49, 50, 51, 52, 53, 54, 55, 56, 57, 58, 59, 67, 68, 69, 70, 71, 72, 73, 74, 75, 76, 77, 78, 93, 94, 95, 96, 97, 79, 80, 81, 82, 83, 84, 85, 86, 87, 88, 89, 90, 91, 92] rfl (by decide +kernel)
set_option maxRecDepth 20000 in
theorem k_X6_holds_J6_bitCount_0f7a4_155 : GoodIn wsX6_holds (va_wsS RX6 155 yJ6_bitCount_0f7a4 wsJ6_bitCount_0f7a4) := goodIn_r _ [60, 61, 62, 63, 64, 65, 66] rfl (by decide +kernel)
set_option maxHeartbeats 4000000 in
set_option maxRecDepth 100000 in
theorem c_X6_holds (l : Launch) (D : va_G) (cI cZ cO : ClassId) (N : Nat) (a0 : Nat → Nat → Nat) (c0 : CU) (sd : Int64) (p1 : Int32) (out : Int32) (h : f_X6_holds N c0 sd p1 = some out) : Met l yX6_holds wsX6_holds rm_X6_holds (va_Pc [.ref ((a0 0) 0), .int p1] (fun U => va_P D vwCl (wX6 cI cO a0 c0 sd) U.heap ∧ va_K D vwCl (tyA cI cZ cO) U)) (vp_Si (fun r => r = out)) 0 0 (fun _ => False) := by
  refine pm_i (own := RX6) (cc := cX6_holds) (maxL := 2) (by decide) rfl rfl (Nat.le_of_ble_eq_true rfl) ?_
  intro p e s m args below meth c Q H ls hx hb hml hown hts hP hK hl hret
  have hl : lv_has ls 2 [(0, .ref ((a0 0) 0)), (1, .int p1)] := hl
  have hiX6 : ∀ w ∈ u_ws RX6 TX6 12, w ∈ wsX6_holds := mk_seg 67 12 rfl
  unfold f_X6_holds at h
  refine lv_aload_n hx hb dX6_holds_0 rfl (lv_at hl 0 rfl) ?_
  refine va_get (D := D) (ci := 6) (v := .ref ((a0 2) 0)) (C := RX6) (T := TX6) (N := 12) hx hb hts hiX6 hown hK hP 0 rfl rfl 3 (by decide) (hts (.fieldLink RX6 27 "ClockOnce" "town" "LClockOnce$Town;") (List.mem_of_getElem? (i := 1) rfl)) (fun _ h9 => h9) rfl dX6_holds_1 ?_
  refine lv_iload_n hx hb dX6_holds_4 rfl (lv_at hl 1 rfl) ?_
  obtain ⟨r_1, er_1, h⟩ := mk_bd h
  refine pc_v (As := [.int p1]) (rest := []) ⟨hx, hb, hml, hown, hts⟩ (c_X5_hasAsker l D cI cZ cO N (a0 2) (c0 2) p1 r_1 er_1) (cwV 1 hts k_X6_holds_X5_hasAsker_121 rfl rfl rfl (by decide +kernel) ⟨(Nat.le_of_ble_eq_true rfl), (Nat.le_of_ble_eq_true rfl)⟩) (va_recv hK hP (ci := 5) (q0 := 6) rfl rfl) (hP.sub (ws' := wX5 cI (a0 2) (c0 2)) [6, 7, 8, 9, 10, 11, 12, 13, 14, 15] rfl) hK rfl hl.1 rfl (Nat.le_of_ble_eq_true rfl) dX6_holds_5 ⟨Nat.zero_le _, Nat.zero_le _⟩ ?_
  refine lv_if_ne (tgt := 13) hx hb dX6_holds_8 (by decide) (fun q_2 => ?_) (fun q_2 => ?_)
  · have h := mk_ifn q_2 h
    refine lv_aload_n hx hb dX6_holds_13 rfl (lv_at hl 0 rfl) ?_
    refine lv_iload_n hx hb dX6_holds_14 rfl (lv_at hl 1 rfl) ?_
    obtain ⟨r_3, er_3, h⟩ := mk_bd h
    refine pc_v (As := [.int p1]) (rest := []) ⟨hx, hb, hml, hown, hts⟩ (c_X6_heldWorlds l D cI cZ cO N a0 c0 sd p1 r_3 er_3) (cwV 1 hts k_X6_holds_X6_heldWorlds_166 rfl rfl rfl (by decide +kernel) ⟨(Nat.le_of_ble_eq_true rfl), (Nat.le_of_ble_eq_true rfl)⟩) (va_recv hK hP (ci := 6) (q0 := 0) rfl rfl) hP hK rfl hl.1 rfl (Nat.le_of_ble_eq_true rfl) dX6_holds_15 ⟨Nat.zero_le _, Nat.zero_le _⟩ ?_
    obtain ⟨r_4, er_4, h⟩ := mk_bd h
    refine pc_s (As := [.int r_3]) (rest := []) ⟨hx, hb, hml, hown, hts⟩ (c_J6_bitCount_0f7a4 l D cI cZ cO N r_3 r_4 er_4) (va_cwS 1 hts k_X6_holds_J6_bitCount_0f7a4_155 rfl rfl rfl (by decide +kernel) ⟨(Nat.le_of_ble_eq_true rfl), (Nat.le_of_ble_eq_true rfl)⟩) (hP.sub (ws' := []) [] rfl) hK rfl hl.1 rfl (Nat.le_of_ble_eq_true rfl) dX6_holds_18 ⟨Nat.zero_le _, Nat.zero_le _⟩ ?_
    exact hret _ _ _ h dX6_holds_21
  · have h := mk_ifp q_2 h
    refine lv_iconst (v := (-1 : Int32)) hx hb dX6_holds_11 (by decide) ?_
    exact hret _ _ _ h dX6_holds_12

abbrev rm_X6_powerOfTen : Room := { frames := 0, cells := 0, slots := 0, locals := 0 }
set_option maxHeartbeats 4000000 in
set_option maxRecDepth 100000 in
theorem c_X6_powerOfTen (l : Launch) (D : va_G) (cI cZ cO : ClassId) (N : Nat) (p0 : Int32) (out : Int32) (h : f_X6_powerOfTen N  p0 = some out) : Met l yX6_powerOfTen wsX6_powerOfTen rm_X6_powerOfTen (va_Pc [.int p0] (fun U => va_P D vwCl [] U.heap ∧ va_K D vwCl (tyA cI cZ cO) U)) (vp_Si (fun r => r = out)) 0 0 (fun _ => False) := by
  refine pm_i (own := RX6) (cc := cX6_powerOfTen) (maxL := 3) (by decide) rfl rfl (Nat.le_of_ble_eq_true rfl) ?_
  intro p e s m args below meth c Q H ls hx hb hml hown hts hP hK hl hret
  have hl : lv_has ls 3 [(0, .int p0)] := hl
  have K4 : ∀ (x0 : Int32) (x1 : Int32) (x2 : Int32) (ls : Array Slot), lv_has ls 3 [(0, .int x0), (1, .int x1), (2, .int x2)] → lq2 (g_X6_powerOfTen_4 N x0) N x1 x2 = some out → W p l e rm_X6_powerOfTen s m args below meth c H [] 0 0 Q (F0 m 4 ls []) := by
    intro x0 x1 x2 ls hl h
    refine lq2_W (Wd := fun x1 x2 => ∀ (ls : Array Slot), lv_has ls 3 [(0, .int x0), (1, .int x1), (2, .int x2)] → W p l e rm_X6_powerOfTen s m args below meth c H [] 0 0 Q (F0 m 4 ls [])) (fun rec4 ih4 x1 x2 h ls hl => ?_) N x1 x2 h ls hl
    unfold g_X6_powerOfTen_4 at h
    refine lv_iload_n hx hb dX6_powerOfTen_4 rfl (lv_at hl 2 rfl) ?_
    refine lv_iload_n hx hb dX6_powerOfTen_5 rfl (lv_at hl 0 rfl) ?_
    refine lv_icmp_ge (tgt := 20) hx hb dX6_powerOfTen_6 (by decide) (fun q_1 => ?_) (fun q_1 => ?_)
    · have h := mk_ifp q_1 h
      refine lv_iload_n hx hb dX6_powerOfTen_20 rfl (lv_at hl 1 rfl) ?_
      exact hret _ _ _ h dX6_powerOfTen_21
    · have h := mk_ifn q_1 h
      refine lv_iload_n hx hb dX6_powerOfTen_9 rfl (lv_at hl 1 rfl) ?_
      refine lv_bipush (v := (10 : Int32)) hx hb dX6_powerOfTen_10 (by decide) ?_
      refine lv_imul hx hb dX6_powerOfTen_12 ?_
      refine lv_istore_n (lv' := [(1, .int (x1 * (10 : Int32))), (0, .int x0), (2, .int x2)]) hx hb dX6_powerOfTen_13 rfl hl (by decide) rfl (fun ls hl => ?_)
      refine lv_iinc (v := (x2 + (1 : Int32))) (lv' := [(2, .int (x2 + (1 : Int32))), (1, .int (x1 * (10 : Int32))), (0, .int x0)]) hx hb dX6_powerOfTen_14 hl (k := 2) rfl rfl (by decide) rfl (fun ls hl => ?_)
      refine lv_goto (tgt := 4) hx hb dX6_powerOfTen_17 (by decide) ?_
      exact ih4 (x1 * (10 : Int32)) (x2 + (1 : Int32)) h ls (lv_sub hl [2, 1, 0] rfl)
  unfold f_X6_powerOfTen at h
  refine lv_iconst (v := (1 : Int32)) hx hb dX6_powerOfTen_0 (by decide) ?_
  refine lv_istore_n (lv' := [(1, .int (1 : Int32)), (0, .int p0)]) hx hb dX6_powerOfTen_1 rfl hl (by decide) rfl (fun ls hl => ?_)
  refine lv_iconst (v := (0 : Int32)) hx hb dX6_powerOfTen_2 (by decide) ?_
  refine lv_istore_n (lv' := [(2, .int (0 : Int32)), (1, .int (1 : Int32)), (0, .int p0)]) hx hb dX6_powerOfTen_3 rfl hl (by decide) rfl (fun ls hl => ?_)
  exact K4 p0 (1 : Int32) (0 : Int32) ls (lv_sub hl [2, 1, 0] rfl) h

abbrev rm_X6_judge : Room := { frames := 4, cells := 0, slots := 0, locals := 88 }
set_option maxRecDepth 20000 in
theorem k_X6_judge_X6_canSellWell_238 : GoodIn wsX6_judge (wsV RX6 238 RX6 yX6_canSellWell wsX6_canSellWell) := goodIn_r _ [18, 19, 20, 6, 21, 3, 22, 23, 24, 25, 26, 27, 28, 29, 30, 31, 32, 33, 34, 35, 36, 37, 38, 39, 40, 41, 42, 43, 44, 45, 46, 47, 48, 49, 50, 51, 52, 53, 54, 60, 61, 62, 63, 64, 65, 66, 67, 68, 69, 70, 71, 72, 73] rfl (by decide +kernel)
set_option maxRecDepth 20000 in
theorem k_X6_judge_X6_figureAt_235 : GoodIn wsX6_judge (va_wsS RX6 235 yX6_figureAt wsX6_figureAt) := goodIn_r _ [15, 16, 6, 17] rfl (by decide +kernel)
set_option maxRecDepth 20000 in
theorem k_X6_judge_X6_powerOfTen_229 : GoodIn wsX6_judge (va_wsS RX6 229 yX6_powerOfTen wsX6_powerOfTen) := goodIn_r _ [4, 5, 6, 7] rfl (by decide +kernel)
set_option maxRecDepth 20000 in
theorem k_X6_judge_X2_soldThings_232 : GoodIn wsX6_judge (wsV RX6 232 RX2 yX2_soldThings wsX2_soldThings) := goodIn_r _ [8, 9, 10, 11, 12, 13, 14, 60, 61, 62, 63, 64, 65, 66, 67, 68, 69, 70, 71, 72, 73, 55, 56, 57, 58, 59] rfl (by decide +kernel)
set_option maxHeartbeats 4000000 in
set_option maxRecDepth 100000 in
theorem c_X6_judge (l : Launch) (D : va_G) (cI cZ cO : ClassId) (N : Nat) (a0 : Nat → Nat → Nat) (c0 : CU) (sd : Int64) (p1 : Int32) (p2 : Int32) (out : Int32) (h : f_X6_judge N c0 sd p1 p2 = some out) : Met l yX6_judge wsX6_judge rm_X6_judge (va_Pc [.ref ((a0 0) 0), .int p1, .int p2] (fun U => va_P D vwCl (wX6 cI cO a0 c0 sd) U.heap ∧ va_K D vwCl (tyA cI cZ cO) U)) (vp_Si (fun r => r = out)) 0 0 (fun _ => False) := by
  refine pm_i (own := RX6) (cc := cX6_judge) (maxL := 7) (by decide) rfl rfl (Nat.le_of_ble_eq_true rfl) ?_
  intro p e s m args below meth c Q H ls hx hb hml hown hts hP hK hl hret
  have hl : lv_has ls 7 [(0, .ref ((a0 0) 0)), (1, .int p1), (2, .int p2)] := hl
  have hiX2 : ∀ w ∈ u_ws RX2 TX2 5, w ∈ wsX6_judge := mk_seg 55 5 rfl
  have hiX6 : ∀ w ∈ u_ws RX6 TX6 12, w ∈ wsX6_judge := mk_seg 43 12 rfl
  have K50 : ∀ (x1 : Int32) (x2 : Int32) (x3 : Int32) (x4 : Int32) (x5 : Int32) (ls : Array Slot), lv_has ls 7 [(0, .ref ((a0 0) 0)), (1, .int x1), (2, .int x2), (3, .int x3), (4, .int x4), (5, .int x5)] → lq3 (g_X6_judge_50 N c0 sd x1 x2) N x3 x4 x5 = some out → W p l e rm_X6_judge s m args below meth c H [] 0 0 Q (F0 m 50 ls []) := by
    intro x1 x2 x3 x4 x5 ls hl h
    refine lq3_W (Wd := fun x3 x4 x5 => ∀ (ls : Array Slot), lv_has ls 7 [(0, .ref ((a0 0) 0)), (1, .int x1), (2, .int x2), (3, .int x3), (4, .int x4), (5, .int x5)] → W p l e rm_X6_judge s m args below meth c H [] 0 0 Q (F0 m 50 ls [])) (fun rec50 ih50 x3 x4 x5 h ls hl => ?_) N x3 x4 x5 h ls hl
    have K86 : ∀ (x3 : Int32) (x4 : Int32) (x5 : Int32) (x6 : Int32) (ls : Array Slot), lv_has ls 7 [(0, .ref ((a0 0) 0)), (1, .int x1), (2, .int x2), (3, .int x3), (4, .int x4), (5, .int x5), (6, .int x6)] → g_X6_judge_86 N c0 sd rec50 x1 x2 x3 x4 x5 x6 = some out → W p l e rm_X6_judge s m args below meth c H [] 0 0 Q (F0 m 86 ls []) := by
      intro x3 x4 x5 x6 ls hl h
      unfold g_X6_judge_86 at h
      refine lv_aload_n hx hb dX6_judge_86 rfl (lv_at hl 0 rfl) ?_
      refine lv_iload hx hb dX6_judge_87 (lv_at hl 6 rfl) ?_
      refine lv_iload hx hb dX6_judge_89 (lv_at hl 4 rfl) ?_
      refine lv_iload_n hx hb dX6_judge_91 rfl (lv_at hl 3 rfl) ?_
      obtain ⟨r_1, er_1, h⟩ := mk_bd h
      refine pc_v (As := [.int x6, .int x4, .int x3]) (rest := []) ⟨hx, hb, hml, hown, hts⟩ (c_X6_canSellWell l D cI cZ cO N a0 c0 sd x6 x4 x3 r_1 er_1) (cwV 3 hts k_X6_judge_X6_canSellWell_238 rfl rfl rfl (by decide +kernel) ⟨(Nat.le_of_ble_eq_true rfl), (Nat.le_of_ble_eq_true rfl)⟩) (va_recv hK hP (ci := 6) (q0 := 0) rfl rfl) hP hK rfl hl.1 rfl (Nat.le_of_ble_eq_true rfl) dX6_judge_92 ⟨Nat.zero_le _, Nat.zero_le _⟩ ?_
      refine lv_if_eq (tgt := 110) hx hb dX6_judge_95 (by decide) (fun q_2 => ?_) (fun q_2 => ?_)
      · have h := mk_ifp q_2 h
        refine lv_iload hx hb dX6_judge_110 (lv_at hl 5 rfl) ?_
        exact hret _ _ _ h dX6_judge_112
      · have h := mk_ifn q_2 h
        refine lv_iload hx hb dX6_judge_98 (lv_at hl 4 rfl) ?_
        refine lv_iconst (v := (1 : Int32)) hx hb dX6_judge_100 (by decide) ?_
        refine lv_iload hx hb dX6_judge_101 (lv_at hl 6 rfl) ?_
        refine lv_ishl hx hb dX6_judge_103 ?_
        refine lv_ior hx hb dX6_judge_104 ?_
        refine lv_istore (lv' := [(4, .int (x4 ||| ((1 : Int32) <<< (x6 &&& 31)))), (0, .ref ((a0 0) 0)), (1, .int x1), (2, .int x2), (3, .int x3), (5, .int x5), (6, .int x6)]) hx hb dX6_judge_105 hl (by decide) rfl (fun ls hl => ?_)
        refine lv_goto (tgt := 113) hx hb dX6_judge_107 (by decide) ?_
        refine lv_iinc (v := (x5 + (1 : Int32))) (lv' := [(5, .int (x5 + (1 : Int32))), (4, .int (x4 ||| ((1 : Int32) <<< (x6 &&& 31)))), (0, .ref ((a0 0) 0)), (1, .int x1), (2, .int x2), (3, .int x3), (6, .int x6)]) hx hb dX6_judge_113 hl (k := 5) rfl rfl (by decide) rfl (fun ls hl => ?_)
        refine lv_goto (tgt := 50) hx hb dX6_judge_116 (by decide) ?_
        exact ih50 x3 (x4 ||| ((1 : Int32) <<< (x6 &&& 31))) (x5 + (1 : Int32)) h ls (lv_sub hl [2, 3, 4, 5, 1, 0] rfl)
    unfold g_X6_judge_50 at h
    refine lv_iload hx hb dX6_judge_50 (lv_at hl 5 rfl) ?_
    refine lv_iload_n hx hb dX6_judge_52 rfl (lv_at hl 1 rfl) ?_
    refine lv_icmp_ge (tgt := 119) hx hb dX6_judge_53 (by decide) (fun q_3 => ?_) (fun q_3 => ?_)
    · have h := mk_ifp q_3 h
      refine lv_bipush (v := (-9 : Int32)) hx hb dX6_judge_119 (by decide) ?_
      exact hret _ _ _ h dX6_judge_121
    · have h := mk_ifn q_3 h
      refine lv_iload_n hx hb dX6_judge_56 rfl (lv_at hl 2 rfl) ?_
      refine lv_iload_n hx hb dX6_judge_57 rfl (lv_at hl 1 rfl) ?_
      refine lv_iconst (v := (1 : Int32)) hx hb dX6_judge_58 (by decide) ?_
      refine lv_isub hx hb dX6_judge_59 ?_
      refine lv_iload hx hb dX6_judge_60 (lv_at hl 5 rfl) ?_
      refine lv_isub hx hb dX6_judge_62 ?_
      obtain ⟨r_4, er_4, h⟩ := mk_bd h
      refine pc_s (As := [.int x2, .int ((x1 - (1 : Int32)) - x5)]) (rest := []) ⟨hx, hb, hml, hown, hts⟩ (c_X6_figureAt l D cI cZ cO N x2 ((x1 - (1 : Int32)) - x5) r_4 er_4) (va_cwS 2 hts k_X6_judge_X6_figureAt_235 rfl rfl rfl (by decide +kernel) ⟨(Nat.le_of_ble_eq_true rfl), (Nat.le_of_ble_eq_true rfl)⟩) (hP.sub (ws' := []) [] rfl) hK rfl hl.1 rfl (Nat.le_of_ble_eq_true rfl) dX6_judge_63 ⟨Nat.zero_le _, Nat.zero_le _⟩ ?_
      refine lv_istore (lv' := [(6, .int r_4), (0, .ref ((a0 0) 0)), (1, .int x1), (2, .int x2), (3, .int x3), (4, .int x4), (5, .int x5)]) hx hb dX6_judge_66 hl (by decide) rfl (fun ls hl => ?_)
      refine lv_iload hx hb dX6_judge_68 (lv_at hl 0 rfl) ?_
      refine lv_iconst (v := (4 : Int32)) hx hb dX6_judge_70 (by decide) ?_
      refine lv_icmp_ne (tgt := 86) hx hb dX6_judge_71 (by decide) (fun q_5 => ?_) (fun q_5 => ?_)
      · have h := mk_ifn q_5 h
        exact K86 x3 x4 x5 r_4 ls (lv_sub hl [1, 2, 3, 4, 5, 6, 0] rfl) h
      · have h := mk_ifp q_5 h
        refine lv_iload_n hx hb dX6_judge_74 rfl (lv_at hl 4 rfl) ?_
        refine lv_bipush (v := (9 : Int32)) hx hb dX6_judge_75 (by decide) ?_
        refine lv_icmp_ge (tgt := 86) hx hb dX6_judge_77 (by decide) (fun q_6 => ?_) (fun q_6 => ?_)
        · have h := mk_ifp q_6 h
          exact K86 x3 x4 x5 r_4 ls (lv_sub hl [1, 2, 3, 4, 5, 6, 0] rfl) h
        · have h := mk_ifn q_6 h
          refine lv_iinc (v := (x3 + (1 : Int32))) (lv' := [(3, .int (x3 + (1 : Int32))), (6, .int r_4), (0, .ref ((a0 0) 0)), (1, .int x1), (2, .int x2), (4, .int x4), (5, .int x5)]) hx hb dX6_judge_80 hl (k := 4) rfl rfl (by decide) rfl (fun ls hl => ?_)
          refine lv_goto (tgt := 113) hx hb dX6_judge_83 (by decide) ?_
          refine lv_iinc (v := (x5 + (1 : Int32))) (lv' := [(5, .int (x5 + (1 : Int32))), (3, .int (x3 + (1 : Int32))), (6, .int r_4), (0, .ref ((a0 0) 0)), (1, .int x1), (2, .int x2), (4, .int x4)]) hx hb dX6_judge_113 hl (k := 6) rfl rfl (by decide) rfl (fun ls hl => ?_)
          refine lv_goto (tgt := 50) hx hb dX6_judge_116 (by decide) ?_
          exact ih50 (x3 + (1 : Int32)) x4 (x5 + (1 : Int32)) h ls (lv_sub hl [3, 4, 5, 1, 6, 0] rfl)
  unfold f_X6_judge at h
  refine lv_iload_n hx hb dX6_judge_0 rfl (lv_at hl 1 rfl) ?_
  refine lv_iconst (v := (1 : Int32)) hx hb dX6_judge_1 (by decide) ?_
  refine lv_icmp_lt (tgt := 23) hx hb dX6_judge_2 (by decide) (fun q_7 => ?_) (fun q_7 => ?_)
  · have h := mk_ifp q_7 h
    refine lv_bipush (v := (-2 : Int32)) hx hb dX6_judge_23 (by decide) ?_
    exact hret _ _ _ h dX6_judge_25
  · have h := mk_ifn q_7 h
    refine lv_iload_n hx hb dX6_judge_5 rfl (lv_at hl 1 rfl) ?_
    refine lv_bipush (v := (8 : Int32)) hx hb dX6_judge_6 (by decide) ?_
    refine lv_icmp_gt (tgt := 23) hx hb dX6_judge_8 (by decide) (fun q_8 => ?_) (fun q_8 => ?_)
    · have h := mk_ifp q_8 h
      refine lv_bipush (v := (-2 : Int32)) hx hb dX6_judge_23 (by decide) ?_
      exact hret _ _ _ h dX6_judge_25
    · have h := mk_ifn q_8 h
      refine lv_iload_n hx hb dX6_judge_11 rfl (lv_at hl 2 rfl) ?_
      refine lv_if_lt (tgt := 23) hx hb dX6_judge_12 (by decide) (fun q_9 => ?_) (fun q_9 => ?_)
      · have h := mk_ifp q_9 h
        refine lv_bipush (v := (-2 : Int32)) hx hb dX6_judge_23 (by decide) ?_
        exact hret _ _ _ h dX6_judge_25
      · have h := mk_ifn q_9 h
        refine lv_iload_n hx hb dX6_judge_15 rfl (lv_at hl 2 rfl) ?_
        refine lv_iload_n hx hb dX6_judge_16 rfl (lv_at hl 1 rfl) ?_
        obtain ⟨r_10, er_10, h⟩ := mk_bd h
        refine pc_s (As := [.int p1]) (rest := [.int p2]) ⟨hx, hb, hml, hown, hts⟩ (c_X6_powerOfTen l D cI cZ cO N p1 r_10 er_10) (va_cwS 1 hts k_X6_judge_X6_powerOfTen_229 rfl rfl rfl (by decide +kernel) ⟨(Nat.le_of_ble_eq_true rfl), (Nat.le_of_ble_eq_true rfl)⟩) (hP.sub (ws' := []) [] rfl) hK rfl hl.1 rfl (Nat.le_of_ble_eq_true rfl) dX6_judge_17 ⟨Nat.zero_le _, Nat.zero_le _⟩ ?_
        refine lv_icmp_lt (tgt := 26) hx hb dX6_judge_20 (by decide) (fun q_11 => ?_) (fun q_11 => ?_)
        · have h := mk_ifp q_11 h
          refine lv_aload_n hx hb dX6_judge_26 rfl (lv_at hl 0 rfl) ?_
          refine va_get (D := D) (ci := 6) (v := .ref ((a0 4) 0)) (C := RX6) (T := TX6) (N := 12) hx hb hts hiX6 hown hK hP 0 rfl rfl 5 (by decide) (hts (.fieldLink RX6 37 "ClockOnce" "life" "LClockOnce$Life;") (List.mem_of_getElem? (i := 1) rfl)) (fun _ h9 => h9) rfl dX6_judge_27 ?_
          refine va_get (D := D) (ci := 2) (v := .int ((c0 4) 0 0)) (C := RX2) (T := TX2) (N := 5) hx hb hts hiX2 hown hK hP 26 rfl rfl 0 (by decide) (hts (.fieldLink RX6 143 "ClockOnce$Life" "day" "I") (List.mem_of_getElem? (i := 2) rfl)) (fun _ h9 => h9) rfl dX6_judge_30 ?_
          refine lv_istore_n (lv' := [(3, .int ((c0 4) 0 0)), (0, .ref ((a0 0) 0)), (1, .int p1), (2, .int p2)]) hx hb dX6_judge_33 rfl hl (by decide) rfl (fun ls hl => ?_)
          refine lv_aload_n hx hb dX6_judge_34 rfl (lv_at hl 1 rfl) ?_
          refine va_get (D := D) (ci := 6) (v := .ref ((a0 4) 0)) (C := RX6) (T := TX6) (N := 12) hx hb hts hiX6 hown hK hP 0 rfl rfl 5 (by decide) (hts (.fieldLink RX6 37 "ClockOnce" "life" "LClockOnce$Life;") (List.mem_of_getElem? (i := 1) rfl)) (fun _ h9 => h9) rfl dX6_judge_35 ?_
          refine lv_aload_n hx hb dX6_judge_38 rfl (lv_at hl 1 rfl) ?_
          refine va_get (D := D) (ci := 6) (v := .ref ((a0 2) 0)) (C := RX6) (T := TX6) (N := 12) hx hb hts hiX6 hown hK hP 0 rfl rfl 3 (by decide) (hts (.fieldLink RX6 27 "ClockOnce" "town" "LClockOnce$Town;") (List.mem_of_getElem? (i := 3) rfl)) (fun _ h9 => h9) rfl dX6_judge_39 ?_
          obtain ⟨r_12, er_12, h⟩ := mk_bd h
          refine pc_v (As := [.ref ((a0 2) 0)]) (rest := []) ⟨hx, hb, hml, hown, hts⟩ (c_X2_soldThings l D cI cZ cO N (a0 4) (c0 4) (a0 2) (c0 2) r_12 er_12) (cwV 1 hts k_X6_judge_X2_soldThings_232 rfl rfl rfl (by decide +kernel) ⟨(Nat.le_of_ble_eq_true rfl), (Nat.le_of_ble_eq_true rfl)⟩) (va_recv hK hP (ci := 2) (q0 := 26) rfl rfl) (hP.sub (ws' := wX2 cI (a0 4) (c0 4) ++ wX5 cI (a0 2) (c0 2)) [26, 27, 28, 6, 7, 8, 9, 10, 11, 12, 13, 14, 15] rfl) hK rfl hl.1 rfl (Nat.le_of_ble_eq_true rfl) dX6_judge_42 ⟨Nat.zero_le _, Nat.zero_le _⟩ ?_
          refine lv_istore (lv' := [(4, .int r_12), (3, .int ((c0 4) 0 0)), (0, .ref ((a0 0) 0)), (1, .int p1), (2, .int p2)]) hx hb dX6_judge_45 hl (by decide) rfl (fun ls hl => ?_)
          refine lv_iconst (v := (0 : Int32)) hx hb dX6_judge_47 (by decide) ?_
          refine lv_istore (lv' := [(5, .int (0 : Int32)), (4, .int r_12), (3, .int ((c0 4) 0 0)), (0, .ref ((a0 0) 0)), (1, .int p1), (2, .int p2)]) hx hb dX6_judge_48 hl (by decide) rfl (fun ls hl => ?_)
          exact K50 p1 p2 ((c0 4) 0 0) r_12 (0 : Int32) ls (lv_sub hl [3, 4, 5, 2, 1, 0] rfl) h
        · have h := mk_ifn q_11 h
          refine lv_bipush (v := (-2 : Int32)) hx hb dX6_judge_23 (by decide) ?_
          exact hret _ _ _ h dX6_judge_25

abbrev rm_X6_knownEnd : Room := { frames := 4, cells := 0, slots := 0, locals := 86 }
set_option maxRecDepth 20000 in
theorem k_X6_knownEnd_X5_trueEnd_140 : GoodIn wsX6_knownEnd (wsV RX6 140 RX5 yX5_trueEnd wsX5_trueEnd) := goodIn_r _ [19, 20, 21, 22, 23, 24, 25, 26, 27, 22, 28, 29, 30, 31, 32, 33, 34, 52, 53, 54, 55, 56, 57, 58, 59, 60, 61, 62, 63, 64, 65] rfl (by decide +kernel)
set_option maxRecDepth 20000 in
theorem k_X6_knownEnd_X6_hasEnded_114 : GoodIn wsX6_knownEnd (wsV RX6 114 RX6 yX6_hasEnded wsX6_hasEnded) := goodIn_r _ [13, 14, 15, 16, 17, 2, 1, 18, 19, 20, 21, 22, 23, 24, 25, 26, 27, 28, 29, 30, 31, 32, 33, 34, 35, 36, 37, 38, 39, 40, 41, 42, 43, 44, 45, 46, 47, 48, 49, 50, 51, 52, 53, 54, 55, 56, 57, 58, 59, 60, 61, 62, 63, 64, 65] rfl (by decide +kernel)
set_option maxRecDepth 20000 in
theorem k_X6_knownEnd_X2_askedThings_269 : GoodIn wsX6_knownEnd (wsV RX6 269 RX2 yX2_askedThings wsX2_askedThings) := goodIn_r _ [3, 4, 5, 6, 7, 8, 9, 10, 6, 11, 12, 47, 48, 49, 50, 51] rfl (by decide +kernel)
set_option maxHeartbeats 4000000 in
set_option maxRecDepth 100000 in
theorem c_X6_knownEnd (l : Launch) (D : va_G) (cI cZ cO : ClassId) (N : Nat) (a0 : Nat → Nat → Nat) (c0 : CU) (sd : Int64) (p1 : Int32) (out : Int32) (h : f_X6_knownEnd N c0 sd p1 = some out) : Met l yX6_knownEnd wsX6_knownEnd rm_X6_knownEnd (va_Pc [.ref ((a0 0) 0), .int p1] (fun U => va_P D vwCl (wX6 cI cO a0 c0 sd) U.heap ∧ va_K D vwCl (tyA cI cZ cO) U)) (vp_Si (fun r => r = out)) 0 0 (fun _ => False) := by
  refine pm_i (own := RX6) (cc := cX6_knownEnd) (maxL := 3) (by decide) rfl rfl (Nat.le_of_ble_eq_true rfl) ?_
  intro p e s m args below meth c Q H ls hx hb hml hown hts hP hK hl hret
  have hl : lv_has ls 3 [(0, .ref ((a0 0) 0)), (1, .int p1)] := hl
  have hiX6 : ∀ w ∈ u_ws RX6 TX6 12, w ∈ wsX6_knownEnd := mk_seg 35 12 rfl
  have K32 : ∀ (x1 : Int32) (ls : Array Slot), lv_has ls 3 [(0, .ref ((a0 0) 0)), (1, .int x1)] → g_X6_knownEnd_32 N c0 sd x1 = some out → W p l e rm_X6_knownEnd s m args below meth c H [] 0 0 Q (F0 m 32 ls []) := by
    intro x1 ls hl h
    unfold g_X6_knownEnd_32 at h
    refine lv_aload_n hx hb dX6_knownEnd_32 rfl (lv_at hl 0 rfl) ?_
    refine va_get (D := D) (ci := 6) (v := .ref ((a0 2) 0)) (C := RX6) (T := TX6) (N := 12) hx hb hts hiX6 hown hK hP 0 rfl rfl 3 (by decide) (hts (.fieldLink RX6 27 "ClockOnce" "town" "LClockOnce$Town;") (List.mem_of_getElem? (i := 2) rfl)) (fun _ h9 => h9) rfl dX6_knownEnd_33 ?_
    refine lv_iload_n hx hb dX6_knownEnd_36 rfl (lv_at hl 1 rfl) ?_
    obtain ⟨r_1, er_1, h⟩ := mk_bd h
    refine pc_v (As := [.int x1]) (rest := []) ⟨hx, hb, hml, hown, hts⟩ (c_X5_trueEnd l D cI cZ cO N (a0 2) (c0 2) x1 r_1 er_1) (cwV 1 hts k_X6_knownEnd_X5_trueEnd_140 rfl rfl rfl (by decide +kernel) ⟨(Nat.le_of_ble_eq_true rfl), (Nat.le_of_ble_eq_true rfl)⟩) (va_recv hK hP (ci := 5) (q0 := 6) rfl rfl) (hP.sub (ws' := wX5 cI (a0 2) (c0 2)) [6, 7, 8, 9, 10, 11, 12, 13, 14, 15] rfl) hK rfl hl.1 rfl (Nat.le_of_ble_eq_true rfl) dX6_knownEnd_37 ⟨Nat.zero_le _, Nat.zero_le _⟩ ?_
    refine lv_goto (tgt := 45) hx hb dX6_knownEnd_40 (by decide) ?_
    exact hret _ _ _ h dX6_knownEnd_45
  have K19 : ∀ (x1 : Int32) (t0 : Int32) (ls : Array Slot), lv_has ls 3 [(0, .ref ((a0 0) 0)), (1, .int x1)] → g_X6_knownEnd_19 N c0 sd x1 t0 = some out → W p l e rm_X6_knownEnd s m args below meth c H [] 0 0 Q (F0 m 19 ls [.int t0]) := by
    intro x1 t0 ls hl h
    unfold g_X6_knownEnd_19 at h
    refine lv_istore_n (lv' := [(2, .int t0), (0, .ref ((a0 0) 0)), (1, .int x1)]) hx hb dX6_knownEnd_19 rfl hl (by decide) rfl (fun ls hl => ?_)
    refine lv_aload_n hx hb dX6_knownEnd_20 rfl (lv_at hl 1 rfl) ?_
    refine lv_iload_n hx hb dX6_knownEnd_21 rfl (lv_at hl 2 rfl) ?_
    obtain ⟨r_2, er_2, h⟩ := mk_bd h
    refine pc_v (As := [.int x1]) (rest := []) ⟨hx, hb, hml, hown, hts⟩ (c_X6_hasEnded l D cI cZ cO N a0 c0 sd x1 r_2 er_2) (cwV 1 hts k_X6_knownEnd_X6_hasEnded_114 rfl rfl rfl (by decide +kernel) ⟨(Nat.le_of_ble_eq_true rfl), (Nat.le_of_ble_eq_true rfl)⟩) (va_recv hK hP (ci := 6) (q0 := 0) rfl rfl) hP hK rfl hl.1 rfl (Nat.le_of_ble_eq_true rfl) dX6_knownEnd_22 ⟨Nat.zero_le _, Nat.zero_le _⟩ ?_
    refine lv_if_ne (tgt := 32) hx hb dX6_knownEnd_25 (by decide) (fun q_3 => ?_) (fun q_3 => ?_)
    · have h := mk_ifn q_3 h
      exact K32 x1 ls (lv_sub hl [1, 2] rfl) h
    · have h := mk_ifp q_3 h
      refine lv_iload_n hx hb dX6_knownEnd_28 rfl (lv_at hl 0 rfl) ?_
      refine lv_if_eq (tgt := 43) hx hb dX6_knownEnd_29 (by decide) (fun q_4 => ?_) (fun q_4 => ?_)
      · have h := mk_ifp q_4 h
        refine lv_bipush (v := (-9 : Int32)) hx hb dX6_knownEnd_43 (by decide) ?_
        exact hret _ _ _ h dX6_knownEnd_45
      · have h := mk_ifn q_4 h
        exact K32 x1 ls (lv_sub hl [1, 2] rfl) h
  unfold f_X6_knownEnd at h
  refine lv_aload_n hx hb dX6_knownEnd_0 rfl (lv_at hl 0 rfl) ?_
  refine va_get (D := D) (ci := 6) (v := .ref ((a0 4) 0)) (C := RX6) (T := TX6) (N := 12) hx hb hts hiX6 hown hK hP 0 rfl rfl 5 (by decide) (hts (.fieldLink RX6 37 "ClockOnce" "life" "LClockOnce$Life;") (List.mem_of_getElem? (i := 1) rfl)) (fun _ h9 => h9) rfl dX6_knownEnd_1 ?_
  obtain ⟨r_5, er_5, h⟩ := mk_bd h
  refine pc_v (As := []) (rest := []) ⟨hx, hb, hml, hown, hts⟩ (c_X2_askedThings l D cI cZ cO N (a0 4) (c0 4) r_5 er_5) (cwV 0 hts k_X6_knownEnd_X2_askedThings_269 rfl rfl rfl (by decide +kernel) ⟨(Nat.le_of_ble_eq_true rfl), (Nat.le_of_ble_eq_true rfl)⟩) (va_recv hK hP (ci := 2) (q0 := 26) rfl rfl) (hP.sub (ws' := wX2 cI (a0 4) (c0 4)) [26, 27, 28] rfl) hK rfl hl.1 rfl (Nat.le_of_ble_eq_true rfl) dX6_knownEnd_4 ⟨Nat.zero_le _, Nat.zero_le _⟩ ?_
  refine lv_iload_n hx hb dX6_knownEnd_7 rfl (lv_at hl 1 rfl) ?_
  refine lv_ishr hx hb dX6_knownEnd_8 ?_
  refine lv_iconst (v := (1 : Int32)) hx hb dX6_knownEnd_9 (by decide) ?_
  refine lv_iand hx hb dX6_knownEnd_10 ?_
  refine lv_if_eq (tgt := 18) hx hb dX6_knownEnd_11 (by decide) (fun q_6 => ?_) (fun q_6 => ?_)
  · have h := mk_ifp q_6 h
    refine lv_iconst (v := (0 : Int32)) hx hb dX6_knownEnd_18 (by decide) ?_
    exact K19 p1 (0 : Int32) ls (lv_sub hl [0, 1] rfl) h
  · have h := mk_ifn q_6 h
    refine lv_iconst (v := (1 : Int32)) hx hb dX6_knownEnd_14 (by decide) ?_
    refine lv_goto (tgt := 19) hx hb dX6_knownEnd_15 (by decide) ?_
    exact K19 p1 (1 : Int32) ls (lv_sub hl [0, 1] rfl) h

abbrev rm_X6_likely : Room := { frames := 6, cells := 0, slots := 0, locals := 134 }
set_option maxRecDepth 20000 in
theorem k_X6_likely_X5_hasAsker_121 : GoodIn wsX6_likely (wsV RX6 121 RX5 yX5_hasAsker wsX5_hasAsker) := goodIn_r _ [2, 3, 4, 5, 6, 7, 91, 92, 93, 94, 95, 96, 97, 98, 99, 100, 101, 102, 103, 104] rfl (by decide +kernel)
set_option maxRecDepth 20000 in
theorem k_X6_likely_X5_hasThing_95 : GoodIn wsX6_likely (wsV RX6 95 RX5 yX5_hasThing wsX5_hasThing) := goodIn_r _ [8, 9, 10, 5, 11, 12, 91, 92, 93, 94, 95, 96, 97, 98, 99, 100, 101, 102, 103, 104] rfl (by decide +kernel)
set_option maxRecDepth 20000 in
theorem k_X6_likely_X6_heldWorlds_166 : GoodIn wsX6_likely (wsV RX6 166 RX6 yX6_heldWorlds wsX6_heldWorlds) := goodIn_r _ [13, 14, 15, 16, 17, 1, 18, 19, 20, 21, 22, 23, 5, 24, 25, 26, 12, 27, 28, 29, 30, 31, 32, 33, 34, 35, 36, 37, 38, 39, 40, 41, 42, 43, 44, 45, 46, 47, 48, 49, 50, 51, 52, 53, 54, 55, 56, 57, 58, 59, 60, 61, 62, 63, 79, 80, 81, 82, 83, 84, 85, 86, 87, 88, 89, 90, 105, 106, 107, 108, 109, 91, 92, 93, 94, 95, 96, 97, 98, 99, 100, 101, 102, 103, 104] rfl (by decide +kernel)
set_option maxRecDepth 20000 in
theorem k_X6_likely_X5_partsOf_163 : GoodIn wsX6_likely (wsV RX6 163 RX5 yX5_partsOf wsX5_partsOf) := goodIn_r _ [64, 65, 66, 5, 67, 12, 68, 91, 92, 93, 94, 95, 96, 97, 98, 99, 100, 101, 102, 103, 104] rfl (by decide +kernel)
set_option maxRecDepth 20000 in
theorem k_X6_likely_X5_partsOfEarly_169 : GoodIn wsX6_likely (wsV RX6 169 RX5 yX5_partsOfEarly wsX5_partsOfEarly) := goodIn_r _ [69, 70, 71, 5, 72, 12, 68, 41, 42, 43, 5, 44, 91, 92, 93, 94, 95, 96, 97, 98, 99, 100, 101, 102, 103, 104] rfl (by decide +kernel)
set_option maxRecDepth 20000 in
theorem k_X6_likely_X6_fraction_173 : GoodIn wsX6_likely (va_wsS RX6 173 yX6_fraction wsX6_fraction) := goodIn_r _ [73, 74, 16, 75, 76, 77, 16, 78] rfl (by decide +kernel)
set_option maxHeartbeats 4000000 in
set_option maxRecDepth 100000 in
theorem c_X6_likely (l : Launch) (D : va_G) (cI cZ cO : ClassId) (N : Nat) (a0 : Nat → Nat → Nat) (c0 : CU) (sd : Int64) (p1 : Int32) (p2 : Int32) (p3 : Int32) (out : Int32) (h : f_X6_likely N c0 sd p1 p2 p3 = some out) : Met l yX6_likely wsX6_likely rm_X6_likely (va_Pc [.ref ((a0 0) 0), .int p1, .int p2, .int p3] (fun U => va_P D vwCl (wX6 cI cO a0 c0 sd) U.heap ∧ va_K D vwCl (tyA cI cZ cO) U)) (vp_Si (fun r => r = out)) 0 0 (fun _ => False) := by
  refine pm_i (own := RX6) (cc := cX6_likely) (maxL := 6) (by decide) rfl rfl (Nat.le_of_ble_eq_true rfl) ?_
  intro p e s m args below meth c Q H ls hx hb hml hown hts hP hK hl hret
  have hl : lv_has ls 6 [(0, .ref ((a0 0) 0)), (1, .int p1), (2, .int p2), (3, .int p3)] := hl
  have hiX6 : ∀ w ∈ u_ws RX6 TX6 12, w ∈ wsX6_likely := mk_seg 79 12 rfl
  unfold f_X6_likely at h
  refine lv_aload_n hx hb dX6_likely_0 rfl (lv_at hl 0 rfl) ?_
  refine va_get (D := D) (ci := 6) (v := .ref ((a0 2) 0)) (C := RX6) (T := TX6) (N := 12) hx hb hts hiX6 hown hK hP 0 rfl rfl 3 (by decide) (hts (.fieldLink RX6 27 "ClockOnce" "town" "LClockOnce$Town;") (List.mem_of_getElem? (i := 1) rfl)) (fun _ h9 => h9) rfl dX6_likely_1 ?_
  refine lv_iload_n hx hb dX6_likely_4 rfl (lv_at hl 1 rfl) ?_
  obtain ⟨r_1, er_1, h⟩ := mk_bd h
  refine pc_v (As := [.int p1]) (rest := []) ⟨hx, hb, hml, hown, hts⟩ (c_X5_hasAsker l D cI cZ cO N (a0 2) (c0 2) p1 r_1 er_1) (cwV 1 hts k_X6_likely_X5_hasAsker_121 rfl rfl rfl (by decide +kernel) ⟨(Nat.le_of_ble_eq_true rfl), (Nat.le_of_ble_eq_true rfl)⟩) (va_recv hK hP (ci := 5) (q0 := 6) rfl rfl) (hP.sub (ws' := wX5 cI (a0 2) (c0 2)) [6, 7, 8, 9, 10, 11, 12, 13, 14, 15] rfl) hK rfl hl.1 rfl (Nat.le_of_ble_eq_true rfl) dX6_likely_5 ⟨Nat.zero_le _, Nat.zero_le _⟩ ?_
  refine lv_if_eq (tgt := 22) hx hb dX6_likely_8 (by decide) (fun q_2 => ?_) (fun q_2 => ?_)
  · have h := mk_ifp q_2 h
    refine lv_iconst (v := (-1 : Int32)) hx hb dX6_likely_22 (by decide) ?_
    exact hret _ _ _ h dX6_likely_23
  · have h := mk_ifn q_2 h
    refine lv_aload_n hx hb dX6_likely_11 rfl (lv_at hl 0 rfl) ?_
    refine va_get (D := D) (ci := 6) (v := .ref ((a0 2) 0)) (C := RX6) (T := TX6) (N := 12) hx hb hts hiX6 hown hK hP 0 rfl rfl 3 (by decide) (hts (.fieldLink RX6 27 "ClockOnce" "town" "LClockOnce$Town;") (List.mem_of_getElem? (i := 1) rfl)) (fun _ h9 => h9) rfl dX6_likely_12 ?_
    refine lv_iload_n hx hb dX6_likely_15 rfl (lv_at hl 2 rfl) ?_
    obtain ⟨r_3, er_3, h⟩ := mk_bd h
    refine pc_v (As := [.int p2]) (rest := []) ⟨hx, hb, hml, hown, hts⟩ (c_X5_hasThing l D cI cZ cO N (a0 2) (c0 2) p2 r_3 er_3) (cwV 1 hts k_X6_likely_X5_hasThing_95 rfl rfl rfl (by decide +kernel) ⟨(Nat.le_of_ble_eq_true rfl), (Nat.le_of_ble_eq_true rfl)⟩) (va_recv hK hP (ci := 5) (q0 := 6) rfl rfl) (hP.sub (ws' := wX5 cI (a0 2) (c0 2)) [6, 7, 8, 9, 10, 11, 12, 13, 14, 15] rfl) hK rfl hl.1 rfl (Nat.le_of_ble_eq_true rfl) dX6_likely_16 ⟨Nat.zero_le _, Nat.zero_le _⟩ ?_
    refine lv_if_ne (tgt := 24) hx hb dX6_likely_19 (by decide) (fun q_4 => ?_) (fun q_4 => ?_)
    · have h := mk_ifn q_4 h
      refine lv_aload_n hx hb dX6_likely_24 rfl (lv_at hl 0 rfl) ?_
      refine lv_iload_n hx hb dX6_likely_25 rfl (lv_at hl 1 rfl) ?_
      obtain ⟨r_5, er_5, h⟩ := mk_bd h
      refine pc_v (As := [.int p1]) (rest := []) ⟨hx, hb, hml, hown, hts⟩ (c_X6_heldWorlds l D cI cZ cO N a0 c0 sd p1 r_5 er_5) (cwV 1 hts k_X6_likely_X6_heldWorlds_166 rfl rfl rfl (by decide +kernel) ⟨(Nat.le_of_ble_eq_true rfl), (Nat.le_of_ble_eq_true rfl)⟩) (va_recv hK hP (ci := 6) (q0 := 0) rfl rfl) hP hK rfl hl.1 rfl (Nat.le_of_ble_eq_true rfl) dX6_likely_26 ⟨Nat.zero_le _, Nat.zero_le _⟩ ?_
      refine lv_istore (lv' := [(4, .int r_5), (0, .ref ((a0 0) 0)), (1, .int p1), (2, .int p2), (3, .int p3)]) hx hb dX6_likely_29 hl (by decide) rfl (fun ls hl => ?_)
      refine lv_aload_n hx hb dX6_likely_31 rfl (lv_at hl 1 rfl) ?_
      refine va_get (D := D) (ci := 6) (v := .ref ((a0 2) 0)) (C := RX6) (T := TX6) (N := 12) hx hb hts hiX6 hown hK hP 0 rfl rfl 3 (by decide) (hts (.fieldLink RX6 27 "ClockOnce" "town" "LClockOnce$Town;") (List.mem_of_getElem? (i := 1) rfl)) (fun _ h9 => h9) rfl dX6_likely_32 ?_
      refine lv_iload hx hb dX6_likely_35 (lv_at hl 0 rfl) ?_
      obtain ⟨r_6, er_6, h⟩ := mk_bd h
      refine pc_v (As := [.int r_5]) (rest := []) ⟨hx, hb, hml, hown, hts⟩ (c_X5_partsOf l D cI cZ cO N (a0 2) (c0 2) r_5 r_6 er_6) (cwV 1 hts k_X6_likely_X5_partsOf_163 rfl rfl rfl (by decide +kernel) ⟨(Nat.le_of_ble_eq_true rfl), (Nat.le_of_ble_eq_true rfl)⟩) (va_recv hK hP (ci := 5) (q0 := 6) rfl rfl) (hP.sub (ws' := wX5 cI (a0 2) (c0 2)) [6, 7, 8, 9, 10, 11, 12, 13, 14, 15] rfl) hK rfl hl.1 rfl (Nat.le_of_ble_eq_true rfl) dX6_likely_37 ⟨Nat.zero_le _, Nat.zero_le _⟩ ?_
      refine lv_istore (lv' := [(5, .int r_6), (4, .int r_5), (0, .ref ((a0 0) 0)), (1, .int p1), (2, .int p2), (3, .int p3)]) hx hb dX6_likely_40 hl (by decide) rfl (fun ls hl => ?_)
      refine lv_iload hx hb dX6_likely_42 (lv_at hl 0 rfl) ?_
      refine lv_if_ne (tgt := 50) hx hb dX6_likely_44 (by decide) (fun q_7 => ?_) (fun q_7 => ?_)
      · have h := mk_ifn q_7 h
        refine lv_aload_n hx hb dX6_likely_50 rfl (lv_at hl 2 rfl) ?_
        refine va_get (D := D) (ci := 6) (v := .ref ((a0 2) 0)) (C := RX6) (T := TX6) (N := 12) hx hb hts hiX6 hown hK hP 0 rfl rfl 3 (by decide) (hts (.fieldLink RX6 27 "ClockOnce" "town" "LClockOnce$Town;") (List.mem_of_getElem? (i := 1) rfl)) (fun _ h9 => h9) rfl dX6_likely_51 ?_
        refine lv_iload hx hb dX6_likely_54 (lv_at hl 1 rfl) ?_
        refine lv_iload_n hx hb dX6_likely_56 rfl (lv_at hl 4 rfl) ?_
        obtain ⟨r_8, er_8, h⟩ := mk_bd h
        refine pc_v (As := [.int r_5, .int p2]) (rest := []) ⟨hx, hb, hml, hown, hts⟩ (c_X5_partsOfEarly l D cI cZ cO N (a0 2) (c0 2) r_5 p2 r_8 er_8) (cwV 2 hts k_X6_likely_X5_partsOfEarly_169 rfl rfl rfl (by decide +kernel) ⟨(Nat.le_of_ble_eq_true rfl), (Nat.le_of_ble_eq_true rfl)⟩) (va_recv hK hP (ci := 5) (q0 := 6) rfl rfl) (hP.sub (ws' := wX5 cI (a0 2) (c0 2)) [6, 7, 8, 9, 10, 11, 12, 13, 14, 15] rfl) hK rfl hl.1 rfl (Nat.le_of_ble_eq_true rfl) dX6_likely_57 ⟨Nat.zero_le _, Nat.zero_le _⟩ ?_
        refine lv_iload hx hb dX6_likely_60 (lv_at hl 0 rfl) ?_
        refine lv_iload_n hx hb dX6_likely_62 rfl (lv_at hl 5 rfl) ?_
        obtain ⟨r_9, er_9, h⟩ := mk_bd h
        refine pc_s (As := [.int r_8, .int r_6, .int p3]) (rest := []) ⟨hx, hb, hml, hown, hts⟩ (c_X6_fraction l D cI cZ cO N r_8 r_6 p3 r_9 er_9) (va_cwS 3 hts k_X6_likely_X6_fraction_173 rfl rfl rfl (by decide +kernel) ⟨(Nat.le_of_ble_eq_true rfl), (Nat.le_of_ble_eq_true rfl)⟩) (hP.sub (ws' := []) [] rfl) hK rfl hl.1 rfl (Nat.le_of_ble_eq_true rfl) dX6_likely_63 ⟨Nat.zero_le _, Nat.zero_le _⟩ ?_
        exact hret _ _ _ h dX6_likely_66
      · have h := mk_ifp q_7 h
        refine lv_bipush (v := (-3 : Int32)) hx hb dX6_likely_47 (by decide) ?_
        exact hret _ _ _ h dX6_likely_49
    · have h := mk_ifp q_4 h
      refine lv_iconst (v := (-1 : Int32)) hx hb dX6_likely_22 (by decide) ?_
      exact hret _ _ _ h dX6_likely_23

abbrev rm_X6_see : Room := { frames := 1, cells := 0, slots := 0, locals := 22 }
set_option maxRecDepth 20000 in
theorem k_X6_see_X5_hasThing_95 : GoodIn wsX6_see (wsV RX6 95 RX5 yX5_hasThing wsX5_hasThing) := goodIn_r _ [4, 5, 6, 7, 8, 9, 33, 34, 35, 36, 37, 38, 39, 40, 41, 42, 43, 44, 45, 46] rfl (by decide +kernel)
set_option maxRecDepth 20000 in
theorem k_X6_see_X4_add_216 : GoodIn wsX6_see (wsV RX6 216 RX4 yX4_add wsX4_add) := goodIn_r _ [10, 11, 12, 13, 14, 15, 16, 17, 30, 31, 32] rfl (by decide +kernel)
set_option maxHeartbeats 4000000 in
set_option maxRecDepth 100000 in
theorem c_X6_see (l : Launch) (D : va_G) (cI cZ cO : ClassId) (N : Nat) (a0 : Nat → Nat → Nat) (c0 : CU) (sd : Int64) (p1 : Int32) (p2 : Int32) (sz : Nat) (out : Int32 × CU) (h : f_X6_see N c0 sd p1 p2 = some out) : Met l yX6_see wsX6_see rm_X6_see (va_Pc [.ref ((a0 0) 0), .int p1, .int p2] (mk_Pe D vwCl (tyA cI cZ cO) (wX6 cI cO a0 c0 sd) sz)) (va_Qi (fun r u => (r, u) = out) (mk_Be D vwCl (wX6 cI cO a0 c0 sd) sz (fun q => (wX6 cI cO a0 q sd))) (va_A (wX6 cI cO a0 c0 sd) sz)) 0 0 (va_A (wX6 cI cO a0 c0 sd) sz) := by
  refine em_i (own := RX6) (cc := cX6_see) (maxL := 3) (by decide) rfl rfl (Nat.le_of_ble_eq_true rfl) ?_
  intro p e s m args below meth c Q A H0 H locs ls hx hb hml hown hts hP hK hD hS hA hl hret
  have hl : lv_has ls 3 [(0, .ref ((a0 0) 0)), (1, .int p1), (2, .int p2)] := hl
  have hiX4 : ∀ w ∈ u_ws RX4 TX4 3, w ∈ wsX6_see := mk_seg 30 3 rfl
  have hiX6 : ∀ w ∈ u_ws RX6 TX6 12, w ∈ wsX6_see := mk_seg 18 12 rfl
  unfold f_X6_see at h
  refine lv_aload_n hx hb dX6_see_0 rfl (lv_at hl 0 rfl) ?_
  refine va_get (D := D) (ci := 6) (v := .ref ((a0 2) 0)) (C := RX6) (T := TX6) (N := 12) hx hb hts hiX6 hown hK hP 0 rfl rfl 3 (by decide) (hts (.fieldLink RX6 27 "ClockOnce" "town" "LClockOnce$Town;") (List.mem_of_getElem? (i := 1) rfl)) (fun _ h9 => h9) rfl dX6_see_1 ?_
  refine lv_iload_n hx hb dX6_see_4 rfl (lv_at hl 1 rfl) ?_
  obtain ⟨r_1, er_1, h⟩ := mk_bd h
  refine pc_v (As := [.int p1]) (rest := []) ⟨hx, hb, hml, hown, hts⟩ (c_X5_hasThing l D cI cZ cO N (a0 2) (c0 2) p1 r_1 er_1) (cwV 1 hts k_X6_see_X5_hasThing_95 rfl rfl rfl (by decide +kernel) ⟨(Nat.le_of_ble_eq_true rfl), (Nat.le_of_ble_eq_true rfl)⟩) (va_recv hK hP (ci := 5) (q0 := 6) rfl rfl) (hP.sub (ws' := wX5 cI (a0 2) (c0 2)) [6, 7, 8, 9, 10, 11, 12, 13, 14, 15] rfl) hK rfl hl.1 rfl (Nat.le_of_ble_eq_true rfl) dX6_see_5 ⟨Nat.zero_le _, Nat.zero_le _⟩ ?_
  refine lv_if_ne (tgt := 13) hx hb dX6_see_8 (by decide) (fun q_2 => ?_) (fun q_2 => ?_)
  · have h := mk_ifn q_2 h
    refine lv_iload_n hx hb dX6_see_13 rfl (lv_at hl 2 rfl) ?_
    refine lv_if_lt (tgt := 23) hx hb dX6_see_14 (by decide) (fun q_3 => ?_) (fun q_3 => ?_)
    · have h := mk_ifp q_3 h
      refine lv_bipush (v := (-2 : Int32)) hx hb dX6_see_23 (by decide) ?_
      exact hret _ _ _ _ _ _ h hP hD hS dX6_see_25
    · have h := mk_ifn q_3 h
      refine lv_iload_n hx hb dX6_see_17 rfl (lv_at hl 2 rfl) ?_
      refine lv_bipush (v := (9 : Int32)) hx hb dX6_see_18 (by decide) ?_
      refine lv_icmp_le (tgt := 26) hx hb dX6_see_20 (by decide) (fun q_4 => ?_) (fun q_4 => ?_)
      · have h := mk_ifp q_4 h
        refine lv_aload_n hx hb dX6_see_26 rfl (lv_at hl 0 rfl) ?_
        refine va_get (D := D) (ci := 6) (v := .ref ((a0 8) 0)) (C := RX6) (T := TX6) (N := 12) hx hb hts hiX6 hown hK hP 0 rfl rfl 8 (by decide) (hts (.fieldLink RX6 55 "ClockOnce" "seen" "LClockOnce$Sales;") (List.mem_of_getElem? (i := 2) rfl)) (fun _ h9 => h9) rfl dX6_see_27 ?_
        refine va_get (D := D) (ci := 4) (v := .int ((c0 8) 0 0)) (C := RX4) (T := TX4) (N := 3) hx hb hts hiX4 hown hK hP 39 rfl rfl 2 (by decide) (hts (.fieldLink RX6 215 "ClockOnce$Sales" "size" "I") (List.mem_of_getElem? (i := 3) rfl)) (fun _ h9 => h9) rfl dX6_see_30 ?_
        refine lv_bipush (v := (6 : Int32)) hx hb dX6_see_33 (by decide) ?_
        refine lv_icmp_lt (tgt := 41) hx hb dX6_see_35 (by decide) (fun q_5 => ?_) (fun q_5 => ?_)
        · have h := mk_ifp q_5 h
          refine lv_aload_n hx hb dX6_see_41 rfl (lv_at hl 0 rfl) ?_
          refine va_get (D := D) (ci := 6) (v := .ref ((a0 8) 0)) (C := RX6) (T := TX6) (N := 12) hx hb hts hiX6 hown hK hP 0 rfl rfl 8 (by decide) (hts (.fieldLink RX6 55 "ClockOnce" "seen" "LClockOnce$Sales;") (List.mem_of_getElem? (i := 2) rfl)) (fun _ h9 => h9) rfl dX6_see_42 ?_
          refine lv_iload_n hx hb dX6_see_45 rfl (lv_at hl 1 rfl) ?_
          refine lv_iload_n hx hb dX6_see_46 rfl (lv_at hl 2 rfl) ?_
          obtain ⟨r_6, er_6, h⟩ := mk_bd h
          refine ec_vv (As := [.int p1, .int p2]) (rest := []) (w' := (wX6 cI cO a0 (mk_set3 c0 8 r_6) sd)) ⟨hx, hb, hml, hown, hts⟩ (c_X4_add l D cI cZ cO N (a0 8) (c0 8) p1 p2 H.size r_6 er_6) (cwV 2 hts k_X6_see_X4_add_216 rfl rfl rfl (by decide +kernel) ⟨(Nat.le_of_ble_eq_true rfl), (Nat.le_of_ble_eq_true rfl)⟩) (va_recv hK hP (ci := 4) (q0 := 39) rfl rfl) hK hP hD hS hA [39, 40, 41] [0, 1, 2, 3, 4, 5, 6, 7, 8, 9, 10, 11, 12, 13, 14, 15, 16, 17, 18, 19, 20, 21, 22, 23, 24, 25, 26, 27, 28, 29, 30, 31, 32, 33, 34, 35, 36, 37, 38, 42, 43] [0, 1, 2, 3, 4, 5, 6, 7, 8, 9, 10, 11, 12, 13, 14, 15, 16, 17, 18, 19, 20, 21, 22, 23, 24, 25, 26, 27, 28, 29, 30, 31, 32, 33, 34, 35, 36, 37, 38, 41, 42, 43, 39, 40] (hP.sub (ws' := wX4 cI (a0 8) (c0 8)) [39, 40, 41] rfl) (hD.sub (ws' := wX4 cI (a0 8) (c0 8)) [39, 40, 41] (by decide) rfl) rfl rfl (by decide) (by decide) rfl (by decide) rfl hl.1 rfl (Nat.le_of_ble_eq_true rfl) dX6_see_47 ⟨Nat.zero_le _, Nat.zero_le _⟩ (fun H locs hP hD hS => ?_)
          obtain ⟨w_7, ew_7, h⟩ := mk_nmE h
          rw [← ew_7] at hP hD
          refine lv_aload_n hx hb dX6_see_50 rfl (lv_at hl 0 rfl) ?_
          refine va_get (D := D) (ci := 6) (v := .ref ((a0 8) 0)) (C := RX6) (T := TX6) (N := 12) hx hb hts hiX6 hown hK hP 0 rfl rfl 8 (by decide) (hts (.fieldLink RX6 55 "ClockOnce" "seen" "LClockOnce$Sales;") (List.mem_of_getElem? (i := 2) rfl)) (fun _ h9 => h9) rfl dX6_see_51 ?_
          refine va_get (D := D) (ci := 4) (v := .int ((w_7 8) 0 0)) (C := RX4) (T := TX4) (N := 3) hx hb hts hiX4 hown hK hP 39 rfl rfl 2 (by decide) (hts (.fieldLink RX6 215 "ClockOnce$Sales" "size" "I") (List.mem_of_getElem? (i := 3) rfl)) (fun _ h9 => h9) rfl dX6_see_54 ?_
          exact hret _ _ _ _ _ _ h hP hD hS dX6_see_57
        · have h := mk_ifn q_5 h
          refine lv_bipush (v := (-4 : Int32)) hx hb dX6_see_38 (by decide) ?_
          exact hret _ _ _ _ _ _ h hP hD hS dX6_see_40
      · have h := mk_ifn q_4 h
        refine lv_bipush (v := (-2 : Int32)) hx hb dX6_see_23 (by decide) ?_
        exact hret _ _ _ _ _ _ h hP hD hS dX6_see_25
  · have h := mk_ifp q_2 h
    refine lv_iconst (v := (-1 : Int32)) hx hb dX6_see_11 (by decide) ?_
    exact hret _ _ _ _ _ _ h hP hD hS dX6_see_12

abbrev rm_X6_seed : Room := { frames := 0, cells := 0, slots := 0, locals := 0 }
set_option maxHeartbeats 4000000 in
set_option maxRecDepth 100000 in
theorem c_X6_seed (l : Launch) (D : va_G) (cI cZ cO : ClassId) (N : Nat) (a0 : Nat → Nat → Nat) (c0 : CU) (sd : Int64) (p1 : Int64) (sz : Nat) (out : Int64 × Int64) (h : f_X6_seed N c0 sd p1 = some out) : Met l yX6_seed wsX6_seed rm_X6_seed (va_Pc [.ref ((a0 0) 0), .long p1] (mk_Pe D vwCl (tyA cI cZ cO) (wX6 cI cO a0 c0 sd) sz)) (va_Ql (fun r u => (r, u) = out) (mk_Be D vwCl (wX6 cI cO a0 c0 sd) sz (fun q => (wX6 cI cO a0 c0 q))) (va_A (wX6 cI cO a0 c0 sd) sz)) 0 0 (va_A (wX6 cI cO a0 c0 sd) sz) := by
  refine em_l (own := RX6) (cc := cX6_seed) (maxL := 5) (by decide) rfl rfl (Nat.le_of_ble_eq_true rfl) ?_
  intro p e s m args below meth c Q A H0 H locs ls hx hb hml hown hts hP hK hD hS hA hl hret
  have hl : lv_has ls 5 [(0, .ref ((a0 0) 0)), (1, .long p1)] := hl
  have hiX6 : ∀ w ∈ u_ws RX6 TX6 12, w ∈ wsX6_seed := mk_seg 2 12 rfl
  unfold f_X6_seed at h
  refine lv_aload_n hx hb dX6_seed_0 rfl (lv_at hl 0 rfl) ?_
  refine va_get (D := D) (ci := 6) (v := .long sd) (C := RX6) (T := TX6) (N := 12) hx hb hts hiX6 hown hK hP 0 rfl rfl 11 (by decide) (hts (.fieldLink RX6 69 "ClockOnce" "seed" "J") (List.mem_of_getElem? (i := 1) rfl)) (fun _ h9 => h9) rfl dX6_seed_1 ?_
  refine lv_lstore_n (lv' := [(3, .long sd), (0, .ref ((a0 0) 0)), (1, .long p1)]) hx hb dX6_seed_4 rfl hl (by decide) rfl (fun ls hl => ?_)
  refine lv_aload_n hx hb dX6_seed_5 rfl (lv_at hl 1 rfl) ?_
  refine lv_lload_n hx hb dX6_seed_6 rfl (lv_at hl 2 rfl) ?_
  obtain ⟨y_1, ey_1, h⟩ := mk_nmE h
  refine va_put (D := D) (ci := 6) (v := .long p1) (ty := .long) (C := RX6) (T := TX6) (N := 12) hx hb hts hiX6 tyX6 tyX6_ok nmX6 hown hK hP hD hS 0 rfl rfl 11 (by decide) (hts (.fieldLink RX6 69 "ClockOnce" "seed" "J") (List.mem_of_getElem? (i := 1) rfl)) (fun _ h9 => h9) rfl (by decide +kernel) rfl rfl (Nat.le_of_ble_eq_true rfl) dX6_seed_7 (fun H locs hP hD hS => ?_)
  have hP : va_P D vwCl (wX6 cI cO a0 c0 y_1) H := by rw [ey_1]; exact hP
  have hD : va_D A (wX6 cI cO a0 c0 y_1) := by rw [ey_1]; exact hD
  refine lv_lload_n hx hb dX6_seed_10 rfl (lv_at hl 0 rfl) ?_
  exact hret _ _ _ _ _ _ h hP hD hS dX6_seed_11

abbrev rm_X6_sell : Room := { frames := 4, cells := 0, slots := 0, locals := 123 }
set_option maxRecDepth 20000 in
theorem k_X6_sell_X0_add_136 : GoodIn wsX6_sell (wsV RX6 136 RX0 yX0_add wsX0_add) := goodIn_r _ [34, 35, 36, 37, 38, 39, 40, 41, 42, 43, 44, 45, 37, 46, 47, 48, 49, 50, 82, 83, 84, 85] rfl (by decide +kernel)
set_option maxRecDepth 20000 in
theorem k_X6_sell_X5_hasThing_95 : GoodIn wsX6_sell (wsV RX6 95 RX5 yX5_hasThing wsX5_hasThing) := goodIn_r _ [8, 9, 10, 11, 12, 13, 68, 69, 70, 71, 72, 73, 74, 75, 76, 77, 78, 79, 80, 81] rfl (by decide +kernel)
set_option maxRecDepth 20000 in
theorem k_X6_sell_X6_hasEnded_114 : GoodIn wsX6_sell (wsV RX6 114 RX6 yX6_hasEnded wsX6_hasEnded) := goodIn_r _ [14, 15, 16, 17, 18, 1, 2, 5, 19, 20, 21, 11, 22, 23, 24, 25, 26, 27, 28, 29, 30, 31, 32, 33, 51, 52, 53, 54, 55, 56, 57, 58, 59, 60, 61, 62, 63, 64, 65, 66, 67, 68, 69, 70, 71, 72, 73, 74, 75, 76, 77, 78, 79, 80, 81] rfl (by decide +kernel)
set_option maxHeartbeats 4000000 in
set_option maxRecDepth 100000 in
theorem c_X6_sell (l : Launch) (D : va_G) (cI cZ cO : ClassId) (N : Nat) (a0 : Nat → Nat → Nat) (c0 : CU) (sd : Int64) (p1 : Int32) (sz : Nat) (out : Int32 × CU) (h : f_X6_sell N c0 sd p1 = some out) : Met l yX6_sell wsX6_sell rm_X6_sell (va_Pc [.ref ((a0 0) 0), .int p1] (mk_Pe D vwCl (tyA cI cZ cO) (wX6 cI cO a0 c0 sd) sz)) (va_Qi (fun r u => (r, u) = out) (mk_Be D vwCl (wX6 cI cO a0 c0 sd) sz (fun q => (wX6 cI cO a0 q sd))) (va_A (wX6 cI cO a0 c0 sd) sz)) 0 0 (va_A (wX6 cI cO a0 c0 sd) sz) := by
  refine em_i (own := RX6) (cc := cX6_sell) (maxL := 3) (by decide) rfl rfl (Nat.le_of_ble_eq_true rfl) ?_
  intro p e s m args below meth c Q A H0 H locs ls hx hb hml hown hts hP hK hD hS hA hl hret
  have hl : lv_has ls 3 [(0, .ref ((a0 0) 0)), (1, .int p1)] := hl
  have hiX2 : ∀ w ∈ u_ws RX2 TX2 5, w ∈ wsX6_sell := mk_seg 63 5 rfl
  have hiX5 : ∀ w ∈ u_ws RX5 TX5 14, w ∈ wsX6_sell := mk_seg 68 14 rfl
  have hiX6 : ∀ w ∈ u_ws RX6 TX6 12, w ∈ wsX6_sell := mk_seg 51 12 rfl
  have K51 : ∀ (c0 : CU) (x1 : Int32) (t0 : Int32) (H : Heap) (locs : List Loc) (ls : Array Slot), va_P D vwCl (wX6 cI cO a0 c0 sd) H → va_D A (wX6 cI cO a0 c0 sd) → va_S A H0 H locs → lv_has ls 3 [(0, .ref ((a0 0) 0)), (1, .int x1)] → g_X6_sell_51 N c0 sd x1 t0 = some out → W p l e rm_X6_sell s m args below meth c H locs 0 0 Q (F0 m 51 ls [.int t0]) := by
    intro c0 x1 t0 H locs ls hP hD hS hl h
    unfold g_X6_sell_51 at h
    refine lv_istore_n (lv' := [(2, .int t0), (0, .ref ((a0 0) 0)), (1, .int x1)]) hx hb dX6_sell_51 rfl hl (by decide) rfl (fun ls hl => ?_)
    refine lv_aload_n hx hb dX6_sell_52 rfl (lv_at hl 1 rfl) ?_
    refine va_get (D := D) (ci := 6) (v := .ref ((a0 4) 0)) (C := RX6) (T := TX6) (N := 12) hx hb hts hiX6 hown hK hP 0 rfl rfl 5 (by decide) (hts (.fieldLink RX6 37 "ClockOnce" "life" "LClockOnce$Life;") (List.mem_of_getElem? (i := 2) rfl)) (fun _ h9 => h9) rfl dX6_sell_53 ?_
    refine va_get (D := D) (ci := 2) (v := .ref ((a0 4) 2)) (C := RX2) (T := TX2) (N := 5) hx hb hts hiX2 hown hK hP 26 rfl rfl 3 (by decide) (hts (.fieldLink RX6 111 "ClockOnce$Life" "soldOn" "[I") (List.mem_of_getElem? (i := 3) rfl)) (fun _ h9 => h9) rfl dX6_sell_56 ?_
    refine lv_iload_n hx hb dX6_sell_59 rfl (lv_at hl 2 rfl) ?_
    refine lv_aload_n hx hb dX6_sell_60 rfl (lv_at hl 1 rfl) ?_
    refine va_get (D := D) (ci := 6) (v := .ref ((a0 4) 0)) (C := RX6) (T := TX6) (N := 12) hx hb hts hiX6 hown hK hP 0 rfl rfl 5 (by decide) (hts (.fieldLink RX6 37 "ClockOnce" "life" "LClockOnce$Life;") (List.mem_of_getElem? (i := 2) rfl)) (fun _ h9 => h9) rfl dX6_sell_61 ?_
    refine va_get (D := D) (ci := 2) (v := .int ((c0 4) 0 0)) (C := RX2) (T := TX2) (N := 5) hx hb hts hiX2 hown hK hP 26 rfl rfl 0 (by decide) (hts (.fieldLink RX6 143 "ClockOnce$Life" "day" "I") (List.mem_of_getElem? (i := 5) rfl)) (fun _ h9 => h9) rfl dX6_sell_64 ?_
    obtain ⟨hx_1, h⟩ := mk_ixE h
    obtain ⟨w_2, ew_2, h⟩ := mk_nmE h
    refine va_iast hx hb hK hP hD hS 28 0 rfl rfl hx_1 dX6_sell_67 (fun H locs hP hD hS => ?_)
    have hP : va_P D vwCl (wX6 cI cO a0 w_2 sd) H := by rw [ew_2]; exact hP
    have hD : va_D A (wX6 cI cO a0 w_2 sd) := by rw [ew_2]; exact hD
    refine lv_aload_n hx hb dX6_sell_68 rfl (lv_at hl 1 rfl) ?_
    refine va_get (D := D) (ci := 6) (v := .ref ((a0 4) 0)) (C := RX6) (T := TX6) (N := 12) hx hb hts hiX6 hown hK hP 0 rfl rfl 5 (by decide) (hts (.fieldLink RX6 37 "ClockOnce" "life" "LClockOnce$Life;") (List.mem_of_getElem? (i := 2) rfl)) (fun _ h9 => h9) rfl dX6_sell_69 ?_
    refine lv_dup hx hb dX6_sell_72 rfl ?_
    refine va_get (D := D) (ci := 2) (v := .int ((w_2 4) 0 1)) (C := RX2) (T := TX2) (N := 5) hx hb hts hiX2 hown hK hP 26 rfl rfl 1 (by decide) (hts (.fieldLink RX6 146 "ClockOnce$Life" "coins" "I") (List.mem_of_getElem? (i := 6) rfl)) (fun _ h9 => h9) rfl dX6_sell_73 ?_
    refine lv_iload_n hx hb dX6_sell_76 rfl (lv_at hl 0 rfl) ?_
    refine lv_iadd hx hb dX6_sell_77 ?_
    obtain ⟨w_3, ew_3, h⟩ := mk_nmE h
    refine va_put (D := D) (ci := 2) (v := .int (((w_2 4) 0 1) + t0)) (ty := .int) (C := RX2) (T := TX2) (N := 5) hx hb hts hiX2 tyX2 tyX2_ok nmX2 hown hK hP hD hS 26 rfl rfl 1 (by decide) (hts (.fieldLink RX6 146 "ClockOnce$Life" "coins" "I") (List.mem_of_getElem? (i := 6) rfl)) (fun _ h9 => h9) rfl (by decide +kernel) rfl rfl (Nat.le_of_ble_eq_true rfl) dX6_sell_78 (fun H locs hP hD hS => ?_)
    have hP : va_P D vwCl (wX6 cI cO a0 w_3 sd) H := by rw [ew_3]; exact hP
    have hD : va_D A (wX6 cI cO a0 w_3 sd) := by rw [ew_3]; exact hD
    refine lv_aload_n hx hb dX6_sell_81 rfl (lv_at hl 1 rfl) ?_
    refine va_get (D := D) (ci := 6) (v := .ref ((a0 5) 0)) (C := RX6) (T := TX6) (N := 12) hx hb hts hiX6 hown hK hP 0 rfl rfl 6 (by decide) (hts (.fieldLink RX6 44 "ClockOnce" "acts" "LClockOnce$Acts;") (List.mem_of_getElem? (i := 7) rfl)) (fun _ h9 => h9) rfl dX6_sell_82 ?_
    refine lv_iconst (v := (2 : Int32)) hx hb dX6_sell_85 (by decide) ?_
    refine lv_iload_n hx hb dX6_sell_86 rfl (lv_at hl 2 rfl) ?_
    refine lv_iload_n hx hb dX6_sell_87 rfl (lv_at hl 0 rfl) ?_
    obtain ⟨r_4, er_4, h⟩ := mk_bd h
    refine ec_vv (As := [.int (2 : Int32), .int x1, .int t0]) (rest := []) (w' := (wX6 cI cO a0 (mk_set3 w_3 5 r_4) sd)) ⟨hx, hb, hml, hown, hts⟩ (c_X0_add l D cI cZ cO N (a0 5) (w_3 5) (2 : Int32) x1 t0 H.size r_4 er_4) (cwV 3 hts k_X6_sell_X0_add_136 rfl rfl rfl (by decide +kernel) ⟨(Nat.le_of_ble_eq_true rfl), (Nat.le_of_ble_eq_true rfl)⟩) (va_recv hK hP (ci := 0) (q0 := 29) rfl rfl) hK hP hD hS hA [29, 30, 31, 32] [0, 1, 2, 3, 4, 5, 6, 7, 8, 9, 10, 11, 12, 13, 14, 15, 16, 17, 18, 19, 20, 21, 22, 23, 24, 25, 26, 27, 28, 33, 34, 35, 36, 37, 38, 39, 40, 41, 42, 43] [0, 1, 2, 3, 4, 5, 6, 7, 8, 9, 10, 11, 12, 13, 14, 15, 16, 17, 18, 19, 20, 21, 22, 23, 24, 25, 26, 27, 28, 40, 41, 42, 43, 29, 30, 31, 32, 33, 34, 35, 36, 37, 38, 39] (hP.sub (ws' := wX0 cI (a0 5) (w_3 5)) [29, 30, 31, 32] rfl) (hD.sub (ws' := wX0 cI (a0 5) (w_3 5)) [29, 30, 31, 32] (by decide) rfl) rfl rfl (by decide) (by decide) rfl (by decide) rfl hl.1 rfl (Nat.le_of_ble_eq_true rfl) dX6_sell_88 ⟨Nat.zero_le _, Nat.zero_le _⟩ (fun H locs hP hD hS => ?_)
    obtain ⟨w_5, ew_5, h⟩ := mk_nmE h
    rw [← ew_5] at hP hD
    refine lv_iload_n hx hb dX6_sell_91 rfl (lv_at hl 0 rfl) ?_
    exact hret _ _ _ _ _ _ h hP hD hS dX6_sell_92
  unfold f_X6_sell at h
  refine lv_aload_n hx hb dX6_sell_0 rfl (lv_at hl 0 rfl) ?_
  refine va_get (D := D) (ci := 6) (v := .ref ((a0 2) 0)) (C := RX6) (T := TX6) (N := 12) hx hb hts hiX6 hown hK hP 0 rfl rfl 3 (by decide) (hts (.fieldLink RX6 27 "ClockOnce" "town" "LClockOnce$Town;") (List.mem_of_getElem? (i := 1) rfl)) (fun _ h9 => h9) rfl dX6_sell_1 ?_
  refine lv_iload_n hx hb dX6_sell_4 rfl (lv_at hl 1 rfl) ?_
  obtain ⟨r_6, er_6, h⟩ := mk_bd h
  refine pc_v (As := [.int p1]) (rest := []) ⟨hx, hb, hml, hown, hts⟩ (c_X5_hasThing l D cI cZ cO N (a0 2) (c0 2) p1 r_6 er_6) (cwV 1 hts k_X6_sell_X5_hasThing_95 rfl rfl rfl (by decide +kernel) ⟨(Nat.le_of_ble_eq_true rfl), (Nat.le_of_ble_eq_true rfl)⟩) (va_recv hK hP (ci := 5) (q0 := 6) rfl rfl) (hP.sub (ws' := wX5 cI (a0 2) (c0 2)) [6, 7, 8, 9, 10, 11, 12, 13, 14, 15] rfl) hK rfl hl.1 rfl (Nat.le_of_ble_eq_true rfl) dX6_sell_5 ⟨Nat.zero_le _, Nat.zero_le _⟩ ?_
  refine lv_if_ne (tgt := 13) hx hb dX6_sell_8 (by decide) (fun q_7 => ?_) (fun q_7 => ?_)
  · have h := mk_ifn q_7 h
    refine lv_aload_n hx hb dX6_sell_13 rfl (lv_at hl 0 rfl) ?_
    refine va_get (D := D) (ci := 6) (v := .ref ((a0 4) 0)) (C := RX6) (T := TX6) (N := 12) hx hb hts hiX6 hown hK hP 0 rfl rfl 5 (by decide) (hts (.fieldLink RX6 37 "ClockOnce" "life" "LClockOnce$Life;") (List.mem_of_getElem? (i := 2) rfl)) (fun _ h9 => h9) rfl dX6_sell_14 ?_
    refine va_get (D := D) (ci := 2) (v := .ref ((a0 4) 2)) (C := RX2) (T := TX2) (N := 5) hx hb hts hiX2 hown hK hP 26 rfl rfl 3 (by decide) (hts (.fieldLink RX6 111 "ClockOnce$Life" "soldOn" "[I") (List.mem_of_getElem? (i := 3) rfl)) (fun _ h9 => h9) rfl dX6_sell_17 ?_
    refine lv_iload_n hx hb dX6_sell_20 rfl (lv_at hl 1 rfl) ?_
    obtain ⟨v_8, ev_8, hiv_8, h⟩ := mk_rdE h
    refine va_iald hx hb hK hP 28 0 rfl rfl hiv_8 dX6_sell_21 ?_
    refine mk_topi ev_8 ?_
    refine lv_bipush (v := (-9 : Int32)) hx hb dX6_sell_22 (by decide) ?_
    refine lv_icmp_eq (tgt := 30) hx hb dX6_sell_24 (by decide) (fun q_9 => ?_) (fun q_9 => ?_)
    · have h := mk_ifp q_9 h
      refine lv_aload_n hx hb dX6_sell_30 rfl (lv_at hl 0 rfl) ?_
      refine lv_iload_n hx hb dX6_sell_31 rfl (lv_at hl 1 rfl) ?_
      obtain ⟨r_10, er_10, h⟩ := mk_bd h
      refine pc_v (As := [.int p1]) (rest := []) ⟨hx, hb, hml, hown, hts⟩ (c_X6_hasEnded l D cI cZ cO N a0 c0 sd p1 r_10 er_10) (cwV 1 hts k_X6_sell_X6_hasEnded_114 rfl rfl rfl (by decide +kernel) ⟨(Nat.le_of_ble_eq_true rfl), (Nat.le_of_ble_eq_true rfl)⟩) (va_recv hK hP (ci := 6) (q0 := 0) rfl rfl) hP hK rfl hl.1 rfl (Nat.le_of_ble_eq_true rfl) dX6_sell_32 ⟨Nat.zero_le _, Nat.zero_le _⟩ ?_
      refine lv_if_eq (tgt := 42) hx hb dX6_sell_35 (by decide) (fun q_11 => ?_) (fun q_11 => ?_)
      · have h := mk_ifp q_11 h
        refine lv_aload_n hx hb dX6_sell_42 rfl (lv_at hl 0 rfl) ?_
        refine va_get (D := D) (ci := 6) (v := .ref ((a0 2) 0)) (C := RX6) (T := TX6) (N := 12) hx hb hts hiX6 hown hK hP 0 rfl rfl 3 (by decide) (hts (.fieldLink RX6 27 "ClockOnce" "town" "LClockOnce$Town;") (List.mem_of_getElem? (i := 1) rfl)) (fun _ h9 => h9) rfl dX6_sell_43 ?_
        refine va_get (D := D) (ci := 5) (v := .ref ((a0 2) 4)) (C := RX5) (T := TX5) (N := 14) hx hb hts hiX5 hown hK hP 6 rfl rfl 3 (by decide) (hts (.fieldLink RX6 108 "ClockOnce$Town" "coins" "[I") (List.mem_of_getElem? (i := 4) rfl)) (fun _ h9 => h9) rfl dX6_sell_46 ?_
        refine lv_iload_n hx hb dX6_sell_49 rfl (lv_at hl 1 rfl) ?_
        obtain ⟨v_12, ev_12, hiv_12, h⟩ := mk_rdE h
        refine va_iald hx hb hK hP 10 0 rfl rfl hiv_12 dX6_sell_50 ?_
        refine mk_topi ev_12 ?_
        exact K51 c0 p1 v_12 H locs ls hP hD hS (lv_sub hl [0, 1] rfl) h
      · have h := mk_ifn q_11 h
        refine lv_iconst (v := (0 : Int32)) hx hb dX6_sell_38 (by decide) ?_
        refine lv_goto (tgt := 51) hx hb dX6_sell_39 (by decide) ?_
        exact K51 c0 p1 (0 : Int32) H locs ls hP hD hS (lv_sub hl [0, 1] rfl) h
    · have h := mk_ifn q_9 h
      refine lv_bipush (v := (-3 : Int32)) hx hb dX6_sell_27 (by decide) ?_
      exact hret _ _ _ _ _ _ h hP hD hS dX6_sell_29
  · have h := mk_ifp q_7 h
    refine lv_iconst (v := (-1 : Int32)) hx hb dX6_sell_11 (by decide) ?_
    exact hret _ _ _ _ _ _ h hP hD hS dX6_sell_12

abbrev rm_X6_thing : Room := { frames := 5, cells := 0, slots := 0, locals := 108 }
set_option maxRecDepth 20000 in
theorem k_X6_thing_X5_hasThing_95 : GoodIn wsX6_thing (wsV RX6 95 RX5 yX5_hasThing wsX5_hasThing) := goodIn_r _ [8, 9, 10, 11, 12, 13, 61, 62, 63, 64, 65, 66, 67, 68, 69, 70, 71, 72, 73, 74] rfl (by decide +kernel)
set_option maxRecDepth 20000 in
theorem k_X6_thing_X6_hasEnded_114 : GoodIn wsX6_thing (wsV RX6 114 RX6 yX6_hasEnded wsX6_hasEnded) := goodIn_r _ [14, 15, 16, 17, 18, 1, 6, 19, 20, 21, 22, 11, 23, 24, 25, 26, 27, 28, 29, 30, 31, 32, 33, 34, 49, 50, 51, 52, 53, 54, 55, 56, 57, 58, 59, 60, 75, 76, 77, 78, 79, 61, 62, 63, 64, 65, 66, 67, 68, 69, 70, 71, 72, 73, 74] rfl (by decide +kernel)
set_option maxRecDepth 20000 in
theorem k_X6_thing_X6_knownEnd_117 : GoodIn wsX6_thing (wsV RX6 117 RX6 yX6_knownEnd wsX6_knownEnd) := goodIn_r _ [35, 36, 37, 17, 38, 6, 1, 39, 40, 41, 42, 43, 44, 45, 46, 47, 48, 14, 15, 16, 17, 18, 19, 20, 21, 22, 11, 23, 24, 25, 26, 27, 28, 29, 30, 31, 32, 33, 34, 49, 50, 51, 52, 53, 54, 55, 56, 57, 58, 59, 60, 75, 76, 77, 78, 79, 61, 62, 63, 64, 65, 66, 67, 68, 69, 70, 71, 72, 73, 74] rfl (by decide +kernel)
set_option maxHeartbeats 4000000 in
set_option maxRecDepth 100000 in
theorem c_X6_thing (l : Launch) (D : va_G) (cI cZ cO : ClassId) (N : Nat) (a0 : Nat → Nat → Nat) (c0 : CU) (sd : Int64) (p1 : Int32) (p2 : Int32) (out : Int32) (h : f_X6_thing N c0 sd p1 p2 = some out) : Met l yX6_thing wsX6_thing rm_X6_thing (va_Pc [.ref ((a0 0) 0), .int p1, .int p2] (fun U => va_P D vwCl (wX6 cI cO a0 c0 sd) U.heap ∧ va_K D vwCl (tyA cI cZ cO) U)) (vp_Si (fun r => r = out)) 0 0 (fun _ => False) := by
  refine pm_i (own := RX6) (cc := cX6_thing) (maxL := 3) (by decide) rfl rfl (Nat.le_of_ble_eq_true rfl) ?_
  intro p e s m args below meth c Q H ls hx hb hml hown hts hP hK hl hret
  have hl : lv_has ls 3 [(0, .ref ((a0 0) 0)), (1, .int p1), (2, .int p2)] := hl
  have hiX2 : ∀ w ∈ u_ws RX2 TX2 5, w ∈ wsX6_thing := mk_seg 75 5 rfl
  have hiX5 : ∀ w ∈ u_ws RX5 TX5 14, w ∈ wsX6_thing := mk_seg 61 14 rfl
  have hiX6 : ∀ w ∈ u_ws RX6 TX6 12, w ∈ wsX6_thing := mk_seg 49 12 rfl
  unfold f_X6_thing at h
  refine lv_aload_n hx hb dX6_thing_0 rfl (lv_at hl 0 rfl) ?_
  refine va_get (D := D) (ci := 6) (v := .ref ((a0 2) 0)) (C := RX6) (T := TX6) (N := 12) hx hb hts hiX6 hown hK hP 0 rfl rfl 3 (by decide) (hts (.fieldLink RX6 27 "ClockOnce" "town" "LClockOnce$Town;") (List.mem_of_getElem? (i := 1) rfl)) (fun _ h9 => h9) rfl dX6_thing_1 ?_
  refine lv_iload_n hx hb dX6_thing_4 rfl (lv_at hl 1 rfl) ?_
  obtain ⟨r_1, er_1, h⟩ := mk_bd h
  refine pc_v (As := [.int p1]) (rest := []) ⟨hx, hb, hml, hown, hts⟩ (c_X5_hasThing l D cI cZ cO N (a0 2) (c0 2) p1 r_1 er_1) (cwV 1 hts k_X6_thing_X5_hasThing_95 rfl rfl rfl (by decide +kernel) ⟨(Nat.le_of_ble_eq_true rfl), (Nat.le_of_ble_eq_true rfl)⟩) (va_recv hK hP (ci := 5) (q0 := 6) rfl rfl) (hP.sub (ws' := wX5 cI (a0 2) (c0 2)) [6, 7, 8, 9, 10, 11, 12, 13, 14, 15] rfl) hK rfl hl.1 rfl (Nat.le_of_ble_eq_true rfl) dX6_thing_5 ⟨Nat.zero_le _, Nat.zero_le _⟩ ?_
  refine lv_if_ne (tgt := 13) hx hb dX6_thing_8 (by decide) (fun q_2 => ?_) (fun q_2 => ?_)
  · have h := mk_ifn q_2 h
    refine lv_iload_n hx hb dX6_thing_13 rfl (lv_at hl 2 rfl) ?_
    by_cases q_3 : p2 = (0 : Int32)
    · have h := mk_ifp q_3 h
      refine lv_tableIn (off := 42) (tgt := 56) hx hb dX6_thing_14 (by rw [q_3]; decide) (by rw [q_3]; decide) (by rw [q_3]; rfl) (by decide) ?_
      refine lv_aload_n hx hb dX6_thing_56 rfl (lv_at hl 0 rfl) ?_
      refine va_get (D := D) (ci := 6) (v := .ref ((a0 2) 0)) (C := RX6) (T := TX6) (N := 12) hx hb hts hiX6 hown hK hP 0 rfl rfl 3 (by decide) (hts (.fieldLink RX6 27 "ClockOnce" "town" "LClockOnce$Town;") (List.mem_of_getElem? (i := 1) rfl)) (fun _ h9 => h9) rfl dX6_thing_57 ?_
      refine va_get (D := D) (ci := 5) (v := .ref ((a0 2) 1)) (C := RX5) (T := TX5) (N := 14) hx hb hts hiX5 hown hK hP 6 rfl rfl 0 (by decide) (hts (.fieldLink RX6 99 "ClockOnce$Town" "early" "[I") (List.mem_of_getElem? (i := 2) rfl)) (fun _ h9 => h9) rfl dX6_thing_60 ?_
      refine lv_iload_n hx hb dX6_thing_63 rfl (lv_at hl 1 rfl) ?_
      obtain ⟨v_4, ev_4, hiv_4, h⟩ := mk_rdE h
      refine va_iald hx hb hK hP 7 0 rfl rfl hiv_4 dX6_thing_64 ?_
      refine mk_topi ev_4 ?_
      exact hret _ _ _ h dX6_thing_65
    have h := mk_ifn q_3 h
    by_cases q_5 : p2 = (1 : Int32)
    · have h := mk_ifp q_5 h
      refine lv_tableIn (off := 52) (tgt := 66) hx hb dX6_thing_14 (by rw [q_5]; decide) (by rw [q_5]; decide) (by rw [q_5]; rfl) (by decide) ?_
      refine lv_aload_n hx hb dX6_thing_66 rfl (lv_at hl 0 rfl) ?_
      refine va_get (D := D) (ci := 6) (v := .ref ((a0 2) 0)) (C := RX6) (T := TX6) (N := 12) hx hb hts hiX6 hown hK hP 0 rfl rfl 3 (by decide) (hts (.fieldLink RX6 27 "ClockOnce" "town" "LClockOnce$Town;") (List.mem_of_getElem? (i := 1) rfl)) (fun _ h9 => h9) rfl dX6_thing_67 ?_
      refine va_get (D := D) (ci := 5) (v := .ref ((a0 2) 2)) (C := RX5) (T := TX5) (N := 14) hx hb hts hiX5 hown hK hP 6 rfl rfl 1 (by decide) (hts (.fieldLink RX6 102 "ClockOnce$Town" "late" "[I") (List.mem_of_getElem? (i := 3) rfl)) (fun _ h9 => h9) rfl dX6_thing_70 ?_
      refine lv_iload_n hx hb dX6_thing_73 rfl (lv_at hl 1 rfl) ?_
      obtain ⟨v_6, ev_6, hiv_6, h⟩ := mk_rdE h
      refine va_iald hx hb hK hP 8 0 rfl rfl hiv_6 dX6_thing_74 ?_
      refine mk_topi ev_6 ?_
      exact hret _ _ _ h dX6_thing_75
    have h := mk_ifn q_5 h
    by_cases q_7 : p2 = (2 : Int32)
    · have h := mk_ifp q_7 h
      refine lv_tableIn (off := 62) (tgt := 76) hx hb dX6_thing_14 (by rw [q_7]; decide) (by rw [q_7]; decide) (by rw [q_7]; rfl) (by decide) ?_
      refine lv_aload_n hx hb dX6_thing_76 rfl (lv_at hl 0 rfl) ?_
      refine va_get (D := D) (ci := 6) (v := .ref ((a0 2) 0)) (C := RX6) (T := TX6) (N := 12) hx hb hts hiX6 hown hK hP 0 rfl rfl 3 (by decide) (hts (.fieldLink RX6 27 "ClockOnce" "town" "LClockOnce$Town;") (List.mem_of_getElem? (i := 1) rfl)) (fun _ h9 => h9) rfl dX6_thing_77 ?_
      refine va_get (D := D) (ci := 5) (v := .ref ((a0 2) 3)) (C := RX5) (T := TX5) (N := 14) hx hb hts hiX5 hown hK hP 6 rfl rfl 2 (by decide) (hts (.fieldLink RX6 105 "ClockOnce$Town" "tenths" "[I") (List.mem_of_getElem? (i := 4) rfl)) (fun _ h9 => h9) rfl dX6_thing_80 ?_
      refine lv_iload_n hx hb dX6_thing_83 rfl (lv_at hl 1 rfl) ?_
      obtain ⟨v_8, ev_8, hiv_8, h⟩ := mk_rdE h
      refine va_iald hx hb hK hP 9 0 rfl rfl hiv_8 dX6_thing_84 ?_
      refine mk_topi ev_8 ?_
      exact hret _ _ _ h dX6_thing_85
    have h := mk_ifn q_7 h
    by_cases q_9 : p2 = (3 : Int32)
    · have h := mk_ifp q_9 h
      refine lv_tableIn (off := 72) (tgt := 86) hx hb dX6_thing_14 (by rw [q_9]; decide) (by rw [q_9]; decide) (by rw [q_9]; rfl) (by decide) ?_
      refine lv_aload_n hx hb dX6_thing_86 rfl (lv_at hl 0 rfl) ?_
      refine va_get (D := D) (ci := 6) (v := .ref ((a0 2) 0)) (C := RX6) (T := TX6) (N := 12) hx hb hts hiX6 hown hK hP 0 rfl rfl 3 (by decide) (hts (.fieldLink RX6 27 "ClockOnce" "town" "LClockOnce$Town;") (List.mem_of_getElem? (i := 1) rfl)) (fun _ h9 => h9) rfl dX6_thing_87 ?_
      refine va_get (D := D) (ci := 5) (v := .ref ((a0 2) 4)) (C := RX5) (T := TX5) (N := 14) hx hb hts hiX5 hown hK hP 6 rfl rfl 3 (by decide) (hts (.fieldLink RX6 108 "ClockOnce$Town" "coins" "[I") (List.mem_of_getElem? (i := 5) rfl)) (fun _ h9 => h9) rfl dX6_thing_90 ?_
      refine lv_iload_n hx hb dX6_thing_93 rfl (lv_at hl 1 rfl) ?_
      obtain ⟨v_10, ev_10, hiv_10, h⟩ := mk_rdE h
      refine va_iald hx hb hK hP 10 0 rfl rfl hiv_10 dX6_thing_94 ?_
      refine mk_topi ev_10 ?_
      exact hret _ _ _ h dX6_thing_95
    have h := mk_ifn q_9 h
    by_cases q_11 : p2 = (4 : Int32)
    · have h := mk_ifp q_11 h
      refine lv_tableIn (off := 82) (tgt := 96) hx hb dX6_thing_14 (by rw [q_11]; decide) (by rw [q_11]; decide) (by rw [q_11]; rfl) (by decide) ?_
      refine lv_aload_n hx hb dX6_thing_96 rfl (lv_at hl 0 rfl) ?_
      refine va_get (D := D) (ci := 6) (v := .ref ((a0 4) 0)) (C := RX6) (T := TX6) (N := 12) hx hb hts hiX6 hown hK hP 0 rfl rfl 5 (by decide) (hts (.fieldLink RX6 37 "ClockOnce" "life" "LClockOnce$Life;") (List.mem_of_getElem? (i := 6) rfl)) (fun _ h9 => h9) rfl dX6_thing_97 ?_
      refine va_get (D := D) (ci := 2) (v := .ref ((a0 4) 2)) (C := RX2) (T := TX2) (N := 5) hx hb hts hiX2 hown hK hP 26 rfl rfl 3 (by decide) (hts (.fieldLink RX6 111 "ClockOnce$Life" "soldOn" "[I") (List.mem_of_getElem? (i := 7) rfl)) (fun _ h9 => h9) rfl dX6_thing_100 ?_
      refine lv_iload_n hx hb dX6_thing_103 rfl (lv_at hl 1 rfl) ?_
      obtain ⟨v_12, ev_12, hiv_12, h⟩ := mk_rdE h
      refine va_iald hx hb hK hP 28 0 rfl rfl hiv_12 dX6_thing_104 ?_
      refine mk_topi ev_12 ?_
      exact hret _ _ _ h dX6_thing_105
    have h := mk_ifn q_11 h
    by_cases q_13 : p2 = (5 : Int32)
    · have h := mk_ifp q_13 h
      refine lv_tableIn (off := 92) (tgt := 106) hx hb dX6_thing_14 (by rw [q_13]; decide) (by rw [q_13]; decide) (by rw [q_13]; rfl) (by decide) ?_
      refine lv_aload_n hx hb dX6_thing_106 rfl (lv_at hl 0 rfl) ?_
      refine lv_iload_n hx hb dX6_thing_107 rfl (lv_at hl 1 rfl) ?_
      obtain ⟨r_14, er_14, h⟩ := mk_bd h
      refine pc_v (As := [.int p1]) (rest := []) ⟨hx, hb, hml, hown, hts⟩ (c_X6_hasEnded l D cI cZ cO N a0 c0 sd p1 r_14 er_14) (cwV 1 hts k_X6_thing_X6_hasEnded_114 rfl rfl rfl (by decide +kernel) ⟨(Nat.le_of_ble_eq_true rfl), (Nat.le_of_ble_eq_true rfl)⟩) (va_recv hK hP (ci := 6) (q0 := 0) rfl rfl) hP hK rfl hl.1 rfl (Nat.le_of_ble_eq_true rfl) dX6_thing_108 ⟨Nat.zero_le _, Nat.zero_le _⟩ ?_
      refine lv_if_eq (tgt := 118) hx hb dX6_thing_111 (by decide) (fun q_15 => ?_) (fun q_15 => ?_)
      · have h := mk_ifp q_15 h
        refine lv_iconst (v := (0 : Int32)) hx hb dX6_thing_118 (by decide) ?_
        exact hret _ _ _ h dX6_thing_119
      · have h := mk_ifn q_15 h
        refine lv_iconst (v := (1 : Int32)) hx hb dX6_thing_114 (by decide) ?_
        refine lv_goto (tgt := 119) hx hb dX6_thing_115 (by decide) ?_
        exact hret _ _ _ h dX6_thing_119
    have h := mk_ifn q_13 h
    by_cases q_16 : p2 = (6 : Int32)
    · have h := mk_ifp q_16 h
      refine lv_tableIn (off := 106) (tgt := 120) hx hb dX6_thing_14 (by rw [q_16]; decide) (by rw [q_16]; decide) (by rw [q_16]; rfl) (by decide) ?_
      refine lv_aload_n hx hb dX6_thing_120 rfl (lv_at hl 0 rfl) ?_
      refine lv_iload_n hx hb dX6_thing_121 rfl (lv_at hl 1 rfl) ?_
      obtain ⟨r_17, er_17, h⟩ := mk_bd h
      refine pc_v (As := [.int p1]) (rest := []) ⟨hx, hb, hml, hown, hts⟩ (c_X6_knownEnd l D cI cZ cO N a0 c0 sd p1 r_17 er_17) (cwV 1 hts k_X6_thing_X6_knownEnd_117 rfl rfl rfl (by decide +kernel) ⟨(Nat.le_of_ble_eq_true rfl), (Nat.le_of_ble_eq_true rfl)⟩) (va_recv hK hP (ci := 6) (q0 := 0) rfl rfl) hP hK rfl hl.1 rfl (Nat.le_of_ble_eq_true rfl) dX6_thing_122 ⟨Nat.zero_le _, Nat.zero_le _⟩ ?_
      exact hret _ _ _ h dX6_thing_125
    have h := mk_ifn q_16 h
    refine lv_tableOut (tgt := 126) hx hb dX6_thing_14 (by have zq_3 := mk_ne (z := 0) (by decide) q_3; have zq_5 := mk_ne (z := 1) (by decide) q_5; have zq_7 := mk_ne (z := 2) (by decide) q_7; have zq_9 := mk_ne (z := 3) (by decide) q_9; have zq_11 := mk_ne (z := 4) (by decide) q_11; have zq_13 := mk_ne (z := 5) (by decide) q_13; have zq_16 := mk_ne (z := 6) (by decide) q_16; omega) (by decide) ?_
    refine lv_bipush (v := (-2 : Int32)) hx hb dX6_thing_126 (by decide) ?_
    exact hret _ _ _ h dX6_thing_128
  · have h := mk_ifp q_2 h
    refine lv_iconst (v := (-1 : Int32)) hx hb dX6_thing_11 (by decide) ?_
    exact hret _ _ _ h dX6_thing_12

abbrev rm_X6_toAsk : Room := { frames := 6, cells := 0, slots := 0, locals := 156 }
set_option maxRecDepth 20000 in
theorem k_X6_toAsk_X6_partsSeen_185 : GoodIn wsX6_toAsk (wsV RX6 185 RX6 yX6_partsSeen wsX6_partsSeen) := goodIn_r _ [4, 5, 6, 7, 8, 2, 3, 9, 10, 11, 12, 13, 14, 15, 16, 17, 18, 19, 20, 21, 22, 23, 24, 25, 26, 27, 28, 29, 30, 31, 32, 33, 34, 35, 36, 37, 38, 39, 40, 41, 42, 43, 44, 45, 46, 47, 48, 124, 125, 126, 127, 128, 129, 130, 131, 132, 133, 134, 135, 136, 137, 138, 139, 140, 141, 142, 143, 144, 145, 146, 147, 148, 149, 150, 151, 152, 153, 154] rfl (by decide +kernel)
set_option maxRecDepth 20000 in
theorem k_X6_toAsk_X1_findWorths_188 : GoodIn wsX6_toAsk (wsV RX6 188 RX1 yX1_findWorths wsX1_findWorths) := goodIn_r _ [49, 50, 51, 52, 53, 54, 55, 56, 57, 11, 12, 13, 14, 15, 16, 17, 18, 19, 20, 21, 22, 23, 24, 25, 26, 27, 28, 29, 30, 31, 32, 33, 34, 35, 36, 37, 38, 39, 40, 41, 42, 43, 58, 59, 60, 52, 61, 62, 63, 64, 65, 66, 67, 68, 69, 70, 71, 72, 73, 74, 75, 76, 77, 48, 78, 45, 46, 47, 79, 80, 81, 82, 83, 84, 85, 86, 87, 88, 89, 90, 91, 136, 137, 138, 139, 140, 141, 142, 143, 144, 145, 146, 147, 148, 149, 150, 151, 152, 153, 154, 155] rfl (by decide +kernel)
set_option maxRecDepth 20000 in
theorem k_X6_toAsk_X1_bestSet_192 : GoodIn wsX6_toAsk (wsV RX6 192 RX1 yX1_bestSet wsX1_bestSet) := goodIn_r _ [92, 93, 94, 52, 95, 96, 97, 98, 65, 99, 100, 101, 102, 103, 104, 52, 105, 106, 107, 108, 109, 110, 55, 111, 112, 113, 114, 115, 116, 56, 117, 118, 119, 120, 121, 122, 123, 141, 142, 143, 144, 145, 146, 147, 148, 149, 150, 151, 152, 153, 154, 136, 137, 138, 139, 140, 155] rfl (by decide +kernel)
set_option maxHeartbeats 4000000 in
set_option maxRecDepth 100000 in
theorem c_X6_toAsk (l : Launch) (D : va_G) (cI cZ cO : ClassId) (N : Nat) (a0 : Nat → Nat → Nat) (c0 : CU) (sd : Int64) (sz : Nat) (out : Int32 × CU) (h : f_X6_toAsk N c0 sd = some out) : Met l yX6_toAsk wsX6_toAsk rm_X6_toAsk (va_Pc [.ref ((a0 0) 0)] (mk_Pe D vwCl (tyA cI cZ cO) (wX6 cI cO a0 c0 sd) sz)) (va_Qi (fun r u => (r, u) = out) (mk_Be D vwCl (wX6 cI cO a0 c0 sd) sz (fun q => (wX6 cI cO a0 q sd))) (va_A (wX6 cI cO a0 c0 sd) sz)) 0 0 (va_A (wX6 cI cO a0 c0 sd) sz) := by
  refine em_i (own := RX6) (cc := cX6_toAsk) (maxL := 1) (by decide) rfl rfl (Nat.le_of_ble_eq_true rfl) ?_
  intro p e s m args below meth c Q A H0 H locs ls hx hb hml hown hts hP hK hD hS hA hl hret
  have hl : lv_has ls 1 [(0, .ref ((a0 0) 0))] := hl
  have hiX6 : ∀ w ∈ u_ws RX6 TX6 12, w ∈ wsX6_toAsk := mk_seg 124 12 rfl
  unfold f_X6_toAsk at h
  refine lv_aload_n hx hb dX6_toAsk_0 rfl (lv_at hl 0 rfl) ?_
  obtain ⟨r_1, er_1, h⟩ := mk_bd h
  refine pc_v (As := []) (rest := []) ⟨hx, hb, hml, hown, hts⟩ (c_X6_partsSeen l D cI cZ cO N a0 c0 sd r_1 er_1) (cwV 0 hts k_X6_toAsk_X6_partsSeen_185 rfl rfl rfl (by decide +kernel) ⟨(Nat.le_of_ble_eq_true rfl), (Nat.le_of_ble_eq_true rfl)⟩) (va_recv hK hP (ci := 6) (q0 := 0) rfl rfl) hP hK rfl hl.1 rfl (Nat.le_of_ble_eq_true rfl) dX6_toAsk_1 ⟨Nat.zero_le _, Nat.zero_le _⟩ ?_
  refine lv_if_ne (tgt := 10) hx hb dX6_toAsk_4 (by decide) (fun q_2 => ?_) (fun q_2 => ?_)
  · have h := mk_ifn q_2 h
    refine lv_aload_n hx hb dX6_toAsk_10 rfl (lv_at hl 0 rfl) ?_
    refine va_get (D := D) (ci := 6) (v := .ref ((a0 9) 0)) (C := RX6) (T := TX6) (N := 12) hx hb hts hiX6 hown hK hP 0 rfl rfl 9 (by decide) (hts (.fieldLink RX6 62 "ClockOnce" "asking" "LClockOnce$Asking;") (List.mem_of_getElem? (i := 1) rfl)) (fun _ h9 => h9) rfl dX6_toAsk_11 ?_
    refine lv_aload_n hx hb dX6_toAsk_14 rfl (lv_at hl 0 rfl) ?_
    refine va_get (D := D) (ci := 6) (v := .ref ((a0 2) 0)) (C := RX6) (T := TX6) (N := 12) hx hb hts hiX6 hown hK hP 0 rfl rfl 3 (by decide) (hts (.fieldLink RX6 27 "ClockOnce" "town" "LClockOnce$Town;") (List.mem_of_getElem? (i := 2) rfl)) (fun _ h9 => h9) rfl dX6_toAsk_15 ?_
    refine lv_aload_n hx hb dX6_toAsk_18 rfl (lv_at hl 0 rfl) ?_
    refine va_get (D := D) (ci := 6) (v := .ref ((a0 4) 0)) (C := RX6) (T := TX6) (N := 12) hx hb hts hiX6 hown hK hP 0 rfl rfl 5 (by decide) (hts (.fieldLink RX6 37 "ClockOnce" "life" "LClockOnce$Life;") (List.mem_of_getElem? (i := 3) rfl)) (fun _ h9 => h9) rfl dX6_toAsk_19 ?_
    obtain ⟨r_3, er_3, h⟩ := mk_bd h
    refine ec_vv (As := [.ref ((a0 2) 0), .ref ((a0 4) 0)]) (rest := []) (w' := (wX6 cI cO a0 (mk_set3 c0 9 r_3) sd)) ⟨hx, hb, hml, hown, hts⟩ (c_X1_findWorths l D cI cZ cO N (a0 9) (c0 9) (a0 2) (c0 2) (a0 4) (c0 4) H.size r_3 er_3) (cwV 2 hts k_X6_toAsk_X1_findWorths_188 rfl rfl rfl (by decide +kernel) ⟨(Nat.le_of_ble_eq_true rfl), (Nat.le_of_ble_eq_true rfl)⟩) (va_recv hK hP (ci := 1) (q0 := 42) rfl rfl) hK hP hD hS hA [42, 43, 6, 7, 8, 9, 10, 11, 12, 13, 14, 15, 26, 27, 28] [0, 1, 2, 3, 4, 5, 16, 17, 18, 19, 20, 21, 22, 23, 24, 25, 29, 30, 31, 32, 33, 34, 35, 36, 37, 38, 39, 40, 41] [0, 1, 2, 3, 4, 5, 31, 32, 33, 34, 35, 36, 37, 38, 39, 40, 6, 7, 8, 9, 10, 11, 12, 13, 14, 15, 41, 42, 43, 16, 17, 18, 19, 20, 21, 22, 23, 24, 25, 26, 27, 28, 29, 30] (hP.sub (ws' := wX1 cI (a0 9) (c0 9) ++ wX5 cI (a0 2) (c0 2) ++ wX2 cI (a0 4) (c0 4)) [42, 43, 6, 7, 8, 9, 10, 11, 12, 13, 14, 15, 26, 27, 28] rfl) (hD.sub (ws' := wX1 cI (a0 9) (c0 9) ++ wX5 cI (a0 2) (c0 2) ++ wX2 cI (a0 4) (c0 4)) [42, 43, 6, 7, 8, 9, 10, 11, 12, 13, 14, 15, 26, 27, 28] (by decide) rfl) rfl rfl (by decide) (by decide) rfl (by decide) rfl hl.1 rfl (Nat.le_of_ble_eq_true rfl) dX6_toAsk_22 ⟨Nat.zero_le _, Nat.zero_le _⟩ (fun H locs hP hD hS => ?_)
    obtain ⟨w_4, ew_4, h⟩ := mk_nmE h
    rw [← ew_4] at hP hD
    refine lv_aload_n hx hb dX6_toAsk_25 rfl (lv_at hl 0 rfl) ?_
    refine va_get (D := D) (ci := 6) (v := .ref ((a0 9) 0)) (C := RX6) (T := TX6) (N := 12) hx hb hts hiX6 hown hK hP 0 rfl rfl 9 (by decide) (hts (.fieldLink RX6 62 "ClockOnce" "asking" "LClockOnce$Asking;") (List.mem_of_getElem? (i := 1) rfl)) (fun _ h9 => h9) rfl dX6_toAsk_26 ?_
    refine lv_aload_n hx hb dX6_toAsk_29 rfl (lv_at hl 0 rfl) ?_
    refine va_get (D := D) (ci := 6) (v := .ref ((a0 2) 0)) (C := RX6) (T := TX6) (N := 12) hx hb hts hiX6 hown hK hP 0 rfl rfl 3 (by decide) (hts (.fieldLink RX6 27 "ClockOnce" "town" "LClockOnce$Town;") (List.mem_of_getElem? (i := 2) rfl)) (fun _ h9 => h9) rfl dX6_toAsk_30 ?_
    refine lv_aload_n hx hb dX6_toAsk_33 rfl (lv_at hl 0 rfl) ?_
    refine va_get (D := D) (ci := 6) (v := .ref ((a0 4) 0)) (C := RX6) (T := TX6) (N := 12) hx hb hts hiX6 hown hK hP 0 rfl rfl 5 (by decide) (hts (.fieldLink RX6 37 "ClockOnce" "life" "LClockOnce$Life;") (List.mem_of_getElem? (i := 3) rfl)) (fun _ h9 => h9) rfl dX6_toAsk_34 ?_
    obtain ⟨r_5, er_5, h⟩ := mk_bd h
    refine pc_v (As := [.ref ((a0 2) 0), .ref ((a0 4) 0)]) (rest := []) ⟨hx, hb, hml, hown, hts⟩ (c_X1_bestSet l D cI cZ cO N (a0 9) (w_4 9) (a0 2) (w_4 2) (a0 4) (w_4 4) r_5 er_5) (cwV 2 hts k_X6_toAsk_X1_bestSet_192 rfl rfl rfl (by decide +kernel) ⟨(Nat.le_of_ble_eq_true rfl), (Nat.le_of_ble_eq_true rfl)⟩) (va_recv hK hP (ci := 1) (q0 := 42) rfl rfl) (hP.sub (ws' := wX1 cI (a0 9) (w_4 9) ++ wX5 cI (a0 2) (w_4 2) ++ wX2 cI (a0 4) (w_4 4)) [42, 43, 6, 7, 8, 9, 10, 11, 12, 13, 14, 15, 26, 27, 28] rfl) hK rfl hl.1 rfl (Nat.le_of_ble_eq_true rfl) dX6_toAsk_37 ⟨Nat.zero_le _, Nat.zero_le _⟩ ?_
    exact hret _ _ _ _ _ _ h hP hD hS dX6_toAsk_40
  · have h := mk_ifp q_2 h
    refine lv_bipush (v := (-3 : Int32)) hx hb dX6_toAsk_7 (by decide) ?_
    exact hret _ _ _ _ _ _ h hP hD hS dX6_toAsk_9

abbrev rm_X6_undo : Room := { frames := 1, cells := 0, slots := 0, locals := 21 }
set_option maxRecDepth 20000 in
theorem k_X6_undo_X0_takeBackLast_148 : GoodIn wsX6_undo (wsV RX6 148 RX0 yX0_takeBackLast wsX0_takeBackLast) := goodIn_r _ [4, 5, 6, 7, 8, 9, 10, 11, 12, 13, 14, 15, 16, 29, 30, 31, 32, 33, 34, 35, 36, 37] rfl (by decide +kernel)
set_option maxHeartbeats 4000000 in
set_option maxRecDepth 100000 in
theorem c_X6_undo (l : Launch) (D : va_G) (cI cZ cO : ClassId) (N : Nat) (a0 : Nat → Nat → Nat) (c0 : CU) (sd : Int64) (sz : Nat) (out : Int32 × CU) (h : f_X6_undo N c0 sd = some out) : Met l yX6_undo wsX6_undo rm_X6_undo (va_Pc [.ref ((a0 0) 0)] (mk_Pe D vwCl (tyA cI cZ cO) (wX6 cI cO a0 c0 sd) sz)) (va_Qi (fun r u => (r, u) = out) (mk_Be D vwCl (wX6 cI cO a0 c0 sd) sz (fun q => (wX6 cI cO a0 q sd))) (va_A (wX6 cI cO a0 c0 sd) sz)) 0 0 (va_A (wX6 cI cO a0 c0 sd) sz) := by
  refine em_i (own := RX6) (cc := cX6_undo) (maxL := 1) (by decide) rfl rfl (Nat.le_of_ble_eq_true rfl) ?_
  intro p e s m args below meth c Q A H0 H locs ls hx hb hml hown hts hP hK hD hS hA hl hret
  have hl : lv_has ls 1 [(0, .ref ((a0 0) 0))] := hl
  have hiX0 : ∀ w ∈ u_ws RX0 TX0 4, w ∈ wsX6_undo := mk_seg 29 4 rfl
  have hiX6 : ∀ w ∈ u_ws RX6 TX6 12, w ∈ wsX6_undo := mk_seg 17 12 rfl
  unfold f_X6_undo at h
  refine lv_aload_n hx hb dX6_undo_0 rfl (lv_at hl 0 rfl) ?_
  refine va_get (D := D) (ci := 6) (v := .ref ((a0 5) 0)) (C := RX6) (T := TX6) (N := 12) hx hb hts hiX6 hown hK hP 0 rfl rfl 6 (by decide) (hts (.fieldLink RX6 44 "ClockOnce" "acts" "LClockOnce$Acts;") (List.mem_of_getElem? (i := 1) rfl)) (fun _ h9 => h9) rfl dX6_undo_1 ?_
  refine va_get (D := D) (ci := 0) (v := .int ((c0 5) 0 0)) (C := RX0) (T := TX0) (N := 4) hx hb hts hiX0 hown hK hP 29 rfl rfl 3 (by decide) (hts (.fieldLink RX6 83 "ClockOnce$Acts" "size" "I") (List.mem_of_getElem? (i := 2) rfl)) (fun _ h9 => h9) rfl dX6_undo_4 ?_
  refine lv_if_gt (tgt := 13) hx hb dX6_undo_7 (by decide) (fun q_1 => ?_) (fun q_1 => ?_)
  · have h := mk_ifp q_1 h
    refine lv_aload_n hx hb dX6_undo_13 rfl (lv_at hl 0 rfl) ?_
    refine va_get (D := D) (ci := 6) (v := .ref ((a0 5) 0)) (C := RX6) (T := TX6) (N := 12) hx hb hts hiX6 hown hK hP 0 rfl rfl 6 (by decide) (hts (.fieldLink RX6 44 "ClockOnce" "acts" "LClockOnce$Acts;") (List.mem_of_getElem? (i := 1) rfl)) (fun _ h9 => h9) rfl dX6_undo_14 ?_
    refine lv_aload_n hx hb dX6_undo_17 rfl (lv_at hl 0 rfl) ?_
    refine va_get (D := D) (ci := 6) (v := .ref ((a0 4) 0)) (C := RX6) (T := TX6) (N := 12) hx hb hts hiX6 hown hK hP 0 rfl rfl 5 (by decide) (hts (.fieldLink RX6 37 "ClockOnce" "life" "LClockOnce$Life;") (List.mem_of_getElem? (i := 3) rfl)) (fun _ h9 => h9) rfl dX6_undo_18 ?_
    obtain ⟨r_2, er_2, h⟩ := mk_bd h
    refine ec_vv (As := [.ref ((a0 4) 0)]) (rest := []) (w' := (wX6 cI cO a0 (mk_set3 (mk_set3 c0 5 r_2.1) 4 r_2.2) sd)) ⟨hx, hb, hml, hown, hts⟩ (c_X0_takeBackLast l D cI cZ cO N (a0 5) (c0 5) (a0 4) (c0 4) H.size r_2 er_2) (cwV 1 hts k_X6_undo_X0_takeBackLast_148 rfl rfl rfl (by decide +kernel) ⟨(Nat.le_of_ble_eq_true rfl), (Nat.le_of_ble_eq_true rfl)⟩) (va_recv hK hP (ci := 0) (q0 := 29) rfl rfl) hK hP hD hS hA [29, 30, 31, 32, 26, 27, 28] [0, 1, 2, 3, 4, 5, 6, 7, 8, 9, 10, 11, 12, 13, 14, 15, 16, 17, 18, 19, 20, 21, 22, 23, 24, 25, 33, 34, 35, 36, 37, 38, 39, 40, 41, 42, 43] [0, 1, 2, 3, 4, 5, 6, 7, 8, 9, 10, 11, 12, 13, 14, 15, 16, 17, 18, 19, 20, 21, 22, 23, 24, 25, 41, 42, 43, 37, 38, 39, 40, 26, 27, 28, 29, 30, 31, 32, 33, 34, 35, 36] (hP.sub (ws' := wX0 cI (a0 5) (c0 5) ++ wX2 cI (a0 4) (c0 4)) [29, 30, 31, 32, 26, 27, 28] rfl) (hD.sub (ws' := wX0 cI (a0 5) (c0 5) ++ wX2 cI (a0 4) (c0 4)) [29, 30, 31, 32, 26, 27, 28] (by decide) rfl) rfl rfl (by decide) (by decide) rfl (by decide) rfl hl.1 rfl (Nat.le_of_ble_eq_true rfl) dX6_undo_21 ⟨Nat.zero_le _, Nat.zero_le _⟩ (fun H locs hP hD hS => ?_)
    obtain ⟨w_3, ew_3, h⟩ := mk_nmE h
    rw [← ew_3] at hP hD
    obtain ⟨w_4, ew_4, h⟩ := mk_nmE h
    rw [← ew_4] at hP hD
    refine lv_aload_n hx hb dX6_undo_24 rfl (lv_at hl 0 rfl) ?_
    refine va_get (D := D) (ci := 6) (v := .ref ((a0 5) 0)) (C := RX6) (T := TX6) (N := 12) hx hb hts hiX6 hown hK hP 0 rfl rfl 6 (by decide) (hts (.fieldLink RX6 44 "ClockOnce" "acts" "LClockOnce$Acts;") (List.mem_of_getElem? (i := 1) rfl)) (fun _ h9 => h9) rfl dX6_undo_25 ?_
    refine va_get (D := D) (ci := 0) (v := .int ((w_4 5) 0 0)) (C := RX0) (T := TX0) (N := 4) hx hb hts hiX0 hown hK hP 29 rfl rfl 3 (by decide) (hts (.fieldLink RX6 83 "ClockOnce$Acts" "size" "I") (List.mem_of_getElem? (i := 2) rfl)) (fun _ h9 => h9) rfl dX6_undo_28 ?_
    exact hret _ _ _ _ _ _ h hP hD hS dX6_undo_31
  · have h := mk_ifn q_1 h
    refine lv_bipush (v := (-3 : Int32)) hx hb dX6_undo_10 (by decide) ?_
    exact hret _ _ _ _ _ _ h hP hD hS dX6_undo_12

abbrev rm_X6_unsee : Room := { frames := 0, cells := 0, slots := 0, locals := 0 }
set_option maxHeartbeats 4000000 in
set_option maxRecDepth 100000 in
theorem c_X6_unsee (l : Launch) (D : va_G) (cI cZ cO : ClassId) (N : Nat) (a0 : Nat → Nat → Nat) (c0 : CU) (sd : Int64) (sz : Nat) (out : Int32 × CU) (h : f_X6_unsee N c0 sd = some out) : Met l yX6_unsee wsX6_unsee rm_X6_unsee (va_Pc [.ref ((a0 0) 0)] (mk_Pe D vwCl (tyA cI cZ cO) (wX6 cI cO a0 c0 sd) sz)) (va_Qi (fun r u => (r, u) = out) (mk_Be D vwCl (wX6 cI cO a0 c0 sd) sz (fun q => (wX6 cI cO a0 q sd))) (va_A (wX6 cI cO a0 c0 sd) sz)) 0 0 (va_A (wX6 cI cO a0 c0 sd) sz) := by
  refine em_i (own := RX6) (cc := cX6_unsee) (maxL := 2) (by decide) rfl rfl (Nat.le_of_ble_eq_true rfl) ?_
  intro p e s m args below meth c Q A H0 H locs ls hx hb hml hown hts hP hK hD hS hA hl hret
  have hl : lv_has ls 2 [(0, .ref ((a0 0) 0))] := hl
  have hiX4 : ∀ w ∈ u_ws RX4 TX4 3, w ∈ wsX6_unsee := mk_seg 15 3 rfl
  have hiX6 : ∀ w ∈ u_ws RX6 TX6 12, w ∈ wsX6_unsee := mk_seg 3 12 rfl
  unfold f_X6_unsee at h
  refine lv_aload_n hx hb dX6_unsee_0 rfl (lv_at hl 0 rfl) ?_
  refine va_get (D := D) (ci := 6) (v := .ref ((a0 8) 0)) (C := RX6) (T := TX6) (N := 12) hx hb hts hiX6 hown hK hP 0 rfl rfl 8 (by decide) (hts (.fieldLink RX6 55 "ClockOnce" "seen" "LClockOnce$Sales;") (List.mem_of_getElem? (i := 1) rfl)) (fun _ h9 => h9) rfl dX6_unsee_1 ?_
  refine va_get (D := D) (ci := 4) (v := .int ((c0 8) 0 0)) (C := RX4) (T := TX4) (N := 3) hx hb hts hiX4 hown hK hP 39 rfl rfl 2 (by decide) (hts (.fieldLink RX6 215 "ClockOnce$Sales" "size" "I") (List.mem_of_getElem? (i := 2) rfl)) (fun _ h9 => h9) rfl dX6_unsee_4 ?_
  refine lv_istore_n (lv' := [(1, .int ((c0 8) 0 0)), (0, .ref ((a0 0) 0))]) hx hb dX6_unsee_7 rfl hl (by decide) rfl (fun ls hl => ?_)
  refine lv_aload_n hx hb dX6_unsee_8 rfl (lv_at hl 1 rfl) ?_
  refine va_get (D := D) (ci := 6) (v := .ref ((a0 8) 0)) (C := RX6) (T := TX6) (N := 12) hx hb hts hiX6 hown hK hP 0 rfl rfl 8 (by decide) (hts (.fieldLink RX6 55 "ClockOnce" "seen" "LClockOnce$Sales;") (List.mem_of_getElem? (i := 1) rfl)) (fun _ h9 => h9) rfl dX6_unsee_9 ?_
  refine lv_iconst (v := (0 : Int32)) hx hb dX6_unsee_12 (by decide) ?_
  obtain ⟨w_1, ew_1, h⟩ := mk_nmE h
  refine va_put (D := D) (ci := 4) (v := .int (0 : Int32)) (ty := .int) (C := RX4) (T := TX4) (N := 3) hx hb hts hiX4 tyX4 tyX4_ok nmX4 hown hK hP hD hS 39 rfl rfl 2 (by decide) (hts (.fieldLink RX6 215 "ClockOnce$Sales" "size" "I") (List.mem_of_getElem? (i := 2) rfl)) (fun _ h9 => h9) rfl (by decide +kernel) rfl rfl (Nat.le_of_ble_eq_true rfl) dX6_unsee_13 (fun H locs hP hD hS => ?_)
  have hP : va_P D vwCl (wX6 cI cO a0 w_1 sd) H := by rw [ew_1]; exact hP
  have hD : va_D A (wX6 cI cO a0 w_1 sd) := by rw [ew_1]; exact hD
  refine lv_iload_n hx hb dX6_unsee_16 rfl (lv_at hl 0 rfl) ?_
  exact hret _ _ _ _ _ _ h hP hD hS dX6_unsee_17

abbrev rm_X6_which : Room := { frames := 5, cells := 0, slots := 0, locals := 125 }
set_option maxRecDepth 20000 in
theorem k_X6_which_X5_worldsLike_226 : GoodIn wsX6_which (wsV RX6 226 RX5 yX5_worldsLike wsX5_worldsLike) := goodIn_r _ [52, 53, 54, 17, 55, 19, 69, 70, 71, 72, 73, 74, 75, 76, 77, 78, 79, 80, 81, 82] rfl (by decide +kernel)
set_option maxRecDepth 20000 in
theorem k_X6_which_X5_partsOf_163 : GoodIn wsX6_which (wsV RX6 163 RX5 yX5_partsOf wsX5_partsOf) := goodIn_r _ [56, 34, 35, 17, 36, 19, 28, 69, 70, 71, 72, 73, 74, 75, 76, 77, 78, 79, 80, 81, 82] rfl (by decide +kernel)
set_option maxRecDepth 20000 in
theorem k_X6_which_X4_fits_219 : GoodIn wsX6_which (wsV RX6 219 RX4 yX4_fits wsX4_fits) := goodIn_r _ [6, 7, 8, 9, 10, 11, 12, 13, 14, 15, 16, 17, 18, 19, 20, 21, 22, 23, 24, 25, 26, 27, 28, 29, 30, 31, 32, 33, 34, 35, 36, 37, 38, 39, 40, 41, 42, 43, 44, 45, 46, 47, 48, 49, 50, 51, 83, 84, 85, 69, 70, 71, 72, 73, 74, 75, 76, 77, 78, 79, 80, 81, 82] rfl (by decide +kernel)
set_option maxHeartbeats 4000000 in
set_option maxRecDepth 100000 in
theorem c_X6_which (l : Launch) (D : va_G) (cI cZ cO : ClassId) (N : Nat) (a0 : Nat → Nat → Nat) (c0 : CU) (sd : Int64) (out : Int32) (h : f_X6_which N c0 sd = some out) : Met l yX6_which wsX6_which rm_X6_which (va_Pc [.ref ((a0 0) 0)] (fun U => va_P D vwCl (wX6 cI cO a0 c0 sd) U.heap ∧ va_K D vwCl (tyA cI cZ cO) U)) (vp_Si (fun r => r = out)) 0 0 (fun _ => False) := by
  refine pm_i (own := RX6) (cc := cX6_which) (maxL := 4) (by decide) rfl rfl (Nat.le_of_ble_eq_true rfl) ?_
  intro p e s m args below meth c Q H ls hx hb hml hown hts hP hK hl hret
  have hl : lv_has ls 4 [(0, .ref ((a0 0) 0))] := hl
  have hiX5 : ∀ w ∈ u_ws RX5 TX5 14, w ∈ wsX6_which := mk_seg 69 14 rfl
  have hiX6 : ∀ w ∈ u_ws RX6 TX6 12, w ∈ wsX6_which := mk_seg 57 12 rfl
  have K30 : ∀ (x1 : Int32) (x2 : Int32) (ls : Array Slot), lv_has ls 4 [(0, .ref ((a0 0) 0)), (1, .int x1), (2, .int x2)] → lq2 (g_X6_which_30 N c0 sd) N x1 x2 = some out → W p l e rm_X6_which s m args below meth c H [] 0 0 Q (F0 m 30 ls []) := by
    intro x1 x2 ls hl h
    refine lq2_W (Wd := fun x1 x2 => ∀ (ls : Array Slot), lv_has ls 4 [(0, .ref ((a0 0) 0)), (1, .int x1), (2, .int x2)] → W p l e rm_X6_which s m args below meth c H [] 0 0 Q (F0 m 30 ls [])) (fun rec30 ih30 x1 x2 h ls hl => ?_) N x1 x2 h ls hl
    unfold g_X6_which_30 at h
    refine lv_iload_n hx hb dX6_which_30 rfl (lv_at hl 2 rfl) ?_
    refine lv_aload_n hx hb dX6_which_31 rfl (lv_at hl 0 rfl) ?_
    refine va_get (D := D) (ci := 6) (v := .ref ((a0 2) 0)) (C := RX6) (T := TX6) (N := 12) hx hb hts hiX6 hown hK hP 0 rfl rfl 3 (by decide) (hts (.fieldLink RX6 27 "ClockOnce" "town" "LClockOnce$Town;") (List.mem_of_getElem? (i := 2) rfl)) (fun _ h9 => h9) rfl dX6_which_32 ?_
    refine va_get (D := D) (ci := 5) (v := .int ((c0 2) 0 0)) (C := RX5) (T := TX5) (N := 14) hx hb hts hiX5 hown hK hP 6 rfl rfl 4 (by decide) (hts (.fieldLink RX6 89 "ClockOnce$Town" "things" "I") (List.mem_of_getElem? (i := 4) rfl)) (fun _ h9 => h9) rfl dX6_which_35 ?_
    refine lv_icmp_ge (tgt := 104) hx hb dX6_which_38 (by decide) (fun q_1 => ?_) (fun q_1 => ?_)
    · have h := mk_ifp q_1 h
      refine lv_iload_n hx hb dX6_which_104 rfl (lv_at hl 1 rfl) ?_
      exact hret _ _ _ h dX6_which_105
    · have h := mk_ifn q_1 h
      refine lv_aload_n hx hb dX6_which_41 rfl (lv_at hl 0 rfl) ?_
      refine va_get (D := D) (ci := 6) (v := .ref ((a0 2) 0)) (C := RX6) (T := TX6) (N := 12) hx hb hts hiX6 hown hK hP 0 rfl rfl 3 (by decide) (hts (.fieldLink RX6 27 "ClockOnce" "town" "LClockOnce$Town;") (List.mem_of_getElem? (i := 2) rfl)) (fun _ h9 => h9) rfl dX6_which_42 ?_
      refine lv_aload_n hx hb dX6_which_45 rfl (lv_at hl 0 rfl) ?_
      refine va_get (D := D) (ci := 6) (v := .ref ((a0 2) 0)) (C := RX6) (T := TX6) (N := 12) hx hb hts hiX6 hown hK hP 0 rfl rfl 3 (by decide) (hts (.fieldLink RX6 27 "ClockOnce" "town" "LClockOnce$Town;") (List.mem_of_getElem? (i := 2) rfl)) (fun _ h9 => h9) rfl dX6_which_46 ?_
      refine va_get (D := D) (ci := 5) (v := .int ((c0 2) 0 4)) (C := RX5) (T := TX5) (N := 14) hx hb hts hiX5 hown hK hP 6 rfl rfl 13 (by decide) (hts (.fieldLink RX6 152 "ClockOnce$Town" "allWorlds" "I") (List.mem_of_getElem? (i := 3) rfl)) (fun _ h9 => h9) rfl dX6_which_49 ?_
      refine lv_iconst (v := (1 : Int32)) hx hb dX6_which_52 (by decide) ?_
      refine lv_iload_n hx hb dX6_which_53 rfl (lv_at hl 2 rfl) ?_
      refine lv_ishl hx hb dX6_which_54 ?_
      refine lv_aload_n hx hb dX6_which_55 rfl (lv_at hl 0 rfl) ?_
      refine va_get (D := D) (ci := 6) (v := .ref ((a0 2) 0)) (C := RX6) (T := TX6) (N := 12) hx hb hts hiX6 hown hK hP 0 rfl rfl 3 (by decide) (hts (.fieldLink RX6 27 "ClockOnce" "town" "LClockOnce$Town;") (List.mem_of_getElem? (i := 2) rfl)) (fun _ h9 => h9) rfl dX6_which_56 ?_
      refine va_get (D := D) (ci := 5) (v := .int ((c0 2) 0 1)) (C := RX5) (T := TX5) (N := 14) hx hb hts hiX5 hown hK hP 6 rfl rfl 5 (by decide) (hts (.fieldLink RX6 223 "ClockOnce$Town" "truth" "I") (List.mem_of_getElem? (i := 5) rfl)) (fun _ h9 => h9) rfl dX6_which_59 ?_
      obtain ⟨r_2, er_2, h⟩ := mk_bd h
      refine pc_v (As := [.int ((c0 2) 0 4), .int ((1 : Int32) <<< (x2 &&& 31)), .int ((c0 2) 0 1)]) (rest := []) ⟨hx, hb, hml, hown, hts⟩ (c_X5_worldsLike l D cI cZ cO N (a0 2) (c0 2) ((c0 2) 0 4) ((1 : Int32) <<< (x2 &&& 31)) ((c0 2) 0 1) r_2 er_2) (cwV 3 hts k_X6_which_X5_worldsLike_226 rfl rfl rfl (by decide +kernel) ⟨(Nat.le_of_ble_eq_true rfl), (Nat.le_of_ble_eq_true rfl)⟩) (va_recv hK hP (ci := 5) (q0 := 6) rfl rfl) (hP.sub (ws' := wX5 cI (a0 2) (c0 2)) [6, 7, 8, 9, 10, 11, 12, 13, 14, 15] rfl) hK rfl hl.1 rfl (Nat.le_of_ble_eq_true rfl) dX6_which_62 ⟨Nat.zero_le _, Nat.zero_le _⟩ ?_
      refine lv_istore_n (lv' := [(3, .int r_2), (0, .ref ((a0 0) 0)), (1, .int x1), (2, .int x2)]) hx hb dX6_which_65 rfl hl (by decide) rfl (fun ls hl => ?_)
      refine lv_aload_n hx hb dX6_which_66 rfl (lv_at hl 1 rfl) ?_
      refine va_get (D := D) (ci := 6) (v := .ref ((a0 2) 0)) (C := RX6) (T := TX6) (N := 12) hx hb hts hiX6 hown hK hP 0 rfl rfl 3 (by decide) (hts (.fieldLink RX6 27 "ClockOnce" "town" "LClockOnce$Town;") (List.mem_of_getElem? (i := 2) rfl)) (fun _ h9 => h9) rfl dX6_which_67 ?_
      refine lv_iload_n hx hb dX6_which_70 rfl (lv_at hl 0 rfl) ?_
      obtain ⟨r_3, er_3, h⟩ := mk_bd h
      refine pc_v (As := [.int r_2]) (rest := []) ⟨hx, hb, hml, hown, hts⟩ (c_X5_partsOf l D cI cZ cO N (a0 2) (c0 2) r_2 r_3 er_3) (cwV 1 hts k_X6_which_X5_partsOf_163 rfl rfl rfl (by decide +kernel) ⟨(Nat.le_of_ble_eq_true rfl), (Nat.le_of_ble_eq_true rfl)⟩) (va_recv hK hP (ci := 5) (q0 := 6) rfl rfl) (hP.sub (ws' := wX5 cI (a0 2) (c0 2)) [6, 7, 8, 9, 10, 11, 12, 13, 14, 15] rfl) hK rfl hl.1 rfl (Nat.le_of_ble_eq_true rfl) dX6_which_71 ⟨Nat.zero_le _, Nat.zero_le _⟩ ?_
      refine lv_if_eq (tgt := 98) hx hb dX6_which_74 (by decide) (fun q_4 => ?_) (fun q_4 => ?_)
      · have h := mk_ifp q_4 h
        refine lv_iinc (v := (x2 + (1 : Int32))) (lv' := [(2, .int (x2 + (1 : Int32))), (3, .int r_2), (0, .ref ((a0 0) 0)), (1, .int x1)]) hx hb dX6_which_98 hl (k := 3) rfl rfl (by decide) rfl (fun ls hl => ?_)
        refine lv_goto (tgt := 30) hx hb dX6_which_101 (by decide) ?_
        exact ih30 x1 (x2 + (1 : Int32)) h ls (lv_sub hl [2, 3, 0] rfl)
      · have h := mk_ifn q_4 h
        refine lv_aload_n hx hb dX6_which_77 rfl (lv_at hl 1 rfl) ?_
        refine va_get (D := D) (ci := 6) (v := .ref ((a0 8) 0)) (C := RX6) (T := TX6) (N := 12) hx hb hts hiX6 hown hK hP 0 rfl rfl 8 (by decide) (hts (.fieldLink RX6 55 "ClockOnce" "seen" "LClockOnce$Sales;") (List.mem_of_getElem? (i := 1) rfl)) (fun _ h9 => h9) rfl dX6_which_78 ?_
        refine lv_aload_n hx hb dX6_which_81 rfl (lv_at hl 1 rfl) ?_
        refine va_get (D := D) (ci := 6) (v := .ref ((a0 2) 0)) (C := RX6) (T := TX6) (N := 12) hx hb hts hiX6 hown hK hP 0 rfl rfl 3 (by decide) (hts (.fieldLink RX6 27 "ClockOnce" "town" "LClockOnce$Town;") (List.mem_of_getElem? (i := 2) rfl)) (fun _ h9 => h9) rfl dX6_which_82 ?_
        refine lv_iload_n hx hb dX6_which_85 rfl (lv_at hl 0 rfl) ?_
        obtain ⟨r_5, er_5, h⟩ := mk_bd h
        refine pc_v (As := [.ref ((a0 2) 0), .int r_2]) (rest := []) ⟨hx, hb, hml, hown, hts⟩ (c_X4_fits l D cI cZ cO N (a0 8) (c0 8) (a0 2) (c0 2) r_2 r_5 er_5) (cwV 2 hts k_X6_which_X4_fits_219 rfl rfl rfl (by decide +kernel) ⟨(Nat.le_of_ble_eq_true rfl), (Nat.le_of_ble_eq_true rfl)⟩) (va_recv hK hP (ci := 4) (q0 := 39) rfl rfl) (hP.sub (ws' := wX4 cI (a0 8) (c0 8) ++ wX5 cI (a0 2) (c0 2)) [39, 40, 41, 6, 7, 8, 9, 10, 11, 12, 13, 14, 15] rfl) hK rfl hl.1 rfl (Nat.le_of_ble_eq_true rfl) dX6_which_86 ⟨Nat.zero_le _, Nat.zero_le _⟩ ?_
        refine lv_if_eq (tgt := 98) hx hb dX6_which_89 (by decide) (fun q_6 => ?_) (fun q_6 => ?_)
        · have h := mk_ifp q_6 h
          refine lv_iinc (v := (x2 + (1 : Int32))) (lv' := [(2, .int (x2 + (1 : Int32))), (3, .int r_2), (0, .ref ((a0 0) 0)), (1, .int x1)]) hx hb dX6_which_98 hl (k := 3) rfl rfl (by decide) rfl (fun ls hl => ?_)
          refine lv_goto (tgt := 30) hx hb dX6_which_101 (by decide) ?_
          exact ih30 x1 (x2 + (1 : Int32)) h ls (lv_sub hl [2, 3, 0] rfl)
        · have h := mk_ifn q_6 h
          refine lv_iload_n hx hb dX6_which_92 rfl (lv_at hl 2 rfl) ?_
          refine lv_iconst (v := (1 : Int32)) hx hb dX6_which_93 (by decide) ?_
          refine lv_iload_n hx hb dX6_which_94 rfl (lv_at hl 3 rfl) ?_
          refine lv_ishl hx hb dX6_which_95 ?_
          refine lv_ior hx hb dX6_which_96 ?_
          refine lv_istore_n (lv' := [(1, .int (x1 ||| ((1 : Int32) <<< (x2 &&& 31)))), (3, .int r_2), (0, .ref ((a0 0) 0)), (2, .int x2)]) hx hb dX6_which_97 rfl hl (by decide) rfl (fun ls hl => ?_)
          refine lv_iinc (v := (x2 + (1 : Int32))) (lv' := [(2, .int (x2 + (1 : Int32))), (1, .int (x1 ||| ((1 : Int32) <<< (x2 &&& 31)))), (3, .int r_2), (0, .ref ((a0 0) 0))]) hx hb dX6_which_98 hl (k := 3) rfl rfl (by decide) rfl (fun ls hl => ?_)
          refine lv_goto (tgt := 30) hx hb dX6_which_101 (by decide) ?_
          exact ih30 (x1 ||| ((1 : Int32) <<< (x2 &&& 31))) (x2 + (1 : Int32)) h ls (lv_sub hl [3, 1, 0] rfl)
  unfold f_X6_which at h
  refine lv_aload_n hx hb dX6_which_0 rfl (lv_at hl 0 rfl) ?_
  refine va_get (D := D) (ci := 6) (v := .ref ((a0 8) 0)) (C := RX6) (T := TX6) (N := 12) hx hb hts hiX6 hown hK hP 0 rfl rfl 8 (by decide) (hts (.fieldLink RX6 55 "ClockOnce" "seen" "LClockOnce$Sales;") (List.mem_of_getElem? (i := 1) rfl)) (fun _ h9 => h9) rfl dX6_which_1 ?_
  refine lv_aload_n hx hb dX6_which_4 rfl (lv_at hl 0 rfl) ?_
  refine va_get (D := D) (ci := 6) (v := .ref ((a0 2) 0)) (C := RX6) (T := TX6) (N := 12) hx hb hts hiX6 hown hK hP 0 rfl rfl 3 (by decide) (hts (.fieldLink RX6 27 "ClockOnce" "town" "LClockOnce$Town;") (List.mem_of_getElem? (i := 2) rfl)) (fun _ h9 => h9) rfl dX6_which_5 ?_
  refine lv_aload_n hx hb dX6_which_8 rfl (lv_at hl 0 rfl) ?_
  refine va_get (D := D) (ci := 6) (v := .ref ((a0 2) 0)) (C := RX6) (T := TX6) (N := 12) hx hb hts hiX6 hown hK hP 0 rfl rfl 3 (by decide) (hts (.fieldLink RX6 27 "ClockOnce" "town" "LClockOnce$Town;") (List.mem_of_getElem? (i := 2) rfl)) (fun _ h9 => h9) rfl dX6_which_9 ?_
  refine va_get (D := D) (ci := 5) (v := .int ((c0 2) 0 4)) (C := RX5) (T := TX5) (N := 14) hx hb hts hiX5 hown hK hP 6 rfl rfl 13 (by decide) (hts (.fieldLink RX6 152 "ClockOnce$Town" "allWorlds" "I") (List.mem_of_getElem? (i := 3) rfl)) (fun _ h9 => h9) rfl dX6_which_12 ?_
  obtain ⟨r_7, er_7, h⟩ := mk_bd h
  refine pc_v (As := [.ref ((a0 2) 0), .int ((c0 2) 0 4)]) (rest := []) ⟨hx, hb, hml, hown, hts⟩ (c_X4_fits l D cI cZ cO N (a0 8) (c0 8) (a0 2) (c0 2) ((c0 2) 0 4) r_7 er_7) (cwV 2 hts k_X6_which_X4_fits_219 rfl rfl rfl (by decide +kernel) ⟨(Nat.le_of_ble_eq_true rfl), (Nat.le_of_ble_eq_true rfl)⟩) (va_recv hK hP (ci := 4) (q0 := 39) rfl rfl) (hP.sub (ws' := wX4 cI (a0 8) (c0 8) ++ wX5 cI (a0 2) (c0 2)) [39, 40, 41, 6, 7, 8, 9, 10, 11, 12, 13, 14, 15] rfl) hK rfl hl.1 rfl (Nat.le_of_ble_eq_true rfl) dX6_which_15 ⟨Nat.zero_le _, Nat.zero_le _⟩ ?_
  refine lv_if_eq (tgt := 26) hx hb dX6_which_18 (by decide) (fun q_8 => ?_) (fun q_8 => ?_)
  · have h := mk_ifp q_8 h
    refine lv_iconst (v := (0 : Int32)) hx hb dX6_which_26 (by decide) ?_
    refine lv_istore_n (lv' := [(1, .int (0 : Int32)), (0, .ref ((a0 0) 0))]) hx hb dX6_which_27 rfl hl (by decide) rfl (fun ls hl => ?_)
    refine lv_iconst (v := (0 : Int32)) hx hb dX6_which_28 (by decide) ?_
    refine lv_istore_n (lv' := [(2, .int (0 : Int32)), (1, .int (0 : Int32)), (0, .ref ((a0 0) 0))]) hx hb dX6_which_29 rfl hl (by decide) rfl (fun ls hl => ?_)
    exact K30 (0 : Int32) (0 : Int32) ls (lv_sub hl [2, 1, 0] rfl) h
  · have h := mk_ifn q_8 h
    refine lv_bipush (v := (16 : Int32)) hx hb dX6_which_21 (by decide) ?_
    refine lv_goto (tgt := 27) hx hb dX6_which_23 (by decide) ?_
    refine lv_istore_n (lv' := [(1, .int (16 : Int32)), (0, .ref ((a0 0) 0))]) hx hb dX6_which_27 rfl hl (by decide) rfl (fun ls hl => ?_)
    refine lv_iconst (v := (0 : Int32)) hx hb dX6_which_28 (by decide) ?_
    refine lv_istore_n (lv' := [(2, .int (0 : Int32)), (1, .int (16 : Int32)), (0, .ref ((a0 0) 0))]) hx hb dX6_which_29 rfl hl (by decide) rfl (fun ls hl => ?_)
    exact K30 (16 : Int32) (0 : Int32) ls (lv_sub hl [2, 1, 0] rfl) h

abbrev rm_X6_wipe : Room := { frames := 0, cells := 0, slots := 0, locals := 0 }
set_option maxHeartbeats 4000000 in
set_option maxRecDepth 100000 in
theorem c_X6_wipe (l : Launch) (D : va_G) (cI cZ cO : ClassId) (N : Nat) (a0 : Nat → Nat → Nat) (c0 : CU) (sd : Int64) (sz : Nat) (out : Int32 × CU) (h : f_X6_wipe N c0 sd = some out) : Met l yX6_wipe wsX6_wipe rm_X6_wipe (va_Pc [.ref ((a0 0) 0)] (mk_Pe D vwCl (tyA cI cZ cO) (wX6 cI cO a0 c0 sd) sz)) (va_Qi (fun r u => (r, u) = out) (mk_Be D vwCl (wX6 cI cO a0 c0 sd) sz (fun q => (wX6 cI cO a0 q sd))) (va_A (wX6 cI cO a0 c0 sd) sz)) 0 0 (va_A (wX6 cI cO a0 c0 sd) sz) := by
  refine em_i (own := RX6) (cc := cX6_wipe) (maxL := 2) (by decide) rfl rfl (Nat.le_of_ble_eq_true rfl) ?_
  intro p e s m args below meth c Q A H0 H locs ls hx hb hml hown hts hP hK hD hS hA hl hret
  have hl : lv_has ls 2 [(0, .ref ((a0 0) 0))] := hl
  have hiX6 : ∀ w ∈ u_ws RX6 TX6 12, w ∈ wsX6_wipe := mk_seg 2 12 rfl
  unfold f_X6_wipe at h
  refine lv_aload_n hx hb dX6_wipe_0 rfl (lv_at hl 0 rfl) ?_
  refine va_get (D := D) (ci := 6) (v := .int ((c0 0) 0 0)) (C := RX6) (T := TX6) (N := 12) hx hb hts hiX6 hown hK hP 0 rfl rfl 1 (by decide) (hts (.fieldLink RX6 13 "ClockOnce" "length" "I") (List.mem_of_getElem? (i := 1) rfl)) (fun _ h9 => h9) rfl dX6_wipe_1 ?_
  refine lv_istore_n (lv' := [(1, .int ((c0 0) 0 0)), (0, .ref ((a0 0) 0))]) hx hb dX6_wipe_4 rfl hl (by decide) rfl (fun ls hl => ?_)
  refine lv_aload_n hx hb dX6_wipe_5 rfl (lv_at hl 1 rfl) ?_
  refine lv_iconst (v := (0 : Int32)) hx hb dX6_wipe_6 (by decide) ?_
  obtain ⟨w_1, ew_1, h⟩ := mk_nmE h
  refine va_put (D := D) (ci := 6) (v := .int (0 : Int32)) (ty := .int) (C := RX6) (T := TX6) (N := 12) hx hb hts hiX6 tyX6 tyX6_ok nmX6 hown hK hP hD hS 0 rfl rfl 1 (by decide) (hts (.fieldLink RX6 13 "ClockOnce" "length" "I") (List.mem_of_getElem? (i := 1) rfl)) (fun _ h9 => h9) rfl (by decide +kernel) rfl rfl (Nat.le_of_ble_eq_true rfl) dX6_wipe_7 (fun H locs hP hD hS => ?_)
  have hP : va_P D vwCl (wX6 cI cO a0 w_1 sd) H := by rw [ew_1]; exact hP
  have hD : va_D A (wX6 cI cO a0 w_1 sd) := by rw [ew_1]; exact hD
  refine lv_iload_n hx hb dX6_wipe_10 rfl (lv_at hl 0 rfl) ?_
  exact hret _ _ _ _ _ _ h hP hD hS dX6_wipe_11

abbrev rm_X6_wise : Room := { frames := 6, cells := 0, slots := 0, locals := 134 }
set_option maxRecDepth 20000 in
theorem k_X6_wise_X5_hasAsker_121 : GoodIn wsX6_wise (wsV RX6 121 RX5 yX5_hasAsker wsX5_hasAsker) := goodIn_r _ [5, 6, 7, 8, 9, 10, 109, 110, 111, 112, 113, 114, 115, 116, 117, 118, 119, 120, 121, 122] rfl (by decide +kernel)
set_option maxRecDepth 20000 in
theorem k_X6_wise_X5_hasThing_95 : GoodIn wsX6_wise (wsV RX6 95 RX5 yX5_hasThing wsX5_hasThing) := goodIn_r _ [11, 12, 13, 8, 14, 15, 109, 110, 111, 112, 113, 114, 115, 116, 117, 118, 119, 120, 121, 122] rfl (by decide +kernel)
set_option maxRecDepth 20000 in
theorem k_X6_wise_X6_heldWorlds_166 : GoodIn wsX6_wise (wsV RX6 166 RX6 yX6_heldWorlds wsX6_heldWorlds) := goodIn_r _ [16, 17, 18, 19, 20, 1, 2, 4, 21, 22, 23, 24, 8, 25, 26, 27, 15, 28, 29, 30, 31, 32, 33, 34, 35, 36, 37, 38, 39, 40, 41, 42, 43, 44, 45, 46, 47, 48, 49, 50, 51, 52, 53, 54, 55, 56, 57, 58, 59, 60, 61, 62, 63, 64, 92, 93, 94, 95, 96, 97, 98, 99, 100, 101, 102, 103, 104, 105, 106, 107, 108, 109, 110, 111, 112, 113, 114, 115, 116, 117, 118, 119, 120, 121, 122] rfl (by decide +kernel)
set_option maxRecDepth 20000 in
theorem k_X6_wise_X5_partsOf_163 : GoodIn wsX6_wise (wsV RX6 163 RX5 yX5_partsOf wsX5_partsOf) := goodIn_r _ [65, 66, 67, 8, 68, 15, 69, 109, 110, 111, 112, 113, 114, 115, 116, 117, 118, 119, 120, 121, 122] rfl (by decide +kernel)
set_option maxRecDepth 20000 in
theorem k_X6_wise_X5_wiseDay_177 : GoodIn wsX6_wise (wsV RX6 177 RX5 yX5_wiseDay wsX5_wiseDay) := goodIn_r _ [70, 71, 72, 8, 73, 74, 75, 76, 8, 77, 15, 69, 42, 43, 44, 45, 78, 66, 67, 68, 79, 80, 81, 82, 83, 84, 85, 86, 41, 40, 87, 88, 89, 90, 91, 109, 110, 111, 112, 113, 114, 115, 116, 117, 118, 119, 120, 121, 122] rfl (by decide +kernel)
set_option maxHeartbeats 4000000 in
set_option maxRecDepth 100000 in
theorem c_X6_wise (l : Launch) (D : va_G) (cI cZ cO : ClassId) (N : Nat) (a0 : Nat → Nat → Nat) (c0 : CU) (sd : Int64) (p1 : Int32) (p2 : Int32) (out : Int32) (h : f_X6_wise N c0 sd p1 p2 = some out) : Met l yX6_wise wsX6_wise rm_X6_wise (va_Pc [.ref ((a0 0) 0), .int p1, .int p2] (fun U => va_P D vwCl (wX6 cI cO a0 c0 sd) U.heap ∧ va_K D vwCl (tyA cI cZ cO) U)) (vp_Si (fun r => r = out)) 0 0 (fun _ => False) := by
  refine pm_i (own := RX6) (cc := cX6_wise) (maxL := 4) (by decide) rfl rfl (Nat.le_of_ble_eq_true rfl) ?_
  intro p e s m args below meth c Q H ls hx hb hml hown hts hP hK hl hret
  have hl : lv_has ls 4 [(0, .ref ((a0 0) 0)), (1, .int p1), (2, .int p2)] := hl
  have hiX2 : ∀ w ∈ u_ws RX2 TX2 5, w ∈ wsX6_wise := mk_seg 104 5 rfl
  have hiX6 : ∀ w ∈ u_ws RX6 TX6 12, w ∈ wsX6_wise := mk_seg 92 12 rfl
  unfold f_X6_wise at h
  refine lv_aload_n hx hb dX6_wise_0 rfl (lv_at hl 0 rfl) ?_
  refine va_get (D := D) (ci := 6) (v := .ref ((a0 2) 0)) (C := RX6) (T := TX6) (N := 12) hx hb hts hiX6 hown hK hP 0 rfl rfl 3 (by decide) (hts (.fieldLink RX6 27 "ClockOnce" "town" "LClockOnce$Town;") (List.mem_of_getElem? (i := 1) rfl)) (fun _ h9 => h9) rfl dX6_wise_1 ?_
  refine lv_iload_n hx hb dX6_wise_4 rfl (lv_at hl 1 rfl) ?_
  obtain ⟨r_1, er_1, h⟩ := mk_bd h
  refine pc_v (As := [.int p1]) (rest := []) ⟨hx, hb, hml, hown, hts⟩ (c_X5_hasAsker l D cI cZ cO N (a0 2) (c0 2) p1 r_1 er_1) (cwV 1 hts k_X6_wise_X5_hasAsker_121 rfl rfl rfl (by decide +kernel) ⟨(Nat.le_of_ble_eq_true rfl), (Nat.le_of_ble_eq_true rfl)⟩) (va_recv hK hP (ci := 5) (q0 := 6) rfl rfl) (hP.sub (ws' := wX5 cI (a0 2) (c0 2)) [6, 7, 8, 9, 10, 11, 12, 13, 14, 15] rfl) hK rfl hl.1 rfl (Nat.le_of_ble_eq_true rfl) dX6_wise_5 ⟨Nat.zero_le _, Nat.zero_le _⟩ ?_
  refine lv_if_eq (tgt := 22) hx hb dX6_wise_8 (by decide) (fun q_2 => ?_) (fun q_2 => ?_)
  · have h := mk_ifp q_2 h
    refine lv_iconst (v := (-1 : Int32)) hx hb dX6_wise_22 (by decide) ?_
    exact hret _ _ _ h dX6_wise_23
  · have h := mk_ifn q_2 h
    refine lv_aload_n hx hb dX6_wise_11 rfl (lv_at hl 0 rfl) ?_
    refine va_get (D := D) (ci := 6) (v := .ref ((a0 2) 0)) (C := RX6) (T := TX6) (N := 12) hx hb hts hiX6 hown hK hP 0 rfl rfl 3 (by decide) (hts (.fieldLink RX6 27 "ClockOnce" "town" "LClockOnce$Town;") (List.mem_of_getElem? (i := 1) rfl)) (fun _ h9 => h9) rfl dX6_wise_12 ?_
    refine lv_iload_n hx hb dX6_wise_15 rfl (lv_at hl 2 rfl) ?_
    obtain ⟨r_3, er_3, h⟩ := mk_bd h
    refine pc_v (As := [.int p2]) (rest := []) ⟨hx, hb, hml, hown, hts⟩ (c_X5_hasThing l D cI cZ cO N (a0 2) (c0 2) p2 r_3 er_3) (cwV 1 hts k_X6_wise_X5_hasThing_95 rfl rfl rfl (by decide +kernel) ⟨(Nat.le_of_ble_eq_true rfl), (Nat.le_of_ble_eq_true rfl)⟩) (va_recv hK hP (ci := 5) (q0 := 6) rfl rfl) (hP.sub (ws' := wX5 cI (a0 2) (c0 2)) [6, 7, 8, 9, 10, 11, 12, 13, 14, 15] rfl) hK rfl hl.1 rfl (Nat.le_of_ble_eq_true rfl) dX6_wise_16 ⟨Nat.zero_le _, Nat.zero_le _⟩ ?_
    refine lv_if_ne (tgt := 24) hx hb dX6_wise_19 (by decide) (fun q_4 => ?_) (fun q_4 => ?_)
    · have h := mk_ifn q_4 h
      refine lv_aload_n hx hb dX6_wise_24 rfl (lv_at hl 0 rfl) ?_
      refine lv_iload_n hx hb dX6_wise_25 rfl (lv_at hl 1 rfl) ?_
      obtain ⟨r_5, er_5, h⟩ := mk_bd h
      refine pc_v (As := [.int p1]) (rest := []) ⟨hx, hb, hml, hown, hts⟩ (c_X6_heldWorlds l D cI cZ cO N a0 c0 sd p1 r_5 er_5) (cwV 1 hts k_X6_wise_X6_heldWorlds_166 rfl rfl rfl (by decide +kernel) ⟨(Nat.le_of_ble_eq_true rfl), (Nat.le_of_ble_eq_true rfl)⟩) (va_recv hK hP (ci := 6) (q0 := 0) rfl rfl) hP hK rfl hl.1 rfl (Nat.le_of_ble_eq_true rfl) dX6_wise_26 ⟨Nat.zero_le _, Nat.zero_le _⟩ ?_
      refine lv_istore_n (lv' := [(3, .int r_5), (0, .ref ((a0 0) 0)), (1, .int p1), (2, .int p2)]) hx hb dX6_wise_29 rfl hl (by decide) rfl (fun ls hl => ?_)
      refine lv_aload_n hx hb dX6_wise_30 rfl (lv_at hl 1 rfl) ?_
      refine va_get (D := D) (ci := 6) (v := .ref ((a0 2) 0)) (C := RX6) (T := TX6) (N := 12) hx hb hts hiX6 hown hK hP 0 rfl rfl 3 (by decide) (hts (.fieldLink RX6 27 "ClockOnce" "town" "LClockOnce$Town;") (List.mem_of_getElem? (i := 1) rfl)) (fun _ h9 => h9) rfl dX6_wise_31 ?_
      refine lv_iload_n hx hb dX6_wise_34 rfl (lv_at hl 0 rfl) ?_
      obtain ⟨r_6, er_6, h⟩ := mk_bd h
      refine pc_v (As := [.int r_5]) (rest := []) ⟨hx, hb, hml, hown, hts⟩ (c_X5_partsOf l D cI cZ cO N (a0 2) (c0 2) r_5 r_6 er_6) (cwV 1 hts k_X6_wise_X5_partsOf_163 rfl rfl rfl (by decide +kernel) ⟨(Nat.le_of_ble_eq_true rfl), (Nat.le_of_ble_eq_true rfl)⟩) (va_recv hK hP (ci := 5) (q0 := 6) rfl rfl) (hP.sub (ws' := wX5 cI (a0 2) (c0 2)) [6, 7, 8, 9, 10, 11, 12, 13, 14, 15] rfl) hK rfl hl.1 rfl (Nat.le_of_ble_eq_true rfl) dX6_wise_35 ⟨Nat.zero_le _, Nat.zero_le _⟩ ?_
      refine lv_if_eq (tgt := 55) hx hb dX6_wise_38 (by decide) (fun q_7 => ?_) (fun q_7 => ?_)
      · have h := mk_ifp q_7 h
        refine lv_bipush (v := (-3 : Int32)) hx hb dX6_wise_55 (by decide) ?_
        exact hret _ _ _ h dX6_wise_57
      · have h := mk_ifn q_7 h
        refine lv_aload_n hx hb dX6_wise_41 rfl (lv_at hl 1 rfl) ?_
        refine va_get (D := D) (ci := 6) (v := .ref ((a0 4) 0)) (C := RX6) (T := TX6) (N := 12) hx hb hts hiX6 hown hK hP 0 rfl rfl 5 (by decide) (hts (.fieldLink RX6 37 "ClockOnce" "life" "LClockOnce$Life;") (List.mem_of_getElem? (i := 2) rfl)) (fun _ h9 => h9) rfl dX6_wise_42 ?_
        refine va_get (D := D) (ci := 2) (v := .ref ((a0 4) 2)) (C := RX2) (T := TX2) (N := 5) hx hb hts hiX2 hown hK hP 26 rfl rfl 3 (by decide) (hts (.fieldLink RX6 111 "ClockOnce$Life" "soldOn" "[I") (List.mem_of_getElem? (i := 3) rfl)) (fun _ h9 => h9) rfl dX6_wise_45 ?_
        refine lv_iload_n hx hb dX6_wise_48 rfl (lv_at hl 3 rfl) ?_
        obtain ⟨v_8, ev_8, hiv_8, h⟩ := mk_rdE h
        refine va_iald hx hb hK hP 28 0 rfl rfl hiv_8 dX6_wise_49 ?_
        refine mk_topi ev_8 ?_
        refine lv_bipush (v := (-9 : Int32)) hx hb dX6_wise_50 (by decide) ?_
        refine lv_icmp_eq (tgt := 58) hx hb dX6_wise_52 (by decide) (fun q_9 => ?_) (fun q_9 => ?_)
        · have h := mk_ifp q_9 h
          refine lv_aload_n hx hb dX6_wise_58 rfl (lv_at hl 1 rfl) ?_
          refine va_get (D := D) (ci := 6) (v := .ref ((a0 2) 0)) (C := RX6) (T := TX6) (N := 12) hx hb hts hiX6 hown hK hP 0 rfl rfl 3 (by decide) (hts (.fieldLink RX6 27 "ClockOnce" "town" "LClockOnce$Town;") (List.mem_of_getElem? (i := 1) rfl)) (fun _ h9 => h9) rfl dX6_wise_59 ?_
          refine lv_iload_n hx hb dX6_wise_62 rfl (lv_at hl 0 rfl) ?_
          refine lv_iload_n hx hb dX6_wise_63 rfl (lv_at hl 3 rfl) ?_
          refine lv_aload_n hx hb dX6_wise_64 rfl (lv_at hl 1 rfl) ?_
          refine va_get (D := D) (ci := 6) (v := .ref ((a0 4) 0)) (C := RX6) (T := TX6) (N := 12) hx hb hts hiX6 hown hK hP 0 rfl rfl 5 (by decide) (hts (.fieldLink RX6 37 "ClockOnce" "life" "LClockOnce$Life;") (List.mem_of_getElem? (i := 2) rfl)) (fun _ h9 => h9) rfl dX6_wise_65 ?_
          refine va_get (D := D) (ci := 2) (v := .int ((c0 4) 0 0)) (C := RX2) (T := TX2) (N := 5) hx hb hts hiX2 hown hK hP 26 rfl rfl 0 (by decide) (hts (.fieldLink RX6 143 "ClockOnce$Life" "day" "I") (List.mem_of_getElem? (i := 4) rfl)) (fun _ h9 => h9) rfl dX6_wise_68 ?_
          obtain ⟨r_10, er_10, h⟩ := mk_bd h
          refine pc_v (As := [.int r_5, .int p2, .int ((c0 4) 0 0)]) (rest := []) ⟨hx, hb, hml, hown, hts⟩ (c_X5_wiseDay l D cI cZ cO N (a0 2) (c0 2) r_5 p2 ((c0 4) 0 0) r_10 er_10) (cwV 3 hts k_X6_wise_X5_wiseDay_177 rfl rfl rfl (by decide +kernel) ⟨(Nat.le_of_ble_eq_true rfl), (Nat.le_of_ble_eq_true rfl)⟩) (va_recv hK hP (ci := 5) (q0 := 6) rfl rfl) (hP.sub (ws' := wX5 cI (a0 2) (c0 2)) [6, 7, 8, 9, 10, 11, 12, 13, 14, 15] rfl) hK rfl hl.1 rfl (Nat.le_of_ble_eq_true rfl) dX6_wise_71 ⟨Nat.zero_le _, Nat.zero_le _⟩ ?_
          exact hret _ _ _ h dX6_wise_74
        · have h := mk_ifn q_9 h
          refine lv_bipush (v := (-3 : Int32)) hx hb dX6_wise_55 (by decide) ?_
          exact hret _ _ _ h dX6_wise_57
    · have h := mk_ifp q_4 h
      refine lv_iconst (v := (-1 : Int32)) hx hb dX6_wise_22 (by decide) ?_
      exact hret _ _ _ h dX6_wise_23

abbrev rm_X6_worlds : Room := { frames := 5, cells := 0, slots := 0, locals := 113 }
set_option maxRecDepth 20000 in
theorem k_X6_worlds_J6_bitCount_0f7a4_155 : GoodIn wsX6_worlds (va_wsS RX6 155 yJ6_bitCount_0f7a4 wsJ6_bitCount_0f7a4) := goodIn_r _ [5, 6, 7, 8, 9, 10, 11] rfl (by decide +kernel)
set_option maxRecDepth 20000 in
theorem k_X6_worlds_X5_worldsSeenOn_160 : GoodIn wsX6_worlds (wsV RX6 160 RX5 yX5_worldsSeenOn wsX5_worldsSeenOn) := goodIn_r _ [12, 13, 14, 15, 16, 17, 18, 19, 20, 21, 22, 15, 23, 24, 25, 26, 27, 28, 29, 30, 31, 32, 33, 34, 35, 36, 37, 38, 39, 40, 41, 42, 43, 44, 45, 63, 64, 65, 66, 67, 68, 69, 70, 71, 72, 73, 74, 75, 76] rfl (by decide +kernel)
set_option maxRecDepth 20000 in
theorem k_X6_worlds_X5_partsOf_163 : GoodIn wsX6_worlds (wsV RX6 163 RX5 yX5_partsOf wsX5_partsOf) := goodIn_r _ [46, 47, 48, 15, 49, 19, 50, 63, 64, 65, 66, 67, 68, 69, 70, 71, 72, 73, 74, 75, 76] rfl (by decide +kernel)
set_option maxHeartbeats 4000000 in
set_option maxRecDepth 100000 in
theorem c_X6_worlds (l : Launch) (D : va_G) (cI cZ cO : ClassId) (N : Nat) (a0 : Nat → Nat → Nat) (c0 : CU) (sd : Int64) (p1 : Int32) (out : Int32) (h : f_X6_worlds N c0 sd p1 = some out) : Met l yX6_worlds wsX6_worlds rm_X6_worlds (va_Pc [.ref ((a0 0) 0), .int p1] (fun U => va_P D vwCl (wX6 cI cO a0 c0 sd) U.heap ∧ va_K D vwCl (tyA cI cZ cO) U)) (vp_Si (fun r => r = out)) 0 0 (fun _ => False) := by
  refine pm_i (own := RX6) (cc := cX6_worlds) (maxL := 2) (by decide) rfl rfl (Nat.le_of_ble_eq_true rfl) ?_
  intro p e s m args below meth c Q H ls hx hb hml hown hts hP hK hl hret
  have hl : lv_has ls 2 [(0, .ref ((a0 0) 0)), (1, .int p1)] := hl
  have hiX2 : ∀ w ∈ u_ws RX2 TX2 5, w ∈ wsX6_worlds := mk_seg 77 5 rfl
  have hiX5 : ∀ w ∈ u_ws RX5 TX5 14, w ∈ wsX6_worlds := mk_seg 63 14 rfl
  have hiX6 : ∀ w ∈ u_ws RX6 TX6 12, w ∈ wsX6_worlds := mk_seg 51 12 rfl
  unfold f_X6_worlds at h
  refine lv_iload_n hx hb dX6_worlds_0 rfl (lv_at hl 1 rfl) ?_
  by_cases q_1 : p1 = (0 : Int32)
  · have h := mk_ifp q_1 h
    refine lv_tableIn (off := 31) (tgt := 32) hx hb dX6_worlds_1 (by rw [q_1]; decide) (by rw [q_1]; decide) (by rw [q_1]; rfl) (by decide) ?_
    refine lv_aload_n hx hb dX6_worlds_32 rfl (lv_at hl 0 rfl) ?_
    refine va_get (D := D) (ci := 6) (v := .ref ((a0 2) 0)) (C := RX6) (T := TX6) (N := 12) hx hb hts hiX6 hown hK hP 0 rfl rfl 3 (by decide) (hts (.fieldLink RX6 27 "ClockOnce" "town" "LClockOnce$Town;") (List.mem_of_getElem? (i := 1) rfl)) (fun _ h9 => h9) rfl dX6_worlds_33 ?_
    refine va_get (D := D) (ci := 5) (v := .int ((c0 2) 0 4)) (C := RX5) (T := TX5) (N := 14) hx hb hts hiX5 hown hK hP 6 rfl rfl 13 (by decide) (hts (.fieldLink RX6 152 "ClockOnce$Town" "allWorlds" "I") (List.mem_of_getElem? (i := 2) rfl)) (fun _ h9 => h9) rfl dX6_worlds_36 ?_
    obtain ⟨r_2, er_2, h⟩ := mk_bd h
    refine pc_s (As := [.int ((c0 2) 0 4)]) (rest := []) ⟨hx, hb, hml, hown, hts⟩ (c_J6_bitCount_0f7a4 l D cI cZ cO N ((c0 2) 0 4) r_2 er_2) (va_cwS 1 hts k_X6_worlds_J6_bitCount_0f7a4_155 rfl rfl rfl (by decide +kernel) ⟨(Nat.le_of_ble_eq_true rfl), (Nat.le_of_ble_eq_true rfl)⟩) (hP.sub (ws' := []) [] rfl) hK rfl hl.1 rfl (Nat.le_of_ble_eq_true rfl) dX6_worlds_39 ⟨Nat.zero_le _, Nat.zero_le _⟩ ?_
    exact hret _ _ _ h dX6_worlds_42
  have h := mk_ifn q_1 h
  by_cases q_3 : p1 = (1 : Int32)
  · have h := mk_ifp q_3 h
    refine lv_tableIn (off := 42) (tgt := 43) hx hb dX6_worlds_1 (by rw [q_3]; decide) (by rw [q_3]; decide) (by rw [q_3]; rfl) (by decide) ?_
    refine lv_aload_n hx hb dX6_worlds_43 rfl (lv_at hl 0 rfl) ?_
    refine va_get (D := D) (ci := 6) (v := .ref ((a0 2) 0)) (C := RX6) (T := TX6) (N := 12) hx hb hts hiX6 hown hK hP 0 rfl rfl 3 (by decide) (hts (.fieldLink RX6 27 "ClockOnce" "town" "LClockOnce$Town;") (List.mem_of_getElem? (i := 1) rfl)) (fun _ h9 => h9) rfl dX6_worlds_44 ?_
    refine lv_aload_n hx hb dX6_worlds_47 rfl (lv_at hl 0 rfl) ?_
    refine va_get (D := D) (ci := 6) (v := .ref ((a0 4) 0)) (C := RX6) (T := TX6) (N := 12) hx hb hts hiX6 hown hK hP 0 rfl rfl 5 (by decide) (hts (.fieldLink RX6 37 "ClockOnce" "life" "LClockOnce$Life;") (List.mem_of_getElem? (i := 3) rfl)) (fun _ h9 => h9) rfl dX6_worlds_48 ?_
    refine va_get (D := D) (ci := 2) (v := .int ((c0 4) 0 0)) (C := RX2) (T := TX2) (N := 5) hx hb hts hiX2 hown hK hP 26 rfl rfl 0 (by decide) (hts (.fieldLink RX6 143 "ClockOnce$Life" "day" "I") (List.mem_of_getElem? (i := 4) rfl)) (fun _ h9 => h9) rfl dX6_worlds_51 ?_
    obtain ⟨r_4, er_4, h⟩ := mk_bd h
    refine pc_v (As := [.int ((c0 4) 0 0)]) (rest := []) ⟨hx, hb, hml, hown, hts⟩ (c_X5_worldsSeenOn l D cI cZ cO N (a0 2) (c0 2) ((c0 4) 0 0) r_4 er_4) (cwV 1 hts k_X6_worlds_X5_worldsSeenOn_160 rfl rfl rfl (by decide +kernel) ⟨(Nat.le_of_ble_eq_true rfl), (Nat.le_of_ble_eq_true rfl)⟩) (va_recv hK hP (ci := 5) (q0 := 6) rfl rfl) (hP.sub (ws' := wX5 cI (a0 2) (c0 2)) [6, 7, 8, 9, 10, 11, 12, 13, 14, 15] rfl) hK rfl hl.1 rfl (Nat.le_of_ble_eq_true rfl) dX6_worlds_54 ⟨Nat.zero_le _, Nat.zero_le _⟩ ?_
    obtain ⟨r_5, er_5, h⟩ := mk_bd h
    refine pc_s (As := [.int r_4]) (rest := []) ⟨hx, hb, hml, hown, hts⟩ (c_J6_bitCount_0f7a4 l D cI cZ cO N r_4 r_5 er_5) (va_cwS 1 hts k_X6_worlds_J6_bitCount_0f7a4_155 rfl rfl rfl (by decide +kernel) ⟨(Nat.le_of_ble_eq_true rfl), (Nat.le_of_ble_eq_true rfl)⟩) (hP.sub (ws' := []) [] rfl) hK rfl hl.1 rfl (Nat.le_of_ble_eq_true rfl) dX6_worlds_57 ⟨Nat.zero_le _, Nat.zero_le _⟩ ?_
    exact hret _ _ _ h dX6_worlds_60
  have h := mk_ifn q_3 h
  by_cases q_6 : p1 = (2 : Int32)
  · have h := mk_ifp q_6 h
    refine lv_tableIn (off := 60) (tgt := 61) hx hb dX6_worlds_1 (by rw [q_6]; decide) (by rw [q_6]; decide) (by rw [q_6]; rfl) (by decide) ?_
    refine lv_aload_n hx hb dX6_worlds_61 rfl (lv_at hl 0 rfl) ?_
    refine va_get (D := D) (ci := 6) (v := .ref ((a0 2) 0)) (C := RX6) (T := TX6) (N := 12) hx hb hts hiX6 hown hK hP 0 rfl rfl 3 (by decide) (hts (.fieldLink RX6 27 "ClockOnce" "town" "LClockOnce$Town;") (List.mem_of_getElem? (i := 1) rfl)) (fun _ h9 => h9) rfl dX6_worlds_62 ?_
    refine lv_aload_n hx hb dX6_worlds_65 rfl (lv_at hl 0 rfl) ?_
    refine va_get (D := D) (ci := 6) (v := .ref ((a0 2) 0)) (C := RX6) (T := TX6) (N := 12) hx hb hts hiX6 hown hK hP 0 rfl rfl 3 (by decide) (hts (.fieldLink RX6 27 "ClockOnce" "town" "LClockOnce$Town;") (List.mem_of_getElem? (i := 1) rfl)) (fun _ h9 => h9) rfl dX6_worlds_66 ?_
    refine va_get (D := D) (ci := 5) (v := .int ((c0 2) 0 4)) (C := RX5) (T := TX5) (N := 14) hx hb hts hiX5 hown hK hP 6 rfl rfl 13 (by decide) (hts (.fieldLink RX6 152 "ClockOnce$Town" "allWorlds" "I") (List.mem_of_getElem? (i := 2) rfl)) (fun _ h9 => h9) rfl dX6_worlds_69 ?_
    obtain ⟨r_7, er_7, h⟩ := mk_bd h
    refine pc_v (As := [.int ((c0 2) 0 4)]) (rest := []) ⟨hx, hb, hml, hown, hts⟩ (c_X5_partsOf l D cI cZ cO N (a0 2) (c0 2) ((c0 2) 0 4) r_7 er_7) (cwV 1 hts k_X6_worlds_X5_partsOf_163 rfl rfl rfl (by decide +kernel) ⟨(Nat.le_of_ble_eq_true rfl), (Nat.le_of_ble_eq_true rfl)⟩) (va_recv hK hP (ci := 5) (q0 := 6) rfl rfl) (hP.sub (ws' := wX5 cI (a0 2) (c0 2)) [6, 7, 8, 9, 10, 11, 12, 13, 14, 15] rfl) hK rfl hl.1 rfl (Nat.le_of_ble_eq_true rfl) dX6_worlds_72 ⟨Nat.zero_le _, Nat.zero_le _⟩ ?_
    exact hret _ _ _ h dX6_worlds_75
  have h := mk_ifn q_6 h
  by_cases q_8 : p1 = (3 : Int32)
  · have h := mk_ifp q_8 h
    refine lv_tableIn (off := 75) (tgt := 76) hx hb dX6_worlds_1 (by rw [q_8]; decide) (by rw [q_8]; decide) (by rw [q_8]; rfl) (by decide) ?_
    refine lv_aload_n hx hb dX6_worlds_76 rfl (lv_at hl 0 rfl) ?_
    refine va_get (D := D) (ci := 6) (v := .ref ((a0 2) 0)) (C := RX6) (T := TX6) (N := 12) hx hb hts hiX6 hown hK hP 0 rfl rfl 3 (by decide) (hts (.fieldLink RX6 27 "ClockOnce" "town" "LClockOnce$Town;") (List.mem_of_getElem? (i := 1) rfl)) (fun _ h9 => h9) rfl dX6_worlds_77 ?_
    refine lv_aload_n hx hb dX6_worlds_80 rfl (lv_at hl 0 rfl) ?_
    refine va_get (D := D) (ci := 6) (v := .ref ((a0 2) 0)) (C := RX6) (T := TX6) (N := 12) hx hb hts hiX6 hown hK hP 0 rfl rfl 3 (by decide) (hts (.fieldLink RX6 27 "ClockOnce" "town" "LClockOnce$Town;") (List.mem_of_getElem? (i := 1) rfl)) (fun _ h9 => h9) rfl dX6_worlds_81 ?_
    refine lv_aload_n hx hb dX6_worlds_84 rfl (lv_at hl 0 rfl) ?_
    refine va_get (D := D) (ci := 6) (v := .ref ((a0 4) 0)) (C := RX6) (T := TX6) (N := 12) hx hb hts hiX6 hown hK hP 0 rfl rfl 5 (by decide) (hts (.fieldLink RX6 37 "ClockOnce" "life" "LClockOnce$Life;") (List.mem_of_getElem? (i := 3) rfl)) (fun _ h9 => h9) rfl dX6_worlds_85 ?_
    refine va_get (D := D) (ci := 2) (v := .int ((c0 4) 0 0)) (C := RX2) (T := TX2) (N := 5) hx hb hts hiX2 hown hK hP 26 rfl rfl 0 (by decide) (hts (.fieldLink RX6 143 "ClockOnce$Life" "day" "I") (List.mem_of_getElem? (i := 4) rfl)) (fun _ h9 => h9) rfl dX6_worlds_88 ?_
    obtain ⟨r_9, er_9, h⟩ := mk_bd h
    refine pc_v (As := [.int ((c0 4) 0 0)]) (rest := [.ref ((a0 2) 0)]) ⟨hx, hb, hml, hown, hts⟩ (c_X5_worldsSeenOn l D cI cZ cO N (a0 2) (c0 2) ((c0 4) 0 0) r_9 er_9) (cwV 1 hts k_X6_worlds_X5_worldsSeenOn_160 rfl rfl rfl (by decide +kernel) ⟨(Nat.le_of_ble_eq_true rfl), (Nat.le_of_ble_eq_true rfl)⟩) (va_recv hK hP (ci := 5) (q0 := 6) rfl rfl) (hP.sub (ws' := wX5 cI (a0 2) (c0 2)) [6, 7, 8, 9, 10, 11, 12, 13, 14, 15] rfl) hK rfl hl.1 rfl (Nat.le_of_ble_eq_true rfl) dX6_worlds_91 ⟨Nat.zero_le _, Nat.zero_le _⟩ ?_
    obtain ⟨r_10, er_10, h⟩ := mk_bd h
    refine pc_v (As := [.int r_9]) (rest := []) ⟨hx, hb, hml, hown, hts⟩ (c_X5_partsOf l D cI cZ cO N (a0 2) (c0 2) r_9 r_10 er_10) (cwV 1 hts k_X6_worlds_X5_partsOf_163 rfl rfl rfl (by decide +kernel) ⟨(Nat.le_of_ble_eq_true rfl), (Nat.le_of_ble_eq_true rfl)⟩) (va_recv hK hP (ci := 5) (q0 := 6) rfl rfl) (hP.sub (ws' := wX5 cI (a0 2) (c0 2)) [6, 7, 8, 9, 10, 11, 12, 13, 14, 15] rfl) hK rfl hl.1 rfl (Nat.le_of_ble_eq_true rfl) dX6_worlds_94 ⟨Nat.zero_le _, Nat.zero_le _⟩ ?_
    exact hret _ _ _ h dX6_worlds_97
  have h := mk_ifn q_8 h
  refine lv_tableOut (tgt := 98) hx hb dX6_worlds_1 (by have zq_1 := mk_ne (z := 0) (by decide) q_1; have zq_3 := mk_ne (z := 1) (by decide) q_3; have zq_6 := mk_ne (z := 2) (by decide) q_6; have zq_8 := mk_ne (z := 3) (by decide) q_8; omega) (by decide) ?_
  refine lv_bipush (v := (-2 : Int32)) hx hb dX6_worlds_98 (by decide) ?_
  exact hret _ _ _ h dX6_worlds_100

abbrev rm_X6_worth : Room := { frames := 5, cells := 0, slots := 0, locals := 132 }
set_option maxRecDepth 20000 in
theorem k_X6_worth_X5_worldsSeenOn_160 : GoodIn wsX6_worth (wsV RX6 160 RX5 yX5_worldsSeenOn wsX5_worldsSeenOn) := goodIn_r _ [6, 7, 8, 9, 10, 11, 12, 13, 14, 15, 16, 9, 17, 18, 19, 20, 21, 22, 23, 24, 25, 26, 27, 28, 29, 30, 31, 32, 33, 34, 35, 36, 37, 38, 39, 101, 102, 103, 104, 105, 106, 107, 108, 109, 110, 111, 112, 113, 114] rfl (by decide +kernel)
set_option maxRecDepth 20000 in
theorem k_X6_worth_X5_partsOf_163 : GoodIn wsX6_worth (wsV RX6 163 RX5 yX5_partsOf wsX5_partsOf) := goodIn_r _ [40, 41, 42, 9, 43, 13, 44, 101, 102, 103, 104, 105, 106, 107, 108, 109, 110, 111, 112, 113, 114] rfl (by decide +kernel)
set_option maxRecDepth 20000 in
theorem k_X6_worth_X1_worthOf_181 : GoodIn wsX6_worth (wsV RX6 181 RX1 yX1_worthOf wsX1_worthOf) := goodIn_r _ [45, 46, 47, 48, 49, 50, 51, 52, 53, 54, 55, 56, 57, 58, 59, 33, 34, 9, 35, 13, 60, 61, 62, 63, 64, 65, 66, 67, 44, 28, 29, 30, 31, 68, 41, 42, 43, 69, 70, 71, 72, 73, 74, 75, 76, 27, 26, 77, 78, 79, 80, 81, 101, 102, 103, 104, 105, 106, 107, 108, 109, 110, 111, 112, 113, 114, 115, 116, 117, 118, 119] rfl (by decide +kernel)
set_option maxRecDepth 20000 in
theorem k_X6_worth_X6_fraction_173 : GoodIn wsX6_worth (va_wsS RX6 173 yX6_fraction wsX6_fraction) := goodIn_r _ [82, 83, 84, 85, 86, 87, 84, 88] rfl (by decide +kernel)
set_option maxHeartbeats 4000000 in
set_option maxRecDepth 100000 in
theorem c_X6_worth (l : Launch) (D : va_G) (cI cZ cO : ClassId) (N : Nat) (a0 : Nat → Nat → Nat) (c0 : CU) (sd : Int64) (p1 : Int32) (p2 : Int32) (out : Int32) (h : f_X6_worth N c0 sd p1 p2 = some out) : Met l yX6_worth wsX6_worth rm_X6_worth (va_Pc [.ref ((a0 0) 0), .int p1, .int p2] (fun U => va_P D vwCl (wX6 cI cO a0 c0 sd) U.heap ∧ va_K D vwCl (tyA cI cZ cO) U)) (vp_Si (fun r => r = out)) 0 0 (fun _ => False) := by
  refine pm_i (own := RX6) (cc := cX6_worth) (maxL := 5) (by decide) rfl rfl (Nat.le_of_ble_eq_true rfl) ?_
  intro p e s m args below meth c Q H ls hx hb hml hown hts hP hK hl hret
  have hl : lv_has ls 5 [(0, .ref ((a0 0) 0)), (1, .int p1), (2, .int p2)] := hl
  have hiX2 : ∀ w ∈ u_ws RX2 TX2 5, w ∈ wsX6_worth := mk_seg 115 5 rfl
  have hiX5 : ∀ w ∈ u_ws RX5 TX5 14, w ∈ wsX6_worth := mk_seg 101 14 rfl
  have hiX6 : ∀ w ∈ u_ws RX6 TX6 12, w ∈ wsX6_worth := mk_seg 89 12 rfl
  unfold f_X6_worth at h
  refine lv_iload_n hx hb dX6_worth_0 rfl (lv_at hl 1 rfl) ?_
  refine lv_if_lt (tgt := 17) hx hb dX6_worth_1 (by decide) (fun q_1 => ?_) (fun q_1 => ?_)
  · have h := mk_ifp q_1 h
    refine lv_bipush (v := (-2 : Int32)) hx hb dX6_worth_17 (by decide) ?_
    exact hret _ _ _ h dX6_worth_19
  · have h := mk_ifn q_1 h
    refine lv_iload_n hx hb dX6_worth_4 rfl (lv_at hl 1 rfl) ?_
    refine lv_iconst (v := (1 : Int32)) hx hb dX6_worth_5 (by decide) ?_
    refine lv_aload_n hx hb dX6_worth_6 rfl (lv_at hl 0 rfl) ?_
    refine va_get (D := D) (ci := 6) (v := .ref ((a0 2) 0)) (C := RX6) (T := TX6) (N := 12) hx hb hts hiX6 hown hK hP 0 rfl rfl 3 (by decide) (hts (.fieldLink RX6 27 "ClockOnce" "town" "LClockOnce$Town;") (List.mem_of_getElem? (i := 1) rfl)) (fun _ h9 => h9) rfl dX6_worth_7 ?_
    refine va_get (D := D) (ci := 5) (v := .int ((c0 2) 0 0)) (C := RX5) (T := TX5) (N := 14) hx hb hts hiX5 hown hK hP 6 rfl rfl 4 (by decide) (hts (.fieldLink RX6 89 "ClockOnce$Town" "things" "I") (List.mem_of_getElem? (i := 2) rfl)) (fun _ h9 => h9) rfl dX6_worth_10 ?_
    refine lv_ishl hx hb dX6_worth_13 ?_
    refine lv_icmp_lt (tgt := 20) hx hb dX6_worth_14 (by decide) (fun q_2 => ?_) (fun q_2 => ?_)
    · have h := mk_ifp q_2 h
      refine lv_aload_n hx hb dX6_worth_20 rfl (lv_at hl 0 rfl) ?_
      refine va_get (D := D) (ci := 6) (v := .ref ((a0 2) 0)) (C := RX6) (T := TX6) (N := 12) hx hb hts hiX6 hown hK hP 0 rfl rfl 3 (by decide) (hts (.fieldLink RX6 27 "ClockOnce" "town" "LClockOnce$Town;") (List.mem_of_getElem? (i := 1) rfl)) (fun _ h9 => h9) rfl dX6_worth_21 ?_
      refine lv_aload_n hx hb dX6_worth_24 rfl (lv_at hl 0 rfl) ?_
      refine va_get (D := D) (ci := 6) (v := .ref ((a0 4) 0)) (C := RX6) (T := TX6) (N := 12) hx hb hts hiX6 hown hK hP 0 rfl rfl 5 (by decide) (hts (.fieldLink RX6 37 "ClockOnce" "life" "LClockOnce$Life;") (List.mem_of_getElem? (i := 3) rfl)) (fun _ h9 => h9) rfl dX6_worth_25 ?_
      refine va_get (D := D) (ci := 2) (v := .int ((c0 4) 0 0)) (C := RX2) (T := TX2) (N := 5) hx hb hts hiX2 hown hK hP 26 rfl rfl 0 (by decide) (hts (.fieldLink RX6 143 "ClockOnce$Life" "day" "I") (List.mem_of_getElem? (i := 4) rfl)) (fun _ h9 => h9) rfl dX6_worth_28 ?_
      obtain ⟨r_3, er_3, h⟩ := mk_bd h
      refine pc_v (As := [.int ((c0 4) 0 0)]) (rest := []) ⟨hx, hb, hml, hown, hts⟩ (c_X5_worldsSeenOn l D cI cZ cO N (a0 2) (c0 2) ((c0 4) 0 0) r_3 er_3) (cwV 1 hts k_X6_worth_X5_worldsSeenOn_160 rfl rfl rfl (by decide +kernel) ⟨(Nat.le_of_ble_eq_true rfl), (Nat.le_of_ble_eq_true rfl)⟩) (va_recv hK hP (ci := 5) (q0 := 6) rfl rfl) (hP.sub (ws' := wX5 cI (a0 2) (c0 2)) [6, 7, 8, 9, 10, 11, 12, 13, 14, 15] rfl) hK rfl hl.1 rfl (Nat.le_of_ble_eq_true rfl) dX6_worth_31 ⟨Nat.zero_le _, Nat.zero_le _⟩ ?_
      refine lv_istore_n (lv' := [(3, .int r_3), (0, .ref ((a0 0) 0)), (1, .int p1), (2, .int p2)]) hx hb dX6_worth_34 rfl hl (by decide) rfl (fun ls hl => ?_)
      refine lv_aload_n hx hb dX6_worth_35 rfl (lv_at hl 1 rfl) ?_
      refine va_get (D := D) (ci := 6) (v := .ref ((a0 2) 0)) (C := RX6) (T := TX6) (N := 12) hx hb hts hiX6 hown hK hP 0 rfl rfl 3 (by decide) (hts (.fieldLink RX6 27 "ClockOnce" "town" "LClockOnce$Town;") (List.mem_of_getElem? (i := 1) rfl)) (fun _ h9 => h9) rfl dX6_worth_36 ?_
      refine lv_iload_n hx hb dX6_worth_39 rfl (lv_at hl 0 rfl) ?_
      obtain ⟨r_4, er_4, h⟩ := mk_bd h
      refine pc_v (As := [.int r_3]) (rest := []) ⟨hx, hb, hml, hown, hts⟩ (c_X5_partsOf l D cI cZ cO N (a0 2) (c0 2) r_3 r_4 er_4) (cwV 1 hts k_X6_worth_X5_partsOf_163 rfl rfl rfl (by decide +kernel) ⟨(Nat.le_of_ble_eq_true rfl), (Nat.le_of_ble_eq_true rfl)⟩) (va_recv hK hP (ci := 5) (q0 := 6) rfl rfl) (hP.sub (ws' := wX5 cI (a0 2) (c0 2)) [6, 7, 8, 9, 10, 11, 12, 13, 14, 15] rfl) hK rfl hl.1 rfl (Nat.le_of_ble_eq_true rfl) dX6_worth_40 ⟨Nat.zero_le _, Nat.zero_le _⟩ ?_
      refine lv_istore (lv' := [(4, .int r_4), (3, .int r_3), (0, .ref ((a0 0) 0)), (1, .int p1), (2, .int p2)]) hx hb dX6_worth_43 hl (by decide) rfl (fun ls hl => ?_)
      refine lv_iload hx hb dX6_worth_45 (lv_at hl 0 rfl) ?_
      refine lv_if_ne (tgt := 53) hx hb dX6_worth_47 (by decide) (fun q_5 => ?_) (fun q_5 => ?_)
      · have h := mk_ifn q_5 h
        refine lv_aload_n hx hb dX6_worth_53 rfl (lv_at hl 2 rfl) ?_
        refine va_get (D := D) (ci := 6) (v := .ref ((a0 9) 0)) (C := RX6) (T := TX6) (N := 12) hx hb hts hiX6 hown hK hP 0 rfl rfl 9 (by decide) (hts (.fieldLink RX6 62 "ClockOnce" "asking" "LClockOnce$Asking;") (List.mem_of_getElem? (i := 5) rfl)) (fun _ h9 => h9) rfl dX6_worth_54 ?_
        refine lv_aload_n hx hb dX6_worth_57 rfl (lv_at hl 2 rfl) ?_
        refine va_get (D := D) (ci := 6) (v := .ref ((a0 2) 0)) (C := RX6) (T := TX6) (N := 12) hx hb hts hiX6 hown hK hP 0 rfl rfl 3 (by decide) (hts (.fieldLink RX6 27 "ClockOnce" "town" "LClockOnce$Town;") (List.mem_of_getElem? (i := 1) rfl)) (fun _ h9 => h9) rfl dX6_worth_58 ?_
        refine lv_aload_n hx hb dX6_worth_61 rfl (lv_at hl 2 rfl) ?_
        refine va_get (D := D) (ci := 6) (v := .ref ((a0 4) 0)) (C := RX6) (T := TX6) (N := 12) hx hb hts hiX6 hown hK hP 0 rfl rfl 5 (by decide) (hts (.fieldLink RX6 37 "ClockOnce" "life" "LClockOnce$Life;") (List.mem_of_getElem? (i := 3) rfl)) (fun _ h9 => h9) rfl dX6_worth_62 ?_
        refine lv_iload_n hx hb dX6_worth_65 rfl (lv_at hl 1 rfl) ?_
        refine lv_iload_n hx hb dX6_worth_66 rfl (lv_at hl 3 rfl) ?_
        obtain ⟨r_6, er_6, h⟩ := mk_bd h
        refine pc_v (As := [.ref ((a0 2) 0), .ref ((a0 4) 0), .int r_3, .int p1]) (rest := []) ⟨hx, hb, hml, hown, hts⟩ (c_X1_worthOf l D cI cZ cO N (a0 9) (c0 9) (a0 2) (c0 2) (a0 4) (c0 4) r_3 p1 r_6 er_6) (cwV 4 hts k_X6_worth_X1_worthOf_181 rfl rfl rfl (by decide +kernel) ⟨(Nat.le_of_ble_eq_true rfl), (Nat.le_of_ble_eq_true rfl)⟩) (va_recv hK hP (ci := 1) (q0 := 42) rfl rfl) (hP.sub (ws' := wX1 cI (a0 9) (c0 9) ++ wX5 cI (a0 2) (c0 2) ++ wX2 cI (a0 4) (c0 4)) [42, 43, 6, 7, 8, 9, 10, 11, 12, 13, 14, 15, 26, 27, 28] rfl) hK rfl hl.1 rfl (Nat.le_of_ble_eq_true rfl) dX6_worth_67 ⟨Nat.zero_le _, Nat.zero_le _⟩ ?_
        refine lv_iload hx hb dX6_worth_70 (lv_at hl 0 rfl) ?_
        refine lv_iload_n hx hb dX6_worth_72 rfl (lv_at hl 4 rfl) ?_
        obtain ⟨r_7, er_7, h⟩ := mk_bd h
        refine pc_s (As := [.int r_6, .int r_4, .int p2]) (rest := []) ⟨hx, hb, hml, hown, hts⟩ (c_X6_fraction l D cI cZ cO N r_6 r_4 p2 r_7 er_7) (va_cwS 3 hts k_X6_worth_X6_fraction_173 rfl rfl rfl (by decide +kernel) ⟨(Nat.le_of_ble_eq_true rfl), (Nat.le_of_ble_eq_true rfl)⟩) (hP.sub (ws' := []) [] rfl) hK rfl hl.1 rfl (Nat.le_of_ble_eq_true rfl) dX6_worth_73 ⟨Nat.zero_le _, Nat.zero_le _⟩ ?_
        exact hret _ _ _ h dX6_worth_76
      · have h := mk_ifp q_5 h
        refine lv_bipush (v := (-3 : Int32)) hx hb dX6_worth_50 (by decide) ?_
        exact hret _ _ _ h dX6_worth_52
    · have h := mk_ifn q_2 h
      refine lv_bipush (v := (-2 : Int32)) hx hb dX6_worth_17 (by decide) ?_
      exact hret _ _ _ h dX6_worth_19

abbrev rm_X6_write : Room := { frames := 0, cells := 0, slots := 0, locals := 0 }
set_option maxHeartbeats 4000000 in
set_option maxRecDepth 100000 in
theorem c_X6_write (l : Launch) (D : va_G) (cI cZ cO : ClassId) (N : Nat) (a0 : Nat → Nat → Nat) (c0 : CU) (sd : Int64) (p1 : Int32) (sz : Nat) (out : Int32 × CU) (h : f_X6_write N c0 sd p1 = some out) : Met l yX6_write wsX6_write rm_X6_write (va_Pc [.ref ((a0 0) 0), .int p1] (mk_Pe D vwCl (tyA cI cZ cO) (wX6 cI cO a0 c0 sd) sz)) (va_Qi (fun r u => (r, u) = out) (mk_Be D vwCl (wX6 cI cO a0 c0 sd) sz (fun q => (wX6 cI cO a0 q sd))) (va_A (wX6 cI cO a0 c0 sd) sz)) 0 0 (va_A (wX6 cI cO a0 c0 sd) sz) := by
  refine em_i (own := RX6) (cc := cX6_write) (maxL := 2) (by decide) rfl rfl (Nat.le_of_ble_eq_true rfl) ?_
  intro p e s m args below meth c Q A H0 H locs ls hx hb hml hown hts hP hK hD hS hA hl hret
  have hl : lv_has ls 2 [(0, .ref ((a0 0) 0)), (1, .int p1)] := hl
  have hiX6 : ∀ w ∈ u_ws RX6 TX6 12, w ∈ wsX6_write := mk_seg 3 12 rfl
  unfold f_X6_write at h
  refine lv_iload_n hx hb dX6_write_0 rfl (lv_at hl 1 rfl) ?_
  refine lv_if_lt (tgt := 11) hx hb dX6_write_1 (by decide) (fun q_1 => ?_) (fun q_1 => ?_)
  · have h := mk_ifp q_1 h
    refine lv_bipush (v := (-2 : Int32)) hx hb dX6_write_11 (by decide) ?_
    exact hret _ _ _ _ _ _ h hP hD hS dX6_write_13
  · have h := mk_ifn q_1 h
    refine lv_iload_n hx hb dX6_write_4 rfl (lv_at hl 1 rfl) ?_
    refine lv_sipush (v := (255 : Int32)) hx hb dX6_write_5 (by decide) ?_
    refine lv_icmp_le (tgt := 14) hx hb dX6_write_8 (by decide) (fun q_2 => ?_) (fun q_2 => ?_)
    · have h := mk_ifp q_2 h
      refine lv_aload_n hx hb dX6_write_14 rfl (lv_at hl 0 rfl) ?_
      refine va_get (D := D) (ci := 6) (v := .int ((c0 0) 0 0)) (C := RX6) (T := TX6) (N := 12) hx hb hts hiX6 hown hK hP 0 rfl rfl 1 (by decide) (hts (.fieldLink RX6 13 "ClockOnce" "length" "I") (List.mem_of_getElem? (i := 1) rfl)) (fun _ h9 => h9) rfl dX6_write_15 ?_
      refine lv_bipush (v := (48 : Int32)) hx hb dX6_write_18 (by decide) ?_
      refine lv_icmp_lt (tgt := 26) hx hb dX6_write_20 (by decide) (fun q_3 => ?_) (fun q_3 => ?_)
      · have h := mk_ifp q_3 h
        refine lv_aload_n hx hb dX6_write_26 rfl (lv_at hl 0 rfl) ?_
        refine va_get (D := D) (ci := 6) (v := .ref ((a0 0) 1)) (C := RX6) (T := TX6) (N := 12) hx hb hts hiX6 hown hK hP 0 rfl rfl 0 (by decide) (hts (.fieldLink RX6 9 "ClockOnce" "letters" "[I") (List.mem_of_getElem? (i := 2) rfl)) (fun _ h9 => h9) rfl dX6_write_27 ?_
        refine lv_aload_n hx hb dX6_write_30 rfl (lv_at hl 0 rfl) ?_
        refine va_get (D := D) (ci := 6) (v := .int ((c0 0) 0 0)) (C := RX6) (T := TX6) (N := 12) hx hb hts hiX6 hown hK hP 0 rfl rfl 1 (by decide) (hts (.fieldLink RX6 13 "ClockOnce" "length" "I") (List.mem_of_getElem? (i := 1) rfl)) (fun _ h9 => h9) rfl dX6_write_31 ?_
        refine lv_iload_n hx hb dX6_write_34 rfl (lv_at hl 1 rfl) ?_
        obtain ⟨hx_4, h⟩ := mk_ixE h
        obtain ⟨w_5, ew_5, h⟩ := mk_nmE h
        refine va_iast hx hb hK hP hD hS 1 0 rfl rfl hx_4 dX6_write_35 (fun H locs hP hD hS => ?_)
        have hP : va_P D vwCl (wX6 cI cO a0 w_5 sd) H := by rw [ew_5]; exact hP
        have hD : va_D A (wX6 cI cO a0 w_5 sd) := by rw [ew_5]; exact hD
        refine lv_aload_n hx hb dX6_write_36 rfl (lv_at hl 0 rfl) ?_
        refine lv_dup hx hb dX6_write_37 rfl ?_
        refine va_get (D := D) (ci := 6) (v := .int ((w_5 0) 0 0)) (C := RX6) (T := TX6) (N := 12) hx hb hts hiX6 hown hK hP 0 rfl rfl 1 (by decide) (hts (.fieldLink RX6 13 "ClockOnce" "length" "I") (List.mem_of_getElem? (i := 1) rfl)) (fun _ h9 => h9) rfl dX6_write_38 ?_
        refine lv_iconst (v := (1 : Int32)) hx hb dX6_write_41 (by decide) ?_
        refine lv_iadd hx hb dX6_write_42 ?_
        obtain ⟨w_6, ew_6, h⟩ := mk_nmE h
        refine va_put (D := D) (ci := 6) (v := .int (((w_5 0) 0 0) + (1 : Int32))) (ty := .int) (C := RX6) (T := TX6) (N := 12) hx hb hts hiX6 tyX6 tyX6_ok nmX6 hown hK hP hD hS 0 rfl rfl 1 (by decide) (hts (.fieldLink RX6 13 "ClockOnce" "length" "I") (List.mem_of_getElem? (i := 1) rfl)) (fun _ h9 => h9) rfl (by decide +kernel) rfl rfl (Nat.le_of_ble_eq_true rfl) dX6_write_43 (fun H locs hP hD hS => ?_)
        have hP : va_P D vwCl (wX6 cI cO a0 w_6 sd) H := by rw [ew_6]; exact hP
        have hD : va_D A (wX6 cI cO a0 w_6 sd) := by rw [ew_6]; exact hD
        refine lv_aload_n hx hb dX6_write_46 rfl (lv_at hl 0 rfl) ?_
        refine va_get (D := D) (ci := 6) (v := .int ((w_6 0) 0 0)) (C := RX6) (T := TX6) (N := 12) hx hb hts hiX6 hown hK hP 0 rfl rfl 1 (by decide) (hts (.fieldLink RX6 13 "ClockOnce" "length" "I") (List.mem_of_getElem? (i := 1) rfl)) (fun _ h9 => h9) rfl dX6_write_47 ?_
        exact hret _ _ _ _ _ _ h hP hD hS dX6_write_50
      · have h := mk_ifn q_3 h
        refine lv_bipush (v := (-4 : Int32)) hx hb dX6_write_23 (by decide) ?_
        exact hret _ _ _ _ _ _ h hP hD hS dX6_write_25
    · have h := mk_ifn q_2 h
      refine lv_bipush (v := (-2 : Int32)) hx hb dX6_write_11 (by decide) ?_
      exact hret _ _ _ _ _ _ h hP hD hS dX6_write_13

abbrev rm_X6_year : Room := { frames := 4, cells := 0, slots := 0, locals := 102 }
set_option maxRecDepth 20000 in
theorem k_X6_year_X5_endIn_245 : GoodIn wsX6_year (wsV RX6 245 RX5 yX5_endIn wsX5_endIn) := goodIn_r _ [64, 65, 66, 8, 67, 33, 32, 16, 17, 18, 8, 19, 81, 82, 83, 84, 85, 86, 87, 88, 89, 90, 91, 92, 93, 94] rfl (by decide +kernel)
set_option maxRecDepth 20000 in
theorem k_X6_year_X5_coinsKept_248 : GoodIn wsX6_year (wsV RX6 248 RX5 yX5_coinsKept wsX5_coinsKept) := goodIn_r _ [68, 35, 36, 8, 37, 38, 81, 82, 83, 84, 85, 86, 87, 88, 89, 90, 91, 92, 93, 94] rfl (by decide +kernel)
set_option maxRecDepth 20000 in
theorem k_X6_year_X6_drawWorld_242 : GoodIn wsX6_year (wsV RX6 242 RX6 yX6_drawWorld wsX6_drawWorld) := goodIn_r _ [39, 40, 41, 42, 43, 1, 2, 44, 45, 46, 47, 48, 49, 50, 51, 8, 52, 53, 54, 55, 56, 57, 58, 59, 60, 61, 62, 63, 69, 70, 71, 72, 73, 74, 75, 76, 77, 78, 79, 80, 81, 82, 83, 84, 85, 86, 87, 88, 89, 90, 91, 92, 93, 94] rfl (by decide +kernel)
set_option maxRecDepth 20000 in
theorem k_X6_year_X5_wiseDay_177 : GoodIn wsX6_year (wsV RX6 177 RX5 yX5_wiseDay wsX5_wiseDay) := goodIn_r _ [5, 6, 7, 8, 9, 10, 11, 12, 8, 13, 14, 15, 16, 17, 18, 19, 20, 21, 22, 23, 24, 25, 26, 27, 28, 29, 30, 31, 32, 33, 34, 35, 36, 37, 38, 81, 82, 83, 84, 85, 86, 87, 88, 89, 90, 91, 92, 93, 94] rfl (by decide +kernel)
set_option maxHeartbeats 4000000 in
set_option maxRecDepth 100000 in
theorem c_X6_year (l : Launch) (D : va_G) (cI cZ cO : ClassId) (N : Nat) (a0 : Nat → Nat → Nat) (c0 : CU) (sd : Int64) (p1 : Int32) (sz : Nat) (out : Int32 × CU × Int64) (h : f_X6_year N c0 sd p1 = some out) : Met l yX6_year wsX6_year rm_X6_year (va_Pc [.ref ((a0 0) 0), .int p1] (mk_Pe D vwCl (tyA cI cZ cO) (wX6 cI cO a0 c0 sd) sz)) (va_Qi (fun r u => (r, u) = out) (mk_Be D vwCl (wX6 cI cO a0 c0 sd) sz (fun q => (wX6 cI cO a0 q.1 q.2))) (va_A (wX6 cI cO a0 c0 sd) sz)) 0 0 (va_A (wX6 cI cO a0 c0 sd) sz) := by
  refine em_i (own := RX6) (cc := cX6_year) (maxL := 6) (by decide) rfl rfl (Nat.le_of_ble_eq_true rfl) ?_
  intro p e s m args below meth c Q A H0 H locs ls hx hb hml hown hts hP hK hD hS hA hl hret
  have hl : lv_has ls 6 [(0, .ref ((a0 0) 0)), (1, .int p1)] := hl
  have hiX5 : ∀ w ∈ u_ws RX5 TX5 14, w ∈ wsX6_year := mk_seg 81 14 rfl
  have hiX6 : ∀ w ∈ u_ws RX6 TX6 12, w ∈ wsX6_year := mk_seg 69 12 rfl
  have K59 : ∀ (c0 : CU) (sd : Int64) (x1 : Int32) (x2 : Int32) (x3 : Int32) (H : Heap) (locs : List Loc) (ls : Array Slot), va_P D vwCl (wX6 cI cO a0 c0 sd) H → va_D A (wX6 cI cO a0 c0 sd) → va_S A H0 H locs → lv_has ls 6 [(0, .ref ((a0 0) 0)), (1, .int x1), (2, .int x2), (3, .int x3)] → lq3 (g_X6_year_59 N c0 x1) N sd x2 x3 = some out → W p l e rm_X6_year s m args below meth c H locs 0 0 Q (F0 m 59 ls []) := by
    intro c0 sd x1 x2 x3 H locs ls hP hD hS hl h
    refine lq3_W (Wd := fun sd x2 x3 => ∀ (H : Heap) (locs : List Loc) (ls : Array Slot), va_P D vwCl (wX6 cI cO a0 c0 sd) H → va_D A (wX6 cI cO a0 c0 sd) → va_S A H0 H locs → lv_has ls 6 [(0, .ref ((a0 0) 0)), (1, .int x1), (2, .int x2), (3, .int x3)] → W p l e rm_X6_year s m args below meth c H locs 0 0 Q (F0 m 59 ls [])) (fun rec59 ih59 sd x2 x3 h H locs ls hP hD hS hl => ?_) N sd x2 x3 h H locs ls hP hD hS hl
    have K73 : ∀ (sd : Int64) (x2 : Int32) (x3 : Int32) (x4 : Int32) (x5 : Int32) (H : Heap) (locs : List Loc) (ls : Array Slot), va_P D vwCl (wX6 cI cO a0 c0 sd) H → va_D A (wX6 cI cO a0 c0 sd) → va_S A H0 H locs → lv_has ls 6 [(0, .ref ((a0 0) 0)), (1, .int x1), (2, .int x2), (3, .int x3), (4, .int x4), (5, .int x5)] → lq2 (g_X6_year_73 N c0 sd rec59 x1 x3 x4) N x2 x5 = some out → W p l e rm_X6_year s m args below meth c H locs 0 0 Q (F0 m 73 ls []) := by
      intro sd x2 x3 x4 x5 H locs ls hP hD hS hl h
      refine lq2_W (Wd := fun x2 x5 => ∀ (H : Heap) (locs : List Loc) (ls : Array Slot), va_P D vwCl (wX6 cI cO a0 c0 sd) H → va_D A (wX6 cI cO a0 c0 sd) → va_S A H0 H locs → lv_has ls 6 [(0, .ref ((a0 0) 0)), (1, .int x1), (2, .int x2), (3, .int x3), (4, .int x4), (5, .int x5)] → W p l e rm_X6_year s m args below meth c H locs 0 0 Q (F0 m 73 ls [])) (fun rec73 ih73 x2 x5 h H locs ls hP hD hS hl => ?_) N x2 x5 h H locs ls hP hD hS hl
      unfold g_X6_year_73 at h
      refine lv_iload hx hb dX6_year_73 (lv_at hl 5 rfl) ?_
      refine lv_aload_n hx hb dX6_year_75 rfl (lv_at hl 0 rfl) ?_
      refine va_get (D := D) (ci := 6) (v := .ref ((a0 2) 0)) (C := RX6) (T := TX6) (N := 12) hx hb hts hiX6 hown hK hP 0 rfl rfl 3 (by decide) (hts (.fieldLink RX6 27 "ClockOnce" "town" "LClockOnce$Town;") (List.mem_of_getElem? (i := 1) rfl)) (fun _ h9 => h9) rfl dX6_year_76 ?_
      refine va_get (D := D) (ci := 5) (v := .int ((c0 2) 0 0)) (C := RX5) (T := TX5) (N := 14) hx hb hts hiX5 hown hK hP 6 rfl rfl 4 (by decide) (hts (.fieldLink RX6 89 "ClockOnce$Town" "things" "I") (List.mem_of_getElem? (i := 2) rfl)) (fun _ h9 => h9) rfl dX6_year_79 ?_
      refine lv_icmp_ge (tgt := 122) hx hb dX6_year_82 (by decide) (fun q_1 => ?_) (fun q_1 => ?_)
      · have h := mk_ifp q_1 h
        refine lv_iinc (v := (x3 + (1 : Int32))) (lv' := [(3, .int (x3 + (1 : Int32))), (0, .ref ((a0 0) 0)), (1, .int x1), (2, .int x2), (4, .int x4), (5, .int x5)]) hx hb dX6_year_122 hl (k := 3) rfl rfl (by decide) rfl (fun ls hl => ?_)
        refine lv_goto (tgt := 59) hx hb dX6_year_125 (by decide) ?_
        exact ih59 sd x2 (x3 + (1 : Int32)) h H locs ls hP hD hS (lv_sub hl [1, 2, 3, 0] rfl)
      · have h := mk_ifn q_1 h
        refine lv_iload_n hx hb dX6_year_85 rfl (lv_at hl 2 rfl) ?_
        refine lv_aload_n hx hb dX6_year_86 rfl (lv_at hl 0 rfl) ?_
        refine va_get (D := D) (ci := 6) (v := .ref ((a0 2) 0)) (C := RX6) (T := TX6) (N := 12) hx hb hts hiX6 hown hK hP 0 rfl rfl 3 (by decide) (hts (.fieldLink RX6 27 "ClockOnce" "town" "LClockOnce$Town;") (List.mem_of_getElem? (i := 1) rfl)) (fun _ h9 => h9) rfl dX6_year_87 ?_
        refine lv_iload hx hb dX6_year_90 (lv_at hl 5 rfl) ?_
        refine lv_aload_n hx hb dX6_year_92 rfl (lv_at hl 0 rfl) ?_
        refine va_get (D := D) (ci := 6) (v := .ref ((a0 2) 0)) (C := RX6) (T := TX6) (N := 12) hx hb hts hiX6 hown hK hP 0 rfl rfl 3 (by decide) (hts (.fieldLink RX6 27 "ClockOnce" "town" "LClockOnce$Town;") (List.mem_of_getElem? (i := 1) rfl)) (fun _ h9 => h9) rfl dX6_year_93 ?_
        refine lv_iload hx hb dX6_year_96 (lv_at hl 4 rfl) ?_
        refine lv_iload hx hb dX6_year_98 (lv_at hl 5 rfl) ?_
        obtain ⟨r_2, er_2, h⟩ := mk_bd h
        refine pc_v (As := [.int x4, .int x5]) (rest := [.int x5, .ref ((a0 2) 0), .int x2]) ⟨hx, hb, hml, hown, hts⟩ (c_X5_endIn l D cI cZ cO N (a0 2) (c0 2) x4 x5 r_2 er_2) (cwV 2 hts k_X6_year_X5_endIn_245 rfl rfl rfl (by decide +kernel) ⟨(Nat.le_of_ble_eq_true rfl), (Nat.le_of_ble_eq_true rfl)⟩) (va_recv hK hP (ci := 5) (q0 := 6) rfl rfl) (hP.sub (ws' := wX5 cI (a0 2) (c0 2)) [6, 7, 8, 9, 10, 11, 12, 13, 14, 15] rfl) hK rfl hl.1 rfl (Nat.le_of_ble_eq_true rfl) dX6_year_100 ⟨Nat.zero_le _, Nat.zero_le _⟩ ?_
        refine lv_iconst (v := (0 : Int32)) hx hb dX6_year_103 (by decide) ?_
        refine lv_aload_n hx hb dX6_year_104 rfl (lv_at hl 0 rfl) ?_
        refine va_get (D := D) (ci := 6) (v := .ref ((a0 0) 2)) (C := RX6) (T := TX6) (N := 12) hx hb hts hiX6 hown hK hP 0 rfl rfl 10 (by decide) (hts (.fieldLink RX6 66 "ClockOnce" "wiseDays" "[I") (List.mem_of_getElem? (i := 3) rfl)) (fun _ h9 => h9) rfl dX6_year_105 ?_
        refine lv_iload hx hb dX6_year_108 (lv_at hl 5 rfl) ?_
        obtain ⟨v_3, ev_3, hiv_3, h⟩ := mk_rdE h
        refine va_iald hx hb hK hP 3 0 rfl rfl hiv_3 dX6_year_110 ?_
        refine mk_topi ev_3 ?_
        obtain ⟨r_4, er_4, h⟩ := mk_bd h
        refine pc_v (As := [.int x5, .int r_2, .int (0 : Int32), .int v_3]) (rest := [.int x2]) ⟨hx, hb, hml, hown, hts⟩ (c_X5_coinsKept l D cI cZ cO N (a0 2) (c0 2) x5 r_2 (0 : Int32) v_3 r_4 er_4) (cwV 4 hts k_X6_year_X5_coinsKept_248 rfl rfl rfl (by decide +kernel) ⟨(Nat.le_of_ble_eq_true rfl), (Nat.le_of_ble_eq_true rfl)⟩) (va_recv hK hP (ci := 5) (q0 := 6) rfl rfl) (hP.sub (ws' := wX5 cI (a0 2) (c0 2)) [6, 7, 8, 9, 10, 11, 12, 13, 14, 15] rfl) hK rfl hl.1 rfl (Nat.le_of_ble_eq_true rfl) dX6_year_111 ⟨Nat.zero_le _, Nat.zero_le _⟩ ?_
        refine lv_iadd hx hb dX6_year_114 ?_
        refine lv_istore_n (lv' := [(2, .int (x2 + r_4)), (0, .ref ((a0 0) 0)), (1, .int x1), (3, .int x3), (4, .int x4), (5, .int x5)]) hx hb dX6_year_115 rfl hl (by decide) rfl (fun ls hl => ?_)
        refine lv_iinc (v := (x5 + (1 : Int32))) (lv' := [(5, .int (x5 + (1 : Int32))), (2, .int (x2 + r_4)), (0, .ref ((a0 0) 0)), (1, .int x1), (3, .int x3), (4, .int x4)]) hx hb dX6_year_116 hl (k := 5) rfl rfl (by decide) rfl (fun ls hl => ?_)
        refine lv_goto (tgt := 73) hx hb dX6_year_119 (by decide) ?_
        exact ih73 (x2 + r_4) (x5 + (1 : Int32)) h H locs ls hP hD hS (lv_sub hl [2, 3, 1, 4, 5, 0] rfl)
    unfold g_X6_year_59 at h
    refine lv_iload_n hx hb dX6_year_59 rfl (lv_at hl 3 rfl) ?_
    refine lv_iload_n hx hb dX6_year_60 rfl (lv_at hl 1 rfl) ?_
    refine lv_icmp_ge (tgt := 128) hx hb dX6_year_61 (by decide) (fun q_5 => ?_) (fun q_5 => ?_)
    · have h := mk_ifp q_5 h
      refine lv_iload_n hx hb dX6_year_128 rfl (lv_at hl 2 rfl) ?_
      exact hret _ _ _ _ _ _ h hP hD hS dX6_year_129
    · have h := mk_ifn q_5 h
      refine lv_aload_n hx hb dX6_year_64 rfl (lv_at hl 0 rfl) ?_
      obtain ⟨r_6, er_6, h⟩ := mk_bd h
      refine es_vi (As := []) (rest := []) (w' := (wX6 cI cO a0 c0 r_6.2)) ⟨hx, hb, hml, hown, hts⟩ (c_X6_drawWorld l D cI cZ cO N a0 c0 sd H.size r_6 er_6) (cwV 0 hts k_X6_year_X6_drawWorld_242 rfl rfl rfl (by decide +kernel) ⟨(Nat.le_of_ble_eq_true rfl), (Nat.le_of_ble_eq_true rfl)⟩) (va_recv hK hP (ci := 6) (q0 := 0) rfl rfl) hK hP hD hS hA rfl rfl hl.1 rfl (Nat.le_of_ble_eq_true rfl) dX6_year_65 ⟨Nat.zero_le _, Nat.zero_le _⟩ (fun H locs hP hD hS => ?_)
      refine lv_istore (lv' := [(4, .int r_6.1), (0, .ref ((a0 0) 0)), (1, .int x1), (2, .int x2), (3, .int x3)]) hx hb dX6_year_68 hl (by decide) rfl (fun ls hl => ?_)
      refine lv_iconst (v := (0 : Int32)) hx hb dX6_year_70 (by decide) ?_
      refine lv_istore (lv' := [(5, .int (0 : Int32)), (4, .int r_6.1), (0, .ref ((a0 0) 0)), (1, .int x1), (2, .int x2), (3, .int x3)]) hx hb dX6_year_71 hl (by decide) rfl (fun ls hl => ?_)
      exact K73 r_6.2 x2 x3 r_6.1 (0 : Int32) H locs ls hP hD hS (lv_sub hl [2, 3, 4, 5, 1, 0] rfl) h
  have K16 : ∀ (c0 : CU) (sd : Int64) (x1 : Int32) (x2 : Int32) (H : Heap) (locs : List Loc) (ls : Array Slot), va_P D vwCl (wX6 cI cO a0 c0 sd) H → va_D A (wX6 cI cO a0 c0 sd) → va_S A H0 H locs → lv_has ls 6 [(0, .ref ((a0 0) 0)), (1, .int x1), (2, .int x2)] → lq2 (g_X6_year_16 N sd x1) N c0 x2 = some out → W p l e rm_X6_year s m args below meth c H locs 0 0 Q (F0 m 16 ls []) := by
    intro c0 sd x1 x2 H locs ls hP hD hS hl h
    refine lq2_W (Wd := fun c0 x2 => ∀ (H : Heap) (locs : List Loc) (ls : Array Slot), va_P D vwCl (wX6 cI cO a0 c0 sd) H → va_D A (wX6 cI cO a0 c0 sd) → va_S A H0 H locs → lv_has ls 6 [(0, .ref ((a0 0) 0)), (1, .int x1), (2, .int x2)] → W p l e rm_X6_year s m args below meth c H locs 0 0 Q (F0 m 16 ls [])) (fun rec16 ih16 c0 x2 h H locs ls hP hD hS hl => ?_) N c0 x2 h H locs ls hP hD hS hl
    unfold g_X6_year_16 at h
    refine lv_iload_n hx hb dX6_year_16 rfl (lv_at hl 2 rfl) ?_
    refine lv_aload_n hx hb dX6_year_17 rfl (lv_at hl 0 rfl) ?_
    refine va_get (D := D) (ci := 6) (v := .ref ((a0 2) 0)) (C := RX6) (T := TX6) (N := 12) hx hb hts hiX6 hown hK hP 0 rfl rfl 3 (by decide) (hts (.fieldLink RX6 27 "ClockOnce" "town" "LClockOnce$Town;") (List.mem_of_getElem? (i := 1) rfl)) (fun _ h9 => h9) rfl dX6_year_18 ?_
    refine va_get (D := D) (ci := 5) (v := .int ((c0 2) 0 0)) (C := RX5) (T := TX5) (N := 14) hx hb hts hiX5 hown hK hP 6 rfl rfl 4 (by decide) (hts (.fieldLink RX6 89 "ClockOnce$Town" "things" "I") (List.mem_of_getElem? (i := 2) rfl)) (fun _ h9 => h9) rfl dX6_year_21 ?_
    refine lv_icmp_ge (tgt := 55) hx hb dX6_year_24 (by decide) (fun q_7 => ?_) (fun q_7 => ?_)
    · have h := mk_ifp q_7 h
      refine lv_iconst (v := (0 : Int32)) hx hb dX6_year_55 (by decide) ?_
      refine lv_istore_n (lv' := [(2, .int (0 : Int32)), (0, .ref ((a0 0) 0)), (1, .int x1)]) hx hb dX6_year_56 rfl hl (by decide) rfl (fun ls hl => ?_)
      refine lv_iconst (v := (0 : Int32)) hx hb dX6_year_57 (by decide) ?_
      refine lv_istore_n (lv' := [(3, .int (0 : Int32)), (2, .int (0 : Int32)), (0, .ref ((a0 0) 0)), (1, .int x1)]) hx hb dX6_year_58 rfl hl (by decide) rfl (fun ls hl => ?_)
      exact K59 c0 sd x1 (0 : Int32) (0 : Int32) H locs ls hP hD hS (lv_sub hl [2, 3, 1, 0] rfl) h
    · have h := mk_ifn q_7 h
      refine lv_aload_n hx hb dX6_year_27 rfl (lv_at hl 0 rfl) ?_
      refine va_get (D := D) (ci := 6) (v := .ref ((a0 0) 2)) (C := RX6) (T := TX6) (N := 12) hx hb hts hiX6 hown hK hP 0 rfl rfl 10 (by decide) (hts (.fieldLink RX6 66 "ClockOnce" "wiseDays" "[I") (List.mem_of_getElem? (i := 3) rfl)) (fun _ h9 => h9) rfl dX6_year_28 ?_
      refine lv_iload_n hx hb dX6_year_31 rfl (lv_at hl 2 rfl) ?_
      refine lv_aload_n hx hb dX6_year_32 rfl (lv_at hl 0 rfl) ?_
      refine va_get (D := D) (ci := 6) (v := .ref ((a0 2) 0)) (C := RX6) (T := TX6) (N := 12) hx hb hts hiX6 hown hK hP 0 rfl rfl 3 (by decide) (hts (.fieldLink RX6 27 "ClockOnce" "town" "LClockOnce$Town;") (List.mem_of_getElem? (i := 1) rfl)) (fun _ h9 => h9) rfl dX6_year_33 ?_
      refine lv_aload_n hx hb dX6_year_36 rfl (lv_at hl 0 rfl) ?_
      refine va_get (D := D) (ci := 6) (v := .ref ((a0 2) 0)) (C := RX6) (T := TX6) (N := 12) hx hb hts hiX6 hown hK hP 0 rfl rfl 3 (by decide) (hts (.fieldLink RX6 27 "ClockOnce" "town" "LClockOnce$Town;") (List.mem_of_getElem? (i := 1) rfl)) (fun _ h9 => h9) rfl dX6_year_37 ?_
      refine va_get (D := D) (ci := 5) (v := .int ((c0 2) 0 4)) (C := RX5) (T := TX5) (N := 14) hx hb hts hiX5 hown hK hP 6 rfl rfl 13 (by decide) (hts (.fieldLink RX6 152 "ClockOnce$Town" "allWorlds" "I") (List.mem_of_getElem? (i := 4) rfl)) (fun _ h9 => h9) rfl dX6_year_40 ?_
      refine lv_iload_n hx hb dX6_year_43 rfl (lv_at hl 2 rfl) ?_
      refine lv_iconst (v := (0 : Int32)) hx hb dX6_year_44 (by decide) ?_
      obtain ⟨r_8, er_8, h⟩ := mk_bd h
      refine pc_v (As := [.int ((c0 2) 0 4), .int x2, .int (0 : Int32)]) (rest := [.int x2, .ref ((a0 0) 2)]) ⟨hx, hb, hml, hown, hts⟩ (c_X5_wiseDay l D cI cZ cO N (a0 2) (c0 2) ((c0 2) 0 4) x2 (0 : Int32) r_8 er_8) (cwV 3 hts k_X6_year_X5_wiseDay_177 rfl rfl rfl (by decide +kernel) ⟨(Nat.le_of_ble_eq_true rfl), (Nat.le_of_ble_eq_true rfl)⟩) (va_recv hK hP (ci := 5) (q0 := 6) rfl rfl) (hP.sub (ws' := wX5 cI (a0 2) (c0 2)) [6, 7, 8, 9, 10, 11, 12, 13, 14, 15] rfl) hK rfl hl.1 rfl (Nat.le_of_ble_eq_true rfl) dX6_year_45 ⟨Nat.zero_le _, Nat.zero_le _⟩ ?_
      obtain ⟨hx_9, h⟩ := mk_ixE h
      obtain ⟨w_10, ew_10, h⟩ := mk_nmE h
      refine va_iast hx hb hK hP hD hS 3 0 rfl rfl hx_9 dX6_year_48 (fun H locs hP hD hS => ?_)
      have hP : va_P D vwCl (wX6 cI cO a0 w_10 sd) H := by rw [ew_10]; exact hP
      have hD : va_D A (wX6 cI cO a0 w_10 sd) := by rw [ew_10]; exact hD
      refine lv_iinc (v := (x2 + (1 : Int32))) (lv' := [(2, .int (x2 + (1 : Int32))), (0, .ref ((a0 0) 0)), (1, .int x1)]) hx hb dX6_year_49 hl (k := 2) rfl rfl (by decide) rfl (fun ls hl => ?_)
      refine lv_goto (tgt := 16) hx hb dX6_year_52 (by decide) ?_
      exact ih16 w_10 (x2 + (1 : Int32)) h H locs ls hP hD hS (lv_sub hl [1, 2, 0] rfl)
  unfold f_X6_year at h
  refine lv_iload_n hx hb dX6_year_0 rfl (lv_at hl 1 rfl) ?_
  refine lv_iconst (v := (1 : Int32)) hx hb dX6_year_1 (by decide) ?_
  refine lv_icmp_lt (tgt := 11) hx hb dX6_year_2 (by decide) (fun q_11 => ?_) (fun q_11 => ?_)
  · have h := mk_ifp q_11 h
    refine lv_bipush (v := (-2 : Int32)) hx hb dX6_year_11 (by decide) ?_
    exact hret _ _ _ _ _ _ h hP hD hS dX6_year_13
  · have h := mk_ifn q_11 h
    refine lv_iload_n hx hb dX6_year_5 rfl (lv_at hl 1 rfl) ?_
    refine lv_bipush (v := (30 : Int32)) hx hb dX6_year_6 (by decide) ?_
    refine lv_icmp_le (tgt := 14) hx hb dX6_year_8 (by decide) (fun q_12 => ?_) (fun q_12 => ?_)
    · have h := mk_ifp q_12 h
      refine lv_iconst (v := (0 : Int32)) hx hb dX6_year_14 (by decide) ?_
      refine lv_istore_n (lv' := [(2, .int (0 : Int32)), (0, .ref ((a0 0) 0)), (1, .int p1)]) hx hb dX6_year_15 rfl hl (by decide) rfl (fun ls hl => ?_)
      exact K16 c0 sd p1 (0 : Int32) H locs ls hP hD hS (lv_sub hl [1, 2, 0] rfl) h
    · have h := mk_ifn q_12 h
      refine lv_bipush (v := (-2 : Int32)) hx hb dX6_year_11 (by decide) ?_
      exact hret _ _ _ _ _ _ h hP hD hS dX6_year_13
