theorem dX7_canBe_0 : decode cX7_canBe 0 = .ok (.iload_n 1, 1) := by decide +kernel
theorem dX7_canBe_1 : decode cX7_canBe 1 = .ok (.iconst 4, 1) := by decide +kernel
theorem dX7_canBe_2 : decode cX7_canBe 2 = .ok (.if_icmp .ne 7, 3) := by decide +kernel
theorem dX7_canBe_5 : decode cX7_canBe 5 = .ok (.iconst 0, 1) := by decide +kernel
theorem dX7_canBe_6 : decode cX7_canBe 6 = .ok (.goto 6, 3) := by decide +kernel
theorem dX7_canBe_9 : decode cX7_canBe 9 = .ok (.iconst 1, 1) := by decide +kernel
theorem dX7_canBe_10 : decode cX7_canBe 10 = .ok (.iload_n 1, 1) := by decide +kernel
theorem dX7_canBe_11 : decode cX7_canBe 11 = .ok (.ishl, 1) := by decide +kernel
theorem dX7_canBe_12 : decode cX7_canBe 12 = .ok (.istore_n 2, 1) := by decide +kernel
theorem dX7_canBe_13 : decode cX7_canBe 13 = .ok (.aload_n 0, 1) := by decide +kernel
theorem dX7_canBe_14 : decode cX7_canBe 14 = .ok (.iload_n 2, 1) := by decide +kernel
theorem dX7_canBe_15 : decode cX7_canBe 15 = .ok (.invokevirtual 231, 3) := by decide +kernel
theorem dX7_canBe_18 : decode cX7_canBe 18 = .ok (.iconst 0, 1) := by decide +kernel
theorem dX7_canBe_19 : decode cX7_canBe 19 = .ok (.istore_n 3, 1) := by decide +kernel
theorem dX7_canBe_20 : decode cX7_canBe 20 = .ok (.iconst 0, 1) := by decide +kernel
theorem dX7_canBe_21 : decode cX7_canBe 21 = .ok (.istore 4, 2) := by decide +kernel
theorem dX7_canBe_23 : decode cX7_canBe 23 = .ok (.iload 4, 2) := by decide +kernel
theorem dX7_canBe_25 : decode cX7_canBe 25 = .ok (.iconst 1, 1) := by decide +kernel
theorem dX7_canBe_26 : decode cX7_canBe 26 = .ok (.aload_n 0, 1) := by decide +kernel
theorem dX7_canBe_27 : decode cX7_canBe 27 = .ok (.getfield 124, 3) := by decide +kernel
theorem dX7_canBe_30 : decode cX7_canBe 30 = .ok (.ishl, 1) := by decide +kernel
theorem dX7_canBe_31 : decode cX7_canBe 31 = .ok (.if_icmp .ge 34, 3) := by decide +kernel
theorem dX7_canBe_34 : decode cX7_canBe 34 = .ok (.iload_n 3, 1) := by decide +kernel
theorem dX7_canBe_35 : decode cX7_canBe 35 = .ok (.aload_n 0, 1) := by decide +kernel
theorem dX7_canBe_36 : decode cX7_canBe 36 = .ok (.getfield 186, 3) := by decide +kernel
theorem dX7_canBe_39 : decode cX7_canBe 39 = .ok (.iload 4, 2) := by decide +kernel
theorem dX7_canBe_41 : decode cX7_canBe 41 = .ok (.invokestatic 89, 3) := by decide +kernel
theorem dX7_canBe_44 : decode cX7_canBe 44 = .ok (.ifCond .eq 12, 3) := by decide +kernel
theorem dX7_canBe_47 : decode cX7_canBe 47 = .ok (.aload_n 0, 1) := by decide +kernel
theorem dX7_canBe_48 : decode cX7_canBe 48 = .ok (.iload 4, 2) := by decide +kernel
theorem dX7_canBe_50 : decode cX7_canBe 50 = .ok (.invokevirtual 175, 3) := by decide +kernel
theorem dX7_canBe_53 : decode cX7_canBe 53 = .ok (.goto 4, 3) := by decide +kernel
theorem dX7_canBe_56 : decode cX7_canBe 56 = .ok (.iconst 0, 1) := by decide +kernel
theorem dX7_canBe_57 : decode cX7_canBe 57 = .ok (.iadd, 1) := by decide +kernel
theorem dX7_canBe_58 : decode cX7_canBe 58 = .ok (.istore_n 3, 1) := by decide +kernel
theorem dX7_canBe_59 : decode cX7_canBe 59 = .ok (.iinc 4 1, 3) := by decide +kernel
theorem dX7_canBe_62 : decode cX7_canBe 62 = .ok (.goto (-39), 3) := by decide +kernel
theorem dX7_canBe_65 : decode cX7_canBe 65 = .ok (.iload_n 3, 1) := by decide +kernel
theorem dX7_canBe_66 : decode cX7_canBe 66 = .ok (.ifCond .le 7, 3) := by decide +kernel
theorem dX7_canBe_69 : decode cX7_canBe 69 = .ok (.iconst 1, 1) := by decide +kernel
theorem dX7_canBe_70 : decode cX7_canBe 70 = .ok (.goto 4, 3) := by decide +kernel
theorem dX7_canBe_73 : decode cX7_canBe 73 = .ok (.iconst 0, 1) := by decide +kernel
theorem dX7_canBe_74 : decode cX7_canBe 74 = .ok (.istore 4, 2) := by decide +kernel
theorem dX7_canBe_76 : decode cX7_canBe 76 = .ok (.iconst 0, 1) := by decide +kernel
theorem dX7_canBe_77 : decode cX7_canBe 77 = .ok (.istore 5, 2) := by decide +kernel
theorem dX7_canBe_79 : decode cX7_canBe 79 = .ok (.iload 5, 2) := by decide +kernel
theorem dX7_canBe_81 : decode cX7_canBe 81 = .ok (.aload_n 0, 1) := by decide +kernel
theorem dX7_canBe_82 : decode cX7_canBe 82 = .ok (.getfield 228, 3) := by decide +kernel
theorem dX7_canBe_85 : decode cX7_canBe 85 = .ok (.if_icmp .ge 57, 3) := by decide +kernel
theorem dX7_canBe_88 : decode cX7_canBe 88 = .ok (.iload 4, 2) := by decide +kernel
theorem dX7_canBe_90 : decode cX7_canBe 90 = .ok (.ifCond .eq 52, 3) := by decide +kernel
theorem dX7_canBe_93 : decode cX7_canBe 93 = .ok (.aload_n 0, 1) := by decide +kernel
theorem dX7_canBe_94 : decode cX7_canBe 94 = .ok (.aload_n 0, 1) := by decide +kernel
theorem dX7_canBe_95 : decode cX7_canBe 95 = .ok (.getfield 52, 3) := by decide +kernel
theorem dX7_canBe_98 : decode cX7_canBe 98 = .ok (.iload 5, 2) := by decide +kernel
theorem dX7_canBe_100 : decode cX7_canBe 100 = .ok (.iaload, 1) := by decide +kernel
theorem dX7_canBe_101 : decode cX7_canBe 101 = .ok (.invokevirtual 136, 3) := by decide +kernel
theorem dX7_canBe_104 : decode cX7_canBe 104 = .ok (.ifCond .eq 25, 3) := by decide +kernel
theorem dX7_canBe_107 : decode cX7_canBe 107 = .ok (.aload_n 0, 1) := by decide +kernel
theorem dX7_canBe_108 : decode cX7_canBe 108 = .ok (.aload_n 0, 1) := by decide +kernel
theorem dX7_canBe_109 : decode cX7_canBe 109 = .ok (.getfield 52, 3) := by decide +kernel
theorem dX7_canBe_112 : decode cX7_canBe 112 = .ok (.iload 5, 2) := by decide +kernel
theorem dX7_canBe_114 : decode cX7_canBe 114 = .ok (.iaload, 1) := by decide +kernel
theorem dX7_canBe_115 : decode cX7_canBe 115 = .ok (.iconst 0, 1) := by decide +kernel
theorem dX7_canBe_116 : decode cX7_canBe 116 = .ok (.invokevirtual 201, 3) := by decide +kernel
theorem dX7_canBe_119 : decode cX7_canBe 119 = .ok (.aload_n 0, 1) := by decide +kernel
theorem dX7_canBe_120 : decode cX7_canBe 120 = .ok (.getfield 55, 3) := by decide +kernel
theorem dX7_canBe_123 : decode cX7_canBe 123 = .ok (.iload 5, 2) := by decide +kernel
theorem dX7_canBe_125 : decode cX7_canBe 125 = .ok (.iaload, 1) := by decide +kernel
theorem dX7_canBe_126 : decode cX7_canBe 126 = .ok (.if_icmp .ne 7, 3) := by decide +kernel
theorem dX7_canBe_129 : decode cX7_canBe 129 = .ok (.iconst 1, 1) := by decide +kernel
theorem dX7_canBe_130 : decode cX7_canBe 130 = .ok (.goto 4, 3) := by decide +kernel
theorem dX7_canBe_133 : decode cX7_canBe 133 = .ok (.iconst 0, 1) := by decide +kernel
theorem dX7_canBe_134 : decode cX7_canBe 134 = .ok (.istore 4, 2) := by decide +kernel
theorem dX7_canBe_136 : decode cX7_canBe 136 = .ok (.iinc 5 1, 3) := by decide +kernel
theorem dX7_canBe_139 : decode cX7_canBe 139 = .ok (.goto (-60), 3) := by decide +kernel
theorem dX7_canBe_142 : decode cX7_canBe 142 = .ok (.iload 4, 2) := by decide +kernel
theorem dX7_canBe_144 : decode cX7_canBe 144 = .ok (.ireturn, 1) := by decide +kernel
theorem dX7_clear_0 : decode cX7_clear 0 = .ok (.iconst 0, 1) := by decide +kernel
theorem dX7_clear_1 : decode cX7_clear 1 = .ok (.istore_n 1, 1) := by decide +kernel
theorem dX7_clear_2 : decode cX7_clear 2 = .ok (.iload_n 1, 1) := by decide +kernel
theorem dX7_clear_3 : decode cX7_clear 3 = .ok (.bipush 10, 2) := by decide +kernel
theorem dX7_clear_5 : decode cX7_clear 5 = .ok (.if_icmp .ge 26, 3) := by decide +kernel
theorem dX7_clear_8 : decode cX7_clear 8 = .ok (.aload_n 0, 1) := by decide +kernel
theorem dX7_clear_9 : decode cX7_clear 9 = .ok (.getfield 40, 3) := by decide +kernel
theorem dX7_clear_12 : decode cX7_clear 12 = .ok (.iload_n 1, 1) := by decide +kernel
theorem dX7_clear_13 : decode cX7_clear 13 = .ok (.iload_n 1, 1) := by decide +kernel
theorem dX7_clear_14 : decode cX7_clear 14 = .ok (.iconst 2, 1) := by decide +kernel
theorem dX7_clear_15 : decode cX7_clear 15 = .ok (.if_icmp .ge 7, 3) := by decide +kernel
theorem dX7_clear_18 : decode cX7_clear 18 = .ok (.iconst 0, 1) := by decide +kernel
theorem dX7_clear_19 : decode cX7_clear 19 = .ok (.goto 5, 3) := by decide +kernel
theorem dX7_clear_22 : decode cX7_clear 22 = .ok (.bipush (-9), 2) := by decide +kernel
theorem dX7_clear_24 : decode cX7_clear 24 = .ok (.iastore, 1) := by decide +kernel
theorem dX7_clear_25 : decode cX7_clear 25 = .ok (.iinc 1 1, 3) := by decide +kernel
theorem dX7_clear_28 : decode cX7_clear 28 = .ok (.goto (-26), 3) := by decide +kernel
theorem dX7_clear_31 : decode cX7_clear 31 = .ok (.return_, 1) := by decide +kernel
theorem dX7_common_0 : decode cX7_common 0 = .ok (.iload_n 0, 1) := by decide +kernel
theorem dX7_common_1 : decode cX7_common 1 = .ok (.istore_n 2, 1) := by decide +kernel
theorem dX7_common_2 : decode cX7_common 2 = .ok (.iload_n 1, 1) := by decide +kernel
theorem dX7_common_3 : decode cX7_common 3 = .ok (.istore_n 3, 1) := by decide +kernel
theorem dX7_common_4 : decode cX7_common 4 = .ok (.iload_n 3, 1) := by decide +kernel
theorem dX7_common_5 : decode cX7_common 5 = .ok (.ifCond .eq 16, 3) := by decide +kernel
theorem dX7_common_8 : decode cX7_common 8 = .ok (.iload_n 2, 1) := by decide +kernel
theorem dX7_common_9 : decode cX7_common 9 = .ok (.iload_n 3, 1) := by decide +kernel
theorem dX7_common_10 : decode cX7_common 10 = .ok (.irem, 1) := by decide +kernel
theorem dX7_common_11 : decode cX7_common 11 = .ok (.istore 4, 2) := by decide +kernel
theorem dX7_common_13 : decode cX7_common 13 = .ok (.iload_n 3, 1) := by decide +kernel
theorem dX7_common_14 : decode cX7_common 14 = .ok (.istore_n 2, 1) := by decide +kernel
theorem dX7_common_15 : decode cX7_common 15 = .ok (.iload 4, 2) := by decide +kernel
theorem dX7_common_17 : decode cX7_common 17 = .ok (.istore_n 3, 1) := by decide +kernel
theorem dX7_common_18 : decode cX7_common 18 = .ok (.goto (-14), 3) := by decide +kernel
theorem dX7_common_21 : decode cX7_common 21 = .ok (.iload_n 2, 1) := by decide +kernel
theorem dX7_common_22 : decode cX7_common 22 = .ok (.ireturn, 1) := by decide +kernel
theorem dX7_count_0 : decode cX7_count 0 = .ok (.iconst 0, 1) := by decide +kernel
theorem dX7_count_1 : decode cX7_count 1 = .ok (.istore_n 2, 1) := by decide +kernel
theorem dX7_count_2 : decode cX7_count 2 = .ok (.iconst 0, 1) := by decide +kernel
theorem dX7_count_3 : decode cX7_count 3 = .ok (.istore_n 3, 1) := by decide +kernel
theorem dX7_count_4 : decode cX7_count 4 = .ok (.iconst 0, 1) := by decide +kernel
theorem dX7_count_5 : decode cX7_count 5 = .ok (.istore 4, 2) := by decide +kernel
theorem dX7_count_7 : decode cX7_count 7 = .ok (.iload 4, 2) := by decide +kernel
theorem dX7_count_9 : decode cX7_count 9 = .ok (.aload_n 0, 1) := by decide +kernel
theorem dX7_count_10 : decode cX7_count 10 = .ok (.getfield 124, 3) := by decide +kernel
theorem dX7_count_13 : decode cX7_count 13 = .ok (.if_icmp .ge 60, 3) := by decide +kernel
theorem dX7_count_16 : decode cX7_count 16 = .ok (.iload_n 2, 1) := by decide +kernel
theorem dX7_count_17 : decode cX7_count 17 = .ok (.aload_n 0, 1) := by decide +kernel
theorem dX7_count_18 : decode cX7_count 18 = .ok (.getfield 40, 3) := by decide +kernel
theorem dX7_count_21 : decode cX7_count 21 = .ok (.iconst 2, 1) := by decide +kernel
theorem dX7_count_22 : decode cX7_count 22 = .ok (.iload 4, 2) := by decide +kernel
theorem dX7_count_24 : decode cX7_count 24 = .ok (.iadd, 1) := by decide +kernel
theorem dX7_count_25 : decode cX7_count 25 = .ok (.iaload, 1) := by decide +kernel
theorem dX7_count_26 : decode cX7_count 26 = .ok (.bipush (-9), 2) := by decide +kernel
theorem dX7_count_28 : decode cX7_count 28 = .ok (.if_icmp .eq 10, 3) := by decide +kernel
theorem dX7_count_31 : decode cX7_count 31 = .ok (.iconst 1, 1) := by decide +kernel
theorem dX7_count_32 : decode cX7_count 32 = .ok (.iload 4, 2) := by decide +kernel
theorem dX7_count_34 : decode cX7_count 34 = .ok (.ishl, 1) := by decide +kernel
theorem dX7_count_35 : decode cX7_count 35 = .ok (.goto 4, 3) := by decide +kernel
theorem dX7_count_38 : decode cX7_count 38 = .ok (.iconst 0, 1) := by decide +kernel
theorem dX7_count_39 : decode cX7_count 39 = .ok (.ior, 1) := by decide +kernel
theorem dX7_count_40 : decode cX7_count 40 = .ok (.istore_n 2, 1) := by decide +kernel
theorem dX7_count_41 : decode cX7_count 41 = .ok (.iload_n 3, 1) := by decide +kernel
theorem dX7_count_42 : decode cX7_count 42 = .ok (.aload_n 0, 1) := by decide +kernel
theorem dX7_count_43 : decode cX7_count 43 = .ok (.iload 4, 2) := by decide +kernel
theorem dX7_count_45 : decode cX7_count 45 = .ok (.invokevirtual 140, 3) := by decide +kernel
theorem dX7_count_48 : decode cX7_count 48 = .ok (.aload_n 0, 1) := by decide +kernel
theorem dX7_count_49 : decode cX7_count 49 = .ok (.getfield 40, 3) := by decide +kernel
theorem dX7_count_52 : decode cX7_count 52 = .ok (.iconst 0, 1) := by decide +kernel
theorem dX7_count_53 : decode cX7_count 53 = .ok (.iaload, 1) := by decide +kernel
theorem dX7_count_54 : decode cX7_count 54 = .ok (.if_icmp .gt 10, 3) := by decide +kernel
theorem dX7_count_57 : decode cX7_count 57 = .ok (.iconst 1, 1) := by decide +kernel
theorem dX7_count_58 : decode cX7_count 58 = .ok (.iload 4, 2) := by decide +kernel
theorem dX7_count_60 : decode cX7_count 60 = .ok (.ishl, 1) := by decide +kernel
theorem dX7_count_61 : decode cX7_count 61 = .ok (.goto 4, 3) := by decide +kernel
theorem dX7_count_64 : decode cX7_count 64 = .ok (.iconst 0, 1) := by decide +kernel
theorem dX7_count_65 : decode cX7_count 65 = .ok (.ior, 1) := by decide +kernel
theorem dX7_count_66 : decode cX7_count 66 = .ok (.istore_n 3, 1) := by decide +kernel
theorem dX7_count_67 : decode cX7_count 67 = .ok (.iinc 4 1, 3) := by decide +kernel
theorem dX7_count_70 : decode cX7_count 70 = .ok (.goto (-63), 3) := by decide +kernel
theorem dX7_count_73 : decode cX7_count 73 = .ok (.iload_n 1, 1) := by decide +kernel
theorem dX7_count_74 : decode cX7_count 74 = .ok (.tableswitch 111 0 10 #[58, 63, 68, 73, 78, 85, 92, 94, 96, 101, 106], 58) := by decide +kernel
theorem dX7_count_132 : decode cX7_count 132 = .ok (.aload_n 0, 1) := by decide +kernel
theorem dX7_count_133 : decode cX7_count 133 = .ok (.getfield 77, 3) := by decide +kernel
theorem dX7_count_136 : decode cX7_count 136 = .ok (.ireturn, 1) := by decide +kernel
theorem dX7_count_137 : decode cX7_count 137 = .ok (.aload_n 0, 1) := by decide +kernel
theorem dX7_count_138 : decode cX7_count 138 = .ok (.getfield 124, 3) := by decide +kernel
theorem dX7_count_141 : decode cX7_count 141 = .ok (.ireturn, 1) := by decide +kernel
theorem dX7_count_142 : decode cX7_count 142 = .ok (.aload_n 0, 1) := by decide +kernel
theorem dX7_count_143 : decode cX7_count 143 = .ok (.getfield 127, 3) := by decide +kernel
theorem dX7_count_146 : decode cX7_count 146 = .ok (.ireturn, 1) := by decide +kernel
theorem dX7_count_147 : decode cX7_count 147 = .ok (.aload_n 0, 1) := by decide +kernel
theorem dX7_count_148 : decode cX7_count 148 = .ok (.getfield 130, 3) := by decide +kernel
theorem dX7_count_151 : decode cX7_count 151 = .ok (.ireturn, 1) := by decide +kernel
theorem dX7_count_152 : decode cX7_count 152 = .ok (.aload_n 0, 1) := by decide +kernel
theorem dX7_count_153 : decode cX7_count 153 = .ok (.getfield 40, 3) := by decide +kernel
theorem dX7_count_156 : decode cX7_count 156 = .ok (.iconst 0, 1) := by decide +kernel
theorem dX7_count_157 : decode cX7_count 157 = .ok (.iaload, 1) := by decide +kernel
theorem dX7_count_158 : decode cX7_count 158 = .ok (.ireturn, 1) := by decide +kernel
theorem dX7_count_159 : decode cX7_count 159 = .ok (.aload_n 0, 1) := by decide +kernel
theorem dX7_count_160 : decode cX7_count 160 = .ok (.getfield 40, 3) := by decide +kernel
theorem dX7_count_163 : decode cX7_count 163 = .ok (.iconst 1, 1) := by decide +kernel
theorem dX7_count_164 : decode cX7_count 164 = .ok (.iaload, 1) := by decide +kernel
theorem dX7_count_165 : decode cX7_count 165 = .ok (.ireturn, 1) := by decide +kernel
theorem dX7_count_166 : decode cX7_count 166 = .ok (.iload_n 2, 1) := by decide +kernel
theorem dX7_count_167 : decode cX7_count 167 = .ok (.ireturn, 1) := by decide +kernel
theorem dX7_count_168 : decode cX7_count 168 = .ok (.iload_n 3, 1) := by decide +kernel
theorem dX7_count_169 : decode cX7_count 169 = .ok (.ireturn, 1) := by decide +kernel
theorem dX7_count_170 : decode cX7_count 170 = .ok (.aload_n 0, 1) := by decide +kernel
theorem dX7_count_171 : decode cX7_count 171 = .ok (.invokevirtual 143, 3) := by decide +kernel
theorem dX7_count_174 : decode cX7_count 174 = .ok (.ireturn, 1) := by decide +kernel
theorem dX7_count_175 : decode cX7_count 175 = .ok (.aload_n 0, 1) := by decide +kernel
theorem dX7_count_176 : decode cX7_count 176 = .ok (.getfield 133, 3) := by decide +kernel
theorem dX7_count_179 : decode cX7_count 179 = .ok (.ireturn, 1) := by decide +kernel
theorem dX7_count_180 : decode cX7_count 180 = .ok (.aload_n 0, 1) := by decide +kernel
theorem dX7_count_181 : decode cX7_count 181 = .ok (.getfield 228, 3) := by decide +kernel
theorem dX7_count_184 : decode cX7_count 184 = .ok (.ireturn, 1) := by decide +kernel
theorem dX7_count_185 : decode cX7_count 185 = .ok (.bipush (-2), 2) := by decide +kernel
theorem dX7_count_187 : decode cX7_count 187 = .ok (.ireturn, 1) := by decide +kernel
theorem dX7_day_0 : decode cX7_day 0 = .ok (.aload_n 0, 1) := by decide +kernel
theorem dX7_day_1 : decode cX7_day 1 = .ok (.getfield 40, 3) := by decide +kernel
theorem dX7_day_4 : decode cX7_day 4 = .ok (.iconst 0, 1) := by decide +kernel
theorem dX7_day_5 : decode cX7_day 5 = .ok (.iaload, 1) := by decide +kernel
theorem dX7_day_6 : decode cX7_day 6 = .ok (.bipush 9, 2) := by decide +kernel
theorem dX7_day_8 : decode cX7_day 8 = .ok (.if_icmp .ne 6, 3) := by decide +kernel
theorem dX7_day_11 : decode cX7_day 11 = .ok (.bipush (-3), 2) := by decide +kernel
theorem dX7_day_13 : decode cX7_day 13 = .ok (.ireturn, 1) := by decide +kernel
theorem dX7_day_14 : decode cX7_day 14 = .ok (.aload_n 0, 1) := by decide +kernel
theorem dX7_day_15 : decode cX7_day 15 = .ok (.invokevirtual 155, 3) := by decide +kernel
theorem dX7_day_18 : decode cX7_day 18 = .ok (.iconst 0, 1) := by decide +kernel
theorem dX7_day_19 : decode cX7_day 19 = .ok (.istore_n 1, 1) := by decide +kernel
theorem dX7_day_20 : decode cX7_day 20 = .ok (.iconst 0, 1) := by decide +kernel
theorem dX7_day_21 : decode cX7_day 21 = .ok (.istore_n 2, 1) := by decide +kernel
theorem dX7_day_22 : decode cX7_day 22 = .ok (.iload_n 2, 1) := by decide +kernel
theorem dX7_day_23 : decode cX7_day 23 = .ok (.aload_n 0, 1) := by decide +kernel
theorem dX7_day_24 : decode cX7_day 24 = .ok (.getfield 124, 3) := by decide +kernel
theorem dX7_day_27 : decode cX7_day 27 = .ok (.if_icmp .ge 44, 3) := by decide +kernel
theorem dX7_day_30 : decode cX7_day 30 = .ok (.iload_n 1, 1) := by decide +kernel
theorem dX7_day_31 : decode cX7_day 31 = .ok (.aload_n 0, 1) := by decide +kernel
theorem dX7_day_32 : decode cX7_day 32 = .ok (.getfield 40, 3) := by decide +kernel
theorem dX7_day_35 : decode cX7_day 35 = .ok (.iconst 2, 1) := by decide +kernel
theorem dX7_day_36 : decode cX7_day 36 = .ok (.iload_n 2, 1) := by decide +kernel
theorem dX7_day_37 : decode cX7_day 37 = .ok (.iadd, 1) := by decide +kernel
theorem dX7_day_38 : decode cX7_day 38 = .ok (.iaload, 1) := by decide +kernel
theorem dX7_day_39 : decode cX7_day 39 = .ok (.bipush (-9), 2) := by decide +kernel
theorem dX7_day_41 : decode cX7_day 41 = .ok (.if_icmp .ne 21, 3) := by decide +kernel
theorem dX7_day_44 : decode cX7_day 44 = .ok (.aload_n 0, 1) := by decide +kernel
theorem dX7_day_45 : decode cX7_day 45 = .ok (.iload_n 2, 1) := by decide +kernel
theorem dX7_day_46 : decode cX7_day 46 = .ok (.invokevirtual 140, 3) := by decide +kernel
theorem dX7_day_49 : decode cX7_day 49 = .ok (.aload_n 0, 1) := by decide +kernel
theorem dX7_day_50 : decode cX7_day 50 = .ok (.getfield 40, 3) := by decide +kernel
theorem dX7_day_53 : decode cX7_day 53 = .ok (.iconst 0, 1) := by decide +kernel
theorem dX7_day_54 : decode cX7_day 54 = .ok (.iaload, 1) := by decide +kernel
theorem dX7_day_55 : decode cX7_day 55 = .ok (.if_icmp .le 7, 3) := by decide +kernel
theorem dX7_day_58 : decode cX7_day 58 = .ok (.iconst 1, 1) := by decide +kernel
theorem dX7_day_59 : decode cX7_day 59 = .ok (.goto 4, 3) := by decide +kernel
theorem dX7_day_62 : decode cX7_day 62 = .ok (.iconst 0, 1) := by decide +kernel
theorem dX7_day_63 : decode cX7_day 63 = .ok (.iadd, 1) := by decide +kernel
theorem dX7_day_64 : decode cX7_day 64 = .ok (.istore_n 1, 1) := by decide +kernel
theorem dX7_day_65 : decode cX7_day 65 = .ok (.iinc 2 1, 3) := by decide +kernel
theorem dX7_day_68 : decode cX7_day 68 = .ok (.goto (-46), 3) := by decide +kernel
theorem dX7_day_71 : decode cX7_day 71 = .ok (.aload_n 0, 1) := by decide +kernel
theorem dX7_day_72 : decode cX7_day 72 = .ok (.getfield 40, 3) := by decide +kernel
theorem dX7_day_75 : decode cX7_day 75 = .ok (.iconst 0, 1) := by decide +kernel
theorem dX7_day_76 : decode cX7_day 76 = .ok (.dup2, 1) := by decide +kernel
theorem dX7_day_77 : decode cX7_day 77 = .ok (.iaload, 1) := by decide +kernel
theorem dX7_day_78 : decode cX7_day 78 = .ok (.iconst 1, 1) := by decide +kernel
theorem dX7_day_79 : decode cX7_day 79 = .ok (.iadd, 1) := by decide +kernel
theorem dX7_day_80 : decode cX7_day 80 = .ok (.iastore, 1) := by decide +kernel
theorem dX7_day_81 : decode cX7_day 81 = .ok (.aload_n 0, 1) := by decide +kernel
theorem dX7_day_82 : decode cX7_day 82 = .ok (.getfield 40, 3) := by decide +kernel
theorem dX7_day_85 : decode cX7_day 85 = .ok (.iconst 1, 1) := by decide +kernel
theorem dX7_day_86 : decode cX7_day 86 = .ok (.dup2, 1) := by decide +kernel
theorem dX7_day_87 : decode cX7_day 87 = .ok (.iaload, 1) := by decide +kernel
theorem dX7_day_88 : decode cX7_day 88 = .ok (.iload_n 1, 1) := by decide +kernel
theorem dX7_day_89 : decode cX7_day 89 = .ok (.iadd, 1) := by decide +kernel
theorem dX7_day_90 : decode cX7_day 90 = .ok (.iastore, 1) := by decide +kernel
theorem dX7_day_91 : decode cX7_day 91 = .ok (.iload_n 1, 1) := by decide +kernel
theorem dX7_day_92 : decode cX7_day 92 = .ok (.ireturn, 1) := by decide +kernel
theorem dX7_drawn_0 : decode cX7_drawn 0 = .ok (.iconst 0, 1) := by decide +kernel
theorem dX7_drawn_1 : decode cX7_drawn 1 = .ok (.istore_n 1, 1) := by decide +kernel
theorem dX7_drawn_2 : decode cX7_drawn 2 = .ok (.iconst 0, 1) := by decide +kernel
theorem dX7_drawn_3 : decode cX7_drawn 3 = .ok (.istore_n 2, 1) := by decide +kernel
theorem dX7_drawn_4 : decode cX7_drawn 4 = .ok (.iload_n 2, 1) := by decide +kernel
theorem dX7_drawn_5 : decode cX7_drawn 5 = .ok (.aload_n 0, 1) := by decide +kernel
theorem dX7_drawn_6 : decode cX7_drawn 6 = .ok (.getfield 124, 3) := by decide +kernel
theorem dX7_drawn_9 : decode cX7_drawn 9 = .ok (.if_icmp .ge 61, 3) := by decide +kernel
theorem dX7_drawn_12 : decode cX7_drawn 12 = .ok (.aload_n 0, 1) := by decide +kernel
theorem dX7_drawn_13 : decode cX7_drawn 13 = .ok (.aload_n 0, 1) := by decide +kernel
theorem dX7_drawn_14 : decode cX7_drawn 14 = .ok (.getfield 242, 3) := by decide +kernel
theorem dX7_drawn_17 : decode cX7_drawn 17 = .ok (.ldc2_w 246, 3) := by decide +kernel
theorem dX7_drawn_20 : decode cX7_drawn 20 = .ok (.lmul, 1) := by decide +kernel
theorem dX7_drawn_21 : decode cX7_drawn 21 = .ok (.ldc2_w 248, 3) := by decide +kernel
theorem dX7_drawn_24 : decode cX7_drawn 24 = .ok (.ladd, 1) := by decide +kernel
theorem dX7_drawn_25 : decode cX7_drawn 25 = .ok (.putfield 242, 3) := by decide +kernel
theorem dX7_drawn_28 : decode cX7_drawn 28 = .ok (.iload_n 1, 1) := by decide +kernel
theorem dX7_drawn_29 : decode cX7_drawn 29 = .ok (.aload_n 0, 1) := by decide +kernel
theorem dX7_drawn_30 : decode cX7_drawn 30 = .ok (.getfield 242, 3) := by decide +kernel
theorem dX7_drawn_33 : decode cX7_drawn 33 = .ok (.bipush 33, 2) := by decide +kernel
theorem dX7_drawn_35 : decode cX7_drawn 35 = .ok (.lushr, 1) := by decide +kernel
theorem dX7_drawn_36 : decode cX7_drawn 36 = .ok (.ldc2_w 250, 3) := by decide +kernel
theorem dX7_drawn_39 : decode cX7_drawn 39 = .ok (.lrem, 1) := by decide +kernel
theorem dX7_drawn_40 : decode cX7_drawn 40 = .ok (.aload_n 0, 1) := by decide +kernel
theorem dX7_drawn_41 : decode cX7_drawn 41 = .ok (.getfield 7, 3) := by decide +kernel
theorem dX7_drawn_44 : decode cX7_drawn 44 = .ok (.iconst 5, 1) := by decide +kernel
theorem dX7_drawn_45 : decode cX7_drawn 45 = .ok (.iload_n 2, 1) := by decide +kernel
theorem dX7_drawn_46 : decode cX7_drawn 46 = .ok (.imul, 1) := by decide +kernel
theorem dX7_drawn_47 : decode cX7_drawn 47 = .ok (.iconst 2, 1) := by decide +kernel
theorem dX7_drawn_48 : decode cX7_drawn 48 = .ok (.iadd, 1) := by decide +kernel
theorem dX7_drawn_49 : decode cX7_drawn 49 = .ok (.iaload, 1) := by decide +kernel
theorem dX7_drawn_50 : decode cX7_drawn 50 = .ok (.i2l, 1) := by decide +kernel
theorem dX7_drawn_51 : decode cX7_drawn 51 = .ok (.lcmp, 1) := by decide +kernel
theorem dX7_drawn_52 : decode cX7_drawn 52 = .ok (.ifCond .ge 9, 3) := by decide +kernel
theorem dX7_drawn_55 : decode cX7_drawn 55 = .ok (.iconst 1, 1) := by decide +kernel
theorem dX7_drawn_56 : decode cX7_drawn 56 = .ok (.iload_n 2, 1) := by decide +kernel
theorem dX7_drawn_57 : decode cX7_drawn 57 = .ok (.ishl, 1) := by decide +kernel
theorem dX7_drawn_58 : decode cX7_drawn 58 = .ok (.goto 4, 3) := by decide +kernel
theorem dX7_drawn_61 : decode cX7_drawn 61 = .ok (.iconst 0, 1) := by decide +kernel
theorem dX7_drawn_62 : decode cX7_drawn 62 = .ok (.ior, 1) := by decide +kernel
theorem dX7_drawn_63 : decode cX7_drawn 63 = .ok (.istore_n 1, 1) := by decide +kernel
theorem dX7_drawn_64 : decode cX7_drawn 64 = .ok (.iinc 2 1, 3) := by decide +kernel
theorem dX7_drawn_67 : decode cX7_drawn 67 = .ok (.goto (-63), 3) := by decide +kernel
theorem dX7_drawn_70 : decode cX7_drawn 70 = .ok (.iconst 0, 1) := by decide +kernel
theorem dX7_drawn_71 : decode cX7_drawn 71 = .ok (.istore_n 2, 1) := by decide +kernel
theorem dX7_drawn_72 : decode cX7_drawn 72 = .ok (.iload_n 2, 1) := by decide +kernel
theorem dX7_drawn_73 : decode cX7_drawn 73 = .ok (.iconst 4, 1) := by decide +kernel
theorem dX7_drawn_74 : decode cX7_drawn 74 = .ok (.if_icmp .ge 53, 3) := by decide +kernel
theorem dX7_drawn_77 : decode cX7_drawn 77 = .ok (.iconst 0, 1) := by decide +kernel
theorem dX7_drawn_78 : decode cX7_drawn 78 = .ok (.istore_n 3, 1) := by decide +kernel
theorem dX7_drawn_79 : decode cX7_drawn 79 = .ok (.iload_n 3, 1) := by decide +kernel
theorem dX7_drawn_80 : decode cX7_drawn 80 = .ok (.aload_n 0, 1) := by decide +kernel
theorem dX7_drawn_81 : decode cX7_drawn 81 = .ok (.getfield 130, 3) := by decide +kernel
theorem dX7_drawn_84 : decode cX7_drawn 84 = .ok (.if_icmp .ge 37, 3) := by decide +kernel
theorem dX7_drawn_87 : decode cX7_drawn 87 = .ok (.iload_n 1, 1) := by decide +kernel
theorem dX7_drawn_88 : decode cX7_drawn 88 = .ok (.iload_n 1, 1) := by decide +kernel
theorem dX7_drawn_89 : decode cX7_drawn 89 = .ok (.aload_n 0, 1) := by decide +kernel
theorem dX7_drawn_90 : decode cX7_drawn 90 = .ok (.getfield 19, 3) := by decide +kernel
theorem dX7_drawn_93 : decode cX7_drawn 93 = .ok (.iload_n 3, 1) := by decide +kernel
theorem dX7_drawn_94 : decode cX7_drawn 94 = .ok (.iaload, 1) := by decide +kernel
theorem dX7_drawn_95 : decode cX7_drawn 95 = .ok (.invokestatic 89, 3) := by decide +kernel
theorem dX7_drawn_98 : decode cX7_drawn 98 = .ok (.ifCond .eq 14, 3) := by decide +kernel
theorem dX7_drawn_101 : decode cX7_drawn 101 = .ok (.iconst 1, 1) := by decide +kernel
theorem dX7_drawn_102 : decode cX7_drawn 102 = .ok (.aload_n 0, 1) := by decide +kernel
theorem dX7_drawn_103 : decode cX7_drawn 103 = .ok (.getfield 22, 3) := by decide +kernel
theorem dX7_drawn_106 : decode cX7_drawn 106 = .ok (.iload_n 3, 1) := by decide +kernel
theorem dX7_drawn_107 : decode cX7_drawn 107 = .ok (.iaload, 1) := by decide +kernel
theorem dX7_drawn_108 : decode cX7_drawn 108 = .ok (.ishl, 1) := by decide +kernel
theorem dX7_drawn_109 : decode cX7_drawn 109 = .ok (.goto 4, 3) := by decide +kernel
theorem dX7_drawn_112 : decode cX7_drawn 112 = .ok (.iconst 0, 1) := by decide +kernel
theorem dX7_drawn_113 : decode cX7_drawn 113 = .ok (.ior, 1) := by decide +kernel
theorem dX7_drawn_114 : decode cX7_drawn 114 = .ok (.istore_n 1, 1) := by decide +kernel
theorem dX7_drawn_115 : decode cX7_drawn 115 = .ok (.iinc 3 1, 3) := by decide +kernel
theorem dX7_drawn_118 : decode cX7_drawn 118 = .ok (.goto (-39), 3) := by decide +kernel
theorem dX7_drawn_121 : decode cX7_drawn 121 = .ok (.iinc 2 1, 3) := by decide +kernel
theorem dX7_drawn_124 : decode cX7_drawn 124 = .ok (.goto (-52), 3) := by decide +kernel
theorem dX7_drawn_127 : decode cX7_drawn 127 = .ok (.iload_n 1, 1) := by decide +kernel
theorem dX7_drawn_128 : decode cX7_drawn 128 = .ok (.ireturn, 1) := by decide +kernel
theorem dX7_factorial_0 : decode cX7_factorial 0 = .ok (.iconst 1, 1) := by decide +kernel
theorem dX7_factorial_1 : decode cX7_factorial 1 = .ok (.istore_n 1, 1) := by decide +kernel
theorem dX7_factorial_2 : decode cX7_factorial 2 = .ok (.iconst 2, 1) := by decide +kernel
theorem dX7_factorial_3 : decode cX7_factorial 3 = .ok (.istore_n 2, 1) := by decide +kernel
theorem dX7_factorial_4 : decode cX7_factorial 4 = .ok (.iload_n 2, 1) := by decide +kernel
theorem dX7_factorial_5 : decode cX7_factorial 5 = .ok (.iload_n 0, 1) := by decide +kernel
theorem dX7_factorial_6 : decode cX7_factorial 6 = .ok (.if_icmp .gt 13, 3) := by decide +kernel
theorem dX7_factorial_9 : decode cX7_factorial 9 = .ok (.iload_n 1, 1) := by decide +kernel
theorem dX7_factorial_10 : decode cX7_factorial 10 = .ok (.iload_n 2, 1) := by decide +kernel
theorem dX7_factorial_11 : decode cX7_factorial 11 = .ok (.imul, 1) := by decide +kernel
theorem dX7_factorial_12 : decode cX7_factorial 12 = .ok (.istore_n 1, 1) := by decide +kernel
theorem dX7_factorial_13 : decode cX7_factorial 13 = .ok (.iinc 2 1, 3) := by decide +kernel
theorem dX7_factorial_16 : decode cX7_factorial 16 = .ok (.goto (-12), 3) := by decide +kernel
theorem dX7_factorial_19 : decode cX7_factorial 19 = .ok (.iload_n 1, 1) := by decide +kernel
theorem dX7_factorial_20 : decode cX7_factorial 20 = .ok (.ireturn, 1) := by decide +kernel
theorem dX7_figure_0 : decode cX7_figure 0 = .ok (.aload_n 0, 1) := by decide +kernel
theorem dX7_figure_1 : decode cX7_figure 1 = .ok (.getfield 81, 3) := by decide +kernel
theorem dX7_figure_4 : decode cX7_figure 4 = .ok (.bipush (-9), 2) := by decide +kernel
theorem dX7_figure_6 : decode cX7_figure 6 = .ok (.if_icmp .ne 29, 3) := by decide +kernel
theorem dX7_figure_9 : decode cX7_figure 9 = .ok (.aload_n 0, 1) := by decide +kernel
theorem dX7_figure_10 : decode cX7_figure 10 = .ok (.getfield 84, 3) := by decide +kernel
theorem dX7_figure_13 : decode cX7_figure 13 = .ok (.aload_n 0, 1) := by decide +kernel
theorem dX7_figure_14 : decode cX7_figure 14 = .ok (.getfield 77, 3) := by decide +kernel
theorem dX7_figure_17 : decode cX7_figure 17 = .ok (.if_icmp .ge 18, 3) := by decide +kernel
theorem dX7_figure_20 : decode cX7_figure 20 = .ok (.aload_n 0, 1) := by decide +kernel
theorem dX7_figure_21 : decode cX7_figure 21 = .ok (.getfield 43, 3) := by decide +kernel
theorem dX7_figure_24 : decode cX7_figure 24 = .ok (.aload_n 0, 1) := by decide +kernel
theorem dX7_figure_25 : decode cX7_figure 25 = .ok (.getfield 84, 3) := by decide +kernel
theorem dX7_figure_28 : decode cX7_figure 28 = .ok (.iaload, 1) := by decide +kernel
theorem dX7_figure_29 : decode cX7_figure 29 = .ok (.bipush 48, 2) := by decide +kernel
theorem dX7_figure_31 : decode cX7_figure 31 = .ok (.isub, 1) := by decide +kernel
theorem dX7_figure_32 : decode cX7_figure 32 = .ok (.goto 5, 3) := by decide +kernel
theorem dX7_figure_35 : decode cX7_figure 35 = .ok (.bipush (-9), 2) := by decide +kernel
theorem dX7_figure_37 : decode cX7_figure 37 = .ok (.istore_n 3, 1) := by decide +kernel
theorem dX7_figure_38 : decode cX7_figure 38 = .ok (.iload_n 3, 1) := by decide +kernel
theorem dX7_figure_39 : decode cX7_figure 39 = .ok (.i2l, 1) := by decide +kernel
theorem dX7_figure_40 : decode cX7_figure 40 = .ok (.iload_n 1, 1) := by decide +kernel
theorem dX7_figure_41 : decode cX7_figure 41 = .ok (.i2l, 1) := by decide +kernel
theorem dX7_figure_42 : decode cX7_figure 42 = .ok (.iload_n 2, 1) := by decide +kernel
theorem dX7_figure_43 : decode cX7_figure 43 = .ok (.i2l, 1) := by decide +kernel
theorem dX7_figure_44 : decode cX7_figure 44 = .ok (.invokestatic 73, 3) := by decide +kernel
theorem dX7_figure_47 : decode cX7_figure 47 = .ok (.ifCond .ne 29, 3) := by decide +kernel
theorem dX7_figure_50 : decode cX7_figure 50 = .ok (.aload_n 0, 1) := by decide +kernel
theorem dX7_figure_51 : decode cX7_figure 51 = .ok (.aload_n 0, 1) := by decide +kernel
theorem dX7_figure_52 : decode cX7_figure 52 = .ok (.getfield 81, 3) := by decide +kernel
theorem dX7_figure_55 : decode cX7_figure 55 = .ok (.bipush (-9), 2) := by decide +kernel
theorem dX7_figure_57 : decode cX7_figure 57 = .ok (.if_icmp .ne 10, 3) := by decide +kernel
theorem dX7_figure_60 : decode cX7_figure 60 = .ok (.aload_n 0, 1) := by decide +kernel
theorem dX7_figure_61 : decode cX7_figure 61 = .ok (.getfield 84, 3) := by decide +kernel
theorem dX7_figure_64 : decode cX7_figure 64 = .ok (.goto 7, 3) := by decide +kernel
theorem dX7_figure_67 : decode cX7_figure 67 = .ok (.aload_n 0, 1) := by decide +kernel
theorem dX7_figure_68 : decode cX7_figure 68 = .ok (.getfield 81, 3) := by decide +kernel
theorem dX7_figure_71 : decode cX7_figure 71 = .ok (.putfield 81, 3) := by decide +kernel
theorem dX7_figure_74 : decode cX7_figure 74 = .ok (.iload_n 1, 1) := by decide +kernel
theorem dX7_figure_75 : decode cX7_figure 75 = .ok (.ireturn, 1) := by decide +kernel
theorem dX7_figure_76 : decode cX7_figure 76 = .ok (.aload_n 0, 1) := by decide +kernel
theorem dX7_figure_77 : decode cX7_figure 77 = .ok (.dup, 1) := by decide +kernel
theorem dX7_figure_78 : decode cX7_figure 78 = .ok (.getfield 84, 3) := by decide +kernel
theorem dX7_figure_81 : decode cX7_figure 81 = .ok (.iconst 1, 1) := by decide +kernel
theorem dX7_figure_82 : decode cX7_figure 82 = .ok (.iadd, 1) := by decide +kernel
theorem dX7_figure_83 : decode cX7_figure 83 = .ok (.putfield 84, 3) := by decide +kernel
theorem dX7_figure_86 : decode cX7_figure 86 = .ok (.iload_n 3, 1) := by decide +kernel
theorem dX7_figure_87 : decode cX7_figure 87 = .ok (.ireturn, 1) := by decide +kernel
theorem dX7_figureOf_0 : decode cX7_figureOf 0 = .ok (.aload_n 0, 1) := by decide +kernel
theorem dX7_figureOf_1 : decode cX7_figureOf 1 = .ok (.getfield 81, 3) := by decide +kernel
theorem dX7_figureOf_4 : decode cX7_figureOf 4 = .ok (.bipush (-9), 2) := by decide +kernel
theorem dX7_figureOf_6 : decode cX7_figureOf 6 = .ok (.if_icmp .ne 29, 3) := by decide +kernel
theorem dX7_figureOf_9 : decode cX7_figureOf 9 = .ok (.aload_n 0, 1) := by decide +kernel
theorem dX7_figureOf_10 : decode cX7_figureOf 10 = .ok (.getfield 84, 3) := by decide +kernel
theorem dX7_figureOf_13 : decode cX7_figureOf 13 = .ok (.aload_n 0, 1) := by decide +kernel
theorem dX7_figureOf_14 : decode cX7_figureOf 14 = .ok (.getfield 77, 3) := by decide +kernel
theorem dX7_figureOf_17 : decode cX7_figureOf 17 = .ok (.if_icmp .ge 18, 3) := by decide +kernel
theorem dX7_figureOf_20 : decode cX7_figureOf 20 = .ok (.aload_n 0, 1) := by decide +kernel
theorem dX7_figureOf_21 : decode cX7_figureOf 21 = .ok (.getfield 43, 3) := by decide +kernel
theorem dX7_figureOf_24 : decode cX7_figureOf 24 = .ok (.aload_n 0, 1) := by decide +kernel
theorem dX7_figureOf_25 : decode cX7_figureOf 25 = .ok (.getfield 84, 3) := by decide +kernel
theorem dX7_figureOf_28 : decode cX7_figureOf 28 = .ok (.iaload, 1) := by decide +kernel
theorem dX7_figureOf_29 : decode cX7_figureOf 29 = .ok (.bipush 48, 2) := by decide +kernel
theorem dX7_figureOf_31 : decode cX7_figureOf 31 = .ok (.isub, 1) := by decide +kernel
theorem dX7_figureOf_32 : decode cX7_figureOf 32 = .ok (.goto 5, 3) := by decide +kernel
theorem dX7_figureOf_35 : decode cX7_figureOf 35 = .ok (.bipush (-9), 2) := by decide +kernel
theorem dX7_figureOf_37 : decode cX7_figureOf 37 = .ok (.istore_n 2, 1) := by decide +kernel
theorem dX7_figureOf_38 : decode cX7_figureOf 38 = .ok (.iload_n 2, 1) := by decide +kernel
theorem dX7_figureOf_39 : decode cX7_figureOf 39 = .ok (.i2l, 1) := by decide +kernel
theorem dX7_figureOf_40 : decode cX7_figureOf 40 = .ok (.lconst 0, 1) := by decide +kernel
theorem dX7_figureOf_41 : decode cX7_figureOf 41 = .ok (.ldc2_w 87, 3) := by decide +kernel
theorem dX7_figureOf_44 : decode cX7_figureOf 44 = .ok (.invokestatic 73, 3) := by decide +kernel
theorem dX7_figureOf_47 : decode cX7_figureOf 47 = .ok (.ifCond .eq 11, 3) := by decide +kernel
theorem dX7_figureOf_50 : decode cX7_figureOf 50 = .ok (.iload_n 1, 1) := by decide +kernel
theorem dX7_figureOf_51 : decode cX7_figureOf 51 = .ok (.iload_n 2, 1) := by decide +kernel
theorem dX7_figureOf_52 : decode cX7_figureOf 52 = .ok (.invokestatic 89, 3) := by decide +kernel
theorem dX7_figureOf_55 : decode cX7_figureOf 55 = .ok (.ifCond .ne 29, 3) := by decide +kernel
theorem dX7_figureOf_58 : decode cX7_figureOf 58 = .ok (.aload_n 0, 1) := by decide +kernel
theorem dX7_figureOf_59 : decode cX7_figureOf 59 = .ok (.aload_n 0, 1) := by decide +kernel
theorem dX7_figureOf_60 : decode cX7_figureOf 60 = .ok (.getfield 81, 3) := by decide +kernel
theorem dX7_figureOf_63 : decode cX7_figureOf 63 = .ok (.bipush (-9), 2) := by decide +kernel
theorem dX7_figureOf_65 : decode cX7_figureOf 65 = .ok (.if_icmp .ne 10, 3) := by decide +kernel
theorem dX7_figureOf_68 : decode cX7_figureOf 68 = .ok (.aload_n 0, 1) := by decide +kernel
theorem dX7_figureOf_69 : decode cX7_figureOf 69 = .ok (.getfield 84, 3) := by decide +kernel
theorem dX7_figureOf_72 : decode cX7_figureOf 72 = .ok (.goto 7, 3) := by decide +kernel
theorem dX7_figureOf_75 : decode cX7_figureOf 75 = .ok (.aload_n 0, 1) := by decide +kernel
theorem dX7_figureOf_76 : decode cX7_figureOf 76 = .ok (.getfield 81, 3) := by decide +kernel
theorem dX7_figureOf_79 : decode cX7_figureOf 79 = .ok (.putfield 81, 3) := by decide +kernel
theorem dX7_figureOf_82 : decode cX7_figureOf 82 = .ok (.iconst 0, 1) := by decide +kernel
theorem dX7_figureOf_83 : decode cX7_figureOf 83 = .ok (.ireturn, 1) := by decide +kernel
theorem dX7_figureOf_84 : decode cX7_figureOf 84 = .ok (.aload_n 0, 1) := by decide +kernel
theorem dX7_figureOf_85 : decode cX7_figureOf 85 = .ok (.dup, 1) := by decide +kernel
theorem dX7_figureOf_86 : decode cX7_figureOf 86 = .ok (.getfield 84, 3) := by decide +kernel
theorem dX7_figureOf_89 : decode cX7_figureOf 89 = .ok (.iconst 1, 1) := by decide +kernel
theorem dX7_figureOf_90 : decode cX7_figureOf 90 = .ok (.iadd, 1) := by decide +kernel
theorem dX7_figureOf_91 : decode cX7_figureOf 91 = .ok (.putfield 84, 3) := by decide +kernel
theorem dX7_figureOf_94 : decode cX7_figureOf 94 = .ok (.iload_n 2, 1) := by decide +kernel
theorem dX7_figureOf_95 : decode cX7_figureOf 95 = .ok (.ireturn, 1) := by decide +kernel
theorem dX7_readPart_0 : decode cX7_readPart 0 = .ok (.iload_n 1, 1) := by decide +kernel
theorem dX7_readPart_1 : decode cX7_readPart 1 = .ok (.bipush 84, 2) := by decide +kernel
theorem dX7_readPart_3 : decode cX7_readPart 3 = .ok (.if_icmp .ne 120, 3) := by decide +kernel
theorem dX7_readPart_6 : decode cX7_readPart 6 = .ok (.aload_n 0, 1) := by decide +kernel
theorem dX7_readPart_7 : decode cX7_readPart 7 = .ok (.getfield 93, 3) := by decide +kernel
theorem dX7_readPart_10 : decode cX7_readPart 10 = .ok (.iconst 4, 1) := by decide +kernel
theorem dX7_readPart_11 : decode cX7_readPart 11 = .ok (.if_icmp .ge 112, 3) := by decide +kernel
theorem dX7_readPart_14 : decode cX7_readPart 14 = .ok (.aload_n 0, 1) := by decide +kernel
theorem dX7_readPart_15 : decode cX7_readPart 15 = .ok (.dup, 1) := by decide +kernel
theorem dX7_readPart_16 : decode cX7_readPart 16 = .ok (.getfield 84, 3) := by decide +kernel
theorem dX7_readPart_19 : decode cX7_readPart 19 = .ok (.iconst 1, 1) := by decide +kernel
theorem dX7_readPart_20 : decode cX7_readPart 20 = .ok (.iadd, 1) := by decide +kernel
theorem dX7_readPart_21 : decode cX7_readPart 21 = .ok (.putfield 84, 3) := by decide +kernel
theorem dX7_readPart_24 : decode cX7_readPart 24 = .ok (.iconst 5, 1) := by decide +kernel
theorem dX7_readPart_25 : decode cX7_readPart 25 = .ok (.aload_n 0, 1) := by decide +kernel
theorem dX7_readPart_26 : decode cX7_readPart 26 = .ok (.getfield 93, 3) := by decide +kernel
theorem dX7_readPart_29 : decode cX7_readPart 29 = .ok (.imul, 1) := by decide +kernel
theorem dX7_readPart_30 : decode cX7_readPart 30 = .ok (.istore_n 2, 1) := by decide +kernel
theorem dX7_readPart_31 : decode cX7_readPart 31 = .ok (.aload_n 0, 1) := by decide +kernel
theorem dX7_readPart_32 : decode cX7_readPart 32 = .ok (.getfield 25, 3) := by decide +kernel
theorem dX7_readPart_35 : decode cX7_readPart 35 = .ok (.iload_n 2, 1) := by decide +kernel
theorem dX7_readPart_36 : decode cX7_readPart 36 = .ok (.aload_n 0, 1) := by decide +kernel
theorem dX7_readPart_37 : decode cX7_readPart 37 = .ok (.iconst 1, 1) := by decide +kernel
theorem dX7_readPart_38 : decode cX7_readPart 38 = .ok (.bipush 8, 2) := by decide +kernel
theorem dX7_readPart_40 : decode cX7_readPart 40 = .ok (.invokevirtual 110, 3) := by decide +kernel
theorem dX7_readPart_43 : decode cX7_readPart 43 = .ok (.iastore, 1) := by decide +kernel
theorem dX7_readPart_44 : decode cX7_readPart 44 = .ok (.aload_n 0, 1) := by decide +kernel
theorem dX7_readPart_45 : decode cX7_readPart 45 = .ok (.getfield 25, 3) := by decide +kernel
theorem dX7_readPart_48 : decode cX7_readPart 48 = .ok (.iload_n 2, 1) := by decide +kernel
theorem dX7_readPart_49 : decode cX7_readPart 49 = .ok (.iconst 1, 1) := by decide +kernel
theorem dX7_readPart_50 : decode cX7_readPart 50 = .ok (.iadd, 1) := by decide +kernel
theorem dX7_readPart_51 : decode cX7_readPart 51 = .ok (.aload_n 0, 1) := by decide +kernel
theorem dX7_readPart_52 : decode cX7_readPart 52 = .ok (.aload_n 0, 1) := by decide +kernel
theorem dX7_readPart_53 : decode cX7_readPart 53 = .ok (.getfield 25, 3) := by decide +kernel
theorem dX7_readPart_56 : decode cX7_readPart 56 = .ok (.iload_n 2, 1) := by decide +kernel
theorem dX7_readPart_57 : decode cX7_readPart 57 = .ok (.iaload, 1) := by decide +kernel
theorem dX7_readPart_58 : decode cX7_readPart 58 = .ok (.iconst 1, 1) := by decide +kernel
theorem dX7_readPart_59 : decode cX7_readPart 59 = .ok (.iadd, 1) := by decide +kernel
theorem dX7_readPart_60 : decode cX7_readPart 60 = .ok (.bipush 9, 2) := by decide +kernel
theorem dX7_readPart_62 : decode cX7_readPart 62 = .ok (.invokevirtual 110, 3) := by decide +kernel
theorem dX7_readPart_65 : decode cX7_readPart 65 = .ok (.iastore, 1) := by decide +kernel
theorem dX7_readPart_66 : decode cX7_readPart 66 = .ok (.aload_n 0, 1) := by decide +kernel
theorem dX7_readPart_67 : decode cX7_readPart 67 = .ok (.getfield 25, 3) := by decide +kernel
theorem dX7_readPart_70 : decode cX7_readPart 70 = .ok (.iload_n 2, 1) := by decide +kernel
theorem dX7_readPart_71 : decode cX7_readPart 71 = .ok (.iconst 2, 1) := by decide +kernel
theorem dX7_readPart_72 : decode cX7_readPart 72 = .ok (.iadd, 1) := by decide +kernel
theorem dX7_readPart_73 : decode cX7_readPart 73 = .ok (.aload_n 0, 1) := by decide +kernel
theorem dX7_readPart_74 : decode cX7_readPart 74 = .ok (.iconst 0, 1) := by decide +kernel
theorem dX7_readPart_75 : decode cX7_readPart 75 = .ok (.bipush 9, 2) := by decide +kernel
theorem dX7_readPart_77 : decode cX7_readPart 77 = .ok (.invokevirtual 110, 3) := by decide +kernel
theorem dX7_readPart_80 : decode cX7_readPart 80 = .ok (.iastore, 1) := by decide +kernel
theorem dX7_readPart_81 : decode cX7_readPart 81 = .ok (.aload_n 0, 1) := by decide +kernel
theorem dX7_readPart_82 : decode cX7_readPart 82 = .ok (.getfield 25, 3) := by decide +kernel
theorem dX7_readPart_85 : decode cX7_readPart 85 = .ok (.iload_n 2, 1) := by decide +kernel
theorem dX7_readPart_86 : decode cX7_readPart 86 = .ok (.iconst 3, 1) := by decide +kernel
theorem dX7_readPart_87 : decode cX7_readPart 87 = .ok (.iadd, 1) := by decide +kernel
theorem dX7_readPart_88 : decode cX7_readPart 88 = .ok (.aload_n 0, 1) := by decide +kernel
theorem dX7_readPart_89 : decode cX7_readPart 89 = .ok (.iconst 1, 1) := by decide +kernel
theorem dX7_readPart_90 : decode cX7_readPart 90 = .ok (.bipush 9, 2) := by decide +kernel
theorem dX7_readPart_92 : decode cX7_readPart 92 = .ok (.invokevirtual 110, 3) := by decide +kernel
theorem dX7_readPart_95 : decode cX7_readPart 95 = .ok (.iastore, 1) := by decide +kernel
theorem dX7_readPart_96 : decode cX7_readPart 96 = .ok (.aload_n 0, 1) := by decide +kernel
theorem dX7_readPart_97 : decode cX7_readPart 97 = .ok (.getfield 25, 3) := by decide +kernel
theorem dX7_readPart_100 : decode cX7_readPart 100 = .ok (.iload_n 2, 1) := by decide +kernel
theorem dX7_readPart_101 : decode cX7_readPart 101 = .ok (.iconst 4, 1) := by decide +kernel
theorem dX7_readPart_102 : decode cX7_readPart 102 = .ok (.iadd, 1) := by decide +kernel
theorem dX7_readPart_103 : decode cX7_readPart 103 = .ok (.aload_n 0, 1) := by decide +kernel
theorem dX7_readPart_104 : decode cX7_readPart 104 = .ok (.iconst 0, 1) := by decide +kernel
theorem dX7_readPart_105 : decode cX7_readPart 105 = .ok (.iconst 1, 1) := by decide +kernel
theorem dX7_readPart_106 : decode cX7_readPart 106 = .ok (.invokevirtual 110, 3) := by decide +kernel
theorem dX7_readPart_109 : decode cX7_readPart 109 = .ok (.iastore, 1) := by decide +kernel
theorem dX7_readPart_110 : decode cX7_readPart 110 = .ok (.aload_n 0, 1) := by decide +kernel
theorem dX7_readPart_111 : decode cX7_readPart 111 = .ok (.dup, 1) := by decide +kernel
theorem dX7_readPart_112 : decode cX7_readPart 112 = .ok (.getfield 93, 3) := by decide +kernel
theorem dX7_readPart_115 : decode cX7_readPart 115 = .ok (.iconst 1, 1) := by decide +kernel
theorem dX7_readPart_116 : decode cX7_readPart 116 = .ok (.iadd, 1) := by decide +kernel
theorem dX7_readPart_117 : decode cX7_readPart 117 = .ok (.putfield 93, 3) := by decide +kernel
theorem dX7_readPart_120 : decode cX7_readPart 120 = .ok (.goto 186, 3) := by decide +kernel
theorem dX7_readPart_123 : decode cX7_readPart 123 = .ok (.iload_n 1, 1) := by decide +kernel
theorem dX7_readPart_124 : decode cX7_readPart 124 = .ok (.bipush 65, 2) := by decide +kernel
theorem dX7_readPart_126 : decode cX7_readPart 126 = .ok (.if_icmp .ne 89, 3) := by decide +kernel
theorem dX7_readPart_129 : decode cX7_readPart 129 = .ok (.aload_n 0, 1) := by decide +kernel
theorem dX7_readPart_130 : decode cX7_readPart 130 = .ok (.getfield 103, 3) := by decide +kernel
theorem dX7_readPart_133 : decode cX7_readPart 133 = .ok (.iconst 4, 1) := by decide +kernel
theorem dX7_readPart_134 : decode cX7_readPart 134 = .ok (.if_icmp .ge 81, 3) := by decide +kernel
theorem dX7_readPart_137 : decode cX7_readPart 137 = .ok (.aload_n 0, 1) := by decide +kernel
theorem dX7_readPart_138 : decode cX7_readPart 138 = .ok (.getfield 93, 3) := by decide +kernel
theorem dX7_readPart_141 : decode cX7_readPart 141 = .ok (.ifCond .le 74, 3) := by decide +kernel
theorem dX7_readPart_144 : decode cX7_readPart 144 = .ok (.aload_n 0, 1) := by decide +kernel
theorem dX7_readPart_145 : decode cX7_readPart 145 = .ok (.dup, 1) := by decide +kernel
theorem dX7_readPart_146 : decode cX7_readPart 146 = .ok (.getfield 84, 3) := by decide +kernel
theorem dX7_readPart_149 : decode cX7_readPart 149 = .ok (.iconst 1, 1) := by decide +kernel
theorem dX7_readPart_150 : decode cX7_readPart 150 = .ok (.iadd, 1) := by decide +kernel
theorem dX7_readPart_151 : decode cX7_readPart 151 = .ok (.putfield 84, 3) := by decide +kernel
theorem dX7_readPart_154 : decode cX7_readPart 154 = .ok (.aload_n 0, 1) := by decide +kernel
theorem dX7_readPart_155 : decode cX7_readPart 155 = .ok (.getfield 28, 3) := by decide +kernel
theorem dX7_readPart_158 : decode cX7_readPart 158 = .ok (.aload_n 0, 1) := by decide +kernel
theorem dX7_readPart_159 : decode cX7_readPart 159 = .ok (.getfield 103, 3) := by decide +kernel
theorem dX7_readPart_162 : decode cX7_readPart 162 = .ok (.aload_n 0, 1) := by decide +kernel
theorem dX7_readPart_163 : decode cX7_readPart 163 = .ok (.iconst 0, 1) := by decide +kernel
theorem dX7_readPart_164 : decode cX7_readPart 164 = .ok (.aload_n 0, 1) := by decide +kernel
theorem dX7_readPart_165 : decode cX7_readPart 165 = .ok (.getfield 93, 3) := by decide +kernel
theorem dX7_readPart_168 : decode cX7_readPart 168 = .ok (.iconst 1, 1) := by decide +kernel
theorem dX7_readPart_169 : decode cX7_readPart 169 = .ok (.isub, 1) := by decide +kernel
theorem dX7_readPart_170 : decode cX7_readPart 170 = .ok (.invokevirtual 110, 3) := by decide +kernel
theorem dX7_readPart_173 : decode cX7_readPart 173 = .ok (.iastore, 1) := by decide +kernel
theorem dX7_readPart_174 : decode cX7_readPart 174 = .ok (.aload_n 0, 1) := by decide +kernel
theorem dX7_readPart_175 : decode cX7_readPart 175 = .ok (.getfield 31, 3) := by decide +kernel
theorem dX7_readPart_178 : decode cX7_readPart 178 = .ok (.aload_n 0, 1) := by decide +kernel
theorem dX7_readPart_179 : decode cX7_readPart 179 = .ok (.getfield 103, 3) := by decide +kernel
theorem dX7_readPart_182 : decode cX7_readPart 182 = .ok (.aload_n 0, 1) := by decide +kernel
theorem dX7_readPart_183 : decode cX7_readPart 183 = .ok (.aload_n 0, 1) := by decide +kernel
theorem dX7_readPart_184 : decode cX7_readPart 184 = .ok (.getfield 28, 3) := by decide +kernel
theorem dX7_readPart_187 : decode cX7_readPart 187 = .ok (.aload_n 0, 1) := by decide +kernel
theorem dX7_readPart_188 : decode cX7_readPart 188 = .ok (.getfield 103, 3) := by decide +kernel
theorem dX7_readPart_191 : decode cX7_readPart 191 = .ok (.iaload, 1) := by decide +kernel
theorem dX7_readPart_192 : decode cX7_readPart 192 = .ok (.aload_n 0, 1) := by decide +kernel
theorem dX7_readPart_193 : decode cX7_readPart 193 = .ok (.getfield 93, 3) := by decide +kernel
theorem dX7_readPart_196 : decode cX7_readPart 196 = .ok (.iconst 1, 1) := by decide +kernel
theorem dX7_readPart_197 : decode cX7_readPart 197 = .ok (.isub, 1) := by decide +kernel
theorem dX7_readPart_198 : decode cX7_readPart 198 = .ok (.invokevirtual 110, 3) := by decide +kernel
theorem dX7_readPart_201 : decode cX7_readPart 201 = .ok (.iastore, 1) := by decide +kernel
theorem dX7_readPart_202 : decode cX7_readPart 202 = .ok (.aload_n 0, 1) := by decide +kernel
theorem dX7_readPart_203 : decode cX7_readPart 203 = .ok (.dup, 1) := by decide +kernel
theorem dX7_readPart_204 : decode cX7_readPart 204 = .ok (.getfield 103, 3) := by decide +kernel
theorem dX7_readPart_207 : decode cX7_readPart 207 = .ok (.iconst 1, 1) := by decide +kernel
theorem dX7_readPart_208 : decode cX7_readPart 208 = .ok (.iadd, 1) := by decide +kernel
theorem dX7_readPart_209 : decode cX7_readPart 209 = .ok (.putfield 103, 3) := by decide +kernel
theorem dX7_readPart_212 : decode cX7_readPart 212 = .ok (.goto 94, 3) := by decide +kernel
theorem dX7_readPart_215 : decode cX7_readPart 215 = .ok (.iload_n 1, 1) := by decide +kernel
theorem dX7_readPart_216 : decode cX7_readPart 216 = .ok (.bipush 76, 2) := by decide +kernel
theorem dX7_readPart_218 : decode cX7_readPart 218 = .ok (.if_icmp .ne 80, 3) := by decide +kernel
theorem dX7_readPart_221 : decode cX7_readPart 221 = .ok (.aload_n 0, 1) := by decide +kernel
theorem dX7_readPart_222 : decode cX7_readPart 222 = .ok (.getfield 96, 3) := by decide +kernel
theorem dX7_readPart_225 : decode cX7_readPart 225 = .ok (.iconst 3, 1) := by decide +kernel
theorem dX7_readPart_226 : decode cX7_readPart 226 = .ok (.if_icmp .ge 72, 3) := by decide +kernel
theorem dX7_readPart_229 : decode cX7_readPart 229 = .ok (.aload_n 0, 1) := by decide +kernel
theorem dX7_readPart_230 : decode cX7_readPart 230 = .ok (.invokevirtual 114, 3) := by decide +kernel
theorem dX7_readPart_233 : decode cX7_readPart 233 = .ok (.ifCond .eq 65, 3) := by decide +kernel
theorem dX7_readPart_236 : decode cX7_readPart 236 = .ok (.aload_n 0, 1) := by decide +kernel
theorem dX7_readPart_237 : decode cX7_readPart 237 = .ok (.dup, 1) := by decide +kernel
theorem dX7_readPart_238 : decode cX7_readPart 238 = .ok (.getfield 84, 3) := by decide +kernel
theorem dX7_readPart_241 : decode cX7_readPart 241 = .ok (.iconst 1, 1) := by decide +kernel
theorem dX7_readPart_242 : decode cX7_readPart 242 = .ok (.iadd, 1) := by decide +kernel
theorem dX7_readPart_243 : decode cX7_readPart 243 = .ok (.putfield 84, 3) := by decide +kernel
theorem dX7_readPart_246 : decode cX7_readPart 246 = .ok (.aload_n 0, 1) := by decide +kernel
theorem dX7_readPart_247 : decode cX7_readPart 247 = .ok (.aload_n 0, 1) := by decide +kernel
theorem dX7_readPart_248 : decode cX7_readPart 248 = .ok (.invokevirtual 114, 3) := by decide +kernel
theorem dX7_readPart_251 : decode cX7_readPart 251 = .ok (.invokevirtual 118, 3) := by decide +kernel
theorem dX7_readPart_254 : decode cX7_readPart 254 = .ok (.istore_n 2, 1) := by decide +kernel
theorem dX7_readPart_255 : decode cX7_readPart 255 = .ok (.aload_n 0, 1) := by decide +kernel
theorem dX7_readPart_256 : decode cX7_readPart 256 = .ok (.aload_n 0, 1) := by decide +kernel
theorem dX7_readPart_257 : decode cX7_readPart 257 = .ok (.iload_n 2, 1) := by decide +kernel
theorem dX7_readPart_258 : decode cX7_readPart 258 = .ok (.invokevirtual 99, 3) := by decide +kernel
theorem dX7_readPart_261 : decode cX7_readPart 261 = .ok (.invokevirtual 118, 3) := by decide +kernel
theorem dX7_readPart_264 : decode cX7_readPart 264 = .ok (.istore_n 3, 1) := by decide +kernel
theorem dX7_readPart_265 : decode cX7_readPart 265 = .ok (.aload_n 0, 1) := by decide +kernel
theorem dX7_readPart_266 : decode cX7_readPart 266 = .ok (.getfield 34, 3) := by decide +kernel
theorem dX7_readPart_269 : decode cX7_readPart 269 = .ok (.aload_n 0, 1) := by decide +kernel
theorem dX7_readPart_270 : decode cX7_readPart 270 = .ok (.getfield 96, 3) := by decide +kernel
theorem dX7_readPart_273 : decode cX7_readPart 273 = .ok (.iload_n 2, 1) := by decide +kernel
theorem dX7_readPart_274 : decode cX7_readPart 274 = .ok (.iastore, 1) := by decide +kernel
theorem dX7_readPart_275 : decode cX7_readPart 275 = .ok (.aload_n 0, 1) := by decide +kernel
theorem dX7_readPart_276 : decode cX7_readPart 276 = .ok (.getfield 37, 3) := by decide +kernel
theorem dX7_readPart_279 : decode cX7_readPart 279 = .ok (.aload_n 0, 1) := by decide +kernel
theorem dX7_readPart_280 : decode cX7_readPart 280 = .ok (.getfield 96, 3) := by decide +kernel
theorem dX7_readPart_283 : decode cX7_readPart 283 = .ok (.iload_n 3, 1) := by decide +kernel
theorem dX7_readPart_284 : decode cX7_readPart 284 = .ok (.iastore, 1) := by decide +kernel
theorem dX7_readPart_285 : decode cX7_readPart 285 = .ok (.aload_n 0, 1) := by decide +kernel
theorem dX7_readPart_286 : decode cX7_readPart 286 = .ok (.dup, 1) := by decide +kernel
theorem dX7_readPart_287 : decode cX7_readPart 287 = .ok (.getfield 96, 3) := by decide +kernel
theorem dX7_readPart_290 : decode cX7_readPart 290 = .ok (.iconst 1, 1) := by decide +kernel
theorem dX7_readPart_291 : decode cX7_readPart 291 = .ok (.iadd, 1) := by decide +kernel
theorem dX7_readPart_292 : decode cX7_readPart 292 = .ok (.putfield 96, 3) := by decide +kernel
theorem dX7_readPart_295 : decode cX7_readPart 295 = .ok (.goto 11, 3) := by decide +kernel
theorem dX7_readPart_298 : decode cX7_readPart 298 = .ok (.aload_n 0, 1) := by decide +kernel
theorem dX7_readPart_299 : decode cX7_readPart 299 = .ok (.aload_n 0, 1) := by decide +kernel
theorem dX7_readPart_300 : decode cX7_readPart 300 = .ok (.getfield 84, 3) := by decide +kernel
theorem dX7_readPart_303 : decode cX7_readPart 303 = .ok (.putfield 81, 3) := by decide +kernel
theorem dX7_readPart_306 : decode cX7_readPart 306 = .ok (.return_, 1) := by decide +kernel
theorem dX7_readText_0 : decode cX7_readText 0 = .ok (.aload_n 0, 1) := by decide +kernel
theorem dX7_readText_1 : decode cX7_readText 1 = .ok (.iconst 0, 1) := by decide +kernel
theorem dX7_readText_2 : decode cX7_readText 2 = .ok (.putfield 84, 3) := by decide +kernel
theorem dX7_readText_5 : decode cX7_readText 5 = .ok (.aload_n 0, 1) := by decide +kernel
theorem dX7_readText_6 : decode cX7_readText 6 = .ok (.bipush (-9), 2) := by decide +kernel
theorem dX7_readText_8 : decode cX7_readText 8 = .ok (.putfield 81, 3) := by decide +kernel
theorem dX7_readText_11 : decode cX7_readText 11 = .ok (.aload_n 0, 1) := by decide +kernel
theorem dX7_readText_12 : decode cX7_readText 12 = .ok (.iconst 0, 1) := by decide +kernel
theorem dX7_readText_13 : decode cX7_readText 13 = .ok (.putfield 93, 3) := by decide +kernel
theorem dX7_readText_16 : decode cX7_readText 16 = .ok (.aload_n 0, 1) := by decide +kernel
theorem dX7_readText_17 : decode cX7_readText 17 = .ok (.iconst 0, 1) := by decide +kernel
theorem dX7_readText_18 : decode cX7_readText 18 = .ok (.putfield 103, 3) := by decide +kernel
theorem dX7_readText_21 : decode cX7_readText 21 = .ok (.aload_n 0, 1) := by decide +kernel
theorem dX7_readText_22 : decode cX7_readText 22 = .ok (.iconst 0, 1) := by decide +kernel
theorem dX7_readText_23 : decode cX7_readText 23 = .ok (.putfield 96, 3) := by decide +kernel
theorem dX7_readText_26 : decode cX7_readText 26 = .ok (.aload_n 0, 1) := by decide +kernel
theorem dX7_readText_27 : decode cX7_readText 27 = .ok (.getfield 77, 3) := by decide +kernel
theorem dX7_readText_30 : decode cX7_readText 30 = .ok (.ifCond .eq 14, 3) := by decide +kernel
theorem dX7_readText_33 : decode cX7_readText 33 = .ok (.aload_n 0, 1) := by decide +kernel
theorem dX7_readText_34 : decode cX7_readText 34 = .ok (.getfield 43, 3) := by decide +kernel
theorem dX7_readText_37 : decode cX7_readText 37 = .ok (.iconst 0, 1) := by decide +kernel
theorem dX7_readText_38 : decode cX7_readText 38 = .ok (.iaload, 1) := by decide +kernel
theorem dX7_readText_39 : decode cX7_readText 39 = .ok (.bipush 67, 2) := by decide +kernel
theorem dX7_readText_41 : decode cX7_readText 41 = .ok (.if_icmp .eq 5, 3) := by decide +kernel
theorem dX7_readText_44 : decode cX7_readText 44 = .ok (.iconst 0, 1) := by decide +kernel
theorem dX7_readText_45 : decode cX7_readText 45 = .ok (.ireturn, 1) := by decide +kernel
theorem dX7_readText_46 : decode cX7_readText 46 = .ok (.aload_n 0, 1) := by decide +kernel
theorem dX7_readText_47 : decode cX7_readText 47 = .ok (.iconst 1, 1) := by decide +kernel
theorem dX7_readText_48 : decode cX7_readText 48 = .ok (.putfield 84, 3) := by decide +kernel
theorem dX7_readText_51 : decode cX7_readText 51 = .ok (.aload_n 0, 1) := by decide +kernel
theorem dX7_readText_52 : decode cX7_readText 52 = .ok (.getfield 81, 3) := by decide +kernel
theorem dX7_readText_55 : decode cX7_readText 55 = .ok (.bipush (-9), 2) := by decide +kernel
theorem dX7_readText_57 : decode cX7_readText 57 = .ok (.if_icmp .ne 30, 3) := by decide +kernel
theorem dX7_readText_60 : decode cX7_readText 60 = .ok (.aload_n 0, 1) := by decide +kernel
theorem dX7_readText_61 : decode cX7_readText 61 = .ok (.getfield 84, 3) := by decide +kernel
theorem dX7_readText_64 : decode cX7_readText 64 = .ok (.aload_n 0, 1) := by decide +kernel
theorem dX7_readText_65 : decode cX7_readText 65 = .ok (.getfield 77, 3) := by decide +kernel
theorem dX7_readText_68 : decode cX7_readText 68 = .ok (.if_icmp .ge 19, 3) := by decide +kernel
theorem dX7_readText_71 : decode cX7_readText 71 = .ok (.aload_n 0, 1) := by decide +kernel
theorem dX7_readText_72 : decode cX7_readText 72 = .ok (.aload_n 0, 1) := by decide +kernel
theorem dX7_readText_73 : decode cX7_readText 73 = .ok (.getfield 43, 3) := by decide +kernel
theorem dX7_readText_76 : decode cX7_readText 76 = .ok (.aload_n 0, 1) := by decide +kernel
theorem dX7_readText_77 : decode cX7_readText 77 = .ok (.getfield 84, 3) := by decide +kernel
theorem dX7_readText_80 : decode cX7_readText 80 = .ok (.iaload, 1) := by decide +kernel
theorem dX7_readText_81 : decode cX7_readText 81 = .ok (.invokevirtual 106, 3) := by decide +kernel
theorem dX7_readText_84 : decode cX7_readText 84 = .ok (.goto (-33), 3) := by decide +kernel
theorem dX7_readText_87 : decode cX7_readText 87 = .ok (.aload_n 0, 1) := by decide +kernel
theorem dX7_readText_88 : decode cX7_readText 88 = .ok (.getfield 81, 3) := by decide +kernel
theorem dX7_readText_91 : decode cX7_readText 91 = .ok (.ireturn, 1) := by decide +kernel
theorem dX7_fault_0 : decode cX7_fault 0 = .ok (.aload_n 0, 1) := by decide +kernel
theorem dX7_fault_1 : decode cX7_fault 1 = .ok (.invokevirtual 121, 3) := by decide +kernel
theorem dX7_fault_4 : decode cX7_fault 4 = .ok (.ireturn, 1) := by decide +kernel
theorem dX7_fewest_0 : decode cX7_fewest 0 = .ok (.bipush (-9), 2) := by decide +kernel
theorem dX7_fewest_2 : decode cX7_fewest 2 = .ok (.istore_n 1, 1) := by decide +kernel
theorem dX7_fewest_3 : decode cX7_fewest 3 = .ok (.iconst 0, 1) := by decide +kernel
theorem dX7_fewest_4 : decode cX7_fewest 4 = .ok (.istore_n 2, 1) := by decide +kernel
theorem dX7_fewest_5 : decode cX7_fewest 5 = .ok (.iload_n 2, 1) := by decide +kernel
theorem dX7_fewest_6 : decode cX7_fewest 6 = .ok (.iconst 1, 1) := by decide +kernel
theorem dX7_fewest_7 : decode cX7_fewest 7 = .ok (.aload_n 0, 1) := by decide +kernel
theorem dX7_fewest_8 : decode cX7_fewest 8 = .ok (.getfield 124, 3) := by decide +kernel
theorem dX7_fewest_11 : decode cX7_fewest 11 = .ok (.ishl, 1) := by decide +kernel
theorem dX7_fewest_12 : decode cX7_fewest 12 = .ok (.if_icmp .ge 132, 3) := by decide +kernel
theorem dX7_fewest_15 : decode cX7_fewest 15 = .ok (.iload_n 1, 1) := by decide +kernel
theorem dX7_fewest_16 : decode cX7_fewest 16 = .ok (.bipush (-9), 2) := by decide +kernel
theorem dX7_fewest_18 : decode cX7_fewest 18 = .ok (.if_icmp .eq 14, 3) := by decide +kernel
theorem dX7_fewest_21 : decode cX7_fewest 21 = .ok (.iload_n 2, 1) := by decide +kernel
theorem dX7_fewest_22 : decode cX7_fewest 22 = .ok (.invokestatic 213, 3) := by decide +kernel
theorem dX7_fewest_25 : decode cX7_fewest 25 = .ok (.iload_n 1, 1) := by decide +kernel
theorem dX7_fewest_26 : decode cX7_fewest 26 = .ok (.invokestatic 213, 3) := by decide +kernel
theorem dX7_fewest_29 : decode cX7_fewest 29 = .ok (.if_icmp .ge 7, 3) := by decide +kernel
theorem dX7_fewest_32 : decode cX7_fewest 32 = .ok (.iconst 1, 1) := by decide +kernel
theorem dX7_fewest_33 : decode cX7_fewest 33 = .ok (.goto 4, 3) := by decide +kernel
theorem dX7_fewest_36 : decode cX7_fewest 36 = .ok (.iconst 0, 1) := by decide +kernel
theorem dX7_fewest_37 : decode cX7_fewest 37 = .ok (.istore_n 3, 1) := by decide +kernel
theorem dX7_fewest_38 : decode cX7_fewest 38 = .ok (.iconst 0, 1) := by decide +kernel
theorem dX7_fewest_39 : decode cX7_fewest 39 = .ok (.istore 4, 2) := by decide +kernel
theorem dX7_fewest_41 : decode cX7_fewest 41 = .ok (.iload 4, 2) := by decide +kernel
theorem dX7_fewest_43 : decode cX7_fewest 43 = .ok (.iconst 1, 1) := by decide +kernel
theorem dX7_fewest_44 : decode cX7_fewest 44 = .ok (.aload_n 0, 1) := by decide +kernel
theorem dX7_fewest_45 : decode cX7_fewest 45 = .ok (.getfield 124, 3) := by decide +kernel
theorem dX7_fewest_48 : decode cX7_fewest 48 = .ok (.ishl, 1) := by decide +kernel
theorem dX7_fewest_49 : decode cX7_fewest 49 = .ok (.if_icmp .ge 79, 3) := by decide +kernel
theorem dX7_fewest_52 : decode cX7_fewest 52 = .ok (.iload_n 3, 1) := by decide +kernel
theorem dX7_fewest_53 : decode cX7_fewest 53 = .ok (.ifCond .eq 75, 3) := by decide +kernel
theorem dX7_fewest_56 : decode cX7_fewest 56 = .ok (.iconst 0, 1) := by decide +kernel
theorem dX7_fewest_57 : decode cX7_fewest 57 = .ok (.istore 5, 2) := by decide +kernel
theorem dX7_fewest_59 : decode cX7_fewest 59 = .ok (.iload 5, 2) := by decide +kernel
theorem dX7_fewest_61 : decode cX7_fewest 61 = .ok (.iload 4, 2) := by decide +kernel
theorem dX7_fewest_63 : decode cX7_fewest 63 = .ok (.if_icmp .ge 59, 3) := by decide +kernel
theorem dX7_fewest_66 : decode cX7_fewest 66 = .ok (.iload_n 3, 1) := by decide +kernel
theorem dX7_fewest_67 : decode cX7_fewest 67 = .ok (.ifCond .eq 55, 3) := by decide +kernel
theorem dX7_fewest_70 : decode cX7_fewest 70 = .ok (.aload_n 0, 1) := by decide +kernel
theorem dX7_fewest_71 : decode cX7_fewest 71 = .ok (.iload 4, 2) := by decide +kernel
theorem dX7_fewest_73 : decode cX7_fewest 73 = .ok (.aload_n 0, 1) := by decide +kernel
theorem dX7_fewest_74 : decode cX7_fewest 74 = .ok (.getfield 40, 3) := by decide +kernel
theorem dX7_fewest_77 : decode cX7_fewest 77 = .ok (.iconst 0, 1) := by decide +kernel
theorem dX7_fewest_78 : decode cX7_fewest 78 = .ok (.iaload, 1) := by decide +kernel
theorem dX7_fewest_79 : decode cX7_fewest 79 = .ok (.invokevirtual 165, 3) := by decide +kernel
theorem dX7_fewest_82 : decode cX7_fewest 82 = .ok (.ifCond .eq 28, 3) := by decide +kernel
theorem dX7_fewest_85 : decode cX7_fewest 85 = .ok (.aload_n 0, 1) := by decide +kernel
theorem dX7_fewest_86 : decode cX7_fewest 86 = .ok (.iload 5, 2) := by decide +kernel
theorem dX7_fewest_88 : decode cX7_fewest 88 = .ok (.aload_n 0, 1) := by decide +kernel
theorem dX7_fewest_89 : decode cX7_fewest 89 = .ok (.getfield 40, 3) := by decide +kernel
theorem dX7_fewest_92 : decode cX7_fewest 92 = .ok (.iconst 0, 1) := by decide +kernel
theorem dX7_fewest_93 : decode cX7_fewest 93 = .ok (.iaload, 1) := by decide +kernel
theorem dX7_fewest_94 : decode cX7_fewest 94 = .ok (.invokevirtual 165, 3) := by decide +kernel
theorem dX7_fewest_97 : decode cX7_fewest 97 = .ok (.ifCond .eq 13, 3) := by decide +kernel
theorem dX7_fewest_100 : decode cX7_fewest 100 = .ok (.iload 4, 2) := by decide +kernel
theorem dX7_fewest_102 : decode cX7_fewest 102 = .ok (.iload 5, 2) := by decide +kernel
theorem dX7_fewest_104 : decode cX7_fewest 104 = .ok (.ixor, 1) := by decide +kernel
theorem dX7_fewest_105 : decode cX7_fewest 105 = .ok (.iload_n 2, 1) := by decide +kernel
theorem dX7_fewest_106 : decode cX7_fewest 106 = .ok (.iand, 1) := by decide +kernel
theorem dX7_fewest_107 : decode cX7_fewest 107 = .ok (.ifCond .eq 7, 3) := by decide +kernel
theorem dX7_fewest_110 : decode cX7_fewest 110 = .ok (.iconst 1, 1) := by decide +kernel
theorem dX7_fewest_111 : decode cX7_fewest 111 = .ok (.goto 4, 3) := by decide +kernel
theorem dX7_fewest_114 : decode cX7_fewest 114 = .ok (.iconst 0, 1) := by decide +kernel
theorem dX7_fewest_115 : decode cX7_fewest 115 = .ok (.istore_n 3, 1) := by decide +kernel
theorem dX7_fewest_116 : decode cX7_fewest 116 = .ok (.iinc 5 1, 3) := by decide +kernel
theorem dX7_fewest_119 : decode cX7_fewest 119 = .ok (.goto (-60), 3) := by decide +kernel
theorem dX7_fewest_122 : decode cX7_fewest 122 = .ok (.iinc 4 1, 3) := by decide +kernel
theorem dX7_fewest_125 : decode cX7_fewest 125 = .ok (.goto (-84), 3) := by decide +kernel
theorem dX7_fewest_128 : decode cX7_fewest 128 = .ok (.iload_n 3, 1) := by decide +kernel
theorem dX7_fewest_129 : decode cX7_fewest 129 = .ok (.ifCond .eq 7, 3) := by decide +kernel
theorem dX7_fewest_132 : decode cX7_fewest 132 = .ok (.iload_n 2, 1) := by decide +kernel
theorem dX7_fewest_133 : decode cX7_fewest 133 = .ok (.goto 4, 3) := by decide +kernel
theorem dX7_fewest_136 : decode cX7_fewest 136 = .ok (.iload_n 1, 1) := by decide +kernel
theorem dX7_fewest_137 : decode cX7_fewest 137 = .ok (.istore_n 1, 1) := by decide +kernel
theorem dX7_fewest_138 : decode cX7_fewest 138 = .ok (.iinc 2 1, 3) := by decide +kernel
theorem dX7_fewest_141 : decode cX7_fewest 141 = .ok (.goto (-136), 3) := by decide +kernel
theorem dX7_fewest_144 : decode cX7_fewest 144 = .ok (.iload_n 1, 1) := by decide +kernel
theorem dX7_fewest_145 : decode cX7_fewest 145 = .ok (.ireturn, 1) := by decide +kernel
theorem dX7_holds_0 : decode cX7_holds 0 = .ok (.aload_n 0, 1) := by decide +kernel
theorem dX7_holds_1 : decode cX7_holds 1 = .ok (.iload_n 1, 1) := by decide +kernel
theorem dX7_holds_2 : decode cX7_holds 2 = .ok (.invokevirtual 146, 3) := by decide +kernel
theorem dX7_holds_5 : decode cX7_holds 5 = .ok (.ifCond .ne 5, 3) := by decide +kernel
theorem dX7_holds_8 : decode cX7_holds 8 = .ok (.iconst (-1), 1) := by decide +kernel
theorem dX7_holds_9 : decode cX7_holds 9 = .ok (.ireturn, 1) := by decide +kernel
theorem dX7_holds_10 : decode cX7_holds 10 = .ok (.iconst 0, 1) := by decide +kernel
theorem dX7_holds_11 : decode cX7_holds 11 = .ok (.istore_n 2, 1) := by decide +kernel
theorem dX7_holds_12 : decode cX7_holds 12 = .ok (.iconst 0, 1) := by decide +kernel
theorem dX7_holds_13 : decode cX7_holds 13 = .ok (.istore_n 3, 1) := by decide +kernel
theorem dX7_holds_14 : decode cX7_holds 14 = .ok (.iload_n 3, 1) := by decide +kernel
theorem dX7_holds_15 : decode cX7_holds 15 = .ok (.iconst 1, 1) := by decide +kernel
theorem dX7_holds_16 : decode cX7_holds 16 = .ok (.aload_n 0, 1) := by decide +kernel
theorem dX7_holds_17 : decode cX7_holds 17 = .ok (.getfield 124, 3) := by decide +kernel
theorem dX7_holds_20 : decode cX7_holds 20 = .ok (.ishl, 1) := by decide +kernel
theorem dX7_holds_21 : decode cX7_holds 21 = .ok (.if_icmp .ge 36, 3) := by decide +kernel
theorem dX7_holds_24 : decode cX7_holds 24 = .ok (.iload_n 2, 1) := by decide +kernel
theorem dX7_holds_25 : decode cX7_holds 25 = .ok (.aload_n 0, 1) := by decide +kernel
theorem dX7_holds_26 : decode cX7_holds 26 = .ok (.iload_n 3, 1) := by decide +kernel
theorem dX7_holds_27 : decode cX7_holds 27 = .ok (.aload_n 0, 1) := by decide +kernel
theorem dX7_holds_28 : decode cX7_holds 28 = .ok (.getfield 40, 3) := by decide +kernel
theorem dX7_holds_31 : decode cX7_holds 31 = .ok (.iconst 0, 1) := by decide +kernel
theorem dX7_holds_32 : decode cX7_holds 32 = .ok (.iaload, 1) := by decide +kernel
theorem dX7_holds_33 : decode cX7_holds 33 = .ok (.aload_n 0, 1) := by decide +kernel
theorem dX7_holds_34 : decode cX7_holds 34 = .ok (.iload_n 1, 1) := by decide +kernel
theorem dX7_holds_35 : decode cX7_holds 35 = .ok (.invokevirtual 149, 3) := by decide +kernel
theorem dX7_holds_38 : decode cX7_holds 38 = .ok (.invokevirtual 171, 3) := by decide +kernel
theorem dX7_holds_41 : decode cX7_holds 41 = .ok (.ifCond .eq 7, 3) := by decide +kernel
theorem dX7_holds_44 : decode cX7_holds 44 = .ok (.iconst 1, 1) := by decide +kernel
theorem dX7_holds_45 : decode cX7_holds 45 = .ok (.goto 4, 3) := by decide +kernel
theorem dX7_holds_48 : decode cX7_holds 48 = .ok (.iconst 0, 1) := by decide +kernel
theorem dX7_holds_49 : decode cX7_holds 49 = .ok (.iadd, 1) := by decide +kernel
theorem dX7_holds_50 : decode cX7_holds 50 = .ok (.istore_n 2, 1) := by decide +kernel
theorem dX7_holds_51 : decode cX7_holds 51 = .ok (.iinc 3 1, 3) := by decide +kernel
theorem dX7_holds_54 : decode cX7_holds 54 = .ok (.goto (-40), 3) := by decide +kernel
theorem dX7_holds_57 : decode cX7_holds 57 = .ok (.iload_n 2, 1) := by decide +kernel
theorem dX7_holds_58 : decode cX7_holds 58 = .ok (.ireturn, 1) := by decide +kernel
theorem dX7_power_0 : decode cX7_power 0 = .ok (.iconst 1, 1) := by decide +kernel
theorem dX7_power_1 : decode cX7_power 1 = .ok (.istore_n 1, 1) := by decide +kernel
theorem dX7_power_2 : decode cX7_power 2 = .ok (.iconst 0, 1) := by decide +kernel
theorem dX7_power_3 : decode cX7_power 3 = .ok (.istore_n 2, 1) := by decide +kernel
theorem dX7_power_4 : decode cX7_power 4 = .ok (.iload_n 2, 1) := by decide +kernel
theorem dX7_power_5 : decode cX7_power 5 = .ok (.iload_n 0, 1) := by decide +kernel
theorem dX7_power_6 : decode cX7_power 6 = .ok (.if_icmp .ge 14, 3) := by decide +kernel
theorem dX7_power_9 : decode cX7_power 9 = .ok (.iload_n 1, 1) := by decide +kernel
theorem dX7_power_10 : decode cX7_power 10 = .ok (.bipush 10, 2) := by decide +kernel
theorem dX7_power_12 : decode cX7_power 12 = .ok (.imul, 1) := by decide +kernel
theorem dX7_power_13 : decode cX7_power 13 = .ok (.istore_n 1, 1) := by decide +kernel
theorem dX7_power_14 : decode cX7_power 14 = .ok (.iinc 2 1, 3) := by decide +kernel
theorem dX7_power_17 : decode cX7_power 17 = .ok (.goto (-13), 3) := by decide +kernel
theorem dX7_power_20 : decode cX7_power 20 = .ok (.iload_n 1, 1) := by decide +kernel
theorem dX7_power_21 : decode cX7_power 21 = .ok (.ireturn, 1) := by decide +kernel
theorem dX7_judge_0 : decode cX7_judge 0 = .ok (.iload_n 1, 1) := by decide +kernel
theorem dX7_judge_1 : decode cX7_judge 1 = .ok (.i2l, 1) := by decide +kernel
theorem dX7_judge_2 : decode cX7_judge 2 = .ok (.lconst 1, 1) := by decide +kernel
theorem dX7_judge_3 : decode cX7_judge 3 = .ok (.ldc2_w 237, 3) := by decide +kernel
theorem dX7_judge_6 : decode cX7_judge 6 = .ok (.invokestatic 73, 3) := by decide +kernel
theorem dX7_judge_9 : decode cX7_judge 9 = .ok (.ifCond .eq 19, 3) := by decide +kernel
theorem dX7_judge_12 : decode cX7_judge 12 = .ok (.iload_n 2, 1) := by decide +kernel
theorem dX7_judge_13 : decode cX7_judge 13 = .ok (.i2l, 1) := by decide +kernel
theorem dX7_judge_14 : decode cX7_judge 14 = .ok (.lconst 0, 1) := by decide +kernel
theorem dX7_judge_15 : decode cX7_judge 15 = .ok (.iload_n 1, 1) := by decide +kernel
theorem dX7_judge_16 : decode cX7_judge 16 = .ok (.invokestatic 239, 3) := by decide +kernel
theorem dX7_judge_19 : decode cX7_judge 19 = .ok (.iconst 1, 1) := by decide +kernel
theorem dX7_judge_20 : decode cX7_judge 20 = .ok (.isub, 1) := by decide +kernel
theorem dX7_judge_21 : decode cX7_judge 21 = .ok (.i2l, 1) := by decide +kernel
theorem dX7_judge_22 : decode cX7_judge 22 = .ok (.invokestatic 73, 3) := by decide +kernel
theorem dX7_judge_25 : decode cX7_judge 25 = .ok (.ifCond .ne 6, 3) := by decide +kernel
theorem dX7_judge_28 : decode cX7_judge 28 = .ok (.bipush (-2), 2) := by decide +kernel
theorem dX7_judge_30 : decode cX7_judge 30 = .ok (.ireturn, 1) := by decide +kernel
theorem dX7_judge_31 : decode cX7_judge 31 = .ok (.aload_n 0, 1) := by decide +kernel
theorem dX7_judge_32 : decode cX7_judge 32 = .ok (.getfield 40, 3) := by decide +kernel
theorem dX7_judge_35 : decode cX7_judge 35 = .ok (.iconst 0, 1) := by decide +kernel
theorem dX7_judge_36 : decode cX7_judge 36 = .ok (.iaload, 1) := by decide +kernel
theorem dX7_judge_37 : decode cX7_judge 37 = .ok (.istore_n 3, 1) := by decide +kernel
theorem dX7_judge_38 : decode cX7_judge 38 = .ok (.iconst 0, 1) := by decide +kernel
theorem dX7_judge_39 : decode cX7_judge 39 = .ok (.istore 4, 2) := by decide +kernel
theorem dX7_judge_41 : decode cX7_judge 41 = .ok (.iconst 0, 1) := by decide +kernel
theorem dX7_judge_42 : decode cX7_judge 42 = .ok (.istore 5, 2) := by decide +kernel
theorem dX7_judge_44 : decode cX7_judge 44 = .ok (.iload 5, 2) := by decide +kernel
theorem dX7_judge_46 : decode cX7_judge 46 = .ok (.aload_n 0, 1) := by decide +kernel
theorem dX7_judge_47 : decode cX7_judge 47 = .ok (.getfield 124, 3) := by decide +kernel
theorem dX7_judge_50 : decode cX7_judge 50 = .ok (.if_icmp .ge 36, 3) := by decide +kernel
theorem dX7_judge_53 : decode cX7_judge 53 = .ok (.iload 4, 2) := by decide +kernel
theorem dX7_judge_55 : decode cX7_judge 55 = .ok (.aload_n 0, 1) := by decide +kernel
theorem dX7_judge_56 : decode cX7_judge 56 = .ok (.getfield 40, 3) := by decide +kernel
theorem dX7_judge_59 : decode cX7_judge 59 = .ok (.iconst 2, 1) := by decide +kernel
theorem dX7_judge_60 : decode cX7_judge 60 = .ok (.iload 5, 2) := by decide +kernel
theorem dX7_judge_62 : decode cX7_judge 62 = .ok (.iadd, 1) := by decide +kernel
theorem dX7_judge_63 : decode cX7_judge 63 = .ok (.iaload, 1) := by decide +kernel
theorem dX7_judge_64 : decode cX7_judge 64 = .ok (.bipush (-9), 2) := by decide +kernel
theorem dX7_judge_66 : decode cX7_judge 66 = .ok (.if_icmp .eq 10, 3) := by decide +kernel
theorem dX7_judge_69 : decode cX7_judge 69 = .ok (.iconst 1, 1) := by decide +kernel
theorem dX7_judge_70 : decode cX7_judge 70 = .ok (.iload 5, 2) := by decide +kernel
theorem dX7_judge_72 : decode cX7_judge 72 = .ok (.ishl, 1) := by decide +kernel
theorem dX7_judge_73 : decode cX7_judge 73 = .ok (.goto 4, 3) := by decide +kernel
theorem dX7_judge_76 : decode cX7_judge 76 = .ok (.iconst 0, 1) := by decide +kernel
theorem dX7_judge_77 : decode cX7_judge 77 = .ok (.ior, 1) := by decide +kernel
theorem dX7_judge_78 : decode cX7_judge 78 = .ok (.istore 4, 2) := by decide +kernel
theorem dX7_judge_80 : decode cX7_judge 80 = .ok (.iinc 5 1, 3) := by decide +kernel
theorem dX7_judge_83 : decode cX7_judge 83 = .ok (.goto (-39), 3) := by decide +kernel
theorem dX7_judge_86 : decode cX7_judge 86 = .ok (.iconst 0, 1) := by decide +kernel
theorem dX7_judge_87 : decode cX7_judge 87 = .ok (.istore 5, 2) := by decide +kernel
theorem dX7_judge_89 : decode cX7_judge 89 = .ok (.iload 5, 2) := by decide +kernel
theorem dX7_judge_91 : decode cX7_judge 91 = .ok (.iload_n 1, 1) := by decide +kernel
theorem dX7_judge_92 : decode cX7_judge 92 = .ok (.if_icmp .ge 122, 3) := by decide +kernel
theorem dX7_judge_95 : decode cX7_judge 95 = .ok (.iload_n 2, 1) := by decide +kernel
theorem dX7_judge_96 : decode cX7_judge 96 = .ok (.iload_n 1, 1) := by decide +kernel
theorem dX7_judge_97 : decode cX7_judge 97 = .ok (.iconst 1, 1) := by decide +kernel
theorem dX7_judge_98 : decode cX7_judge 98 = .ok (.isub, 1) := by decide +kernel
theorem dX7_judge_99 : decode cX7_judge 99 = .ok (.iload 5, 2) := by decide +kernel
theorem dX7_judge_101 : decode cX7_judge 101 = .ok (.isub, 1) := by decide +kernel
theorem dX7_judge_102 : decode cX7_judge 102 = .ok (.invokestatic 239, 3) := by decide +kernel
theorem dX7_judge_105 : decode cX7_judge 105 = .ok (.idiv, 1) := by decide +kernel
theorem dX7_judge_106 : decode cX7_judge 106 = .ok (.bipush 10, 2) := by decide +kernel
theorem dX7_judge_108 : decode cX7_judge 108 = .ok (.irem, 1) := by decide +kernel
theorem dX7_judge_109 : decode cX7_judge 109 = .ok (.istore 6, 2) := by decide +kernel
theorem dX7_judge_111 : decode cX7_judge 111 = .ok (.iload 6, 2) := by decide +kernel
theorem dX7_judge_113 : decode cX7_judge 113 = .ok (.iconst 4, 1) := by decide +kernel
theorem dX7_judge_114 : decode cX7_judge 114 = .ok (.if_icmp .ne 17, 3) := by decide +kernel
theorem dX7_judge_117 : decode cX7_judge 117 = .ok (.iload_n 3, 1) := by decide +kernel
theorem dX7_judge_118 : decode cX7_judge 118 = .ok (.bipush 9, 2) := by decide +kernel
theorem dX7_judge_120 : decode cX7_judge 120 = .ok (.if_icmp .ge 7, 3) := by decide +kernel
theorem dX7_judge_123 : decode cX7_judge 123 = .ok (.iconst 1, 1) := by decide +kernel
theorem dX7_judge_124 : decode cX7_judge 124 = .ok (.goto 41, 3) := by decide +kernel
theorem dX7_judge_127 : decode cX7_judge 127 = .ok (.iconst 0, 1) := by decide +kernel
theorem dX7_judge_128 : decode cX7_judge 128 = .ok (.goto 37, 3) := by decide +kernel
theorem dX7_judge_131 : decode cX7_judge 131 = .ok (.aload_n 0, 1) := by decide +kernel
theorem dX7_judge_132 : decode cX7_judge 132 = .ok (.iload 6, 2) := by decide +kernel
theorem dX7_judge_134 : decode cX7_judge 134 = .ok (.invokevirtual 136, 3) := by decide +kernel
theorem dX7_judge_137 : decode cX7_judge 137 = .ok (.ifCond .eq 27, 3) := by decide +kernel
theorem dX7_judge_140 : decode cX7_judge 140 = .ok (.iload 4, 2) := by decide +kernel
theorem dX7_judge_142 : decode cX7_judge 142 = .ok (.iload 6, 2) := by decide +kernel
theorem dX7_judge_144 : decode cX7_judge 144 = .ok (.invokestatic 89, 3) := by decide +kernel
theorem dX7_judge_147 : decode cX7_judge 147 = .ok (.ifCond .ne 17, 3) := by decide +kernel
theorem dX7_judge_150 : decode cX7_judge 150 = .ok (.aload_n 0, 1) := by decide +kernel
theorem dX7_judge_151 : decode cX7_judge 151 = .ok (.iload 6, 2) := by decide +kernel
theorem dX7_judge_153 : decode cX7_judge 153 = .ok (.invokevirtual 140, 3) := by decide +kernel
theorem dX7_judge_156 : decode cX7_judge 156 = .ok (.iload_n 3, 1) := by decide +kernel
theorem dX7_judge_157 : decode cX7_judge 157 = .ok (.if_icmp .le 7, 3) := by decide +kernel
theorem dX7_judge_160 : decode cX7_judge 160 = .ok (.iconst 1, 1) := by decide +kernel
theorem dX7_judge_161 : decode cX7_judge 161 = .ok (.goto 4, 3) := by decide +kernel
theorem dX7_judge_164 : decode cX7_judge 164 = .ok (.iconst 0, 1) := by decide +kernel
theorem dX7_judge_165 : decode cX7_judge 165 = .ok (.istore 7, 2) := by decide +kernel
theorem dX7_judge_167 : decode cX7_judge 167 = .ok (.iload 7, 2) := by decide +kernel
theorem dX7_judge_169 : decode cX7_judge 169 = .ok (.ifCond .ne 6, 3) := by decide +kernel
theorem dX7_judge_172 : decode cX7_judge 172 = .ok (.iload 5, 2) := by decide +kernel
theorem dX7_judge_174 : decode cX7_judge 174 = .ok (.ireturn, 1) := by decide +kernel
theorem dX7_judge_175 : decode cX7_judge 175 = .ok (.iload_n 3, 1) := by decide +kernel
theorem dX7_judge_176 : decode cX7_judge 176 = .ok (.iload 6, 2) := by decide +kernel
theorem dX7_judge_178 : decode cX7_judge 178 = .ok (.iconst 4, 1) := by decide +kernel
theorem dX7_judge_179 : decode cX7_judge 179 = .ok (.if_icmp .ne 7, 3) := by decide +kernel
theorem dX7_judge_182 : decode cX7_judge 182 = .ok (.iconst 1, 1) := by decide +kernel
theorem dX7_judge_183 : decode cX7_judge 183 = .ok (.goto 4, 3) := by decide +kernel
theorem dX7_judge_186 : decode cX7_judge 186 = .ok (.iconst 0, 1) := by decide +kernel
theorem dX7_judge_187 : decode cX7_judge 187 = .ok (.iadd, 1) := by decide +kernel
theorem dX7_judge_188 : decode cX7_judge 188 = .ok (.istore_n 3, 1) := by decide +kernel
theorem dX7_judge_189 : decode cX7_judge 189 = .ok (.iload 4, 2) := by decide +kernel
theorem dX7_judge_191 : decode cX7_judge 191 = .ok (.iload 6, 2) := by decide +kernel
theorem dX7_judge_193 : decode cX7_judge 193 = .ok (.iconst 4, 1) := by decide +kernel
theorem dX7_judge_194 : decode cX7_judge 194 = .ok (.if_icmp .ne 7, 3) := by decide +kernel
theorem dX7_judge_197 : decode cX7_judge 197 = .ok (.iconst 0, 1) := by decide +kernel
theorem dX7_judge_198 : decode cX7_judge 198 = .ok (.goto 7, 3) := by decide +kernel
theorem dX7_judge_201 : decode cX7_judge 201 = .ok (.iconst 1, 1) := by decide +kernel
theorem dX7_judge_202 : decode cX7_judge 202 = .ok (.iload 6, 2) := by decide +kernel
theorem dX7_judge_204 : decode cX7_judge 204 = .ok (.ishl, 1) := by decide +kernel
theorem dX7_judge_205 : decode cX7_judge 205 = .ok (.ior, 1) := by decide +kernel
theorem dX7_judge_206 : decode cX7_judge 206 = .ok (.istore 4, 2) := by decide +kernel
theorem dX7_judge_208 : decode cX7_judge 208 = .ok (.iinc 5 1, 3) := by decide +kernel
theorem dX7_judge_211 : decode cX7_judge 211 = .ok (.goto (-122), 3) := by decide +kernel
theorem dX7_judge_214 : decode cX7_judge 214 = .ok (.bipush (-9), 2) := by decide +kernel
theorem dX7_judge_216 : decode cX7_judge 216 = .ok (.ireturn, 1) := by decide +kernel
theorem dX7_keep_0 : decode cX7_keep 0 = .ok (.iload_n 1, 1) := by decide +kernel
theorem dX7_keep_1 : decode cX7_keep 1 = .ok (.i2l, 1) := by decide +kernel
theorem dX7_keep_2 : decode cX7_keep 2 = .ok (.lconst 0, 1) := by decide +kernel
theorem dX7_keep_3 : decode cX7_keep 3 = .ok (.lconst 1, 1) := by decide +kernel
theorem dX7_keep_4 : decode cX7_keep 4 = .ok (.invokestatic 73, 3) := by decide +kernel
theorem dX7_keep_7 : decode cX7_keep 7 = .ok (.ifCond .ne 5, 3) := by decide +kernel
theorem dX7_keep_10 : decode cX7_keep 10 = .ok (.iconst (-1), 1) := by decide +kernel
theorem dX7_keep_11 : decode cX7_keep 11 = .ok (.ireturn, 1) := by decide +kernel
theorem dX7_keep_12 : decode cX7_keep 12 = .ok (.aload_n 0, 1) := by decide +kernel
theorem dX7_keep_13 : decode cX7_keep 13 = .ok (.getfield 61, 3) := by decide +kernel
theorem dX7_keep_16 : decode cX7_keep 16 = .ok (.iload_n 1, 1) := by decide +kernel
theorem dX7_keep_17 : decode cX7_keep 17 = .ok (.iconst 1, 1) := by decide +kernel
theorem dX7_keep_18 : decode cX7_keep 18 = .ok (.bastore, 1) := by decide +kernel
theorem dX7_keep_19 : decode cX7_keep 19 = .ok (.iconst 0, 1) := by decide +kernel
theorem dX7_keep_20 : decode cX7_keep 20 = .ok (.istore_n 2, 1) := by decide +kernel
theorem dX7_keep_21 : decode cX7_keep 21 = .ok (.iload_n 2, 1) := by decide +kernel
theorem dX7_keep_22 : decode cX7_keep 22 = .ok (.bipush 10, 2) := by decide +kernel
theorem dX7_keep_24 : decode cX7_keep 24 = .ok (.if_icmp .ge 26, 3) := by decide +kernel
theorem dX7_keep_27 : decode cX7_keep 27 = .ok (.aload_n 0, 1) := by decide +kernel
theorem dX7_keep_28 : decode cX7_keep 28 = .ok (.getfield 65, 3) := by decide +kernel
theorem dX7_keep_31 : decode cX7_keep 31 = .ok (.bipush 10, 2) := by decide +kernel
theorem dX7_keep_33 : decode cX7_keep 33 = .ok (.iload_n 1, 1) := by decide +kernel
theorem dX7_keep_34 : decode cX7_keep 34 = .ok (.imul, 1) := by decide +kernel
theorem dX7_keep_35 : decode cX7_keep 35 = .ok (.iload_n 2, 1) := by decide +kernel
theorem dX7_keep_36 : decode cX7_keep 36 = .ok (.iadd, 1) := by decide +kernel
theorem dX7_keep_37 : decode cX7_keep 37 = .ok (.aload_n 0, 1) := by decide +kernel
theorem dX7_keep_38 : decode cX7_keep 38 = .ok (.getfield 40, 3) := by decide +kernel
theorem dX7_keep_41 : decode cX7_keep 41 = .ok (.iload_n 2, 1) := by decide +kernel
theorem dX7_keep_42 : decode cX7_keep 42 = .ok (.iaload, 1) := by decide +kernel
theorem dX7_keep_43 : decode cX7_keep 43 = .ok (.iastore, 1) := by decide +kernel
theorem dX7_keep_44 : decode cX7_keep 44 = .ok (.iinc 2 1, 3) := by decide +kernel
theorem dX7_keep_47 : decode cX7_keep 47 = .ok (.goto (-26), 3) := by decide +kernel
theorem dX7_keep_50 : decode cX7_keep 50 = .ok (.aload_n 0, 1) := by decide +kernel
theorem dX7_keep_51 : decode cX7_keep 51 = .ok (.getfield 40, 3) := by decide +kernel
theorem dX7_keep_54 : decode cX7_keep 54 = .ok (.iconst 1, 1) := by decide +kernel
theorem dX7_keep_55 : decode cX7_keep 55 = .ok (.iaload, 1) := by decide +kernel
theorem dX7_keep_56 : decode cX7_keep 56 = .ok (.ireturn, 1) := by decide +kernel
theorem dX7_likely_0 : decode cX7_likely 0 = .ok (.aload_n 0, 1) := by decide +kernel
theorem dX7_likely_1 : decode cX7_likely 1 = .ok (.iload_n 1, 1) := by decide +kernel
theorem dX7_likely_2 : decode cX7_likely 2 = .ok (.invokevirtual 146, 3) := by decide +kernel
theorem dX7_likely_5 : decode cX7_likely 5 = .ok (.ifCond .eq 11, 3) := by decide +kernel
theorem dX7_likely_8 : decode cX7_likely 8 = .ok (.aload_n 0, 1) := by decide +kernel
theorem dX7_likely_9 : decode cX7_likely 9 = .ok (.iload_n 2, 1) := by decide +kernel
theorem dX7_likely_10 : decode cX7_likely 10 = .ok (.invokevirtual 136, 3) := by decide +kernel
theorem dX7_likely_13 : decode cX7_likely 13 = .ok (.ifCond .ne 5, 3) := by decide +kernel
theorem dX7_likely_16 : decode cX7_likely 16 = .ok (.iconst (-1), 1) := by decide +kernel
theorem dX7_likely_17 : decode cX7_likely 17 = .ok (.ireturn, 1) := by decide +kernel
theorem dX7_likely_18 : decode cX7_likely 18 = .ok (.aload_n 0, 1) := by decide +kernel
theorem dX7_likely_19 : decode cX7_likely 19 = .ok (.aload_n 0, 1) := by decide +kernel
theorem dX7_likely_20 : decode cX7_likely 20 = .ok (.getfield 40, 3) := by decide +kernel
theorem dX7_likely_23 : decode cX7_likely 23 = .ok (.iconst 0, 1) := by decide +kernel
theorem dX7_likely_24 : decode cX7_likely 24 = .ok (.iaload, 1) := by decide +kernel
theorem dX7_likely_25 : decode cX7_likely 25 = .ok (.aload_n 0, 1) := by decide +kernel
theorem dX7_likely_26 : decode cX7_likely 26 = .ok (.iload_n 1, 1) := by decide +kernel
theorem dX7_likely_27 : decode cX7_likely 27 = .ok (.invokevirtual 149, 3) := by decide +kernel
theorem dX7_likely_30 : decode cX7_likely 30 = .ok (.invokevirtual 180, 3) := by decide +kernel
theorem dX7_likely_33 : decode cX7_likely 33 = .ok (.istore 4, 2) := by decide +kernel
theorem dX7_likely_35 : decode cX7_likely 35 = .ok (.iload 4, 2) := by decide +kernel
theorem dX7_likely_37 : decode cX7_likely 37 = .ok (.ifCond .ne 6, 3) := by decide +kernel
theorem dX7_likely_40 : decode cX7_likely 40 = .ok (.bipush (-3), 2) := by decide +kernel
theorem dX7_likely_42 : decode cX7_likely 42 = .ok (.ireturn, 1) := by decide +kernel
theorem dX7_likely_43 : decode cX7_likely 43 = .ok (.iconst 0, 1) := by decide +kernel
theorem dX7_likely_44 : decode cX7_likely 44 = .ok (.istore 5, 2) := by decide +kernel
theorem dX7_likely_46 : decode cX7_likely 46 = .ok (.iconst 0, 1) := by decide +kernel
theorem dX7_likely_47 : decode cX7_likely 47 = .ok (.istore 6, 2) := by decide +kernel
theorem dX7_likely_49 : decode cX7_likely 49 = .ok (.iload 6, 2) := by decide +kernel
theorem dX7_likely_51 : decode cX7_likely 51 = .ok (.iconst 1, 1) := by decide +kernel
theorem dX7_likely_52 : decode cX7_likely 52 = .ok (.aload_n 0, 1) := by decide +kernel
theorem dX7_likely_53 : decode cX7_likely 53 = .ok (.getfield 124, 3) := by decide +kernel
theorem dX7_likely_56 : decode cX7_likely 56 = .ok (.ishl, 1) := by decide +kernel
theorem dX7_likely_57 : decode cX7_likely 57 = .ok (.if_icmp .ge 53, 3) := by decide +kernel
theorem dX7_likely_60 : decode cX7_likely 60 = .ok (.iload 5, 2) := by decide +kernel
theorem dX7_likely_62 : decode cX7_likely 62 = .ok (.iload 6, 2) := by decide +kernel
theorem dX7_likely_64 : decode cX7_likely 64 = .ok (.iload_n 2, 1) := by decide +kernel
theorem dX7_likely_65 : decode cX7_likely 65 = .ok (.invokestatic 89, 3) := by decide +kernel
theorem dX7_likely_68 : decode cX7_likely 68 = .ok (.ifCond .eq 32, 3) := by decide +kernel
theorem dX7_likely_71 : decode cX7_likely 71 = .ok (.aload_n 0, 1) := by decide +kernel
theorem dX7_likely_72 : decode cX7_likely 72 = .ok (.iload 6, 2) := by decide +kernel
theorem dX7_likely_74 : decode cX7_likely 74 = .ok (.aload_n 0, 1) := by decide +kernel
theorem dX7_likely_75 : decode cX7_likely 75 = .ok (.getfield 40, 3) := by decide +kernel
theorem dX7_likely_78 : decode cX7_likely 78 = .ok (.iconst 0, 1) := by decide +kernel
theorem dX7_likely_79 : decode cX7_likely 79 = .ok (.iaload, 1) := by decide +kernel
theorem dX7_likely_80 : decode cX7_likely 80 = .ok (.aload_n 0, 1) := by decide +kernel
theorem dX7_likely_81 : decode cX7_likely 81 = .ok (.iload_n 1, 1) := by decide +kernel
theorem dX7_likely_82 : decode cX7_likely 82 = .ok (.invokevirtual 149, 3) := by decide +kernel
theorem dX7_likely_85 : decode cX7_likely 85 = .ok (.invokevirtual 171, 3) := by decide +kernel
theorem dX7_likely_88 : decode cX7_likely 88 = .ok (.ifCond .eq 12, 3) := by decide +kernel
theorem dX7_likely_91 : decode cX7_likely 91 = .ok (.aload_n 0, 1) := by decide +kernel
theorem dX7_likely_92 : decode cX7_likely 92 = .ok (.iload 6, 2) := by decide +kernel
theorem dX7_likely_94 : decode cX7_likely 94 = .ok (.invokevirtual 175, 3) := by decide +kernel
theorem dX7_likely_97 : decode cX7_likely 97 = .ok (.goto 4, 3) := by decide +kernel
theorem dX7_likely_100 : decode cX7_likely 100 = .ok (.iconst 0, 1) := by decide +kernel
theorem dX7_likely_101 : decode cX7_likely 101 = .ok (.iadd, 1) := by decide +kernel
theorem dX7_likely_102 : decode cX7_likely 102 = .ok (.istore 5, 2) := by decide +kernel
theorem dX7_likely_104 : decode cX7_likely 104 = .ok (.iinc 6 1, 3) := by decide +kernel
theorem dX7_likely_107 : decode cX7_likely 107 = .ok (.goto (-58), 3) := by decide +kernel
theorem dX7_likely_110 : decode cX7_likely 110 = .ok (.iload 5, 2) := by decide +kernel
theorem dX7_likely_112 : decode cX7_likely 112 = .ok (.iload 4, 2) := by decide +kernel
theorem dX7_likely_114 : decode cX7_likely 114 = .ok (.invokestatic 183, 3) := by decide +kernel
theorem dX7_likely_117 : decode cX7_likely 117 = .ok (.istore 6, 2) := by decide +kernel
theorem dX7_likely_119 : decode cX7_likely 119 = .ok (.iload_n 3, 1) := by decide +kernel
theorem dX7_likely_120 : decode cX7_likely 120 = .ok (.ifCond .eq 11, 3) := by decide +kernel
theorem dX7_likely_123 : decode cX7_likely 123 = .ok (.iload 5, 2) := by decide +kernel
theorem dX7_likely_125 : decode cX7_likely 125 = .ok (.iload 6, 2) := by decide +kernel
theorem dX7_likely_127 : decode cX7_likely 127 = .ok (.idiv, 1) := by decide +kernel
theorem dX7_likely_128 : decode cX7_likely 128 = .ok (.goto 8, 3) := by decide +kernel
theorem dX7_likely_131 : decode cX7_likely 131 = .ok (.iload 4, 2) := by decide +kernel
theorem dX7_likely_133 : decode cX7_likely 133 = .ok (.iload 6, 2) := by decide +kernel
theorem dX7_likely_135 : decode cX7_likely 135 = .ok (.idiv, 1) := by decide +kernel
theorem dX7_likely_136 : decode cX7_likely 136 = .ok (.ireturn, 1) := by decide +kernel
theorem dX7_see_0 : decode cX7_see 0 = .ok (.aload_n 0, 1) := by decide +kernel
theorem dX7_see_1 : decode cX7_see 1 = .ok (.iload_n 1, 1) := by decide +kernel
theorem dX7_see_2 : decode cX7_see 2 = .ok (.invokevirtual 136, 3) := by decide +kernel
theorem dX7_see_5 : decode cX7_see 5 = .ok (.ifCond .ne 5, 3) := by decide +kernel
theorem dX7_see_8 : decode cX7_see 8 = .ok (.iconst (-1), 1) := by decide +kernel
theorem dX7_see_9 : decode cX7_see 9 = .ok (.ireturn, 1) := by decide +kernel
theorem dX7_see_10 : decode cX7_see 10 = .ok (.iload_n 2, 1) := by decide +kernel
theorem dX7_see_11 : decode cX7_see 11 = .ok (.i2l, 1) := by decide +kernel
theorem dX7_see_12 : decode cX7_see 12 = .ok (.lconst 0, 1) := by decide +kernel
theorem dX7_see_13 : decode cX7_see 13 = .ok (.ldc2_w 87, 3) := by decide +kernel
theorem dX7_see_16 : decode cX7_see 16 = .ok (.invokestatic 73, 3) := by decide +kernel
theorem dX7_see_19 : decode cX7_see 19 = .ok (.ifCond .ne 6, 3) := by decide +kernel
theorem dX7_see_22 : decode cX7_see 22 = .ok (.bipush (-2), 2) := by decide +kernel
theorem dX7_see_24 : decode cX7_see 24 = .ok (.ireturn, 1) := by decide +kernel
theorem dX7_see_25 : decode cX7_see 25 = .ok (.aload_n 0, 1) := by decide +kernel
theorem dX7_see_26 : decode cX7_see 26 = .ok (.getfield 228, 3) := by decide +kernel
theorem dX7_see_29 : decode cX7_see 29 = .ok (.bipush 6, 2) := by decide +kernel
theorem dX7_see_31 : decode cX7_see 31 = .ok (.if_icmp .ne 6, 3) := by decide +kernel
theorem dX7_see_34 : decode cX7_see 34 = .ok (.bipush (-4), 2) := by decide +kernel
theorem dX7_see_36 : decode cX7_see 36 = .ok (.ireturn, 1) := by decide +kernel
theorem dX7_see_37 : decode cX7_see 37 = .ok (.aload_n 0, 1) := by decide +kernel
theorem dX7_see_38 : decode cX7_see 38 = .ok (.getfield 52, 3) := by decide +kernel
theorem dX7_see_41 : decode cX7_see 41 = .ok (.aload_n 0, 1) := by decide +kernel
theorem dX7_see_42 : decode cX7_see 42 = .ok (.getfield 228, 3) := by decide +kernel
theorem dX7_see_45 : decode cX7_see 45 = .ok (.iload_n 1, 1) := by decide +kernel
theorem dX7_see_46 : decode cX7_see 46 = .ok (.iastore, 1) := by decide +kernel
theorem dX7_see_47 : decode cX7_see 47 = .ok (.aload_n 0, 1) := by decide +kernel
theorem dX7_see_48 : decode cX7_see 48 = .ok (.getfield 55, 3) := by decide +kernel
theorem dX7_see_51 : decode cX7_see 51 = .ok (.aload_n 0, 1) := by decide +kernel
theorem dX7_see_52 : decode cX7_see 52 = .ok (.getfield 228, 3) := by decide +kernel
theorem dX7_see_55 : decode cX7_see 55 = .ok (.iload_n 2, 1) := by decide +kernel
theorem dX7_see_56 : decode cX7_see 56 = .ok (.iastore, 1) := by decide +kernel
theorem dX7_see_57 : decode cX7_see 57 = .ok (.aload_n 0, 1) := by decide +kernel
theorem dX7_see_58 : decode cX7_see 58 = .ok (.dup, 1) := by decide +kernel
theorem dX7_see_59 : decode cX7_see 59 = .ok (.getfield 228, 3) := by decide +kernel
theorem dX7_see_62 : decode cX7_see 62 = .ok (.iconst 1, 1) := by decide +kernel
theorem dX7_see_63 : decode cX7_see 63 = .ok (.iadd, 1) := by decide +kernel
theorem dX7_see_64 : decode cX7_see 64 = .ok (.putfield 228, 3) := by decide +kernel
theorem dX7_see_67 : decode cX7_see 67 = .ok (.aload_n 0, 1) := by decide +kernel
theorem dX7_see_68 : decode cX7_see 68 = .ok (.getfield 228, 3) := by decide +kernel
theorem dX7_see_71 : decode cX7_see 71 = .ok (.ireturn, 1) := by decide +kernel
theorem dX7_seed_0 : decode cX7_seed 0 = .ok (.aload_n 0, 1) := by decide +kernel
theorem dX7_seed_1 : decode cX7_seed 1 = .ok (.getfield 242, 3) := by decide +kernel
theorem dX7_seed_4 : decode cX7_seed 4 = .ok (.lstore_n 3, 1) := by decide +kernel
theorem dX7_seed_5 : decode cX7_seed 5 = .ok (.aload_n 0, 1) := by decide +kernel
theorem dX7_seed_6 : decode cX7_seed 6 = .ok (.lload_n 1, 1) := by decide +kernel
theorem dX7_seed_7 : decode cX7_seed 7 = .ok (.putfield 242, 3) := by decide +kernel
theorem dX7_seed_10 : decode cX7_seed 10 = .ok (.lload_n 3, 1) := by decide +kernel
theorem dX7_seed_11 : decode cX7_seed 11 = .ok (.lreturn, 1) := by decide +kernel
theorem dX7_sell_0 : decode cX7_sell 0 = .ok (.aload_n 0, 1) := by decide +kernel
theorem dX7_sell_1 : decode cX7_sell 1 = .ok (.iload_n 1, 1) := by decide +kernel
theorem dX7_sell_2 : decode cX7_sell 2 = .ok (.invokevirtual 136, 3) := by decide +kernel
theorem dX7_sell_5 : decode cX7_sell 5 = .ok (.ifCond .ne 5, 3) := by decide +kernel
theorem dX7_sell_8 : decode cX7_sell 8 = .ok (.iconst (-1), 1) := by decide +kernel
theorem dX7_sell_9 : decode cX7_sell 9 = .ok (.ireturn, 1) := by decide +kernel
theorem dX7_sell_10 : decode cX7_sell 10 = .ok (.aload_n 0, 1) := by decide +kernel
theorem dX7_sell_11 : decode cX7_sell 11 = .ok (.getfield 40, 3) := by decide +kernel
theorem dX7_sell_14 : decode cX7_sell 14 = .ok (.iconst 2, 1) := by decide +kernel
theorem dX7_sell_15 : decode cX7_sell 15 = .ok (.iload_n 1, 1) := by decide +kernel
theorem dX7_sell_16 : decode cX7_sell 16 = .ok (.iadd, 1) := by decide +kernel
theorem dX7_sell_17 : decode cX7_sell 17 = .ok (.iaload, 1) := by decide +kernel
theorem dX7_sell_18 : decode cX7_sell 18 = .ok (.bipush (-9), 2) := by decide +kernel
theorem dX7_sell_20 : decode cX7_sell 20 = .ok (.if_icmp .eq 6, 3) := by decide +kernel
theorem dX7_sell_23 : decode cX7_sell 23 = .ok (.bipush (-3), 2) := by decide +kernel
theorem dX7_sell_25 : decode cX7_sell 25 = .ok (.ireturn, 1) := by decide +kernel
theorem dX7_sell_26 : decode cX7_sell 26 = .ok (.aload_n 0, 1) := by decide +kernel
theorem dX7_sell_27 : decode cX7_sell 27 = .ok (.invokevirtual 155, 3) := by decide +kernel
theorem dX7_sell_30 : decode cX7_sell 30 = .ok (.aload_n 0, 1) := by decide +kernel
theorem dX7_sell_31 : decode cX7_sell 31 = .ok (.getfield 40, 3) := by decide +kernel
theorem dX7_sell_34 : decode cX7_sell 34 = .ok (.iconst 2, 1) := by decide +kernel
theorem dX7_sell_35 : decode cX7_sell 35 = .ok (.iload_n 1, 1) := by decide +kernel
theorem dX7_sell_36 : decode cX7_sell 36 = .ok (.iadd, 1) := by decide +kernel
theorem dX7_sell_37 : decode cX7_sell 37 = .ok (.aload_n 0, 1) := by decide +kernel
theorem dX7_sell_38 : decode cX7_sell 38 = .ok (.getfield 40, 3) := by decide +kernel
theorem dX7_sell_41 : decode cX7_sell 41 = .ok (.iconst 0, 1) := by decide +kernel
theorem dX7_sell_42 : decode cX7_sell 42 = .ok (.iaload, 1) := by decide +kernel
theorem dX7_sell_43 : decode cX7_sell 43 = .ok (.iastore, 1) := by decide +kernel
theorem dX7_sell_44 : decode cX7_sell 44 = .ok (.aload_n 0, 1) := by decide +kernel
theorem dX7_sell_45 : decode cX7_sell 45 = .ok (.iload_n 1, 1) := by decide +kernel
theorem dX7_sell_46 : decode cX7_sell 46 = .ok (.invokevirtual 140, 3) := by decide +kernel
theorem dX7_sell_49 : decode cX7_sell 49 = .ok (.aload_n 0, 1) := by decide +kernel
theorem dX7_sell_50 : decode cX7_sell 50 = .ok (.getfield 40, 3) := by decide +kernel
theorem dX7_sell_53 : decode cX7_sell 53 = .ok (.iconst 0, 1) := by decide +kernel
theorem dX7_sell_54 : decode cX7_sell 54 = .ok (.iaload, 1) := by decide +kernel
theorem dX7_sell_55 : decode cX7_sell 55 = .ok (.if_icmp .le 16, 3) := by decide +kernel
theorem dX7_sell_58 : decode cX7_sell 58 = .ok (.aload_n 0, 1) := by decide +kernel
theorem dX7_sell_59 : decode cX7_sell 59 = .ok (.getfield 7, 3) := by decide +kernel
theorem dX7_sell_62 : decode cX7_sell 62 = .ok (.iconst 5, 1) := by decide +kernel
theorem dX7_sell_63 : decode cX7_sell 63 = .ok (.iload_n 1, 1) := by decide +kernel
theorem dX7_sell_64 : decode cX7_sell 64 = .ok (.imul, 1) := by decide +kernel
theorem dX7_sell_65 : decode cX7_sell 65 = .ok (.iconst 3, 1) := by decide +kernel
theorem dX7_sell_66 : decode cX7_sell 66 = .ok (.iadd, 1) := by decide +kernel
theorem dX7_sell_67 : decode cX7_sell 67 = .ok (.iaload, 1) := by decide +kernel
theorem dX7_sell_68 : decode cX7_sell 68 = .ok (.goto 4, 3) := by decide +kernel
theorem dX7_sell_71 : decode cX7_sell 71 = .ok (.iconst 0, 1) := by decide +kernel
theorem dX7_sell_72 : decode cX7_sell 72 = .ok (.istore_n 2, 1) := by decide +kernel
theorem dX7_sell_73 : decode cX7_sell 73 = .ok (.aload_n 0, 1) := by decide +kernel
theorem dX7_sell_74 : decode cX7_sell 74 = .ok (.getfield 40, 3) := by decide +kernel
theorem dX7_sell_77 : decode cX7_sell 77 = .ok (.iconst 1, 1) := by decide +kernel
theorem dX7_sell_78 : decode cX7_sell 78 = .ok (.dup2, 1) := by decide +kernel
theorem dX7_sell_79 : decode cX7_sell 79 = .ok (.iaload, 1) := by decide +kernel
theorem dX7_sell_80 : decode cX7_sell 80 = .ok (.iload_n 2, 1) := by decide +kernel
theorem dX7_sell_81 : decode cX7_sell 81 = .ok (.iadd, 1) := by decide +kernel
theorem dX7_sell_82 : decode cX7_sell 82 = .ok (.iastore, 1) := by decide +kernel
theorem dX7_sell_83 : decode cX7_sell 83 = .ok (.iload_n 2, 1) := by decide +kernel
theorem dX7_sell_84 : decode cX7_sell 84 = .ok (.ireturn, 1) := by decide +kernel
theorem dX7_share_0 : decode cX7_share 0 = .ok (.aload_n 0, 1) := by decide +kernel
theorem dX7_share_1 : decode cX7_share 1 = .ok (.iload_n 1, 1) := by decide +kernel
theorem dX7_share_2 : decode cX7_share 2 = .ok (.invokevirtual 146, 3) := by decide +kernel
theorem dX7_share_5 : decode cX7_share 5 = .ok (.ifCond .ne 5, 3) := by decide +kernel
theorem dX7_share_8 : decode cX7_share 8 = .ok (.iconst (-1), 1) := by decide +kernel
theorem dX7_share_9 : decode cX7_share 9 = .ok (.ireturn, 1) := by decide +kernel
theorem dX7_share_10 : decode cX7_share 10 = .ok (.aload_n 0, 1) := by decide +kernel
theorem dX7_share_11 : decode cX7_share 11 = .ok (.aload_n 0, 1) := by decide +kernel
theorem dX7_share_12 : decode cX7_share 12 = .ok (.getfield 40, 3) := by decide +kernel
theorem dX7_share_15 : decode cX7_share 15 = .ok (.iconst 0, 1) := by decide +kernel
theorem dX7_share_16 : decode cX7_share 16 = .ok (.iaload, 1) := by decide +kernel
theorem dX7_share_17 : decode cX7_share 17 = .ok (.iconst 0, 1) := by decide +kernel
theorem dX7_share_18 : decode cX7_share 18 = .ok (.invokevirtual 180, 3) := by decide +kernel
theorem dX7_share_21 : decode cX7_share 21 = .ok (.istore_n 3, 1) := by decide +kernel
theorem dX7_share_22 : decode cX7_share 22 = .ok (.iload_n 3, 1) := by decide +kernel
theorem dX7_share_23 : decode cX7_share 23 = .ok (.ifCond .ne 6, 3) := by decide +kernel
theorem dX7_share_26 : decode cX7_share 26 = .ok (.bipush (-3), 2) := by decide +kernel
theorem dX7_share_28 : decode cX7_share 28 = .ok (.ireturn, 1) := by decide +kernel
theorem dX7_share_29 : decode cX7_share 29 = .ok (.aload_n 0, 1) := by decide +kernel
theorem dX7_share_30 : decode cX7_share 30 = .ok (.invokevirtual 216, 3) := by decide +kernel
theorem dX7_share_33 : decode cX7_share 33 = .ok (.aload_n 0, 1) := by decide +kernel
theorem dX7_share_34 : decode cX7_share 34 = .ok (.invokevirtual 219, 3) := by decide +kernel
theorem dX7_share_37 : decode cX7_share 37 = .ok (.istore 4, 2) := by decide +kernel
theorem dX7_share_39 : decode cX7_share 39 = .ok (.iload 4, 2) := by decide +kernel
theorem dX7_share_41 : decode cX7_share 41 = .ok (.invokestatic 213, 3) := by decide +kernel
theorem dX7_share_44 : decode cX7_share 44 = .ok (.istore 5, 2) := by decide +kernel
theorem dX7_share_46 : decode cX7_share 46 = .ok (.iconst 0, 1) := by decide +kernel
theorem dX7_share_47 : decode cX7_share 47 = .ok (.istore 6, 2) := by decide +kernel
theorem dX7_share_49 : decode cX7_share 49 = .ok (.iconst 0, 1) := by decide +kernel
theorem dX7_share_50 : decode cX7_share 50 = .ok (.istore 7, 2) := by decide +kernel
theorem dX7_share_52 : decode cX7_share 52 = .ok (.iload 7, 2) := by decide +kernel
theorem dX7_share_54 : decode cX7_share 54 = .ok (.bipush 16, 2) := by decide +kernel
theorem dX7_share_56 : decode cX7_share 56 = .ok (.if_icmp .ge 96, 3) := by decide +kernel
theorem dX7_share_59 : decode cX7_share 59 = .ok (.iload 4, 2) := by decide +kernel
theorem dX7_share_61 : decode cX7_share 61 = .ok (.iload_n 1, 1) := by decide +kernel
theorem dX7_share_62 : decode cX7_share 62 = .ok (.invokestatic 89, 3) := by decide +kernel
theorem dX7_share_65 : decode cX7_share 65 = .ok (.ifCond .eq 87, 3) := by decide +kernel
theorem dX7_share_68 : decode cX7_share 68 = .ok (.iload 7, 2) := by decide +kernel
theorem dX7_share_70 : decode cX7_share 70 = .ok (.iload 4, 2) := by decide +kernel
theorem dX7_share_72 : decode cX7_share 72 = .ok (.iconst (-1), 1) := by decide +kernel
theorem dX7_share_73 : decode cX7_share 73 = .ok (.ixor, 1) := by decide +kernel
theorem dX7_share_74 : decode cX7_share 74 = .ok (.iand, 1) := by decide +kernel
theorem dX7_share_75 : decode cX7_share 75 = .ok (.ifCond .ne 71, 3) := by decide +kernel
theorem dX7_share_78 : decode cX7_share 78 = .ok (.iload 7, 2) := by decide +kernel
theorem dX7_share_80 : decode cX7_share 80 = .ok (.iload_n 1, 1) := by decide +kernel
theorem dX7_share_81 : decode cX7_share 81 = .ok (.invokestatic 89, 3) := by decide +kernel
theorem dX7_share_84 : decode cX7_share 84 = .ok (.ifCond .ne 62, 3) := by decide +kernel
theorem dX7_share_87 : decode cX7_share 87 = .ok (.iload 7, 2) := by decide +kernel
theorem dX7_share_89 : decode cX7_share 89 = .ok (.invokestatic 213, 3) := by decide +kernel
theorem dX7_share_92 : decode cX7_share 92 = .ok (.invokestatic 225, 3) := by decide +kernel
theorem dX7_share_95 : decode cX7_share 95 = .ok (.iload 5, 2) := by decide +kernel
theorem dX7_share_97 : decode cX7_share 97 = .ok (.iconst 1, 1) := by decide +kernel
theorem dX7_share_98 : decode cX7_share 98 = .ok (.isub, 1) := by decide +kernel
theorem dX7_share_99 : decode cX7_share 99 = .ok (.iload 7, 2) := by decide +kernel
theorem dX7_share_101 : decode cX7_share 101 = .ok (.invokestatic 213, 3) := by decide +kernel
theorem dX7_share_104 : decode cX7_share 104 = .ok (.isub, 1) := by decide +kernel
theorem dX7_share_105 : decode cX7_share 105 = .ok (.invokestatic 225, 3) := by decide +kernel
theorem dX7_share_108 : decode cX7_share 108 = .ok (.imul, 1) := by decide +kernel
theorem dX7_share_109 : decode cX7_share 109 = .ok (.istore 8, 2) := by decide +kernel
theorem dX7_share_111 : decode cX7_share 111 = .ok (.iload 6, 2) := by decide +kernel
theorem dX7_share_113 : decode cX7_share 113 = .ok (.iload 8, 2) := by decide +kernel
theorem dX7_share_115 : decode cX7_share 115 = .ok (.aload_n 0, 1) := by decide +kernel
theorem dX7_share_116 : decode cX7_share 116 = .ok (.getfield 49, 3) := by decide +kernel
theorem dX7_share_119 : decode cX7_share 119 = .ok (.aload_n 0, 1) := by decide +kernel
theorem dX7_share_120 : decode cX7_share 120 = .ok (.iload 7, 2) := by decide +kernel
theorem dX7_share_122 : decode cX7_share 122 = .ok (.iconst 1, 1) := by decide +kernel
theorem dX7_share_123 : decode cX7_share 123 = .ok (.iload_n 1, 1) := by decide +kernel
theorem dX7_share_124 : decode cX7_share 124 = .ok (.ishl, 1) := by decide +kernel
theorem dX7_share_125 : decode cX7_share 125 = .ok (.ior, 1) := by decide +kernel
theorem dX7_share_126 : decode cX7_share 126 = .ok (.invokevirtual 222, 3) := by decide +kernel
theorem dX7_share_129 : decode cX7_share 129 = .ok (.iaload, 1) := by decide +kernel
theorem dX7_share_130 : decode cX7_share 130 = .ok (.aload_n 0, 1) := by decide +kernel
theorem dX7_share_131 : decode cX7_share 131 = .ok (.getfield 49, 3) := by decide +kernel
theorem dX7_share_134 : decode cX7_share 134 = .ok (.aload_n 0, 1) := by decide +kernel
theorem dX7_share_135 : decode cX7_share 135 = .ok (.iload 7, 2) := by decide +kernel
theorem dX7_share_137 : decode cX7_share 137 = .ok (.invokevirtual 222, 3) := by decide +kernel
theorem dX7_share_140 : decode cX7_share 140 = .ok (.iaload, 1) := by decide +kernel
theorem dX7_share_141 : decode cX7_share 141 = .ok (.isub, 1) := by decide +kernel
theorem dX7_share_142 : decode cX7_share 142 = .ok (.imul, 1) := by decide +kernel
theorem dX7_share_143 : decode cX7_share 143 = .ok (.iadd, 1) := by decide +kernel
theorem dX7_share_144 : decode cX7_share 144 = .ok (.istore 6, 2) := by decide +kernel
theorem dX7_share_146 : decode cX7_share 146 = .ok (.iinc 7 1, 3) := by decide +kernel
theorem dX7_share_149 : decode cX7_share 149 = .ok (.goto (-97), 3) := by decide +kernel
theorem dX7_share_152 : decode cX7_share 152 = .ok (.iload_n 3, 1) := by decide +kernel
theorem dX7_share_153 : decode cX7_share 153 = .ok (.iload 5, 2) := by decide +kernel
theorem dX7_share_155 : decode cX7_share 155 = .ok (.invokestatic 225, 3) := by decide +kernel
theorem dX7_share_158 : decode cX7_share 158 = .ok (.imul, 1) := by decide +kernel
theorem dX7_share_159 : decode cX7_share 159 = .ok (.istore 7, 2) := by decide +kernel
theorem dX7_share_161 : decode cX7_share 161 = .ok (.iload 6, 2) := by decide +kernel
theorem dX7_share_163 : decode cX7_share 163 = .ok (.iload 7, 2) := by decide +kernel
theorem dX7_share_165 : decode cX7_share 165 = .ok (.invokestatic 183, 3) := by decide +kernel
theorem dX7_share_168 : decode cX7_share 168 = .ok (.istore 8, 2) := by decide +kernel
theorem dX7_share_170 : decode cX7_share 170 = .ok (.iload_n 2, 1) := by decide +kernel
theorem dX7_share_171 : decode cX7_share 171 = .ok (.ifCond .eq 11, 3) := by decide +kernel
theorem dX7_share_174 : decode cX7_share 174 = .ok (.iload 6, 2) := by decide +kernel
theorem dX7_share_176 : decode cX7_share 176 = .ok (.iload 8, 2) := by decide +kernel
theorem dX7_share_178 : decode cX7_share 178 = .ok (.idiv, 1) := by decide +kernel
theorem dX7_share_179 : decode cX7_share 179 = .ok (.goto 8, 3) := by decide +kernel
theorem dX7_share_182 : decode cX7_share 182 = .ok (.iload 7, 2) := by decide +kernel
theorem dX7_share_184 : decode cX7_share 184 = .ok (.iload 8, 2) := by decide +kernel
theorem dX7_share_186 : decode cX7_share 186 = .ok (.idiv, 1) := by decide +kernel
theorem dX7_share_187 : decode cX7_share 187 = .ok (.ireturn, 1) := by decide +kernel
theorem dX7_thing_0 : decode cX7_thing 0 = .ok (.aload_n 0, 1) := by decide +kernel
theorem dX7_thing_1 : decode cX7_thing 1 = .ok (.iload_n 1, 1) := by decide +kernel
theorem dX7_thing_2 : decode cX7_thing 2 = .ok (.invokevirtual 136, 3) := by decide +kernel
theorem dX7_thing_5 : decode cX7_thing 5 = .ok (.ifCond .ne 5, 3) := by decide +kernel
theorem dX7_thing_8 : decode cX7_thing 8 = .ok (.iconst (-1), 1) := by decide +kernel
theorem dX7_thing_9 : decode cX7_thing 9 = .ok (.ireturn, 1) := by decide +kernel
theorem dX7_thing_10 : decode cX7_thing 10 = .ok (.aload_n 0, 1) := by decide +kernel
theorem dX7_thing_11 : decode cX7_thing 11 = .ok (.iload_n 1, 1) := by decide +kernel
theorem dX7_thing_12 : decode cX7_thing 12 = .ok (.invokevirtual 140, 3) := by decide +kernel
theorem dX7_thing_15 : decode cX7_thing 15 = .ok (.aload_n 0, 1) := by decide +kernel
theorem dX7_thing_16 : decode cX7_thing 16 = .ok (.getfield 40, 3) := by decide +kernel
theorem dX7_thing_19 : decode cX7_thing 19 = .ok (.iconst 0, 1) := by decide +kernel
theorem dX7_thing_20 : decode cX7_thing 20 = .ok (.iaload, 1) := by decide +kernel
theorem dX7_thing_21 : decode cX7_thing 21 = .ok (.if_icmp .gt 7, 3) := by decide +kernel
theorem dX7_thing_24 : decode cX7_thing 24 = .ok (.iconst 1, 1) := by decide +kernel
theorem dX7_thing_25 : decode cX7_thing 25 = .ok (.goto 4, 3) := by decide +kernel
theorem dX7_thing_28 : decode cX7_thing 28 = .ok (.iconst 0, 1) := by decide +kernel
theorem dX7_thing_29 : decode cX7_thing 29 = .ok (.istore_n 3, 1) := by decide +kernel
theorem dX7_thing_30 : decode cX7_thing 30 = .ok (.iload_n 2, 1) := by decide +kernel
theorem dX7_thing_31 : decode cX7_thing 31 = .ok (.tableswitch 97 0 6 #[41, 41, 41, 41, 52, 61, 71], 41) := by decide +kernel
theorem dX7_thing_72 : decode cX7_thing 72 = .ok (.aload_n 0, 1) := by decide +kernel
theorem dX7_thing_73 : decode cX7_thing 73 = .ok (.getfield 7, 3) := by decide +kernel
theorem dX7_thing_76 : decode cX7_thing 76 = .ok (.iconst 5, 1) := by decide +kernel
theorem dX7_thing_77 : decode cX7_thing 77 = .ok (.iload_n 1, 1) := by decide +kernel
theorem dX7_thing_78 : decode cX7_thing 78 = .ok (.imul, 1) := by decide +kernel
theorem dX7_thing_79 : decode cX7_thing 79 = .ok (.iload_n 2, 1) := by decide +kernel
theorem dX7_thing_80 : decode cX7_thing 80 = .ok (.iadd, 1) := by decide +kernel
theorem dX7_thing_81 : decode cX7_thing 81 = .ok (.iaload, 1) := by decide +kernel
theorem dX7_thing_82 : decode cX7_thing 82 = .ok (.ireturn, 1) := by decide +kernel
theorem dX7_thing_83 : decode cX7_thing 83 = .ok (.aload_n 0, 1) := by decide +kernel
theorem dX7_thing_84 : decode cX7_thing 84 = .ok (.getfield 40, 3) := by decide +kernel
theorem dX7_thing_87 : decode cX7_thing 87 = .ok (.iconst 2, 1) := by decide +kernel
theorem dX7_thing_88 : decode cX7_thing 88 = .ok (.iload_n 1, 1) := by decide +kernel
theorem dX7_thing_89 : decode cX7_thing 89 = .ok (.iadd, 1) := by decide +kernel
theorem dX7_thing_90 : decode cX7_thing 90 = .ok (.iaload, 1) := by decide +kernel
theorem dX7_thing_91 : decode cX7_thing 91 = .ok (.ireturn, 1) := by decide +kernel
theorem dX7_thing_92 : decode cX7_thing 92 = .ok (.iload_n 3, 1) := by decide +kernel
theorem dX7_thing_93 : decode cX7_thing 93 = .ok (.ifCond .eq 7, 3) := by decide +kernel
theorem dX7_thing_96 : decode cX7_thing 96 = .ok (.iconst 1, 1) := by decide +kernel
theorem dX7_thing_97 : decode cX7_thing 97 = .ok (.goto 4, 3) := by decide +kernel
theorem dX7_thing_100 : decode cX7_thing 100 = .ok (.iconst 0, 1) := by decide +kernel
theorem dX7_thing_101 : decode cX7_thing 101 = .ok (.ireturn, 1) := by decide +kernel
theorem dX7_thing_102 : decode cX7_thing 102 = .ok (.iload_n 3, 1) := by decide +kernel
theorem dX7_thing_103 : decode cX7_thing 103 = .ok (.ifCond .ne 14, 3) := by decide +kernel
theorem dX7_thing_106 : decode cX7_thing 106 = .ok (.aload_n 0, 1) := by decide +kernel
theorem dX7_thing_107 : decode cX7_thing 107 = .ok (.invokevirtual 143, 3) := by decide +kernel
theorem dX7_thing_110 : decode cX7_thing 110 = .ok (.iload_n 1, 1) := by decide +kernel
theorem dX7_thing_111 : decode cX7_thing 111 = .ok (.invokestatic 89, 3) := by decide +kernel
theorem dX7_thing_114 : decode cX7_thing 114 = .ok (.ifCond .eq 11, 3) := by decide +kernel
theorem dX7_thing_117 : decode cX7_thing 117 = .ok (.aload_n 0, 1) := by decide +kernel
theorem dX7_thing_118 : decode cX7_thing 118 = .ok (.iload_n 1, 1) := by decide +kernel
theorem dX7_thing_119 : decode cX7_thing 119 = .ok (.invokevirtual 140, 3) := by decide +kernel
theorem dX7_thing_122 : decode cX7_thing 122 = .ok (.goto 5, 3) := by decide +kernel
theorem dX7_thing_125 : decode cX7_thing 125 = .ok (.bipush (-9), 2) := by decide +kernel
theorem dX7_thing_127 : decode cX7_thing 127 = .ok (.ireturn, 1) := by decide +kernel
theorem dX7_thing_128 : decode cX7_thing 128 = .ok (.bipush (-2), 2) := by decide +kernel
theorem dX7_thing_130 : decode cX7_thing 130 = .ok (.ireturn, 1) := by decide +kernel
theorem dX7_toAsk_0 : decode cX7_toAsk 0 = .ok (.aload_n 0, 1) := by decide +kernel
theorem dX7_toAsk_1 : decode cX7_toAsk 1 = .ok (.aload_n 0, 1) := by decide +kernel
theorem dX7_toAsk_2 : decode cX7_toAsk 2 = .ok (.getfield 40, 3) := by decide +kernel
theorem dX7_toAsk_5 : decode cX7_toAsk 5 = .ok (.iconst 0, 1) := by decide +kernel
theorem dX7_toAsk_6 : decode cX7_toAsk 6 = .ok (.iaload, 1) := by decide +kernel
theorem dX7_toAsk_7 : decode cX7_toAsk 7 = .ok (.iconst 0, 1) := by decide +kernel
theorem dX7_toAsk_8 : decode cX7_toAsk 8 = .ok (.invokevirtual 180, 3) := by decide +kernel
theorem dX7_toAsk_11 : decode cX7_toAsk 11 = .ok (.ifCond .ne 6, 3) := by decide +kernel
theorem dX7_toAsk_14 : decode cX7_toAsk 14 = .ok (.bipush (-3), 2) := by decide +kernel
theorem dX7_toAsk_16 : decode cX7_toAsk 16 = .ok (.ireturn, 1) := by decide +kernel
theorem dX7_toAsk_17 : decode cX7_toAsk 17 = .ok (.aload_n 0, 1) := by decide +kernel
theorem dX7_toAsk_18 : decode cX7_toAsk 18 = .ok (.invokevirtual 216, 3) := by decide +kernel
theorem dX7_toAsk_21 : decode cX7_toAsk 21 = .ok (.aload_n 0, 1) := by decide +kernel
theorem dX7_toAsk_22 : decode cX7_toAsk 22 = .ok (.aload_n 0, 1) := by decide +kernel
theorem dX7_toAsk_23 : decode cX7_toAsk 23 = .ok (.invokevirtual 219, 3) := by decide +kernel
theorem dX7_toAsk_26 : decode cX7_toAsk 26 = .ok (.invokevirtual 222, 3) := by decide +kernel
theorem dX7_toAsk_29 : decode cX7_toAsk 29 = .ok (.ireturn, 1) := by decide +kernel
theorem dX7_town_0 : decode cX7_town 0 = .ok (.aload_n 0, 1) := by decide +kernel
theorem dX7_town_1 : decode cX7_town 1 = .ok (.invokevirtual 121, 3) := by decide +kernel
theorem dX7_town_4 : decode cX7_town 4 = .ok (.bipush (-9), 2) := by decide +kernel
theorem dX7_town_6 : decode cX7_town 6 = .ok (.if_icmp .eq 6, 3) := by decide +kernel
theorem dX7_town_9 : decode cX7_town 9 = .ok (.bipush (-3), 2) := by decide +kernel
theorem dX7_town_11 : decode cX7_town 11 = .ok (.ireturn, 1) := by decide +kernel
theorem dX7_town_12 : decode cX7_town 12 = .ok (.aload_n 0, 1) := by decide +kernel
theorem dX7_town_13 : decode cX7_town 13 = .ok (.aload_n 0, 1) := by decide +kernel
theorem dX7_town_14 : decode cX7_town 14 = .ok (.getfield 93, 3) := by decide +kernel
theorem dX7_town_17 : decode cX7_town 17 = .ok (.putfield 124, 3) := by decide +kernel
theorem dX7_town_20 : decode cX7_town 20 = .ok (.aload_n 0, 1) := by decide +kernel
theorem dX7_town_21 : decode cX7_town 21 = .ok (.aload_n 0, 1) := by decide +kernel
theorem dX7_town_22 : decode cX7_town 22 = .ok (.getfield 103, 3) := by decide +kernel
theorem dX7_town_25 : decode cX7_town 25 = .ok (.putfield 127, 3) := by decide +kernel
theorem dX7_town_28 : decode cX7_town 28 = .ok (.aload_n 0, 1) := by decide +kernel
theorem dX7_town_29 : decode cX7_town 29 = .ok (.aload_n 0, 1) := by decide +kernel
theorem dX7_town_30 : decode cX7_town 30 = .ok (.getfield 96, 3) := by decide +kernel
theorem dX7_town_33 : decode cX7_town 33 = .ok (.putfield 130, 3) := by decide +kernel
theorem dX7_town_36 : decode cX7_town 36 = .ok (.iconst 0, 1) := by decide +kernel
theorem dX7_town_37 : decode cX7_town 37 = .ok (.istore_n 1, 1) := by decide +kernel
theorem dX7_town_38 : decode cX7_town 38 = .ok (.iload_n 1, 1) := by decide +kernel
theorem dX7_town_39 : decode cX7_town 39 = .ok (.bipush 20, 2) := by decide +kernel
theorem dX7_town_41 : decode cX7_town 41 = .ok (.if_icmp .ge 21, 3) := by decide +kernel
theorem dX7_town_44 : decode cX7_town 44 = .ok (.aload_n 0, 1) := by decide +kernel
theorem dX7_town_45 : decode cX7_town 45 = .ok (.getfield 7, 3) := by decide +kernel
theorem dX7_town_48 : decode cX7_town 48 = .ok (.iload_n 1, 1) := by decide +kernel
theorem dX7_town_49 : decode cX7_town 49 = .ok (.aload_n 0, 1) := by decide +kernel
theorem dX7_town_50 : decode cX7_town 50 = .ok (.getfield 25, 3) := by decide +kernel
theorem dX7_town_53 : decode cX7_town 53 = .ok (.iload_n 1, 1) := by decide +kernel
theorem dX7_town_54 : decode cX7_town 54 = .ok (.iaload, 1) := by decide +kernel
theorem dX7_town_55 : decode cX7_town 55 = .ok (.iastore, 1) := by decide +kernel
theorem dX7_town_56 : decode cX7_town 56 = .ok (.iinc 1 1, 3) := by decide +kernel
theorem dX7_town_59 : decode cX7_town 59 = .ok (.goto (-21), 3) := by decide +kernel
theorem dX7_town_62 : decode cX7_town 62 = .ok (.iconst 0, 1) := by decide +kernel
theorem dX7_town_63 : decode cX7_town 63 = .ok (.istore_n 1, 1) := by decide +kernel
theorem dX7_town_64 : decode cX7_town 64 = .ok (.iload_n 1, 1) := by decide +kernel
theorem dX7_town_65 : decode cX7_town 65 = .ok (.iconst 4, 1) := by decide +kernel
theorem dX7_town_66 : decode cX7_town 66 = .ok (.if_icmp .ge 33, 3) := by decide +kernel
theorem dX7_town_69 : decode cX7_town 69 = .ok (.aload_n 0, 1) := by decide +kernel
theorem dX7_town_70 : decode cX7_town 70 = .ok (.getfield 13, 3) := by decide +kernel
theorem dX7_town_73 : decode cX7_town 73 = .ok (.iload_n 1, 1) := by decide +kernel
theorem dX7_town_74 : decode cX7_town 74 = .ok (.aload_n 0, 1) := by decide +kernel
theorem dX7_town_75 : decode cX7_town 75 = .ok (.getfield 28, 3) := by decide +kernel
theorem dX7_town_78 : decode cX7_town 78 = .ok (.iload_n 1, 1) := by decide +kernel
theorem dX7_town_79 : decode cX7_town 79 = .ok (.iaload, 1) := by decide +kernel
theorem dX7_town_80 : decode cX7_town 80 = .ok (.iastore, 1) := by decide +kernel
theorem dX7_town_81 : decode cX7_town 81 = .ok (.aload_n 0, 1) := by decide +kernel
theorem dX7_town_82 : decode cX7_town 82 = .ok (.getfield 16, 3) := by decide +kernel
theorem dX7_town_85 : decode cX7_town 85 = .ok (.iload_n 1, 1) := by decide +kernel
theorem dX7_town_86 : decode cX7_town 86 = .ok (.aload_n 0, 1) := by decide +kernel
theorem dX7_town_87 : decode cX7_town 87 = .ok (.getfield 31, 3) := by decide +kernel
theorem dX7_town_90 : decode cX7_town 90 = .ok (.iload_n 1, 1) := by decide +kernel
theorem dX7_town_91 : decode cX7_town 91 = .ok (.iaload, 1) := by decide +kernel
theorem dX7_town_92 : decode cX7_town 92 = .ok (.iastore, 1) := by decide +kernel
theorem dX7_town_93 : decode cX7_town 93 = .ok (.iinc 1 1, 3) := by decide +kernel
theorem dX7_town_96 : decode cX7_town 96 = .ok (.goto (-32), 3) := by decide +kernel
theorem dX7_town_99 : decode cX7_town 99 = .ok (.iconst 0, 1) := by decide +kernel
theorem dX7_town_100 : decode cX7_town 100 = .ok (.istore_n 1, 1) := by decide +kernel
theorem dX7_town_101 : decode cX7_town 101 = .ok (.iload_n 1, 1) := by decide +kernel
theorem dX7_town_102 : decode cX7_town 102 = .ok (.iconst 3, 1) := by decide +kernel
theorem dX7_town_103 : decode cX7_town 103 = .ok (.if_icmp .ge 33, 3) := by decide +kernel
theorem dX7_town_106 : decode cX7_town 106 = .ok (.aload_n 0, 1) := by decide +kernel
theorem dX7_town_107 : decode cX7_town 107 = .ok (.getfield 19, 3) := by decide +kernel
theorem dX7_town_110 : decode cX7_town 110 = .ok (.iload_n 1, 1) := by decide +kernel
theorem dX7_town_111 : decode cX7_town 111 = .ok (.aload_n 0, 1) := by decide +kernel
theorem dX7_town_112 : decode cX7_town 112 = .ok (.getfield 34, 3) := by decide +kernel
theorem dX7_town_115 : decode cX7_town 115 = .ok (.iload_n 1, 1) := by decide +kernel
theorem dX7_town_116 : decode cX7_town 116 = .ok (.iaload, 1) := by decide +kernel
theorem dX7_town_117 : decode cX7_town 117 = .ok (.iastore, 1) := by decide +kernel
theorem dX7_town_118 : decode cX7_town 118 = .ok (.aload_n 0, 1) := by decide +kernel
theorem dX7_town_119 : decode cX7_town 119 = .ok (.getfield 22, 3) := by decide +kernel
theorem dX7_town_122 : decode cX7_town 122 = .ok (.iload_n 1, 1) := by decide +kernel
theorem dX7_town_123 : decode cX7_town 123 = .ok (.aload_n 0, 1) := by decide +kernel
theorem dX7_town_124 : decode cX7_town 124 = .ok (.getfield 37, 3) := by decide +kernel
theorem dX7_town_127 : decode cX7_town 127 = .ok (.iload_n 1, 1) := by decide +kernel
theorem dX7_town_128 : decode cX7_town 128 = .ok (.iaload, 1) := by decide +kernel
theorem dX7_town_129 : decode cX7_town 129 = .ok (.iastore, 1) := by decide +kernel
theorem dX7_town_130 : decode cX7_town 130 = .ok (.iinc 1 1, 3) := by decide +kernel
theorem dX7_town_133 : decode cX7_town 133 = .ok (.goto (-32), 3) := by decide +kernel
theorem dX7_town_136 : decode cX7_town 136 = .ok (.aload_n 0, 1) := by decide +kernel
theorem dX7_town_137 : decode cX7_town 137 = .ok (.invokevirtual 68, 3) := by decide +kernel
theorem dX7_town_140 : decode cX7_town 140 = .ok (.aload_n 0, 1) := by decide +kernel
theorem dX7_town_141 : decode cX7_town 141 = .ok (.iconst 0, 1) := by decide +kernel
theorem dX7_town_142 : decode cX7_town 142 = .ok (.putfield 133, 3) := by decide +kernel
theorem dX7_town_145 : decode cX7_town 145 = .ok (.aload_n 0, 1) := by decide +kernel
theorem dX7_town_146 : decode cX7_town 146 = .ok (.getfield 61, 3) := by decide +kernel
theorem dX7_town_149 : decode cX7_town 149 = .ok (.iconst 0, 1) := by decide +kernel
theorem dX7_town_150 : decode cX7_town 150 = .ok (.iconst 0, 1) := by decide +kernel
theorem dX7_town_151 : decode cX7_town 151 = .ok (.bastore, 1) := by decide +kernel
theorem dX7_town_152 : decode cX7_town 152 = .ok (.aload_n 0, 1) := by decide +kernel
theorem dX7_town_153 : decode cX7_town 153 = .ok (.getfield 61, 3) := by decide +kernel
theorem dX7_town_156 : decode cX7_town 156 = .ok (.iconst 1, 1) := by decide +kernel
theorem dX7_town_157 : decode cX7_town 157 = .ok (.iconst 0, 1) := by decide +kernel
theorem dX7_town_158 : decode cX7_town 158 = .ok (.bastore, 1) := by decide +kernel
theorem dX7_town_159 : decode cX7_town 159 = .ok (.bipush 10, 2) := by decide +kernel
theorem dX7_town_161 : decode cX7_town 161 = .ok (.aload_n 0, 1) := by decide +kernel
theorem dX7_town_162 : decode cX7_town 162 = .ok (.getfield 124, 3) := by decide +kernel
theorem dX7_town_165 : decode cX7_town 165 = .ok (.imul, 1) := by decide +kernel
theorem dX7_town_166 : decode cX7_town 166 = .ok (.aload_n 0, 1) := by decide +kernel
theorem dX7_town_167 : decode cX7_town 167 = .ok (.getfield 127, 3) := by decide +kernel
theorem dX7_town_170 : decode cX7_town 170 = .ok (.iadd, 1) := by decide +kernel
theorem dX7_town_171 : decode cX7_town 171 = .ok (.ireturn, 1) := by decide +kernel
theorem dX7_undo_0 : decode cX7_undo 0 = .ok (.aload_n 0, 1) := by decide +kernel
theorem dX7_undo_1 : decode cX7_undo 1 = .ok (.getfield 133, 3) := by decide +kernel
theorem dX7_undo_4 : decode cX7_undo 4 = .ok (.ifCond .ne 6, 3) := by decide +kernel
theorem dX7_undo_7 : decode cX7_undo 7 = .ok (.bipush (-3), 2) := by decide +kernel
theorem dX7_undo_9 : decode cX7_undo 9 = .ok (.ireturn, 1) := by decide +kernel
theorem dX7_undo_10 : decode cX7_undo 10 = .ok (.aload_n 0, 1) := by decide +kernel
theorem dX7_undo_11 : decode cX7_undo 11 = .ok (.dup, 1) := by decide +kernel
theorem dX7_undo_12 : decode cX7_undo 12 = .ok (.getfield 133, 3) := by decide +kernel
theorem dX7_undo_15 : decode cX7_undo 15 = .ok (.iconst 1, 1) := by decide +kernel
theorem dX7_undo_16 : decode cX7_undo 16 = .ok (.isub, 1) := by decide +kernel
theorem dX7_undo_17 : decode cX7_undo 17 = .ok (.putfield 133, 3) := by decide +kernel
theorem dX7_undo_20 : decode cX7_undo 20 = .ok (.aload_n 0, 1) := by decide +kernel
theorem dX7_undo_21 : decode cX7_undo 21 = .ok (.aload_n 0, 1) := by decide +kernel
theorem dX7_undo_22 : decode cX7_undo 22 = .ok (.getfield 152, 3) := by decide +kernel
theorem dX7_undo_25 : decode cX7_undo 25 = .ok (.bipush 15, 2) := by decide +kernel
theorem dX7_undo_27 : decode cX7_undo 27 = .ok (.iadd, 1) := by decide +kernel
theorem dX7_undo_28 : decode cX7_undo 28 = .ok (.bipush 16, 2) := by decide +kernel
theorem dX7_undo_30 : decode cX7_undo 30 = .ok (.irem, 1) := by decide +kernel
theorem dX7_undo_31 : decode cX7_undo 31 = .ok (.putfield 152, 3) := by decide +kernel
theorem dX7_undo_34 : decode cX7_undo 34 = .ok (.iconst 0, 1) := by decide +kernel
theorem dX7_undo_35 : decode cX7_undo 35 = .ok (.istore_n 1, 1) := by decide +kernel
theorem dX7_undo_36 : decode cX7_undo 36 = .ok (.iload_n 1, 1) := by decide +kernel
theorem dX7_undo_37 : decode cX7_undo 37 = .ok (.bipush 10, 2) := by decide +kernel
theorem dX7_undo_39 : decode cX7_undo 39 = .ok (.if_icmp .ge 29, 3) := by decide +kernel
theorem dX7_undo_42 : decode cX7_undo 42 = .ok (.aload_n 0, 1) := by decide +kernel
theorem dX7_undo_43 : decode cX7_undo 43 = .ok (.getfield 40, 3) := by decide +kernel
theorem dX7_undo_46 : decode cX7_undo 46 = .ok (.iload_n 1, 1) := by decide +kernel
theorem dX7_undo_47 : decode cX7_undo 47 = .ok (.aload_n 0, 1) := by decide +kernel
theorem dX7_undo_48 : decode cX7_undo 48 = .ok (.getfield 46, 3) := by decide +kernel
theorem dX7_undo_51 : decode cX7_undo 51 = .ok (.bipush 10, 2) := by decide +kernel
theorem dX7_undo_53 : decode cX7_undo 53 = .ok (.aload_n 0, 1) := by decide +kernel
theorem dX7_undo_54 : decode cX7_undo 54 = .ok (.getfield 152, 3) := by decide +kernel
theorem dX7_undo_57 : decode cX7_undo 57 = .ok (.imul, 1) := by decide +kernel
theorem dX7_undo_58 : decode cX7_undo 58 = .ok (.iload_n 1, 1) := by decide +kernel
theorem dX7_undo_59 : decode cX7_undo 59 = .ok (.iadd, 1) := by decide +kernel
theorem dX7_undo_60 : decode cX7_undo 60 = .ok (.iaload, 1) := by decide +kernel
theorem dX7_undo_61 : decode cX7_undo 61 = .ok (.iastore, 1) := by decide +kernel
theorem dX7_undo_62 : decode cX7_undo 62 = .ok (.iinc 1 1, 3) := by decide +kernel
theorem dX7_undo_65 : decode cX7_undo 65 = .ok (.goto (-29), 3) := by decide +kernel
theorem dX7_undo_68 : decode cX7_undo 68 = .ok (.aload_n 0, 1) := by decide +kernel
theorem dX7_undo_69 : decode cX7_undo 69 = .ok (.getfield 133, 3) := by decide +kernel
theorem dX7_undo_72 : decode cX7_undo 72 = .ok (.ireturn, 1) := by decide +kernel
theorem dX7_unsee_0 : decode cX7_unsee 0 = .ok (.aload_n 0, 1) := by decide +kernel
theorem dX7_unsee_1 : decode cX7_unsee 1 = .ok (.getfield 228, 3) := by decide +kernel
theorem dX7_unsee_4 : decode cX7_unsee 4 = .ok (.istore_n 1, 1) := by decide +kernel
theorem dX7_unsee_5 : decode cX7_unsee 5 = .ok (.aload_n 0, 1) := by decide +kernel
theorem dX7_unsee_6 : decode cX7_unsee 6 = .ok (.iconst 0, 1) := by decide +kernel
theorem dX7_unsee_7 : decode cX7_unsee 7 = .ok (.putfield 228, 3) := by decide +kernel
theorem dX7_unsee_10 : decode cX7_unsee 10 = .ok (.iload_n 1, 1) := by decide +kernel
theorem dX7_unsee_11 : decode cX7_unsee 11 = .ok (.ireturn, 1) := by decide +kernel
theorem dX7_which_0 : decode cX7_which 0 = .ok (.iconst 0, 1) := by decide +kernel
theorem dX7_which_1 : decode cX7_which 1 = .ok (.istore_n 1, 1) := by decide +kernel
theorem dX7_which_2 : decode cX7_which 2 = .ok (.iconst 0, 1) := by decide +kernel
theorem dX7_which_3 : decode cX7_which 3 = .ok (.istore_n 2, 1) := by decide +kernel
theorem dX7_which_4 : decode cX7_which 4 = .ok (.iload_n 2, 1) := by decide +kernel
theorem dX7_which_5 : decode cX7_which 5 = .ok (.iconst 5, 1) := by decide +kernel
theorem dX7_which_6 : decode cX7_which 6 = .ok (.if_icmp .ge 40, 3) := by decide +kernel
theorem dX7_which_9 : decode cX7_which 9 = .ok (.iload_n 1, 1) := by decide +kernel
theorem dX7_which_10 : decode cX7_which 10 = .ok (.iload_n 2, 1) := by decide +kernel
theorem dX7_which_11 : decode cX7_which 11 = .ok (.iconst 4, 1) := by decide +kernel
theorem dX7_which_12 : decode cX7_which 12 = .ok (.if_icmp .eq 11, 3) := by decide +kernel
theorem dX7_which_15 : decode cX7_which 15 = .ok (.aload_n 0, 1) := by decide +kernel
theorem dX7_which_16 : decode cX7_which 16 = .ok (.iload_n 2, 1) := by decide +kernel
theorem dX7_which_17 : decode cX7_which 17 = .ok (.invokevirtual 136, 3) := by decide +kernel
theorem dX7_which_20 : decode cX7_which 20 = .ok (.ifCond .eq 17, 3) := by decide +kernel
theorem dX7_which_23 : decode cX7_which 23 = .ok (.aload_n 0, 1) := by decide +kernel
theorem dX7_which_24 : decode cX7_which 24 = .ok (.iload_n 2, 1) := by decide +kernel
theorem dX7_which_25 : decode cX7_which 25 = .ok (.invokevirtual 234, 3) := by decide +kernel
theorem dX7_which_28 : decode cX7_which 28 = .ok (.ifCond .eq 9, 3) := by decide +kernel
theorem dX7_which_31 : decode cX7_which 31 = .ok (.iconst 1, 1) := by decide +kernel
theorem dX7_which_32 : decode cX7_which 32 = .ok (.iload_n 2, 1) := by decide +kernel
theorem dX7_which_33 : decode cX7_which 33 = .ok (.ishl, 1) := by decide +kernel
theorem dX7_which_34 : decode cX7_which 34 = .ok (.goto 4, 3) := by decide +kernel
theorem dX7_which_37 : decode cX7_which 37 = .ok (.iconst 0, 1) := by decide +kernel
theorem dX7_which_38 : decode cX7_which 38 = .ok (.ior, 1) := by decide +kernel
theorem dX7_which_39 : decode cX7_which 39 = .ok (.istore_n 1, 1) := by decide +kernel
theorem dX7_which_40 : decode cX7_which 40 = .ok (.iinc 2 1, 3) := by decide +kernel
theorem dX7_which_43 : decode cX7_which 43 = .ok (.goto (-39), 3) := by decide +kernel
theorem dX7_which_46 : decode cX7_which 46 = .ok (.iload_n 1, 1) := by decide +kernel
theorem dX7_which_47 : decode cX7_which 47 = .ok (.ireturn, 1) := by decide +kernel
theorem dX7_wipe_0 : decode cX7_wipe 0 = .ok (.aload_n 0, 1) := by decide +kernel
theorem dX7_wipe_1 : decode cX7_wipe 1 = .ok (.getfield 77, 3) := by decide +kernel
theorem dX7_wipe_4 : decode cX7_wipe 4 = .ok (.istore_n 1, 1) := by decide +kernel
theorem dX7_wipe_5 : decode cX7_wipe 5 = .ok (.aload_n 0, 1) := by decide +kernel
theorem dX7_wipe_6 : decode cX7_wipe 6 = .ok (.iconst 0, 1) := by decide +kernel
theorem dX7_wipe_7 : decode cX7_wipe 7 = .ok (.putfield 77, 3) := by decide +kernel
theorem dX7_wipe_10 : decode cX7_wipe 10 = .ok (.iload_n 1, 1) := by decide +kernel
theorem dX7_wipe_11 : decode cX7_wipe 11 = .ok (.ireturn, 1) := by decide +kernel
theorem dX7_wise_0 : decode cX7_wise 0 = .ok (.aload_n 0, 1) := by decide +kernel
theorem dX7_wise_1 : decode cX7_wise 1 = .ok (.iload_n 1, 1) := by decide +kernel
theorem dX7_wise_2 : decode cX7_wise 2 = .ok (.invokevirtual 146, 3) := by decide +kernel
theorem dX7_wise_5 : decode cX7_wise 5 = .ok (.ifCond .eq 11, 3) := by decide +kernel
theorem dX7_wise_8 : decode cX7_wise 8 = .ok (.aload_n 0, 1) := by decide +kernel
theorem dX7_wise_9 : decode cX7_wise 9 = .ok (.iload_n 2, 1) := by decide +kernel
theorem dX7_wise_10 : decode cX7_wise 10 = .ok (.invokevirtual 136, 3) := by decide +kernel
theorem dX7_wise_13 : decode cX7_wise 13 = .ok (.ifCond .ne 5, 3) := by decide +kernel
theorem dX7_wise_16 : decode cX7_wise 16 = .ok (.iconst (-1), 1) := by decide +kernel
theorem dX7_wise_17 : decode cX7_wise 17 = .ok (.ireturn, 1) := by decide +kernel
theorem dX7_wise_18 : decode cX7_wise 18 = .ok (.aload_n 0, 1) := by decide +kernel
theorem dX7_wise_19 : decode cX7_wise 19 = .ok (.aload_n 0, 1) := by decide +kernel
theorem dX7_wise_20 : decode cX7_wise 20 = .ok (.getfield 40, 3) := by decide +kernel
theorem dX7_wise_23 : decode cX7_wise 23 = .ok (.iconst 0, 1) := by decide +kernel
theorem dX7_wise_24 : decode cX7_wise 24 = .ok (.iaload, 1) := by decide +kernel
theorem dX7_wise_25 : decode cX7_wise 25 = .ok (.aload_n 0, 1) := by decide +kernel
theorem dX7_wise_26 : decode cX7_wise 26 = .ok (.iload_n 1, 1) := by decide +kernel
theorem dX7_wise_27 : decode cX7_wise 27 = .ok (.invokevirtual 149, 3) := by decide +kernel
theorem dX7_wise_30 : decode cX7_wise 30 = .ok (.invokevirtual 180, 3) := by decide +kernel
theorem dX7_wise_33 : decode cX7_wise 33 = .ok (.ifCond .eq 16, 3) := by decide +kernel
theorem dX7_wise_36 : decode cX7_wise 36 = .ok (.aload_n 0, 1) := by decide +kernel
theorem dX7_wise_37 : decode cX7_wise 37 = .ok (.getfield 40, 3) := by decide +kernel
theorem dX7_wise_40 : decode cX7_wise 40 = .ok (.iconst 2, 1) := by decide +kernel
theorem dX7_wise_41 : decode cX7_wise 41 = .ok (.iload_n 2, 1) := by decide +kernel
theorem dX7_wise_42 : decode cX7_wise 42 = .ok (.iadd, 1) := by decide +kernel
theorem dX7_wise_43 : decode cX7_wise 43 = .ok (.iaload, 1) := by decide +kernel
theorem dX7_wise_44 : decode cX7_wise 44 = .ok (.bipush (-9), 2) := by decide +kernel
theorem dX7_wise_46 : decode cX7_wise 46 = .ok (.if_icmp .eq 6, 3) := by decide +kernel
theorem dX7_wise_49 : decode cX7_wise 49 = .ok (.bipush (-3), 2) := by decide +kernel
theorem dX7_wise_51 : decode cX7_wise 51 = .ok (.ireturn, 1) := by decide +kernel
theorem dX7_wise_52 : decode cX7_wise 52 = .ok (.aload_n 0, 1) := by decide +kernel
theorem dX7_wise_53 : decode cX7_wise 53 = .ok (.aload_n 0, 1) := by decide +kernel
theorem dX7_wise_54 : decode cX7_wise 54 = .ok (.getfield 40, 3) := by decide +kernel
theorem dX7_wise_57 : decode cX7_wise 57 = .ok (.iconst 0, 1) := by decide +kernel
theorem dX7_wise_58 : decode cX7_wise 58 = .ok (.iaload, 1) := by decide +kernel
theorem dX7_wise_59 : decode cX7_wise 59 = .ok (.aload_n 0, 1) := by decide +kernel
theorem dX7_wise_60 : decode cX7_wise 60 = .ok (.iload_n 1, 1) := by decide +kernel
theorem dX7_wise_61 : decode cX7_wise 61 = .ok (.invokevirtual 149, 3) := by decide +kernel
theorem dX7_wise_64 : decode cX7_wise 64 = .ok (.invokevirtual 197, 3) := by decide +kernel
theorem dX7_wise_67 : decode cX7_wise 67 = .ok (.aload_n 0, 1) := by decide +kernel
theorem dX7_wise_68 : decode cX7_wise 68 = .ok (.iload_n 2, 1) := by decide +kernel
theorem dX7_wise_69 : decode cX7_wise 69 = .ok (.aload_n 0, 1) := by decide +kernel
theorem dX7_wise_70 : decode cX7_wise 70 = .ok (.getfield 40, 3) := by decide +kernel
theorem dX7_wise_73 : decode cX7_wise 73 = .ok (.iconst 0, 1) := by decide +kernel
theorem dX7_wise_74 : decode cX7_wise 74 = .ok (.iaload, 1) := by decide +kernel
theorem dX7_wise_75 : decode cX7_wise 75 = .ok (.invokevirtual 201, 3) := by decide +kernel
theorem dX7_wise_78 : decode cX7_wise 78 = .ok (.ireturn, 1) := by decide +kernel
theorem dX7_worlds_0 : decode cX7_worlds 0 = .ok (.iload_n 1, 1) := by decide +kernel
theorem dX7_worlds_1 : decode cX7_worlds 1 = .ok (.i2l, 1) := by decide +kernel
theorem dX7_worlds_2 : decode cX7_worlds 2 = .ok (.lconst 0, 1) := by decide +kernel
theorem dX7_worlds_3 : decode cX7_worlds 3 = .ok (.ldc2_w 178, 3) := by decide +kernel
theorem dX7_worlds_6 : decode cX7_worlds 6 = .ok (.invokestatic 73, 3) := by decide +kernel
theorem dX7_worlds_9 : decode cX7_worlds 9 = .ok (.ifCond .ne 6, 3) := by decide +kernel
theorem dX7_worlds_12 : decode cX7_worlds 12 = .ok (.bipush (-2), 2) := by decide +kernel
theorem dX7_worlds_14 : decode cX7_worlds 14 = .ok (.ireturn, 1) := by decide +kernel
theorem dX7_worlds_15 : decode cX7_worlds 15 = .ok (.iconst 0, 1) := by decide +kernel
theorem dX7_worlds_16 : decode cX7_worlds 16 = .ok (.istore_n 2, 1) := by decide +kernel
theorem dX7_worlds_17 : decode cX7_worlds 17 = .ok (.iconst 0, 1) := by decide +kernel
theorem dX7_worlds_18 : decode cX7_worlds 18 = .ok (.istore_n 3, 1) := by decide +kernel
theorem dX7_worlds_19 : decode cX7_worlds 19 = .ok (.iload_n 3, 1) := by decide +kernel
theorem dX7_worlds_20 : decode cX7_worlds 20 = .ok (.iconst 1, 1) := by decide +kernel
theorem dX7_worlds_21 : decode cX7_worlds 21 = .ok (.aload_n 0, 1) := by decide +kernel
theorem dX7_worlds_22 : decode cX7_worlds 22 = .ok (.getfield 124, 3) := by decide +kernel
theorem dX7_worlds_25 : decode cX7_worlds 25 = .ok (.ishl, 1) := by decide +kernel
theorem dX7_worlds_26 : decode cX7_worlds 26 = .ok (.if_icmp .ge 62, 3) := by decide +kernel
theorem dX7_worlds_29 : decode cX7_worlds 29 = .ok (.iload_n 1, 1) := by decide +kernel
theorem dX7_worlds_30 : decode cX7_worlds 30 = .ok (.iconst 2, 1) := by decide +kernel
theorem dX7_worlds_31 : decode cX7_worlds 31 = .ok (.irem, 1) := by decide +kernel
theorem dX7_worlds_32 : decode cX7_worlds 32 = .ok (.ifCond .ne 11, 3) := by decide +kernel
theorem dX7_worlds_35 : decode cX7_worlds 35 = .ok (.aload_n 0, 1) := by decide +kernel
theorem dX7_worlds_36 : decode cX7_worlds 36 = .ok (.iload_n 3, 1) := by decide +kernel
theorem dX7_worlds_37 : decode cX7_worlds 37 = .ok (.invokevirtual 158, 3) := by decide +kernel
theorem dX7_worlds_40 : decode cX7_worlds 40 = .ok (.goto 14, 3) := by decide +kernel
theorem dX7_worlds_43 : decode cX7_worlds 43 = .ok (.aload_n 0, 1) := by decide +kernel
theorem dX7_worlds_44 : decode cX7_worlds 44 = .ok (.iload_n 3, 1) := by decide +kernel
theorem dX7_worlds_45 : decode cX7_worlds 45 = .ok (.aload_n 0, 1) := by decide +kernel
theorem dX7_worlds_46 : decode cX7_worlds 46 = .ok (.getfield 40, 3) := by decide +kernel
theorem dX7_worlds_49 : decode cX7_worlds 49 = .ok (.iconst 0, 1) := by decide +kernel
theorem dX7_worlds_50 : decode cX7_worlds 50 = .ok (.iaload, 1) := by decide +kernel
theorem dX7_worlds_51 : decode cX7_worlds 51 = .ok (.invokevirtual 165, 3) := by decide +kernel
theorem dX7_worlds_54 : decode cX7_worlds 54 = .ok (.istore 4, 2) := by decide +kernel
theorem dX7_worlds_56 : decode cX7_worlds 56 = .ok (.iload_n 2, 1) := by decide +kernel
theorem dX7_worlds_57 : decode cX7_worlds 57 = .ok (.iload 4, 2) := by decide +kernel
theorem dX7_worlds_59 : decode cX7_worlds 59 = .ok (.ifCond .ne 7, 3) := by decide +kernel
theorem dX7_worlds_62 : decode cX7_worlds 62 = .ok (.iconst 0, 1) := by decide +kernel
theorem dX7_worlds_63 : decode cX7_worlds 63 = .ok (.goto 17, 3) := by decide +kernel
theorem dX7_worlds_66 : decode cX7_worlds 66 = .ok (.iload_n 1, 1) := by decide +kernel
theorem dX7_worlds_67 : decode cX7_worlds 67 = .ok (.iconst 2, 1) := by decide +kernel
theorem dX7_worlds_68 : decode cX7_worlds 68 = .ok (.if_icmp .ge 7, 3) := by decide +kernel
theorem dX7_worlds_71 : decode cX7_worlds 71 = .ok (.iconst 1, 1) := by decide +kernel
theorem dX7_worlds_72 : decode cX7_worlds 72 = .ok (.goto 8, 3) := by decide +kernel
theorem dX7_worlds_75 : decode cX7_worlds 75 = .ok (.aload_n 0, 1) := by decide +kernel
theorem dX7_worlds_76 : decode cX7_worlds 76 = .ok (.iload_n 3, 1) := by decide +kernel
theorem dX7_worlds_77 : decode cX7_worlds 77 = .ok (.invokevirtual 175, 3) := by decide +kernel
theorem dX7_worlds_80 : decode cX7_worlds 80 = .ok (.iadd, 1) := by decide +kernel
theorem dX7_worlds_81 : decode cX7_worlds 81 = .ok (.istore_n 2, 1) := by decide +kernel
theorem dX7_worlds_82 : decode cX7_worlds 82 = .ok (.iinc 3 1, 3) := by decide +kernel
theorem dX7_worlds_85 : decode cX7_worlds 85 = .ok (.goto (-66), 3) := by decide +kernel
theorem dX7_worlds_88 : decode cX7_worlds 88 = .ok (.iload_n 2, 1) := by decide +kernel
theorem dX7_worlds_89 : decode cX7_worlds 89 = .ok (.ireturn, 1) := by decide +kernel
theorem dX7_worth_0 : decode cX7_worth 0 = .ok (.iload_n 1, 1) := by decide +kernel
theorem dX7_worth_1 : decode cX7_worth 1 = .ok (.i2l, 1) := by decide +kernel
theorem dX7_worth_2 : decode cX7_worth 2 = .ok (.lconst 0, 1) := by decide +kernel
theorem dX7_worth_3 : decode cX7_worth 3 = .ok (.iconst 1, 1) := by decide +kernel
theorem dX7_worth_4 : decode cX7_worth 4 = .ok (.aload_n 0, 1) := by decide +kernel
theorem dX7_worth_5 : decode cX7_worth 5 = .ok (.getfield 124, 3) := by decide +kernel
theorem dX7_worth_8 : decode cX7_worth 8 = .ok (.ishl, 1) := by decide +kernel
theorem dX7_worth_9 : decode cX7_worth 9 = .ok (.iconst 1, 1) := by decide +kernel
theorem dX7_worth_10 : decode cX7_worth 10 = .ok (.isub, 1) := by decide +kernel
theorem dX7_worth_11 : decode cX7_worth 11 = .ok (.i2l, 1) := by decide +kernel
theorem dX7_worth_12 : decode cX7_worth 12 = .ok (.invokestatic 73, 3) := by decide +kernel
theorem dX7_worth_15 : decode cX7_worth 15 = .ok (.ifCond .ne 6, 3) := by decide +kernel
theorem dX7_worth_18 : decode cX7_worth 18 = .ok (.bipush (-2), 2) := by decide +kernel
theorem dX7_worth_20 : decode cX7_worth 20 = .ok (.ireturn, 1) := by decide +kernel
theorem dX7_worth_21 : decode cX7_worth 21 = .ok (.aload_n 0, 1) := by decide +kernel
theorem dX7_worth_22 : decode cX7_worth 22 = .ok (.aload_n 0, 1) := by decide +kernel
theorem dX7_worth_23 : decode cX7_worth 23 = .ok (.getfield 40, 3) := by decide +kernel
theorem dX7_worth_26 : decode cX7_worth 26 = .ok (.iconst 0, 1) := by decide +kernel
theorem dX7_worth_27 : decode cX7_worth 27 = .ok (.iaload, 1) := by decide +kernel
theorem dX7_worth_28 : decode cX7_worth 28 = .ok (.iconst 0, 1) := by decide +kernel
theorem dX7_worth_29 : decode cX7_worth 29 = .ok (.invokevirtual 180, 3) := by decide +kernel
theorem dX7_worth_32 : decode cX7_worth 32 = .ok (.istore_n 3, 1) := by decide +kernel
theorem dX7_worth_33 : decode cX7_worth 33 = .ok (.iload_n 3, 1) := by decide +kernel
theorem dX7_worth_34 : decode cX7_worth 34 = .ok (.ifCond .ne 6, 3) := by decide +kernel
theorem dX7_worth_37 : decode cX7_worth 37 = .ok (.bipush (-3), 2) := by decide +kernel
theorem dX7_worth_39 : decode cX7_worth 39 = .ok (.ireturn, 1) := by decide +kernel
theorem dX7_worth_40 : decode cX7_worth 40 = .ok (.aload_n 0, 1) := by decide +kernel
theorem dX7_worth_41 : decode cX7_worth 41 = .ok (.iload_n 1, 1) := by decide +kernel
theorem dX7_worth_42 : decode cX7_worth 42 = .ok (.invokevirtual 204, 3) := by decide +kernel
theorem dX7_worth_45 : decode cX7_worth 45 = .ok (.istore 4, 2) := by decide +kernel
theorem dX7_worth_47 : decode cX7_worth 47 = .ok (.iload 4, 2) := by decide +kernel
theorem dX7_worth_49 : decode cX7_worth 49 = .ok (.iload_n 3, 1) := by decide +kernel
theorem dX7_worth_50 : decode cX7_worth 50 = .ok (.invokestatic 183, 3) := by decide +kernel
theorem dX7_worth_53 : decode cX7_worth 53 = .ok (.istore 5, 2) := by decide +kernel
theorem dX7_worth_55 : decode cX7_worth 55 = .ok (.iload_n 2, 1) := by decide +kernel
theorem dX7_worth_56 : decode cX7_worth 56 = .ok (.ifCond .eq 11, 3) := by decide +kernel
theorem dX7_worth_59 : decode cX7_worth 59 = .ok (.iload 4, 2) := by decide +kernel
theorem dX7_worth_61 : decode cX7_worth 61 = .ok (.iload 5, 2) := by decide +kernel
theorem dX7_worth_63 : decode cX7_worth 63 = .ok (.idiv, 1) := by decide +kernel
theorem dX7_worth_64 : decode cX7_worth 64 = .ok (.goto 7, 3) := by decide +kernel
theorem dX7_worth_67 : decode cX7_worth 67 = .ok (.iload_n 3, 1) := by decide +kernel
theorem dX7_worth_68 : decode cX7_worth 68 = .ok (.iload 5, 2) := by decide +kernel
theorem dX7_worth_70 : decode cX7_worth 70 = .ok (.idiv, 1) := by decide +kernel
theorem dX7_worth_71 : decode cX7_worth 71 = .ok (.ireturn, 1) := by decide +kernel
theorem dX7_write_0 : decode cX7_write 0 = .ok (.iload_n 1, 1) := by decide +kernel
theorem dX7_write_1 : decode cX7_write 1 = .ok (.i2l, 1) := by decide +kernel
theorem dX7_write_2 : decode cX7_write 2 = .ok (.lconst 0, 1) := by decide +kernel
theorem dX7_write_3 : decode cX7_write 3 = .ok (.ldc2_w 71, 3) := by decide +kernel
theorem dX7_write_6 : decode cX7_write 6 = .ok (.invokestatic 73, 3) := by decide +kernel
theorem dX7_write_9 : decode cX7_write 9 = .ok (.ifCond .ne 6, 3) := by decide +kernel
theorem dX7_write_12 : decode cX7_write 12 = .ok (.bipush (-2), 2) := by decide +kernel
theorem dX7_write_14 : decode cX7_write 14 = .ok (.ireturn, 1) := by decide +kernel
theorem dX7_write_15 : decode cX7_write 15 = .ok (.aload_n 0, 1) := by decide +kernel
theorem dX7_write_16 : decode cX7_write 16 = .ok (.getfield 77, 3) := by decide +kernel
theorem dX7_write_19 : decode cX7_write 19 = .ok (.bipush 48, 2) := by decide +kernel
theorem dX7_write_21 : decode cX7_write 21 = .ok (.if_icmp .ne 6, 3) := by decide +kernel
theorem dX7_write_24 : decode cX7_write 24 = .ok (.bipush (-4), 2) := by decide +kernel
theorem dX7_write_26 : decode cX7_write 26 = .ok (.ireturn, 1) := by decide +kernel
theorem dX7_write_27 : decode cX7_write 27 = .ok (.aload_n 0, 1) := by decide +kernel
theorem dX7_write_28 : decode cX7_write 28 = .ok (.getfield 43, 3) := by decide +kernel
theorem dX7_write_31 : decode cX7_write 31 = .ok (.aload_n 0, 1) := by decide +kernel
theorem dX7_write_32 : decode cX7_write 32 = .ok (.getfield 77, 3) := by decide +kernel
theorem dX7_write_35 : decode cX7_write 35 = .ok (.iload_n 1, 1) := by decide +kernel
theorem dX7_write_36 : decode cX7_write 36 = .ok (.iastore, 1) := by decide +kernel
theorem dX7_write_37 : decode cX7_write 37 = .ok (.aload_n 0, 1) := by decide +kernel
theorem dX7_write_38 : decode cX7_write 38 = .ok (.dup, 1) := by decide +kernel
theorem dX7_write_39 : decode cX7_write 39 = .ok (.getfield 77, 3) := by decide +kernel
theorem dX7_write_42 : decode cX7_write 42 = .ok (.iconst 1, 1) := by decide +kernel
theorem dX7_write_43 : decode cX7_write 43 = .ok (.iadd, 1) := by decide +kernel
theorem dX7_write_44 : decode cX7_write 44 = .ok (.putfield 77, 3) := by decide +kernel
theorem dX7_write_47 : decode cX7_write 47 = .ok (.aload_n 0, 1) := by decide +kernel
theorem dX7_write_48 : decode cX7_write 48 = .ok (.getfield 77, 3) := by decide +kernel
theorem dX7_write_51 : decode cX7_write 51 = .ok (.ireturn, 1) := by decide +kernel
theorem dX7_year_0 : decode cX7_year 0 = .ok (.iload_n 1, 1) := by decide +kernel
theorem dX7_year_1 : decode cX7_year 1 = .ok (.i2l, 1) := by decide +kernel
theorem dX7_year_2 : decode cX7_year 2 = .ok (.lconst 1, 1) := by decide +kernel
theorem dX7_year_3 : decode cX7_year 3 = .ok (.ldc2_w 252, 3) := by decide +kernel
theorem dX7_year_6 : decode cX7_year 6 = .ok (.invokestatic 73, 3) := by decide +kernel
theorem dX7_year_9 : decode cX7_year 9 = .ok (.ifCond .ne 6, 3) := by decide +kernel
theorem dX7_year_12 : decode cX7_year 12 = .ok (.bipush (-2), 2) := by decide +kernel
theorem dX7_year_14 : decode cX7_year 14 = .ok (.ireturn, 1) := by decide +kernel
theorem dX7_year_15 : decode cX7_year 15 = .ok (.aload_n 0, 1) := by decide +kernel
theorem dX7_year_16 : decode cX7_year 16 = .ok (.iconst 0, 1) := by decide +kernel
theorem dX7_year_17 : decode cX7_year 17 = .ok (.invokevirtual 231, 3) := by decide +kernel
theorem dX7_year_20 : decode cX7_year 20 = .ok (.iconst 0, 1) := by decide +kernel
theorem dX7_year_21 : decode cX7_year 21 = .ok (.istore_n 2, 1) := by decide +kernel
theorem dX7_year_22 : decode cX7_year 22 = .ok (.iload_n 2, 1) := by decide +kernel
theorem dX7_year_23 : decode cX7_year 23 = .ok (.aload_n 0, 1) := by decide +kernel
theorem dX7_year_24 : decode cX7_year 24 = .ok (.getfield 124, 3) := by decide +kernel
theorem dX7_year_27 : decode cX7_year 27 = .ok (.if_icmp .ge 21, 3) := by decide +kernel
theorem dX7_year_30 : decode cX7_year 30 = .ok (.aload_n 0, 1) := by decide +kernel
theorem dX7_year_31 : decode cX7_year 31 = .ok (.getfield 58, 3) := by decide +kernel
theorem dX7_year_34 : decode cX7_year 34 = .ok (.iload_n 2, 1) := by decide +kernel
theorem dX7_year_35 : decode cX7_year 35 = .ok (.aload_n 0, 1) := by decide +kernel
theorem dX7_year_36 : decode cX7_year 36 = .ok (.iload_n 2, 1) := by decide +kernel
theorem dX7_year_37 : decode cX7_year 37 = .ok (.iconst 0, 1) := by decide +kernel
theorem dX7_year_38 : decode cX7_year 38 = .ok (.invokevirtual 201, 3) := by decide +kernel
theorem dX7_year_41 : decode cX7_year 41 = .ok (.iastore, 1) := by decide +kernel
theorem dX7_year_42 : decode cX7_year 42 = .ok (.iinc 2 1, 3) := by decide +kernel
theorem dX7_year_45 : decode cX7_year 45 = .ok (.goto (-23), 3) := by decide +kernel
theorem dX7_year_48 : decode cX7_year 48 = .ok (.iconst 0, 1) := by decide +kernel
theorem dX7_year_49 : decode cX7_year 49 = .ok (.istore_n 2, 1) := by decide +kernel
theorem dX7_year_50 : decode cX7_year 50 = .ok (.iconst 0, 1) := by decide +kernel
theorem dX7_year_51 : decode cX7_year 51 = .ok (.istore_n 3, 1) := by decide +kernel
theorem dX7_year_52 : decode cX7_year 52 = .ok (.iload_n 3, 1) := by decide +kernel
theorem dX7_year_53 : decode cX7_year 53 = .ok (.iload_n 1, 1) := by decide +kernel
theorem dX7_year_54 : decode cX7_year 54 = .ok (.if_icmp .ge 63, 3) := by decide +kernel
theorem dX7_year_57 : decode cX7_year 57 = .ok (.aload_n 0, 1) := by decide +kernel
theorem dX7_year_58 : decode cX7_year 58 = .ok (.invokevirtual 254, 3) := by decide +kernel
theorem dX7_year_61 : decode cX7_year 61 = .ok (.istore 4, 2) := by decide +kernel
theorem dX7_year_63 : decode cX7_year 63 = .ok (.iconst 0, 1) := by decide +kernel
theorem dX7_year_64 : decode cX7_year 64 = .ok (.istore 5, 2) := by decide +kernel
theorem dX7_year_66 : decode cX7_year 66 = .ok (.iload 5, 2) := by decide +kernel
theorem dX7_year_68 : decode cX7_year 68 = .ok (.aload_n 0, 1) := by decide +kernel
theorem dX7_year_69 : decode cX7_year 69 = .ok (.getfield 124, 3) := by decide +kernel
theorem dX7_year_72 : decode cX7_year 72 = .ok (.if_icmp .ge 39, 3) := by decide +kernel
theorem dX7_year_75 : decode cX7_year 75 = .ok (.iload_n 2, 1) := by decide +kernel
theorem dX7_year_76 : decode cX7_year 76 = .ok (.aload_n 0, 1) := by decide +kernel
theorem dX7_year_77 : decode cX7_year 77 = .ok (.iload 5, 2) := by decide +kernel
theorem dX7_year_79 : decode cX7_year 79 = .ok (.aload_n 0, 1) := by decide +kernel
theorem dX7_year_80 : decode cX7_year 80 = .ok (.iload 5, 2) := by decide +kernel
theorem dX7_year_82 : decode cX7_year 82 = .ok (.iload 4, 2) := by decide +kernel
theorem dX7_year_84 : decode cX7_year 84 = .ok (.iload 5, 2) := by decide +kernel
theorem dX7_year_86 : decode cX7_year 86 = .ok (.invokestatic 89, 3) := by decide +kernel
theorem dX7_year_89 : decode cX7_year 89 = .ok (.invokevirtual 161, 3) := by decide +kernel
theorem dX7_year_92 : decode cX7_year 92 = .ok (.iconst 0, 1) := by decide +kernel
theorem dX7_year_93 : decode cX7_year 93 = .ok (.aload_n 0, 1) := by decide +kernel
theorem dX7_year_94 : decode cX7_year 94 = .ok (.getfield 58, 3) := by decide +kernel
theorem dX7_year_97 : decode cX7_year 97 = .ok (.iload 5, 2) := by decide +kernel
theorem dX7_year_99 : decode cX7_year 99 = .ok (.iaload, 1) := by decide +kernel
theorem dX7_year_100 : decode cX7_year 100 = .ok (.invokevirtual 189, 3) := by decide +kernel
theorem dX7_year_103 : decode cX7_year 103 = .ok (.iadd, 1) := by decide +kernel
theorem dX7_year_104 : decode cX7_year 104 = .ok (.istore_n 2, 1) := by decide +kernel
theorem dX7_year_105 : decode cX7_year 105 = .ok (.iinc 5 1, 3) := by decide +kernel
theorem dX7_year_108 : decode cX7_year 108 = .ok (.goto (-42), 3) := by decide +kernel
theorem dX7_year_111 : decode cX7_year 111 = .ok (.iinc 3 1, 3) := by decide +kernel
theorem dX7_year_114 : decode cX7_year 114 = .ok (.goto (-62), 3) := by decide +kernel
theorem dX7_year_117 : decode cX7_year 117 = .ok (.iload_n 2, 1) := by decide +kernel
theorem dX7_year_118 : decode cX7_year 118 = .ok (.ireturn, 1) := by decide +kernel
abbrev rm_X7_canBe : Room := { frames := 4, cells := 0, slots := 0, locals := 93 }
set_option maxRecDepth 20000 in
theorem k_X7_canBe_X7_isThing_136 : GoodIn wsX7_canBe (wsV RX7 136 RX7 yX7_isThing wsX7_isThing) := goodIn_r _ [30, 31, 32, 9, 33, 1, 34, 35, 9, 36, 53, 54, 55, 56, 57, 58, 59, 60, 61, 62, 63, 64, 65, 66, 67, 68, 69, 70, 71, 72, 73, 74, 75, 76, 77, 78, 79, 80, 81, 82, 83, 84, 85] rfl (by decide +kernel)
set_option maxRecDepth 20000 in
theorem k_X7_canBe_X7_wiseBy_201 : GoodIn wsX7_canBe (wsV RX7 201 RX7 yX7_wiseBy wsX7_wiseBy) := goodIn_r _ [37, 38, 39, 9, 40, 41, 42, 43, 9, 44, 1, 2, 18, 19, 20, 26, 27, 28, 29, 25, 45, 46, 47, 48, 49, 50, 51, 52, 53, 54, 55, 56, 57, 58, 59, 60, 61, 62, 63, 64, 65, 66, 67, 68, 69, 70, 71, 72, 73, 74, 75, 76, 77, 78, 79, 80, 81, 82, 83, 84, 85] rfl (by decide +kernel)
set_option maxRecDepth 20000 in
theorem k_X7_canBe_X7_has_89 : GoodIn wsX7_canBe (va_wsS RX7 89 yX7_has wsX7_has) := goodIn_r _ [18, 19, 9, 20] rfl (by decide +kernel)
set_option maxRecDepth 20000 in
theorem k_X7_canBe_X7_partsOf_175 : GoodIn wsX7_canBe (wsV RX7 175 RX7 yX7_partsOf wsX7_partsOf) := goodIn_r _ [26, 27, 28, 9, 29, 1, 25, 18, 19, 9, 20, 53, 54, 55, 56, 57, 58, 59, 60, 61, 62, 63, 64, 65, 66, 67, 68, 69, 70, 71, 72, 73, 74, 75, 76, 77, 78, 79, 80, 81, 82, 83, 84, 85] rfl (by decide +kernel)
set_option maxRecDepth 20000 in
theorem k_X7_canBe_X7_layStart_231 : GoodIn wsX7_canBe (wsV RX7 231 RX7 yX7_layStart wsX7_layStart) := goodIn_r _ [6, 7, 8, 9, 10, 2, 1, 11, 12, 13, 9, 14, 15, 16, 17, 18, 19, 20, 21, 22, 23, 24, 25, 53, 54, 55, 56, 57, 58, 59, 60, 61, 62, 63, 64, 65, 66, 67, 68, 69, 70, 71, 72, 73, 74, 75, 76, 77, 78, 79, 80, 81, 82, 83, 84, 85] rfl (by decide +kernel)
set_option maxHeartbeats 4000000 in
set_option maxRecDepth 100000 in
theorem c_X7_canBe (l : Launch) (D : va_G) (cI cZ cO : ClassId) (N : Nat) (a0 : Nat → Nat) (u0 : TU) (sd : Int64) (p1 : Int32) (sz : Nat) (out : Int32 × TU) (h : f_X7_canBe N u0 sd p1 = some out) : Met l yX7_canBe wsX7_canBe rm_X7_canBe (va_Pc [.ref (a0 0), .int p1] (mk_Pe D vwCl (tyA cI cZ cO) (wX7 cI cZ a0 u0 sd) sz)) (va_Qi (fun r u => (r, u) = out) (mk_Be D vwCl (wX7 cI cZ a0 u0 sd) sz (fun q => (wX7 cI cZ a0 q sd))) (va_A (wX7 cI cZ a0 u0 sd) sz)) 0 0 (va_A (wX7 cI cZ a0 u0 sd) sz) := by
  refine em_z (own := RX7) (cc := cX7_canBe) (maxL := 6) (by decide) rfl rfl (Nat.le_of_ble_eq_true rfl) ?_
  intro p e s m args below meth c Q A H0 H locs ls hx hb hml hown hts hP hK hD hS hA hl hret
  have hl : lv_has ls 6 [(0, .ref (a0 0)), (1, .int p1)] := hl
  have hiX7 : ∀ w ∈ u_ws RX7 TX7 33, w ∈ wsX7_canBe := mk_seg 53 33 rfl
  have K79 : ∀ (u0 : TU) (x4 : Int32) (x5 : Int32) (H : Heap) (locs : List Loc) (ls : Array Slot), va_P D vwCl (wX7 cI cZ a0 u0 sd) H → va_D A (wX7 cI cZ a0 u0 sd) → va_S A H0 H locs → lv_has ls 6 [(0, .ref (a0 0)), (4, .int x4), (5, .int x5)] → lq2 (g_X7_canBe_79 N u0 sd) N x4 x5 = some out → W p l e rm_X7_canBe s m args below meth c H locs 0 0 Q (F0 m 79 ls []) := by
    intro u0 x4 x5 H locs ls hP hD hS hl h
    refine lq2_W (Wd := fun x4 x5 => ∀ (H : Heap) (locs : List Loc) (ls : Array Slot), va_P D vwCl (wX7 cI cZ a0 u0 sd) H → va_D A (wX7 cI cZ a0 u0 sd) → va_S A H0 H locs → lv_has ls 6 [(0, .ref (a0 0)), (4, .int x4), (5, .int x5)] → W p l e rm_X7_canBe s m args below meth c H locs 0 0 Q (F0 m 79 ls [])) (fun rec79 ih79 x4 x5 h H locs ls hP hD hS hl => ?_) N x4 x5 h H locs ls hP hD hS hl
    have K129 : ∀ (x5 : Int32) (H : Heap) (locs : List Loc) (ls : Array Slot), va_P D vwCl (wX7 cI cZ a0 u0 sd) H → va_D A (wX7 cI cZ a0 u0 sd) → va_S A H0 H locs → lv_has ls 6 [(0, .ref (a0 0)), (5, .int x5)] → g_X7_canBe_129 N u0 sd rec79 x5 = some out → W p l e rm_X7_canBe s m args below meth c H locs 0 0 Q (F0 m 129 ls []) := by
      intro x5 H locs ls hP hD hS hl h
      unfold g_X7_canBe_129 at h
      refine lv_iconst (v := (1 : Int32)) hx hb dX7_canBe_129 (by decide) ?_
      refine lv_goto (tgt := 134) hx hb dX7_canBe_130 (by decide) ?_
      refine lv_istore (lv' := [(4, .int (1 : Int32)), (0, .ref (a0 0)), (5, .int x5)]) hx hb dX7_canBe_134 hl (by decide) rfl (fun ls hl => ?_)
      refine lv_iinc (v := (x5 + (1 : Int32))) (lv' := [(5, .int (x5 + (1 : Int32))), (4, .int (1 : Int32)), (0, .ref (a0 0))]) hx hb dX7_canBe_136 hl (k := 2) rfl rfl (by decide) rfl (fun ls hl => ?_)
      refine lv_goto (tgt := 79) hx hb dX7_canBe_139 (by decide) ?_
      exact ih79 (1 : Int32) (x5 + (1 : Int32)) h H locs ls hP hD hS (lv_sub hl [2, 1, 0] rfl)
    unfold g_X7_canBe_79 at h
    refine lv_iload hx hb dX7_canBe_79 (lv_at hl 2 rfl) ?_
    refine lv_aload_n hx hb dX7_canBe_81 rfl (lv_at hl 0 rfl) ?_
    refine va_get (D := D) (ci := 7) (v := .int (u0 0 12)) (C := RX7) (T := TX7) (N := 33) hx hb hts hiX7 hown hK hP 0 rfl rfl 26 (by decide) (hts (.fieldLink RX7 228 "ClockOnceModel" "seen" "I") (List.mem_of_getElem? (i := 3) rfl)) (fun _ h9 => h9) rfl dX7_canBe_82 ?_
    refine lv_icmp_ge (tgt := 142) hx hb dX7_canBe_85 (by decide) (fun q_1 => ?_) (fun q_1 => ?_)
    · have h := mk_ifp q_1 h
      refine lv_iload hx hb dX7_canBe_142 (lv_at hl 1 rfl) ?_
      obtain ⟨hz_2, h⟩ := mk_zE h
      exact hret _ _ _ _ _ _ h hz_2 hP hD hS dX7_canBe_144
    · have h := mk_ifn q_1 h
      refine lv_iload hx hb dX7_canBe_88 (lv_at hl 1 rfl) ?_
      refine lv_if_eq (tgt := 142) hx hb dX7_canBe_90 (by decide) (fun q_3 => ?_) (fun q_3 => ?_)
      · have h := mk_ifp q_3 h
        refine lv_iload hx hb dX7_canBe_142 (lv_at hl 1 rfl) ?_
        obtain ⟨hz_4, h⟩ := mk_zE h
        exact hret _ _ _ _ _ _ h hz_4 hP hD hS dX7_canBe_144
      · have h := mk_ifn q_3 h
        refine lv_aload_n hx hb dX7_canBe_93 rfl (lv_at hl 0 rfl) ?_
        refine lv_aload_n hx hb dX7_canBe_94 rfl (lv_at hl 0 rfl) ?_
        refine va_get (D := D) (ci := 7) (v := .ref (a0 15)) (C := RX7) (T := TX7) (N := 33) hx hb hts hiX7 hown hK hP 0 rfl rfl 27 (by decide) (hts (.fieldLink RX7 52 "ClockOnceModel" "seenOf" "[I") (List.mem_of_getElem? (i := 4) rfl)) (fun _ h9 => h9) rfl dX7_canBe_95 ?_
        refine lv_iload hx hb dX7_canBe_98 (lv_at hl 2 rfl) ?_
        obtain ⟨v_5, ev_5, hiv_5, h⟩ := mk_rdE h
        refine va_iald hx hb hK hP 15 0 rfl rfl hiv_5 dX7_canBe_100 ?_
        refine mk_topi ev_5 ?_
        obtain ⟨r_6, er_6, h⟩ := mk_bd h
        refine pc_v (As := [.int v_5]) (rest := []) ⟨hx, hb, hml, hown, hts⟩ (c_X7_isThing l D cI cZ cO N a0 u0 sd v_5 r_6 er_6) (cwV 1 hts k_X7_canBe_X7_isThing_136 rfl rfl rfl (by decide +kernel) ⟨(Nat.le_of_ble_eq_true rfl), (Nat.le_of_ble_eq_true rfl)⟩) (va_recv hK hP (ci := 7) (q0 := 0) rfl rfl) hP hK rfl hl.1 rfl (Nat.le_of_ble_eq_true rfl) dX7_canBe_101 ⟨Nat.zero_le _, Nat.zero_le _⟩ ?_
        refine lv_if_eq (tgt := 129) hx hb dX7_canBe_104 (by decide) (fun q_7 => ?_) (fun q_7 => ?_)
        · have h := mk_ifp q_7 h
          exact K129 x5 H locs ls hP hD hS (lv_sub hl [0, 2] rfl) h
        · have h := mk_ifn q_7 h
          refine lv_aload_n hx hb dX7_canBe_107 rfl (lv_at hl 0 rfl) ?_
          refine lv_aload_n hx hb dX7_canBe_108 rfl (lv_at hl 0 rfl) ?_
          refine va_get (D := D) (ci := 7) (v := .ref (a0 15)) (C := RX7) (T := TX7) (N := 33) hx hb hts hiX7 hown hK hP 0 rfl rfl 27 (by decide) (hts (.fieldLink RX7 52 "ClockOnceModel" "seenOf" "[I") (List.mem_of_getElem? (i := 4) rfl)) (fun _ h9 => h9) rfl dX7_canBe_109 ?_
          refine lv_iload hx hb dX7_canBe_112 (lv_at hl 2 rfl) ?_
          obtain ⟨v_8, ev_8, hiv_8, h⟩ := mk_rdE h
          refine va_iald hx hb hK hP 15 0 rfl rfl hiv_8 dX7_canBe_114 ?_
          refine mk_topi ev_8 ?_
          refine lv_iconst (v := (0 : Int32)) hx hb dX7_canBe_115 (by decide) ?_
          obtain ⟨r_9, er_9, h⟩ := mk_bd h
          refine pc_v (As := [.int v_8, .int (0 : Int32)]) (rest := []) ⟨hx, hb, hml, hown, hts⟩ (c_X7_wiseBy l D cI cZ cO N a0 u0 sd v_8 (0 : Int32) r_9 er_9) (cwV 2 hts k_X7_canBe_X7_wiseBy_201 rfl rfl rfl (by decide +kernel) ⟨(Nat.le_of_ble_eq_true rfl), (Nat.le_of_ble_eq_true rfl)⟩) (va_recv hK hP (ci := 7) (q0 := 0) rfl rfl) hP hK rfl hl.1 rfl (Nat.le_of_ble_eq_true rfl) dX7_canBe_116 ⟨Nat.zero_le _, Nat.zero_le _⟩ ?_
          refine lv_aload_n hx hb dX7_canBe_119 rfl (lv_at hl 0 rfl) ?_
          refine va_get (D := D) (ci := 7) (v := .ref (a0 16)) (C := RX7) (T := TX7) (N := 33) hx hb hts hiX7 hown hK hP 0 rfl rfl 28 (by decide) (hts (.fieldLink RX7 55 "ClockOnceModel" "seenOn" "[I") (List.mem_of_getElem? (i := 5) rfl)) (fun _ h9 => h9) rfl dX7_canBe_120 ?_
          refine lv_iload hx hb dX7_canBe_123 (lv_at hl 2 rfl) ?_
          obtain ⟨v_10, ev_10, hiv_10, h⟩ := mk_rdE h
          refine va_iald hx hb hK hP 16 0 rfl rfl hiv_10 dX7_canBe_125 ?_
          refine mk_topi ev_10 ?_
          refine lv_icmp_ne (tgt := 133) hx hb dX7_canBe_126 (by decide) (fun q_11 => ?_) (fun q_11 => ?_)
          · have h := mk_ifn q_11 h
            refine lv_iconst (v := (0 : Int32)) hx hb dX7_canBe_133 (by decide) ?_
            refine lv_istore (lv' := [(4, .int (0 : Int32)), (0, .ref (a0 0)), (5, .int x5)]) hx hb dX7_canBe_134 hl (by decide) rfl (fun ls hl => ?_)
            refine lv_iinc (v := (x5 + (1 : Int32))) (lv' := [(5, .int (x5 + (1 : Int32))), (4, .int (0 : Int32)), (0, .ref (a0 0))]) hx hb dX7_canBe_136 hl (k := 2) rfl rfl (by decide) rfl (fun ls hl => ?_)
            refine lv_goto (tgt := 79) hx hb dX7_canBe_139 (by decide) ?_
            exact ih79 (0 : Int32) (x5 + (1 : Int32)) h H locs ls hP hD hS (lv_sub hl [2, 1, 0] rfl)
          · have h := mk_ifp q_11 h
            exact K129 x5 H locs ls hP hD hS (lv_sub hl [0, 2] rfl) h
  have K23 : ∀ (u0 : TU) (x3 : Int32) (x4 : Int32) (H : Heap) (locs : List Loc) (ls : Array Slot), va_P D vwCl (wX7 cI cZ a0 u0 sd) H → va_D A (wX7 cI cZ a0 u0 sd) → va_S A H0 H locs → lv_has ls 6 [(0, .ref (a0 0)), (3, .int x3), (4, .int x4)] → lq2 (g_X7_canBe_23 N u0 sd) N x3 x4 = some out → W p l e rm_X7_canBe s m args below meth c H locs 0 0 Q (F0 m 23 ls []) := by
    intro u0 x3 x4 H locs ls hP hD hS hl h
    refine lq2_W (Wd := fun x3 x4 => ∀ (H : Heap) (locs : List Loc) (ls : Array Slot), va_P D vwCl (wX7 cI cZ a0 u0 sd) H → va_D A (wX7 cI cZ a0 u0 sd) → va_S A H0 H locs → lv_has ls 6 [(0, .ref (a0 0)), (3, .int x3), (4, .int x4)] → W p l e rm_X7_canBe s m args below meth c H locs 0 0 Q (F0 m 23 ls [])) (fun rec23 ih23 x3 x4 h H locs ls hP hD hS hl => ?_) N x3 x4 h H locs ls hP hD hS hl
    unfold g_X7_canBe_23 at h
    refine lv_iload hx hb dX7_canBe_23 (lv_at hl 2 rfl) ?_
    refine lv_iconst (v := (1 : Int32)) hx hb dX7_canBe_25 (by decide) ?_
    refine lv_aload_n hx hb dX7_canBe_26 rfl (lv_at hl 0 rfl) ?_
    refine va_get (D := D) (ci := 7) (v := .int (u0 0 0)) (C := RX7) (T := TX7) (N := 33) hx hb hts hiX7 hown hK hP 0 rfl rfl 0 (by decide) (hts (.fieldLink RX7 124 "ClockOnceModel" "things" "I") (List.mem_of_getElem? (i := 1) rfl)) (fun _ h9 => h9) rfl dX7_canBe_27 ?_
    refine lv_ishl hx hb dX7_canBe_30 ?_
    refine lv_icmp_ge (tgt := 65) hx hb dX7_canBe_31 (by decide) (fun q_12 => ?_) (fun q_12 => ?_)
    · have h := mk_ifp q_12 h
      refine lv_iload_n hx hb dX7_canBe_65 rfl (lv_at hl 1 rfl) ?_
      refine lv_if_le (tgt := 73) hx hb dX7_canBe_66 (by decide) (fun q_13 => ?_) (fun q_13 => ?_)
      · have h := mk_ifp q_13 h
        refine lv_iconst (v := (0 : Int32)) hx hb dX7_canBe_73 (by decide) ?_
        refine lv_istore (lv' := [(4, .int (0 : Int32)), (0, .ref (a0 0)), (3, .int x3)]) hx hb dX7_canBe_74 hl (by decide) rfl (fun ls hl => ?_)
        refine lv_iconst (v := (0 : Int32)) hx hb dX7_canBe_76 (by decide) ?_
        refine lv_istore (lv' := [(5, .int (0 : Int32)), (4, .int (0 : Int32)), (0, .ref (a0 0)), (3, .int x3)]) hx hb dX7_canBe_77 hl (by decide) rfl (fun ls hl => ?_)
        exact K79 u0 (0 : Int32) (0 : Int32) H locs ls hP hD hS (lv_sub hl [2, 1, 0] rfl) h
      · have h := mk_ifn q_13 h
        refine lv_iconst (v := (1 : Int32)) hx hb dX7_canBe_69 (by decide) ?_
        refine lv_goto (tgt := 74) hx hb dX7_canBe_70 (by decide) ?_
        refine lv_istore (lv' := [(4, .int (1 : Int32)), (0, .ref (a0 0)), (3, .int x3)]) hx hb dX7_canBe_74 hl (by decide) rfl (fun ls hl => ?_)
        refine lv_iconst (v := (0 : Int32)) hx hb dX7_canBe_76 (by decide) ?_
        refine lv_istore (lv' := [(5, .int (0 : Int32)), (4, .int (1 : Int32)), (0, .ref (a0 0)), (3, .int x3)]) hx hb dX7_canBe_77 hl (by decide) rfl (fun ls hl => ?_)
        exact K79 u0 (1 : Int32) (0 : Int32) H locs ls hP hD hS (lv_sub hl [2, 1, 0] rfl) h
    · have h := mk_ifn q_12 h
      refine lv_iload_n hx hb dX7_canBe_34 rfl (lv_at hl 1 rfl) ?_
      refine lv_aload_n hx hb dX7_canBe_35 rfl (lv_at hl 0 rfl) ?_
      refine va_get (D := D) (ci := 7) (v := .int (u0 0 11)) (C := RX7) (T := TX7) (N := 33) hx hb hts hiX7 hown hK hP 0 rfl rfl 24 (by decide) (hts (.fieldLink RX7 186 "ClockOnceModel" "possible" "I") (List.mem_of_getElem? (i := 2) rfl)) (fun _ h9 => h9) rfl dX7_canBe_36 ?_
      refine lv_iload hx hb dX7_canBe_39 (lv_at hl 2 rfl) ?_
      obtain ⟨r_14, er_14, h⟩ := mk_bd h
      refine pc_s (As := [.int (u0 0 11), .int x4]) (rest := [.int x3]) ⟨hx, hb, hml, hown, hts⟩ (c_X7_has l D cI cZ cO N (u0 0 11) x4 r_14 er_14) (va_cwS 2 hts k_X7_canBe_X7_has_89 rfl rfl rfl (by decide +kernel) ⟨(Nat.le_of_ble_eq_true rfl), (Nat.le_of_ble_eq_true rfl)⟩) (hP.sub (ws' := []) [] rfl) hK rfl hl.1 rfl (Nat.le_of_ble_eq_true rfl) dX7_canBe_41 ⟨Nat.zero_le _, Nat.zero_le _⟩ ?_
      refine lv_if_eq (tgt := 56) hx hb dX7_canBe_44 (by decide) (fun q_15 => ?_) (fun q_15 => ?_)
      · have h := mk_ifp q_15 h
        refine lv_iconst (v := (0 : Int32)) hx hb dX7_canBe_56 (by decide) ?_
        refine lv_iadd hx hb dX7_canBe_57 ?_
        refine lv_istore_n (lv' := [(3, .int (x3 + (0 : Int32))), (0, .ref (a0 0)), (4, .int x4)]) hx hb dX7_canBe_58 rfl hl (by decide) rfl (fun ls hl => ?_)
        refine lv_iinc (v := (x4 + (1 : Int32))) (lv' := [(4, .int (x4 + (1 : Int32))), (3, .int (x3 + (0 : Int32))), (0, .ref (a0 0))]) hx hb dX7_canBe_59 hl (k := 2) rfl rfl (by decide) rfl (fun ls hl => ?_)
        refine lv_goto (tgt := 23) hx hb dX7_canBe_62 (by decide) ?_
        exact ih23 (x3 + (0 : Int32)) (x4 + (1 : Int32)) h H locs ls hP hD hS (lv_sub hl [2, 1, 0] rfl)
      · have h := mk_ifn q_15 h
        refine lv_aload_n hx hb dX7_canBe_47 rfl (lv_at hl 0 rfl) ?_
        refine lv_iload hx hb dX7_canBe_48 (lv_at hl 2 rfl) ?_
        obtain ⟨r_16, er_16, h⟩ := mk_bd h
        refine pc_v (As := [.int x4]) (rest := [.int x3]) ⟨hx, hb, hml, hown, hts⟩ (c_X7_partsOf l D cI cZ cO N a0 u0 sd x4 r_16 er_16) (cwV 1 hts k_X7_canBe_X7_partsOf_175 rfl rfl rfl (by decide +kernel) ⟨(Nat.le_of_ble_eq_true rfl), (Nat.le_of_ble_eq_true rfl)⟩) (va_recv hK hP (ci := 7) (q0 := 0) rfl rfl) hP hK rfl hl.1 rfl (Nat.le_of_ble_eq_true rfl) dX7_canBe_50 ⟨Nat.zero_le _, Nat.zero_le _⟩ ?_
        refine lv_goto (tgt := 57) hx hb dX7_canBe_53 (by decide) ?_
        refine lv_iadd hx hb dX7_canBe_57 ?_
        refine lv_istore_n (lv' := [(3, .int (x3 + r_16)), (0, .ref (a0 0)), (4, .int x4)]) hx hb dX7_canBe_58 rfl hl (by decide) rfl (fun ls hl => ?_)
        refine lv_iinc (v := (x4 + (1 : Int32))) (lv' := [(4, .int (x4 + (1 : Int32))), (3, .int (x3 + r_16)), (0, .ref (a0 0))]) hx hb dX7_canBe_59 hl (k := 2) rfl rfl (by decide) rfl (fun ls hl => ?_)
        refine lv_goto (tgt := 23) hx hb dX7_canBe_62 (by decide) ?_
        exact ih23 (x3 + r_16) (x4 + (1 : Int32)) h H locs ls hP hD hS (lv_sub hl [2, 1, 0] rfl)
  have K12 : ∀ (u0 : TU) (t0 : Int32) (H : Heap) (locs : List Loc) (ls : Array Slot), va_P D vwCl (wX7 cI cZ a0 u0 sd) H → va_D A (wX7 cI cZ a0 u0 sd) → va_S A H0 H locs → lv_has ls 6 [(0, .ref (a0 0))] → g_X7_canBe_12 N u0 sd t0 = some out → W p l e rm_X7_canBe s m args below meth c H locs 0 0 Q (F0 m 12 ls [.int t0]) := by
    intro u0 t0 H locs ls hP hD hS hl h
    unfold g_X7_canBe_12 at h
    refine lv_istore_n (lv' := [(2, .int t0), (0, .ref (a0 0))]) hx hb dX7_canBe_12 rfl hl (by decide) rfl (fun ls hl => ?_)
    refine lv_aload_n hx hb dX7_canBe_13 rfl (lv_at hl 1 rfl) ?_
    refine lv_iload_n hx hb dX7_canBe_14 rfl (lv_at hl 0 rfl) ?_
    obtain ⟨r_17, er_17, h⟩ := mk_bd h
    refine es_vv (As := [.int t0]) (rest := []) (w' := (wX7 cI cZ a0 r_17 sd)) ⟨hx, hb, hml, hown, hts⟩ (c_X7_layStart l D cI cZ cO N a0 u0 sd t0 H.size r_17 er_17) (cwV 1 hts k_X7_canBe_X7_layStart_231 rfl rfl rfl (by decide +kernel) ⟨(Nat.le_of_ble_eq_true rfl), (Nat.le_of_ble_eq_true rfl)⟩) (va_recv hK hP (ci := 7) (q0 := 0) rfl rfl) hK hP hD hS hA rfl rfl hl.1 rfl (Nat.le_of_ble_eq_true rfl) dX7_canBe_15 ⟨Nat.zero_le _, Nat.zero_le _⟩ (fun H locs hP hD hS => ?_)
    refine lv_iconst (v := (0 : Int32)) hx hb dX7_canBe_18 (by decide) ?_
    refine lv_istore_n (lv' := [(3, .int (0 : Int32)), (2, .int t0), (0, .ref (a0 0))]) hx hb dX7_canBe_19 rfl hl (by decide) rfl (fun ls hl => ?_)
    refine lv_iconst (v := (0 : Int32)) hx hb dX7_canBe_20 (by decide) ?_
    refine lv_istore (lv' := [(4, .int (0 : Int32)), (3, .int (0 : Int32)), (2, .int t0), (0, .ref (a0 0))]) hx hb dX7_canBe_21 hl (by decide) rfl (fun ls hl => ?_)
    exact K23 r_17 (0 : Int32) (0 : Int32) H locs ls hP hD hS (lv_sub hl [3, 1, 0] rfl) h
  unfold f_X7_canBe at h
  refine lv_iload_n hx hb dX7_canBe_0 rfl (lv_at hl 1 rfl) ?_
  refine lv_iconst (v := (4 : Int32)) hx hb dX7_canBe_1 (by decide) ?_
  refine lv_icmp_ne (tgt := 9) hx hb dX7_canBe_2 (by decide) (fun q_18 => ?_) (fun q_18 => ?_)
  · have h := mk_ifn q_18 h
    refine lv_iconst (v := (1 : Int32)) hx hb dX7_canBe_9 (by decide) ?_
    refine lv_iload_n hx hb dX7_canBe_10 rfl (lv_at hl 1 rfl) ?_
    refine lv_ishl hx hb dX7_canBe_11 ?_
    exact K12 u0 ((1 : Int32) <<< (p1 &&& 31)) H locs ls hP hD hS (lv_sub hl [0] rfl) h
  · have h := mk_ifp q_18 h
    refine lv_iconst (v := (0 : Int32)) hx hb dX7_canBe_5 (by decide) ?_
    refine lv_goto (tgt := 12) hx hb dX7_canBe_6 (by decide) ?_
    exact K12 u0 (0 : Int32) H locs ls hP hD hS (lv_sub hl [0] rfl) h

abbrev rm_X7_clear : Room := { frames := 0, cells := 0, slots := 0, locals := 0 }
set_option maxHeartbeats 4000000 in
set_option maxRecDepth 100000 in
theorem c_X7_clear (l : Launch) (D : va_G) (cI cZ cO : ClassId) (N : Nat) (a0 : Nat → Nat) (u0 : TU) (sd : Int64) (sz : Nat) (out : TU) (h : f_X7_clear N u0 sd = some out) : Met l yX7_clear wsX7_clear rm_X7_clear (va_Pc [.ref (a0 0)] (mk_Pe D vwCl (tyA cI cZ cO) (wX7 cI cZ a0 u0 sd) sz)) (va_Qv (fun u => u = out) (mk_Be D vwCl (wX7 cI cZ a0 u0 sd) sz (fun q => (wX7 cI cZ a0 q sd))) (va_A (wX7 cI cZ a0 u0 sd) sz)) 0 0 (va_A (wX7 cI cZ a0 u0 sd) sz) := by
  refine em_v (own := RX7) (cc := cX7_clear) (maxL := 2) (by decide) rfl rfl (Nat.le_of_ble_eq_true rfl) ?_
  intro p e s m args below meth c Q A H0 H locs ls hx hb hml hown hts hP hK hD hS hA hl hret
  have hl : lv_has ls 2 [(0, .ref (a0 0))] := hl
  have hiX7 : ∀ w ∈ u_ws RX7 TX7 33, w ∈ wsX7_clear := mk_seg 2 33 rfl
  have K2 : ∀ (u0 : TU) (x1 : Int32) (H : Heap) (locs : List Loc) (ls : Array Slot), va_P D vwCl (wX7 cI cZ a0 u0 sd) H → va_D A (wX7 cI cZ a0 u0 sd) → va_S A H0 H locs → lv_has ls 2 [(0, .ref (a0 0)), (1, .int x1)] → lq2 (g_X7_clear_2 N sd) N u0 x1 = some out → W p l e rm_X7_clear s m args below meth c H locs 0 0 Q (F0 m 2 ls []) := by
    intro u0 x1 H locs ls hP hD hS hl h
    refine lq2_W (Wd := fun u0 x1 => ∀ (H : Heap) (locs : List Loc) (ls : Array Slot), va_P D vwCl (wX7 cI cZ a0 u0 sd) H → va_D A (wX7 cI cZ a0 u0 sd) → va_S A H0 H locs → lv_has ls 2 [(0, .ref (a0 0)), (1, .int x1)] → W p l e rm_X7_clear s m args below meth c H locs 0 0 Q (F0 m 2 ls [])) (fun rec2 ih2 u0 x1 h H locs ls hP hD hS hl => ?_) N u0 x1 h H locs ls hP hD hS hl
    unfold g_X7_clear_2 at h
    refine lv_iload_n hx hb dX7_clear_2 rfl (lv_at hl 1 rfl) ?_
    refine lv_bipush (v := (10 : Int32)) hx hb dX7_clear_3 (by decide) ?_
    refine lv_icmp_ge (tgt := 31) hx hb dX7_clear_5 (by decide) (fun q_1 => ?_) (fun q_1 => ?_)
    · have h := mk_ifp q_1 h
      exact hret _ _ _ _ _ h hP hD hS dX7_clear_31
    · have h := mk_ifn q_1 h
      refine lv_aload_n hx hb dX7_clear_8 rfl (lv_at hl 0 rfl) ?_
      refine va_get (D := D) (ci := 7) (v := .ref (a0 11)) (C := RX7) (T := TX7) (N := 33) hx hb hts hiX7 hown hK hP 0 rfl rfl 16 (by decide) (hts (.fieldLink RX7 40 "ClockOnceModel" "now" "[I") (List.mem_of_getElem? (i := 1) rfl)) (fun _ h9 => h9) rfl dX7_clear_9 ?_
      refine lv_iload_n hx hb dX7_clear_12 rfl (lv_at hl 1 rfl) ?_
      refine lv_iload_n hx hb dX7_clear_13 rfl (lv_at hl 1 rfl) ?_
      refine lv_iconst (v := (2 : Int32)) hx hb dX7_clear_14 (by decide) ?_
      refine lv_icmp_ge (tgt := 22) hx hb dX7_clear_15 (by decide) (fun q_2 => ?_) (fun q_2 => ?_)
      · have h := mk_ifp q_2 h
        refine lv_bipush (v := (-9 : Int32)) hx hb dX7_clear_22 (by decide) ?_
        obtain ⟨hx_3, h⟩ := mk_ixE h
        obtain ⟨w_4, ew_4, h⟩ := mk_nmE h
        refine va_iast hx hb hK hP hD hS 11 0 rfl rfl hx_3 dX7_clear_24 (fun H locs hP hD hS => ?_)
        have hP : va_P D vwCl (wX7 cI cZ a0 w_4 sd) H := by rw [ew_4]; exact hP
        have hD : va_D A (wX7 cI cZ a0 w_4 sd) := by rw [ew_4]; exact hD
        refine lv_iinc (v := (x1 + (1 : Int32))) (lv' := [(1, .int (x1 + (1 : Int32))), (0, .ref (a0 0))]) hx hb dX7_clear_25 hl (k := 1) rfl rfl (by decide) rfl (fun ls hl => ?_)
        refine lv_goto (tgt := 2) hx hb dX7_clear_28 (by decide) ?_
        exact ih2 w_4 (x1 + (1 : Int32)) h H locs ls hP hD hS (lv_sub hl [1, 0] rfl)
      · have h := mk_ifn q_2 h
        refine lv_iconst (v := (0 : Int32)) hx hb dX7_clear_18 (by decide) ?_
        refine lv_goto (tgt := 24) hx hb dX7_clear_19 (by decide) ?_
        obtain ⟨hx_5, h⟩ := mk_ixE h
        obtain ⟨w_6, ew_6, h⟩ := mk_nmE h
        refine va_iast hx hb hK hP hD hS 11 0 rfl rfl hx_5 dX7_clear_24 (fun H locs hP hD hS => ?_)
        have hP : va_P D vwCl (wX7 cI cZ a0 w_6 sd) H := by rw [ew_6]; exact hP
        have hD : va_D A (wX7 cI cZ a0 w_6 sd) := by rw [ew_6]; exact hD
        refine lv_iinc (v := (x1 + (1 : Int32))) (lv' := [(1, .int (x1 + (1 : Int32))), (0, .ref (a0 0))]) hx hb dX7_clear_25 hl (k := 1) rfl rfl (by decide) rfl (fun ls hl => ?_)
        refine lv_goto (tgt := 2) hx hb dX7_clear_28 (by decide) ?_
        exact ih2 w_6 (x1 + (1 : Int32)) h H locs ls hP hD hS (lv_sub hl [1, 0] rfl)
  unfold f_X7_clear at h
  refine lv_iconst (v := (0 : Int32)) hx hb dX7_clear_0 (by decide) ?_
  refine lv_istore_n (lv' := [(1, .int (0 : Int32)), (0, .ref (a0 0))]) hx hb dX7_clear_1 rfl hl (by decide) rfl (fun ls hl => ?_)
  exact K2 u0 (0 : Int32) H locs ls hP hD hS (lv_sub hl [1, 0] rfl) h

abbrev rm_X7_common : Room := { frames := 0, cells := 0, slots := 0, locals := 0 }
set_option maxHeartbeats 4000000 in
set_option maxRecDepth 100000 in
theorem c_X7_common (l : Launch) (D : va_G) (cI cZ cO : ClassId) (N : Nat) (p0 : Int32) (p1 : Int32) (out : Int32) (h : f_X7_common N  p0 p1 = some out) : Met l yX7_common wsX7_common rm_X7_common (va_Pc [.int p0, .int p1] (fun U => va_P D vwCl [] U.heap ∧ va_K D vwCl (tyA cI cZ cO) U)) (vp_Si (fun r => r = out)) 0 0 (fun _ => False) := by
  refine pm_i (own := RX7) (cc := cX7_common) (maxL := 5) (by decide) rfl rfl (Nat.le_of_ble_eq_true rfl) ?_
  intro p e s m args below meth c Q H ls hx hb hml hown hts hP hK hl hret
  have hl : lv_has ls 5 [(0, .int p0), (1, .int p1)] := hl
  have K4 : ∀ (x2 : Int32) (x3 : Int32) (ls : Array Slot), lv_has ls 5 [(2, .int x2), (3, .int x3)] → lq2 (g_X7_common_4 N) N x2 x3 = some out → W p l e rm_X7_common s m args below meth c H [] 0 0 Q (F0 m 4 ls []) := by
    intro x2 x3 ls hl h
    refine lq2_W (Wd := fun x2 x3 => ∀ (ls : Array Slot), lv_has ls 5 [(2, .int x2), (3, .int x3)] → W p l e rm_X7_common s m args below meth c H [] 0 0 Q (F0 m 4 ls [])) (fun rec4 ih4 x2 x3 h ls hl => ?_) N x2 x3 h ls hl
    unfold g_X7_common_4 at h
    refine lv_iload_n hx hb dX7_common_4 rfl (lv_at hl 1 rfl) ?_
    refine lv_if_eq (tgt := 21) hx hb dX7_common_5 (by decide) (fun q_1 => ?_) (fun q_1 => ?_)
    · have h := mk_ifp q_1 h
      refine lv_iload_n hx hb dX7_common_21 rfl (lv_at hl 0 rfl) ?_
      exact hret _ _ _ h dX7_common_22
    · have h := mk_ifn q_1 h
      refine lv_iload_n hx hb dX7_common_8 rfl (lv_at hl 0 rfl) ?_
      refine lv_iload_n hx hb dX7_common_9 rfl (lv_at hl 1 rfl) ?_
      obtain ⟨hz_2, h⟩ := mk_nzE h
      refine lv_irem hx hb dX7_common_10 hz_2 ?_
      refine lv_istore (lv' := [(4, .int (x2 - x2 / x3 * x3)), (2, .int x2), (3, .int x3)]) hx hb dX7_common_11 hl (by decide) rfl (fun ls hl => ?_)
      refine lv_iload_n hx hb dX7_common_13 rfl (lv_at hl 2 rfl) ?_
      refine lv_istore_n (lv' := [(2, .int x3), (4, .int (x2 - x2 / x3 * x3)), (3, .int x3)]) hx hb dX7_common_14 rfl hl (by decide) rfl (fun ls hl => ?_)
      refine lv_iload hx hb dX7_common_15 (lv_at hl 1 rfl) ?_
      refine lv_istore_n (lv' := [(3, .int (x2 - x2 / x3 * x3)), (2, .int x3), (4, .int (x2 - x2 / x3 * x3))]) hx hb dX7_common_17 rfl hl (by decide) rfl (fun ls hl => ?_)
      refine lv_goto (tgt := 4) hx hb dX7_common_18 (by decide) ?_
      exact ih4 x3 (x2 - x2 / x3 * x3) h ls (lv_sub hl [1, 0] rfl)
  unfold f_X7_common at h
  refine lv_iload_n hx hb dX7_common_0 rfl (lv_at hl 0 rfl) ?_
  refine lv_istore_n (lv' := [(2, .int p0), (0, .int p0), (1, .int p1)]) hx hb dX7_common_1 rfl hl (by decide) rfl (fun ls hl => ?_)
  refine lv_iload_n hx hb dX7_common_2 rfl (lv_at hl 2 rfl) ?_
  refine lv_istore_n (lv' := [(3, .int p1), (2, .int p0), (0, .int p0), (1, .int p1)]) hx hb dX7_common_3 rfl hl (by decide) rfl (fun ls hl => ?_)
  exact K4 p0 p1 ls (lv_sub hl [1, 0] rfl) h

abbrev rm_X7_count : Room := { frames := 1, cells := 0, slots := 0, locals := 22 }
set_option maxRecDepth 20000 in
theorem k_X7_count_X7_trueEnd_140 : GoodIn wsX7_count (wsV RX7 140 RX7 yX7_trueEnd wsX7_trueEnd) := goodIn_r _ [8, 9, 10, 11, 12, 13, 18, 19, 20, 21, 22, 23, 24, 25, 26, 27, 28, 29, 30, 31, 32, 33, 34, 35, 36, 37, 38, 39, 40, 41, 42, 43, 44, 45, 46, 47, 48, 49, 50] rfl (by decide +kernel)
set_option maxRecDepth 20000 in
theorem k_X7_count_X7_askedOf_143 : GoodIn wsX7_count (wsV RX7 143 RX7 yX7_askedOf wsX7_askedOf) := goodIn_r _ [14, 15, 16, 11, 17, 4, 2, 18, 19, 20, 21, 22, 23, 24, 25, 26, 27, 28, 29, 30, 31, 32, 33, 34, 35, 36, 37, 38, 39, 40, 41, 42, 43, 44, 45, 46, 47, 48, 49, 50] rfl (by decide +kernel)
set_option maxHeartbeats 4000000 in
set_option maxRecDepth 100000 in
theorem c_X7_count (l : Launch) (D : va_G) (cI cZ cO : ClassId) (N : Nat) (a0 : Nat → Nat) (u0 : TU) (sd : Int64) (p1 : Int32) (out : Int32) (h : f_X7_count N u0 sd p1 = some out) : Met l yX7_count wsX7_count rm_X7_count (va_Pc [.ref (a0 0), .int p1] (fun U => va_P D vwCl (wX7 cI cZ a0 u0 sd) U.heap ∧ va_K D vwCl (tyA cI cZ cO) U)) (vp_Si (fun r => r = out)) 0 0 (fun _ => False) := by
  refine pm_i (own := RX7) (cc := cX7_count) (maxL := 5) (by decide) rfl rfl (Nat.le_of_ble_eq_true rfl) ?_
  intro p e s m args below meth c Q H ls hx hb hml hown hts hP hK hl hret
  have hl : lv_has ls 5 [(0, .ref (a0 0)), (1, .int p1)] := hl
  have hiX7 : ∀ w ∈ u_ws RX7 TX7 33, w ∈ wsX7_count := mk_seg 18 33 rfl
  have K7 : ∀ (x1 : Int32) (x2 : Int32) (x3 : Int32) (x4 : Int32) (ls : Array Slot), lv_has ls 5 [(0, .ref (a0 0)), (1, .int x1), (2, .int x2), (3, .int x3), (4, .int x4)] → lq3 (g_X7_count_7 N u0 sd x1) N x2 x3 x4 = some out → W p l e rm_X7_count s m args below meth c H [] 0 0 Q (F0 m 7 ls []) := by
    intro x1 x2 x3 x4 ls hl h
    refine lq3_W (Wd := fun x2 x3 x4 => ∀ (ls : Array Slot), lv_has ls 5 [(0, .ref (a0 0)), (1, .int x1), (2, .int x2), (3, .int x3), (4, .int x4)] → W p l e rm_X7_count s m args below meth c H [] 0 0 Q (F0 m 7 ls [])) (fun rec7 ih7 x2 x3 x4 h ls hl => ?_) N x2 x3 x4 h ls hl
    have K39 : ∀ (x3 : Int32) (x4 : Int32) (t0 : Int32) (t1 : Int32) (ls : Array Slot), lv_has ls 5 [(0, .ref (a0 0)), (1, .int x1), (3, .int x3), (4, .int x4)] → g_X7_count_39 N u0 sd rec7 x1 x3 x4 t0 t1 = some out → W p l e rm_X7_count s m args below meth c H [] 0 0 Q (F0 m 39 ls [.int t1, .int t0]) := by
      intro x3 x4 t0 t1 ls hl h
      unfold g_X7_count_39 at h
      refine lv_ior hx hb dX7_count_39 ?_
      refine lv_istore_n (lv' := [(2, .int (t0 ||| t1)), (0, .ref (a0 0)), (1, .int x1), (3, .int x3), (4, .int x4)]) hx hb dX7_count_40 rfl hl (by decide) rfl (fun ls hl => ?_)
      refine lv_iload_n hx hb dX7_count_41 rfl (lv_at hl 3 rfl) ?_
      refine lv_aload_n hx hb dX7_count_42 rfl (lv_at hl 1 rfl) ?_
      refine lv_iload hx hb dX7_count_43 (lv_at hl 4 rfl) ?_
      obtain ⟨r_1, er_1, h⟩ := mk_bd h
      refine pc_v (As := [.int x4]) (rest := [.int x3]) ⟨hx, hb, hml, hown, hts⟩ (c_X7_trueEnd l D cI cZ cO N a0 u0 sd x4 r_1 er_1) (cwV 1 hts k_X7_count_X7_trueEnd_140 rfl rfl rfl (by decide +kernel) ⟨(Nat.le_of_ble_eq_true rfl), (Nat.le_of_ble_eq_true rfl)⟩) (va_recv hK hP (ci := 7) (q0 := 0) rfl rfl) hP hK rfl hl.1 rfl (Nat.le_of_ble_eq_true rfl) dX7_count_45 ⟨Nat.zero_le _, Nat.zero_le _⟩ ?_
      refine lv_aload_n hx hb dX7_count_48 rfl (lv_at hl 1 rfl) ?_
      refine va_get (D := D) (ci := 7) (v := .ref (a0 11)) (C := RX7) (T := TX7) (N := 33) hx hb hts hiX7 hown hK hP 0 rfl rfl 16 (by decide) (hts (.fieldLink RX7 40 "ClockOnceModel" "now" "[I") (List.mem_of_getElem? (i := 2) rfl)) (fun _ h9 => h9) rfl dX7_count_49 ?_
      refine lv_iconst (v := (0 : Int32)) hx hb dX7_count_52 (by decide) ?_
      obtain ⟨v_2, ev_2, hiv_2, h⟩ := mk_rdE h
      refine va_iald hx hb hK hP 11 0 rfl rfl hiv_2 dX7_count_53 ?_
      refine mk_topi ev_2 ?_
      refine lv_icmp_gt (tgt := 64) hx hb dX7_count_54 (by decide) (fun q_3 => ?_) (fun q_3 => ?_)
      · have h := mk_ifp q_3 h
        refine lv_iconst (v := (0 : Int32)) hx hb dX7_count_64 (by decide) ?_
        refine lv_ior hx hb dX7_count_65 ?_
        refine lv_istore_n (lv' := [(3, .int (x3 ||| (0 : Int32))), (2, .int (t0 ||| t1)), (0, .ref (a0 0)), (1, .int x1), (4, .int x4)]) hx hb dX7_count_66 rfl hl (by decide) rfl (fun ls hl => ?_)
        refine lv_iinc (v := (x4 + (1 : Int32))) (lv' := [(4, .int (x4 + (1 : Int32))), (3, .int (x3 ||| (0 : Int32))), (2, .int (t0 ||| t1)), (0, .ref (a0 0)), (1, .int x1)]) hx hb dX7_count_67 hl (k := 4) rfl rfl (by decide) rfl (fun ls hl => ?_)
        refine lv_goto (tgt := 7) hx hb dX7_count_70 (by decide) ?_
        exact ih7 (t0 ||| t1) (x3 ||| (0 : Int32)) (x4 + (1 : Int32)) h ls (lv_sub hl [3, 4, 2, 1, 0] rfl)
      · have h := mk_ifn q_3 h
        refine lv_iconst (v := (1 : Int32)) hx hb dX7_count_57 (by decide) ?_
        refine lv_iload hx hb dX7_count_58 (lv_at hl 4 rfl) ?_
        refine lv_ishl hx hb dX7_count_60 ?_
        refine lv_goto (tgt := 65) hx hb dX7_count_61 (by decide) ?_
        refine lv_ior hx hb dX7_count_65 ?_
        refine lv_istore_n (lv' := [(3, .int (x3 ||| ((1 : Int32) <<< (x4 &&& 31)))), (2, .int (t0 ||| t1)), (0, .ref (a0 0)), (1, .int x1), (4, .int x4)]) hx hb dX7_count_66 rfl hl (by decide) rfl (fun ls hl => ?_)
        refine lv_iinc (v := (x4 + (1 : Int32))) (lv' := [(4, .int (x4 + (1 : Int32))), (3, .int (x3 ||| ((1 : Int32) <<< (x4 &&& 31)))), (2, .int (t0 ||| t1)), (0, .ref (a0 0)), (1, .int x1)]) hx hb dX7_count_67 hl (k := 4) rfl rfl (by decide) rfl (fun ls hl => ?_)
        refine lv_goto (tgt := 7) hx hb dX7_count_70 (by decide) ?_
        exact ih7 (t0 ||| t1) (x3 ||| ((1 : Int32) <<< (x4 &&& 31))) (x4 + (1 : Int32)) h ls (lv_sub hl [3, 4, 2, 1, 0] rfl)
    unfold g_X7_count_7 at h
    refine lv_iload hx hb dX7_count_7 (lv_at hl 4 rfl) ?_
    refine lv_aload_n hx hb dX7_count_9 rfl (lv_at hl 0 rfl) ?_
    refine va_get (D := D) (ci := 7) (v := .int (u0 0 0)) (C := RX7) (T := TX7) (N := 33) hx hb hts hiX7 hown hK hP 0 rfl rfl 0 (by decide) (hts (.fieldLink RX7 124 "ClockOnceModel" "things" "I") (List.mem_of_getElem? (i := 1) rfl)) (fun _ h9 => h9) rfl dX7_count_10 ?_
    refine lv_icmp_ge (tgt := 73) hx hb dX7_count_13 (by decide) (fun q_4 => ?_) (fun q_4 => ?_)
    · have h := mk_ifp q_4 h
      refine lv_iload_n hx hb dX7_count_73 rfl (lv_at hl 1 rfl) ?_
      by_cases q_5 : x1 = (0 : Int32)
      · have h := mk_ifp q_5 h
        refine lv_tableIn (off := 58) (tgt := 132) hx hb dX7_count_74 (by rw [q_5]; decide) (by rw [q_5]; decide) (by rw [q_5]; rfl) (by decide) ?_
        refine lv_aload_n hx hb dX7_count_132 rfl (lv_at hl 0 rfl) ?_
        refine va_get (D := D) (ci := 7) (v := .int (u0 0 6)) (C := RX7) (T := TX7) (N := 33) hx hb hts hiX7 hown hK hP 0 rfl rfl 18 (by decide) (hts (.fieldLink RX7 77 "ClockOnceModel" "length" "I") (List.mem_of_getElem? (i := 3) rfl)) (fun _ h9 => h9) rfl dX7_count_133 ?_
        exact hret _ _ _ h dX7_count_136
      have h := mk_ifn q_5 h
      by_cases q_6 : x1 = (1 : Int32)
      · have h := mk_ifp q_6 h
        refine lv_tableIn (off := 63) (tgt := 137) hx hb dX7_count_74 (by rw [q_6]; decide) (by rw [q_6]; decide) (by rw [q_6]; rfl) (by decide) ?_
        refine lv_aload_n hx hb dX7_count_137 rfl (lv_at hl 0 rfl) ?_
        refine va_get (D := D) (ci := 7) (v := .int (u0 0 0)) (C := RX7) (T := TX7) (N := 33) hx hb hts hiX7 hown hK hP 0 rfl rfl 0 (by decide) (hts (.fieldLink RX7 124 "ClockOnceModel" "things" "I") (List.mem_of_getElem? (i := 1) rfl)) (fun _ h9 => h9) rfl dX7_count_138 ?_
        exact hret _ _ _ h dX7_count_141
      have h := mk_ifn q_6 h
      by_cases q_7 : x1 = (2 : Int32)
      · have h := mk_ifp q_7 h
        refine lv_tableIn (off := 68) (tgt := 142) hx hb dX7_count_74 (by rw [q_7]; decide) (by rw [q_7]; decide) (by rw [q_7]; rfl) (by decide) ?_
        refine lv_aload_n hx hb dX7_count_142 rfl (lv_at hl 0 rfl) ?_
        refine va_get (D := D) (ci := 7) (v := .int (u0 0 1)) (C := RX7) (T := TX7) (N := 33) hx hb hts hiX7 hown hK hP 0 rfl rfl 1 (by decide) (hts (.fieldLink RX7 127 "ClockOnceModel" "askers" "I") (List.mem_of_getElem? (i := 4) rfl)) (fun _ h9 => h9) rfl dX7_count_143 ?_
        exact hret _ _ _ h dX7_count_146
      have h := mk_ifn q_7 h
      by_cases q_8 : x1 = (3 : Int32)
      · have h := mk_ifp q_8 h
        refine lv_tableIn (off := 73) (tgt := 147) hx hb dX7_count_74 (by rw [q_8]; decide) (by rw [q_8]; decide) (by rw [q_8]; rfl) (by decide) ?_
        refine lv_aload_n hx hb dX7_count_147 rfl (lv_at hl 0 rfl) ?_
        refine va_get (D := D) (ci := 7) (v := .int (u0 0 2)) (C := RX7) (T := TX7) (N := 33) hx hb hts hiX7 hown hK hP 0 rfl rfl 2 (by decide) (hts (.fieldLink RX7 130 "ClockOnceModel" "links" "I") (List.mem_of_getElem? (i := 5) rfl)) (fun _ h9 => h9) rfl dX7_count_148 ?_
        exact hret _ _ _ h dX7_count_151
      have h := mk_ifn q_8 h
      by_cases q_9 : x1 = (4 : Int32)
      · have h := mk_ifp q_9 h
        refine lv_tableIn (off := 78) (tgt := 152) hx hb dX7_count_74 (by rw [q_9]; decide) (by rw [q_9]; decide) (by rw [q_9]; rfl) (by decide) ?_
        refine lv_aload_n hx hb dX7_count_152 rfl (lv_at hl 0 rfl) ?_
        refine va_get (D := D) (ci := 7) (v := .ref (a0 11)) (C := RX7) (T := TX7) (N := 33) hx hb hts hiX7 hown hK hP 0 rfl rfl 16 (by decide) (hts (.fieldLink RX7 40 "ClockOnceModel" "now" "[I") (List.mem_of_getElem? (i := 2) rfl)) (fun _ h9 => h9) rfl dX7_count_153 ?_
        refine lv_iconst (v := (0 : Int32)) hx hb dX7_count_156 (by decide) ?_
        obtain ⟨v_10, ev_10, hiv_10, h⟩ := mk_rdE h
        refine va_iald hx hb hK hP 11 0 rfl rfl hiv_10 dX7_count_157 ?_
        refine mk_topi ev_10 ?_
        exact hret _ _ _ h dX7_count_158
      have h := mk_ifn q_9 h
      by_cases q_11 : x1 = (5 : Int32)
      · have h := mk_ifp q_11 h
        refine lv_tableIn (off := 85) (tgt := 159) hx hb dX7_count_74 (by rw [q_11]; decide) (by rw [q_11]; decide) (by rw [q_11]; rfl) (by decide) ?_
        refine lv_aload_n hx hb dX7_count_159 rfl (lv_at hl 0 rfl) ?_
        refine va_get (D := D) (ci := 7) (v := .ref (a0 11)) (C := RX7) (T := TX7) (N := 33) hx hb hts hiX7 hown hK hP 0 rfl rfl 16 (by decide) (hts (.fieldLink RX7 40 "ClockOnceModel" "now" "[I") (List.mem_of_getElem? (i := 2) rfl)) (fun _ h9 => h9) rfl dX7_count_160 ?_
        refine lv_iconst (v := (1 : Int32)) hx hb dX7_count_163 (by decide) ?_
        obtain ⟨v_12, ev_12, hiv_12, h⟩ := mk_rdE h
        refine va_iald hx hb hK hP 11 0 rfl rfl hiv_12 dX7_count_164 ?_
        refine mk_topi ev_12 ?_
        exact hret _ _ _ h dX7_count_165
      have h := mk_ifn q_11 h
      by_cases q_13 : x1 = (6 : Int32)
      · have h := mk_ifp q_13 h
        refine lv_tableIn (off := 92) (tgt := 166) hx hb dX7_count_74 (by rw [q_13]; decide) (by rw [q_13]; decide) (by rw [q_13]; rfl) (by decide) ?_
        refine lv_iload_n hx hb dX7_count_166 rfl (lv_at hl 2 rfl) ?_
        exact hret _ _ _ h dX7_count_167
      have h := mk_ifn q_13 h
      by_cases q_14 : x1 = (7 : Int32)
      · have h := mk_ifp q_14 h
        refine lv_tableIn (off := 94) (tgt := 168) hx hb dX7_count_74 (by rw [q_14]; decide) (by rw [q_14]; decide) (by rw [q_14]; rfl) (by decide) ?_
        refine lv_iload_n hx hb dX7_count_168 rfl (lv_at hl 3 rfl) ?_
        exact hret _ _ _ h dX7_count_169
      have h := mk_ifn q_14 h
      by_cases q_15 : x1 = (8 : Int32)
      · have h := mk_ifp q_15 h
        refine lv_tableIn (off := 96) (tgt := 170) hx hb dX7_count_74 (by rw [q_15]; decide) (by rw [q_15]; decide) (by rw [q_15]; rfl) (by decide) ?_
        refine lv_aload_n hx hb dX7_count_170 rfl (lv_at hl 0 rfl) ?_
        obtain ⟨r_16, er_16, h⟩ := mk_bd h
        refine pc_v (As := []) (rest := []) ⟨hx, hb, hml, hown, hts⟩ (c_X7_askedOf l D cI cZ cO N a0 u0 sd r_16 er_16) (cwV 0 hts k_X7_count_X7_askedOf_143 rfl rfl rfl (by decide +kernel) ⟨(Nat.le_of_ble_eq_true rfl), (Nat.le_of_ble_eq_true rfl)⟩) (va_recv hK hP (ci := 7) (q0 := 0) rfl rfl) hP hK rfl hl.1 rfl (Nat.le_of_ble_eq_true rfl) dX7_count_171 ⟨Nat.zero_le _, Nat.zero_le _⟩ ?_
        exact hret _ _ _ h dX7_count_174
      have h := mk_ifn q_15 h
      by_cases q_17 : x1 = (9 : Int32)
      · have h := mk_ifp q_17 h
        refine lv_tableIn (off := 101) (tgt := 175) hx hb dX7_count_74 (by rw [q_17]; decide) (by rw [q_17]; decide) (by rw [q_17]; rfl) (by decide) ?_
        refine lv_aload_n hx hb dX7_count_175 rfl (lv_at hl 0 rfl) ?_
        refine va_get (D := D) (ci := 7) (v := .int (u0 0 9)) (C := RX7) (T := TX7) (N := 33) hx hb hts hiX7 hown hK hP 0 rfl rfl 21 (by decide) (hts (.fieldLink RX7 133 "ClockOnceModel" "acts" "I") (List.mem_of_getElem? (i := 6) rfl)) (fun _ h9 => h9) rfl dX7_count_176 ?_
        exact hret _ _ _ h dX7_count_179
      have h := mk_ifn q_17 h
      by_cases q_18 : x1 = (10 : Int32)
      · have h := mk_ifp q_18 h
        refine lv_tableIn (off := 106) (tgt := 180) hx hb dX7_count_74 (by rw [q_18]; decide) (by rw [q_18]; decide) (by rw [q_18]; rfl) (by decide) ?_
        refine lv_aload_n hx hb dX7_count_180 rfl (lv_at hl 0 rfl) ?_
        refine va_get (D := D) (ci := 7) (v := .int (u0 0 12)) (C := RX7) (T := TX7) (N := 33) hx hb hts hiX7 hown hK hP 0 rfl rfl 26 (by decide) (hts (.fieldLink RX7 228 "ClockOnceModel" "seen" "I") (List.mem_of_getElem? (i := 7) rfl)) (fun _ h9 => h9) rfl dX7_count_181 ?_
        exact hret _ _ _ h dX7_count_184
      have h := mk_ifn q_18 h
      refine lv_tableOut (tgt := 185) hx hb dX7_count_74 (by have zq_5 := mk_ne (z := 0) (by decide) q_5; have zq_6 := mk_ne (z := 1) (by decide) q_6; have zq_7 := mk_ne (z := 2) (by decide) q_7; have zq_8 := mk_ne (z := 3) (by decide) q_8; have zq_9 := mk_ne (z := 4) (by decide) q_9; have zq_11 := mk_ne (z := 5) (by decide) q_11; have zq_13 := mk_ne (z := 6) (by decide) q_13; have zq_14 := mk_ne (z := 7) (by decide) q_14; have zq_15 := mk_ne (z := 8) (by decide) q_15; have zq_17 := mk_ne (z := 9) (by decide) q_17; have zq_18 := mk_ne (z := 10) (by decide) q_18; omega) (by decide) ?_
      refine lv_bipush (v := (-2 : Int32)) hx hb dX7_count_185 (by decide) ?_
      exact hret _ _ _ h dX7_count_187
    · have h := mk_ifn q_4 h
      refine lv_iload_n hx hb dX7_count_16 rfl (lv_at hl 2 rfl) ?_
      refine lv_aload_n hx hb dX7_count_17 rfl (lv_at hl 0 rfl) ?_
      refine va_get (D := D) (ci := 7) (v := .ref (a0 11)) (C := RX7) (T := TX7) (N := 33) hx hb hts hiX7 hown hK hP 0 rfl rfl 16 (by decide) (hts (.fieldLink RX7 40 "ClockOnceModel" "now" "[I") (List.mem_of_getElem? (i := 2) rfl)) (fun _ h9 => h9) rfl dX7_count_18 ?_
      refine lv_iconst (v := (2 : Int32)) hx hb dX7_count_21 (by decide) ?_
      refine lv_iload hx hb dX7_count_22 (lv_at hl 4 rfl) ?_
      refine lv_iadd hx hb dX7_count_24 ?_
      obtain ⟨v_19, ev_19, hiv_19, h⟩ := mk_rdE h
      refine va_iald hx hb hK hP 11 0 rfl rfl hiv_19 dX7_count_25 ?_
      refine mk_topi ev_19 ?_
      refine lv_bipush (v := (-9 : Int32)) hx hb dX7_count_26 (by decide) ?_
      refine lv_icmp_eq (tgt := 38) hx hb dX7_count_28 (by decide) (fun q_20 => ?_) (fun q_20 => ?_)
      · have h := mk_ifp q_20 h
        refine lv_iconst (v := (0 : Int32)) hx hb dX7_count_38 (by decide) ?_
        exact K39 x3 x4 x2 (0 : Int32) ls (lv_sub hl [0, 1, 3, 4] rfl) h
      · have h := mk_ifn q_20 h
        refine lv_iconst (v := (1 : Int32)) hx hb dX7_count_31 (by decide) ?_
        refine lv_iload hx hb dX7_count_32 (lv_at hl 4 rfl) ?_
        refine lv_ishl hx hb dX7_count_34 ?_
        refine lv_goto (tgt := 39) hx hb dX7_count_35 (by decide) ?_
        exact K39 x3 x4 x2 ((1 : Int32) <<< (x4 &&& 31)) ls (lv_sub hl [0, 1, 3, 4] rfl) h
  unfold f_X7_count at h
  refine lv_iconst (v := (0 : Int32)) hx hb dX7_count_0 (by decide) ?_
  refine lv_istore_n (lv' := [(2, .int (0 : Int32)), (0, .ref (a0 0)), (1, .int p1)]) hx hb dX7_count_1 rfl hl (by decide) rfl (fun ls hl => ?_)
  refine lv_iconst (v := (0 : Int32)) hx hb dX7_count_2 (by decide) ?_
  refine lv_istore_n (lv' := [(3, .int (0 : Int32)), (2, .int (0 : Int32)), (0, .ref (a0 0)), (1, .int p1)]) hx hb dX7_count_3 rfl hl (by decide) rfl (fun ls hl => ?_)
  refine lv_iconst (v := (0 : Int32)) hx hb dX7_count_4 (by decide) ?_
  refine lv_istore (lv' := [(4, .int (0 : Int32)), (3, .int (0 : Int32)), (2, .int (0 : Int32)), (0, .ref (a0 0)), (1, .int p1)]) hx hb dX7_count_5 hl (by decide) rfl (fun ls hl => ?_)
  exact K7 p1 (0 : Int32) (0 : Int32) (0 : Int32) ls (lv_sub hl [3, 4, 2, 1, 0] rfl) h

abbrev rm_X7_day : Room := { frames := 1, cells := 0, slots := 0, locals := 21 }
set_option maxRecDepth 20000 in
theorem k_X7_day_X7_trueEnd_140 : GoodIn wsX7_day (wsV RX7 140 RX7 yX7_trueEnd wsX7_trueEnd) := goodIn_r _ [11, 12, 13, 6, 14, 15, 16, 17, 18, 19, 20, 21, 22, 23, 24, 25, 26, 27, 28, 29, 30, 31, 32, 33, 34, 35, 36, 37, 38, 39, 40, 41, 42, 43, 44, 45, 46, 47, 48] rfl (by decide +kernel)
set_option maxRecDepth 20000 in
theorem k_X7_day_X7_keepAct_155 : GoodIn wsX7_day (wsV RX7 155 RX7 yX7_keepAct wsX7_keepAct) := goodIn_r _ [3, 4, 5, 6, 7, 8, 9, 1, 10, 16, 17, 18, 19, 20, 21, 22, 23, 24, 25, 26, 27, 28, 29, 30, 31, 32, 33, 34, 35, 36, 37, 38, 39, 40, 41, 42, 43, 44, 45, 46, 47, 48] rfl (by decide +kernel)
set_option maxHeartbeats 4000000 in
set_option maxRecDepth 100000 in
theorem c_X7_day (l : Launch) (D : va_G) (cI cZ cO : ClassId) (N : Nat) (a0 : Nat → Nat) (u0 : TU) (sd : Int64) (sz : Nat) (out : Int32 × TU) (h : f_X7_day N u0 sd = some out) : Met l yX7_day wsX7_day rm_X7_day (va_Pc [.ref (a0 0)] (mk_Pe D vwCl (tyA cI cZ cO) (wX7 cI cZ a0 u0 sd) sz)) (va_Qi (fun r u => (r, u) = out) (mk_Be D vwCl (wX7 cI cZ a0 u0 sd) sz (fun q => (wX7 cI cZ a0 q sd))) (va_A (wX7 cI cZ a0 u0 sd) sz)) 0 0 (va_A (wX7 cI cZ a0 u0 sd) sz) := by
  refine em_i (own := RX7) (cc := cX7_day) (maxL := 3) (by decide) rfl rfl (Nat.le_of_ble_eq_true rfl) ?_
  intro p e s m args below meth c Q A H0 H locs ls hx hb hml hown hts hP hK hD hS hA hl hret
  have hl : lv_has ls 3 [(0, .ref (a0 0))] := hl
  have hiX7 : ∀ w ∈ u_ws RX7 TX7 33, w ∈ wsX7_day := mk_seg 16 33 rfl
  have K22 : ∀ (u0 : TU) (x1 : Int32) (x2 : Int32) (H : Heap) (locs : List Loc) (ls : Array Slot), va_P D vwCl (wX7 cI cZ a0 u0 sd) H → va_D A (wX7 cI cZ a0 u0 sd) → va_S A H0 H locs → lv_has ls 3 [(0, .ref (a0 0)), (1, .int x1), (2, .int x2)] → lq2 (g_X7_day_22 N u0 sd) N x1 x2 = some out → W p l e rm_X7_day s m args below meth c H locs 0 0 Q (F0 m 22 ls []) := by
    intro u0 x1 x2 H locs ls hP hD hS hl h
    refine lq2_W (Wd := fun x1 x2 => ∀ (H : Heap) (locs : List Loc) (ls : Array Slot), va_P D vwCl (wX7 cI cZ a0 u0 sd) H → va_D A (wX7 cI cZ a0 u0 sd) → va_S A H0 H locs → lv_has ls 3 [(0, .ref (a0 0)), (1, .int x1), (2, .int x2)] → W p l e rm_X7_day s m args below meth c H locs 0 0 Q (F0 m 22 ls [])) (fun rec22 ih22 x1 x2 h H locs ls hP hD hS hl => ?_) N x1 x2 h H locs ls hP hD hS hl
    have K62 : ∀ (x2 : Int32) (t0 : Int32) (H : Heap) (locs : List Loc) (ls : Array Slot), va_P D vwCl (wX7 cI cZ a0 u0 sd) H → va_D A (wX7 cI cZ a0 u0 sd) → va_S A H0 H locs → lv_has ls 3 [(0, .ref (a0 0)), (2, .int x2)] → g_X7_day_62 N u0 sd rec22 x2 t0 = some out → W p l e rm_X7_day s m args below meth c H locs 0 0 Q (F0 m 62 ls [.int t0]) := by
      intro x2 t0 H locs ls hP hD hS hl h
      unfold g_X7_day_62 at h
      refine lv_iconst (v := (0 : Int32)) hx hb dX7_day_62 (by decide) ?_
      refine lv_iadd hx hb dX7_day_63 ?_
      refine lv_istore_n (lv' := [(1, .int (t0 + (0 : Int32))), (0, .ref (a0 0)), (2, .int x2)]) hx hb dX7_day_64 rfl hl (by decide) rfl (fun ls hl => ?_)
      refine lv_iinc (v := (x2 + (1 : Int32))) (lv' := [(2, .int (x2 + (1 : Int32))), (1, .int (t0 + (0 : Int32))), (0, .ref (a0 0))]) hx hb dX7_day_65 hl (k := 2) rfl rfl (by decide) rfl (fun ls hl => ?_)
      refine lv_goto (tgt := 22) hx hb dX7_day_68 (by decide) ?_
      exact ih22 (t0 + (0 : Int32)) (x2 + (1 : Int32)) h H locs ls hP hD hS (lv_sub hl [2, 1, 0] rfl)
    unfold g_X7_day_22 at h
    refine lv_iload_n hx hb dX7_day_22 rfl (lv_at hl 2 rfl) ?_
    refine lv_aload_n hx hb dX7_day_23 rfl (lv_at hl 0 rfl) ?_
    refine va_get (D := D) (ci := 7) (v := .int (u0 0 0)) (C := RX7) (T := TX7) (N := 33) hx hb hts hiX7 hown hK hP 0 rfl rfl 0 (by decide) (hts (.fieldLink RX7 124 "ClockOnceModel" "things" "I") (List.mem_of_getElem? (i := 2) rfl)) (fun _ h9 => h9) rfl dX7_day_24 ?_
    refine lv_icmp_ge (tgt := 71) hx hb dX7_day_27 (by decide) (fun q_1 => ?_) (fun q_1 => ?_)
    · have h := mk_ifp q_1 h
      refine lv_aload_n hx hb dX7_day_71 rfl (lv_at hl 0 rfl) ?_
      refine va_get (D := D) (ci := 7) (v := .ref (a0 11)) (C := RX7) (T := TX7) (N := 33) hx hb hts hiX7 hown hK hP 0 rfl rfl 16 (by decide) (hts (.fieldLink RX7 40 "ClockOnceModel" "now" "[I") (List.mem_of_getElem? (i := 1) rfl)) (fun _ h9 => h9) rfl dX7_day_72 ?_
      refine lv_iconst (v := (0 : Int32)) hx hb dX7_day_75 (by decide) ?_
      refine lv_dup2_11 hx hb dX7_day_76 rfl rfl ?_
      obtain ⟨v_2, ev_2, hiv_2, h⟩ := mk_rdE h
      refine va_iald hx hb hK hP 11 0 rfl rfl hiv_2 dX7_day_77 ?_
      refine mk_topi ev_2 ?_
      refine lv_iconst (v := (1 : Int32)) hx hb dX7_day_78 (by decide) ?_
      refine lv_iadd hx hb dX7_day_79 ?_
      obtain ⟨hx_3, h⟩ := mk_ixE h
      obtain ⟨w_4, ew_4, h⟩ := mk_nmE h
      refine va_iast hx hb hK hP hD hS 11 0 rfl rfl hx_3 dX7_day_80 (fun H locs hP hD hS => ?_)
      have hP : va_P D vwCl (wX7 cI cZ a0 w_4 sd) H := by rw [ew_4]; exact hP
      have hD : va_D A (wX7 cI cZ a0 w_4 sd) := by rw [ew_4]; exact hD
      refine lv_aload_n hx hb dX7_day_81 rfl (lv_at hl 0 rfl) ?_
      refine va_get (D := D) (ci := 7) (v := .ref (a0 11)) (C := RX7) (T := TX7) (N := 33) hx hb hts hiX7 hown hK hP 0 rfl rfl 16 (by decide) (hts (.fieldLink RX7 40 "ClockOnceModel" "now" "[I") (List.mem_of_getElem? (i := 1) rfl)) (fun _ h9 => h9) rfl dX7_day_82 ?_
      refine lv_iconst (v := (1 : Int32)) hx hb dX7_day_85 (by decide) ?_
      refine lv_dup2_11 hx hb dX7_day_86 rfl rfl ?_
      obtain ⟨v_5, ev_5, hiv_5, h⟩ := mk_rdE h
      refine va_iald hx hb hK hP 11 0 rfl rfl hiv_5 dX7_day_87 ?_
      refine mk_topi ev_5 ?_
      refine lv_iload_n hx hb dX7_day_88 rfl (lv_at hl 1 rfl) ?_
      refine lv_iadd hx hb dX7_day_89 ?_
      obtain ⟨hx_6, h⟩ := mk_ixE h
      obtain ⟨w_7, ew_7, h⟩ := mk_nmE h
      refine va_iast hx hb hK hP hD hS 11 0 rfl rfl hx_6 dX7_day_90 (fun H locs hP hD hS => ?_)
      have hP : va_P D vwCl (wX7 cI cZ a0 w_7 sd) H := by rw [ew_7]; exact hP
      have hD : va_D A (wX7 cI cZ a0 w_7 sd) := by rw [ew_7]; exact hD
      refine lv_iload_n hx hb dX7_day_91 rfl (lv_at hl 1 rfl) ?_
      exact hret _ _ _ _ _ _ h hP hD hS dX7_day_92
    · have h := mk_ifn q_1 h
      refine lv_iload_n hx hb dX7_day_30 rfl (lv_at hl 1 rfl) ?_
      refine lv_aload_n hx hb dX7_day_31 rfl (lv_at hl 0 rfl) ?_
      refine va_get (D := D) (ci := 7) (v := .ref (a0 11)) (C := RX7) (T := TX7) (N := 33) hx hb hts hiX7 hown hK hP 0 rfl rfl 16 (by decide) (hts (.fieldLink RX7 40 "ClockOnceModel" "now" "[I") (List.mem_of_getElem? (i := 1) rfl)) (fun _ h9 => h9) rfl dX7_day_32 ?_
      refine lv_iconst (v := (2 : Int32)) hx hb dX7_day_35 (by decide) ?_
      refine lv_iload_n hx hb dX7_day_36 rfl (lv_at hl 2 rfl) ?_
      refine lv_iadd hx hb dX7_day_37 ?_
      obtain ⟨v_8, ev_8, hiv_8, h⟩ := mk_rdE h
      refine va_iald hx hb hK hP 11 0 rfl rfl hiv_8 dX7_day_38 ?_
      refine mk_topi ev_8 ?_
      refine lv_bipush (v := (-9 : Int32)) hx hb dX7_day_39 (by decide) ?_
      refine lv_icmp_ne (tgt := 62) hx hb dX7_day_41 (by decide) (fun q_9 => ?_) (fun q_9 => ?_)
      · have h := mk_ifn q_9 h
        exact K62 x2 x1 H locs ls hP hD hS (lv_sub hl [0, 2] rfl) h
      · have h := mk_ifp q_9 h
        refine lv_aload_n hx hb dX7_day_44 rfl (lv_at hl 0 rfl) ?_
        refine lv_iload_n hx hb dX7_day_45 rfl (lv_at hl 2 rfl) ?_
        obtain ⟨r_10, er_10, h⟩ := mk_bd h
        refine pc_v (As := [.int x2]) (rest := [.int x1]) ⟨hx, hb, hml, hown, hts⟩ (c_X7_trueEnd l D cI cZ cO N a0 u0 sd x2 r_10 er_10) (cwV 1 hts k_X7_day_X7_trueEnd_140 rfl rfl rfl (by decide +kernel) ⟨(Nat.le_of_ble_eq_true rfl), (Nat.le_of_ble_eq_true rfl)⟩) (va_recv hK hP (ci := 7) (q0 := 0) rfl rfl) hP hK rfl hl.1 rfl (Nat.le_of_ble_eq_true rfl) dX7_day_46 ⟨Nat.zero_le _, Nat.zero_le _⟩ ?_
        refine lv_aload_n hx hb dX7_day_49 rfl (lv_at hl 0 rfl) ?_
        refine va_get (D := D) (ci := 7) (v := .ref (a0 11)) (C := RX7) (T := TX7) (N := 33) hx hb hts hiX7 hown hK hP 0 rfl rfl 16 (by decide) (hts (.fieldLink RX7 40 "ClockOnceModel" "now" "[I") (List.mem_of_getElem? (i := 1) rfl)) (fun _ h9 => h9) rfl dX7_day_50 ?_
        refine lv_iconst (v := (0 : Int32)) hx hb dX7_day_53 (by decide) ?_
        obtain ⟨v_11, ev_11, hiv_11, h⟩ := mk_rdE h
        refine va_iald hx hb hK hP 11 0 rfl rfl hiv_11 dX7_day_54 ?_
        refine mk_topi ev_11 ?_
        refine lv_icmp_le (tgt := 62) hx hb dX7_day_55 (by decide) (fun q_12 => ?_) (fun q_12 => ?_)
        · have h := mk_ifp q_12 h
          exact K62 x2 x1 H locs ls hP hD hS (lv_sub hl [0, 2] rfl) h
        · have h := mk_ifn q_12 h
          refine lv_iconst (v := (1 : Int32)) hx hb dX7_day_58 (by decide) ?_
          refine lv_goto (tgt := 63) hx hb dX7_day_59 (by decide) ?_
          refine lv_iadd hx hb dX7_day_63 ?_
          refine lv_istore_n (lv' := [(1, .int (x1 + (1 : Int32))), (0, .ref (a0 0)), (2, .int x2)]) hx hb dX7_day_64 rfl hl (by decide) rfl (fun ls hl => ?_)
          refine lv_iinc (v := (x2 + (1 : Int32))) (lv' := [(2, .int (x2 + (1 : Int32))), (1, .int (x1 + (1 : Int32))), (0, .ref (a0 0))]) hx hb dX7_day_65 hl (k := 2) rfl rfl (by decide) rfl (fun ls hl => ?_)
          refine lv_goto (tgt := 22) hx hb dX7_day_68 (by decide) ?_
          exact ih22 (x1 + (1 : Int32)) (x2 + (1 : Int32)) h H locs ls hP hD hS (lv_sub hl [2, 1, 0] rfl)
  unfold f_X7_day at h
  refine lv_aload_n hx hb dX7_day_0 rfl (lv_at hl 0 rfl) ?_
  refine va_get (D := D) (ci := 7) (v := .ref (a0 11)) (C := RX7) (T := TX7) (N := 33) hx hb hts hiX7 hown hK hP 0 rfl rfl 16 (by decide) (hts (.fieldLink RX7 40 "ClockOnceModel" "now" "[I") (List.mem_of_getElem? (i := 1) rfl)) (fun _ h9 => h9) rfl dX7_day_1 ?_
  refine lv_iconst (v := (0 : Int32)) hx hb dX7_day_4 (by decide) ?_
  obtain ⟨v_13, ev_13, hiv_13, h⟩ := mk_rdE h
  refine va_iald hx hb hK hP 11 0 rfl rfl hiv_13 dX7_day_5 ?_
  refine mk_topi ev_13 ?_
  refine lv_bipush (v := (9 : Int32)) hx hb dX7_day_6 (by decide) ?_
  refine lv_icmp_ne (tgt := 14) hx hb dX7_day_8 (by decide) (fun q_14 => ?_) (fun q_14 => ?_)
  · have h := mk_ifn q_14 h
    refine lv_aload_n hx hb dX7_day_14 rfl (lv_at hl 0 rfl) ?_
    obtain ⟨r_15, er_15, h⟩ := mk_bd h
    refine es_vv (As := []) (rest := []) (w' := (wX7 cI cZ a0 r_15 sd)) ⟨hx, hb, hml, hown, hts⟩ (c_X7_keepAct l D cI cZ cO N a0 u0 sd H.size r_15 er_15) (cwV 0 hts k_X7_day_X7_keepAct_155 rfl rfl rfl (by decide +kernel) ⟨(Nat.le_of_ble_eq_true rfl), (Nat.le_of_ble_eq_true rfl)⟩) (va_recv hK hP (ci := 7) (q0 := 0) rfl rfl) hK hP hD hS hA rfl rfl hl.1 rfl (Nat.le_of_ble_eq_true rfl) dX7_day_15 ⟨Nat.zero_le _, Nat.zero_le _⟩ (fun H locs hP hD hS => ?_)
    refine lv_iconst (v := (0 : Int32)) hx hb dX7_day_18 (by decide) ?_
    refine lv_istore_n (lv' := [(1, .int (0 : Int32)), (0, .ref (a0 0))]) hx hb dX7_day_19 rfl hl (by decide) rfl (fun ls hl => ?_)
    refine lv_iconst (v := (0 : Int32)) hx hb dX7_day_20 (by decide) ?_
    refine lv_istore_n (lv' := [(2, .int (0 : Int32)), (1, .int (0 : Int32)), (0, .ref (a0 0))]) hx hb dX7_day_21 rfl hl (by decide) rfl (fun ls hl => ?_)
    exact K22 r_15 (0 : Int32) (0 : Int32) H locs ls hP hD hS (lv_sub hl [2, 1, 0] rfl) h
  · have h := mk_ifp q_14 h
    refine lv_bipush (v := (-3 : Int32)) hx hb dX7_day_11 (by decide) ?_
    exact hret _ _ _ _ _ _ h hP hD hS dX7_day_13

abbrev rm_X7_drawn : Room := { frames := 1, cells := 0, slots := 0, locals := 21 }
set_option maxRecDepth 20000 in
theorem k_X7_drawn_X7_has_89 : GoodIn wsX7_drawn (va_wsS RX7 89 yX7_has wsX7_has) := goodIn_r _ [10, 11, 12, 13] rfl (by decide +kernel)
set_option maxHeartbeats 4000000 in
set_option maxRecDepth 100000 in
theorem c_X7_drawn (l : Launch) (D : va_G) (cI cZ cO : ClassId) (N : Nat) (a0 : Nat → Nat) (u0 : TU) (sd : Int64) (sz : Nat) (out : Int32 × Int64) (h : f_X7_drawn N u0 sd = some out) : Met l yX7_drawn wsX7_drawn rm_X7_drawn (va_Pc [.ref (a0 0)] (mk_Pe D vwCl (tyA cI cZ cO) (wX7 cI cZ a0 u0 sd) sz)) (va_Qi (fun r u => (r, u) = out) (mk_Be D vwCl (wX7 cI cZ a0 u0 sd) sz (fun q => (wX7 cI cZ a0 u0 q))) (va_A (wX7 cI cZ a0 u0 sd) sz)) 0 0 (va_A (wX7 cI cZ a0 u0 sd) sz) := by
  refine em_i (own := RX7) (cc := cX7_drawn) (maxL := 4) (by decide) rfl rfl (Nat.le_of_ble_eq_true rfl) ?_
  intro p e s m args below meth c Q A H0 H locs ls hx hb hml hown hts hP hK hD hS hA hl hret
  have hl : lv_has ls 4 [(0, .ref (a0 0))] := hl
  have hiX7 : ∀ w ∈ u_ws RX7 TX7 33, w ∈ wsX7_drawn := mk_seg 14 33 rfl
  have K72 : ∀ (sd : Int64) (x1 : Int32) (x2 : Int32) (H : Heap) (locs : List Loc) (ls : Array Slot), va_P D vwCl (wX7 cI cZ a0 u0 sd) H → va_D A (wX7 cI cZ a0 u0 sd) → va_S A H0 H locs → lv_has ls 4 [(0, .ref (a0 0)), (1, .int x1), (2, .int x2)] → lq2 (g_X7_drawn_72 N u0 sd) N x1 x2 = some out → W p l e rm_X7_drawn s m args below meth c H locs 0 0 Q (F0 m 72 ls []) := by
    intro sd x1 x2 H locs ls hP hD hS hl h
    refine lq2_W (Wd := fun x1 x2 => ∀ (H : Heap) (locs : List Loc) (ls : Array Slot), va_P D vwCl (wX7 cI cZ a0 u0 sd) H → va_D A (wX7 cI cZ a0 u0 sd) → va_S A H0 H locs → lv_has ls 4 [(0, .ref (a0 0)), (1, .int x1), (2, .int x2)] → W p l e rm_X7_drawn s m args below meth c H locs 0 0 Q (F0 m 72 ls [])) (fun rec72 ih72 x1 x2 h H locs ls hP hD hS hl => ?_) N x1 x2 h H locs ls hP hD hS hl
    have K79 : ∀ (x1 : Int32) (x2 : Int32) (x3 : Int32) (H : Heap) (locs : List Loc) (ls : Array Slot), va_P D vwCl (wX7 cI cZ a0 u0 sd) H → va_D A (wX7 cI cZ a0 u0 sd) → va_S A H0 H locs → lv_has ls 4 [(0, .ref (a0 0)), (1, .int x1), (2, .int x2), (3, .int x3)] → lq2 (g_X7_drawn_79 N u0 sd rec72 x2) N x1 x3 = some out → W p l e rm_X7_drawn s m args below meth c H locs 0 0 Q (F0 m 79 ls []) := by
      intro x1 x2 x3 H locs ls hP hD hS hl h
      refine lq2_W (Wd := fun x1 x3 => ∀ (H : Heap) (locs : List Loc) (ls : Array Slot), va_P D vwCl (wX7 cI cZ a0 u0 sd) H → va_D A (wX7 cI cZ a0 u0 sd) → va_S A H0 H locs → lv_has ls 4 [(0, .ref (a0 0)), (1, .int x1), (2, .int x2), (3, .int x3)] → W p l e rm_X7_drawn s m args below meth c H locs 0 0 Q (F0 m 79 ls [])) (fun rec79 ih79 x1 x3 h H locs ls hP hD hS hl => ?_) N x1 x3 h H locs ls hP hD hS hl
      unfold g_X7_drawn_79 at h
      refine lv_iload_n hx hb dX7_drawn_79 rfl (lv_at hl 3 rfl) ?_
      refine lv_aload_n hx hb dX7_drawn_80 rfl (lv_at hl 0 rfl) ?_
      refine va_get (D := D) (ci := 7) (v := .int (u0 0 2)) (C := RX7) (T := TX7) (N := 33) hx hb hts hiX7 hown hK hP 0 rfl rfl 2 (by decide) (hts (.fieldLink RX7 130 "ClockOnceModel" "links" "I") (List.mem_of_getElem? (i := 7) rfl)) (fun _ h9 => h9) rfl dX7_drawn_81 ?_
      refine lv_icmp_ge (tgt := 121) hx hb dX7_drawn_84 (by decide) (fun q_1 => ?_) (fun q_1 => ?_)
      · have h := mk_ifp q_1 h
        refine lv_iinc (v := (x2 + (1 : Int32))) (lv' := [(2, .int (x2 + (1 : Int32))), (0, .ref (a0 0)), (1, .int x1), (3, .int x3)]) hx hb dX7_drawn_121 hl (k := 2) rfl rfl (by decide) rfl (fun ls hl => ?_)
        refine lv_goto (tgt := 72) hx hb dX7_drawn_124 (by decide) ?_
        exact ih72 x1 (x2 + (1 : Int32)) h H locs ls hP hD hS (lv_sub hl [1, 2, 0] rfl)
      · have h := mk_ifn q_1 h
        refine lv_iload_n hx hb dX7_drawn_87 rfl (lv_at hl 1 rfl) ?_
        refine lv_iload_n hx hb dX7_drawn_88 rfl (lv_at hl 1 rfl) ?_
        refine lv_aload_n hx hb dX7_drawn_89 rfl (lv_at hl 0 rfl) ?_
        refine va_get (D := D) (ci := 7) (v := .ref (a0 4)) (C := RX7) (T := TX7) (N := 33) hx hb hts hiX7 hown hK hP 0 rfl rfl 6 (by decide) (hts (.fieldLink RX7 19 "ClockOnceModel" "linkOf" "[I") (List.mem_of_getElem? (i := 8) rfl)) (fun _ h9 => h9) rfl dX7_drawn_90 ?_
        refine lv_iload_n hx hb dX7_drawn_93 rfl (lv_at hl 3 rfl) ?_
        obtain ⟨v_2, ev_2, hiv_2, h⟩ := mk_rdE h
        refine va_iald hx hb hK hP 4 0 rfl rfl hiv_2 dX7_drawn_94 ?_
        refine mk_topi ev_2 ?_
        obtain ⟨r_3, er_3, h⟩ := mk_bd h
        refine pc_s (As := [.int x1, .int v_2]) (rest := [.int x1]) ⟨hx, hb, hml, hown, hts⟩ (c_X7_has l D cI cZ cO N x1 v_2 r_3 er_3) (va_cwS 2 hts k_X7_drawn_X7_has_89 rfl rfl rfl (by decide +kernel) ⟨(Nat.le_of_ble_eq_true rfl), (Nat.le_of_ble_eq_true rfl)⟩) (hP.sub (ws' := []) [] rfl) hK rfl hl.1 rfl (Nat.le_of_ble_eq_true rfl) dX7_drawn_95 ⟨Nat.zero_le _, Nat.zero_le _⟩ ?_
        refine lv_if_eq (tgt := 112) hx hb dX7_drawn_98 (by decide) (fun q_4 => ?_) (fun q_4 => ?_)
        · have h := mk_ifp q_4 h
          refine lv_iconst (v := (0 : Int32)) hx hb dX7_drawn_112 (by decide) ?_
          refine lv_ior hx hb dX7_drawn_113 ?_
          refine lv_istore_n (lv' := [(1, .int (x1 ||| (0 : Int32))), (0, .ref (a0 0)), (2, .int x2), (3, .int x3)]) hx hb dX7_drawn_114 rfl hl (by decide) rfl (fun ls hl => ?_)
          refine lv_iinc (v := (x3 + (1 : Int32))) (lv' := [(3, .int (x3 + (1 : Int32))), (1, .int (x1 ||| (0 : Int32))), (0, .ref (a0 0)), (2, .int x2)]) hx hb dX7_drawn_115 hl (k := 3) rfl rfl (by decide) rfl (fun ls hl => ?_)
          refine lv_goto (tgt := 79) hx hb dX7_drawn_118 (by decide) ?_
          exact ih79 (x1 ||| (0 : Int32)) (x3 + (1 : Int32)) h H locs ls hP hD hS (lv_sub hl [2, 1, 3, 0] rfl)
        · have h := mk_ifn q_4 h
          refine lv_iconst (v := (1 : Int32)) hx hb dX7_drawn_101 (by decide) ?_
          refine lv_aload_n hx hb dX7_drawn_102 rfl (lv_at hl 0 rfl) ?_
          refine va_get (D := D) (ci := 7) (v := .ref (a0 5)) (C := RX7) (T := TX7) (N := 33) hx hb hts hiX7 hown hK hP 0 rfl rfl 7 (by decide) (hts (.fieldLink RX7 22 "ClockOnceModel" "linkTo" "[I") (List.mem_of_getElem? (i := 9) rfl)) (fun _ h9 => h9) rfl dX7_drawn_103 ?_
          refine lv_iload_n hx hb dX7_drawn_106 rfl (lv_at hl 3 rfl) ?_
          obtain ⟨v_5, ev_5, hiv_5, h⟩ := mk_rdE h
          refine va_iald hx hb hK hP 5 0 rfl rfl hiv_5 dX7_drawn_107 ?_
          refine mk_topi ev_5 ?_
          refine lv_ishl hx hb dX7_drawn_108 ?_
          refine lv_goto (tgt := 113) hx hb dX7_drawn_109 (by decide) ?_
          refine lv_ior hx hb dX7_drawn_113 ?_
          refine lv_istore_n (lv' := [(1, .int (x1 ||| ((1 : Int32) <<< (v_5 &&& 31)))), (0, .ref (a0 0)), (2, .int x2), (3, .int x3)]) hx hb dX7_drawn_114 rfl hl (by decide) rfl (fun ls hl => ?_)
          refine lv_iinc (v := (x3 + (1 : Int32))) (lv' := [(3, .int (x3 + (1 : Int32))), (1, .int (x1 ||| ((1 : Int32) <<< (v_5 &&& 31)))), (0, .ref (a0 0)), (2, .int x2)]) hx hb dX7_drawn_115 hl (k := 3) rfl rfl (by decide) rfl (fun ls hl => ?_)
          refine lv_goto (tgt := 79) hx hb dX7_drawn_118 (by decide) ?_
          exact ih79 (x1 ||| ((1 : Int32) <<< (v_5 &&& 31))) (x3 + (1 : Int32)) h H locs ls hP hD hS (lv_sub hl [2, 1, 3, 0] rfl)
    unfold g_X7_drawn_72 at h
    refine lv_iload_n hx hb dX7_drawn_72 rfl (lv_at hl 2 rfl) ?_
    refine lv_iconst (v := (4 : Int32)) hx hb dX7_drawn_73 (by decide) ?_
    refine lv_icmp_ge (tgt := 127) hx hb dX7_drawn_74 (by decide) (fun q_6 => ?_) (fun q_6 => ?_)
    · have h := mk_ifp q_6 h
      refine lv_iload_n hx hb dX7_drawn_127 rfl (lv_at hl 1 rfl) ?_
      exact hret _ _ _ _ _ _ h hP hD hS dX7_drawn_128
    · have h := mk_ifn q_6 h
      refine lv_iconst (v := (0 : Int32)) hx hb dX7_drawn_77 (by decide) ?_
      refine lv_istore_n (lv' := [(3, .int (0 : Int32)), (0, .ref (a0 0)), (1, .int x1), (2, .int x2)]) hx hb dX7_drawn_78 rfl hl (by decide) rfl (fun ls hl => ?_)
      exact K79 x1 x2 (0 : Int32) H locs ls hP hD hS (lv_sub hl [1, 2, 3, 0] rfl) h
  have K4 : ∀ (sd : Int64) (x1 : Int32) (x2 : Int32) (H : Heap) (locs : List Loc) (ls : Array Slot), va_P D vwCl (wX7 cI cZ a0 u0 sd) H → va_D A (wX7 cI cZ a0 u0 sd) → va_S A H0 H locs → lv_has ls 4 [(0, .ref (a0 0)), (1, .int x1), (2, .int x2)] → lq3 (g_X7_drawn_4 N u0) N sd x1 x2 = some out → W p l e rm_X7_drawn s m args below meth c H locs 0 0 Q (F0 m 4 ls []) := by
    intro sd x1 x2 H locs ls hP hD hS hl h
    refine lq3_W (Wd := fun sd x1 x2 => ∀ (H : Heap) (locs : List Loc) (ls : Array Slot), va_P D vwCl (wX7 cI cZ a0 u0 sd) H → va_D A (wX7 cI cZ a0 u0 sd) → va_S A H0 H locs → lv_has ls 4 [(0, .ref (a0 0)), (1, .int x1), (2, .int x2)] → W p l e rm_X7_drawn s m args below meth c H locs 0 0 Q (F0 m 4 ls [])) (fun rec4 ih4 sd x1 x2 h H locs ls hP hD hS hl => ?_) N sd x1 x2 h H locs ls hP hD hS hl
    unfold g_X7_drawn_4 at h
    refine lv_iload_n hx hb dX7_drawn_4 rfl (lv_at hl 2 rfl) ?_
    refine lv_aload_n hx hb dX7_drawn_5 rfl (lv_at hl 0 rfl) ?_
    refine va_get (D := D) (ci := 7) (v := .int (u0 0 0)) (C := RX7) (T := TX7) (N := 33) hx hb hts hiX7 hown hK hP 0 rfl rfl 0 (by decide) (hts (.fieldLink RX7 124 "ClockOnceModel" "things" "I") (List.mem_of_getElem? (i := 1) rfl)) (fun _ h9 => h9) rfl dX7_drawn_6 ?_
    refine lv_icmp_ge (tgt := 70) hx hb dX7_drawn_9 (by decide) (fun q_7 => ?_) (fun q_7 => ?_)
    · have h := mk_ifp q_7 h
      refine lv_iconst (v := (0 : Int32)) hx hb dX7_drawn_70 (by decide) ?_
      refine lv_istore_n (lv' := [(2, .int (0 : Int32)), (0, .ref (a0 0)), (1, .int x1)]) hx hb dX7_drawn_71 rfl hl (by decide) rfl (fun ls hl => ?_)
      exact K72 sd x1 (0 : Int32) H locs ls hP hD hS (lv_sub hl [1, 2, 0] rfl) h
    · have h := mk_ifn q_7 h
      refine lv_aload_n hx hb dX7_drawn_12 rfl (lv_at hl 0 rfl) ?_
      refine lv_aload_n hx hb dX7_drawn_13 rfl (lv_at hl 0 rfl) ?_
      refine va_get (D := D) (ci := 7) (v := .long sd) (C := RX7) (T := TX7) (N := 33) hx hb hts hiX7 hown hK hP 0 rfl rfl 29 (by decide) (hts (.fieldLink RX7 242 "ClockOnceModel" "seed" "J") (List.mem_of_getElem? (i := 2) rfl)) (fun _ h9 => h9) rfl dX7_drawn_14 ?_
      refine lv_ldc2 (v := (6364136223846793005 : Int64)) hx hb hown (hts (.constantLong RX7 246 (6364136223846793005)) (List.mem_of_getElem? (i := 3) rfl)) dX7_drawn_17 ?_
      refine lv_lmul hx hb dX7_drawn_20 ?_
      refine lv_ldc2 (v := (1442695040888963407 : Int64)) hx hb hown (hts (.constantLong RX7 248 (1442695040888963407)) (List.mem_of_getElem? (i := 4) rfl)) dX7_drawn_21 ?_
      refine lv_ladd hx hb dX7_drawn_24 ?_
      obtain ⟨y_8, ey_8, h⟩ := mk_nmE h
      refine va_put (D := D) (ci := 7) (v := .long ((sd * (6364136223846793005 : Int64)) + (1442695040888963407 : Int64))) (ty := .long) (C := RX7) (T := TX7) (N := 33) hx hb hts hiX7 tyX7 tyX7_ok nmX7 hown hK hP hD hS 0 rfl rfl 29 (by decide) (hts (.fieldLink RX7 242 "ClockOnceModel" "seed" "J") (List.mem_of_getElem? (i := 2) rfl)) (fun _ h9 => h9) rfl (by decide +kernel) rfl rfl (Nat.le_of_ble_eq_true rfl) dX7_drawn_25 (fun H locs hP hD hS => ?_)
      have hP : va_P D vwCl (wX7 cI cZ a0 u0 y_8) H := by rw [ey_8]; exact hP
      have hD : va_D A (wX7 cI cZ a0 u0 y_8) := by rw [ey_8]; exact hD
      refine lv_iload_n hx hb dX7_drawn_28 rfl (lv_at hl 1 rfl) ?_
      refine lv_aload_n hx hb dX7_drawn_29 rfl (lv_at hl 0 rfl) ?_
      refine va_get (D := D) (ci := 7) (v := .long y_8) (C := RX7) (T := TX7) (N := 33) hx hb hts hiX7 hown hK hP 0 rfl rfl 29 (by decide) (hts (.fieldLink RX7 242 "ClockOnceModel" "seed" "J") (List.mem_of_getElem? (i := 2) rfl)) (fun _ h9 => h9) rfl dX7_drawn_30 ?_
      refine lv_bipush (v := (33 : Int32)) hx hb dX7_drawn_33 (by decide) ?_
      refine lv_lushr (v := ((y_8.toUInt64 >>> ((33 : Int32).toInt64.toUInt64 &&& Int64.toUInt64 63)).toInt64)) hx hb dX7_drawn_35 rfl ?_
      refine lv_ldc2 (v := (10 : Int64)) hx hb hown (hts (.constantLong RX7 250 (10)) (List.mem_of_getElem? (i := 5) rfl)) dX7_drawn_36 ?_
      refine lv_lrem hx hb dX7_drawn_39 (by decide) ?_
      refine lv_aload_n hx hb dX7_drawn_40 rfl (lv_at hl 0 rfl) ?_
      refine va_get (D := D) (ci := 7) (v := .ref (a0 1)) (C := RX7) (T := TX7) (N := 33) hx hb hts hiX7 hown hK hP 0 rfl rfl 3 (by decide) (hts (.fieldLink RX7 7 "ClockOnceModel" "of" "[I") (List.mem_of_getElem? (i := 6) rfl)) (fun _ h9 => h9) rfl dX7_drawn_41 ?_
      refine lv_iconst (v := (5 : Int32)) hx hb dX7_drawn_44 (by decide) ?_
      refine lv_iload_n hx hb dX7_drawn_45 rfl (lv_at hl 2 rfl) ?_
      refine lv_imul hx hb dX7_drawn_46 ?_
      refine lv_iconst (v := (2 : Int32)) hx hb dX7_drawn_47 (by decide) ?_
      refine lv_iadd hx hb dX7_drawn_48 ?_
      obtain ⟨v_9, ev_9, hiv_9, h⟩ := mk_rdE h
      refine va_iald hx hb hK hP 1 0 rfl rfl hiv_9 dX7_drawn_49 ?_
      refine mk_topi ev_9 ?_
      refine lv_i2l (v := (v_9.toInt64)) hx hb dX7_drawn_50 rfl ?_
      refine W.lcmp hx hb dX7_drawn_51 ?_
      refine lv_if_ge (tgt := 61) hx hb dX7_drawn_52 (by decide) (fun q_10 => ?_) (fun q_10 => ?_)
      · have h := mk_ifp q_10 h
        refine lv_iconst (v := (0 : Int32)) hx hb dX7_drawn_61 (by decide) ?_
        refine lv_ior hx hb dX7_drawn_62 ?_
        refine lv_istore_n (lv' := [(1, .int (x1 ||| (0 : Int32))), (0, .ref (a0 0)), (2, .int x2)]) hx hb dX7_drawn_63 rfl hl (by decide) rfl (fun ls hl => ?_)
        refine lv_iinc (v := (x2 + (1 : Int32))) (lv' := [(2, .int (x2 + (1 : Int32))), (1, .int (x1 ||| (0 : Int32))), (0, .ref (a0 0))]) hx hb dX7_drawn_64 hl (k := 2) rfl rfl (by decide) rfl (fun ls hl => ?_)
        refine lv_goto (tgt := 4) hx hb dX7_drawn_67 (by decide) ?_
        exact ih4 y_8 (x1 ||| (0 : Int32)) (x2 + (1 : Int32)) h H locs ls hP hD hS (lv_sub hl [2, 1, 0] rfl)
      · have h := mk_ifn q_10 h
        refine lv_iconst (v := (1 : Int32)) hx hb dX7_drawn_55 (by decide) ?_
        refine lv_iload_n hx hb dX7_drawn_56 rfl (lv_at hl 2 rfl) ?_
        refine lv_ishl hx hb dX7_drawn_57 ?_
        refine lv_goto (tgt := 62) hx hb dX7_drawn_58 (by decide) ?_
        refine lv_ior hx hb dX7_drawn_62 ?_
        refine lv_istore_n (lv' := [(1, .int (x1 ||| ((1 : Int32) <<< (x2 &&& 31)))), (0, .ref (a0 0)), (2, .int x2)]) hx hb dX7_drawn_63 rfl hl (by decide) rfl (fun ls hl => ?_)
        refine lv_iinc (v := (x2 + (1 : Int32))) (lv' := [(2, .int (x2 + (1 : Int32))), (1, .int (x1 ||| ((1 : Int32) <<< (x2 &&& 31)))), (0, .ref (a0 0))]) hx hb dX7_drawn_64 hl (k := 2) rfl rfl (by decide) rfl (fun ls hl => ?_)
        refine lv_goto (tgt := 4) hx hb dX7_drawn_67 (by decide) ?_
        exact ih4 y_8 (x1 ||| ((1 : Int32) <<< (x2 &&& 31))) (x2 + (1 : Int32)) h H locs ls hP hD hS (lv_sub hl [2, 1, 0] rfl)
  unfold f_X7_drawn at h
  refine lv_iconst (v := (0 : Int32)) hx hb dX7_drawn_0 (by decide) ?_
  refine lv_istore_n (lv' := [(1, .int (0 : Int32)), (0, .ref (a0 0))]) hx hb dX7_drawn_1 rfl hl (by decide) rfl (fun ls hl => ?_)
  refine lv_iconst (v := (0 : Int32)) hx hb dX7_drawn_2 (by decide) ?_
  refine lv_istore_n (lv' := [(2, .int (0 : Int32)), (1, .int (0 : Int32)), (0, .ref (a0 0))]) hx hb dX7_drawn_3 rfl hl (by decide) rfl (fun ls hl => ?_)
  exact K4 sd (0 : Int32) (0 : Int32) H locs ls hP hD hS (lv_sub hl [2, 1, 0] rfl) h

abbrev rm_X7_factorial : Room := { frames := 0, cells := 0, slots := 0, locals := 0 }
set_option maxHeartbeats 4000000 in
set_option maxRecDepth 100000 in
theorem c_X7_factorial (l : Launch) (D : va_G) (cI cZ cO : ClassId) (N : Nat) (p0 : Int32) (out : Int32) (h : f_X7_factorial N  p0 = some out) : Met l yX7_factorial wsX7_factorial rm_X7_factorial (va_Pc [.int p0] (fun U => va_P D vwCl [] U.heap ∧ va_K D vwCl (tyA cI cZ cO) U)) (vp_Si (fun r => r = out)) 0 0 (fun _ => False) := by
  refine pm_i (own := RX7) (cc := cX7_factorial) (maxL := 3) (by decide) rfl rfl (Nat.le_of_ble_eq_true rfl) ?_
  intro p e s m args below meth c Q H ls hx hb hml hown hts hP hK hl hret
  have hl : lv_has ls 3 [(0, .int p0)] := hl
  have K4 : ∀ (x0 : Int32) (x1 : Int32) (x2 : Int32) (ls : Array Slot), lv_has ls 3 [(0, .int x0), (1, .int x1), (2, .int x2)] → lq2 (g_X7_factorial_4 N x0) N x1 x2 = some out → W p l e rm_X7_factorial s m args below meth c H [] 0 0 Q (F0 m 4 ls []) := by
    intro x0 x1 x2 ls hl h
    refine lq2_W (Wd := fun x1 x2 => ∀ (ls : Array Slot), lv_has ls 3 [(0, .int x0), (1, .int x1), (2, .int x2)] → W p l e rm_X7_factorial s m args below meth c H [] 0 0 Q (F0 m 4 ls [])) (fun rec4 ih4 x1 x2 h ls hl => ?_) N x1 x2 h ls hl
    unfold g_X7_factorial_4 at h
    refine lv_iload_n hx hb dX7_factorial_4 rfl (lv_at hl 2 rfl) ?_
    refine lv_iload_n hx hb dX7_factorial_5 rfl (lv_at hl 0 rfl) ?_
    refine lv_icmp_gt (tgt := 19) hx hb dX7_factorial_6 (by decide) (fun q_1 => ?_) (fun q_1 => ?_)
    · have h := mk_ifp q_1 h
      refine lv_iload_n hx hb dX7_factorial_19 rfl (lv_at hl 1 rfl) ?_
      exact hret _ _ _ h dX7_factorial_20
    · have h := mk_ifn q_1 h
      refine lv_iload_n hx hb dX7_factorial_9 rfl (lv_at hl 1 rfl) ?_
      refine lv_iload_n hx hb dX7_factorial_10 rfl (lv_at hl 2 rfl) ?_
      refine lv_imul hx hb dX7_factorial_11 ?_
      refine lv_istore_n (lv' := [(1, .int (x1 * x2)), (0, .int x0), (2, .int x2)]) hx hb dX7_factorial_12 rfl hl (by decide) rfl (fun ls hl => ?_)
      refine lv_iinc (v := (x2 + (1 : Int32))) (lv' := [(2, .int (x2 + (1 : Int32))), (1, .int (x1 * x2)), (0, .int x0)]) hx hb dX7_factorial_13 hl (k := 2) rfl rfl (by decide) rfl (fun ls hl => ?_)
      refine lv_goto (tgt := 4) hx hb dX7_factorial_16 (by decide) ?_
      exact ih4 (x1 * x2) (x2 + (1 : Int32)) h ls (lv_sub hl [2, 1, 0] rfl)
  unfold f_X7_factorial at h
  refine lv_iconst (v := (1 : Int32)) hx hb dX7_factorial_0 (by decide) ?_
  refine lv_istore_n (lv' := [(1, .int (1 : Int32)), (0, .int p0)]) hx hb dX7_factorial_1 rfl hl (by decide) rfl (fun ls hl => ?_)
  refine lv_iconst (v := (2 : Int32)) hx hb dX7_factorial_2 (by decide) ?_
  refine lv_istore_n (lv' := [(2, .int (2 : Int32)), (1, .int (1 : Int32)), (0, .int p0)]) hx hb dX7_factorial_3 rfl hl (by decide) rfl (fun ls hl => ?_)
  exact K4 p0 (1 : Int32) (2 : Int32) ls (lv_sub hl [2, 1, 0] rfl) h

abbrev rm_X7_figure : Room := { frames := 1, cells := 0, slots := 0, locals := 25 }
set_option maxRecDepth 20000 in
theorem k_X7_figure_X7_in_73 : GoodIn wsX7_figure (va_wsS RX7 73 yX7_in wsX7_in) := goodIn_r _ [5, 6, 7, 8] rfl (by decide +kernel)
set_option maxHeartbeats 4000000 in
set_option maxRecDepth 100000 in
theorem c_X7_figure (l : Launch) (D : va_G) (cI cZ cO : ClassId) (N : Nat) (a0 : Nat → Nat) (u0 : TU) (sd : Int64) (p1 : Int32) (p2 : Int32) (sz : Nat) (out : Int32 × TU) (h : f_X7_figure N u0 sd p1 p2 = some out) : Met l yX7_figure wsX7_figure rm_X7_figure (va_Pc [.ref (a0 0), .int p1, .int p2] (mk_Pe D vwCl (tyA cI cZ cO) (wX7 cI cZ a0 u0 sd) sz)) (va_Qi (fun r u => (r, u) = out) (mk_Be D vwCl (wX7 cI cZ a0 u0 sd) sz (fun q => (wX7 cI cZ a0 q sd))) (va_A (wX7 cI cZ a0 u0 sd) sz)) 0 0 (va_A (wX7 cI cZ a0 u0 sd) sz) := by
  refine em_i (own := RX7) (cc := cX7_figure) (maxL := 4) (by decide) rfl rfl (Nat.le_of_ble_eq_true rfl) ?_
  intro p e s m args below meth c Q A H0 H locs ls hx hb hml hown hts hP hK hD hS hA hl hret
  have hl : lv_has ls 4 [(0, .ref (a0 0)), (1, .int p1), (2, .int p2)] := hl
  have hiX7 : ∀ w ∈ u_ws RX7 TX7 33, w ∈ wsX7_figure := mk_seg 9 33 rfl
  have K37 : ∀ (u0 : TU) (x1 : Int32) (x2 : Int32) (t0 : Int32) (H : Heap) (locs : List Loc) (ls : Array Slot), va_P D vwCl (wX7 cI cZ a0 u0 sd) H → va_D A (wX7 cI cZ a0 u0 sd) → va_S A H0 H locs → lv_has ls 4 [(0, .ref (a0 0)), (1, .int x1), (2, .int x2)] → g_X7_figure_37 N u0 sd x1 x2 t0 = some out → W p l e rm_X7_figure s m args below meth c H locs 0 0 Q (F0 m 37 ls [.int t0]) := by
    intro u0 x1 x2 t0 H locs ls hP hD hS hl h
    unfold g_X7_figure_37 at h
    refine lv_istore_n (lv' := [(3, .int t0), (0, .ref (a0 0)), (1, .int x1), (2, .int x2)]) hx hb dX7_figure_37 rfl hl (by decide) rfl (fun ls hl => ?_)
    refine lv_iload_n hx hb dX7_figure_38 rfl (lv_at hl 0 rfl) ?_
    refine lv_i2l (v := (t0.toInt64)) hx hb dX7_figure_39 rfl ?_
    refine lv_iload_n hx hb dX7_figure_40 rfl (lv_at hl 2 rfl) ?_
    refine lv_i2l (v := (x1.toInt64)) hx hb dX7_figure_41 rfl ?_
    refine lv_iload_n hx hb dX7_figure_42 rfl (lv_at hl 3 rfl) ?_
    refine lv_i2l (v := (x2.toInt64)) hx hb dX7_figure_43 rfl ?_
    obtain ⟨r_1, er_1, h⟩ := mk_bd h
    refine pc_s (As := [.long (t0.toInt64), .long (x1.toInt64), .long (x2.toInt64)]) (rest := []) ⟨hx, hb, hml, hown, hts⟩ (c_X7_in l D cI cZ cO N (t0.toInt64) (x1.toInt64) (x2.toInt64) r_1 er_1) (va_cwS 3 hts k_X7_figure_X7_in_73 rfl rfl rfl (by decide +kernel) ⟨(Nat.le_of_ble_eq_true rfl), (Nat.le_of_ble_eq_true rfl)⟩) (hP.sub (ws' := []) [] rfl) hK rfl hl.1 rfl (Nat.le_of_ble_eq_true rfl) dX7_figure_44 ⟨Nat.zero_le _, Nat.zero_le _⟩ ?_
    refine lv_if_ne (tgt := 76) hx hb dX7_figure_47 (by decide) (fun q_2 => ?_) (fun q_2 => ?_)
    · have h := mk_ifn q_2 h
      refine lv_aload_n hx hb dX7_figure_76 rfl (lv_at hl 1 rfl) ?_
      refine lv_dup hx hb dX7_figure_77 rfl ?_
      refine va_get (D := D) (ci := 7) (v := .int (u0 0 7)) (C := RX7) (T := TX7) (N := 33) hx hb hts hiX7 hown hK hP 0 rfl rfl 19 (by decide) (hts (.fieldLink RX7 84 "ClockOnceModel" "at" "I") (List.mem_of_getElem? (i := 2) rfl)) (fun _ h9 => h9) rfl dX7_figure_78 ?_
      refine lv_iconst (v := (1 : Int32)) hx hb dX7_figure_81 (by decide) ?_
      refine lv_iadd hx hb dX7_figure_82 ?_
      obtain ⟨w_3, ew_3, h⟩ := mk_nmE h
      refine va_put (D := D) (ci := 7) (v := .int ((u0 0 7) + (1 : Int32))) (ty := .int) (C := RX7) (T := TX7) (N := 33) hx hb hts hiX7 tyX7 tyX7_ok nmX7 hown hK hP hD hS 0 rfl rfl 19 (by decide) (hts (.fieldLink RX7 84 "ClockOnceModel" "at" "I") (List.mem_of_getElem? (i := 2) rfl)) (fun _ h9 => h9) rfl (by decide +kernel) rfl rfl (Nat.le_of_ble_eq_true rfl) dX7_figure_83 (fun H locs hP hD hS => ?_)
      have hP : va_P D vwCl (wX7 cI cZ a0 w_3 sd) H := by rw [ew_3]; exact hP
      have hD : va_D A (wX7 cI cZ a0 w_3 sd) := by rw [ew_3]; exact hD
      refine lv_iload_n hx hb dX7_figure_86 rfl (lv_at hl 0 rfl) ?_
      exact hret _ _ _ _ _ _ h hP hD hS dX7_figure_87
    · have h := mk_ifp q_2 h
      refine lv_aload_n hx hb dX7_figure_50 rfl (lv_at hl 1 rfl) ?_
      refine lv_aload_n hx hb dX7_figure_51 rfl (lv_at hl 1 rfl) ?_
      refine va_get (D := D) (ci := 7) (v := .int (u0 0 8)) (C := RX7) (T := TX7) (N := 33) hx hb hts hiX7 hown hK hP 0 rfl rfl 20 (by decide) (hts (.fieldLink RX7 81 "ClockOnceModel" "faultAt" "I") (List.mem_of_getElem? (i := 1) rfl)) (fun _ h9 => h9) rfl dX7_figure_52 ?_
      refine lv_bipush (v := (-9 : Int32)) hx hb dX7_figure_55 (by decide) ?_
      refine lv_icmp_ne (tgt := 67) hx hb dX7_figure_57 (by decide) (fun q_4 => ?_) (fun q_4 => ?_)
      · have h := mk_ifn q_4 h
        refine lv_aload_n hx hb dX7_figure_67 rfl (lv_at hl 1 rfl) ?_
        refine va_get (D := D) (ci := 7) (v := .int (u0 0 8)) (C := RX7) (T := TX7) (N := 33) hx hb hts hiX7 hown hK hP 0 rfl rfl 20 (by decide) (hts (.fieldLink RX7 81 "ClockOnceModel" "faultAt" "I") (List.mem_of_getElem? (i := 1) rfl)) (fun _ h9 => h9) rfl dX7_figure_68 ?_
        obtain ⟨w_5, ew_5, h⟩ := mk_nmE h
        refine va_put (D := D) (ci := 7) (v := .int (u0 0 8)) (ty := .int) (C := RX7) (T := TX7) (N := 33) hx hb hts hiX7 tyX7 tyX7_ok nmX7 hown hK hP hD hS 0 rfl rfl 20 (by decide) (hts (.fieldLink RX7 81 "ClockOnceModel" "faultAt" "I") (List.mem_of_getElem? (i := 1) rfl)) (fun _ h9 => h9) rfl (by decide +kernel) rfl rfl (Nat.le_of_ble_eq_true rfl) dX7_figure_71 (fun H locs hP hD hS => ?_)
        have hP : va_P D vwCl (wX7 cI cZ a0 w_5 sd) H := by rw [ew_5]; exact hP
        have hD : va_D A (wX7 cI cZ a0 w_5 sd) := by rw [ew_5]; exact hD
        refine lv_iload_n hx hb dX7_figure_74 rfl (lv_at hl 2 rfl) ?_
        exact hret _ _ _ _ _ _ h hP hD hS dX7_figure_75
      · have h := mk_ifp q_4 h
        refine lv_aload_n hx hb dX7_figure_60 rfl (lv_at hl 1 rfl) ?_
        refine va_get (D := D) (ci := 7) (v := .int (u0 0 7)) (C := RX7) (T := TX7) (N := 33) hx hb hts hiX7 hown hK hP 0 rfl rfl 19 (by decide) (hts (.fieldLink RX7 84 "ClockOnceModel" "at" "I") (List.mem_of_getElem? (i := 2) rfl)) (fun _ h9 => h9) rfl dX7_figure_61 ?_
        refine lv_goto (tgt := 71) hx hb dX7_figure_64 (by decide) ?_
        obtain ⟨w_6, ew_6, h⟩ := mk_nmE h
        refine va_put (D := D) (ci := 7) (v := .int (u0 0 7)) (ty := .int) (C := RX7) (T := TX7) (N := 33) hx hb hts hiX7 tyX7 tyX7_ok nmX7 hown hK hP hD hS 0 rfl rfl 20 (by decide) (hts (.fieldLink RX7 81 "ClockOnceModel" "faultAt" "I") (List.mem_of_getElem? (i := 1) rfl)) (fun _ h9 => h9) rfl (by decide +kernel) rfl rfl (Nat.le_of_ble_eq_true rfl) dX7_figure_71 (fun H locs hP hD hS => ?_)
        have hP : va_P D vwCl (wX7 cI cZ a0 w_6 sd) H := by rw [ew_6]; exact hP
        have hD : va_D A (wX7 cI cZ a0 w_6 sd) := by rw [ew_6]; exact hD
        refine lv_iload_n hx hb dX7_figure_74 rfl (lv_at hl 2 rfl) ?_
        exact hret _ _ _ _ _ _ h hP hD hS dX7_figure_75
  unfold f_X7_figure at h
  refine lv_aload_n hx hb dX7_figure_0 rfl (lv_at hl 0 rfl) ?_
  refine va_get (D := D) (ci := 7) (v := .int (u0 0 8)) (C := RX7) (T := TX7) (N := 33) hx hb hts hiX7 hown hK hP 0 rfl rfl 20 (by decide) (hts (.fieldLink RX7 81 "ClockOnceModel" "faultAt" "I") (List.mem_of_getElem? (i := 1) rfl)) (fun _ h9 => h9) rfl dX7_figure_1 ?_
  refine lv_bipush (v := (-9 : Int32)) hx hb dX7_figure_4 (by decide) ?_
  refine lv_icmp_ne (tgt := 35) hx hb dX7_figure_6 (by decide) (fun q_7 => ?_) (fun q_7 => ?_)
  · have h := mk_ifn q_7 h
    refine lv_bipush (v := (-9 : Int32)) hx hb dX7_figure_35 (by decide) ?_
    exact K37 u0 p1 p2 (-9 : Int32) H locs ls hP hD hS (lv_sub hl [0, 1, 2] rfl) h
  · have h := mk_ifp q_7 h
    refine lv_aload_n hx hb dX7_figure_9 rfl (lv_at hl 0 rfl) ?_
    refine va_get (D := D) (ci := 7) (v := .int (u0 0 7)) (C := RX7) (T := TX7) (N := 33) hx hb hts hiX7 hown hK hP 0 rfl rfl 19 (by decide) (hts (.fieldLink RX7 84 "ClockOnceModel" "at" "I") (List.mem_of_getElem? (i := 2) rfl)) (fun _ h9 => h9) rfl dX7_figure_10 ?_
    refine lv_aload_n hx hb dX7_figure_13 rfl (lv_at hl 0 rfl) ?_
    refine va_get (D := D) (ci := 7) (v := .int (u0 0 6)) (C := RX7) (T := TX7) (N := 33) hx hb hts hiX7 hown hK hP 0 rfl rfl 18 (by decide) (hts (.fieldLink RX7 77 "ClockOnceModel" "length" "I") (List.mem_of_getElem? (i := 3) rfl)) (fun _ h9 => h9) rfl dX7_figure_14 ?_
    refine lv_icmp_ge (tgt := 35) hx hb dX7_figure_17 (by decide) (fun q_8 => ?_) (fun q_8 => ?_)
    · have h := mk_ifp q_8 h
      refine lv_bipush (v := (-9 : Int32)) hx hb dX7_figure_35 (by decide) ?_
      exact K37 u0 p1 p2 (-9 : Int32) H locs ls hP hD hS (lv_sub hl [0, 1, 2] rfl) h
    · have h := mk_ifn q_8 h
      refine lv_aload_n hx hb dX7_figure_20 rfl (lv_at hl 0 rfl) ?_
      refine va_get (D := D) (ci := 7) (v := .ref (a0 12)) (C := RX7) (T := TX7) (N := 33) hx hb hts hiX7 hown hK hP 0 rfl rfl 17 (by decide) (hts (.fieldLink RX7 43 "ClockOnceModel" "text" "[I") (List.mem_of_getElem? (i := 4) rfl)) (fun _ h9 => h9) rfl dX7_figure_21 ?_
      refine lv_aload_n hx hb dX7_figure_24 rfl (lv_at hl 0 rfl) ?_
      refine va_get (D := D) (ci := 7) (v := .int (u0 0 7)) (C := RX7) (T := TX7) (N := 33) hx hb hts hiX7 hown hK hP 0 rfl rfl 19 (by decide) (hts (.fieldLink RX7 84 "ClockOnceModel" "at" "I") (List.mem_of_getElem? (i := 2) rfl)) (fun _ h9 => h9) rfl dX7_figure_25 ?_
      obtain ⟨v_9, ev_9, hiv_9, h⟩ := mk_rdE h
      refine va_iald hx hb hK hP 12 0 rfl rfl hiv_9 dX7_figure_28 ?_
      refine mk_topi ev_9 ?_
      refine lv_bipush (v := (48 : Int32)) hx hb dX7_figure_29 (by decide) ?_
      refine lv_isub hx hb dX7_figure_31 ?_
      refine lv_goto (tgt := 37) hx hb dX7_figure_32 (by decide) ?_
      exact K37 u0 p1 p2 (v_9 - (48 : Int32)) H locs ls hP hD hS (lv_sub hl [0, 1, 2] rfl) h

abbrev rm_X7_figureOf : Room := { frames := 1, cells := 0, slots := 0, locals := 25 }
set_option maxRecDepth 20000 in
theorem k_X7_figureOf_X7_in_73 : GoodIn wsX7_figureOf (va_wsS RX7 73 yX7_in wsX7_in) := goodIn_r _ [6, 7, 8, 9] rfl (by decide +kernel)
set_option maxRecDepth 20000 in
theorem k_X7_figureOf_X7_has_89 : GoodIn wsX7_figureOf (va_wsS RX7 89 yX7_has wsX7_has) := goodIn_r _ [10, 11, 8, 12] rfl (by decide +kernel)
set_option maxHeartbeats 4000000 in
set_option maxRecDepth 100000 in
theorem c_X7_figureOf (l : Launch) (D : va_G) (cI cZ cO : ClassId) (N : Nat) (a0 : Nat → Nat) (u0 : TU) (sd : Int64) (p1 : Int32) (sz : Nat) (out : Int32 × TU) (h : f_X7_figureOf N u0 sd p1 = some out) : Met l yX7_figureOf wsX7_figureOf rm_X7_figureOf (va_Pc [.ref (a0 0), .int p1] (mk_Pe D vwCl (tyA cI cZ cO) (wX7 cI cZ a0 u0 sd) sz)) (va_Qi (fun r u => (r, u) = out) (mk_Be D vwCl (wX7 cI cZ a0 u0 sd) sz (fun q => (wX7 cI cZ a0 q sd))) (va_A (wX7 cI cZ a0 u0 sd) sz)) 0 0 (va_A (wX7 cI cZ a0 u0 sd) sz) := by
  refine em_i (own := RX7) (cc := cX7_figureOf) (maxL := 3) (by decide) rfl rfl (Nat.le_of_ble_eq_true rfl) ?_
  intro p e s m args below meth c Q A H0 H locs ls hx hb hml hown hts hP hK hD hS hA hl hret
  have hl : lv_has ls 3 [(0, .ref (a0 0)), (1, .int p1)] := hl
  have hiX7 : ∀ w ∈ u_ws RX7 TX7 33, w ∈ wsX7_figureOf := mk_seg 13 33 rfl
  have K58 : ∀ (u0 : TU) (H : Heap) (locs : List Loc) (ls : Array Slot), va_P D vwCl (wX7 cI cZ a0 u0 sd) H → va_D A (wX7 cI cZ a0 u0 sd) → va_S A H0 H locs → lv_has ls 3 [(0, .ref (a0 0))] → g_X7_figureOf_58 N u0 sd = some out → W p l e rm_X7_figureOf s m args below meth c H locs 0 0 Q (F0 m 58 ls []) := by
    intro u0 H locs ls hP hD hS hl h
    unfold g_X7_figureOf_58 at h
    refine lv_aload_n hx hb dX7_figureOf_58 rfl (lv_at hl 0 rfl) ?_
    refine lv_aload_n hx hb dX7_figureOf_59 rfl (lv_at hl 0 rfl) ?_
    refine va_get (D := D) (ci := 7) (v := .int (u0 0 8)) (C := RX7) (T := TX7) (N := 33) hx hb hts hiX7 hown hK hP 0 rfl rfl 20 (by decide) (hts (.fieldLink RX7 81 "ClockOnceModel" "faultAt" "I") (List.mem_of_getElem? (i := 1) rfl)) (fun _ h9 => h9) rfl dX7_figureOf_60 ?_
    refine lv_bipush (v := (-9 : Int32)) hx hb dX7_figureOf_63 (by decide) ?_
    refine lv_icmp_ne (tgt := 75) hx hb dX7_figureOf_65 (by decide) (fun q_1 => ?_) (fun q_1 => ?_)
    · have h := mk_ifn q_1 h
      refine lv_aload_n hx hb dX7_figureOf_75 rfl (lv_at hl 0 rfl) ?_
      refine va_get (D := D) (ci := 7) (v := .int (u0 0 8)) (C := RX7) (T := TX7) (N := 33) hx hb hts hiX7 hown hK hP 0 rfl rfl 20 (by decide) (hts (.fieldLink RX7 81 "ClockOnceModel" "faultAt" "I") (List.mem_of_getElem? (i := 1) rfl)) (fun _ h9 => h9) rfl dX7_figureOf_76 ?_
      obtain ⟨w_2, ew_2, h⟩ := mk_nmE h
      refine va_put (D := D) (ci := 7) (v := .int (u0 0 8)) (ty := .int) (C := RX7) (T := TX7) (N := 33) hx hb hts hiX7 tyX7 tyX7_ok nmX7 hown hK hP hD hS 0 rfl rfl 20 (by decide) (hts (.fieldLink RX7 81 "ClockOnceModel" "faultAt" "I") (List.mem_of_getElem? (i := 1) rfl)) (fun _ h9 => h9) rfl (by decide +kernel) rfl rfl (Nat.le_of_ble_eq_true rfl) dX7_figureOf_79 (fun H locs hP hD hS => ?_)
      have hP : va_P D vwCl (wX7 cI cZ a0 w_2 sd) H := by rw [ew_2]; exact hP
      have hD : va_D A (wX7 cI cZ a0 w_2 sd) := by rw [ew_2]; exact hD
      refine lv_iconst (v := (0 : Int32)) hx hb dX7_figureOf_82 (by decide) ?_
      exact hret _ _ _ _ _ _ h hP hD hS dX7_figureOf_83
    · have h := mk_ifp q_1 h
      refine lv_aload_n hx hb dX7_figureOf_68 rfl (lv_at hl 0 rfl) ?_
      refine va_get (D := D) (ci := 7) (v := .int (u0 0 7)) (C := RX7) (T := TX7) (N := 33) hx hb hts hiX7 hown hK hP 0 rfl rfl 19 (by decide) (hts (.fieldLink RX7 84 "ClockOnceModel" "at" "I") (List.mem_of_getElem? (i := 2) rfl)) (fun _ h9 => h9) rfl dX7_figureOf_69 ?_
      refine lv_goto (tgt := 79) hx hb dX7_figureOf_72 (by decide) ?_
      obtain ⟨w_3, ew_3, h⟩ := mk_nmE h
      refine va_put (D := D) (ci := 7) (v := .int (u0 0 7)) (ty := .int) (C := RX7) (T := TX7) (N := 33) hx hb hts hiX7 tyX7 tyX7_ok nmX7 hown hK hP hD hS 0 rfl rfl 20 (by decide) (hts (.fieldLink RX7 81 "ClockOnceModel" "faultAt" "I") (List.mem_of_getElem? (i := 1) rfl)) (fun _ h9 => h9) rfl (by decide +kernel) rfl rfl (Nat.le_of_ble_eq_true rfl) dX7_figureOf_79 (fun H locs hP hD hS => ?_)
      have hP : va_P D vwCl (wX7 cI cZ a0 w_3 sd) H := by rw [ew_3]; exact hP
      have hD : va_D A (wX7 cI cZ a0 w_3 sd) := by rw [ew_3]; exact hD
      refine lv_iconst (v := (0 : Int32)) hx hb dX7_figureOf_82 (by decide) ?_
      exact hret _ _ _ _ _ _ h hP hD hS dX7_figureOf_83
  have K37 : ∀ (u0 : TU) (x1 : Int32) (t0 : Int32) (H : Heap) (locs : List Loc) (ls : Array Slot), va_P D vwCl (wX7 cI cZ a0 u0 sd) H → va_D A (wX7 cI cZ a0 u0 sd) → va_S A H0 H locs → lv_has ls 3 [(0, .ref (a0 0)), (1, .int x1)] → g_X7_figureOf_37 N u0 sd x1 t0 = some out → W p l e rm_X7_figureOf s m args below meth c H locs 0 0 Q (F0 m 37 ls [.int t0]) := by
    intro u0 x1 t0 H locs ls hP hD hS hl h
    unfold g_X7_figureOf_37 at h
    refine lv_istore_n (lv' := [(2, .int t0), (0, .ref (a0 0)), (1, .int x1)]) hx hb dX7_figureOf_37 rfl hl (by decide) rfl (fun ls hl => ?_)
    refine lv_iload_n hx hb dX7_figureOf_38 rfl (lv_at hl 0 rfl) ?_
    refine lv_i2l (v := (t0.toInt64)) hx hb dX7_figureOf_39 rfl ?_
    refine lv_lconst (v := (0 : Int64)) hx hb dX7_figureOf_40 (by decide) ?_
    refine lv_ldc2 (v := (9 : Int64)) hx hb hown (hts (.constantLong RX7 87 (9)) (List.mem_of_getElem? (i := 5) rfl)) dX7_figureOf_41 ?_
    obtain ⟨r_4, er_4, h⟩ := mk_bd h
    refine pc_s (As := [.long (t0.toInt64), .long (0 : Int64), .long (9 : Int64)]) (rest := []) ⟨hx, hb, hml, hown, hts⟩ (c_X7_in l D cI cZ cO N (t0.toInt64) (0 : Int64) (9 : Int64) r_4 er_4) (va_cwS 3 hts k_X7_figureOf_X7_in_73 rfl rfl rfl (by decide +kernel) ⟨(Nat.le_of_ble_eq_true rfl), (Nat.le_of_ble_eq_true rfl)⟩) (hP.sub (ws' := []) [] rfl) hK rfl hl.1 rfl (Nat.le_of_ble_eq_true rfl) dX7_figureOf_44 ⟨Nat.zero_le _, Nat.zero_le _⟩ ?_
    refine lv_if_eq (tgt := 58) hx hb dX7_figureOf_47 (by decide) (fun q_5 => ?_) (fun q_5 => ?_)
    · have h := mk_ifp q_5 h
      exact K58 u0 H locs ls hP hD hS (lv_sub hl [1] rfl) h
    · have h := mk_ifn q_5 h
      refine lv_iload_n hx hb dX7_figureOf_50 rfl (lv_at hl 2 rfl) ?_
      refine lv_iload_n hx hb dX7_figureOf_51 rfl (lv_at hl 0 rfl) ?_
      obtain ⟨r_6, er_6, h⟩ := mk_bd h
      refine pc_s (As := [.int x1, .int t0]) (rest := []) ⟨hx, hb, hml, hown, hts⟩ (c_X7_has l D cI cZ cO N x1 t0 r_6 er_6) (va_cwS 2 hts k_X7_figureOf_X7_has_89 rfl rfl rfl (by decide +kernel) ⟨(Nat.le_of_ble_eq_true rfl), (Nat.le_of_ble_eq_true rfl)⟩) (hP.sub (ws' := []) [] rfl) hK rfl hl.1 rfl (Nat.le_of_ble_eq_true rfl) dX7_figureOf_52 ⟨Nat.zero_le _, Nat.zero_le _⟩ ?_
      refine lv_if_ne (tgt := 84) hx hb dX7_figureOf_55 (by decide) (fun q_7 => ?_) (fun q_7 => ?_)
      · have h := mk_ifn q_7 h
        refine lv_aload_n hx hb dX7_figureOf_84 rfl (lv_at hl 1 rfl) ?_
        refine lv_dup hx hb dX7_figureOf_85 rfl ?_
        refine va_get (D := D) (ci := 7) (v := .int (u0 0 7)) (C := RX7) (T := TX7) (N := 33) hx hb hts hiX7 hown hK hP 0 rfl rfl 19 (by decide) (hts (.fieldLink RX7 84 "ClockOnceModel" "at" "I") (List.mem_of_getElem? (i := 2) rfl)) (fun _ h9 => h9) rfl dX7_figureOf_86 ?_
        refine lv_iconst (v := (1 : Int32)) hx hb dX7_figureOf_89 (by decide) ?_
        refine lv_iadd hx hb dX7_figureOf_90 ?_
        obtain ⟨w_8, ew_8, h⟩ := mk_nmE h
        refine va_put (D := D) (ci := 7) (v := .int ((u0 0 7) + (1 : Int32))) (ty := .int) (C := RX7) (T := TX7) (N := 33) hx hb hts hiX7 tyX7 tyX7_ok nmX7 hown hK hP hD hS 0 rfl rfl 19 (by decide) (hts (.fieldLink RX7 84 "ClockOnceModel" "at" "I") (List.mem_of_getElem? (i := 2) rfl)) (fun _ h9 => h9) rfl (by decide +kernel) rfl rfl (Nat.le_of_ble_eq_true rfl) dX7_figureOf_91 (fun H locs hP hD hS => ?_)
        have hP : va_P D vwCl (wX7 cI cZ a0 w_8 sd) H := by rw [ew_8]; exact hP
        have hD : va_D A (wX7 cI cZ a0 w_8 sd) := by rw [ew_8]; exact hD
        refine lv_iload_n hx hb dX7_figureOf_94 rfl (lv_at hl 0 rfl) ?_
        exact hret _ _ _ _ _ _ h hP hD hS dX7_figureOf_95
      · have h := mk_ifp q_7 h
        exact K58 u0 H locs ls hP hD hS (lv_sub hl [1] rfl) h
  unfold f_X7_figureOf at h
  refine lv_aload_n hx hb dX7_figureOf_0 rfl (lv_at hl 0 rfl) ?_
  refine va_get (D := D) (ci := 7) (v := .int (u0 0 8)) (C := RX7) (T := TX7) (N := 33) hx hb hts hiX7 hown hK hP 0 rfl rfl 20 (by decide) (hts (.fieldLink RX7 81 "ClockOnceModel" "faultAt" "I") (List.mem_of_getElem? (i := 1) rfl)) (fun _ h9 => h9) rfl dX7_figureOf_1 ?_
  refine lv_bipush (v := (-9 : Int32)) hx hb dX7_figureOf_4 (by decide) ?_
  refine lv_icmp_ne (tgt := 35) hx hb dX7_figureOf_6 (by decide) (fun q_9 => ?_) (fun q_9 => ?_)
  · have h := mk_ifn q_9 h
    refine lv_bipush (v := (-9 : Int32)) hx hb dX7_figureOf_35 (by decide) ?_
    exact K37 u0 p1 (-9 : Int32) H locs ls hP hD hS (lv_sub hl [0, 1] rfl) h
  · have h := mk_ifp q_9 h
    refine lv_aload_n hx hb dX7_figureOf_9 rfl (lv_at hl 0 rfl) ?_
    refine va_get (D := D) (ci := 7) (v := .int (u0 0 7)) (C := RX7) (T := TX7) (N := 33) hx hb hts hiX7 hown hK hP 0 rfl rfl 19 (by decide) (hts (.fieldLink RX7 84 "ClockOnceModel" "at" "I") (List.mem_of_getElem? (i := 2) rfl)) (fun _ h9 => h9) rfl dX7_figureOf_10 ?_
    refine lv_aload_n hx hb dX7_figureOf_13 rfl (lv_at hl 0 rfl) ?_
    refine va_get (D := D) (ci := 7) (v := .int (u0 0 6)) (C := RX7) (T := TX7) (N := 33) hx hb hts hiX7 hown hK hP 0 rfl rfl 18 (by decide) (hts (.fieldLink RX7 77 "ClockOnceModel" "length" "I") (List.mem_of_getElem? (i := 3) rfl)) (fun _ h9 => h9) rfl dX7_figureOf_14 ?_
    refine lv_icmp_ge (tgt := 35) hx hb dX7_figureOf_17 (by decide) (fun q_10 => ?_) (fun q_10 => ?_)
    · have h := mk_ifp q_10 h
      refine lv_bipush (v := (-9 : Int32)) hx hb dX7_figureOf_35 (by decide) ?_
      exact K37 u0 p1 (-9 : Int32) H locs ls hP hD hS (lv_sub hl [0, 1] rfl) h
    · have h := mk_ifn q_10 h
      refine lv_aload_n hx hb dX7_figureOf_20 rfl (lv_at hl 0 rfl) ?_
      refine va_get (D := D) (ci := 7) (v := .ref (a0 12)) (C := RX7) (T := TX7) (N := 33) hx hb hts hiX7 hown hK hP 0 rfl rfl 17 (by decide) (hts (.fieldLink RX7 43 "ClockOnceModel" "text" "[I") (List.mem_of_getElem? (i := 4) rfl)) (fun _ h9 => h9) rfl dX7_figureOf_21 ?_
      refine lv_aload_n hx hb dX7_figureOf_24 rfl (lv_at hl 0 rfl) ?_
      refine va_get (D := D) (ci := 7) (v := .int (u0 0 7)) (C := RX7) (T := TX7) (N := 33) hx hb hts hiX7 hown hK hP 0 rfl rfl 19 (by decide) (hts (.fieldLink RX7 84 "ClockOnceModel" "at" "I") (List.mem_of_getElem? (i := 2) rfl)) (fun _ h9 => h9) rfl dX7_figureOf_25 ?_
      obtain ⟨v_11, ev_11, hiv_11, h⟩ := mk_rdE h
      refine va_iald hx hb hK hP 12 0 rfl rfl hiv_11 dX7_figureOf_28 ?_
      refine mk_topi ev_11 ?_
      refine lv_bipush (v := (48 : Int32)) hx hb dX7_figureOf_29 (by decide) ?_
      refine lv_isub hx hb dX7_figureOf_31 ?_
      refine lv_goto (tgt := 37) hx hb dX7_figureOf_32 (by decide) ?_
      exact K37 u0 p1 (v_11 - (48 : Int32)) H locs ls hP hD hS (lv_sub hl [0, 1] rfl) h

abbrev rm_X7_readPart : Room := { frames := 2, cells := 0, slots := 0, locals := 48 }
set_option maxRecDepth 20000 in
theorem k_X7_readPart_X7_begins_114 : GoodIn wsX7_readPart (wsV RX7 114 RX7 yX7_begins wsX7_begins) := goodIn_r _ [21, 22, 23, 14, 24, 1, 25, 26, 27, 14, 28, 3, 7, 8, 9, 37, 38, 39, 40, 41, 42, 43, 44, 45, 46, 47, 48, 49, 50, 51, 52, 53, 54, 55, 56, 57, 58, 59, 60, 61, 62, 63, 64, 65, 66, 67, 68, 69] rfl (by decide +kernel)
set_option maxRecDepth 20000 in
theorem k_X7_readPart_X7_figureOf_118 : GoodIn wsX7_readPart (wsV RX7 118 RX7 yX7_figureOf wsX7_figureOf) := goodIn_r _ [29, 30, 31, 14, 32, 10, 2, 16, 17, 33, 18, 19, 14, 20, 34, 35, 36, 37, 38, 39, 40, 41, 42, 43, 44, 45, 46, 47, 48, 49, 50, 51, 52, 53, 54, 55, 56, 57, 58, 59, 60, 61, 62, 63, 64, 65, 66, 67, 68, 69] rfl (by decide +kernel)
set_option maxRecDepth 20000 in
theorem k_X7_readPart_X7_mayLink_99 : GoodIn wsX7_readPart (wsV RX7 99 RX7 yX7_mayLink wsX7_mayLink) := goodIn_r _ [25, 26, 27, 14, 28, 1, 3, 7, 8, 9, 37, 38, 39, 40, 41, 42, 43, 44, 45, 46, 47, 48, 49, 50, 51, 52, 53, 54, 55, 56, 57, 58, 59, 60, 61, 62, 63, 64, 65, 66, 67, 68, 69] rfl (by decide +kernel)
set_option maxRecDepth 20000 in
theorem k_X7_readPart_X7_figure_110 : GoodIn wsX7_readPart (wsV RX7 110 RX7 yX7_figure wsX7_figure) := goodIn_r _ [11, 12, 13, 14, 15, 10, 2, 16, 17, 18, 19, 14, 20, 37, 38, 39, 40, 41, 42, 43, 44, 45, 46, 47, 48, 49, 50, 51, 52, 53, 54, 55, 56, 57, 58, 59, 60, 61, 62, 63, 64, 65, 66, 67, 68, 69] rfl (by decide +kernel)
set_option maxHeartbeats 4000000 in
set_option maxRecDepth 100000 in
theorem c_X7_readPart (l : Launch) (D : va_G) (cI cZ cO : ClassId) (N : Nat) (a0 : Nat → Nat) (u0 : TU) (sd : Int64) (p1 : Int32) (sz : Nat) (out : TU) (h : f_X7_readPart N u0 sd p1 = some out) : Met l yX7_readPart wsX7_readPart rm_X7_readPart (va_Pc [.ref (a0 0), .int p1] (mk_Pe D vwCl (tyA cI cZ cO) (wX7 cI cZ a0 u0 sd) sz)) (va_Qv (fun u => u = out) (mk_Be D vwCl (wX7 cI cZ a0 u0 sd) sz (fun q => (wX7 cI cZ a0 q sd))) (va_A (wX7 cI cZ a0 u0 sd) sz)) 0 0 (va_A (wX7 cI cZ a0 u0 sd) sz) := by
  refine em_v (own := RX7) (cc := cX7_readPart) (maxL := 4) (by decide) rfl rfl (Nat.le_of_ble_eq_true rfl) ?_
  intro p e s m args below meth c Q A H0 H locs ls hx hb hml hown hts hP hK hD hS hA hl hret
  have hl : lv_has ls 4 [(0, .ref (a0 0)), (1, .int p1)] := hl
  have hiX7 : ∀ w ∈ u_ws RX7 TX7 33, w ∈ wsX7_readPart := mk_seg 37 33 rfl
  have K298 : ∀ (u0 : TU) (H : Heap) (locs : List Loc) (ls : Array Slot), va_P D vwCl (wX7 cI cZ a0 u0 sd) H → va_D A (wX7 cI cZ a0 u0 sd) → va_S A H0 H locs → lv_has ls 4 [(0, .ref (a0 0))] → g_X7_readPart_298 N u0 sd = some out → W p l e rm_X7_readPart s m args below meth c H locs 0 0 Q (F0 m 298 ls []) := by
    intro u0 H locs ls hP hD hS hl h
    unfold g_X7_readPart_298 at h
    refine lv_aload_n hx hb dX7_readPart_298 rfl (lv_at hl 0 rfl) ?_
    refine lv_aload_n hx hb dX7_readPart_299 rfl (lv_at hl 0 rfl) ?_
    refine va_get (D := D) (ci := 7) (v := .int (u0 0 7)) (C := RX7) (T := TX7) (N := 33) hx hb hts hiX7 hown hK hP 0 rfl rfl 19 (by decide) (hts (.fieldLink RX7 84 "ClockOnceModel" "at" "I") (List.mem_of_getElem? (i := 2) rfl)) (fun _ h9 => h9) rfl dX7_readPart_300 ?_
    obtain ⟨w_1, ew_1, h⟩ := mk_nmE h
    refine va_put (D := D) (ci := 7) (v := .int (u0 0 7)) (ty := .int) (C := RX7) (T := TX7) (N := 33) hx hb hts hiX7 tyX7 tyX7_ok nmX7 hown hK hP hD hS 0 rfl rfl 20 (by decide) (hts (.fieldLink RX7 81 "ClockOnceModel" "faultAt" "I") (List.mem_of_getElem? (i := 10) rfl)) (fun _ h9 => h9) rfl (by decide +kernel) rfl rfl (Nat.le_of_ble_eq_true rfl) dX7_readPart_303 (fun H locs hP hD hS => ?_)
    have hP : va_P D vwCl (wX7 cI cZ a0 w_1 sd) H := by rw [ew_1]; exact hP
    have hD : va_D A (wX7 cI cZ a0 w_1 sd) := by rw [ew_1]; exact hD
    exact hret _ _ _ _ _ h hP hD hS dX7_readPart_306
  have K215 : ∀ (u0 : TU) (x1 : Int32) (H : Heap) (locs : List Loc) (ls : Array Slot), va_P D vwCl (wX7 cI cZ a0 u0 sd) H → va_D A (wX7 cI cZ a0 u0 sd) → va_S A H0 H locs → lv_has ls 4 [(0, .ref (a0 0)), (1, .int x1)] → g_X7_readPart_215 N u0 sd x1 = some out → W p l e rm_X7_readPart s m args below meth c H locs 0 0 Q (F0 m 215 ls []) := by
    intro u0 x1 H locs ls hP hD hS hl h
    unfold g_X7_readPart_215 at h
    refine lv_iload_n hx hb dX7_readPart_215 rfl (lv_at hl 1 rfl) ?_
    refine lv_bipush (v := (76 : Int32)) hx hb dX7_readPart_216 (by decide) ?_
    refine lv_icmp_ne (tgt := 298) hx hb dX7_readPart_218 (by decide) (fun q_2 => ?_) (fun q_2 => ?_)
    · have h := mk_ifn q_2 h
      exact K298 u0 H locs ls hP hD hS (lv_sub hl [0] rfl) h
    · have h := mk_ifp q_2 h
      refine lv_aload_n hx hb dX7_readPart_221 rfl (lv_at hl 0 rfl) ?_
      refine va_get (D := D) (ci := 7) (v := .int (u0 0 5)) (C := RX7) (T := TX7) (N := 33) hx hb hts hiX7 hown hK hP 0 rfl rfl 15 (by decide) (hts (.fieldLink RX7 96 "ClockOnceModel" "readLinks" "I") (List.mem_of_getElem? (i := 7) rfl)) (fun _ h9 => h9) rfl dX7_readPart_222 ?_
      refine lv_iconst (v := (3 : Int32)) hx hb dX7_readPart_225 (by decide) ?_
      refine lv_icmp_ge (tgt := 298) hx hb dX7_readPart_226 (by decide) (fun q_3 => ?_) (fun q_3 => ?_)
      · have h := mk_ifp q_3 h
        exact K298 u0 H locs ls hP hD hS (lv_sub hl [0] rfl) h
      · have h := mk_ifn q_3 h
        refine lv_aload_n hx hb dX7_readPart_229 rfl (lv_at hl 0 rfl) ?_
        obtain ⟨r_4, er_4, h⟩ := mk_bd h
        refine pc_v (As := []) (rest := []) ⟨hx, hb, hml, hown, hts⟩ (c_X7_begins l D cI cZ cO N a0 u0 sd r_4 er_4) (cwV 0 hts k_X7_readPart_X7_begins_114 rfl rfl rfl (by decide +kernel) ⟨(Nat.le_of_ble_eq_true rfl), (Nat.le_of_ble_eq_true rfl)⟩) (va_recv hK hP (ci := 7) (q0 := 0) rfl rfl) hP hK rfl hl.1 rfl (Nat.le_of_ble_eq_true rfl) dX7_readPart_230 ⟨Nat.zero_le _, Nat.zero_le _⟩ ?_
        refine lv_if_eq (tgt := 298) hx hb dX7_readPart_233 (by decide) (fun q_5 => ?_) (fun q_5 => ?_)
        · have h := mk_ifp q_5 h
          exact K298 u0 H locs ls hP hD hS (lv_sub hl [0] rfl) h
        · have h := mk_ifn q_5 h
          refine lv_aload_n hx hb dX7_readPart_236 rfl (lv_at hl 0 rfl) ?_
          refine lv_dup hx hb dX7_readPart_237 rfl ?_
          refine va_get (D := D) (ci := 7) (v := .int (u0 0 7)) (C := RX7) (T := TX7) (N := 33) hx hb hts hiX7 hown hK hP 0 rfl rfl 19 (by decide) (hts (.fieldLink RX7 84 "ClockOnceModel" "at" "I") (List.mem_of_getElem? (i := 2) rfl)) (fun _ h9 => h9) rfl dX7_readPart_238 ?_
          refine lv_iconst (v := (1 : Int32)) hx hb dX7_readPart_241 (by decide) ?_
          refine lv_iadd hx hb dX7_readPart_242 ?_
          obtain ⟨w_6, ew_6, h⟩ := mk_nmE h
          refine va_put (D := D) (ci := 7) (v := .int ((u0 0 7) + (1 : Int32))) (ty := .int) (C := RX7) (T := TX7) (N := 33) hx hb hts hiX7 tyX7 tyX7_ok nmX7 hown hK hP hD hS 0 rfl rfl 19 (by decide) (hts (.fieldLink RX7 84 "ClockOnceModel" "at" "I") (List.mem_of_getElem? (i := 2) rfl)) (fun _ h9 => h9) rfl (by decide +kernel) rfl rfl (Nat.le_of_ble_eq_true rfl) dX7_readPart_243 (fun H locs hP hD hS => ?_)
          have hP : va_P D vwCl (wX7 cI cZ a0 w_6 sd) H := by rw [ew_6]; exact hP
          have hD : va_D A (wX7 cI cZ a0 w_6 sd) := by rw [ew_6]; exact hD
          refine lv_aload_n hx hb dX7_readPart_246 rfl (lv_at hl 0 rfl) ?_
          refine lv_aload_n hx hb dX7_readPart_247 rfl (lv_at hl 0 rfl) ?_
          obtain ⟨r_7, er_7, h⟩ := mk_bd h
          refine pc_v (As := []) (rest := [.ref (a0 0)]) ⟨hx, hb, hml, hown, hts⟩ (c_X7_begins l D cI cZ cO N a0 w_6 sd r_7 er_7) (cwV 0 hts k_X7_readPart_X7_begins_114 rfl rfl rfl (by decide +kernel) ⟨(Nat.le_of_ble_eq_true rfl), (Nat.le_of_ble_eq_true rfl)⟩) (va_recv hK hP (ci := 7) (q0 := 0) rfl rfl) hP hK rfl hl.1 rfl (Nat.le_of_ble_eq_true rfl) dX7_readPart_248 ⟨Nat.zero_le _, Nat.zero_le _⟩ ?_
          obtain ⟨r_8, er_8, h⟩ := mk_bd h
          refine es_vi (As := [.int r_7]) (rest := []) (w' := (wX7 cI cZ a0 r_8.2 sd)) ⟨hx, hb, hml, hown, hts⟩ (c_X7_figureOf l D cI cZ cO N a0 w_6 sd r_7 H.size r_8 er_8) (cwV 1 hts k_X7_readPart_X7_figureOf_118 rfl rfl rfl (by decide +kernel) ⟨(Nat.le_of_ble_eq_true rfl), (Nat.le_of_ble_eq_true rfl)⟩) (va_recv hK hP (ci := 7) (q0 := 0) rfl rfl) hK hP hD hS hA rfl rfl hl.1 rfl (Nat.le_of_ble_eq_true rfl) dX7_readPart_251 ⟨Nat.zero_le _, Nat.zero_le _⟩ (fun H locs hP hD hS => ?_)
          refine lv_istore_n (lv' := [(2, .int r_8.1), (0, .ref (a0 0)), (1, .int x1)]) hx hb dX7_readPart_254 rfl hl (by decide) rfl (fun ls hl => ?_)
          refine lv_aload_n hx hb dX7_readPart_255 rfl (lv_at hl 1 rfl) ?_
          refine lv_aload_n hx hb dX7_readPart_256 rfl (lv_at hl 1 rfl) ?_
          refine lv_iload_n hx hb dX7_readPart_257 rfl (lv_at hl 0 rfl) ?_
          obtain ⟨r_9, er_9, h⟩ := mk_bd h
          refine pc_v (As := [.int r_8.1]) (rest := [.ref (a0 0)]) ⟨hx, hb, hml, hown, hts⟩ (c_X7_mayLink l D cI cZ cO N a0 r_8.2 sd r_8.1 r_9 er_9) (cwV 1 hts k_X7_readPart_X7_mayLink_99 rfl rfl rfl (by decide +kernel) ⟨(Nat.le_of_ble_eq_true rfl), (Nat.le_of_ble_eq_true rfl)⟩) (va_recv hK hP (ci := 7) (q0 := 0) rfl rfl) hP hK rfl hl.1 rfl (Nat.le_of_ble_eq_true rfl) dX7_readPart_258 ⟨Nat.zero_le _, Nat.zero_le _⟩ ?_
          obtain ⟨r_10, er_10, h⟩ := mk_bd h
          refine es_vi (As := [.int r_9]) (rest := []) (w' := (wX7 cI cZ a0 r_10.2 sd)) ⟨hx, hb, hml, hown, hts⟩ (c_X7_figureOf l D cI cZ cO N a0 r_8.2 sd r_9 H.size r_10 er_10) (cwV 1 hts k_X7_readPart_X7_figureOf_118 rfl rfl rfl (by decide +kernel) ⟨(Nat.le_of_ble_eq_true rfl), (Nat.le_of_ble_eq_true rfl)⟩) (va_recv hK hP (ci := 7) (q0 := 0) rfl rfl) hK hP hD hS hA rfl rfl hl.1 rfl (Nat.le_of_ble_eq_true rfl) dX7_readPart_261 ⟨Nat.zero_le _, Nat.zero_le _⟩ (fun H locs hP hD hS => ?_)
          refine lv_istore_n (lv' := [(3, .int r_10.1), (2, .int r_8.1), (0, .ref (a0 0)), (1, .int x1)]) hx hb dX7_readPart_264 rfl hl (by decide) rfl (fun ls hl => ?_)
          refine lv_aload_n hx hb dX7_readPart_265 rfl (lv_at hl 2 rfl) ?_
          refine va_get (D := D) (ci := 7) (v := .ref (a0 9)) (C := RX7) (T := TX7) (N := 33) hx hb hts hiX7 hown hK hP 0 rfl rfl 11 (by decide) (hts (.fieldLink RX7 34 "ClockOnceModel" "readLinkOf" "[I") (List.mem_of_getElem? (i := 8) rfl)) (fun _ h9 => h9) rfl dX7_readPart_266 ?_
          refine lv_aload_n hx hb dX7_readPart_269 rfl (lv_at hl 2 rfl) ?_
          refine va_get (D := D) (ci := 7) (v := .int (r_10.2 0 5)) (C := RX7) (T := TX7) (N := 33) hx hb hts hiX7 hown hK hP 0 rfl rfl 15 (by decide) (hts (.fieldLink RX7 96 "ClockOnceModel" "readLinks" "I") (List.mem_of_getElem? (i := 7) rfl)) (fun _ h9 => h9) rfl dX7_readPart_270 ?_
          refine lv_iload_n hx hb dX7_readPart_273 rfl (lv_at hl 1 rfl) ?_
          obtain ⟨hx_11, h⟩ := mk_ixE h
          obtain ⟨w_12, ew_12, h⟩ := mk_nmE h
          refine va_iast hx hb hK hP hD hS 9 0 rfl rfl hx_11 dX7_readPart_274 (fun H locs hP hD hS => ?_)
          have hP : va_P D vwCl (wX7 cI cZ a0 w_12 sd) H := by rw [ew_12]; exact hP
          have hD : va_D A (wX7 cI cZ a0 w_12 sd) := by rw [ew_12]; exact hD
          refine lv_aload_n hx hb dX7_readPart_275 rfl (lv_at hl 2 rfl) ?_
          refine va_get (D := D) (ci := 7) (v := .ref (a0 10)) (C := RX7) (T := TX7) (N := 33) hx hb hts hiX7 hown hK hP 0 rfl rfl 12 (by decide) (hts (.fieldLink RX7 37 "ClockOnceModel" "readLinkTo" "[I") (List.mem_of_getElem? (i := 9) rfl)) (fun _ h9 => h9) rfl dX7_readPart_276 ?_
          refine lv_aload_n hx hb dX7_readPart_279 rfl (lv_at hl 2 rfl) ?_
          refine va_get (D := D) (ci := 7) (v := .int (w_12 0 5)) (C := RX7) (T := TX7) (N := 33) hx hb hts hiX7 hown hK hP 0 rfl rfl 15 (by decide) (hts (.fieldLink RX7 96 "ClockOnceModel" "readLinks" "I") (List.mem_of_getElem? (i := 7) rfl)) (fun _ h9 => h9) rfl dX7_readPart_280 ?_
          refine lv_iload_n hx hb dX7_readPart_283 rfl (lv_at hl 0 rfl) ?_
          obtain ⟨hx_13, h⟩ := mk_ixE h
          obtain ⟨w_14, ew_14, h⟩ := mk_nmE h
          refine va_iast hx hb hK hP hD hS 10 0 rfl rfl hx_13 dX7_readPart_284 (fun H locs hP hD hS => ?_)
          have hP : va_P D vwCl (wX7 cI cZ a0 w_14 sd) H := by rw [ew_14]; exact hP
          have hD : va_D A (wX7 cI cZ a0 w_14 sd) := by rw [ew_14]; exact hD
          refine lv_aload_n hx hb dX7_readPart_285 rfl (lv_at hl 2 rfl) ?_
          refine lv_dup hx hb dX7_readPart_286 rfl ?_
          refine va_get (D := D) (ci := 7) (v := .int (w_14 0 5)) (C := RX7) (T := TX7) (N := 33) hx hb hts hiX7 hown hK hP 0 rfl rfl 15 (by decide) (hts (.fieldLink RX7 96 "ClockOnceModel" "readLinks" "I") (List.mem_of_getElem? (i := 7) rfl)) (fun _ h9 => h9) rfl dX7_readPart_287 ?_
          refine lv_iconst (v := (1 : Int32)) hx hb dX7_readPart_290 (by decide) ?_
          refine lv_iadd hx hb dX7_readPart_291 ?_
          obtain ⟨w_15, ew_15, h⟩ := mk_nmE h
          refine va_put (D := D) (ci := 7) (v := .int ((w_14 0 5) + (1 : Int32))) (ty := .int) (C := RX7) (T := TX7) (N := 33) hx hb hts hiX7 tyX7 tyX7_ok nmX7 hown hK hP hD hS 0 rfl rfl 15 (by decide) (hts (.fieldLink RX7 96 "ClockOnceModel" "readLinks" "I") (List.mem_of_getElem? (i := 7) rfl)) (fun _ h9 => h9) rfl (by decide +kernel) rfl rfl (Nat.le_of_ble_eq_true rfl) dX7_readPart_292 (fun H locs hP hD hS => ?_)
          have hP : va_P D vwCl (wX7 cI cZ a0 w_15 sd) H := by rw [ew_15]; exact hP
          have hD : va_D A (wX7 cI cZ a0 w_15 sd) := by rw [ew_15]; exact hD
          refine lv_goto (tgt := 306) hx hb dX7_readPart_295 (by decide) ?_
          exact hret _ _ _ _ _ h hP hD hS dX7_readPart_306
  have K123 : ∀ (u0 : TU) (x1 : Int32) (H : Heap) (locs : List Loc) (ls : Array Slot), va_P D vwCl (wX7 cI cZ a0 u0 sd) H → va_D A (wX7 cI cZ a0 u0 sd) → va_S A H0 H locs → lv_has ls 4 [(0, .ref (a0 0)), (1, .int x1)] → g_X7_readPart_123 N u0 sd x1 = some out → W p l e rm_X7_readPart s m args below meth c H locs 0 0 Q (F0 m 123 ls []) := by
    intro u0 x1 H locs ls hP hD hS hl h
    unfold g_X7_readPart_123 at h
    refine lv_iload_n hx hb dX7_readPart_123 rfl (lv_at hl 1 rfl) ?_
    refine lv_bipush (v := (65 : Int32)) hx hb dX7_readPart_124 (by decide) ?_
    refine lv_icmp_ne (tgt := 215) hx hb dX7_readPart_126 (by decide) (fun q_16 => ?_) (fun q_16 => ?_)
    · have h := mk_ifn q_16 h
      exact K215 u0 x1 H locs ls hP hD hS (lv_sub hl [0, 1] rfl) h
    · have h := mk_ifp q_16 h
      refine lv_aload_n hx hb dX7_readPart_129 rfl (lv_at hl 0 rfl) ?_
      refine va_get (D := D) (ci := 7) (v := .int (u0 0 4)) (C := RX7) (T := TX7) (N := 33) hx hb hts hiX7 hown hK hP 0 rfl rfl 14 (by decide) (hts (.fieldLink RX7 103 "ClockOnceModel" "readAskers" "I") (List.mem_of_getElem? (i := 4) rfl)) (fun _ h9 => h9) rfl dX7_readPart_130 ?_
      refine lv_iconst (v := (4 : Int32)) hx hb dX7_readPart_133 (by decide) ?_
      refine lv_icmp_ge (tgt := 215) hx hb dX7_readPart_134 (by decide) (fun q_17 => ?_) (fun q_17 => ?_)
      · have h := mk_ifp q_17 h
        exact K215 u0 x1 H locs ls hP hD hS (lv_sub hl [0, 1] rfl) h
      · have h := mk_ifn q_17 h
        refine lv_aload_n hx hb dX7_readPart_137 rfl (lv_at hl 0 rfl) ?_
        refine va_get (D := D) (ci := 7) (v := .int (u0 0 3)) (C := RX7) (T := TX7) (N := 33) hx hb hts hiX7 hown hK hP 0 rfl rfl 13 (by decide) (hts (.fieldLink RX7 93 "ClockOnceModel" "readThings" "I") (List.mem_of_getElem? (i := 1) rfl)) (fun _ h9 => h9) rfl dX7_readPart_138 ?_
        refine lv_if_le (tgt := 215) hx hb dX7_readPart_141 (by decide) (fun q_18 => ?_) (fun q_18 => ?_)
        · have h := mk_ifp q_18 h
          exact K215 u0 x1 H locs ls hP hD hS (lv_sub hl [0, 1] rfl) h
        · have h := mk_ifn q_18 h
          refine lv_aload_n hx hb dX7_readPart_144 rfl (lv_at hl 0 rfl) ?_
          refine lv_dup hx hb dX7_readPart_145 rfl ?_
          refine va_get (D := D) (ci := 7) (v := .int (u0 0 7)) (C := RX7) (T := TX7) (N := 33) hx hb hts hiX7 hown hK hP 0 rfl rfl 19 (by decide) (hts (.fieldLink RX7 84 "ClockOnceModel" "at" "I") (List.mem_of_getElem? (i := 2) rfl)) (fun _ h9 => h9) rfl dX7_readPart_146 ?_
          refine lv_iconst (v := (1 : Int32)) hx hb dX7_readPart_149 (by decide) ?_
          refine lv_iadd hx hb dX7_readPart_150 ?_
          obtain ⟨w_19, ew_19, h⟩ := mk_nmE h
          refine va_put (D := D) (ci := 7) (v := .int ((u0 0 7) + (1 : Int32))) (ty := .int) (C := RX7) (T := TX7) (N := 33) hx hb hts hiX7 tyX7 tyX7_ok nmX7 hown hK hP hD hS 0 rfl rfl 19 (by decide) (hts (.fieldLink RX7 84 "ClockOnceModel" "at" "I") (List.mem_of_getElem? (i := 2) rfl)) (fun _ h9 => h9) rfl (by decide +kernel) rfl rfl (Nat.le_of_ble_eq_true rfl) dX7_readPart_151 (fun H locs hP hD hS => ?_)
          have hP : va_P D vwCl (wX7 cI cZ a0 w_19 sd) H := by rw [ew_19]; exact hP
          have hD : va_D A (wX7 cI cZ a0 w_19 sd) := by rw [ew_19]; exact hD
          refine lv_aload_n hx hb dX7_readPart_154 rfl (lv_at hl 0 rfl) ?_
          refine va_get (D := D) (ci := 7) (v := .ref (a0 7)) (C := RX7) (T := TX7) (N := 33) hx hb hts hiX7 hown hK hP 0 rfl rfl 9 (by decide) (hts (.fieldLink RX7 28 "ClockOnceModel" "readFrom" "[I") (List.mem_of_getElem? (i := 5) rfl)) (fun _ h9 => h9) rfl dX7_readPart_155 ?_
          refine lv_aload_n hx hb dX7_readPart_158 rfl (lv_at hl 0 rfl) ?_
          refine va_get (D := D) (ci := 7) (v := .int (w_19 0 4)) (C := RX7) (T := TX7) (N := 33) hx hb hts hiX7 hown hK hP 0 rfl rfl 14 (by decide) (hts (.fieldLink RX7 103 "ClockOnceModel" "readAskers" "I") (List.mem_of_getElem? (i := 4) rfl)) (fun _ h9 => h9) rfl dX7_readPart_159 ?_
          refine lv_aload_n hx hb dX7_readPart_162 rfl (lv_at hl 0 rfl) ?_
          refine lv_iconst (v := (0 : Int32)) hx hb dX7_readPart_163 (by decide) ?_
          refine lv_aload_n hx hb dX7_readPart_164 rfl (lv_at hl 0 rfl) ?_
          refine va_get (D := D) (ci := 7) (v := .int (w_19 0 3)) (C := RX7) (T := TX7) (N := 33) hx hb hts hiX7 hown hK hP 0 rfl rfl 13 (by decide) (hts (.fieldLink RX7 93 "ClockOnceModel" "readThings" "I") (List.mem_of_getElem? (i := 1) rfl)) (fun _ h9 => h9) rfl dX7_readPart_165 ?_
          refine lv_iconst (v := (1 : Int32)) hx hb dX7_readPart_168 (by decide) ?_
          refine lv_isub hx hb dX7_readPart_169 ?_
          obtain ⟨r_20, er_20, h⟩ := mk_bd h
          refine es_vi (As := [.int (0 : Int32), .int ((w_19 0 3) - (1 : Int32))]) (rest := [.int (w_19 0 4), .ref (a0 7)]) (w' := (wX7 cI cZ a0 r_20.2 sd)) ⟨hx, hb, hml, hown, hts⟩ (c_X7_figure l D cI cZ cO N a0 w_19 sd (0 : Int32) ((w_19 0 3) - (1 : Int32)) H.size r_20 er_20) (cwV 2 hts k_X7_readPart_X7_figure_110 rfl rfl rfl (by decide +kernel) ⟨(Nat.le_of_ble_eq_true rfl), (Nat.le_of_ble_eq_true rfl)⟩) (va_recv hK hP (ci := 7) (q0 := 0) rfl rfl) hK hP hD hS hA rfl rfl hl.1 rfl (Nat.le_of_ble_eq_true rfl) dX7_readPart_170 ⟨Nat.zero_le _, Nat.zero_le _⟩ (fun H locs hP hD hS => ?_)
          obtain ⟨hx_21, h⟩ := mk_ixE h
          obtain ⟨w_22, ew_22, h⟩ := mk_nmE h
          refine va_iast hx hb hK hP hD hS 7 0 rfl rfl hx_21 dX7_readPart_173 (fun H locs hP hD hS => ?_)
          have hP : va_P D vwCl (wX7 cI cZ a0 w_22 sd) H := by rw [ew_22]; exact hP
          have hD : va_D A (wX7 cI cZ a0 w_22 sd) := by rw [ew_22]; exact hD
          refine lv_aload_n hx hb dX7_readPart_174 rfl (lv_at hl 0 rfl) ?_
          refine va_get (D := D) (ci := 7) (v := .ref (a0 8)) (C := RX7) (T := TX7) (N := 33) hx hb hts hiX7 hown hK hP 0 rfl rfl 10 (by decide) (hts (.fieldLink RX7 31 "ClockOnceModel" "readTo" "[I") (List.mem_of_getElem? (i := 6) rfl)) (fun _ h9 => h9) rfl dX7_readPart_175 ?_
          refine lv_aload_n hx hb dX7_readPart_178 rfl (lv_at hl 0 rfl) ?_
          refine va_get (D := D) (ci := 7) (v := .int (w_22 0 4)) (C := RX7) (T := TX7) (N := 33) hx hb hts hiX7 hown hK hP 0 rfl rfl 14 (by decide) (hts (.fieldLink RX7 103 "ClockOnceModel" "readAskers" "I") (List.mem_of_getElem? (i := 4) rfl)) (fun _ h9 => h9) rfl dX7_readPart_179 ?_
          refine lv_aload_n hx hb dX7_readPart_182 rfl (lv_at hl 0 rfl) ?_
          refine lv_aload_n hx hb dX7_readPart_183 rfl (lv_at hl 0 rfl) ?_
          refine va_get (D := D) (ci := 7) (v := .ref (a0 7)) (C := RX7) (T := TX7) (N := 33) hx hb hts hiX7 hown hK hP 0 rfl rfl 9 (by decide) (hts (.fieldLink RX7 28 "ClockOnceModel" "readFrom" "[I") (List.mem_of_getElem? (i := 5) rfl)) (fun _ h9 => h9) rfl dX7_readPart_184 ?_
          refine lv_aload_n hx hb dX7_readPart_187 rfl (lv_at hl 0 rfl) ?_
          refine va_get (D := D) (ci := 7) (v := .int (w_22 0 4)) (C := RX7) (T := TX7) (N := 33) hx hb hts hiX7 hown hK hP 0 rfl rfl 14 (by decide) (hts (.fieldLink RX7 103 "ClockOnceModel" "readAskers" "I") (List.mem_of_getElem? (i := 4) rfl)) (fun _ h9 => h9) rfl dX7_readPart_188 ?_
          obtain ⟨v_23, ev_23, hiv_23, h⟩ := mk_rdE h
          refine va_iald hx hb hK hP 7 0 rfl rfl hiv_23 dX7_readPart_191 ?_
          refine mk_topi ev_23 ?_
          refine lv_aload_n hx hb dX7_readPart_192 rfl (lv_at hl 0 rfl) ?_
          refine va_get (D := D) (ci := 7) (v := .int (w_22 0 3)) (C := RX7) (T := TX7) (N := 33) hx hb hts hiX7 hown hK hP 0 rfl rfl 13 (by decide) (hts (.fieldLink RX7 93 "ClockOnceModel" "readThings" "I") (List.mem_of_getElem? (i := 1) rfl)) (fun _ h9 => h9) rfl dX7_readPart_193 ?_
          refine lv_iconst (v := (1 : Int32)) hx hb dX7_readPart_196 (by decide) ?_
          refine lv_isub hx hb dX7_readPart_197 ?_
          obtain ⟨r_24, er_24, h⟩ := mk_bd h
          refine es_vi (As := [.int v_23, .int ((w_22 0 3) - (1 : Int32))]) (rest := [.int (w_22 0 4), .ref (a0 8)]) (w' := (wX7 cI cZ a0 r_24.2 sd)) ⟨hx, hb, hml, hown, hts⟩ (c_X7_figure l D cI cZ cO N a0 w_22 sd v_23 ((w_22 0 3) - (1 : Int32)) H.size r_24 er_24) (cwV 2 hts k_X7_readPart_X7_figure_110 rfl rfl rfl (by decide +kernel) ⟨(Nat.le_of_ble_eq_true rfl), (Nat.le_of_ble_eq_true rfl)⟩) (va_recv hK hP (ci := 7) (q0 := 0) rfl rfl) hK hP hD hS hA rfl rfl hl.1 rfl (Nat.le_of_ble_eq_true rfl) dX7_readPart_198 ⟨Nat.zero_le _, Nat.zero_le _⟩ (fun H locs hP hD hS => ?_)
          obtain ⟨hx_25, h⟩ := mk_ixE h
          obtain ⟨w_26, ew_26, h⟩ := mk_nmE h
          refine va_iast hx hb hK hP hD hS 8 0 rfl rfl hx_25 dX7_readPart_201 (fun H locs hP hD hS => ?_)
          have hP : va_P D vwCl (wX7 cI cZ a0 w_26 sd) H := by rw [ew_26]; exact hP
          have hD : va_D A (wX7 cI cZ a0 w_26 sd) := by rw [ew_26]; exact hD
          refine lv_aload_n hx hb dX7_readPart_202 rfl (lv_at hl 0 rfl) ?_
          refine lv_dup hx hb dX7_readPart_203 rfl ?_
          refine va_get (D := D) (ci := 7) (v := .int (w_26 0 4)) (C := RX7) (T := TX7) (N := 33) hx hb hts hiX7 hown hK hP 0 rfl rfl 14 (by decide) (hts (.fieldLink RX7 103 "ClockOnceModel" "readAskers" "I") (List.mem_of_getElem? (i := 4) rfl)) (fun _ h9 => h9) rfl dX7_readPart_204 ?_
          refine lv_iconst (v := (1 : Int32)) hx hb dX7_readPart_207 (by decide) ?_
          refine lv_iadd hx hb dX7_readPart_208 ?_
          obtain ⟨w_27, ew_27, h⟩ := mk_nmE h
          refine va_put (D := D) (ci := 7) (v := .int ((w_26 0 4) + (1 : Int32))) (ty := .int) (C := RX7) (T := TX7) (N := 33) hx hb hts hiX7 tyX7 tyX7_ok nmX7 hown hK hP hD hS 0 rfl rfl 14 (by decide) (hts (.fieldLink RX7 103 "ClockOnceModel" "readAskers" "I") (List.mem_of_getElem? (i := 4) rfl)) (fun _ h9 => h9) rfl (by decide +kernel) rfl rfl (Nat.le_of_ble_eq_true rfl) dX7_readPart_209 (fun H locs hP hD hS => ?_)
          have hP : va_P D vwCl (wX7 cI cZ a0 w_27 sd) H := by rw [ew_27]; exact hP
          have hD : va_D A (wX7 cI cZ a0 w_27 sd) := by rw [ew_27]; exact hD
          refine lv_goto (tgt := 306) hx hb dX7_readPart_212 (by decide) ?_
          exact hret _ _ _ _ _ h hP hD hS dX7_readPart_306
  unfold f_X7_readPart at h
  refine lv_iload_n hx hb dX7_readPart_0 rfl (lv_at hl 1 rfl) ?_
  refine lv_bipush (v := (84 : Int32)) hx hb dX7_readPart_1 (by decide) ?_
  refine lv_icmp_ne (tgt := 123) hx hb dX7_readPart_3 (by decide) (fun q_28 => ?_) (fun q_28 => ?_)
  · have h := mk_ifn q_28 h
    exact K123 u0 p1 H locs ls hP hD hS (lv_sub hl [0, 1] rfl) h
  · have h := mk_ifp q_28 h
    refine lv_aload_n hx hb dX7_readPart_6 rfl (lv_at hl 0 rfl) ?_
    refine va_get (D := D) (ci := 7) (v := .int (u0 0 3)) (C := RX7) (T := TX7) (N := 33) hx hb hts hiX7 hown hK hP 0 rfl rfl 13 (by decide) (hts (.fieldLink RX7 93 "ClockOnceModel" "readThings" "I") (List.mem_of_getElem? (i := 1) rfl)) (fun _ h9 => h9) rfl dX7_readPart_7 ?_
    refine lv_iconst (v := (4 : Int32)) hx hb dX7_readPart_10 (by decide) ?_
    refine lv_icmp_ge (tgt := 123) hx hb dX7_readPart_11 (by decide) (fun q_29 => ?_) (fun q_29 => ?_)
    · have h := mk_ifp q_29 h
      exact K123 u0 p1 H locs ls hP hD hS (lv_sub hl [0, 1] rfl) h
    · have h := mk_ifn q_29 h
      refine lv_aload_n hx hb dX7_readPart_14 rfl (lv_at hl 0 rfl) ?_
      refine lv_dup hx hb dX7_readPart_15 rfl ?_
      refine va_get (D := D) (ci := 7) (v := .int (u0 0 7)) (C := RX7) (T := TX7) (N := 33) hx hb hts hiX7 hown hK hP 0 rfl rfl 19 (by decide) (hts (.fieldLink RX7 84 "ClockOnceModel" "at" "I") (List.mem_of_getElem? (i := 2) rfl)) (fun _ h9 => h9) rfl dX7_readPart_16 ?_
      refine lv_iconst (v := (1 : Int32)) hx hb dX7_readPart_19 (by decide) ?_
      refine lv_iadd hx hb dX7_readPart_20 ?_
      obtain ⟨w_30, ew_30, h⟩ := mk_nmE h
      refine va_put (D := D) (ci := 7) (v := .int ((u0 0 7) + (1 : Int32))) (ty := .int) (C := RX7) (T := TX7) (N := 33) hx hb hts hiX7 tyX7 tyX7_ok nmX7 hown hK hP hD hS 0 rfl rfl 19 (by decide) (hts (.fieldLink RX7 84 "ClockOnceModel" "at" "I") (List.mem_of_getElem? (i := 2) rfl)) (fun _ h9 => h9) rfl (by decide +kernel) rfl rfl (Nat.le_of_ble_eq_true rfl) dX7_readPart_21 (fun H locs hP hD hS => ?_)
      have hP : va_P D vwCl (wX7 cI cZ a0 w_30 sd) H := by rw [ew_30]; exact hP
      have hD : va_D A (wX7 cI cZ a0 w_30 sd) := by rw [ew_30]; exact hD
      refine lv_iconst (v := (5 : Int32)) hx hb dX7_readPart_24 (by decide) ?_
      refine lv_aload_n hx hb dX7_readPart_25 rfl (lv_at hl 0 rfl) ?_
      refine va_get (D := D) (ci := 7) (v := .int (w_30 0 3)) (C := RX7) (T := TX7) (N := 33) hx hb hts hiX7 hown hK hP 0 rfl rfl 13 (by decide) (hts (.fieldLink RX7 93 "ClockOnceModel" "readThings" "I") (List.mem_of_getElem? (i := 1) rfl)) (fun _ h9 => h9) rfl dX7_readPart_26 ?_
      refine lv_imul hx hb dX7_readPart_29 ?_
      refine lv_istore_n (lv' := [(2, .int ((5 : Int32) * (w_30 0 3))), (0, .ref (a0 0)), (1, .int p1)]) hx hb dX7_readPart_30 rfl hl (by decide) rfl (fun ls hl => ?_)
      refine lv_aload_n hx hb dX7_readPart_31 rfl (lv_at hl 1 rfl) ?_
      refine va_get (D := D) (ci := 7) (v := .ref (a0 6)) (C := RX7) (T := TX7) (N := 33) hx hb hts hiX7 hown hK hP 0 rfl rfl 8 (by decide) (hts (.fieldLink RX7 25 "ClockOnceModel" "readOf" "[I") (List.mem_of_getElem? (i := 3) rfl)) (fun _ h9 => h9) rfl dX7_readPart_32 ?_
      refine lv_iload_n hx hb dX7_readPart_35 rfl (lv_at hl 0 rfl) ?_
      refine lv_aload_n hx hb dX7_readPart_36 rfl (lv_at hl 1 rfl) ?_
      refine lv_iconst (v := (1 : Int32)) hx hb dX7_readPart_37 (by decide) ?_
      refine lv_bipush (v := (8 : Int32)) hx hb dX7_readPart_38 (by decide) ?_
      obtain ⟨r_31, er_31, h⟩ := mk_bd h
      refine es_vi (As := [.int (1 : Int32), .int (8 : Int32)]) (rest := [.int ((5 : Int32) * (w_30 0 3)), .ref (a0 6)]) (w' := (wX7 cI cZ a0 r_31.2 sd)) ⟨hx, hb, hml, hown, hts⟩ (c_X7_figure l D cI cZ cO N a0 w_30 sd (1 : Int32) (8 : Int32) H.size r_31 er_31) (cwV 2 hts k_X7_readPart_X7_figure_110 rfl rfl rfl (by decide +kernel) ⟨(Nat.le_of_ble_eq_true rfl), (Nat.le_of_ble_eq_true rfl)⟩) (va_recv hK hP (ci := 7) (q0 := 0) rfl rfl) hK hP hD hS hA rfl rfl hl.1 rfl (Nat.le_of_ble_eq_true rfl) dX7_readPart_40 ⟨Nat.zero_le _, Nat.zero_le _⟩ (fun H locs hP hD hS => ?_)
      obtain ⟨hx_32, h⟩ := mk_ixE h
      obtain ⟨w_33, ew_33, h⟩ := mk_nmE h
      refine va_iast hx hb hK hP hD hS 6 0 rfl rfl hx_32 dX7_readPart_43 (fun H locs hP hD hS => ?_)
      have hP : va_P D vwCl (wX7 cI cZ a0 w_33 sd) H := by rw [ew_33]; exact hP
      have hD : va_D A (wX7 cI cZ a0 w_33 sd) := by rw [ew_33]; exact hD
      refine lv_aload_n hx hb dX7_readPart_44 rfl (lv_at hl 1 rfl) ?_
      refine va_get (D := D) (ci := 7) (v := .ref (a0 6)) (C := RX7) (T := TX7) (N := 33) hx hb hts hiX7 hown hK hP 0 rfl rfl 8 (by decide) (hts (.fieldLink RX7 25 "ClockOnceModel" "readOf" "[I") (List.mem_of_getElem? (i := 3) rfl)) (fun _ h9 => h9) rfl dX7_readPart_45 ?_
      refine lv_iload_n hx hb dX7_readPart_48 rfl (lv_at hl 0 rfl) ?_
      refine lv_iconst (v := (1 : Int32)) hx hb dX7_readPart_49 (by decide) ?_
      refine lv_iadd hx hb dX7_readPart_50 ?_
      refine lv_aload_n hx hb dX7_readPart_51 rfl (lv_at hl 1 rfl) ?_
      refine lv_aload_n hx hb dX7_readPart_52 rfl (lv_at hl 1 rfl) ?_
      refine va_get (D := D) (ci := 7) (v := .ref (a0 6)) (C := RX7) (T := TX7) (N := 33) hx hb hts hiX7 hown hK hP 0 rfl rfl 8 (by decide) (hts (.fieldLink RX7 25 "ClockOnceModel" "readOf" "[I") (List.mem_of_getElem? (i := 3) rfl)) (fun _ h9 => h9) rfl dX7_readPart_53 ?_
      refine lv_iload_n hx hb dX7_readPart_56 rfl (lv_at hl 0 rfl) ?_
      obtain ⟨v_34, ev_34, hiv_34, h⟩ := mk_rdE h
      refine va_iald hx hb hK hP 6 0 rfl rfl hiv_34 dX7_readPart_57 ?_
      refine mk_topi ev_34 ?_
      refine lv_iconst (v := (1 : Int32)) hx hb dX7_readPart_58 (by decide) ?_
      refine lv_iadd hx hb dX7_readPart_59 ?_
      refine lv_bipush (v := (9 : Int32)) hx hb dX7_readPart_60 (by decide) ?_
      obtain ⟨r_35, er_35, h⟩ := mk_bd h
      refine es_vi (As := [.int (v_34 + (1 : Int32)), .int (9 : Int32)]) (rest := [.int (((5 : Int32) * (w_30 0 3)) + (1 : Int32)), .ref (a0 6)]) (w' := (wX7 cI cZ a0 r_35.2 sd)) ⟨hx, hb, hml, hown, hts⟩ (c_X7_figure l D cI cZ cO N a0 w_33 sd (v_34 + (1 : Int32)) (9 : Int32) H.size r_35 er_35) (cwV 2 hts k_X7_readPart_X7_figure_110 rfl rfl rfl (by decide +kernel) ⟨(Nat.le_of_ble_eq_true rfl), (Nat.le_of_ble_eq_true rfl)⟩) (va_recv hK hP (ci := 7) (q0 := 0) rfl rfl) hK hP hD hS hA rfl rfl hl.1 rfl (Nat.le_of_ble_eq_true rfl) dX7_readPart_62 ⟨Nat.zero_le _, Nat.zero_le _⟩ (fun H locs hP hD hS => ?_)
      obtain ⟨hx_36, h⟩ := mk_ixE h
      obtain ⟨w_37, ew_37, h⟩ := mk_nmE h
      refine va_iast hx hb hK hP hD hS 6 0 rfl rfl hx_36 dX7_readPart_65 (fun H locs hP hD hS => ?_)
      have hP : va_P D vwCl (wX7 cI cZ a0 w_37 sd) H := by rw [ew_37]; exact hP
      have hD : va_D A (wX7 cI cZ a0 w_37 sd) := by rw [ew_37]; exact hD
      refine lv_aload_n hx hb dX7_readPart_66 rfl (lv_at hl 1 rfl) ?_
      refine va_get (D := D) (ci := 7) (v := .ref (a0 6)) (C := RX7) (T := TX7) (N := 33) hx hb hts hiX7 hown hK hP 0 rfl rfl 8 (by decide) (hts (.fieldLink RX7 25 "ClockOnceModel" "readOf" "[I") (List.mem_of_getElem? (i := 3) rfl)) (fun _ h9 => h9) rfl dX7_readPart_67 ?_
      refine lv_iload_n hx hb dX7_readPart_70 rfl (lv_at hl 0 rfl) ?_
      refine lv_iconst (v := (2 : Int32)) hx hb dX7_readPart_71 (by decide) ?_
      refine lv_iadd hx hb dX7_readPart_72 ?_
      refine lv_aload_n hx hb dX7_readPart_73 rfl (lv_at hl 1 rfl) ?_
      refine lv_iconst (v := (0 : Int32)) hx hb dX7_readPart_74 (by decide) ?_
      refine lv_bipush (v := (9 : Int32)) hx hb dX7_readPart_75 (by decide) ?_
      obtain ⟨r_38, er_38, h⟩ := mk_bd h
      refine es_vi (As := [.int (0 : Int32), .int (9 : Int32)]) (rest := [.int (((5 : Int32) * (w_30 0 3)) + (2 : Int32)), .ref (a0 6)]) (w' := (wX7 cI cZ a0 r_38.2 sd)) ⟨hx, hb, hml, hown, hts⟩ (c_X7_figure l D cI cZ cO N a0 w_37 sd (0 : Int32) (9 : Int32) H.size r_38 er_38) (cwV 2 hts k_X7_readPart_X7_figure_110 rfl rfl rfl (by decide +kernel) ⟨(Nat.le_of_ble_eq_true rfl), (Nat.le_of_ble_eq_true rfl)⟩) (va_recv hK hP (ci := 7) (q0 := 0) rfl rfl) hK hP hD hS hA rfl rfl hl.1 rfl (Nat.le_of_ble_eq_true rfl) dX7_readPart_77 ⟨Nat.zero_le _, Nat.zero_le _⟩ (fun H locs hP hD hS => ?_)
      obtain ⟨hx_39, h⟩ := mk_ixE h
      obtain ⟨w_40, ew_40, h⟩ := mk_nmE h
      refine va_iast hx hb hK hP hD hS 6 0 rfl rfl hx_39 dX7_readPart_80 (fun H locs hP hD hS => ?_)
      have hP : va_P D vwCl (wX7 cI cZ a0 w_40 sd) H := by rw [ew_40]; exact hP
      have hD : va_D A (wX7 cI cZ a0 w_40 sd) := by rw [ew_40]; exact hD
      refine lv_aload_n hx hb dX7_readPart_81 rfl (lv_at hl 1 rfl) ?_
      refine va_get (D := D) (ci := 7) (v := .ref (a0 6)) (C := RX7) (T := TX7) (N := 33) hx hb hts hiX7 hown hK hP 0 rfl rfl 8 (by decide) (hts (.fieldLink RX7 25 "ClockOnceModel" "readOf" "[I") (List.mem_of_getElem? (i := 3) rfl)) (fun _ h9 => h9) rfl dX7_readPart_82 ?_
      refine lv_iload_n hx hb dX7_readPart_85 rfl (lv_at hl 0 rfl) ?_
      refine lv_iconst (v := (3 : Int32)) hx hb dX7_readPart_86 (by decide) ?_
      refine lv_iadd hx hb dX7_readPart_87 ?_
      refine lv_aload_n hx hb dX7_readPart_88 rfl (lv_at hl 1 rfl) ?_
      refine lv_iconst (v := (1 : Int32)) hx hb dX7_readPart_89 (by decide) ?_
      refine lv_bipush (v := (9 : Int32)) hx hb dX7_readPart_90 (by decide) ?_
      obtain ⟨r_41, er_41, h⟩ := mk_bd h
      refine es_vi (As := [.int (1 : Int32), .int (9 : Int32)]) (rest := [.int (((5 : Int32) * (w_30 0 3)) + (3 : Int32)), .ref (a0 6)]) (w' := (wX7 cI cZ a0 r_41.2 sd)) ⟨hx, hb, hml, hown, hts⟩ (c_X7_figure l D cI cZ cO N a0 w_40 sd (1 : Int32) (9 : Int32) H.size r_41 er_41) (cwV 2 hts k_X7_readPart_X7_figure_110 rfl rfl rfl (by decide +kernel) ⟨(Nat.le_of_ble_eq_true rfl), (Nat.le_of_ble_eq_true rfl)⟩) (va_recv hK hP (ci := 7) (q0 := 0) rfl rfl) hK hP hD hS hA rfl rfl hl.1 rfl (Nat.le_of_ble_eq_true rfl) dX7_readPart_92 ⟨Nat.zero_le _, Nat.zero_le _⟩ (fun H locs hP hD hS => ?_)
      obtain ⟨hx_42, h⟩ := mk_ixE h
      obtain ⟨w_43, ew_43, h⟩ := mk_nmE h
      refine va_iast hx hb hK hP hD hS 6 0 rfl rfl hx_42 dX7_readPart_95 (fun H locs hP hD hS => ?_)
      have hP : va_P D vwCl (wX7 cI cZ a0 w_43 sd) H := by rw [ew_43]; exact hP
      have hD : va_D A (wX7 cI cZ a0 w_43 sd) := by rw [ew_43]; exact hD
      refine lv_aload_n hx hb dX7_readPart_96 rfl (lv_at hl 1 rfl) ?_
      refine va_get (D := D) (ci := 7) (v := .ref (a0 6)) (C := RX7) (T := TX7) (N := 33) hx hb hts hiX7 hown hK hP 0 rfl rfl 8 (by decide) (hts (.fieldLink RX7 25 "ClockOnceModel" "readOf" "[I") (List.mem_of_getElem? (i := 3) rfl)) (fun _ h9 => h9) rfl dX7_readPart_97 ?_
      refine lv_iload_n hx hb dX7_readPart_100 rfl (lv_at hl 0 rfl) ?_
      refine lv_iconst (v := (4 : Int32)) hx hb dX7_readPart_101 (by decide) ?_
      refine lv_iadd hx hb dX7_readPart_102 ?_
      refine lv_aload_n hx hb dX7_readPart_103 rfl (lv_at hl 1 rfl) ?_
      refine lv_iconst (v := (0 : Int32)) hx hb dX7_readPart_104 (by decide) ?_
      refine lv_iconst (v := (1 : Int32)) hx hb dX7_readPart_105 (by decide) ?_
      obtain ⟨r_44, er_44, h⟩ := mk_bd h
      refine es_vi (As := [.int (0 : Int32), .int (1 : Int32)]) (rest := [.int (((5 : Int32) * (w_30 0 3)) + (4 : Int32)), .ref (a0 6)]) (w' := (wX7 cI cZ a0 r_44.2 sd)) ⟨hx, hb, hml, hown, hts⟩ (c_X7_figure l D cI cZ cO N a0 w_43 sd (0 : Int32) (1 : Int32) H.size r_44 er_44) (cwV 2 hts k_X7_readPart_X7_figure_110 rfl rfl rfl (by decide +kernel) ⟨(Nat.le_of_ble_eq_true rfl), (Nat.le_of_ble_eq_true rfl)⟩) (va_recv hK hP (ci := 7) (q0 := 0) rfl rfl) hK hP hD hS hA rfl rfl hl.1 rfl (Nat.le_of_ble_eq_true rfl) dX7_readPart_106 ⟨Nat.zero_le _, Nat.zero_le _⟩ (fun H locs hP hD hS => ?_)
      obtain ⟨hx_45, h⟩ := mk_ixE h
      obtain ⟨w_46, ew_46, h⟩ := mk_nmE h
      refine va_iast hx hb hK hP hD hS 6 0 rfl rfl hx_45 dX7_readPart_109 (fun H locs hP hD hS => ?_)
      have hP : va_P D vwCl (wX7 cI cZ a0 w_46 sd) H := by rw [ew_46]; exact hP
      have hD : va_D A (wX7 cI cZ a0 w_46 sd) := by rw [ew_46]; exact hD
      refine lv_aload_n hx hb dX7_readPart_110 rfl (lv_at hl 1 rfl) ?_
      refine lv_dup hx hb dX7_readPart_111 rfl ?_
      refine va_get (D := D) (ci := 7) (v := .int (w_46 0 3)) (C := RX7) (T := TX7) (N := 33) hx hb hts hiX7 hown hK hP 0 rfl rfl 13 (by decide) (hts (.fieldLink RX7 93 "ClockOnceModel" "readThings" "I") (List.mem_of_getElem? (i := 1) rfl)) (fun _ h9 => h9) rfl dX7_readPart_112 ?_
      refine lv_iconst (v := (1 : Int32)) hx hb dX7_readPart_115 (by decide) ?_
      refine lv_iadd hx hb dX7_readPart_116 ?_
      obtain ⟨w_47, ew_47, h⟩ := mk_nmE h
      refine va_put (D := D) (ci := 7) (v := .int ((w_46 0 3) + (1 : Int32))) (ty := .int) (C := RX7) (T := TX7) (N := 33) hx hb hts hiX7 tyX7 tyX7_ok nmX7 hown hK hP hD hS 0 rfl rfl 13 (by decide) (hts (.fieldLink RX7 93 "ClockOnceModel" "readThings" "I") (List.mem_of_getElem? (i := 1) rfl)) (fun _ h9 => h9) rfl (by decide +kernel) rfl rfl (Nat.le_of_ble_eq_true rfl) dX7_readPart_117 (fun H locs hP hD hS => ?_)
      have hP : va_P D vwCl (wX7 cI cZ a0 w_47 sd) H := by rw [ew_47]; exact hP
      have hD : va_D A (wX7 cI cZ a0 w_47 sd) := by rw [ew_47]; exact hD
      refine lv_goto (tgt := 306) hx hb dX7_readPart_120 (by decide) ?_
      exact hret _ _ _ _ _ h hP hD hS dX7_readPart_306

abbrev rm_X7_readText : Room := { frames := 3, cells := 0, slots := 0, locals := 71 }
set_option maxRecDepth 20000 in
theorem k_X7_readText_X7_readPart_106 : GoodIn wsX7_readText (wsV RX7 106 RX7 yX7_readPart wsX7_readPart) := goodIn_r _ [8, 9, 10, 11, 12, 3, 1, 13, 4, 14, 15, 5, 16, 17, 2, 18, 19, 20, 11, 21, 6, 7, 22, 23, 24, 25, 26, 27, 28, 29, 30, 31, 32, 33, 34, 35, 36, 37, 38, 39, 40, 41, 42, 43, 44, 45, 46, 47, 48, 49, 50, 51, 52, 53, 54, 55, 56, 57, 58, 59, 60, 61, 62, 63, 64, 65, 66, 67, 68, 69, 70, 71, 72, 73] rfl (by decide +kernel)
set_option maxHeartbeats 4000000 in
set_option maxRecDepth 100000 in
theorem c_X7_readText (l : Launch) (D : va_G) (cI cZ cO : ClassId) (N : Nat) (a0 : Nat → Nat) (u0 : TU) (sd : Int64) (sz : Nat) (out : Int32 × TU) (h : f_X7_readText N u0 sd = some out) : Met l yX7_readText wsX7_readText rm_X7_readText (va_Pc [.ref (a0 0)] (mk_Pe D vwCl (tyA cI cZ cO) (wX7 cI cZ a0 u0 sd) sz)) (va_Qi (fun r u => (r, u) = out) (mk_Be D vwCl (wX7 cI cZ a0 u0 sd) sz (fun q => (wX7 cI cZ a0 q sd))) (va_A (wX7 cI cZ a0 u0 sd) sz)) 0 0 (va_A (wX7 cI cZ a0 u0 sd) sz) := by
  refine em_i (own := RX7) (cc := cX7_readText) (maxL := 1) (by decide) rfl rfl (Nat.le_of_ble_eq_true rfl) ?_
  intro p e s m args below meth c Q A H0 H locs ls hx hb hml hown hts hP hK hD hS hA hl hret
  have hl : lv_has ls 1 [(0, .ref (a0 0))] := hl
  have hiX7 : ∀ w ∈ u_ws RX7 TX7 33, w ∈ wsX7_readText := mk_seg 41 33 rfl
  have K51 : ∀ (u0 : TU) (H : Heap) (locs : List Loc) (ls : Array Slot), va_P D vwCl (wX7 cI cZ a0 u0 sd) H → va_D A (wX7 cI cZ a0 u0 sd) → va_S A H0 H locs → lv_has ls 1 [(0, .ref (a0 0))] → lq1 (g_X7_readText_51 N sd) N u0 = some out → W p l e rm_X7_readText s m args below meth c H locs 0 0 Q (F0 m 51 ls []) := by
    intro u0 H locs ls hP hD hS hl h
    refine lq1_W (Wd := fun u0 => ∀ (H : Heap) (locs : List Loc) (ls : Array Slot), va_P D vwCl (wX7 cI cZ a0 u0 sd) H → va_D A (wX7 cI cZ a0 u0 sd) → va_S A H0 H locs → lv_has ls 1 [(0, .ref (a0 0))] → W p l e rm_X7_readText s m args below meth c H locs 0 0 Q (F0 m 51 ls [])) (fun rec51 ih51 u0 h H locs ls hP hD hS hl => ?_) N u0 h H locs ls hP hD hS hl
    unfold g_X7_readText_51 at h
    refine lv_aload_n hx hb dX7_readText_51 rfl (lv_at hl 0 rfl) ?_
    refine va_get (D := D) (ci := 7) (v := .int (u0 0 8)) (C := RX7) (T := TX7) (N := 33) hx hb hts hiX7 hown hK hP 0 rfl rfl 20 (by decide) (hts (.fieldLink RX7 81 "ClockOnceModel" "faultAt" "I") (List.mem_of_getElem? (i := 2) rfl)) (fun _ h9 => h9) rfl dX7_readText_52 ?_
    refine lv_bipush (v := (-9 : Int32)) hx hb dX7_readText_55 (by decide) ?_
    refine lv_icmp_ne (tgt := 87) hx hb dX7_readText_57 (by decide) (fun q_1 => ?_) (fun q_1 => ?_)
    · have h := mk_ifn q_1 h
      refine lv_aload_n hx hb dX7_readText_87 rfl (lv_at hl 0 rfl) ?_
      refine va_get (D := D) (ci := 7) (v := .int (u0 0 8)) (C := RX7) (T := TX7) (N := 33) hx hb hts hiX7 hown hK hP 0 rfl rfl 20 (by decide) (hts (.fieldLink RX7 81 "ClockOnceModel" "faultAt" "I") (List.mem_of_getElem? (i := 2) rfl)) (fun _ h9 => h9) rfl dX7_readText_88 ?_
      exact hret _ _ _ _ _ _ h hP hD hS dX7_readText_91
    · have h := mk_ifp q_1 h
      refine lv_aload_n hx hb dX7_readText_60 rfl (lv_at hl 0 rfl) ?_
      refine va_get (D := D) (ci := 7) (v := .int (u0 0 7)) (C := RX7) (T := TX7) (N := 33) hx hb hts hiX7 hown hK hP 0 rfl rfl 19 (by decide) (hts (.fieldLink RX7 84 "ClockOnceModel" "at" "I") (List.mem_of_getElem? (i := 1) rfl)) (fun _ h9 => h9) rfl dX7_readText_61 ?_
      refine lv_aload_n hx hb dX7_readText_64 rfl (lv_at hl 0 rfl) ?_
      refine va_get (D := D) (ci := 7) (v := .int (u0 0 6)) (C := RX7) (T := TX7) (N := 33) hx hb hts hiX7 hown hK hP 0 rfl rfl 18 (by decide) (hts (.fieldLink RX7 77 "ClockOnceModel" "length" "I") (List.mem_of_getElem? (i := 6) rfl)) (fun _ h9 => h9) rfl dX7_readText_65 ?_
      refine lv_icmp_ge (tgt := 87) hx hb dX7_readText_68 (by decide) (fun q_2 => ?_) (fun q_2 => ?_)
      · have h := mk_ifp q_2 h
        refine lv_aload_n hx hb dX7_readText_87 rfl (lv_at hl 0 rfl) ?_
        refine va_get (D := D) (ci := 7) (v := .int (u0 0 8)) (C := RX7) (T := TX7) (N := 33) hx hb hts hiX7 hown hK hP 0 rfl rfl 20 (by decide) (hts (.fieldLink RX7 81 "ClockOnceModel" "faultAt" "I") (List.mem_of_getElem? (i := 2) rfl)) (fun _ h9 => h9) rfl dX7_readText_88 ?_
        exact hret _ _ _ _ _ _ h hP hD hS dX7_readText_91
      · have h := mk_ifn q_2 h
        refine lv_aload_n hx hb dX7_readText_71 rfl (lv_at hl 0 rfl) ?_
        refine lv_aload_n hx hb dX7_readText_72 rfl (lv_at hl 0 rfl) ?_
        refine va_get (D := D) (ci := 7) (v := .ref (a0 12)) (C := RX7) (T := TX7) (N := 33) hx hb hts hiX7 hown hK hP 0 rfl rfl 17 (by decide) (hts (.fieldLink RX7 43 "ClockOnceModel" "text" "[I") (List.mem_of_getElem? (i := 7) rfl)) (fun _ h9 => h9) rfl dX7_readText_73 ?_
        refine lv_aload_n hx hb dX7_readText_76 rfl (lv_at hl 0 rfl) ?_
        refine va_get (D := D) (ci := 7) (v := .int (u0 0 7)) (C := RX7) (T := TX7) (N := 33) hx hb hts hiX7 hown hK hP 0 rfl rfl 19 (by decide) (hts (.fieldLink RX7 84 "ClockOnceModel" "at" "I") (List.mem_of_getElem? (i := 1) rfl)) (fun _ h9 => h9) rfl dX7_readText_77 ?_
        obtain ⟨v_3, ev_3, hiv_3, h⟩ := mk_rdE h
        refine va_iald hx hb hK hP 12 0 rfl rfl hiv_3 dX7_readText_80 ?_
        refine mk_topi ev_3 ?_
        obtain ⟨r_4, er_4, h⟩ := mk_bd h
        refine es_vv (As := [.int v_3]) (rest := []) (w' := (wX7 cI cZ a0 r_4 sd)) ⟨hx, hb, hml, hown, hts⟩ (c_X7_readPart l D cI cZ cO N a0 u0 sd v_3 H.size r_4 er_4) (cwV 1 hts k_X7_readText_X7_readPart_106 rfl rfl rfl (by decide +kernel) ⟨(Nat.le_of_ble_eq_true rfl), (Nat.le_of_ble_eq_true rfl)⟩) (va_recv hK hP (ci := 7) (q0 := 0) rfl rfl) hK hP hD hS hA rfl rfl hl.1 rfl (Nat.le_of_ble_eq_true rfl) dX7_readText_81 ⟨Nat.zero_le _, Nat.zero_le _⟩ (fun H locs hP hD hS => ?_)
        refine lv_goto (tgt := 51) hx hb dX7_readText_84 (by decide) ?_
        exact ih51 r_4 h H locs ls hP hD hS (lv_sub hl [0] rfl)
  unfold f_X7_readText at h
  refine lv_aload_n hx hb dX7_readText_0 rfl (lv_at hl 0 rfl) ?_
  refine lv_iconst (v := (0 : Int32)) hx hb dX7_readText_1 (by decide) ?_
  obtain ⟨w_5, ew_5, h⟩ := mk_nmE h
  refine va_put (D := D) (ci := 7) (v := .int (0 : Int32)) (ty := .int) (C := RX7) (T := TX7) (N := 33) hx hb hts hiX7 tyX7 tyX7_ok nmX7 hown hK hP hD hS 0 rfl rfl 19 (by decide) (hts (.fieldLink RX7 84 "ClockOnceModel" "at" "I") (List.mem_of_getElem? (i := 1) rfl)) (fun _ h9 => h9) rfl (by decide +kernel) rfl rfl (Nat.le_of_ble_eq_true rfl) dX7_readText_2 (fun H locs hP hD hS => ?_)
  have hP : va_P D vwCl (wX7 cI cZ a0 w_5 sd) H := by rw [ew_5]; exact hP
  have hD : va_D A (wX7 cI cZ a0 w_5 sd) := by rw [ew_5]; exact hD
  refine lv_aload_n hx hb dX7_readText_5 rfl (lv_at hl 0 rfl) ?_
  refine lv_bipush (v := (-9 : Int32)) hx hb dX7_readText_6 (by decide) ?_
  obtain ⟨w_6, ew_6, h⟩ := mk_nmE h
  refine va_put (D := D) (ci := 7) (v := .int (-9 : Int32)) (ty := .int) (C := RX7) (T := TX7) (N := 33) hx hb hts hiX7 tyX7 tyX7_ok nmX7 hown hK hP hD hS 0 rfl rfl 20 (by decide) (hts (.fieldLink RX7 81 "ClockOnceModel" "faultAt" "I") (List.mem_of_getElem? (i := 2) rfl)) (fun _ h9 => h9) rfl (by decide +kernel) rfl rfl (Nat.le_of_ble_eq_true rfl) dX7_readText_8 (fun H locs hP hD hS => ?_)
  have hP : va_P D vwCl (wX7 cI cZ a0 w_6 sd) H := by rw [ew_6]; exact hP
  have hD : va_D A (wX7 cI cZ a0 w_6 sd) := by rw [ew_6]; exact hD
  refine lv_aload_n hx hb dX7_readText_11 rfl (lv_at hl 0 rfl) ?_
  refine lv_iconst (v := (0 : Int32)) hx hb dX7_readText_12 (by decide) ?_
  obtain ⟨w_7, ew_7, h⟩ := mk_nmE h
  refine va_put (D := D) (ci := 7) (v := .int (0 : Int32)) (ty := .int) (C := RX7) (T := TX7) (N := 33) hx hb hts hiX7 tyX7 tyX7_ok nmX7 hown hK hP hD hS 0 rfl rfl 13 (by decide) (hts (.fieldLink RX7 93 "ClockOnceModel" "readThings" "I") (List.mem_of_getElem? (i := 3) rfl)) (fun _ h9 => h9) rfl (by decide +kernel) rfl rfl (Nat.le_of_ble_eq_true rfl) dX7_readText_13 (fun H locs hP hD hS => ?_)
  have hP : va_P D vwCl (wX7 cI cZ a0 w_7 sd) H := by rw [ew_7]; exact hP
  have hD : va_D A (wX7 cI cZ a0 w_7 sd) := by rw [ew_7]; exact hD
  refine lv_aload_n hx hb dX7_readText_16 rfl (lv_at hl 0 rfl) ?_
  refine lv_iconst (v := (0 : Int32)) hx hb dX7_readText_17 (by decide) ?_
  obtain ⟨w_8, ew_8, h⟩ := mk_nmE h
  refine va_put (D := D) (ci := 7) (v := .int (0 : Int32)) (ty := .int) (C := RX7) (T := TX7) (N := 33) hx hb hts hiX7 tyX7 tyX7_ok nmX7 hown hK hP hD hS 0 rfl rfl 14 (by decide) (hts (.fieldLink RX7 103 "ClockOnceModel" "readAskers" "I") (List.mem_of_getElem? (i := 4) rfl)) (fun _ h9 => h9) rfl (by decide +kernel) rfl rfl (Nat.le_of_ble_eq_true rfl) dX7_readText_18 (fun H locs hP hD hS => ?_)
  have hP : va_P D vwCl (wX7 cI cZ a0 w_8 sd) H := by rw [ew_8]; exact hP
  have hD : va_D A (wX7 cI cZ a0 w_8 sd) := by rw [ew_8]; exact hD
  refine lv_aload_n hx hb dX7_readText_21 rfl (lv_at hl 0 rfl) ?_
  refine lv_iconst (v := (0 : Int32)) hx hb dX7_readText_22 (by decide) ?_
  obtain ⟨w_9, ew_9, h⟩ := mk_nmE h
  refine va_put (D := D) (ci := 7) (v := .int (0 : Int32)) (ty := .int) (C := RX7) (T := TX7) (N := 33) hx hb hts hiX7 tyX7 tyX7_ok nmX7 hown hK hP hD hS 0 rfl rfl 15 (by decide) (hts (.fieldLink RX7 96 "ClockOnceModel" "readLinks" "I") (List.mem_of_getElem? (i := 5) rfl)) (fun _ h9 => h9) rfl (by decide +kernel) rfl rfl (Nat.le_of_ble_eq_true rfl) dX7_readText_23 (fun H locs hP hD hS => ?_)
  have hP : va_P D vwCl (wX7 cI cZ a0 w_9 sd) H := by rw [ew_9]; exact hP
  have hD : va_D A (wX7 cI cZ a0 w_9 sd) := by rw [ew_9]; exact hD
  refine lv_aload_n hx hb dX7_readText_26 rfl (lv_at hl 0 rfl) ?_
  refine va_get (D := D) (ci := 7) (v := .int (w_9 0 6)) (C := RX7) (T := TX7) (N := 33) hx hb hts hiX7 hown hK hP 0 rfl rfl 18 (by decide) (hts (.fieldLink RX7 77 "ClockOnceModel" "length" "I") (List.mem_of_getElem? (i := 6) rfl)) (fun _ h9 => h9) rfl dX7_readText_27 ?_
  refine lv_if_eq (tgt := 44) hx hb dX7_readText_30 (by decide) (fun q_10 => ?_) (fun q_10 => ?_)
  · have h := mk_ifp q_10 h
    refine lv_iconst (v := (0 : Int32)) hx hb dX7_readText_44 (by decide) ?_
    exact hret _ _ _ _ _ _ h hP hD hS dX7_readText_45
  · have h := mk_ifn q_10 h
    refine lv_aload_n hx hb dX7_readText_33 rfl (lv_at hl 0 rfl) ?_
    refine va_get (D := D) (ci := 7) (v := .ref (a0 12)) (C := RX7) (T := TX7) (N := 33) hx hb hts hiX7 hown hK hP 0 rfl rfl 17 (by decide) (hts (.fieldLink RX7 43 "ClockOnceModel" "text" "[I") (List.mem_of_getElem? (i := 7) rfl)) (fun _ h9 => h9) rfl dX7_readText_34 ?_
    refine lv_iconst (v := (0 : Int32)) hx hb dX7_readText_37 (by decide) ?_
    obtain ⟨v_11, ev_11, hiv_11, h⟩ := mk_rdE h
    refine va_iald hx hb hK hP 12 0 rfl rfl hiv_11 dX7_readText_38 ?_
    refine mk_topi ev_11 ?_
    refine lv_bipush (v := (67 : Int32)) hx hb dX7_readText_39 (by decide) ?_
    refine lv_icmp_eq (tgt := 46) hx hb dX7_readText_41 (by decide) (fun q_12 => ?_) (fun q_12 => ?_)
    · have h := mk_ifp q_12 h
      refine lv_aload_n hx hb dX7_readText_46 rfl (lv_at hl 0 rfl) ?_
      refine lv_iconst (v := (1 : Int32)) hx hb dX7_readText_47 (by decide) ?_
      obtain ⟨w_13, ew_13, h⟩ := mk_nmE h
      refine va_put (D := D) (ci := 7) (v := .int (1 : Int32)) (ty := .int) (C := RX7) (T := TX7) (N := 33) hx hb hts hiX7 tyX7 tyX7_ok nmX7 hown hK hP hD hS 0 rfl rfl 19 (by decide) (hts (.fieldLink RX7 84 "ClockOnceModel" "at" "I") (List.mem_of_getElem? (i := 1) rfl)) (fun _ h9 => h9) rfl (by decide +kernel) rfl rfl (Nat.le_of_ble_eq_true rfl) dX7_readText_48 (fun H locs hP hD hS => ?_)
      have hP : va_P D vwCl (wX7 cI cZ a0 w_13 sd) H := by rw [ew_13]; exact hP
      have hD : va_D A (wX7 cI cZ a0 w_13 sd) := by rw [ew_13]; exact hD
      exact K51 w_13 H locs ls hP hD hS (lv_sub hl [0] rfl) h
    · have h := mk_ifn q_12 h
      refine lv_iconst (v := (0 : Int32)) hx hb dX7_readText_44 (by decide) ?_
      exact hret _ _ _ _ _ _ h hP hD hS dX7_readText_45

abbrev rm_X7_fault : Room := { frames := 4, cells := 0, slots := 0, locals := 91 }
set_option maxRecDepth 20000 in
theorem k_X7_fault_X7_readText_121 : GoodIn wsX7_fault (wsV RX7 121 RX7 yX7_readText wsX7_readText) := goodIn_r _ [1, 2, 3, 4, 5, 6, 7, 8, 9, 10, 11, 12, 13, 14, 15, 4, 16, 17, 18, 19, 20, 21, 22, 23, 24, 25, 26, 27, 28, 29, 30, 31, 32, 33, 34, 35, 36, 37, 38, 39, 40, 41, 42, 43, 44, 45, 46, 47, 48, 49, 50, 51, 52, 53, 54, 55, 56, 57, 58, 59, 60, 61, 62, 63, 64, 65, 66, 67, 68, 69, 70, 71, 72, 73, 74, 75, 76, 77] rfl (by decide +kernel)
set_option maxHeartbeats 4000000 in
set_option maxRecDepth 100000 in
theorem c_X7_fault (l : Launch) (D : va_G) (cI cZ cO : ClassId) (N : Nat) (a0 : Nat → Nat) (u0 : TU) (sd : Int64) (sz : Nat) (out : Int32 × TU) (h : f_X7_fault N u0 sd = some out) : Met l yX7_fault wsX7_fault rm_X7_fault (va_Pc [.ref (a0 0)] (mk_Pe D vwCl (tyA cI cZ cO) (wX7 cI cZ a0 u0 sd) sz)) (va_Qi (fun r u => (r, u) = out) (mk_Be D vwCl (wX7 cI cZ a0 u0 sd) sz (fun q => (wX7 cI cZ a0 q sd))) (va_A (wX7 cI cZ a0 u0 sd) sz)) 0 0 (va_A (wX7 cI cZ a0 u0 sd) sz) := by
  refine em_i (own := RX7) (cc := cX7_fault) (maxL := 1) (by decide) rfl rfl (Nat.le_of_ble_eq_true rfl) ?_
  intro p e s m args below meth c Q A H0 H locs ls hx hb hml hown hts hP hK hD hS hA hl hret
  have hl : lv_has ls 1 [(0, .ref (a0 0))] := hl
  unfold f_X7_fault at h
  refine lv_aload_n hx hb dX7_fault_0 rfl (lv_at hl 0 rfl) ?_
  obtain ⟨r_1, er_1, h⟩ := mk_bd h
  refine es_vi (As := []) (rest := []) (w' := (wX7 cI cZ a0 r_1.2 sd)) ⟨hx, hb, hml, hown, hts⟩ (c_X7_readText l D cI cZ cO N a0 u0 sd H.size r_1 er_1) (cwV 0 hts k_X7_fault_X7_readText_121 rfl rfl rfl (by decide +kernel) ⟨(Nat.le_of_ble_eq_true rfl), (Nat.le_of_ble_eq_true rfl)⟩) (va_recv hK hP (ci := 7) (q0 := 0) rfl rfl) hK hP hD hS hA rfl rfl hl.1 rfl (Nat.le_of_ble_eq_true rfl) dX7_fault_1 ⟨Nat.zero_le _, Nat.zero_le _⟩ (fun H locs hP hD hS => ?_)
  exact hret _ _ _ _ _ _ h hP hD hS dX7_fault_4

abbrev rm_X7_fewest : Room := { frames := 3, cells := 0, slots := 0, locals := 69 }
set_option maxRecDepth 20000 in
theorem k_X7_fewest_X7_isSeenBy_165 : GoodIn wsX7_fewest (wsV RX7 165 RX7 yX7_isSeenBy wsX7_isSeenBy) := goodIn_r _ [7, 8, 9, 5, 10, 1, 11, 12, 13, 5, 14, 15, 16, 17, 18, 19, 20, 21, 22, 23, 24, 25, 26, 27, 28, 29, 30, 31, 32, 33, 34, 35, 36, 37, 38, 39, 40, 41, 42, 43, 44, 45, 46, 47, 48, 49, 50, 51, 52, 53, 54, 55, 56, 57, 58, 59, 60, 61, 62] rfl (by decide +kernel)
set_option maxRecDepth 20000 in
theorem k_X7_fewest_X7_ones_213 : GoodIn wsX7_fewest (va_wsS RX7 213 yX7_ones wsX7_ones) := goodIn_r _ [3, 4, 5, 6] rfl (by decide +kernel)
set_option maxHeartbeats 4000000 in
set_option maxRecDepth 100000 in
theorem c_X7_fewest (l : Launch) (D : va_G) (cI cZ cO : ClassId) (N : Nat) (a0 : Nat → Nat) (u0 : TU) (sd : Int64) (out : Int32) (h : f_X7_fewest N u0 sd = some out) : Met l yX7_fewest wsX7_fewest rm_X7_fewest (va_Pc [.ref (a0 0)] (fun U => va_P D vwCl (wX7 cI cZ a0 u0 sd) U.heap ∧ va_K D vwCl (tyA cI cZ cO) U)) (vp_Si (fun r => r = out)) 0 0 (fun _ => False) := by
  refine pm_i (own := RX7) (cc := cX7_fewest) (maxL := 6) (by decide) rfl rfl (Nat.le_of_ble_eq_true rfl) ?_
  intro p e s m args below meth c Q H ls hx hb hml hown hts hP hK hl hret
  have hl : lv_has ls 6 [(0, .ref (a0 0))] := hl
  have hiX7 : ∀ w ∈ u_ws RX7 TX7 33, w ∈ wsX7_fewest := mk_seg 30 33 rfl
  have K5 : ∀ (x1 : Int32) (x2 : Int32) (ls : Array Slot), lv_has ls 6 [(0, .ref (a0 0)), (1, .int x1), (2, .int x2)] → lq2 (g_X7_fewest_5 N u0 sd) N x1 x2 = some out → W p l e rm_X7_fewest s m args below meth c H [] 0 0 Q (F0 m 5 ls []) := by
    intro x1 x2 ls hl h
    refine lq2_W (Wd := fun x1 x2 => ∀ (ls : Array Slot), lv_has ls 6 [(0, .ref (a0 0)), (1, .int x1), (2, .int x2)] → W p l e rm_X7_fewest s m args below meth c H [] 0 0 Q (F0 m 5 ls [])) (fun rec5 ih5 x1 x2 h ls hl => ?_) N x1 x2 h ls hl
    have K128 : ∀ (x1 : Int32) (x2 : Int32) (x3 : Int32) (ls : Array Slot), lv_has ls 6 [(0, .ref (a0 0)), (1, .int x1), (2, .int x2), (3, .int x3)] → g_X7_fewest_128 N u0 sd rec5 x1 x2 x3 = some out → W p l e rm_X7_fewest s m args below meth c H [] 0 0 Q (F0 m 128 ls []) := by
      intro x1 x2 x3 ls hl h
      unfold g_X7_fewest_128 at h
      refine lv_iload_n hx hb dX7_fewest_128 rfl (lv_at hl 3 rfl) ?_
      refine lv_if_eq (tgt := 136) hx hb dX7_fewest_129 (by decide) (fun q_1 => ?_) (fun q_1 => ?_)
      · have h := mk_ifp q_1 h
        refine lv_iload_n hx hb dX7_fewest_136 rfl (lv_at hl 1 rfl) ?_
        refine lv_istore_n (lv' := [(1, .int x1), (0, .ref (a0 0)), (2, .int x2), (3, .int x3)]) hx hb dX7_fewest_137 rfl hl (by decide) rfl (fun ls hl => ?_)
        refine lv_iinc (v := (x2 + (1 : Int32))) (lv' := [(2, .int (x2 + (1 : Int32))), (1, .int x1), (0, .ref (a0 0)), (3, .int x3)]) hx hb dX7_fewest_138 hl (k := 2) rfl rfl (by decide) rfl (fun ls hl => ?_)
        refine lv_goto (tgt := 5) hx hb dX7_fewest_141 (by decide) ?_
        exact ih5 x1 (x2 + (1 : Int32)) h ls (lv_sub hl [2, 1, 0] rfl)
      · have h := mk_ifn q_1 h
        refine lv_iload_n hx hb dX7_fewest_132 rfl (lv_at hl 2 rfl) ?_
        refine lv_goto (tgt := 137) hx hb dX7_fewest_133 (by decide) ?_
        refine lv_istore_n (lv' := [(1, .int x2), (0, .ref (a0 0)), (2, .int x2), (3, .int x3)]) hx hb dX7_fewest_137 rfl hl (by decide) rfl (fun ls hl => ?_)
        refine lv_iinc (v := (x2 + (1 : Int32))) (lv' := [(2, .int (x2 + (1 : Int32))), (1, .int x2), (0, .ref (a0 0)), (3, .int x3)]) hx hb dX7_fewest_138 hl (k := 2) rfl rfl (by decide) rfl (fun ls hl => ?_)
        refine lv_goto (tgt := 5) hx hb dX7_fewest_141 (by decide) ?_
        exact ih5 x2 (x2 + (1 : Int32)) h ls (lv_sub hl [2, 1, 0] rfl)
    have K41 : ∀ (x1 : Int32) (x2 : Int32) (x3 : Int32) (x4 : Int32) (ls : Array Slot), lv_has ls 6 [(0, .ref (a0 0)), (1, .int x1), (2, .int x2), (3, .int x3), (4, .int x4)] → lq2 (g_X7_fewest_41 N u0 sd rec5 x1 x2) N x3 x4 = some out → W p l e rm_X7_fewest s m args below meth c H [] 0 0 Q (F0 m 41 ls []) := by
      intro x1 x2 x3 x4 ls hl h
      refine lq2_W (Wd := fun x3 x4 => ∀ (ls : Array Slot), lv_has ls 6 [(0, .ref (a0 0)), (1, .int x1), (2, .int x2), (3, .int x3), (4, .int x4)] → W p l e rm_X7_fewest s m args below meth c H [] 0 0 Q (F0 m 41 ls [])) (fun rec41 ih41 x3 x4 h ls hl => ?_) N x3 x4 h ls hl
      have K59 : ∀ (x3 : Int32) (x4 : Int32) (x5 : Int32) (ls : Array Slot), lv_has ls 6 [(0, .ref (a0 0)), (1, .int x1), (2, .int x2), (3, .int x3), (4, .int x4), (5, .int x5)] → lq2 (g_X7_fewest_59 N u0 sd rec5 rec41 x1 x2 x4) N x3 x5 = some out → W p l e rm_X7_fewest s m args below meth c H [] 0 0 Q (F0 m 59 ls []) := by
        intro x3 x4 x5 ls hl h
        refine lq2_W (Wd := fun x3 x5 => ∀ (ls : Array Slot), lv_has ls 6 [(0, .ref (a0 0)), (1, .int x1), (2, .int x2), (3, .int x3), (4, .int x4), (5, .int x5)] → W p l e rm_X7_fewest s m args below meth c H [] 0 0 Q (F0 m 59 ls [])) (fun rec59 ih59 x3 x5 h ls hl => ?_) N x3 x5 h ls hl
        have K110 : ∀ (x5 : Int32) (ls : Array Slot), lv_has ls 6 [(0, .ref (a0 0)), (1, .int x1), (2, .int x2), (4, .int x4), (5, .int x5)] → g_X7_fewest_110 N u0 sd rec5 rec41 rec59 x1 x2 x4 x5 = some out → W p l e rm_X7_fewest s m args below meth c H [] 0 0 Q (F0 m 110 ls []) := by
          intro x5 ls hl h
          unfold g_X7_fewest_110 at h
          refine lv_iconst (v := (1 : Int32)) hx hb dX7_fewest_110 (by decide) ?_
          refine lv_goto (tgt := 115) hx hb dX7_fewest_111 (by decide) ?_
          refine lv_istore_n (lv' := [(3, .int (1 : Int32)), (0, .ref (a0 0)), (1, .int x1), (2, .int x2), (4, .int x4), (5, .int x5)]) hx hb dX7_fewest_115 rfl hl (by decide) rfl (fun ls hl => ?_)
          refine lv_iinc (v := (x5 + (1 : Int32))) (lv' := [(5, .int (x5 + (1 : Int32))), (3, .int (1 : Int32)), (0, .ref (a0 0)), (1, .int x1), (2, .int x2), (4, .int x4)]) hx hb dX7_fewest_116 hl (k := 5) rfl rfl (by decide) rfl (fun ls hl => ?_)
          refine lv_goto (tgt := 59) hx hb dX7_fewest_119 (by decide) ?_
          exact ih59 (1 : Int32) (x5 + (1 : Int32)) h ls (lv_sub hl [2, 3, 4, 1, 5, 0] rfl)
        unfold g_X7_fewest_59 at h
        refine lv_iload hx hb dX7_fewest_59 (lv_at hl 5 rfl) ?_
        refine lv_iload hx hb dX7_fewest_61 (lv_at hl 4 rfl) ?_
        refine lv_icmp_ge (tgt := 122) hx hb dX7_fewest_63 (by decide) (fun q_2 => ?_) (fun q_2 => ?_)
        · have h := mk_ifp q_2 h
          refine lv_iinc (v := (x4 + (1 : Int32))) (lv' := [(4, .int (x4 + (1 : Int32))), (0, .ref (a0 0)), (1, .int x1), (2, .int x2), (3, .int x3), (5, .int x5)]) hx hb dX7_fewest_122 hl (k := 4) rfl rfl (by decide) rfl (fun ls hl => ?_)
          refine lv_goto (tgt := 41) hx hb dX7_fewest_125 (by decide) ?_
          exact ih41 x3 (x4 + (1 : Int32)) h ls (lv_sub hl [1, 2, 3, 4, 0] rfl)
        · have h := mk_ifn q_2 h
          refine lv_iload_n hx hb dX7_fewest_66 rfl (lv_at hl 3 rfl) ?_
          refine lv_if_eq (tgt := 122) hx hb dX7_fewest_67 (by decide) (fun q_3 => ?_) (fun q_3 => ?_)
          · have h := mk_ifp q_3 h
            refine lv_iinc (v := (x4 + (1 : Int32))) (lv' := [(4, .int (x4 + (1 : Int32))), (0, .ref (a0 0)), (1, .int x1), (2, .int x2), (3, .int x3), (5, .int x5)]) hx hb dX7_fewest_122 hl (k := 4) rfl rfl (by decide) rfl (fun ls hl => ?_)
            refine lv_goto (tgt := 41) hx hb dX7_fewest_125 (by decide) ?_
            exact ih41 x3 (x4 + (1 : Int32)) h ls (lv_sub hl [1, 2, 3, 4, 0] rfl)
          · have h := mk_ifn q_3 h
            refine lv_aload_n hx hb dX7_fewest_70 rfl (lv_at hl 0 rfl) ?_
            refine lv_iload hx hb dX7_fewest_71 (lv_at hl 4 rfl) ?_
            refine lv_aload_n hx hb dX7_fewest_73 rfl (lv_at hl 0 rfl) ?_
            refine va_get (D := D) (ci := 7) (v := .ref (a0 11)) (C := RX7) (T := TX7) (N := 33) hx hb hts hiX7 hown hK hP 0 rfl rfl 16 (by decide) (hts (.fieldLink RX7 40 "ClockOnceModel" "now" "[I") (List.mem_of_getElem? (i := 2) rfl)) (fun _ h9 => h9) rfl dX7_fewest_74 ?_
            refine lv_iconst (v := (0 : Int32)) hx hb dX7_fewest_77 (by decide) ?_
            obtain ⟨v_4, ev_4, hiv_4, h⟩ := mk_rdE h
            refine va_iald hx hb hK hP 11 0 rfl rfl hiv_4 dX7_fewest_78 ?_
            refine mk_topi ev_4 ?_
            obtain ⟨r_5, er_5, h⟩ := mk_bd h
            refine pc_v (As := [.int x4, .int v_4]) (rest := []) ⟨hx, hb, hml, hown, hts⟩ (c_X7_isSeenBy l D cI cZ cO N a0 u0 sd x4 v_4 r_5 er_5) (cwV 2 hts k_X7_fewest_X7_isSeenBy_165 rfl rfl rfl (by decide +kernel) ⟨(Nat.le_of_ble_eq_true rfl), (Nat.le_of_ble_eq_true rfl)⟩) (va_recv hK hP (ci := 7) (q0 := 0) rfl rfl) hP hK rfl hl.1 rfl (Nat.le_of_ble_eq_true rfl) dX7_fewest_79 ⟨Nat.zero_le _, Nat.zero_le _⟩ ?_
            refine lv_if_eq (tgt := 110) hx hb dX7_fewest_82 (by decide) (fun q_6 => ?_) (fun q_6 => ?_)
            · have h := mk_ifp q_6 h
              exact K110 x5 ls (lv_sub hl [0, 1, 2, 4, 5] rfl) h
            · have h := mk_ifn q_6 h
              refine lv_aload_n hx hb dX7_fewest_85 rfl (lv_at hl 0 rfl) ?_
              refine lv_iload hx hb dX7_fewest_86 (lv_at hl 5 rfl) ?_
              refine lv_aload_n hx hb dX7_fewest_88 rfl (lv_at hl 0 rfl) ?_
              refine va_get (D := D) (ci := 7) (v := .ref (a0 11)) (C := RX7) (T := TX7) (N := 33) hx hb hts hiX7 hown hK hP 0 rfl rfl 16 (by decide) (hts (.fieldLink RX7 40 "ClockOnceModel" "now" "[I") (List.mem_of_getElem? (i := 2) rfl)) (fun _ h9 => h9) rfl dX7_fewest_89 ?_
              refine lv_iconst (v := (0 : Int32)) hx hb dX7_fewest_92 (by decide) ?_
              obtain ⟨v_7, ev_7, hiv_7, h⟩ := mk_rdE h
              refine va_iald hx hb hK hP 11 0 rfl rfl hiv_7 dX7_fewest_93 ?_
              refine mk_topi ev_7 ?_
              obtain ⟨r_8, er_8, h⟩ := mk_bd h
              refine pc_v (As := [.int x5, .int v_7]) (rest := []) ⟨hx, hb, hml, hown, hts⟩ (c_X7_isSeenBy l D cI cZ cO N a0 u0 sd x5 v_7 r_8 er_8) (cwV 2 hts k_X7_fewest_X7_isSeenBy_165 rfl rfl rfl (by decide +kernel) ⟨(Nat.le_of_ble_eq_true rfl), (Nat.le_of_ble_eq_true rfl)⟩) (va_recv hK hP (ci := 7) (q0 := 0) rfl rfl) hP hK rfl hl.1 rfl (Nat.le_of_ble_eq_true rfl) dX7_fewest_94 ⟨Nat.zero_le _, Nat.zero_le _⟩ ?_
              refine lv_if_eq (tgt := 110) hx hb dX7_fewest_97 (by decide) (fun q_9 => ?_) (fun q_9 => ?_)
              · have h := mk_ifp q_9 h
                exact K110 x5 ls (lv_sub hl [0, 1, 2, 4, 5] rfl) h
              · have h := mk_ifn q_9 h
                refine lv_iload hx hb dX7_fewest_100 (lv_at hl 4 rfl) ?_
                refine lv_iload hx hb dX7_fewest_102 (lv_at hl 5 rfl) ?_
                refine lv_ixor hx hb dX7_fewest_104 ?_
                refine lv_iload_n hx hb dX7_fewest_105 rfl (lv_at hl 2 rfl) ?_
                refine lv_iand hx hb dX7_fewest_106 ?_
                refine lv_if_eq (tgt := 114) hx hb dX7_fewest_107 (by decide) (fun q_10 => ?_) (fun q_10 => ?_)
                · have h := mk_ifp q_10 h
                  refine lv_iconst (v := (0 : Int32)) hx hb dX7_fewest_114 (by decide) ?_
                  refine lv_istore_n (lv' := [(3, .int (0 : Int32)), (0, .ref (a0 0)), (1, .int x1), (2, .int x2), (4, .int x4), (5, .int x5)]) hx hb dX7_fewest_115 rfl hl (by decide) rfl (fun ls hl => ?_)
                  refine lv_iinc (v := (x5 + (1 : Int32))) (lv' := [(5, .int (x5 + (1 : Int32))), (3, .int (0 : Int32)), (0, .ref (a0 0)), (1, .int x1), (2, .int x2), (4, .int x4)]) hx hb dX7_fewest_116 hl (k := 5) rfl rfl (by decide) rfl (fun ls hl => ?_)
                  refine lv_goto (tgt := 59) hx hb dX7_fewest_119 (by decide) ?_
                  exact ih59 (0 : Int32) (x5 + (1 : Int32)) h ls (lv_sub hl [2, 3, 4, 1, 5, 0] rfl)
                · have h := mk_ifn q_10 h
                  exact K110 x5 ls (lv_sub hl [0, 1, 2, 4, 5] rfl) h
      unfold g_X7_fewest_41 at h
      refine lv_iload hx hb dX7_fewest_41 (lv_at hl 4 rfl) ?_
      refine lv_iconst (v := (1 : Int32)) hx hb dX7_fewest_43 (by decide) ?_
      refine lv_aload_n hx hb dX7_fewest_44 rfl (lv_at hl 0 rfl) ?_
      refine va_get (D := D) (ci := 7) (v := .int (u0 0 0)) (C := RX7) (T := TX7) (N := 33) hx hb hts hiX7 hown hK hP 0 rfl rfl 0 (by decide) (hts (.fieldLink RX7 124 "ClockOnceModel" "things" "I") (List.mem_of_getElem? (i := 1) rfl)) (fun _ h9 => h9) rfl dX7_fewest_45 ?_
      refine lv_ishl hx hb dX7_fewest_48 ?_
      refine lv_icmp_ge (tgt := 128) hx hb dX7_fewest_49 (by decide) (fun q_11 => ?_) (fun q_11 => ?_)
      · have h := mk_ifp q_11 h
        exact K128 x1 x2 x3 ls (lv_sub hl [0, 1, 2, 3] rfl) h
      · have h := mk_ifn q_11 h
        refine lv_iload_n hx hb dX7_fewest_52 rfl (lv_at hl 3 rfl) ?_
        refine lv_if_eq (tgt := 128) hx hb dX7_fewest_53 (by decide) (fun q_12 => ?_) (fun q_12 => ?_)
        · have h := mk_ifp q_12 h
          exact K128 x1 x2 x3 ls (lv_sub hl [0, 1, 2, 3] rfl) h
        · have h := mk_ifn q_12 h
          refine lv_iconst (v := (0 : Int32)) hx hb dX7_fewest_56 (by decide) ?_
          refine lv_istore (lv' := [(5, .int (0 : Int32)), (0, .ref (a0 0)), (1, .int x1), (2, .int x2), (3, .int x3), (4, .int x4)]) hx hb dX7_fewest_57 hl (by decide) rfl (fun ls hl => ?_)
          exact K59 x3 x4 (0 : Int32) ls (lv_sub hl [1, 2, 3, 4, 5, 0] rfl) h
    have K32 : ∀ (x1 : Int32) (x2 : Int32) (ls : Array Slot), lv_has ls 6 [(0, .ref (a0 0)), (1, .int x1), (2, .int x2)] → g_X7_fewest_32 N u0 sd rec5 x1 x2 = some out → W p l e rm_X7_fewest s m args below meth c H [] 0 0 Q (F0 m 32 ls []) := by
      intro x1 x2 ls hl h
      unfold g_X7_fewest_32 at h
      refine lv_iconst (v := (1 : Int32)) hx hb dX7_fewest_32 (by decide) ?_
      refine lv_goto (tgt := 37) hx hb dX7_fewest_33 (by decide) ?_
      refine lv_istore_n (lv' := [(3, .int (1 : Int32)), (0, .ref (a0 0)), (1, .int x1), (2, .int x2)]) hx hb dX7_fewest_37 rfl hl (by decide) rfl (fun ls hl => ?_)
      refine lv_iconst (v := (0 : Int32)) hx hb dX7_fewest_38 (by decide) ?_
      refine lv_istore (lv' := [(4, .int (0 : Int32)), (3, .int (1 : Int32)), (0, .ref (a0 0)), (1, .int x1), (2, .int x2)]) hx hb dX7_fewest_39 hl (by decide) rfl (fun ls hl => ?_)
      exact K41 x1 x2 (1 : Int32) (0 : Int32) ls (lv_sub hl [2, 3, 4, 1, 0] rfl) h
    unfold g_X7_fewest_5 at h
    refine lv_iload_n hx hb dX7_fewest_5 rfl (lv_at hl 2 rfl) ?_
    refine lv_iconst (v := (1 : Int32)) hx hb dX7_fewest_6 (by decide) ?_
    refine lv_aload_n hx hb dX7_fewest_7 rfl (lv_at hl 0 rfl) ?_
    refine va_get (D := D) (ci := 7) (v := .int (u0 0 0)) (C := RX7) (T := TX7) (N := 33) hx hb hts hiX7 hown hK hP 0 rfl rfl 0 (by decide) (hts (.fieldLink RX7 124 "ClockOnceModel" "things" "I") (List.mem_of_getElem? (i := 1) rfl)) (fun _ h9 => h9) rfl dX7_fewest_8 ?_
    refine lv_ishl hx hb dX7_fewest_11 ?_
    refine lv_icmp_ge (tgt := 144) hx hb dX7_fewest_12 (by decide) (fun q_13 => ?_) (fun q_13 => ?_)
    · have h := mk_ifp q_13 h
      refine lv_iload_n hx hb dX7_fewest_144 rfl (lv_at hl 1 rfl) ?_
      exact hret _ _ _ h dX7_fewest_145
    · have h := mk_ifn q_13 h
      refine lv_iload_n hx hb dX7_fewest_15 rfl (lv_at hl 1 rfl) ?_
      refine lv_bipush (v := (-9 : Int32)) hx hb dX7_fewest_16 (by decide) ?_
      refine lv_icmp_eq (tgt := 32) hx hb dX7_fewest_18 (by decide) (fun q_14 => ?_) (fun q_14 => ?_)
      · have h := mk_ifp q_14 h
        exact K32 x1 x2 ls (lv_sub hl [0, 1, 2] rfl) h
      · have h := mk_ifn q_14 h
        refine lv_iload_n hx hb dX7_fewest_21 rfl (lv_at hl 2 rfl) ?_
        obtain ⟨r_15, er_15, h⟩ := mk_bd h
        refine pc_s (As := [.int x2]) (rest := []) ⟨hx, hb, hml, hown, hts⟩ (c_X7_ones l D cI cZ cO N x2 r_15 er_15) (va_cwS 1 hts k_X7_fewest_X7_ones_213 rfl rfl rfl (by decide +kernel) ⟨(Nat.le_of_ble_eq_true rfl), (Nat.le_of_ble_eq_true rfl)⟩) (hP.sub (ws' := []) [] rfl) hK rfl hl.1 rfl (Nat.le_of_ble_eq_true rfl) dX7_fewest_22 ⟨Nat.zero_le _, Nat.zero_le _⟩ ?_
        refine lv_iload_n hx hb dX7_fewest_25 rfl (lv_at hl 1 rfl) ?_
        obtain ⟨r_16, er_16, h⟩ := mk_bd h
        refine pc_s (As := [.int x1]) (rest := [.int r_15]) ⟨hx, hb, hml, hown, hts⟩ (c_X7_ones l D cI cZ cO N x1 r_16 er_16) (va_cwS 1 hts k_X7_fewest_X7_ones_213 rfl rfl rfl (by decide +kernel) ⟨(Nat.le_of_ble_eq_true rfl), (Nat.le_of_ble_eq_true rfl)⟩) (hP.sub (ws' := []) [] rfl) hK rfl hl.1 rfl (Nat.le_of_ble_eq_true rfl) dX7_fewest_26 ⟨Nat.zero_le _, Nat.zero_le _⟩ ?_
        refine lv_icmp_ge (tgt := 36) hx hb dX7_fewest_29 (by decide) (fun q_17 => ?_) (fun q_17 => ?_)
        · have h := mk_ifp q_17 h
          refine lv_iconst (v := (0 : Int32)) hx hb dX7_fewest_36 (by decide) ?_
          refine lv_istore_n (lv' := [(3, .int (0 : Int32)), (0, .ref (a0 0)), (1, .int x1), (2, .int x2)]) hx hb dX7_fewest_37 rfl hl (by decide) rfl (fun ls hl => ?_)
          refine lv_iconst (v := (0 : Int32)) hx hb dX7_fewest_38 (by decide) ?_
          refine lv_istore (lv' := [(4, .int (0 : Int32)), (3, .int (0 : Int32)), (0, .ref (a0 0)), (1, .int x1), (2, .int x2)]) hx hb dX7_fewest_39 hl (by decide) rfl (fun ls hl => ?_)
          exact K41 x1 x2 (0 : Int32) (0 : Int32) ls (lv_sub hl [2, 3, 4, 1, 0] rfl) h
        · have h := mk_ifn q_17 h
          exact K32 x1 x2 ls (lv_sub hl [0, 1, 2] rfl) h
  unfold f_X7_fewest at h
  refine lv_bipush (v := (-9 : Int32)) hx hb dX7_fewest_0 (by decide) ?_
  refine lv_istore_n (lv' := [(1, .int (-9 : Int32)), (0, .ref (a0 0))]) hx hb dX7_fewest_2 rfl hl (by decide) rfl (fun ls hl => ?_)
  refine lv_iconst (v := (0 : Int32)) hx hb dX7_fewest_3 (by decide) ?_
  refine lv_istore_n (lv' := [(2, .int (0 : Int32)), (1, .int (-9 : Int32)), (0, .ref (a0 0))]) hx hb dX7_fewest_4 rfl hl (by decide) rfl (fun ls hl => ?_)
  exact K5 (-9 : Int32) (0 : Int32) ls (lv_sub hl [2, 1, 0] rfl) h

abbrev rm_X7_holds : Room := { frames := 4, cells := 0, slots := 0, locals := 92 }
set_option maxRecDepth 20000 in
theorem k_X7_holds_X7_heard_149 : GoodIn wsX7_holds (wsV RX7 149 RX7 yX7_heard wsX7_heard) := goodIn_r _ [12, 13, 14, 6, 15, 8, 2, 9, 10, 6, 11, 47, 48, 49, 50, 51, 52, 53, 54, 55, 56, 57, 58, 59, 60, 61, 62, 63, 64, 65, 66, 67, 68, 69, 70, 71, 72, 73, 74, 75, 76, 77, 78, 79] rfl (by decide +kernel)
set_option maxRecDepth 20000 in
theorem k_X7_holds_X7_isPossible_171 : GoodIn wsX7_holds (wsV RX7 171 RX7 yX7_isPossible wsX7_isPossible) := goodIn_r _ [16, 17, 18, 6, 19, 20, 21, 22, 6, 23, 1, 24, 25, 26, 27, 28, 29, 30, 31, 32, 33, 34, 35, 36, 37, 38, 39, 40, 41, 42, 43, 44, 45, 46, 47, 48, 49, 50, 51, 52, 53, 54, 55, 56, 57, 58, 59, 60, 61, 62, 63, 64, 65, 66, 67, 68, 69, 70, 71, 72, 73, 74, 75, 76, 77, 78, 79] rfl (by decide +kernel)
set_option maxRecDepth 20000 in
theorem k_X7_holds_X7_isAsker_146 : GoodIn wsX7_holds (wsV RX7 146 RX7 yX7_isAsker wsX7_isAsker) := goodIn_r _ [3, 4, 5, 6, 7, 8, 9, 10, 6, 11, 47, 48, 49, 50, 51, 52, 53, 54, 55, 56, 57, 58, 59, 60, 61, 62, 63, 64, 65, 66, 67, 68, 69, 70, 71, 72, 73, 74, 75, 76, 77, 78, 79] rfl (by decide +kernel)
set_option maxHeartbeats 4000000 in
set_option maxRecDepth 100000 in
theorem c_X7_holds (l : Launch) (D : va_G) (cI cZ cO : ClassId) (N : Nat) (a0 : Nat → Nat) (u0 : TU) (sd : Int64) (p1 : Int32) (out : Int32) (h : f_X7_holds N u0 sd p1 = some out) : Met l yX7_holds wsX7_holds rm_X7_holds (va_Pc [.ref (a0 0), .int p1] (fun U => va_P D vwCl (wX7 cI cZ a0 u0 sd) U.heap ∧ va_K D vwCl (tyA cI cZ cO) U)) (vp_Si (fun r => r = out)) 0 0 (fun _ => False) := by
  refine pm_i (own := RX7) (cc := cX7_holds) (maxL := 4) (by decide) rfl rfl (Nat.le_of_ble_eq_true rfl) ?_
  intro p e s m args below meth c Q H ls hx hb hml hown hts hP hK hl hret
  have hl : lv_has ls 4 [(0, .ref (a0 0)), (1, .int p1)] := hl
  have hiX7 : ∀ w ∈ u_ws RX7 TX7 33, w ∈ wsX7_holds := mk_seg 47 33 rfl
  have K14 : ∀ (x1 : Int32) (x2 : Int32) (x3 : Int32) (ls : Array Slot), lv_has ls 4 [(0, .ref (a0 0)), (1, .int x1), (2, .int x2), (3, .int x3)] → lq2 (g_X7_holds_14 N u0 sd x1) N x2 x3 = some out → W p l e rm_X7_holds s m args below meth c H [] 0 0 Q (F0 m 14 ls []) := by
    intro x1 x2 x3 ls hl h
    refine lq2_W (Wd := fun x2 x3 => ∀ (ls : Array Slot), lv_has ls 4 [(0, .ref (a0 0)), (1, .int x1), (2, .int x2), (3, .int x3)] → W p l e rm_X7_holds s m args below meth c H [] 0 0 Q (F0 m 14 ls [])) (fun rec14 ih14 x2 x3 h ls hl => ?_) N x2 x3 h ls hl
    unfold g_X7_holds_14 at h
    refine lv_iload_n hx hb dX7_holds_14 rfl (lv_at hl 3 rfl) ?_
    refine lv_iconst (v := (1 : Int32)) hx hb dX7_holds_15 (by decide) ?_
    refine lv_aload_n hx hb dX7_holds_16 rfl (lv_at hl 0 rfl) ?_
    refine va_get (D := D) (ci := 7) (v := .int (u0 0 0)) (C := RX7) (T := TX7) (N := 33) hx hb hts hiX7 hown hK hP 0 rfl rfl 0 (by decide) (hts (.fieldLink RX7 124 "ClockOnceModel" "things" "I") (List.mem_of_getElem? (i := 1) rfl)) (fun _ h9 => h9) rfl dX7_holds_17 ?_
    refine lv_ishl hx hb dX7_holds_20 ?_
    refine lv_icmp_ge (tgt := 57) hx hb dX7_holds_21 (by decide) (fun q_1 => ?_) (fun q_1 => ?_)
    · have h := mk_ifp q_1 h
      refine lv_iload_n hx hb dX7_holds_57 rfl (lv_at hl 2 rfl) ?_
      exact hret _ _ _ h dX7_holds_58
    · have h := mk_ifn q_1 h
      refine lv_iload_n hx hb dX7_holds_24 rfl (lv_at hl 2 rfl) ?_
      refine lv_aload_n hx hb dX7_holds_25 rfl (lv_at hl 0 rfl) ?_
      refine lv_iload_n hx hb dX7_holds_26 rfl (lv_at hl 3 rfl) ?_
      refine lv_aload_n hx hb dX7_holds_27 rfl (lv_at hl 0 rfl) ?_
      refine va_get (D := D) (ci := 7) (v := .ref (a0 11)) (C := RX7) (T := TX7) (N := 33) hx hb hts hiX7 hown hK hP 0 rfl rfl 16 (by decide) (hts (.fieldLink RX7 40 "ClockOnceModel" "now" "[I") (List.mem_of_getElem? (i := 2) rfl)) (fun _ h9 => h9) rfl dX7_holds_28 ?_
      refine lv_iconst (v := (0 : Int32)) hx hb dX7_holds_31 (by decide) ?_
      obtain ⟨v_2, ev_2, hiv_2, h⟩ := mk_rdE h
      refine va_iald hx hb hK hP 11 0 rfl rfl hiv_2 dX7_holds_32 ?_
      refine mk_topi ev_2 ?_
      refine lv_aload_n hx hb dX7_holds_33 rfl (lv_at hl 0 rfl) ?_
      refine lv_iload_n hx hb dX7_holds_34 rfl (lv_at hl 1 rfl) ?_
      obtain ⟨r_3, er_3, h⟩ := mk_bd h
      refine pc_v (As := [.int x1]) (rest := [.int v_2, .int x3, .ref (a0 0), .int x2]) ⟨hx, hb, hml, hown, hts⟩ (c_X7_heard l D cI cZ cO N a0 u0 sd x1 r_3 er_3) (cwV 1 hts k_X7_holds_X7_heard_149 rfl rfl rfl (by decide +kernel) ⟨(Nat.le_of_ble_eq_true rfl), (Nat.le_of_ble_eq_true rfl)⟩) (va_recv hK hP (ci := 7) (q0 := 0) rfl rfl) hP hK rfl hl.1 rfl (Nat.le_of_ble_eq_true rfl) dX7_holds_35 ⟨Nat.zero_le _, Nat.zero_le _⟩ ?_
      obtain ⟨r_4, er_4, h⟩ := mk_bd h
      refine pc_v (As := [.int x3, .int v_2, .int r_3]) (rest := [.int x2]) ⟨hx, hb, hml, hown, hts⟩ (c_X7_isPossible l D cI cZ cO N a0 u0 sd x3 v_2 r_3 r_4 er_4) (cwV 3 hts k_X7_holds_X7_isPossible_171 rfl rfl rfl (by decide +kernel) ⟨(Nat.le_of_ble_eq_true rfl), (Nat.le_of_ble_eq_true rfl)⟩) (va_recv hK hP (ci := 7) (q0 := 0) rfl rfl) hP hK rfl hl.1 rfl (Nat.le_of_ble_eq_true rfl) dX7_holds_38 ⟨Nat.zero_le _, Nat.zero_le _⟩ ?_
      refine lv_if_eq (tgt := 48) hx hb dX7_holds_41 (by decide) (fun q_5 => ?_) (fun q_5 => ?_)
      · have h := mk_ifp q_5 h
        refine lv_iconst (v := (0 : Int32)) hx hb dX7_holds_48 (by decide) ?_
        refine lv_iadd hx hb dX7_holds_49 ?_
        refine lv_istore_n (lv' := [(2, .int (x2 + (0 : Int32))), (0, .ref (a0 0)), (1, .int x1), (3, .int x3)]) hx hb dX7_holds_50 rfl hl (by decide) rfl (fun ls hl => ?_)
        refine lv_iinc (v := (x3 + (1 : Int32))) (lv' := [(3, .int (x3 + (1 : Int32))), (2, .int (x2 + (0 : Int32))), (0, .ref (a0 0)), (1, .int x1)]) hx hb dX7_holds_51 hl (k := 3) rfl rfl (by decide) rfl (fun ls hl => ?_)
        refine lv_goto (tgt := 14) hx hb dX7_holds_54 (by decide) ?_
        exact ih14 (x2 + (0 : Int32)) (x3 + (1 : Int32)) h ls (lv_sub hl [2, 3, 1, 0] rfl)
      · have h := mk_ifn q_5 h
        refine lv_iconst (v := (1 : Int32)) hx hb dX7_holds_44 (by decide) ?_
        refine lv_goto (tgt := 49) hx hb dX7_holds_45 (by decide) ?_
        refine lv_iadd hx hb dX7_holds_49 ?_
        refine lv_istore_n (lv' := [(2, .int (x2 + (1 : Int32))), (0, .ref (a0 0)), (1, .int x1), (3, .int x3)]) hx hb dX7_holds_50 rfl hl (by decide) rfl (fun ls hl => ?_)
        refine lv_iinc (v := (x3 + (1 : Int32))) (lv' := [(3, .int (x3 + (1 : Int32))), (2, .int (x2 + (1 : Int32))), (0, .ref (a0 0)), (1, .int x1)]) hx hb dX7_holds_51 hl (k := 3) rfl rfl (by decide) rfl (fun ls hl => ?_)
        refine lv_goto (tgt := 14) hx hb dX7_holds_54 (by decide) ?_
        exact ih14 (x2 + (1 : Int32)) (x3 + (1 : Int32)) h ls (lv_sub hl [2, 3, 1, 0] rfl)
  unfold f_X7_holds at h
  refine lv_aload_n hx hb dX7_holds_0 rfl (lv_at hl 0 rfl) ?_
  refine lv_iload_n hx hb dX7_holds_1 rfl (lv_at hl 1 rfl) ?_
  obtain ⟨r_6, er_6, h⟩ := mk_bd h
  refine pc_v (As := [.int p1]) (rest := []) ⟨hx, hb, hml, hown, hts⟩ (c_X7_isAsker l D cI cZ cO N a0 u0 sd p1 r_6 er_6) (cwV 1 hts k_X7_holds_X7_isAsker_146 rfl rfl rfl (by decide +kernel) ⟨(Nat.le_of_ble_eq_true rfl), (Nat.le_of_ble_eq_true rfl)⟩) (va_recv hK hP (ci := 7) (q0 := 0) rfl rfl) hP hK rfl hl.1 rfl (Nat.le_of_ble_eq_true rfl) dX7_holds_2 ⟨Nat.zero_le _, Nat.zero_le _⟩ ?_
  refine lv_if_ne (tgt := 10) hx hb dX7_holds_5 (by decide) (fun q_7 => ?_) (fun q_7 => ?_)
  · have h := mk_ifn q_7 h
    refine lv_iconst (v := (0 : Int32)) hx hb dX7_holds_10 (by decide) ?_
    refine lv_istore_n (lv' := [(2, .int (0 : Int32)), (0, .ref (a0 0)), (1, .int p1)]) hx hb dX7_holds_11 rfl hl (by decide) rfl (fun ls hl => ?_)
    refine lv_iconst (v := (0 : Int32)) hx hb dX7_holds_12 (by decide) ?_
    refine lv_istore_n (lv' := [(3, .int (0 : Int32)), (2, .int (0 : Int32)), (0, .ref (a0 0)), (1, .int p1)]) hx hb dX7_holds_13 rfl hl (by decide) rfl (fun ls hl => ?_)
    exact K14 p1 (0 : Int32) (0 : Int32) ls (lv_sub hl [2, 3, 1, 0] rfl) h
  · have h := mk_ifp q_7 h
    refine lv_iconst (v := (-1 : Int32)) hx hb dX7_holds_8 (by decide) ?_
    exact hret _ _ _ h dX7_holds_9

abbrev rm_X7_power : Room := { frames := 0, cells := 0, slots := 0, locals := 0 }
set_option maxHeartbeats 4000000 in
set_option maxRecDepth 100000 in
theorem c_X7_power (l : Launch) (D : va_G) (cI cZ cO : ClassId) (N : Nat) (p0 : Int32) (out : Int32) (h : f_X7_power N  p0 = some out) : Met l yX7_power wsX7_power rm_X7_power (va_Pc [.int p0] (fun U => va_P D vwCl [] U.heap ∧ va_K D vwCl (tyA cI cZ cO) U)) (vp_Si (fun r => r = out)) 0 0 (fun _ => False) := by
  refine pm_i (own := RX7) (cc := cX7_power) (maxL := 3) (by decide) rfl rfl (Nat.le_of_ble_eq_true rfl) ?_
  intro p e s m args below meth c Q H ls hx hb hml hown hts hP hK hl hret
  have hl : lv_has ls 3 [(0, .int p0)] := hl
  have K4 : ∀ (x0 : Int32) (x1 : Int32) (x2 : Int32) (ls : Array Slot), lv_has ls 3 [(0, .int x0), (1, .int x1), (2, .int x2)] → lq2 (g_X7_power_4 N x0) N x1 x2 = some out → W p l e rm_X7_power s m args below meth c H [] 0 0 Q (F0 m 4 ls []) := by
    intro x0 x1 x2 ls hl h
    refine lq2_W (Wd := fun x1 x2 => ∀ (ls : Array Slot), lv_has ls 3 [(0, .int x0), (1, .int x1), (2, .int x2)] → W p l e rm_X7_power s m args below meth c H [] 0 0 Q (F0 m 4 ls [])) (fun rec4 ih4 x1 x2 h ls hl => ?_) N x1 x2 h ls hl
    unfold g_X7_power_4 at h
    refine lv_iload_n hx hb dX7_power_4 rfl (lv_at hl 2 rfl) ?_
    refine lv_iload_n hx hb dX7_power_5 rfl (lv_at hl 0 rfl) ?_
    refine lv_icmp_ge (tgt := 20) hx hb dX7_power_6 (by decide) (fun q_1 => ?_) (fun q_1 => ?_)
    · have h := mk_ifp q_1 h
      refine lv_iload_n hx hb dX7_power_20 rfl (lv_at hl 1 rfl) ?_
      exact hret _ _ _ h dX7_power_21
    · have h := mk_ifn q_1 h
      refine lv_iload_n hx hb dX7_power_9 rfl (lv_at hl 1 rfl) ?_
      refine lv_bipush (v := (10 : Int32)) hx hb dX7_power_10 (by decide) ?_
      refine lv_imul hx hb dX7_power_12 ?_
      refine lv_istore_n (lv' := [(1, .int (x1 * (10 : Int32))), (0, .int x0), (2, .int x2)]) hx hb dX7_power_13 rfl hl (by decide) rfl (fun ls hl => ?_)
      refine lv_iinc (v := (x2 + (1 : Int32))) (lv' := [(2, .int (x2 + (1 : Int32))), (1, .int (x1 * (10 : Int32))), (0, .int x0)]) hx hb dX7_power_14 hl (k := 2) rfl rfl (by decide) rfl (fun ls hl => ?_)
      refine lv_goto (tgt := 4) hx hb dX7_power_17 (by decide) ?_
      exact ih4 (x1 * (10 : Int32)) (x2 + (1 : Int32)) h ls (lv_sub hl [2, 1, 0] rfl)
  unfold f_X7_power at h
  refine lv_iconst (v := (1 : Int32)) hx hb dX7_power_0 (by decide) ?_
  refine lv_istore_n (lv' := [(1, .int (1 : Int32)), (0, .int p0)]) hx hb dX7_power_1 rfl hl (by decide) rfl (fun ls hl => ?_)
  refine lv_iconst (v := (0 : Int32)) hx hb dX7_power_2 (by decide) ?_
  refine lv_istore_n (lv' := [(2, .int (0 : Int32)), (1, .int (1 : Int32)), (0, .int p0)]) hx hb dX7_power_3 rfl hl (by decide) rfl (fun ls hl => ?_)
  exact K4 p0 (1 : Int32) (0 : Int32) ls (lv_sub hl [2, 1, 0] rfl) h

abbrev rm_X7_judge : Room := { frames := 2, cells := 0, slots := 0, locals := 46 }
set_option maxRecDepth 20000 in
theorem k_X7_judge_X7_power_239 : GoodIn wsX7_judge (va_wsS RX7 239 yX7_power wsX7_power) := goodIn_r _ [8, 9, 6, 10] rfl (by decide +kernel)
set_option maxRecDepth 20000 in
theorem k_X7_judge_X7_isThing_136 : GoodIn wsX7_judge (wsV RX7 136 RX7 yX7_isThing wsX7_isThing) := goodIn_r _ [11, 12, 13, 6, 14, 3, 4, 5, 6, 7, 23, 24, 25, 26, 27, 28, 29, 30, 31, 32, 33, 34, 35, 36, 37, 38, 39, 40, 41, 42, 43, 44, 45, 46, 47, 48, 49, 50, 51, 52, 53, 54, 55] rfl (by decide +kernel)
set_option maxRecDepth 20000 in
theorem k_X7_judge_X7_has_89 : GoodIn wsX7_judge (va_wsS RX7 89 yX7_has wsX7_has) := goodIn_r _ [15, 16, 6, 17] rfl (by decide +kernel)
set_option maxRecDepth 20000 in
theorem k_X7_judge_X7_trueEnd_140 : GoodIn wsX7_judge (wsV RX7 140 RX7 yX7_trueEnd wsX7_trueEnd) := goodIn_r _ [18, 19, 20, 6, 21, 22, 23, 24, 25, 26, 27, 28, 29, 30, 31, 32, 33, 34, 35, 36, 37, 38, 39, 40, 41, 42, 43, 44, 45, 46, 47, 48, 49, 50, 51, 52, 53, 54, 55] rfl (by decide +kernel)
set_option maxRecDepth 20000 in
theorem k_X7_judge_X7_in_73 : GoodIn wsX7_judge (va_wsS RX7 73 yX7_in wsX7_in) := goodIn_r _ [4, 5, 6, 7] rfl (by decide +kernel)
set_option maxHeartbeats 4000000 in
set_option maxRecDepth 100000 in
theorem c_X7_judge (l : Launch) (D : va_G) (cI cZ cO : ClassId) (N : Nat) (a0 : Nat → Nat) (u0 : TU) (sd : Int64) (p1 : Int32) (p2 : Int32) (out : Int32) (h : f_X7_judge N u0 sd p1 p2 = some out) : Met l yX7_judge wsX7_judge rm_X7_judge (va_Pc [.ref (a0 0), .int p1, .int p2] (fun U => va_P D vwCl (wX7 cI cZ a0 u0 sd) U.heap ∧ va_K D vwCl (tyA cI cZ cO) U)) (vp_Si (fun r => r = out)) 0 0 (fun _ => False) := by
  refine pm_i (own := RX7) (cc := cX7_judge) (maxL := 8) (by decide) rfl rfl (Nat.le_of_ble_eq_true rfl) ?_
  intro p e s m args below meth c Q H ls hx hb hml hown hts hP hK hl hret
  have hl : lv_has ls 8 [(0, .ref (a0 0)), (1, .int p1), (2, .int p2)] := hl
  have hiX7 : ∀ w ∈ u_ws RX7 TX7 33, w ∈ wsX7_judge := mk_seg 23 33 rfl
  have K89 : ∀ (x1 : Int32) (x2 : Int32) (x3 : Int32) (x4 : Int32) (x5 : Int32) (ls : Array Slot), lv_has ls 8 [(0, .ref (a0 0)), (1, .int x1), (2, .int x2), (3, .int x3), (4, .int x4), (5, .int x5)] → lq3 (g_X7_judge_89 N u0 sd x1 x2) N x3 x4 x5 = some out → W p l e rm_X7_judge s m args below meth c H [] 0 0 Q (F0 m 89 ls []) := by
    intro x1 x2 x3 x4 x5 ls hl h
    refine lq3_W (Wd := fun x3 x4 x5 => ∀ (ls : Array Slot), lv_has ls 8 [(0, .ref (a0 0)), (1, .int x1), (2, .int x2), (3, .int x3), (4, .int x4), (5, .int x5)] → W p l e rm_X7_judge s m args below meth c H [] 0 0 Q (F0 m 89 ls [])) (fun rec89 ih89 x3 x4 x5 h ls hl => ?_) N x3 x4 x5 h ls hl
    have K187 : ∀ (x4 : Int32) (x5 : Int32) (x6 : Int32) (t0 : Int32) (t1 : Int32) (ls : Array Slot), lv_has ls 8 [(0, .ref (a0 0)), (1, .int x1), (2, .int x2), (4, .int x4), (5, .int x5), (6, .int x6)] → g_X7_judge_187 N u0 sd rec89 x1 x2 x4 x5 x6 t0 t1 = some out → W p l e rm_X7_judge s m args below meth c H [] 0 0 Q (F0 m 187 ls [.int t1, .int t0]) := by
      intro x4 x5 x6 t0 t1 ls hl h
      unfold g_X7_judge_187 at h
      refine lv_iadd hx hb dX7_judge_187 ?_
      refine lv_istore_n (lv' := [(3, .int (t0 + t1)), (0, .ref (a0 0)), (1, .int x1), (2, .int x2), (4, .int x4), (5, .int x5), (6, .int x6)]) hx hb dX7_judge_188 rfl hl (by decide) rfl (fun ls hl => ?_)
      refine lv_iload hx hb dX7_judge_189 (lv_at hl 4 rfl) ?_
      refine lv_iload hx hb dX7_judge_191 (lv_at hl 6 rfl) ?_
      refine lv_iconst (v := (4 : Int32)) hx hb dX7_judge_193 (by decide) ?_
      refine lv_icmp_ne (tgt := 201) hx hb dX7_judge_194 (by decide) (fun q_1 => ?_) (fun q_1 => ?_)
      · have h := mk_ifn q_1 h
        refine lv_iconst (v := (1 : Int32)) hx hb dX7_judge_201 (by decide) ?_
        refine lv_iload hx hb dX7_judge_202 (lv_at hl 6 rfl) ?_
        refine lv_ishl hx hb dX7_judge_204 ?_
        refine lv_ior hx hb dX7_judge_205 ?_
        refine lv_istore (lv' := [(4, .int (x4 ||| ((1 : Int32) <<< (x6 &&& 31)))), (3, .int (t0 + t1)), (0, .ref (a0 0)), (1, .int x1), (2, .int x2), (5, .int x5), (6, .int x6)]) hx hb dX7_judge_206 hl (by decide) rfl (fun ls hl => ?_)
        refine lv_iinc (v := (x5 + (1 : Int32))) (lv' := [(5, .int (x5 + (1 : Int32))), (4, .int (x4 ||| ((1 : Int32) <<< (x6 &&& 31)))), (3, .int (t0 + t1)), (0, .ref (a0 0)), (1, .int x1), (2, .int x2), (6, .int x6)]) hx hb dX7_judge_208 hl (k := 5) rfl rfl (by decide) rfl (fun ls hl => ?_)
        refine lv_goto (tgt := 89) hx hb dX7_judge_211 (by decide) ?_
        exact ih89 (t0 + t1) (x4 ||| ((1 : Int32) <<< (x6 &&& 31))) (x5 + (1 : Int32)) h ls (lv_sub hl [3, 4, 5, 2, 1, 0] rfl)
      · have h := mk_ifp q_1 h
        refine lv_iconst (v := (0 : Int32)) hx hb dX7_judge_197 (by decide) ?_
        refine lv_goto (tgt := 205) hx hb dX7_judge_198 (by decide) ?_
        refine lv_ior hx hb dX7_judge_205 ?_
        refine lv_istore (lv' := [(4, .int (x4 ||| (0 : Int32))), (3, .int (t0 + t1)), (0, .ref (a0 0)), (1, .int x1), (2, .int x2), (5, .int x5), (6, .int x6)]) hx hb dX7_judge_206 hl (by decide) rfl (fun ls hl => ?_)
        refine lv_iinc (v := (x5 + (1 : Int32))) (lv' := [(5, .int (x5 + (1 : Int32))), (4, .int (x4 ||| (0 : Int32))), (3, .int (t0 + t1)), (0, .ref (a0 0)), (1, .int x1), (2, .int x2), (6, .int x6)]) hx hb dX7_judge_208 hl (k := 5) rfl rfl (by decide) rfl (fun ls hl => ?_)
        refine lv_goto (tgt := 89) hx hb dX7_judge_211 (by decide) ?_
        exact ih89 (t0 + t1) (x4 ||| (0 : Int32)) (x5 + (1 : Int32)) h ls (lv_sub hl [3, 4, 5, 2, 1, 0] rfl)
    have K165 : ∀ (x3 : Int32) (x4 : Int32) (x5 : Int32) (x6 : Int32) (t0 : Int32) (ls : Array Slot), lv_has ls 8 [(0, .ref (a0 0)), (1, .int x1), (2, .int x2), (3, .int x3), (4, .int x4), (5, .int x5), (6, .int x6)] → g_X7_judge_165 N u0 sd rec89 x1 x2 x3 x4 x5 x6 t0 = some out → W p l e rm_X7_judge s m args below meth c H [] 0 0 Q (F0 m 165 ls [.int t0]) := by
      intro x3 x4 x5 x6 t0 ls hl h
      unfold g_X7_judge_165 at h
      refine lv_istore (lv' := [(7, .int t0), (0, .ref (a0 0)), (1, .int x1), (2, .int x2), (3, .int x3), (4, .int x4), (5, .int x5), (6, .int x6)]) hx hb dX7_judge_165 hl (by decide) rfl (fun ls hl => ?_)
      refine lv_iload hx hb dX7_judge_167 (lv_at hl 0 rfl) ?_
      refine lv_if_ne (tgt := 175) hx hb dX7_judge_169 (by decide) (fun q_2 => ?_) (fun q_2 => ?_)
      · have h := mk_ifn q_2 h
        refine lv_iload_n hx hb dX7_judge_175 rfl (lv_at hl 4 rfl) ?_
        refine lv_iload hx hb dX7_judge_176 (lv_at hl 7 rfl) ?_
        refine lv_iconst (v := (4 : Int32)) hx hb dX7_judge_178 (by decide) ?_
        refine lv_icmp_ne (tgt := 186) hx hb dX7_judge_179 (by decide) (fun q_3 => ?_) (fun q_3 => ?_)
        · have h := mk_ifn q_3 h
          refine lv_iconst (v := (0 : Int32)) hx hb dX7_judge_186 (by decide) ?_
          exact K187 x4 x5 x6 x3 (0 : Int32) ls (lv_sub hl [1, 2, 3, 5, 6, 7] rfl) h
        · have h := mk_ifp q_3 h
          refine lv_iconst (v := (1 : Int32)) hx hb dX7_judge_182 (by decide) ?_
          refine lv_goto (tgt := 187) hx hb dX7_judge_183 (by decide) ?_
          exact K187 x4 x5 x6 x3 (1 : Int32) ls (lv_sub hl [1, 2, 3, 5, 6, 7] rfl) h
      · have h := mk_ifp q_2 h
        refine lv_iload hx hb dX7_judge_172 (lv_at hl 6 rfl) ?_
        exact hret _ _ _ h dX7_judge_174
    unfold g_X7_judge_89 at h
    refine lv_iload hx hb dX7_judge_89 (lv_at hl 5 rfl) ?_
    refine lv_iload_n hx hb dX7_judge_91 rfl (lv_at hl 1 rfl) ?_
    refine lv_icmp_ge (tgt := 214) hx hb dX7_judge_92 (by decide) (fun q_4 => ?_) (fun q_4 => ?_)
    · have h := mk_ifp q_4 h
      refine lv_bipush (v := (-9 : Int32)) hx hb dX7_judge_214 (by decide) ?_
      exact hret _ _ _ h dX7_judge_216
    · have h := mk_ifn q_4 h
      refine lv_iload_n hx hb dX7_judge_95 rfl (lv_at hl 2 rfl) ?_
      refine lv_iload_n hx hb dX7_judge_96 rfl (lv_at hl 1 rfl) ?_
      refine lv_iconst (v := (1 : Int32)) hx hb dX7_judge_97 (by decide) ?_
      refine lv_isub hx hb dX7_judge_98 ?_
      refine lv_iload hx hb dX7_judge_99 (lv_at hl 5 rfl) ?_
      refine lv_isub hx hb dX7_judge_101 ?_
      obtain ⟨r_5, er_5, h⟩ := mk_bd h
      refine pc_s (As := [.int ((x1 - (1 : Int32)) - x5)]) (rest := [.int x2]) ⟨hx, hb, hml, hown, hts⟩ (c_X7_power l D cI cZ cO N ((x1 - (1 : Int32)) - x5) r_5 er_5) (va_cwS 1 hts k_X7_judge_X7_power_239 rfl rfl rfl (by decide +kernel) ⟨(Nat.le_of_ble_eq_true rfl), (Nat.le_of_ble_eq_true rfl)⟩) (hP.sub (ws' := []) [] rfl) hK rfl hl.1 rfl (Nat.le_of_ble_eq_true rfl) dX7_judge_102 ⟨Nat.zero_le _, Nat.zero_le _⟩ ?_
      obtain ⟨hz_6, h⟩ := mk_nzE h
      refine lv_idiv hx hb dX7_judge_105 hz_6 ?_
      refine lv_bipush (v := (10 : Int32)) hx hb dX7_judge_106 (by decide) ?_
      refine lv_irem hx hb dX7_judge_108 (by decide) ?_
      refine lv_istore (lv' := [(6, .int ((x2 / r_5) - (x2 / r_5) / (10 : Int32) * (10 : Int32))), (0, .ref (a0 0)), (1, .int x1), (2, .int x2), (3, .int x3), (4, .int x4), (5, .int x5)]) hx hb dX7_judge_109 hl (by decide) rfl (fun ls hl => ?_)
      refine lv_iload hx hb dX7_judge_111 (lv_at hl 0 rfl) ?_
      refine lv_iconst (v := (4 : Int32)) hx hb dX7_judge_113 (by decide) ?_
      refine lv_icmp_ne (tgt := 131) hx hb dX7_judge_114 (by decide) (fun q_7 => ?_) (fun q_7 => ?_)
      · have h := mk_ifn q_7 h
        refine lv_aload_n hx hb dX7_judge_131 rfl (lv_at hl 1 rfl) ?_
        refine lv_iload hx hb dX7_judge_132 (lv_at hl 0 rfl) ?_
        obtain ⟨r_8, er_8, h⟩ := mk_bd h
        refine pc_v (As := [.int ((x2 / r_5) - (x2 / r_5) / (10 : Int32) * (10 : Int32))]) (rest := []) ⟨hx, hb, hml, hown, hts⟩ (c_X7_isThing l D cI cZ cO N a0 u0 sd ((x2 / r_5) - (x2 / r_5) / (10 : Int32) * (10 : Int32)) r_8 er_8) (cwV 1 hts k_X7_judge_X7_isThing_136 rfl rfl rfl (by decide +kernel) ⟨(Nat.le_of_ble_eq_true rfl), (Nat.le_of_ble_eq_true rfl)⟩) (va_recv hK hP (ci := 7) (q0 := 0) rfl rfl) hP hK rfl hl.1 rfl (Nat.le_of_ble_eq_true rfl) dX7_judge_134 ⟨Nat.zero_le _, Nat.zero_le _⟩ ?_
        refine lv_if_eq (tgt := 164) hx hb dX7_judge_137 (by decide) (fun q_9 => ?_) (fun q_9 => ?_)
        · have h := mk_ifp q_9 h
          refine lv_iconst (v := (0 : Int32)) hx hb dX7_judge_164 (by decide) ?_
          exact K165 x3 x4 x5 ((x2 / r_5) - (x2 / r_5) / (10 : Int32) * (10 : Int32)) (0 : Int32) ls (lv_sub hl [1, 2, 3, 4, 5, 6, 0] rfl) h
        · have h := mk_ifn q_9 h
          refine lv_iload hx hb dX7_judge_140 (lv_at hl 5 rfl) ?_
          refine lv_iload hx hb dX7_judge_142 (lv_at hl 0 rfl) ?_
          obtain ⟨r_10, er_10, h⟩ := mk_bd h
          refine pc_s (As := [.int x4, .int ((x2 / r_5) - (x2 / r_5) / (10 : Int32) * (10 : Int32))]) (rest := []) ⟨hx, hb, hml, hown, hts⟩ (c_X7_has l D cI cZ cO N x4 ((x2 / r_5) - (x2 / r_5) / (10 : Int32) * (10 : Int32)) r_10 er_10) (va_cwS 2 hts k_X7_judge_X7_has_89 rfl rfl rfl (by decide +kernel) ⟨(Nat.le_of_ble_eq_true rfl), (Nat.le_of_ble_eq_true rfl)⟩) (hP.sub (ws' := []) [] rfl) hK rfl hl.1 rfl (Nat.le_of_ble_eq_true rfl) dX7_judge_144 ⟨Nat.zero_le _, Nat.zero_le _⟩ ?_
          refine lv_if_ne (tgt := 164) hx hb dX7_judge_147 (by decide) (fun q_11 => ?_) (fun q_11 => ?_)
          · have h := mk_ifn q_11 h
            refine lv_iconst (v := (0 : Int32)) hx hb dX7_judge_164 (by decide) ?_
            exact K165 x3 x4 x5 ((x2 / r_5) - (x2 / r_5) / (10 : Int32) * (10 : Int32)) (0 : Int32) ls (lv_sub hl [1, 2, 3, 4, 5, 6, 0] rfl) h
          · have h := mk_ifp q_11 h
            refine lv_aload_n hx hb dX7_judge_150 rfl (lv_at hl 1 rfl) ?_
            refine lv_iload hx hb dX7_judge_151 (lv_at hl 0 rfl) ?_
            obtain ⟨r_12, er_12, h⟩ := mk_bd h
            refine pc_v (As := [.int ((x2 / r_5) - (x2 / r_5) / (10 : Int32) * (10 : Int32))]) (rest := []) ⟨hx, hb, hml, hown, hts⟩ (c_X7_trueEnd l D cI cZ cO N a0 u0 sd ((x2 / r_5) - (x2 / r_5) / (10 : Int32) * (10 : Int32)) r_12 er_12) (cwV 1 hts k_X7_judge_X7_trueEnd_140 rfl rfl rfl (by decide +kernel) ⟨(Nat.le_of_ble_eq_true rfl), (Nat.le_of_ble_eq_true rfl)⟩) (va_recv hK hP (ci := 7) (q0 := 0) rfl rfl) hP hK rfl hl.1 rfl (Nat.le_of_ble_eq_true rfl) dX7_judge_153 ⟨Nat.zero_le _, Nat.zero_le _⟩ ?_
            refine lv_iload_n hx hb dX7_judge_156 rfl (lv_at hl 4 rfl) ?_
            refine lv_icmp_le (tgt := 164) hx hb dX7_judge_157 (by decide) (fun q_13 => ?_) (fun q_13 => ?_)
            · have h := mk_ifp q_13 h
              refine lv_iconst (v := (0 : Int32)) hx hb dX7_judge_164 (by decide) ?_
              exact K165 x3 x4 x5 ((x2 / r_5) - (x2 / r_5) / (10 : Int32) * (10 : Int32)) (0 : Int32) ls (lv_sub hl [1, 2, 3, 4, 5, 6, 0] rfl) h
            · have h := mk_ifn q_13 h
              refine lv_iconst (v := (1 : Int32)) hx hb dX7_judge_160 (by decide) ?_
              refine lv_goto (tgt := 165) hx hb dX7_judge_161 (by decide) ?_
              exact K165 x3 x4 x5 ((x2 / r_5) - (x2 / r_5) / (10 : Int32) * (10 : Int32)) (1 : Int32) ls (lv_sub hl [1, 2, 3, 4, 5, 6, 0] rfl) h
      · have h := mk_ifp q_7 h
        refine lv_iload_n hx hb dX7_judge_117 rfl (lv_at hl 4 rfl) ?_
        refine lv_bipush (v := (9 : Int32)) hx hb dX7_judge_118 (by decide) ?_
        refine lv_icmp_ge (tgt := 127) hx hb dX7_judge_120 (by decide) (fun q_14 => ?_) (fun q_14 => ?_)
        · have h := mk_ifp q_14 h
          refine lv_iconst (v := (0 : Int32)) hx hb dX7_judge_127 (by decide) ?_
          refine lv_goto (tgt := 165) hx hb dX7_judge_128 (by decide) ?_
          exact K165 x3 x4 x5 ((x2 / r_5) - (x2 / r_5) / (10 : Int32) * (10 : Int32)) (0 : Int32) ls (lv_sub hl [1, 2, 3, 4, 5, 6, 0] rfl) h
        · have h := mk_ifn q_14 h
          refine lv_iconst (v := (1 : Int32)) hx hb dX7_judge_123 (by decide) ?_
          refine lv_goto (tgt := 165) hx hb dX7_judge_124 (by decide) ?_
          exact K165 x3 x4 x5 ((x2 / r_5) - (x2 / r_5) / (10 : Int32) * (10 : Int32)) (1 : Int32) ls (lv_sub hl [1, 2, 3, 4, 5, 6, 0] rfl) h
  have K44 : ∀ (x1 : Int32) (x2 : Int32) (x3 : Int32) (x4 : Int32) (x5 : Int32) (ls : Array Slot), lv_has ls 8 [(0, .ref (a0 0)), (1, .int x1), (2, .int x2), (3, .int x3), (4, .int x4), (5, .int x5)] → lq2 (g_X7_judge_44 N u0 sd x1 x2 x3) N x4 x5 = some out → W p l e rm_X7_judge s m args below meth c H [] 0 0 Q (F0 m 44 ls []) := by
    intro x1 x2 x3 x4 x5 ls hl h
    refine lq2_W (Wd := fun x4 x5 => ∀ (ls : Array Slot), lv_has ls 8 [(0, .ref (a0 0)), (1, .int x1), (2, .int x2), (3, .int x3), (4, .int x4), (5, .int x5)] → W p l e rm_X7_judge s m args below meth c H [] 0 0 Q (F0 m 44 ls [])) (fun rec44 ih44 x4 x5 h ls hl => ?_) N x4 x5 h ls hl
    unfold g_X7_judge_44 at h
    refine lv_iload hx hb dX7_judge_44 (lv_at hl 5 rfl) ?_
    refine lv_aload_n hx hb dX7_judge_46 rfl (lv_at hl 0 rfl) ?_
    refine va_get (D := D) (ci := 7) (v := .int (u0 0 0)) (C := RX7) (T := TX7) (N := 33) hx hb hts hiX7 hown hK hP 0 rfl rfl 0 (by decide) (hts (.fieldLink RX7 124 "ClockOnceModel" "things" "I") (List.mem_of_getElem? (i := 3) rfl)) (fun _ h9 => h9) rfl dX7_judge_47 ?_
    refine lv_icmp_ge (tgt := 86) hx hb dX7_judge_50 (by decide) (fun q_15 => ?_) (fun q_15 => ?_)
    · have h := mk_ifp q_15 h
      refine lv_iconst (v := (0 : Int32)) hx hb dX7_judge_86 (by decide) ?_
      refine lv_istore (lv' := [(5, .int (0 : Int32)), (0, .ref (a0 0)), (1, .int x1), (2, .int x2), (3, .int x3), (4, .int x4)]) hx hb dX7_judge_87 hl (by decide) rfl (fun ls hl => ?_)
      exact K89 x1 x2 x3 x4 (0 : Int32) ls (lv_sub hl [1, 2, 3, 4, 5, 0] rfl) h
    · have h := mk_ifn q_15 h
      refine lv_iload hx hb dX7_judge_53 (lv_at hl 4 rfl) ?_
      refine lv_aload_n hx hb dX7_judge_55 rfl (lv_at hl 0 rfl) ?_
      refine va_get (D := D) (ci := 7) (v := .ref (a0 11)) (C := RX7) (T := TX7) (N := 33) hx hb hts hiX7 hown hK hP 0 rfl rfl 16 (by decide) (hts (.fieldLink RX7 40 "ClockOnceModel" "now" "[I") (List.mem_of_getElem? (i := 2) rfl)) (fun _ h9 => h9) rfl dX7_judge_56 ?_
      refine lv_iconst (v := (2 : Int32)) hx hb dX7_judge_59 (by decide) ?_
      refine lv_iload hx hb dX7_judge_60 (lv_at hl 5 rfl) ?_
      refine lv_iadd hx hb dX7_judge_62 ?_
      obtain ⟨v_16, ev_16, hiv_16, h⟩ := mk_rdE h
      refine va_iald hx hb hK hP 11 0 rfl rfl hiv_16 dX7_judge_63 ?_
      refine mk_topi ev_16 ?_
      refine lv_bipush (v := (-9 : Int32)) hx hb dX7_judge_64 (by decide) ?_
      refine lv_icmp_eq (tgt := 76) hx hb dX7_judge_66 (by decide) (fun q_17 => ?_) (fun q_17 => ?_)
      · have h := mk_ifp q_17 h
        refine lv_iconst (v := (0 : Int32)) hx hb dX7_judge_76 (by decide) ?_
        refine lv_ior hx hb dX7_judge_77 ?_
        refine lv_istore (lv' := [(4, .int (x4 ||| (0 : Int32))), (0, .ref (a0 0)), (1, .int x1), (2, .int x2), (3, .int x3), (5, .int x5)]) hx hb dX7_judge_78 hl (by decide) rfl (fun ls hl => ?_)
        refine lv_iinc (v := (x5 + (1 : Int32))) (lv' := [(5, .int (x5 + (1 : Int32))), (4, .int (x4 ||| (0 : Int32))), (0, .ref (a0 0)), (1, .int x1), (2, .int x2), (3, .int x3)]) hx hb dX7_judge_80 hl (k := 5) rfl rfl (by decide) rfl (fun ls hl => ?_)
        refine lv_goto (tgt := 44) hx hb dX7_judge_83 (by decide) ?_
        exact ih44 (x4 ||| (0 : Int32)) (x5 + (1 : Int32)) h ls (lv_sub hl [2, 3, 4, 5, 1, 0] rfl)
      · have h := mk_ifn q_17 h
        refine lv_iconst (v := (1 : Int32)) hx hb dX7_judge_69 (by decide) ?_
        refine lv_iload hx hb dX7_judge_70 (lv_at hl 5 rfl) ?_
        refine lv_ishl hx hb dX7_judge_72 ?_
        refine lv_goto (tgt := 77) hx hb dX7_judge_73 (by decide) ?_
        refine lv_ior hx hb dX7_judge_77 ?_
        refine lv_istore (lv' := [(4, .int (x4 ||| ((1 : Int32) <<< (x5 &&& 31)))), (0, .ref (a0 0)), (1, .int x1), (2, .int x2), (3, .int x3), (5, .int x5)]) hx hb dX7_judge_78 hl (by decide) rfl (fun ls hl => ?_)
        refine lv_iinc (v := (x5 + (1 : Int32))) (lv' := [(5, .int (x5 + (1 : Int32))), (4, .int (x4 ||| ((1 : Int32) <<< (x5 &&& 31)))), (0, .ref (a0 0)), (1, .int x1), (2, .int x2), (3, .int x3)]) hx hb dX7_judge_80 hl (k := 5) rfl rfl (by decide) rfl (fun ls hl => ?_)
        refine lv_goto (tgt := 44) hx hb dX7_judge_83 (by decide) ?_
        exact ih44 (x4 ||| ((1 : Int32) <<< (x5 &&& 31))) (x5 + (1 : Int32)) h ls (lv_sub hl [2, 3, 4, 5, 1, 0] rfl)
  unfold f_X7_judge at h
  refine lv_iload_n hx hb dX7_judge_0 rfl (lv_at hl 1 rfl) ?_
  refine lv_i2l (v := (p1.toInt64)) hx hb dX7_judge_1 rfl ?_
  refine lv_lconst (v := (1 : Int64)) hx hb dX7_judge_2 (by decide) ?_
  refine lv_ldc2 (v := (8 : Int64)) hx hb hown (hts (.constantLong RX7 237 (8)) (List.mem_of_getElem? (i := 1) rfl)) dX7_judge_3 ?_
  obtain ⟨r_18, er_18, h⟩ := mk_bd h
  refine pc_s (As := [.long (p1.toInt64), .long (1 : Int64), .long (8 : Int64)]) (rest := []) ⟨hx, hb, hml, hown, hts⟩ (c_X7_in l D cI cZ cO N (p1.toInt64) (1 : Int64) (8 : Int64) r_18 er_18) (va_cwS 3 hts k_X7_judge_X7_in_73 rfl rfl rfl (by decide +kernel) ⟨(Nat.le_of_ble_eq_true rfl), (Nat.le_of_ble_eq_true rfl)⟩) (hP.sub (ws' := []) [] rfl) hK rfl hl.1 rfl (Nat.le_of_ble_eq_true rfl) dX7_judge_6 ⟨Nat.zero_le _, Nat.zero_le _⟩ ?_
  refine lv_if_eq (tgt := 28) hx hb dX7_judge_9 (by decide) (fun q_19 => ?_) (fun q_19 => ?_)
  · have h := mk_ifp q_19 h
    refine lv_bipush (v := (-2 : Int32)) hx hb dX7_judge_28 (by decide) ?_
    exact hret _ _ _ h dX7_judge_30
  · have h := mk_ifn q_19 h
    refine lv_iload_n hx hb dX7_judge_12 rfl (lv_at hl 2 rfl) ?_
    refine lv_i2l (v := (p2.toInt64)) hx hb dX7_judge_13 rfl ?_
    refine lv_lconst (v := (0 : Int64)) hx hb dX7_judge_14 (by decide) ?_
    refine lv_iload_n hx hb dX7_judge_15 rfl (lv_at hl 1 rfl) ?_
    obtain ⟨r_20, er_20, h⟩ := mk_bd h
    refine pc_s (As := [.int p1]) (rest := [.long (0 : Int64), .long (p2.toInt64)]) ⟨hx, hb, hml, hown, hts⟩ (c_X7_power l D cI cZ cO N p1 r_20 er_20) (va_cwS 1 hts k_X7_judge_X7_power_239 rfl rfl rfl (by decide +kernel) ⟨(Nat.le_of_ble_eq_true rfl), (Nat.le_of_ble_eq_true rfl)⟩) (hP.sub (ws' := []) [] rfl) hK rfl hl.1 rfl (Nat.le_of_ble_eq_true rfl) dX7_judge_16 ⟨Nat.zero_le _, Nat.zero_le _⟩ ?_
    refine lv_iconst (v := (1 : Int32)) hx hb dX7_judge_19 (by decide) ?_
    refine lv_isub hx hb dX7_judge_20 ?_
    refine lv_i2l (v := ((r_20 - (1 : Int32)).toInt64)) hx hb dX7_judge_21 rfl ?_
    obtain ⟨r_21, er_21, h⟩ := mk_bd h
    refine pc_s (As := [.long (p2.toInt64), .long (0 : Int64), .long ((r_20 - (1 : Int32)).toInt64)]) (rest := []) ⟨hx, hb, hml, hown, hts⟩ (c_X7_in l D cI cZ cO N (p2.toInt64) (0 : Int64) ((r_20 - (1 : Int32)).toInt64) r_21 er_21) (va_cwS 3 hts k_X7_judge_X7_in_73 rfl rfl rfl (by decide +kernel) ⟨(Nat.le_of_ble_eq_true rfl), (Nat.le_of_ble_eq_true rfl)⟩) (hP.sub (ws' := []) [] rfl) hK rfl hl.1 rfl (Nat.le_of_ble_eq_true rfl) dX7_judge_22 ⟨Nat.zero_le _, Nat.zero_le _⟩ ?_
    refine lv_if_ne (tgt := 31) hx hb dX7_judge_25 (by decide) (fun q_22 => ?_) (fun q_22 => ?_)
    · have h := mk_ifn q_22 h
      refine lv_aload_n hx hb dX7_judge_31 rfl (lv_at hl 0 rfl) ?_
      refine va_get (D := D) (ci := 7) (v := .ref (a0 11)) (C := RX7) (T := TX7) (N := 33) hx hb hts hiX7 hown hK hP 0 rfl rfl 16 (by decide) (hts (.fieldLink RX7 40 "ClockOnceModel" "now" "[I") (List.mem_of_getElem? (i := 2) rfl)) (fun _ h9 => h9) rfl dX7_judge_32 ?_
      refine lv_iconst (v := (0 : Int32)) hx hb dX7_judge_35 (by decide) ?_
      obtain ⟨v_23, ev_23, hiv_23, h⟩ := mk_rdE h
      refine va_iald hx hb hK hP 11 0 rfl rfl hiv_23 dX7_judge_36 ?_
      refine mk_topi ev_23 ?_
      refine lv_istore_n (lv' := [(3, .int v_23), (0, .ref (a0 0)), (1, .int p1), (2, .int p2)]) hx hb dX7_judge_37 rfl hl (by decide) rfl (fun ls hl => ?_)
      refine lv_iconst (v := (0 : Int32)) hx hb dX7_judge_38 (by decide) ?_
      refine lv_istore (lv' := [(4, .int (0 : Int32)), (3, .int v_23), (0, .ref (a0 0)), (1, .int p1), (2, .int p2)]) hx hb dX7_judge_39 hl (by decide) rfl (fun ls hl => ?_)
      refine lv_iconst (v := (0 : Int32)) hx hb dX7_judge_41 (by decide) ?_
      refine lv_istore (lv' := [(5, .int (0 : Int32)), (4, .int (0 : Int32)), (3, .int v_23), (0, .ref (a0 0)), (1, .int p1), (2, .int p2)]) hx hb dX7_judge_42 hl (by decide) rfl (fun ls hl => ?_)
      exact K44 p1 p2 v_23 (0 : Int32) (0 : Int32) ls (lv_sub hl [3, 4, 5, 2, 1, 0] rfl) h
    · have h := mk_ifp q_22 h
      refine lv_bipush (v := (-2 : Int32)) hx hb dX7_judge_28 (by decide) ?_
      exact hret _ _ _ h dX7_judge_30

abbrev rm_X7_keep : Room := { frames := 1, cells := 0, slots := 0, locals := 25 }
set_option maxRecDepth 20000 in
theorem k_X7_keep_X7_in_73 : GoodIn wsX7_keep (va_wsS RX7 73 yX7_in wsX7_in) := goodIn_r _ [4, 5, 6, 7] rfl (by decide +kernel)
set_option maxHeartbeats 4000000 in
set_option maxRecDepth 100000 in
theorem c_X7_keep (l : Launch) (D : va_G) (cI cZ cO : ClassId) (N : Nat) (a0 : Nat → Nat) (u0 : TU) (sd : Int64) (p1 : Int32) (sz : Nat) (out : Int32 × TU) (h : f_X7_keep N u0 sd p1 = some out) : Met l yX7_keep wsX7_keep rm_X7_keep (va_Pc [.ref (a0 0), .int p1] (mk_Pe D vwCl (tyA cI cZ cO) (wX7 cI cZ a0 u0 sd) sz)) (va_Qi (fun r u => (r, u) = out) (mk_Be D vwCl (wX7 cI cZ a0 u0 sd) sz (fun q => (wX7 cI cZ a0 q sd))) (va_A (wX7 cI cZ a0 u0 sd) sz)) 0 0 (va_A (wX7 cI cZ a0 u0 sd) sz) := by
  refine em_i (own := RX7) (cc := cX7_keep) (maxL := 3) (by decide) rfl rfl (Nat.le_of_ble_eq_true rfl) ?_
  intro p e s m args below meth c Q A H0 H locs ls hx hb hml hown hts hP hK hD hS hA hl hret
  have hl : lv_has ls 3 [(0, .ref (a0 0)), (1, .int p1)] := hl
  have hiX7 : ∀ w ∈ u_ws RX7 TX7 33, w ∈ wsX7_keep := mk_seg 8 33 rfl
  have K21 : ∀ (u0 : TU) (x1 : Int32) (x2 : Int32) (H : Heap) (locs : List Loc) (ls : Array Slot), va_P D vwCl (wX7 cI cZ a0 u0 sd) H → va_D A (wX7 cI cZ a0 u0 sd) → va_S A H0 H locs → lv_has ls 3 [(0, .ref (a0 0)), (1, .int x1), (2, .int x2)] → lq2 (g_X7_keep_21 N sd x1) N u0 x2 = some out → W p l e rm_X7_keep s m args below meth c H locs 0 0 Q (F0 m 21 ls []) := by
    intro u0 x1 x2 H locs ls hP hD hS hl h
    refine lq2_W (Wd := fun u0 x2 => ∀ (H : Heap) (locs : List Loc) (ls : Array Slot), va_P D vwCl (wX7 cI cZ a0 u0 sd) H → va_D A (wX7 cI cZ a0 u0 sd) → va_S A H0 H locs → lv_has ls 3 [(0, .ref (a0 0)), (1, .int x1), (2, .int x2)] → W p l e rm_X7_keep s m args below meth c H locs 0 0 Q (F0 m 21 ls [])) (fun rec21 ih21 u0 x2 h H locs ls hP hD hS hl => ?_) N u0 x2 h H locs ls hP hD hS hl
    unfold g_X7_keep_21 at h
    refine lv_iload_n hx hb dX7_keep_21 rfl (lv_at hl 2 rfl) ?_
    refine lv_bipush (v := (10 : Int32)) hx hb dX7_keep_22 (by decide) ?_
    refine lv_icmp_ge (tgt := 50) hx hb dX7_keep_24 (by decide) (fun q_1 => ?_) (fun q_1 => ?_)
    · have h := mk_ifp q_1 h
      refine lv_aload_n hx hb dX7_keep_50 rfl (lv_at hl 0 rfl) ?_
      refine va_get (D := D) (ci := 7) (v := .ref (a0 11)) (C := RX7) (T := TX7) (N := 33) hx hb hts hiX7 hown hK hP 0 rfl rfl 16 (by decide) (hts (.fieldLink RX7 40 "ClockOnceModel" "now" "[I") (List.mem_of_getElem? (i := 3) rfl)) (fun _ h9 => h9) rfl dX7_keep_51 ?_
      refine lv_iconst (v := (1 : Int32)) hx hb dX7_keep_54 (by decide) ?_
      obtain ⟨v_2, ev_2, hiv_2, h⟩ := mk_rdE h
      refine va_iald hx hb hK hP 11 0 rfl rfl hiv_2 dX7_keep_55 ?_
      refine mk_topi ev_2 ?_
      exact hret _ _ _ _ _ _ h hP hD hS dX7_keep_56
    · have h := mk_ifn q_1 h
      refine lv_aload_n hx hb dX7_keep_27 rfl (lv_at hl 0 rfl) ?_
      refine va_get (D := D) (ci := 7) (v := .ref (a0 19)) (C := RX7) (T := TX7) (N := 33) hx hb hts hiX7 hown hK hP 0 rfl rfl 32 (by decide) (hts (.fieldLink RX7 65 "ClockOnceModel" "kept" "[I") (List.mem_of_getElem? (i := 2) rfl)) (fun _ h9 => h9) rfl dX7_keep_28 ?_
      refine lv_bipush (v := (10 : Int32)) hx hb dX7_keep_31 (by decide) ?_
      refine lv_iload_n hx hb dX7_keep_33 rfl (lv_at hl 1 rfl) ?_
      refine lv_imul hx hb dX7_keep_34 ?_
      refine lv_iload_n hx hb dX7_keep_35 rfl (lv_at hl 2 rfl) ?_
      refine lv_iadd hx hb dX7_keep_36 ?_
      refine lv_aload_n hx hb dX7_keep_37 rfl (lv_at hl 0 rfl) ?_
      refine va_get (D := D) (ci := 7) (v := .ref (a0 11)) (C := RX7) (T := TX7) (N := 33) hx hb hts hiX7 hown hK hP 0 rfl rfl 16 (by decide) (hts (.fieldLink RX7 40 "ClockOnceModel" "now" "[I") (List.mem_of_getElem? (i := 3) rfl)) (fun _ h9 => h9) rfl dX7_keep_38 ?_
      refine lv_iload_n hx hb dX7_keep_41 rfl (lv_at hl 2 rfl) ?_
      obtain ⟨v_3, ev_3, hiv_3, h⟩ := mk_rdE h
      refine va_iald hx hb hK hP 11 0 rfl rfl hiv_3 dX7_keep_42 ?_
      refine mk_topi ev_3 ?_
      obtain ⟨hx_4, h⟩ := mk_ixE h
      obtain ⟨w_5, ew_5, h⟩ := mk_nmE h
      refine va_iast hx hb hK hP hD hS 19 0 rfl rfl hx_4 dX7_keep_43 (fun H locs hP hD hS => ?_)
      have hP : va_P D vwCl (wX7 cI cZ a0 w_5 sd) H := by rw [ew_5]; exact hP
      have hD : va_D A (wX7 cI cZ a0 w_5 sd) := by rw [ew_5]; exact hD
      refine lv_iinc (v := (x2 + (1 : Int32))) (lv' := [(2, .int (x2 + (1 : Int32))), (0, .ref (a0 0)), (1, .int x1)]) hx hb dX7_keep_44 hl (k := 2) rfl rfl (by decide) rfl (fun ls hl => ?_)
      refine lv_goto (tgt := 21) hx hb dX7_keep_47 (by decide) ?_
      exact ih21 w_5 (x2 + (1 : Int32)) h H locs ls hP hD hS (lv_sub hl [1, 2, 0] rfl)
  unfold f_X7_keep at h
  refine lv_iload_n hx hb dX7_keep_0 rfl (lv_at hl 1 rfl) ?_
  refine lv_i2l (v := (p1.toInt64)) hx hb dX7_keep_1 rfl ?_
  refine lv_lconst (v := (0 : Int64)) hx hb dX7_keep_2 (by decide) ?_
  refine lv_lconst (v := (1 : Int64)) hx hb dX7_keep_3 (by decide) ?_
  obtain ⟨r_6, er_6, h⟩ := mk_bd h
  refine pc_s (As := [.long (p1.toInt64), .long (0 : Int64), .long (1 : Int64)]) (rest := []) ⟨hx, hb, hml, hown, hts⟩ (c_X7_in l D cI cZ cO N (p1.toInt64) (0 : Int64) (1 : Int64) r_6 er_6) (va_cwS 3 hts k_X7_keep_X7_in_73 rfl rfl rfl (by decide +kernel) ⟨(Nat.le_of_ble_eq_true rfl), (Nat.le_of_ble_eq_true rfl)⟩) (hP.sub (ws' := []) [] rfl) hK rfl hl.1 rfl (Nat.le_of_ble_eq_true rfl) dX7_keep_4 ⟨Nat.zero_le _, Nat.zero_le _⟩ ?_
  refine lv_if_ne (tgt := 12) hx hb dX7_keep_7 (by decide) (fun q_7 => ?_) (fun q_7 => ?_)
  · have h := mk_ifn q_7 h
    refine lv_aload_n hx hb dX7_keep_12 rfl (lv_at hl 0 rfl) ?_
    refine va_get (D := D) (ci := 7) (v := .ref (a0 18)) (C := RX7) (T := TX7) (N := 33) hx hb hts hiX7 hown hK hP 0 rfl rfl 31 (by decide) (hts (.fieldLink RX7 61 "ClockOnceModel" "isKept" "[Z") (List.mem_of_getElem? (i := 1) rfl)) (fun _ h9 => h9) rfl dX7_keep_13 ?_
    refine lv_iload_n hx hb dX7_keep_16 rfl (lv_at hl 1 rfl) ?_
    refine lv_iconst (v := (1 : Int32)) hx hb dX7_keep_17 (by decide) ?_
    obtain ⟨hx_8, h⟩ := mk_ixE h
    obtain ⟨w_9, ew_9, h⟩ := mk_nmE h
    refine va_zast hx hb hK hP hD hS 18 1 rfl rfl hx_8 dX7_keep_18 (fun H locs hP hD hS => ?_)
    have hP : va_P D vwCl (wX7 cI cZ a0 w_9 sd) H := by rw [ew_9]; exact hP
    have hD : va_D A (wX7 cI cZ a0 w_9 sd) := by rw [ew_9]; exact hD
    refine lv_iconst (v := (0 : Int32)) hx hb dX7_keep_19 (by decide) ?_
    refine lv_istore_n (lv' := [(2, .int (0 : Int32)), (0, .ref (a0 0)), (1, .int p1)]) hx hb dX7_keep_20 rfl hl (by decide) rfl (fun ls hl => ?_)
    exact K21 w_9 p1 (0 : Int32) H locs ls hP hD hS (lv_sub hl [1, 2, 0] rfl) h
  · have h := mk_ifp q_7 h
    refine lv_iconst (v := (-1 : Int32)) hx hb dX7_keep_10 (by decide) ?_
    exact hret _ _ _ _ _ _ h hP hD hS dX7_keep_11

abbrev rm_X7_likely : Room := { frames := 5, cells := 0, slots := 0, locals := 116 }
set_option maxRecDepth 20000 in
theorem k_X7_likely_X7_common_183 : GoodIn wsX7_likely (va_wsS RX7 183 yX7_common wsX7_common) := goodIn_r _ [59, 60, 6, 61] rfl (by decide +kernel)
set_option maxRecDepth 20000 in
theorem k_X7_likely_X7_has_89 : GoodIn wsX7_likely (va_wsS RX7 89 yX7_has wsX7_has) := goodIn_r _ [39, 40, 6, 41] rfl (by decide +kernel)
set_option maxRecDepth 20000 in
theorem k_X7_likely_X7_heard_149 : GoodIn wsX7_likely (wsV RX7 149 RX7 yX7_heard wsX7_heard) := goodIn_r _ [16, 17, 18, 6, 19, 8, 1, 9, 10, 6, 11, 62, 63, 64, 65, 66, 67, 68, 69, 70, 71, 72, 73, 74, 75, 76, 77, 78, 79, 80, 81, 82, 83, 84, 85, 86, 87, 88, 89, 90, 91, 92, 93, 94] rfl (by decide +kernel)
set_option maxRecDepth 20000 in
theorem k_X7_likely_X7_isPossible_171 : GoodIn wsX7_likely (wsV RX7 171 RX7 yX7_isPossible wsX7_isPossible) := goodIn_r _ [24, 25, 26, 6, 27, 28, 29, 30, 6, 31, 2, 32, 33, 34, 35, 36, 37, 38, 39, 40, 41, 42, 43, 44, 45, 46, 47, 48, 49, 50, 51, 52, 53, 54, 62, 63, 64, 65, 66, 67, 68, 69, 70, 71, 72, 73, 74, 75, 76, 77, 78, 79, 80, 81, 82, 83, 84, 85, 86, 87, 88, 89, 90, 91, 92, 93, 94] rfl (by decide +kernel)
set_option maxRecDepth 20000 in
theorem k_X7_likely_X7_partsOf_175 : GoodIn wsX7_likely (wsV RX7 175 RX7 yX7_partsOf wsX7_partsOf) := goodIn_r _ [55, 56, 57, 6, 58, 2, 46, 39, 40, 6, 41, 62, 63, 64, 65, 66, 67, 68, 69, 70, 71, 72, 73, 74, 75, 76, 77, 78, 79, 80, 81, 82, 83, 84, 85, 86, 87, 88, 89, 90, 91, 92, 93, 94] rfl (by decide +kernel)
set_option maxRecDepth 20000 in
theorem k_X7_likely_X7_isAsker_146 : GoodIn wsX7_likely (wsV RX7 146 RX7 yX7_isAsker wsX7_isAsker) := goodIn_r _ [3, 4, 5, 6, 7, 8, 9, 10, 6, 11, 62, 63, 64, 65, 66, 67, 68, 69, 70, 71, 72, 73, 74, 75, 76, 77, 78, 79, 80, 81, 82, 83, 84, 85, 86, 87, 88, 89, 90, 91, 92, 93, 94] rfl (by decide +kernel)
set_option maxRecDepth 20000 in
theorem k_X7_likely_X7_isThing_136 : GoodIn wsX7_likely (wsV RX7 136 RX7 yX7_isThing wsX7_isThing) := goodIn_r _ [12, 13, 14, 6, 15, 2, 9, 10, 6, 11, 62, 63, 64, 65, 66, 67, 68, 69, 70, 71, 72, 73, 74, 75, 76, 77, 78, 79, 80, 81, 82, 83, 84, 85, 86, 87, 88, 89, 90, 91, 92, 93, 94] rfl (by decide +kernel)
set_option maxRecDepth 20000 in
theorem k_X7_likely_X7_partsBy_180 : GoodIn wsX7_likely (wsV RX7 180 RX7 yX7_partsBy wsX7_partsBy) := goodIn_r _ [20, 21, 22, 6, 23, 2, 24, 25, 26, 6, 27, 28, 29, 30, 31, 32, 33, 34, 35, 36, 37, 38, 39, 40, 41, 42, 43, 44, 45, 46, 47, 48, 49, 50, 51, 52, 53, 54, 55, 56, 57, 58, 62, 63, 64, 65, 66, 67, 68, 69, 70, 71, 72, 73, 74, 75, 76, 77, 78, 79, 80, 81, 82, 83, 84, 85, 86, 87, 88, 89, 90, 91, 92, 93, 94] rfl (by decide +kernel)
set_option maxHeartbeats 4000000 in
set_option maxRecDepth 100000 in
theorem c_X7_likely (l : Launch) (D : va_G) (cI cZ cO : ClassId) (N : Nat) (a0 : Nat → Nat) (u0 : TU) (sd : Int64) (p1 : Int32) (p2 : Int32) (p3 : Int32) (out : Int32) (h : f_X7_likely N u0 sd p1 p2 p3 = some out) : Met l yX7_likely wsX7_likely rm_X7_likely (va_Pc [.ref (a0 0), .int p1, .int p2, .int p3] (fun U => va_P D vwCl (wX7 cI cZ a0 u0 sd) U.heap ∧ va_K D vwCl (tyA cI cZ cO) U)) (vp_Si (fun r => r = out)) 0 0 (fun _ => False) := by
  refine pm_i (own := RX7) (cc := cX7_likely) (maxL := 7) (by decide) rfl rfl (Nat.le_of_ble_eq_true rfl) ?_
  intro p e s m args below meth c Q H ls hx hb hml hown hts hP hK hl hret
  have hl : lv_has ls 7 [(0, .ref (a0 0)), (1, .int p1), (2, .int p2), (3, .int p3)] := hl
  have hiX7 : ∀ w ∈ u_ws RX7 TX7 33, w ∈ wsX7_likely := mk_seg 62 33 rfl
  have K49 : ∀ (x1 : Int32) (x2 : Int32) (x3 : Int32) (x4 : Int32) (x5 : Int32) (x6 : Int32) (ls : Array Slot), lv_has ls 7 [(0, .ref (a0 0)), (1, .int x1), (2, .int x2), (3, .int x3), (4, .int x4), (5, .int x5), (6, .int x6)] → lq2 (g_X7_likely_49 N u0 sd x1 x2 x3 x4) N x5 x6 = some out → W p l e rm_X7_likely s m args below meth c H [] 0 0 Q (F0 m 49 ls []) := by
    intro x1 x2 x3 x4 x5 x6 ls hl h
    refine lq2_W (Wd := fun x5 x6 => ∀ (ls : Array Slot), lv_has ls 7 [(0, .ref (a0 0)), (1, .int x1), (2, .int x2), (3, .int x3), (4, .int x4), (5, .int x5), (6, .int x6)] → W p l e rm_X7_likely s m args below meth c H [] 0 0 Q (F0 m 49 ls [])) (fun rec49 ih49 x5 x6 h ls hl => ?_) N x5 x6 h ls hl
    have K100 : ∀ (x6 : Int32) (t0 : Int32) (ls : Array Slot), lv_has ls 7 [(0, .ref (a0 0)), (1, .int x1), (2, .int x2), (3, .int x3), (4, .int x4), (6, .int x6)] → g_X7_likely_100 N u0 sd rec49 x1 x2 x3 x4 x6 t0 = some out → W p l e rm_X7_likely s m args below meth c H [] 0 0 Q (F0 m 100 ls [.int t0]) := by
      intro x6 t0 ls hl h
      unfold g_X7_likely_100 at h
      refine lv_iconst (v := (0 : Int32)) hx hb dX7_likely_100 (by decide) ?_
      refine lv_iadd hx hb dX7_likely_101 ?_
      refine lv_istore (lv' := [(5, .int (t0 + (0 : Int32))), (0, .ref (a0 0)), (1, .int x1), (2, .int x2), (3, .int x3), (4, .int x4), (6, .int x6)]) hx hb dX7_likely_102 hl (by decide) rfl (fun ls hl => ?_)
      refine lv_iinc (v := (x6 + (1 : Int32))) (lv' := [(6, .int (x6 + (1 : Int32))), (5, .int (t0 + (0 : Int32))), (0, .ref (a0 0)), (1, .int x1), (2, .int x2), (3, .int x3), (4, .int x4)]) hx hb dX7_likely_104 hl (k := 6) rfl rfl (by decide) rfl (fun ls hl => ?_)
      refine lv_goto (tgt := 49) hx hb dX7_likely_107 (by decide) ?_
      exact ih49 (t0 + (0 : Int32)) (x6 + (1 : Int32)) h ls (lv_sub hl [2, 3, 4, 5, 6, 1, 0] rfl)
    unfold g_X7_likely_49 at h
    refine lv_iload hx hb dX7_likely_49 (lv_at hl 6 rfl) ?_
    refine lv_iconst (v := (1 : Int32)) hx hb dX7_likely_51 (by decide) ?_
    refine lv_aload_n hx hb dX7_likely_52 rfl (lv_at hl 0 rfl) ?_
    refine va_get (D := D) (ci := 7) (v := .int (u0 0 0)) (C := RX7) (T := TX7) (N := 33) hx hb hts hiX7 hown hK hP 0 rfl rfl 0 (by decide) (hts (.fieldLink RX7 124 "ClockOnceModel" "things" "I") (List.mem_of_getElem? (i := 2) rfl)) (fun _ h9 => h9) rfl dX7_likely_53 ?_
    refine lv_ishl hx hb dX7_likely_56 ?_
    refine lv_icmp_ge (tgt := 110) hx hb dX7_likely_57 (by decide) (fun q_1 => ?_) (fun q_1 => ?_)
    · have h := mk_ifp q_1 h
      refine lv_iload hx hb dX7_likely_110 (lv_at hl 5 rfl) ?_
      refine lv_iload hx hb dX7_likely_112 (lv_at hl 4 rfl) ?_
      obtain ⟨r_2, er_2, h⟩ := mk_bd h
      refine pc_s (As := [.int x5, .int x4]) (rest := []) ⟨hx, hb, hml, hown, hts⟩ (c_X7_common l D cI cZ cO N x5 x4 r_2 er_2) (va_cwS 2 hts k_X7_likely_X7_common_183 rfl rfl rfl (by decide +kernel) ⟨(Nat.le_of_ble_eq_true rfl), (Nat.le_of_ble_eq_true rfl)⟩) (hP.sub (ws' := []) [] rfl) hK rfl hl.1 rfl (Nat.le_of_ble_eq_true rfl) dX7_likely_114 ⟨Nat.zero_le _, Nat.zero_le _⟩ ?_
      refine lv_istore (lv' := [(6, .int r_2), (0, .ref (a0 0)), (1, .int x1), (2, .int x2), (3, .int x3), (4, .int x4), (5, .int x5)]) hx hb dX7_likely_117 hl (by decide) rfl (fun ls hl => ?_)
      refine lv_iload_n hx hb dX7_likely_119 rfl (lv_at hl 4 rfl) ?_
      refine lv_if_eq (tgt := 131) hx hb dX7_likely_120 (by decide) (fun q_3 => ?_) (fun q_3 => ?_)
      · have h := mk_ifp q_3 h
        refine lv_iload hx hb dX7_likely_131 (lv_at hl 5 rfl) ?_
        refine lv_iload hx hb dX7_likely_133 (lv_at hl 0 rfl) ?_
        obtain ⟨hz_4, h⟩ := mk_nzE h
        refine lv_idiv hx hb dX7_likely_135 hz_4 ?_
        exact hret _ _ _ h dX7_likely_136
      · have h := mk_ifn q_3 h
        refine lv_iload hx hb dX7_likely_123 (lv_at hl 6 rfl) ?_
        refine lv_iload hx hb dX7_likely_125 (lv_at hl 0 rfl) ?_
        obtain ⟨hz_5, h⟩ := mk_nzE h
        refine lv_idiv hx hb dX7_likely_127 hz_5 ?_
        refine lv_goto (tgt := 136) hx hb dX7_likely_128 (by decide) ?_
        exact hret _ _ _ h dX7_likely_136
    · have h := mk_ifn q_1 h
      refine lv_iload hx hb dX7_likely_60 (lv_at hl 5 rfl) ?_
      refine lv_iload hx hb dX7_likely_62 (lv_at hl 6 rfl) ?_
      refine lv_iload_n hx hb dX7_likely_64 rfl (lv_at hl 2 rfl) ?_
      obtain ⟨r_6, er_6, h⟩ := mk_bd h
      refine pc_s (As := [.int x6, .int x2]) (rest := [.int x5]) ⟨hx, hb, hml, hown, hts⟩ (c_X7_has l D cI cZ cO N x6 x2 r_6 er_6) (va_cwS 2 hts k_X7_likely_X7_has_89 rfl rfl rfl (by decide +kernel) ⟨(Nat.le_of_ble_eq_true rfl), (Nat.le_of_ble_eq_true rfl)⟩) (hP.sub (ws' := []) [] rfl) hK rfl hl.1 rfl (Nat.le_of_ble_eq_true rfl) dX7_likely_65 ⟨Nat.zero_le _, Nat.zero_le _⟩ ?_
      refine lv_if_eq (tgt := 100) hx hb dX7_likely_68 (by decide) (fun q_7 => ?_) (fun q_7 => ?_)
      · have h := mk_ifp q_7 h
        exact K100 x6 x5 ls (lv_sub hl [0, 1, 2, 3, 4, 6] rfl) h
      · have h := mk_ifn q_7 h
        refine lv_aload_n hx hb dX7_likely_71 rfl (lv_at hl 0 rfl) ?_
        refine lv_iload hx hb dX7_likely_72 (lv_at hl 6 rfl) ?_
        refine lv_aload_n hx hb dX7_likely_74 rfl (lv_at hl 0 rfl) ?_
        refine va_get (D := D) (ci := 7) (v := .ref (a0 11)) (C := RX7) (T := TX7) (N := 33) hx hb hts hiX7 hown hK hP 0 rfl rfl 16 (by decide) (hts (.fieldLink RX7 40 "ClockOnceModel" "now" "[I") (List.mem_of_getElem? (i := 1) rfl)) (fun _ h9 => h9) rfl dX7_likely_75 ?_
        refine lv_iconst (v := (0 : Int32)) hx hb dX7_likely_78 (by decide) ?_
        obtain ⟨v_8, ev_8, hiv_8, h⟩ := mk_rdE h
        refine va_iald hx hb hK hP 11 0 rfl rfl hiv_8 dX7_likely_79 ?_
        refine mk_topi ev_8 ?_
        refine lv_aload_n hx hb dX7_likely_80 rfl (lv_at hl 0 rfl) ?_
        refine lv_iload_n hx hb dX7_likely_81 rfl (lv_at hl 1 rfl) ?_
        obtain ⟨r_9, er_9, h⟩ := mk_bd h
        refine pc_v (As := [.int x1]) (rest := [.int v_8, .int x6, .ref (a0 0), .int x5]) ⟨hx, hb, hml, hown, hts⟩ (c_X7_heard l D cI cZ cO N a0 u0 sd x1 r_9 er_9) (cwV 1 hts k_X7_likely_X7_heard_149 rfl rfl rfl (by decide +kernel) ⟨(Nat.le_of_ble_eq_true rfl), (Nat.le_of_ble_eq_true rfl)⟩) (va_recv hK hP (ci := 7) (q0 := 0) rfl rfl) hP hK rfl hl.1 rfl (Nat.le_of_ble_eq_true rfl) dX7_likely_82 ⟨Nat.zero_le _, Nat.zero_le _⟩ ?_
        obtain ⟨r_10, er_10, h⟩ := mk_bd h
        refine pc_v (As := [.int x6, .int v_8, .int r_9]) (rest := [.int x5]) ⟨hx, hb, hml, hown, hts⟩ (c_X7_isPossible l D cI cZ cO N a0 u0 sd x6 v_8 r_9 r_10 er_10) (cwV 3 hts k_X7_likely_X7_isPossible_171 rfl rfl rfl (by decide +kernel) ⟨(Nat.le_of_ble_eq_true rfl), (Nat.le_of_ble_eq_true rfl)⟩) (va_recv hK hP (ci := 7) (q0 := 0) rfl rfl) hP hK rfl hl.1 rfl (Nat.le_of_ble_eq_true rfl) dX7_likely_85 ⟨Nat.zero_le _, Nat.zero_le _⟩ ?_
        refine lv_if_eq (tgt := 100) hx hb dX7_likely_88 (by decide) (fun q_11 => ?_) (fun q_11 => ?_)
        · have h := mk_ifp q_11 h
          exact K100 x6 x5 ls (lv_sub hl [0, 1, 2, 3, 4, 6] rfl) h
        · have h := mk_ifn q_11 h
          refine lv_aload_n hx hb dX7_likely_91 rfl (lv_at hl 0 rfl) ?_
          refine lv_iload hx hb dX7_likely_92 (lv_at hl 6 rfl) ?_
          obtain ⟨r_12, er_12, h⟩ := mk_bd h
          refine pc_v (As := [.int x6]) (rest := [.int x5]) ⟨hx, hb, hml, hown, hts⟩ (c_X7_partsOf l D cI cZ cO N a0 u0 sd x6 r_12 er_12) (cwV 1 hts k_X7_likely_X7_partsOf_175 rfl rfl rfl (by decide +kernel) ⟨(Nat.le_of_ble_eq_true rfl), (Nat.le_of_ble_eq_true rfl)⟩) (va_recv hK hP (ci := 7) (q0 := 0) rfl rfl) hP hK rfl hl.1 rfl (Nat.le_of_ble_eq_true rfl) dX7_likely_94 ⟨Nat.zero_le _, Nat.zero_le _⟩ ?_
          refine lv_goto (tgt := 101) hx hb dX7_likely_97 (by decide) ?_
          refine lv_iadd hx hb dX7_likely_101 ?_
          refine lv_istore (lv' := [(5, .int (x5 + r_12)), (0, .ref (a0 0)), (1, .int x1), (2, .int x2), (3, .int x3), (4, .int x4), (6, .int x6)]) hx hb dX7_likely_102 hl (by decide) rfl (fun ls hl => ?_)
          refine lv_iinc (v := (x6 + (1 : Int32))) (lv' := [(6, .int (x6 + (1 : Int32))), (5, .int (x5 + r_12)), (0, .ref (a0 0)), (1, .int x1), (2, .int x2), (3, .int x3), (4, .int x4)]) hx hb dX7_likely_104 hl (k := 6) rfl rfl (by decide) rfl (fun ls hl => ?_)
          refine lv_goto (tgt := 49) hx hb dX7_likely_107 (by decide) ?_
          exact ih49 (x5 + r_12) (x6 + (1 : Int32)) h ls (lv_sub hl [2, 3, 4, 5, 6, 1, 0] rfl)
  unfold f_X7_likely at h
  refine lv_aload_n hx hb dX7_likely_0 rfl (lv_at hl 0 rfl) ?_
  refine lv_iload_n hx hb dX7_likely_1 rfl (lv_at hl 1 rfl) ?_
  obtain ⟨r_13, er_13, h⟩ := mk_bd h
  refine pc_v (As := [.int p1]) (rest := []) ⟨hx, hb, hml, hown, hts⟩ (c_X7_isAsker l D cI cZ cO N a0 u0 sd p1 r_13 er_13) (cwV 1 hts k_X7_likely_X7_isAsker_146 rfl rfl rfl (by decide +kernel) ⟨(Nat.le_of_ble_eq_true rfl), (Nat.le_of_ble_eq_true rfl)⟩) (va_recv hK hP (ci := 7) (q0 := 0) rfl rfl) hP hK rfl hl.1 rfl (Nat.le_of_ble_eq_true rfl) dX7_likely_2 ⟨Nat.zero_le _, Nat.zero_le _⟩ ?_
  refine lv_if_eq (tgt := 16) hx hb dX7_likely_5 (by decide) (fun q_14 => ?_) (fun q_14 => ?_)
  · have h := mk_ifp q_14 h
    refine lv_iconst (v := (-1 : Int32)) hx hb dX7_likely_16 (by decide) ?_
    exact hret _ _ _ h dX7_likely_17
  · have h := mk_ifn q_14 h
    refine lv_aload_n hx hb dX7_likely_8 rfl (lv_at hl 0 rfl) ?_
    refine lv_iload_n hx hb dX7_likely_9 rfl (lv_at hl 2 rfl) ?_
    obtain ⟨r_15, er_15, h⟩ := mk_bd h
    refine pc_v (As := [.int p2]) (rest := []) ⟨hx, hb, hml, hown, hts⟩ (c_X7_isThing l D cI cZ cO N a0 u0 sd p2 r_15 er_15) (cwV 1 hts k_X7_likely_X7_isThing_136 rfl rfl rfl (by decide +kernel) ⟨(Nat.le_of_ble_eq_true rfl), (Nat.le_of_ble_eq_true rfl)⟩) (va_recv hK hP (ci := 7) (q0 := 0) rfl rfl) hP hK rfl hl.1 rfl (Nat.le_of_ble_eq_true rfl) dX7_likely_10 ⟨Nat.zero_le _, Nat.zero_le _⟩ ?_
    refine lv_if_ne (tgt := 18) hx hb dX7_likely_13 (by decide) (fun q_16 => ?_) (fun q_16 => ?_)
    · have h := mk_ifn q_16 h
      refine lv_aload_n hx hb dX7_likely_18 rfl (lv_at hl 0 rfl) ?_
      refine lv_aload_n hx hb dX7_likely_19 rfl (lv_at hl 0 rfl) ?_
      refine va_get (D := D) (ci := 7) (v := .ref (a0 11)) (C := RX7) (T := TX7) (N := 33) hx hb hts hiX7 hown hK hP 0 rfl rfl 16 (by decide) (hts (.fieldLink RX7 40 "ClockOnceModel" "now" "[I") (List.mem_of_getElem? (i := 1) rfl)) (fun _ h9 => h9) rfl dX7_likely_20 ?_
      refine lv_iconst (v := (0 : Int32)) hx hb dX7_likely_23 (by decide) ?_
      obtain ⟨v_17, ev_17, hiv_17, h⟩ := mk_rdE h
      refine va_iald hx hb hK hP 11 0 rfl rfl hiv_17 dX7_likely_24 ?_
      refine mk_topi ev_17 ?_
      refine lv_aload_n hx hb dX7_likely_25 rfl (lv_at hl 0 rfl) ?_
      refine lv_iload_n hx hb dX7_likely_26 rfl (lv_at hl 1 rfl) ?_
      obtain ⟨r_18, er_18, h⟩ := mk_bd h
      refine pc_v (As := [.int p1]) (rest := [.int v_17, .ref (a0 0)]) ⟨hx, hb, hml, hown, hts⟩ (c_X7_heard l D cI cZ cO N a0 u0 sd p1 r_18 er_18) (cwV 1 hts k_X7_likely_X7_heard_149 rfl rfl rfl (by decide +kernel) ⟨(Nat.le_of_ble_eq_true rfl), (Nat.le_of_ble_eq_true rfl)⟩) (va_recv hK hP (ci := 7) (q0 := 0) rfl rfl) hP hK rfl hl.1 rfl (Nat.le_of_ble_eq_true rfl) dX7_likely_27 ⟨Nat.zero_le _, Nat.zero_le _⟩ ?_
      obtain ⟨r_19, er_19, h⟩ := mk_bd h
      refine pc_v (As := [.int v_17, .int r_18]) (rest := []) ⟨hx, hb, hml, hown, hts⟩ (c_X7_partsBy l D cI cZ cO N a0 u0 sd v_17 r_18 r_19 er_19) (cwV 2 hts k_X7_likely_X7_partsBy_180 rfl rfl rfl (by decide +kernel) ⟨(Nat.le_of_ble_eq_true rfl), (Nat.le_of_ble_eq_true rfl)⟩) (va_recv hK hP (ci := 7) (q0 := 0) rfl rfl) hP hK rfl hl.1 rfl (Nat.le_of_ble_eq_true rfl) dX7_likely_30 ⟨Nat.zero_le _, Nat.zero_le _⟩ ?_
      refine lv_istore (lv' := [(4, .int r_19), (0, .ref (a0 0)), (1, .int p1), (2, .int p2), (3, .int p3)]) hx hb dX7_likely_33 hl (by decide) rfl (fun ls hl => ?_)
      refine lv_iload hx hb dX7_likely_35 (lv_at hl 0 rfl) ?_
      refine lv_if_ne (tgt := 43) hx hb dX7_likely_37 (by decide) (fun q_20 => ?_) (fun q_20 => ?_)
      · have h := mk_ifn q_20 h
        refine lv_iconst (v := (0 : Int32)) hx hb dX7_likely_43 (by decide) ?_
        refine lv_istore (lv' := [(5, .int (0 : Int32)), (4, .int r_19), (0, .ref (a0 0)), (1, .int p1), (2, .int p2), (3, .int p3)]) hx hb dX7_likely_44 hl (by decide) rfl (fun ls hl => ?_)
        refine lv_iconst (v := (0 : Int32)) hx hb dX7_likely_46 (by decide) ?_
        refine lv_istore (lv' := [(6, .int (0 : Int32)), (5, .int (0 : Int32)), (4, .int r_19), (0, .ref (a0 0)), (1, .int p1), (2, .int p2), (3, .int p3)]) hx hb dX7_likely_47 hl (by decide) rfl (fun ls hl => ?_)
        exact K49 p1 p2 p3 r_19 (0 : Int32) (0 : Int32) ls (lv_sub hl [3, 4, 5, 6, 2, 1, 0] rfl) h
      · have h := mk_ifp q_20 h
        refine lv_bipush (v := (-3 : Int32)) hx hb dX7_likely_40 (by decide) ?_
        exact hret _ _ _ h dX7_likely_42
    · have h := mk_ifp q_16 h
      refine lv_iconst (v := (-1 : Int32)) hx hb dX7_likely_16 (by decide) ?_
      exact hret _ _ _ h dX7_likely_17

abbrev rm_X7_see : Room := { frames := 2, cells := 0, slots := 0, locals := 46 }
set_option maxRecDepth 20000 in
theorem k_X7_see_X7_isThing_136 : GoodIn wsX7_see (wsV RX7 136 RX7 yX7_isThing wsX7_isThing) := goodIn_r _ [5, 6, 7, 8, 9, 10, 11, 12, 8, 13, 14, 15, 16, 17, 18, 19, 20, 21, 22, 23, 24, 25, 26, 27, 28, 29, 30, 31, 32, 33, 34, 35, 36, 37, 38, 39, 40, 41, 42, 43, 44, 45, 46] rfl (by decide +kernel)
set_option maxRecDepth 20000 in
theorem k_X7_see_X7_in_73 : GoodIn wsX7_see (va_wsS RX7 73 yX7_in wsX7_in) := goodIn_r _ [11, 12, 8, 13] rfl (by decide +kernel)
set_option maxHeartbeats 4000000 in
set_option maxRecDepth 100000 in
theorem c_X7_see (l : Launch) (D : va_G) (cI cZ cO : ClassId) (N : Nat) (a0 : Nat → Nat) (u0 : TU) (sd : Int64) (p1 : Int32) (p2 : Int32) (sz : Nat) (out : Int32 × TU) (h : f_X7_see N u0 sd p1 p2 = some out) : Met l yX7_see wsX7_see rm_X7_see (va_Pc [.ref (a0 0), .int p1, .int p2] (mk_Pe D vwCl (tyA cI cZ cO) (wX7 cI cZ a0 u0 sd) sz)) (va_Qi (fun r u => (r, u) = out) (mk_Be D vwCl (wX7 cI cZ a0 u0 sd) sz (fun q => (wX7 cI cZ a0 q sd))) (va_A (wX7 cI cZ a0 u0 sd) sz)) 0 0 (va_A (wX7 cI cZ a0 u0 sd) sz) := by
  refine em_i (own := RX7) (cc := cX7_see) (maxL := 3) (by decide) rfl rfl (Nat.le_of_ble_eq_true rfl) ?_
  intro p e s m args below meth c Q A H0 H locs ls hx hb hml hown hts hP hK hD hS hA hl hret
  have hl : lv_has ls 3 [(0, .ref (a0 0)), (1, .int p1), (2, .int p2)] := hl
  have hiX7 : ∀ w ∈ u_ws RX7 TX7 33, w ∈ wsX7_see := mk_seg 14 33 rfl
  unfold f_X7_see at h
  refine lv_aload_n hx hb dX7_see_0 rfl (lv_at hl 0 rfl) ?_
  refine lv_iload_n hx hb dX7_see_1 rfl (lv_at hl 1 rfl) ?_
  obtain ⟨r_1, er_1, h⟩ := mk_bd h
  refine pc_v (As := [.int p1]) (rest := []) ⟨hx, hb, hml, hown, hts⟩ (c_X7_isThing l D cI cZ cO N a0 u0 sd p1 r_1 er_1) (cwV 1 hts k_X7_see_X7_isThing_136 rfl rfl rfl (by decide +kernel) ⟨(Nat.le_of_ble_eq_true rfl), (Nat.le_of_ble_eq_true rfl)⟩) (va_recv hK hP (ci := 7) (q0 := 0) rfl rfl) hP hK rfl hl.1 rfl (Nat.le_of_ble_eq_true rfl) dX7_see_2 ⟨Nat.zero_le _, Nat.zero_le _⟩ ?_
  refine lv_if_ne (tgt := 10) hx hb dX7_see_5 (by decide) (fun q_2 => ?_) (fun q_2 => ?_)
  · have h := mk_ifn q_2 h
    refine lv_iload_n hx hb dX7_see_10 rfl (lv_at hl 2 rfl) ?_
    refine lv_i2l (v := (p2.toInt64)) hx hb dX7_see_11 rfl ?_
    refine lv_lconst (v := (0 : Int64)) hx hb dX7_see_12 (by decide) ?_
    refine lv_ldc2 (v := (9 : Int64)) hx hb hown (hts (.constantLong RX7 87 (9)) (List.mem_of_getElem? (i := 1) rfl)) dX7_see_13 ?_
    obtain ⟨r_3, er_3, h⟩ := mk_bd h
    refine pc_s (As := [.long (p2.toInt64), .long (0 : Int64), .long (9 : Int64)]) (rest := []) ⟨hx, hb, hml, hown, hts⟩ (c_X7_in l D cI cZ cO N (p2.toInt64) (0 : Int64) (9 : Int64) r_3 er_3) (va_cwS 3 hts k_X7_see_X7_in_73 rfl rfl rfl (by decide +kernel) ⟨(Nat.le_of_ble_eq_true rfl), (Nat.le_of_ble_eq_true rfl)⟩) (hP.sub (ws' := []) [] rfl) hK rfl hl.1 rfl (Nat.le_of_ble_eq_true rfl) dX7_see_16 ⟨Nat.zero_le _, Nat.zero_le _⟩ ?_
    refine lv_if_ne (tgt := 25) hx hb dX7_see_19 (by decide) (fun q_4 => ?_) (fun q_4 => ?_)
    · have h := mk_ifn q_4 h
      refine lv_aload_n hx hb dX7_see_25 rfl (lv_at hl 0 rfl) ?_
      refine va_get (D := D) (ci := 7) (v := .int (u0 0 12)) (C := RX7) (T := TX7) (N := 33) hx hb hts hiX7 hown hK hP 0 rfl rfl 26 (by decide) (hts (.fieldLink RX7 228 "ClockOnceModel" "seen" "I") (List.mem_of_getElem? (i := 2) rfl)) (fun _ h9 => h9) rfl dX7_see_26 ?_
      refine lv_bipush (v := (6 : Int32)) hx hb dX7_see_29 (by decide) ?_
      refine lv_icmp_ne (tgt := 37) hx hb dX7_see_31 (by decide) (fun q_5 => ?_) (fun q_5 => ?_)
      · have h := mk_ifn q_5 h
        refine lv_aload_n hx hb dX7_see_37 rfl (lv_at hl 0 rfl) ?_
        refine va_get (D := D) (ci := 7) (v := .ref (a0 15)) (C := RX7) (T := TX7) (N := 33) hx hb hts hiX7 hown hK hP 0 rfl rfl 27 (by decide) (hts (.fieldLink RX7 52 "ClockOnceModel" "seenOf" "[I") (List.mem_of_getElem? (i := 3) rfl)) (fun _ h9 => h9) rfl dX7_see_38 ?_
        refine lv_aload_n hx hb dX7_see_41 rfl (lv_at hl 0 rfl) ?_
        refine va_get (D := D) (ci := 7) (v := .int (u0 0 12)) (C := RX7) (T := TX7) (N := 33) hx hb hts hiX7 hown hK hP 0 rfl rfl 26 (by decide) (hts (.fieldLink RX7 228 "ClockOnceModel" "seen" "I") (List.mem_of_getElem? (i := 2) rfl)) (fun _ h9 => h9) rfl dX7_see_42 ?_
        refine lv_iload_n hx hb dX7_see_45 rfl (lv_at hl 1 rfl) ?_
        obtain ⟨hx_6, h⟩ := mk_ixE h
        obtain ⟨w_7, ew_7, h⟩ := mk_nmE h
        refine va_iast hx hb hK hP hD hS 15 0 rfl rfl hx_6 dX7_see_46 (fun H locs hP hD hS => ?_)
        have hP : va_P D vwCl (wX7 cI cZ a0 w_7 sd) H := by rw [ew_7]; exact hP
        have hD : va_D A (wX7 cI cZ a0 w_7 sd) := by rw [ew_7]; exact hD
        refine lv_aload_n hx hb dX7_see_47 rfl (lv_at hl 0 rfl) ?_
        refine va_get (D := D) (ci := 7) (v := .ref (a0 16)) (C := RX7) (T := TX7) (N := 33) hx hb hts hiX7 hown hK hP 0 rfl rfl 28 (by decide) (hts (.fieldLink RX7 55 "ClockOnceModel" "seenOn" "[I") (List.mem_of_getElem? (i := 4) rfl)) (fun _ h9 => h9) rfl dX7_see_48 ?_
        refine lv_aload_n hx hb dX7_see_51 rfl (lv_at hl 0 rfl) ?_
        refine va_get (D := D) (ci := 7) (v := .int (w_7 0 12)) (C := RX7) (T := TX7) (N := 33) hx hb hts hiX7 hown hK hP 0 rfl rfl 26 (by decide) (hts (.fieldLink RX7 228 "ClockOnceModel" "seen" "I") (List.mem_of_getElem? (i := 2) rfl)) (fun _ h9 => h9) rfl dX7_see_52 ?_
        refine lv_iload_n hx hb dX7_see_55 rfl (lv_at hl 2 rfl) ?_
        obtain ⟨hx_8, h⟩ := mk_ixE h
        obtain ⟨w_9, ew_9, h⟩ := mk_nmE h
        refine va_iast hx hb hK hP hD hS 16 0 rfl rfl hx_8 dX7_see_56 (fun H locs hP hD hS => ?_)
        have hP : va_P D vwCl (wX7 cI cZ a0 w_9 sd) H := by rw [ew_9]; exact hP
        have hD : va_D A (wX7 cI cZ a0 w_9 sd) := by rw [ew_9]; exact hD
        refine lv_aload_n hx hb dX7_see_57 rfl (lv_at hl 0 rfl) ?_
        refine lv_dup hx hb dX7_see_58 rfl ?_
        refine va_get (D := D) (ci := 7) (v := .int (w_9 0 12)) (C := RX7) (T := TX7) (N := 33) hx hb hts hiX7 hown hK hP 0 rfl rfl 26 (by decide) (hts (.fieldLink RX7 228 "ClockOnceModel" "seen" "I") (List.mem_of_getElem? (i := 2) rfl)) (fun _ h9 => h9) rfl dX7_see_59 ?_
        refine lv_iconst (v := (1 : Int32)) hx hb dX7_see_62 (by decide) ?_
        refine lv_iadd hx hb dX7_see_63 ?_
        obtain ⟨w_10, ew_10, h⟩ := mk_nmE h
        refine va_put (D := D) (ci := 7) (v := .int ((w_9 0 12) + (1 : Int32))) (ty := .int) (C := RX7) (T := TX7) (N := 33) hx hb hts hiX7 tyX7 tyX7_ok nmX7 hown hK hP hD hS 0 rfl rfl 26 (by decide) (hts (.fieldLink RX7 228 "ClockOnceModel" "seen" "I") (List.mem_of_getElem? (i := 2) rfl)) (fun _ h9 => h9) rfl (by decide +kernel) rfl rfl (Nat.le_of_ble_eq_true rfl) dX7_see_64 (fun H locs hP hD hS => ?_)
        have hP : va_P D vwCl (wX7 cI cZ a0 w_10 sd) H := by rw [ew_10]; exact hP
        have hD : va_D A (wX7 cI cZ a0 w_10 sd) := by rw [ew_10]; exact hD
        refine lv_aload_n hx hb dX7_see_67 rfl (lv_at hl 0 rfl) ?_
        refine va_get (D := D) (ci := 7) (v := .int (w_10 0 12)) (C := RX7) (T := TX7) (N := 33) hx hb hts hiX7 hown hK hP 0 rfl rfl 26 (by decide) (hts (.fieldLink RX7 228 "ClockOnceModel" "seen" "I") (List.mem_of_getElem? (i := 2) rfl)) (fun _ h9 => h9) rfl dX7_see_68 ?_
        exact hret _ _ _ _ _ _ h hP hD hS dX7_see_71
      · have h := mk_ifp q_5 h
        refine lv_bipush (v := (-4 : Int32)) hx hb dX7_see_34 (by decide) ?_
        exact hret _ _ _ _ _ _ h hP hD hS dX7_see_36
    · have h := mk_ifp q_4 h
      refine lv_bipush (v := (-2 : Int32)) hx hb dX7_see_22 (by decide) ?_
      exact hret _ _ _ _ _ _ h hP hD hS dX7_see_24
  · have h := mk_ifp q_2 h
    refine lv_iconst (v := (-1 : Int32)) hx hb dX7_see_8 (by decide) ?_
    exact hret _ _ _ _ _ _ h hP hD hS dX7_see_9

abbrev rm_X7_seed : Room := { frames := 0, cells := 0, slots := 0, locals := 0 }
set_option maxHeartbeats 4000000 in
set_option maxRecDepth 100000 in
theorem c_X7_seed (l : Launch) (D : va_G) (cI cZ cO : ClassId) (N : Nat) (a0 : Nat → Nat) (u0 : TU) (sd : Int64) (p1 : Int64) (sz : Nat) (out : Int64 × Int64) (h : f_X7_seed N u0 sd p1 = some out) : Met l yX7_seed wsX7_seed rm_X7_seed (va_Pc [.ref (a0 0), .long p1] (mk_Pe D vwCl (tyA cI cZ cO) (wX7 cI cZ a0 u0 sd) sz)) (va_Ql (fun r u => (r, u) = out) (mk_Be D vwCl (wX7 cI cZ a0 u0 sd) sz (fun q => (wX7 cI cZ a0 u0 q))) (va_A (wX7 cI cZ a0 u0 sd) sz)) 0 0 (va_A (wX7 cI cZ a0 u0 sd) sz) := by
  refine em_l (own := RX7) (cc := cX7_seed) (maxL := 5) (by decide) rfl rfl (Nat.le_of_ble_eq_true rfl) ?_
  intro p e s m args below meth c Q A H0 H locs ls hx hb hml hown hts hP hK hD hS hA hl hret
  have hl : lv_has ls 5 [(0, .ref (a0 0)), (1, .long p1)] := hl
  have hiX7 : ∀ w ∈ u_ws RX7 TX7 33, w ∈ wsX7_seed := mk_seg 2 33 rfl
  unfold f_X7_seed at h
  refine lv_aload_n hx hb dX7_seed_0 rfl (lv_at hl 0 rfl) ?_
  refine va_get (D := D) (ci := 7) (v := .long sd) (C := RX7) (T := TX7) (N := 33) hx hb hts hiX7 hown hK hP 0 rfl rfl 29 (by decide) (hts (.fieldLink RX7 242 "ClockOnceModel" "seed" "J") (List.mem_of_getElem? (i := 1) rfl)) (fun _ h9 => h9) rfl dX7_seed_1 ?_
  refine lv_lstore_n (lv' := [(3, .long sd), (0, .ref (a0 0)), (1, .long p1)]) hx hb dX7_seed_4 rfl hl (by decide) rfl (fun ls hl => ?_)
  refine lv_aload_n hx hb dX7_seed_5 rfl (lv_at hl 1 rfl) ?_
  refine lv_lload_n hx hb dX7_seed_6 rfl (lv_at hl 2 rfl) ?_
  obtain ⟨y_1, ey_1, h⟩ := mk_nmE h
  refine va_put (D := D) (ci := 7) (v := .long p1) (ty := .long) (C := RX7) (T := TX7) (N := 33) hx hb hts hiX7 tyX7 tyX7_ok nmX7 hown hK hP hD hS 0 rfl rfl 29 (by decide) (hts (.fieldLink RX7 242 "ClockOnceModel" "seed" "J") (List.mem_of_getElem? (i := 1) rfl)) (fun _ h9 => h9) rfl (by decide +kernel) rfl rfl (Nat.le_of_ble_eq_true rfl) dX7_seed_7 (fun H locs hP hD hS => ?_)
  have hP : va_P D vwCl (wX7 cI cZ a0 u0 y_1) H := by rw [ey_1]; exact hP
  have hD : va_D A (wX7 cI cZ a0 u0 y_1) := by rw [ey_1]; exact hD
  refine lv_lload_n hx hb dX7_seed_10 rfl (lv_at hl 0 rfl) ?_
  exact hret _ _ _ _ _ _ h hP hD hS dX7_seed_11

abbrev rm_X7_sell : Room := { frames := 2, cells := 0, slots := 0, locals := 46 }
set_option maxRecDepth 20000 in
theorem k_X7_sell_X7_isThing_136 : GoodIn wsX7_sell (wsV RX7 136 RX7 yX7_isThing wsX7_isThing) := goodIn_r _ [3, 4, 5, 6, 7, 8, 9, 10, 6, 11, 23, 24, 25, 26, 27, 28, 29, 30, 31, 32, 33, 34, 35, 36, 37, 38, 39, 40, 41, 42, 43, 44, 45, 46, 47, 48, 49, 50, 51, 52, 53, 54, 55] rfl (by decide +kernel)
set_option maxRecDepth 20000 in
theorem k_X7_sell_X7_keepAct_155 : GoodIn wsX7_sell (wsV RX7 155 RX7 yX7_keepAct wsX7_keepAct) := goodIn_r _ [12, 13, 14, 6, 15, 16, 17, 1, 18, 23, 24, 25, 26, 27, 28, 29, 30, 31, 32, 33, 34, 35, 36, 37, 38, 39, 40, 41, 42, 43, 44, 45, 46, 47, 48, 49, 50, 51, 52, 53, 54, 55] rfl (by decide +kernel)
set_option maxRecDepth 20000 in
theorem k_X7_sell_X7_trueEnd_140 : GoodIn wsX7_sell (wsV RX7 140 RX7 yX7_trueEnd wsX7_trueEnd) := goodIn_r _ [19, 20, 21, 6, 22, 2, 23, 24, 25, 26, 27, 28, 29, 30, 31, 32, 33, 34, 35, 36, 37, 38, 39, 40, 41, 42, 43, 44, 45, 46, 47, 48, 49, 50, 51, 52, 53, 54, 55] rfl (by decide +kernel)
set_option maxHeartbeats 4000000 in
set_option maxRecDepth 100000 in
theorem c_X7_sell (l : Launch) (D : va_G) (cI cZ cO : ClassId) (N : Nat) (a0 : Nat → Nat) (u0 : TU) (sd : Int64) (p1 : Int32) (sz : Nat) (out : Int32 × TU) (h : f_X7_sell N u0 sd p1 = some out) : Met l yX7_sell wsX7_sell rm_X7_sell (va_Pc [.ref (a0 0), .int p1] (mk_Pe D vwCl (tyA cI cZ cO) (wX7 cI cZ a0 u0 sd) sz)) (va_Qi (fun r u => (r, u) = out) (mk_Be D vwCl (wX7 cI cZ a0 u0 sd) sz (fun q => (wX7 cI cZ a0 q sd))) (va_A (wX7 cI cZ a0 u0 sd) sz)) 0 0 (va_A (wX7 cI cZ a0 u0 sd) sz) := by
  refine em_i (own := RX7) (cc := cX7_sell) (maxL := 3) (by decide) rfl rfl (Nat.le_of_ble_eq_true rfl) ?_
  intro p e s m args below meth c Q A H0 H locs ls hx hb hml hown hts hP hK hD hS hA hl hret
  have hl : lv_has ls 3 [(0, .ref (a0 0)), (1, .int p1)] := hl
  have hiX7 : ∀ w ∈ u_ws RX7 TX7 33, w ∈ wsX7_sell := mk_seg 23 33 rfl
  have K72 : ∀ (u0 : TU) (t0 : Int32) (H : Heap) (locs : List Loc) (ls : Array Slot), va_P D vwCl (wX7 cI cZ a0 u0 sd) H → va_D A (wX7 cI cZ a0 u0 sd) → va_S A H0 H locs → lv_has ls 3 [(0, .ref (a0 0))] → g_X7_sell_72 N u0 sd t0 = some out → W p l e rm_X7_sell s m args below meth c H locs 0 0 Q (F0 m 72 ls [.int t0]) := by
    intro u0 t0 H locs ls hP hD hS hl h
    unfold g_X7_sell_72 at h
    refine lv_istore_n (lv' := [(2, .int t0), (0, .ref (a0 0))]) hx hb dX7_sell_72 rfl hl (by decide) rfl (fun ls hl => ?_)
    refine lv_aload_n hx hb dX7_sell_73 rfl (lv_at hl 1 rfl) ?_
    refine va_get (D := D) (ci := 7) (v := .ref (a0 11)) (C := RX7) (T := TX7) (N := 33) hx hb hts hiX7 hown hK hP 0 rfl rfl 16 (by decide) (hts (.fieldLink RX7 40 "ClockOnceModel" "now" "[I") (List.mem_of_getElem? (i := 1) rfl)) (fun _ h9 => h9) rfl dX7_sell_74 ?_
    refine lv_iconst (v := (1 : Int32)) hx hb dX7_sell_77 (by decide) ?_
    refine lv_dup2_11 hx hb dX7_sell_78 rfl rfl ?_
    obtain ⟨v_1, ev_1, hiv_1, h⟩ := mk_rdE h
    refine va_iald hx hb hK hP 11 0 rfl rfl hiv_1 dX7_sell_79 ?_
    refine mk_topi ev_1 ?_
    refine lv_iload_n hx hb dX7_sell_80 rfl (lv_at hl 0 rfl) ?_
    refine lv_iadd hx hb dX7_sell_81 ?_
    obtain ⟨hx_2, h⟩ := mk_ixE h
    obtain ⟨w_3, ew_3, h⟩ := mk_nmE h
    refine va_iast hx hb hK hP hD hS 11 0 rfl rfl hx_2 dX7_sell_82 (fun H locs hP hD hS => ?_)
    have hP : va_P D vwCl (wX7 cI cZ a0 w_3 sd) H := by rw [ew_3]; exact hP
    have hD : va_D A (wX7 cI cZ a0 w_3 sd) := by rw [ew_3]; exact hD
    refine lv_iload_n hx hb dX7_sell_83 rfl (lv_at hl 0 rfl) ?_
    exact hret _ _ _ _ _ _ h hP hD hS dX7_sell_84
  unfold f_X7_sell at h
  refine lv_aload_n hx hb dX7_sell_0 rfl (lv_at hl 0 rfl) ?_
  refine lv_iload_n hx hb dX7_sell_1 rfl (lv_at hl 1 rfl) ?_
  obtain ⟨r_4, er_4, h⟩ := mk_bd h
  refine pc_v (As := [.int p1]) (rest := []) ⟨hx, hb, hml, hown, hts⟩ (c_X7_isThing l D cI cZ cO N a0 u0 sd p1 r_4 er_4) (cwV 1 hts k_X7_sell_X7_isThing_136 rfl rfl rfl (by decide +kernel) ⟨(Nat.le_of_ble_eq_true rfl), (Nat.le_of_ble_eq_true rfl)⟩) (va_recv hK hP (ci := 7) (q0 := 0) rfl rfl) hP hK rfl hl.1 rfl (Nat.le_of_ble_eq_true rfl) dX7_sell_2 ⟨Nat.zero_le _, Nat.zero_le _⟩ ?_
  refine lv_if_ne (tgt := 10) hx hb dX7_sell_5 (by decide) (fun q_5 => ?_) (fun q_5 => ?_)
  · have h := mk_ifn q_5 h
    refine lv_aload_n hx hb dX7_sell_10 rfl (lv_at hl 0 rfl) ?_
    refine va_get (D := D) (ci := 7) (v := .ref (a0 11)) (C := RX7) (T := TX7) (N := 33) hx hb hts hiX7 hown hK hP 0 rfl rfl 16 (by decide) (hts (.fieldLink RX7 40 "ClockOnceModel" "now" "[I") (List.mem_of_getElem? (i := 1) rfl)) (fun _ h9 => h9) rfl dX7_sell_11 ?_
    refine lv_iconst (v := (2 : Int32)) hx hb dX7_sell_14 (by decide) ?_
    refine lv_iload_n hx hb dX7_sell_15 rfl (lv_at hl 1 rfl) ?_
    refine lv_iadd hx hb dX7_sell_16 ?_
    obtain ⟨v_6, ev_6, hiv_6, h⟩ := mk_rdE h
    refine va_iald hx hb hK hP 11 0 rfl rfl hiv_6 dX7_sell_17 ?_
    refine mk_topi ev_6 ?_
    refine lv_bipush (v := (-9 : Int32)) hx hb dX7_sell_18 (by decide) ?_
    refine lv_icmp_eq (tgt := 26) hx hb dX7_sell_20 (by decide) (fun q_7 => ?_) (fun q_7 => ?_)
    · have h := mk_ifp q_7 h
      refine lv_aload_n hx hb dX7_sell_26 rfl (lv_at hl 0 rfl) ?_
      obtain ⟨r_8, er_8, h⟩ := mk_bd h
      refine es_vv (As := []) (rest := []) (w' := (wX7 cI cZ a0 r_8 sd)) ⟨hx, hb, hml, hown, hts⟩ (c_X7_keepAct l D cI cZ cO N a0 u0 sd H.size r_8 er_8) (cwV 0 hts k_X7_sell_X7_keepAct_155 rfl rfl rfl (by decide +kernel) ⟨(Nat.le_of_ble_eq_true rfl), (Nat.le_of_ble_eq_true rfl)⟩) (va_recv hK hP (ci := 7) (q0 := 0) rfl rfl) hK hP hD hS hA rfl rfl hl.1 rfl (Nat.le_of_ble_eq_true rfl) dX7_sell_27 ⟨Nat.zero_le _, Nat.zero_le _⟩ (fun H locs hP hD hS => ?_)
      refine lv_aload_n hx hb dX7_sell_30 rfl (lv_at hl 0 rfl) ?_
      refine va_get (D := D) (ci := 7) (v := .ref (a0 11)) (C := RX7) (T := TX7) (N := 33) hx hb hts hiX7 hown hK hP 0 rfl rfl 16 (by decide) (hts (.fieldLink RX7 40 "ClockOnceModel" "now" "[I") (List.mem_of_getElem? (i := 1) rfl)) (fun _ h9 => h9) rfl dX7_sell_31 ?_
      refine lv_iconst (v := (2 : Int32)) hx hb dX7_sell_34 (by decide) ?_
      refine lv_iload_n hx hb dX7_sell_35 rfl (lv_at hl 1 rfl) ?_
      refine lv_iadd hx hb dX7_sell_36 ?_
      refine lv_aload_n hx hb dX7_sell_37 rfl (lv_at hl 0 rfl) ?_
      refine va_get (D := D) (ci := 7) (v := .ref (a0 11)) (C := RX7) (T := TX7) (N := 33) hx hb hts hiX7 hown hK hP 0 rfl rfl 16 (by decide) (hts (.fieldLink RX7 40 "ClockOnceModel" "now" "[I") (List.mem_of_getElem? (i := 1) rfl)) (fun _ h9 => h9) rfl dX7_sell_38 ?_
      refine lv_iconst (v := (0 : Int32)) hx hb dX7_sell_41 (by decide) ?_
      obtain ⟨v_9, ev_9, hiv_9, h⟩ := mk_rdE h
      refine va_iald hx hb hK hP 11 0 rfl rfl hiv_9 dX7_sell_42 ?_
      refine mk_topi ev_9 ?_
      obtain ⟨hx_10, h⟩ := mk_ixE h
      obtain ⟨w_11, ew_11, h⟩ := mk_nmE h
      refine va_iast hx hb hK hP hD hS 11 0 rfl rfl hx_10 dX7_sell_43 (fun H locs hP hD hS => ?_)
      have hP : va_P D vwCl (wX7 cI cZ a0 w_11 sd) H := by rw [ew_11]; exact hP
      have hD : va_D A (wX7 cI cZ a0 w_11 sd) := by rw [ew_11]; exact hD
      refine lv_aload_n hx hb dX7_sell_44 rfl (lv_at hl 0 rfl) ?_
      refine lv_iload_n hx hb dX7_sell_45 rfl (lv_at hl 1 rfl) ?_
      obtain ⟨r_12, er_12, h⟩ := mk_bd h
      refine pc_v (As := [.int p1]) (rest := []) ⟨hx, hb, hml, hown, hts⟩ (c_X7_trueEnd l D cI cZ cO N a0 w_11 sd p1 r_12 er_12) (cwV 1 hts k_X7_sell_X7_trueEnd_140 rfl rfl rfl (by decide +kernel) ⟨(Nat.le_of_ble_eq_true rfl), (Nat.le_of_ble_eq_true rfl)⟩) (va_recv hK hP (ci := 7) (q0 := 0) rfl rfl) hP hK rfl hl.1 rfl (Nat.le_of_ble_eq_true rfl) dX7_sell_46 ⟨Nat.zero_le _, Nat.zero_le _⟩ ?_
      refine lv_aload_n hx hb dX7_sell_49 rfl (lv_at hl 0 rfl) ?_
      refine va_get (D := D) (ci := 7) (v := .ref (a0 11)) (C := RX7) (T := TX7) (N := 33) hx hb hts hiX7 hown hK hP 0 rfl rfl 16 (by decide) (hts (.fieldLink RX7 40 "ClockOnceModel" "now" "[I") (List.mem_of_getElem? (i := 1) rfl)) (fun _ h9 => h9) rfl dX7_sell_50 ?_
      refine lv_iconst (v := (0 : Int32)) hx hb dX7_sell_53 (by decide) ?_
      obtain ⟨v_13, ev_13, hiv_13, h⟩ := mk_rdE h
      refine va_iald hx hb hK hP 11 0 rfl rfl hiv_13 dX7_sell_54 ?_
      refine mk_topi ev_13 ?_
      refine lv_icmp_le (tgt := 71) hx hb dX7_sell_55 (by decide) (fun q_14 => ?_) (fun q_14 => ?_)
      · have h := mk_ifp q_14 h
        refine lv_iconst (v := (0 : Int32)) hx hb dX7_sell_71 (by decide) ?_
        exact K72 w_11 (0 : Int32) H locs ls hP hD hS (lv_sub hl [0] rfl) h
      · have h := mk_ifn q_14 h
        refine lv_aload_n hx hb dX7_sell_58 rfl (lv_at hl 0 rfl) ?_
        refine va_get (D := D) (ci := 7) (v := .ref (a0 1)) (C := RX7) (T := TX7) (N := 33) hx hb hts hiX7 hown hK hP 0 rfl rfl 3 (by decide) (hts (.fieldLink RX7 7 "ClockOnceModel" "of" "[I") (List.mem_of_getElem? (i := 2) rfl)) (fun _ h9 => h9) rfl dX7_sell_59 ?_
        refine lv_iconst (v := (5 : Int32)) hx hb dX7_sell_62 (by decide) ?_
        refine lv_iload_n hx hb dX7_sell_63 rfl (lv_at hl 1 rfl) ?_
        refine lv_imul hx hb dX7_sell_64 ?_
        refine lv_iconst (v := (3 : Int32)) hx hb dX7_sell_65 (by decide) ?_
        refine lv_iadd hx hb dX7_sell_66 ?_
        obtain ⟨v_15, ev_15, hiv_15, h⟩ := mk_rdE h
        refine va_iald hx hb hK hP 1 0 rfl rfl hiv_15 dX7_sell_67 ?_
        refine mk_topi ev_15 ?_
        refine lv_goto (tgt := 72) hx hb dX7_sell_68 (by decide) ?_
        exact K72 w_11 v_15 H locs ls hP hD hS (lv_sub hl [0] rfl) h
    · have h := mk_ifn q_7 h
      refine lv_bipush (v := (-3 : Int32)) hx hb dX7_sell_23 (by decide) ?_
      exact hret _ _ _ _ _ _ h hP hD hS dX7_sell_25
  · have h := mk_ifp q_5 h
    refine lv_iconst (v := (-1 : Int32)) hx hb dX7_sell_8 (by decide) ?_
    exact hret _ _ _ _ _ _ h hP hD hS dX7_sell_9

abbrev rm_X7_share : Room := { frames := 7, cells := 0, slots := 0, locals := 161 }
set_option maxRecDepth 20000 in
theorem k_X7_share_X7_factorial_225 : GoodIn wsX7_share (va_wsS RX7 225 yX7_factorial wsX7_factorial) := goodIn_r _ [84, 85, 6, 86] rfl (by decide +kernel)
set_option maxRecDepth 20000 in
theorem k_X7_share_X7_common_183 : GoodIn wsX7_share (va_wsS RX7 183 yX7_common wsX7_common) := goodIn_r _ [104, 105, 6, 106] rfl (by decide +kernel)
set_option maxRecDepth 20000 in
theorem k_X7_share_X7_has_89 : GoodIn wsX7_share (va_wsS RX7 89 yX7_has wsX7_has) := goodIn_r _ [32, 33, 6, 34] rfl (by decide +kernel)
set_option maxRecDepth 20000 in
theorem k_X7_share_X7_ones_213 : GoodIn wsX7_share (va_wsS RX7 213 yX7_ones wsX7_ones) := goodIn_r _ [81, 82, 6, 83] rfl (by decide +kernel)
set_option maxRecDepth 20000 in
theorem k_X7_share_X7_bestBy_222 : GoodIn wsX7_share (wsV RX7 222 RX7 yX7_bestBy wsX7_bestBy) := goodIn_r _ [87, 88, 89, 6, 90, 2, 91, 92, 93, 6, 94, 8, 95, 96, 97, 98, 99, 32, 33, 34, 100, 101, 102, 103, 16, 9, 10, 11, 81, 82, 83, 107, 108, 109, 110, 111, 112, 113, 114, 115, 116, 117, 118, 119, 120, 121, 122, 123, 124, 125, 126, 127, 128, 129, 130, 131, 132, 133, 134, 135, 136, 137, 138, 139] rfl (by decide +kernel)
set_option maxRecDepth 20000 in
theorem k_X7_share_X7_isAsker_146 : GoodIn wsX7_share (wsV RX7 146 RX7 yX7_isAsker wsX7_isAsker) := goodIn_r _ [3, 4, 5, 6, 7, 8, 9, 10, 6, 11, 107, 108, 109, 110, 111, 112, 113, 114, 115, 116, 117, 118, 119, 120, 121, 122, 123, 124, 125, 126, 127, 128, 129, 130, 131, 132, 133, 134, 135, 136, 137, 138, 139] rfl (by decide +kernel)
set_option maxRecDepth 20000 in
theorem k_X7_share_X7_partsBy_180 : GoodIn wsX7_share (wsV RX7 180 RX7 yX7_partsBy wsX7_partsBy) := goodIn_r _ [12, 13, 14, 6, 15, 16, 17, 18, 19, 6, 20, 21, 22, 23, 24, 25, 26, 27, 28, 29, 30, 31, 32, 33, 34, 35, 36, 37, 38, 39, 40, 41, 42, 43, 44, 45, 46, 47, 48, 49, 50, 51, 107, 108, 109, 110, 111, 112, 113, 114, 115, 116, 117, 118, 119, 120, 121, 122, 123, 124, 125, 126, 127, 128, 129, 130, 131, 132, 133, 134, 135, 136, 137, 138, 139] rfl (by decide +kernel)
set_option maxRecDepth 20000 in
theorem k_X7_share_X7_layWorths_216 : GoodIn wsX7_share (wsV RX7 216 RX7 yX7_layWorths wsX7_layWorths) := goodIn_r _ [52, 53, 54, 6, 55, 16, 2, 56, 57, 58, 6, 59, 1, 60, 61, 62, 63, 64, 17, 18, 19, 20, 21, 22, 23, 24, 25, 26, 27, 28, 29, 30, 31, 32, 33, 34, 35, 36, 37, 38, 39, 40, 41, 42, 43, 44, 45, 46, 47, 65, 66, 67, 68, 69, 70, 71, 72, 48, 49, 50, 51, 73, 74, 75, 76, 107, 108, 109, 110, 111, 112, 113, 114, 115, 116, 117, 118, 119, 120, 121, 122, 123, 124, 125, 126, 127, 128, 129, 130, 131, 132, 133, 134, 135, 136, 137, 138, 139] rfl (by decide +kernel)
set_option maxRecDepth 20000 in
theorem k_X7_share_X7_fresh_219 : GoodIn wsX7_share (wsV RX7 219 RX7 yX7_fresh wsX7_fresh) := goodIn_r _ [77, 78, 79, 6, 80, 8, 1, 107, 108, 109, 110, 111, 112, 113, 114, 115, 116, 117, 118, 119, 120, 121, 122, 123, 124, 125, 126, 127, 128, 129, 130, 131, 132, 133, 134, 135, 136, 137, 138, 139] rfl (by decide +kernel)
set_option maxHeartbeats 4000000 in
set_option maxRecDepth 100000 in
theorem c_X7_share (l : Launch) (D : va_G) (cI cZ cO : ClassId) (N : Nat) (a0 : Nat → Nat) (u0 : TU) (sd : Int64) (p1 : Int32) (p2 : Int32) (sz : Nat) (out : Int32 × TU) (h : f_X7_share N u0 sd p1 p2 = some out) : Met l yX7_share wsX7_share rm_X7_share (va_Pc [.ref (a0 0), .int p1, .int p2] (mk_Pe D vwCl (tyA cI cZ cO) (wX7 cI cZ a0 u0 sd) sz)) (va_Qi (fun r u => (r, u) = out) (mk_Be D vwCl (wX7 cI cZ a0 u0 sd) sz (fun q => (wX7 cI cZ a0 q sd))) (va_A (wX7 cI cZ a0 u0 sd) sz)) 0 0 (va_A (wX7 cI cZ a0 u0 sd) sz) := by
  refine em_i (own := RX7) (cc := cX7_share) (maxL := 9) (by decide) rfl rfl (Nat.le_of_ble_eq_true rfl) ?_
  intro p e s m args below meth c Q A H0 H locs ls hx hb hml hown hts hP hK hD hS hA hl hret
  have hl : lv_has ls 9 [(0, .ref (a0 0)), (1, .int p1), (2, .int p2)] := hl
  have hiX7 : ∀ w ∈ u_ws RX7 TX7 33, w ∈ wsX7_share := mk_seg 107 33 rfl
  have K152 : ∀ (u0 : TU) (x2 : Int32) (x3 : Int32) (x5 : Int32) (x6 : Int32) (H : Heap) (locs : List Loc) (ls : Array Slot), va_P D vwCl (wX7 cI cZ a0 u0 sd) H → va_D A (wX7 cI cZ a0 u0 sd) → va_S A H0 H locs → lv_has ls 9 [(2, .int x2), (3, .int x3), (5, .int x5), (6, .int x6)] → g_X7_share_152 N u0 sd x2 x3 x5 x6 = some out → W p l e rm_X7_share s m args below meth c H locs 0 0 Q (F0 m 152 ls []) := by
    intro u0 x2 x3 x5 x6 H locs ls hP hD hS hl h
    unfold g_X7_share_152 at h
    refine lv_iload_n hx hb dX7_share_152 rfl (lv_at hl 1 rfl) ?_
    refine lv_iload hx hb dX7_share_153 (lv_at hl 2 rfl) ?_
    obtain ⟨r_1, er_1, h⟩ := mk_bd h
    refine pc_s (As := [.int x5]) (rest := [.int x3]) ⟨hx, hb, hml, hown, hts⟩ (c_X7_factorial l D cI cZ cO N x5 r_1 er_1) (va_cwS 1 hts k_X7_share_X7_factorial_225 rfl rfl rfl (by decide +kernel) ⟨(Nat.le_of_ble_eq_true rfl), (Nat.le_of_ble_eq_true rfl)⟩) (hP.sub (ws' := []) [] rfl) hK rfl hl.1 rfl (Nat.le_of_ble_eq_true rfl) dX7_share_155 ⟨Nat.zero_le _, Nat.zero_le _⟩ ?_
    refine lv_imul hx hb dX7_share_158 ?_
    refine lv_istore (lv' := [(7, .int (x3 * r_1)), (2, .int x2), (3, .int x3), (5, .int x5), (6, .int x6)]) hx hb dX7_share_159 hl (by decide) rfl (fun ls hl => ?_)
    refine lv_iload hx hb dX7_share_161 (lv_at hl 4 rfl) ?_
    refine lv_iload hx hb dX7_share_163 (lv_at hl 0 rfl) ?_
    obtain ⟨r_2, er_2, h⟩ := mk_bd h
    refine pc_s (As := [.int x6, .int (x3 * r_1)]) (rest := []) ⟨hx, hb, hml, hown, hts⟩ (c_X7_common l D cI cZ cO N x6 (x3 * r_1) r_2 er_2) (va_cwS 2 hts k_X7_share_X7_common_183 rfl rfl rfl (by decide +kernel) ⟨(Nat.le_of_ble_eq_true rfl), (Nat.le_of_ble_eq_true rfl)⟩) (hP.sub (ws' := []) [] rfl) hK rfl hl.1 rfl (Nat.le_of_ble_eq_true rfl) dX7_share_165 ⟨Nat.zero_le _, Nat.zero_le _⟩ ?_
    refine lv_istore (lv' := [(8, .int r_2), (7, .int (x3 * r_1)), (2, .int x2), (3, .int x3), (5, .int x5), (6, .int x6)]) hx hb dX7_share_168 hl (by decide) rfl (fun ls hl => ?_)
    refine lv_iload_n hx hb dX7_share_170 rfl (lv_at hl 2 rfl) ?_
    refine lv_if_eq (tgt := 182) hx hb dX7_share_171 (by decide) (fun q_3 => ?_) (fun q_3 => ?_)
    · have h := mk_ifp q_3 h
      refine lv_iload hx hb dX7_share_182 (lv_at hl 1 rfl) ?_
      refine lv_iload hx hb dX7_share_184 (lv_at hl 0 rfl) ?_
      obtain ⟨hz_4, h⟩ := mk_nzE h
      refine lv_idiv hx hb dX7_share_186 hz_4 ?_
      exact hret _ _ _ _ _ _ h hP hD hS dX7_share_187
    · have h := mk_ifn q_3 h
      refine lv_iload hx hb dX7_share_174 (lv_at hl 5 rfl) ?_
      refine lv_iload hx hb dX7_share_176 (lv_at hl 0 rfl) ?_
      obtain ⟨hz_5, h⟩ := mk_nzE h
      refine lv_idiv hx hb dX7_share_178 hz_5 ?_
      refine lv_goto (tgt := 187) hx hb dX7_share_179 (by decide) ?_
      exact hret _ _ _ _ _ _ h hP hD hS dX7_share_187
  have K52 : ∀ (u0 : TU) (x1 : Int32) (x2 : Int32) (x3 : Int32) (x4 : Int32) (x5 : Int32) (x6 : Int32) (x7 : Int32) (H : Heap) (locs : List Loc) (ls : Array Slot), va_P D vwCl (wX7 cI cZ a0 u0 sd) H → va_D A (wX7 cI cZ a0 u0 sd) → va_S A H0 H locs → lv_has ls 9 [(0, .ref (a0 0)), (1, .int x1), (2, .int x2), (3, .int x3), (4, .int x4), (5, .int x5), (6, .int x6), (7, .int x7)] → lq2 (g_X7_share_52 N u0 sd x1 x2 x3 x4 x5) N x6 x7 = some out → W p l e rm_X7_share s m args below meth c H locs 0 0 Q (F0 m 52 ls []) := by
    intro u0 x1 x2 x3 x4 x5 x6 x7 H locs ls hP hD hS hl h
    refine lq2_W (Wd := fun x6 x7 => ∀ (H : Heap) (locs : List Loc) (ls : Array Slot), va_P D vwCl (wX7 cI cZ a0 u0 sd) H → va_D A (wX7 cI cZ a0 u0 sd) → va_S A H0 H locs → lv_has ls 9 [(0, .ref (a0 0)), (1, .int x1), (2, .int x2), (3, .int x3), (4, .int x4), (5, .int x5), (6, .int x6), (7, .int x7)] → W p l e rm_X7_share s m args below meth c H locs 0 0 Q (F0 m 52 ls [])) (fun rec52 ih52 x6 x7 h H locs ls hP hD hS hl => ?_) N x6 x7 h H locs ls hP hD hS hl
    unfold g_X7_share_52 at h
    refine lv_iload hx hb dX7_share_52 (lv_at hl 7 rfl) ?_
    refine lv_bipush (v := (16 : Int32)) hx hb dX7_share_54 (by decide) ?_
    refine lv_icmp_ge (tgt := 152) hx hb dX7_share_56 (by decide) (fun q_6 => ?_) (fun q_6 => ?_)
    · have h := mk_ifp q_6 h
      exact K152 u0 x2 x3 x5 x6 H locs ls hP hD hS (lv_sub hl [2, 3, 5, 6] rfl) h
    · have h := mk_ifn q_6 h
      refine lv_iload hx hb dX7_share_59 (lv_at hl 4 rfl) ?_
      refine lv_iload_n hx hb dX7_share_61 rfl (lv_at hl 1 rfl) ?_
      obtain ⟨r_7, er_7, h⟩ := mk_bd h
      refine pc_s (As := [.int x4, .int x1]) (rest := []) ⟨hx, hb, hml, hown, hts⟩ (c_X7_has l D cI cZ cO N x4 x1 r_7 er_7) (va_cwS 2 hts k_X7_share_X7_has_89 rfl rfl rfl (by decide +kernel) ⟨(Nat.le_of_ble_eq_true rfl), (Nat.le_of_ble_eq_true rfl)⟩) (hP.sub (ws' := []) [] rfl) hK rfl hl.1 rfl (Nat.le_of_ble_eq_true rfl) dX7_share_62 ⟨Nat.zero_le _, Nat.zero_le _⟩ ?_
      refine lv_if_eq (tgt := 152) hx hb dX7_share_65 (by decide) (fun q_8 => ?_) (fun q_8 => ?_)
      · have h := mk_ifp q_8 h
        exact K152 u0 x2 x3 x5 x6 H locs ls hP hD hS (lv_sub hl [2, 3, 5, 6] rfl) h
      · have h := mk_ifn q_8 h
        refine lv_iload hx hb dX7_share_68 (lv_at hl 7 rfl) ?_
        refine lv_iload hx hb dX7_share_70 (lv_at hl 4 rfl) ?_
        refine lv_iconst (v := (-1 : Int32)) hx hb dX7_share_72 (by decide) ?_
        refine lv_ixor hx hb dX7_share_73 ?_
        refine lv_iand hx hb dX7_share_74 ?_
        refine lv_if_ne (tgt := 146) hx hb dX7_share_75 (by decide) (fun q_9 => ?_) (fun q_9 => ?_)
        · have h := mk_ifn q_9 h
          refine lv_iinc (v := (x7 + (1 : Int32))) (lv' := [(7, .int (x7 + (1 : Int32))), (0, .ref (a0 0)), (1, .int x1), (2, .int x2), (3, .int x3), (4, .int x4), (5, .int x5), (6, .int x6)]) hx hb dX7_share_146 hl (k := 7) rfl rfl (by decide) rfl (fun ls hl => ?_)
          refine lv_goto (tgt := 52) hx hb dX7_share_149 (by decide) ?_
          exact ih52 x6 (x7 + (1 : Int32)) h H locs ls hP hD hS (lv_sub hl [1, 2, 3, 4, 5, 6, 7, 0] rfl)
        · have h := mk_ifp q_9 h
          refine lv_iload hx hb dX7_share_78 (lv_at hl 7 rfl) ?_
          refine lv_iload_n hx hb dX7_share_80 rfl (lv_at hl 1 rfl) ?_
          obtain ⟨r_10, er_10, h⟩ := mk_bd h
          refine pc_s (As := [.int x7, .int x1]) (rest := []) ⟨hx, hb, hml, hown, hts⟩ (c_X7_has l D cI cZ cO N x7 x1 r_10 er_10) (va_cwS 2 hts k_X7_share_X7_has_89 rfl rfl rfl (by decide +kernel) ⟨(Nat.le_of_ble_eq_true rfl), (Nat.le_of_ble_eq_true rfl)⟩) (hP.sub (ws' := []) [] rfl) hK rfl hl.1 rfl (Nat.le_of_ble_eq_true rfl) dX7_share_81 ⟨Nat.zero_le _, Nat.zero_le _⟩ ?_
          refine lv_if_ne (tgt := 146) hx hb dX7_share_84 (by decide) (fun q_11 => ?_) (fun q_11 => ?_)
          · have h := mk_ifn q_11 h
            refine lv_iinc (v := (x7 + (1 : Int32))) (lv' := [(7, .int (x7 + (1 : Int32))), (0, .ref (a0 0)), (1, .int x1), (2, .int x2), (3, .int x3), (4, .int x4), (5, .int x5), (6, .int x6)]) hx hb dX7_share_146 hl (k := 7) rfl rfl (by decide) rfl (fun ls hl => ?_)
            refine lv_goto (tgt := 52) hx hb dX7_share_149 (by decide) ?_
            exact ih52 x6 (x7 + (1 : Int32)) h H locs ls hP hD hS (lv_sub hl [1, 2, 3, 4, 5, 6, 7, 0] rfl)
          · have h := mk_ifp q_11 h
            refine lv_iload hx hb dX7_share_87 (lv_at hl 7 rfl) ?_
            obtain ⟨r_12, er_12, h⟩ := mk_bd h
            refine pc_s (As := [.int x7]) (rest := []) ⟨hx, hb, hml, hown, hts⟩ (c_X7_ones l D cI cZ cO N x7 r_12 er_12) (va_cwS 1 hts k_X7_share_X7_ones_213 rfl rfl rfl (by decide +kernel) ⟨(Nat.le_of_ble_eq_true rfl), (Nat.le_of_ble_eq_true rfl)⟩) (hP.sub (ws' := []) [] rfl) hK rfl hl.1 rfl (Nat.le_of_ble_eq_true rfl) dX7_share_89 ⟨Nat.zero_le _, Nat.zero_le _⟩ ?_
            obtain ⟨r_13, er_13, h⟩ := mk_bd h
            refine pc_s (As := [.int r_12]) (rest := []) ⟨hx, hb, hml, hown, hts⟩ (c_X7_factorial l D cI cZ cO N r_12 r_13 er_13) (va_cwS 1 hts k_X7_share_X7_factorial_225 rfl rfl rfl (by decide +kernel) ⟨(Nat.le_of_ble_eq_true rfl), (Nat.le_of_ble_eq_true rfl)⟩) (hP.sub (ws' := []) [] rfl) hK rfl hl.1 rfl (Nat.le_of_ble_eq_true rfl) dX7_share_92 ⟨Nat.zero_le _, Nat.zero_le _⟩ ?_
            refine lv_iload hx hb dX7_share_95 (lv_at hl 5 rfl) ?_
            refine lv_iconst (v := (1 : Int32)) hx hb dX7_share_97 (by decide) ?_
            refine lv_isub hx hb dX7_share_98 ?_
            refine lv_iload hx hb dX7_share_99 (lv_at hl 7 rfl) ?_
            obtain ⟨r_14, er_14, h⟩ := mk_bd h
            refine pc_s (As := [.int x7]) (rest := [.int (x5 - (1 : Int32)), .int r_13]) ⟨hx, hb, hml, hown, hts⟩ (c_X7_ones l D cI cZ cO N x7 r_14 er_14) (va_cwS 1 hts k_X7_share_X7_ones_213 rfl rfl rfl (by decide +kernel) ⟨(Nat.le_of_ble_eq_true rfl), (Nat.le_of_ble_eq_true rfl)⟩) (hP.sub (ws' := []) [] rfl) hK rfl hl.1 rfl (Nat.le_of_ble_eq_true rfl) dX7_share_101 ⟨Nat.zero_le _, Nat.zero_le _⟩ ?_
            refine lv_isub hx hb dX7_share_104 ?_
            obtain ⟨r_15, er_15, h⟩ := mk_bd h
            refine pc_s (As := [.int ((x5 - (1 : Int32)) - r_14)]) (rest := [.int r_13]) ⟨hx, hb, hml, hown, hts⟩ (c_X7_factorial l D cI cZ cO N ((x5 - (1 : Int32)) - r_14) r_15 er_15) (va_cwS 1 hts k_X7_share_X7_factorial_225 rfl rfl rfl (by decide +kernel) ⟨(Nat.le_of_ble_eq_true rfl), (Nat.le_of_ble_eq_true rfl)⟩) (hP.sub (ws' := []) [] rfl) hK rfl hl.1 rfl (Nat.le_of_ble_eq_true rfl) dX7_share_105 ⟨Nat.zero_le _, Nat.zero_le _⟩ ?_
            refine lv_imul hx hb dX7_share_108 ?_
            refine lv_istore (lv' := [(8, .int (r_13 * r_15)), (0, .ref (a0 0)), (1, .int x1), (2, .int x2), (3, .int x3), (4, .int x4), (5, .int x5), (6, .int x6), (7, .int x7)]) hx hb dX7_share_109 hl (by decide) rfl (fun ls hl => ?_)
            refine lv_iload hx hb dX7_share_111 (lv_at hl 7 rfl) ?_
            refine lv_iload hx hb dX7_share_113 (lv_at hl 0 rfl) ?_
            refine lv_aload_n hx hb dX7_share_115 rfl (lv_at hl 1 rfl) ?_
            refine va_get (D := D) (ci := 7) (v := .ref (a0 14)) (C := RX7) (T := TX7) (N := 33) hx hb hts hiX7 hown hK hP 0 rfl rfl 25 (by decide) (hts (.fieldLink RX7 49 "ClockOnceModel" "worths" "[I") (List.mem_of_getElem? (i := 2) rfl)) (fun _ h9 => h9) rfl dX7_share_116 ?_
            refine lv_aload_n hx hb dX7_share_119 rfl (lv_at hl 1 rfl) ?_
            refine lv_iload hx hb dX7_share_120 (lv_at hl 8 rfl) ?_
            refine lv_iconst (v := (1 : Int32)) hx hb dX7_share_122 (by decide) ?_
            refine lv_iload_n hx hb dX7_share_123 rfl (lv_at hl 2 rfl) ?_
            refine lv_ishl hx hb dX7_share_124 ?_
            refine lv_ior hx hb dX7_share_125 ?_
            obtain ⟨r_16, er_16, h⟩ := mk_bd h
            refine pc_v (As := [.int (x7 ||| ((1 : Int32) <<< (x1 &&& 31)))]) (rest := [.ref (a0 14), .int (r_13 * r_15), .int x6]) ⟨hx, hb, hml, hown, hts⟩ (c_X7_bestBy l D cI cZ cO N a0 u0 sd (x7 ||| ((1 : Int32) <<< (x1 &&& 31))) r_16 er_16) (cwV 1 hts k_X7_share_X7_bestBy_222 rfl rfl rfl (by decide +kernel) ⟨(Nat.le_of_ble_eq_true rfl), (Nat.le_of_ble_eq_true rfl)⟩) (va_recv hK hP (ci := 7) (q0 := 0) rfl rfl) hP hK rfl hl.1 rfl (Nat.le_of_ble_eq_true rfl) dX7_share_126 ⟨Nat.zero_le _, Nat.zero_le _⟩ ?_
            obtain ⟨v_17, ev_17, hiv_17, h⟩ := mk_rdE h
            refine va_iald hx hb hK hP 14 0 rfl rfl hiv_17 dX7_share_129 ?_
            refine mk_topi ev_17 ?_
            refine lv_aload_n hx hb dX7_share_130 rfl (lv_at hl 1 rfl) ?_
            refine va_get (D := D) (ci := 7) (v := .ref (a0 14)) (C := RX7) (T := TX7) (N := 33) hx hb hts hiX7 hown hK hP 0 rfl rfl 25 (by decide) (hts (.fieldLink RX7 49 "ClockOnceModel" "worths" "[I") (List.mem_of_getElem? (i := 2) rfl)) (fun _ h9 => h9) rfl dX7_share_131 ?_
            refine lv_aload_n hx hb dX7_share_134 rfl (lv_at hl 1 rfl) ?_
            refine lv_iload hx hb dX7_share_135 (lv_at hl 8 rfl) ?_
            obtain ⟨r_18, er_18, h⟩ := mk_bd h
            refine pc_v (As := [.int x7]) (rest := [.ref (a0 14), .int v_17, .int (r_13 * r_15), .int x6]) ⟨hx, hb, hml, hown, hts⟩ (c_X7_bestBy l D cI cZ cO N a0 u0 sd x7 r_18 er_18) (cwV 1 hts k_X7_share_X7_bestBy_222 rfl rfl rfl (by decide +kernel) ⟨(Nat.le_of_ble_eq_true rfl), (Nat.le_of_ble_eq_true rfl)⟩) (va_recv hK hP (ci := 7) (q0 := 0) rfl rfl) hP hK rfl hl.1 rfl (Nat.le_of_ble_eq_true rfl) dX7_share_137 ⟨Nat.zero_le _, Nat.zero_le _⟩ ?_
            obtain ⟨v_19, ev_19, hiv_19, h⟩ := mk_rdE h
            refine va_iald hx hb hK hP 14 0 rfl rfl hiv_19 dX7_share_140 ?_
            refine mk_topi ev_19 ?_
            refine lv_isub hx hb dX7_share_141 ?_
            refine lv_imul hx hb dX7_share_142 ?_
            refine lv_iadd hx hb dX7_share_143 ?_
            obtain ⟨y_20, ey_20, h⟩ := mk_nmE h
            refine mk_topi ey_20 ?_
            refine lv_istore (lv' := [(6, .int y_20), (8, .int (r_13 * r_15)), (0, .ref (a0 0)), (1, .int x1), (2, .int x2), (3, .int x3), (4, .int x4), (5, .int x5), (7, .int x7)]) hx hb dX7_share_144 hl (by decide) rfl (fun ls hl => ?_)
            refine lv_iinc (v := (x7 + (1 : Int32))) (lv' := [(7, .int (x7 + (1 : Int32))), (6, .int y_20), (8, .int (r_13 * r_15)), (0, .ref (a0 0)), (1, .int x1), (2, .int x2), (3, .int x3), (4, .int x4), (5, .int x5)]) hx hb dX7_share_146 hl (k := 8) rfl rfl (by decide) rfl (fun ls hl => ?_)
            refine lv_goto (tgt := 52) hx hb dX7_share_149 (by decide) ?_
            exact ih52 y_20 (x7 + (1 : Int32)) h H locs ls hP hD hS (lv_sub hl [3, 4, 5, 6, 7, 8, 1, 0] rfl)
  unfold f_X7_share at h
  refine lv_aload_n hx hb dX7_share_0 rfl (lv_at hl 0 rfl) ?_
  refine lv_iload_n hx hb dX7_share_1 rfl (lv_at hl 1 rfl) ?_
  obtain ⟨r_21, er_21, h⟩ := mk_bd h
  refine pc_v (As := [.int p1]) (rest := []) ⟨hx, hb, hml, hown, hts⟩ (c_X7_isAsker l D cI cZ cO N a0 u0 sd p1 r_21 er_21) (cwV 1 hts k_X7_share_X7_isAsker_146 rfl rfl rfl (by decide +kernel) ⟨(Nat.le_of_ble_eq_true rfl), (Nat.le_of_ble_eq_true rfl)⟩) (va_recv hK hP (ci := 7) (q0 := 0) rfl rfl) hP hK rfl hl.1 rfl (Nat.le_of_ble_eq_true rfl) dX7_share_2 ⟨Nat.zero_le _, Nat.zero_le _⟩ ?_
  refine lv_if_ne (tgt := 10) hx hb dX7_share_5 (by decide) (fun q_22 => ?_) (fun q_22 => ?_)
  · have h := mk_ifn q_22 h
    refine lv_aload_n hx hb dX7_share_10 rfl (lv_at hl 0 rfl) ?_
    refine lv_aload_n hx hb dX7_share_11 rfl (lv_at hl 0 rfl) ?_
    refine va_get (D := D) (ci := 7) (v := .ref (a0 11)) (C := RX7) (T := TX7) (N := 33) hx hb hts hiX7 hown hK hP 0 rfl rfl 16 (by decide) (hts (.fieldLink RX7 40 "ClockOnceModel" "now" "[I") (List.mem_of_getElem? (i := 1) rfl)) (fun _ h9 => h9) rfl dX7_share_12 ?_
    refine lv_iconst (v := (0 : Int32)) hx hb dX7_share_15 (by decide) ?_
    obtain ⟨v_23, ev_23, hiv_23, h⟩ := mk_rdE h
    refine va_iald hx hb hK hP 11 0 rfl rfl hiv_23 dX7_share_16 ?_
    refine mk_topi ev_23 ?_
    refine lv_iconst (v := (0 : Int32)) hx hb dX7_share_17 (by decide) ?_
    obtain ⟨r_24, er_24, h⟩ := mk_bd h
    refine pc_v (As := [.int v_23, .int (0 : Int32)]) (rest := []) ⟨hx, hb, hml, hown, hts⟩ (c_X7_partsBy l D cI cZ cO N a0 u0 sd v_23 (0 : Int32) r_24 er_24) (cwV 2 hts k_X7_share_X7_partsBy_180 rfl rfl rfl (by decide +kernel) ⟨(Nat.le_of_ble_eq_true rfl), (Nat.le_of_ble_eq_true rfl)⟩) (va_recv hK hP (ci := 7) (q0 := 0) rfl rfl) hP hK rfl hl.1 rfl (Nat.le_of_ble_eq_true rfl) dX7_share_18 ⟨Nat.zero_le _, Nat.zero_le _⟩ ?_
    refine lv_istore_n (lv' := [(3, .int r_24), (0, .ref (a0 0)), (1, .int p1), (2, .int p2)]) hx hb dX7_share_21 rfl hl (by decide) rfl (fun ls hl => ?_)
    refine lv_iload_n hx hb dX7_share_22 rfl (lv_at hl 0 rfl) ?_
    refine lv_if_ne (tgt := 29) hx hb dX7_share_23 (by decide) (fun q_25 => ?_) (fun q_25 => ?_)
    · have h := mk_ifn q_25 h
      refine lv_aload_n hx hb dX7_share_29 rfl (lv_at hl 1 rfl) ?_
      obtain ⟨r_26, er_26, h⟩ := mk_bd h
      refine es_vv (As := []) (rest := []) (w' := (wX7 cI cZ a0 r_26 sd)) ⟨hx, hb, hml, hown, hts⟩ (c_X7_layWorths l D cI cZ cO N a0 u0 sd H.size r_26 er_26) (cwV 0 hts k_X7_share_X7_layWorths_216 rfl rfl rfl (by decide +kernel) ⟨(Nat.le_of_ble_eq_true rfl), (Nat.le_of_ble_eq_true rfl)⟩) (va_recv hK hP (ci := 7) (q0 := 0) rfl rfl) hK hP hD hS hA rfl rfl hl.1 rfl (Nat.le_of_ble_eq_true rfl) dX7_share_30 ⟨Nat.zero_le _, Nat.zero_le _⟩ (fun H locs hP hD hS => ?_)
      refine lv_aload_n hx hb dX7_share_33 rfl (lv_at hl 1 rfl) ?_
      obtain ⟨r_27, er_27, h⟩ := mk_bd h
      refine pc_v (As := []) (rest := []) ⟨hx, hb, hml, hown, hts⟩ (c_X7_fresh l D cI cZ cO N a0 r_26 sd r_27 er_27) (cwV 0 hts k_X7_share_X7_fresh_219 rfl rfl rfl (by decide +kernel) ⟨(Nat.le_of_ble_eq_true rfl), (Nat.le_of_ble_eq_true rfl)⟩) (va_recv hK hP (ci := 7) (q0 := 0) rfl rfl) hP hK rfl hl.1 rfl (Nat.le_of_ble_eq_true rfl) dX7_share_34 ⟨Nat.zero_le _, Nat.zero_le _⟩ ?_
      refine lv_istore (lv' := [(4, .int r_27), (3, .int r_24), (0, .ref (a0 0)), (1, .int p1), (2, .int p2)]) hx hb dX7_share_37 hl (by decide) rfl (fun ls hl => ?_)
      refine lv_iload hx hb dX7_share_39 (lv_at hl 0 rfl) ?_
      obtain ⟨r_28, er_28, h⟩ := mk_bd h
      refine pc_s (As := [.int r_27]) (rest := []) ⟨hx, hb, hml, hown, hts⟩ (c_X7_ones l D cI cZ cO N r_27 r_28 er_28) (va_cwS 1 hts k_X7_share_X7_ones_213 rfl rfl rfl (by decide +kernel) ⟨(Nat.le_of_ble_eq_true rfl), (Nat.le_of_ble_eq_true rfl)⟩) (hP.sub (ws' := []) [] rfl) hK rfl hl.1 rfl (Nat.le_of_ble_eq_true rfl) dX7_share_41 ⟨Nat.zero_le _, Nat.zero_le _⟩ ?_
      refine lv_istore (lv' := [(5, .int r_28), (4, .int r_27), (3, .int r_24), (0, .ref (a0 0)), (1, .int p1), (2, .int p2)]) hx hb dX7_share_44 hl (by decide) rfl (fun ls hl => ?_)
      refine lv_iconst (v := (0 : Int32)) hx hb dX7_share_46 (by decide) ?_
      refine lv_istore (lv' := [(6, .int (0 : Int32)), (5, .int r_28), (4, .int r_27), (3, .int r_24), (0, .ref (a0 0)), (1, .int p1), (2, .int p2)]) hx hb dX7_share_47 hl (by decide) rfl (fun ls hl => ?_)
      refine lv_iconst (v := (0 : Int32)) hx hb dX7_share_49 (by decide) ?_
      refine lv_istore (lv' := [(7, .int (0 : Int32)), (6, .int (0 : Int32)), (5, .int r_28), (4, .int r_27), (3, .int r_24), (0, .ref (a0 0)), (1, .int p1), (2, .int p2)]) hx hb dX7_share_50 hl (by decide) rfl (fun ls hl => ?_)
      exact K52 r_26 p1 p2 r_24 r_27 r_28 (0 : Int32) (0 : Int32) H locs ls hP hD hS (lv_sub hl [5, 6, 7, 4, 3, 2, 1, 0] rfl) h
    · have h := mk_ifp q_25 h
      refine lv_bipush (v := (-3 : Int32)) hx hb dX7_share_26 (by decide) ?_
      exact hret _ _ _ _ _ _ h hP hD hS dX7_share_28
  · have h := mk_ifp q_22 h
    refine lv_iconst (v := (-1 : Int32)) hx hb dX7_share_8 (by decide) ?_
    exact hret _ _ _ _ _ _ h hP hD hS dX7_share_9

abbrev rm_X7_thing : Room := { frames := 2, cells := 0, slots := 0, locals := 46 }
set_option maxRecDepth 20000 in
theorem k_X7_thing_X7_trueEnd_140 : GoodIn wsX7_thing (wsV RX7 140 RX7 yX7_trueEnd wsX7_trueEnd) := goodIn_r _ [12, 13, 14, 6, 15, 2, 24, 25, 26, 27, 28, 29, 30, 31, 32, 33, 34, 35, 36, 37, 38, 39, 40, 41, 42, 43, 44, 45, 46, 47, 48, 49, 50, 51, 52, 53, 54, 55, 56] rfl (by decide +kernel)
set_option maxRecDepth 20000 in
theorem k_X7_thing_X7_askedOf_143 : GoodIn wsX7_thing (wsV RX7 143 RX7 yX7_askedOf wsX7_askedOf) := goodIn_r _ [16, 17, 18, 6, 19, 20, 1, 24, 25, 26, 27, 28, 29, 30, 31, 32, 33, 34, 35, 36, 37, 38, 39, 40, 41, 42, 43, 44, 45, 46, 47, 48, 49, 50, 51, 52, 53, 54, 55, 56] rfl (by decide +kernel)
set_option maxRecDepth 20000 in
theorem k_X7_thing_X7_has_89 : GoodIn wsX7_thing (va_wsS RX7 89 yX7_has wsX7_has) := goodIn_r _ [21, 22, 6, 23] rfl (by decide +kernel)
set_option maxRecDepth 20000 in
theorem k_X7_thing_X7_isThing_136 : GoodIn wsX7_thing (wsV RX7 136 RX7 yX7_isThing wsX7_isThing) := goodIn_r _ [3, 4, 5, 6, 7, 8, 9, 10, 6, 11, 24, 25, 26, 27, 28, 29, 30, 31, 32, 33, 34, 35, 36, 37, 38, 39, 40, 41, 42, 43, 44, 45, 46, 47, 48, 49, 50, 51, 52, 53, 54, 55, 56] rfl (by decide +kernel)
set_option maxHeartbeats 4000000 in
set_option maxRecDepth 100000 in
theorem c_X7_thing (l : Launch) (D : va_G) (cI cZ cO : ClassId) (N : Nat) (a0 : Nat → Nat) (u0 : TU) (sd : Int64) (p1 : Int32) (p2 : Int32) (out : Int32) (h : f_X7_thing N u0 sd p1 p2 = some out) : Met l yX7_thing wsX7_thing rm_X7_thing (va_Pc [.ref (a0 0), .int p1, .int p2] (fun U => va_P D vwCl (wX7 cI cZ a0 u0 sd) U.heap ∧ va_K D vwCl (tyA cI cZ cO) U)) (vp_Si (fun r => r = out)) 0 0 (fun _ => False) := by
  refine pm_i (own := RX7) (cc := cX7_thing) (maxL := 4) (by decide) rfl rfl (Nat.le_of_ble_eq_true rfl) ?_
  intro p e s m args below meth c Q H ls hx hb hml hown hts hP hK hl hret
  have hl : lv_has ls 4 [(0, .ref (a0 0)), (1, .int p1), (2, .int p2)] := hl
  have hiX7 : ∀ w ∈ u_ws RX7 TX7 33, w ∈ wsX7_thing := mk_seg 24 33 rfl
  have K117 : ∀ (x1 : Int32) (ls : Array Slot), lv_has ls 4 [(0, .ref (a0 0)), (1, .int x1)] → g_X7_thing_117 N u0 sd x1 = some out → W p l e rm_X7_thing s m args below meth c H [] 0 0 Q (F0 m 117 ls []) := by
    intro x1 ls hl h
    unfold g_X7_thing_117 at h
    refine lv_aload_n hx hb dX7_thing_117 rfl (lv_at hl 0 rfl) ?_
    refine lv_iload_n hx hb dX7_thing_118 rfl (lv_at hl 1 rfl) ?_
    obtain ⟨r_1, er_1, h⟩ := mk_bd h
    refine pc_v (As := [.int x1]) (rest := []) ⟨hx, hb, hml, hown, hts⟩ (c_X7_trueEnd l D cI cZ cO N a0 u0 sd x1 r_1 er_1) (cwV 1 hts k_X7_thing_X7_trueEnd_140 rfl rfl rfl (by decide +kernel) ⟨(Nat.le_of_ble_eq_true rfl), (Nat.le_of_ble_eq_true rfl)⟩) (va_recv hK hP (ci := 7) (q0 := 0) rfl rfl) hP hK rfl hl.1 rfl (Nat.le_of_ble_eq_true rfl) dX7_thing_119 ⟨Nat.zero_le _, Nat.zero_le _⟩ ?_
    refine lv_goto (tgt := 127) hx hb dX7_thing_122 (by decide) ?_
    exact hret _ _ _ h dX7_thing_127
  have K72 : ∀ (x1 : Int32) (x2 : Int32) (ls : Array Slot), lv_has ls 4 [(0, .ref (a0 0)), (1, .int x1), (2, .int x2)] → g_X7_thing_72 N u0 sd x1 x2 = some out → W p l e rm_X7_thing s m args below meth c H [] 0 0 Q (F0 m 72 ls []) := by
    intro x1 x2 ls hl h
    unfold g_X7_thing_72 at h
    refine lv_aload_n hx hb dX7_thing_72 rfl (lv_at hl 0 rfl) ?_
    refine va_get (D := D) (ci := 7) (v := .ref (a0 1)) (C := RX7) (T := TX7) (N := 33) hx hb hts hiX7 hown hK hP 0 rfl rfl 3 (by decide) (hts (.fieldLink RX7 7 "ClockOnceModel" "of" "[I") (List.mem_of_getElem? (i := 2) rfl)) (fun _ h9 => h9) rfl dX7_thing_73 ?_
    refine lv_iconst (v := (5 : Int32)) hx hb dX7_thing_76 (by decide) ?_
    refine lv_iload_n hx hb dX7_thing_77 rfl (lv_at hl 1 rfl) ?_
    refine lv_imul hx hb dX7_thing_78 ?_
    refine lv_iload_n hx hb dX7_thing_79 rfl (lv_at hl 2 rfl) ?_
    refine lv_iadd hx hb dX7_thing_80 ?_
    obtain ⟨v_2, ev_2, hiv_2, h⟩ := mk_rdE h
    refine va_iald hx hb hK hP 1 0 rfl rfl hiv_2 dX7_thing_81 ?_
    refine mk_topi ev_2 ?_
    exact hret _ _ _ h dX7_thing_82
  have K29 : ∀ (x1 : Int32) (x2 : Int32) (t0 : Int32) (ls : Array Slot), lv_has ls 4 [(0, .ref (a0 0)), (1, .int x1), (2, .int x2)] → g_X7_thing_29 N u0 sd x1 x2 t0 = some out → W p l e rm_X7_thing s m args below meth c H [] 0 0 Q (F0 m 29 ls [.int t0]) := by
    intro x1 x2 t0 ls hl h
    unfold g_X7_thing_29 at h
    refine lv_istore_n (lv' := [(3, .int t0), (0, .ref (a0 0)), (1, .int x1), (2, .int x2)]) hx hb dX7_thing_29 rfl hl (by decide) rfl (fun ls hl => ?_)
    refine lv_iload_n hx hb dX7_thing_30 rfl (lv_at hl 3 rfl) ?_
    by_cases q_3 : x2 = (0 : Int32)
    · have h := mk_ifp q_3 h
      refine lv_tableIn (off := 41) (tgt := 72) hx hb dX7_thing_31 (by rw [q_3]; decide) (by rw [q_3]; decide) (by rw [q_3]; rfl) (by decide) ?_
      exact K72 x1 x2 ls (lv_sub hl [1, 2, 3] rfl) h
    have h := mk_ifn q_3 h
    by_cases q_4 : x2 = (1 : Int32)
    · have h := mk_ifp q_4 h
      refine lv_tableIn (off := 41) (tgt := 72) hx hb dX7_thing_31 (by rw [q_4]; decide) (by rw [q_4]; decide) (by rw [q_4]; rfl) (by decide) ?_
      exact K72 x1 x2 ls (lv_sub hl [1, 2, 3] rfl) h
    have h := mk_ifn q_4 h
    by_cases q_5 : x2 = (2 : Int32)
    · have h := mk_ifp q_5 h
      refine lv_tableIn (off := 41) (tgt := 72) hx hb dX7_thing_31 (by rw [q_5]; decide) (by rw [q_5]; decide) (by rw [q_5]; rfl) (by decide) ?_
      exact K72 x1 x2 ls (lv_sub hl [1, 2, 3] rfl) h
    have h := mk_ifn q_5 h
    by_cases q_6 : x2 = (3 : Int32)
    · have h := mk_ifp q_6 h
      refine lv_tableIn (off := 41) (tgt := 72) hx hb dX7_thing_31 (by rw [q_6]; decide) (by rw [q_6]; decide) (by rw [q_6]; rfl) (by decide) ?_
      exact K72 x1 x2 ls (lv_sub hl [1, 2, 3] rfl) h
    have h := mk_ifn q_6 h
    by_cases q_7 : x2 = (4 : Int32)
    · have h := mk_ifp q_7 h
      refine lv_tableIn (off := 52) (tgt := 83) hx hb dX7_thing_31 (by rw [q_7]; decide) (by rw [q_7]; decide) (by rw [q_7]; rfl) (by decide) ?_
      refine lv_aload_n hx hb dX7_thing_83 rfl (lv_at hl 1 rfl) ?_
      refine va_get (D := D) (ci := 7) (v := .ref (a0 11)) (C := RX7) (T := TX7) (N := 33) hx hb hts hiX7 hown hK hP 0 rfl rfl 16 (by decide) (hts (.fieldLink RX7 40 "ClockOnceModel" "now" "[I") (List.mem_of_getElem? (i := 1) rfl)) (fun _ h9 => h9) rfl dX7_thing_84 ?_
      refine lv_iconst (v := (2 : Int32)) hx hb dX7_thing_87 (by decide) ?_
      refine lv_iload_n hx hb dX7_thing_88 rfl (lv_at hl 2 rfl) ?_
      refine lv_iadd hx hb dX7_thing_89 ?_
      obtain ⟨v_8, ev_8, hiv_8, h⟩ := mk_rdE h
      refine va_iald hx hb hK hP 11 0 rfl rfl hiv_8 dX7_thing_90 ?_
      refine mk_topi ev_8 ?_
      exact hret _ _ _ h dX7_thing_91
    have h := mk_ifn q_7 h
    by_cases q_9 : x2 = (5 : Int32)
    · have h := mk_ifp q_9 h
      refine lv_tableIn (off := 61) (tgt := 92) hx hb dX7_thing_31 (by rw [q_9]; decide) (by rw [q_9]; decide) (by rw [q_9]; rfl) (by decide) ?_
      refine lv_iload_n hx hb dX7_thing_92 rfl (lv_at hl 0 rfl) ?_
      refine lv_if_eq (tgt := 100) hx hb dX7_thing_93 (by decide) (fun q_10 => ?_) (fun q_10 => ?_)
      · have h := mk_ifp q_10 h
        refine lv_iconst (v := (0 : Int32)) hx hb dX7_thing_100 (by decide) ?_
        exact hret _ _ _ h dX7_thing_101
      · have h := mk_ifn q_10 h
        refine lv_iconst (v := (1 : Int32)) hx hb dX7_thing_96 (by decide) ?_
        refine lv_goto (tgt := 101) hx hb dX7_thing_97 (by decide) ?_
        exact hret _ _ _ h dX7_thing_101
    have h := mk_ifn q_9 h
    by_cases q_11 : x2 = (6 : Int32)
    · have h := mk_ifp q_11 h
      refine lv_tableIn (off := 71) (tgt := 102) hx hb dX7_thing_31 (by rw [q_11]; decide) (by rw [q_11]; decide) (by rw [q_11]; rfl) (by decide) ?_
      refine lv_iload_n hx hb dX7_thing_102 rfl (lv_at hl 0 rfl) ?_
      refine lv_if_ne (tgt := 117) hx hb dX7_thing_103 (by decide) (fun q_12 => ?_) (fun q_12 => ?_)
      · have h := mk_ifn q_12 h
        exact K117 x1 ls (lv_sub hl [1, 2] rfl) h
      · have h := mk_ifp q_12 h
        refine lv_aload_n hx hb dX7_thing_106 rfl (lv_at hl 1 rfl) ?_
        obtain ⟨r_13, er_13, h⟩ := mk_bd h
        refine pc_v (As := []) (rest := []) ⟨hx, hb, hml, hown, hts⟩ (c_X7_askedOf l D cI cZ cO N a0 u0 sd r_13 er_13) (cwV 0 hts k_X7_thing_X7_askedOf_143 rfl rfl rfl (by decide +kernel) ⟨(Nat.le_of_ble_eq_true rfl), (Nat.le_of_ble_eq_true rfl)⟩) (va_recv hK hP (ci := 7) (q0 := 0) rfl rfl) hP hK rfl hl.1 rfl (Nat.le_of_ble_eq_true rfl) dX7_thing_107 ⟨Nat.zero_le _, Nat.zero_le _⟩ ?_
        refine lv_iload_n hx hb dX7_thing_110 rfl (lv_at hl 2 rfl) ?_
        obtain ⟨r_14, er_14, h⟩ := mk_bd h
        refine pc_s (As := [.int r_13, .int x1]) (rest := []) ⟨hx, hb, hml, hown, hts⟩ (c_X7_has l D cI cZ cO N r_13 x1 r_14 er_14) (va_cwS 2 hts k_X7_thing_X7_has_89 rfl rfl rfl (by decide +kernel) ⟨(Nat.le_of_ble_eq_true rfl), (Nat.le_of_ble_eq_true rfl)⟩) (hP.sub (ws' := []) [] rfl) hK rfl hl.1 rfl (Nat.le_of_ble_eq_true rfl) dX7_thing_111 ⟨Nat.zero_le _, Nat.zero_le _⟩ ?_
        refine lv_if_eq (tgt := 125) hx hb dX7_thing_114 (by decide) (fun q_15 => ?_) (fun q_15 => ?_)
        · have h := mk_ifp q_15 h
          refine lv_bipush (v := (-9 : Int32)) hx hb dX7_thing_125 (by decide) ?_
          exact hret _ _ _ h dX7_thing_127
        · have h := mk_ifn q_15 h
          exact K117 x1 ls (lv_sub hl [1, 2] rfl) h
    have h := mk_ifn q_11 h
    refine lv_tableOut (tgt := 128) hx hb dX7_thing_31 (by have zq_3 := mk_ne (z := 0) (by decide) q_3; have zq_4 := mk_ne (z := 1) (by decide) q_4; have zq_5 := mk_ne (z := 2) (by decide) q_5; have zq_6 := mk_ne (z := 3) (by decide) q_6; have zq_7 := mk_ne (z := 4) (by decide) q_7; have zq_9 := mk_ne (z := 5) (by decide) q_9; have zq_11 := mk_ne (z := 6) (by decide) q_11; omega) (by decide) ?_
    refine lv_bipush (v := (-2 : Int32)) hx hb dX7_thing_128 (by decide) ?_
    exact hret _ _ _ h dX7_thing_130
  unfold f_X7_thing at h
  refine lv_aload_n hx hb dX7_thing_0 rfl (lv_at hl 0 rfl) ?_
  refine lv_iload_n hx hb dX7_thing_1 rfl (lv_at hl 1 rfl) ?_
  obtain ⟨r_16, er_16, h⟩ := mk_bd h
  refine pc_v (As := [.int p1]) (rest := []) ⟨hx, hb, hml, hown, hts⟩ (c_X7_isThing l D cI cZ cO N a0 u0 sd p1 r_16 er_16) (cwV 1 hts k_X7_thing_X7_isThing_136 rfl rfl rfl (by decide +kernel) ⟨(Nat.le_of_ble_eq_true rfl), (Nat.le_of_ble_eq_true rfl)⟩) (va_recv hK hP (ci := 7) (q0 := 0) rfl rfl) hP hK rfl hl.1 rfl (Nat.le_of_ble_eq_true rfl) dX7_thing_2 ⟨Nat.zero_le _, Nat.zero_le _⟩ ?_
  refine lv_if_ne (tgt := 10) hx hb dX7_thing_5 (by decide) (fun q_17 => ?_) (fun q_17 => ?_)
  · have h := mk_ifn q_17 h
    refine lv_aload_n hx hb dX7_thing_10 rfl (lv_at hl 0 rfl) ?_
    refine lv_iload_n hx hb dX7_thing_11 rfl (lv_at hl 1 rfl) ?_
    obtain ⟨r_18, er_18, h⟩ := mk_bd h
    refine pc_v (As := [.int p1]) (rest := []) ⟨hx, hb, hml, hown, hts⟩ (c_X7_trueEnd l D cI cZ cO N a0 u0 sd p1 r_18 er_18) (cwV 1 hts k_X7_thing_X7_trueEnd_140 rfl rfl rfl (by decide +kernel) ⟨(Nat.le_of_ble_eq_true rfl), (Nat.le_of_ble_eq_true rfl)⟩) (va_recv hK hP (ci := 7) (q0 := 0) rfl rfl) hP hK rfl hl.1 rfl (Nat.le_of_ble_eq_true rfl) dX7_thing_12 ⟨Nat.zero_le _, Nat.zero_le _⟩ ?_
    refine lv_aload_n hx hb dX7_thing_15 rfl (lv_at hl 0 rfl) ?_
    refine va_get (D := D) (ci := 7) (v := .ref (a0 11)) (C := RX7) (T := TX7) (N := 33) hx hb hts hiX7 hown hK hP 0 rfl rfl 16 (by decide) (hts (.fieldLink RX7 40 "ClockOnceModel" "now" "[I") (List.mem_of_getElem? (i := 1) rfl)) (fun _ h9 => h9) rfl dX7_thing_16 ?_
    refine lv_iconst (v := (0 : Int32)) hx hb dX7_thing_19 (by decide) ?_
    obtain ⟨v_19, ev_19, hiv_19, h⟩ := mk_rdE h
    refine va_iald hx hb hK hP 11 0 rfl rfl hiv_19 dX7_thing_20 ?_
    refine mk_topi ev_19 ?_
    refine lv_icmp_gt (tgt := 28) hx hb dX7_thing_21 (by decide) (fun q_20 => ?_) (fun q_20 => ?_)
    · have h := mk_ifp q_20 h
      refine lv_iconst (v := (0 : Int32)) hx hb dX7_thing_28 (by decide) ?_
      exact K29 p1 p2 (0 : Int32) ls (lv_sub hl [0, 1, 2] rfl) h
    · have h := mk_ifn q_20 h
      refine lv_iconst (v := (1 : Int32)) hx hb dX7_thing_24 (by decide) ?_
      refine lv_goto (tgt := 29) hx hb dX7_thing_25 (by decide) ?_
      exact K29 p1 p2 (1 : Int32) ls (lv_sub hl [0, 1, 2] rfl) h
  · have h := mk_ifp q_17 h
    refine lv_iconst (v := (-1 : Int32)) hx hb dX7_thing_8 (by decide) ?_
    exact hret _ _ _ h dX7_thing_9

abbrev rm_X7_toAsk : Room := { frames := 7, cells := 0, slots := 0, locals := 161 }
set_option maxRecDepth 20000 in
theorem k_X7_toAsk_X7_partsBy_180 : GoodIn wsX7_toAsk (wsV RX7 180 RX7 yX7_partsBy wsX7_partsBy) := goodIn_r _ [2, 3, 4, 5, 6, 7, 8, 9, 10, 5, 11, 12, 13, 14, 15, 16, 17, 18, 19, 20, 21, 22, 23, 24, 25, 26, 27, 28, 29, 30, 31, 32, 33, 34, 35, 36, 37, 38, 39, 40, 41, 42, 97, 98, 99, 100, 101, 102, 103, 104, 105, 106, 107, 108, 109, 110, 111, 112, 113, 114, 115, 116, 117, 118, 119, 120, 121, 122, 123, 124, 125, 126, 127, 128, 129] rfl (by decide +kernel)
set_option maxRecDepth 20000 in
theorem k_X7_toAsk_X7_layWorths_216 : GoodIn wsX7_toAsk (wsV RX7 216 RX7 yX7_layWorths wsX7_layWorths) := goodIn_r _ [43, 44, 45, 5, 46, 7, 47, 48, 49, 50, 5, 51, 1, 52, 53, 54, 55, 56, 8, 9, 10, 11, 12, 13, 14, 15, 16, 17, 18, 19, 20, 21, 22, 23, 24, 25, 26, 27, 28, 29, 30, 31, 32, 33, 34, 35, 36, 37, 38, 57, 58, 59, 60, 61, 62, 63, 64, 39, 40, 41, 42, 65, 66, 67, 68, 97, 98, 99, 100, 101, 102, 103, 104, 105, 106, 107, 108, 109, 110, 111, 112, 113, 114, 115, 116, 117, 118, 119, 120, 121, 122, 123, 124, 125, 126, 127, 128, 129] rfl (by decide +kernel)
set_option maxRecDepth 20000 in
theorem k_X7_toAsk_X7_fresh_219 : GoodIn wsX7_toAsk (wsV RX7 219 RX7 yX7_fresh wsX7_fresh) := goodIn_r _ [69, 70, 71, 5, 72, 73, 1, 97, 98, 99, 100, 101, 102, 103, 104, 105, 106, 107, 108, 109, 110, 111, 112, 113, 114, 115, 116, 117, 118, 119, 120, 121, 122, 123, 124, 125, 126, 127, 128, 129] rfl (by decide +kernel)
set_option maxRecDepth 20000 in
theorem k_X7_toAsk_X7_bestBy_222 : GoodIn wsX7_toAsk (wsV RX7 222 RX7 yX7_bestBy wsX7_bestBy) := goodIn_r _ [74, 75, 76, 5, 77, 47, 78, 79, 80, 5, 81, 73, 82, 83, 84, 85, 86, 23, 24, 25, 87, 88, 89, 90, 7, 91, 92, 93, 94, 95, 96, 97, 98, 99, 100, 101, 102, 103, 104, 105, 106, 107, 108, 109, 110, 111, 112, 113, 114, 115, 116, 117, 118, 119, 120, 121, 122, 123, 124, 125, 126, 127, 128, 129] rfl (by decide +kernel)
set_option maxHeartbeats 4000000 in
set_option maxRecDepth 100000 in
theorem c_X7_toAsk (l : Launch) (D : va_G) (cI cZ cO : ClassId) (N : Nat) (a0 : Nat → Nat) (u0 : TU) (sd : Int64) (sz : Nat) (out : Int32 × TU) (h : f_X7_toAsk N u0 sd = some out) : Met l yX7_toAsk wsX7_toAsk rm_X7_toAsk (va_Pc [.ref (a0 0)] (mk_Pe D vwCl (tyA cI cZ cO) (wX7 cI cZ a0 u0 sd) sz)) (va_Qi (fun r u => (r, u) = out) (mk_Be D vwCl (wX7 cI cZ a0 u0 sd) sz (fun q => (wX7 cI cZ a0 q sd))) (va_A (wX7 cI cZ a0 u0 sd) sz)) 0 0 (va_A (wX7 cI cZ a0 u0 sd) sz) := by
  refine em_i (own := RX7) (cc := cX7_toAsk) (maxL := 1) (by decide) rfl rfl (Nat.le_of_ble_eq_true rfl) ?_
  intro p e s m args below meth c Q A H0 H locs ls hx hb hml hown hts hP hK hD hS hA hl hret
  have hl : lv_has ls 1 [(0, .ref (a0 0))] := hl
  have hiX7 : ∀ w ∈ u_ws RX7 TX7 33, w ∈ wsX7_toAsk := mk_seg 97 33 rfl
  unfold f_X7_toAsk at h
  refine lv_aload_n hx hb dX7_toAsk_0 rfl (lv_at hl 0 rfl) ?_
  refine lv_aload_n hx hb dX7_toAsk_1 rfl (lv_at hl 0 rfl) ?_
  refine va_get (D := D) (ci := 7) (v := .ref (a0 11)) (C := RX7) (T := TX7) (N := 33) hx hb hts hiX7 hown hK hP 0 rfl rfl 16 (by decide) (hts (.fieldLink RX7 40 "ClockOnceModel" "now" "[I") (List.mem_of_getElem? (i := 1) rfl)) (fun _ h9 => h9) rfl dX7_toAsk_2 ?_
  refine lv_iconst (v := (0 : Int32)) hx hb dX7_toAsk_5 (by decide) ?_
  obtain ⟨v_1, ev_1, hiv_1, h⟩ := mk_rdE h
  refine va_iald hx hb hK hP 11 0 rfl rfl hiv_1 dX7_toAsk_6 ?_
  refine mk_topi ev_1 ?_
  refine lv_iconst (v := (0 : Int32)) hx hb dX7_toAsk_7 (by decide) ?_
  obtain ⟨r_2, er_2, h⟩ := mk_bd h
  refine pc_v (As := [.int v_1, .int (0 : Int32)]) (rest := []) ⟨hx, hb, hml, hown, hts⟩ (c_X7_partsBy l D cI cZ cO N a0 u0 sd v_1 (0 : Int32) r_2 er_2) (cwV 2 hts k_X7_toAsk_X7_partsBy_180 rfl rfl rfl (by decide +kernel) ⟨(Nat.le_of_ble_eq_true rfl), (Nat.le_of_ble_eq_true rfl)⟩) (va_recv hK hP (ci := 7) (q0 := 0) rfl rfl) hP hK rfl hl.1 rfl (Nat.le_of_ble_eq_true rfl) dX7_toAsk_8 ⟨Nat.zero_le _, Nat.zero_le _⟩ ?_
  refine lv_if_ne (tgt := 17) hx hb dX7_toAsk_11 (by decide) (fun q_3 => ?_) (fun q_3 => ?_)
  · have h := mk_ifn q_3 h
    refine lv_aload_n hx hb dX7_toAsk_17 rfl (lv_at hl 0 rfl) ?_
    obtain ⟨r_4, er_4, h⟩ := mk_bd h
    refine es_vv (As := []) (rest := []) (w' := (wX7 cI cZ a0 r_4 sd)) ⟨hx, hb, hml, hown, hts⟩ (c_X7_layWorths l D cI cZ cO N a0 u0 sd H.size r_4 er_4) (cwV 0 hts k_X7_toAsk_X7_layWorths_216 rfl rfl rfl (by decide +kernel) ⟨(Nat.le_of_ble_eq_true rfl), (Nat.le_of_ble_eq_true rfl)⟩) (va_recv hK hP (ci := 7) (q0 := 0) rfl rfl) hK hP hD hS hA rfl rfl hl.1 rfl (Nat.le_of_ble_eq_true rfl) dX7_toAsk_18 ⟨Nat.zero_le _, Nat.zero_le _⟩ (fun H locs hP hD hS => ?_)
    refine lv_aload_n hx hb dX7_toAsk_21 rfl (lv_at hl 0 rfl) ?_
    refine lv_aload_n hx hb dX7_toAsk_22 rfl (lv_at hl 0 rfl) ?_
    obtain ⟨r_5, er_5, h⟩ := mk_bd h
    refine pc_v (As := []) (rest := [.ref (a0 0)]) ⟨hx, hb, hml, hown, hts⟩ (c_X7_fresh l D cI cZ cO N a0 r_4 sd r_5 er_5) (cwV 0 hts k_X7_toAsk_X7_fresh_219 rfl rfl rfl (by decide +kernel) ⟨(Nat.le_of_ble_eq_true rfl), (Nat.le_of_ble_eq_true rfl)⟩) (va_recv hK hP (ci := 7) (q0 := 0) rfl rfl) hP hK rfl hl.1 rfl (Nat.le_of_ble_eq_true rfl) dX7_toAsk_23 ⟨Nat.zero_le _, Nat.zero_le _⟩ ?_
    obtain ⟨r_6, er_6, h⟩ := mk_bd h
    refine pc_v (As := [.int r_5]) (rest := []) ⟨hx, hb, hml, hown, hts⟩ (c_X7_bestBy l D cI cZ cO N a0 r_4 sd r_5 r_6 er_6) (cwV 1 hts k_X7_toAsk_X7_bestBy_222 rfl rfl rfl (by decide +kernel) ⟨(Nat.le_of_ble_eq_true rfl), (Nat.le_of_ble_eq_true rfl)⟩) (va_recv hK hP (ci := 7) (q0 := 0) rfl rfl) hP hK rfl hl.1 rfl (Nat.le_of_ble_eq_true rfl) dX7_toAsk_26 ⟨Nat.zero_le _, Nat.zero_le _⟩ ?_
    exact hret _ _ _ _ _ _ h hP hD hS dX7_toAsk_29
  · have h := mk_ifp q_3 h
    refine lv_bipush (v := (-3 : Int32)) hx hb dX7_toAsk_14 (by decide) ?_
    exact hret _ _ _ _ _ _ h hP hD hS dX7_toAsk_16

abbrev rm_X7_town : Room := { frames := 4, cells := 0, slots := 0, locals := 91 }
set_option maxRecDepth 20000 in
theorem k_X7_town_X7_clear_68 : GoodIn wsX7_town (wsV RX7 68 RX7 yX7_clear wsX7_clear) := goodIn_r _ [55, 56, 57, 22, 58, 59, 60, 61, 62, 63, 64, 65, 66, 67, 68, 69, 70, 71, 72, 73, 74, 75, 76, 77, 78, 79, 80, 81, 82, 83, 84, 85, 86, 87, 88, 89, 90, 91, 92] rfl (by decide +kernel)
set_option maxRecDepth 20000 in
theorem k_X7_town_X7_readText_121 : GoodIn wsX7_town (wsV RX7 121 RX7 yX7_readText wsX7_readText) := goodIn_r _ [19, 20, 21, 22, 23, 24, 25, 1, 3, 5, 26, 27, 28, 29, 30, 22, 31, 8, 10, 12, 14, 16, 32, 33, 34, 35, 36, 37, 38, 39, 40, 41, 42, 43, 44, 45, 46, 47, 48, 49, 50, 51, 52, 53, 54, 60, 61, 62, 63, 64, 65, 66, 67, 68, 69, 70, 71, 72, 73, 74, 75, 76, 77, 78, 79, 80, 81, 82, 83, 84, 85, 86, 87, 88, 89, 90, 91, 92] rfl (by decide +kernel)
set_option maxHeartbeats 4000000 in
set_option maxRecDepth 100000 in
theorem c_X7_town (l : Launch) (D : va_G) (cI cZ cO : ClassId) (N : Nat) (a0 : Nat → Nat) (u0 : TU) (sd : Int64) (sz : Nat) (out : Int32 × TU) (h : f_X7_town N u0 sd = some out) : Met l yX7_town wsX7_town rm_X7_town (va_Pc [.ref (a0 0)] (mk_Pe D vwCl (tyA cI cZ cO) (wX7 cI cZ a0 u0 sd) sz)) (va_Qi (fun r u => (r, u) = out) (mk_Be D vwCl (wX7 cI cZ a0 u0 sd) sz (fun q => (wX7 cI cZ a0 q sd))) (va_A (wX7 cI cZ a0 u0 sd) sz)) 0 0 (va_A (wX7 cI cZ a0 u0 sd) sz) := by
  refine em_i (own := RX7) (cc := cX7_town) (maxL := 2) (by decide) rfl rfl (Nat.le_of_ble_eq_true rfl) ?_
  intro p e s m args below meth c Q A H0 H locs ls hx hb hml hown hts hP hK hD hS hA hl hret
  have hl : lv_has ls 2 [(0, .ref (a0 0))] := hl
  have hiX7 : ∀ w ∈ u_ws RX7 TX7 33, w ∈ wsX7_town := mk_seg 60 33 rfl
  have K101 : ∀ (u0 : TU) (x1 : Int32) (H : Heap) (locs : List Loc) (ls : Array Slot), va_P D vwCl (wX7 cI cZ a0 u0 sd) H → va_D A (wX7 cI cZ a0 u0 sd) → va_S A H0 H locs → lv_has ls 2 [(0, .ref (a0 0)), (1, .int x1)] → lq2 (g_X7_town_101 N sd) N u0 x1 = some out → W p l e rm_X7_town s m args below meth c H locs 0 0 Q (F0 m 101 ls []) := by
    intro u0 x1 H locs ls hP hD hS hl h
    refine lq2_W (Wd := fun u0 x1 => ∀ (H : Heap) (locs : List Loc) (ls : Array Slot), va_P D vwCl (wX7 cI cZ a0 u0 sd) H → va_D A (wX7 cI cZ a0 u0 sd) → va_S A H0 H locs → lv_has ls 2 [(0, .ref (a0 0)), (1, .int x1)] → W p l e rm_X7_town s m args below meth c H locs 0 0 Q (F0 m 101 ls [])) (fun rec101 ih101 u0 x1 h H locs ls hP hD hS hl => ?_) N u0 x1 h H locs ls hP hD hS hl
    unfold g_X7_town_101 at h
    refine lv_iload_n hx hb dX7_town_101 rfl (lv_at hl 1 rfl) ?_
    refine lv_iconst (v := (3 : Int32)) hx hb dX7_town_102 (by decide) ?_
    refine lv_icmp_ge (tgt := 136) hx hb dX7_town_103 (by decide) (fun q_1 => ?_) (fun q_1 => ?_)
    · have h := mk_ifp q_1 h
      refine lv_aload_n hx hb dX7_town_136 rfl (lv_at hl 0 rfl) ?_
      obtain ⟨r_2, er_2, h⟩ := mk_bd h
      refine es_vv (As := []) (rest := []) (w' := (wX7 cI cZ a0 r_2 sd)) ⟨hx, hb, hml, hown, hts⟩ (c_X7_clear l D cI cZ cO N a0 u0 sd H.size r_2 er_2) (cwV 0 hts k_X7_town_X7_clear_68 rfl rfl rfl (by decide +kernel) ⟨(Nat.le_of_ble_eq_true rfl), (Nat.le_of_ble_eq_true rfl)⟩) (va_recv hK hP (ci := 7) (q0 := 0) rfl rfl) hK hP hD hS hA rfl rfl hl.1 rfl (Nat.le_of_ble_eq_true rfl) dX7_town_137 ⟨Nat.zero_le _, Nat.zero_le _⟩ (fun H locs hP hD hS => ?_)
      refine lv_aload_n hx hb dX7_town_140 rfl (lv_at hl 0 rfl) ?_
      refine lv_iconst (v := (0 : Int32)) hx hb dX7_town_141 (by decide) ?_
      obtain ⟨w_3, ew_3, h⟩ := mk_nmE h
      refine va_put (D := D) (ci := 7) (v := .int (0 : Int32)) (ty := .int) (C := RX7) (T := TX7) (N := 33) hx hb hts hiX7 tyX7 tyX7_ok nmX7 hown hK hP hD hS 0 rfl rfl 21 (by decide) (hts (.fieldLink RX7 133 "ClockOnceModel" "acts" "I") (List.mem_of_getElem? (i := 17) rfl)) (fun _ h9 => h9) rfl (by decide +kernel) rfl rfl (Nat.le_of_ble_eq_true rfl) dX7_town_142 (fun H locs hP hD hS => ?_)
      have hP : va_P D vwCl (wX7 cI cZ a0 w_3 sd) H := by rw [ew_3]; exact hP
      have hD : va_D A (wX7 cI cZ a0 w_3 sd) := by rw [ew_3]; exact hD
      refine lv_aload_n hx hb dX7_town_145 rfl (lv_at hl 0 rfl) ?_
      refine va_get (D := D) (ci := 7) (v := .ref (a0 18)) (C := RX7) (T := TX7) (N := 33) hx hb hts hiX7 hown hK hP 0 rfl rfl 31 (by decide) (hts (.fieldLink RX7 61 "ClockOnceModel" "isKept" "[Z") (List.mem_of_getElem? (i := 18) rfl)) (fun _ h9 => h9) rfl dX7_town_146 ?_
      refine lv_iconst (v := (0 : Int32)) hx hb dX7_town_149 (by decide) ?_
      refine lv_iconst (v := (0 : Int32)) hx hb dX7_town_150 (by decide) ?_
      obtain ⟨hx_4, h⟩ := mk_ixE h
      obtain ⟨w_5, ew_5, h⟩ := mk_nmE h
      refine va_zast hx hb hK hP hD hS 18 1 rfl rfl hx_4 dX7_town_151 (fun H locs hP hD hS => ?_)
      have hP : va_P D vwCl (wX7 cI cZ a0 w_5 sd) H := by rw [ew_5]; exact hP
      have hD : va_D A (wX7 cI cZ a0 w_5 sd) := by rw [ew_5]; exact hD
      refine lv_aload_n hx hb dX7_town_152 rfl (lv_at hl 0 rfl) ?_
      refine va_get (D := D) (ci := 7) (v := .ref (a0 18)) (C := RX7) (T := TX7) (N := 33) hx hb hts hiX7 hown hK hP 0 rfl rfl 31 (by decide) (hts (.fieldLink RX7 61 "ClockOnceModel" "isKept" "[Z") (List.mem_of_getElem? (i := 18) rfl)) (fun _ h9 => h9) rfl dX7_town_153 ?_
      refine lv_iconst (v := (1 : Int32)) hx hb dX7_town_156 (by decide) ?_
      refine lv_iconst (v := (0 : Int32)) hx hb dX7_town_157 (by decide) ?_
      obtain ⟨hx_6, h⟩ := mk_ixE h
      obtain ⟨w_7, ew_7, h⟩ := mk_nmE h
      refine va_zast hx hb hK hP hD hS 18 1 rfl rfl hx_6 dX7_town_158 (fun H locs hP hD hS => ?_)
      have hP : va_P D vwCl (wX7 cI cZ a0 w_7 sd) H := by rw [ew_7]; exact hP
      have hD : va_D A (wX7 cI cZ a0 w_7 sd) := by rw [ew_7]; exact hD
      refine lv_bipush (v := (10 : Int32)) hx hb dX7_town_159 (by decide) ?_
      refine lv_aload_n hx hb dX7_town_161 rfl (lv_at hl 0 rfl) ?_
      refine va_get (D := D) (ci := 7) (v := .int (w_7 0 0)) (C := RX7) (T := TX7) (N := 33) hx hb hts hiX7 hown hK hP 0 rfl rfl 0 (by decide) (hts (.fieldLink RX7 124 "ClockOnceModel" "things" "I") (List.mem_of_getElem? (i := 2) rfl)) (fun _ h9 => h9) rfl dX7_town_162 ?_
      refine lv_imul hx hb dX7_town_165 ?_
      refine lv_aload_n hx hb dX7_town_166 rfl (lv_at hl 0 rfl) ?_
      refine va_get (D := D) (ci := 7) (v := .int (w_7 0 1)) (C := RX7) (T := TX7) (N := 33) hx hb hts hiX7 hown hK hP 0 rfl rfl 1 (by decide) (hts (.fieldLink RX7 127 "ClockOnceModel" "askers" "I") (List.mem_of_getElem? (i := 4) rfl)) (fun _ h9 => h9) rfl dX7_town_167 ?_
      refine lv_iadd hx hb dX7_town_170 ?_
      exact hret _ _ _ _ _ _ h hP hD hS dX7_town_171
    · have h := mk_ifn q_1 h
      refine lv_aload_n hx hb dX7_town_106 rfl (lv_at hl 0 rfl) ?_
      refine va_get (D := D) (ci := 7) (v := .ref (a0 4)) (C := RX7) (T := TX7) (N := 33) hx hb hts hiX7 hown hK hP 0 rfl rfl 6 (by decide) (hts (.fieldLink RX7 19 "ClockOnceModel" "linkOf" "[I") (List.mem_of_getElem? (i := 13) rfl)) (fun _ h9 => h9) rfl dX7_town_107 ?_
      refine lv_iload_n hx hb dX7_town_110 rfl (lv_at hl 1 rfl) ?_
      refine lv_aload_n hx hb dX7_town_111 rfl (lv_at hl 0 rfl) ?_
      refine va_get (D := D) (ci := 7) (v := .ref (a0 9)) (C := RX7) (T := TX7) (N := 33) hx hb hts hiX7 hown hK hP 0 rfl rfl 11 (by decide) (hts (.fieldLink RX7 34 "ClockOnceModel" "readLinkOf" "[I") (List.mem_of_getElem? (i := 14) rfl)) (fun _ h9 => h9) rfl dX7_town_112 ?_
      refine lv_iload_n hx hb dX7_town_115 rfl (lv_at hl 1 rfl) ?_
      obtain ⟨v_8, ev_8, hiv_8, h⟩ := mk_rdE h
      refine va_iald hx hb hK hP 9 0 rfl rfl hiv_8 dX7_town_116 ?_
      refine mk_topi ev_8 ?_
      obtain ⟨hx_9, h⟩ := mk_ixE h
      obtain ⟨w_10, ew_10, h⟩ := mk_nmE h
      refine va_iast hx hb hK hP hD hS 4 0 rfl rfl hx_9 dX7_town_117 (fun H locs hP hD hS => ?_)
      have hP : va_P D vwCl (wX7 cI cZ a0 w_10 sd) H := by rw [ew_10]; exact hP
      have hD : va_D A (wX7 cI cZ a0 w_10 sd) := by rw [ew_10]; exact hD
      refine lv_aload_n hx hb dX7_town_118 rfl (lv_at hl 0 rfl) ?_
      refine va_get (D := D) (ci := 7) (v := .ref (a0 5)) (C := RX7) (T := TX7) (N := 33) hx hb hts hiX7 hown hK hP 0 rfl rfl 7 (by decide) (hts (.fieldLink RX7 22 "ClockOnceModel" "linkTo" "[I") (List.mem_of_getElem? (i := 15) rfl)) (fun _ h9 => h9) rfl dX7_town_119 ?_
      refine lv_iload_n hx hb dX7_town_122 rfl (lv_at hl 1 rfl) ?_
      refine lv_aload_n hx hb dX7_town_123 rfl (lv_at hl 0 rfl) ?_
      refine va_get (D := D) (ci := 7) (v := .ref (a0 10)) (C := RX7) (T := TX7) (N := 33) hx hb hts hiX7 hown hK hP 0 rfl rfl 12 (by decide) (hts (.fieldLink RX7 37 "ClockOnceModel" "readLinkTo" "[I") (List.mem_of_getElem? (i := 16) rfl)) (fun _ h9 => h9) rfl dX7_town_124 ?_
      refine lv_iload_n hx hb dX7_town_127 rfl (lv_at hl 1 rfl) ?_
      obtain ⟨v_11, ev_11, hiv_11, h⟩ := mk_rdE h
      refine va_iald hx hb hK hP 10 0 rfl rfl hiv_11 dX7_town_128 ?_
      refine mk_topi ev_11 ?_
      obtain ⟨hx_12, h⟩ := mk_ixE h
      obtain ⟨w_13, ew_13, h⟩ := mk_nmE h
      refine va_iast hx hb hK hP hD hS 5 0 rfl rfl hx_12 dX7_town_129 (fun H locs hP hD hS => ?_)
      have hP : va_P D vwCl (wX7 cI cZ a0 w_13 sd) H := by rw [ew_13]; exact hP
      have hD : va_D A (wX7 cI cZ a0 w_13 sd) := by rw [ew_13]; exact hD
      refine lv_iinc (v := (x1 + (1 : Int32))) (lv' := [(1, .int (x1 + (1 : Int32))), (0, .ref (a0 0))]) hx hb dX7_town_130 hl (k := 1) rfl rfl (by decide) rfl (fun ls hl => ?_)
      refine lv_goto (tgt := 101) hx hb dX7_town_133 (by decide) ?_
      exact ih101 w_13 (x1 + (1 : Int32)) h H locs ls hP hD hS (lv_sub hl [1, 0] rfl)
  have K64 : ∀ (u0 : TU) (x1 : Int32) (H : Heap) (locs : List Loc) (ls : Array Slot), va_P D vwCl (wX7 cI cZ a0 u0 sd) H → va_D A (wX7 cI cZ a0 u0 sd) → va_S A H0 H locs → lv_has ls 2 [(0, .ref (a0 0)), (1, .int x1)] → lq2 (g_X7_town_64 N sd) N u0 x1 = some out → W p l e rm_X7_town s m args below meth c H locs 0 0 Q (F0 m 64 ls []) := by
    intro u0 x1 H locs ls hP hD hS hl h
    refine lq2_W (Wd := fun u0 x1 => ∀ (H : Heap) (locs : List Loc) (ls : Array Slot), va_P D vwCl (wX7 cI cZ a0 u0 sd) H → va_D A (wX7 cI cZ a0 u0 sd) → va_S A H0 H locs → lv_has ls 2 [(0, .ref (a0 0)), (1, .int x1)] → W p l e rm_X7_town s m args below meth c H locs 0 0 Q (F0 m 64 ls [])) (fun rec64 ih64 u0 x1 h H locs ls hP hD hS hl => ?_) N u0 x1 h H locs ls hP hD hS hl
    unfold g_X7_town_64 at h
    refine lv_iload_n hx hb dX7_town_64 rfl (lv_at hl 1 rfl) ?_
    refine lv_iconst (v := (4 : Int32)) hx hb dX7_town_65 (by decide) ?_
    refine lv_icmp_ge (tgt := 99) hx hb dX7_town_66 (by decide) (fun q_14 => ?_) (fun q_14 => ?_)
    · have h := mk_ifp q_14 h
      refine lv_iconst (v := (0 : Int32)) hx hb dX7_town_99 (by decide) ?_
      refine lv_istore_n (lv' := [(1, .int (0 : Int32)), (0, .ref (a0 0))]) hx hb dX7_town_100 rfl hl (by decide) rfl (fun ls hl => ?_)
      exact K101 u0 (0 : Int32) H locs ls hP hD hS (lv_sub hl [1, 0] rfl) h
    · have h := mk_ifn q_14 h
      refine lv_aload_n hx hb dX7_town_69 rfl (lv_at hl 0 rfl) ?_
      refine va_get (D := D) (ci := 7) (v := .ref (a0 2)) (C := RX7) (T := TX7) (N := 33) hx hb hts hiX7 hown hK hP 0 rfl rfl 4 (by decide) (hts (.fieldLink RX7 13 "ClockOnceModel" "from" "[I") (List.mem_of_getElem? (i := 9) rfl)) (fun _ h9 => h9) rfl dX7_town_70 ?_
      refine lv_iload_n hx hb dX7_town_73 rfl (lv_at hl 1 rfl) ?_
      refine lv_aload_n hx hb dX7_town_74 rfl (lv_at hl 0 rfl) ?_
      refine va_get (D := D) (ci := 7) (v := .ref (a0 7)) (C := RX7) (T := TX7) (N := 33) hx hb hts hiX7 hown hK hP 0 rfl rfl 9 (by decide) (hts (.fieldLink RX7 28 "ClockOnceModel" "readFrom" "[I") (List.mem_of_getElem? (i := 10) rfl)) (fun _ h9 => h9) rfl dX7_town_75 ?_
      refine lv_iload_n hx hb dX7_town_78 rfl (lv_at hl 1 rfl) ?_
      obtain ⟨v_15, ev_15, hiv_15, h⟩ := mk_rdE h
      refine va_iald hx hb hK hP 7 0 rfl rfl hiv_15 dX7_town_79 ?_
      refine mk_topi ev_15 ?_
      obtain ⟨hx_16, h⟩ := mk_ixE h
      obtain ⟨w_17, ew_17, h⟩ := mk_nmE h
      refine va_iast hx hb hK hP hD hS 2 0 rfl rfl hx_16 dX7_town_80 (fun H locs hP hD hS => ?_)
      have hP : va_P D vwCl (wX7 cI cZ a0 w_17 sd) H := by rw [ew_17]; exact hP
      have hD : va_D A (wX7 cI cZ a0 w_17 sd) := by rw [ew_17]; exact hD
      refine lv_aload_n hx hb dX7_town_81 rfl (lv_at hl 0 rfl) ?_
      refine va_get (D := D) (ci := 7) (v := .ref (a0 3)) (C := RX7) (T := TX7) (N := 33) hx hb hts hiX7 hown hK hP 0 rfl rfl 5 (by decide) (hts (.fieldLink RX7 16 "ClockOnceModel" "to" "[I") (List.mem_of_getElem? (i := 11) rfl)) (fun _ h9 => h9) rfl dX7_town_82 ?_
      refine lv_iload_n hx hb dX7_town_85 rfl (lv_at hl 1 rfl) ?_
      refine lv_aload_n hx hb dX7_town_86 rfl (lv_at hl 0 rfl) ?_
      refine va_get (D := D) (ci := 7) (v := .ref (a0 8)) (C := RX7) (T := TX7) (N := 33) hx hb hts hiX7 hown hK hP 0 rfl rfl 10 (by decide) (hts (.fieldLink RX7 31 "ClockOnceModel" "readTo" "[I") (List.mem_of_getElem? (i := 12) rfl)) (fun _ h9 => h9) rfl dX7_town_87 ?_
      refine lv_iload_n hx hb dX7_town_90 rfl (lv_at hl 1 rfl) ?_
      obtain ⟨v_18, ev_18, hiv_18, h⟩ := mk_rdE h
      refine va_iald hx hb hK hP 8 0 rfl rfl hiv_18 dX7_town_91 ?_
      refine mk_topi ev_18 ?_
      obtain ⟨hx_19, h⟩ := mk_ixE h
      obtain ⟨w_20, ew_20, h⟩ := mk_nmE h
      refine va_iast hx hb hK hP hD hS 3 0 rfl rfl hx_19 dX7_town_92 (fun H locs hP hD hS => ?_)
      have hP : va_P D vwCl (wX7 cI cZ a0 w_20 sd) H := by rw [ew_20]; exact hP
      have hD : va_D A (wX7 cI cZ a0 w_20 sd) := by rw [ew_20]; exact hD
      refine lv_iinc (v := (x1 + (1 : Int32))) (lv' := [(1, .int (x1 + (1 : Int32))), (0, .ref (a0 0))]) hx hb dX7_town_93 hl (k := 1) rfl rfl (by decide) rfl (fun ls hl => ?_)
      refine lv_goto (tgt := 64) hx hb dX7_town_96 (by decide) ?_
      exact ih64 w_20 (x1 + (1 : Int32)) h H locs ls hP hD hS (lv_sub hl [1, 0] rfl)
  have K38 : ∀ (u0 : TU) (x1 : Int32) (H : Heap) (locs : List Loc) (ls : Array Slot), va_P D vwCl (wX7 cI cZ a0 u0 sd) H → va_D A (wX7 cI cZ a0 u0 sd) → va_S A H0 H locs → lv_has ls 2 [(0, .ref (a0 0)), (1, .int x1)] → lq2 (g_X7_town_38 N sd) N u0 x1 = some out → W p l e rm_X7_town s m args below meth c H locs 0 0 Q (F0 m 38 ls []) := by
    intro u0 x1 H locs ls hP hD hS hl h
    refine lq2_W (Wd := fun u0 x1 => ∀ (H : Heap) (locs : List Loc) (ls : Array Slot), va_P D vwCl (wX7 cI cZ a0 u0 sd) H → va_D A (wX7 cI cZ a0 u0 sd) → va_S A H0 H locs → lv_has ls 2 [(0, .ref (a0 0)), (1, .int x1)] → W p l e rm_X7_town s m args below meth c H locs 0 0 Q (F0 m 38 ls [])) (fun rec38 ih38 u0 x1 h H locs ls hP hD hS hl => ?_) N u0 x1 h H locs ls hP hD hS hl
    unfold g_X7_town_38 at h
    refine lv_iload_n hx hb dX7_town_38 rfl (lv_at hl 1 rfl) ?_
    refine lv_bipush (v := (20 : Int32)) hx hb dX7_town_39 (by decide) ?_
    refine lv_icmp_ge (tgt := 62) hx hb dX7_town_41 (by decide) (fun q_21 => ?_) (fun q_21 => ?_)
    · have h := mk_ifp q_21 h
      refine lv_iconst (v := (0 : Int32)) hx hb dX7_town_62 (by decide) ?_
      refine lv_istore_n (lv' := [(1, .int (0 : Int32)), (0, .ref (a0 0))]) hx hb dX7_town_63 rfl hl (by decide) rfl (fun ls hl => ?_)
      exact K64 u0 (0 : Int32) H locs ls hP hD hS (lv_sub hl [1, 0] rfl) h
    · have h := mk_ifn q_21 h
      refine lv_aload_n hx hb dX7_town_44 rfl (lv_at hl 0 rfl) ?_
      refine va_get (D := D) (ci := 7) (v := .ref (a0 1)) (C := RX7) (T := TX7) (N := 33) hx hb hts hiX7 hown hK hP 0 rfl rfl 3 (by decide) (hts (.fieldLink RX7 7 "ClockOnceModel" "of" "[I") (List.mem_of_getElem? (i := 7) rfl)) (fun _ h9 => h9) rfl dX7_town_45 ?_
      refine lv_iload_n hx hb dX7_town_48 rfl (lv_at hl 1 rfl) ?_
      refine lv_aload_n hx hb dX7_town_49 rfl (lv_at hl 0 rfl) ?_
      refine va_get (D := D) (ci := 7) (v := .ref (a0 6)) (C := RX7) (T := TX7) (N := 33) hx hb hts hiX7 hown hK hP 0 rfl rfl 8 (by decide) (hts (.fieldLink RX7 25 "ClockOnceModel" "readOf" "[I") (List.mem_of_getElem? (i := 8) rfl)) (fun _ h9 => h9) rfl dX7_town_50 ?_
      refine lv_iload_n hx hb dX7_town_53 rfl (lv_at hl 1 rfl) ?_
      obtain ⟨v_22, ev_22, hiv_22, h⟩ := mk_rdE h
      refine va_iald hx hb hK hP 6 0 rfl rfl hiv_22 dX7_town_54 ?_
      refine mk_topi ev_22 ?_
      obtain ⟨hx_23, h⟩ := mk_ixE h
      obtain ⟨w_24, ew_24, h⟩ := mk_nmE h
      refine va_iast hx hb hK hP hD hS 1 0 rfl rfl hx_23 dX7_town_55 (fun H locs hP hD hS => ?_)
      have hP : va_P D vwCl (wX7 cI cZ a0 w_24 sd) H := by rw [ew_24]; exact hP
      have hD : va_D A (wX7 cI cZ a0 w_24 sd) := by rw [ew_24]; exact hD
      refine lv_iinc (v := (x1 + (1 : Int32))) (lv' := [(1, .int (x1 + (1 : Int32))), (0, .ref (a0 0))]) hx hb dX7_town_56 hl (k := 1) rfl rfl (by decide) rfl (fun ls hl => ?_)
      refine lv_goto (tgt := 38) hx hb dX7_town_59 (by decide) ?_
      exact ih38 w_24 (x1 + (1 : Int32)) h H locs ls hP hD hS (lv_sub hl [1, 0] rfl)
  unfold f_X7_town at h
  refine lv_aload_n hx hb dX7_town_0 rfl (lv_at hl 0 rfl) ?_
  obtain ⟨r_25, er_25, h⟩ := mk_bd h
  refine es_vi (As := []) (rest := []) (w' := (wX7 cI cZ a0 r_25.2 sd)) ⟨hx, hb, hml, hown, hts⟩ (c_X7_readText l D cI cZ cO N a0 u0 sd H.size r_25 er_25) (cwV 0 hts k_X7_town_X7_readText_121 rfl rfl rfl (by decide +kernel) ⟨(Nat.le_of_ble_eq_true rfl), (Nat.le_of_ble_eq_true rfl)⟩) (va_recv hK hP (ci := 7) (q0 := 0) rfl rfl) hK hP hD hS hA rfl rfl hl.1 rfl (Nat.le_of_ble_eq_true rfl) dX7_town_1 ⟨Nat.zero_le _, Nat.zero_le _⟩ (fun H locs hP hD hS => ?_)
  refine lv_bipush (v := (-9 : Int32)) hx hb dX7_town_4 (by decide) ?_
  refine lv_icmp_eq (tgt := 12) hx hb dX7_town_6 (by decide) (fun q_26 => ?_) (fun q_26 => ?_)
  · have h := mk_ifp q_26 h
    refine lv_aload_n hx hb dX7_town_12 rfl (lv_at hl 0 rfl) ?_
    refine lv_aload_n hx hb dX7_town_13 rfl (lv_at hl 0 rfl) ?_
    refine va_get (D := D) (ci := 7) (v := .int (r_25.2 0 3)) (C := RX7) (T := TX7) (N := 33) hx hb hts hiX7 hown hK hP 0 rfl rfl 13 (by decide) (hts (.fieldLink RX7 93 "ClockOnceModel" "readThings" "I") (List.mem_of_getElem? (i := 1) rfl)) (fun _ h9 => h9) rfl dX7_town_14 ?_
    obtain ⟨w_27, ew_27, h⟩ := mk_nmE h
    refine va_put (D := D) (ci := 7) (v := .int (r_25.2 0 3)) (ty := .int) (C := RX7) (T := TX7) (N := 33) hx hb hts hiX7 tyX7 tyX7_ok nmX7 hown hK hP hD hS 0 rfl rfl 0 (by decide) (hts (.fieldLink RX7 124 "ClockOnceModel" "things" "I") (List.mem_of_getElem? (i := 2) rfl)) (fun _ h9 => h9) rfl (by decide +kernel) rfl rfl (Nat.le_of_ble_eq_true rfl) dX7_town_17 (fun H locs hP hD hS => ?_)
    have hP : va_P D vwCl (wX7 cI cZ a0 w_27 sd) H := by rw [ew_27]; exact hP
    have hD : va_D A (wX7 cI cZ a0 w_27 sd) := by rw [ew_27]; exact hD
    refine lv_aload_n hx hb dX7_town_20 rfl (lv_at hl 0 rfl) ?_
    refine lv_aload_n hx hb dX7_town_21 rfl (lv_at hl 0 rfl) ?_
    refine va_get (D := D) (ci := 7) (v := .int (w_27 0 4)) (C := RX7) (T := TX7) (N := 33) hx hb hts hiX7 hown hK hP 0 rfl rfl 14 (by decide) (hts (.fieldLink RX7 103 "ClockOnceModel" "readAskers" "I") (List.mem_of_getElem? (i := 3) rfl)) (fun _ h9 => h9) rfl dX7_town_22 ?_
    obtain ⟨w_28, ew_28, h⟩ := mk_nmE h
    refine va_put (D := D) (ci := 7) (v := .int (w_27 0 4)) (ty := .int) (C := RX7) (T := TX7) (N := 33) hx hb hts hiX7 tyX7 tyX7_ok nmX7 hown hK hP hD hS 0 rfl rfl 1 (by decide) (hts (.fieldLink RX7 127 "ClockOnceModel" "askers" "I") (List.mem_of_getElem? (i := 4) rfl)) (fun _ h9 => h9) rfl (by decide +kernel) rfl rfl (Nat.le_of_ble_eq_true rfl) dX7_town_25 (fun H locs hP hD hS => ?_)
    have hP : va_P D vwCl (wX7 cI cZ a0 w_28 sd) H := by rw [ew_28]; exact hP
    have hD : va_D A (wX7 cI cZ a0 w_28 sd) := by rw [ew_28]; exact hD
    refine lv_aload_n hx hb dX7_town_28 rfl (lv_at hl 0 rfl) ?_
    refine lv_aload_n hx hb dX7_town_29 rfl (lv_at hl 0 rfl) ?_
    refine va_get (D := D) (ci := 7) (v := .int (w_28 0 5)) (C := RX7) (T := TX7) (N := 33) hx hb hts hiX7 hown hK hP 0 rfl rfl 15 (by decide) (hts (.fieldLink RX7 96 "ClockOnceModel" "readLinks" "I") (List.mem_of_getElem? (i := 5) rfl)) (fun _ h9 => h9) rfl dX7_town_30 ?_
    obtain ⟨w_29, ew_29, h⟩ := mk_nmE h
    refine va_put (D := D) (ci := 7) (v := .int (w_28 0 5)) (ty := .int) (C := RX7) (T := TX7) (N := 33) hx hb hts hiX7 tyX7 tyX7_ok nmX7 hown hK hP hD hS 0 rfl rfl 2 (by decide) (hts (.fieldLink RX7 130 "ClockOnceModel" "links" "I") (List.mem_of_getElem? (i := 6) rfl)) (fun _ h9 => h9) rfl (by decide +kernel) rfl rfl (Nat.le_of_ble_eq_true rfl) dX7_town_33 (fun H locs hP hD hS => ?_)
    have hP : va_P D vwCl (wX7 cI cZ a0 w_29 sd) H := by rw [ew_29]; exact hP
    have hD : va_D A (wX7 cI cZ a0 w_29 sd) := by rw [ew_29]; exact hD
    refine lv_iconst (v := (0 : Int32)) hx hb dX7_town_36 (by decide) ?_
    refine lv_istore_n (lv' := [(1, .int (0 : Int32)), (0, .ref (a0 0))]) hx hb dX7_town_37 rfl hl (by decide) rfl (fun ls hl => ?_)
    exact K38 w_29 (0 : Int32) H locs ls hP hD hS (lv_sub hl [1, 0] rfl) h
  · have h := mk_ifn q_26 h
    refine lv_bipush (v := (-3 : Int32)) hx hb dX7_town_9 (by decide) ?_
    exact hret _ _ _ _ _ _ h hP hD hS dX7_town_11

abbrev rm_X7_undo : Room := { frames := 0, cells := 0, slots := 0, locals := 0 }
set_option maxHeartbeats 4000000 in
set_option maxRecDepth 100000 in
theorem c_X7_undo (l : Launch) (D : va_G) (cI cZ cO : ClassId) (N : Nat) (a0 : Nat → Nat) (u0 : TU) (sd : Int64) (sz : Nat) (out : Int32 × TU) (h : f_X7_undo N u0 sd = some out) : Met l yX7_undo wsX7_undo rm_X7_undo (va_Pc [.ref (a0 0)] (mk_Pe D vwCl (tyA cI cZ cO) (wX7 cI cZ a0 u0 sd) sz)) (va_Qi (fun r u => (r, u) = out) (mk_Be D vwCl (wX7 cI cZ a0 u0 sd) sz (fun q => (wX7 cI cZ a0 q sd))) (va_A (wX7 cI cZ a0 u0 sd) sz)) 0 0 (va_A (wX7 cI cZ a0 u0 sd) sz) := by
  refine em_i (own := RX7) (cc := cX7_undo) (maxL := 2) (by decide) rfl rfl (Nat.le_of_ble_eq_true rfl) ?_
  intro p e s m args below meth c Q A H0 H locs ls hx hb hml hown hts hP hK hD hS hA hl hret
  have hl : lv_has ls 2 [(0, .ref (a0 0))] := hl
  have hiX7 : ∀ w ∈ u_ws RX7 TX7 33, w ∈ wsX7_undo := mk_seg 5 33 rfl
  have K36 : ∀ (u0 : TU) (x1 : Int32) (H : Heap) (locs : List Loc) (ls : Array Slot), va_P D vwCl (wX7 cI cZ a0 u0 sd) H → va_D A (wX7 cI cZ a0 u0 sd) → va_S A H0 H locs → lv_has ls 2 [(0, .ref (a0 0)), (1, .int x1)] → lq2 (g_X7_undo_36 N sd) N u0 x1 = some out → W p l e rm_X7_undo s m args below meth c H locs 0 0 Q (F0 m 36 ls []) := by
    intro u0 x1 H locs ls hP hD hS hl h
    refine lq2_W (Wd := fun u0 x1 => ∀ (H : Heap) (locs : List Loc) (ls : Array Slot), va_P D vwCl (wX7 cI cZ a0 u0 sd) H → va_D A (wX7 cI cZ a0 u0 sd) → va_S A H0 H locs → lv_has ls 2 [(0, .ref (a0 0)), (1, .int x1)] → W p l e rm_X7_undo s m args below meth c H locs 0 0 Q (F0 m 36 ls [])) (fun rec36 ih36 u0 x1 h H locs ls hP hD hS hl => ?_) N u0 x1 h H locs ls hP hD hS hl
    unfold g_X7_undo_36 at h
    refine lv_iload_n hx hb dX7_undo_36 rfl (lv_at hl 1 rfl) ?_
    refine lv_bipush (v := (10 : Int32)) hx hb dX7_undo_37 (by decide) ?_
    refine lv_icmp_ge (tgt := 68) hx hb dX7_undo_39 (by decide) (fun q_1 => ?_) (fun q_1 => ?_)
    · have h := mk_ifp q_1 h
      refine lv_aload_n hx hb dX7_undo_68 rfl (lv_at hl 0 rfl) ?_
      refine va_get (D := D) (ci := 7) (v := .int (u0 0 9)) (C := RX7) (T := TX7) (N := 33) hx hb hts hiX7 hown hK hP 0 rfl rfl 21 (by decide) (hts (.fieldLink RX7 133 "ClockOnceModel" "acts" "I") (List.mem_of_getElem? (i := 1) rfl)) (fun _ h9 => h9) rfl dX7_undo_69 ?_
      exact hret _ _ _ _ _ _ h hP hD hS dX7_undo_72
    · have h := mk_ifn q_1 h
      refine lv_aload_n hx hb dX7_undo_42 rfl (lv_at hl 0 rfl) ?_
      refine va_get (D := D) (ci := 7) (v := .ref (a0 11)) (C := RX7) (T := TX7) (N := 33) hx hb hts hiX7 hown hK hP 0 rfl rfl 16 (by decide) (hts (.fieldLink RX7 40 "ClockOnceModel" "now" "[I") (List.mem_of_getElem? (i := 3) rfl)) (fun _ h9 => h9) rfl dX7_undo_43 ?_
      refine lv_iload_n hx hb dX7_undo_46 rfl (lv_at hl 1 rfl) ?_
      refine lv_aload_n hx hb dX7_undo_47 rfl (lv_at hl 0 rfl) ?_
      refine va_get (D := D) (ci := 7) (v := .ref (a0 13)) (C := RX7) (T := TX7) (N := 33) hx hb hts hiX7 hown hK hP 0 rfl rfl 23 (by decide) (hts (.fieldLink RX7 46 "ClockOnceModel" "row" "[I") (List.mem_of_getElem? (i := 4) rfl)) (fun _ h9 => h9) rfl dX7_undo_48 ?_
      refine lv_bipush (v := (10 : Int32)) hx hb dX7_undo_51 (by decide) ?_
      refine lv_aload_n hx hb dX7_undo_53 rfl (lv_at hl 0 rfl) ?_
      refine va_get (D := D) (ci := 7) (v := .int (u0 0 10)) (C := RX7) (T := TX7) (N := 33) hx hb hts hiX7 hown hK hP 0 rfl rfl 22 (by decide) (hts (.fieldLink RX7 152 "ClockOnceModel" "next" "I") (List.mem_of_getElem? (i := 2) rfl)) (fun _ h9 => h9) rfl dX7_undo_54 ?_
      refine lv_imul hx hb dX7_undo_57 ?_
      refine lv_iload_n hx hb dX7_undo_58 rfl (lv_at hl 1 rfl) ?_
      refine lv_iadd hx hb dX7_undo_59 ?_
      obtain ⟨v_2, ev_2, hiv_2, h⟩ := mk_rdE h
      refine va_iald hx hb hK hP 13 0 rfl rfl hiv_2 dX7_undo_60 ?_
      refine mk_topi ev_2 ?_
      obtain ⟨hx_3, h⟩ := mk_ixE h
      obtain ⟨w_4, ew_4, h⟩ := mk_nmE h
      refine va_iast hx hb hK hP hD hS 11 0 rfl rfl hx_3 dX7_undo_61 (fun H locs hP hD hS => ?_)
      have hP : va_P D vwCl (wX7 cI cZ a0 w_4 sd) H := by rw [ew_4]; exact hP
      have hD : va_D A (wX7 cI cZ a0 w_4 sd) := by rw [ew_4]; exact hD
      refine lv_iinc (v := (x1 + (1 : Int32))) (lv' := [(1, .int (x1 + (1 : Int32))), (0, .ref (a0 0))]) hx hb dX7_undo_62 hl (k := 1) rfl rfl (by decide) rfl (fun ls hl => ?_)
      refine lv_goto (tgt := 36) hx hb dX7_undo_65 (by decide) ?_
      exact ih36 w_4 (x1 + (1 : Int32)) h H locs ls hP hD hS (lv_sub hl [1, 0] rfl)
  unfold f_X7_undo at h
  refine lv_aload_n hx hb dX7_undo_0 rfl (lv_at hl 0 rfl) ?_
  refine va_get (D := D) (ci := 7) (v := .int (u0 0 9)) (C := RX7) (T := TX7) (N := 33) hx hb hts hiX7 hown hK hP 0 rfl rfl 21 (by decide) (hts (.fieldLink RX7 133 "ClockOnceModel" "acts" "I") (List.mem_of_getElem? (i := 1) rfl)) (fun _ h9 => h9) rfl dX7_undo_1 ?_
  refine lv_if_ne (tgt := 10) hx hb dX7_undo_4 (by decide) (fun q_5 => ?_) (fun q_5 => ?_)
  · have h := mk_ifn q_5 h
    refine lv_aload_n hx hb dX7_undo_10 rfl (lv_at hl 0 rfl) ?_
    refine lv_dup hx hb dX7_undo_11 rfl ?_
    refine va_get (D := D) (ci := 7) (v := .int (u0 0 9)) (C := RX7) (T := TX7) (N := 33) hx hb hts hiX7 hown hK hP 0 rfl rfl 21 (by decide) (hts (.fieldLink RX7 133 "ClockOnceModel" "acts" "I") (List.mem_of_getElem? (i := 1) rfl)) (fun _ h9 => h9) rfl dX7_undo_12 ?_
    refine lv_iconst (v := (1 : Int32)) hx hb dX7_undo_15 (by decide) ?_
    refine lv_isub hx hb dX7_undo_16 ?_
    obtain ⟨w_6, ew_6, h⟩ := mk_nmE h
    refine va_put (D := D) (ci := 7) (v := .int ((u0 0 9) - (1 : Int32))) (ty := .int) (C := RX7) (T := TX7) (N := 33) hx hb hts hiX7 tyX7 tyX7_ok nmX7 hown hK hP hD hS 0 rfl rfl 21 (by decide) (hts (.fieldLink RX7 133 "ClockOnceModel" "acts" "I") (List.mem_of_getElem? (i := 1) rfl)) (fun _ h9 => h9) rfl (by decide +kernel) rfl rfl (Nat.le_of_ble_eq_true rfl) dX7_undo_17 (fun H locs hP hD hS => ?_)
    have hP : va_P D vwCl (wX7 cI cZ a0 w_6 sd) H := by rw [ew_6]; exact hP
    have hD : va_D A (wX7 cI cZ a0 w_6 sd) := by rw [ew_6]; exact hD
    refine lv_aload_n hx hb dX7_undo_20 rfl (lv_at hl 0 rfl) ?_
    refine lv_aload_n hx hb dX7_undo_21 rfl (lv_at hl 0 rfl) ?_
    refine va_get (D := D) (ci := 7) (v := .int (w_6 0 10)) (C := RX7) (T := TX7) (N := 33) hx hb hts hiX7 hown hK hP 0 rfl rfl 22 (by decide) (hts (.fieldLink RX7 152 "ClockOnceModel" "next" "I") (List.mem_of_getElem? (i := 2) rfl)) (fun _ h9 => h9) rfl dX7_undo_22 ?_
    refine lv_bipush (v := (15 : Int32)) hx hb dX7_undo_25 (by decide) ?_
    refine lv_iadd hx hb dX7_undo_27 ?_
    refine lv_bipush (v := (16 : Int32)) hx hb dX7_undo_28 (by decide) ?_
    refine lv_irem hx hb dX7_undo_30 (by decide) ?_
    obtain ⟨w_7, ew_7, h⟩ := mk_nmE h
    refine va_put (D := D) (ci := 7) (v := .int (((w_6 0 10) + (15 : Int32)) - ((w_6 0 10) + (15 : Int32)) / (16 : Int32) * (16 : Int32))) (ty := .int) (C := RX7) (T := TX7) (N := 33) hx hb hts hiX7 tyX7 tyX7_ok nmX7 hown hK hP hD hS 0 rfl rfl 22 (by decide) (hts (.fieldLink RX7 152 "ClockOnceModel" "next" "I") (List.mem_of_getElem? (i := 2) rfl)) (fun _ h9 => h9) rfl (by decide +kernel) rfl rfl (Nat.le_of_ble_eq_true rfl) dX7_undo_31 (fun H locs hP hD hS => ?_)
    have hP : va_P D vwCl (wX7 cI cZ a0 w_7 sd) H := by rw [ew_7]; exact hP
    have hD : va_D A (wX7 cI cZ a0 w_7 sd) := by rw [ew_7]; exact hD
    refine lv_iconst (v := (0 : Int32)) hx hb dX7_undo_34 (by decide) ?_
    refine lv_istore_n (lv' := [(1, .int (0 : Int32)), (0, .ref (a0 0))]) hx hb dX7_undo_35 rfl hl (by decide) rfl (fun ls hl => ?_)
    exact K36 w_7 (0 : Int32) H locs ls hP hD hS (lv_sub hl [1, 0] rfl) h
  · have h := mk_ifp q_5 h
    refine lv_bipush (v := (-3 : Int32)) hx hb dX7_undo_7 (by decide) ?_
    exact hret _ _ _ _ _ _ h hP hD hS dX7_undo_9

abbrev rm_X7_unsee : Room := { frames := 0, cells := 0, slots := 0, locals := 0 }
set_option maxHeartbeats 4000000 in
set_option maxRecDepth 100000 in
theorem c_X7_unsee (l : Launch) (D : va_G) (cI cZ cO : ClassId) (N : Nat) (a0 : Nat → Nat) (u0 : TU) (sd : Int64) (sz : Nat) (out : Int32 × TU) (h : f_X7_unsee N u0 sd = some out) : Met l yX7_unsee wsX7_unsee rm_X7_unsee (va_Pc [.ref (a0 0)] (mk_Pe D vwCl (tyA cI cZ cO) (wX7 cI cZ a0 u0 sd) sz)) (va_Qi (fun r u => (r, u) = out) (mk_Be D vwCl (wX7 cI cZ a0 u0 sd) sz (fun q => (wX7 cI cZ a0 q sd))) (va_A (wX7 cI cZ a0 u0 sd) sz)) 0 0 (va_A (wX7 cI cZ a0 u0 sd) sz) := by
  refine em_i (own := RX7) (cc := cX7_unsee) (maxL := 2) (by decide) rfl rfl (Nat.le_of_ble_eq_true rfl) ?_
  intro p e s m args below meth c Q A H0 H locs ls hx hb hml hown hts hP hK hD hS hA hl hret
  have hl : lv_has ls 2 [(0, .ref (a0 0))] := hl
  have hiX7 : ∀ w ∈ u_ws RX7 TX7 33, w ∈ wsX7_unsee := mk_seg 2 33 rfl
  unfold f_X7_unsee at h
  refine lv_aload_n hx hb dX7_unsee_0 rfl (lv_at hl 0 rfl) ?_
  refine va_get (D := D) (ci := 7) (v := .int (u0 0 12)) (C := RX7) (T := TX7) (N := 33) hx hb hts hiX7 hown hK hP 0 rfl rfl 26 (by decide) (hts (.fieldLink RX7 228 "ClockOnceModel" "seen" "I") (List.mem_of_getElem? (i := 1) rfl)) (fun _ h9 => h9) rfl dX7_unsee_1 ?_
  refine lv_istore_n (lv' := [(1, .int (u0 0 12)), (0, .ref (a0 0))]) hx hb dX7_unsee_4 rfl hl (by decide) rfl (fun ls hl => ?_)
  refine lv_aload_n hx hb dX7_unsee_5 rfl (lv_at hl 1 rfl) ?_
  refine lv_iconst (v := (0 : Int32)) hx hb dX7_unsee_6 (by decide) ?_
  obtain ⟨w_1, ew_1, h⟩ := mk_nmE h
  refine va_put (D := D) (ci := 7) (v := .int (0 : Int32)) (ty := .int) (C := RX7) (T := TX7) (N := 33) hx hb hts hiX7 tyX7 tyX7_ok nmX7 hown hK hP hD hS 0 rfl rfl 26 (by decide) (hts (.fieldLink RX7 228 "ClockOnceModel" "seen" "I") (List.mem_of_getElem? (i := 1) rfl)) (fun _ h9 => h9) rfl (by decide +kernel) rfl rfl (Nat.le_of_ble_eq_true rfl) dX7_unsee_7 (fun H locs hP hD hS => ?_)
  have hP : va_P D vwCl (wX7 cI cZ a0 w_1 sd) H := by rw [ew_1]; exact hP
  have hD : va_D A (wX7 cI cZ a0 w_1 sd) := by rw [ew_1]; exact hD
  refine lv_iload_n hx hb dX7_unsee_10 rfl (lv_at hl 0 rfl) ?_
  exact hret _ _ _ _ _ _ h hP hD hS dX7_unsee_11

abbrev rm_X7_which : Room := { frames := 5, cells := 0, slots := 0, locals := 118 }
set_option maxRecDepth 20000 in
theorem k_X7_which_X7_canBe_234 : GoodIn wsX7_which (wsV RX7 234 RX7 yX7_canBe wsX7_canBe) := goodIn_r _ [10, 11, 12, 4, 13, 6, 14, 15, 16, 17, 18, 19, 20, 4, 21, 22, 23, 24, 25, 26, 27, 28, 29, 30, 31, 32, 33, 34, 35, 36, 37, 38, 39, 40, 1, 2, 3, 5, 7, 8, 9, 41, 42, 43, 44, 45, 46, 47, 48, 49, 50, 51, 52, 53, 54, 55, 56, 57, 58, 59, 60, 61, 62, 63, 64, 65, 66, 67, 68, 69, 70, 71, 72, 73, 74, 75, 76, 77, 78, 79, 80, 81, 82, 83, 84, 85, 86, 87, 88, 89] rfl (by decide +kernel)
set_option maxRecDepth 20000 in
theorem k_X7_which_X7_isThing_136 : GoodIn wsX7_which (wsV RX7 136 RX7 yX7_isThing wsX7_isThing) := goodIn_r _ [1, 2, 3, 4, 5, 6, 7, 8, 4, 9, 57, 58, 59, 60, 61, 62, 63, 64, 65, 66, 67, 68, 69, 70, 71, 72, 73, 74, 75, 76, 77, 78, 79, 80, 81, 82, 83, 84, 85, 86, 87, 88, 89] rfl (by decide +kernel)
set_option maxHeartbeats 4000000 in
set_option maxRecDepth 100000 in
theorem c_X7_which (l : Launch) (D : va_G) (cI cZ cO : ClassId) (N : Nat) (a0 : Nat → Nat) (u0 : TU) (sd : Int64) (sz : Nat) (out : Int32 × TU) (h : f_X7_which N u0 sd = some out) : Met l yX7_which wsX7_which rm_X7_which (va_Pc [.ref (a0 0)] (mk_Pe D vwCl (tyA cI cZ cO) (wX7 cI cZ a0 u0 sd) sz)) (va_Qi (fun r u => (r, u) = out) (mk_Be D vwCl (wX7 cI cZ a0 u0 sd) sz (fun q => (wX7 cI cZ a0 q sd))) (va_A (wX7 cI cZ a0 u0 sd) sz)) 0 0 (va_A (wX7 cI cZ a0 u0 sd) sz) := by
  refine em_i (own := RX7) (cc := cX7_which) (maxL := 3) (by decide) rfl rfl (Nat.le_of_ble_eq_true rfl) ?_
  intro p e s m args below meth c Q A H0 H locs ls hx hb hml hown hts hP hK hD hS hA hl hret
  have hl : lv_has ls 3 [(0, .ref (a0 0))] := hl
  have K4 : ∀ (u0 : TU) (x1 : Int32) (x2 : Int32) (H : Heap) (locs : List Loc) (ls : Array Slot), va_P D vwCl (wX7 cI cZ a0 u0 sd) H → va_D A (wX7 cI cZ a0 u0 sd) → va_S A H0 H locs → lv_has ls 3 [(0, .ref (a0 0)), (1, .int x1), (2, .int x2)] → lq3 (g_X7_which_4 N sd) N u0 x1 x2 = some out → W p l e rm_X7_which s m args below meth c H locs 0 0 Q (F0 m 4 ls []) := by
    intro u0 x1 x2 H locs ls hP hD hS hl h
    refine lq3_W (Wd := fun u0 x1 x2 => ∀ (H : Heap) (locs : List Loc) (ls : Array Slot), va_P D vwCl (wX7 cI cZ a0 u0 sd) H → va_D A (wX7 cI cZ a0 u0 sd) → va_S A H0 H locs → lv_has ls 3 [(0, .ref (a0 0)), (1, .int x1), (2, .int x2)] → W p l e rm_X7_which s m args below meth c H locs 0 0 Q (F0 m 4 ls [])) (fun rec4 ih4 u0 x1 x2 h H locs ls hP hD hS hl => ?_) N u0 x1 x2 h H locs ls hP hD hS hl
    have K37 : ∀ (u0 : TU) (x2 : Int32) (t0 : Int32) (H : Heap) (locs : List Loc) (ls : Array Slot), va_P D vwCl (wX7 cI cZ a0 u0 sd) H → va_D A (wX7 cI cZ a0 u0 sd) → va_S A H0 H locs → lv_has ls 3 [(0, .ref (a0 0)), (2, .int x2)] → g_X7_which_37 N u0 sd rec4 x2 t0 = some out → W p l e rm_X7_which s m args below meth c H locs 0 0 Q (F0 m 37 ls [.int t0]) := by
      intro u0 x2 t0 H locs ls hP hD hS hl h
      unfold g_X7_which_37 at h
      refine lv_iconst (v := (0 : Int32)) hx hb dX7_which_37 (by decide) ?_
      refine lv_ior hx hb dX7_which_38 ?_
      refine lv_istore_n (lv' := [(1, .int (t0 ||| (0 : Int32))), (0, .ref (a0 0)), (2, .int x2)]) hx hb dX7_which_39 rfl hl (by decide) rfl (fun ls hl => ?_)
      refine lv_iinc (v := (x2 + (1 : Int32))) (lv' := [(2, .int (x2 + (1 : Int32))), (1, .int (t0 ||| (0 : Int32))), (0, .ref (a0 0))]) hx hb dX7_which_40 hl (k := 2) rfl rfl (by decide) rfl (fun ls hl => ?_)
      refine lv_goto (tgt := 4) hx hb dX7_which_43 (by decide) ?_
      exact ih4 u0 (t0 ||| (0 : Int32)) (x2 + (1 : Int32)) h H locs ls hP hD hS (lv_sub hl [2, 1, 0] rfl)
    have K23 : ∀ (u0 : TU) (x2 : Int32) (t0 : Int32) (H : Heap) (locs : List Loc) (ls : Array Slot), va_P D vwCl (wX7 cI cZ a0 u0 sd) H → va_D A (wX7 cI cZ a0 u0 sd) → va_S A H0 H locs → lv_has ls 3 [(0, .ref (a0 0)), (2, .int x2)] → g_X7_which_23 N u0 sd rec4 x2 t0 = some out → W p l e rm_X7_which s m args below meth c H locs 0 0 Q (F0 m 23 ls [.int t0]) := by
      intro u0 x2 t0 H locs ls hP hD hS hl h
      unfold g_X7_which_23 at h
      refine lv_aload_n hx hb dX7_which_23 rfl (lv_at hl 0 rfl) ?_
      refine lv_iload_n hx hb dX7_which_24 rfl (lv_at hl 1 rfl) ?_
      obtain ⟨r_1, er_1, h⟩ := mk_bd h
      refine es_vi (As := [.int x2]) (rest := [.int t0]) (w' := (wX7 cI cZ a0 r_1.2 sd)) ⟨hx, hb, hml, hown, hts⟩ (c_X7_canBe l D cI cZ cO N a0 u0 sd x2 H.size r_1 er_1) (cwV 1 hts k_X7_which_X7_canBe_234 rfl rfl rfl (by decide +kernel) ⟨(Nat.le_of_ble_eq_true rfl), (Nat.le_of_ble_eq_true rfl)⟩) (va_recv hK hP (ci := 7) (q0 := 0) rfl rfl) hK hP hD hS hA rfl rfl hl.1 rfl (Nat.le_of_ble_eq_true rfl) dX7_which_25 ⟨Nat.zero_le _, Nat.zero_le _⟩ (fun H locs hP hD hS => ?_)
      refine lv_if_eq (tgt := 37) hx hb dX7_which_28 (by decide) (fun q_2 => ?_) (fun q_2 => ?_)
      · have h := mk_ifp q_2 h
        exact K37 r_1.2 x2 t0 H locs ls hP hD hS (lv_sub hl [0, 1] rfl) h
      · have h := mk_ifn q_2 h
        refine lv_iconst (v := (1 : Int32)) hx hb dX7_which_31 (by decide) ?_
        refine lv_iload_n hx hb dX7_which_32 rfl (lv_at hl 1 rfl) ?_
        refine lv_ishl hx hb dX7_which_33 ?_
        refine lv_goto (tgt := 38) hx hb dX7_which_34 (by decide) ?_
        refine lv_ior hx hb dX7_which_38 ?_
        refine lv_istore_n (lv' := [(1, .int (t0 ||| ((1 : Int32) <<< (x2 &&& 31)))), (0, .ref (a0 0)), (2, .int x2)]) hx hb dX7_which_39 rfl hl (by decide) rfl (fun ls hl => ?_)
        refine lv_iinc (v := (x2 + (1 : Int32))) (lv' := [(2, .int (x2 + (1 : Int32))), (1, .int (t0 ||| ((1 : Int32) <<< (x2 &&& 31)))), (0, .ref (a0 0))]) hx hb dX7_which_40 hl (k := 2) rfl rfl (by decide) rfl (fun ls hl => ?_)
        refine lv_goto (tgt := 4) hx hb dX7_which_43 (by decide) ?_
        exact ih4 r_1.2 (t0 ||| ((1 : Int32) <<< (x2 &&& 31))) (x2 + (1 : Int32)) h H locs ls hP hD hS (lv_sub hl [2, 1, 0] rfl)
    unfold g_X7_which_4 at h
    refine lv_iload_n hx hb dX7_which_4 rfl (lv_at hl 2 rfl) ?_
    refine lv_iconst (v := (5 : Int32)) hx hb dX7_which_5 (by decide) ?_
    refine lv_icmp_ge (tgt := 46) hx hb dX7_which_6 (by decide) (fun q_3 => ?_) (fun q_3 => ?_)
    · have h := mk_ifp q_3 h
      refine lv_iload_n hx hb dX7_which_46 rfl (lv_at hl 1 rfl) ?_
      exact hret _ _ _ _ _ _ h hP hD hS dX7_which_47
    · have h := mk_ifn q_3 h
      refine lv_iload_n hx hb dX7_which_9 rfl (lv_at hl 1 rfl) ?_
      refine lv_iload_n hx hb dX7_which_10 rfl (lv_at hl 2 rfl) ?_
      refine lv_iconst (v := (4 : Int32)) hx hb dX7_which_11 (by decide) ?_
      refine lv_icmp_eq (tgt := 23) hx hb dX7_which_12 (by decide) (fun q_4 => ?_) (fun q_4 => ?_)
      · have h := mk_ifp q_4 h
        exact K23 u0 x2 x1 H locs ls hP hD hS (lv_sub hl [0, 2] rfl) h
      · have h := mk_ifn q_4 h
        refine lv_aload_n hx hb dX7_which_15 rfl (lv_at hl 0 rfl) ?_
        refine lv_iload_n hx hb dX7_which_16 rfl (lv_at hl 2 rfl) ?_
        obtain ⟨r_5, er_5, h⟩ := mk_bd h
        refine pc_v (As := [.int x2]) (rest := [.int x1]) ⟨hx, hb, hml, hown, hts⟩ (c_X7_isThing l D cI cZ cO N a0 u0 sd x2 r_5 er_5) (cwV 1 hts k_X7_which_X7_isThing_136 rfl rfl rfl (by decide +kernel) ⟨(Nat.le_of_ble_eq_true rfl), (Nat.le_of_ble_eq_true rfl)⟩) (va_recv hK hP (ci := 7) (q0 := 0) rfl rfl) hP hK rfl hl.1 rfl (Nat.le_of_ble_eq_true rfl) dX7_which_17 ⟨Nat.zero_le _, Nat.zero_le _⟩ ?_
        refine lv_if_eq (tgt := 37) hx hb dX7_which_20 (by decide) (fun q_6 => ?_) (fun q_6 => ?_)
        · have h := mk_ifp q_6 h
          exact K37 u0 x2 x1 H locs ls hP hD hS (lv_sub hl [0, 2] rfl) h
        · have h := mk_ifn q_6 h
          exact K23 u0 x2 x1 H locs ls hP hD hS (lv_sub hl [0, 2] rfl) h
  unfold f_X7_which at h
  refine lv_iconst (v := (0 : Int32)) hx hb dX7_which_0 (by decide) ?_
  refine lv_istore_n (lv' := [(1, .int (0 : Int32)), (0, .ref (a0 0))]) hx hb dX7_which_1 rfl hl (by decide) rfl (fun ls hl => ?_)
  refine lv_iconst (v := (0 : Int32)) hx hb dX7_which_2 (by decide) ?_
  refine lv_istore_n (lv' := [(2, .int (0 : Int32)), (1, .int (0 : Int32)), (0, .ref (a0 0))]) hx hb dX7_which_3 rfl hl (by decide) rfl (fun ls hl => ?_)
  exact K4 u0 (0 : Int32) (0 : Int32) H locs ls hP hD hS (lv_sub hl [2, 1, 0] rfl) h

abbrev rm_X7_wipe : Room := { frames := 0, cells := 0, slots := 0, locals := 0 }
set_option maxHeartbeats 4000000 in
set_option maxRecDepth 100000 in
theorem c_X7_wipe (l : Launch) (D : va_G) (cI cZ cO : ClassId) (N : Nat) (a0 : Nat → Nat) (u0 : TU) (sd : Int64) (sz : Nat) (out : Int32 × TU) (h : f_X7_wipe N u0 sd = some out) : Met l yX7_wipe wsX7_wipe rm_X7_wipe (va_Pc [.ref (a0 0)] (mk_Pe D vwCl (tyA cI cZ cO) (wX7 cI cZ a0 u0 sd) sz)) (va_Qi (fun r u => (r, u) = out) (mk_Be D vwCl (wX7 cI cZ a0 u0 sd) sz (fun q => (wX7 cI cZ a0 q sd))) (va_A (wX7 cI cZ a0 u0 sd) sz)) 0 0 (va_A (wX7 cI cZ a0 u0 sd) sz) := by
  refine em_i (own := RX7) (cc := cX7_wipe) (maxL := 2) (by decide) rfl rfl (Nat.le_of_ble_eq_true rfl) ?_
  intro p e s m args below meth c Q A H0 H locs ls hx hb hml hown hts hP hK hD hS hA hl hret
  have hl : lv_has ls 2 [(0, .ref (a0 0))] := hl
  have hiX7 : ∀ w ∈ u_ws RX7 TX7 33, w ∈ wsX7_wipe := mk_seg 2 33 rfl
  unfold f_X7_wipe at h
  refine lv_aload_n hx hb dX7_wipe_0 rfl (lv_at hl 0 rfl) ?_
  refine va_get (D := D) (ci := 7) (v := .int (u0 0 6)) (C := RX7) (T := TX7) (N := 33) hx hb hts hiX7 hown hK hP 0 rfl rfl 18 (by decide) (hts (.fieldLink RX7 77 "ClockOnceModel" "length" "I") (List.mem_of_getElem? (i := 1) rfl)) (fun _ h9 => h9) rfl dX7_wipe_1 ?_
  refine lv_istore_n (lv' := [(1, .int (u0 0 6)), (0, .ref (a0 0))]) hx hb dX7_wipe_4 rfl hl (by decide) rfl (fun ls hl => ?_)
  refine lv_aload_n hx hb dX7_wipe_5 rfl (lv_at hl 1 rfl) ?_
  refine lv_iconst (v := (0 : Int32)) hx hb dX7_wipe_6 (by decide) ?_
  obtain ⟨w_1, ew_1, h⟩ := mk_nmE h
  refine va_put (D := D) (ci := 7) (v := .int (0 : Int32)) (ty := .int) (C := RX7) (T := TX7) (N := 33) hx hb hts hiX7 tyX7 tyX7_ok nmX7 hown hK hP hD hS 0 rfl rfl 18 (by decide) (hts (.fieldLink RX7 77 "ClockOnceModel" "length" "I") (List.mem_of_getElem? (i := 1) rfl)) (fun _ h9 => h9) rfl (by decide +kernel) rfl rfl (Nat.le_of_ble_eq_true rfl) dX7_wipe_7 (fun H locs hP hD hS => ?_)
  have hP : va_P D vwCl (wX7 cI cZ a0 w_1 sd) H := by rw [ew_1]; exact hP
  have hD : va_D A (wX7 cI cZ a0 w_1 sd) := by rw [ew_1]; exact hD
  refine lv_iload_n hx hb dX7_wipe_10 rfl (lv_at hl 0 rfl) ?_
  exact hret _ _ _ _ _ _ h hP hD hS dX7_wipe_11

abbrev rm_X7_wise : Room := { frames := 5, cells := 0, slots := 0, locals := 116 }
set_option maxRecDepth 20000 in
theorem k_X7_wise_X7_isAsker_146 : GoodIn wsX7_wise (wsV RX7 146 RX7 yX7_isAsker wsX7_isAsker) := goodIn_r _ [2, 3, 4, 5, 6, 7, 8, 9, 5, 10, 76, 77, 78, 79, 80, 81, 82, 83, 84, 85, 86, 87, 88, 89, 90, 91, 92, 93, 94, 95, 96, 97, 98, 99, 100, 101, 102, 103, 104, 105, 106, 107, 108] rfl (by decide +kernel)
set_option maxRecDepth 20000 in
theorem k_X7_wise_X7_isThing_136 : GoodIn wsX7_wise (wsV RX7 136 RX7 yX7_isThing wsX7_isThing) := goodIn_r _ [11, 12, 13, 5, 14, 15, 8, 9, 5, 10, 76, 77, 78, 79, 80, 81, 82, 83, 84, 85, 86, 87, 88, 89, 90, 91, 92, 93, 94, 95, 96, 97, 98, 99, 100, 101, 102, 103, 104, 105, 106, 107, 108] rfl (by decide +kernel)
set_option maxRecDepth 20000 in
theorem k_X7_wise_X7_heard_149 : GoodIn wsX7_wise (wsV RX7 149 RX7 yX7_heard wsX7_heard) := goodIn_r _ [16, 17, 18, 5, 19, 7, 1, 8, 9, 5, 10, 76, 77, 78, 79, 80, 81, 82, 83, 84, 85, 86, 87, 88, 89, 90, 91, 92, 93, 94, 95, 96, 97, 98, 99, 100, 101, 102, 103, 104, 105, 106, 107, 108] rfl (by decide +kernel)
set_option maxRecDepth 20000 in
theorem k_X7_wise_X7_partsBy_180 : GoodIn wsX7_wise (wsV RX7 180 RX7 yX7_partsBy wsX7_partsBy) := goodIn_r _ [20, 21, 22, 5, 23, 15, 24, 25, 26, 5, 27, 28, 29, 30, 31, 32, 33, 34, 35, 36, 37, 38, 39, 40, 41, 42, 43, 44, 45, 46, 47, 48, 49, 50, 51, 52, 53, 54, 55, 56, 57, 58, 76, 77, 78, 79, 80, 81, 82, 83, 84, 85, 86, 87, 88, 89, 90, 91, 92, 93, 94, 95, 96, 97, 98, 99, 100, 101, 102, 103, 104, 105, 106, 107, 108] rfl (by decide +kernel)
set_option maxRecDepth 20000 in
theorem k_X7_wise_X7_layPossible_197 : GoodIn wsX7_wise (wsV RX7 197 RX7 yX7_layPossible wsX7_layPossible) := goodIn_r _ [59, 60, 61, 5, 62, 63, 15, 24, 25, 26, 5, 27, 28, 29, 30, 31, 32, 33, 34, 35, 36, 37, 38, 39, 40, 41, 42, 43, 44, 45, 46, 47, 48, 49, 50, 51, 52, 53, 54, 76, 77, 78, 79, 80, 81, 82, 83, 84, 85, 86, 87, 88, 89, 90, 91, 92, 93, 94, 95, 96, 97, 98, 99, 100, 101, 102, 103, 104, 105, 106, 107, 108] rfl (by decide +kernel)
set_option maxRecDepth 20000 in
theorem k_X7_wise_X7_wiseBy_201 : GoodIn wsX7_wise (wsV RX7 201 RX7 yX7_wiseBy wsX7_wiseBy) := goodIn_r _ [64, 65, 66, 5, 67, 68, 69, 70, 5, 71, 15, 63, 39, 40, 41, 55, 56, 57, 58, 46, 42, 43, 44, 45, 72, 73, 74, 75, 76, 77, 78, 79, 80, 81, 82, 83, 84, 85, 86, 87, 88, 89, 90, 91, 92, 93, 94, 95, 96, 97, 98, 99, 100, 101, 102, 103, 104, 105, 106, 107, 108] rfl (by decide +kernel)
set_option maxHeartbeats 4000000 in
set_option maxRecDepth 100000 in
theorem c_X7_wise (l : Launch) (D : va_G) (cI cZ cO : ClassId) (N : Nat) (a0 : Nat → Nat) (u0 : TU) (sd : Int64) (p1 : Int32) (p2 : Int32) (sz : Nat) (out : Int32 × TU) (h : f_X7_wise N u0 sd p1 p2 = some out) : Met l yX7_wise wsX7_wise rm_X7_wise (va_Pc [.ref (a0 0), .int p1, .int p2] (mk_Pe D vwCl (tyA cI cZ cO) (wX7 cI cZ a0 u0 sd) sz)) (va_Qi (fun r u => (r, u) = out) (mk_Be D vwCl (wX7 cI cZ a0 u0 sd) sz (fun q => (wX7 cI cZ a0 q sd))) (va_A (wX7 cI cZ a0 u0 sd) sz)) 0 0 (va_A (wX7 cI cZ a0 u0 sd) sz) := by
  refine em_i (own := RX7) (cc := cX7_wise) (maxL := 3) (by decide) rfl rfl (Nat.le_of_ble_eq_true rfl) ?_
  intro p e s m args below meth c Q A H0 H locs ls hx hb hml hown hts hP hK hD hS hA hl hret
  have hl : lv_has ls 3 [(0, .ref (a0 0)), (1, .int p1), (2, .int p2)] := hl
  have hiX7 : ∀ w ∈ u_ws RX7 TX7 33, w ∈ wsX7_wise := mk_seg 76 33 rfl
  unfold f_X7_wise at h
  refine lv_aload_n hx hb dX7_wise_0 rfl (lv_at hl 0 rfl) ?_
  refine lv_iload_n hx hb dX7_wise_1 rfl (lv_at hl 1 rfl) ?_
  obtain ⟨r_1, er_1, h⟩ := mk_bd h
  refine pc_v (As := [.int p1]) (rest := []) ⟨hx, hb, hml, hown, hts⟩ (c_X7_isAsker l D cI cZ cO N a0 u0 sd p1 r_1 er_1) (cwV 1 hts k_X7_wise_X7_isAsker_146 rfl rfl rfl (by decide +kernel) ⟨(Nat.le_of_ble_eq_true rfl), (Nat.le_of_ble_eq_true rfl)⟩) (va_recv hK hP (ci := 7) (q0 := 0) rfl rfl) hP hK rfl hl.1 rfl (Nat.le_of_ble_eq_true rfl) dX7_wise_2 ⟨Nat.zero_le _, Nat.zero_le _⟩ ?_
  refine lv_if_eq (tgt := 16) hx hb dX7_wise_5 (by decide) (fun q_2 => ?_) (fun q_2 => ?_)
  · have h := mk_ifp q_2 h
    refine lv_iconst (v := (-1 : Int32)) hx hb dX7_wise_16 (by decide) ?_
    exact hret _ _ _ _ _ _ h hP hD hS dX7_wise_17
  · have h := mk_ifn q_2 h
    refine lv_aload_n hx hb dX7_wise_8 rfl (lv_at hl 0 rfl) ?_
    refine lv_iload_n hx hb dX7_wise_9 rfl (lv_at hl 2 rfl) ?_
    obtain ⟨r_3, er_3, h⟩ := mk_bd h
    refine pc_v (As := [.int p2]) (rest := []) ⟨hx, hb, hml, hown, hts⟩ (c_X7_isThing l D cI cZ cO N a0 u0 sd p2 r_3 er_3) (cwV 1 hts k_X7_wise_X7_isThing_136 rfl rfl rfl (by decide +kernel) ⟨(Nat.le_of_ble_eq_true rfl), (Nat.le_of_ble_eq_true rfl)⟩) (va_recv hK hP (ci := 7) (q0 := 0) rfl rfl) hP hK rfl hl.1 rfl (Nat.le_of_ble_eq_true rfl) dX7_wise_10 ⟨Nat.zero_le _, Nat.zero_le _⟩ ?_
    refine lv_if_ne (tgt := 18) hx hb dX7_wise_13 (by decide) (fun q_4 => ?_) (fun q_4 => ?_)
    · have h := mk_ifn q_4 h
      refine lv_aload_n hx hb dX7_wise_18 rfl (lv_at hl 0 rfl) ?_
      refine lv_aload_n hx hb dX7_wise_19 rfl (lv_at hl 0 rfl) ?_
      refine va_get (D := D) (ci := 7) (v := .ref (a0 11)) (C := RX7) (T := TX7) (N := 33) hx hb hts hiX7 hown hK hP 0 rfl rfl 16 (by decide) (hts (.fieldLink RX7 40 "ClockOnceModel" "now" "[I") (List.mem_of_getElem? (i := 1) rfl)) (fun _ h9 => h9) rfl dX7_wise_20 ?_
      refine lv_iconst (v := (0 : Int32)) hx hb dX7_wise_23 (by decide) ?_
      obtain ⟨v_5, ev_5, hiv_5, h⟩ := mk_rdE h
      refine va_iald hx hb hK hP 11 0 rfl rfl hiv_5 dX7_wise_24 ?_
      refine mk_topi ev_5 ?_
      refine lv_aload_n hx hb dX7_wise_25 rfl (lv_at hl 0 rfl) ?_
      refine lv_iload_n hx hb dX7_wise_26 rfl (lv_at hl 1 rfl) ?_
      obtain ⟨r_6, er_6, h⟩ := mk_bd h
      refine pc_v (As := [.int p1]) (rest := [.int v_5, .ref (a0 0)]) ⟨hx, hb, hml, hown, hts⟩ (c_X7_heard l D cI cZ cO N a0 u0 sd p1 r_6 er_6) (cwV 1 hts k_X7_wise_X7_heard_149 rfl rfl rfl (by decide +kernel) ⟨(Nat.le_of_ble_eq_true rfl), (Nat.le_of_ble_eq_true rfl)⟩) (va_recv hK hP (ci := 7) (q0 := 0) rfl rfl) hP hK rfl hl.1 rfl (Nat.le_of_ble_eq_true rfl) dX7_wise_27 ⟨Nat.zero_le _, Nat.zero_le _⟩ ?_
      obtain ⟨r_7, er_7, h⟩ := mk_bd h
      refine pc_v (As := [.int v_5, .int r_6]) (rest := []) ⟨hx, hb, hml, hown, hts⟩ (c_X7_partsBy l D cI cZ cO N a0 u0 sd v_5 r_6 r_7 er_7) (cwV 2 hts k_X7_wise_X7_partsBy_180 rfl rfl rfl (by decide +kernel) ⟨(Nat.le_of_ble_eq_true rfl), (Nat.le_of_ble_eq_true rfl)⟩) (va_recv hK hP (ci := 7) (q0 := 0) rfl rfl) hP hK rfl hl.1 rfl (Nat.le_of_ble_eq_true rfl) dX7_wise_30 ⟨Nat.zero_le _, Nat.zero_le _⟩ ?_
      refine lv_if_eq (tgt := 49) hx hb dX7_wise_33 (by decide) (fun q_8 => ?_) (fun q_8 => ?_)
      · have h := mk_ifp q_8 h
        refine lv_bipush (v := (-3 : Int32)) hx hb dX7_wise_49 (by decide) ?_
        exact hret _ _ _ _ _ _ h hP hD hS dX7_wise_51
      · have h := mk_ifn q_8 h
        refine lv_aload_n hx hb dX7_wise_36 rfl (lv_at hl 0 rfl) ?_
        refine va_get (D := D) (ci := 7) (v := .ref (a0 11)) (C := RX7) (T := TX7) (N := 33) hx hb hts hiX7 hown hK hP 0 rfl rfl 16 (by decide) (hts (.fieldLink RX7 40 "ClockOnceModel" "now" "[I") (List.mem_of_getElem? (i := 1) rfl)) (fun _ h9 => h9) rfl dX7_wise_37 ?_
        refine lv_iconst (v := (2 : Int32)) hx hb dX7_wise_40 (by decide) ?_
        refine lv_iload_n hx hb dX7_wise_41 rfl (lv_at hl 2 rfl) ?_
        refine lv_iadd hx hb dX7_wise_42 ?_
        obtain ⟨v_9, ev_9, hiv_9, h⟩ := mk_rdE h
        refine va_iald hx hb hK hP 11 0 rfl rfl hiv_9 dX7_wise_43 ?_
        refine mk_topi ev_9 ?_
        refine lv_bipush (v := (-9 : Int32)) hx hb dX7_wise_44 (by decide) ?_
        refine lv_icmp_eq (tgt := 52) hx hb dX7_wise_46 (by decide) (fun q_10 => ?_) (fun q_10 => ?_)
        · have h := mk_ifp q_10 h
          refine lv_aload_n hx hb dX7_wise_52 rfl (lv_at hl 0 rfl) ?_
          refine lv_aload_n hx hb dX7_wise_53 rfl (lv_at hl 0 rfl) ?_
          refine va_get (D := D) (ci := 7) (v := .ref (a0 11)) (C := RX7) (T := TX7) (N := 33) hx hb hts hiX7 hown hK hP 0 rfl rfl 16 (by decide) (hts (.fieldLink RX7 40 "ClockOnceModel" "now" "[I") (List.mem_of_getElem? (i := 1) rfl)) (fun _ h9 => h9) rfl dX7_wise_54 ?_
          refine lv_iconst (v := (0 : Int32)) hx hb dX7_wise_57 (by decide) ?_
          obtain ⟨v_11, ev_11, hiv_11, h⟩ := mk_rdE h
          refine va_iald hx hb hK hP 11 0 rfl rfl hiv_11 dX7_wise_58 ?_
          refine mk_topi ev_11 ?_
          refine lv_aload_n hx hb dX7_wise_59 rfl (lv_at hl 0 rfl) ?_
          refine lv_iload_n hx hb dX7_wise_60 rfl (lv_at hl 1 rfl) ?_
          obtain ⟨r_12, er_12, h⟩ := mk_bd h
          refine pc_v (As := [.int p1]) (rest := [.int v_11, .ref (a0 0)]) ⟨hx, hb, hml, hown, hts⟩ (c_X7_heard l D cI cZ cO N a0 u0 sd p1 r_12 er_12) (cwV 1 hts k_X7_wise_X7_heard_149 rfl rfl rfl (by decide +kernel) ⟨(Nat.le_of_ble_eq_true rfl), (Nat.le_of_ble_eq_true rfl)⟩) (va_recv hK hP (ci := 7) (q0 := 0) rfl rfl) hP hK rfl hl.1 rfl (Nat.le_of_ble_eq_true rfl) dX7_wise_61 ⟨Nat.zero_le _, Nat.zero_le _⟩ ?_
          obtain ⟨r_13, er_13, h⟩ := mk_bd h
          refine es_vv (As := [.int v_11, .int r_12]) (rest := []) (w' := (wX7 cI cZ a0 r_13 sd)) ⟨hx, hb, hml, hown, hts⟩ (c_X7_layPossible l D cI cZ cO N a0 u0 sd v_11 r_12 H.size r_13 er_13) (cwV 2 hts k_X7_wise_X7_layPossible_197 rfl rfl rfl (by decide +kernel) ⟨(Nat.le_of_ble_eq_true rfl), (Nat.le_of_ble_eq_true rfl)⟩) (va_recv hK hP (ci := 7) (q0 := 0) rfl rfl) hK hP hD hS hA rfl rfl hl.1 rfl (Nat.le_of_ble_eq_true rfl) dX7_wise_64 ⟨Nat.zero_le _, Nat.zero_le _⟩ (fun H locs hP hD hS => ?_)
          refine lv_aload_n hx hb dX7_wise_67 rfl (lv_at hl 0 rfl) ?_
          refine lv_iload_n hx hb dX7_wise_68 rfl (lv_at hl 2 rfl) ?_
          refine lv_aload_n hx hb dX7_wise_69 rfl (lv_at hl 0 rfl) ?_
          refine va_get (D := D) (ci := 7) (v := .ref (a0 11)) (C := RX7) (T := TX7) (N := 33) hx hb hts hiX7 hown hK hP 0 rfl rfl 16 (by decide) (hts (.fieldLink RX7 40 "ClockOnceModel" "now" "[I") (List.mem_of_getElem? (i := 1) rfl)) (fun _ h9 => h9) rfl dX7_wise_70 ?_
          refine lv_iconst (v := (0 : Int32)) hx hb dX7_wise_73 (by decide) ?_
          obtain ⟨v_14, ev_14, hiv_14, h⟩ := mk_rdE h
          refine va_iald hx hb hK hP 11 0 rfl rfl hiv_14 dX7_wise_74 ?_
          refine mk_topi ev_14 ?_
          obtain ⟨r_15, er_15, h⟩ := mk_bd h
          refine pc_v (As := [.int p2, .int v_14]) (rest := []) ⟨hx, hb, hml, hown, hts⟩ (c_X7_wiseBy l D cI cZ cO N a0 r_13 sd p2 v_14 r_15 er_15) (cwV 2 hts k_X7_wise_X7_wiseBy_201 rfl rfl rfl (by decide +kernel) ⟨(Nat.le_of_ble_eq_true rfl), (Nat.le_of_ble_eq_true rfl)⟩) (va_recv hK hP (ci := 7) (q0 := 0) rfl rfl) hP hK rfl hl.1 rfl (Nat.le_of_ble_eq_true rfl) dX7_wise_75 ⟨Nat.zero_le _, Nat.zero_le _⟩ ?_
          exact hret _ _ _ _ _ _ h hP hD hS dX7_wise_78
        · have h := mk_ifn q_10 h
          refine lv_bipush (v := (-3 : Int32)) hx hb dX7_wise_49 (by decide) ?_
          exact hret _ _ _ _ _ _ h hP hD hS dX7_wise_51
    · have h := mk_ifp q_4 h
      refine lv_iconst (v := (-1 : Int32)) hx hb dX7_wise_16 (by decide) ?_
      exact hret _ _ _ _ _ _ h hP hD hS dX7_wise_17

abbrev rm_X7_worlds : Room := { frames := 3, cells := 0, slots := 0, locals := 69 }
set_option maxRecDepth 20000 in
theorem k_X7_worlds_X7_partsOf_175 : GoodIn wsX7_worlds (wsV RX7 175 RX7 yX7_partsOf wsX7_partsOf) := goodIn_r _ [31, 32, 33, 6, 34, 2, 26, 15, 16, 6, 17, 35, 36, 37, 38, 39, 40, 41, 42, 43, 44, 45, 46, 47, 48, 49, 50, 51, 52, 53, 54, 55, 56, 57, 58, 59, 60, 61, 62, 63, 64, 65, 66, 67] rfl (by decide +kernel)
set_option maxRecDepth 20000 in
theorem k_X7_worlds_X7_isSeenBy_165 : GoodIn wsX7_worlds (wsV RX7 165 RX7 yX7_isSeenBy wsX7_isSeenBy) := goodIn_r _ [18, 19, 20, 6, 21, 2, 8, 9, 10, 6, 11, 12, 13, 14, 15, 16, 17, 22, 23, 24, 25, 26, 27, 28, 29, 30, 35, 36, 37, 38, 39, 40, 41, 42, 43, 44, 45, 46, 47, 48, 49, 50, 51, 52, 53, 54, 55, 56, 57, 58, 59, 60, 61, 62, 63, 64, 65, 66, 67] rfl (by decide +kernel)
set_option maxRecDepth 20000 in
theorem k_X7_worlds_X7_isWorld_158 : GoodIn wsX7_worlds (wsV RX7 158 RX7 yX7_isWorld wsX7_isWorld) := goodIn_r _ [8, 9, 10, 6, 11, 12, 13, 14, 15, 16, 6, 17, 35, 36, 37, 38, 39, 40, 41, 42, 43, 44, 45, 46, 47, 48, 49, 50, 51, 52, 53, 54, 55, 56, 57, 58, 59, 60, 61, 62, 63, 64, 65, 66, 67] rfl (by decide +kernel)
set_option maxRecDepth 20000 in
theorem k_X7_worlds_X7_in_73 : GoodIn wsX7_worlds (va_wsS RX7 73 yX7_in wsX7_in) := goodIn_r _ [4, 5, 6, 7] rfl (by decide +kernel)
set_option maxHeartbeats 4000000 in
set_option maxRecDepth 100000 in
theorem c_X7_worlds (l : Launch) (D : va_G) (cI cZ cO : ClassId) (N : Nat) (a0 : Nat → Nat) (u0 : TU) (sd : Int64) (p1 : Int32) (out : Int32) (h : f_X7_worlds N u0 sd p1 = some out) : Met l yX7_worlds wsX7_worlds rm_X7_worlds (va_Pc [.ref (a0 0), .int p1] (fun U => va_P D vwCl (wX7 cI cZ a0 u0 sd) U.heap ∧ va_K D vwCl (tyA cI cZ cO) U)) (vp_Si (fun r => r = out)) 0 0 (fun _ => False) := by
  refine pm_i (own := RX7) (cc := cX7_worlds) (maxL := 5) (by decide) rfl rfl (Nat.le_of_ble_eq_true rfl) ?_
  intro p e s m args below meth c Q H ls hx hb hml hown hts hP hK hl hret
  have hl : lv_has ls 5 [(0, .ref (a0 0)), (1, .int p1)] := hl
  have hiX7 : ∀ w ∈ u_ws RX7 TX7 33, w ∈ wsX7_worlds := mk_seg 35 33 rfl
  have K19 : ∀ (x1 : Int32) (x2 : Int32) (x3 : Int32) (ls : Array Slot), lv_has ls 5 [(0, .ref (a0 0)), (1, .int x1), (2, .int x2), (3, .int x3)] → lq2 (g_X7_worlds_19 N u0 sd x1) N x2 x3 = some out → W p l e rm_X7_worlds s m args below meth c H [] 0 0 Q (F0 m 19 ls []) := by
    intro x1 x2 x3 ls hl h
    refine lq2_W (Wd := fun x2 x3 => ∀ (ls : Array Slot), lv_has ls 5 [(0, .ref (a0 0)), (1, .int x1), (2, .int x2), (3, .int x3)] → W p l e rm_X7_worlds s m args below meth c H [] 0 0 Q (F0 m 19 ls [])) (fun rec19 ih19 x2 x3 h ls hl => ?_) N x2 x3 h ls hl
    have K54 : ∀ (x2 : Int32) (x3 : Int32) (t0 : Int32) (ls : Array Slot), lv_has ls 5 [(0, .ref (a0 0)), (1, .int x1), (2, .int x2), (3, .int x3)] → g_X7_worlds_54 N u0 sd rec19 x1 x2 x3 t0 = some out → W p l e rm_X7_worlds s m args below meth c H [] 0 0 Q (F0 m 54 ls [.int t0]) := by
      intro x2 x3 t0 ls hl h
      unfold g_X7_worlds_54 at h
      refine lv_istore (lv' := [(4, .int t0), (0, .ref (a0 0)), (1, .int x1), (2, .int x2), (3, .int x3)]) hx hb dX7_worlds_54 hl (by decide) rfl (fun ls hl => ?_)
      refine lv_iload_n hx hb dX7_worlds_56 rfl (lv_at hl 3 rfl) ?_
      refine lv_iload hx hb dX7_worlds_57 (lv_at hl 0 rfl) ?_
      refine lv_if_ne (tgt := 66) hx hb dX7_worlds_59 (by decide) (fun q_1 => ?_) (fun q_1 => ?_)
      · have h := mk_ifn q_1 h
        refine lv_iload_n hx hb dX7_worlds_66 rfl (lv_at hl 2 rfl) ?_
        refine lv_iconst (v := (2 : Int32)) hx hb dX7_worlds_67 (by decide) ?_
        refine lv_icmp_ge (tgt := 75) hx hb dX7_worlds_68 (by decide) (fun q_2 => ?_) (fun q_2 => ?_)
        · have h := mk_ifp q_2 h
          refine lv_aload_n hx hb dX7_worlds_75 rfl (lv_at hl 1 rfl) ?_
          refine lv_iload_n hx hb dX7_worlds_76 rfl (lv_at hl 4 rfl) ?_
          obtain ⟨r_3, er_3, h⟩ := mk_bd h
          refine pc_v (As := [.int x3]) (rest := [.int x2]) ⟨hx, hb, hml, hown, hts⟩ (c_X7_partsOf l D cI cZ cO N a0 u0 sd x3 r_3 er_3) (cwV 1 hts k_X7_worlds_X7_partsOf_175 rfl rfl rfl (by decide +kernel) ⟨(Nat.le_of_ble_eq_true rfl), (Nat.le_of_ble_eq_true rfl)⟩) (va_recv hK hP (ci := 7) (q0 := 0) rfl rfl) hP hK rfl hl.1 rfl (Nat.le_of_ble_eq_true rfl) dX7_worlds_77 ⟨Nat.zero_le _, Nat.zero_le _⟩ ?_
          refine lv_iadd hx hb dX7_worlds_80 ?_
          refine lv_istore_n (lv' := [(2, .int (x2 + r_3)), (4, .int t0), (0, .ref (a0 0)), (1, .int x1), (3, .int x3)]) hx hb dX7_worlds_81 rfl hl (by decide) rfl (fun ls hl => ?_)
          refine lv_iinc (v := (x3 + (1 : Int32))) (lv' := [(3, .int (x3 + (1 : Int32))), (2, .int (x2 + r_3)), (4, .int t0), (0, .ref (a0 0)), (1, .int x1)]) hx hb dX7_worlds_82 hl (k := 4) rfl rfl (by decide) rfl (fun ls hl => ?_)
          refine lv_goto (tgt := 19) hx hb dX7_worlds_85 (by decide) ?_
          exact ih19 (x2 + r_3) (x3 + (1 : Int32)) h ls (lv_sub hl [3, 4, 1, 0] rfl)
        · have h := mk_ifn q_2 h
          refine lv_iconst (v := (1 : Int32)) hx hb dX7_worlds_71 (by decide) ?_
          refine lv_goto (tgt := 80) hx hb dX7_worlds_72 (by decide) ?_
          refine lv_iadd hx hb dX7_worlds_80 ?_
          refine lv_istore_n (lv' := [(2, .int (x2 + (1 : Int32))), (4, .int t0), (0, .ref (a0 0)), (1, .int x1), (3, .int x3)]) hx hb dX7_worlds_81 rfl hl (by decide) rfl (fun ls hl => ?_)
          refine lv_iinc (v := (x3 + (1 : Int32))) (lv' := [(3, .int (x3 + (1 : Int32))), (2, .int (x2 + (1 : Int32))), (4, .int t0), (0, .ref (a0 0)), (1, .int x1)]) hx hb dX7_worlds_82 hl (k := 4) rfl rfl (by decide) rfl (fun ls hl => ?_)
          refine lv_goto (tgt := 19) hx hb dX7_worlds_85 (by decide) ?_
          exact ih19 (x2 + (1 : Int32)) (x3 + (1 : Int32)) h ls (lv_sub hl [3, 4, 1, 0] rfl)
      · have h := mk_ifp q_1 h
        refine lv_iconst (v := (0 : Int32)) hx hb dX7_worlds_62 (by decide) ?_
        refine lv_goto (tgt := 80) hx hb dX7_worlds_63 (by decide) ?_
        refine lv_iadd hx hb dX7_worlds_80 ?_
        refine lv_istore_n (lv' := [(2, .int (x2 + (0 : Int32))), (4, .int t0), (0, .ref (a0 0)), (1, .int x1), (3, .int x3)]) hx hb dX7_worlds_81 rfl hl (by decide) rfl (fun ls hl => ?_)
        refine lv_iinc (v := (x3 + (1 : Int32))) (lv' := [(3, .int (x3 + (1 : Int32))), (2, .int (x2 + (0 : Int32))), (4, .int t0), (0, .ref (a0 0)), (1, .int x1)]) hx hb dX7_worlds_82 hl (k := 4) rfl rfl (by decide) rfl (fun ls hl => ?_)
        refine lv_goto (tgt := 19) hx hb dX7_worlds_85 (by decide) ?_
        exact ih19 (x2 + (0 : Int32)) (x3 + (1 : Int32)) h ls (lv_sub hl [3, 4, 1, 0] rfl)
    unfold g_X7_worlds_19 at h
    refine lv_iload_n hx hb dX7_worlds_19 rfl (lv_at hl 3 rfl) ?_
    refine lv_iconst (v := (1 : Int32)) hx hb dX7_worlds_20 (by decide) ?_
    refine lv_aload_n hx hb dX7_worlds_21 rfl (lv_at hl 0 rfl) ?_
    refine va_get (D := D) (ci := 7) (v := .int (u0 0 0)) (C := RX7) (T := TX7) (N := 33) hx hb hts hiX7 hown hK hP 0 rfl rfl 0 (by decide) (hts (.fieldLink RX7 124 "ClockOnceModel" "things" "I") (List.mem_of_getElem? (i := 2) rfl)) (fun _ h9 => h9) rfl dX7_worlds_22 ?_
    refine lv_ishl hx hb dX7_worlds_25 ?_
    refine lv_icmp_ge (tgt := 88) hx hb dX7_worlds_26 (by decide) (fun q_4 => ?_) (fun q_4 => ?_)
    · have h := mk_ifp q_4 h
      refine lv_iload_n hx hb dX7_worlds_88 rfl (lv_at hl 2 rfl) ?_
      exact hret _ _ _ h dX7_worlds_89
    · have h := mk_ifn q_4 h
      refine lv_iload_n hx hb dX7_worlds_29 rfl (lv_at hl 1 rfl) ?_
      refine lv_iconst (v := (2 : Int32)) hx hb dX7_worlds_30 (by decide) ?_
      refine lv_irem hx hb dX7_worlds_31 (by decide) ?_
      refine lv_if_ne (tgt := 43) hx hb dX7_worlds_32 (by decide) (fun q_5 => ?_) (fun q_5 => ?_)
      · have h := mk_ifn q_5 h
        refine lv_aload_n hx hb dX7_worlds_43 rfl (lv_at hl 0 rfl) ?_
        refine lv_iload_n hx hb dX7_worlds_44 rfl (lv_at hl 3 rfl) ?_
        refine lv_aload_n hx hb dX7_worlds_45 rfl (lv_at hl 0 rfl) ?_
        refine va_get (D := D) (ci := 7) (v := .ref (a0 11)) (C := RX7) (T := TX7) (N := 33) hx hb hts hiX7 hown hK hP 0 rfl rfl 16 (by decide) (hts (.fieldLink RX7 40 "ClockOnceModel" "now" "[I") (List.mem_of_getElem? (i := 3) rfl)) (fun _ h9 => h9) rfl dX7_worlds_46 ?_
        refine lv_iconst (v := (0 : Int32)) hx hb dX7_worlds_49 (by decide) ?_
        obtain ⟨v_6, ev_6, hiv_6, h⟩ := mk_rdE h
        refine va_iald hx hb hK hP 11 0 rfl rfl hiv_6 dX7_worlds_50 ?_
        refine mk_topi ev_6 ?_
        obtain ⟨r_7, er_7, h⟩ := mk_bd h
        refine pc_v (As := [.int x3, .int v_6]) (rest := []) ⟨hx, hb, hml, hown, hts⟩ (c_X7_isSeenBy l D cI cZ cO N a0 u0 sd x3 v_6 r_7 er_7) (cwV 2 hts k_X7_worlds_X7_isSeenBy_165 rfl rfl rfl (by decide +kernel) ⟨(Nat.le_of_ble_eq_true rfl), (Nat.le_of_ble_eq_true rfl)⟩) (va_recv hK hP (ci := 7) (q0 := 0) rfl rfl) hP hK rfl hl.1 rfl (Nat.le_of_ble_eq_true rfl) dX7_worlds_51 ⟨Nat.zero_le _, Nat.zero_le _⟩ ?_
        exact K54 x2 x3 r_7 ls (lv_sub hl [0, 1, 2, 3] rfl) h
      · have h := mk_ifp q_5 h
        refine lv_aload_n hx hb dX7_worlds_35 rfl (lv_at hl 0 rfl) ?_
        refine lv_iload_n hx hb dX7_worlds_36 rfl (lv_at hl 3 rfl) ?_
        obtain ⟨r_8, er_8, h⟩ := mk_bd h
        refine pc_v (As := [.int x3]) (rest := []) ⟨hx, hb, hml, hown, hts⟩ (c_X7_isWorld l D cI cZ cO N a0 u0 sd x3 r_8 er_8) (cwV 1 hts k_X7_worlds_X7_isWorld_158 rfl rfl rfl (by decide +kernel) ⟨(Nat.le_of_ble_eq_true rfl), (Nat.le_of_ble_eq_true rfl)⟩) (va_recv hK hP (ci := 7) (q0 := 0) rfl rfl) hP hK rfl hl.1 rfl (Nat.le_of_ble_eq_true rfl) dX7_worlds_37 ⟨Nat.zero_le _, Nat.zero_le _⟩ ?_
        refine lv_goto (tgt := 54) hx hb dX7_worlds_40 (by decide) ?_
        exact K54 x2 x3 r_8 ls (lv_sub hl [0, 1, 2, 3] rfl) h
  unfold f_X7_worlds at h
  refine lv_iload_n hx hb dX7_worlds_0 rfl (lv_at hl 1 rfl) ?_
  refine lv_i2l (v := (p1.toInt64)) hx hb dX7_worlds_1 rfl ?_
  refine lv_lconst (v := (0 : Int64)) hx hb dX7_worlds_2 (by decide) ?_
  refine lv_ldc2 (v := (3 : Int64)) hx hb hown (hts (.constantLong RX7 178 (3)) (List.mem_of_getElem? (i := 1) rfl)) dX7_worlds_3 ?_
  obtain ⟨r_9, er_9, h⟩ := mk_bd h
  refine pc_s (As := [.long (p1.toInt64), .long (0 : Int64), .long (3 : Int64)]) (rest := []) ⟨hx, hb, hml, hown, hts⟩ (c_X7_in l D cI cZ cO N (p1.toInt64) (0 : Int64) (3 : Int64) r_9 er_9) (va_cwS 3 hts k_X7_worlds_X7_in_73 rfl rfl rfl (by decide +kernel) ⟨(Nat.le_of_ble_eq_true rfl), (Nat.le_of_ble_eq_true rfl)⟩) (hP.sub (ws' := []) [] rfl) hK rfl hl.1 rfl (Nat.le_of_ble_eq_true rfl) dX7_worlds_6 ⟨Nat.zero_le _, Nat.zero_le _⟩ ?_
  refine lv_if_ne (tgt := 15) hx hb dX7_worlds_9 (by decide) (fun q_10 => ?_) (fun q_10 => ?_)
  · have h := mk_ifn q_10 h
    refine lv_iconst (v := (0 : Int32)) hx hb dX7_worlds_15 (by decide) ?_
    refine lv_istore_n (lv' := [(2, .int (0 : Int32)), (0, .ref (a0 0)), (1, .int p1)]) hx hb dX7_worlds_16 rfl hl (by decide) rfl (fun ls hl => ?_)
    refine lv_iconst (v := (0 : Int32)) hx hb dX7_worlds_17 (by decide) ?_
    refine lv_istore_n (lv' := [(3, .int (0 : Int32)), (2, .int (0 : Int32)), (0, .ref (a0 0)), (1, .int p1)]) hx hb dX7_worlds_18 rfl hl (by decide) rfl (fun ls hl => ?_)
    exact K19 p1 (0 : Int32) (0 : Int32) ls (lv_sub hl [2, 3, 1, 0] rfl) h
  · have h := mk_ifp q_10 h
    refine lv_bipush (v := (-2 : Int32)) hx hb dX7_worlds_12 (by decide) ?_
    exact hret _ _ _ h dX7_worlds_14

abbrev rm_X7_worth : Room := { frames := 6, cells := 0, slots := 0, locals := 140 }
set_option maxRecDepth 20000 in
theorem k_X7_worth_X7_in_73 : GoodIn wsX7_worth (va_wsS RX7 73 yX7_in wsX7_in) := goodIn_r _ [3, 4, 5, 6] rfl (by decide +kernel)
set_option maxRecDepth 20000 in
theorem k_X7_worth_X7_partsBy_180 : GoodIn wsX7_worth (wsV RX7 180 RX7 yX7_partsBy wsX7_partsBy) := goodIn_r _ [7, 8, 9, 5, 10, 1, 11, 12, 13, 5, 14, 15, 16, 17, 18, 19, 20, 21, 22, 23, 24, 25, 26, 27, 28, 29, 30, 31, 32, 33, 34, 35, 36, 37, 38, 39, 40, 41, 42, 43, 44, 45, 70, 71, 72, 73, 74, 75, 76, 77, 78, 79, 80, 81, 82, 83, 84, 85, 86, 87, 88, 89, 90, 91, 92, 93, 94, 95, 96, 97, 98, 99, 100, 101, 102] rfl (by decide +kernel)
set_option maxRecDepth 20000 in
theorem k_X7_worth_X7_worthBy_204 : GoodIn wsX7_worth (wsV RX7 204 RX7 yX7_worthBy wsX7_worthBy) := goodIn_r _ [46, 47, 48, 5, 49, 2, 50, 1, 51, 52, 53, 5, 54, 11, 12, 13, 14, 15, 16, 17, 18, 19, 20, 21, 22, 23, 24, 25, 26, 27, 28, 29, 30, 31, 32, 33, 34, 35, 36, 37, 38, 39, 40, 41, 55, 56, 57, 58, 59, 60, 61, 62, 42, 43, 44, 45, 63, 64, 65, 66, 70, 71, 72, 73, 74, 75, 76, 77, 78, 79, 80, 81, 82, 83, 84, 85, 86, 87, 88, 89, 90, 91, 92, 93, 94, 95, 96, 97, 98, 99, 100, 101, 102] rfl (by decide +kernel)
set_option maxRecDepth 20000 in
theorem k_X7_worth_X7_common_183 : GoodIn wsX7_worth (va_wsS RX7 183 yX7_common wsX7_common) := goodIn_r _ [67, 68, 5, 69] rfl (by decide +kernel)
set_option maxHeartbeats 4000000 in
set_option maxRecDepth 100000 in
theorem c_X7_worth (l : Launch) (D : va_G) (cI cZ cO : ClassId) (N : Nat) (a0 : Nat → Nat) (u0 : TU) (sd : Int64) (p1 : Int32) (p2 : Int32) (sz : Nat) (out : Int32 × TU) (h : f_X7_worth N u0 sd p1 p2 = some out) : Met l yX7_worth wsX7_worth rm_X7_worth (va_Pc [.ref (a0 0), .int p1, .int p2] (mk_Pe D vwCl (tyA cI cZ cO) (wX7 cI cZ a0 u0 sd) sz)) (va_Qi (fun r u => (r, u) = out) (mk_Be D vwCl (wX7 cI cZ a0 u0 sd) sz (fun q => (wX7 cI cZ a0 q sd))) (va_A (wX7 cI cZ a0 u0 sd) sz)) 0 0 (va_A (wX7 cI cZ a0 u0 sd) sz) := by
  refine em_i (own := RX7) (cc := cX7_worth) (maxL := 6) (by decide) rfl rfl (Nat.le_of_ble_eq_true rfl) ?_
  intro p e s m args below meth c Q A H0 H locs ls hx hb hml hown hts hP hK hD hS hA hl hret
  have hl : lv_has ls 6 [(0, .ref (a0 0)), (1, .int p1), (2, .int p2)] := hl
  have hiX7 : ∀ w ∈ u_ws RX7 TX7 33, w ∈ wsX7_worth := mk_seg 70 33 rfl
  unfold f_X7_worth at h
  refine lv_iload_n hx hb dX7_worth_0 rfl (lv_at hl 1 rfl) ?_
  refine lv_i2l (v := (p1.toInt64)) hx hb dX7_worth_1 rfl ?_
  refine lv_lconst (v := (0 : Int64)) hx hb dX7_worth_2 (by decide) ?_
  refine lv_iconst (v := (1 : Int32)) hx hb dX7_worth_3 (by decide) ?_
  refine lv_aload_n hx hb dX7_worth_4 rfl (lv_at hl 0 rfl) ?_
  refine va_get (D := D) (ci := 7) (v := .int (u0 0 0)) (C := RX7) (T := TX7) (N := 33) hx hb hts hiX7 hown hK hP 0 rfl rfl 0 (by decide) (hts (.fieldLink RX7 124 "ClockOnceModel" "things" "I") (List.mem_of_getElem? (i := 1) rfl)) (fun _ h9 => h9) rfl dX7_worth_5 ?_
  refine lv_ishl hx hb dX7_worth_8 ?_
  refine lv_iconst (v := (1 : Int32)) hx hb dX7_worth_9 (by decide) ?_
  refine lv_isub hx hb dX7_worth_10 ?_
  refine lv_i2l (v := ((((1 : Int32) <<< ((u0 0 0) &&& 31)) - (1 : Int32)).toInt64)) hx hb dX7_worth_11 rfl ?_
  obtain ⟨r_1, er_1, h⟩ := mk_bd h
  refine pc_s (As := [.long (p1.toInt64), .long (0 : Int64), .long ((((1 : Int32) <<< ((u0 0 0) &&& 31)) - (1 : Int32)).toInt64)]) (rest := []) ⟨hx, hb, hml, hown, hts⟩ (c_X7_in l D cI cZ cO N (p1.toInt64) (0 : Int64) ((((1 : Int32) <<< ((u0 0 0) &&& 31)) - (1 : Int32)).toInt64) r_1 er_1) (va_cwS 3 hts k_X7_worth_X7_in_73 rfl rfl rfl (by decide +kernel) ⟨(Nat.le_of_ble_eq_true rfl), (Nat.le_of_ble_eq_true rfl)⟩) (hP.sub (ws' := []) [] rfl) hK rfl hl.1 rfl (Nat.le_of_ble_eq_true rfl) dX7_worth_12 ⟨Nat.zero_le _, Nat.zero_le _⟩ ?_
  refine lv_if_ne (tgt := 21) hx hb dX7_worth_15 (by decide) (fun q_2 => ?_) (fun q_2 => ?_)
  · have h := mk_ifn q_2 h
    refine lv_aload_n hx hb dX7_worth_21 rfl (lv_at hl 0 rfl) ?_
    refine lv_aload_n hx hb dX7_worth_22 rfl (lv_at hl 0 rfl) ?_
    refine va_get (D := D) (ci := 7) (v := .ref (a0 11)) (C := RX7) (T := TX7) (N := 33) hx hb hts hiX7 hown hK hP 0 rfl rfl 16 (by decide) (hts (.fieldLink RX7 40 "ClockOnceModel" "now" "[I") (List.mem_of_getElem? (i := 2) rfl)) (fun _ h9 => h9) rfl dX7_worth_23 ?_
    refine lv_iconst (v := (0 : Int32)) hx hb dX7_worth_26 (by decide) ?_
    obtain ⟨v_3, ev_3, hiv_3, h⟩ := mk_rdE h
    refine va_iald hx hb hK hP 11 0 rfl rfl hiv_3 dX7_worth_27 ?_
    refine mk_topi ev_3 ?_
    refine lv_iconst (v := (0 : Int32)) hx hb dX7_worth_28 (by decide) ?_
    obtain ⟨r_4, er_4, h⟩ := mk_bd h
    refine pc_v (As := [.int v_3, .int (0 : Int32)]) (rest := []) ⟨hx, hb, hml, hown, hts⟩ (c_X7_partsBy l D cI cZ cO N a0 u0 sd v_3 (0 : Int32) r_4 er_4) (cwV 2 hts k_X7_worth_X7_partsBy_180 rfl rfl rfl (by decide +kernel) ⟨(Nat.le_of_ble_eq_true rfl), (Nat.le_of_ble_eq_true rfl)⟩) (va_recv hK hP (ci := 7) (q0 := 0) rfl rfl) hP hK rfl hl.1 rfl (Nat.le_of_ble_eq_true rfl) dX7_worth_29 ⟨Nat.zero_le _, Nat.zero_le _⟩ ?_
    refine lv_istore_n (lv' := [(3, .int r_4), (0, .ref (a0 0)), (1, .int p1), (2, .int p2)]) hx hb dX7_worth_32 rfl hl (by decide) rfl (fun ls hl => ?_)
    refine lv_iload_n hx hb dX7_worth_33 rfl (lv_at hl 0 rfl) ?_
    refine lv_if_ne (tgt := 40) hx hb dX7_worth_34 (by decide) (fun q_5 => ?_) (fun q_5 => ?_)
    · have h := mk_ifn q_5 h
      refine lv_aload_n hx hb dX7_worth_40 rfl (lv_at hl 1 rfl) ?_
      refine lv_iload_n hx hb dX7_worth_41 rfl (lv_at hl 2 rfl) ?_
      obtain ⟨r_6, er_6, h⟩ := mk_bd h
      refine es_vi (As := [.int p1]) (rest := []) (w' := (wX7 cI cZ a0 r_6.2 sd)) ⟨hx, hb, hml, hown, hts⟩ (c_X7_worthBy l D cI cZ cO N a0 u0 sd p1 H.size r_6 er_6) (cwV 1 hts k_X7_worth_X7_worthBy_204 rfl rfl rfl (by decide +kernel) ⟨(Nat.le_of_ble_eq_true rfl), (Nat.le_of_ble_eq_true rfl)⟩) (va_recv hK hP (ci := 7) (q0 := 0) rfl rfl) hK hP hD hS hA rfl rfl hl.1 rfl (Nat.le_of_ble_eq_true rfl) dX7_worth_42 ⟨Nat.zero_le _, Nat.zero_le _⟩ (fun H locs hP hD hS => ?_)
      refine lv_istore (lv' := [(4, .int r_6.1), (3, .int r_4), (0, .ref (a0 0)), (1, .int p1), (2, .int p2)]) hx hb dX7_worth_45 hl (by decide) rfl (fun ls hl => ?_)
      refine lv_iload hx hb dX7_worth_47 (lv_at hl 0 rfl) ?_
      refine lv_iload_n hx hb dX7_worth_49 rfl (lv_at hl 1 rfl) ?_
      obtain ⟨r_7, er_7, h⟩ := mk_bd h
      refine pc_s (As := [.int r_6.1, .int r_4]) (rest := []) ⟨hx, hb, hml, hown, hts⟩ (c_X7_common l D cI cZ cO N r_6.1 r_4 r_7 er_7) (va_cwS 2 hts k_X7_worth_X7_common_183 rfl rfl rfl (by decide +kernel) ⟨(Nat.le_of_ble_eq_true rfl), (Nat.le_of_ble_eq_true rfl)⟩) (hP.sub (ws' := []) [] rfl) hK rfl hl.1 rfl (Nat.le_of_ble_eq_true rfl) dX7_worth_50 ⟨Nat.zero_le _, Nat.zero_le _⟩ ?_
      refine lv_istore (lv' := [(5, .int r_7), (4, .int r_6.1), (3, .int r_4), (0, .ref (a0 0)), (1, .int p1), (2, .int p2)]) hx hb dX7_worth_53 hl (by decide) rfl (fun ls hl => ?_)
      refine lv_iload_n hx hb dX7_worth_55 rfl (lv_at hl 5 rfl) ?_
      refine lv_if_eq (tgt := 67) hx hb dX7_worth_56 (by decide) (fun q_8 => ?_) (fun q_8 => ?_)
      · have h := mk_ifp q_8 h
        refine lv_iload_n hx hb dX7_worth_67 rfl (lv_at hl 2 rfl) ?_
        refine lv_iload hx hb dX7_worth_68 (lv_at hl 0 rfl) ?_
        obtain ⟨hz_9, h⟩ := mk_nzE h
        refine lv_idiv hx hb dX7_worth_70 hz_9 ?_
        exact hret _ _ _ _ _ _ h hP hD hS dX7_worth_71
      · have h := mk_ifn q_8 h
        refine lv_iload hx hb dX7_worth_59 (lv_at hl 1 rfl) ?_
        refine lv_iload hx hb dX7_worth_61 (lv_at hl 0 rfl) ?_
        obtain ⟨hz_10, h⟩ := mk_nzE h
        refine lv_idiv hx hb dX7_worth_63 hz_10 ?_
        refine lv_goto (tgt := 71) hx hb dX7_worth_64 (by decide) ?_
        exact hret _ _ _ _ _ _ h hP hD hS dX7_worth_71
    · have h := mk_ifp q_5 h
      refine lv_bipush (v := (-3 : Int32)) hx hb dX7_worth_37 (by decide) ?_
      exact hret _ _ _ _ _ _ h hP hD hS dX7_worth_39
  · have h := mk_ifp q_2 h
    refine lv_bipush (v := (-2 : Int32)) hx hb dX7_worth_18 (by decide) ?_
    exact hret _ _ _ _ _ _ h hP hD hS dX7_worth_20

abbrev rm_X7_write : Room := { frames := 1, cells := 0, slots := 0, locals := 25 }
set_option maxRecDepth 20000 in
theorem k_X7_write_X7_in_73 : GoodIn wsX7_write (va_wsS RX7 73 yX7_in wsX7_in) := goodIn_r _ [4, 5, 6, 7] rfl (by decide +kernel)
set_option maxHeartbeats 4000000 in
set_option maxRecDepth 100000 in
theorem c_X7_write (l : Launch) (D : va_G) (cI cZ cO : ClassId) (N : Nat) (a0 : Nat → Nat) (u0 : TU) (sd : Int64) (p1 : Int32) (sz : Nat) (out : Int32 × TU) (h : f_X7_write N u0 sd p1 = some out) : Met l yX7_write wsX7_write rm_X7_write (va_Pc [.ref (a0 0), .int p1] (mk_Pe D vwCl (tyA cI cZ cO) (wX7 cI cZ a0 u0 sd) sz)) (va_Qi (fun r u => (r, u) = out) (mk_Be D vwCl (wX7 cI cZ a0 u0 sd) sz (fun q => (wX7 cI cZ a0 q sd))) (va_A (wX7 cI cZ a0 u0 sd) sz)) 0 0 (va_A (wX7 cI cZ a0 u0 sd) sz) := by
  refine em_i (own := RX7) (cc := cX7_write) (maxL := 2) (by decide) rfl rfl (Nat.le_of_ble_eq_true rfl) ?_
  intro p e s m args below meth c Q A H0 H locs ls hx hb hml hown hts hP hK hD hS hA hl hret
  have hl : lv_has ls 2 [(0, .ref (a0 0)), (1, .int p1)] := hl
  have hiX7 : ∀ w ∈ u_ws RX7 TX7 33, w ∈ wsX7_write := mk_seg 8 33 rfl
  unfold f_X7_write at h
  refine lv_iload_n hx hb dX7_write_0 rfl (lv_at hl 1 rfl) ?_
  refine lv_i2l (v := (p1.toInt64)) hx hb dX7_write_1 rfl ?_
  refine lv_lconst (v := (0 : Int64)) hx hb dX7_write_2 (by decide) ?_
  refine lv_ldc2 (v := (255 : Int64)) hx hb hown (hts (.constantLong RX7 71 (255)) (List.mem_of_getElem? (i := 1) rfl)) dX7_write_3 ?_
  obtain ⟨r_1, er_1, h⟩ := mk_bd h
  refine pc_s (As := [.long (p1.toInt64), .long (0 : Int64), .long (255 : Int64)]) (rest := []) ⟨hx, hb, hml, hown, hts⟩ (c_X7_in l D cI cZ cO N (p1.toInt64) (0 : Int64) (255 : Int64) r_1 er_1) (va_cwS 3 hts k_X7_write_X7_in_73 rfl rfl rfl (by decide +kernel) ⟨(Nat.le_of_ble_eq_true rfl), (Nat.le_of_ble_eq_true rfl)⟩) (hP.sub (ws' := []) [] rfl) hK rfl hl.1 rfl (Nat.le_of_ble_eq_true rfl) dX7_write_6 ⟨Nat.zero_le _, Nat.zero_le _⟩ ?_
  refine lv_if_ne (tgt := 15) hx hb dX7_write_9 (by decide) (fun q_2 => ?_) (fun q_2 => ?_)
  · have h := mk_ifn q_2 h
    refine lv_aload_n hx hb dX7_write_15 rfl (lv_at hl 0 rfl) ?_
    refine va_get (D := D) (ci := 7) (v := .int (u0 0 6)) (C := RX7) (T := TX7) (N := 33) hx hb hts hiX7 hown hK hP 0 rfl rfl 18 (by decide) (hts (.fieldLink RX7 77 "ClockOnceModel" "length" "I") (List.mem_of_getElem? (i := 2) rfl)) (fun _ h9 => h9) rfl dX7_write_16 ?_
    refine lv_bipush (v := (48 : Int32)) hx hb dX7_write_19 (by decide) ?_
    refine lv_icmp_ne (tgt := 27) hx hb dX7_write_21 (by decide) (fun q_3 => ?_) (fun q_3 => ?_)
    · have h := mk_ifn q_3 h
      refine lv_aload_n hx hb dX7_write_27 rfl (lv_at hl 0 rfl) ?_
      refine va_get (D := D) (ci := 7) (v := .ref (a0 12)) (C := RX7) (T := TX7) (N := 33) hx hb hts hiX7 hown hK hP 0 rfl rfl 17 (by decide) (hts (.fieldLink RX7 43 "ClockOnceModel" "text" "[I") (List.mem_of_getElem? (i := 3) rfl)) (fun _ h9 => h9) rfl dX7_write_28 ?_
      refine lv_aload_n hx hb dX7_write_31 rfl (lv_at hl 0 rfl) ?_
      refine va_get (D := D) (ci := 7) (v := .int (u0 0 6)) (C := RX7) (T := TX7) (N := 33) hx hb hts hiX7 hown hK hP 0 rfl rfl 18 (by decide) (hts (.fieldLink RX7 77 "ClockOnceModel" "length" "I") (List.mem_of_getElem? (i := 2) rfl)) (fun _ h9 => h9) rfl dX7_write_32 ?_
      refine lv_iload_n hx hb dX7_write_35 rfl (lv_at hl 1 rfl) ?_
      obtain ⟨hx_4, h⟩ := mk_ixE h
      obtain ⟨w_5, ew_5, h⟩ := mk_nmE h
      refine va_iast hx hb hK hP hD hS 12 0 rfl rfl hx_4 dX7_write_36 (fun H locs hP hD hS => ?_)
      have hP : va_P D vwCl (wX7 cI cZ a0 w_5 sd) H := by rw [ew_5]; exact hP
      have hD : va_D A (wX7 cI cZ a0 w_5 sd) := by rw [ew_5]; exact hD
      refine lv_aload_n hx hb dX7_write_37 rfl (lv_at hl 0 rfl) ?_
      refine lv_dup hx hb dX7_write_38 rfl ?_
      refine va_get (D := D) (ci := 7) (v := .int (w_5 0 6)) (C := RX7) (T := TX7) (N := 33) hx hb hts hiX7 hown hK hP 0 rfl rfl 18 (by decide) (hts (.fieldLink RX7 77 "ClockOnceModel" "length" "I") (List.mem_of_getElem? (i := 2) rfl)) (fun _ h9 => h9) rfl dX7_write_39 ?_
      refine lv_iconst (v := (1 : Int32)) hx hb dX7_write_42 (by decide) ?_
      refine lv_iadd hx hb dX7_write_43 ?_
      obtain ⟨w_6, ew_6, h⟩ := mk_nmE h
      refine va_put (D := D) (ci := 7) (v := .int ((w_5 0 6) + (1 : Int32))) (ty := .int) (C := RX7) (T := TX7) (N := 33) hx hb hts hiX7 tyX7 tyX7_ok nmX7 hown hK hP hD hS 0 rfl rfl 18 (by decide) (hts (.fieldLink RX7 77 "ClockOnceModel" "length" "I") (List.mem_of_getElem? (i := 2) rfl)) (fun _ h9 => h9) rfl (by decide +kernel) rfl rfl (Nat.le_of_ble_eq_true rfl) dX7_write_44 (fun H locs hP hD hS => ?_)
      have hP : va_P D vwCl (wX7 cI cZ a0 w_6 sd) H := by rw [ew_6]; exact hP
      have hD : va_D A (wX7 cI cZ a0 w_6 sd) := by rw [ew_6]; exact hD
      refine lv_aload_n hx hb dX7_write_47 rfl (lv_at hl 0 rfl) ?_
      refine va_get (D := D) (ci := 7) (v := .int (w_6 0 6)) (C := RX7) (T := TX7) (N := 33) hx hb hts hiX7 hown hK hP 0 rfl rfl 18 (by decide) (hts (.fieldLink RX7 77 "ClockOnceModel" "length" "I") (List.mem_of_getElem? (i := 2) rfl)) (fun _ h9 => h9) rfl dX7_write_48 ?_
      exact hret _ _ _ _ _ _ h hP hD hS dX7_write_51
    · have h := mk_ifp q_3 h
      refine lv_bipush (v := (-4 : Int32)) hx hb dX7_write_24 (by decide) ?_
      exact hret _ _ _ _ _ _ h hP hD hS dX7_write_26
  · have h := mk_ifp q_2 h
    refine lv_bipush (v := (-2 : Int32)) hx hb dX7_write_12 (by decide) ?_
    exact hret _ _ _ _ _ _ h hP hD hS dX7_write_14

abbrev rm_X7_year : Room := { frames := 4, cells := 0, slots := 0, locals := 93 }
set_option maxRecDepth 20000 in
theorem k_X7_year_X7_has_89 : GoodIn wsX7_year (va_wsS RX7 89 yX7_has wsX7_has) := goodIn_r _ [20, 21, 6, 22] rfl (by decide +kernel)
set_option maxRecDepth 20000 in
theorem k_X7_year_X7_endBy_161 : GoodIn wsX7_year (wsV RX7 161 RX7 yX7_endBy wsX7_endBy) := goodIn_r _ [40, 41, 42, 6, 43, 27, 56, 57, 58, 59, 60, 61, 62, 63, 64, 65, 66, 67, 68, 69, 70, 71, 72, 73, 74, 75, 76, 77, 78, 79, 80, 81, 82, 83, 84, 85, 86, 87, 88] rfl (by decide +kernel)
set_option maxRecDepth 20000 in
theorem k_X7_year_X7_gives_189 : GoodIn wsX7_year (wsV RX7 189 RX7 yX7_gives wsX7_gives) := goodIn_r _ [44, 45, 46, 6, 47, 27, 56, 57, 58, 59, 60, 61, 62, 63, 64, 65, 66, 67, 68, 69, 70, 71, 72, 73, 74, 75, 76, 77, 78, 79, 80, 81, 82, 83, 84, 85, 86, 87, 88] rfl (by decide +kernel)
set_option maxRecDepth 20000 in
theorem k_X7_year_X7_drawn_254 : GoodIn wsX7_year (wsV RX7 254 RX7 yX7_drawn wsX7_drawn) := goodIn_r _ [48, 49, 50, 6, 51, 2, 52, 53, 54, 55, 27, 17, 18, 19, 20, 21, 6, 22, 56, 57, 58, 59, 60, 61, 62, 63, 64, 65, 66, 67, 68, 69, 70, 71, 72, 73, 74, 75, 76, 77, 78, 79, 80, 81, 82, 83, 84, 85, 86, 87, 88] rfl (by decide +kernel)
set_option maxRecDepth 20000 in
theorem k_X7_year_X7_wiseBy_201 : GoodIn wsX7_year (wsV RX7 201 RX7 yX7_wiseBy wsX7_wiseBy) := goodIn_r _ [28, 29, 30, 6, 31, 32, 33, 34, 6, 35, 2, 12, 20, 21, 22, 36, 37, 38, 39, 27, 40, 41, 42, 43, 44, 45, 46, 47, 56, 57, 58, 59, 60, 61, 62, 63, 64, 65, 66, 67, 68, 69, 70, 71, 72, 73, 74, 75, 76, 77, 78, 79, 80, 81, 82, 83, 84, 85, 86, 87, 88] rfl (by decide +kernel)
set_option maxRecDepth 20000 in
theorem k_X7_year_X7_in_73 : GoodIn wsX7_year (va_wsS RX7 73 yX7_in wsX7_in) := goodIn_r _ [4, 5, 6, 7] rfl (by decide +kernel)
set_option maxRecDepth 20000 in
theorem k_X7_year_X7_layStart_231 : GoodIn wsX7_year (wsV RX7 231 RX7 yX7_layStart wsX7_layStart) := goodIn_r _ [8, 9, 10, 6, 11, 12, 2, 13, 14, 15, 6, 16, 17, 18, 19, 20, 21, 22, 23, 24, 25, 26, 27, 56, 57, 58, 59, 60, 61, 62, 63, 64, 65, 66, 67, 68, 69, 70, 71, 72, 73, 74, 75, 76, 77, 78, 79, 80, 81, 82, 83, 84, 85, 86, 87, 88] rfl (by decide +kernel)
set_option maxHeartbeats 4000000 in
set_option maxRecDepth 100000 in
theorem c_X7_year (l : Launch) (D : va_G) (cI cZ cO : ClassId) (N : Nat) (a0 : Nat → Nat) (u0 : TU) (sd : Int64) (p1 : Int32) (sz : Nat) (out : Int32 × TU × Int64) (h : f_X7_year N u0 sd p1 = some out) : Met l yX7_year wsX7_year rm_X7_year (va_Pc [.ref (a0 0), .int p1] (mk_Pe D vwCl (tyA cI cZ cO) (wX7 cI cZ a0 u0 sd) sz)) (va_Qi (fun r u => (r, u) = out) (mk_Be D vwCl (wX7 cI cZ a0 u0 sd) sz (fun q => (wX7 cI cZ a0 q.1 q.2))) (va_A (wX7 cI cZ a0 u0 sd) sz)) 0 0 (va_A (wX7 cI cZ a0 u0 sd) sz) := by
  refine em_i (own := RX7) (cc := cX7_year) (maxL := 6) (by decide) rfl rfl (Nat.le_of_ble_eq_true rfl) ?_
  intro p e s m args below meth c Q A H0 H locs ls hx hb hml hown hts hP hK hD hS hA hl hret
  have hl : lv_has ls 6 [(0, .ref (a0 0)), (1, .int p1)] := hl
  have hiX7 : ∀ w ∈ u_ws RX7 TX7 33, w ∈ wsX7_year := mk_seg 56 33 rfl
  have K52 : ∀ (u0 : TU) (sd : Int64) (x1 : Int32) (x2 : Int32) (x3 : Int32) (H : Heap) (locs : List Loc) (ls : Array Slot), va_P D vwCl (wX7 cI cZ a0 u0 sd) H → va_D A (wX7 cI cZ a0 u0 sd) → va_S A H0 H locs → lv_has ls 6 [(0, .ref (a0 0)), (1, .int x1), (2, .int x2), (3, .int x3)] → lq3 (g_X7_year_52 N u0 x1) N sd x2 x3 = some out → W p l e rm_X7_year s m args below meth c H locs 0 0 Q (F0 m 52 ls []) := by
    intro u0 sd x1 x2 x3 H locs ls hP hD hS hl h
    refine lq3_W (Wd := fun sd x2 x3 => ∀ (H : Heap) (locs : List Loc) (ls : Array Slot), va_P D vwCl (wX7 cI cZ a0 u0 sd) H → va_D A (wX7 cI cZ a0 u0 sd) → va_S A H0 H locs → lv_has ls 6 [(0, .ref (a0 0)), (1, .int x1), (2, .int x2), (3, .int x3)] → W p l e rm_X7_year s m args below meth c H locs 0 0 Q (F0 m 52 ls [])) (fun rec52 ih52 sd x2 x3 h H locs ls hP hD hS hl => ?_) N sd x2 x3 h H locs ls hP hD hS hl
    have K66 : ∀ (sd : Int64) (x2 : Int32) (x3 : Int32) (x4 : Int32) (x5 : Int32) (H : Heap) (locs : List Loc) (ls : Array Slot), va_P D vwCl (wX7 cI cZ a0 u0 sd) H → va_D A (wX7 cI cZ a0 u0 sd) → va_S A H0 H locs → lv_has ls 6 [(0, .ref (a0 0)), (1, .int x1), (2, .int x2), (3, .int x3), (4, .int x4), (5, .int x5)] → lq2 (g_X7_year_66 N u0 sd rec52 x1 x3 x4) N x2 x5 = some out → W p l e rm_X7_year s m args below meth c H locs 0 0 Q (F0 m 66 ls []) := by
      intro sd x2 x3 x4 x5 H locs ls hP hD hS hl h
      refine lq2_W (Wd := fun x2 x5 => ∀ (H : Heap) (locs : List Loc) (ls : Array Slot), va_P D vwCl (wX7 cI cZ a0 u0 sd) H → va_D A (wX7 cI cZ a0 u0 sd) → va_S A H0 H locs → lv_has ls 6 [(0, .ref (a0 0)), (1, .int x1), (2, .int x2), (3, .int x3), (4, .int x4), (5, .int x5)] → W p l e rm_X7_year s m args below meth c H locs 0 0 Q (F0 m 66 ls [])) (fun rec66 ih66 x2 x5 h H locs ls hP hD hS hl => ?_) N x2 x5 h H locs ls hP hD hS hl
      unfold g_X7_year_66 at h
      refine lv_iload hx hb dX7_year_66 (lv_at hl 5 rfl) ?_
      refine lv_aload_n hx hb dX7_year_68 rfl (lv_at hl 0 rfl) ?_
      refine va_get (D := D) (ci := 7) (v := .int (u0 0 0)) (C := RX7) (T := TX7) (N := 33) hx hb hts hiX7 hown hK hP 0 rfl rfl 0 (by decide) (hts (.fieldLink RX7 124 "ClockOnceModel" "things" "I") (List.mem_of_getElem? (i := 2) rfl)) (fun _ h9 => h9) rfl dX7_year_69 ?_
      refine lv_icmp_ge (tgt := 111) hx hb dX7_year_72 (by decide) (fun q_1 => ?_) (fun q_1 => ?_)
      · have h := mk_ifp q_1 h
        refine lv_iinc (v := (x3 + (1 : Int32))) (lv' := [(3, .int (x3 + (1 : Int32))), (0, .ref (a0 0)), (1, .int x1), (2, .int x2), (4, .int x4), (5, .int x5)]) hx hb dX7_year_111 hl (k := 3) rfl rfl (by decide) rfl (fun ls hl => ?_)
        refine lv_goto (tgt := 52) hx hb dX7_year_114 (by decide) ?_
        exact ih52 sd x2 (x3 + (1 : Int32)) h H locs ls hP hD hS (lv_sub hl [1, 2, 3, 0] rfl)
      · have h := mk_ifn q_1 h
        refine lv_iload_n hx hb dX7_year_75 rfl (lv_at hl 2 rfl) ?_
        refine lv_aload_n hx hb dX7_year_76 rfl (lv_at hl 0 rfl) ?_
        refine lv_iload hx hb dX7_year_77 (lv_at hl 5 rfl) ?_
        refine lv_aload_n hx hb dX7_year_79 rfl (lv_at hl 0 rfl) ?_
        refine lv_iload hx hb dX7_year_80 (lv_at hl 5 rfl) ?_
        refine lv_iload hx hb dX7_year_82 (lv_at hl 4 rfl) ?_
        refine lv_iload hx hb dX7_year_84 (lv_at hl 5 rfl) ?_
        obtain ⟨r_2, er_2, h⟩ := mk_bd h
        refine pc_s (As := [.int x4, .int x5]) (rest := [.int x5, .ref (a0 0), .int x5, .ref (a0 0), .int x2]) ⟨hx, hb, hml, hown, hts⟩ (c_X7_has l D cI cZ cO N x4 x5 r_2 er_2) (va_cwS 2 hts k_X7_year_X7_has_89 rfl rfl rfl (by decide +kernel) ⟨(Nat.le_of_ble_eq_true rfl), (Nat.le_of_ble_eq_true rfl)⟩) (hP.sub (ws' := []) [] rfl) hK rfl hl.1 rfl (Nat.le_of_ble_eq_true rfl) dX7_year_86 ⟨Nat.zero_le _, Nat.zero_le _⟩ ?_
        obtain ⟨r_3, er_3, h⟩ := mk_bd h
        refine pc_v (As := [.int x5, .int r_2]) (rest := [.int x5, .ref (a0 0), .int x2]) ⟨hx, hb, hml, hown, hts⟩ (c_X7_endBy l D cI cZ cO N a0 u0 sd x5 r_2 r_3 er_3) (cwV 2 hts k_X7_year_X7_endBy_161 rfl rfl rfl (by decide +kernel) ⟨(Nat.le_of_ble_eq_true rfl), (Nat.le_of_ble_eq_true rfl)⟩) (va_recv hK hP (ci := 7) (q0 := 0) rfl rfl) hP hK rfl hl.1 rfl (Nat.le_of_ble_eq_true rfl) dX7_year_89 ⟨Nat.zero_le _, Nat.zero_le _⟩ ?_
        refine lv_iconst (v := (0 : Int32)) hx hb dX7_year_92 (by decide) ?_
        refine lv_aload_n hx hb dX7_year_93 rfl (lv_at hl 0 rfl) ?_
        refine va_get (D := D) (ci := 7) (v := .ref (a0 17)) (C := RX7) (T := TX7) (N := 33) hx hb hts hiX7 hown hK hP 0 rfl rfl 30 (by decide) (hts (.fieldLink RX7 58 "ClockOnceModel" "days" "[I") (List.mem_of_getElem? (i := 3) rfl)) (fun _ h9 => h9) rfl dX7_year_94 ?_
        refine lv_iload hx hb dX7_year_97 (lv_at hl 5 rfl) ?_
        obtain ⟨v_4, ev_4, hiv_4, h⟩ := mk_rdE h
        refine va_iald hx hb hK hP 17 0 rfl rfl hiv_4 dX7_year_99 ?_
        refine mk_topi ev_4 ?_
        obtain ⟨r_5, er_5, h⟩ := mk_bd h
        refine pc_v (As := [.int x5, .int r_3, .int (0 : Int32), .int v_4]) (rest := [.int x2]) ⟨hx, hb, hml, hown, hts⟩ (c_X7_gives l D cI cZ cO N a0 u0 sd x5 r_3 (0 : Int32) v_4 r_5 er_5) (cwV 4 hts k_X7_year_X7_gives_189 rfl rfl rfl (by decide +kernel) ⟨(Nat.le_of_ble_eq_true rfl), (Nat.le_of_ble_eq_true rfl)⟩) (va_recv hK hP (ci := 7) (q0 := 0) rfl rfl) hP hK rfl hl.1 rfl (Nat.le_of_ble_eq_true rfl) dX7_year_100 ⟨Nat.zero_le _, Nat.zero_le _⟩ ?_
        refine lv_iadd hx hb dX7_year_103 ?_
        refine lv_istore_n (lv' := [(2, .int (x2 + r_5)), (0, .ref (a0 0)), (1, .int x1), (3, .int x3), (4, .int x4), (5, .int x5)]) hx hb dX7_year_104 rfl hl (by decide) rfl (fun ls hl => ?_)
        refine lv_iinc (v := (x5 + (1 : Int32))) (lv' := [(5, .int (x5 + (1 : Int32))), (2, .int (x2 + r_5)), (0, .ref (a0 0)), (1, .int x1), (3, .int x3), (4, .int x4)]) hx hb dX7_year_105 hl (k := 5) rfl rfl (by decide) rfl (fun ls hl => ?_)
        refine lv_goto (tgt := 66) hx hb dX7_year_108 (by decide) ?_
        exact ih66 (x2 + r_5) (x5 + (1 : Int32)) h H locs ls hP hD hS (lv_sub hl [2, 3, 1, 4, 5, 0] rfl)
    unfold g_X7_year_52 at h
    refine lv_iload_n hx hb dX7_year_52 rfl (lv_at hl 3 rfl) ?_
    refine lv_iload_n hx hb dX7_year_53 rfl (lv_at hl 1 rfl) ?_
    refine lv_icmp_ge (tgt := 117) hx hb dX7_year_54 (by decide) (fun q_6 => ?_) (fun q_6 => ?_)
    · have h := mk_ifp q_6 h
      refine lv_iload_n hx hb dX7_year_117 rfl (lv_at hl 2 rfl) ?_
      exact hret _ _ _ _ _ _ h hP hD hS dX7_year_118
    · have h := mk_ifn q_6 h
      refine lv_aload_n hx hb dX7_year_57 rfl (lv_at hl 0 rfl) ?_
      obtain ⟨r_7, er_7, h⟩ := mk_bd h
      refine es_vi (As := []) (rest := []) (w' := (wX7 cI cZ a0 u0 r_7.2)) ⟨hx, hb, hml, hown, hts⟩ (c_X7_drawn l D cI cZ cO N a0 u0 sd H.size r_7 er_7) (cwV 0 hts k_X7_year_X7_drawn_254 rfl rfl rfl (by decide +kernel) ⟨(Nat.le_of_ble_eq_true rfl), (Nat.le_of_ble_eq_true rfl)⟩) (va_recv hK hP (ci := 7) (q0 := 0) rfl rfl) hK hP hD hS hA rfl rfl hl.1 rfl (Nat.le_of_ble_eq_true rfl) dX7_year_58 ⟨Nat.zero_le _, Nat.zero_le _⟩ (fun H locs hP hD hS => ?_)
      refine lv_istore (lv' := [(4, .int r_7.1), (0, .ref (a0 0)), (1, .int x1), (2, .int x2), (3, .int x3)]) hx hb dX7_year_61 hl (by decide) rfl (fun ls hl => ?_)
      refine lv_iconst (v := (0 : Int32)) hx hb dX7_year_63 (by decide) ?_
      refine lv_istore (lv' := [(5, .int (0 : Int32)), (4, .int r_7.1), (0, .ref (a0 0)), (1, .int x1), (2, .int x2), (3, .int x3)]) hx hb dX7_year_64 hl (by decide) rfl (fun ls hl => ?_)
      exact K66 r_7.2 x2 x3 r_7.1 (0 : Int32) H locs ls hP hD hS (lv_sub hl [2, 3, 4, 5, 1, 0] rfl) h
  have K22 : ∀ (u0 : TU) (sd : Int64) (x1 : Int32) (x2 : Int32) (H : Heap) (locs : List Loc) (ls : Array Slot), va_P D vwCl (wX7 cI cZ a0 u0 sd) H → va_D A (wX7 cI cZ a0 u0 sd) → va_S A H0 H locs → lv_has ls 6 [(0, .ref (a0 0)), (1, .int x1), (2, .int x2)] → lq2 (g_X7_year_22 N sd x1) N u0 x2 = some out → W p l e rm_X7_year s m args below meth c H locs 0 0 Q (F0 m 22 ls []) := by
    intro u0 sd x1 x2 H locs ls hP hD hS hl h
    refine lq2_W (Wd := fun u0 x2 => ∀ (H : Heap) (locs : List Loc) (ls : Array Slot), va_P D vwCl (wX7 cI cZ a0 u0 sd) H → va_D A (wX7 cI cZ a0 u0 sd) → va_S A H0 H locs → lv_has ls 6 [(0, .ref (a0 0)), (1, .int x1), (2, .int x2)] → W p l e rm_X7_year s m args below meth c H locs 0 0 Q (F0 m 22 ls [])) (fun rec22 ih22 u0 x2 h H locs ls hP hD hS hl => ?_) N u0 x2 h H locs ls hP hD hS hl
    unfold g_X7_year_22 at h
    refine lv_iload_n hx hb dX7_year_22 rfl (lv_at hl 2 rfl) ?_
    refine lv_aload_n hx hb dX7_year_23 rfl (lv_at hl 0 rfl) ?_
    refine va_get (D := D) (ci := 7) (v := .int (u0 0 0)) (C := RX7) (T := TX7) (N := 33) hx hb hts hiX7 hown hK hP 0 rfl rfl 0 (by decide) (hts (.fieldLink RX7 124 "ClockOnceModel" "things" "I") (List.mem_of_getElem? (i := 2) rfl)) (fun _ h9 => h9) rfl dX7_year_24 ?_
    refine lv_icmp_ge (tgt := 48) hx hb dX7_year_27 (by decide) (fun q_8 => ?_) (fun q_8 => ?_)
    · have h := mk_ifp q_8 h
      refine lv_iconst (v := (0 : Int32)) hx hb dX7_year_48 (by decide) ?_
      refine lv_istore_n (lv' := [(2, .int (0 : Int32)), (0, .ref (a0 0)), (1, .int x1)]) hx hb dX7_year_49 rfl hl (by decide) rfl (fun ls hl => ?_)
      refine lv_iconst (v := (0 : Int32)) hx hb dX7_year_50 (by decide) ?_
      refine lv_istore_n (lv' := [(3, .int (0 : Int32)), (2, .int (0 : Int32)), (0, .ref (a0 0)), (1, .int x1)]) hx hb dX7_year_51 rfl hl (by decide) rfl (fun ls hl => ?_)
      exact K52 u0 sd x1 (0 : Int32) (0 : Int32) H locs ls hP hD hS (lv_sub hl [2, 3, 1, 0] rfl) h
    · have h := mk_ifn q_8 h
      refine lv_aload_n hx hb dX7_year_30 rfl (lv_at hl 0 rfl) ?_
      refine va_get (D := D) (ci := 7) (v := .ref (a0 17)) (C := RX7) (T := TX7) (N := 33) hx hb hts hiX7 hown hK hP 0 rfl rfl 30 (by decide) (hts (.fieldLink RX7 58 "ClockOnceModel" "days" "[I") (List.mem_of_getElem? (i := 3) rfl)) (fun _ h9 => h9) rfl dX7_year_31 ?_
      refine lv_iload_n hx hb dX7_year_34 rfl (lv_at hl 2 rfl) ?_
      refine lv_aload_n hx hb dX7_year_35 rfl (lv_at hl 0 rfl) ?_
      refine lv_iload_n hx hb dX7_year_36 rfl (lv_at hl 2 rfl) ?_
      refine lv_iconst (v := (0 : Int32)) hx hb dX7_year_37 (by decide) ?_
      obtain ⟨r_9, er_9, h⟩ := mk_bd h
      refine pc_v (As := [.int x2, .int (0 : Int32)]) (rest := [.int x2, .ref (a0 17)]) ⟨hx, hb, hml, hown, hts⟩ (c_X7_wiseBy l D cI cZ cO N a0 u0 sd x2 (0 : Int32) r_9 er_9) (cwV 2 hts k_X7_year_X7_wiseBy_201 rfl rfl rfl (by decide +kernel) ⟨(Nat.le_of_ble_eq_true rfl), (Nat.le_of_ble_eq_true rfl)⟩) (va_recv hK hP (ci := 7) (q0 := 0) rfl rfl) hP hK rfl hl.1 rfl (Nat.le_of_ble_eq_true rfl) dX7_year_38 ⟨Nat.zero_le _, Nat.zero_le _⟩ ?_
      obtain ⟨hx_10, h⟩ := mk_ixE h
      obtain ⟨w_11, ew_11, h⟩ := mk_nmE h
      refine va_iast hx hb hK hP hD hS 17 0 rfl rfl hx_10 dX7_year_41 (fun H locs hP hD hS => ?_)
      have hP : va_P D vwCl (wX7 cI cZ a0 w_11 sd) H := by rw [ew_11]; exact hP
      have hD : va_D A (wX7 cI cZ a0 w_11 sd) := by rw [ew_11]; exact hD
      refine lv_iinc (v := (x2 + (1 : Int32))) (lv' := [(2, .int (x2 + (1 : Int32))), (0, .ref (a0 0)), (1, .int x1)]) hx hb dX7_year_42 hl (k := 2) rfl rfl (by decide) rfl (fun ls hl => ?_)
      refine lv_goto (tgt := 22) hx hb dX7_year_45 (by decide) ?_
      exact ih22 w_11 (x2 + (1 : Int32)) h H locs ls hP hD hS (lv_sub hl [1, 2, 0] rfl)
  unfold f_X7_year at h
  refine lv_iload_n hx hb dX7_year_0 rfl (lv_at hl 1 rfl) ?_
  refine lv_i2l (v := (p1.toInt64)) hx hb dX7_year_1 rfl ?_
  refine lv_lconst (v := (1 : Int64)) hx hb dX7_year_2 (by decide) ?_
  refine lv_ldc2 (v := (30 : Int64)) hx hb hown (hts (.constantLong RX7 252 (30)) (List.mem_of_getElem? (i := 1) rfl)) dX7_year_3 ?_
  obtain ⟨r_12, er_12, h⟩ := mk_bd h
  refine pc_s (As := [.long (p1.toInt64), .long (1 : Int64), .long (30 : Int64)]) (rest := []) ⟨hx, hb, hml, hown, hts⟩ (c_X7_in l D cI cZ cO N (p1.toInt64) (1 : Int64) (30 : Int64) r_12 er_12) (va_cwS 3 hts k_X7_year_X7_in_73 rfl rfl rfl (by decide +kernel) ⟨(Nat.le_of_ble_eq_true rfl), (Nat.le_of_ble_eq_true rfl)⟩) (hP.sub (ws' := []) [] rfl) hK rfl hl.1 rfl (Nat.le_of_ble_eq_true rfl) dX7_year_6 ⟨Nat.zero_le _, Nat.zero_le _⟩ ?_
  refine lv_if_ne (tgt := 15) hx hb dX7_year_9 (by decide) (fun q_13 => ?_) (fun q_13 => ?_)
  · have h := mk_ifn q_13 h
    refine lv_aload_n hx hb dX7_year_15 rfl (lv_at hl 0 rfl) ?_
    refine lv_iconst (v := (0 : Int32)) hx hb dX7_year_16 (by decide) ?_
    obtain ⟨r_14, er_14, h⟩ := mk_bd h
    refine es_vv (As := [.int (0 : Int32)]) (rest := []) (w' := (wX7 cI cZ a0 r_14 sd)) ⟨hx, hb, hml, hown, hts⟩ (c_X7_layStart l D cI cZ cO N a0 u0 sd (0 : Int32) H.size r_14 er_14) (cwV 1 hts k_X7_year_X7_layStart_231 rfl rfl rfl (by decide +kernel) ⟨(Nat.le_of_ble_eq_true rfl), (Nat.le_of_ble_eq_true rfl)⟩) (va_recv hK hP (ci := 7) (q0 := 0) rfl rfl) hK hP hD hS hA rfl rfl hl.1 rfl (Nat.le_of_ble_eq_true rfl) dX7_year_17 ⟨Nat.zero_le _, Nat.zero_le _⟩ (fun H locs hP hD hS => ?_)
    refine lv_iconst (v := (0 : Int32)) hx hb dX7_year_20 (by decide) ?_
    refine lv_istore_n (lv' := [(2, .int (0 : Int32)), (0, .ref (a0 0)), (1, .int p1)]) hx hb dX7_year_21 rfl hl (by decide) rfl (fun ls hl => ?_)
    exact K22 r_14 sd p1 (0 : Int32) H locs ls hP hD hS (lv_sub hl [1, 2, 0] rfl) h
  · have h := mk_ifp q_13 h
    refine lv_bipush (v := (-2 : Int32)) hx hb dX7_year_12 (by decide) ?_
    exact hret _ _ _ _ _ _ h hP hD hS dX7_year_14
