theorem dJ6_bitCount_0f7a4_0 : decode cJ6_bitCount_0f7a4 0 = .ok (.iload_n 0, 1) := by decide +kernel
theorem dJ6_bitCount_0f7a4_1 : decode cJ6_bitCount_0f7a4 1 = .ok (.iload_n 0, 1) := by decide +kernel
theorem dJ6_bitCount_0f7a4_2 : decode cJ6_bitCount_0f7a4 2 = .ok (.iconst 1, 1) := by decide +kernel
theorem dJ6_bitCount_0f7a4_3 : decode cJ6_bitCount_0f7a4 3 = .ok (.iushr, 1) := by decide +kernel
theorem dJ6_bitCount_0f7a4_4 : decode cJ6_bitCount_0f7a4 4 = .ok (.ldc_w 265, 3) := by decide +kernel
theorem dJ6_bitCount_0f7a4_7 : decode cJ6_bitCount_0f7a4 7 = .ok (.iand, 1) := by decide +kernel
theorem dJ6_bitCount_0f7a4_8 : decode cJ6_bitCount_0f7a4 8 = .ok (.isub, 1) := by decide +kernel
theorem dJ6_bitCount_0f7a4_9 : decode cJ6_bitCount_0f7a4 9 = .ok (.istore_n 0, 1) := by decide +kernel
theorem dJ6_bitCount_0f7a4_10 : decode cJ6_bitCount_0f7a4 10 = .ok (.iload_n 0, 1) := by decide +kernel
theorem dJ6_bitCount_0f7a4_11 : decode cJ6_bitCount_0f7a4 11 = .ok (.ldc_w 266, 3) := by decide +kernel
theorem dJ6_bitCount_0f7a4_14 : decode cJ6_bitCount_0f7a4 14 = .ok (.iand, 1) := by decide +kernel
theorem dJ6_bitCount_0f7a4_15 : decode cJ6_bitCount_0f7a4 15 = .ok (.iload_n 0, 1) := by decide +kernel
theorem dJ6_bitCount_0f7a4_16 : decode cJ6_bitCount_0f7a4 16 = .ok (.iconst 2, 1) := by decide +kernel
theorem dJ6_bitCount_0f7a4_17 : decode cJ6_bitCount_0f7a4 17 = .ok (.iushr, 1) := by decide +kernel
theorem dJ6_bitCount_0f7a4_18 : decode cJ6_bitCount_0f7a4 18 = .ok (.ldc_w 266, 3) := by decide +kernel
theorem dJ6_bitCount_0f7a4_21 : decode cJ6_bitCount_0f7a4 21 = .ok (.iand, 1) := by decide +kernel
theorem dJ6_bitCount_0f7a4_22 : decode cJ6_bitCount_0f7a4 22 = .ok (.iadd, 1) := by decide +kernel
theorem dJ6_bitCount_0f7a4_23 : decode cJ6_bitCount_0f7a4 23 = .ok (.istore_n 0, 1) := by decide +kernel
theorem dJ6_bitCount_0f7a4_24 : decode cJ6_bitCount_0f7a4 24 = .ok (.iload_n 0, 1) := by decide +kernel
theorem dJ6_bitCount_0f7a4_25 : decode cJ6_bitCount_0f7a4 25 = .ok (.iload_n 0, 1) := by decide +kernel
theorem dJ6_bitCount_0f7a4_26 : decode cJ6_bitCount_0f7a4 26 = .ok (.iconst 4, 1) := by decide +kernel
theorem dJ6_bitCount_0f7a4_27 : decode cJ6_bitCount_0f7a4 27 = .ok (.iushr, 1) := by decide +kernel
theorem dJ6_bitCount_0f7a4_28 : decode cJ6_bitCount_0f7a4 28 = .ok (.iadd, 1) := by decide +kernel
theorem dJ6_bitCount_0f7a4_29 : decode cJ6_bitCount_0f7a4 29 = .ok (.ldc_w 267, 3) := by decide +kernel
theorem dJ6_bitCount_0f7a4_32 : decode cJ6_bitCount_0f7a4 32 = .ok (.iand, 1) := by decide +kernel
theorem dJ6_bitCount_0f7a4_33 : decode cJ6_bitCount_0f7a4 33 = .ok (.istore_n 0, 1) := by decide +kernel
theorem dJ6_bitCount_0f7a4_34 : decode cJ6_bitCount_0f7a4 34 = .ok (.iload_n 0, 1) := by decide +kernel
theorem dJ6_bitCount_0f7a4_35 : decode cJ6_bitCount_0f7a4 35 = .ok (.iload_n 0, 1) := by decide +kernel
theorem dJ6_bitCount_0f7a4_36 : decode cJ6_bitCount_0f7a4 36 = .ok (.bipush 8, 2) := by decide +kernel
theorem dJ6_bitCount_0f7a4_38 : decode cJ6_bitCount_0f7a4 38 = .ok (.iushr, 1) := by decide +kernel
theorem dJ6_bitCount_0f7a4_39 : decode cJ6_bitCount_0f7a4 39 = .ok (.iadd, 1) := by decide +kernel
theorem dJ6_bitCount_0f7a4_40 : decode cJ6_bitCount_0f7a4 40 = .ok (.istore_n 0, 1) := by decide +kernel
theorem dJ6_bitCount_0f7a4_41 : decode cJ6_bitCount_0f7a4 41 = .ok (.iload_n 0, 1) := by decide +kernel
theorem dJ6_bitCount_0f7a4_42 : decode cJ6_bitCount_0f7a4 42 = .ok (.iload_n 0, 1) := by decide +kernel
theorem dJ6_bitCount_0f7a4_43 : decode cJ6_bitCount_0f7a4 43 = .ok (.bipush 16, 2) := by decide +kernel
theorem dJ6_bitCount_0f7a4_45 : decode cJ6_bitCount_0f7a4 45 = .ok (.iushr, 1) := by decide +kernel
theorem dJ6_bitCount_0f7a4_46 : decode cJ6_bitCount_0f7a4 46 = .ok (.iadd, 1) := by decide +kernel
theorem dJ6_bitCount_0f7a4_47 : decode cJ6_bitCount_0f7a4 47 = .ok (.istore_n 0, 1) := by decide +kernel
theorem dJ6_bitCount_0f7a4_48 : decode cJ6_bitCount_0f7a4 48 = .ok (.iload_n 0, 1) := by decide +kernel
theorem dJ6_bitCount_0f7a4_49 : decode cJ6_bitCount_0f7a4 49 = .ok (.bipush 63, 2) := by decide +kernel
theorem dJ6_bitCount_0f7a4_51 : decode cJ6_bitCount_0f7a4 51 = .ok (.iand, 1) := by decide +kernel
theorem dJ6_bitCount_0f7a4_52 : decode cJ6_bitCount_0f7a4 52 = .ok (.ireturn, 1) := by decide +kernel
theorem dX5_isLate_0 : decode cX5_isLate 0 = .ok (.iload_n 1, 1) := by decide +kernel
theorem dX5_isLate_1 : decode cX5_isLate 1 = .ok (.iload_n 2, 1) := by decide +kernel
theorem dX5_isLate_2 : decode cX5_isLate 2 = .ok (.ishr, 1) := by decide +kernel
theorem dX5_isLate_3 : decode cX5_isLate 3 = .ok (.iconst 1, 1) := by decide +kernel
theorem dX5_isLate_4 : decode cX5_isLate 4 = .ok (.iand, 1) := by decide +kernel
theorem dX5_isLate_5 : decode cX5_isLate 5 = .ok (.ifCond .eq 7, 3) := by decide +kernel
theorem dX5_isLate_8 : decode cX5_isLate 8 = .ok (.iconst 1, 1) := by decide +kernel
theorem dX5_isLate_9 : decode cX5_isLate 9 = .ok (.goto 4, 3) := by decide +kernel
theorem dX5_isLate_12 : decode cX5_isLate 12 = .ok (.iconst 0, 1) := by decide +kernel
theorem dX5_isLate_13 : decode cX5_isLate 13 = .ok (.ireturn, 1) := by decide +kernel
theorem dX5_endIn_0 : decode cX5_endIn 0 = .ok (.aload_n 0, 1) := by decide +kernel
theorem dX5_endIn_1 : decode cX5_endIn 1 = .ok (.iload_n 1, 1) := by decide +kernel
theorem dX5_endIn_2 : decode cX5_endIn 2 = .ok (.iload_n 2, 1) := by decide +kernel
theorem dX5_endIn_3 : decode cX5_endIn 3 = .ok (.invokevirtual 83, 3) := by decide +kernel
theorem dX5_endIn_6 : decode cX5_endIn 6 = .ok (.ifCond .eq 12, 3) := by decide +kernel
theorem dX5_endIn_9 : decode cX5_endIn 9 = .ok (.aload_n 0, 1) := by decide +kernel
theorem dX5_endIn_10 : decode cX5_endIn 10 = .ok (.getfield 15, 3) := by decide +kernel
theorem dX5_endIn_13 : decode cX5_endIn 13 = .ok (.iload_n 2, 1) := by decide +kernel
theorem dX5_endIn_14 : decode cX5_endIn 14 = .ok (.iaload, 1) := by decide +kernel
theorem dX5_endIn_15 : decode cX5_endIn 15 = .ok (.goto 9, 3) := by decide +kernel
theorem dX5_endIn_18 : decode cX5_endIn 18 = .ok (.aload_n 0, 1) := by decide +kernel
theorem dX5_endIn_19 : decode cX5_endIn 19 = .ok (.getfield 9, 3) := by decide +kernel
theorem dX5_endIn_22 : decode cX5_endIn 22 = .ok (.iload_n 2, 1) := by decide +kernel
theorem dX5_endIn_23 : decode cX5_endIn 23 = .ok (.iaload, 1) := by decide +kernel
theorem dX5_endIn_24 : decode cX5_endIn 24 = .ok (.ireturn, 1) := by decide +kernel
theorem dX5_trueEnd_0 : decode cX5_trueEnd 0 = .ok (.aload_n 0, 1) := by decide +kernel
theorem dX5_trueEnd_1 : decode cX5_trueEnd 1 = .ok (.aload_n 0, 1) := by decide +kernel
theorem dX5_trueEnd_2 : decode cX5_trueEnd 2 = .ok (.getfield 28, 3) := by decide +kernel
theorem dX5_trueEnd_5 : decode cX5_trueEnd 5 = .ok (.iload_n 1, 1) := by decide +kernel
theorem dX5_trueEnd_6 : decode cX5_trueEnd 6 = .ok (.invokevirtual 86, 3) := by decide +kernel
theorem dX5_trueEnd_9 : decode cX5_trueEnd 9 = .ok (.ireturn, 1) := by decide +kernel
theorem dX5_thingsEndedOn_0 : decode cX5_thingsEndedOn 0 = .ok (.iconst 0, 1) := by decide +kernel
theorem dX5_thingsEndedOn_1 : decode cX5_thingsEndedOn 1 = .ok (.istore_n 2, 1) := by decide +kernel
theorem dX5_thingsEndedOn_2 : decode cX5_thingsEndedOn 2 = .ok (.iconst 0, 1) := by decide +kernel
theorem dX5_thingsEndedOn_3 : decode cX5_thingsEndedOn 3 = .ok (.istore_n 3, 1) := by decide +kernel
theorem dX5_thingsEndedOn_4 : decode cX5_thingsEndedOn 4 = .ok (.iload_n 3, 1) := by decide +kernel
theorem dX5_thingsEndedOn_5 : decode cX5_thingsEndedOn 5 = .ok (.aload_n 0, 1) := by decide +kernel
theorem dX5_thingsEndedOn_6 : decode cX5_thingsEndedOn 6 = .ok (.getfield 24, 3) := by decide +kernel
theorem dX5_thingsEndedOn_9 : decode cX5_thingsEndedOn 9 = .ok (.if_icmp .ge 24, 3) := by decide +kernel
theorem dX5_thingsEndedOn_12 : decode cX5_thingsEndedOn 12 = .ok (.aload_n 0, 1) := by decide +kernel
theorem dX5_thingsEndedOn_13 : decode cX5_thingsEndedOn 13 = .ok (.iload_n 3, 1) := by decide +kernel
theorem dX5_thingsEndedOn_14 : decode cX5_thingsEndedOn 14 = .ok (.invokevirtual 90, 3) := by decide +kernel
theorem dX5_thingsEndedOn_17 : decode cX5_thingsEndedOn 17 = .ok (.iload_n 1, 1) := by decide +kernel
theorem dX5_thingsEndedOn_18 : decode cX5_thingsEndedOn 18 = .ok (.if_icmp .gt 9, 3) := by decide +kernel
theorem dX5_thingsEndedOn_21 : decode cX5_thingsEndedOn 21 = .ok (.iload_n 2, 1) := by decide +kernel
theorem dX5_thingsEndedOn_22 : decode cX5_thingsEndedOn 22 = .ok (.iconst 1, 1) := by decide +kernel
theorem dX5_thingsEndedOn_23 : decode cX5_thingsEndedOn 23 = .ok (.iload_n 3, 1) := by decide +kernel
theorem dX5_thingsEndedOn_24 : decode cX5_thingsEndedOn 24 = .ok (.ishl, 1) := by decide +kernel
theorem dX5_thingsEndedOn_25 : decode cX5_thingsEndedOn 25 = .ok (.ior, 1) := by decide +kernel
theorem dX5_thingsEndedOn_26 : decode cX5_thingsEndedOn 26 = .ok (.istore_n 2, 1) := by decide +kernel
theorem dX5_thingsEndedOn_27 : decode cX5_thingsEndedOn 27 = .ok (.iinc 3 1, 3) := by decide +kernel
theorem dX5_thingsEndedOn_30 : decode cX5_thingsEndedOn 30 = .ok (.goto (-26), 3) := by decide +kernel
theorem dX5_thingsEndedOn_33 : decode cX5_thingsEndedOn 33 = .ok (.iload_n 2, 1) := by decide +kernel
theorem dX5_thingsEndedOn_34 : decode cX5_thingsEndedOn 34 = .ok (.ireturn, 1) := by decide +kernel
theorem dX5_worldsLike_0 : decode cX5_worldsLike 0 = .ok (.iconst 0, 1) := by decide +kernel
theorem dX5_worldsLike_1 : decode cX5_worldsLike 1 = .ok (.istore 4, 2) := by decide +kernel
theorem dX5_worldsLike_3 : decode cX5_worldsLike 3 = .ok (.iconst 0, 1) := by decide +kernel
theorem dX5_worldsLike_4 : decode cX5_worldsLike 4 = .ok (.istore 5, 2) := by decide +kernel
theorem dX5_worldsLike_6 : decode cX5_worldsLike 6 = .ok (.iload 5, 2) := by decide +kernel
theorem dX5_worldsLike_8 : decode cX5_worldsLike 8 = .ok (.iconst 1, 1) := by decide +kernel
theorem dX5_worldsLike_9 : decode cX5_worldsLike 9 = .ok (.aload_n 0, 1) := by decide +kernel
theorem dX5_worldsLike_10 : decode cX5_worldsLike 10 = .ok (.getfield 24, 3) := by decide +kernel
theorem dX5_worldsLike_13 : decode cX5_worldsLike 13 = .ok (.ishl, 1) := by decide +kernel
theorem dX5_worldsLike_14 : decode cX5_worldsLike 14 = .ok (.if_icmp .ge 36, 3) := by decide +kernel
theorem dX5_worldsLike_17 : decode cX5_worldsLike 17 = .ok (.iload_n 1, 1) := by decide +kernel
theorem dX5_worldsLike_18 : decode cX5_worldsLike 18 = .ok (.iload 5, 2) := by decide +kernel
theorem dX5_worldsLike_20 : decode cX5_worldsLike 20 = .ok (.ishr, 1) := by decide +kernel
theorem dX5_worldsLike_21 : decode cX5_worldsLike 21 = .ok (.iconst 1, 1) := by decide +kernel
theorem dX5_worldsLike_22 : decode cX5_worldsLike 22 = .ok (.iand, 1) := by decide +kernel
theorem dX5_worldsLike_23 : decode cX5_worldsLike 23 = .ok (.ifCond .eq 21, 3) := by decide +kernel
theorem dX5_worldsLike_26 : decode cX5_worldsLike 26 = .ok (.iload 5, 2) := by decide +kernel
theorem dX5_worldsLike_28 : decode cX5_worldsLike 28 = .ok (.iload_n 3, 1) := by decide +kernel
theorem dX5_worldsLike_29 : decode cX5_worldsLike 29 = .ok (.ixor, 1) := by decide +kernel
theorem dX5_worldsLike_30 : decode cX5_worldsLike 30 = .ok (.iload_n 2, 1) := by decide +kernel
theorem dX5_worldsLike_31 : decode cX5_worldsLike 31 = .ok (.iand, 1) := by decide +kernel
theorem dX5_worldsLike_32 : decode cX5_worldsLike 32 = .ok (.ifCond .ne 12, 3) := by decide +kernel
theorem dX5_worldsLike_35 : decode cX5_worldsLike 35 = .ok (.iload 4, 2) := by decide +kernel
theorem dX5_worldsLike_37 : decode cX5_worldsLike 37 = .ok (.iconst 1, 1) := by decide +kernel
theorem dX5_worldsLike_38 : decode cX5_worldsLike 38 = .ok (.iload 5, 2) := by decide +kernel
theorem dX5_worldsLike_40 : decode cX5_worldsLike 40 = .ok (.ishl, 1) := by decide +kernel
theorem dX5_worldsLike_41 : decode cX5_worldsLike 41 = .ok (.ior, 1) := by decide +kernel
theorem dX5_worldsLike_42 : decode cX5_worldsLike 42 = .ok (.istore 4, 2) := by decide +kernel
theorem dX5_worldsLike_44 : decode cX5_worldsLike 44 = .ok (.iinc 5 1, 3) := by decide +kernel
theorem dX5_worldsLike_47 : decode cX5_worldsLike 47 = .ok (.goto (-41), 3) := by decide +kernel
theorem dX5_worldsLike_50 : decode cX5_worldsLike 50 = .ok (.iload 4, 2) := by decide +kernel
theorem dX5_worldsLike_52 : decode cX5_worldsLike 52 = .ok (.ireturn, 1) := by decide +kernel
theorem dX5_othersEndAfter_0 : decode cX5_othersEndAfter 0 = .ok (.iconst 0, 1) := by decide +kernel
theorem dX5_othersEndAfter_1 : decode cX5_othersEndAfter 1 = .ok (.istore 4, 2) := by decide +kernel
theorem dX5_othersEndAfter_3 : decode cX5_othersEndAfter 3 = .ok (.iload 4, 2) := by decide +kernel
theorem dX5_othersEndAfter_5 : decode cX5_othersEndAfter 5 = .ok (.aload_n 0, 1) := by decide +kernel
theorem dX5_othersEndAfter_6 : decode cX5_othersEndAfter 6 = .ok (.getfield 24, 3) := by decide +kernel
theorem dX5_othersEndAfter_9 : decode cX5_othersEndAfter 9 = .ok (.if_icmp .ge 31, 3) := by decide +kernel
theorem dX5_othersEndAfter_12 : decode cX5_othersEndAfter 12 = .ok (.iload_n 2, 1) := by decide +kernel
theorem dX5_othersEndAfter_13 : decode cX5_othersEndAfter 13 = .ok (.iload 4, 2) := by decide +kernel
theorem dX5_othersEndAfter_15 : decode cX5_othersEndAfter 15 = .ok (.ishr, 1) := by decide +kernel
theorem dX5_othersEndAfter_16 : decode cX5_othersEndAfter 16 = .ok (.iconst 1, 1) := by decide +kernel
theorem dX5_othersEndAfter_17 : decode cX5_othersEndAfter 17 = .ok (.iand, 1) := by decide +kernel
theorem dX5_othersEndAfter_18 : decode cX5_othersEndAfter 18 = .ok (.ifCond .ne 16, 3) := by decide +kernel
theorem dX5_othersEndAfter_21 : decode cX5_othersEndAfter 21 = .ok (.aload_n 0, 1) := by decide +kernel
theorem dX5_othersEndAfter_22 : decode cX5_othersEndAfter 22 = .ok (.iload_n 1, 1) := by decide +kernel
theorem dX5_othersEndAfter_23 : decode cX5_othersEndAfter 23 = .ok (.iload 4, 2) := by decide +kernel
theorem dX5_othersEndAfter_25 : decode cX5_othersEndAfter 25 = .ok (.invokevirtual 86, 3) := by decide +kernel
theorem dX5_othersEndAfter_28 : decode cX5_othersEndAfter 28 = .ok (.iload_n 3, 1) := by decide +kernel
theorem dX5_othersEndAfter_29 : decode cX5_othersEndAfter 29 = .ok (.if_icmp .gt 5, 3) := by decide +kernel
theorem dX5_othersEndAfter_32 : decode cX5_othersEndAfter 32 = .ok (.iconst 0, 1) := by decide +kernel
theorem dX5_othersEndAfter_33 : decode cX5_othersEndAfter 33 = .ok (.ireturn, 1) := by decide +kernel
theorem dX5_othersEndAfter_34 : decode cX5_othersEndAfter 34 = .ok (.iinc 4 1, 3) := by decide +kernel
theorem dX5_othersEndAfter_37 : decode cX5_othersEndAfter 37 = .ok (.goto (-34), 3) := by decide +kernel
theorem dX5_othersEndAfter_40 : decode cX5_othersEndAfter 40 = .ok (.iconst 1, 1) := by decide +kernel
theorem dX5_othersEndAfter_41 : decode cX5_othersEndAfter 41 = .ok (.ireturn, 1) := by decide +kernel
theorem dX5_worldsSeenOn_0 : decode cX5_worldsSeenOn 0 = .ok (.aload_n 0, 1) := by decide +kernel
theorem dX5_worldsSeenOn_1 : decode cX5_worldsSeenOn 1 = .ok (.iload_n 1, 1) := by decide +kernel
theorem dX5_worldsSeenOn_2 : decode cX5_worldsSeenOn 2 = .ok (.invokevirtual 93, 3) := by decide +kernel
theorem dX5_worldsSeenOn_5 : decode cX5_worldsSeenOn 5 = .ok (.istore_n 2, 1) := by decide +kernel
theorem dX5_worldsSeenOn_6 : decode cX5_worldsSeenOn 6 = .ok (.aload_n 0, 1) := by decide +kernel
theorem dX5_worldsSeenOn_7 : decode cX5_worldsSeenOn 7 = .ok (.aload_n 0, 1) := by decide +kernel
theorem dX5_worldsSeenOn_8 : decode cX5_worldsSeenOn 8 = .ok (.getfield 52, 3) := by decide +kernel
theorem dX5_worldsSeenOn_11 : decode cX5_worldsSeenOn 11 = .ok (.iload_n 2, 1) := by decide +kernel
theorem dX5_worldsSeenOn_12 : decode cX5_worldsSeenOn 12 = .ok (.aload_n 0, 1) := by decide +kernel
theorem dX5_worldsSeenOn_13 : decode cX5_worldsSeenOn 13 = .ok (.getfield 28, 3) := by decide +kernel
theorem dX5_worldsSeenOn_16 : decode cX5_worldsSeenOn 16 = .ok (.invokevirtual 96, 3) := by decide +kernel
theorem dX5_worldsSeenOn_19 : decode cX5_worldsSeenOn 19 = .ok (.istore_n 3, 1) := by decide +kernel
theorem dX5_worldsSeenOn_20 : decode cX5_worldsSeenOn 20 = .ok (.iconst 0, 1) := by decide +kernel
theorem dX5_worldsSeenOn_21 : decode cX5_worldsSeenOn 21 = .ok (.istore 4, 2) := by decide +kernel
theorem dX5_worldsSeenOn_23 : decode cX5_worldsSeenOn 23 = .ok (.iconst 0, 1) := by decide +kernel
theorem dX5_worldsSeenOn_24 : decode cX5_worldsSeenOn 24 = .ok (.istore 5, 2) := by decide +kernel
theorem dX5_worldsSeenOn_26 : decode cX5_worldsSeenOn 26 = .ok (.iload 5, 2) := by decide +kernel
theorem dX5_worldsSeenOn_28 : decode cX5_worldsSeenOn 28 = .ok (.iconst 1, 1) := by decide +kernel
theorem dX5_worldsSeenOn_29 : decode cX5_worldsSeenOn 29 = .ok (.aload_n 0, 1) := by decide +kernel
theorem dX5_worldsSeenOn_30 : decode cX5_worldsSeenOn 30 = .ok (.getfield 24, 3) := by decide +kernel
theorem dX5_worldsSeenOn_33 : decode cX5_worldsSeenOn 33 = .ok (.ishl, 1) := by decide +kernel
theorem dX5_worldsSeenOn_34 : decode cX5_worldsSeenOn 34 = .ok (.if_icmp .ge 38, 3) := by decide +kernel
theorem dX5_worldsSeenOn_37 : decode cX5_worldsSeenOn 37 = .ok (.iload_n 3, 1) := by decide +kernel
theorem dX5_worldsSeenOn_38 : decode cX5_worldsSeenOn 38 = .ok (.iload 5, 2) := by decide +kernel
theorem dX5_worldsSeenOn_40 : decode cX5_worldsSeenOn 40 = .ok (.ishr, 1) := by decide +kernel
theorem dX5_worldsSeenOn_41 : decode cX5_worldsSeenOn 41 = .ok (.iconst 1, 1) := by decide +kernel
theorem dX5_worldsSeenOn_42 : decode cX5_worldsSeenOn 42 = .ok (.iand, 1) := by decide +kernel
theorem dX5_worldsSeenOn_43 : decode cX5_worldsSeenOn 43 = .ok (.ifCond .eq 23, 3) := by decide +kernel
theorem dX5_worldsSeenOn_46 : decode cX5_worldsSeenOn 46 = .ok (.aload_n 0, 1) := by decide +kernel
theorem dX5_worldsSeenOn_47 : decode cX5_worldsSeenOn 47 = .ok (.iload 5, 2) := by decide +kernel
theorem dX5_worldsSeenOn_49 : decode cX5_worldsSeenOn 49 = .ok (.iload_n 2, 1) := by decide +kernel
theorem dX5_worldsSeenOn_50 : decode cX5_worldsSeenOn 50 = .ok (.iload_n 1, 1) := by decide +kernel
theorem dX5_worldsSeenOn_51 : decode cX5_worldsSeenOn 51 = .ok (.invokevirtual 100, 3) := by decide +kernel
theorem dX5_worldsSeenOn_54 : decode cX5_worldsSeenOn 54 = .ok (.ifCond .eq 12, 3) := by decide +kernel
theorem dX5_worldsSeenOn_57 : decode cX5_worldsSeenOn 57 = .ok (.iload 4, 2) := by decide +kernel
theorem dX5_worldsSeenOn_59 : decode cX5_worldsSeenOn 59 = .ok (.iconst 1, 1) := by decide +kernel
theorem dX5_worldsSeenOn_60 : decode cX5_worldsSeenOn 60 = .ok (.iload 5, 2) := by decide +kernel
theorem dX5_worldsSeenOn_62 : decode cX5_worldsSeenOn 62 = .ok (.ishl, 1) := by decide +kernel
theorem dX5_worldsSeenOn_63 : decode cX5_worldsSeenOn 63 = .ok (.ior, 1) := by decide +kernel
theorem dX5_worldsSeenOn_64 : decode cX5_worldsSeenOn 64 = .ok (.istore 4, 2) := by decide +kernel
theorem dX5_worldsSeenOn_66 : decode cX5_worldsSeenOn 66 = .ok (.iinc 5 1, 3) := by decide +kernel
theorem dX5_worldsSeenOn_69 : decode cX5_worldsSeenOn 69 = .ok (.goto (-43), 3) := by decide +kernel
theorem dX5_worldsSeenOn_72 : decode cX5_worldsSeenOn 72 = .ok (.iload 4, 2) := by decide +kernel
theorem dX5_worldsSeenOn_74 : decode cX5_worldsSeenOn 74 = .ok (.ireturn, 1) := by decide +kernel
theorem dX5_partsOfEarly_0 : decode cX5_partsOfEarly 0 = .ok (.iconst 0, 1) := by decide +kernel
theorem dX5_partsOfEarly_1 : decode cX5_partsOfEarly 1 = .ok (.istore_n 3, 1) := by decide +kernel
theorem dX5_partsOfEarly_2 : decode cX5_partsOfEarly 2 = .ok (.iconst 0, 1) := by decide +kernel
theorem dX5_partsOfEarly_3 : decode cX5_partsOfEarly 3 = .ok (.istore 4, 2) := by decide +kernel
theorem dX5_partsOfEarly_5 : decode cX5_partsOfEarly 5 = .ok (.iload 4, 2) := by decide +kernel
theorem dX5_partsOfEarly_7 : decode cX5_partsOfEarly 7 = .ok (.iconst 1, 1) := by decide +kernel
theorem dX5_partsOfEarly_8 : decode cX5_partsOfEarly 8 = .ok (.aload_n 0, 1) := by decide +kernel
theorem dX5_partsOfEarly_9 : decode cX5_partsOfEarly 9 = .ok (.getfield 24, 3) := by decide +kernel
theorem dX5_partsOfEarly_12 : decode cX5_partsOfEarly 12 = .ok (.ishl, 1) := by decide +kernel
theorem dX5_partsOfEarly_13 : decode cX5_partsOfEarly 13 = .ok (.if_icmp .ge 38, 3) := by decide +kernel
theorem dX5_partsOfEarly_16 : decode cX5_partsOfEarly 16 = .ok (.iload_n 1, 1) := by decide +kernel
theorem dX5_partsOfEarly_17 : decode cX5_partsOfEarly 17 = .ok (.iload 4, 2) := by decide +kernel
theorem dX5_partsOfEarly_19 : decode cX5_partsOfEarly 19 = .ok (.ishr, 1) := by decide +kernel
theorem dX5_partsOfEarly_20 : decode cX5_partsOfEarly 20 = .ok (.iconst 1, 1) := by decide +kernel
theorem dX5_partsOfEarly_21 : decode cX5_partsOfEarly 21 = .ok (.iand, 1) := by decide +kernel
theorem dX5_partsOfEarly_22 : decode cX5_partsOfEarly 22 = .ok (.ifCond .eq 23, 3) := by decide +kernel
theorem dX5_partsOfEarly_25 : decode cX5_partsOfEarly 25 = .ok (.aload_n 0, 1) := by decide +kernel
theorem dX5_partsOfEarly_26 : decode cX5_partsOfEarly 26 = .ok (.iload 4, 2) := by decide +kernel
theorem dX5_partsOfEarly_28 : decode cX5_partsOfEarly 28 = .ok (.iload_n 2, 1) := by decide +kernel
theorem dX5_partsOfEarly_29 : decode cX5_partsOfEarly 29 = .ok (.invokevirtual 83, 3) := by decide +kernel
theorem dX5_partsOfEarly_32 : decode cX5_partsOfEarly 32 = .ok (.ifCond .ne 13, 3) := by decide +kernel
theorem dX5_partsOfEarly_35 : decode cX5_partsOfEarly 35 = .ok (.iload_n 3, 1) := by decide +kernel
theorem dX5_partsOfEarly_36 : decode cX5_partsOfEarly 36 = .ok (.aload_n 0, 1) := by decide +kernel
theorem dX5_partsOfEarly_37 : decode cX5_partsOfEarly 37 = .ok (.getfield 49, 3) := by decide +kernel
theorem dX5_partsOfEarly_40 : decode cX5_partsOfEarly 40 = .ok (.iload 4, 2) := by decide +kernel
theorem dX5_partsOfEarly_42 : decode cX5_partsOfEarly 42 = .ok (.iaload, 1) := by decide +kernel
theorem dX5_partsOfEarly_43 : decode cX5_partsOfEarly 43 = .ok (.iadd, 1) := by decide +kernel
theorem dX5_partsOfEarly_44 : decode cX5_partsOfEarly 44 = .ok (.istore_n 3, 1) := by decide +kernel
theorem dX5_partsOfEarly_45 : decode cX5_partsOfEarly 45 = .ok (.iinc 4 1, 3) := by decide +kernel
theorem dX5_partsOfEarly_48 : decode cX5_partsOfEarly 48 = .ok (.goto (-43), 3) := by decide +kernel
theorem dX5_partsOfEarly_51 : decode cX5_partsOfEarly 51 = .ok (.iload_n 3, 1) := by decide +kernel
theorem dX5_partsOfEarly_52 : decode cX5_partsOfEarly 52 = .ok (.ireturn, 1) := by decide +kernel
theorem dX5_partsOf_0 : decode cX5_partsOf 0 = .ok (.iconst 0, 1) := by decide +kernel
theorem dX5_partsOf_1 : decode cX5_partsOf 1 = .ok (.istore_n 2, 1) := by decide +kernel
theorem dX5_partsOf_2 : decode cX5_partsOf 2 = .ok (.iconst 0, 1) := by decide +kernel
theorem dX5_partsOf_3 : decode cX5_partsOf 3 = .ok (.istore_n 3, 1) := by decide +kernel
theorem dX5_partsOf_4 : decode cX5_partsOf 4 = .ok (.iload_n 3, 1) := by decide +kernel
theorem dX5_partsOf_5 : decode cX5_partsOf 5 = .ok (.iconst 1, 1) := by decide +kernel
theorem dX5_partsOf_6 : decode cX5_partsOf 6 = .ok (.aload_n 0, 1) := by decide +kernel
theorem dX5_partsOf_7 : decode cX5_partsOf 7 = .ok (.getfield 24, 3) := by decide +kernel
theorem dX5_partsOf_10 : decode cX5_partsOf 10 = .ok (.ishl, 1) := by decide +kernel
theorem dX5_partsOf_11 : decode cX5_partsOf 11 = .ok (.if_icmp .ge 26, 3) := by decide +kernel
theorem dX5_partsOf_14 : decode cX5_partsOf 14 = .ok (.iload_n 1, 1) := by decide +kernel
theorem dX5_partsOf_15 : decode cX5_partsOf 15 = .ok (.iload_n 3, 1) := by decide +kernel
theorem dX5_partsOf_16 : decode cX5_partsOf 16 = .ok (.ishr, 1) := by decide +kernel
theorem dX5_partsOf_17 : decode cX5_partsOf 17 = .ok (.iconst 1, 1) := by decide +kernel
theorem dX5_partsOf_18 : decode cX5_partsOf 18 = .ok (.iand, 1) := by decide +kernel
theorem dX5_partsOf_19 : decode cX5_partsOf 19 = .ok (.ifCond .eq 12, 3) := by decide +kernel
theorem dX5_partsOf_22 : decode cX5_partsOf 22 = .ok (.iload_n 2, 1) := by decide +kernel
theorem dX5_partsOf_23 : decode cX5_partsOf 23 = .ok (.aload_n 0, 1) := by decide +kernel
theorem dX5_partsOf_24 : decode cX5_partsOf 24 = .ok (.getfield 49, 3) := by decide +kernel
theorem dX5_partsOf_27 : decode cX5_partsOf 27 = .ok (.iload_n 3, 1) := by decide +kernel
theorem dX5_partsOf_28 : decode cX5_partsOf 28 = .ok (.iaload, 1) := by decide +kernel
theorem dX5_partsOf_29 : decode cX5_partsOf 29 = .ok (.iadd, 1) := by decide +kernel
theorem dX5_partsOf_30 : decode cX5_partsOf 30 = .ok (.istore_n 2, 1) := by decide +kernel
theorem dX5_partsOf_31 : decode cX5_partsOf 31 = .ok (.iinc 3 1, 3) := by decide +kernel
theorem dX5_partsOf_34 : decode cX5_partsOf 34 = .ok (.goto (-30), 3) := by decide +kernel
theorem dX5_partsOf_37 : decode cX5_partsOf 37 = .ok (.iload_n 2, 1) := by decide +kernel
theorem dX5_partsOf_38 : decode cX5_partsOf 38 = .ok (.ireturn, 1) := by decide +kernel
theorem dX5_coinsKept_0 : decode cX5_coinsKept 0 = .ok (.iload_n 2, 1) := by decide +kernel
theorem dX5_coinsKept_1 : decode cX5_coinsKept 1 = .ok (.iload 4, 2) := by decide +kernel
theorem dX5_coinsKept_3 : decode cX5_coinsKept 3 = .ok (.if_icmp .ge 7, 3) := by decide +kernel
theorem dX5_coinsKept_6 : decode cX5_coinsKept 6 = .ok (.iload_n 2, 1) := by decide +kernel
theorem dX5_coinsKept_7 : decode cX5_coinsKept 7 = .ok (.goto 5, 3) := by decide +kernel
theorem dX5_coinsKept_10 : decode cX5_coinsKept 10 = .ok (.iload 4, 2) := by decide +kernel
theorem dX5_coinsKept_12 : decode cX5_coinsKept 12 = .ok (.iload_n 3, 1) := by decide +kernel
theorem dX5_coinsKept_13 : decode cX5_coinsKept 13 = .ok (.isub, 1) := by decide +kernel
theorem dX5_coinsKept_14 : decode cX5_coinsKept 14 = .ok (.istore 5, 2) := by decide +kernel
theorem dX5_coinsKept_16 : decode cX5_coinsKept 16 = .ok (.iload_n 2, 1) := by decide +kernel
theorem dX5_coinsKept_17 : decode cX5_coinsKept 17 = .ok (.iload 4, 2) := by decide +kernel
theorem dX5_coinsKept_19 : decode cX5_coinsKept 19 = .ok (.if_icmp .le 13, 3) := by decide +kernel
theorem dX5_coinsKept_22 : decode cX5_coinsKept 22 = .ok (.iload 5, 2) := by decide +kernel
theorem dX5_coinsKept_24 : decode cX5_coinsKept 24 = .ok (.aload_n 0, 1) := by decide +kernel
theorem dX5_coinsKept_25 : decode cX5_coinsKept 25 = .ok (.getfield 21, 3) := by decide +kernel
theorem dX5_coinsKept_28 : decode cX5_coinsKept 28 = .ok (.iload_n 1, 1) := by decide +kernel
theorem dX5_coinsKept_29 : decode cX5_coinsKept 29 = .ok (.iaload, 1) := by decide +kernel
theorem dX5_coinsKept_30 : decode cX5_coinsKept 30 = .ok (.iadd, 1) := by decide +kernel
theorem dX5_coinsKept_31 : decode cX5_coinsKept 31 = .ok (.ireturn, 1) := by decide +kernel
theorem dX5_coinsKept_32 : decode cX5_coinsKept 32 = .ok (.iload 5, 2) := by decide +kernel
theorem dX5_coinsKept_34 : decode cX5_coinsKept 34 = .ok (.ifCond .le 8, 3) := by decide +kernel
theorem dX5_coinsKept_37 : decode cX5_coinsKept 37 = .ok (.iload 5, 2) := by decide +kernel
theorem dX5_coinsKept_39 : decode cX5_coinsKept 39 = .ok (.goto 4, 3) := by decide +kernel
theorem dX5_coinsKept_42 : decode cX5_coinsKept 42 = .ok (.iconst 0, 1) := by decide +kernel
theorem dX5_coinsKept_43 : decode cX5_coinsKept 43 = .ok (.ireturn, 1) := by decide +kernel
theorem dX5_partsKept_0 : decode cX5_partsKept 0 = .ok (.iload_n 2, 1) := by decide +kernel
theorem dX5_partsKept_1 : decode cX5_partsKept 1 = .ok (.aload_n 0, 1) := by decide +kernel
theorem dX5_partsKept_2 : decode cX5_partsKept 2 = .ok (.iload_n 1, 1) := by decide +kernel
theorem dX5_partsKept_3 : decode cX5_partsKept 3 = .ok (.aload_n 0, 1) := by decide +kernel
theorem dX5_partsKept_4 : decode cX5_partsKept 4 = .ok (.getfield 9, 3) := by decide +kernel
theorem dX5_partsKept_7 : decode cX5_partsKept 7 = .ok (.iload_n 1, 1) := by decide +kernel
theorem dX5_partsKept_8 : decode cX5_partsKept 8 = .ok (.iaload, 1) := by decide +kernel
theorem dX5_partsKept_9 : decode cX5_partsKept 9 = .ok (.iload 4, 2) := by decide +kernel
theorem dX5_partsKept_11 : decode cX5_partsKept 11 = .ok (.iload 5, 2) := by decide +kernel
theorem dX5_partsKept_13 : decode cX5_partsKept 13 = .ok (.invokevirtual 108, 3) := by decide +kernel
theorem dX5_partsKept_16 : decode cX5_partsKept 16 = .ok (.imul, 1) := by decide +kernel
theorem dX5_partsKept_17 : decode cX5_partsKept 17 = .ok (.iload_n 3, 1) := by decide +kernel
theorem dX5_partsKept_18 : decode cX5_partsKept 18 = .ok (.aload_n 0, 1) := by decide +kernel
theorem dX5_partsKept_19 : decode cX5_partsKept 19 = .ok (.iload_n 1, 1) := by decide +kernel
theorem dX5_partsKept_20 : decode cX5_partsKept 20 = .ok (.aload_n 0, 1) := by decide +kernel
theorem dX5_partsKept_21 : decode cX5_partsKept 21 = .ok (.getfield 15, 3) := by decide +kernel
theorem dX5_partsKept_24 : decode cX5_partsKept 24 = .ok (.iload_n 1, 1) := by decide +kernel
theorem dX5_partsKept_25 : decode cX5_partsKept 25 = .ok (.iaload, 1) := by decide +kernel
theorem dX5_partsKept_26 : decode cX5_partsKept 26 = .ok (.iload 4, 2) := by decide +kernel
theorem dX5_partsKept_28 : decode cX5_partsKept 28 = .ok (.iload 5, 2) := by decide +kernel
theorem dX5_partsKept_30 : decode cX5_partsKept 30 = .ok (.invokevirtual 108, 3) := by decide +kernel
theorem dX5_partsKept_33 : decode cX5_partsKept 33 = .ok (.imul, 1) := by decide +kernel
theorem dX5_partsKept_34 : decode cX5_partsKept 34 = .ok (.iadd, 1) := by decide +kernel
theorem dX5_partsKept_35 : decode cX5_partsKept 35 = .ok (.ireturn, 1) := by decide +kernel
theorem dX5_bestDay_0 : decode cX5_bestDay 0 = .ok (.iload 4, 2) := by decide +kernel
theorem dX5_bestDay_2 : decode cX5_bestDay 2 = .ok (.istore 5, 2) := by decide +kernel
theorem dX5_bestDay_4 : decode cX5_bestDay 4 = .ok (.iconst (-1), 1) := by decide +kernel
theorem dX5_bestDay_5 : decode cX5_bestDay 5 = .ok (.istore 6, 2) := by decide +kernel
theorem dX5_bestDay_7 : decode cX5_bestDay 7 = .ok (.iload 4, 2) := by decide +kernel
theorem dX5_bestDay_9 : decode cX5_bestDay 9 = .ok (.istore 7, 2) := by decide +kernel
theorem dX5_bestDay_11 : decode cX5_bestDay 11 = .ok (.iload 7, 2) := by decide +kernel
theorem dX5_bestDay_13 : decode cX5_bestDay 13 = .ok (.bipush 9, 2) := by decide +kernel
theorem dX5_bestDay_15 : decode cX5_bestDay 15 = .ok (.if_icmp .gt 37, 3) := by decide +kernel
theorem dX5_bestDay_18 : decode cX5_bestDay 18 = .ok (.aload_n 0, 1) := by decide +kernel
theorem dX5_bestDay_19 : decode cX5_bestDay 19 = .ok (.iload_n 1, 1) := by decide +kernel
theorem dX5_bestDay_20 : decode cX5_bestDay 20 = .ok (.iload_n 2, 1) := by decide +kernel
theorem dX5_bestDay_21 : decode cX5_bestDay 21 = .ok (.iload_n 3, 1) := by decide +kernel
theorem dX5_bestDay_22 : decode cX5_bestDay 22 = .ok (.iload 4, 2) := by decide +kernel
theorem dX5_bestDay_24 : decode cX5_bestDay 24 = .ok (.iload 7, 2) := by decide +kernel
theorem dX5_bestDay_26 : decode cX5_bestDay 26 = .ok (.invokevirtual 112, 3) := by decide +kernel
theorem dX5_bestDay_29 : decode cX5_bestDay 29 = .ok (.istore 8, 2) := by decide +kernel
theorem dX5_bestDay_31 : decode cX5_bestDay 31 = .ok (.iload 8, 2) := by decide +kernel
theorem dX5_bestDay_33 : decode cX5_bestDay 33 = .ok (.iload 6, 2) := by decide +kernel
theorem dX5_bestDay_35 : decode cX5_bestDay 35 = .ok (.if_icmp .le 11, 3) := by decide +kernel
theorem dX5_bestDay_38 : decode cX5_bestDay 38 = .ok (.iload 8, 2) := by decide +kernel
theorem dX5_bestDay_40 : decode cX5_bestDay 40 = .ok (.istore 6, 2) := by decide +kernel
theorem dX5_bestDay_42 : decode cX5_bestDay 42 = .ok (.iload 7, 2) := by decide +kernel
theorem dX5_bestDay_44 : decode cX5_bestDay 44 = .ok (.istore 5, 2) := by decide +kernel
theorem dX5_bestDay_46 : decode cX5_bestDay 46 = .ok (.iinc 7 1, 3) := by decide +kernel
theorem dX5_bestDay_49 : decode cX5_bestDay 49 = .ok (.goto (-38), 3) := by decide +kernel
theorem dX5_bestDay_52 : decode cX5_bestDay 52 = .ok (.iload 5, 2) := by decide +kernel
theorem dX5_bestDay_54 : decode cX5_bestDay 54 = .ok (.ireturn, 1) := by decide +kernel
theorem dX5_partsKeptWisely_0 : decode cX5_partsKeptWisely 0 = .ok (.aload_n 0, 1) := by decide +kernel
theorem dX5_partsKeptWisely_1 : decode cX5_partsKeptWisely 1 = .ok (.iload_n 1, 1) := by decide +kernel
theorem dX5_partsKeptWisely_2 : decode cX5_partsKeptWisely 2 = .ok (.iload_n 2, 1) := by decide +kernel
theorem dX5_partsKeptWisely_3 : decode cX5_partsKeptWisely 3 = .ok (.invokevirtual 116, 3) := by decide +kernel
theorem dX5_partsKeptWisely_6 : decode cX5_partsKeptWisely 6 = .ok (.istore 4, 2) := by decide +kernel
theorem dX5_partsKeptWisely_8 : decode cX5_partsKeptWisely 8 = .ok (.aload_n 0, 1) := by decide +kernel
theorem dX5_partsKeptWisely_9 : decode cX5_partsKeptWisely 9 = .ok (.iload_n 1, 1) := by decide +kernel
theorem dX5_partsKeptWisely_10 : decode cX5_partsKeptWisely 10 = .ok (.invokevirtual 119, 3) := by decide +kernel
theorem dX5_partsKeptWisely_13 : decode cX5_partsKeptWisely 13 = .ok (.iload 4, 2) := by decide +kernel
theorem dX5_partsKeptWisely_15 : decode cX5_partsKeptWisely 15 = .ok (.isub, 1) := by decide +kernel
theorem dX5_partsKeptWisely_16 : decode cX5_partsKeptWisely 16 = .ok (.istore 5, 2) := by decide +kernel
theorem dX5_partsKeptWisely_18 : decode cX5_partsKeptWisely 18 = .ok (.aload_n 0, 1) := by decide +kernel
theorem dX5_partsKeptWisely_19 : decode cX5_partsKeptWisely 19 = .ok (.iload_n 2, 1) := by decide +kernel
theorem dX5_partsKeptWisely_20 : decode cX5_partsKeptWisely 20 = .ok (.iload 4, 2) := by decide +kernel
theorem dX5_partsKeptWisely_22 : decode cX5_partsKeptWisely 22 = .ok (.iload 5, 2) := by decide +kernel
theorem dX5_partsKeptWisely_24 : decode cX5_partsKeptWisely 24 = .ok (.iload_n 3, 1) := by decide +kernel
theorem dX5_partsKeptWisely_25 : decode cX5_partsKeptWisely 25 = .ok (.aload_n 0, 1) := by decide +kernel
theorem dX5_partsKeptWisely_26 : decode cX5_partsKeptWisely 26 = .ok (.iload_n 2, 1) := by decide +kernel
theorem dX5_partsKeptWisely_27 : decode cX5_partsKeptWisely 27 = .ok (.iload 4, 2) := by decide +kernel
theorem dX5_partsKeptWisely_29 : decode cX5_partsKeptWisely 29 = .ok (.iload 5, 2) := by decide +kernel
theorem dX5_partsKeptWisely_31 : decode cX5_partsKeptWisely 31 = .ok (.iload_n 3, 1) := by decide +kernel
theorem dX5_partsKeptWisely_32 : decode cX5_partsKeptWisely 32 = .ok (.invokevirtual 122, 3) := by decide +kernel
theorem dX5_partsKeptWisely_35 : decode cX5_partsKeptWisely 35 = .ok (.invokevirtual 112, 3) := by decide +kernel
theorem dX5_partsKeptWisely_38 : decode cX5_partsKeptWisely 38 = .ok (.ireturn, 1) := by decide +kernel
theorem dX5_isRoomForThing_0 : decode cX5_isRoomForThing 0 = .ok (.aload_n 0, 1) := by decide +kernel
theorem dX5_isRoomForThing_1 : decode cX5_isRoomForThing 1 = .ok (.getfield 24, 3) := by decide +kernel
theorem dX5_isRoomForThing_4 : decode cX5_isRoomForThing 4 = .ok (.iconst 4, 1) := by decide +kernel
theorem dX5_isRoomForThing_5 : decode cX5_isRoomForThing 5 = .ok (.if_icmp .ge 7, 3) := by decide +kernel
theorem dX5_isRoomForThing_8 : decode cX5_isRoomForThing 8 = .ok (.iconst 1, 1) := by decide +kernel
theorem dX5_isRoomForThing_9 : decode cX5_isRoomForThing 9 = .ok (.goto 4, 3) := by decide +kernel
theorem dX5_isRoomForThing_12 : decode cX5_isRoomForThing 12 = .ok (.iconst 0, 1) := by decide +kernel
theorem dX5_isRoomForThing_13 : decode cX5_isRoomForThing 13 = .ok (.ireturn, 1) := by decide +kernel
theorem dX5_addThing_0 : decode cX5_addThing 0 = .ok (.aload_n 0, 1) := by decide +kernel
theorem dX5_addThing_1 : decode cX5_addThing 1 = .ok (.invokevirtual 73, 3) := by decide +kernel
theorem dX5_addThing_4 : decode cX5_addThing 4 = .ok (.ifCond .eq 9, 3) := by decide +kernel
theorem dX5_addThing_7 : decode cX5_addThing 7 = .ok (.aload_n 1, 1) := by decide +kernel
theorem dX5_addThing_8 : decode cX5_addThing 8 = .ok (.arraylength, 1) := by decide +kernel
theorem dX5_addThing_9 : decode cX5_addThing 9 = .ok (.iconst 5, 1) := by decide +kernel
theorem dX5_addThing_10 : decode cX5_addThing 10 = .ok (.if_icmp .ge 4, 3) := by decide +kernel
theorem dX5_addThing_13 : decode cX5_addThing 13 = .ok (.return_, 1) := by decide +kernel
theorem dX5_addThing_14 : decode cX5_addThing 14 = .ok (.aload_n 0, 1) := by decide +kernel
theorem dX5_addThing_15 : decode cX5_addThing 15 = .ok (.getfield 9, 3) := by decide +kernel
theorem dX5_addThing_18 : decode cX5_addThing 18 = .ok (.aload_n 0, 1) := by decide +kernel
theorem dX5_addThing_19 : decode cX5_addThing 19 = .ok (.getfield 24, 3) := by decide +kernel
theorem dX5_addThing_22 : decode cX5_addThing 22 = .ok (.aload_n 1, 1) := by decide +kernel
theorem dX5_addThing_23 : decode cX5_addThing 23 = .ok (.iconst 0, 1) := by decide +kernel
theorem dX5_addThing_24 : decode cX5_addThing 24 = .ok (.iaload, 1) := by decide +kernel
theorem dX5_addThing_25 : decode cX5_addThing 25 = .ok (.iastore, 1) := by decide +kernel
theorem dX5_addThing_26 : decode cX5_addThing 26 = .ok (.aload_n 0, 1) := by decide +kernel
theorem dX5_addThing_27 : decode cX5_addThing 27 = .ok (.getfield 15, 3) := by decide +kernel
theorem dX5_addThing_30 : decode cX5_addThing 30 = .ok (.aload_n 0, 1) := by decide +kernel
theorem dX5_addThing_31 : decode cX5_addThing 31 = .ok (.getfield 24, 3) := by decide +kernel
theorem dX5_addThing_34 : decode cX5_addThing 34 = .ok (.aload_n 1, 1) := by decide +kernel
theorem dX5_addThing_35 : decode cX5_addThing 35 = .ok (.iconst 1, 1) := by decide +kernel
theorem dX5_addThing_36 : decode cX5_addThing 36 = .ok (.iaload, 1) := by decide +kernel
theorem dX5_addThing_37 : decode cX5_addThing 37 = .ok (.iastore, 1) := by decide +kernel
theorem dX5_addThing_38 : decode cX5_addThing 38 = .ok (.aload_n 0, 1) := by decide +kernel
theorem dX5_addThing_39 : decode cX5_addThing 39 = .ok (.getfield 18, 3) := by decide +kernel
theorem dX5_addThing_42 : decode cX5_addThing 42 = .ok (.aload_n 0, 1) := by decide +kernel
theorem dX5_addThing_43 : decode cX5_addThing 43 = .ok (.getfield 24, 3) := by decide +kernel
theorem dX5_addThing_46 : decode cX5_addThing 46 = .ok (.aload_n 1, 1) := by decide +kernel
theorem dX5_addThing_47 : decode cX5_addThing 47 = .ok (.iconst 2, 1) := by decide +kernel
theorem dX5_addThing_48 : decode cX5_addThing 48 = .ok (.iaload, 1) := by decide +kernel
theorem dX5_addThing_49 : decode cX5_addThing 49 = .ok (.iastore, 1) := by decide +kernel
theorem dX5_addThing_50 : decode cX5_addThing 50 = .ok (.aload_n 0, 1) := by decide +kernel
theorem dX5_addThing_51 : decode cX5_addThing 51 = .ok (.getfield 21, 3) := by decide +kernel
theorem dX5_addThing_54 : decode cX5_addThing 54 = .ok (.aload_n 0, 1) := by decide +kernel
theorem dX5_addThing_55 : decode cX5_addThing 55 = .ok (.getfield 24, 3) := by decide +kernel
theorem dX5_addThing_58 : decode cX5_addThing 58 = .ok (.aload_n 1, 1) := by decide +kernel
theorem dX5_addThing_59 : decode cX5_addThing 59 = .ok (.iconst 3, 1) := by decide +kernel
theorem dX5_addThing_60 : decode cX5_addThing 60 = .ok (.iaload, 1) := by decide +kernel
theorem dX5_addThing_61 : decode cX5_addThing 61 = .ok (.iastore, 1) := by decide +kernel
theorem dX5_addThing_62 : decode cX5_addThing 62 = .ok (.aload_n 0, 1) := by decide +kernel
theorem dX5_addThing_63 : decode cX5_addThing 63 = .ok (.dup, 1) := by decide +kernel
theorem dX5_addThing_64 : decode cX5_addThing 64 = .ok (.getfield 28, 3) := by decide +kernel
theorem dX5_addThing_67 : decode cX5_addThing 67 = .ok (.aload_n 1, 1) := by decide +kernel
theorem dX5_addThing_68 : decode cX5_addThing 68 = .ok (.iconst 4, 1) := by decide +kernel
theorem dX5_addThing_69 : decode cX5_addThing 69 = .ok (.iaload, 1) := by decide +kernel
theorem dX5_addThing_70 : decode cX5_addThing 70 = .ok (.aload_n 0, 1) := by decide +kernel
theorem dX5_addThing_71 : decode cX5_addThing 71 = .ok (.getfield 24, 3) := by decide +kernel
theorem dX5_addThing_74 : decode cX5_addThing 74 = .ok (.ishl, 1) := by decide +kernel
theorem dX5_addThing_75 : decode cX5_addThing 75 = .ok (.ior, 1) := by decide +kernel
theorem dX5_addThing_76 : decode cX5_addThing 76 = .ok (.putfield 28, 3) := by decide +kernel
theorem dX5_addThing_79 : decode cX5_addThing 79 = .ok (.aload_n 0, 1) := by decide +kernel
theorem dX5_addThing_80 : decode cX5_addThing 80 = .ok (.dup, 1) := by decide +kernel
theorem dX5_addThing_81 : decode cX5_addThing 81 = .ok (.getfield 24, 3) := by decide +kernel
theorem dX5_addThing_84 : decode cX5_addThing 84 = .ok (.iconst 1, 1) := by decide +kernel
theorem dX5_addThing_85 : decode cX5_addThing 85 = .ok (.iadd, 1) := by decide +kernel
theorem dX5_addThing_86 : decode cX5_addThing 86 = .ok (.putfield 24, 3) := by decide +kernel
theorem dX5_addThing_89 : decode cX5_addThing 89 = .ok (.return_, 1) := by decide +kernel
theorem dX5_addAsker_0 : decode cX5_addAsker 0 = .ok (.aload_n 0, 1) := by decide +kernel
theorem dX5_addAsker_1 : decode cX5_addAsker 1 = .ok (.getfield 37, 3) := by decide +kernel
theorem dX5_addAsker_4 : decode cX5_addAsker 4 = .ok (.iconst 4, 1) := by decide +kernel
theorem dX5_addAsker_5 : decode cX5_addAsker 5 = .ok (.if_icmp .ge 33, 3) := by decide +kernel
theorem dX5_addAsker_8 : decode cX5_addAsker 8 = .ok (.aload_n 0, 1) := by decide +kernel
theorem dX5_addAsker_9 : decode cX5_addAsker 9 = .ok (.getfield 31, 3) := by decide +kernel
theorem dX5_addAsker_12 : decode cX5_addAsker 12 = .ok (.aload_n 0, 1) := by decide +kernel
theorem dX5_addAsker_13 : decode cX5_addAsker 13 = .ok (.getfield 37, 3) := by decide +kernel
theorem dX5_addAsker_16 : decode cX5_addAsker 16 = .ok (.iload_n 1, 1) := by decide +kernel
theorem dX5_addAsker_17 : decode cX5_addAsker 17 = .ok (.iastore, 1) := by decide +kernel
theorem dX5_addAsker_18 : decode cX5_addAsker 18 = .ok (.aload_n 0, 1) := by decide +kernel
theorem dX5_addAsker_19 : decode cX5_addAsker 19 = .ok (.getfield 34, 3) := by decide +kernel
theorem dX5_addAsker_22 : decode cX5_addAsker 22 = .ok (.aload_n 0, 1) := by decide +kernel
theorem dX5_addAsker_23 : decode cX5_addAsker 23 = .ok (.getfield 37, 3) := by decide +kernel
theorem dX5_addAsker_26 : decode cX5_addAsker 26 = .ok (.iload_n 2, 1) := by decide +kernel
theorem dX5_addAsker_27 : decode cX5_addAsker 27 = .ok (.iastore, 1) := by decide +kernel
theorem dX5_addAsker_28 : decode cX5_addAsker 28 = .ok (.aload_n 0, 1) := by decide +kernel
theorem dX5_addAsker_29 : decode cX5_addAsker 29 = .ok (.dup, 1) := by decide +kernel
theorem dX5_addAsker_30 : decode cX5_addAsker 30 = .ok (.getfield 37, 3) := by decide +kernel
theorem dX5_addAsker_33 : decode cX5_addAsker 33 = .ok (.iconst 1, 1) := by decide +kernel
theorem dX5_addAsker_34 : decode cX5_addAsker 34 = .ok (.iadd, 1) := by decide +kernel
theorem dX5_addAsker_35 : decode cX5_addAsker 35 = .ok (.putfield 37, 3) := by decide +kernel
theorem dX5_addAsker_38 : decode cX5_addAsker 38 = .ok (.return_, 1) := by decide +kernel
theorem dX5_addLink_0 : decode cX5_addLink 0 = .ok (.aload_n 0, 1) := by decide +kernel
theorem dX5_addLink_1 : decode cX5_addLink 1 = .ok (.getfield 46, 3) := by decide +kernel
theorem dX5_addLink_4 : decode cX5_addLink 4 = .ok (.iconst 3, 1) := by decide +kernel
theorem dX5_addLink_5 : decode cX5_addLink 5 = .ok (.if_icmp .ge 33, 3) := by decide +kernel
theorem dX5_addLink_8 : decode cX5_addLink 8 = .ok (.aload_n 0, 1) := by decide +kernel
theorem dX5_addLink_9 : decode cX5_addLink 9 = .ok (.getfield 40, 3) := by decide +kernel
theorem dX5_addLink_12 : decode cX5_addLink 12 = .ok (.aload_n 0, 1) := by decide +kernel
theorem dX5_addLink_13 : decode cX5_addLink 13 = .ok (.getfield 46, 3) := by decide +kernel
theorem dX5_addLink_16 : decode cX5_addLink 16 = .ok (.iload_n 1, 1) := by decide +kernel
theorem dX5_addLink_17 : decode cX5_addLink 17 = .ok (.iastore, 1) := by decide +kernel
theorem dX5_addLink_18 : decode cX5_addLink 18 = .ok (.aload_n 0, 1) := by decide +kernel
theorem dX5_addLink_19 : decode cX5_addLink 19 = .ok (.getfield 43, 3) := by decide +kernel
theorem dX5_addLink_22 : decode cX5_addLink 22 = .ok (.aload_n 0, 1) := by decide +kernel
theorem dX5_addLink_23 : decode cX5_addLink 23 = .ok (.getfield 46, 3) := by decide +kernel
theorem dX5_addLink_26 : decode cX5_addLink 26 = .ok (.iload_n 2, 1) := by decide +kernel
theorem dX5_addLink_27 : decode cX5_addLink 27 = .ok (.iastore, 1) := by decide +kernel
theorem dX5_addLink_28 : decode cX5_addLink 28 = .ok (.aload_n 0, 1) := by decide +kernel
theorem dX5_addLink_29 : decode cX5_addLink 29 = .ok (.dup, 1) := by decide +kernel
theorem dX5_addLink_30 : decode cX5_addLink 30 = .ok (.getfield 46, 3) := by decide +kernel
theorem dX5_addLink_33 : decode cX5_addLink 33 = .ok (.iconst 1, 1) := by decide +kernel
theorem dX5_addLink_34 : decode cX5_addLink 34 = .ok (.iadd, 1) := by decide +kernel
theorem dX5_addLink_35 : decode cX5_addLink 35 = .ok (.putfield 46, 3) := by decide +kernel
theorem dX5_addLink_38 : decode cX5_addLink 38 = .ok (.return_, 1) := by decide +kernel
theorem dX5_hasThing_0 : decode cX5_hasThing 0 = .ok (.iload_n 1, 1) := by decide +kernel
theorem dX5_hasThing_1 : decode cX5_hasThing 1 = .ok (.ifCond .lt 15, 3) := by decide +kernel
theorem dX5_hasThing_4 : decode cX5_hasThing 4 = .ok (.iload_n 1, 1) := by decide +kernel
theorem dX5_hasThing_5 : decode cX5_hasThing 5 = .ok (.aload_n 0, 1) := by decide +kernel
theorem dX5_hasThing_6 : decode cX5_hasThing 6 = .ok (.getfield 24, 3) := by decide +kernel
theorem dX5_hasThing_9 : decode cX5_hasThing 9 = .ok (.if_icmp .ge 7, 3) := by decide +kernel
theorem dX5_hasThing_12 : decode cX5_hasThing 12 = .ok (.iconst 1, 1) := by decide +kernel
theorem dX5_hasThing_13 : decode cX5_hasThing 13 = .ok (.goto 4, 3) := by decide +kernel
theorem dX5_hasThing_16 : decode cX5_hasThing 16 = .ok (.iconst 0, 1) := by decide +kernel
theorem dX5_hasThing_17 : decode cX5_hasThing 17 = .ok (.ireturn, 1) := by decide +kernel
theorem dX5_isBroken_0 : decode cX5_isBroken 0 = .ok (.iload_n 3, 1) := by decide +kernel
theorem dX5_isBroken_1 : decode cX5_isBroken 1 = .ok (.iload_n 1, 1) := by decide +kernel
theorem dX5_isBroken_2 : decode cX5_isBroken 2 = .ok (.ishr, 1) := by decide +kernel
theorem dX5_isBroken_3 : decode cX5_isBroken 3 = .ok (.iconst 1, 1) := by decide +kernel
theorem dX5_isBroken_4 : decode cX5_isBroken 4 = .ok (.iand, 1) := by decide +kernel
theorem dX5_isBroken_5 : decode cX5_isBroken 5 = .ok (.ifCond .ne 15, 3) := by decide +kernel
theorem dX5_isBroken_8 : decode cX5_isBroken 8 = .ok (.iload_n 3, 1) := by decide +kernel
theorem dX5_isBroken_9 : decode cX5_isBroken 9 = .ok (.iload_n 2, 1) := by decide +kernel
theorem dX5_isBroken_10 : decode cX5_isBroken 10 = .ok (.ishr, 1) := by decide +kernel
theorem dX5_isBroken_11 : decode cX5_isBroken 11 = .ok (.iconst 1, 1) := by decide +kernel
theorem dX5_isBroken_12 : decode cX5_isBroken 12 = .ok (.iand, 1) := by decide +kernel
theorem dX5_isBroken_13 : decode cX5_isBroken 13 = .ok (.ifCond .eq 7, 3) := by decide +kernel
theorem dX5_isBroken_16 : decode cX5_isBroken 16 = .ok (.iconst 1, 1) := by decide +kernel
theorem dX5_isBroken_17 : decode cX5_isBroken 17 = .ok (.goto 4, 3) := by decide +kernel
theorem dX5_isBroken_20 : decode cX5_isBroken 20 = .ok (.iconst 0, 1) := by decide +kernel
theorem dX5_isBroken_21 : decode cX5_isBroken 21 = .ok (.ireturn, 1) := by decide +kernel
theorem dX5_canLink_0 : decode cX5_canLink 0 = .ok (.aload_n 0, 1) := by decide +kernel
theorem dX5_canLink_1 : decode cX5_canLink 1 = .ok (.iload_n 1, 1) := by decide +kernel
theorem dX5_canLink_2 : decode cX5_canLink 2 = .ok (.invokevirtual 66, 3) := by decide +kernel
theorem dX5_canLink_5 : decode cX5_canLink 5 = .ok (.ifCond .eq 16, 3) := by decide +kernel
theorem dX5_canLink_8 : decode cX5_canLink 8 = .ok (.aload_n 0, 1) := by decide +kernel
theorem dX5_canLink_9 : decode cX5_canLink 9 = .ok (.iload_n 2, 1) := by decide +kernel
theorem dX5_canLink_10 : decode cX5_canLink 10 = .ok (.invokevirtual 66, 3) := by decide +kernel
theorem dX5_canLink_13 : decode cX5_canLink 13 = .ok (.ifCond .eq 8, 3) := by decide +kernel
theorem dX5_canLink_16 : decode cX5_canLink 16 = .ok (.iload_n 1, 1) := by decide +kernel
theorem dX5_canLink_17 : decode cX5_canLink 17 = .ok (.iload_n 2, 1) := by decide +kernel
theorem dX5_canLink_18 : decode cX5_canLink 18 = .ok (.if_icmp .ne 5, 3) := by decide +kernel
theorem dX5_canLink_21 : decode cX5_canLink 21 = .ok (.iconst 0, 1) := by decide +kernel
theorem dX5_canLink_22 : decode cX5_canLink 22 = .ok (.ireturn, 1) := by decide +kernel
theorem dX5_canLink_23 : decode cX5_canLink 23 = .ok (.iconst 0, 1) := by decide +kernel
theorem dX5_canLink_24 : decode cX5_canLink 24 = .ok (.istore_n 3, 1) := by decide +kernel
theorem dX5_canLink_25 : decode cX5_canLink 25 = .ok (.iload_n 3, 1) := by decide +kernel
theorem dX5_canLink_26 : decode cX5_canLink 26 = .ok (.aload_n 0, 1) := by decide +kernel
theorem dX5_canLink_27 : decode cX5_canLink 27 = .ok (.getfield 46, 3) := by decide +kernel
theorem dX5_canLink_30 : decode cX5_canLink 30 = .ok (.if_icmp .ge 31, 3) := by decide +kernel
theorem dX5_canLink_33 : decode cX5_canLink 33 = .ok (.aload_n 0, 1) := by decide +kernel
theorem dX5_canLink_34 : decode cX5_canLink 34 = .ok (.getfield 40, 3) := by decide +kernel
theorem dX5_canLink_37 : decode cX5_canLink 37 = .ok (.iload_n 3, 1) := by decide +kernel
theorem dX5_canLink_38 : decode cX5_canLink 38 = .ok (.iaload, 1) := by decide +kernel
theorem dX5_canLink_39 : decode cX5_canLink 39 = .ok (.iload_n 1, 1) := by decide +kernel
theorem dX5_canLink_40 : decode cX5_canLink 40 = .ok (.if_icmp .ne 15, 3) := by decide +kernel
theorem dX5_canLink_43 : decode cX5_canLink 43 = .ok (.aload_n 0, 1) := by decide +kernel
theorem dX5_canLink_44 : decode cX5_canLink 44 = .ok (.getfield 43, 3) := by decide +kernel
theorem dX5_canLink_47 : decode cX5_canLink 47 = .ok (.iload_n 3, 1) := by decide +kernel
theorem dX5_canLink_48 : decode cX5_canLink 48 = .ok (.iaload, 1) := by decide +kernel
theorem dX5_canLink_49 : decode cX5_canLink 49 = .ok (.iload_n 2, 1) := by decide +kernel
theorem dX5_canLink_50 : decode cX5_canLink 50 = .ok (.if_icmp .ne 5, 3) := by decide +kernel
theorem dX5_canLink_53 : decode cX5_canLink 53 = .ok (.iconst 0, 1) := by decide +kernel
theorem dX5_canLink_54 : decode cX5_canLink 54 = .ok (.ireturn, 1) := by decide +kernel
theorem dX5_canLink_55 : decode cX5_canLink 55 = .ok (.iinc 3 1, 3) := by decide +kernel
theorem dX5_canLink_58 : decode cX5_canLink 58 = .ok (.goto (-33), 3) := by decide +kernel
theorem dX5_canLink_61 : decode cX5_canLink 61 = .ok (.aload_n 0, 1) := by decide +kernel
theorem dX5_canLink_62 : decode cX5_canLink 62 = .ok (.iload_n 1, 1) := by decide +kernel
theorem dX5_canLink_63 : decode cX5_canLink 63 = .ok (.iload_n 2, 1) := by decide +kernel
theorem dX5_canLink_64 : decode cX5_canLink 64 = .ok (.aload_n 0, 1) := by decide +kernel
theorem dX5_canLink_65 : decode cX5_canLink 65 = .ok (.getfield 28, 3) := by decide +kernel
theorem dX5_canLink_68 : decode cX5_canLink 68 = .ok (.invokevirtual 69, 3) := by decide +kernel
theorem dX5_canLink_71 : decode cX5_canLink 71 = .ok (.ifCond .ne 7, 3) := by decide +kernel
theorem dX5_canLink_74 : decode cX5_canLink 74 = .ok (.iconst 1, 1) := by decide +kernel
theorem dX5_canLink_75 : decode cX5_canLink 75 = .ok (.goto 4, 3) := by decide +kernel
theorem dX5_canLink_78 : decode cX5_canLink 78 = .ok (.iconst 0, 1) := by decide +kernel
theorem dX5_canLink_79 : decode cX5_canLink 79 = .ok (.ireturn, 1) := by decide +kernel
theorem dX5_canLinkFrom_0 : decode cX5_canLinkFrom 0 = .ok (.iconst 0, 1) := by decide +kernel
theorem dX5_canLinkFrom_1 : decode cX5_canLinkFrom 1 = .ok (.istore_n 2, 1) := by decide +kernel
theorem dX5_canLinkFrom_2 : decode cX5_canLinkFrom 2 = .ok (.iload_n 2, 1) := by decide +kernel
theorem dX5_canLinkFrom_3 : decode cX5_canLinkFrom 3 = .ok (.aload_n 0, 1) := by decide +kernel
theorem dX5_canLinkFrom_4 : decode cX5_canLinkFrom 4 = .ok (.getfield 24, 3) := by decide +kernel
theorem dX5_canLinkFrom_7 : decode cX5_canLinkFrom 7 = .ok (.if_icmp .ge 20, 3) := by decide +kernel
theorem dX5_canLinkFrom_10 : decode cX5_canLinkFrom 10 = .ok (.aload_n 0, 1) := by decide +kernel
theorem dX5_canLinkFrom_11 : decode cX5_canLinkFrom 11 = .ok (.iload_n 1, 1) := by decide +kernel
theorem dX5_canLinkFrom_12 : decode cX5_canLinkFrom 12 = .ok (.iload_n 2, 1) := by decide +kernel
theorem dX5_canLinkFrom_13 : decode cX5_canLinkFrom 13 = .ok (.invokevirtual 62, 3) := by decide +kernel
theorem dX5_canLinkFrom_16 : decode cX5_canLinkFrom 16 = .ok (.ifCond .eq 5, 3) := by decide +kernel
theorem dX5_canLinkFrom_19 : decode cX5_canLinkFrom 19 = .ok (.iconst 1, 1) := by decide +kernel
theorem dX5_canLinkFrom_20 : decode cX5_canLinkFrom 20 = .ok (.ireturn, 1) := by decide +kernel
theorem dX5_canLinkFrom_21 : decode cX5_canLinkFrom 21 = .ok (.iinc 2 1, 3) := by decide +kernel
theorem dX5_canLinkFrom_24 : decode cX5_canLinkFrom 24 = .ok (.goto (-22), 3) := by decide +kernel
theorem dX5_canLinkFrom_27 : decode cX5_canLinkFrom 27 = .ok (.iconst 0, 1) := by decide +kernel
theorem dX5_canLinkFrom_28 : decode cX5_canLinkFrom 28 = .ok (.ireturn, 1) := by decide +kernel
theorem dX5_isRoomForLink_0 : decode cX5_isRoomForLink 0 = .ok (.aload_n 0, 1) := by decide +kernel
theorem dX5_isRoomForLink_1 : decode cX5_isRoomForLink 1 = .ok (.getfield 46, 3) := by decide +kernel
theorem dX5_isRoomForLink_4 : decode cX5_isRoomForLink 4 = .ok (.iconst 3, 1) := by decide +kernel
theorem dX5_isRoomForLink_5 : decode cX5_isRoomForLink 5 = .ok (.if_icmp .lt 5, 3) := by decide +kernel
theorem dX5_isRoomForLink_8 : decode cX5_isRoomForLink 8 = .ok (.iconst 0, 1) := by decide +kernel
theorem dX5_isRoomForLink_9 : decode cX5_isRoomForLink 9 = .ok (.ireturn, 1) := by decide +kernel
theorem dX5_isRoomForLink_10 : decode cX5_isRoomForLink 10 = .ok (.iconst 0, 1) := by decide +kernel
theorem dX5_isRoomForLink_11 : decode cX5_isRoomForLink 11 = .ok (.istore_n 1, 1) := by decide +kernel
theorem dX5_isRoomForLink_12 : decode cX5_isRoomForLink 12 = .ok (.iload_n 1, 1) := by decide +kernel
theorem dX5_isRoomForLink_13 : decode cX5_isRoomForLink 13 = .ok (.aload_n 0, 1) := by decide +kernel
theorem dX5_isRoomForLink_14 : decode cX5_isRoomForLink 14 = .ok (.getfield 24, 3) := by decide +kernel
theorem dX5_isRoomForLink_17 : decode cX5_isRoomForLink 17 = .ok (.if_icmp .ge 19, 3) := by decide +kernel
theorem dX5_isRoomForLink_20 : decode cX5_isRoomForLink 20 = .ok (.aload_n 0, 1) := by decide +kernel
theorem dX5_isRoomForLink_21 : decode cX5_isRoomForLink 21 = .ok (.iload_n 1, 1) := by decide +kernel
theorem dX5_isRoomForLink_22 : decode cX5_isRoomForLink 22 = .ok (.invokevirtual 58, 3) := by decide +kernel
theorem dX5_isRoomForLink_25 : decode cX5_isRoomForLink 25 = .ok (.ifCond .eq 5, 3) := by decide +kernel
theorem dX5_isRoomForLink_28 : decode cX5_isRoomForLink 28 = .ok (.iconst 1, 1) := by decide +kernel
theorem dX5_isRoomForLink_29 : decode cX5_isRoomForLink 29 = .ok (.ireturn, 1) := by decide +kernel
theorem dX5_isRoomForLink_30 : decode cX5_isRoomForLink 30 = .ok (.iinc 1 1, 3) := by decide +kernel
theorem dX5_isRoomForLink_33 : decode cX5_isRoomForLink 33 = .ok (.goto (-21), 3) := by decide +kernel
theorem dX5_isRoomForLink_36 : decode cX5_isRoomForLink 36 = .ok (.iconst 0, 1) := by decide +kernel
theorem dX5_isRoomForLink_37 : decode cX5_isRoomForLink 37 = .ok (.ireturn, 1) := by decide +kernel
theorem dX5_isRoomForAsker_0 : decode cX5_isRoomForAsker 0 = .ok (.aload_n 0, 1) := by decide +kernel
theorem dX5_isRoomForAsker_1 : decode cX5_isRoomForAsker 1 = .ok (.getfield 24, 3) := by decide +kernel
theorem dX5_isRoomForAsker_4 : decode cX5_isRoomForAsker 4 = .ok (.ifCond .le 15, 3) := by decide +kernel
theorem dX5_isRoomForAsker_7 : decode cX5_isRoomForAsker 7 = .ok (.aload_n 0, 1) := by decide +kernel
theorem dX5_isRoomForAsker_8 : decode cX5_isRoomForAsker 8 = .ok (.getfield 37, 3) := by decide +kernel
theorem dX5_isRoomForAsker_11 : decode cX5_isRoomForAsker 11 = .ok (.iconst 4, 1) := by decide +kernel
theorem dX5_isRoomForAsker_12 : decode cX5_isRoomForAsker 12 = .ok (.if_icmp .ge 7, 3) := by decide +kernel
theorem dX5_isRoomForAsker_15 : decode cX5_isRoomForAsker 15 = .ok (.iconst 1, 1) := by decide +kernel
theorem dX5_isRoomForAsker_16 : decode cX5_isRoomForAsker 16 = .ok (.goto 4, 3) := by decide +kernel
theorem dX5_isRoomForAsker_19 : decode cX5_isRoomForAsker 19 = .ok (.iconst 0, 1) := by decide +kernel
theorem dX5_isRoomForAsker_20 : decode cX5_isRoomForAsker 20 = .ok (.ireturn, 1) := by decide +kernel
theorem dX5_empty_0 : decode cX5_empty 0 = .ok (.aload_n 0, 1) := by decide +kernel
theorem dX5_empty_1 : decode cX5_empty 1 = .ok (.iconst 0, 1) := by decide +kernel
theorem dX5_empty_2 : decode cX5_empty 2 = .ok (.putfield 24, 3) := by decide +kernel
theorem dX5_empty_5 : decode cX5_empty 5 = .ok (.aload_n 0, 1) := by decide +kernel
theorem dX5_empty_6 : decode cX5_empty 6 = .ok (.iconst 0, 1) := by decide +kernel
theorem dX5_empty_7 : decode cX5_empty 7 = .ok (.putfield 28, 3) := by decide +kernel
theorem dX5_empty_10 : decode cX5_empty 10 = .ok (.aload_n 0, 1) := by decide +kernel
theorem dX5_empty_11 : decode cX5_empty 11 = .ok (.iconst 0, 1) := by decide +kernel
theorem dX5_empty_12 : decode cX5_empty 12 = .ok (.putfield 37, 3) := by decide +kernel
theorem dX5_empty_15 : decode cX5_empty 15 = .ok (.aload_n 0, 1) := by decide +kernel
theorem dX5_empty_16 : decode cX5_empty 16 = .ok (.iconst 0, 1) := by decide +kernel
theorem dX5_empty_17 : decode cX5_empty 17 = .ok (.putfield 46, 3) := by decide +kernel
theorem dX5_empty_20 : decode cX5_empty 20 = .ok (.return_, 1) := by decide +kernel
theorem dX5_wiseDay_0 : decode cX5_wiseDay 0 = .ok (.aload_n 0, 1) := by decide +kernel
theorem dX5_wiseDay_1 : decode cX5_wiseDay 1 = .ok (.iload_n 1, 1) := by decide +kernel
theorem dX5_wiseDay_2 : decode cX5_wiseDay 2 = .ok (.iload_n 2, 1) := by decide +kernel
theorem dX5_wiseDay_3 : decode cX5_wiseDay 3 = .ok (.invokevirtual 116, 3) := by decide +kernel
theorem dX5_wiseDay_6 : decode cX5_wiseDay 6 = .ok (.istore 4, 2) := by decide +kernel
theorem dX5_wiseDay_8 : decode cX5_wiseDay 8 = .ok (.aload_n 0, 1) := by decide +kernel
theorem dX5_wiseDay_9 : decode cX5_wiseDay 9 = .ok (.iload_n 2, 1) := by decide +kernel
theorem dX5_wiseDay_10 : decode cX5_wiseDay 10 = .ok (.iload 4, 2) := by decide +kernel
theorem dX5_wiseDay_12 : decode cX5_wiseDay 12 = .ok (.aload_n 0, 1) := by decide +kernel
theorem dX5_wiseDay_13 : decode cX5_wiseDay 13 = .ok (.iload_n 1, 1) := by decide +kernel
theorem dX5_wiseDay_14 : decode cX5_wiseDay 14 = .ok (.invokevirtual 119, 3) := by decide +kernel
theorem dX5_wiseDay_17 : decode cX5_wiseDay 17 = .ok (.iload 4, 2) := by decide +kernel
theorem dX5_wiseDay_19 : decode cX5_wiseDay 19 = .ok (.isub, 1) := by decide +kernel
theorem dX5_wiseDay_20 : decode cX5_wiseDay 20 = .ok (.iload_n 3, 1) := by decide +kernel
theorem dX5_wiseDay_21 : decode cX5_wiseDay 21 = .ok (.invokevirtual 122, 3) := by decide +kernel
theorem dX5_wiseDay_24 : decode cX5_wiseDay 24 = .ok (.ireturn, 1) := by decide +kernel
theorem dX5_firstBrokenLink_0 : decode cX5_firstBrokenLink 0 = .ok (.iconst 0, 1) := by decide +kernel
theorem dX5_firstBrokenLink_1 : decode cX5_firstBrokenLink 1 = .ok (.istore_n 2, 1) := by decide +kernel
theorem dX5_firstBrokenLink_2 : decode cX5_firstBrokenLink 2 = .ok (.iload_n 2, 1) := by decide +kernel
theorem dX5_firstBrokenLink_3 : decode cX5_firstBrokenLink 3 = .ok (.aload_n 0, 1) := by decide +kernel
theorem dX5_firstBrokenLink_4 : decode cX5_firstBrokenLink 4 = .ok (.getfield 46, 3) := by decide +kernel
theorem dX5_firstBrokenLink_7 : decode cX5_firstBrokenLink 7 = .ok (.if_icmp .ge 31, 3) := by decide +kernel
theorem dX5_firstBrokenLink_10 : decode cX5_firstBrokenLink 10 = .ok (.aload_n 0, 1) := by decide +kernel
theorem dX5_firstBrokenLink_11 : decode cX5_firstBrokenLink 11 = .ok (.aload_n 0, 1) := by decide +kernel
theorem dX5_firstBrokenLink_12 : decode cX5_firstBrokenLink 12 = .ok (.getfield 40, 3) := by decide +kernel
theorem dX5_firstBrokenLink_15 : decode cX5_firstBrokenLink 15 = .ok (.iload_n 2, 1) := by decide +kernel
theorem dX5_firstBrokenLink_16 : decode cX5_firstBrokenLink 16 = .ok (.iaload, 1) := by decide +kernel
theorem dX5_firstBrokenLink_17 : decode cX5_firstBrokenLink 17 = .ok (.aload_n 0, 1) := by decide +kernel
theorem dX5_firstBrokenLink_18 : decode cX5_firstBrokenLink 18 = .ok (.getfield 43, 3) := by decide +kernel
theorem dX5_firstBrokenLink_21 : decode cX5_firstBrokenLink 21 = .ok (.iload_n 2, 1) := by decide +kernel
theorem dX5_firstBrokenLink_22 : decode cX5_firstBrokenLink 22 = .ok (.iaload, 1) := by decide +kernel
theorem dX5_firstBrokenLink_23 : decode cX5_firstBrokenLink 23 = .ok (.iload_n 1, 1) := by decide +kernel
theorem dX5_firstBrokenLink_24 : decode cX5_firstBrokenLink 24 = .ok (.invokevirtual 69, 3) := by decide +kernel
theorem dX5_firstBrokenLink_27 : decode cX5_firstBrokenLink 27 = .ok (.ifCond .eq 5, 3) := by decide +kernel
theorem dX5_firstBrokenLink_30 : decode cX5_firstBrokenLink 30 = .ok (.iload_n 2, 1) := by decide +kernel
theorem dX5_firstBrokenLink_31 : decode cX5_firstBrokenLink 31 = .ok (.ireturn, 1) := by decide +kernel
theorem dX5_firstBrokenLink_32 : decode cX5_firstBrokenLink 32 = .ok (.iinc 2 1, 3) := by decide +kernel
theorem dX5_firstBrokenLink_35 : decode cX5_firstBrokenLink 35 = .ok (.goto (-33), 3) := by decide +kernel
theorem dX5_firstBrokenLink_38 : decode cX5_firstBrokenLink 38 = .ok (.bipush (-9), 2) := by decide +kernel
theorem dX5_firstBrokenLink_40 : decode cX5_firstBrokenLink 40 = .ok (.ireturn, 1) := by decide +kernel
theorem dX5_hasAsker_0 : decode cX5_hasAsker 0 = .ok (.iload_n 1, 1) := by decide +kernel
theorem dX5_hasAsker_1 : decode cX5_hasAsker 1 = .ok (.ifCond .lt 15, 3) := by decide +kernel
theorem dX5_hasAsker_4 : decode cX5_hasAsker 4 = .ok (.iload_n 1, 1) := by decide +kernel
theorem dX5_hasAsker_5 : decode cX5_hasAsker 5 = .ok (.aload_n 0, 1) := by decide +kernel
theorem dX5_hasAsker_6 : decode cX5_hasAsker 6 = .ok (.getfield 37, 3) := by decide +kernel
theorem dX5_hasAsker_9 : decode cX5_hasAsker 9 = .ok (.if_icmp .ge 7, 3) := by decide +kernel
theorem dX5_hasAsker_12 : decode cX5_hasAsker 12 = .ok (.iconst 1, 1) := by decide +kernel
theorem dX5_hasAsker_13 : decode cX5_hasAsker 13 = .ok (.goto 4, 3) := by decide +kernel
theorem dX5_hasAsker_16 : decode cX5_hasAsker 16 = .ok (.iconst 0, 1) := by decide +kernel
theorem dX5_hasAsker_17 : decode cX5_hasAsker 17 = .ok (.ireturn, 1) := by decide +kernel
theorem dX5_tellsApart_0 : decode cX5_tellsApart 0 = .ok (.iconst 0, 1) := by decide +kernel
theorem dX5_tellsApart_1 : decode cX5_tellsApart 1 = .ok (.istore_n 3, 1) := by decide +kernel
theorem dX5_tellsApart_2 : decode cX5_tellsApart 2 = .ok (.iload_n 3, 1) := by decide +kernel
theorem dX5_tellsApart_3 : decode cX5_tellsApart 3 = .ok (.iconst 1, 1) := by decide +kernel
theorem dX5_tellsApart_4 : decode cX5_tellsApart 4 = .ok (.aload_n 0, 1) := by decide +kernel
theorem dX5_tellsApart_5 : decode cX5_tellsApart 5 = .ok (.getfield 24, 3) := by decide +kernel
theorem dX5_tellsApart_8 : decode cX5_tellsApart 8 = .ok (.ishl, 1) := by decide +kernel
theorem dX5_tellsApart_9 : decode cX5_tellsApart 9 = .ok (.if_icmp .ge 25, 3) := by decide +kernel
theorem dX5_tellsApart_12 : decode cX5_tellsApart 12 = .ok (.aload_n 0, 1) := by decide +kernel
theorem dX5_tellsApart_13 : decode cX5_tellsApart 13 = .ok (.iload_n 1, 1) := by decide +kernel
theorem dX5_tellsApart_14 : decode cX5_tellsApart 14 = .ok (.iload_n 2, 1) := by decide +kernel
theorem dX5_tellsApart_15 : decode cX5_tellsApart 15 = .ok (.iload_n 3, 1) := by decide +kernel
theorem dX5_tellsApart_16 : decode cX5_tellsApart 16 = .ok (.invokevirtual 96, 3) := by decide +kernel
theorem dX5_tellsApart_19 : decode cX5_tellsApart 19 = .ok (.invokestatic 103, 3) := by decide +kernel
theorem dX5_tellsApart_22 : decode cX5_tellsApart 22 = .ok (.iconst 1, 1) := by decide +kernel
theorem dX5_tellsApart_23 : decode cX5_tellsApart 23 = .ok (.if_icmp .le 5, 3) := by decide +kernel
theorem dX5_tellsApart_26 : decode cX5_tellsApart 26 = .ok (.iconst 0, 1) := by decide +kernel
theorem dX5_tellsApart_27 : decode cX5_tellsApart 27 = .ok (.ireturn, 1) := by decide +kernel
theorem dX5_tellsApart_28 : decode cX5_tellsApart 28 = .ok (.iinc 3 1, 3) := by decide +kernel
theorem dX5_tellsApart_31 : decode cX5_tellsApart 31 = .ok (.goto (-29), 3) := by decide +kernel
theorem dX5_tellsApart_34 : decode cX5_tellsApart 34 = .ok (.iconst 1, 1) := by decide +kernel
theorem dX5_tellsApart_35 : decode cX5_tellsApart 35 = .ok (.ireturn, 1) := by decide +kernel
theorem dX5_weighWorlds_0 : decode cX5_weighWorlds 0 = .ok (.aload_n 0, 1) := by decide +kernel
theorem dX5_weighWorlds_1 : decode cX5_weighWorlds 1 = .ok (.iconst 0, 1) := by decide +kernel
theorem dX5_weighWorlds_2 : decode cX5_weighWorlds 2 = .ok (.putfield 52, 3) := by decide +kernel
theorem dX5_weighWorlds_5 : decode cX5_weighWorlds 5 = .ok (.iconst 0, 1) := by decide +kernel
theorem dX5_weighWorlds_6 : decode cX5_weighWorlds 6 = .ok (.istore_n 1, 1) := by decide +kernel
theorem dX5_weighWorlds_7 : decode cX5_weighWorlds 7 = .ok (.iload_n 1, 1) := by decide +kernel
theorem dX5_weighWorlds_8 : decode cX5_weighWorlds 8 = .ok (.iconst 1, 1) := by decide +kernel
theorem dX5_weighWorlds_9 : decode cX5_weighWorlds 9 = .ok (.aload_n 0, 1) := by decide +kernel
theorem dX5_weighWorlds_10 : decode cX5_weighWorlds 10 = .ok (.getfield 24, 3) := by decide +kernel
theorem dX5_weighWorlds_13 : decode cX5_weighWorlds 13 = .ok (.ishl, 1) := by decide +kernel
theorem dX5_weighWorlds_14 : decode cX5_weighWorlds 14 = .ok (.if_icmp .ge 86, 3) := by decide +kernel
theorem dX5_weighWorlds_17 : decode cX5_weighWorlds 17 = .ok (.aload_n 0, 1) := by decide +kernel
theorem dX5_weighWorlds_18 : decode cX5_weighWorlds 18 = .ok (.iload_n 1, 1) := by decide +kernel
theorem dX5_weighWorlds_19 : decode cX5_weighWorlds 19 = .ok (.invokevirtual 79, 3) := by decide +kernel
theorem dX5_weighWorlds_22 : decode cX5_weighWorlds 22 = .ok (.bipush (-9), 2) := by decide +kernel
theorem dX5_weighWorlds_24 : decode cX5_weighWorlds 24 = .ok (.if_icmp .ne 15, 3) := by decide +kernel
theorem dX5_weighWorlds_27 : decode cX5_weighWorlds 27 = .ok (.aload_n 0, 1) := by decide +kernel
theorem dX5_weighWorlds_28 : decode cX5_weighWorlds 28 = .ok (.dup, 1) := by decide +kernel
theorem dX5_weighWorlds_29 : decode cX5_weighWorlds 29 = .ok (.getfield 52, 3) := by decide +kernel
theorem dX5_weighWorlds_32 : decode cX5_weighWorlds 32 = .ok (.iconst 1, 1) := by decide +kernel
theorem dX5_weighWorlds_33 : decode cX5_weighWorlds 33 = .ok (.iload_n 1, 1) := by decide +kernel
theorem dX5_weighWorlds_34 : decode cX5_weighWorlds 34 = .ok (.ishl, 1) := by decide +kernel
theorem dX5_weighWorlds_35 : decode cX5_weighWorlds 35 = .ok (.ior, 1) := by decide +kernel
theorem dX5_weighWorlds_36 : decode cX5_weighWorlds 36 = .ok (.putfield 52, 3) := by decide +kernel
theorem dX5_weighWorlds_39 : decode cX5_weighWorlds 39 = .ok (.iconst 1, 1) := by decide +kernel
theorem dX5_weighWorlds_40 : decode cX5_weighWorlds 40 = .ok (.istore_n 2, 1) := by decide +kernel
theorem dX5_weighWorlds_41 : decode cX5_weighWorlds 41 = .ok (.iconst 0, 1) := by decide +kernel
theorem dX5_weighWorlds_42 : decode cX5_weighWorlds 42 = .ok (.istore_n 3, 1) := by decide +kernel
theorem dX5_weighWorlds_43 : decode cX5_weighWorlds 43 = .ok (.iload_n 3, 1) := by decide +kernel
theorem dX5_weighWorlds_44 : decode cX5_weighWorlds 44 = .ok (.aload_n 0, 1) := by decide +kernel
theorem dX5_weighWorlds_45 : decode cX5_weighWorlds 45 = .ok (.getfield 24, 3) := by decide +kernel
theorem dX5_weighWorlds_48 : decode cX5_weighWorlds 48 = .ok (.if_icmp .ge 39, 3) := by decide +kernel
theorem dX5_weighWorlds_51 : decode cX5_weighWorlds 51 = .ok (.iload_n 2, 1) := by decide +kernel
theorem dX5_weighWorlds_52 : decode cX5_weighWorlds 52 = .ok (.aload_n 0, 1) := by decide +kernel
theorem dX5_weighWorlds_53 : decode cX5_weighWorlds 53 = .ok (.iload_n 1, 1) := by decide +kernel
theorem dX5_weighWorlds_54 : decode cX5_weighWorlds 54 = .ok (.iload_n 3, 1) := by decide +kernel
theorem dX5_weighWorlds_55 : decode cX5_weighWorlds 55 = .ok (.invokevirtual 83, 3) := by decide +kernel
theorem dX5_weighWorlds_58 : decode cX5_weighWorlds 58 = .ok (.ifCond .eq 15, 3) := by decide +kernel
theorem dX5_weighWorlds_61 : decode cX5_weighWorlds 61 = .ok (.bipush 10, 2) := by decide +kernel
theorem dX5_weighWorlds_63 : decode cX5_weighWorlds 63 = .ok (.aload_n 0, 1) := by decide +kernel
theorem dX5_weighWorlds_64 : decode cX5_weighWorlds 64 = .ok (.getfield 18, 3) := by decide +kernel
theorem dX5_weighWorlds_67 : decode cX5_weighWorlds 67 = .ok (.iload_n 3, 1) := by decide +kernel
theorem dX5_weighWorlds_68 : decode cX5_weighWorlds 68 = .ok (.iaload, 1) := by decide +kernel
theorem dX5_weighWorlds_69 : decode cX5_weighWorlds 69 = .ok (.isub, 1) := by decide +kernel
theorem dX5_weighWorlds_70 : decode cX5_weighWorlds 70 = .ok (.goto 9, 3) := by decide +kernel
theorem dX5_weighWorlds_73 : decode cX5_weighWorlds 73 = .ok (.aload_n 0, 1) := by decide +kernel
theorem dX5_weighWorlds_74 : decode cX5_weighWorlds 74 = .ok (.getfield 18, 3) := by decide +kernel
theorem dX5_weighWorlds_77 : decode cX5_weighWorlds 77 = .ok (.iload_n 3, 1) := by decide +kernel
theorem dX5_weighWorlds_78 : decode cX5_weighWorlds 78 = .ok (.iaload, 1) := by decide +kernel
theorem dX5_weighWorlds_79 : decode cX5_weighWorlds 79 = .ok (.imul, 1) := by decide +kernel
theorem dX5_weighWorlds_80 : decode cX5_weighWorlds 80 = .ok (.istore_n 2, 1) := by decide +kernel
theorem dX5_weighWorlds_81 : decode cX5_weighWorlds 81 = .ok (.iinc 3 1, 3) := by decide +kernel
theorem dX5_weighWorlds_84 : decode cX5_weighWorlds 84 = .ok (.goto (-41), 3) := by decide +kernel
theorem dX5_weighWorlds_87 : decode cX5_weighWorlds 87 = .ok (.aload_n 0, 1) := by decide +kernel
theorem dX5_weighWorlds_88 : decode cX5_weighWorlds 88 = .ok (.getfield 49, 3) := by decide +kernel
theorem dX5_weighWorlds_91 : decode cX5_weighWorlds 91 = .ok (.iload_n 1, 1) := by decide +kernel
theorem dX5_weighWorlds_92 : decode cX5_weighWorlds 92 = .ok (.iload_n 2, 1) := by decide +kernel
theorem dX5_weighWorlds_93 : decode cX5_weighWorlds 93 = .ok (.iastore, 1) := by decide +kernel
theorem dX5_weighWorlds_94 : decode cX5_weighWorlds 94 = .ok (.iinc 1 1, 3) := by decide +kernel
theorem dX5_weighWorlds_97 : decode cX5_weighWorlds 97 = .ok (.goto (-90), 3) := by decide +kernel
theorem dX5_weighWorlds_100 : decode cX5_weighWorlds 100 = .ok (.return_, 1) := by decide +kernel
theorem dX5_withLinksHeld_0 : decode cX5_withLinksHeld 0 = .ok (.iload_n 1, 1) := by decide +kernel
theorem dX5_withLinksHeld_1 : decode cX5_withLinksHeld 1 = .ok (.istore_n 2, 1) := by decide +kernel
theorem dX5_withLinksHeld_2 : decode cX5_withLinksHeld 2 = .ok (.iconst 0, 1) := by decide +kernel
theorem dX5_withLinksHeld_3 : decode cX5_withLinksHeld 3 = .ok (.istore_n 3, 1) := by decide +kernel
theorem dX5_withLinksHeld_4 : decode cX5_withLinksHeld 4 = .ok (.iload_n 3, 1) := by decide +kernel
theorem dX5_withLinksHeld_5 : decode cX5_withLinksHeld 5 = .ok (.iconst 4, 1) := by decide +kernel
theorem dX5_withLinksHeld_6 : decode cX5_withLinksHeld 6 = .ok (.if_icmp .ge 37, 3) := by decide +kernel
theorem dX5_withLinksHeld_9 : decode cX5_withLinksHeld 9 = .ok (.aload_n 0, 1) := by decide +kernel
theorem dX5_withLinksHeld_10 : decode cX5_withLinksHeld 10 = .ok (.iload_n 2, 1) := by decide +kernel
theorem dX5_withLinksHeld_11 : decode cX5_withLinksHeld 11 = .ok (.invokevirtual 79, 3) := by decide +kernel
theorem dX5_withLinksHeld_14 : decode cX5_withLinksHeld 14 = .ok (.istore 4, 2) := by decide +kernel
theorem dX5_withLinksHeld_16 : decode cX5_withLinksHeld 16 = .ok (.iload 4, 2) := by decide +kernel
theorem dX5_withLinksHeld_18 : decode cX5_withLinksHeld 18 = .ok (.ifCond .ge 5, 3) := by decide +kernel
theorem dX5_withLinksHeld_21 : decode cX5_withLinksHeld 21 = .ok (.iload_n 2, 1) := by decide +kernel
theorem dX5_withLinksHeld_22 : decode cX5_withLinksHeld 22 = .ok (.ireturn, 1) := by decide +kernel
theorem dX5_withLinksHeld_23 : decode cX5_withLinksHeld 23 = .ok (.iload_n 2, 1) := by decide +kernel
theorem dX5_withLinksHeld_24 : decode cX5_withLinksHeld 24 = .ok (.iconst 1, 1) := by decide +kernel
theorem dX5_withLinksHeld_25 : decode cX5_withLinksHeld 25 = .ok (.aload_n 0, 1) := by decide +kernel
theorem dX5_withLinksHeld_26 : decode cX5_withLinksHeld 26 = .ok (.getfield 43, 3) := by decide +kernel
theorem dX5_withLinksHeld_29 : decode cX5_withLinksHeld 29 = .ok (.iload 4, 2) := by decide +kernel
theorem dX5_withLinksHeld_31 : decode cX5_withLinksHeld 31 = .ok (.iaload, 1) := by decide +kernel
theorem dX5_withLinksHeld_32 : decode cX5_withLinksHeld 32 = .ok (.ishl, 1) := by decide +kernel
theorem dX5_withLinksHeld_33 : decode cX5_withLinksHeld 33 = .ok (.iconst (-1), 1) := by decide +kernel
theorem dX5_withLinksHeld_34 : decode cX5_withLinksHeld 34 = .ok (.ixor, 1) := by decide +kernel
theorem dX5_withLinksHeld_35 : decode cX5_withLinksHeld 35 = .ok (.iand, 1) := by decide +kernel
theorem dX5_withLinksHeld_36 : decode cX5_withLinksHeld 36 = .ok (.istore_n 2, 1) := by decide +kernel
theorem dX5_withLinksHeld_37 : decode cX5_withLinksHeld 37 = .ok (.iinc 3 1, 3) := by decide +kernel
theorem dX5_withLinksHeld_40 : decode cX5_withLinksHeld 40 = .ok (.goto (-36), 3) := by decide +kernel
theorem dX5_withLinksHeld_43 : decode cX5_withLinksHeld 43 = .ok (.iload_n 2, 1) := by decide +kernel
theorem dX5_withLinksHeld_44 : decode cX5_withLinksHeld 44 = .ok (.ireturn, 1) := by decide +kernel
abbrev rm_J6_bitCount_0f7a4 : Room := { frames := 0, cells := 0, slots := 0, locals := 0 }
set_option maxHeartbeats 4000000 in
set_option maxRecDepth 100000 in
theorem c_J6_bitCount_0f7a4 (l : Launch) (D : va_G) (cI cZ cO : ClassId) (N : Nat) (p0 : Int32) (out : Int32) (h : f_J6_bitCount_0f7a4 N  p0 = some out) : Met l yJ6_bitCount_0f7a4 wsJ6_bitCount_0f7a4 rm_J6_bitCount_0f7a4 (va_Pc [.int p0] (fun U => va_P D vwCl [] U.heap ∧ va_K D vwCl (tyA cI cZ cO) U)) (vp_Si (fun r => r = out)) 0 0 (fun _ => False) := by
  refine pm_i (own := RJ6) (cc := cJ6_bitCount_0f7a4) (maxL := 1) (by decide) rfl rfl (Nat.le_of_ble_eq_true rfl) ?_
  intro p e s m args below meth c Q H ls hx hb hml hown hts hP hK hl hret
  have hl : lv_has ls 1 [(0, .int p0)] := hl
  unfold f_J6_bitCount_0f7a4 at h
  refine lv_iload_n hx hb dJ6_bitCount_0f7a4_0 rfl (lv_at hl 0 rfl) ?_
  refine lv_iload_n hx hb dJ6_bitCount_0f7a4_1 rfl (lv_at hl 0 rfl) ?_
  refine lv_iconst (v := (1 : Int32)) hx hb dJ6_bitCount_0f7a4_2 (by decide) ?_
  refine lv_iushr (v := ((p0.toUInt32 >>> ((1 : Int32).toUInt32 &&& Int32.toUInt32 31)).toInt32)) hx hb dJ6_bitCount_0f7a4_3 rfl ?_
  refine lv_ldcw (v := (1431655765 : Int32)) hx hb hown (hts (.constant RJ6 265 (1431655765)) (List.mem_of_getElem? (i := 1) rfl)) dJ6_bitCount_0f7a4_4 ?_
  refine lv_iand hx hb dJ6_bitCount_0f7a4_7 ?_
  refine lv_isub hx hb dJ6_bitCount_0f7a4_8 ?_
  refine lv_istore_n (lv' := [(0, .int (p0 - (((p0.toUInt32 >>> ((1 : Int32).toUInt32 &&& Int32.toUInt32 31)).toInt32) &&& (1431655765 : Int32))))]) hx hb dJ6_bitCount_0f7a4_9 rfl hl (by decide) rfl (fun ls hl => ?_)
  refine lv_iload_n hx hb dJ6_bitCount_0f7a4_10 rfl (lv_at hl 0 rfl) ?_
  refine lv_ldcw (v := (858993459 : Int32)) hx hb hown (hts (.constant RJ6 266 (858993459)) (List.mem_of_getElem? (i := 2) rfl)) dJ6_bitCount_0f7a4_11 ?_
  refine lv_iand hx hb dJ6_bitCount_0f7a4_14 ?_
  refine lv_iload_n hx hb dJ6_bitCount_0f7a4_15 rfl (lv_at hl 0 rfl) ?_
  refine lv_iconst (v := (2 : Int32)) hx hb dJ6_bitCount_0f7a4_16 (by decide) ?_
  refine lv_iushr (v := (((p0 - (((p0.toUInt32 >>> ((1 : Int32).toUInt32 &&& Int32.toUInt32 31)).toInt32) &&& (1431655765 : Int32))).toUInt32 >>> ((2 : Int32).toUInt32 &&& Int32.toUInt32 31)).toInt32)) hx hb dJ6_bitCount_0f7a4_17 rfl ?_
  refine lv_ldcw (v := (858993459 : Int32)) hx hb hown (hts (.constant RJ6 266 (858993459)) (List.mem_of_getElem? (i := 2) rfl)) dJ6_bitCount_0f7a4_18 ?_
  refine lv_iand hx hb dJ6_bitCount_0f7a4_21 ?_
  refine lv_iadd hx hb dJ6_bitCount_0f7a4_22 ?_
  obtain ⟨y_1, ey_1, h⟩ := mk_nmE h
  refine mk_topi ey_1 ?_
  refine lv_istore_n (lv' := [(0, .int y_1)]) hx hb dJ6_bitCount_0f7a4_23 rfl hl (by decide) rfl (fun ls hl => ?_)
  refine lv_iload_n hx hb dJ6_bitCount_0f7a4_24 rfl (lv_at hl 0 rfl) ?_
  refine lv_iload_n hx hb dJ6_bitCount_0f7a4_25 rfl (lv_at hl 0 rfl) ?_
  refine lv_iconst (v := (4 : Int32)) hx hb dJ6_bitCount_0f7a4_26 (by decide) ?_
  refine lv_iushr (v := ((y_1.toUInt32 >>> ((4 : Int32).toUInt32 &&& Int32.toUInt32 31)).toInt32)) hx hb dJ6_bitCount_0f7a4_27 rfl ?_
  refine lv_iadd hx hb dJ6_bitCount_0f7a4_28 ?_
  refine lv_ldcw (v := (252645135 : Int32)) hx hb hown (hts (.constant RJ6 267 (252645135)) (List.mem_of_getElem? (i := 3) rfl)) dJ6_bitCount_0f7a4_29 ?_
  refine lv_iand hx hb dJ6_bitCount_0f7a4_32 ?_
  refine lv_istore_n (lv' := [(0, .int ((y_1 + ((y_1.toUInt32 >>> ((4 : Int32).toUInt32 &&& Int32.toUInt32 31)).toInt32)) &&& (252645135 : Int32)))]) hx hb dJ6_bitCount_0f7a4_33 rfl hl (by decide) rfl (fun ls hl => ?_)
  refine lv_iload_n hx hb dJ6_bitCount_0f7a4_34 rfl (lv_at hl 0 rfl) ?_
  refine lv_iload_n hx hb dJ6_bitCount_0f7a4_35 rfl (lv_at hl 0 rfl) ?_
  refine lv_bipush (v := (8 : Int32)) hx hb dJ6_bitCount_0f7a4_36 (by decide) ?_
  refine lv_iushr (v := ((((y_1 + ((y_1.toUInt32 >>> ((4 : Int32).toUInt32 &&& Int32.toUInt32 31)).toInt32)) &&& (252645135 : Int32)).toUInt32 >>> ((8 : Int32).toUInt32 &&& Int32.toUInt32 31)).toInt32)) hx hb dJ6_bitCount_0f7a4_38 rfl ?_
  refine lv_iadd hx hb dJ6_bitCount_0f7a4_39 ?_
  obtain ⟨y_2, ey_2, h⟩ := mk_nmE h
  refine mk_topi ey_2 ?_
  refine lv_istore_n (lv' := [(0, .int y_2)]) hx hb dJ6_bitCount_0f7a4_40 rfl hl (by decide) rfl (fun ls hl => ?_)
  refine lv_iload_n hx hb dJ6_bitCount_0f7a4_41 rfl (lv_at hl 0 rfl) ?_
  refine lv_iload_n hx hb dJ6_bitCount_0f7a4_42 rfl (lv_at hl 0 rfl) ?_
  refine lv_bipush (v := (16 : Int32)) hx hb dJ6_bitCount_0f7a4_43 (by decide) ?_
  refine lv_iushr (v := ((y_2.toUInt32 >>> ((16 : Int32).toUInt32 &&& Int32.toUInt32 31)).toInt32)) hx hb dJ6_bitCount_0f7a4_45 rfl ?_
  refine lv_iadd hx hb dJ6_bitCount_0f7a4_46 ?_
  refine lv_istore_n (lv' := [(0, .int (y_2 + ((y_2.toUInt32 >>> ((16 : Int32).toUInt32 &&& Int32.toUInt32 31)).toInt32)))]) hx hb dJ6_bitCount_0f7a4_47 rfl hl (by decide) rfl (fun ls hl => ?_)
  refine lv_iload_n hx hb dJ6_bitCount_0f7a4_48 rfl (lv_at hl 0 rfl) ?_
  refine lv_bipush (v := (63 : Int32)) hx hb dJ6_bitCount_0f7a4_49 (by decide) ?_
  refine lv_iand hx hb dJ6_bitCount_0f7a4_51 ?_
  exact hret _ _ _ h dJ6_bitCount_0f7a4_52

abbrev rm_X5_isLate : Room := { frames := 0, cells := 0, slots := 0, locals := 0 }
set_option maxHeartbeats 4000000 in
set_option maxRecDepth 100000 in
theorem c_X5_isLate (l : Launch) (D : va_G) (cI cZ cO : ClassId) (N : Nat) (a0 : Nat → Nat) (u0 : TU) (p1 : Int32) (p2 : Int32) (out : Int32) (h : f_X5_isLate N u0 p1 p2 = some out) : Met l yX5_isLate wsX5_isLate rm_X5_isLate (va_Pc [.ref (a0 0), .int p1, .int p2] (fun U => va_P D vwCl (wX5 cI a0 u0) U.heap ∧ va_K D vwCl (tyA cI cZ cO) U)) (vp_Si (fun r => r = out)) 0 0 (fun _ => False) := by
  refine pm_z (own := RX5) (cc := cX5_isLate) (maxL := 3) (by decide) rfl rfl (Nat.le_of_ble_eq_true rfl) ?_
  intro p e s m args below meth c Q H ls hx hb hml hown hts hP hK hl hret
  have hl : lv_has ls 3 [(0, .ref (a0 0)), (1, .int p1), (2, .int p2)] := hl
  unfold f_X5_isLate at h
  refine lv_iload_n hx hb dX5_isLate_0 rfl (lv_at hl 1 rfl) ?_
  refine lv_iload_n hx hb dX5_isLate_1 rfl (lv_at hl 2 rfl) ?_
  refine lv_ishr hx hb dX5_isLate_2 ?_
  refine lv_iconst (v := (1 : Int32)) hx hb dX5_isLate_3 (by decide) ?_
  refine lv_iand hx hb dX5_isLate_4 ?_
  refine lv_if_eq (tgt := 12) hx hb dX5_isLate_5 (by decide) (fun q_1 => ?_) (fun q_1 => ?_)
  · have h := mk_ifp q_1 h
    refine lv_iconst (v := (0 : Int32)) hx hb dX5_isLate_12 (by decide) ?_
    exact hret _ _ _ h (Or.inl rfl) dX5_isLate_13
  · have h := mk_ifn q_1 h
    refine lv_iconst (v := (1 : Int32)) hx hb dX5_isLate_8 (by decide) ?_
    refine lv_goto (tgt := 13) hx hb dX5_isLate_9 (by decide) ?_
    exact hret _ _ _ h (Or.inr rfl) dX5_isLate_13

abbrev rm_X5_endIn : Room := { frames := 1, cells := 0, slots := 0, locals := 22 }
set_option maxRecDepth 20000 in
theorem k_X5_endIn_X5_isLate_83 : GoodIn wsX5_endIn (wsV RX5 83 RX5 yX5_isLate wsX5_isLate) := goodIn_r _ [3, 4, 5, 6, 7] rfl (by decide +kernel)
set_option maxHeartbeats 4000000 in
set_option maxRecDepth 100000 in
theorem c_X5_endIn (l : Launch) (D : va_G) (cI cZ cO : ClassId) (N : Nat) (a0 : Nat → Nat) (u0 : TU) (p1 : Int32) (p2 : Int32) (out : Int32) (h : f_X5_endIn N u0 p1 p2 = some out) : Met l yX5_endIn wsX5_endIn rm_X5_endIn (va_Pc [.ref (a0 0), .int p1, .int p2] (fun U => va_P D vwCl (wX5 cI a0 u0) U.heap ∧ va_K D vwCl (tyA cI cZ cO) U)) (vp_Si (fun r => r = out)) 0 0 (fun _ => False) := by
  refine pm_i (own := RX5) (cc := cX5_endIn) (maxL := 3) (by decide) rfl rfl (Nat.le_of_ble_eq_true rfl) ?_
  intro p e s m args below meth c Q H ls hx hb hml hown hts hP hK hl hret
  have hl : lv_has ls 3 [(0, .ref (a0 0)), (1, .int p1), (2, .int p2)] := hl
  have hiX5 : ∀ w ∈ u_ws RX5 TX5 14, w ∈ wsX5_endIn := mk_seg 8 14 rfl
  unfold f_X5_endIn at h
  refine lv_aload_n hx hb dX5_endIn_0 rfl (lv_at hl 0 rfl) ?_
  refine lv_iload_n hx hb dX5_endIn_1 rfl (lv_at hl 1 rfl) ?_
  refine lv_iload_n hx hb dX5_endIn_2 rfl (lv_at hl 2 rfl) ?_
  obtain ⟨r_1, er_1, h⟩ := mk_bd h
  refine pc_v (As := [.int p1, .int p2]) (rest := []) ⟨hx, hb, hml, hown, hts⟩ (c_X5_isLate l D cI cZ cO N a0 u0 p1 p2 r_1 er_1) (cwV 2 hts k_X5_endIn_X5_isLate_83 rfl rfl rfl (by decide +kernel) ⟨(Nat.le_of_ble_eq_true rfl), (Nat.le_of_ble_eq_true rfl)⟩) (va_recv hK hP (ci := 5) (q0 := 0) rfl rfl) hP hK rfl hl.1 rfl (Nat.le_of_ble_eq_true rfl) dX5_endIn_3 ⟨Nat.zero_le _, Nat.zero_le _⟩ ?_
  refine lv_if_eq (tgt := 18) hx hb dX5_endIn_6 (by decide) (fun q_2 => ?_) (fun q_2 => ?_)
  · have h := mk_ifp q_2 h
    refine lv_aload_n hx hb dX5_endIn_18 rfl (lv_at hl 0 rfl) ?_
    refine va_get (D := D) (ci := 5) (v := .ref (a0 1)) (C := RX5) (T := TX5) (N := 14) hx hb hts hiX5 hown hK hP 0 rfl rfl 0 (by decide) (hts (.fieldLink RX5 9 "ClockOnce$Town" "early" "[I") (List.mem_of_getElem? (i := 2) rfl)) (fun _ h9 => h9) rfl dX5_endIn_19 ?_
    refine lv_iload_n hx hb dX5_endIn_22 rfl (lv_at hl 2 rfl) ?_
    obtain ⟨v_3, ev_3, hiv_3, h⟩ := mk_rdE h
    refine va_iald hx hb hK hP 1 0 rfl rfl hiv_3 dX5_endIn_23 ?_
    refine mk_topi ev_3 ?_
    exact hret _ _ _ h dX5_endIn_24
  · have h := mk_ifn q_2 h
    refine lv_aload_n hx hb dX5_endIn_9 rfl (lv_at hl 0 rfl) ?_
    refine va_get (D := D) (ci := 5) (v := .ref (a0 2)) (C := RX5) (T := TX5) (N := 14) hx hb hts hiX5 hown hK hP 0 rfl rfl 1 (by decide) (hts (.fieldLink RX5 15 "ClockOnce$Town" "late" "[I") (List.mem_of_getElem? (i := 1) rfl)) (fun _ h9 => h9) rfl dX5_endIn_10 ?_
    refine lv_iload_n hx hb dX5_endIn_13 rfl (lv_at hl 2 rfl) ?_
    obtain ⟨v_4, ev_4, hiv_4, h⟩ := mk_rdE h
    refine va_iald hx hb hK hP 2 0 rfl rfl hiv_4 dX5_endIn_14 ?_
    refine mk_topi ev_4 ?_
    refine lv_goto (tgt := 24) hx hb dX5_endIn_15 (by decide) ?_
    exact hret _ _ _ h dX5_endIn_24

abbrev rm_X5_trueEnd : Room := { frames := 2, cells := 0, slots := 0, locals := 44 }
set_option maxRecDepth 20000 in
theorem k_X5_trueEnd_X5_endIn_86 : GoodIn wsX5_trueEnd (wsV RX5 86 RX5 yX5_endIn wsX5_endIn) := goodIn_r _ [2, 3, 4, 5, 6, 7, 8, 9, 10, 11, 5, 12, 13, 14, 15, 16, 17, 18, 19, 20, 21, 22, 23, 24, 25, 26] rfl (by decide +kernel)
set_option maxHeartbeats 4000000 in
set_option maxRecDepth 100000 in
theorem c_X5_trueEnd (l : Launch) (D : va_G) (cI cZ cO : ClassId) (N : Nat) (a0 : Nat → Nat) (u0 : TU) (p1 : Int32) (out : Int32) (h : f_X5_trueEnd N u0 p1 = some out) : Met l yX5_trueEnd wsX5_trueEnd rm_X5_trueEnd (va_Pc [.ref (a0 0), .int p1] (fun U => va_P D vwCl (wX5 cI a0 u0) U.heap ∧ va_K D vwCl (tyA cI cZ cO) U)) (vp_Si (fun r => r = out)) 0 0 (fun _ => False) := by
  refine pm_i (own := RX5) (cc := cX5_trueEnd) (maxL := 2) (by decide) rfl rfl (Nat.le_of_ble_eq_true rfl) ?_
  intro p e s m args below meth c Q H ls hx hb hml hown hts hP hK hl hret
  have hl : lv_has ls 2 [(0, .ref (a0 0)), (1, .int p1)] := hl
  have hiX5 : ∀ w ∈ u_ws RX5 TX5 14, w ∈ wsX5_trueEnd := mk_seg 13 14 rfl
  unfold f_X5_trueEnd at h
  refine lv_aload_n hx hb dX5_trueEnd_0 rfl (lv_at hl 0 rfl) ?_
  refine lv_aload_n hx hb dX5_trueEnd_1 rfl (lv_at hl 0 rfl) ?_
  refine va_get (D := D) (ci := 5) (v := .int (u0 0 1)) (C := RX5) (T := TX5) (N := 14) hx hb hts hiX5 hown hK hP 0 rfl rfl 5 (by decide) (hts (.fieldLink RX5 28 "ClockOnce$Town" "truth" "I") (List.mem_of_getElem? (i := 1) rfl)) (fun _ h9 => h9) rfl dX5_trueEnd_2 ?_
  refine lv_iload_n hx hb dX5_trueEnd_5 rfl (lv_at hl 1 rfl) ?_
  obtain ⟨r_1, er_1, h⟩ := mk_bd h
  refine pc_v (As := [.int (u0 0 1), .int p1]) (rest := []) ⟨hx, hb, hml, hown, hts⟩ (c_X5_endIn l D cI cZ cO N a0 u0 (u0 0 1) p1 r_1 er_1) (cwV 2 hts k_X5_trueEnd_X5_endIn_86 rfl rfl rfl (by decide +kernel) ⟨(Nat.le_of_ble_eq_true rfl), (Nat.le_of_ble_eq_true rfl)⟩) (va_recv hK hP (ci := 5) (q0 := 0) rfl rfl) hP hK rfl hl.1 rfl (Nat.le_of_ble_eq_true rfl) dX5_trueEnd_6 ⟨Nat.zero_le _, Nat.zero_le _⟩ ?_
  exact hret _ _ _ h dX5_trueEnd_9

abbrev rm_X5_thingsEndedOn : Room := { frames := 3, cells := 0, slots := 0, locals := 65 }
set_option maxRecDepth 20000 in
theorem k_X5_thingsEndedOn_X5_trueEnd_90 : GoodIn wsX5_thingsEndedOn (wsV RX5 90 RX5 yX5_trueEnd wsX5_trueEnd) := goodIn_r _ [2, 3, 4, 5, 6, 7, 8, 9, 10, 5, 11, 12, 13, 14, 15, 16, 17, 18, 19, 20, 21, 22, 23, 24, 25, 26, 27, 28, 29, 30, 31] rfl (by decide +kernel)
set_option maxHeartbeats 4000000 in
set_option maxRecDepth 100000 in
theorem c_X5_thingsEndedOn (l : Launch) (D : va_G) (cI cZ cO : ClassId) (N : Nat) (a0 : Nat → Nat) (u0 : TU) (p1 : Int32) (out : Int32) (h : f_X5_thingsEndedOn N u0 p1 = some out) : Met l yX5_thingsEndedOn wsX5_thingsEndedOn rm_X5_thingsEndedOn (va_Pc [.ref (a0 0), .int p1] (fun U => va_P D vwCl (wX5 cI a0 u0) U.heap ∧ va_K D vwCl (tyA cI cZ cO) U)) (vp_Si (fun r => r = out)) 0 0 (fun _ => False) := by
  refine pm_i (own := RX5) (cc := cX5_thingsEndedOn) (maxL := 4) (by decide) rfl rfl (Nat.le_of_ble_eq_true rfl) ?_
  intro p e s m args below meth c Q H ls hx hb hml hown hts hP hK hl hret
  have hl : lv_has ls 4 [(0, .ref (a0 0)), (1, .int p1)] := hl
  have hiX5 : ∀ w ∈ u_ws RX5 TX5 14, w ∈ wsX5_thingsEndedOn := mk_seg 18 14 rfl
  have K4 : ∀ (x1 : Int32) (x2 : Int32) (x3 : Int32) (ls : Array Slot), lv_has ls 4 [(0, .ref (a0 0)), (1, .int x1), (2, .int x2), (3, .int x3)] → lq2 (g_X5_thingsEndedOn_4 N u0 x1) N x2 x3 = some out → W p l e rm_X5_thingsEndedOn s m args below meth c H [] 0 0 Q (F0 m 4 ls []) := by
    intro x1 x2 x3 ls hl h
    refine lq2_W (Wd := fun x2 x3 => ∀ (ls : Array Slot), lv_has ls 4 [(0, .ref (a0 0)), (1, .int x1), (2, .int x2), (3, .int x3)] → W p l e rm_X5_thingsEndedOn s m args below meth c H [] 0 0 Q (F0 m 4 ls [])) (fun rec4 ih4 x2 x3 h ls hl => ?_) N x2 x3 h ls hl
    unfold g_X5_thingsEndedOn_4 at h
    refine lv_iload_n hx hb dX5_thingsEndedOn_4 rfl (lv_at hl 3 rfl) ?_
    refine lv_aload_n hx hb dX5_thingsEndedOn_5 rfl (lv_at hl 0 rfl) ?_
    refine va_get (D := D) (ci := 5) (v := .int (u0 0 0)) (C := RX5) (T := TX5) (N := 14) hx hb hts hiX5 hown hK hP 0 rfl rfl 4 (by decide) (hts (.fieldLink RX5 24 "ClockOnce$Town" "things" "I") (List.mem_of_getElem? (i := 1) rfl)) (fun _ h9 => h9) rfl dX5_thingsEndedOn_6 ?_
    refine lv_icmp_ge (tgt := 33) hx hb dX5_thingsEndedOn_9 (by decide) (fun q_1 => ?_) (fun q_1 => ?_)
    · have h := mk_ifp q_1 h
      refine lv_iload_n hx hb dX5_thingsEndedOn_33 rfl (lv_at hl 2 rfl) ?_
      exact hret _ _ _ h dX5_thingsEndedOn_34
    · have h := mk_ifn q_1 h
      refine lv_aload_n hx hb dX5_thingsEndedOn_12 rfl (lv_at hl 0 rfl) ?_
      refine lv_iload_n hx hb dX5_thingsEndedOn_13 rfl (lv_at hl 3 rfl) ?_
      obtain ⟨r_2, er_2, h⟩ := mk_bd h
      refine pc_v (As := [.int x3]) (rest := []) ⟨hx, hb, hml, hown, hts⟩ (c_X5_trueEnd l D cI cZ cO N a0 u0 x3 r_2 er_2) (cwV 1 hts k_X5_thingsEndedOn_X5_trueEnd_90 rfl rfl rfl (by decide +kernel) ⟨(Nat.le_of_ble_eq_true rfl), (Nat.le_of_ble_eq_true rfl)⟩) (va_recv hK hP (ci := 5) (q0 := 0) rfl rfl) hP hK rfl hl.1 rfl (Nat.le_of_ble_eq_true rfl) dX5_thingsEndedOn_14 ⟨Nat.zero_le _, Nat.zero_le _⟩ ?_
      refine lv_iload_n hx hb dX5_thingsEndedOn_17 rfl (lv_at hl 1 rfl) ?_
      refine lv_icmp_gt (tgt := 27) hx hb dX5_thingsEndedOn_18 (by decide) (fun q_3 => ?_) (fun q_3 => ?_)
      · have h := mk_ifp q_3 h
        refine lv_iinc (v := (x3 + (1 : Int32))) (lv' := [(3, .int (x3 + (1 : Int32))), (0, .ref (a0 0)), (1, .int x1), (2, .int x2)]) hx hb dX5_thingsEndedOn_27 hl (k := 3) rfl rfl (by decide) rfl (fun ls hl => ?_)
        refine lv_goto (tgt := 4) hx hb dX5_thingsEndedOn_30 (by decide) ?_
        exact ih4 x2 (x3 + (1 : Int32)) h ls (lv_sub hl [1, 2, 3, 0] rfl)
      · have h := mk_ifn q_3 h
        refine lv_iload_n hx hb dX5_thingsEndedOn_21 rfl (lv_at hl 2 rfl) ?_
        refine lv_iconst (v := (1 : Int32)) hx hb dX5_thingsEndedOn_22 (by decide) ?_
        refine lv_iload_n hx hb dX5_thingsEndedOn_23 rfl (lv_at hl 3 rfl) ?_
        refine lv_ishl hx hb dX5_thingsEndedOn_24 ?_
        refine lv_ior hx hb dX5_thingsEndedOn_25 ?_
        refine lv_istore_n (lv' := [(2, .int (x2 ||| ((1 : Int32) <<< (x3 &&& 31)))), (0, .ref (a0 0)), (1, .int x1), (3, .int x3)]) hx hb dX5_thingsEndedOn_26 rfl hl (by decide) rfl (fun ls hl => ?_)
        refine lv_iinc (v := (x3 + (1 : Int32))) (lv' := [(3, .int (x3 + (1 : Int32))), (2, .int (x2 ||| ((1 : Int32) <<< (x3 &&& 31)))), (0, .ref (a0 0)), (1, .int x1)]) hx hb dX5_thingsEndedOn_27 hl (k := 3) rfl rfl (by decide) rfl (fun ls hl => ?_)
        refine lv_goto (tgt := 4) hx hb dX5_thingsEndedOn_30 (by decide) ?_
        exact ih4 (x2 ||| ((1 : Int32) <<< (x3 &&& 31))) (x3 + (1 : Int32)) h ls (lv_sub hl [2, 3, 1, 0] rfl)
  unfold f_X5_thingsEndedOn at h
  refine lv_iconst (v := (0 : Int32)) hx hb dX5_thingsEndedOn_0 (by decide) ?_
  refine lv_istore_n (lv' := [(2, .int (0 : Int32)), (0, .ref (a0 0)), (1, .int p1)]) hx hb dX5_thingsEndedOn_1 rfl hl (by decide) rfl (fun ls hl => ?_)
  refine lv_iconst (v := (0 : Int32)) hx hb dX5_thingsEndedOn_2 (by decide) ?_
  refine lv_istore_n (lv' := [(3, .int (0 : Int32)), (2, .int (0 : Int32)), (0, .ref (a0 0)), (1, .int p1)]) hx hb dX5_thingsEndedOn_3 rfl hl (by decide) rfl (fun ls hl => ?_)
  exact K4 p1 (0 : Int32) (0 : Int32) ls (lv_sub hl [2, 3, 1, 0] rfl) h

abbrev rm_X5_worldsLike : Room := { frames := 0, cells := 0, slots := 0, locals := 0 }
set_option maxHeartbeats 4000000 in
set_option maxRecDepth 100000 in
theorem c_X5_worldsLike (l : Launch) (D : va_G) (cI cZ cO : ClassId) (N : Nat) (a0 : Nat → Nat) (u0 : TU) (p1 : Int32) (p2 : Int32) (p3 : Int32) (out : Int32) (h : f_X5_worldsLike N u0 p1 p2 p3 = some out) : Met l yX5_worldsLike wsX5_worldsLike rm_X5_worldsLike (va_Pc [.ref (a0 0), .int p1, .int p2, .int p3] (fun U => va_P D vwCl (wX5 cI a0 u0) U.heap ∧ va_K D vwCl (tyA cI cZ cO) U)) (vp_Si (fun r => r = out)) 0 0 (fun _ => False) := by
  refine pm_i (own := RX5) (cc := cX5_worldsLike) (maxL := 6) (by decide) rfl rfl (Nat.le_of_ble_eq_true rfl) ?_
  intro p e s m args below meth c Q H ls hx hb hml hown hts hP hK hl hret
  have hl : lv_has ls 6 [(0, .ref (a0 0)), (1, .int p1), (2, .int p2), (3, .int p3)] := hl
  have hiX5 : ∀ w ∈ u_ws RX5 TX5 14, w ∈ wsX5_worldsLike := mk_seg 2 14 rfl
  have K6 : ∀ (x1 : Int32) (x2 : Int32) (x3 : Int32) (x4 : Int32) (x5 : Int32) (ls : Array Slot), lv_has ls 6 [(0, .ref (a0 0)), (1, .int x1), (2, .int x2), (3, .int x3), (4, .int x4), (5, .int x5)] → lq2 (g_X5_worldsLike_6 N u0 x1 x2 x3) N x4 x5 = some out → W p l e rm_X5_worldsLike s m args below meth c H [] 0 0 Q (F0 m 6 ls []) := by
    intro x1 x2 x3 x4 x5 ls hl h
    refine lq2_W (Wd := fun x4 x5 => ∀ (ls : Array Slot), lv_has ls 6 [(0, .ref (a0 0)), (1, .int x1), (2, .int x2), (3, .int x3), (4, .int x4), (5, .int x5)] → W p l e rm_X5_worldsLike s m args below meth c H [] 0 0 Q (F0 m 6 ls [])) (fun rec6 ih6 x4 x5 h ls hl => ?_) N x4 x5 h ls hl
    unfold g_X5_worldsLike_6 at h
    refine lv_iload hx hb dX5_worldsLike_6 (lv_at hl 5 rfl) ?_
    refine lv_iconst (v := (1 : Int32)) hx hb dX5_worldsLike_8 (by decide) ?_
    refine lv_aload_n hx hb dX5_worldsLike_9 rfl (lv_at hl 0 rfl) ?_
    refine va_get (D := D) (ci := 5) (v := .int (u0 0 0)) (C := RX5) (T := TX5) (N := 14) hx hb hts hiX5 hown hK hP 0 rfl rfl 4 (by decide) (hts (.fieldLink RX5 24 "ClockOnce$Town" "things" "I") (List.mem_of_getElem? (i := 1) rfl)) (fun _ h9 => h9) rfl dX5_worldsLike_10 ?_
    refine lv_ishl hx hb dX5_worldsLike_13 ?_
    refine lv_icmp_ge (tgt := 50) hx hb dX5_worldsLike_14 (by decide) (fun q_1 => ?_) (fun q_1 => ?_)
    · have h := mk_ifp q_1 h
      refine lv_iload hx hb dX5_worldsLike_50 (lv_at hl 4 rfl) ?_
      exact hret _ _ _ h dX5_worldsLike_52
    · have h := mk_ifn q_1 h
      refine lv_iload_n hx hb dX5_worldsLike_17 rfl (lv_at hl 1 rfl) ?_
      refine lv_iload hx hb dX5_worldsLike_18 (lv_at hl 5 rfl) ?_
      refine lv_ishr hx hb dX5_worldsLike_20 ?_
      refine lv_iconst (v := (1 : Int32)) hx hb dX5_worldsLike_21 (by decide) ?_
      refine lv_iand hx hb dX5_worldsLike_22 ?_
      refine lv_if_eq (tgt := 44) hx hb dX5_worldsLike_23 (by decide) (fun q_2 => ?_) (fun q_2 => ?_)
      · have h := mk_ifp q_2 h
        refine lv_iinc (v := (x5 + (1 : Int32))) (lv' := [(5, .int (x5 + (1 : Int32))), (0, .ref (a0 0)), (1, .int x1), (2, .int x2), (3, .int x3), (4, .int x4)]) hx hb dX5_worldsLike_44 hl (k := 5) rfl rfl (by decide) rfl (fun ls hl => ?_)
        refine lv_goto (tgt := 6) hx hb dX5_worldsLike_47 (by decide) ?_
        exact ih6 x4 (x5 + (1 : Int32)) h ls (lv_sub hl [1, 2, 3, 4, 5, 0] rfl)
      · have h := mk_ifn q_2 h
        refine lv_iload hx hb dX5_worldsLike_26 (lv_at hl 5 rfl) ?_
        refine lv_iload_n hx hb dX5_worldsLike_28 rfl (lv_at hl 3 rfl) ?_
        refine lv_ixor hx hb dX5_worldsLike_29 ?_
        refine lv_iload_n hx hb dX5_worldsLike_30 rfl (lv_at hl 2 rfl) ?_
        refine lv_iand hx hb dX5_worldsLike_31 ?_
        refine lv_if_ne (tgt := 44) hx hb dX5_worldsLike_32 (by decide) (fun q_3 => ?_) (fun q_3 => ?_)
        · have h := mk_ifn q_3 h
          refine lv_iinc (v := (x5 + (1 : Int32))) (lv' := [(5, .int (x5 + (1 : Int32))), (0, .ref (a0 0)), (1, .int x1), (2, .int x2), (3, .int x3), (4, .int x4)]) hx hb dX5_worldsLike_44 hl (k := 5) rfl rfl (by decide) rfl (fun ls hl => ?_)
          refine lv_goto (tgt := 6) hx hb dX5_worldsLike_47 (by decide) ?_
          exact ih6 x4 (x5 + (1 : Int32)) h ls (lv_sub hl [1, 2, 3, 4, 5, 0] rfl)
        · have h := mk_ifp q_3 h
          refine lv_iload hx hb dX5_worldsLike_35 (lv_at hl 4 rfl) ?_
          refine lv_iconst (v := (1 : Int32)) hx hb dX5_worldsLike_37 (by decide) ?_
          refine lv_iload hx hb dX5_worldsLike_38 (lv_at hl 5 rfl) ?_
          refine lv_ishl hx hb dX5_worldsLike_40 ?_
          refine lv_ior hx hb dX5_worldsLike_41 ?_
          refine lv_istore (lv' := [(4, .int (x4 ||| ((1 : Int32) <<< (x5 &&& 31)))), (0, .ref (a0 0)), (1, .int x1), (2, .int x2), (3, .int x3), (5, .int x5)]) hx hb dX5_worldsLike_42 hl (by decide) rfl (fun ls hl => ?_)
          refine lv_iinc (v := (x5 + (1 : Int32))) (lv' := [(5, .int (x5 + (1 : Int32))), (4, .int (x4 ||| ((1 : Int32) <<< (x5 &&& 31)))), (0, .ref (a0 0)), (1, .int x1), (2, .int x2), (3, .int x3)]) hx hb dX5_worldsLike_44 hl (k := 5) rfl rfl (by decide) rfl (fun ls hl => ?_)
          refine lv_goto (tgt := 6) hx hb dX5_worldsLike_47 (by decide) ?_
          exact ih6 (x4 ||| ((1 : Int32) <<< (x5 &&& 31))) (x5 + (1 : Int32)) h ls (lv_sub hl [2, 3, 4, 5, 1, 0] rfl)
  unfold f_X5_worldsLike at h
  refine lv_iconst (v := (0 : Int32)) hx hb dX5_worldsLike_0 (by decide) ?_
  refine lv_istore (lv' := [(4, .int (0 : Int32)), (0, .ref (a0 0)), (1, .int p1), (2, .int p2), (3, .int p3)]) hx hb dX5_worldsLike_1 hl (by decide) rfl (fun ls hl => ?_)
  refine lv_iconst (v := (0 : Int32)) hx hb dX5_worldsLike_3 (by decide) ?_
  refine lv_istore (lv' := [(5, .int (0 : Int32)), (4, .int (0 : Int32)), (0, .ref (a0 0)), (1, .int p1), (2, .int p2), (3, .int p3)]) hx hb dX5_worldsLike_4 hl (by decide) rfl (fun ls hl => ?_)
  exact K6 p1 p2 p3 (0 : Int32) (0 : Int32) ls (lv_sub hl [2, 3, 4, 5, 1, 0] rfl) h

abbrev rm_X5_othersEndAfter : Room := { frames := 2, cells := 0, slots := 0, locals := 44 }
set_option maxRecDepth 20000 in
theorem k_X5_othersEndAfter_X5_endIn_86 : GoodIn wsX5_othersEndAfter (wsV RX5 86 RX5 yX5_endIn wsX5_endIn) := goodIn_r _ [2, 3, 4, 5, 6, 7, 8, 9, 10, 11, 5, 12, 13, 14, 15, 16, 17, 18, 19, 20, 21, 22, 23, 24, 25, 26] rfl (by decide +kernel)
set_option maxHeartbeats 4000000 in
set_option maxRecDepth 100000 in
theorem c_X5_othersEndAfter (l : Launch) (D : va_G) (cI cZ cO : ClassId) (N : Nat) (a0 : Nat → Nat) (u0 : TU) (p1 : Int32) (p2 : Int32) (p3 : Int32) (out : Int32) (h : f_X5_othersEndAfter N u0 p1 p2 p3 = some out) : Met l yX5_othersEndAfter wsX5_othersEndAfter rm_X5_othersEndAfter (va_Pc [.ref (a0 0), .int p1, .int p2, .int p3] (fun U => va_P D vwCl (wX5 cI a0 u0) U.heap ∧ va_K D vwCl (tyA cI cZ cO) U)) (vp_Si (fun r => r = out)) 0 0 (fun _ => False) := by
  refine pm_z (own := RX5) (cc := cX5_othersEndAfter) (maxL := 5) (by decide) rfl rfl (Nat.le_of_ble_eq_true rfl) ?_
  intro p e s m args below meth c Q H ls hx hb hml hown hts hP hK hl hret
  have hl : lv_has ls 5 [(0, .ref (a0 0)), (1, .int p1), (2, .int p2), (3, .int p3)] := hl
  have hiX5 : ∀ w ∈ u_ws RX5 TX5 14, w ∈ wsX5_othersEndAfter := mk_seg 13 14 rfl
  have K3 : ∀ (x1 : Int32) (x2 : Int32) (x3 : Int32) (x4 : Int32) (ls : Array Slot), lv_has ls 5 [(0, .ref (a0 0)), (1, .int x1), (2, .int x2), (3, .int x3), (4, .int x4)] → lq1 (g_X5_othersEndAfter_3 N u0 x1 x2 x3) N x4 = some out → W p l e rm_X5_othersEndAfter s m args below meth c H [] 0 0 Q (F0 m 3 ls []) := by
    intro x1 x2 x3 x4 ls hl h
    refine lq1_W (Wd := fun x4 => ∀ (ls : Array Slot), lv_has ls 5 [(0, .ref (a0 0)), (1, .int x1), (2, .int x2), (3, .int x3), (4, .int x4)] → W p l e rm_X5_othersEndAfter s m args below meth c H [] 0 0 Q (F0 m 3 ls [])) (fun rec3 ih3 x4 h ls hl => ?_) N x4 h ls hl
    unfold g_X5_othersEndAfter_3 at h
    refine lv_iload hx hb dX5_othersEndAfter_3 (lv_at hl 4 rfl) ?_
    refine lv_aload_n hx hb dX5_othersEndAfter_5 rfl (lv_at hl 0 rfl) ?_
    refine va_get (D := D) (ci := 5) (v := .int (u0 0 0)) (C := RX5) (T := TX5) (N := 14) hx hb hts hiX5 hown hK hP 0 rfl rfl 4 (by decide) (hts (.fieldLink RX5 24 "ClockOnce$Town" "things" "I") (List.mem_of_getElem? (i := 1) rfl)) (fun _ h9 => h9) rfl dX5_othersEndAfter_6 ?_
    refine lv_icmp_ge (tgt := 40) hx hb dX5_othersEndAfter_9 (by decide) (fun q_1 => ?_) (fun q_1 => ?_)
    · have h := mk_ifp q_1 h
      refine lv_iconst (v := (1 : Int32)) hx hb dX5_othersEndAfter_40 (by decide) ?_
      exact hret _ _ _ h (Or.inr rfl) dX5_othersEndAfter_41
    · have h := mk_ifn q_1 h
      refine lv_iload_n hx hb dX5_othersEndAfter_12 rfl (lv_at hl 2 rfl) ?_
      refine lv_iload hx hb dX5_othersEndAfter_13 (lv_at hl 4 rfl) ?_
      refine lv_ishr hx hb dX5_othersEndAfter_15 ?_
      refine lv_iconst (v := (1 : Int32)) hx hb dX5_othersEndAfter_16 (by decide) ?_
      refine lv_iand hx hb dX5_othersEndAfter_17 ?_
      refine lv_if_ne (tgt := 34) hx hb dX5_othersEndAfter_18 (by decide) (fun q_2 => ?_) (fun q_2 => ?_)
      · have h := mk_ifn q_2 h
        refine lv_iinc (v := (x4 + (1 : Int32))) (lv' := [(4, .int (x4 + (1 : Int32))), (0, .ref (a0 0)), (1, .int x1), (2, .int x2), (3, .int x3)]) hx hb dX5_othersEndAfter_34 hl (k := 4) rfl rfl (by decide) rfl (fun ls hl => ?_)
        refine lv_goto (tgt := 3) hx hb dX5_othersEndAfter_37 (by decide) ?_
        exact ih3 (x4 + (1 : Int32)) h ls (lv_sub hl [1, 2, 3, 4, 0] rfl)
      · have h := mk_ifp q_2 h
        refine lv_aload_n hx hb dX5_othersEndAfter_21 rfl (lv_at hl 0 rfl) ?_
        refine lv_iload_n hx hb dX5_othersEndAfter_22 rfl (lv_at hl 1 rfl) ?_
        refine lv_iload hx hb dX5_othersEndAfter_23 (lv_at hl 4 rfl) ?_
        obtain ⟨r_3, er_3, h⟩ := mk_bd h
        refine pc_v (As := [.int x1, .int x4]) (rest := []) ⟨hx, hb, hml, hown, hts⟩ (c_X5_endIn l D cI cZ cO N a0 u0 x1 x4 r_3 er_3) (cwV 2 hts k_X5_othersEndAfter_X5_endIn_86 rfl rfl rfl (by decide +kernel) ⟨(Nat.le_of_ble_eq_true rfl), (Nat.le_of_ble_eq_true rfl)⟩) (va_recv hK hP (ci := 5) (q0 := 0) rfl rfl) hP hK rfl hl.1 rfl (Nat.le_of_ble_eq_true rfl) dX5_othersEndAfter_25 ⟨Nat.zero_le _, Nat.zero_le _⟩ ?_
        refine lv_iload_n hx hb dX5_othersEndAfter_28 rfl (lv_at hl 3 rfl) ?_
        refine lv_icmp_gt (tgt := 34) hx hb dX5_othersEndAfter_29 (by decide) (fun q_4 => ?_) (fun q_4 => ?_)
        · have h := mk_ifp q_4 h
          refine lv_iinc (v := (x4 + (1 : Int32))) (lv' := [(4, .int (x4 + (1 : Int32))), (0, .ref (a0 0)), (1, .int x1), (2, .int x2), (3, .int x3)]) hx hb dX5_othersEndAfter_34 hl (k := 4) rfl rfl (by decide) rfl (fun ls hl => ?_)
          refine lv_goto (tgt := 3) hx hb dX5_othersEndAfter_37 (by decide) ?_
          exact ih3 (x4 + (1 : Int32)) h ls (lv_sub hl [1, 2, 3, 4, 0] rfl)
        · have h := mk_ifn q_4 h
          refine lv_iconst (v := (0 : Int32)) hx hb dX5_othersEndAfter_32 (by decide) ?_
          exact hret _ _ _ h (Or.inl rfl) dX5_othersEndAfter_33
  unfold f_X5_othersEndAfter at h
  refine lv_iconst (v := (0 : Int32)) hx hb dX5_othersEndAfter_0 (by decide) ?_
  refine lv_istore (lv' := [(4, .int (0 : Int32)), (0, .ref (a0 0)), (1, .int p1), (2, .int p2), (3, .int p3)]) hx hb dX5_othersEndAfter_1 hl (by decide) rfl (fun ls hl => ?_)
  exact K3 p1 p2 p3 (0 : Int32) ls (lv_sub hl [1, 2, 3, 4, 0] rfl) h

abbrev rm_X5_worldsSeenOn : Room := { frames := 4, cells := 0, slots := 0, locals := 88 }
set_option maxRecDepth 20000 in
theorem k_X5_worldsSeenOn_X5_othersEndAfter_100 : GoodIn wsX5_worldsSeenOn (wsV RX5 100 RX5 yX5_othersEndAfter wsX5_othersEndAfter) := goodIn_r _ [27, 28, 29, 7, 30, 3, 13, 14, 15, 7, 16, 17, 18, 19, 20, 21, 22, 31, 32, 33, 34, 35, 36, 37, 38, 39, 40, 41, 42, 43, 44] rfl (by decide +kernel)
set_option maxRecDepth 20000 in
theorem k_X5_worldsSeenOn_X5_thingsEndedOn_93 : GoodIn wsX5_worldsSeenOn (wsV RX5 93 RX5 yX5_thingsEndedOn wsX5_thingsEndedOn) := goodIn_r _ [4, 5, 6, 7, 8, 3, 9, 10, 11, 7, 12, 2, 13, 14, 15, 16, 17, 18, 19, 20, 21, 22, 31, 32, 33, 34, 35, 36, 37, 38, 39, 40, 41, 42, 43, 44] rfl (by decide +kernel)
set_option maxRecDepth 20000 in
theorem k_X5_worldsSeenOn_X5_worldsLike_96 : GoodIn wsX5_worldsSeenOn (wsV RX5 96 RX5 yX5_worldsLike wsX5_worldsLike) := goodIn_r _ [23, 24, 25, 7, 26, 3, 31, 32, 33, 34, 35, 36, 37, 38, 39, 40, 41, 42, 43, 44] rfl (by decide +kernel)
set_option maxHeartbeats 4000000 in
set_option maxRecDepth 100000 in
theorem c_X5_worldsSeenOn (l : Launch) (D : va_G) (cI cZ cO : ClassId) (N : Nat) (a0 : Nat → Nat) (u0 : TU) (p1 : Int32) (out : Int32) (h : f_X5_worldsSeenOn N u0 p1 = some out) : Met l yX5_worldsSeenOn wsX5_worldsSeenOn rm_X5_worldsSeenOn (va_Pc [.ref (a0 0), .int p1] (fun U => va_P D vwCl (wX5 cI a0 u0) U.heap ∧ va_K D vwCl (tyA cI cZ cO) U)) (vp_Si (fun r => r = out)) 0 0 (fun _ => False) := by
  refine pm_i (own := RX5) (cc := cX5_worldsSeenOn) (maxL := 6) (by decide) rfl rfl (Nat.le_of_ble_eq_true rfl) ?_
  intro p e s m args below meth c Q H ls hx hb hml hown hts hP hK hl hret
  have hl : lv_has ls 6 [(0, .ref (a0 0)), (1, .int p1)] := hl
  have hiX5 : ∀ w ∈ u_ws RX5 TX5 14, w ∈ wsX5_worldsSeenOn := mk_seg 31 14 rfl
  have K26 : ∀ (x1 : Int32) (x2 : Int32) (x3 : Int32) (x4 : Int32) (x5 : Int32) (ls : Array Slot), lv_has ls 6 [(0, .ref (a0 0)), (1, .int x1), (2, .int x2), (3, .int x3), (4, .int x4), (5, .int x5)] → lq2 (g_X5_worldsSeenOn_26 N u0 x1 x2 x3) N x4 x5 = some out → W p l e rm_X5_worldsSeenOn s m args below meth c H [] 0 0 Q (F0 m 26 ls []) := by
    intro x1 x2 x3 x4 x5 ls hl h
    refine lq2_W (Wd := fun x4 x5 => ∀ (ls : Array Slot), lv_has ls 6 [(0, .ref (a0 0)), (1, .int x1), (2, .int x2), (3, .int x3), (4, .int x4), (5, .int x5)] → W p l e rm_X5_worldsSeenOn s m args below meth c H [] 0 0 Q (F0 m 26 ls [])) (fun rec26 ih26 x4 x5 h ls hl => ?_) N x4 x5 h ls hl
    unfold g_X5_worldsSeenOn_26 at h
    refine lv_iload hx hb dX5_worldsSeenOn_26 (lv_at hl 5 rfl) ?_
    refine lv_iconst (v := (1 : Int32)) hx hb dX5_worldsSeenOn_28 (by decide) ?_
    refine lv_aload_n hx hb dX5_worldsSeenOn_29 rfl (lv_at hl 0 rfl) ?_
    refine va_get (D := D) (ci := 5) (v := .int (u0 0 0)) (C := RX5) (T := TX5) (N := 14) hx hb hts hiX5 hown hK hP 0 rfl rfl 4 (by decide) (hts (.fieldLink RX5 24 "ClockOnce$Town" "things" "I") (List.mem_of_getElem? (i := 3) rfl)) (fun _ h9 => h9) rfl dX5_worldsSeenOn_30 ?_
    refine lv_ishl hx hb dX5_worldsSeenOn_33 ?_
    refine lv_icmp_ge (tgt := 72) hx hb dX5_worldsSeenOn_34 (by decide) (fun q_1 => ?_) (fun q_1 => ?_)
    · have h := mk_ifp q_1 h
      refine lv_iload hx hb dX5_worldsSeenOn_72 (lv_at hl 4 rfl) ?_
      exact hret _ _ _ h dX5_worldsSeenOn_74
    · have h := mk_ifn q_1 h
      refine lv_iload_n hx hb dX5_worldsSeenOn_37 rfl (lv_at hl 3 rfl) ?_
      refine lv_iload hx hb dX5_worldsSeenOn_38 (lv_at hl 5 rfl) ?_
      refine lv_ishr hx hb dX5_worldsSeenOn_40 ?_
      refine lv_iconst (v := (1 : Int32)) hx hb dX5_worldsSeenOn_41 (by decide) ?_
      refine lv_iand hx hb dX5_worldsSeenOn_42 ?_
      refine lv_if_eq (tgt := 66) hx hb dX5_worldsSeenOn_43 (by decide) (fun q_2 => ?_) (fun q_2 => ?_)
      · have h := mk_ifp q_2 h
        refine lv_iinc (v := (x5 + (1 : Int32))) (lv' := [(5, .int (x5 + (1 : Int32))), (0, .ref (a0 0)), (1, .int x1), (2, .int x2), (3, .int x3), (4, .int x4)]) hx hb dX5_worldsSeenOn_66 hl (k := 5) rfl rfl (by decide) rfl (fun ls hl => ?_)
        refine lv_goto (tgt := 26) hx hb dX5_worldsSeenOn_69 (by decide) ?_
        exact ih26 x4 (x5 + (1 : Int32)) h ls (lv_sub hl [1, 2, 3, 4, 5, 0] rfl)
      · have h := mk_ifn q_2 h
        refine lv_aload_n hx hb dX5_worldsSeenOn_46 rfl (lv_at hl 0 rfl) ?_
        refine lv_iload hx hb dX5_worldsSeenOn_47 (lv_at hl 5 rfl) ?_
        refine lv_iload_n hx hb dX5_worldsSeenOn_49 rfl (lv_at hl 2 rfl) ?_
        refine lv_iload_n hx hb dX5_worldsSeenOn_50 rfl (lv_at hl 1 rfl) ?_
        obtain ⟨r_3, er_3, h⟩ := mk_bd h
        refine pc_v (As := [.int x5, .int x2, .int x1]) (rest := []) ⟨hx, hb, hml, hown, hts⟩ (c_X5_othersEndAfter l D cI cZ cO N a0 u0 x5 x2 x1 r_3 er_3) (cwV 3 hts k_X5_worldsSeenOn_X5_othersEndAfter_100 rfl rfl rfl (by decide +kernel) ⟨(Nat.le_of_ble_eq_true rfl), (Nat.le_of_ble_eq_true rfl)⟩) (va_recv hK hP (ci := 5) (q0 := 0) rfl rfl) hP hK rfl hl.1 rfl (Nat.le_of_ble_eq_true rfl) dX5_worldsSeenOn_51 ⟨Nat.zero_le _, Nat.zero_le _⟩ ?_
        refine lv_if_eq (tgt := 66) hx hb dX5_worldsSeenOn_54 (by decide) (fun q_4 => ?_) (fun q_4 => ?_)
        · have h := mk_ifp q_4 h
          refine lv_iinc (v := (x5 + (1 : Int32))) (lv' := [(5, .int (x5 + (1 : Int32))), (0, .ref (a0 0)), (1, .int x1), (2, .int x2), (3, .int x3), (4, .int x4)]) hx hb dX5_worldsSeenOn_66 hl (k := 5) rfl rfl (by decide) rfl (fun ls hl => ?_)
          refine lv_goto (tgt := 26) hx hb dX5_worldsSeenOn_69 (by decide) ?_
          exact ih26 x4 (x5 + (1 : Int32)) h ls (lv_sub hl [1, 2, 3, 4, 5, 0] rfl)
        · have h := mk_ifn q_4 h
          refine lv_iload hx hb dX5_worldsSeenOn_57 (lv_at hl 4 rfl) ?_
          refine lv_iconst (v := (1 : Int32)) hx hb dX5_worldsSeenOn_59 (by decide) ?_
          refine lv_iload hx hb dX5_worldsSeenOn_60 (lv_at hl 5 rfl) ?_
          refine lv_ishl hx hb dX5_worldsSeenOn_62 ?_
          refine lv_ior hx hb dX5_worldsSeenOn_63 ?_
          refine lv_istore (lv' := [(4, .int (x4 ||| ((1 : Int32) <<< (x5 &&& 31)))), (0, .ref (a0 0)), (1, .int x1), (2, .int x2), (3, .int x3), (5, .int x5)]) hx hb dX5_worldsSeenOn_64 hl (by decide) rfl (fun ls hl => ?_)
          refine lv_iinc (v := (x5 + (1 : Int32))) (lv' := [(5, .int (x5 + (1 : Int32))), (4, .int (x4 ||| ((1 : Int32) <<< (x5 &&& 31)))), (0, .ref (a0 0)), (1, .int x1), (2, .int x2), (3, .int x3)]) hx hb dX5_worldsSeenOn_66 hl (k := 5) rfl rfl (by decide) rfl (fun ls hl => ?_)
          refine lv_goto (tgt := 26) hx hb dX5_worldsSeenOn_69 (by decide) ?_
          exact ih26 (x4 ||| ((1 : Int32) <<< (x5 &&& 31))) (x5 + (1 : Int32)) h ls (lv_sub hl [2, 3, 4, 5, 1, 0] rfl)
  unfold f_X5_worldsSeenOn at h
  refine lv_aload_n hx hb dX5_worldsSeenOn_0 rfl (lv_at hl 0 rfl) ?_
  refine lv_iload_n hx hb dX5_worldsSeenOn_1 rfl (lv_at hl 1 rfl) ?_
  obtain ⟨r_5, er_5, h⟩ := mk_bd h
  refine pc_v (As := [.int p1]) (rest := []) ⟨hx, hb, hml, hown, hts⟩ (c_X5_thingsEndedOn l D cI cZ cO N a0 u0 p1 r_5 er_5) (cwV 1 hts k_X5_worldsSeenOn_X5_thingsEndedOn_93 rfl rfl rfl (by decide +kernel) ⟨(Nat.le_of_ble_eq_true rfl), (Nat.le_of_ble_eq_true rfl)⟩) (va_recv hK hP (ci := 5) (q0 := 0) rfl rfl) hP hK rfl hl.1 rfl (Nat.le_of_ble_eq_true rfl) dX5_worldsSeenOn_2 ⟨Nat.zero_le _, Nat.zero_le _⟩ ?_
  refine lv_istore_n (lv' := [(2, .int r_5), (0, .ref (a0 0)), (1, .int p1)]) hx hb dX5_worldsSeenOn_5 rfl hl (by decide) rfl (fun ls hl => ?_)
  refine lv_aload_n hx hb dX5_worldsSeenOn_6 rfl (lv_at hl 1 rfl) ?_
  refine lv_aload_n hx hb dX5_worldsSeenOn_7 rfl (lv_at hl 1 rfl) ?_
  refine va_get (D := D) (ci := 5) (v := .int (u0 0 4)) (C := RX5) (T := TX5) (N := 14) hx hb hts hiX5 hown hK hP 0 rfl rfl 13 (by decide) (hts (.fieldLink RX5 52 "ClockOnce$Town" "allWorlds" "I") (List.mem_of_getElem? (i := 1) rfl)) (fun _ h9 => h9) rfl dX5_worldsSeenOn_8 ?_
  refine lv_iload_n hx hb dX5_worldsSeenOn_11 rfl (lv_at hl 0 rfl) ?_
  refine lv_aload_n hx hb dX5_worldsSeenOn_12 rfl (lv_at hl 1 rfl) ?_
  refine va_get (D := D) (ci := 5) (v := .int (u0 0 1)) (C := RX5) (T := TX5) (N := 14) hx hb hts hiX5 hown hK hP 0 rfl rfl 5 (by decide) (hts (.fieldLink RX5 28 "ClockOnce$Town" "truth" "I") (List.mem_of_getElem? (i := 2) rfl)) (fun _ h9 => h9) rfl dX5_worldsSeenOn_13 ?_
  obtain ⟨r_6, er_6, h⟩ := mk_bd h
  refine pc_v (As := [.int (u0 0 4), .int r_5, .int (u0 0 1)]) (rest := []) ⟨hx, hb, hml, hown, hts⟩ (c_X5_worldsLike l D cI cZ cO N a0 u0 (u0 0 4) r_5 (u0 0 1) r_6 er_6) (cwV 3 hts k_X5_worldsSeenOn_X5_worldsLike_96 rfl rfl rfl (by decide +kernel) ⟨(Nat.le_of_ble_eq_true rfl), (Nat.le_of_ble_eq_true rfl)⟩) (va_recv hK hP (ci := 5) (q0 := 0) rfl rfl) hP hK rfl hl.1 rfl (Nat.le_of_ble_eq_true rfl) dX5_worldsSeenOn_16 ⟨Nat.zero_le _, Nat.zero_le _⟩ ?_
  refine lv_istore_n (lv' := [(3, .int r_6), (2, .int r_5), (0, .ref (a0 0)), (1, .int p1)]) hx hb dX5_worldsSeenOn_19 rfl hl (by decide) rfl (fun ls hl => ?_)
  refine lv_iconst (v := (0 : Int32)) hx hb dX5_worldsSeenOn_20 (by decide) ?_
  refine lv_istore (lv' := [(4, .int (0 : Int32)), (3, .int r_6), (2, .int r_5), (0, .ref (a0 0)), (1, .int p1)]) hx hb dX5_worldsSeenOn_21 hl (by decide) rfl (fun ls hl => ?_)
  refine lv_iconst (v := (0 : Int32)) hx hb dX5_worldsSeenOn_23 (by decide) ?_
  refine lv_istore (lv' := [(5, .int (0 : Int32)), (4, .int (0 : Int32)), (3, .int r_6), (2, .int r_5), (0, .ref (a0 0)), (1, .int p1)]) hx hb dX5_worldsSeenOn_24 hl (by decide) rfl (fun ls hl => ?_)
  exact K26 p1 r_5 r_6 (0 : Int32) (0 : Int32) ls (lv_sub hl [4, 5, 3, 2, 1, 0] rfl) h

abbrev rm_X5_partsOfEarly : Room := { frames := 1, cells := 0, slots := 0, locals := 22 }
set_option maxRecDepth 20000 in
theorem k_X5_partsOfEarly_X5_isLate_83 : GoodIn wsX5_partsOfEarly (wsV RX5 83 RX5 yX5_isLate wsX5_isLate) := goodIn_r _ [3, 4, 5, 6, 7] rfl (by decide +kernel)
set_option maxHeartbeats 4000000 in
set_option maxRecDepth 100000 in
theorem c_X5_partsOfEarly (l : Launch) (D : va_G) (cI cZ cO : ClassId) (N : Nat) (a0 : Nat → Nat) (u0 : TU) (p1 : Int32) (p2 : Int32) (out : Int32) (h : f_X5_partsOfEarly N u0 p1 p2 = some out) : Met l yX5_partsOfEarly wsX5_partsOfEarly rm_X5_partsOfEarly (va_Pc [.ref (a0 0), .int p1, .int p2] (fun U => va_P D vwCl (wX5 cI a0 u0) U.heap ∧ va_K D vwCl (tyA cI cZ cO) U)) (vp_Si (fun r => r = out)) 0 0 (fun _ => False) := by
  refine pm_i (own := RX5) (cc := cX5_partsOfEarly) (maxL := 5) (by decide) rfl rfl (Nat.le_of_ble_eq_true rfl) ?_
  intro p e s m args below meth c Q H ls hx hb hml hown hts hP hK hl hret
  have hl : lv_has ls 5 [(0, .ref (a0 0)), (1, .int p1), (2, .int p2)] := hl
  have hiX5 : ∀ w ∈ u_ws RX5 TX5 14, w ∈ wsX5_partsOfEarly := mk_seg 8 14 rfl
  have K5 : ∀ (x1 : Int32) (x2 : Int32) (x3 : Int32) (x4 : Int32) (ls : Array Slot), lv_has ls 5 [(0, .ref (a0 0)), (1, .int x1), (2, .int x2), (3, .int x3), (4, .int x4)] → lq2 (g_X5_partsOfEarly_5 N u0 x1 x2) N x3 x4 = some out → W p l e rm_X5_partsOfEarly s m args below meth c H [] 0 0 Q (F0 m 5 ls []) := by
    intro x1 x2 x3 x4 ls hl h
    refine lq2_W (Wd := fun x3 x4 => ∀ (ls : Array Slot), lv_has ls 5 [(0, .ref (a0 0)), (1, .int x1), (2, .int x2), (3, .int x3), (4, .int x4)] → W p l e rm_X5_partsOfEarly s m args below meth c H [] 0 0 Q (F0 m 5 ls [])) (fun rec5 ih5 x3 x4 h ls hl => ?_) N x3 x4 h ls hl
    unfold g_X5_partsOfEarly_5 at h
    refine lv_iload hx hb dX5_partsOfEarly_5 (lv_at hl 4 rfl) ?_
    refine lv_iconst (v := (1 : Int32)) hx hb dX5_partsOfEarly_7 (by decide) ?_
    refine lv_aload_n hx hb dX5_partsOfEarly_8 rfl (lv_at hl 0 rfl) ?_
    refine va_get (D := D) (ci := 5) (v := .int (u0 0 0)) (C := RX5) (T := TX5) (N := 14) hx hb hts hiX5 hown hK hP 0 rfl rfl 4 (by decide) (hts (.fieldLink RX5 24 "ClockOnce$Town" "things" "I") (List.mem_of_getElem? (i := 1) rfl)) (fun _ h9 => h9) rfl dX5_partsOfEarly_9 ?_
    refine lv_ishl hx hb dX5_partsOfEarly_12 ?_
    refine lv_icmp_ge (tgt := 51) hx hb dX5_partsOfEarly_13 (by decide) (fun q_1 => ?_) (fun q_1 => ?_)
    · have h := mk_ifp q_1 h
      refine lv_iload_n hx hb dX5_partsOfEarly_51 rfl (lv_at hl 3 rfl) ?_
      exact hret _ _ _ h dX5_partsOfEarly_52
    · have h := mk_ifn q_1 h
      refine lv_iload_n hx hb dX5_partsOfEarly_16 rfl (lv_at hl 1 rfl) ?_
      refine lv_iload hx hb dX5_partsOfEarly_17 (lv_at hl 4 rfl) ?_
      refine lv_ishr hx hb dX5_partsOfEarly_19 ?_
      refine lv_iconst (v := (1 : Int32)) hx hb dX5_partsOfEarly_20 (by decide) ?_
      refine lv_iand hx hb dX5_partsOfEarly_21 ?_
      refine lv_if_eq (tgt := 45) hx hb dX5_partsOfEarly_22 (by decide) (fun q_2 => ?_) (fun q_2 => ?_)
      · have h := mk_ifp q_2 h
        refine lv_iinc (v := (x4 + (1 : Int32))) (lv' := [(4, .int (x4 + (1 : Int32))), (0, .ref (a0 0)), (1, .int x1), (2, .int x2), (3, .int x3)]) hx hb dX5_partsOfEarly_45 hl (k := 4) rfl rfl (by decide) rfl (fun ls hl => ?_)
        refine lv_goto (tgt := 5) hx hb dX5_partsOfEarly_48 (by decide) ?_
        exact ih5 x3 (x4 + (1 : Int32)) h ls (lv_sub hl [1, 2, 3, 4, 0] rfl)
      · have h := mk_ifn q_2 h
        refine lv_aload_n hx hb dX5_partsOfEarly_25 rfl (lv_at hl 0 rfl) ?_
        refine lv_iload hx hb dX5_partsOfEarly_26 (lv_at hl 4 rfl) ?_
        refine lv_iload_n hx hb dX5_partsOfEarly_28 rfl (lv_at hl 2 rfl) ?_
        obtain ⟨r_3, er_3, h⟩ := mk_bd h
        refine pc_v (As := [.int x4, .int x2]) (rest := []) ⟨hx, hb, hml, hown, hts⟩ (c_X5_isLate l D cI cZ cO N a0 u0 x4 x2 r_3 er_3) (cwV 2 hts k_X5_partsOfEarly_X5_isLate_83 rfl rfl rfl (by decide +kernel) ⟨(Nat.le_of_ble_eq_true rfl), (Nat.le_of_ble_eq_true rfl)⟩) (va_recv hK hP (ci := 5) (q0 := 0) rfl rfl) hP hK rfl hl.1 rfl (Nat.le_of_ble_eq_true rfl) dX5_partsOfEarly_29 ⟨Nat.zero_le _, Nat.zero_le _⟩ ?_
        refine lv_if_ne (tgt := 45) hx hb dX5_partsOfEarly_32 (by decide) (fun q_4 => ?_) (fun q_4 => ?_)
        · have h := mk_ifn q_4 h
          refine lv_iinc (v := (x4 + (1 : Int32))) (lv' := [(4, .int (x4 + (1 : Int32))), (0, .ref (a0 0)), (1, .int x1), (2, .int x2), (3, .int x3)]) hx hb dX5_partsOfEarly_45 hl (k := 4) rfl rfl (by decide) rfl (fun ls hl => ?_)
          refine lv_goto (tgt := 5) hx hb dX5_partsOfEarly_48 (by decide) ?_
          exact ih5 x3 (x4 + (1 : Int32)) h ls (lv_sub hl [1, 2, 3, 4, 0] rfl)
        · have h := mk_ifp q_4 h
          refine lv_iload_n hx hb dX5_partsOfEarly_35 rfl (lv_at hl 3 rfl) ?_
          refine lv_aload_n hx hb dX5_partsOfEarly_36 rfl (lv_at hl 0 rfl) ?_
          refine va_get (D := D) (ci := 5) (v := .ref (a0 9)) (C := RX5) (T := TX5) (N := 14) hx hb hts hiX5 hown hK hP 0 rfl rfl 12 (by decide) (hts (.fieldLink RX5 49 "ClockOnce$Town" "parts" "[I") (List.mem_of_getElem? (i := 2) rfl)) (fun _ h9 => h9) rfl dX5_partsOfEarly_37 ?_
          refine lv_iload hx hb dX5_partsOfEarly_40 (lv_at hl 4 rfl) ?_
          obtain ⟨v_5, ev_5, hiv_5, h⟩ := mk_rdE h
          refine va_iald hx hb hK hP 9 0 rfl rfl hiv_5 dX5_partsOfEarly_42 ?_
          refine mk_topi ev_5 ?_
          refine lv_iadd hx hb dX5_partsOfEarly_43 ?_
          refine lv_istore_n (lv' := [(3, .int (x3 + v_5)), (0, .ref (a0 0)), (1, .int x1), (2, .int x2), (4, .int x4)]) hx hb dX5_partsOfEarly_44 rfl hl (by decide) rfl (fun ls hl => ?_)
          refine lv_iinc (v := (x4 + (1 : Int32))) (lv' := [(4, .int (x4 + (1 : Int32))), (3, .int (x3 + v_5)), (0, .ref (a0 0)), (1, .int x1), (2, .int x2)]) hx hb dX5_partsOfEarly_45 hl (k := 4) rfl rfl (by decide) rfl (fun ls hl => ?_)
          refine lv_goto (tgt := 5) hx hb dX5_partsOfEarly_48 (by decide) ?_
          exact ih5 (x3 + v_5) (x4 + (1 : Int32)) h ls (lv_sub hl [2, 3, 4, 1, 0] rfl)
  unfold f_X5_partsOfEarly at h
  refine lv_iconst (v := (0 : Int32)) hx hb dX5_partsOfEarly_0 (by decide) ?_
  refine lv_istore_n (lv' := [(3, .int (0 : Int32)), (0, .ref (a0 0)), (1, .int p1), (2, .int p2)]) hx hb dX5_partsOfEarly_1 rfl hl (by decide) rfl (fun ls hl => ?_)
  refine lv_iconst (v := (0 : Int32)) hx hb dX5_partsOfEarly_2 (by decide) ?_
  refine lv_istore (lv' := [(4, .int (0 : Int32)), (3, .int (0 : Int32)), (0, .ref (a0 0)), (1, .int p1), (2, .int p2)]) hx hb dX5_partsOfEarly_3 hl (by decide) rfl (fun ls hl => ?_)
  exact K5 p1 p2 (0 : Int32) (0 : Int32) ls (lv_sub hl [2, 3, 4, 1, 0] rfl) h

abbrev rm_X5_partsOf : Room := { frames := 0, cells := 0, slots := 0, locals := 0 }
set_option maxHeartbeats 4000000 in
set_option maxRecDepth 100000 in
theorem c_X5_partsOf (l : Launch) (D : va_G) (cI cZ cO : ClassId) (N : Nat) (a0 : Nat → Nat) (u0 : TU) (p1 : Int32) (out : Int32) (h : f_X5_partsOf N u0 p1 = some out) : Met l yX5_partsOf wsX5_partsOf rm_X5_partsOf (va_Pc [.ref (a0 0), .int p1] (fun U => va_P D vwCl (wX5 cI a0 u0) U.heap ∧ va_K D vwCl (tyA cI cZ cO) U)) (vp_Si (fun r => r = out)) 0 0 (fun _ => False) := by
  refine pm_i (own := RX5) (cc := cX5_partsOf) (maxL := 4) (by decide) rfl rfl (Nat.le_of_ble_eq_true rfl) ?_
  intro p e s m args below meth c Q H ls hx hb hml hown hts hP hK hl hret
  have hl : lv_has ls 4 [(0, .ref (a0 0)), (1, .int p1)] := hl
  have hiX5 : ∀ w ∈ u_ws RX5 TX5 14, w ∈ wsX5_partsOf := mk_seg 3 14 rfl
  have K4 : ∀ (x1 : Int32) (x2 : Int32) (x3 : Int32) (ls : Array Slot), lv_has ls 4 [(0, .ref (a0 0)), (1, .int x1), (2, .int x2), (3, .int x3)] → lq2 (g_X5_partsOf_4 N u0 x1) N x2 x3 = some out → W p l e rm_X5_partsOf s m args below meth c H [] 0 0 Q (F0 m 4 ls []) := by
    intro x1 x2 x3 ls hl h
    refine lq2_W (Wd := fun x2 x3 => ∀ (ls : Array Slot), lv_has ls 4 [(0, .ref (a0 0)), (1, .int x1), (2, .int x2), (3, .int x3)] → W p l e rm_X5_partsOf s m args below meth c H [] 0 0 Q (F0 m 4 ls [])) (fun rec4 ih4 x2 x3 h ls hl => ?_) N x2 x3 h ls hl
    unfold g_X5_partsOf_4 at h
    refine lv_iload_n hx hb dX5_partsOf_4 rfl (lv_at hl 3 rfl) ?_
    refine lv_iconst (v := (1 : Int32)) hx hb dX5_partsOf_5 (by decide) ?_
    refine lv_aload_n hx hb dX5_partsOf_6 rfl (lv_at hl 0 rfl) ?_
    refine va_get (D := D) (ci := 5) (v := .int (u0 0 0)) (C := RX5) (T := TX5) (N := 14) hx hb hts hiX5 hown hK hP 0 rfl rfl 4 (by decide) (hts (.fieldLink RX5 24 "ClockOnce$Town" "things" "I") (List.mem_of_getElem? (i := 1) rfl)) (fun _ h9 => h9) rfl dX5_partsOf_7 ?_
    refine lv_ishl hx hb dX5_partsOf_10 ?_
    refine lv_icmp_ge (tgt := 37) hx hb dX5_partsOf_11 (by decide) (fun q_1 => ?_) (fun q_1 => ?_)
    · have h := mk_ifp q_1 h
      refine lv_iload_n hx hb dX5_partsOf_37 rfl (lv_at hl 2 rfl) ?_
      exact hret _ _ _ h dX5_partsOf_38
    · have h := mk_ifn q_1 h
      refine lv_iload_n hx hb dX5_partsOf_14 rfl (lv_at hl 1 rfl) ?_
      refine lv_iload_n hx hb dX5_partsOf_15 rfl (lv_at hl 3 rfl) ?_
      refine lv_ishr hx hb dX5_partsOf_16 ?_
      refine lv_iconst (v := (1 : Int32)) hx hb dX5_partsOf_17 (by decide) ?_
      refine lv_iand hx hb dX5_partsOf_18 ?_
      refine lv_if_eq (tgt := 31) hx hb dX5_partsOf_19 (by decide) (fun q_2 => ?_) (fun q_2 => ?_)
      · have h := mk_ifp q_2 h
        refine lv_iinc (v := (x3 + (1 : Int32))) (lv' := [(3, .int (x3 + (1 : Int32))), (0, .ref (a0 0)), (1, .int x1), (2, .int x2)]) hx hb dX5_partsOf_31 hl (k := 3) rfl rfl (by decide) rfl (fun ls hl => ?_)
        refine lv_goto (tgt := 4) hx hb dX5_partsOf_34 (by decide) ?_
        exact ih4 x2 (x3 + (1 : Int32)) h ls (lv_sub hl [1, 2, 3, 0] rfl)
      · have h := mk_ifn q_2 h
        refine lv_iload_n hx hb dX5_partsOf_22 rfl (lv_at hl 2 rfl) ?_
        refine lv_aload_n hx hb dX5_partsOf_23 rfl (lv_at hl 0 rfl) ?_
        refine va_get (D := D) (ci := 5) (v := .ref (a0 9)) (C := RX5) (T := TX5) (N := 14) hx hb hts hiX5 hown hK hP 0 rfl rfl 12 (by decide) (hts (.fieldLink RX5 49 "ClockOnce$Town" "parts" "[I") (List.mem_of_getElem? (i := 2) rfl)) (fun _ h9 => h9) rfl dX5_partsOf_24 ?_
        refine lv_iload_n hx hb dX5_partsOf_27 rfl (lv_at hl 3 rfl) ?_
        obtain ⟨v_3, ev_3, hiv_3, h⟩ := mk_rdE h
        refine va_iald hx hb hK hP 9 0 rfl rfl hiv_3 dX5_partsOf_28 ?_
        refine mk_topi ev_3 ?_
        refine lv_iadd hx hb dX5_partsOf_29 ?_
        refine lv_istore_n (lv' := [(2, .int (x2 + v_3)), (0, .ref (a0 0)), (1, .int x1), (3, .int x3)]) hx hb dX5_partsOf_30 rfl hl (by decide) rfl (fun ls hl => ?_)
        refine lv_iinc (v := (x3 + (1 : Int32))) (lv' := [(3, .int (x3 + (1 : Int32))), (2, .int (x2 + v_3)), (0, .ref (a0 0)), (1, .int x1)]) hx hb dX5_partsOf_31 hl (k := 3) rfl rfl (by decide) rfl (fun ls hl => ?_)
        refine lv_goto (tgt := 4) hx hb dX5_partsOf_34 (by decide) ?_
        exact ih4 (x2 + v_3) (x3 + (1 : Int32)) h ls (lv_sub hl [2, 3, 1, 0] rfl)
  unfold f_X5_partsOf at h
  refine lv_iconst (v := (0 : Int32)) hx hb dX5_partsOf_0 (by decide) ?_
  refine lv_istore_n (lv' := [(2, .int (0 : Int32)), (0, .ref (a0 0)), (1, .int p1)]) hx hb dX5_partsOf_1 rfl hl (by decide) rfl (fun ls hl => ?_)
  refine lv_iconst (v := (0 : Int32)) hx hb dX5_partsOf_2 (by decide) ?_
  refine lv_istore_n (lv' := [(3, .int (0 : Int32)), (2, .int (0 : Int32)), (0, .ref (a0 0)), (1, .int p1)]) hx hb dX5_partsOf_3 rfl hl (by decide) rfl (fun ls hl => ?_)
  exact K4 p1 (0 : Int32) (0 : Int32) ls (lv_sub hl [2, 3, 1, 0] rfl) h

abbrev rm_X5_coinsKept : Room := { frames := 0, cells := 0, slots := 0, locals := 0 }
set_option maxHeartbeats 4000000 in
set_option maxRecDepth 100000 in
theorem c_X5_coinsKept (l : Launch) (D : va_G) (cI cZ cO : ClassId) (N : Nat) (a0 : Nat → Nat) (u0 : TU) (p1 : Int32) (p2 : Int32) (p3 : Int32) (p4 : Int32) (out : Int32) (h : f_X5_coinsKept N u0 p1 p2 p3 p4 = some out) : Met l yX5_coinsKept wsX5_coinsKept rm_X5_coinsKept (va_Pc [.ref (a0 0), .int p1, .int p2, .int p3, .int p4] (fun U => va_P D vwCl (wX5 cI a0 u0) U.heap ∧ va_K D vwCl (tyA cI cZ cO) U)) (vp_Si (fun r => r = out)) 0 0 (fun _ => False) := by
  refine pm_i (own := RX5) (cc := cX5_coinsKept) (maxL := 6) (by decide) rfl rfl (Nat.le_of_ble_eq_true rfl) ?_
  intro p e s m args below meth c Q H ls hx hb hml hown hts hP hK hl hret
  have hl : lv_has ls 6 [(0, .ref (a0 0)), (1, .int p1), (2, .int p2), (3, .int p3), (4, .int p4)] := hl
  have hiX5 : ∀ w ∈ u_ws RX5 TX5 14, w ∈ wsX5_coinsKept := mk_seg 2 14 rfl
  have K12 : ∀ (x1 : Int32) (x2 : Int32) (x3 : Int32) (x4 : Int32) (t0 : Int32) (ls : Array Slot), lv_has ls 6 [(0, .ref (a0 0)), (1, .int x1), (2, .int x2), (3, .int x3), (4, .int x4)] → g_X5_coinsKept_12 N u0 x1 x2 x3 x4 t0 = some out → W p l e rm_X5_coinsKept s m args below meth c H [] 0 0 Q (F0 m 12 ls [.int t0]) := by
    intro x1 x2 x3 x4 t0 ls hl h
    unfold g_X5_coinsKept_12 at h
    refine lv_iload_n hx hb dX5_coinsKept_12 rfl (lv_at hl 3 rfl) ?_
    refine lv_isub hx hb dX5_coinsKept_13 ?_
    refine lv_istore (lv' := [(5, .int (t0 - x3)), (0, .ref (a0 0)), (1, .int x1), (2, .int x2), (3, .int x3), (4, .int x4)]) hx hb dX5_coinsKept_14 hl (by decide) rfl (fun ls hl => ?_)
    refine lv_iload_n hx hb dX5_coinsKept_16 rfl (lv_at hl 3 rfl) ?_
    refine lv_iload hx hb dX5_coinsKept_17 (lv_at hl 5 rfl) ?_
    refine lv_icmp_le (tgt := 32) hx hb dX5_coinsKept_19 (by decide) (fun q_1 => ?_) (fun q_1 => ?_)
    · have h := mk_ifp q_1 h
      refine lv_iload hx hb dX5_coinsKept_32 (lv_at hl 0 rfl) ?_
      refine lv_if_le (tgt := 42) hx hb dX5_coinsKept_34 (by decide) (fun q_2 => ?_) (fun q_2 => ?_)
      · have h := mk_ifp q_2 h
        refine lv_iconst (v := (0 : Int32)) hx hb dX5_coinsKept_42 (by decide) ?_
        exact hret _ _ _ h dX5_coinsKept_43
      · have h := mk_ifn q_2 h
        refine lv_iload hx hb dX5_coinsKept_37 (lv_at hl 0 rfl) ?_
        refine lv_goto (tgt := 43) hx hb dX5_coinsKept_39 (by decide) ?_
        exact hret _ _ _ h dX5_coinsKept_43
    · have h := mk_ifn q_1 h
      refine lv_iload hx hb dX5_coinsKept_22 (lv_at hl 0 rfl) ?_
      refine lv_aload_n hx hb dX5_coinsKept_24 rfl (lv_at hl 1 rfl) ?_
      refine va_get (D := D) (ci := 5) (v := .ref (a0 4)) (C := RX5) (T := TX5) (N := 14) hx hb hts hiX5 hown hK hP 0 rfl rfl 3 (by decide) (hts (.fieldLink RX5 21 "ClockOnce$Town" "coins" "[I") (List.mem_of_getElem? (i := 1) rfl)) (fun _ h9 => h9) rfl dX5_coinsKept_25 ?_
      refine lv_iload_n hx hb dX5_coinsKept_28 rfl (lv_at hl 2 rfl) ?_
      obtain ⟨v_3, ev_3, hiv_3, h⟩ := mk_rdE h
      refine va_iald hx hb hK hP 4 0 rfl rfl hiv_3 dX5_coinsKept_29 ?_
      refine mk_topi ev_3 ?_
      refine lv_iadd hx hb dX5_coinsKept_30 ?_
      exact hret _ _ _ h dX5_coinsKept_31
  unfold f_X5_coinsKept at h
  refine lv_iload_n hx hb dX5_coinsKept_0 rfl (lv_at hl 2 rfl) ?_
  refine lv_iload hx hb dX5_coinsKept_1 (lv_at hl 4 rfl) ?_
  refine lv_icmp_ge (tgt := 10) hx hb dX5_coinsKept_3 (by decide) (fun q_4 => ?_) (fun q_4 => ?_)
  · have h := mk_ifp q_4 h
    refine lv_iload hx hb dX5_coinsKept_10 (lv_at hl 4 rfl) ?_
    exact K12 p1 p2 p3 p4 p4 ls (lv_sub hl [0, 1, 2, 3, 4] rfl) h
  · have h := mk_ifn q_4 h
    refine lv_iload_n hx hb dX5_coinsKept_6 rfl (lv_at hl 2 rfl) ?_
    refine lv_goto (tgt := 12) hx hb dX5_coinsKept_7 (by decide) ?_
    exact K12 p1 p2 p3 p4 p2 ls (lv_sub hl [0, 1, 2, 3, 4] rfl) h

abbrev rm_X5_partsKept : Room := { frames := 1, cells := 0, slots := 0, locals := 25 }
set_option maxRecDepth 20000 in
theorem k_X5_partsKept_X5_coinsKept_108 : GoodIn wsX5_partsKept (wsV RX5 108 RX5 yX5_coinsKept wsX5_coinsKept) := goodIn_r _ [3, 4, 5, 6, 7, 8, 9, 10, 11, 12, 13, 14, 15, 16, 17, 18, 19, 20, 21, 22] rfl (by decide +kernel)
set_option maxHeartbeats 4000000 in
set_option maxRecDepth 100000 in
theorem c_X5_partsKept (l : Launch) (D : va_G) (cI cZ cO : ClassId) (N : Nat) (a0 : Nat → Nat) (u0 : TU) (p1 : Int32) (p2 : Int32) (p3 : Int32) (p4 : Int32) (p5 : Int32) (out : Int32) (h : f_X5_partsKept N u0 p1 p2 p3 p4 p5 = some out) : Met l yX5_partsKept wsX5_partsKept rm_X5_partsKept (va_Pc [.ref (a0 0), .int p1, .int p2, .int p3, .int p4, .int p5] (fun U => va_P D vwCl (wX5 cI a0 u0) U.heap ∧ va_K D vwCl (tyA cI cZ cO) U)) (vp_Si (fun r => r = out)) 0 0 (fun _ => False) := by
  refine pm_i (own := RX5) (cc := cX5_partsKept) (maxL := 6) (by decide) rfl rfl (Nat.le_of_ble_eq_true rfl) ?_
  intro p e s m args below meth c Q H ls hx hb hml hown hts hP hK hl hret
  have hl : lv_has ls 6 [(0, .ref (a0 0)), (1, .int p1), (2, .int p2), (3, .int p3), (4, .int p4), (5, .int p5)] := hl
  have hiX5 : ∀ w ∈ u_ws RX5 TX5 14, w ∈ wsX5_partsKept := mk_seg 9 14 rfl
  unfold f_X5_partsKept at h
  refine lv_iload_n hx hb dX5_partsKept_0 rfl (lv_at hl 2 rfl) ?_
  refine lv_aload_n hx hb dX5_partsKept_1 rfl (lv_at hl 0 rfl) ?_
  refine lv_iload_n hx hb dX5_partsKept_2 rfl (lv_at hl 1 rfl) ?_
  refine lv_aload_n hx hb dX5_partsKept_3 rfl (lv_at hl 0 rfl) ?_
  refine va_get (D := D) (ci := 5) (v := .ref (a0 1)) (C := RX5) (T := TX5) (N := 14) hx hb hts hiX5 hown hK hP 0 rfl rfl 0 (by decide) (hts (.fieldLink RX5 9 "ClockOnce$Town" "early" "[I") (List.mem_of_getElem? (i := 1) rfl)) (fun _ h9 => h9) rfl dX5_partsKept_4 ?_
  refine lv_iload_n hx hb dX5_partsKept_7 rfl (lv_at hl 1 rfl) ?_
  obtain ⟨v_1, ev_1, hiv_1, h⟩ := mk_rdE h
  refine va_iald hx hb hK hP 1 0 rfl rfl hiv_1 dX5_partsKept_8 ?_
  refine mk_topi ev_1 ?_
  refine lv_iload hx hb dX5_partsKept_9 (lv_at hl 4 rfl) ?_
  refine lv_iload hx hb dX5_partsKept_11 (lv_at hl 5 rfl) ?_
  obtain ⟨r_2, er_2, h⟩ := mk_bd h
  refine pc_v (As := [.int p1, .int v_1, .int p4, .int p5]) (rest := [.int p2]) ⟨hx, hb, hml, hown, hts⟩ (c_X5_coinsKept l D cI cZ cO N a0 u0 p1 v_1 p4 p5 r_2 er_2) (cwV 4 hts k_X5_partsKept_X5_coinsKept_108 rfl rfl rfl (by decide +kernel) ⟨(Nat.le_of_ble_eq_true rfl), (Nat.le_of_ble_eq_true rfl)⟩) (va_recv hK hP (ci := 5) (q0 := 0) rfl rfl) hP hK rfl hl.1 rfl (Nat.le_of_ble_eq_true rfl) dX5_partsKept_13 ⟨Nat.zero_le _, Nat.zero_le _⟩ ?_
  refine lv_imul hx hb dX5_partsKept_16 ?_
  refine lv_iload_n hx hb dX5_partsKept_17 rfl (lv_at hl 3 rfl) ?_
  refine lv_aload_n hx hb dX5_partsKept_18 rfl (lv_at hl 0 rfl) ?_
  refine lv_iload_n hx hb dX5_partsKept_19 rfl (lv_at hl 1 rfl) ?_
  refine lv_aload_n hx hb dX5_partsKept_20 rfl (lv_at hl 0 rfl) ?_
  refine va_get (D := D) (ci := 5) (v := .ref (a0 2)) (C := RX5) (T := TX5) (N := 14) hx hb hts hiX5 hown hK hP 0 rfl rfl 1 (by decide) (hts (.fieldLink RX5 15 "ClockOnce$Town" "late" "[I") (List.mem_of_getElem? (i := 2) rfl)) (fun _ h9 => h9) rfl dX5_partsKept_21 ?_
  refine lv_iload_n hx hb dX5_partsKept_24 rfl (lv_at hl 1 rfl) ?_
  obtain ⟨v_3, ev_3, hiv_3, h⟩ := mk_rdE h
  refine va_iald hx hb hK hP 2 0 rfl rfl hiv_3 dX5_partsKept_25 ?_
  refine mk_topi ev_3 ?_
  refine lv_iload hx hb dX5_partsKept_26 (lv_at hl 4 rfl) ?_
  refine lv_iload hx hb dX5_partsKept_28 (lv_at hl 5 rfl) ?_
  obtain ⟨r_4, er_4, h⟩ := mk_bd h
  refine pc_v (As := [.int p1, .int v_3, .int p4, .int p5]) (rest := [.int p3, .int (p2 * r_2)]) ⟨hx, hb, hml, hown, hts⟩ (c_X5_coinsKept l D cI cZ cO N a0 u0 p1 v_3 p4 p5 r_4 er_4) (cwV 4 hts k_X5_partsKept_X5_coinsKept_108 rfl rfl rfl (by decide +kernel) ⟨(Nat.le_of_ble_eq_true rfl), (Nat.le_of_ble_eq_true rfl)⟩) (va_recv hK hP (ci := 5) (q0 := 0) rfl rfl) hP hK rfl hl.1 rfl (Nat.le_of_ble_eq_true rfl) dX5_partsKept_30 ⟨Nat.zero_le _, Nat.zero_le _⟩ ?_
  refine lv_imul hx hb dX5_partsKept_33 ?_
  refine lv_iadd hx hb dX5_partsKept_34 ?_
  exact hret _ _ _ h dX5_partsKept_35

abbrev rm_X5_bestDay : Room := { frames := 2, cells := 0, slots := 0, locals := 50 }
set_option maxRecDepth 20000 in
theorem k_X5_bestDay_X5_partsKept_112 : GoodIn wsX5_bestDay (wsV RX5 112 RX5 yX5_partsKept wsX5_partsKept) := goodIn_r _ [1, 2, 3, 4, 5, 6, 7, 8, 9, 10, 4, 11, 12, 13, 14, 15, 16, 17, 18, 19, 20, 21, 22, 23, 24, 25, 26] rfl (by decide +kernel)
set_option maxHeartbeats 4000000 in
set_option maxRecDepth 100000 in
theorem c_X5_bestDay (l : Launch) (D : va_G) (cI cZ cO : ClassId) (N : Nat) (a0 : Nat → Nat) (u0 : TU) (p1 : Int32) (p2 : Int32) (p3 : Int32) (p4 : Int32) (out : Int32) (h : f_X5_bestDay N u0 p1 p2 p3 p4 = some out) : Met l yX5_bestDay wsX5_bestDay rm_X5_bestDay (va_Pc [.ref (a0 0), .int p1, .int p2, .int p3, .int p4] (fun U => va_P D vwCl (wX5 cI a0 u0) U.heap ∧ va_K D vwCl (tyA cI cZ cO) U)) (vp_Si (fun r => r = out)) 0 0 (fun _ => False) := by
  refine pm_i (own := RX5) (cc := cX5_bestDay) (maxL := 9) (by decide) rfl rfl (Nat.le_of_ble_eq_true rfl) ?_
  intro p e s m args below meth c Q H ls hx hb hml hown hts hP hK hl hret
  have hl : lv_has ls 9 [(0, .ref (a0 0)), (1, .int p1), (2, .int p2), (3, .int p3), (4, .int p4)] := hl
  have K11 : ∀ (x1 : Int32) (x2 : Int32) (x3 : Int32) (x4 : Int32) (x5 : Int32) (x6 : Int32) (x7 : Int32) (ls : Array Slot), lv_has ls 9 [(0, .ref (a0 0)), (1, .int x1), (2, .int x2), (3, .int x3), (4, .int x4), (5, .int x5), (6, .int x6), (7, .int x7)] → lq3 (g_X5_bestDay_11 N u0 x1 x2 x3 x4) N x5 x6 x7 = some out → W p l e rm_X5_bestDay s m args below meth c H [] 0 0 Q (F0 m 11 ls []) := by
    intro x1 x2 x3 x4 x5 x6 x7 ls hl h
    refine lq3_W (Wd := fun x5 x6 x7 => ∀ (ls : Array Slot), lv_has ls 9 [(0, .ref (a0 0)), (1, .int x1), (2, .int x2), (3, .int x3), (4, .int x4), (5, .int x5), (6, .int x6), (7, .int x7)] → W p l e rm_X5_bestDay s m args below meth c H [] 0 0 Q (F0 m 11 ls [])) (fun rec11 ih11 x5 x6 x7 h ls hl => ?_) N x5 x6 x7 h ls hl
    unfold g_X5_bestDay_11 at h
    refine lv_iload hx hb dX5_bestDay_11 (lv_at hl 7 rfl) ?_
    refine lv_bipush (v := (9 : Int32)) hx hb dX5_bestDay_13 (by decide) ?_
    refine lv_icmp_gt (tgt := 52) hx hb dX5_bestDay_15 (by decide) (fun q_1 => ?_) (fun q_1 => ?_)
    · have h := mk_ifp q_1 h
      refine lv_iload hx hb dX5_bestDay_52 (lv_at hl 5 rfl) ?_
      exact hret _ _ _ h dX5_bestDay_54
    · have h := mk_ifn q_1 h
      refine lv_aload_n hx hb dX5_bestDay_18 rfl (lv_at hl 0 rfl) ?_
      refine lv_iload_n hx hb dX5_bestDay_19 rfl (lv_at hl 1 rfl) ?_
      refine lv_iload_n hx hb dX5_bestDay_20 rfl (lv_at hl 2 rfl) ?_
      refine lv_iload_n hx hb dX5_bestDay_21 rfl (lv_at hl 3 rfl) ?_
      refine lv_iload hx hb dX5_bestDay_22 (lv_at hl 4 rfl) ?_
      refine lv_iload hx hb dX5_bestDay_24 (lv_at hl 7 rfl) ?_
      obtain ⟨r_2, er_2, h⟩ := mk_bd h
      refine pc_v (As := [.int x1, .int x2, .int x3, .int x4, .int x7]) (rest := []) ⟨hx, hb, hml, hown, hts⟩ (c_X5_partsKept l D cI cZ cO N a0 u0 x1 x2 x3 x4 x7 r_2 er_2) (cwV 5 hts k_X5_bestDay_X5_partsKept_112 rfl rfl rfl (by decide +kernel) ⟨(Nat.le_of_ble_eq_true rfl), (Nat.le_of_ble_eq_true rfl)⟩) (va_recv hK hP (ci := 5) (q0 := 0) rfl rfl) hP hK rfl hl.1 rfl (Nat.le_of_ble_eq_true rfl) dX5_bestDay_26 ⟨Nat.zero_le _, Nat.zero_le _⟩ ?_
      refine lv_istore (lv' := [(8, .int r_2), (0, .ref (a0 0)), (1, .int x1), (2, .int x2), (3, .int x3), (4, .int x4), (5, .int x5), (6, .int x6), (7, .int x7)]) hx hb dX5_bestDay_29 hl (by decide) rfl (fun ls hl => ?_)
      refine lv_iload hx hb dX5_bestDay_31 (lv_at hl 0 rfl) ?_
      refine lv_iload hx hb dX5_bestDay_33 (lv_at hl 7 rfl) ?_
      refine lv_icmp_le (tgt := 46) hx hb dX5_bestDay_35 (by decide) (fun q_3 => ?_) (fun q_3 => ?_)
      · have h := mk_ifp q_3 h
        refine lv_iinc (v := (x7 + (1 : Int32))) (lv' := [(7, .int (x7 + (1 : Int32))), (8, .int r_2), (0, .ref (a0 0)), (1, .int x1), (2, .int x2), (3, .int x3), (4, .int x4), (5, .int x5), (6, .int x6)]) hx hb dX5_bestDay_46 hl (k := 8) rfl rfl (by decide) rfl (fun ls hl => ?_)
        refine lv_goto (tgt := 11) hx hb dX5_bestDay_49 (by decide) ?_
        exact ih11 x5 x6 (x7 + (1 : Int32)) h ls (lv_sub hl [2, 3, 4, 5, 6, 7, 8, 0] rfl)
      · have h := mk_ifn q_3 h
        refine lv_iload hx hb dX5_bestDay_38 (lv_at hl 0 rfl) ?_
        refine lv_istore (lv' := [(6, .int r_2), (8, .int r_2), (0, .ref (a0 0)), (1, .int x1), (2, .int x2), (3, .int x3), (4, .int x4), (5, .int x5), (7, .int x7)]) hx hb dX5_bestDay_40 hl (by decide) rfl (fun ls hl => ?_)
        refine lv_iload hx hb dX5_bestDay_42 (lv_at hl 8 rfl) ?_
        refine lv_istore (lv' := [(5, .int x7), (6, .int r_2), (8, .int r_2), (0, .ref (a0 0)), (1, .int x1), (2, .int x2), (3, .int x3), (4, .int x4), (7, .int x7)]) hx hb dX5_bestDay_44 hl (by decide) rfl (fun ls hl => ?_)
        refine lv_iinc (v := (x7 + (1 : Int32))) (lv' := [(7, .int (x7 + (1 : Int32))), (5, .int x7), (6, .int r_2), (8, .int r_2), (0, .ref (a0 0)), (1, .int x1), (2, .int x2), (3, .int x3), (4, .int x4)]) hx hb dX5_bestDay_46 hl (k := 8) rfl rfl (by decide) rfl (fun ls hl => ?_)
        refine lv_goto (tgt := 11) hx hb dX5_bestDay_49 (by decide) ?_
        exact ih11 x7 r_2 (x7 + (1 : Int32)) h ls (lv_sub hl [4, 5, 6, 7, 8, 1, 2, 0] rfl)
  unfold f_X5_bestDay at h
  refine lv_iload hx hb dX5_bestDay_0 (lv_at hl 4 rfl) ?_
  refine lv_istore (lv' := [(5, .int p4), (0, .ref (a0 0)), (1, .int p1), (2, .int p2), (3, .int p3), (4, .int p4)]) hx hb dX5_bestDay_2 hl (by decide) rfl (fun ls hl => ?_)
  refine lv_iconst (v := (-1 : Int32)) hx hb dX5_bestDay_4 (by decide) ?_
  refine lv_istore (lv' := [(6, .int (-1 : Int32)), (5, .int p4), (0, .ref (a0 0)), (1, .int p1), (2, .int p2), (3, .int p3), (4, .int p4)]) hx hb dX5_bestDay_5 hl (by decide) rfl (fun ls hl => ?_)
  refine lv_iload hx hb dX5_bestDay_7 (lv_at hl 6 rfl) ?_
  refine lv_istore (lv' := [(7, .int p4), (6, .int (-1 : Int32)), (5, .int p4), (0, .ref (a0 0)), (1, .int p1), (2, .int p2), (3, .int p3), (4, .int p4)]) hx hb dX5_bestDay_9 hl (by decide) rfl (fun ls hl => ?_)
  exact K11 p1 p2 p3 p4 p4 (-1 : Int32) p4 ls (lv_sub hl [3, 4, 5, 6, 7, 2, 1, 0] rfl) h

abbrev rm_X5_partsKeptWisely : Room := { frames := 3, cells := 0, slots := 0, locals := 78 }
set_option maxRecDepth 20000 in
theorem k_X5_partsKeptWisely_X5_partsOfEarly_116 : GoodIn wsX5_partsKeptWisely (wsV RX5 116 RX5 yX5_partsOfEarly wsX5_partsOfEarly) := goodIn_r _ [1, 2, 3, 4, 5, 6, 7, 8, 9, 10, 4, 11, 31, 32, 33, 34, 35, 36, 37, 38, 39, 40, 41, 42, 43, 44] rfl (by decide +kernel)
set_option maxRecDepth 20000 in
theorem k_X5_partsKeptWisely_X5_partsOf_119 : GoodIn wsX5_partsKeptWisely (wsV RX5 119 RX5 yX5_partsOf wsX5_partsOf) := goodIn_r _ [12, 13, 14, 4, 15, 6, 7, 31, 32, 33, 34, 35, 36, 37, 38, 39, 40, 41, 42, 43, 44] rfl (by decide +kernel)
set_option maxRecDepth 20000 in
theorem k_X5_partsKeptWisely_X5_bestDay_122 : GoodIn wsX5_partsKeptWisely (wsV RX5 122 RX5 yX5_bestDay wsX5_bestDay) := goodIn_r _ [16, 17, 18, 4, 19, 20, 21, 22, 4, 23, 24, 25, 26, 27, 28, 29, 30, 31, 32, 33, 34, 35, 36, 37, 38, 39, 40, 41, 42, 43, 44] rfl (by decide +kernel)
set_option maxRecDepth 20000 in
theorem k_X5_partsKeptWisely_X5_partsKept_112 : GoodIn wsX5_partsKeptWisely (wsV RX5 112 RX5 yX5_partsKept wsX5_partsKept) := goodIn_r _ [20, 21, 22, 4, 23, 24, 25, 26, 27, 28, 4, 29, 30, 31, 32, 33, 34, 35, 36, 37, 38, 39, 40, 41, 42, 43, 44] rfl (by decide +kernel)
set_option maxHeartbeats 4000000 in
set_option maxRecDepth 100000 in
theorem c_X5_partsKeptWisely (l : Launch) (D : va_G) (cI cZ cO : ClassId) (N : Nat) (a0 : Nat → Nat) (u0 : TU) (p1 : Int32) (p2 : Int32) (p3 : Int32) (out : Int32) (h : f_X5_partsKeptWisely N u0 p1 p2 p3 = some out) : Met l yX5_partsKeptWisely wsX5_partsKeptWisely rm_X5_partsKeptWisely (va_Pc [.ref (a0 0), .int p1, .int p2, .int p3] (fun U => va_P D vwCl (wX5 cI a0 u0) U.heap ∧ va_K D vwCl (tyA cI cZ cO) U)) (vp_Si (fun r => r = out)) 0 0 (fun _ => False) := by
  refine pm_i (own := RX5) (cc := cX5_partsKeptWisely) (maxL := 6) (by decide) rfl rfl (Nat.le_of_ble_eq_true rfl) ?_
  intro p e s m args below meth c Q H ls hx hb hml hown hts hP hK hl hret
  have hl : lv_has ls 6 [(0, .ref (a0 0)), (1, .int p1), (2, .int p2), (3, .int p3)] := hl
  unfold f_X5_partsKeptWisely at h
  refine lv_aload_n hx hb dX5_partsKeptWisely_0 rfl (lv_at hl 0 rfl) ?_
  refine lv_iload_n hx hb dX5_partsKeptWisely_1 rfl (lv_at hl 1 rfl) ?_
  refine lv_iload_n hx hb dX5_partsKeptWisely_2 rfl (lv_at hl 2 rfl) ?_
  obtain ⟨r_1, er_1, h⟩ := mk_bd h
  refine pc_v (As := [.int p1, .int p2]) (rest := []) ⟨hx, hb, hml, hown, hts⟩ (c_X5_partsOfEarly l D cI cZ cO N a0 u0 p1 p2 r_1 er_1) (cwV 2 hts k_X5_partsKeptWisely_X5_partsOfEarly_116 rfl rfl rfl (by decide +kernel) ⟨(Nat.le_of_ble_eq_true rfl), (Nat.le_of_ble_eq_true rfl)⟩) (va_recv hK hP (ci := 5) (q0 := 0) rfl rfl) hP hK rfl hl.1 rfl (Nat.le_of_ble_eq_true rfl) dX5_partsKeptWisely_3 ⟨Nat.zero_le _, Nat.zero_le _⟩ ?_
  refine lv_istore (lv' := [(4, .int r_1), (0, .ref (a0 0)), (1, .int p1), (2, .int p2), (3, .int p3)]) hx hb dX5_partsKeptWisely_6 hl (by decide) rfl (fun ls hl => ?_)
  refine lv_aload_n hx hb dX5_partsKeptWisely_8 rfl (lv_at hl 1 rfl) ?_
  refine lv_iload_n hx hb dX5_partsKeptWisely_9 rfl (lv_at hl 2 rfl) ?_
  obtain ⟨r_2, er_2, h⟩ := mk_bd h
  refine pc_v (As := [.int p1]) (rest := []) ⟨hx, hb, hml, hown, hts⟩ (c_X5_partsOf l D cI cZ cO N a0 u0 p1 r_2 er_2) (cwV 1 hts k_X5_partsKeptWisely_X5_partsOf_119 rfl rfl rfl (by decide +kernel) ⟨(Nat.le_of_ble_eq_true rfl), (Nat.le_of_ble_eq_true rfl)⟩) (va_recv hK hP (ci := 5) (q0 := 0) rfl rfl) hP hK rfl hl.1 rfl (Nat.le_of_ble_eq_true rfl) dX5_partsKeptWisely_10 ⟨Nat.zero_le _, Nat.zero_le _⟩ ?_
  refine lv_iload hx hb dX5_partsKeptWisely_13 (lv_at hl 0 rfl) ?_
  refine lv_isub hx hb dX5_partsKeptWisely_15 ?_
  refine lv_istore (lv' := [(5, .int (r_2 - r_1)), (4, .int r_1), (0, .ref (a0 0)), (1, .int p1), (2, .int p2), (3, .int p3)]) hx hb dX5_partsKeptWisely_16 hl (by decide) rfl (fun ls hl => ?_)
  refine lv_aload_n hx hb dX5_partsKeptWisely_18 rfl (lv_at hl 2 rfl) ?_
  refine lv_iload_n hx hb dX5_partsKeptWisely_19 rfl (lv_at hl 4 rfl) ?_
  refine lv_iload hx hb dX5_partsKeptWisely_20 (lv_at hl 1 rfl) ?_
  refine lv_iload hx hb dX5_partsKeptWisely_22 (lv_at hl 0 rfl) ?_
  refine lv_iload_n hx hb dX5_partsKeptWisely_24 rfl (lv_at hl 5 rfl) ?_
  refine lv_aload_n hx hb dX5_partsKeptWisely_25 rfl (lv_at hl 2 rfl) ?_
  refine lv_iload_n hx hb dX5_partsKeptWisely_26 rfl (lv_at hl 4 rfl) ?_
  refine lv_iload hx hb dX5_partsKeptWisely_27 (lv_at hl 1 rfl) ?_
  refine lv_iload hx hb dX5_partsKeptWisely_29 (lv_at hl 0 rfl) ?_
  refine lv_iload_n hx hb dX5_partsKeptWisely_31 rfl (lv_at hl 5 rfl) ?_
  obtain ⟨r_3, er_3, h⟩ := mk_bd h
  refine pc_v (As := [.int p2, .int r_1, .int (r_2 - r_1), .int p3]) (rest := [.int p3, .int (r_2 - r_1), .int r_1, .int p2, .ref (a0 0)]) ⟨hx, hb, hml, hown, hts⟩ (c_X5_bestDay l D cI cZ cO N a0 u0 p2 r_1 (r_2 - r_1) p3 r_3 er_3) (cwV 4 hts k_X5_partsKeptWisely_X5_bestDay_122 rfl rfl rfl (by decide +kernel) ⟨(Nat.le_of_ble_eq_true rfl), (Nat.le_of_ble_eq_true rfl)⟩) (va_recv hK hP (ci := 5) (q0 := 0) rfl rfl) hP hK rfl hl.1 rfl (Nat.le_of_ble_eq_true rfl) dX5_partsKeptWisely_32 ⟨Nat.zero_le _, Nat.zero_le _⟩ ?_
  obtain ⟨r_4, er_4, h⟩ := mk_bd h
  refine pc_v (As := [.int p2, .int r_1, .int (r_2 - r_1), .int p3, .int r_3]) (rest := []) ⟨hx, hb, hml, hown, hts⟩ (c_X5_partsKept l D cI cZ cO N a0 u0 p2 r_1 (r_2 - r_1) p3 r_3 r_4 er_4) (cwV 5 hts k_X5_partsKeptWisely_X5_partsKept_112 rfl rfl rfl (by decide +kernel) ⟨(Nat.le_of_ble_eq_true rfl), (Nat.le_of_ble_eq_true rfl)⟩) (va_recv hK hP (ci := 5) (q0 := 0) rfl rfl) hP hK rfl hl.1 rfl (Nat.le_of_ble_eq_true rfl) dX5_partsKeptWisely_35 ⟨Nat.zero_le _, Nat.zero_le _⟩ ?_
  exact hret _ _ _ h dX5_partsKeptWisely_38

abbrev rm_X5_isRoomForThing : Room := { frames := 0, cells := 0, slots := 0, locals := 0 }
set_option maxHeartbeats 4000000 in
set_option maxRecDepth 100000 in
theorem c_X5_isRoomForThing (l : Launch) (D : va_G) (cI cZ cO : ClassId) (N : Nat) (a0 : Nat → Nat) (u0 : TU) (out : Int32) (h : f_X5_isRoomForThing N u0 = some out) : Met l yX5_isRoomForThing wsX5_isRoomForThing rm_X5_isRoomForThing (va_Pc [.ref (a0 0)] (fun U => va_P D vwCl (wX5 cI a0 u0) U.heap ∧ va_K D vwCl (tyA cI cZ cO) U)) (vp_Si (fun r => r = out)) 0 0 (fun _ => False) := by
  refine pm_z (own := RX5) (cc := cX5_isRoomForThing) (maxL := 1) (by decide) rfl rfl (Nat.le_of_ble_eq_true rfl) ?_
  intro p e s m args below meth c Q H ls hx hb hml hown hts hP hK hl hret
  have hl : lv_has ls 1 [(0, .ref (a0 0))] := hl
  have hiX5 : ∀ w ∈ u_ws RX5 TX5 14, w ∈ wsX5_isRoomForThing := mk_seg 2 14 rfl
  unfold f_X5_isRoomForThing at h
  refine lv_aload_n hx hb dX5_isRoomForThing_0 rfl (lv_at hl 0 rfl) ?_
  refine va_get (D := D) (ci := 5) (v := .int (u0 0 0)) (C := RX5) (T := TX5) (N := 14) hx hb hts hiX5 hown hK hP 0 rfl rfl 4 (by decide) (hts (.fieldLink RX5 24 "ClockOnce$Town" "things" "I") (List.mem_of_getElem? (i := 1) rfl)) (fun _ h9 => h9) rfl dX5_isRoomForThing_1 ?_
  refine lv_iconst (v := (4 : Int32)) hx hb dX5_isRoomForThing_4 (by decide) ?_
  refine lv_icmp_ge (tgt := 12) hx hb dX5_isRoomForThing_5 (by decide) (fun q_1 => ?_) (fun q_1 => ?_)
  · have h := mk_ifp q_1 h
    refine lv_iconst (v := (0 : Int32)) hx hb dX5_isRoomForThing_12 (by decide) ?_
    exact hret _ _ _ h (Or.inl rfl) dX5_isRoomForThing_13
  · have h := mk_ifn q_1 h
    refine lv_iconst (v := (1 : Int32)) hx hb dX5_isRoomForThing_8 (by decide) ?_
    refine lv_goto (tgt := 13) hx hb dX5_isRoomForThing_9 (by decide) ?_
    exact hret _ _ _ h (Or.inr rfl) dX5_isRoomForThing_13

abbrev rm_X5_addThing : Room := { frames := 1, cells := 0, slots := 0, locals := 20 }
set_option maxRecDepth 20000 in
theorem k_X5_addThing_X5_isRoomForThing_73 : GoodIn wsX5_addThing (wsV RX5 73 RX5 yX5_isRoomForThing wsX5_isRoomForThing) := goodIn_r _ [7, 8, 9, 10, 11, 2, 12, 13, 14, 15, 16, 17, 18, 19, 20, 21, 22, 23, 24, 25] rfl (by decide +kernel)
set_option maxHeartbeats 4000000 in
set_option maxRecDepth 100000 in
theorem c_X5_addThing (l : Launch) (D : va_G) (cI cZ cO : ClassId) (N : Nat) (a0 : Nat → Nat) (u0 : TU) (a1 : Nat → Nat) (u1 : TU) (sz : Nat) (out : TU) (h : f_X5_addThing N u0 u1 = some out) : Met l yX5_addThing wsX5_addThing rm_X5_addThing (va_Pc [.ref (a0 0), .ref (a1 0)] (mk_Pe D vwCl (tyA cI cZ cO) (wX5 cI a0 u0 ++ wA5 cI a1 u1) sz)) (va_Qv (fun u => u = out) (mk_Be D vwCl (wX5 cI a0 u0 ++ wA5 cI a1 u1) sz (fun q => (wX5 cI a0 q ++ wA5 cI a1 u1))) (va_A (wX5 cI a0 u0 ++ wA5 cI a1 u1) sz)) 0 0 (va_A (wX5 cI a0 u0 ++ wA5 cI a1 u1) sz) := by
  refine em_v (own := RX5) (cc := cX5_addThing) (maxL := 2) (by decide) rfl rfl (Nat.le_of_ble_eq_true rfl) ?_
  intro p e s m args below meth c Q A H0 H locs ls hx hb hml hown hts hP hK hD hS hA hl hret
  have hl : lv_has ls 2 [(0, .ref (a0 0)), (1, .ref (a1 0))] := hl
  have hiX5 : ∀ w ∈ u_ws RX5 TX5 14, w ∈ wsX5_addThing := mk_seg 12 14 rfl
  unfold f_X5_addThing at h
  refine lv_aload_n hx hb dX5_addThing_0 rfl (lv_at hl 0 rfl) ?_
  obtain ⟨r_1, er_1, h⟩ := mk_bd h
  refine pc_v (As := []) (rest := []) ⟨hx, hb, hml, hown, hts⟩ (c_X5_isRoomForThing l D cI cZ cO N a0 u0 r_1 er_1) (cwV 0 hts k_X5_addThing_X5_isRoomForThing_73 rfl rfl rfl (by decide +kernel) ⟨(Nat.le_of_ble_eq_true rfl), (Nat.le_of_ble_eq_true rfl)⟩) (va_recv hK hP (ci := 5) (q0 := 0) rfl rfl) (hP.sub (ws' := wX5 cI a0 u0) [0, 1, 2, 3, 4, 5, 6, 7, 8, 9] rfl) hK rfl hl.1 rfl (Nat.le_of_ble_eq_true rfl) dX5_addThing_1 ⟨Nat.zero_le _, Nat.zero_le _⟩ ?_
  refine lv_if_eq (tgt := 13) hx hb dX5_addThing_4 (by decide) (fun q_2 => ?_) (fun q_2 => ?_)
  · have h := mk_ifp q_2 h
    exact hret _ _ _ _ _ h hP hD hS dX5_addThing_13
  · have h := mk_ifn q_2 h
    refine lv_aload_n hx hb dX5_addThing_7 rfl (lv_at hl 1 rfl) ?_
    refine va_alen (v := (5 : Int32)) hx hb hK hP 10 0 rfl rfl rfl dX5_addThing_8 ?_
    refine lv_iconst (v := (5 : Int32)) hx hb dX5_addThing_9 (by decide) ?_
    refine lv_icmp_ge (tgt := 14) hx hb dX5_addThing_10 (by decide) (fun q_3 => ?_) (fun q_3 => ?_)
    · have h := mk_ifp q_3 h
      refine lv_aload_n hx hb dX5_addThing_14 rfl (lv_at hl 0 rfl) ?_
      refine va_get (D := D) (ci := 5) (v := .ref (a0 1)) (C := RX5) (T := TX5) (N := 14) hx hb hts hiX5 hown hK hP 0 rfl rfl 0 (by decide) (hts (.fieldLink RX5 9 "ClockOnce$Town" "early" "[I") (List.mem_of_getElem? (i := 1) rfl)) (fun _ h9 => h9) rfl dX5_addThing_15 ?_
      refine lv_aload_n hx hb dX5_addThing_18 rfl (lv_at hl 0 rfl) ?_
      refine va_get (D := D) (ci := 5) (v := .int (u0 0 0)) (C := RX5) (T := TX5) (N := 14) hx hb hts hiX5 hown hK hP 0 rfl rfl 4 (by decide) (hts (.fieldLink RX5 24 "ClockOnce$Town" "things" "I") (List.mem_of_getElem? (i := 2) rfl)) (fun _ h9 => h9) rfl dX5_addThing_19 ?_
      refine lv_aload_n hx hb dX5_addThing_22 rfl (lv_at hl 1 rfl) ?_
      refine lv_iconst (v := (0 : Int32)) hx hb dX5_addThing_23 (by decide) ?_
      obtain ⟨v_4, ev_4, hiv_4, h⟩ := mk_rdE h
      refine va_iald hx hb hK hP 10 0 rfl rfl hiv_4 dX5_addThing_24 ?_
      refine mk_topi ev_4 ?_
      obtain ⟨hx_5, h⟩ := mk_ixE h
      obtain ⟨w_6, ew_6, h⟩ := mk_nmE h
      refine va_iast hx hb hK hP hD hS 1 0 rfl rfl hx_5 dX5_addThing_25 (fun H locs hP hD hS => ?_)
      have hP : va_P D vwCl (wX5 cI a0 w_6 ++ wA5 cI a1 u1) H := by rw [ew_6]; exact hP
      have hD : va_D A (wX5 cI a0 w_6 ++ wA5 cI a1 u1) := by rw [ew_6]; exact hD
      refine lv_aload_n hx hb dX5_addThing_26 rfl (lv_at hl 0 rfl) ?_
      refine va_get (D := D) (ci := 5) (v := .ref (a0 2)) (C := RX5) (T := TX5) (N := 14) hx hb hts hiX5 hown hK hP 0 rfl rfl 1 (by decide) (hts (.fieldLink RX5 15 "ClockOnce$Town" "late" "[I") (List.mem_of_getElem? (i := 3) rfl)) (fun _ h9 => h9) rfl dX5_addThing_27 ?_
      refine lv_aload_n hx hb dX5_addThing_30 rfl (lv_at hl 0 rfl) ?_
      refine va_get (D := D) (ci := 5) (v := .int (w_6 0 0)) (C := RX5) (T := TX5) (N := 14) hx hb hts hiX5 hown hK hP 0 rfl rfl 4 (by decide) (hts (.fieldLink RX5 24 "ClockOnce$Town" "things" "I") (List.mem_of_getElem? (i := 2) rfl)) (fun _ h9 => h9) rfl dX5_addThing_31 ?_
      refine lv_aload_n hx hb dX5_addThing_34 rfl (lv_at hl 1 rfl) ?_
      refine lv_iconst (v := (1 : Int32)) hx hb dX5_addThing_35 (by decide) ?_
      obtain ⟨v_7, ev_7, hiv_7, h⟩ := mk_rdE h
      refine va_iald hx hb hK hP 10 0 rfl rfl hiv_7 dX5_addThing_36 ?_
      refine mk_topi ev_7 ?_
      obtain ⟨hx_8, h⟩ := mk_ixE h
      obtain ⟨w_9, ew_9, h⟩ := mk_nmE h
      refine va_iast hx hb hK hP hD hS 2 0 rfl rfl hx_8 dX5_addThing_37 (fun H locs hP hD hS => ?_)
      have hP : va_P D vwCl (wX5 cI a0 w_9 ++ wA5 cI a1 u1) H := by rw [ew_9]; exact hP
      have hD : va_D A (wX5 cI a0 w_9 ++ wA5 cI a1 u1) := by rw [ew_9]; exact hD
      refine lv_aload_n hx hb dX5_addThing_38 rfl (lv_at hl 0 rfl) ?_
      refine va_get (D := D) (ci := 5) (v := .ref (a0 3)) (C := RX5) (T := TX5) (N := 14) hx hb hts hiX5 hown hK hP 0 rfl rfl 2 (by decide) (hts (.fieldLink RX5 18 "ClockOnce$Town" "tenths" "[I") (List.mem_of_getElem? (i := 4) rfl)) (fun _ h9 => h9) rfl dX5_addThing_39 ?_
      refine lv_aload_n hx hb dX5_addThing_42 rfl (lv_at hl 0 rfl) ?_
      refine va_get (D := D) (ci := 5) (v := .int (w_9 0 0)) (C := RX5) (T := TX5) (N := 14) hx hb hts hiX5 hown hK hP 0 rfl rfl 4 (by decide) (hts (.fieldLink RX5 24 "ClockOnce$Town" "things" "I") (List.mem_of_getElem? (i := 2) rfl)) (fun _ h9 => h9) rfl dX5_addThing_43 ?_
      refine lv_aload_n hx hb dX5_addThing_46 rfl (lv_at hl 1 rfl) ?_
      refine lv_iconst (v := (2 : Int32)) hx hb dX5_addThing_47 (by decide) ?_
      obtain ⟨v_10, ev_10, hiv_10, h⟩ := mk_rdE h
      refine va_iald hx hb hK hP 10 0 rfl rfl hiv_10 dX5_addThing_48 ?_
      refine mk_topi ev_10 ?_
      obtain ⟨hx_11, h⟩ := mk_ixE h
      obtain ⟨w_12, ew_12, h⟩ := mk_nmE h
      refine va_iast hx hb hK hP hD hS 3 0 rfl rfl hx_11 dX5_addThing_49 (fun H locs hP hD hS => ?_)
      have hP : va_P D vwCl (wX5 cI a0 w_12 ++ wA5 cI a1 u1) H := by rw [ew_12]; exact hP
      have hD : va_D A (wX5 cI a0 w_12 ++ wA5 cI a1 u1) := by rw [ew_12]; exact hD
      refine lv_aload_n hx hb dX5_addThing_50 rfl (lv_at hl 0 rfl) ?_
      refine va_get (D := D) (ci := 5) (v := .ref (a0 4)) (C := RX5) (T := TX5) (N := 14) hx hb hts hiX5 hown hK hP 0 rfl rfl 3 (by decide) (hts (.fieldLink RX5 21 "ClockOnce$Town" "coins" "[I") (List.mem_of_getElem? (i := 5) rfl)) (fun _ h9 => h9) rfl dX5_addThing_51 ?_
      refine lv_aload_n hx hb dX5_addThing_54 rfl (lv_at hl 0 rfl) ?_
      refine va_get (D := D) (ci := 5) (v := .int (w_12 0 0)) (C := RX5) (T := TX5) (N := 14) hx hb hts hiX5 hown hK hP 0 rfl rfl 4 (by decide) (hts (.fieldLink RX5 24 "ClockOnce$Town" "things" "I") (List.mem_of_getElem? (i := 2) rfl)) (fun _ h9 => h9) rfl dX5_addThing_55 ?_
      refine lv_aload_n hx hb dX5_addThing_58 rfl (lv_at hl 1 rfl) ?_
      refine lv_iconst (v := (3 : Int32)) hx hb dX5_addThing_59 (by decide) ?_
      obtain ⟨v_13, ev_13, hiv_13, h⟩ := mk_rdE h
      refine va_iald hx hb hK hP 10 0 rfl rfl hiv_13 dX5_addThing_60 ?_
      refine mk_topi ev_13 ?_
      obtain ⟨hx_14, h⟩ := mk_ixE h
      obtain ⟨w_15, ew_15, h⟩ := mk_nmE h
      refine va_iast hx hb hK hP hD hS 4 0 rfl rfl hx_14 dX5_addThing_61 (fun H locs hP hD hS => ?_)
      have hP : va_P D vwCl (wX5 cI a0 w_15 ++ wA5 cI a1 u1) H := by rw [ew_15]; exact hP
      have hD : va_D A (wX5 cI a0 w_15 ++ wA5 cI a1 u1) := by rw [ew_15]; exact hD
      refine lv_aload_n hx hb dX5_addThing_62 rfl (lv_at hl 0 rfl) ?_
      refine lv_dup hx hb dX5_addThing_63 rfl ?_
      refine va_get (D := D) (ci := 5) (v := .int (w_15 0 1)) (C := RX5) (T := TX5) (N := 14) hx hb hts hiX5 hown hK hP 0 rfl rfl 5 (by decide) (hts (.fieldLink RX5 28 "ClockOnce$Town" "truth" "I") (List.mem_of_getElem? (i := 6) rfl)) (fun _ h9 => h9) rfl dX5_addThing_64 ?_
      refine lv_aload_n hx hb dX5_addThing_67 rfl (lv_at hl 1 rfl) ?_
      refine lv_iconst (v := (4 : Int32)) hx hb dX5_addThing_68 (by decide) ?_
      obtain ⟨v_16, ev_16, hiv_16, h⟩ := mk_rdE h
      refine va_iald hx hb hK hP 10 0 rfl rfl hiv_16 dX5_addThing_69 ?_
      refine mk_topi ev_16 ?_
      refine lv_aload_n hx hb dX5_addThing_70 rfl (lv_at hl 0 rfl) ?_
      refine va_get (D := D) (ci := 5) (v := .int (w_15 0 0)) (C := RX5) (T := TX5) (N := 14) hx hb hts hiX5 hown hK hP 0 rfl rfl 4 (by decide) (hts (.fieldLink RX5 24 "ClockOnce$Town" "things" "I") (List.mem_of_getElem? (i := 2) rfl)) (fun _ h9 => h9) rfl dX5_addThing_71 ?_
      refine lv_ishl hx hb dX5_addThing_74 ?_
      refine lv_ior hx hb dX5_addThing_75 ?_
      obtain ⟨w_17, ew_17, h⟩ := mk_nmE h
      refine va_put (D := D) (ci := 5) (v := .int ((w_15 0 1) ||| (v_16 <<< ((w_15 0 0) &&& 31)))) (ty := .int) (C := RX5) (T := TX5) (N := 14) hx hb hts hiX5 tyX5 tyX5_ok nmX5 hown hK hP hD hS 0 rfl rfl 5 (by decide) (hts (.fieldLink RX5 28 "ClockOnce$Town" "truth" "I") (List.mem_of_getElem? (i := 6) rfl)) (fun _ h9 => h9) rfl (by decide +kernel) rfl rfl (Nat.le_of_ble_eq_true rfl) dX5_addThing_76 (fun H locs hP hD hS => ?_)
      have hP : va_P D vwCl (wX5 cI a0 w_17 ++ wA5 cI a1 u1) H := by rw [ew_17]; exact hP
      have hD : va_D A (wX5 cI a0 w_17 ++ wA5 cI a1 u1) := by rw [ew_17]; exact hD
      refine lv_aload_n hx hb dX5_addThing_79 rfl (lv_at hl 0 rfl) ?_
      refine lv_dup hx hb dX5_addThing_80 rfl ?_
      refine va_get (D := D) (ci := 5) (v := .int (w_17 0 0)) (C := RX5) (T := TX5) (N := 14) hx hb hts hiX5 hown hK hP 0 rfl rfl 4 (by decide) (hts (.fieldLink RX5 24 "ClockOnce$Town" "things" "I") (List.mem_of_getElem? (i := 2) rfl)) (fun _ h9 => h9) rfl dX5_addThing_81 ?_
      refine lv_iconst (v := (1 : Int32)) hx hb dX5_addThing_84 (by decide) ?_
      refine lv_iadd hx hb dX5_addThing_85 ?_
      obtain ⟨w_18, ew_18, h⟩ := mk_nmE h
      refine va_put (D := D) (ci := 5) (v := .int ((w_17 0 0) + (1 : Int32))) (ty := .int) (C := RX5) (T := TX5) (N := 14) hx hb hts hiX5 tyX5 tyX5_ok nmX5 hown hK hP hD hS 0 rfl rfl 4 (by decide) (hts (.fieldLink RX5 24 "ClockOnce$Town" "things" "I") (List.mem_of_getElem? (i := 2) rfl)) (fun _ h9 => h9) rfl (by decide +kernel) rfl rfl (Nat.le_of_ble_eq_true rfl) dX5_addThing_86 (fun H locs hP hD hS => ?_)
      have hP : va_P D vwCl (wX5 cI a0 w_18 ++ wA5 cI a1 u1) H := by rw [ew_18]; exact hP
      have hD : va_D A (wX5 cI a0 w_18 ++ wA5 cI a1 u1) := by rw [ew_18]; exact hD
      exact hret _ _ _ _ _ h hP hD hS dX5_addThing_89
    · have h := mk_ifn q_3 h
      exact hret _ _ _ _ _ h hP hD hS dX5_addThing_13

abbrev rm_X5_addAsker : Room := { frames := 0, cells := 0, slots := 0, locals := 0 }
set_option maxHeartbeats 4000000 in
set_option maxRecDepth 100000 in
theorem c_X5_addAsker (l : Launch) (D : va_G) (cI cZ cO : ClassId) (N : Nat) (a0 : Nat → Nat) (u0 : TU) (p1 : Int32) (p2 : Int32) (sz : Nat) (out : TU) (h : f_X5_addAsker N u0 p1 p2 = some out) : Met l yX5_addAsker wsX5_addAsker rm_X5_addAsker (va_Pc [.ref (a0 0), .int p1, .int p2] (mk_Pe D vwCl (tyA cI cZ cO) (wX5 cI a0 u0) sz)) (va_Qv (fun u => u = out) (mk_Be D vwCl (wX5 cI a0 u0) sz (fun q => (wX5 cI a0 q))) (va_A (wX5 cI a0 u0) sz)) 0 0 (va_A (wX5 cI a0 u0) sz) := by
  refine em_v (own := RX5) (cc := cX5_addAsker) (maxL := 3) (by decide) rfl rfl (Nat.le_of_ble_eq_true rfl) ?_
  intro p e s m args below meth c Q A H0 H locs ls hx hb hml hown hts hP hK hD hS hA hl hret
  have hl : lv_has ls 3 [(0, .ref (a0 0)), (1, .int p1), (2, .int p2)] := hl
  have hiX5 : ∀ w ∈ u_ws RX5 TX5 14, w ∈ wsX5_addAsker := mk_seg 4 14 rfl
  unfold f_X5_addAsker at h
  refine lv_aload_n hx hb dX5_addAsker_0 rfl (lv_at hl 0 rfl) ?_
  refine va_get (D := D) (ci := 5) (v := .int (u0 0 2)) (C := RX5) (T := TX5) (N := 14) hx hb hts hiX5 hown hK hP 0 rfl rfl 8 (by decide) (hts (.fieldLink RX5 37 "ClockOnce$Town" "askers" "I") (List.mem_of_getElem? (i := 1) rfl)) (fun _ h9 => h9) rfl dX5_addAsker_1 ?_
  refine lv_iconst (v := (4 : Int32)) hx hb dX5_addAsker_4 (by decide) ?_
  refine lv_icmp_ge (tgt := 38) hx hb dX5_addAsker_5 (by decide) (fun q_1 => ?_) (fun q_1 => ?_)
  · have h := mk_ifp q_1 h
    exact hret _ _ _ _ _ h hP hD hS dX5_addAsker_38
  · have h := mk_ifn q_1 h
    refine lv_aload_n hx hb dX5_addAsker_8 rfl (lv_at hl 0 rfl) ?_
    refine va_get (D := D) (ci := 5) (v := .ref (a0 5)) (C := RX5) (T := TX5) (N := 14) hx hb hts hiX5 hown hK hP 0 rfl rfl 6 (by decide) (hts (.fieldLink RX5 31 "ClockOnce$Town" "first" "[I") (List.mem_of_getElem? (i := 2) rfl)) (fun _ h9 => h9) rfl dX5_addAsker_9 ?_
    refine lv_aload_n hx hb dX5_addAsker_12 rfl (lv_at hl 0 rfl) ?_
    refine va_get (D := D) (ci := 5) (v := .int (u0 0 2)) (C := RX5) (T := TX5) (N := 14) hx hb hts hiX5 hown hK hP 0 rfl rfl 8 (by decide) (hts (.fieldLink RX5 37 "ClockOnce$Town" "askers" "I") (List.mem_of_getElem? (i := 1) rfl)) (fun _ h9 => h9) rfl dX5_addAsker_13 ?_
    refine lv_iload_n hx hb dX5_addAsker_16 rfl (lv_at hl 1 rfl) ?_
    obtain ⟨hx_2, h⟩ := mk_ixE h
    obtain ⟨w_3, ew_3, h⟩ := mk_nmE h
    refine va_iast hx hb hK hP hD hS 5 0 rfl rfl hx_2 dX5_addAsker_17 (fun H locs hP hD hS => ?_)
    have hP : va_P D vwCl (wX5 cI a0 w_3) H := by rw [ew_3]; exact hP
    have hD : va_D A (wX5 cI a0 w_3) := by rw [ew_3]; exact hD
    refine lv_aload_n hx hb dX5_addAsker_18 rfl (lv_at hl 0 rfl) ?_
    refine va_get (D := D) (ci := 5) (v := .ref (a0 6)) (C := RX5) (T := TX5) (N := 14) hx hb hts hiX5 hown hK hP 0 rfl rfl 7 (by decide) (hts (.fieldLink RX5 34 "ClockOnce$Town" "last" "[I") (List.mem_of_getElem? (i := 3) rfl)) (fun _ h9 => h9) rfl dX5_addAsker_19 ?_
    refine lv_aload_n hx hb dX5_addAsker_22 rfl (lv_at hl 0 rfl) ?_
    refine va_get (D := D) (ci := 5) (v := .int (w_3 0 2)) (C := RX5) (T := TX5) (N := 14) hx hb hts hiX5 hown hK hP 0 rfl rfl 8 (by decide) (hts (.fieldLink RX5 37 "ClockOnce$Town" "askers" "I") (List.mem_of_getElem? (i := 1) rfl)) (fun _ h9 => h9) rfl dX5_addAsker_23 ?_
    refine lv_iload_n hx hb dX5_addAsker_26 rfl (lv_at hl 2 rfl) ?_
    obtain ⟨hx_4, h⟩ := mk_ixE h
    obtain ⟨w_5, ew_5, h⟩ := mk_nmE h
    refine va_iast hx hb hK hP hD hS 6 0 rfl rfl hx_4 dX5_addAsker_27 (fun H locs hP hD hS => ?_)
    have hP : va_P D vwCl (wX5 cI a0 w_5) H := by rw [ew_5]; exact hP
    have hD : va_D A (wX5 cI a0 w_5) := by rw [ew_5]; exact hD
    refine lv_aload_n hx hb dX5_addAsker_28 rfl (lv_at hl 0 rfl) ?_
    refine lv_dup hx hb dX5_addAsker_29 rfl ?_
    refine va_get (D := D) (ci := 5) (v := .int (w_5 0 2)) (C := RX5) (T := TX5) (N := 14) hx hb hts hiX5 hown hK hP 0 rfl rfl 8 (by decide) (hts (.fieldLink RX5 37 "ClockOnce$Town" "askers" "I") (List.mem_of_getElem? (i := 1) rfl)) (fun _ h9 => h9) rfl dX5_addAsker_30 ?_
    refine lv_iconst (v := (1 : Int32)) hx hb dX5_addAsker_33 (by decide) ?_
    refine lv_iadd hx hb dX5_addAsker_34 ?_
    obtain ⟨w_6, ew_6, h⟩ := mk_nmE h
    refine va_put (D := D) (ci := 5) (v := .int ((w_5 0 2) + (1 : Int32))) (ty := .int) (C := RX5) (T := TX5) (N := 14) hx hb hts hiX5 tyX5 tyX5_ok nmX5 hown hK hP hD hS 0 rfl rfl 8 (by decide) (hts (.fieldLink RX5 37 "ClockOnce$Town" "askers" "I") (List.mem_of_getElem? (i := 1) rfl)) (fun _ h9 => h9) rfl (by decide +kernel) rfl rfl (Nat.le_of_ble_eq_true rfl) dX5_addAsker_35 (fun H locs hP hD hS => ?_)
    have hP : va_P D vwCl (wX5 cI a0 w_6) H := by rw [ew_6]; exact hP
    have hD : va_D A (wX5 cI a0 w_6) := by rw [ew_6]; exact hD
    exact hret _ _ _ _ _ h hP hD hS dX5_addAsker_38

abbrev rm_X5_addLink : Room := { frames := 0, cells := 0, slots := 0, locals := 0 }
set_option maxHeartbeats 4000000 in
set_option maxRecDepth 100000 in
theorem c_X5_addLink (l : Launch) (D : va_G) (cI cZ cO : ClassId) (N : Nat) (a0 : Nat → Nat) (u0 : TU) (p1 : Int32) (p2 : Int32) (sz : Nat) (out : TU) (h : f_X5_addLink N u0 p1 p2 = some out) : Met l yX5_addLink wsX5_addLink rm_X5_addLink (va_Pc [.ref (a0 0), .int p1, .int p2] (mk_Pe D vwCl (tyA cI cZ cO) (wX5 cI a0 u0) sz)) (va_Qv (fun u => u = out) (mk_Be D vwCl (wX5 cI a0 u0) sz (fun q => (wX5 cI a0 q))) (va_A (wX5 cI a0 u0) sz)) 0 0 (va_A (wX5 cI a0 u0) sz) := by
  refine em_v (own := RX5) (cc := cX5_addLink) (maxL := 3) (by decide) rfl rfl (Nat.le_of_ble_eq_true rfl) ?_
  intro p e s m args below meth c Q A H0 H locs ls hx hb hml hown hts hP hK hD hS hA hl hret
  have hl : lv_has ls 3 [(0, .ref (a0 0)), (1, .int p1), (2, .int p2)] := hl
  have hiX5 : ∀ w ∈ u_ws RX5 TX5 14, w ∈ wsX5_addLink := mk_seg 4 14 rfl
  unfold f_X5_addLink at h
  refine lv_aload_n hx hb dX5_addLink_0 rfl (lv_at hl 0 rfl) ?_
  refine va_get (D := D) (ci := 5) (v := .int (u0 0 3)) (C := RX5) (T := TX5) (N := 14) hx hb hts hiX5 hown hK hP 0 rfl rfl 11 (by decide) (hts (.fieldLink RX5 46 "ClockOnce$Town" "links" "I") (List.mem_of_getElem? (i := 1) rfl)) (fun _ h9 => h9) rfl dX5_addLink_1 ?_
  refine lv_iconst (v := (3 : Int32)) hx hb dX5_addLink_4 (by decide) ?_
  refine lv_icmp_ge (tgt := 38) hx hb dX5_addLink_5 (by decide) (fun q_1 => ?_) (fun q_1 => ?_)
  · have h := mk_ifp q_1 h
    exact hret _ _ _ _ _ h hP hD hS dX5_addLink_38
  · have h := mk_ifn q_1 h
    refine lv_aload_n hx hb dX5_addLink_8 rfl (lv_at hl 0 rfl) ?_
    refine va_get (D := D) (ci := 5) (v := .ref (a0 7)) (C := RX5) (T := TX5) (N := 14) hx hb hts hiX5 hown hK hP 0 rfl rfl 9 (by decide) (hts (.fieldLink RX5 40 "ClockOnce$Town" "from" "[I") (List.mem_of_getElem? (i := 2) rfl)) (fun _ h9 => h9) rfl dX5_addLink_9 ?_
    refine lv_aload_n hx hb dX5_addLink_12 rfl (lv_at hl 0 rfl) ?_
    refine va_get (D := D) (ci := 5) (v := .int (u0 0 3)) (C := RX5) (T := TX5) (N := 14) hx hb hts hiX5 hown hK hP 0 rfl rfl 11 (by decide) (hts (.fieldLink RX5 46 "ClockOnce$Town" "links" "I") (List.mem_of_getElem? (i := 1) rfl)) (fun _ h9 => h9) rfl dX5_addLink_13 ?_
    refine lv_iload_n hx hb dX5_addLink_16 rfl (lv_at hl 1 rfl) ?_
    obtain ⟨hx_2, h⟩ := mk_ixE h
    obtain ⟨w_3, ew_3, h⟩ := mk_nmE h
    refine va_iast hx hb hK hP hD hS 7 0 rfl rfl hx_2 dX5_addLink_17 (fun H locs hP hD hS => ?_)
    have hP : va_P D vwCl (wX5 cI a0 w_3) H := by rw [ew_3]; exact hP
    have hD : va_D A (wX5 cI a0 w_3) := by rw [ew_3]; exact hD
    refine lv_aload_n hx hb dX5_addLink_18 rfl (lv_at hl 0 rfl) ?_
    refine va_get (D := D) (ci := 5) (v := .ref (a0 8)) (C := RX5) (T := TX5) (N := 14) hx hb hts hiX5 hown hK hP 0 rfl rfl 10 (by decide) (hts (.fieldLink RX5 43 "ClockOnce$Town" "to" "[I") (List.mem_of_getElem? (i := 3) rfl)) (fun _ h9 => h9) rfl dX5_addLink_19 ?_
    refine lv_aload_n hx hb dX5_addLink_22 rfl (lv_at hl 0 rfl) ?_
    refine va_get (D := D) (ci := 5) (v := .int (w_3 0 3)) (C := RX5) (T := TX5) (N := 14) hx hb hts hiX5 hown hK hP 0 rfl rfl 11 (by decide) (hts (.fieldLink RX5 46 "ClockOnce$Town" "links" "I") (List.mem_of_getElem? (i := 1) rfl)) (fun _ h9 => h9) rfl dX5_addLink_23 ?_
    refine lv_iload_n hx hb dX5_addLink_26 rfl (lv_at hl 2 rfl) ?_
    obtain ⟨hx_4, h⟩ := mk_ixE h
    obtain ⟨w_5, ew_5, h⟩ := mk_nmE h
    refine va_iast hx hb hK hP hD hS 8 0 rfl rfl hx_4 dX5_addLink_27 (fun H locs hP hD hS => ?_)
    have hP : va_P D vwCl (wX5 cI a0 w_5) H := by rw [ew_5]; exact hP
    have hD : va_D A (wX5 cI a0 w_5) := by rw [ew_5]; exact hD
    refine lv_aload_n hx hb dX5_addLink_28 rfl (lv_at hl 0 rfl) ?_
    refine lv_dup hx hb dX5_addLink_29 rfl ?_
    refine va_get (D := D) (ci := 5) (v := .int (w_5 0 3)) (C := RX5) (T := TX5) (N := 14) hx hb hts hiX5 hown hK hP 0 rfl rfl 11 (by decide) (hts (.fieldLink RX5 46 "ClockOnce$Town" "links" "I") (List.mem_of_getElem? (i := 1) rfl)) (fun _ h9 => h9) rfl dX5_addLink_30 ?_
    refine lv_iconst (v := (1 : Int32)) hx hb dX5_addLink_33 (by decide) ?_
    refine lv_iadd hx hb dX5_addLink_34 ?_
    obtain ⟨w_6, ew_6, h⟩ := mk_nmE h
    refine va_put (D := D) (ci := 5) (v := .int ((w_5 0 3) + (1 : Int32))) (ty := .int) (C := RX5) (T := TX5) (N := 14) hx hb hts hiX5 tyX5 tyX5_ok nmX5 hown hK hP hD hS 0 rfl rfl 11 (by decide) (hts (.fieldLink RX5 46 "ClockOnce$Town" "links" "I") (List.mem_of_getElem? (i := 1) rfl)) (fun _ h9 => h9) rfl (by decide +kernel) rfl rfl (Nat.le_of_ble_eq_true rfl) dX5_addLink_35 (fun H locs hP hD hS => ?_)
    have hP : va_P D vwCl (wX5 cI a0 w_6) H := by rw [ew_6]; exact hP
    have hD : va_D A (wX5 cI a0 w_6) := by rw [ew_6]; exact hD
    exact hret _ _ _ _ _ h hP hD hS dX5_addLink_38

abbrev rm_X5_hasThing : Room := { frames := 0, cells := 0, slots := 0, locals := 0 }
set_option maxHeartbeats 4000000 in
set_option maxRecDepth 100000 in
theorem c_X5_hasThing (l : Launch) (D : va_G) (cI cZ cO : ClassId) (N : Nat) (a0 : Nat → Nat) (u0 : TU) (p1 : Int32) (out : Int32) (h : f_X5_hasThing N u0 p1 = some out) : Met l yX5_hasThing wsX5_hasThing rm_X5_hasThing (va_Pc [.ref (a0 0), .int p1] (fun U => va_P D vwCl (wX5 cI a0 u0) U.heap ∧ va_K D vwCl (tyA cI cZ cO) U)) (vp_Si (fun r => r = out)) 0 0 (fun _ => False) := by
  refine pm_z (own := RX5) (cc := cX5_hasThing) (maxL := 2) (by decide) rfl rfl (Nat.le_of_ble_eq_true rfl) ?_
  intro p e s m args below meth c Q H ls hx hb hml hown hts hP hK hl hret
  have hl : lv_has ls 2 [(0, .ref (a0 0)), (1, .int p1)] := hl
  have hiX5 : ∀ w ∈ u_ws RX5 TX5 14, w ∈ wsX5_hasThing := mk_seg 2 14 rfl
  unfold f_X5_hasThing at h
  refine lv_iload_n hx hb dX5_hasThing_0 rfl (lv_at hl 1 rfl) ?_
  refine lv_if_lt (tgt := 16) hx hb dX5_hasThing_1 (by decide) (fun q_1 => ?_) (fun q_1 => ?_)
  · have h := mk_ifp q_1 h
    refine lv_iconst (v := (0 : Int32)) hx hb dX5_hasThing_16 (by decide) ?_
    exact hret _ _ _ h (Or.inl rfl) dX5_hasThing_17
  · have h := mk_ifn q_1 h
    refine lv_iload_n hx hb dX5_hasThing_4 rfl (lv_at hl 1 rfl) ?_
    refine lv_aload_n hx hb dX5_hasThing_5 rfl (lv_at hl 0 rfl) ?_
    refine va_get (D := D) (ci := 5) (v := .int (u0 0 0)) (C := RX5) (T := TX5) (N := 14) hx hb hts hiX5 hown hK hP 0 rfl rfl 4 (by decide) (hts (.fieldLink RX5 24 "ClockOnce$Town" "things" "I") (List.mem_of_getElem? (i := 1) rfl)) (fun _ h9 => h9) rfl dX5_hasThing_6 ?_
    refine lv_icmp_ge (tgt := 16) hx hb dX5_hasThing_9 (by decide) (fun q_2 => ?_) (fun q_2 => ?_)
    · have h := mk_ifp q_2 h
      refine lv_iconst (v := (0 : Int32)) hx hb dX5_hasThing_16 (by decide) ?_
      exact hret _ _ _ h (Or.inl rfl) dX5_hasThing_17
    · have h := mk_ifn q_2 h
      refine lv_iconst (v := (1 : Int32)) hx hb dX5_hasThing_12 (by decide) ?_
      refine lv_goto (tgt := 17) hx hb dX5_hasThing_13 (by decide) ?_
      exact hret _ _ _ h (Or.inr rfl) dX5_hasThing_17

abbrev rm_X5_isBroken : Room := { frames := 0, cells := 0, slots := 0, locals := 0 }
set_option maxHeartbeats 4000000 in
set_option maxRecDepth 100000 in
theorem c_X5_isBroken (l : Launch) (D : va_G) (cI cZ cO : ClassId) (N : Nat) (a0 : Nat → Nat) (u0 : TU) (p1 : Int32) (p2 : Int32) (p3 : Int32) (out : Int32) (h : f_X5_isBroken N u0 p1 p2 p3 = some out) : Met l yX5_isBroken wsX5_isBroken rm_X5_isBroken (va_Pc [.ref (a0 0), .int p1, .int p2, .int p3] (fun U => va_P D vwCl (wX5 cI a0 u0) U.heap ∧ va_K D vwCl (tyA cI cZ cO) U)) (vp_Si (fun r => r = out)) 0 0 (fun _ => False) := by
  refine pm_z (own := RX5) (cc := cX5_isBroken) (maxL := 4) (by decide) rfl rfl (Nat.le_of_ble_eq_true rfl) ?_
  intro p e s m args below meth c Q H ls hx hb hml hown hts hP hK hl hret
  have hl : lv_has ls 4 [(0, .ref (a0 0)), (1, .int p1), (2, .int p2), (3, .int p3)] := hl
  unfold f_X5_isBroken at h
  refine lv_iload_n hx hb dX5_isBroken_0 rfl (lv_at hl 3 rfl) ?_
  refine lv_iload_n hx hb dX5_isBroken_1 rfl (lv_at hl 1 rfl) ?_
  refine lv_ishr hx hb dX5_isBroken_2 ?_
  refine lv_iconst (v := (1 : Int32)) hx hb dX5_isBroken_3 (by decide) ?_
  refine lv_iand hx hb dX5_isBroken_4 ?_
  refine lv_if_ne (tgt := 20) hx hb dX5_isBroken_5 (by decide) (fun q_1 => ?_) (fun q_1 => ?_)
  · have h := mk_ifn q_1 h
    refine lv_iconst (v := (0 : Int32)) hx hb dX5_isBroken_20 (by decide) ?_
    exact hret _ _ _ h (Or.inl rfl) dX5_isBroken_21
  · have h := mk_ifp q_1 h
    refine lv_iload_n hx hb dX5_isBroken_8 rfl (lv_at hl 3 rfl) ?_
    refine lv_iload_n hx hb dX5_isBroken_9 rfl (lv_at hl 2 rfl) ?_
    refine lv_ishr hx hb dX5_isBroken_10 ?_
    refine lv_iconst (v := (1 : Int32)) hx hb dX5_isBroken_11 (by decide) ?_
    refine lv_iand hx hb dX5_isBroken_12 ?_
    refine lv_if_eq (tgt := 20) hx hb dX5_isBroken_13 (by decide) (fun q_2 => ?_) (fun q_2 => ?_)
    · have h := mk_ifp q_2 h
      refine lv_iconst (v := (0 : Int32)) hx hb dX5_isBroken_20 (by decide) ?_
      exact hret _ _ _ h (Or.inl rfl) dX5_isBroken_21
    · have h := mk_ifn q_2 h
      refine lv_iconst (v := (1 : Int32)) hx hb dX5_isBroken_16 (by decide) ?_
      refine lv_goto (tgt := 21) hx hb dX5_isBroken_17 (by decide) ?_
      exact hret _ _ _ h (Or.inr rfl) dX5_isBroken_21

abbrev rm_X5_canLink : Room := { frames := 1, cells := 0, slots := 0, locals := 23 }
set_option maxRecDepth 20000 in
theorem k_X5_canLink_X5_isBroken_69 : GoodIn wsX5_canLink (wsV RX5 69 RX5 yX5_isBroken wsX5_isBroken) := goodIn_r _ [11, 12, 13, 8, 14] rfl (by decide +kernel)
set_option maxRecDepth 20000 in
theorem k_X5_canLink_X5_hasThing_66 : GoodIn wsX5_canLink (wsV RX5 66 RX5 yX5_hasThing wsX5_hasThing) := goodIn_r _ [5, 6, 7, 8, 9, 10, 15, 16, 17, 18, 19, 20, 21, 22, 23, 24, 25, 26, 27, 28] rfl (by decide +kernel)
set_option maxHeartbeats 4000000 in
set_option maxRecDepth 100000 in
theorem c_X5_canLink (l : Launch) (D : va_G) (cI cZ cO : ClassId) (N : Nat) (a0 : Nat → Nat) (u0 : TU) (p1 : Int32) (p2 : Int32) (out : Int32) (h : f_X5_canLink N u0 p1 p2 = some out) : Met l yX5_canLink wsX5_canLink rm_X5_canLink (va_Pc [.ref (a0 0), .int p1, .int p2] (fun U => va_P D vwCl (wX5 cI a0 u0) U.heap ∧ va_K D vwCl (tyA cI cZ cO) U)) (vp_Si (fun r => r = out)) 0 0 (fun _ => False) := by
  refine pm_z (own := RX5) (cc := cX5_canLink) (maxL := 4) (by decide) rfl rfl (Nat.le_of_ble_eq_true rfl) ?_
  intro p e s m args below meth c Q H ls hx hb hml hown hts hP hK hl hret
  have hl : lv_has ls 4 [(0, .ref (a0 0)), (1, .int p1), (2, .int p2)] := hl
  have hiX5 : ∀ w ∈ u_ws RX5 TX5 14, w ∈ wsX5_canLink := mk_seg 15 14 rfl
  have K25 : ∀ (x1 : Int32) (x2 : Int32) (x3 : Int32) (ls : Array Slot), lv_has ls 4 [(0, .ref (a0 0)), (1, .int x1), (2, .int x2), (3, .int x3)] → lq1 (g_X5_canLink_25 N u0 x1 x2) N x3 = some out → W p l e rm_X5_canLink s m args below meth c H [] 0 0 Q (F0 m 25 ls []) := by
    intro x1 x2 x3 ls hl h
    refine lq1_W (Wd := fun x3 => ∀ (ls : Array Slot), lv_has ls 4 [(0, .ref (a0 0)), (1, .int x1), (2, .int x2), (3, .int x3)] → W p l e rm_X5_canLink s m args below meth c H [] 0 0 Q (F0 m 25 ls [])) (fun rec25 ih25 x3 h ls hl => ?_) N x3 h ls hl
    unfold g_X5_canLink_25 at h
    refine lv_iload_n hx hb dX5_canLink_25 rfl (lv_at hl 3 rfl) ?_
    refine lv_aload_n hx hb dX5_canLink_26 rfl (lv_at hl 0 rfl) ?_
    refine va_get (D := D) (ci := 5) (v := .int (u0 0 3)) (C := RX5) (T := TX5) (N := 14) hx hb hts hiX5 hown hK hP 0 rfl rfl 11 (by decide) (hts (.fieldLink RX5 46 "ClockOnce$Town" "links" "I") (List.mem_of_getElem? (i := 1) rfl)) (fun _ h9 => h9) rfl dX5_canLink_27 ?_
    refine lv_icmp_ge (tgt := 61) hx hb dX5_canLink_30 (by decide) (fun q_1 => ?_) (fun q_1 => ?_)
    · have h := mk_ifp q_1 h
      refine lv_aload_n hx hb dX5_canLink_61 rfl (lv_at hl 0 rfl) ?_
      refine lv_iload_n hx hb dX5_canLink_62 rfl (lv_at hl 1 rfl) ?_
      refine lv_iload_n hx hb dX5_canLink_63 rfl (lv_at hl 2 rfl) ?_
      refine lv_aload_n hx hb dX5_canLink_64 rfl (lv_at hl 0 rfl) ?_
      refine va_get (D := D) (ci := 5) (v := .int (u0 0 1)) (C := RX5) (T := TX5) (N := 14) hx hb hts hiX5 hown hK hP 0 rfl rfl 5 (by decide) (hts (.fieldLink RX5 28 "ClockOnce$Town" "truth" "I") (List.mem_of_getElem? (i := 4) rfl)) (fun _ h9 => h9) rfl dX5_canLink_65 ?_
      obtain ⟨r_2, er_2, h⟩ := mk_bd h
      refine pc_v (As := [.int x1, .int x2, .int (u0 0 1)]) (rest := []) ⟨hx, hb, hml, hown, hts⟩ (c_X5_isBroken l D cI cZ cO N a0 u0 x1 x2 (u0 0 1) r_2 er_2) (cwV 3 hts k_X5_canLink_X5_isBroken_69 rfl rfl rfl (by decide +kernel) ⟨(Nat.le_of_ble_eq_true rfl), (Nat.le_of_ble_eq_true rfl)⟩) (va_recv hK hP (ci := 5) (q0 := 0) rfl rfl) hP hK rfl hl.1 rfl (Nat.le_of_ble_eq_true rfl) dX5_canLink_68 ⟨Nat.zero_le _, Nat.zero_le _⟩ ?_
      refine lv_if_ne (tgt := 78) hx hb dX5_canLink_71 (by decide) (fun q_3 => ?_) (fun q_3 => ?_)
      · have h := mk_ifn q_3 h
        refine lv_iconst (v := (0 : Int32)) hx hb dX5_canLink_78 (by decide) ?_
        exact hret _ _ _ h (Or.inl rfl) dX5_canLink_79
      · have h := mk_ifp q_3 h
        refine lv_iconst (v := (1 : Int32)) hx hb dX5_canLink_74 (by decide) ?_
        refine lv_goto (tgt := 79) hx hb dX5_canLink_75 (by decide) ?_
        exact hret _ _ _ h (Or.inr rfl) dX5_canLink_79
    · have h := mk_ifn q_1 h
      refine lv_aload_n hx hb dX5_canLink_33 rfl (lv_at hl 0 rfl) ?_
      refine va_get (D := D) (ci := 5) (v := .ref (a0 7)) (C := RX5) (T := TX5) (N := 14) hx hb hts hiX5 hown hK hP 0 rfl rfl 9 (by decide) (hts (.fieldLink RX5 40 "ClockOnce$Town" "from" "[I") (List.mem_of_getElem? (i := 2) rfl)) (fun _ h9 => h9) rfl dX5_canLink_34 ?_
      refine lv_iload_n hx hb dX5_canLink_37 rfl (lv_at hl 3 rfl) ?_
      obtain ⟨v_4, ev_4, hiv_4, h⟩ := mk_rdE h
      refine va_iald hx hb hK hP 7 0 rfl rfl hiv_4 dX5_canLink_38 ?_
      refine mk_topi ev_4 ?_
      refine lv_iload_n hx hb dX5_canLink_39 rfl (lv_at hl 1 rfl) ?_
      refine lv_icmp_ne (tgt := 55) hx hb dX5_canLink_40 (by decide) (fun q_5 => ?_) (fun q_5 => ?_)
      · have h := mk_ifn q_5 h
        refine lv_iinc (v := (x3 + (1 : Int32))) (lv' := [(3, .int (x3 + (1 : Int32))), (0, .ref (a0 0)), (1, .int x1), (2, .int x2)]) hx hb dX5_canLink_55 hl (k := 3) rfl rfl (by decide) rfl (fun ls hl => ?_)
        refine lv_goto (tgt := 25) hx hb dX5_canLink_58 (by decide) ?_
        exact ih25 (x3 + (1 : Int32)) h ls (lv_sub hl [1, 2, 3, 0] rfl)
      · have h := mk_ifp q_5 h
        refine lv_aload_n hx hb dX5_canLink_43 rfl (lv_at hl 0 rfl) ?_
        refine va_get (D := D) (ci := 5) (v := .ref (a0 8)) (C := RX5) (T := TX5) (N := 14) hx hb hts hiX5 hown hK hP 0 rfl rfl 10 (by decide) (hts (.fieldLink RX5 43 "ClockOnce$Town" "to" "[I") (List.mem_of_getElem? (i := 3) rfl)) (fun _ h9 => h9) rfl dX5_canLink_44 ?_
        refine lv_iload_n hx hb dX5_canLink_47 rfl (lv_at hl 3 rfl) ?_
        obtain ⟨v_6, ev_6, hiv_6, h⟩ := mk_rdE h
        refine va_iald hx hb hK hP 8 0 rfl rfl hiv_6 dX5_canLink_48 ?_
        refine mk_topi ev_6 ?_
        refine lv_iload_n hx hb dX5_canLink_49 rfl (lv_at hl 2 rfl) ?_
        refine lv_icmp_ne (tgt := 55) hx hb dX5_canLink_50 (by decide) (fun q_7 => ?_) (fun q_7 => ?_)
        · have h := mk_ifn q_7 h
          refine lv_iinc (v := (x3 + (1 : Int32))) (lv' := [(3, .int (x3 + (1 : Int32))), (0, .ref (a0 0)), (1, .int x1), (2, .int x2)]) hx hb dX5_canLink_55 hl (k := 3) rfl rfl (by decide) rfl (fun ls hl => ?_)
          refine lv_goto (tgt := 25) hx hb dX5_canLink_58 (by decide) ?_
          exact ih25 (x3 + (1 : Int32)) h ls (lv_sub hl [1, 2, 3, 0] rfl)
        · have h := mk_ifp q_7 h
          refine lv_iconst (v := (0 : Int32)) hx hb dX5_canLink_53 (by decide) ?_
          exact hret _ _ _ h (Or.inl rfl) dX5_canLink_54
  unfold f_X5_canLink at h
  refine lv_aload_n hx hb dX5_canLink_0 rfl (lv_at hl 0 rfl) ?_
  refine lv_iload_n hx hb dX5_canLink_1 rfl (lv_at hl 1 rfl) ?_
  obtain ⟨r_8, er_8, h⟩ := mk_bd h
  refine pc_v (As := [.int p1]) (rest := []) ⟨hx, hb, hml, hown, hts⟩ (c_X5_hasThing l D cI cZ cO N a0 u0 p1 r_8 er_8) (cwV 1 hts k_X5_canLink_X5_hasThing_66 rfl rfl rfl (by decide +kernel) ⟨(Nat.le_of_ble_eq_true rfl), (Nat.le_of_ble_eq_true rfl)⟩) (va_recv hK hP (ci := 5) (q0 := 0) rfl rfl) hP hK rfl hl.1 rfl (Nat.le_of_ble_eq_true rfl) dX5_canLink_2 ⟨Nat.zero_le _, Nat.zero_le _⟩ ?_
  refine lv_if_eq (tgt := 21) hx hb dX5_canLink_5 (by decide) (fun q_9 => ?_) (fun q_9 => ?_)
  · have h := mk_ifp q_9 h
    refine lv_iconst (v := (0 : Int32)) hx hb dX5_canLink_21 (by decide) ?_
    exact hret _ _ _ h (Or.inl rfl) dX5_canLink_22
  · have h := mk_ifn q_9 h
    refine lv_aload_n hx hb dX5_canLink_8 rfl (lv_at hl 0 rfl) ?_
    refine lv_iload_n hx hb dX5_canLink_9 rfl (lv_at hl 2 rfl) ?_
    obtain ⟨r_10, er_10, h⟩ := mk_bd h
    refine pc_v (As := [.int p2]) (rest := []) ⟨hx, hb, hml, hown, hts⟩ (c_X5_hasThing l D cI cZ cO N a0 u0 p2 r_10 er_10) (cwV 1 hts k_X5_canLink_X5_hasThing_66 rfl rfl rfl (by decide +kernel) ⟨(Nat.le_of_ble_eq_true rfl), (Nat.le_of_ble_eq_true rfl)⟩) (va_recv hK hP (ci := 5) (q0 := 0) rfl rfl) hP hK rfl hl.1 rfl (Nat.le_of_ble_eq_true rfl) dX5_canLink_10 ⟨Nat.zero_le _, Nat.zero_le _⟩ ?_
    refine lv_if_eq (tgt := 21) hx hb dX5_canLink_13 (by decide) (fun q_11 => ?_) (fun q_11 => ?_)
    · have h := mk_ifp q_11 h
      refine lv_iconst (v := (0 : Int32)) hx hb dX5_canLink_21 (by decide) ?_
      exact hret _ _ _ h (Or.inl rfl) dX5_canLink_22
    · have h := mk_ifn q_11 h
      refine lv_iload_n hx hb dX5_canLink_16 rfl (lv_at hl 1 rfl) ?_
      refine lv_iload_n hx hb dX5_canLink_17 rfl (lv_at hl 2 rfl) ?_
      refine lv_icmp_ne (tgt := 23) hx hb dX5_canLink_18 (by decide) (fun q_12 => ?_) (fun q_12 => ?_)
      · have h := mk_ifn q_12 h
        refine lv_iconst (v := (0 : Int32)) hx hb dX5_canLink_23 (by decide) ?_
        refine lv_istore_n (lv' := [(3, .int (0 : Int32)), (0, .ref (a0 0)), (1, .int p1), (2, .int p2)]) hx hb dX5_canLink_24 rfl hl (by decide) rfl (fun ls hl => ?_)
        exact K25 p1 p2 (0 : Int32) ls (lv_sub hl [1, 2, 3, 0] rfl) h
      · have h := mk_ifp q_12 h
        refine lv_iconst (v := (0 : Int32)) hx hb dX5_canLink_21 (by decide) ?_
        exact hret _ _ _ h (Or.inl rfl) dX5_canLink_22

abbrev rm_X5_canLinkFrom : Room := { frames := 2, cells := 0, slots := 0, locals := 46 }
set_option maxRecDepth 20000 in
theorem k_X5_canLinkFrom_X5_canLink_62 : GoodIn wsX5_canLinkFrom (wsV RX5 62 RX5 yX5_canLink wsX5_canLink) := goodIn_r _ [2, 3, 4, 5, 6, 7, 8, 9, 10, 11, 12, 13, 5, 14, 1, 15, 16, 17, 18, 19, 20, 21, 22, 23, 24, 25, 26, 27, 28, 29, 30, 31, 32] rfl (by decide +kernel)
set_option maxHeartbeats 4000000 in
set_option maxRecDepth 100000 in
theorem c_X5_canLinkFrom (l : Launch) (D : va_G) (cI cZ cO : ClassId) (N : Nat) (a0 : Nat → Nat) (u0 : TU) (p1 : Int32) (out : Int32) (h : f_X5_canLinkFrom N u0 p1 = some out) : Met l yX5_canLinkFrom wsX5_canLinkFrom rm_X5_canLinkFrom (va_Pc [.ref (a0 0), .int p1] (fun U => va_P D vwCl (wX5 cI a0 u0) U.heap ∧ va_K D vwCl (tyA cI cZ cO) U)) (vp_Si (fun r => r = out)) 0 0 (fun _ => False) := by
  refine pm_z (own := RX5) (cc := cX5_canLinkFrom) (maxL := 3) (by decide) rfl rfl (Nat.le_of_ble_eq_true rfl) ?_
  intro p e s m args below meth c Q H ls hx hb hml hown hts hP hK hl hret
  have hl : lv_has ls 3 [(0, .ref (a0 0)), (1, .int p1)] := hl
  have hiX5 : ∀ w ∈ u_ws RX5 TX5 14, w ∈ wsX5_canLinkFrom := mk_seg 19 14 rfl
  have K2 : ∀ (x1 : Int32) (x2 : Int32) (ls : Array Slot), lv_has ls 3 [(0, .ref (a0 0)), (1, .int x1), (2, .int x2)] → lq1 (g_X5_canLinkFrom_2 N u0 x1) N x2 = some out → W p l e rm_X5_canLinkFrom s m args below meth c H [] 0 0 Q (F0 m 2 ls []) := by
    intro x1 x2 ls hl h
    refine lq1_W (Wd := fun x2 => ∀ (ls : Array Slot), lv_has ls 3 [(0, .ref (a0 0)), (1, .int x1), (2, .int x2)] → W p l e rm_X5_canLinkFrom s m args below meth c H [] 0 0 Q (F0 m 2 ls [])) (fun rec2 ih2 x2 h ls hl => ?_) N x2 h ls hl
    unfold g_X5_canLinkFrom_2 at h
    refine lv_iload_n hx hb dX5_canLinkFrom_2 rfl (lv_at hl 2 rfl) ?_
    refine lv_aload_n hx hb dX5_canLinkFrom_3 rfl (lv_at hl 0 rfl) ?_
    refine va_get (D := D) (ci := 5) (v := .int (u0 0 0)) (C := RX5) (T := TX5) (N := 14) hx hb hts hiX5 hown hK hP 0 rfl rfl 4 (by decide) (hts (.fieldLink RX5 24 "ClockOnce$Town" "things" "I") (List.mem_of_getElem? (i := 1) rfl)) (fun _ h9 => h9) rfl dX5_canLinkFrom_4 ?_
    refine lv_icmp_ge (tgt := 27) hx hb dX5_canLinkFrom_7 (by decide) (fun q_1 => ?_) (fun q_1 => ?_)
    · have h := mk_ifp q_1 h
      refine lv_iconst (v := (0 : Int32)) hx hb dX5_canLinkFrom_27 (by decide) ?_
      exact hret _ _ _ h (Or.inl rfl) dX5_canLinkFrom_28
    · have h := mk_ifn q_1 h
      refine lv_aload_n hx hb dX5_canLinkFrom_10 rfl (lv_at hl 0 rfl) ?_
      refine lv_iload_n hx hb dX5_canLinkFrom_11 rfl (lv_at hl 1 rfl) ?_
      refine lv_iload_n hx hb dX5_canLinkFrom_12 rfl (lv_at hl 2 rfl) ?_
      obtain ⟨r_2, er_2, h⟩ := mk_bd h
      refine pc_v (As := [.int x1, .int x2]) (rest := []) ⟨hx, hb, hml, hown, hts⟩ (c_X5_canLink l D cI cZ cO N a0 u0 x1 x2 r_2 er_2) (cwV 2 hts k_X5_canLinkFrom_X5_canLink_62 rfl rfl rfl (by decide +kernel) ⟨(Nat.le_of_ble_eq_true rfl), (Nat.le_of_ble_eq_true rfl)⟩) (va_recv hK hP (ci := 5) (q0 := 0) rfl rfl) hP hK rfl hl.1 rfl (Nat.le_of_ble_eq_true rfl) dX5_canLinkFrom_13 ⟨Nat.zero_le _, Nat.zero_le _⟩ ?_
      refine lv_if_eq (tgt := 21) hx hb dX5_canLinkFrom_16 (by decide) (fun q_3 => ?_) (fun q_3 => ?_)
      · have h := mk_ifp q_3 h
        refine lv_iinc (v := (x2 + (1 : Int32))) (lv' := [(2, .int (x2 + (1 : Int32))), (0, .ref (a0 0)), (1, .int x1)]) hx hb dX5_canLinkFrom_21 hl (k := 2) rfl rfl (by decide) rfl (fun ls hl => ?_)
        refine lv_goto (tgt := 2) hx hb dX5_canLinkFrom_24 (by decide) ?_
        exact ih2 (x2 + (1 : Int32)) h ls (lv_sub hl [1, 2, 0] rfl)
      · have h := mk_ifn q_3 h
        refine lv_iconst (v := (1 : Int32)) hx hb dX5_canLinkFrom_19 (by decide) ?_
        exact hret _ _ _ h (Or.inr rfl) dX5_canLinkFrom_20
  unfold f_X5_canLinkFrom at h
  refine lv_iconst (v := (0 : Int32)) hx hb dX5_canLinkFrom_0 (by decide) ?_
  refine lv_istore_n (lv' := [(2, .int (0 : Int32)), (0, .ref (a0 0)), (1, .int p1)]) hx hb dX5_canLinkFrom_1 rfl hl (by decide) rfl (fun ls hl => ?_)
  exact K2 p1 (0 : Int32) ls (lv_sub hl [1, 2, 0] rfl) h

abbrev rm_X5_isRoomForLink : Room := { frames := 3, cells := 0, slots := 0, locals := 68 }
set_option maxRecDepth 20000 in
theorem k_X5_isRoomForLink_X5_canLinkFrom_58 : GoodIn wsX5_isRoomForLink (wsV RX5 58 RX5 yX5_canLinkFrom wsX5_canLinkFrom) := goodIn_r _ [3, 4, 5, 6, 7, 2, 8, 9, 10, 6, 11, 1, 12, 13, 14, 15, 16, 17, 18, 19, 20, 21, 22, 23, 24, 25, 26, 27, 28, 29, 30, 31, 32, 33, 34, 35, 36] rfl (by decide +kernel)
set_option maxHeartbeats 4000000 in
set_option maxRecDepth 100000 in
theorem c_X5_isRoomForLink (l : Launch) (D : va_G) (cI cZ cO : ClassId) (N : Nat) (a0 : Nat → Nat) (u0 : TU) (out : Int32) (h : f_X5_isRoomForLink N u0 = some out) : Met l yX5_isRoomForLink wsX5_isRoomForLink rm_X5_isRoomForLink (va_Pc [.ref (a0 0)] (fun U => va_P D vwCl (wX5 cI a0 u0) U.heap ∧ va_K D vwCl (tyA cI cZ cO) U)) (vp_Si (fun r => r = out)) 0 0 (fun _ => False) := by
  refine pm_z (own := RX5) (cc := cX5_isRoomForLink) (maxL := 2) (by decide) rfl rfl (Nat.le_of_ble_eq_true rfl) ?_
  intro p e s m args below meth c Q H ls hx hb hml hown hts hP hK hl hret
  have hl : lv_has ls 2 [(0, .ref (a0 0))] := hl
  have hiX5 : ∀ w ∈ u_ws RX5 TX5 14, w ∈ wsX5_isRoomForLink := mk_seg 23 14 rfl
  have K12 : ∀ (x1 : Int32) (ls : Array Slot), lv_has ls 2 [(0, .ref (a0 0)), (1, .int x1)] → lq1 (g_X5_isRoomForLink_12 N u0) N x1 = some out → W p l e rm_X5_isRoomForLink s m args below meth c H [] 0 0 Q (F0 m 12 ls []) := by
    intro x1 ls hl h
    refine lq1_W (Wd := fun x1 => ∀ (ls : Array Slot), lv_has ls 2 [(0, .ref (a0 0)), (1, .int x1)] → W p l e rm_X5_isRoomForLink s m args below meth c H [] 0 0 Q (F0 m 12 ls [])) (fun rec12 ih12 x1 h ls hl => ?_) N x1 h ls hl
    unfold g_X5_isRoomForLink_12 at h
    refine lv_iload_n hx hb dX5_isRoomForLink_12 rfl (lv_at hl 1 rfl) ?_
    refine lv_aload_n hx hb dX5_isRoomForLink_13 rfl (lv_at hl 0 rfl) ?_
    refine va_get (D := D) (ci := 5) (v := .int (u0 0 0)) (C := RX5) (T := TX5) (N := 14) hx hb hts hiX5 hown hK hP 0 rfl rfl 4 (by decide) (hts (.fieldLink RX5 24 "ClockOnce$Town" "things" "I") (List.mem_of_getElem? (i := 2) rfl)) (fun _ h9 => h9) rfl dX5_isRoomForLink_14 ?_
    refine lv_icmp_ge (tgt := 36) hx hb dX5_isRoomForLink_17 (by decide) (fun q_1 => ?_) (fun q_1 => ?_)
    · have h := mk_ifp q_1 h
      refine lv_iconst (v := (0 : Int32)) hx hb dX5_isRoomForLink_36 (by decide) ?_
      exact hret _ _ _ h (Or.inl rfl) dX5_isRoomForLink_37
    · have h := mk_ifn q_1 h
      refine lv_aload_n hx hb dX5_isRoomForLink_20 rfl (lv_at hl 0 rfl) ?_
      refine lv_iload_n hx hb dX5_isRoomForLink_21 rfl (lv_at hl 1 rfl) ?_
      obtain ⟨r_2, er_2, h⟩ := mk_bd h
      refine pc_v (As := [.int x1]) (rest := []) ⟨hx, hb, hml, hown, hts⟩ (c_X5_canLinkFrom l D cI cZ cO N a0 u0 x1 r_2 er_2) (cwV 1 hts k_X5_isRoomForLink_X5_canLinkFrom_58 rfl rfl rfl (by decide +kernel) ⟨(Nat.le_of_ble_eq_true rfl), (Nat.le_of_ble_eq_true rfl)⟩) (va_recv hK hP (ci := 5) (q0 := 0) rfl rfl) hP hK rfl hl.1 rfl (Nat.le_of_ble_eq_true rfl) dX5_isRoomForLink_22 ⟨Nat.zero_le _, Nat.zero_le _⟩ ?_
      refine lv_if_eq (tgt := 30) hx hb dX5_isRoomForLink_25 (by decide) (fun q_3 => ?_) (fun q_3 => ?_)
      · have h := mk_ifp q_3 h
        refine lv_iinc (v := (x1 + (1 : Int32))) (lv' := [(1, .int (x1 + (1 : Int32))), (0, .ref (a0 0))]) hx hb dX5_isRoomForLink_30 hl (k := 1) rfl rfl (by decide) rfl (fun ls hl => ?_)
        refine lv_goto (tgt := 12) hx hb dX5_isRoomForLink_33 (by decide) ?_
        exact ih12 (x1 + (1 : Int32)) h ls (lv_sub hl [1, 0] rfl)
      · have h := mk_ifn q_3 h
        refine lv_iconst (v := (1 : Int32)) hx hb dX5_isRoomForLink_28 (by decide) ?_
        exact hret _ _ _ h (Or.inr rfl) dX5_isRoomForLink_29
  unfold f_X5_isRoomForLink at h
  refine lv_aload_n hx hb dX5_isRoomForLink_0 rfl (lv_at hl 0 rfl) ?_
  refine va_get (D := D) (ci := 5) (v := .int (u0 0 3)) (C := RX5) (T := TX5) (N := 14) hx hb hts hiX5 hown hK hP 0 rfl rfl 11 (by decide) (hts (.fieldLink RX5 46 "ClockOnce$Town" "links" "I") (List.mem_of_getElem? (i := 1) rfl)) (fun _ h9 => h9) rfl dX5_isRoomForLink_1 ?_
  refine lv_iconst (v := (3 : Int32)) hx hb dX5_isRoomForLink_4 (by decide) ?_
  refine lv_icmp_lt (tgt := 10) hx hb dX5_isRoomForLink_5 (by decide) (fun q_4 => ?_) (fun q_4 => ?_)
  · have h := mk_ifp q_4 h
    refine lv_iconst (v := (0 : Int32)) hx hb dX5_isRoomForLink_10 (by decide) ?_
    refine lv_istore_n (lv' := [(1, .int (0 : Int32)), (0, .ref (a0 0))]) hx hb dX5_isRoomForLink_11 rfl hl (by decide) rfl (fun ls hl => ?_)
    exact K12 (0 : Int32) ls (lv_sub hl [1, 0] rfl) h
  · have h := mk_ifn q_4 h
    refine lv_iconst (v := (0 : Int32)) hx hb dX5_isRoomForLink_8 (by decide) ?_
    exact hret _ _ _ h (Or.inl rfl) dX5_isRoomForLink_9

abbrev rm_X5_isRoomForAsker : Room := { frames := 0, cells := 0, slots := 0, locals := 0 }
set_option maxHeartbeats 4000000 in
set_option maxRecDepth 100000 in
theorem c_X5_isRoomForAsker (l : Launch) (D : va_G) (cI cZ cO : ClassId) (N : Nat) (a0 : Nat → Nat) (u0 : TU) (out : Int32) (h : f_X5_isRoomForAsker N u0 = some out) : Met l yX5_isRoomForAsker wsX5_isRoomForAsker rm_X5_isRoomForAsker (va_Pc [.ref (a0 0)] (fun U => va_P D vwCl (wX5 cI a0 u0) U.heap ∧ va_K D vwCl (tyA cI cZ cO) U)) (vp_Si (fun r => r = out)) 0 0 (fun _ => False) := by
  refine pm_z (own := RX5) (cc := cX5_isRoomForAsker) (maxL := 1) (by decide) rfl rfl (Nat.le_of_ble_eq_true rfl) ?_
  intro p e s m args below meth c Q H ls hx hb hml hown hts hP hK hl hret
  have hl : lv_has ls 1 [(0, .ref (a0 0))] := hl
  have hiX5 : ∀ w ∈ u_ws RX5 TX5 14, w ∈ wsX5_isRoomForAsker := mk_seg 3 14 rfl
  unfold f_X5_isRoomForAsker at h
  refine lv_aload_n hx hb dX5_isRoomForAsker_0 rfl (lv_at hl 0 rfl) ?_
  refine va_get (D := D) (ci := 5) (v := .int (u0 0 0)) (C := RX5) (T := TX5) (N := 14) hx hb hts hiX5 hown hK hP 0 rfl rfl 4 (by decide) (hts (.fieldLink RX5 24 "ClockOnce$Town" "things" "I") (List.mem_of_getElem? (i := 1) rfl)) (fun _ h9 => h9) rfl dX5_isRoomForAsker_1 ?_
  refine lv_if_le (tgt := 19) hx hb dX5_isRoomForAsker_4 (by decide) (fun q_1 => ?_) (fun q_1 => ?_)
  · have h := mk_ifp q_1 h
    refine lv_iconst (v := (0 : Int32)) hx hb dX5_isRoomForAsker_19 (by decide) ?_
    exact hret _ _ _ h (Or.inl rfl) dX5_isRoomForAsker_20
  · have h := mk_ifn q_1 h
    refine lv_aload_n hx hb dX5_isRoomForAsker_7 rfl (lv_at hl 0 rfl) ?_
    refine va_get (D := D) (ci := 5) (v := .int (u0 0 2)) (C := RX5) (T := TX5) (N := 14) hx hb hts hiX5 hown hK hP 0 rfl rfl 8 (by decide) (hts (.fieldLink RX5 37 "ClockOnce$Town" "askers" "I") (List.mem_of_getElem? (i := 2) rfl)) (fun _ h9 => h9) rfl dX5_isRoomForAsker_8 ?_
    refine lv_iconst (v := (4 : Int32)) hx hb dX5_isRoomForAsker_11 (by decide) ?_
    refine lv_icmp_ge (tgt := 19) hx hb dX5_isRoomForAsker_12 (by decide) (fun q_2 => ?_) (fun q_2 => ?_)
    · have h := mk_ifp q_2 h
      refine lv_iconst (v := (0 : Int32)) hx hb dX5_isRoomForAsker_19 (by decide) ?_
      exact hret _ _ _ h (Or.inl rfl) dX5_isRoomForAsker_20
    · have h := mk_ifn q_2 h
      refine lv_iconst (v := (1 : Int32)) hx hb dX5_isRoomForAsker_15 (by decide) ?_
      refine lv_goto (tgt := 20) hx hb dX5_isRoomForAsker_16 (by decide) ?_
      exact hret _ _ _ h (Or.inr rfl) dX5_isRoomForAsker_20

abbrev rm_X5_empty : Room := { frames := 0, cells := 0, slots := 0, locals := 0 }
set_option maxHeartbeats 4000000 in
set_option maxRecDepth 100000 in
theorem c_X5_empty (l : Launch) (D : va_G) (cI cZ cO : ClassId) (N : Nat) (a0 : Nat → Nat) (u0 : TU) (sz : Nat) (out : TU) (h : f_X5_empty N u0 = some out) : Met l yX5_empty wsX5_empty rm_X5_empty (va_Pc [.ref (a0 0)] (mk_Pe D vwCl (tyA cI cZ cO) (wX5 cI a0 u0) sz)) (va_Qv (fun u => u = out) (mk_Be D vwCl (wX5 cI a0 u0) sz (fun q => (wX5 cI a0 q))) (va_A (wX5 cI a0 u0) sz)) 0 0 (va_A (wX5 cI a0 u0) sz) := by
  refine em_v (own := RX5) (cc := cX5_empty) (maxL := 1) (by decide) rfl rfl (Nat.le_of_ble_eq_true rfl) ?_
  intro p e s m args below meth c Q A H0 H locs ls hx hb hml hown hts hP hK hD hS hA hl hret
  have hl : lv_has ls 1 [(0, .ref (a0 0))] := hl
  have hiX5 : ∀ w ∈ u_ws RX5 TX5 14, w ∈ wsX5_empty := mk_seg 5 14 rfl
  unfold f_X5_empty at h
  refine lv_aload_n hx hb dX5_empty_0 rfl (lv_at hl 0 rfl) ?_
  refine lv_iconst (v := (0 : Int32)) hx hb dX5_empty_1 (by decide) ?_
  obtain ⟨w_1, ew_1, h⟩ := mk_nmE h
  refine va_put (D := D) (ci := 5) (v := .int (0 : Int32)) (ty := .int) (C := RX5) (T := TX5) (N := 14) hx hb hts hiX5 tyX5 tyX5_ok nmX5 hown hK hP hD hS 0 rfl rfl 4 (by decide) (hts (.fieldLink RX5 24 "ClockOnce$Town" "things" "I") (List.mem_of_getElem? (i := 1) rfl)) (fun _ h9 => h9) rfl (by decide +kernel) rfl rfl (Nat.le_of_ble_eq_true rfl) dX5_empty_2 (fun H locs hP hD hS => ?_)
  have hP : va_P D vwCl (wX5 cI a0 w_1) H := by rw [ew_1]; exact hP
  have hD : va_D A (wX5 cI a0 w_1) := by rw [ew_1]; exact hD
  refine lv_aload_n hx hb dX5_empty_5 rfl (lv_at hl 0 rfl) ?_
  refine lv_iconst (v := (0 : Int32)) hx hb dX5_empty_6 (by decide) ?_
  obtain ⟨w_2, ew_2, h⟩ := mk_nmE h
  refine va_put (D := D) (ci := 5) (v := .int (0 : Int32)) (ty := .int) (C := RX5) (T := TX5) (N := 14) hx hb hts hiX5 tyX5 tyX5_ok nmX5 hown hK hP hD hS 0 rfl rfl 5 (by decide) (hts (.fieldLink RX5 28 "ClockOnce$Town" "truth" "I") (List.mem_of_getElem? (i := 2) rfl)) (fun _ h9 => h9) rfl (by decide +kernel) rfl rfl (Nat.le_of_ble_eq_true rfl) dX5_empty_7 (fun H locs hP hD hS => ?_)
  have hP : va_P D vwCl (wX5 cI a0 w_2) H := by rw [ew_2]; exact hP
  have hD : va_D A (wX5 cI a0 w_2) := by rw [ew_2]; exact hD
  refine lv_aload_n hx hb dX5_empty_10 rfl (lv_at hl 0 rfl) ?_
  refine lv_iconst (v := (0 : Int32)) hx hb dX5_empty_11 (by decide) ?_
  obtain ⟨w_3, ew_3, h⟩ := mk_nmE h
  refine va_put (D := D) (ci := 5) (v := .int (0 : Int32)) (ty := .int) (C := RX5) (T := TX5) (N := 14) hx hb hts hiX5 tyX5 tyX5_ok nmX5 hown hK hP hD hS 0 rfl rfl 8 (by decide) (hts (.fieldLink RX5 37 "ClockOnce$Town" "askers" "I") (List.mem_of_getElem? (i := 3) rfl)) (fun _ h9 => h9) rfl (by decide +kernel) rfl rfl (Nat.le_of_ble_eq_true rfl) dX5_empty_12 (fun H locs hP hD hS => ?_)
  have hP : va_P D vwCl (wX5 cI a0 w_3) H := by rw [ew_3]; exact hP
  have hD : va_D A (wX5 cI a0 w_3) := by rw [ew_3]; exact hD
  refine lv_aload_n hx hb dX5_empty_15 rfl (lv_at hl 0 rfl) ?_
  refine lv_iconst (v := (0 : Int32)) hx hb dX5_empty_16 (by decide) ?_
  obtain ⟨w_4, ew_4, h⟩ := mk_nmE h
  refine va_put (D := D) (ci := 5) (v := .int (0 : Int32)) (ty := .int) (C := RX5) (T := TX5) (N := 14) hx hb hts hiX5 tyX5 tyX5_ok nmX5 hown hK hP hD hS 0 rfl rfl 11 (by decide) (hts (.fieldLink RX5 46 "ClockOnce$Town" "links" "I") (List.mem_of_getElem? (i := 4) rfl)) (fun _ h9 => h9) rfl (by decide +kernel) rfl rfl (Nat.le_of_ble_eq_true rfl) dX5_empty_17 (fun H locs hP hD hS => ?_)
  have hP : va_P D vwCl (wX5 cI a0 w_4) H := by rw [ew_4]; exact hP
  have hD : va_D A (wX5 cI a0 w_4) := by rw [ew_4]; exact hD
  exact hret _ _ _ _ _ h hP hD hS dX5_empty_20

abbrev rm_X5_wiseDay : Room := { frames := 3, cells := 0, slots := 0, locals := 78 }
set_option maxRecDepth 20000 in
theorem k_X5_wiseDay_X5_partsOfEarly_116 : GoodIn wsX5_wiseDay (wsV RX5 116 RX5 yX5_partsOfEarly wsX5_partsOfEarly) := goodIn_r _ [1, 2, 3, 4, 5, 6, 7, 8, 9, 10, 4, 11, 31, 32, 33, 34, 35, 36, 37, 38, 39, 40, 41, 42, 43, 44] rfl (by decide +kernel)
set_option maxRecDepth 20000 in
theorem k_X5_wiseDay_X5_partsOf_119 : GoodIn wsX5_wiseDay (wsV RX5 119 RX5 yX5_partsOf wsX5_partsOf) := goodIn_r _ [12, 13, 14, 4, 15, 6, 7, 31, 32, 33, 34, 35, 36, 37, 38, 39, 40, 41, 42, 43, 44] rfl (by decide +kernel)
set_option maxRecDepth 20000 in
theorem k_X5_wiseDay_X5_bestDay_122 : GoodIn wsX5_wiseDay (wsV RX5 122 RX5 yX5_bestDay wsX5_bestDay) := goodIn_r _ [16, 17, 18, 4, 19, 20, 21, 22, 4, 23, 24, 25, 26, 27, 28, 29, 30, 31, 32, 33, 34, 35, 36, 37, 38, 39, 40, 41, 42, 43, 44] rfl (by decide +kernel)
set_option maxHeartbeats 4000000 in
set_option maxRecDepth 100000 in
theorem c_X5_wiseDay (l : Launch) (D : va_G) (cI cZ cO : ClassId) (N : Nat) (a0 : Nat → Nat) (u0 : TU) (p1 : Int32) (p2 : Int32) (p3 : Int32) (out : Int32) (h : f_X5_wiseDay N u0 p1 p2 p3 = some out) : Met l yX5_wiseDay wsX5_wiseDay rm_X5_wiseDay (va_Pc [.ref (a0 0), .int p1, .int p2, .int p3] (fun U => va_P D vwCl (wX5 cI a0 u0) U.heap ∧ va_K D vwCl (tyA cI cZ cO) U)) (vp_Si (fun r => r = out)) 0 0 (fun _ => False) := by
  refine pm_i (own := RX5) (cc := cX5_wiseDay) (maxL := 5) (by decide) rfl rfl (Nat.le_of_ble_eq_true rfl) ?_
  intro p e s m args below meth c Q H ls hx hb hml hown hts hP hK hl hret
  have hl : lv_has ls 5 [(0, .ref (a0 0)), (1, .int p1), (2, .int p2), (3, .int p3)] := hl
  unfold f_X5_wiseDay at h
  refine lv_aload_n hx hb dX5_wiseDay_0 rfl (lv_at hl 0 rfl) ?_
  refine lv_iload_n hx hb dX5_wiseDay_1 rfl (lv_at hl 1 rfl) ?_
  refine lv_iload_n hx hb dX5_wiseDay_2 rfl (lv_at hl 2 rfl) ?_
  obtain ⟨r_1, er_1, h⟩ := mk_bd h
  refine pc_v (As := [.int p1, .int p2]) (rest := []) ⟨hx, hb, hml, hown, hts⟩ (c_X5_partsOfEarly l D cI cZ cO N a0 u0 p1 p2 r_1 er_1) (cwV 2 hts k_X5_wiseDay_X5_partsOfEarly_116 rfl rfl rfl (by decide +kernel) ⟨(Nat.le_of_ble_eq_true rfl), (Nat.le_of_ble_eq_true rfl)⟩) (va_recv hK hP (ci := 5) (q0 := 0) rfl rfl) hP hK rfl hl.1 rfl (Nat.le_of_ble_eq_true rfl) dX5_wiseDay_3 ⟨Nat.zero_le _, Nat.zero_le _⟩ ?_
  refine lv_istore (lv' := [(4, .int r_1), (0, .ref (a0 0)), (1, .int p1), (2, .int p2), (3, .int p3)]) hx hb dX5_wiseDay_6 hl (by decide) rfl (fun ls hl => ?_)
  refine lv_aload_n hx hb dX5_wiseDay_8 rfl (lv_at hl 1 rfl) ?_
  refine lv_iload_n hx hb dX5_wiseDay_9 rfl (lv_at hl 3 rfl) ?_
  refine lv_iload hx hb dX5_wiseDay_10 (lv_at hl 0 rfl) ?_
  refine lv_aload_n hx hb dX5_wiseDay_12 rfl (lv_at hl 1 rfl) ?_
  refine lv_iload_n hx hb dX5_wiseDay_13 rfl (lv_at hl 2 rfl) ?_
  obtain ⟨r_2, er_2, h⟩ := mk_bd h
  refine pc_v (As := [.int p1]) (rest := [.int r_1, .int p2, .ref (a0 0)]) ⟨hx, hb, hml, hown, hts⟩ (c_X5_partsOf l D cI cZ cO N a0 u0 p1 r_2 er_2) (cwV 1 hts k_X5_wiseDay_X5_partsOf_119 rfl rfl rfl (by decide +kernel) ⟨(Nat.le_of_ble_eq_true rfl), (Nat.le_of_ble_eq_true rfl)⟩) (va_recv hK hP (ci := 5) (q0 := 0) rfl rfl) hP hK rfl hl.1 rfl (Nat.le_of_ble_eq_true rfl) dX5_wiseDay_14 ⟨Nat.zero_le _, Nat.zero_le _⟩ ?_
  refine lv_iload hx hb dX5_wiseDay_17 (lv_at hl 0 rfl) ?_
  refine lv_isub hx hb dX5_wiseDay_19 ?_
  refine lv_iload_n hx hb dX5_wiseDay_20 rfl (lv_at hl 4 rfl) ?_
  obtain ⟨r_3, er_3, h⟩ := mk_bd h
  refine pc_v (As := [.int p2, .int r_1, .int (r_2 - r_1), .int p3]) (rest := []) ⟨hx, hb, hml, hown, hts⟩ (c_X5_bestDay l D cI cZ cO N a0 u0 p2 r_1 (r_2 - r_1) p3 r_3 er_3) (cwV 4 hts k_X5_wiseDay_X5_bestDay_122 rfl rfl rfl (by decide +kernel) ⟨(Nat.le_of_ble_eq_true rfl), (Nat.le_of_ble_eq_true rfl)⟩) (va_recv hK hP (ci := 5) (q0 := 0) rfl rfl) hP hK rfl hl.1 rfl (Nat.le_of_ble_eq_true rfl) dX5_wiseDay_21 ⟨Nat.zero_le _, Nat.zero_le _⟩ ?_
  exact hret _ _ _ h dX5_wiseDay_24

abbrev rm_X5_firstBrokenLink : Room := { frames := 1, cells := 0, slots := 0, locals := 23 }
set_option maxRecDepth 20000 in
theorem k_X5_firstBrokenLink_X5_isBroken_69 : GoodIn wsX5_firstBrokenLink (wsV RX5 69 RX5 yX5_isBroken wsX5_isBroken) := goodIn_r _ [4, 5, 6, 7, 8] rfl (by decide +kernel)
set_option maxHeartbeats 4000000 in
set_option maxRecDepth 100000 in
theorem c_X5_firstBrokenLink (l : Launch) (D : va_G) (cI cZ cO : ClassId) (N : Nat) (a0 : Nat → Nat) (u0 : TU) (p1 : Int32) (out : Int32) (h : f_X5_firstBrokenLink N u0 p1 = some out) : Met l yX5_firstBrokenLink wsX5_firstBrokenLink rm_X5_firstBrokenLink (va_Pc [.ref (a0 0), .int p1] (fun U => va_P D vwCl (wX5 cI a0 u0) U.heap ∧ va_K D vwCl (tyA cI cZ cO) U)) (vp_Si (fun r => r = out)) 0 0 (fun _ => False) := by
  refine pm_i (own := RX5) (cc := cX5_firstBrokenLink) (maxL := 3) (by decide) rfl rfl (Nat.le_of_ble_eq_true rfl) ?_
  intro p e s m args below meth c Q H ls hx hb hml hown hts hP hK hl hret
  have hl : lv_has ls 3 [(0, .ref (a0 0)), (1, .int p1)] := hl
  have hiX5 : ∀ w ∈ u_ws RX5 TX5 14, w ∈ wsX5_firstBrokenLink := mk_seg 9 14 rfl
  have K2 : ∀ (x1 : Int32) (x2 : Int32) (ls : Array Slot), lv_has ls 3 [(0, .ref (a0 0)), (1, .int x1), (2, .int x2)] → lq1 (g_X5_firstBrokenLink_2 N u0 x1) N x2 = some out → W p l e rm_X5_firstBrokenLink s m args below meth c H [] 0 0 Q (F0 m 2 ls []) := by
    intro x1 x2 ls hl h
    refine lq1_W (Wd := fun x2 => ∀ (ls : Array Slot), lv_has ls 3 [(0, .ref (a0 0)), (1, .int x1), (2, .int x2)] → W p l e rm_X5_firstBrokenLink s m args below meth c H [] 0 0 Q (F0 m 2 ls [])) (fun rec2 ih2 x2 h ls hl => ?_) N x2 h ls hl
    unfold g_X5_firstBrokenLink_2 at h
    refine lv_iload_n hx hb dX5_firstBrokenLink_2 rfl (lv_at hl 2 rfl) ?_
    refine lv_aload_n hx hb dX5_firstBrokenLink_3 rfl (lv_at hl 0 rfl) ?_
    refine va_get (D := D) (ci := 5) (v := .int (u0 0 3)) (C := RX5) (T := TX5) (N := 14) hx hb hts hiX5 hown hK hP 0 rfl rfl 11 (by decide) (hts (.fieldLink RX5 46 "ClockOnce$Town" "links" "I") (List.mem_of_getElem? (i := 1) rfl)) (fun _ h9 => h9) rfl dX5_firstBrokenLink_4 ?_
    refine lv_icmp_ge (tgt := 38) hx hb dX5_firstBrokenLink_7 (by decide) (fun q_1 => ?_) (fun q_1 => ?_)
    · have h := mk_ifp q_1 h
      refine lv_bipush (v := (-9 : Int32)) hx hb dX5_firstBrokenLink_38 (by decide) ?_
      exact hret _ _ _ h dX5_firstBrokenLink_40
    · have h := mk_ifn q_1 h
      refine lv_aload_n hx hb dX5_firstBrokenLink_10 rfl (lv_at hl 0 rfl) ?_
      refine lv_aload_n hx hb dX5_firstBrokenLink_11 rfl (lv_at hl 0 rfl) ?_
      refine va_get (D := D) (ci := 5) (v := .ref (a0 7)) (C := RX5) (T := TX5) (N := 14) hx hb hts hiX5 hown hK hP 0 rfl rfl 9 (by decide) (hts (.fieldLink RX5 40 "ClockOnce$Town" "from" "[I") (List.mem_of_getElem? (i := 2) rfl)) (fun _ h9 => h9) rfl dX5_firstBrokenLink_12 ?_
      refine lv_iload_n hx hb dX5_firstBrokenLink_15 rfl (lv_at hl 2 rfl) ?_
      obtain ⟨v_2, ev_2, hiv_2, h⟩ := mk_rdE h
      refine va_iald hx hb hK hP 7 0 rfl rfl hiv_2 dX5_firstBrokenLink_16 ?_
      refine mk_topi ev_2 ?_
      refine lv_aload_n hx hb dX5_firstBrokenLink_17 rfl (lv_at hl 0 rfl) ?_
      refine va_get (D := D) (ci := 5) (v := .ref (a0 8)) (C := RX5) (T := TX5) (N := 14) hx hb hts hiX5 hown hK hP 0 rfl rfl 10 (by decide) (hts (.fieldLink RX5 43 "ClockOnce$Town" "to" "[I") (List.mem_of_getElem? (i := 3) rfl)) (fun _ h9 => h9) rfl dX5_firstBrokenLink_18 ?_
      refine lv_iload_n hx hb dX5_firstBrokenLink_21 rfl (lv_at hl 2 rfl) ?_
      obtain ⟨v_3, ev_3, hiv_3, h⟩ := mk_rdE h
      refine va_iald hx hb hK hP 8 0 rfl rfl hiv_3 dX5_firstBrokenLink_22 ?_
      refine mk_topi ev_3 ?_
      refine lv_iload_n hx hb dX5_firstBrokenLink_23 rfl (lv_at hl 1 rfl) ?_
      obtain ⟨r_4, er_4, h⟩ := mk_bd h
      refine pc_v (As := [.int v_2, .int v_3, .int x1]) (rest := []) ⟨hx, hb, hml, hown, hts⟩ (c_X5_isBroken l D cI cZ cO N a0 u0 v_2 v_3 x1 r_4 er_4) (cwV 3 hts k_X5_firstBrokenLink_X5_isBroken_69 rfl rfl rfl (by decide +kernel) ⟨(Nat.le_of_ble_eq_true rfl), (Nat.le_of_ble_eq_true rfl)⟩) (va_recv hK hP (ci := 5) (q0 := 0) rfl rfl) hP hK rfl hl.1 rfl (Nat.le_of_ble_eq_true rfl) dX5_firstBrokenLink_24 ⟨Nat.zero_le _, Nat.zero_le _⟩ ?_
      refine lv_if_eq (tgt := 32) hx hb dX5_firstBrokenLink_27 (by decide) (fun q_5 => ?_) (fun q_5 => ?_)
      · have h := mk_ifp q_5 h
        refine lv_iinc (v := (x2 + (1 : Int32))) (lv' := [(2, .int (x2 + (1 : Int32))), (0, .ref (a0 0)), (1, .int x1)]) hx hb dX5_firstBrokenLink_32 hl (k := 2) rfl rfl (by decide) rfl (fun ls hl => ?_)
        refine lv_goto (tgt := 2) hx hb dX5_firstBrokenLink_35 (by decide) ?_
        exact ih2 (x2 + (1 : Int32)) h ls (lv_sub hl [1, 2, 0] rfl)
      · have h := mk_ifn q_5 h
        refine lv_iload_n hx hb dX5_firstBrokenLink_30 rfl (lv_at hl 2 rfl) ?_
        exact hret _ _ _ h dX5_firstBrokenLink_31
  unfold f_X5_firstBrokenLink at h
  refine lv_iconst (v := (0 : Int32)) hx hb dX5_firstBrokenLink_0 (by decide) ?_
  refine lv_istore_n (lv' := [(2, .int (0 : Int32)), (0, .ref (a0 0)), (1, .int p1)]) hx hb dX5_firstBrokenLink_1 rfl hl (by decide) rfl (fun ls hl => ?_)
  exact K2 p1 (0 : Int32) ls (lv_sub hl [1, 2, 0] rfl) h

abbrev rm_X5_hasAsker : Room := { frames := 0, cells := 0, slots := 0, locals := 0 }
set_option maxHeartbeats 4000000 in
set_option maxRecDepth 100000 in
theorem c_X5_hasAsker (l : Launch) (D : va_G) (cI cZ cO : ClassId) (N : Nat) (a0 : Nat → Nat) (u0 : TU) (p1 : Int32) (out : Int32) (h : f_X5_hasAsker N u0 p1 = some out) : Met l yX5_hasAsker wsX5_hasAsker rm_X5_hasAsker (va_Pc [.ref (a0 0), .int p1] (fun U => va_P D vwCl (wX5 cI a0 u0) U.heap ∧ va_K D vwCl (tyA cI cZ cO) U)) (vp_Si (fun r => r = out)) 0 0 (fun _ => False) := by
  refine pm_z (own := RX5) (cc := cX5_hasAsker) (maxL := 2) (by decide) rfl rfl (Nat.le_of_ble_eq_true rfl) ?_
  intro p e s m args below meth c Q H ls hx hb hml hown hts hP hK hl hret
  have hl : lv_has ls 2 [(0, .ref (a0 0)), (1, .int p1)] := hl
  have hiX5 : ∀ w ∈ u_ws RX5 TX5 14, w ∈ wsX5_hasAsker := mk_seg 2 14 rfl
  unfold f_X5_hasAsker at h
  refine lv_iload_n hx hb dX5_hasAsker_0 rfl (lv_at hl 1 rfl) ?_
  refine lv_if_lt (tgt := 16) hx hb dX5_hasAsker_1 (by decide) (fun q_1 => ?_) (fun q_1 => ?_)
  · have h := mk_ifp q_1 h
    refine lv_iconst (v := (0 : Int32)) hx hb dX5_hasAsker_16 (by decide) ?_
    exact hret _ _ _ h (Or.inl rfl) dX5_hasAsker_17
  · have h := mk_ifn q_1 h
    refine lv_iload_n hx hb dX5_hasAsker_4 rfl (lv_at hl 1 rfl) ?_
    refine lv_aload_n hx hb dX5_hasAsker_5 rfl (lv_at hl 0 rfl) ?_
    refine va_get (D := D) (ci := 5) (v := .int (u0 0 2)) (C := RX5) (T := TX5) (N := 14) hx hb hts hiX5 hown hK hP 0 rfl rfl 8 (by decide) (hts (.fieldLink RX5 37 "ClockOnce$Town" "askers" "I") (List.mem_of_getElem? (i := 1) rfl)) (fun _ h9 => h9) rfl dX5_hasAsker_6 ?_
    refine lv_icmp_ge (tgt := 16) hx hb dX5_hasAsker_9 (by decide) (fun q_2 => ?_) (fun q_2 => ?_)
    · have h := mk_ifp q_2 h
      refine lv_iconst (v := (0 : Int32)) hx hb dX5_hasAsker_16 (by decide) ?_
      exact hret _ _ _ h (Or.inl rfl) dX5_hasAsker_17
    · have h := mk_ifn q_2 h
      refine lv_iconst (v := (1 : Int32)) hx hb dX5_hasAsker_12 (by decide) ?_
      refine lv_goto (tgt := 17) hx hb dX5_hasAsker_13 (by decide) ?_
      exact hret _ _ _ h (Or.inr rfl) dX5_hasAsker_17

abbrev rm_X5_tellsApart : Room := { frames := 1, cells := 0, slots := 0, locals := 25 }
set_option maxRecDepth 20000 in
theorem k_X5_tellsApart_X5_worldsLike_96 : GoodIn wsX5_tellsApart (wsV RX5 96 RX5 yX5_worldsLike wsX5_worldsLike) := goodIn_r _ [2, 3, 4, 5, 6, 1, 14, 15, 16, 17, 18, 19, 20, 21, 22, 23, 24, 25, 26, 27] rfl (by decide +kernel)
set_option maxRecDepth 20000 in
theorem k_X5_tellsApart_J6_bitCount_0f7a4_103 : GoodIn wsX5_tellsApart (va_wsS RX5 103 yJ6_bitCount_0f7a4 wsJ6_bitCount_0f7a4) := goodIn_r _ [7, 8, 9, 10, 11, 12, 13] rfl (by decide +kernel)
set_option maxHeartbeats 4000000 in
set_option maxRecDepth 100000 in
theorem c_X5_tellsApart (l : Launch) (D : va_G) (cI cZ cO : ClassId) (N : Nat) (a0 : Nat → Nat) (u0 : TU) (p1 : Int32) (p2 : Int32) (out : Int32) (h : f_X5_tellsApart N u0 p1 p2 = some out) : Met l yX5_tellsApart wsX5_tellsApart rm_X5_tellsApart (va_Pc [.ref (a0 0), .int p1, .int p2] (fun U => va_P D vwCl (wX5 cI a0 u0) U.heap ∧ va_K D vwCl (tyA cI cZ cO) U)) (vp_Si (fun r => r = out)) 0 0 (fun _ => False) := by
  refine pm_z (own := RX5) (cc := cX5_tellsApart) (maxL := 4) (by decide) rfl rfl (Nat.le_of_ble_eq_true rfl) ?_
  intro p e s m args below meth c Q H ls hx hb hml hown hts hP hK hl hret
  have hl : lv_has ls 4 [(0, .ref (a0 0)), (1, .int p1), (2, .int p2)] := hl
  have hiX5 : ∀ w ∈ u_ws RX5 TX5 14, w ∈ wsX5_tellsApart := mk_seg 14 14 rfl
  have K2 : ∀ (x1 : Int32) (x2 : Int32) (x3 : Int32) (ls : Array Slot), lv_has ls 4 [(0, .ref (a0 0)), (1, .int x1), (2, .int x2), (3, .int x3)] → lq1 (g_X5_tellsApart_2 N u0 x1 x2) N x3 = some out → W p l e rm_X5_tellsApart s m args below meth c H [] 0 0 Q (F0 m 2 ls []) := by
    intro x1 x2 x3 ls hl h
    refine lq1_W (Wd := fun x3 => ∀ (ls : Array Slot), lv_has ls 4 [(0, .ref (a0 0)), (1, .int x1), (2, .int x2), (3, .int x3)] → W p l e rm_X5_tellsApart s m args below meth c H [] 0 0 Q (F0 m 2 ls [])) (fun rec2 ih2 x3 h ls hl => ?_) N x3 h ls hl
    unfold g_X5_tellsApart_2 at h
    refine lv_iload_n hx hb dX5_tellsApart_2 rfl (lv_at hl 3 rfl) ?_
    refine lv_iconst (v := (1 : Int32)) hx hb dX5_tellsApart_3 (by decide) ?_
    refine lv_aload_n hx hb dX5_tellsApart_4 rfl (lv_at hl 0 rfl) ?_
    refine va_get (D := D) (ci := 5) (v := .int (u0 0 0)) (C := RX5) (T := TX5) (N := 14) hx hb hts hiX5 hown hK hP 0 rfl rfl 4 (by decide) (hts (.fieldLink RX5 24 "ClockOnce$Town" "things" "I") (List.mem_of_getElem? (i := 1) rfl)) (fun _ h9 => h9) rfl dX5_tellsApart_5 ?_
    refine lv_ishl hx hb dX5_tellsApart_8 ?_
    refine lv_icmp_ge (tgt := 34) hx hb dX5_tellsApart_9 (by decide) (fun q_1 => ?_) (fun q_1 => ?_)
    · have h := mk_ifp q_1 h
      refine lv_iconst (v := (1 : Int32)) hx hb dX5_tellsApart_34 (by decide) ?_
      exact hret _ _ _ h (Or.inr rfl) dX5_tellsApart_35
    · have h := mk_ifn q_1 h
      refine lv_aload_n hx hb dX5_tellsApart_12 rfl (lv_at hl 0 rfl) ?_
      refine lv_iload_n hx hb dX5_tellsApart_13 rfl (lv_at hl 1 rfl) ?_
      refine lv_iload_n hx hb dX5_tellsApart_14 rfl (lv_at hl 2 rfl) ?_
      refine lv_iload_n hx hb dX5_tellsApart_15 rfl (lv_at hl 3 rfl) ?_
      obtain ⟨r_2, er_2, h⟩ := mk_bd h
      refine pc_v (As := [.int x1, .int x2, .int x3]) (rest := []) ⟨hx, hb, hml, hown, hts⟩ (c_X5_worldsLike l D cI cZ cO N a0 u0 x1 x2 x3 r_2 er_2) (cwV 3 hts k_X5_tellsApart_X5_worldsLike_96 rfl rfl rfl (by decide +kernel) ⟨(Nat.le_of_ble_eq_true rfl), (Nat.le_of_ble_eq_true rfl)⟩) (va_recv hK hP (ci := 5) (q0 := 0) rfl rfl) hP hK rfl hl.1 rfl (Nat.le_of_ble_eq_true rfl) dX5_tellsApart_16 ⟨Nat.zero_le _, Nat.zero_le _⟩ ?_
      obtain ⟨r_3, er_3, h⟩ := mk_bd h
      refine pc_s (As := [.int r_2]) (rest := []) ⟨hx, hb, hml, hown, hts⟩ (c_J6_bitCount_0f7a4 l D cI cZ cO N r_2 r_3 er_3) (va_cwS 1 hts k_X5_tellsApart_J6_bitCount_0f7a4_103 rfl rfl rfl (by decide +kernel) ⟨(Nat.le_of_ble_eq_true rfl), (Nat.le_of_ble_eq_true rfl)⟩) (hP.sub (ws' := []) [] rfl) hK rfl hl.1 rfl (Nat.le_of_ble_eq_true rfl) dX5_tellsApart_19 ⟨Nat.zero_le _, Nat.zero_le _⟩ ?_
      refine lv_iconst (v := (1 : Int32)) hx hb dX5_tellsApart_22 (by decide) ?_
      refine lv_icmp_le (tgt := 28) hx hb dX5_tellsApart_23 (by decide) (fun q_4 => ?_) (fun q_4 => ?_)
      · have h := mk_ifp q_4 h
        refine lv_iinc (v := (x3 + (1 : Int32))) (lv' := [(3, .int (x3 + (1 : Int32))), (0, .ref (a0 0)), (1, .int x1), (2, .int x2)]) hx hb dX5_tellsApart_28 hl (k := 3) rfl rfl (by decide) rfl (fun ls hl => ?_)
        refine lv_goto (tgt := 2) hx hb dX5_tellsApart_31 (by decide) ?_
        exact ih2 (x3 + (1 : Int32)) h ls (lv_sub hl [1, 2, 3, 0] rfl)
      · have h := mk_ifn q_4 h
        refine lv_iconst (v := (0 : Int32)) hx hb dX5_tellsApart_26 (by decide) ?_
        exact hret _ _ _ h (Or.inl rfl) dX5_tellsApart_27
  unfold f_X5_tellsApart at h
  refine lv_iconst (v := (0 : Int32)) hx hb dX5_tellsApart_0 (by decide) ?_
  refine lv_istore_n (lv' := [(3, .int (0 : Int32)), (0, .ref (a0 0)), (1, .int p1), (2, .int p2)]) hx hb dX5_tellsApart_1 rfl hl (by decide) rfl (fun ls hl => ?_)
  exact K2 p1 p2 (0 : Int32) ls (lv_sub hl [1, 2, 3, 0] rfl) h

abbrev rm_X5_weighWorlds : Room := { frames := 2, cells := 0, slots := 0, locals := 45 }
set_option maxRecDepth 20000 in
theorem k_X5_weighWorlds_X5_isLate_83 : GoodIn wsX5_weighWorlds (wsV RX5 83 RX5 yX5_isLate wsX5_isLate) := goodIn_r _ [17, 18, 19, 8, 20] rfl (by decide +kernel)
set_option maxRecDepth 20000 in
theorem k_X5_weighWorlds_X5_firstBrokenLink_79 : GoodIn wsX5_weighWorlds (wsV RX5 79 RX5 yX5_firstBrokenLink wsX5_firstBrokenLink) := goodIn_r _ [5, 6, 7, 8, 9, 10, 11, 12, 13, 14, 15, 8, 16, 21, 22, 23, 24, 25, 26, 27, 28, 29, 30, 31, 32, 33, 34] rfl (by decide +kernel)
set_option maxHeartbeats 4000000 in
set_option maxRecDepth 100000 in
theorem c_X5_weighWorlds (l : Launch) (D : va_G) (cI cZ cO : ClassId) (N : Nat) (a0 : Nat → Nat) (u0 : TU) (sz : Nat) (out : TU) (h : f_X5_weighWorlds N u0 = some out) : Met l yX5_weighWorlds wsX5_weighWorlds rm_X5_weighWorlds (va_Pc [.ref (a0 0)] (mk_Pe D vwCl (tyA cI cZ cO) (wX5 cI a0 u0) sz)) (va_Qv (fun u => u = out) (mk_Be D vwCl (wX5 cI a0 u0) sz (fun q => (wX5 cI a0 q))) (va_A (wX5 cI a0 u0) sz)) 0 0 (va_A (wX5 cI a0 u0) sz) := by
  refine em_v (own := RX5) (cc := cX5_weighWorlds) (maxL := 4) (by decide) rfl rfl (Nat.le_of_ble_eq_true rfl) ?_
  intro p e s m args below meth c Q A H0 H locs ls hx hb hml hown hts hP hK hD hS hA hl hret
  have hl : lv_has ls 4 [(0, .ref (a0 0))] := hl
  have hiX5 : ∀ w ∈ u_ws RX5 TX5 14, w ∈ wsX5_weighWorlds := mk_seg 21 14 rfl
  have K7 : ∀ (u0 : TU) (x1 : Int32) (H : Heap) (locs : List Loc) (ls : Array Slot), va_P D vwCl (wX5 cI a0 u0) H → va_D A (wX5 cI a0 u0) → va_S A H0 H locs → lv_has ls 4 [(0, .ref (a0 0)), (1, .int x1)] → lq2 (g_X5_weighWorlds_7 N) N u0 x1 = some out → W p l e rm_X5_weighWorlds s m args below meth c H locs 0 0 Q (F0 m 7 ls []) := by
    intro u0 x1 H locs ls hP hD hS hl h
    refine lq2_W (Wd := fun u0 x1 => ∀ (H : Heap) (locs : List Loc) (ls : Array Slot), va_P D vwCl (wX5 cI a0 u0) H → va_D A (wX5 cI a0 u0) → va_S A H0 H locs → lv_has ls 4 [(0, .ref (a0 0)), (1, .int x1)] → W p l e rm_X5_weighWorlds s m args below meth c H locs 0 0 Q (F0 m 7 ls [])) (fun rec7 ih7 u0 x1 h H locs ls hP hD hS hl => ?_) N u0 x1 h H locs ls hP hD hS hl
    have K43 : ∀ (u0 : TU) (x1 : Int32) (x2 : Int32) (x3 : Int32) (H : Heap) (locs : List Loc) (ls : Array Slot), va_P D vwCl (wX5 cI a0 u0) H → va_D A (wX5 cI a0 u0) → va_S A H0 H locs → lv_has ls 4 [(0, .ref (a0 0)), (1, .int x1), (2, .int x2), (3, .int x3)] → lq2 (g_X5_weighWorlds_43 N u0 rec7 x1) N x2 x3 = some out → W p l e rm_X5_weighWorlds s m args below meth c H locs 0 0 Q (F0 m 43 ls []) := by
      intro u0 x1 x2 x3 H locs ls hP hD hS hl h
      refine lq2_W (Wd := fun x2 x3 => ∀ (H : Heap) (locs : List Loc) (ls : Array Slot), va_P D vwCl (wX5 cI a0 u0) H → va_D A (wX5 cI a0 u0) → va_S A H0 H locs → lv_has ls 4 [(0, .ref (a0 0)), (1, .int x1), (2, .int x2), (3, .int x3)] → W p l e rm_X5_weighWorlds s m args below meth c H locs 0 0 Q (F0 m 43 ls [])) (fun rec43 ih43 x2 x3 h H locs ls hP hD hS hl => ?_) N x2 x3 h H locs ls hP hD hS hl
      unfold g_X5_weighWorlds_43 at h
      refine lv_iload_n hx hb dX5_weighWorlds_43 rfl (lv_at hl 3 rfl) ?_
      refine lv_aload_n hx hb dX5_weighWorlds_44 rfl (lv_at hl 0 rfl) ?_
      refine va_get (D := D) (ci := 5) (v := .int (u0 0 0)) (C := RX5) (T := TX5) (N := 14) hx hb hts hiX5 hown hK hP 0 rfl rfl 4 (by decide) (hts (.fieldLink RX5 24 "ClockOnce$Town" "things" "I") (List.mem_of_getElem? (i := 2) rfl)) (fun _ h9 => h9) rfl dX5_weighWorlds_45 ?_
      refine lv_icmp_ge (tgt := 87) hx hb dX5_weighWorlds_48 (by decide) (fun q_1 => ?_) (fun q_1 => ?_)
      · have h := mk_ifp q_1 h
        refine lv_aload_n hx hb dX5_weighWorlds_87 rfl (lv_at hl 0 rfl) ?_
        refine va_get (D := D) (ci := 5) (v := .ref (a0 9)) (C := RX5) (T := TX5) (N := 14) hx hb hts hiX5 hown hK hP 0 rfl rfl 12 (by decide) (hts (.fieldLink RX5 49 "ClockOnce$Town" "parts" "[I") (List.mem_of_getElem? (i := 4) rfl)) (fun _ h9 => h9) rfl dX5_weighWorlds_88 ?_
        refine lv_iload_n hx hb dX5_weighWorlds_91 rfl (lv_at hl 1 rfl) ?_
        refine lv_iload_n hx hb dX5_weighWorlds_92 rfl (lv_at hl 2 rfl) ?_
        obtain ⟨hx_2, h⟩ := mk_ixE h
        obtain ⟨w_3, ew_3, h⟩ := mk_nmE h
        refine va_iast hx hb hK hP hD hS 9 0 rfl rfl hx_2 dX5_weighWorlds_93 (fun H locs hP hD hS => ?_)
        have hP : va_P D vwCl (wX5 cI a0 w_3) H := by rw [ew_3]; exact hP
        have hD : va_D A (wX5 cI a0 w_3) := by rw [ew_3]; exact hD
        refine lv_iinc (v := (x1 + (1 : Int32))) (lv' := [(1, .int (x1 + (1 : Int32))), (0, .ref (a0 0)), (2, .int x2), (3, .int x3)]) hx hb dX5_weighWorlds_94 hl (k := 1) rfl rfl (by decide) rfl (fun ls hl => ?_)
        refine lv_goto (tgt := 7) hx hb dX5_weighWorlds_97 (by decide) ?_
        exact ih7 w_3 (x1 + (1 : Int32)) h H locs ls hP hD hS (lv_sub hl [1, 0] rfl)
      · have h := mk_ifn q_1 h
        refine lv_iload_n hx hb dX5_weighWorlds_51 rfl (lv_at hl 2 rfl) ?_
        refine lv_aload_n hx hb dX5_weighWorlds_52 rfl (lv_at hl 0 rfl) ?_
        refine lv_iload_n hx hb dX5_weighWorlds_53 rfl (lv_at hl 1 rfl) ?_
        refine lv_iload_n hx hb dX5_weighWorlds_54 rfl (lv_at hl 3 rfl) ?_
        obtain ⟨r_4, er_4, h⟩ := mk_bd h
        refine pc_v (As := [.int x1, .int x3]) (rest := [.int x2]) ⟨hx, hb, hml, hown, hts⟩ (c_X5_isLate l D cI cZ cO N a0 u0 x1 x3 r_4 er_4) (cwV 2 hts k_X5_weighWorlds_X5_isLate_83 rfl rfl rfl (by decide +kernel) ⟨(Nat.le_of_ble_eq_true rfl), (Nat.le_of_ble_eq_true rfl)⟩) (va_recv hK hP (ci := 5) (q0 := 0) rfl rfl) hP hK rfl hl.1 rfl (Nat.le_of_ble_eq_true rfl) dX5_weighWorlds_55 ⟨Nat.zero_le _, Nat.zero_le _⟩ ?_
        refine lv_if_eq (tgt := 73) hx hb dX5_weighWorlds_58 (by decide) (fun q_5 => ?_) (fun q_5 => ?_)
        · have h := mk_ifp q_5 h
          refine lv_aload_n hx hb dX5_weighWorlds_73 rfl (lv_at hl 0 rfl) ?_
          refine va_get (D := D) (ci := 5) (v := .ref (a0 3)) (C := RX5) (T := TX5) (N := 14) hx hb hts hiX5 hown hK hP 0 rfl rfl 2 (by decide) (hts (.fieldLink RX5 18 "ClockOnce$Town" "tenths" "[I") (List.mem_of_getElem? (i := 3) rfl)) (fun _ h9 => h9) rfl dX5_weighWorlds_74 ?_
          refine lv_iload_n hx hb dX5_weighWorlds_77 rfl (lv_at hl 3 rfl) ?_
          obtain ⟨v_6, ev_6, hiv_6, h⟩ := mk_rdE h
          refine va_iald hx hb hK hP 3 0 rfl rfl hiv_6 dX5_weighWorlds_78 ?_
          refine mk_topi ev_6 ?_
          refine lv_imul hx hb dX5_weighWorlds_79 ?_
          refine lv_istore_n (lv' := [(2, .int (x2 * v_6)), (0, .ref (a0 0)), (1, .int x1), (3, .int x3)]) hx hb dX5_weighWorlds_80 rfl hl (by decide) rfl (fun ls hl => ?_)
          refine lv_iinc (v := (x3 + (1 : Int32))) (lv' := [(3, .int (x3 + (1 : Int32))), (2, .int (x2 * v_6)), (0, .ref (a0 0)), (1, .int x1)]) hx hb dX5_weighWorlds_81 hl (k := 3) rfl rfl (by decide) rfl (fun ls hl => ?_)
          refine lv_goto (tgt := 43) hx hb dX5_weighWorlds_84 (by decide) ?_
          exact ih43 (x2 * v_6) (x3 + (1 : Int32)) h H locs ls hP hD hS (lv_sub hl [2, 3, 1, 0] rfl)
        · have h := mk_ifn q_5 h
          refine lv_bipush (v := (10 : Int32)) hx hb dX5_weighWorlds_61 (by decide) ?_
          refine lv_aload_n hx hb dX5_weighWorlds_63 rfl (lv_at hl 0 rfl) ?_
          refine va_get (D := D) (ci := 5) (v := .ref (a0 3)) (C := RX5) (T := TX5) (N := 14) hx hb hts hiX5 hown hK hP 0 rfl rfl 2 (by decide) (hts (.fieldLink RX5 18 "ClockOnce$Town" "tenths" "[I") (List.mem_of_getElem? (i := 3) rfl)) (fun _ h9 => h9) rfl dX5_weighWorlds_64 ?_
          refine lv_iload_n hx hb dX5_weighWorlds_67 rfl (lv_at hl 3 rfl) ?_
          obtain ⟨v_7, ev_7, hiv_7, h⟩ := mk_rdE h
          refine va_iald hx hb hK hP 3 0 rfl rfl hiv_7 dX5_weighWorlds_68 ?_
          refine mk_topi ev_7 ?_
          refine lv_isub hx hb dX5_weighWorlds_69 ?_
          refine lv_goto (tgt := 79) hx hb dX5_weighWorlds_70 (by decide) ?_
          refine lv_imul hx hb dX5_weighWorlds_79 ?_
          refine lv_istore_n (lv' := [(2, .int (x2 * ((10 : Int32) - v_7))), (0, .ref (a0 0)), (1, .int x1), (3, .int x3)]) hx hb dX5_weighWorlds_80 rfl hl (by decide) rfl (fun ls hl => ?_)
          refine lv_iinc (v := (x3 + (1 : Int32))) (lv' := [(3, .int (x3 + (1 : Int32))), (2, .int (x2 * ((10 : Int32) - v_7))), (0, .ref (a0 0)), (1, .int x1)]) hx hb dX5_weighWorlds_81 hl (k := 3) rfl rfl (by decide) rfl (fun ls hl => ?_)
          refine lv_goto (tgt := 43) hx hb dX5_weighWorlds_84 (by decide) ?_
          exact ih43 (x2 * ((10 : Int32) - v_7)) (x3 + (1 : Int32)) h H locs ls hP hD hS (lv_sub hl [2, 3, 1, 0] rfl)
    unfold g_X5_weighWorlds_7 at h
    refine lv_iload_n hx hb dX5_weighWorlds_7 rfl (lv_at hl 1 rfl) ?_
    refine lv_iconst (v := (1 : Int32)) hx hb dX5_weighWorlds_8 (by decide) ?_
    refine lv_aload_n hx hb dX5_weighWorlds_9 rfl (lv_at hl 0 rfl) ?_
    refine va_get (D := D) (ci := 5) (v := .int (u0 0 0)) (C := RX5) (T := TX5) (N := 14) hx hb hts hiX5 hown hK hP 0 rfl rfl 4 (by decide) (hts (.fieldLink RX5 24 "ClockOnce$Town" "things" "I") (List.mem_of_getElem? (i := 2) rfl)) (fun _ h9 => h9) rfl dX5_weighWorlds_10 ?_
    refine lv_ishl hx hb dX5_weighWorlds_13 ?_
    refine lv_icmp_ge (tgt := 100) hx hb dX5_weighWorlds_14 (by decide) (fun q_8 => ?_) (fun q_8 => ?_)
    · have h := mk_ifp q_8 h
      exact hret _ _ _ _ _ h hP hD hS dX5_weighWorlds_100
    · have h := mk_ifn q_8 h
      refine lv_aload_n hx hb dX5_weighWorlds_17 rfl (lv_at hl 0 rfl) ?_
      refine lv_iload_n hx hb dX5_weighWorlds_18 rfl (lv_at hl 1 rfl) ?_
      obtain ⟨r_9, er_9, h⟩ := mk_bd h
      refine pc_v (As := [.int x1]) (rest := []) ⟨hx, hb, hml, hown, hts⟩ (c_X5_firstBrokenLink l D cI cZ cO N a0 u0 x1 r_9 er_9) (cwV 1 hts k_X5_weighWorlds_X5_firstBrokenLink_79 rfl rfl rfl (by decide +kernel) ⟨(Nat.le_of_ble_eq_true rfl), (Nat.le_of_ble_eq_true rfl)⟩) (va_recv hK hP (ci := 5) (q0 := 0) rfl rfl) hP hK rfl hl.1 rfl (Nat.le_of_ble_eq_true rfl) dX5_weighWorlds_19 ⟨Nat.zero_le _, Nat.zero_le _⟩ ?_
      refine lv_bipush (v := (-9 : Int32)) hx hb dX5_weighWorlds_22 (by decide) ?_
      refine lv_icmp_ne (tgt := 39) hx hb dX5_weighWorlds_24 (by decide) (fun q_10 => ?_) (fun q_10 => ?_)
      · have h := mk_ifn q_10 h
        refine lv_iconst (v := (1 : Int32)) hx hb dX5_weighWorlds_39 (by decide) ?_
        refine lv_istore_n (lv' := [(2, .int (1 : Int32)), (0, .ref (a0 0)), (1, .int x1)]) hx hb dX5_weighWorlds_40 rfl hl (by decide) rfl (fun ls hl => ?_)
        refine lv_iconst (v := (0 : Int32)) hx hb dX5_weighWorlds_41 (by decide) ?_
        refine lv_istore_n (lv' := [(3, .int (0 : Int32)), (2, .int (1 : Int32)), (0, .ref (a0 0)), (1, .int x1)]) hx hb dX5_weighWorlds_42 rfl hl (by decide) rfl (fun ls hl => ?_)
        exact K43 u0 x1 (1 : Int32) (0 : Int32) H locs ls hP hD hS (lv_sub hl [2, 3, 1, 0] rfl) h
      · have h := mk_ifp q_10 h
        refine lv_aload_n hx hb dX5_weighWorlds_27 rfl (lv_at hl 0 rfl) ?_
        refine lv_dup hx hb dX5_weighWorlds_28 rfl ?_
        refine va_get (D := D) (ci := 5) (v := .int (u0 0 4)) (C := RX5) (T := TX5) (N := 14) hx hb hts hiX5 hown hK hP 0 rfl rfl 13 (by decide) (hts (.fieldLink RX5 52 "ClockOnce$Town" "allWorlds" "I") (List.mem_of_getElem? (i := 1) rfl)) (fun _ h9 => h9) rfl dX5_weighWorlds_29 ?_
        refine lv_iconst (v := (1 : Int32)) hx hb dX5_weighWorlds_32 (by decide) ?_
        refine lv_iload_n hx hb dX5_weighWorlds_33 rfl (lv_at hl 1 rfl) ?_
        refine lv_ishl hx hb dX5_weighWorlds_34 ?_
        refine lv_ior hx hb dX5_weighWorlds_35 ?_
        obtain ⟨w_11, ew_11, h⟩ := mk_nmE h
        refine va_put (D := D) (ci := 5) (v := .int ((u0 0 4) ||| ((1 : Int32) <<< (x1 &&& 31)))) (ty := .int) (C := RX5) (T := TX5) (N := 14) hx hb hts hiX5 tyX5 tyX5_ok nmX5 hown hK hP hD hS 0 rfl rfl 13 (by decide) (hts (.fieldLink RX5 52 "ClockOnce$Town" "allWorlds" "I") (List.mem_of_getElem? (i := 1) rfl)) (fun _ h9 => h9) rfl (by decide +kernel) rfl rfl (Nat.le_of_ble_eq_true rfl) dX5_weighWorlds_36 (fun H locs hP hD hS => ?_)
        have hP : va_P D vwCl (wX5 cI a0 w_11) H := by rw [ew_11]; exact hP
        have hD : va_D A (wX5 cI a0 w_11) := by rw [ew_11]; exact hD
        refine lv_iconst (v := (1 : Int32)) hx hb dX5_weighWorlds_39 (by decide) ?_
        refine lv_istore_n (lv' := [(2, .int (1 : Int32)), (0, .ref (a0 0)), (1, .int x1)]) hx hb dX5_weighWorlds_40 rfl hl (by decide) rfl (fun ls hl => ?_)
        refine lv_iconst (v := (0 : Int32)) hx hb dX5_weighWorlds_41 (by decide) ?_
        refine lv_istore_n (lv' := [(3, .int (0 : Int32)), (2, .int (1 : Int32)), (0, .ref (a0 0)), (1, .int x1)]) hx hb dX5_weighWorlds_42 rfl hl (by decide) rfl (fun ls hl => ?_)
        exact K43 w_11 x1 (1 : Int32) (0 : Int32) H locs ls hP hD hS (lv_sub hl [2, 3, 1, 0] rfl) h
  unfold f_X5_weighWorlds at h
  refine lv_aload_n hx hb dX5_weighWorlds_0 rfl (lv_at hl 0 rfl) ?_
  refine lv_iconst (v := (0 : Int32)) hx hb dX5_weighWorlds_1 (by decide) ?_
  obtain ⟨w_12, ew_12, h⟩ := mk_nmE h
  refine va_put (D := D) (ci := 5) (v := .int (0 : Int32)) (ty := .int) (C := RX5) (T := TX5) (N := 14) hx hb hts hiX5 tyX5 tyX5_ok nmX5 hown hK hP hD hS 0 rfl rfl 13 (by decide) (hts (.fieldLink RX5 52 "ClockOnce$Town" "allWorlds" "I") (List.mem_of_getElem? (i := 1) rfl)) (fun _ h9 => h9) rfl (by decide +kernel) rfl rfl (Nat.le_of_ble_eq_true rfl) dX5_weighWorlds_2 (fun H locs hP hD hS => ?_)
  have hP : va_P D vwCl (wX5 cI a0 w_12) H := by rw [ew_12]; exact hP
  have hD : va_D A (wX5 cI a0 w_12) := by rw [ew_12]; exact hD
  refine lv_iconst (v := (0 : Int32)) hx hb dX5_weighWorlds_5 (by decide) ?_
  refine lv_istore_n (lv' := [(1, .int (0 : Int32)), (0, .ref (a0 0))]) hx hb dX5_weighWorlds_6 rfl hl (by decide) rfl (fun ls hl => ?_)
  exact K7 w_12 (0 : Int32) H locs ls hP hD hS (lv_sub hl [1, 0] rfl) h

abbrev rm_X5_withLinksHeld : Room := { frames := 2, cells := 0, slots := 0, locals := 45 }
set_option maxRecDepth 20000 in
theorem k_X5_withLinksHeld_X5_firstBrokenLink_79 : GoodIn wsX5_withLinksHeld (wsV RX5 79 RX5 yX5_firstBrokenLink wsX5_firstBrokenLink) := goodIn_r _ [2, 3, 4, 5, 6, 7, 8, 1, 9, 10, 11, 5, 12, 13, 14, 15, 16, 17, 18, 19, 20, 21, 22, 23, 24, 25, 26] rfl (by decide +kernel)
set_option maxHeartbeats 4000000 in
set_option maxRecDepth 100000 in
theorem c_X5_withLinksHeld (l : Launch) (D : va_G) (cI cZ cO : ClassId) (N : Nat) (a0 : Nat → Nat) (u0 : TU) (p1 : Int32) (out : Int32) (h : f_X5_withLinksHeld N u0 p1 = some out) : Met l yX5_withLinksHeld wsX5_withLinksHeld rm_X5_withLinksHeld (va_Pc [.ref (a0 0), .int p1] (fun U => va_P D vwCl (wX5 cI a0 u0) U.heap ∧ va_K D vwCl (tyA cI cZ cO) U)) (vp_Si (fun r => r = out)) 0 0 (fun _ => False) := by
  refine pm_i (own := RX5) (cc := cX5_withLinksHeld) (maxL := 5) (by decide) rfl rfl (Nat.le_of_ble_eq_true rfl) ?_
  intro p e s m args below meth c Q H ls hx hb hml hown hts hP hK hl hret
  have hl : lv_has ls 5 [(0, .ref (a0 0)), (1, .int p1)] := hl
  have hiX5 : ∀ w ∈ u_ws RX5 TX5 14, w ∈ wsX5_withLinksHeld := mk_seg 13 14 rfl
  have K4 : ∀ (x2 : Int32) (x3 : Int32) (ls : Array Slot), lv_has ls 5 [(0, .ref (a0 0)), (2, .int x2), (3, .int x3)] → lq2 (g_X5_withLinksHeld_4 N u0) N x2 x3 = some out → W p l e rm_X5_withLinksHeld s m args below meth c H [] 0 0 Q (F0 m 4 ls []) := by
    intro x2 x3 ls hl h
    refine lq2_W (Wd := fun x2 x3 => ∀ (ls : Array Slot), lv_has ls 5 [(0, .ref (a0 0)), (2, .int x2), (3, .int x3)] → W p l e rm_X5_withLinksHeld s m args below meth c H [] 0 0 Q (F0 m 4 ls [])) (fun rec4 ih4 x2 x3 h ls hl => ?_) N x2 x3 h ls hl
    unfold g_X5_withLinksHeld_4 at h
    refine lv_iload_n hx hb dX5_withLinksHeld_4 rfl (lv_at hl 2 rfl) ?_
    refine lv_iconst (v := (4 : Int32)) hx hb dX5_withLinksHeld_5 (by decide) ?_
    refine lv_icmp_ge (tgt := 43) hx hb dX5_withLinksHeld_6 (by decide) (fun q_1 => ?_) (fun q_1 => ?_)
    · have h := mk_ifp q_1 h
      refine lv_iload_n hx hb dX5_withLinksHeld_43 rfl (lv_at hl 1 rfl) ?_
      exact hret _ _ _ h dX5_withLinksHeld_44
    · have h := mk_ifn q_1 h
      refine lv_aload_n hx hb dX5_withLinksHeld_9 rfl (lv_at hl 0 rfl) ?_
      refine lv_iload_n hx hb dX5_withLinksHeld_10 rfl (lv_at hl 1 rfl) ?_
      obtain ⟨r_2, er_2, h⟩ := mk_bd h
      refine pc_v (As := [.int x2]) (rest := []) ⟨hx, hb, hml, hown, hts⟩ (c_X5_firstBrokenLink l D cI cZ cO N a0 u0 x2 r_2 er_2) (cwV 1 hts k_X5_withLinksHeld_X5_firstBrokenLink_79 rfl rfl rfl (by decide +kernel) ⟨(Nat.le_of_ble_eq_true rfl), (Nat.le_of_ble_eq_true rfl)⟩) (va_recv hK hP (ci := 5) (q0 := 0) rfl rfl) hP hK rfl hl.1 rfl (Nat.le_of_ble_eq_true rfl) dX5_withLinksHeld_11 ⟨Nat.zero_le _, Nat.zero_le _⟩ ?_
      refine lv_istore (lv' := [(4, .int r_2), (0, .ref (a0 0)), (2, .int x2), (3, .int x3)]) hx hb dX5_withLinksHeld_14 hl (by decide) rfl (fun ls hl => ?_)
      refine lv_iload hx hb dX5_withLinksHeld_16 (lv_at hl 0 rfl) ?_
      refine lv_if_ge (tgt := 23) hx hb dX5_withLinksHeld_18 (by decide) (fun q_3 => ?_) (fun q_3 => ?_)
      · have h := mk_ifp q_3 h
        refine lv_iload_n hx hb dX5_withLinksHeld_23 rfl (lv_at hl 2 rfl) ?_
        refine lv_iconst (v := (1 : Int32)) hx hb dX5_withLinksHeld_24 (by decide) ?_
        refine lv_aload_n hx hb dX5_withLinksHeld_25 rfl (lv_at hl 1 rfl) ?_
        refine va_get (D := D) (ci := 5) (v := .ref (a0 8)) (C := RX5) (T := TX5) (N := 14) hx hb hts hiX5 hown hK hP 0 rfl rfl 10 (by decide) (hts (.fieldLink RX5 43 "ClockOnce$Town" "to" "[I") (List.mem_of_getElem? (i := 1) rfl)) (fun _ h9 => h9) rfl dX5_withLinksHeld_26 ?_
        refine lv_iload hx hb dX5_withLinksHeld_29 (lv_at hl 0 rfl) ?_
        obtain ⟨v_4, ev_4, hiv_4, h⟩ := mk_rdE h
        refine va_iald hx hb hK hP 8 0 rfl rfl hiv_4 dX5_withLinksHeld_31 ?_
        refine mk_topi ev_4 ?_
        refine lv_ishl hx hb dX5_withLinksHeld_32 ?_
        refine lv_iconst (v := (-1 : Int32)) hx hb dX5_withLinksHeld_33 (by decide) ?_
        refine lv_ixor hx hb dX5_withLinksHeld_34 ?_
        refine lv_iand hx hb dX5_withLinksHeld_35 ?_
        refine lv_istore_n (lv' := [(2, .int (x2 &&& (((1 : Int32) <<< (v_4 &&& 31)) ^^^ (-1 : Int32)))), (4, .int r_2), (0, .ref (a0 0)), (3, .int x3)]) hx hb dX5_withLinksHeld_36 rfl hl (by decide) rfl (fun ls hl => ?_)
        refine lv_iinc (v := (x3 + (1 : Int32))) (lv' := [(3, .int (x3 + (1 : Int32))), (2, .int (x2 &&& (((1 : Int32) <<< (v_4 &&& 31)) ^^^ (-1 : Int32)))), (4, .int r_2), (0, .ref (a0 0))]) hx hb dX5_withLinksHeld_37 hl (k := 3) rfl rfl (by decide) rfl (fun ls hl => ?_)
        refine lv_goto (tgt := 4) hx hb dX5_withLinksHeld_40 (by decide) ?_
        exact ih4 (x2 &&& (((1 : Int32) <<< (v_4 &&& 31)) ^^^ (-1 : Int32))) (x3 + (1 : Int32)) h ls (lv_sub hl [3, 1, 0] rfl)
      · have h := mk_ifn q_3 h
        refine lv_iload_n hx hb dX5_withLinksHeld_21 rfl (lv_at hl 2 rfl) ?_
        exact hret _ _ _ h dX5_withLinksHeld_22
  unfold f_X5_withLinksHeld at h
  refine lv_iload_n hx hb dX5_withLinksHeld_0 rfl (lv_at hl 1 rfl) ?_
  refine lv_istore_n (lv' := [(2, .int p1), (0, .ref (a0 0)), (1, .int p1)]) hx hb dX5_withLinksHeld_1 rfl hl (by decide) rfl (fun ls hl => ?_)
  refine lv_iconst (v := (0 : Int32)) hx hb dX5_withLinksHeld_2 (by decide) ?_
  refine lv_istore_n (lv' := [(3, .int (0 : Int32)), (2, .int p1), (0, .ref (a0 0)), (1, .int p1)]) hx hb dX5_withLinksHeld_3 rfl hl (by decide) rfl (fun ls hl => ?_)
  exact K4 p1 (0 : Int32) ls (lv_sub hl [2, 1, 0] rfl) h
