theorem dX1_bestOf_0 : decode cX1_bestOf 0 = .ok (.iconst 0, 1) := by decide +kernel
theorem dX1_bestOf_1 : decode cX1_bestOf 1 = .ok (.istore_n 3, 1) := by decide +kernel
theorem dX1_bestOf_2 : decode cX1_bestOf 2 = .ok (.iconst 1, 1) := by decide +kernel
theorem dX1_bestOf_3 : decode cX1_bestOf 3 = .ok (.istore 4, 2) := by decide +kernel
theorem dX1_bestOf_5 : decode cX1_bestOf 5 = .ok (.iload 4, 2) := by decide +kernel
theorem dX1_bestOf_7 : decode cX1_bestOf 7 = .ok (.iconst 1, 1) := by decide +kernel
theorem dX1_bestOf_8 : decode cX1_bestOf 8 = .ok (.aload_n 1, 1) := by decide +kernel
theorem dX1_bestOf_9 : decode cX1_bestOf 9 = .ok (.getfield 24, 3) := by decide +kernel
theorem dX1_bestOf_12 : decode cX1_bestOf 12 = .ok (.ishl, 1) := by decide +kernel
theorem dX1_bestOf_13 : decode cX1_bestOf 13 = .ok (.if_icmp .ge 77, 3) := by decide +kernel
theorem dX1_bestOf_16 : decode cX1_bestOf 16 = .ok (.aload_n 0, 1) := by decide +kernel
theorem dX1_bestOf_17 : decode cX1_bestOf 17 = .ok (.getfield 9, 3) := by decide +kernel
theorem dX1_bestOf_20 : decode cX1_bestOf 20 = .ok (.iload 4, 2) := by decide +kernel
theorem dX1_bestOf_22 : decode cX1_bestOf 22 = .ok (.iaload, 1) := by decide +kernel
theorem dX1_bestOf_23 : decode cX1_bestOf 23 = .ok (.aload_n 0, 1) := by decide +kernel
theorem dX1_bestOf_24 : decode cX1_bestOf 24 = .ok (.getfield 9, 3) := by decide +kernel
theorem dX1_bestOf_27 : decode cX1_bestOf 27 = .ok (.iload_n 3, 1) := by decide +kernel
theorem dX1_bestOf_28 : decode cX1_bestOf 28 = .ok (.iaload, 1) := by decide +kernel
theorem dX1_bestOf_29 : decode cX1_bestOf 29 = .ok (.if_icmp .gt 31, 3) := by decide +kernel
theorem dX1_bestOf_32 : decode cX1_bestOf 32 = .ok (.aload_n 0, 1) := by decide +kernel
theorem dX1_bestOf_33 : decode cX1_bestOf 33 = .ok (.getfield 9, 3) := by decide +kernel
theorem dX1_bestOf_36 : decode cX1_bestOf 36 = .ok (.iload 4, 2) := by decide +kernel
theorem dX1_bestOf_38 : decode cX1_bestOf 38 = .ok (.iaload, 1) := by decide +kernel
theorem dX1_bestOf_39 : decode cX1_bestOf 39 = .ok (.aload_n 0, 1) := by decide +kernel
theorem dX1_bestOf_40 : decode cX1_bestOf 40 = .ok (.getfield 9, 3) := by decide +kernel
theorem dX1_bestOf_43 : decode cX1_bestOf 43 = .ok (.iload_n 3, 1) := by decide +kernel
theorem dX1_bestOf_44 : decode cX1_bestOf 44 = .ok (.iaload, 1) := by decide +kernel
theorem dX1_bestOf_45 : decode cX1_bestOf 45 = .ok (.if_icmp .ne 19, 3) := by decide +kernel
theorem dX1_bestOf_48 : decode cX1_bestOf 48 = .ok (.iload 4, 2) := by decide +kernel
theorem dX1_bestOf_50 : decode cX1_bestOf 50 = .ok (.invokestatic 61, 3) := by decide +kernel
theorem dX1_bestOf_53 : decode cX1_bestOf 53 = .ok (.iload_n 3, 1) := by decide +kernel
theorem dX1_bestOf_54 : decode cX1_bestOf 54 = .ok (.invokestatic 61, 3) := by decide +kernel
theorem dX1_bestOf_57 : decode cX1_bestOf 57 = .ok (.if_icmp .ge 7, 3) := by decide +kernel
theorem dX1_bestOf_60 : decode cX1_bestOf 60 = .ok (.iconst 1, 1) := by decide +kernel
theorem dX1_bestOf_61 : decode cX1_bestOf 61 = .ok (.goto 4, 3) := by decide +kernel
theorem dX1_bestOf_64 : decode cX1_bestOf 64 = .ok (.iconst 0, 1) := by decide +kernel
theorem dX1_bestOf_65 : decode cX1_bestOf 65 = .ok (.istore 5, 2) := by decide +kernel
theorem dX1_bestOf_67 : decode cX1_bestOf 67 = .ok (.iload_n 2, 1) := by decide +kernel
theorem dX1_bestOf_68 : decode cX1_bestOf 68 = .ok (.iload 4, 2) := by decide +kernel
theorem dX1_bestOf_70 : decode cX1_bestOf 70 = .ok (.ishr, 1) := by decide +kernel
theorem dX1_bestOf_71 : decode cX1_bestOf 71 = .ok (.iconst 1, 1) := by decide +kernel
theorem dX1_bestOf_72 : decode cX1_bestOf 72 = .ok (.iand, 1) := by decide +kernel
theorem dX1_bestOf_73 : decode cX1_bestOf 73 = .ok (.ifCond .eq 11, 3) := by decide +kernel
theorem dX1_bestOf_76 : decode cX1_bestOf 76 = .ok (.iload 5, 2) := by decide +kernel
theorem dX1_bestOf_78 : decode cX1_bestOf 78 = .ok (.ifCond .eq 6, 3) := by decide +kernel
theorem dX1_bestOf_81 : decode cX1_bestOf 81 = .ok (.iload 4, 2) := by decide +kernel
theorem dX1_bestOf_83 : decode cX1_bestOf 83 = .ok (.istore_n 3, 1) := by decide +kernel
theorem dX1_bestOf_84 : decode cX1_bestOf 84 = .ok (.iinc 4 1, 3) := by decide +kernel
theorem dX1_bestOf_87 : decode cX1_bestOf 87 = .ok (.goto (-82), 3) := by decide +kernel
theorem dX1_bestOf_90 : decode cX1_bestOf 90 = .ok (.iload_n 3, 1) := by decide +kernel
theorem dX1_bestOf_91 : decode cX1_bestOf 91 = .ok (.ireturn, 1) := by decide +kernel
theorem dX1_setsWithOneMore_0 : decode cX1_setsWithOneMore 0 = .ok (.iload_n 2, 1) := by decide +kernel
theorem dX1_setsWithOneMore_1 : decode cX1_setsWithOneMore 1 = .ok (.istore 4, 2) := by decide +kernel
theorem dX1_setsWithOneMore_3 : decode cX1_setsWithOneMore 3 = .ok (.iconst 0, 1) := by decide +kernel
theorem dX1_setsWithOneMore_4 : decode cX1_setsWithOneMore 4 = .ok (.istore 5, 2) := by decide +kernel
theorem dX1_setsWithOneMore_6 : decode cX1_setsWithOneMore 6 = .ok (.iload 5, 2) := by decide +kernel
theorem dX1_setsWithOneMore_8 : decode cX1_setsWithOneMore 8 = .ok (.iconst 1, 1) := by decide +kernel
theorem dX1_setsWithOneMore_9 : decode cX1_setsWithOneMore 9 = .ok (.aload_n 1, 1) := by decide +kernel
theorem dX1_setsWithOneMore_10 : decode cX1_setsWithOneMore 10 = .ok (.getfield 24, 3) := by decide +kernel
theorem dX1_setsWithOneMore_13 : decode cX1_setsWithOneMore 13 = .ok (.ishl, 1) := by decide +kernel
theorem dX1_setsWithOneMore_14 : decode cX1_setsWithOneMore 14 = .ok (.if_icmp .ge 69, 3) := by decide +kernel
theorem dX1_setsWithOneMore_17 : decode cX1_setsWithOneMore 17 = .ok (.iload_n 2, 1) := by decide +kernel
theorem dX1_setsWithOneMore_18 : decode cX1_setsWithOneMore 18 = .ok (.iload 5, 2) := by decide +kernel
theorem dX1_setsWithOneMore_20 : decode cX1_setsWithOneMore 20 = .ok (.ishr, 1) := by decide +kernel
theorem dX1_setsWithOneMore_21 : decode cX1_setsWithOneMore 21 = .ok (.iconst 1, 1) := by decide +kernel
theorem dX1_setsWithOneMore_22 : decode cX1_setsWithOneMore 22 = .ok (.iand, 1) := by decide +kernel
theorem dX1_setsWithOneMore_23 : decode cX1_setsWithOneMore 23 = .ok (.ifCond .eq 7, 3) := by decide +kernel
theorem dX1_setsWithOneMore_26 : decode cX1_setsWithOneMore 26 = .ok (.iconst 1, 1) := by decide +kernel
theorem dX1_setsWithOneMore_27 : decode cX1_setsWithOneMore 27 = .ok (.goto 4, 3) := by decide +kernel
theorem dX1_setsWithOneMore_30 : decode cX1_setsWithOneMore 30 = .ok (.iconst 0, 1) := by decide +kernel
theorem dX1_setsWithOneMore_31 : decode cX1_setsWithOneMore 31 = .ok (.istore 6, 2) := by decide +kernel
theorem dX1_setsWithOneMore_33 : decode cX1_setsWithOneMore 33 = .ok (.aload_n 1, 1) := by decide +kernel
theorem dX1_setsWithOneMore_34 : decode cX1_setsWithOneMore 34 = .ok (.getfield 55, 3) := by decide +kernel
theorem dX1_setsWithOneMore_37 : decode cX1_setsWithOneMore 37 = .ok (.iload_n 3, 1) := by decide +kernel
theorem dX1_setsWithOneMore_38 : decode cX1_setsWithOneMore 38 = .ok (.iaload, 1) := by decide +kernel
theorem dX1_setsWithOneMore_39 : decode cX1_setsWithOneMore 39 = .ok (.istore 7, 2) := by decide +kernel
theorem dX1_setsWithOneMore_41 : decode cX1_setsWithOneMore 41 = .ok (.iload 6, 2) := by decide +kernel
theorem dX1_setsWithOneMore_43 : decode cX1_setsWithOneMore 43 = .ok (.ifCond .eq 34, 3) := by decide +kernel
theorem dX1_setsWithOneMore_46 : decode cX1_setsWithOneMore 46 = .ok (.iload 7, 2) := by decide +kernel
theorem dX1_setsWithOneMore_48 : decode cX1_setsWithOneMore 48 = .ok (.aload_n 1, 1) := by decide +kernel
theorem dX1_setsWithOneMore_49 : decode cX1_setsWithOneMore 49 = .ok (.getfield 58, 3) := by decide +kernel
theorem dX1_setsWithOneMore_52 : decode cX1_setsWithOneMore 52 = .ok (.iload_n 3, 1) := by decide +kernel
theorem dX1_setsWithOneMore_53 : decode cX1_setsWithOneMore 53 = .ok (.iaload, 1) := by decide +kernel
theorem dX1_setsWithOneMore_54 : decode cX1_setsWithOneMore 54 = .ok (.if_icmp .gt 23, 3) := by decide +kernel
theorem dX1_setsWithOneMore_57 : decode cX1_setsWithOneMore 57 = .ok (.iload 4, 2) := by decide +kernel
theorem dX1_setsWithOneMore_59 : decode cX1_setsWithOneMore 59 = .ok (.iconst 1, 1) := by decide +kernel
theorem dX1_setsWithOneMore_60 : decode cX1_setsWithOneMore 60 = .ok (.iload 5, 2) := by decide +kernel
theorem dX1_setsWithOneMore_62 : decode cX1_setsWithOneMore 62 = .ok (.iconst 1, 1) := by decide +kernel
theorem dX1_setsWithOneMore_63 : decode cX1_setsWithOneMore 63 = .ok (.iload 7, 2) := by decide +kernel
theorem dX1_setsWithOneMore_65 : decode cX1_setsWithOneMore 65 = .ok (.ishl, 1) := by decide +kernel
theorem dX1_setsWithOneMore_66 : decode cX1_setsWithOneMore 66 = .ok (.ior, 1) := by decide +kernel
theorem dX1_setsWithOneMore_67 : decode cX1_setsWithOneMore 67 = .ok (.ishl, 1) := by decide +kernel
theorem dX1_setsWithOneMore_68 : decode cX1_setsWithOneMore 68 = .ok (.ior, 1) := by decide +kernel
theorem dX1_setsWithOneMore_69 : decode cX1_setsWithOneMore 69 = .ok (.istore 4, 2) := by decide +kernel
theorem dX1_setsWithOneMore_71 : decode cX1_setsWithOneMore 71 = .ok (.iinc 7 1, 3) := by decide +kernel
theorem dX1_setsWithOneMore_74 : decode cX1_setsWithOneMore 74 = .ok (.goto (-33), 3) := by decide +kernel
theorem dX1_setsWithOneMore_77 : decode cX1_setsWithOneMore 77 = .ok (.iinc 5 1, 3) := by decide +kernel
theorem dX1_setsWithOneMore_80 : decode cX1_setsWithOneMore 80 = .ok (.goto (-74), 3) := by decide +kernel
theorem dX1_setsWithOneMore_83 : decode cX1_setsWithOneMore 83 = .ok (.iload 4, 2) := by decide +kernel
theorem dX1_setsWithOneMore_85 : decode cX1_setsWithOneMore 85 = .ok (.ireturn, 1) := by decide +kernel
theorem dX1_setsFor_0 : decode cX1_setsFor 0 = .ok (.iconst 1, 1) := by decide +kernel
theorem dX1_setsFor_1 : decode cX1_setsFor 1 = .ok (.istore_n 3, 1) := by decide +kernel
theorem dX1_setsFor_2 : decode cX1_setsFor 2 = .ok (.iconst 0, 1) := by decide +kernel
theorem dX1_setsFor_3 : decode cX1_setsFor 3 = .ok (.istore 4, 2) := by decide +kernel
theorem dX1_setsFor_5 : decode cX1_setsFor 5 = .ok (.iload 4, 2) := by decide +kernel
theorem dX1_setsFor_7 : decode cX1_setsFor 7 = .ok (.aload_n 1, 1) := by decide +kernel
theorem dX1_setsFor_8 : decode cX1_setsFor 8 = .ok (.getfield 48, 3) := by decide +kernel
theorem dX1_setsFor_11 : decode cX1_setsFor 11 = .ok (.if_icmp .ge 27, 3) := by decide +kernel
theorem dX1_setsFor_14 : decode cX1_setsFor 14 = .ok (.iload_n 2, 1) := by decide +kernel
theorem dX1_setsFor_15 : decode cX1_setsFor 15 = .ok (.iload 4, 2) := by decide +kernel
theorem dX1_setsFor_17 : decode cX1_setsFor 17 = .ok (.ishr, 1) := by decide +kernel
theorem dX1_setsFor_18 : decode cX1_setsFor 18 = .ok (.iconst 1, 1) := by decide +kernel
theorem dX1_setsFor_19 : decode cX1_setsFor 19 = .ok (.iand, 1) := by decide +kernel
theorem dX1_setsFor_20 : decode cX1_setsFor 20 = .ok (.ifCond .eq 12, 3) := by decide +kernel
theorem dX1_setsFor_23 : decode cX1_setsFor 23 = .ok (.aload_n 0, 1) := by decide +kernel
theorem dX1_setsFor_24 : decode cX1_setsFor 24 = .ok (.aload_n 1, 1) := by decide +kernel
theorem dX1_setsFor_25 : decode cX1_setsFor 25 = .ok (.iload_n 3, 1) := by decide +kernel
theorem dX1_setsFor_26 : decode cX1_setsFor 26 = .ok (.iload 4, 2) := by decide +kernel
theorem dX1_setsFor_28 : decode cX1_setsFor 28 = .ok (.invokevirtual 51, 3) := by decide +kernel
theorem dX1_setsFor_31 : decode cX1_setsFor 31 = .ok (.istore_n 3, 1) := by decide +kernel
theorem dX1_setsFor_32 : decode cX1_setsFor 32 = .ok (.iinc 4 1, 3) := by decide +kernel
theorem dX1_setsFor_35 : decode cX1_setsFor 35 = .ok (.goto (-30), 3) := by decide +kernel
theorem dX1_setsFor_38 : decode cX1_setsFor 38 = .ok (.iload_n 3, 1) := by decide +kernel
theorem dX1_setsFor_39 : decode cX1_setsFor 39 = .ok (.ireturn, 1) := by decide +kernel
theorem dX1_bestSet_0 : decode cX1_bestSet 0 = .ok (.aload_n 0, 1) := by decide +kernel
theorem dX1_bestSet_1 : decode cX1_bestSet 1 = .ok (.aload_n 1, 1) := by decide +kernel
theorem dX1_bestSet_2 : decode cX1_bestSet 2 = .ok (.aload_n 0, 1) := by decide +kernel
theorem dX1_bestSet_3 : decode cX1_bestSet 3 = .ok (.aload_n 1, 1) := by decide +kernel
theorem dX1_bestSet_4 : decode cX1_bestSet 4 = .ok (.aload_n 2, 1) := by decide +kernel
theorem dX1_bestSet_5 : decode cX1_bestSet 5 = .ok (.aload_n 1, 1) := by decide +kernel
theorem dX1_bestSet_6 : decode cX1_bestSet 6 = .ok (.invokevirtual 66, 3) := by decide +kernel
theorem dX1_bestSet_9 : decode cX1_bestSet 9 = .ok (.invokevirtual 69, 3) := by decide +kernel
theorem dX1_bestSet_12 : decode cX1_bestSet 12 = .ok (.invokevirtual 73, 3) := by decide +kernel
theorem dX1_bestSet_15 : decode cX1_bestSet 15 = .ok (.ireturn, 1) := by decide +kernel
theorem dX1_worthOf_0 : decode cX1_worthOf 0 = .ok (.aload_n 2, 1) := by decide +kernel
theorem dX1_worthOf_1 : decode cX1_worthOf 1 = .ok (.aload_n 1, 1) := by decide +kernel
theorem dX1_worthOf_2 : decode cX1_worthOf 2 = .ok (.invokevirtual 18, 3) := by decide +kernel
theorem dX1_worthOf_5 : decode cX1_worthOf 5 = .ok (.istore 5, 2) := by decide +kernel
theorem dX1_worthOf_7 : decode cX1_worthOf 7 = .ok (.iconst 0, 1) := by decide +kernel
theorem dX1_worthOf_8 : decode cX1_worthOf 8 = .ok (.istore 6, 2) := by decide +kernel
theorem dX1_worthOf_10 : decode cX1_worthOf 10 = .ok (.iconst 0, 1) := by decide +kernel
theorem dX1_worthOf_11 : decode cX1_worthOf 11 = .ok (.istore 7, 2) := by decide +kernel
theorem dX1_worthOf_13 : decode cX1_worthOf 13 = .ok (.iload 7, 2) := by decide +kernel
theorem dX1_worthOf_15 : decode cX1_worthOf 15 = .ok (.iconst 1, 1) := by decide +kernel
theorem dX1_worthOf_16 : decode cX1_worthOf 16 = .ok (.aload_n 1, 1) := by decide +kernel
theorem dX1_worthOf_17 : decode cX1_worthOf 17 = .ok (.getfield 24, 3) := by decide +kernel
theorem dX1_worthOf_20 : decode cX1_worthOf 20 = .ok (.ishl, 1) := by decide +kernel
theorem dX1_worthOf_21 : decode cX1_worthOf 21 = .ok (.if_icmp .ge 84, 3) := by decide +kernel
theorem dX1_worthOf_24 : decode cX1_worthOf 24 = .ok (.iload 7, 2) := by decide +kernel
theorem dX1_worthOf_26 : decode cX1_worthOf 26 = .ok (.iload 4, 2) := by decide +kernel
theorem dX1_worthOf_28 : decode cX1_worthOf 28 = .ok (.iconst (-1), 1) := by decide +kernel
theorem dX1_worthOf_29 : decode cX1_worthOf 29 = .ok (.ixor, 1) := by decide +kernel
theorem dX1_worthOf_30 : decode cX1_worthOf 30 = .ok (.iand, 1) := by decide +kernel
theorem dX1_worthOf_31 : decode cX1_worthOf 31 = .ok (.ifCond .ne 15, 3) := by decide +kernel
theorem dX1_worthOf_34 : decode cX1_worthOf 34 = .ok (.aload_n 1, 1) := by decide +kernel
theorem dX1_worthOf_35 : decode cX1_worthOf 35 = .ok (.iload_n 3, 1) := by decide +kernel
theorem dX1_worthOf_36 : decode cX1_worthOf 36 = .ok (.iload 4, 2) := by decide +kernel
theorem dX1_worthOf_38 : decode cX1_worthOf 38 = .ok (.iload 7, 2) := by decide +kernel
theorem dX1_worthOf_40 : decode cX1_worthOf 40 = .ok (.invokevirtual 30, 3) := by decide +kernel
theorem dX1_worthOf_43 : decode cX1_worthOf 43 = .ok (.goto 4, 3) := by decide +kernel
theorem dX1_worthOf_46 : decode cX1_worthOf 46 = .ok (.iconst 0, 1) := by decide +kernel
theorem dX1_worthOf_47 : decode cX1_worthOf 47 = .ok (.istore 8, 2) := by decide +kernel
theorem dX1_worthOf_49 : decode cX1_worthOf 49 = .ok (.iconst 0, 1) := by decide +kernel
theorem dX1_worthOf_50 : decode cX1_worthOf 50 = .ok (.istore 9, 2) := by decide +kernel
theorem dX1_worthOf_52 : decode cX1_worthOf 52 = .ok (.iload 9, 2) := by decide +kernel
theorem dX1_worthOf_54 : decode cX1_worthOf 54 = .ok (.aload_n 1, 1) := by decide +kernel
theorem dX1_worthOf_55 : decode cX1_worthOf 55 = .ok (.getfield 24, 3) := by decide +kernel
theorem dX1_worthOf_58 : decode cX1_worthOf 58 = .ok (.if_icmp .ge 41, 3) := by decide +kernel
theorem dX1_worthOf_61 : decode cX1_worthOf 61 = .ok (.iload 8, 2) := by decide +kernel
theorem dX1_worthOf_63 : decode cX1_worthOf 63 = .ok (.ifCond .eq 36, 3) := by decide +kernel
theorem dX1_worthOf_66 : decode cX1_worthOf 66 = .ok (.iload 5, 2) := by decide +kernel
theorem dX1_worthOf_68 : decode cX1_worthOf 68 = .ok (.iload 9, 2) := by decide +kernel
theorem dX1_worthOf_70 : decode cX1_worthOf 70 = .ok (.ishr, 1) := by decide +kernel
theorem dX1_worthOf_71 : decode cX1_worthOf 71 = .ok (.iconst 1, 1) := by decide +kernel
theorem dX1_worthOf_72 : decode cX1_worthOf 72 = .ok (.iand, 1) := by decide +kernel
theorem dX1_worthOf_73 : decode cX1_worthOf 73 = .ok (.ifCond .ne 20, 3) := by decide +kernel
theorem dX1_worthOf_76 : decode cX1_worthOf 76 = .ok (.iload 6, 2) := by decide +kernel
theorem dX1_worthOf_78 : decode cX1_worthOf 78 = .ok (.aload_n 1, 1) := by decide +kernel
theorem dX1_worthOf_79 : decode cX1_worthOf 79 = .ok (.iload 8, 2) := by decide +kernel
theorem dX1_worthOf_81 : decode cX1_worthOf 81 = .ok (.iload 9, 2) := by decide +kernel
theorem dX1_worthOf_83 : decode cX1_worthOf 83 = .ok (.aload_n 2, 1) := by decide +kernel
theorem dX1_worthOf_84 : decode cX1_worthOf 84 = .ok (.getfield 34, 3) := by decide +kernel
theorem dX1_worthOf_87 : decode cX1_worthOf 87 = .ok (.invokevirtual 37, 3) := by decide +kernel
theorem dX1_worthOf_90 : decode cX1_worthOf 90 = .ok (.iadd, 1) := by decide +kernel
theorem dX1_worthOf_91 : decode cX1_worthOf 91 = .ok (.istore 6, 2) := by decide +kernel
theorem dX1_worthOf_93 : decode cX1_worthOf 93 = .ok (.iinc 9 1, 3) := by decide +kernel
theorem dX1_worthOf_96 : decode cX1_worthOf 96 = .ok (.goto (-44), 3) := by decide +kernel
theorem dX1_worthOf_99 : decode cX1_worthOf 99 = .ok (.iinc 7 1, 3) := by decide +kernel
theorem dX1_worthOf_102 : decode cX1_worthOf 102 = .ok (.goto (-89), 3) := by decide +kernel
theorem dX1_worthOf_105 : decode cX1_worthOf 105 = .ok (.iload 6, 2) := by decide +kernel
theorem dX1_worthOf_107 : decode cX1_worthOf 107 = .ok (.ireturn, 1) := by decide +kernel
theorem dX1_findWorths_0 : decode cX1_findWorths 0 = .ok (.aload_n 1, 1) := by decide +kernel
theorem dX1_findWorths_1 : decode cX1_findWorths 1 = .ok (.aload_n 2, 1) := by decide +kernel
theorem dX1_findWorths_2 : decode cX1_findWorths 2 = .ok (.getfield 34, 3) := by decide +kernel
theorem dX1_findWorths_5 : decode cX1_findWorths 5 = .ok (.invokevirtual 40, 3) := by decide +kernel
theorem dX1_findWorths_8 : decode cX1_findWorths 8 = .ok (.istore_n 3, 1) := by decide +kernel
theorem dX1_findWorths_9 : decode cX1_findWorths 9 = .ok (.iconst 0, 1) := by decide +kernel
theorem dX1_findWorths_10 : decode cX1_findWorths 10 = .ok (.istore 4, 2) := by decide +kernel
theorem dX1_findWorths_12 : decode cX1_findWorths 12 = .ok (.iload 4, 2) := by decide +kernel
theorem dX1_findWorths_14 : decode cX1_findWorths 14 = .ok (.iconst 1, 1) := by decide +kernel
theorem dX1_findWorths_15 : decode cX1_findWorths 15 = .ok (.aload_n 1, 1) := by decide +kernel
theorem dX1_findWorths_16 : decode cX1_findWorths 16 = .ok (.getfield 24, 3) := by decide +kernel
theorem dX1_findWorths_19 : decode cX1_findWorths 19 = .ok (.ishl, 1) := by decide +kernel
theorem dX1_findWorths_20 : decode cX1_findWorths 20 = .ok (.if_icmp .ge 25, 3) := by decide +kernel
theorem dX1_findWorths_23 : decode cX1_findWorths 23 = .ok (.aload_n 0, 1) := by decide +kernel
theorem dX1_findWorths_24 : decode cX1_findWorths 24 = .ok (.getfield 9, 3) := by decide +kernel
theorem dX1_findWorths_27 : decode cX1_findWorths 27 = .ok (.iload 4, 2) := by decide +kernel
theorem dX1_findWorths_29 : decode cX1_findWorths 29 = .ok (.aload_n 0, 1) := by decide +kernel
theorem dX1_findWorths_30 : decode cX1_findWorths 30 = .ok (.aload_n 1, 1) := by decide +kernel
theorem dX1_findWorths_31 : decode cX1_findWorths 31 = .ok (.aload_n 2, 1) := by decide +kernel
theorem dX1_findWorths_32 : decode cX1_findWorths 32 = .ok (.iload_n 3, 1) := by decide +kernel
theorem dX1_findWorths_33 : decode cX1_findWorths 33 = .ok (.iload 4, 2) := by decide +kernel
theorem dX1_findWorths_35 : decode cX1_findWorths 35 = .ok (.invokevirtual 44, 3) := by decide +kernel
theorem dX1_findWorths_38 : decode cX1_findWorths 38 = .ok (.iastore, 1) := by decide +kernel
theorem dX1_findWorths_39 : decode cX1_findWorths 39 = .ok (.iinc 4 1, 3) := by decide +kernel
theorem dX1_findWorths_42 : decode cX1_findWorths 42 = .ok (.goto (-30), 3) := by decide +kernel
theorem dX1_findWorths_45 : decode cX1_findWorths 45 = .ok (.return_, 1) := by decide +kernel
theorem dX1_firstThingFor_0 : decode cX1_firstThingFor 0 = .ok (.aload_n 1, 1) := by decide +kernel
theorem dX1_firstThingFor_1 : decode cX1_firstThingFor 1 = .ok (.getfield 55, 3) := by decide +kernel
theorem dX1_firstThingFor_4 : decode cX1_firstThingFor 4 = .ok (.iload_n 2, 1) := by decide +kernel
theorem dX1_firstThingFor_5 : decode cX1_firstThingFor 5 = .ok (.iaload, 1) := by decide +kernel
theorem dX1_firstThingFor_6 : decode cX1_firstThingFor 6 = .ok (.istore 5, 2) := by decide +kernel
theorem dX1_firstThingFor_8 : decode cX1_firstThingFor 8 = .ok (.iload 5, 2) := by decide +kernel
theorem dX1_firstThingFor_10 : decode cX1_firstThingFor 10 = .ok (.aload_n 1, 1) := by decide +kernel
theorem dX1_firstThingFor_11 : decode cX1_firstThingFor 11 = .ok (.getfield 58, 3) := by decide +kernel
theorem dX1_firstThingFor_14 : decode cX1_firstThingFor 14 = .ok (.iload_n 2, 1) := by decide +kernel
theorem dX1_firstThingFor_15 : decode cX1_firstThingFor 15 = .ok (.iaload, 1) := by decide +kernel
theorem dX1_firstThingFor_16 : decode cX1_firstThingFor 16 = .ok (.if_icmp .gt 38, 3) := by decide +kernel
theorem dX1_firstThingFor_19 : decode cX1_firstThingFor 19 = .ok (.iload_n 3, 1) := by decide +kernel
theorem dX1_firstThingFor_20 : decode cX1_firstThingFor 20 = .ok (.iconst 1, 1) := by decide +kernel
theorem dX1_firstThingFor_21 : decode cX1_firstThingFor 21 = .ok (.iload 5, 2) := by decide +kernel
theorem dX1_firstThingFor_23 : decode cX1_firstThingFor 23 = .ok (.ishl, 1) := by decide +kernel
theorem dX1_firstThingFor_24 : decode cX1_firstThingFor 24 = .ok (.iconst (-1), 1) := by decide +kernel
theorem dX1_firstThingFor_25 : decode cX1_firstThingFor 25 = .ok (.ixor, 1) := by decide +kernel
theorem dX1_firstThingFor_26 : decode cX1_firstThingFor 26 = .ok (.iand, 1) := by decide +kernel
theorem dX1_firstThingFor_27 : decode cX1_firstThingFor 27 = .ok (.istore 6, 2) := by decide +kernel
theorem dX1_firstThingFor_29 : decode cX1_firstThingFor 29 = .ok (.iload 6, 2) := by decide +kernel
theorem dX1_firstThingFor_31 : decode cX1_firstThingFor 31 = .ok (.iload_n 3, 1) := by decide +kernel
theorem dX1_firstThingFor_32 : decode cX1_firstThingFor 32 = .ok (.if_icmp .eq 16, 3) := by decide +kernel
theorem dX1_firstThingFor_35 : decode cX1_firstThingFor 35 = .ok (.iload 4, 2) := by decide +kernel
theorem dX1_firstThingFor_37 : decode cX1_firstThingFor 37 = .ok (.iload 6, 2) := by decide +kernel
theorem dX1_firstThingFor_39 : decode cX1_firstThingFor 39 = .ok (.ishr, 1) := by decide +kernel
theorem dX1_firstThingFor_40 : decode cX1_firstThingFor 40 = .ok (.iconst 1, 1) := by decide +kernel
theorem dX1_firstThingFor_41 : decode cX1_firstThingFor 41 = .ok (.iand, 1) := by decide +kernel
theorem dX1_firstThingFor_42 : decode cX1_firstThingFor 42 = .ok (.ifCond .eq 6, 3) := by decide +kernel
theorem dX1_firstThingFor_45 : decode cX1_firstThingFor 45 = .ok (.iload 5, 2) := by decide +kernel
theorem dX1_firstThingFor_47 : decode cX1_firstThingFor 47 = .ok (.ireturn, 1) := by decide +kernel
theorem dX1_firstThingFor_48 : decode cX1_firstThingFor 48 = .ok (.iinc 5 1, 3) := by decide +kernel
theorem dX1_firstThingFor_51 : decode cX1_firstThingFor 51 = .ok (.goto (-43), 3) := by decide +kernel
theorem dX1_firstThingFor_54 : decode cX1_firstThingFor 54 = .ok (.bipush (-9), 2) := by decide +kernel
theorem dX1_firstThingFor_56 : decode cX1_firstThingFor 56 = .ok (.ireturn, 1) := by decide +kernel
theorem dX1_thingAskedBy_0 : decode cX1_thingAskedBy 0 = .ok (.aload_n 0, 1) := by decide +kernel
theorem dX1_thingAskedBy_1 : decode cX1_thingAskedBy 1 = .ok (.aload_n 1, 1) := by decide +kernel
theorem dX1_thingAskedBy_2 : decode cX1_thingAskedBy 2 = .ok (.aload_n 2, 1) := by decide +kernel
theorem dX1_thingAskedBy_3 : decode cX1_thingAskedBy 3 = .ok (.invokevirtual 76, 3) := by decide +kernel
theorem dX1_thingAskedBy_6 : decode cX1_thingAskedBy 6 = .ok (.istore 4, 2) := by decide +kernel
theorem dX1_thingAskedBy_8 : decode cX1_thingAskedBy 8 = .ok (.aload_n 2, 1) := by decide +kernel
theorem dX1_thingAskedBy_9 : decode cX1_thingAskedBy 9 = .ok (.aload_n 1, 1) := by decide +kernel
theorem dX1_thingAskedBy_10 : decode cX1_thingAskedBy 10 = .ok (.invokevirtual 66, 3) := by decide +kernel
theorem dX1_thingAskedBy_13 : decode cX1_thingAskedBy 13 = .ok (.istore 5, 2) := by decide +kernel
theorem dX1_thingAskedBy_15 : decode cX1_thingAskedBy 15 = .ok (.iconst 0, 1) := by decide +kernel
theorem dX1_thingAskedBy_16 : decode cX1_thingAskedBy 16 = .ok (.istore 6, 2) := by decide +kernel
theorem dX1_thingAskedBy_18 : decode cX1_thingAskedBy 18 = .ok (.iload 6, 2) := by decide +kernel
theorem dX1_thingAskedBy_20 : decode cX1_thingAskedBy 20 = .ok (.iload_n 3, 1) := by decide +kernel
theorem dX1_thingAskedBy_21 : decode cX1_thingAskedBy 21 = .ok (.if_icmp .gt 92, 3) := by decide +kernel
theorem dX1_thingAskedBy_24 : decode cX1_thingAskedBy 24 = .ok (.iload 5, 2) := by decide +kernel
theorem dX1_thingAskedBy_26 : decode cX1_thingAskedBy 26 = .ok (.iload 6, 2) := by decide +kernel
theorem dX1_thingAskedBy_28 : decode cX1_thingAskedBy 28 = .ok (.ishr, 1) := by decide +kernel
theorem dX1_thingAskedBy_29 : decode cX1_thingAskedBy 29 = .ok (.iconst 1, 1) := by decide +kernel
theorem dX1_thingAskedBy_30 : decode cX1_thingAskedBy 30 = .ok (.iand, 1) := by decide +kernel
theorem dX1_thingAskedBy_31 : decode cX1_thingAskedBy 31 = .ok (.ifCond .eq 7, 3) := by decide +kernel
theorem dX1_thingAskedBy_34 : decode cX1_thingAskedBy 34 = .ok (.iconst 1, 1) := by decide +kernel
theorem dX1_thingAskedBy_35 : decode cX1_thingAskedBy 35 = .ok (.goto 4, 3) := by decide +kernel
theorem dX1_thingAskedBy_38 : decode cX1_thingAskedBy 38 = .ok (.iconst 0, 1) := by decide +kernel
theorem dX1_thingAskedBy_39 : decode cX1_thingAskedBy 39 = .ok (.istore 7, 2) := by decide +kernel
theorem dX1_thingAskedBy_41 : decode cX1_thingAskedBy 41 = .ok (.iload 5, 2) := by decide +kernel
theorem dX1_thingAskedBy_43 : decode cX1_thingAskedBy 43 = .ok (.iconst 1, 1) := by decide +kernel
theorem dX1_thingAskedBy_44 : decode cX1_thingAskedBy 44 = .ok (.iload 6, 2) := by decide +kernel
theorem dX1_thingAskedBy_46 : decode cX1_thingAskedBy 46 = .ok (.ishl, 1) := by decide +kernel
theorem dX1_thingAskedBy_47 : decode cX1_thingAskedBy 47 = .ok (.iconst (-1), 1) := by decide +kernel
theorem dX1_thingAskedBy_48 : decode cX1_thingAskedBy 48 = .ok (.ixor, 1) := by decide +kernel
theorem dX1_thingAskedBy_49 : decode cX1_thingAskedBy 49 = .ok (.iand, 1) := by decide +kernel
theorem dX1_thingAskedBy_50 : decode cX1_thingAskedBy 50 = .ok (.istore 5, 2) := by decide +kernel
theorem dX1_thingAskedBy_52 : decode cX1_thingAskedBy 52 = .ok (.iload 7, 2) := by decide +kernel
theorem dX1_thingAskedBy_54 : decode cX1_thingAskedBy 54 = .ok (.ifCond .eq 22, 3) := by decide +kernel
theorem dX1_thingAskedBy_57 : decode cX1_thingAskedBy 57 = .ok (.aload_n 0, 1) := by decide +kernel
theorem dX1_thingAskedBy_58 : decode cX1_thingAskedBy 58 = .ok (.aload_n 1, 1) := by decide +kernel
theorem dX1_thingAskedBy_59 : decode cX1_thingAskedBy 59 = .ok (.iload 6, 2) := by decide +kernel
theorem dX1_thingAskedBy_61 : decode cX1_thingAskedBy 61 = .ok (.iload 4, 2) := by decide +kernel
theorem dX1_thingAskedBy_63 : decode cX1_thingAskedBy 63 = .ok (.aload_n 0, 1) := by decide +kernel
theorem dX1_thingAskedBy_64 : decode cX1_thingAskedBy 64 = .ok (.aload_n 1, 1) := by decide +kernel
theorem dX1_thingAskedBy_65 : decode cX1_thingAskedBy 65 = .ok (.iload 5, 2) := by decide +kernel
theorem dX1_thingAskedBy_67 : decode cX1_thingAskedBy 67 = .ok (.invokevirtual 69, 3) := by decide +kernel
theorem dX1_thingAskedBy_70 : decode cX1_thingAskedBy 70 = .ok (.invokevirtual 80, 3) := by decide +kernel
theorem dX1_thingAskedBy_73 : decode cX1_thingAskedBy 73 = .ok (.goto 5, 3) := by decide +kernel
theorem dX1_thingAskedBy_76 : decode cX1_thingAskedBy 76 = .ok (.bipush (-9), 2) := by decide +kernel
theorem dX1_thingAskedBy_78 : decode cX1_thingAskedBy 78 = .ok (.istore 8, 2) := by decide +kernel
theorem dX1_thingAskedBy_80 : decode cX1_thingAskedBy 80 = .ok (.iload 6, 2) := by decide +kernel
theorem dX1_thingAskedBy_82 : decode cX1_thingAskedBy 82 = .ok (.iload_n 3, 1) := by decide +kernel
theorem dX1_thingAskedBy_83 : decode cX1_thingAskedBy 83 = .ok (.if_icmp .ne 6, 3) := by decide +kernel
theorem dX1_thingAskedBy_86 : decode cX1_thingAskedBy 86 = .ok (.iload 8, 2) := by decide +kernel
theorem dX1_thingAskedBy_88 : decode cX1_thingAskedBy 88 = .ok (.ireturn, 1) := by decide +kernel
theorem dX1_thingAskedBy_89 : decode cX1_thingAskedBy 89 = .ok (.iload 8, 2) := by decide +kernel
theorem dX1_thingAskedBy_91 : decode cX1_thingAskedBy 91 = .ok (.bipush (-9), 2) := by decide +kernel
theorem dX1_thingAskedBy_93 : decode cX1_thingAskedBy 93 = .ok (.if_icmp .eq 14, 3) := by decide +kernel
theorem dX1_thingAskedBy_96 : decode cX1_thingAskedBy 96 = .ok (.iload 4, 2) := by decide +kernel
theorem dX1_thingAskedBy_98 : decode cX1_thingAskedBy 98 = .ok (.iconst 1, 1) := by decide +kernel
theorem dX1_thingAskedBy_99 : decode cX1_thingAskedBy 99 = .ok (.iload 8, 2) := by decide +kernel
theorem dX1_thingAskedBy_101 : decode cX1_thingAskedBy 101 = .ok (.ishl, 1) := by decide +kernel
theorem dX1_thingAskedBy_102 : decode cX1_thingAskedBy 102 = .ok (.iconst (-1), 1) := by decide +kernel
theorem dX1_thingAskedBy_103 : decode cX1_thingAskedBy 103 = .ok (.ixor, 1) := by decide +kernel
theorem dX1_thingAskedBy_104 : decode cX1_thingAskedBy 104 = .ok (.iand, 1) := by decide +kernel
theorem dX1_thingAskedBy_105 : decode cX1_thingAskedBy 105 = .ok (.istore 4, 2) := by decide +kernel
theorem dX1_thingAskedBy_107 : decode cX1_thingAskedBy 107 = .ok (.iinc 6 1, 3) := by decide +kernel
theorem dX1_thingAskedBy_110 : decode cX1_thingAskedBy 110 = .ok (.goto (-92), 3) := by decide +kernel
theorem dX1_thingAskedBy_113 : decode cX1_thingAskedBy 113 = .ok (.bipush (-9), 2) := by decide +kernel
theorem dX1_thingAskedBy_115 : decode cX1_thingAskedBy 115 = .ok (.ireturn, 1) := by decide +kernel
abbrev rm_X1_bestOf : Room := { frames := 1, cells := 0, slots := 0, locals := 20 }
set_option maxRecDepth 20000 in
theorem k_X1_bestOf_J6_bitCount_0f7a4_61 : GoodIn wsX1_bestOf (va_wsS RX1 61 yJ6_bitCount_0f7a4 wsJ6_bitCount_0f7a4) := goodIn_r _ [3, 4, 5, 6, 7, 8, 9] rfl (by decide +kernel)
set_option maxHeartbeats 4000000 in
set_option maxRecDepth 100000 in
theorem c_X1_bestOf (l : Launch) (D : va_G) (cI cZ cO : ClassId) (N : Nat) (a0 : Nat → Nat) (u0 : TU) (a1 : Nat → Nat) (u1 : TU) (p2 : Int32) (out : Int32) (h : f_X1_bestOf N u0 u1 p2 = some out) : Met l yX1_bestOf wsX1_bestOf rm_X1_bestOf (va_Pc [.ref (a0 0), .ref (a1 0), .int p2] (fun U => va_P D vwCl (wX1 cI a0 u0 ++ wX5 cI a1 u1) U.heap ∧ va_K D vwCl (tyA cI cZ cO) U)) (vp_Si (fun r => r = out)) 0 0 (fun _ => False) := by
  refine pm_i (own := RX1) (cc := cX1_bestOf) (maxL := 6) (by decide) rfl rfl (Nat.le_of_ble_eq_true rfl) ?_
  intro p e s m args below meth c Q H ls hx hb hml hown hts hP hK hl hret
  have hl : lv_has ls 6 [(0, .ref (a0 0)), (1, .ref (a1 0)), (2, .int p2)] := hl
  have hiX1 : ∀ w ∈ u_ws RX1 TX1 1, w ∈ wsX1_bestOf := mk_seg 24 1 rfl
  have hiX5 : ∀ w ∈ u_ws RX5 TX5 14, w ∈ wsX1_bestOf := mk_seg 10 14 rfl
  have K5 : ∀ (x2 : Int32) (x3 : Int32) (x4 : Int32) (ls : Array Slot), lv_has ls 6 [(0, .ref (a0 0)), (1, .ref (a1 0)), (2, .int x2), (3, .int x3), (4, .int x4)] → lq2 (g_X1_bestOf_5 N u0 u1 x2) N x3 x4 = some out → W p l e rm_X1_bestOf s m args below meth c H [] 0 0 Q (F0 m 5 ls []) := by
    intro x2 x3 x4 ls hl h
    refine lq2_W (Wd := fun x3 x4 => ∀ (ls : Array Slot), lv_has ls 6 [(0, .ref (a0 0)), (1, .ref (a1 0)), (2, .int x2), (3, .int x3), (4, .int x4)] → W p l e rm_X1_bestOf s m args below meth c H [] 0 0 Q (F0 m 5 ls [])) (fun rec5 ih5 x3 x4 h ls hl => ?_) N x3 x4 h ls hl
    have K65 : ∀ (x3 : Int32) (x4 : Int32) (t0 : Int32) (ls : Array Slot), lv_has ls 6 [(0, .ref (a0 0)), (1, .ref (a1 0)), (2, .int x2), (3, .int x3), (4, .int x4)] → g_X1_bestOf_65 N u0 u1 rec5 x2 x3 x4 t0 = some out → W p l e rm_X1_bestOf s m args below meth c H [] 0 0 Q (F0 m 65 ls [.int t0]) := by
      intro x3 x4 t0 ls hl h
      unfold g_X1_bestOf_65 at h
      refine lv_istore (lv' := [(5, .int t0), (0, .ref (a0 0)), (1, .ref (a1 0)), (2, .int x2), (3, .int x3), (4, .int x4)]) hx hb dX1_bestOf_65 hl (by decide) rfl (fun ls hl => ?_)
      refine lv_iload_n hx hb dX1_bestOf_67 rfl (lv_at hl 3 rfl) ?_
      refine lv_iload hx hb dX1_bestOf_68 (lv_at hl 5 rfl) ?_
      refine lv_ishr hx hb dX1_bestOf_70 ?_
      refine lv_iconst (v := (1 : Int32)) hx hb dX1_bestOf_71 (by decide) ?_
      refine lv_iand hx hb dX1_bestOf_72 ?_
      refine lv_if_eq (tgt := 84) hx hb dX1_bestOf_73 (by decide) (fun q_1 => ?_) (fun q_1 => ?_)
      · have h := mk_ifp q_1 h
        refine lv_iinc (v := (x4 + (1 : Int32))) (lv' := [(4, .int (x4 + (1 : Int32))), (5, .int t0), (0, .ref (a0 0)), (1, .ref (a1 0)), (2, .int x2), (3, .int x3)]) hx hb dX1_bestOf_84 hl (k := 5) rfl rfl (by decide) rfl (fun ls hl => ?_)
        refine lv_goto (tgt := 5) hx hb dX1_bestOf_87 (by decide) ?_
        exact ih5 x3 (x4 + (1 : Int32)) h ls (lv_sub hl [2, 3, 4, 5, 0] rfl)
      · have h := mk_ifn q_1 h
        refine lv_iload hx hb dX1_bestOf_76 (lv_at hl 0 rfl) ?_
        refine lv_if_eq (tgt := 84) hx hb dX1_bestOf_78 (by decide) (fun q_2 => ?_) (fun q_2 => ?_)
        · have h := mk_ifp q_2 h
          refine lv_iinc (v := (x4 + (1 : Int32))) (lv' := [(4, .int (x4 + (1 : Int32))), (5, .int t0), (0, .ref (a0 0)), (1, .ref (a1 0)), (2, .int x2), (3, .int x3)]) hx hb dX1_bestOf_84 hl (k := 5) rfl rfl (by decide) rfl (fun ls hl => ?_)
          refine lv_goto (tgt := 5) hx hb dX1_bestOf_87 (by decide) ?_
          exact ih5 x3 (x4 + (1 : Int32)) h ls (lv_sub hl [2, 3, 4, 5, 0] rfl)
        · have h := mk_ifn q_2 h
          refine lv_iload hx hb dX1_bestOf_81 (lv_at hl 5 rfl) ?_
          refine lv_istore_n (lv' := [(3, .int x4), (5, .int t0), (0, .ref (a0 0)), (1, .ref (a1 0)), (2, .int x2), (4, .int x4)]) hx hb dX1_bestOf_83 rfl hl (by decide) rfl (fun ls hl => ?_)
          refine lv_iinc (v := (x4 + (1 : Int32))) (lv' := [(4, .int (x4 + (1 : Int32))), (3, .int x4), (5, .int t0), (0, .ref (a0 0)), (1, .ref (a1 0)), (2, .int x2)]) hx hb dX1_bestOf_84 hl (k := 5) rfl rfl (by decide) rfl (fun ls hl => ?_)
          refine lv_goto (tgt := 5) hx hb dX1_bestOf_87 (by decide) ?_
          exact ih5 x4 (x4 + (1 : Int32)) h ls (lv_sub hl [3, 4, 5, 1, 0] rfl)
    unfold g_X1_bestOf_5 at h
    refine lv_iload hx hb dX1_bestOf_5 (lv_at hl 4 rfl) ?_
    refine lv_iconst (v := (1 : Int32)) hx hb dX1_bestOf_7 (by decide) ?_
    refine lv_aload_n hx hb dX1_bestOf_8 rfl (lv_at hl 1 rfl) ?_
    refine va_get (D := D) (ci := 5) (v := .int (u1 0 0)) (C := RX5) (T := TX5) (N := 14) hx hb hts hiX5 hown hK hP 2 rfl rfl 4 (by decide) (hts (.fieldLink RX1 24 "ClockOnce$Town" "things" "I") (List.mem_of_getElem? (i := 1) rfl)) (fun _ h9 => h9) rfl dX1_bestOf_9 ?_
    refine lv_ishl hx hb dX1_bestOf_12 ?_
    refine lv_icmp_ge (tgt := 90) hx hb dX1_bestOf_13 (by decide) (fun q_3 => ?_) (fun q_3 => ?_)
    · have h := mk_ifp q_3 h
      refine lv_iload_n hx hb dX1_bestOf_90 rfl (lv_at hl 3 rfl) ?_
      exact hret _ _ _ h dX1_bestOf_91
    · have h := mk_ifn q_3 h
      refine lv_aload_n hx hb dX1_bestOf_16 rfl (lv_at hl 0 rfl) ?_
      refine va_get (D := D) (ci := 1) (v := .ref (a0 1)) (C := RX1) (T := TX1) (N := 1) hx hb hts hiX1 hown hK hP 0 rfl rfl 0 (by decide) (hts (.fieldLink RX1 9 "ClockOnce$Asking" "worths" "[I") (List.mem_of_getElem? (i := 2) rfl)) (fun _ h9 => h9) rfl dX1_bestOf_17 ?_
      refine lv_iload hx hb dX1_bestOf_20 (lv_at hl 4 rfl) ?_
      obtain ⟨v_4, ev_4, hiv_4, h⟩ := mk_rdE h
      refine va_iald hx hb hK hP 1 0 rfl rfl hiv_4 dX1_bestOf_22 ?_
      refine mk_topi ev_4 ?_
      refine lv_aload_n hx hb dX1_bestOf_23 rfl (lv_at hl 0 rfl) ?_
      refine va_get (D := D) (ci := 1) (v := .ref (a0 1)) (C := RX1) (T := TX1) (N := 1) hx hb hts hiX1 hown hK hP 0 rfl rfl 0 (by decide) (hts (.fieldLink RX1 9 "ClockOnce$Asking" "worths" "[I") (List.mem_of_getElem? (i := 2) rfl)) (fun _ h9 => h9) rfl dX1_bestOf_24 ?_
      refine lv_iload_n hx hb dX1_bestOf_27 rfl (lv_at hl 3 rfl) ?_
      obtain ⟨v_5, ev_5, hiv_5, h⟩ := mk_rdE h
      refine va_iald hx hb hK hP 1 0 rfl rfl hiv_5 dX1_bestOf_28 ?_
      refine mk_topi ev_5 ?_
      refine lv_icmp_gt (tgt := 60) hx hb dX1_bestOf_29 (by decide) (fun q_6 => ?_) (fun q_6 => ?_)
      · have h := mk_ifp q_6 h
        refine lv_iconst (v := (1 : Int32)) hx hb dX1_bestOf_60 (by decide) ?_
        refine lv_goto (tgt := 65) hx hb dX1_bestOf_61 (by decide) ?_
        exact K65 x3 x4 (1 : Int32) ls (lv_sub hl [0, 1, 2, 3, 4] rfl) h
      · have h := mk_ifn q_6 h
        refine lv_aload_n hx hb dX1_bestOf_32 rfl (lv_at hl 0 rfl) ?_
        refine va_get (D := D) (ci := 1) (v := .ref (a0 1)) (C := RX1) (T := TX1) (N := 1) hx hb hts hiX1 hown hK hP 0 rfl rfl 0 (by decide) (hts (.fieldLink RX1 9 "ClockOnce$Asking" "worths" "[I") (List.mem_of_getElem? (i := 2) rfl)) (fun _ h9 => h9) rfl dX1_bestOf_33 ?_
        refine lv_iload hx hb dX1_bestOf_36 (lv_at hl 4 rfl) ?_
        obtain ⟨v_7, ev_7, hiv_7, h⟩ := mk_rdE h
        refine va_iald hx hb hK hP 1 0 rfl rfl hiv_7 dX1_bestOf_38 ?_
        refine mk_topi ev_7 ?_
        refine lv_aload_n hx hb dX1_bestOf_39 rfl (lv_at hl 0 rfl) ?_
        refine va_get (D := D) (ci := 1) (v := .ref (a0 1)) (C := RX1) (T := TX1) (N := 1) hx hb hts hiX1 hown hK hP 0 rfl rfl 0 (by decide) (hts (.fieldLink RX1 9 "ClockOnce$Asking" "worths" "[I") (List.mem_of_getElem? (i := 2) rfl)) (fun _ h9 => h9) rfl dX1_bestOf_40 ?_
        refine lv_iload_n hx hb dX1_bestOf_43 rfl (lv_at hl 3 rfl) ?_
        obtain ⟨v_8, ev_8, hiv_8, h⟩ := mk_rdE h
        refine va_iald hx hb hK hP 1 0 rfl rfl hiv_8 dX1_bestOf_44 ?_
        refine mk_topi ev_8 ?_
        refine lv_icmp_ne (tgt := 64) hx hb dX1_bestOf_45 (by decide) (fun q_9 => ?_) (fun q_9 => ?_)
        · have h := mk_ifn q_9 h
          refine lv_iconst (v := (0 : Int32)) hx hb dX1_bestOf_64 (by decide) ?_
          exact K65 x3 x4 (0 : Int32) ls (lv_sub hl [0, 1, 2, 3, 4] rfl) h
        · have h := mk_ifp q_9 h
          refine lv_iload hx hb dX1_bestOf_48 (lv_at hl 4 rfl) ?_
          obtain ⟨r_10, er_10, h⟩ := mk_bd h
          refine pc_s (As := [.int x4]) (rest := []) ⟨hx, hb, hml, hown, hts⟩ (c_J6_bitCount_0f7a4 l D cI cZ cO N x4 r_10 er_10) (va_cwS 1 hts k_X1_bestOf_J6_bitCount_0f7a4_61 rfl rfl rfl (by decide +kernel) ⟨(Nat.le_of_ble_eq_true rfl), (Nat.le_of_ble_eq_true rfl)⟩) (hP.sub (ws' := []) [] rfl) hK rfl hl.1 rfl (Nat.le_of_ble_eq_true rfl) dX1_bestOf_50 ⟨Nat.zero_le _, Nat.zero_le _⟩ ?_
          refine lv_iload_n hx hb dX1_bestOf_53 rfl (lv_at hl 3 rfl) ?_
          obtain ⟨r_11, er_11, h⟩ := mk_bd h
          refine pc_s (As := [.int x3]) (rest := [.int r_10]) ⟨hx, hb, hml, hown, hts⟩ (c_J6_bitCount_0f7a4 l D cI cZ cO N x3 r_11 er_11) (va_cwS 1 hts k_X1_bestOf_J6_bitCount_0f7a4_61 rfl rfl rfl (by decide +kernel) ⟨(Nat.le_of_ble_eq_true rfl), (Nat.le_of_ble_eq_true rfl)⟩) (hP.sub (ws' := []) [] rfl) hK rfl hl.1 rfl (Nat.le_of_ble_eq_true rfl) dX1_bestOf_54 ⟨Nat.zero_le _, Nat.zero_le _⟩ ?_
          refine lv_icmp_ge (tgt := 64) hx hb dX1_bestOf_57 (by decide) (fun q_12 => ?_) (fun q_12 => ?_)
          · have h := mk_ifp q_12 h
            refine lv_iconst (v := (0 : Int32)) hx hb dX1_bestOf_64 (by decide) ?_
            exact K65 x3 x4 (0 : Int32) ls (lv_sub hl [0, 1, 2, 3, 4] rfl) h
          · have h := mk_ifn q_12 h
            refine lv_iconst (v := (1 : Int32)) hx hb dX1_bestOf_60 (by decide) ?_
            refine lv_goto (tgt := 65) hx hb dX1_bestOf_61 (by decide) ?_
            exact K65 x3 x4 (1 : Int32) ls (lv_sub hl [0, 1, 2, 3, 4] rfl) h
  unfold f_X1_bestOf at h
  refine lv_iconst (v := (0 : Int32)) hx hb dX1_bestOf_0 (by decide) ?_
  refine lv_istore_n (lv' := [(3, .int (0 : Int32)), (0, .ref (a0 0)), (1, .ref (a1 0)), (2, .int p2)]) hx hb dX1_bestOf_1 rfl hl (by decide) rfl (fun ls hl => ?_)
  refine lv_iconst (v := (1 : Int32)) hx hb dX1_bestOf_2 (by decide) ?_
  refine lv_istore (lv' := [(4, .int (1 : Int32)), (3, .int (0 : Int32)), (0, .ref (a0 0)), (1, .ref (a1 0)), (2, .int p2)]) hx hb dX1_bestOf_3 hl (by decide) rfl (fun ls hl => ?_)
  exact K5 p2 (0 : Int32) (1 : Int32) ls (lv_sub hl [2, 3, 4, 1, 0] rfl) h

abbrev rm_X1_setsWithOneMore : Room := { frames := 0, cells := 0, slots := 0, locals := 0 }
set_option maxHeartbeats 4000000 in
set_option maxRecDepth 100000 in
theorem c_X1_setsWithOneMore (l : Launch) (D : va_G) (cI cZ cO : ClassId) (N : Nat) (a0 : Nat → Nat) (u0 : TU) (a1 : Nat → Nat) (u1 : TU) (p2 : Int32) (p3 : Int32) (out : Int32) (h : f_X1_setsWithOneMore N u0 u1 p2 p3 = some out) : Met l yX1_setsWithOneMore wsX1_setsWithOneMore rm_X1_setsWithOneMore (va_Pc [.ref (a0 0), .ref (a1 0), .int p2, .int p3] (fun U => va_P D vwCl (wX1 cI a0 u0 ++ wX5 cI a1 u1) U.heap ∧ va_K D vwCl (tyA cI cZ cO) U)) (vp_Si (fun r => r = out)) 0 0 (fun _ => False) := by
  refine pm_i (own := RX1) (cc := cX1_setsWithOneMore) (maxL := 8) (by decide) rfl rfl (Nat.le_of_ble_eq_true rfl) ?_
  intro p e s m args below meth c Q H ls hx hb hml hown hts hP hK hl hret
  have hl : lv_has ls 8 [(0, .ref (a0 0)), (1, .ref (a1 0)), (2, .int p2), (3, .int p3)] := hl
  have hiX5 : ∀ w ∈ u_ws RX5 TX5 14, w ∈ wsX1_setsWithOneMore := mk_seg 4 14 rfl
  have K6 : ∀ (x2 : Int32) (x3 : Int32) (x4 : Int32) (x5 : Int32) (ls : Array Slot), lv_has ls 8 [(1, .ref (a1 0)), (2, .int x2), (3, .int x3), (4, .int x4), (5, .int x5)] → lq2 (g_X1_setsWithOneMore_6 N u0 u1 x2 x3) N x4 x5 = some out → W p l e rm_X1_setsWithOneMore s m args below meth c H [] 0 0 Q (F0 m 6 ls []) := by
    intro x2 x3 x4 x5 ls hl h
    refine lq2_W (Wd := fun x4 x5 => ∀ (ls : Array Slot), lv_has ls 8 [(1, .ref (a1 0)), (2, .int x2), (3, .int x3), (4, .int x4), (5, .int x5)] → W p l e rm_X1_setsWithOneMore s m args below meth c H [] 0 0 Q (F0 m 6 ls [])) (fun rec6 ih6 x4 x5 h ls hl => ?_) N x4 x5 h ls hl
    have K41 : ∀ (x4 : Int32) (x5 : Int32) (x6 : Int32) (x7 : Int32) (ls : Array Slot), lv_has ls 8 [(1, .ref (a1 0)), (2, .int x2), (3, .int x3), (4, .int x4), (5, .int x5), (6, .int x6), (7, .int x7)] → lq2 (g_X1_setsWithOneMore_41 N u0 u1 rec6 x2 x3 x5 x6) N x4 x7 = some out → W p l e rm_X1_setsWithOneMore s m args below meth c H [] 0 0 Q (F0 m 41 ls []) := by
      intro x4 x5 x6 x7 ls hl h
      refine lq2_W (Wd := fun x4 x7 => ∀ (ls : Array Slot), lv_has ls 8 [(1, .ref (a1 0)), (2, .int x2), (3, .int x3), (4, .int x4), (5, .int x5), (6, .int x6), (7, .int x7)] → W p l e rm_X1_setsWithOneMore s m args below meth c H [] 0 0 Q (F0 m 41 ls [])) (fun rec41 ih41 x4 x7 h ls hl => ?_) N x4 x7 h ls hl
      unfold g_X1_setsWithOneMore_41 at h
      refine lv_iload hx hb dX1_setsWithOneMore_41 (lv_at hl 5 rfl) ?_
      refine lv_if_eq (tgt := 77) hx hb dX1_setsWithOneMore_43 (by decide) (fun q_1 => ?_) (fun q_1 => ?_)
      · have h := mk_ifp q_1 h
        refine lv_iinc (v := (x5 + (1 : Int32))) (lv' := [(5, .int (x5 + (1 : Int32))), (1, .ref (a1 0)), (2, .int x2), (3, .int x3), (4, .int x4), (6, .int x6), (7, .int x7)]) hx hb dX1_setsWithOneMore_77 hl (k := 4) rfl rfl (by decide) rfl (fun ls hl => ?_)
        refine lv_goto (tgt := 6) hx hb dX1_setsWithOneMore_80 (by decide) ?_
        exact ih6 x4 (x5 + (1 : Int32)) h ls (lv_sub hl [1, 2, 3, 4, 0] rfl)
      · have h := mk_ifn q_1 h
        refine lv_iload hx hb dX1_setsWithOneMore_46 (lv_at hl 6 rfl) ?_
        refine lv_aload_n hx hb dX1_setsWithOneMore_48 rfl (lv_at hl 0 rfl) ?_
        refine va_get (D := D) (ci := 5) (v := .ref (a1 6)) (C := RX5) (T := TX5) (N := 14) hx hb hts hiX5 hown hK hP 2 rfl rfl 7 (by decide) (hts (.fieldLink RX1 58 "ClockOnce$Town" "last" "[I") (List.mem_of_getElem? (i := 3) rfl)) (fun _ h9 => h9) rfl dX1_setsWithOneMore_49 ?_
        refine lv_iload_n hx hb dX1_setsWithOneMore_52 rfl (lv_at hl 2 rfl) ?_
        obtain ⟨v_2, ev_2, hiv_2, h⟩ := mk_rdE h
        refine va_iald hx hb hK hP 8 0 rfl rfl hiv_2 dX1_setsWithOneMore_53 ?_
        refine mk_topi ev_2 ?_
        refine lv_icmp_gt (tgt := 77) hx hb dX1_setsWithOneMore_54 (by decide) (fun q_3 => ?_) (fun q_3 => ?_)
        · have h := mk_ifp q_3 h
          refine lv_iinc (v := (x5 + (1 : Int32))) (lv' := [(5, .int (x5 + (1 : Int32))), (1, .ref (a1 0)), (2, .int x2), (3, .int x3), (4, .int x4), (6, .int x6), (7, .int x7)]) hx hb dX1_setsWithOneMore_77 hl (k := 4) rfl rfl (by decide) rfl (fun ls hl => ?_)
          refine lv_goto (tgt := 6) hx hb dX1_setsWithOneMore_80 (by decide) ?_
          exact ih6 x4 (x5 + (1 : Int32)) h ls (lv_sub hl [1, 2, 3, 4, 0] rfl)
        · have h := mk_ifn q_3 h
          refine lv_iload hx hb dX1_setsWithOneMore_57 (lv_at hl 3 rfl) ?_
          refine lv_iconst (v := (1 : Int32)) hx hb dX1_setsWithOneMore_59 (by decide) ?_
          refine lv_iload hx hb dX1_setsWithOneMore_60 (lv_at hl 4 rfl) ?_
          refine lv_iconst (v := (1 : Int32)) hx hb dX1_setsWithOneMore_62 (by decide) ?_
          refine lv_iload hx hb dX1_setsWithOneMore_63 (lv_at hl 6 rfl) ?_
          refine lv_ishl hx hb dX1_setsWithOneMore_65 ?_
          refine lv_ior hx hb dX1_setsWithOneMore_66 ?_
          refine lv_ishl hx hb dX1_setsWithOneMore_67 ?_
          refine lv_ior hx hb dX1_setsWithOneMore_68 ?_
          obtain ⟨y_4, ey_4, h⟩ := mk_nmE h
          refine mk_topi ey_4 ?_
          refine lv_istore (lv' := [(4, .int y_4), (1, .ref (a1 0)), (2, .int x2), (3, .int x3), (5, .int x5), (6, .int x6), (7, .int x7)]) hx hb dX1_setsWithOneMore_69 hl (by decide) rfl (fun ls hl => ?_)
          refine lv_iinc (v := (x7 + (1 : Int32))) (lv' := [(7, .int (x7 + (1 : Int32))), (4, .int y_4), (1, .ref (a1 0)), (2, .int x2), (3, .int x3), (5, .int x5), (6, .int x6)]) hx hb dX1_setsWithOneMore_71 hl (k := 6) rfl rfl (by decide) rfl (fun ls hl => ?_)
          refine lv_goto (tgt := 41) hx hb dX1_setsWithOneMore_74 (by decide) ?_
          exact ih41 y_4 (x7 + (1 : Int32)) h ls (lv_sub hl [2, 3, 4, 1, 5, 6, 0] rfl)
    have K31 : ∀ (x4 : Int32) (x5 : Int32) (t0 : Int32) (ls : Array Slot), lv_has ls 8 [(1, .ref (a1 0)), (2, .int x2), (3, .int x3), (4, .int x4), (5, .int x5)] → g_X1_setsWithOneMore_31 N u0 u1 rec6 x2 x3 x4 x5 t0 = some out → W p l e rm_X1_setsWithOneMore s m args below meth c H [] 0 0 Q (F0 m 31 ls [.int t0]) := by
      intro x4 x5 t0 ls hl h
      unfold g_X1_setsWithOneMore_31 at h
      refine lv_istore (lv' := [(6, .int t0), (1, .ref (a1 0)), (2, .int x2), (3, .int x3), (4, .int x4), (5, .int x5)]) hx hb dX1_setsWithOneMore_31 hl (by decide) rfl (fun ls hl => ?_)
      refine lv_aload_n hx hb dX1_setsWithOneMore_33 rfl (lv_at hl 1 rfl) ?_
      refine va_get (D := D) (ci := 5) (v := .ref (a1 5)) (C := RX5) (T := TX5) (N := 14) hx hb hts hiX5 hown hK hP 2 rfl rfl 6 (by decide) (hts (.fieldLink RX1 55 "ClockOnce$Town" "first" "[I") (List.mem_of_getElem? (i := 2) rfl)) (fun _ h9 => h9) rfl dX1_setsWithOneMore_34 ?_
      refine lv_iload_n hx hb dX1_setsWithOneMore_37 rfl (lv_at hl 3 rfl) ?_
      obtain ⟨v_5, ev_5, hiv_5, h⟩ := mk_rdE h
      refine va_iald hx hb hK hP 7 0 rfl rfl hiv_5 dX1_setsWithOneMore_38 ?_
      refine mk_topi ev_5 ?_
      refine lv_istore (lv' := [(7, .int v_5), (6, .int t0), (1, .ref (a1 0)), (2, .int x2), (3, .int x3), (4, .int x4), (5, .int x5)]) hx hb dX1_setsWithOneMore_39 hl (by decide) rfl (fun ls hl => ?_)
      exact K41 x4 x5 t0 v_5 ls (lv_sub hl [2, 3, 4, 5, 6, 1, 0] rfl) h
    unfold g_X1_setsWithOneMore_6 at h
    refine lv_iload hx hb dX1_setsWithOneMore_6 (lv_at hl 4 rfl) ?_
    refine lv_iconst (v := (1 : Int32)) hx hb dX1_setsWithOneMore_8 (by decide) ?_
    refine lv_aload_n hx hb dX1_setsWithOneMore_9 rfl (lv_at hl 0 rfl) ?_
    refine va_get (D := D) (ci := 5) (v := .int (u1 0 0)) (C := RX5) (T := TX5) (N := 14) hx hb hts hiX5 hown hK hP 2 rfl rfl 4 (by decide) (hts (.fieldLink RX1 24 "ClockOnce$Town" "things" "I") (List.mem_of_getElem? (i := 1) rfl)) (fun _ h9 => h9) rfl dX1_setsWithOneMore_10 ?_
    refine lv_ishl hx hb dX1_setsWithOneMore_13 ?_
    refine lv_icmp_ge (tgt := 83) hx hb dX1_setsWithOneMore_14 (by decide) (fun q_6 => ?_) (fun q_6 => ?_)
    · have h := mk_ifp q_6 h
      refine lv_iload hx hb dX1_setsWithOneMore_83 (lv_at hl 3 rfl) ?_
      exact hret _ _ _ h dX1_setsWithOneMore_85
    · have h := mk_ifn q_6 h
      refine lv_iload_n hx hb dX1_setsWithOneMore_17 rfl (lv_at hl 1 rfl) ?_
      refine lv_iload hx hb dX1_setsWithOneMore_18 (lv_at hl 4 rfl) ?_
      refine lv_ishr hx hb dX1_setsWithOneMore_20 ?_
      refine lv_iconst (v := (1 : Int32)) hx hb dX1_setsWithOneMore_21 (by decide) ?_
      refine lv_iand hx hb dX1_setsWithOneMore_22 ?_
      refine lv_if_eq (tgt := 30) hx hb dX1_setsWithOneMore_23 (by decide) (fun q_7 => ?_) (fun q_7 => ?_)
      · have h := mk_ifp q_7 h
        refine lv_iconst (v := (0 : Int32)) hx hb dX1_setsWithOneMore_30 (by decide) ?_
        exact K31 x4 x5 (0 : Int32) ls (lv_sub hl [0, 1, 2, 3, 4] rfl) h
      · have h := mk_ifn q_7 h
        refine lv_iconst (v := (1 : Int32)) hx hb dX1_setsWithOneMore_26 (by decide) ?_
        refine lv_goto (tgt := 31) hx hb dX1_setsWithOneMore_27 (by decide) ?_
        exact K31 x4 x5 (1 : Int32) ls (lv_sub hl [0, 1, 2, 3, 4] rfl) h
  unfold f_X1_setsWithOneMore at h
  refine lv_iload_n hx hb dX1_setsWithOneMore_0 rfl (lv_at hl 2 rfl) ?_
  refine lv_istore (lv' := [(4, .int p2), (0, .ref (a0 0)), (1, .ref (a1 0)), (2, .int p2), (3, .int p3)]) hx hb dX1_setsWithOneMore_1 hl (by decide) rfl (fun ls hl => ?_)
  refine lv_iconst (v := (0 : Int32)) hx hb dX1_setsWithOneMore_3 (by decide) ?_
  refine lv_istore (lv' := [(5, .int (0 : Int32)), (4, .int p2), (0, .ref (a0 0)), (1, .ref (a1 0)), (2, .int p2), (3, .int p3)]) hx hb dX1_setsWithOneMore_4 hl (by decide) rfl (fun ls hl => ?_)
  exact K6 p2 p3 p2 (0 : Int32) ls (lv_sub hl [3, 4, 5, 1, 0] rfl) h

abbrev rm_X1_setsFor : Room := { frames := 1, cells := 0, slots := 0, locals := 27 }
set_option maxRecDepth 20000 in
theorem k_X1_setsFor_X1_setsWithOneMore_51 : GoodIn wsX1_setsFor (wsV RX1 51 RX1 yX1_setsWithOneMore wsX1_setsWithOneMore) := goodIn_r _ [2, 3, 4, 5, 6, 7, 8, 9, 10, 11, 12, 13, 14, 15, 16, 17, 18, 19, 20, 21, 22, 23] rfl (by decide +kernel)
set_option maxHeartbeats 4000000 in
set_option maxRecDepth 100000 in
theorem c_X1_setsFor (l : Launch) (D : va_G) (cI cZ cO : ClassId) (N : Nat) (a0 : Nat → Nat) (u0 : TU) (a1 : Nat → Nat) (u1 : TU) (p2 : Int32) (out : Int32) (h : f_X1_setsFor N u0 u1 p2 = some out) : Met l yX1_setsFor wsX1_setsFor rm_X1_setsFor (va_Pc [.ref (a0 0), .ref (a1 0), .int p2] (fun U => va_P D vwCl (wX1 cI a0 u0 ++ wX5 cI a1 u1) U.heap ∧ va_K D vwCl (tyA cI cZ cO) U)) (vp_Si (fun r => r = out)) 0 0 (fun _ => False) := by
  refine pm_i (own := RX1) (cc := cX1_setsFor) (maxL := 5) (by decide) rfl rfl (Nat.le_of_ble_eq_true rfl) ?_
  intro p e s m args below meth c Q H ls hx hb hml hown hts hP hK hl hret
  have hl : lv_has ls 5 [(0, .ref (a0 0)), (1, .ref (a1 0)), (2, .int p2)] := hl
  have hiX5 : ∀ w ∈ u_ws RX5 TX5 14, w ∈ wsX1_setsFor := mk_seg 10 14 rfl
  have K5 : ∀ (x2 : Int32) (x3 : Int32) (x4 : Int32) (ls : Array Slot), lv_has ls 5 [(0, .ref (a0 0)), (1, .ref (a1 0)), (2, .int x2), (3, .int x3), (4, .int x4)] → lq2 (g_X1_setsFor_5 N u0 u1 x2) N x3 x4 = some out → W p l e rm_X1_setsFor s m args below meth c H [] 0 0 Q (F0 m 5 ls []) := by
    intro x2 x3 x4 ls hl h
    refine lq2_W (Wd := fun x3 x4 => ∀ (ls : Array Slot), lv_has ls 5 [(0, .ref (a0 0)), (1, .ref (a1 0)), (2, .int x2), (3, .int x3), (4, .int x4)] → W p l e rm_X1_setsFor s m args below meth c H [] 0 0 Q (F0 m 5 ls [])) (fun rec5 ih5 x3 x4 h ls hl => ?_) N x3 x4 h ls hl
    unfold g_X1_setsFor_5 at h
    refine lv_iload hx hb dX1_setsFor_5 (lv_at hl 4 rfl) ?_
    refine lv_aload_n hx hb dX1_setsFor_7 rfl (lv_at hl 1 rfl) ?_
    refine va_get (D := D) (ci := 5) (v := .int (u1 0 2)) (C := RX5) (T := TX5) (N := 14) hx hb hts hiX5 hown hK hP 2 rfl rfl 8 (by decide) (hts (.fieldLink RX1 48 "ClockOnce$Town" "askers" "I") (List.mem_of_getElem? (i := 1) rfl)) (fun _ h9 => h9) rfl dX1_setsFor_8 ?_
    refine lv_icmp_ge (tgt := 38) hx hb dX1_setsFor_11 (by decide) (fun q_1 => ?_) (fun q_1 => ?_)
    · have h := mk_ifp q_1 h
      refine lv_iload_n hx hb dX1_setsFor_38 rfl (lv_at hl 3 rfl) ?_
      exact hret _ _ _ h dX1_setsFor_39
    · have h := mk_ifn q_1 h
      refine lv_iload_n hx hb dX1_setsFor_14 rfl (lv_at hl 2 rfl) ?_
      refine lv_iload hx hb dX1_setsFor_15 (lv_at hl 4 rfl) ?_
      refine lv_ishr hx hb dX1_setsFor_17 ?_
      refine lv_iconst (v := (1 : Int32)) hx hb dX1_setsFor_18 (by decide) ?_
      refine lv_iand hx hb dX1_setsFor_19 ?_
      refine lv_if_eq (tgt := 32) hx hb dX1_setsFor_20 (by decide) (fun q_2 => ?_) (fun q_2 => ?_)
      · have h := mk_ifp q_2 h
        refine lv_iinc (v := (x4 + (1 : Int32))) (lv' := [(4, .int (x4 + (1 : Int32))), (0, .ref (a0 0)), (1, .ref (a1 0)), (2, .int x2), (3, .int x3)]) hx hb dX1_setsFor_32 hl (k := 4) rfl rfl (by decide) rfl (fun ls hl => ?_)
        refine lv_goto (tgt := 5) hx hb dX1_setsFor_35 (by decide) ?_
        exact ih5 x3 (x4 + (1 : Int32)) h ls (lv_sub hl [1, 2, 3, 4, 0] rfl)
      · have h := mk_ifn q_2 h
        refine lv_aload_n hx hb dX1_setsFor_23 rfl (lv_at hl 0 rfl) ?_
        refine lv_aload_n hx hb dX1_setsFor_24 rfl (lv_at hl 1 rfl) ?_
        refine lv_iload_n hx hb dX1_setsFor_25 rfl (lv_at hl 3 rfl) ?_
        refine lv_iload hx hb dX1_setsFor_26 (lv_at hl 4 rfl) ?_
        obtain ⟨r_3, er_3, h⟩ := mk_bd h
        refine pc_v (As := [.ref (a1 0), .int x3, .int x4]) (rest := []) ⟨hx, hb, hml, hown, hts⟩ (c_X1_setsWithOneMore l D cI cZ cO N a0 u0 a1 u1 x3 x4 r_3 er_3) (cwV 3 hts k_X1_setsFor_X1_setsWithOneMore_51 rfl rfl rfl (by decide +kernel) ⟨(Nat.le_of_ble_eq_true rfl), (Nat.le_of_ble_eq_true rfl)⟩) (va_recv hK hP (ci := 1) (q0 := 0) rfl rfl) hP hK rfl hl.1 rfl (Nat.le_of_ble_eq_true rfl) dX1_setsFor_28 ⟨Nat.zero_le _, Nat.zero_le _⟩ ?_
        refine lv_istore_n (lv' := [(3, .int r_3), (0, .ref (a0 0)), (1, .ref (a1 0)), (2, .int x2), (4, .int x4)]) hx hb dX1_setsFor_31 rfl hl (by decide) rfl (fun ls hl => ?_)
        refine lv_iinc (v := (x4 + (1 : Int32))) (lv' := [(4, .int (x4 + (1 : Int32))), (3, .int r_3), (0, .ref (a0 0)), (1, .ref (a1 0)), (2, .int x2)]) hx hb dX1_setsFor_32 hl (k := 4) rfl rfl (by decide) rfl (fun ls hl => ?_)
        refine lv_goto (tgt := 5) hx hb dX1_setsFor_35 (by decide) ?_
        exact ih5 r_3 (x4 + (1 : Int32)) h ls (lv_sub hl [2, 3, 4, 1, 0] rfl)
  unfold f_X1_setsFor at h
  refine lv_iconst (v := (1 : Int32)) hx hb dX1_setsFor_0 (by decide) ?_
  refine lv_istore_n (lv' := [(3, .int (1 : Int32)), (0, .ref (a0 0)), (1, .ref (a1 0)), (2, .int p2)]) hx hb dX1_setsFor_1 rfl hl (by decide) rfl (fun ls hl => ?_)
  refine lv_iconst (v := (0 : Int32)) hx hb dX1_setsFor_2 (by decide) ?_
  refine lv_istore (lv' := [(4, .int (0 : Int32)), (3, .int (1 : Int32)), (0, .ref (a0 0)), (1, .ref (a1 0)), (2, .int p2)]) hx hb dX1_setsFor_3 hl (by decide) rfl (fun ls hl => ?_)
  exact K5 p2 (1 : Int32) (0 : Int32) ls (lv_sub hl [2, 3, 4, 1, 0] rfl) h

abbrev rm_X1_bestSet : Room := { frames := 2, cells := 0, slots := 0, locals := 51 }
set_option maxRecDepth 20000 in
theorem k_X1_bestSet_X2_idleAskers_66 : GoodIn wsX1_bestSet (wsV RX1 66 RX2 yX2_idleAskers wsX2_idleAskers) := goodIn_r _ [1, 2, 3, 4, 5, 6, 7, 33, 34, 35, 36, 37, 38, 39, 40, 41, 42, 43, 44, 45, 46, 47, 48, 49, 50, 51] rfl (by decide +kernel)
set_option maxRecDepth 20000 in
theorem k_X1_bestSet_X1_setsFor_69 : GoodIn wsX1_bestSet (wsV RX1 69 RX1 yX1_setsFor wsX1_setsFor) := goodIn_r _ [8, 9, 10, 11, 12, 13, 14, 15, 16, 11, 17, 18, 19, 20, 33, 34, 35, 36, 37, 38, 39, 40, 41, 42, 43, 44, 45, 46] rfl (by decide +kernel)
set_option maxRecDepth 20000 in
theorem k_X1_bestSet_X1_bestOf_73 : GoodIn wsX1_bestSet (wsV RX1 73 RX1 yX1_bestOf wsX1_bestOf) := goodIn_r _ [21, 22, 23, 11, 24, 18, 25, 26, 27, 28, 29, 30, 31, 32, 33, 34, 35, 36, 37, 38, 39, 40, 41, 42, 43, 44, 45, 46, 52] rfl (by decide +kernel)
set_option maxHeartbeats 4000000 in
set_option maxRecDepth 100000 in
theorem c_X1_bestSet (l : Launch) (D : va_G) (cI cZ cO : ClassId) (N : Nat) (a0 : Nat → Nat) (u0 : TU) (a1 : Nat → Nat) (u1 : TU) (a2 : Nat → Nat) (u2 : TU) (out : Int32) (h : f_X1_bestSet N u0 u1 u2 = some out) : Met l yX1_bestSet wsX1_bestSet rm_X1_bestSet (va_Pc [.ref (a0 0), .ref (a1 0), .ref (a2 0)] (fun U => va_P D vwCl (wX1 cI a0 u0 ++ wX5 cI a1 u1 ++ wX2 cI a2 u2) U.heap ∧ va_K D vwCl (tyA cI cZ cO) U)) (vp_Si (fun r => r = out)) 0 0 (fun _ => False) := by
  refine pm_i (own := RX1) (cc := cX1_bestSet) (maxL := 3) (by decide) rfl rfl (Nat.le_of_ble_eq_true rfl) ?_
  intro p e s m args below meth c Q H ls hx hb hml hown hts hP hK hl hret
  have hl : lv_has ls 3 [(0, .ref (a0 0)), (1, .ref (a1 0)), (2, .ref (a2 0))] := hl
  unfold f_X1_bestSet at h
  refine lv_aload_n hx hb dX1_bestSet_0 rfl (lv_at hl 0 rfl) ?_
  refine lv_aload_n hx hb dX1_bestSet_1 rfl (lv_at hl 1 rfl) ?_
  refine lv_aload_n hx hb dX1_bestSet_2 rfl (lv_at hl 0 rfl) ?_
  refine lv_aload_n hx hb dX1_bestSet_3 rfl (lv_at hl 1 rfl) ?_
  refine lv_aload_n hx hb dX1_bestSet_4 rfl (lv_at hl 2 rfl) ?_
  refine lv_aload_n hx hb dX1_bestSet_5 rfl (lv_at hl 1 rfl) ?_
  obtain ⟨r_1, er_1, h⟩ := mk_bd h
  refine pc_v (As := [.ref (a1 0)]) (rest := [.ref (a1 0), .ref (a0 0), .ref (a1 0), .ref (a0 0)]) ⟨hx, hb, hml, hown, hts⟩ (c_X2_idleAskers l D cI cZ cO N a2 u2 a1 u1 r_1 er_1) (cwV 1 hts k_X1_bestSet_X2_idleAskers_66 rfl rfl rfl (by decide +kernel) ⟨(Nat.le_of_ble_eq_true rfl), (Nat.le_of_ble_eq_true rfl)⟩) (va_recv hK hP (ci := 2) (q0 := 12) rfl rfl) (hP.sub (ws' := wX2 cI a2 u2 ++ wX5 cI a1 u1) [12, 13, 14, 2, 3, 4, 5, 6, 7, 8, 9, 10, 11] rfl) hK rfl hl.1 rfl (Nat.le_of_ble_eq_true rfl) dX1_bestSet_6 ⟨Nat.zero_le _, Nat.zero_le _⟩ ?_
  obtain ⟨r_2, er_2, h⟩ := mk_bd h
  refine pc_v (As := [.ref (a1 0), .int r_1]) (rest := [.ref (a1 0), .ref (a0 0)]) ⟨hx, hb, hml, hown, hts⟩ (c_X1_setsFor l D cI cZ cO N a0 u0 a1 u1 r_1 r_2 er_2) (cwV 2 hts k_X1_bestSet_X1_setsFor_69 rfl rfl rfl (by decide +kernel) ⟨(Nat.le_of_ble_eq_true rfl), (Nat.le_of_ble_eq_true rfl)⟩) (va_recv hK hP (ci := 1) (q0 := 0) rfl rfl) (hP.sub (ws' := wX1 cI a0 u0 ++ wX5 cI a1 u1) [0, 1, 2, 3, 4, 5, 6, 7, 8, 9, 10, 11] rfl) hK rfl hl.1 rfl (Nat.le_of_ble_eq_true rfl) dX1_bestSet_9 ⟨Nat.zero_le _, Nat.zero_le _⟩ ?_
  obtain ⟨r_3, er_3, h⟩ := mk_bd h
  refine pc_v (As := [.ref (a1 0), .int r_2]) (rest := []) ⟨hx, hb, hml, hown, hts⟩ (c_X1_bestOf l D cI cZ cO N a0 u0 a1 u1 r_2 r_3 er_3) (cwV 2 hts k_X1_bestSet_X1_bestOf_73 rfl rfl rfl (by decide +kernel) ⟨(Nat.le_of_ble_eq_true rfl), (Nat.le_of_ble_eq_true rfl)⟩) (va_recv hK hP (ci := 1) (q0 := 0) rfl rfl) (hP.sub (ws' := wX1 cI a0 u0 ++ wX5 cI a1 u1) [0, 1, 2, 3, 4, 5, 6, 7, 8, 9, 10, 11] rfl) hK rfl hl.1 rfl (Nat.le_of_ble_eq_true rfl) dX1_bestSet_12 ⟨Nat.zero_le _, Nat.zero_le _⟩ ?_
  exact hret _ _ _ h dX1_bestSet_15

abbrev rm_X1_worthOf : Room := { frames := 4, cells := 0, slots := 0, locals := 103 }
set_option maxRecDepth 20000 in
theorem k_X1_worthOf_X5_partsKeptWisely_37 : GoodIn wsX1_worthOf (wsV RX1 37 RX5 yX5_partsKeptWisely wsX5_partsKeptWisely) := goodIn_r _ [16, 17, 18, 13, 19, 20, 21, 22, 13, 23, 15, 24, 25, 26, 27, 28, 29, 30, 31, 32, 33, 34, 35, 36, 37, 38, 39, 40, 41, 42, 43, 44, 45, 46, 47, 48, 49, 50, 51, 52, 53, 54, 55, 56, 57, 58, 59, 60, 61] rfl (by decide +kernel)
set_option maxRecDepth 20000 in
theorem k_X1_worthOf_X5_worldsLike_30 : GoodIn wsX1_worthOf (wsV RX1 30 RX5 yX5_worldsLike wsX5_worldsLike) := goodIn_r _ [10, 11, 12, 13, 14, 15, 48, 49, 50, 51, 52, 53, 54, 55, 56, 57, 58, 59, 60, 61] rfl (by decide +kernel)
set_option maxRecDepth 20000 in
theorem k_X1_worthOf_X2_soldThings_18 : GoodIn wsX1_worthOf (wsV RX1 18 RX2 yX2_soldThings wsX2_soldThings) := goodIn_r _ [3, 4, 5, 6, 7, 8, 9, 48, 49, 50, 51, 52, 53, 54, 55, 56, 57, 58, 59, 60, 61, 62, 63, 64, 65, 66] rfl (by decide +kernel)
set_option maxHeartbeats 4000000 in
set_option maxRecDepth 100000 in
theorem c_X1_worthOf (l : Launch) (D : va_G) (cI cZ cO : ClassId) (N : Nat) (a0 : Nat → Nat) (u0 : TU) (a1 : Nat → Nat) (u1 : TU) (a2 : Nat → Nat) (u2 : TU) (p3 : Int32) (p4 : Int32) (out : Int32) (h : f_X1_worthOf N u0 u1 u2 p3 p4 = some out) : Met l yX1_worthOf wsX1_worthOf rm_X1_worthOf (va_Pc [.ref (a0 0), .ref (a1 0), .ref (a2 0), .int p3, .int p4] (fun U => va_P D vwCl (wX1 cI a0 u0 ++ wX5 cI a1 u1 ++ wX2 cI a2 u2) U.heap ∧ va_K D vwCl (tyA cI cZ cO) U)) (vp_Si (fun r => r = out)) 0 0 (fun _ => False) := by
  refine pm_i (own := RX1) (cc := cX1_worthOf) (maxL := 10) (by decide) rfl rfl (Nat.le_of_ble_eq_true rfl) ?_
  intro p e s m args below meth c Q H ls hx hb hml hown hts hP hK hl hret
  have hl : lv_has ls 10 [(0, .ref (a0 0)), (1, .ref (a1 0)), (2, .ref (a2 0)), (3, .int p3), (4, .int p4)] := hl
  have hiX2 : ∀ w ∈ u_ws RX2 TX2 5, w ∈ wsX1_worthOf := mk_seg 62 5 rfl
  have hiX5 : ∀ w ∈ u_ws RX5 TX5 14, w ∈ wsX1_worthOf := mk_seg 48 14 rfl
  have K13 : ∀ (x3 : Int32) (x4 : Int32) (x5 : Int32) (x6 : Int32) (x7 : Int32) (ls : Array Slot), lv_has ls 10 [(1, .ref (a1 0)), (2, .ref (a2 0)), (3, .int x3), (4, .int x4), (5, .int x5), (6, .int x6), (7, .int x7)] → lq2 (g_X1_worthOf_13 N u0 u1 u2 x3 x4 x5) N x6 x7 = some out → W p l e rm_X1_worthOf s m args below meth c H [] 0 0 Q (F0 m 13 ls []) := by
    intro x3 x4 x5 x6 x7 ls hl h
    refine lq2_W (Wd := fun x6 x7 => ∀ (ls : Array Slot), lv_has ls 10 [(1, .ref (a1 0)), (2, .ref (a2 0)), (3, .int x3), (4, .int x4), (5, .int x5), (6, .int x6), (7, .int x7)] → W p l e rm_X1_worthOf s m args below meth c H [] 0 0 Q (F0 m 13 ls [])) (fun rec13 ih13 x6 x7 h ls hl => ?_) N x6 x7 h ls hl
    have K52 : ∀ (x6 : Int32) (x7 : Int32) (x8 : Int32) (x9 : Int32) (ls : Array Slot), lv_has ls 10 [(1, .ref (a1 0)), (2, .ref (a2 0)), (3, .int x3), (4, .int x4), (5, .int x5), (6, .int x6), (7, .int x7), (8, .int x8), (9, .int x9)] → lq2 (g_X1_worthOf_52 N u0 u1 u2 rec13 x3 x4 x5 x7 x8) N x6 x9 = some out → W p l e rm_X1_worthOf s m args below meth c H [] 0 0 Q (F0 m 52 ls []) := by
      intro x6 x7 x8 x9 ls hl h
      refine lq2_W (Wd := fun x6 x9 => ∀ (ls : Array Slot), lv_has ls 10 [(1, .ref (a1 0)), (2, .ref (a2 0)), (3, .int x3), (4, .int x4), (5, .int x5), (6, .int x6), (7, .int x7), (8, .int x8), (9, .int x9)] → W p l e rm_X1_worthOf s m args below meth c H [] 0 0 Q (F0 m 52 ls [])) (fun rec52 ih52 x6 x9 h ls hl => ?_) N x6 x9 h ls hl
      unfold g_X1_worthOf_52 at h
      refine lv_iload hx hb dX1_worthOf_52 (lv_at hl 8 rfl) ?_
      refine lv_aload_n hx hb dX1_worthOf_54 rfl (lv_at hl 0 rfl) ?_
      refine va_get (D := D) (ci := 5) (v := .int (u1 0 0)) (C := RX5) (T := TX5) (N := 14) hx hb hts hiX5 hown hK hP 2 rfl rfl 4 (by decide) (hts (.fieldLink RX1 24 "ClockOnce$Town" "things" "I") (List.mem_of_getElem? (i := 1) rfl)) (fun _ h9 => h9) rfl dX1_worthOf_55 ?_
      refine lv_icmp_ge (tgt := 99) hx hb dX1_worthOf_58 (by decide) (fun q_1 => ?_) (fun q_1 => ?_)
      · have h := mk_ifp q_1 h
        refine lv_iinc (v := (x7 + (1 : Int32))) (lv' := [(7, .int (x7 + (1 : Int32))), (1, .ref (a1 0)), (2, .ref (a2 0)), (3, .int x3), (4, .int x4), (5, .int x5), (6, .int x6), (8, .int x8), (9, .int x9)]) hx hb dX1_worthOf_99 hl (k := 6) rfl rfl (by decide) rfl (fun ls hl => ?_)
        refine lv_goto (tgt := 13) hx hb dX1_worthOf_102 (by decide) ?_
        exact ih13 x6 (x7 + (1 : Int32)) h ls (lv_sub hl [1, 2, 3, 4, 5, 6, 0] rfl)
      · have h := mk_ifn q_1 h
        refine lv_iload hx hb dX1_worthOf_61 (lv_at hl 7 rfl) ?_
        refine lv_if_eq (tgt := 99) hx hb dX1_worthOf_63 (by decide) (fun q_2 => ?_) (fun q_2 => ?_)
        · have h := mk_ifp q_2 h
          refine lv_iinc (v := (x7 + (1 : Int32))) (lv' := [(7, .int (x7 + (1 : Int32))), (1, .ref (a1 0)), (2, .ref (a2 0)), (3, .int x3), (4, .int x4), (5, .int x5), (6, .int x6), (8, .int x8), (9, .int x9)]) hx hb dX1_worthOf_99 hl (k := 6) rfl rfl (by decide) rfl (fun ls hl => ?_)
          refine lv_goto (tgt := 13) hx hb dX1_worthOf_102 (by decide) ?_
          exact ih13 x6 (x7 + (1 : Int32)) h ls (lv_sub hl [1, 2, 3, 4, 5, 6, 0] rfl)
        · have h := mk_ifn q_2 h
          refine lv_iload hx hb dX1_worthOf_66 (lv_at hl 4 rfl) ?_
          refine lv_iload hx hb dX1_worthOf_68 (lv_at hl 8 rfl) ?_
          refine lv_ishr hx hb dX1_worthOf_70 ?_
          refine lv_iconst (v := (1 : Int32)) hx hb dX1_worthOf_71 (by decide) ?_
          refine lv_iand hx hb dX1_worthOf_72 ?_
          refine lv_if_ne (tgt := 93) hx hb dX1_worthOf_73 (by decide) (fun q_3 => ?_) (fun q_3 => ?_)
          · have h := mk_ifn q_3 h
            refine lv_iinc (v := (x9 + (1 : Int32))) (lv' := [(9, .int (x9 + (1 : Int32))), (1, .ref (a1 0)), (2, .ref (a2 0)), (3, .int x3), (4, .int x4), (5, .int x5), (6, .int x6), (7, .int x7), (8, .int x8)]) hx hb dX1_worthOf_93 hl (k := 8) rfl rfl (by decide) rfl (fun ls hl => ?_)
            refine lv_goto (tgt := 52) hx hb dX1_worthOf_96 (by decide) ?_
            exact ih52 x6 (x9 + (1 : Int32)) h ls (lv_sub hl [1, 2, 3, 4, 5, 6, 7, 8, 0] rfl)
          · have h := mk_ifp q_3 h
            refine lv_iload hx hb dX1_worthOf_76 (lv_at hl 5 rfl) ?_
            refine lv_aload_n hx hb dX1_worthOf_78 rfl (lv_at hl 0 rfl) ?_
            refine lv_iload hx hb dX1_worthOf_79 (lv_at hl 7 rfl) ?_
            refine lv_iload hx hb dX1_worthOf_81 (lv_at hl 8 rfl) ?_
            refine lv_aload_n hx hb dX1_worthOf_83 rfl (lv_at hl 1 rfl) ?_
            refine va_get (D := D) (ci := 2) (v := .int (u2 0 0)) (C := RX2) (T := TX2) (N := 5) hx hb hts hiX2 hown hK hP 12 rfl rfl 0 (by decide) (hts (.fieldLink RX1 34 "ClockOnce$Life" "day" "I") (List.mem_of_getElem? (i := 2) rfl)) (fun _ h9 => h9) rfl dX1_worthOf_84 ?_
            obtain ⟨r_4, er_4, h⟩ := mk_bd h
            refine pc_v (As := [.int x8, .int x9, .int (u2 0 0)]) (rest := [.int x6]) ⟨hx, hb, hml, hown, hts⟩ (c_X5_partsKeptWisely l D cI cZ cO N a1 u1 x8 x9 (u2 0 0) r_4 er_4) (cwV 3 hts k_X1_worthOf_X5_partsKeptWisely_37 rfl rfl rfl (by decide +kernel) ⟨(Nat.le_of_ble_eq_true rfl), (Nat.le_of_ble_eq_true rfl)⟩) (va_recv hK hP (ci := 5) (q0 := 2) rfl rfl) (hP.sub (ws' := wX5 cI a1 u1) [2, 3, 4, 5, 6, 7, 8, 9, 10, 11] rfl) hK rfl hl.1 rfl (Nat.le_of_ble_eq_true rfl) dX1_worthOf_87 ⟨Nat.zero_le _, Nat.zero_le _⟩ ?_
            refine lv_iadd hx hb dX1_worthOf_90 ?_
            refine lv_istore (lv' := [(6, .int (x6 + r_4)), (1, .ref (a1 0)), (2, .ref (a2 0)), (3, .int x3), (4, .int x4), (5, .int x5), (7, .int x7), (8, .int x8), (9, .int x9)]) hx hb dX1_worthOf_91 hl (by decide) rfl (fun ls hl => ?_)
            refine lv_iinc (v := (x9 + (1 : Int32))) (lv' := [(9, .int (x9 + (1 : Int32))), (6, .int (x6 + r_4)), (1, .ref (a1 0)), (2, .ref (a2 0)), (3, .int x3), (4, .int x4), (5, .int x5), (7, .int x7), (8, .int x8)]) hx hb dX1_worthOf_93 hl (k := 8) rfl rfl (by decide) rfl (fun ls hl => ?_)
            refine lv_goto (tgt := 52) hx hb dX1_worthOf_96 (by decide) ?_
            exact ih52 (x6 + r_4) (x9 + (1 : Int32)) h ls (lv_sub hl [2, 3, 4, 5, 6, 1, 7, 8, 0] rfl)
    unfold g_X1_worthOf_13 at h
    refine lv_iload hx hb dX1_worthOf_13 (lv_at hl 6 rfl) ?_
    refine lv_iconst (v := (1 : Int32)) hx hb dX1_worthOf_15 (by decide) ?_
    refine lv_aload_n hx hb dX1_worthOf_16 rfl (lv_at hl 0 rfl) ?_
    refine va_get (D := D) (ci := 5) (v := .int (u1 0 0)) (C := RX5) (T := TX5) (N := 14) hx hb hts hiX5 hown hK hP 2 rfl rfl 4 (by decide) (hts (.fieldLink RX1 24 "ClockOnce$Town" "things" "I") (List.mem_of_getElem? (i := 1) rfl)) (fun _ h9 => h9) rfl dX1_worthOf_17 ?_
    refine lv_ishl hx hb dX1_worthOf_20 ?_
    refine lv_icmp_ge (tgt := 105) hx hb dX1_worthOf_21 (by decide) (fun q_5 => ?_) (fun q_5 => ?_)
    · have h := mk_ifp q_5 h
      refine lv_iload hx hb dX1_worthOf_105 (lv_at hl 5 rfl) ?_
      exact hret _ _ _ h dX1_worthOf_107
    · have h := mk_ifn q_5 h
      refine lv_iload hx hb dX1_worthOf_24 (lv_at hl 6 rfl) ?_
      refine lv_iload hx hb dX1_worthOf_26 (lv_at hl 3 rfl) ?_
      refine lv_iconst (v := (-1 : Int32)) hx hb dX1_worthOf_28 (by decide) ?_
      refine lv_ixor hx hb dX1_worthOf_29 ?_
      refine lv_iand hx hb dX1_worthOf_30 ?_
      refine lv_if_ne (tgt := 46) hx hb dX1_worthOf_31 (by decide) (fun q_6 => ?_) (fun q_6 => ?_)
      · have h := mk_ifn q_6 h
        refine lv_iconst (v := (0 : Int32)) hx hb dX1_worthOf_46 (by decide) ?_
        refine lv_istore (lv' := [(8, .int (0 : Int32)), (1, .ref (a1 0)), (2, .ref (a2 0)), (3, .int x3), (4, .int x4), (5, .int x5), (6, .int x6), (7, .int x7)]) hx hb dX1_worthOf_47 hl (by decide) rfl (fun ls hl => ?_)
        refine lv_iconst (v := (0 : Int32)) hx hb dX1_worthOf_49 (by decide) ?_
        refine lv_istore (lv' := [(9, .int (0 : Int32)), (8, .int (0 : Int32)), (1, .ref (a1 0)), (2, .ref (a2 0)), (3, .int x3), (4, .int x4), (5, .int x5), (6, .int x6), (7, .int x7)]) hx hb dX1_worthOf_50 hl (by decide) rfl (fun ls hl => ?_)
        exact K52 x6 x7 (0 : Int32) (0 : Int32) ls (lv_sub hl [2, 3, 4, 5, 6, 7, 8, 1, 0] rfl) h
      · have h := mk_ifp q_6 h
        refine lv_aload_n hx hb dX1_worthOf_34 rfl (lv_at hl 0 rfl) ?_
        refine lv_iload_n hx hb dX1_worthOf_35 rfl (lv_at hl 2 rfl) ?_
        refine lv_iload hx hb dX1_worthOf_36 (lv_at hl 3 rfl) ?_
        refine lv_iload hx hb dX1_worthOf_38 (lv_at hl 6 rfl) ?_
        obtain ⟨r_7, er_7, h⟩ := mk_bd h
        refine pc_v (As := [.int x3, .int x4, .int x7]) (rest := []) ⟨hx, hb, hml, hown, hts⟩ (c_X5_worldsLike l D cI cZ cO N a1 u1 x3 x4 x7 r_7 er_7) (cwV 3 hts k_X1_worthOf_X5_worldsLike_30 rfl rfl rfl (by decide +kernel) ⟨(Nat.le_of_ble_eq_true rfl), (Nat.le_of_ble_eq_true rfl)⟩) (va_recv hK hP (ci := 5) (q0 := 2) rfl rfl) (hP.sub (ws' := wX5 cI a1 u1) [2, 3, 4, 5, 6, 7, 8, 9, 10, 11] rfl) hK rfl hl.1 rfl (Nat.le_of_ble_eq_true rfl) dX1_worthOf_40 ⟨Nat.zero_le _, Nat.zero_le _⟩ ?_
        refine lv_goto (tgt := 47) hx hb dX1_worthOf_43 (by decide) ?_
        refine lv_istore (lv' := [(8, .int r_7), (1, .ref (a1 0)), (2, .ref (a2 0)), (3, .int x3), (4, .int x4), (5, .int x5), (6, .int x6), (7, .int x7)]) hx hb dX1_worthOf_47 hl (by decide) rfl (fun ls hl => ?_)
        refine lv_iconst (v := (0 : Int32)) hx hb dX1_worthOf_49 (by decide) ?_
        refine lv_istore (lv' := [(9, .int (0 : Int32)), (8, .int r_7), (1, .ref (a1 0)), (2, .ref (a2 0)), (3, .int x3), (4, .int x4), (5, .int x5), (6, .int x6), (7, .int x7)]) hx hb dX1_worthOf_50 hl (by decide) rfl (fun ls hl => ?_)
        exact K52 x6 x7 r_7 (0 : Int32) ls (lv_sub hl [2, 3, 4, 5, 6, 7, 8, 1, 0] rfl) h
  unfold f_X1_worthOf at h
  refine lv_aload_n hx hb dX1_worthOf_0 rfl (lv_at hl 2 rfl) ?_
  refine lv_aload_n hx hb dX1_worthOf_1 rfl (lv_at hl 1 rfl) ?_
  obtain ⟨r_8, er_8, h⟩ := mk_bd h
  refine pc_v (As := [.ref (a1 0)]) (rest := []) ⟨hx, hb, hml, hown, hts⟩ (c_X2_soldThings l D cI cZ cO N a2 u2 a1 u1 r_8 er_8) (cwV 1 hts k_X1_worthOf_X2_soldThings_18 rfl rfl rfl (by decide +kernel) ⟨(Nat.le_of_ble_eq_true rfl), (Nat.le_of_ble_eq_true rfl)⟩) (va_recv hK hP (ci := 2) (q0 := 12) rfl rfl) (hP.sub (ws' := wX2 cI a2 u2 ++ wX5 cI a1 u1) [12, 13, 14, 2, 3, 4, 5, 6, 7, 8, 9, 10, 11] rfl) hK rfl hl.1 rfl (Nat.le_of_ble_eq_true rfl) dX1_worthOf_2 ⟨Nat.zero_le _, Nat.zero_le _⟩ ?_
  refine lv_istore (lv' := [(5, .int r_8), (0, .ref (a0 0)), (1, .ref (a1 0)), (2, .ref (a2 0)), (3, .int p3), (4, .int p4)]) hx hb dX1_worthOf_5 hl (by decide) rfl (fun ls hl => ?_)
  refine lv_iconst (v := (0 : Int32)) hx hb dX1_worthOf_7 (by decide) ?_
  refine lv_istore (lv' := [(6, .int (0 : Int32)), (5, .int r_8), (0, .ref (a0 0)), (1, .ref (a1 0)), (2, .ref (a2 0)), (3, .int p3), (4, .int p4)]) hx hb dX1_worthOf_8 hl (by decide) rfl (fun ls hl => ?_)
  refine lv_iconst (v := (0 : Int32)) hx hb dX1_worthOf_10 (by decide) ?_
  refine lv_istore (lv' := [(7, .int (0 : Int32)), (6, .int (0 : Int32)), (5, .int r_8), (0, .ref (a0 0)), (1, .ref (a1 0)), (2, .ref (a2 0)), (3, .int p3), (4, .int p4)]) hx hb dX1_worthOf_11 hl (by decide) rfl (fun ls hl => ?_)
  exact K13 p3 p4 r_8 (0 : Int32) (0 : Int32) ls (lv_sub hl [4, 5, 6, 7, 2, 1, 0] rfl) h

abbrev rm_X1_findWorths : Room := { frames := 5, cells := 0, slots := 0, locals := 132 }
set_option maxRecDepth 20000 in
theorem k_X1_findWorths_X1_worthOf_44 : GoodIn wsX1_findWorths (wsV RX1 44 RX1 yX1_worthOf wsX1_worthOf) := goodIn_r _ [38, 39, 40, 41, 42, 2, 1, 43, 44, 45, 46, 47, 48, 49, 50, 31, 32, 7, 33, 11, 51, 52, 53, 54, 55, 56, 57, 58, 59, 26, 27, 28, 29, 60, 61, 62, 63, 64, 65, 66, 67, 68, 69, 70, 71, 25, 24, 72, 73, 74, 75, 76, 82, 83, 84, 85, 86, 87, 88, 89, 90, 91, 92, 93, 94, 95, 77, 78, 79, 80, 81] rfl (by decide +kernel)
set_option maxRecDepth 20000 in
theorem k_X1_findWorths_X5_worldsSeenOn_40 : GoodIn wsX1_findWorths (wsV RX1 40 RX5 yX5_worldsSeenOn wsX5_worldsSeenOn) := goodIn_r _ [4, 5, 6, 7, 8, 9, 10, 11, 12, 13, 14, 7, 15, 16, 17, 18, 19, 20, 21, 22, 23, 24, 25, 26, 27, 28, 29, 30, 31, 32, 33, 34, 35, 36, 37, 82, 83, 84, 85, 86, 87, 88, 89, 90, 91, 92, 93, 94, 95] rfl (by decide +kernel)
set_option maxHeartbeats 4000000 in
set_option maxRecDepth 100000 in
theorem c_X1_findWorths (l : Launch) (D : va_G) (cI cZ cO : ClassId) (N : Nat) (a0 : Nat → Nat) (u0 : TU) (a1 : Nat → Nat) (u1 : TU) (a2 : Nat → Nat) (u2 : TU) (sz : Nat) (out : TU) (h : f_X1_findWorths N u0 u1 u2 = some out) : Met l yX1_findWorths wsX1_findWorths rm_X1_findWorths (va_Pc [.ref (a0 0), .ref (a1 0), .ref (a2 0)] (mk_Pe D vwCl (tyA cI cZ cO) (wX1 cI a0 u0 ++ wX5 cI a1 u1 ++ wX2 cI a2 u2) sz)) (va_Qv (fun u => u = out) (mk_Be D vwCl (wX1 cI a0 u0 ++ wX5 cI a1 u1 ++ wX2 cI a2 u2) sz (fun q => (wX1 cI a0 q ++ wX5 cI a1 u1 ++ wX2 cI a2 u2))) (va_A (wX1 cI a0 u0 ++ wX5 cI a1 u1 ++ wX2 cI a2 u2) sz)) 0 0 (va_A (wX1 cI a0 u0 ++ wX5 cI a1 u1 ++ wX2 cI a2 u2) sz) := by
  refine em_v (own := RX1) (cc := cX1_findWorths) (maxL := 5) (by decide) rfl rfl (Nat.le_of_ble_eq_true rfl) ?_
  intro p e s m args below meth c Q A H0 H locs ls hx hb hml hown hts hP hK hD hS hA hl hret
  have hl : lv_has ls 5 [(0, .ref (a0 0)), (1, .ref (a1 0)), (2, .ref (a2 0))] := hl
  have hiX1 : ∀ w ∈ u_ws RX1 TX1 1, w ∈ wsX1_findWorths := mk_seg 96 1 rfl
  have hiX2 : ∀ w ∈ u_ws RX2 TX2 5, w ∈ wsX1_findWorths := mk_seg 77 5 rfl
  have hiX5 : ∀ w ∈ u_ws RX5 TX5 14, w ∈ wsX1_findWorths := mk_seg 82 14 rfl
  have K12 : ∀ (u0 : TU) (x3 : Int32) (x4 : Int32) (H : Heap) (locs : List Loc) (ls : Array Slot), va_P D vwCl (wX1 cI a0 u0 ++ wX5 cI a1 u1 ++ wX2 cI a2 u2) H → va_D A (wX1 cI a0 u0 ++ wX5 cI a1 u1 ++ wX2 cI a2 u2) → va_S A H0 H locs → lv_has ls 5 [(0, .ref (a0 0)), (1, .ref (a1 0)), (2, .ref (a2 0)), (3, .int x3), (4, .int x4)] → lq2 (g_X1_findWorths_12 N u1 u2 x3) N u0 x4 = some out → W p l e rm_X1_findWorths s m args below meth c H locs 0 0 Q (F0 m 12 ls []) := by
    intro u0 x3 x4 H locs ls hP hD hS hl h
    refine lq2_W (Wd := fun u0 x4 => ∀ (H : Heap) (locs : List Loc) (ls : Array Slot), va_P D vwCl (wX1 cI a0 u0 ++ wX5 cI a1 u1 ++ wX2 cI a2 u2) H → va_D A (wX1 cI a0 u0 ++ wX5 cI a1 u1 ++ wX2 cI a2 u2) → va_S A H0 H locs → lv_has ls 5 [(0, .ref (a0 0)), (1, .ref (a1 0)), (2, .ref (a2 0)), (3, .int x3), (4, .int x4)] → W p l e rm_X1_findWorths s m args below meth c H locs 0 0 Q (F0 m 12 ls [])) (fun rec12 ih12 u0 x4 h H locs ls hP hD hS hl => ?_) N u0 x4 h H locs ls hP hD hS hl
    unfold g_X1_findWorths_12 at h
    refine lv_iload hx hb dX1_findWorths_12 (lv_at hl 4 rfl) ?_
    refine lv_iconst (v := (1 : Int32)) hx hb dX1_findWorths_14 (by decide) ?_
    refine lv_aload_n hx hb dX1_findWorths_15 rfl (lv_at hl 1 rfl) ?_
    refine va_get (D := D) (ci := 5) (v := .int (u1 0 0)) (C := RX5) (T := TX5) (N := 14) hx hb hts hiX5 hown hK hP 2 rfl rfl 4 (by decide) (hts (.fieldLink RX1 24 "ClockOnce$Town" "things" "I") (List.mem_of_getElem? (i := 2) rfl)) (fun _ h9 => h9) rfl dX1_findWorths_16 ?_
    refine lv_ishl hx hb dX1_findWorths_19 ?_
    refine lv_icmp_ge (tgt := 45) hx hb dX1_findWorths_20 (by decide) (fun q_1 => ?_) (fun q_1 => ?_)
    · have h := mk_ifp q_1 h
      exact hret _ _ _ _ _ h hP hD hS dX1_findWorths_45
    · have h := mk_ifn q_1 h
      refine lv_aload_n hx hb dX1_findWorths_23 rfl (lv_at hl 0 rfl) ?_
      refine va_get (D := D) (ci := 1) (v := .ref (a0 1)) (C := RX1) (T := TX1) (N := 1) hx hb hts hiX1 hown hK hP 0 rfl rfl 0 (by decide) (hts (.fieldLink RX1 9 "ClockOnce$Asking" "worths" "[I") (List.mem_of_getElem? (i := 3) rfl)) (fun _ h9 => h9) rfl dX1_findWorths_24 ?_
      refine lv_iload hx hb dX1_findWorths_27 (lv_at hl 4 rfl) ?_
      refine lv_aload_n hx hb dX1_findWorths_29 rfl (lv_at hl 0 rfl) ?_
      refine lv_aload_n hx hb dX1_findWorths_30 rfl (lv_at hl 1 rfl) ?_
      refine lv_aload_n hx hb dX1_findWorths_31 rfl (lv_at hl 2 rfl) ?_
      refine lv_iload_n hx hb dX1_findWorths_32 rfl (lv_at hl 3 rfl) ?_
      refine lv_iload hx hb dX1_findWorths_33 (lv_at hl 4 rfl) ?_
      obtain ⟨r_2, er_2, h⟩ := mk_bd h
      refine pc_v (As := [.ref (a1 0), .ref (a2 0), .int x3, .int x4]) (rest := [.int x4, .ref (a0 1)]) ⟨hx, hb, hml, hown, hts⟩ (c_X1_worthOf l D cI cZ cO N a0 u0 a1 u1 a2 u2 x3 x4 r_2 er_2) (cwV 4 hts k_X1_findWorths_X1_worthOf_44 rfl rfl rfl (by decide +kernel) ⟨(Nat.le_of_ble_eq_true rfl), (Nat.le_of_ble_eq_true rfl)⟩) (va_recv hK hP (ci := 1) (q0 := 0) rfl rfl) hP hK rfl hl.1 rfl (Nat.le_of_ble_eq_true rfl) dX1_findWorths_35 ⟨Nat.zero_le _, Nat.zero_le _⟩ ?_
      obtain ⟨hx_3, h⟩ := mk_ixE h
      obtain ⟨w_4, ew_4, h⟩ := mk_nmE h
      refine va_iast hx hb hK hP hD hS 1 0 rfl rfl hx_3 dX1_findWorths_38 (fun H locs hP hD hS => ?_)
      have hP : va_P D vwCl (wX1 cI a0 w_4 ++ wX5 cI a1 u1 ++ wX2 cI a2 u2) H := by rw [ew_4]; exact hP
      have hD : va_D A (wX1 cI a0 w_4 ++ wX5 cI a1 u1 ++ wX2 cI a2 u2) := by rw [ew_4]; exact hD
      refine lv_iinc (v := (x4 + (1 : Int32))) (lv' := [(4, .int (x4 + (1 : Int32))), (0, .ref (a0 0)), (1, .ref (a1 0)), (2, .ref (a2 0)), (3, .int x3)]) hx hb dX1_findWorths_39 hl (k := 4) rfl rfl (by decide) rfl (fun ls hl => ?_)
      refine lv_goto (tgt := 12) hx hb dX1_findWorths_42 (by decide) ?_
      exact ih12 w_4 (x4 + (1 : Int32)) h H locs ls hP hD hS (lv_sub hl [1, 2, 3, 4, 0] rfl)
  unfold f_X1_findWorths at h
  refine lv_aload_n hx hb dX1_findWorths_0 rfl (lv_at hl 1 rfl) ?_
  refine lv_aload_n hx hb dX1_findWorths_1 rfl (lv_at hl 2 rfl) ?_
  refine va_get (D := D) (ci := 2) (v := .int (u2 0 0)) (C := RX2) (T := TX2) (N := 5) hx hb hts hiX2 hown hK hP 12 rfl rfl 0 (by decide) (hts (.fieldLink RX1 34 "ClockOnce$Life" "day" "I") (List.mem_of_getElem? (i := 1) rfl)) (fun _ h9 => h9) rfl dX1_findWorths_2 ?_
  obtain ⟨r_5, er_5, h⟩ := mk_bd h
  refine pc_v (As := [.int (u2 0 0)]) (rest := []) ⟨hx, hb, hml, hown, hts⟩ (c_X5_worldsSeenOn l D cI cZ cO N a1 u1 (u2 0 0) r_5 er_5) (cwV 1 hts k_X1_findWorths_X5_worldsSeenOn_40 rfl rfl rfl (by decide +kernel) ⟨(Nat.le_of_ble_eq_true rfl), (Nat.le_of_ble_eq_true rfl)⟩) (va_recv hK hP (ci := 5) (q0 := 2) rfl rfl) (hP.sub (ws' := wX5 cI a1 u1) [2, 3, 4, 5, 6, 7, 8, 9, 10, 11] rfl) hK rfl hl.1 rfl (Nat.le_of_ble_eq_true rfl) dX1_findWorths_5 ⟨Nat.zero_le _, Nat.zero_le _⟩ ?_
  refine lv_istore_n (lv' := [(3, .int r_5), (0, .ref (a0 0)), (1, .ref (a1 0)), (2, .ref (a2 0))]) hx hb dX1_findWorths_8 rfl hl (by decide) rfl (fun ls hl => ?_)
  refine lv_iconst (v := (0 : Int32)) hx hb dX1_findWorths_9 (by decide) ?_
  refine lv_istore (lv' := [(4, .int (0 : Int32)), (3, .int r_5), (0, .ref (a0 0)), (1, .ref (a1 0)), (2, .ref (a2 0))]) hx hb dX1_findWorths_10 hl (by decide) rfl (fun ls hl => ?_)
  exact K12 u0 r_5 (0 : Int32) H locs ls hP hD hS (lv_sub hl [2, 3, 4, 1, 0] rfl) h

abbrev rm_X1_firstThingFor : Room := { frames := 0, cells := 0, slots := 0, locals := 0 }
set_option maxHeartbeats 4000000 in
set_option maxRecDepth 100000 in
theorem c_X1_firstThingFor (l : Launch) (D : va_G) (cI cZ cO : ClassId) (N : Nat) (a0 : Nat → Nat) (u0 : TU) (a1 : Nat → Nat) (u1 : TU) (p2 : Int32) (p3 : Int32) (p4 : Int32) (out : Int32) (h : f_X1_firstThingFor N u0 u1 p2 p3 p4 = some out) : Met l yX1_firstThingFor wsX1_firstThingFor rm_X1_firstThingFor (va_Pc [.ref (a0 0), .ref (a1 0), .int p2, .int p3, .int p4] (fun U => va_P D vwCl (wX1 cI a0 u0 ++ wX5 cI a1 u1) U.heap ∧ va_K D vwCl (tyA cI cZ cO) U)) (vp_Si (fun r => r = out)) 0 0 (fun _ => False) := by
  refine pm_i (own := RX1) (cc := cX1_firstThingFor) (maxL := 7) (by decide) rfl rfl (Nat.le_of_ble_eq_true rfl) ?_
  intro p e s m args below meth c Q H ls hx hb hml hown hts hP hK hl hret
  have hl : lv_has ls 7 [(0, .ref (a0 0)), (1, .ref (a1 0)), (2, .int p2), (3, .int p3), (4, .int p4)] := hl
  have hiX5 : ∀ w ∈ u_ws RX5 TX5 14, w ∈ wsX1_firstThingFor := mk_seg 3 14 rfl
  have K8 : ∀ (x2 : Int32) (x3 : Int32) (x4 : Int32) (x5 : Int32) (ls : Array Slot), lv_has ls 7 [(1, .ref (a1 0)), (2, .int x2), (3, .int x3), (4, .int x4), (5, .int x5)] → lq1 (g_X1_firstThingFor_8 N u0 u1 x2 x3 x4) N x5 = some out → W p l e rm_X1_firstThingFor s m args below meth c H [] 0 0 Q (F0 m 8 ls []) := by
    intro x2 x3 x4 x5 ls hl h
    refine lq1_W (Wd := fun x5 => ∀ (ls : Array Slot), lv_has ls 7 [(1, .ref (a1 0)), (2, .int x2), (3, .int x3), (4, .int x4), (5, .int x5)] → W p l e rm_X1_firstThingFor s m args below meth c H [] 0 0 Q (F0 m 8 ls [])) (fun rec8 ih8 x5 h ls hl => ?_) N x5 h ls hl
    unfold g_X1_firstThingFor_8 at h
    refine lv_iload hx hb dX1_firstThingFor_8 (lv_at hl 4 rfl) ?_
    refine lv_aload_n hx hb dX1_firstThingFor_10 rfl (lv_at hl 0 rfl) ?_
    refine va_get (D := D) (ci := 5) (v := .ref (a1 6)) (C := RX5) (T := TX5) (N := 14) hx hb hts hiX5 hown hK hP 2 rfl rfl 7 (by decide) (hts (.fieldLink RX1 58 "ClockOnce$Town" "last" "[I") (List.mem_of_getElem? (i := 2) rfl)) (fun _ h9 => h9) rfl dX1_firstThingFor_11 ?_
    refine lv_iload_n hx hb dX1_firstThingFor_14 rfl (lv_at hl 1 rfl) ?_
    obtain ⟨v_1, ev_1, hiv_1, h⟩ := mk_rdE h
    refine va_iald hx hb hK hP 8 0 rfl rfl hiv_1 dX1_firstThingFor_15 ?_
    refine mk_topi ev_1 ?_
    refine lv_icmp_gt (tgt := 54) hx hb dX1_firstThingFor_16 (by decide) (fun q_2 => ?_) (fun q_2 => ?_)
    · have h := mk_ifp q_2 h
      refine lv_bipush (v := (-9 : Int32)) hx hb dX1_firstThingFor_54 (by decide) ?_
      exact hret _ _ _ h dX1_firstThingFor_56
    · have h := mk_ifn q_2 h
      refine lv_iload_n hx hb dX1_firstThingFor_19 rfl (lv_at hl 2 rfl) ?_
      refine lv_iconst (v := (1 : Int32)) hx hb dX1_firstThingFor_20 (by decide) ?_
      refine lv_iload hx hb dX1_firstThingFor_21 (lv_at hl 4 rfl) ?_
      refine lv_ishl hx hb dX1_firstThingFor_23 ?_
      refine lv_iconst (v := (-1 : Int32)) hx hb dX1_firstThingFor_24 (by decide) ?_
      refine lv_ixor hx hb dX1_firstThingFor_25 ?_
      refine lv_iand hx hb dX1_firstThingFor_26 ?_
      refine lv_istore (lv' := [(6, .int (x3 &&& (((1 : Int32) <<< (x5 &&& 31)) ^^^ (-1 : Int32)))), (1, .ref (a1 0)), (2, .int x2), (3, .int x3), (4, .int x4), (5, .int x5)]) hx hb dX1_firstThingFor_27 hl (by decide) rfl (fun ls hl => ?_)
      refine lv_iload hx hb dX1_firstThingFor_29 (lv_at hl 0 rfl) ?_
      refine lv_iload_n hx hb dX1_firstThingFor_31 rfl (lv_at hl 3 rfl) ?_
      refine lv_icmp_eq (tgt := 48) hx hb dX1_firstThingFor_32 (by decide) (fun q_3 => ?_) (fun q_3 => ?_)
      · have h := mk_ifp q_3 h
        refine lv_iinc (v := (x5 + (1 : Int32))) (lv' := [(5, .int (x5 + (1 : Int32))), (6, .int (x3 &&& (((1 : Int32) <<< (x5 &&& 31)) ^^^ (-1 : Int32)))), (1, .ref (a1 0)), (2, .int x2), (3, .int x3), (4, .int x4)]) hx hb dX1_firstThingFor_48 hl (k := 5) rfl rfl (by decide) rfl (fun ls hl => ?_)
        refine lv_goto (tgt := 8) hx hb dX1_firstThingFor_51 (by decide) ?_
        exact ih8 (x5 + (1 : Int32)) h ls (lv_sub hl [2, 3, 4, 5, 0] rfl)
      · have h := mk_ifn q_3 h
        refine lv_iload hx hb dX1_firstThingFor_35 (lv_at hl 4 rfl) ?_
        refine lv_iload hx hb dX1_firstThingFor_37 (lv_at hl 0 rfl) ?_
        refine lv_ishr hx hb dX1_firstThingFor_39 ?_
        refine lv_iconst (v := (1 : Int32)) hx hb dX1_firstThingFor_40 (by decide) ?_
        refine lv_iand hx hb dX1_firstThingFor_41 ?_
        refine lv_if_eq (tgt := 48) hx hb dX1_firstThingFor_42 (by decide) (fun q_4 => ?_) (fun q_4 => ?_)
        · have h := mk_ifp q_4 h
          refine lv_iinc (v := (x5 + (1 : Int32))) (lv' := [(5, .int (x5 + (1 : Int32))), (6, .int (x3 &&& (((1 : Int32) <<< (x5 &&& 31)) ^^^ (-1 : Int32)))), (1, .ref (a1 0)), (2, .int x2), (3, .int x3), (4, .int x4)]) hx hb dX1_firstThingFor_48 hl (k := 5) rfl rfl (by decide) rfl (fun ls hl => ?_)
          refine lv_goto (tgt := 8) hx hb dX1_firstThingFor_51 (by decide) ?_
          exact ih8 (x5 + (1 : Int32)) h ls (lv_sub hl [2, 3, 4, 5, 0] rfl)
        · have h := mk_ifn q_4 h
          refine lv_iload hx hb dX1_firstThingFor_45 (lv_at hl 5 rfl) ?_
          exact hret _ _ _ h dX1_firstThingFor_47
  unfold f_X1_firstThingFor at h
  refine lv_aload_n hx hb dX1_firstThingFor_0 rfl (lv_at hl 1 rfl) ?_
  refine va_get (D := D) (ci := 5) (v := .ref (a1 5)) (C := RX5) (T := TX5) (N := 14) hx hb hts hiX5 hown hK hP 2 rfl rfl 6 (by decide) (hts (.fieldLink RX1 55 "ClockOnce$Town" "first" "[I") (List.mem_of_getElem? (i := 1) rfl)) (fun _ h9 => h9) rfl dX1_firstThingFor_1 ?_
  refine lv_iload_n hx hb dX1_firstThingFor_4 rfl (lv_at hl 2 rfl) ?_
  obtain ⟨v_5, ev_5, hiv_5, h⟩ := mk_rdE h
  refine va_iald hx hb hK hP 7 0 rfl rfl hiv_5 dX1_firstThingFor_5 ?_
  refine mk_topi ev_5 ?_
  refine lv_istore (lv' := [(5, .int v_5), (0, .ref (a0 0)), (1, .ref (a1 0)), (2, .int p2), (3, .int p3), (4, .int p4)]) hx hb dX1_firstThingFor_6 hl (by decide) rfl (fun ls hl => ?_)
  exact K8 p2 p3 p4 v_5 ls (lv_sub hl [2, 3, 4, 5, 0] rfl) h

abbrev rm_X1_thingAskedBy : Room := { frames := 3, cells := 0, slots := 0, locals := 73 }
set_option maxRecDepth 20000 in
theorem k_X1_thingAskedBy_X1_setsFor_69 : GoodIn wsX1_thingAskedBy (wsV RX1 69 RX1 yX1_setsFor wsX1_setsFor) := goodIn_r _ [13, 14, 15, 4, 16, 17, 18, 19, 20, 4, 21, 22, 23, 24, 41, 42, 43, 44, 45, 46, 47, 48, 49, 50, 51, 52, 53, 54] rfl (by decide +kernel)
set_option maxRecDepth 20000 in
theorem k_X1_thingAskedBy_X1_firstThingFor_80 : GoodIn wsX1_thingAskedBy (wsV RX1 80 RX1 yX1_firstThingFor wsX1_firstThingFor) := goodIn_r _ [37, 38, 39, 4, 40, 23, 24, 41, 42, 43, 44, 45, 46, 47, 48, 49, 50, 51, 52, 53, 54] rfl (by decide +kernel)
set_option maxRecDepth 20000 in
theorem k_X1_thingAskedBy_X1_bestSet_76 : GoodIn wsX1_thingAskedBy (wsV RX1 76 RX1 yX1_bestSet wsX1_bestSet) := goodIn_r _ [1, 2, 3, 4, 5, 6, 7, 8, 9, 10, 11, 12, 13, 14, 15, 4, 16, 17, 18, 19, 20, 21, 22, 23, 24, 25, 26, 27, 28, 29, 30, 31, 32, 33, 34, 35, 36, 41, 42, 43, 44, 45, 46, 47, 48, 49, 50, 51, 52, 53, 54, 55, 56, 57, 58, 59, 60] rfl (by decide +kernel)
set_option maxRecDepth 20000 in
theorem k_X1_thingAskedBy_X2_idleAskers_66 : GoodIn wsX1_thingAskedBy (wsV RX1 66 RX2 yX2_idleAskers wsX2_idleAskers) := goodIn_r _ [6, 7, 8, 9, 10, 11, 12, 41, 42, 43, 44, 45, 46, 47, 48, 49, 50, 51, 52, 53, 54, 55, 56, 57, 58, 59] rfl (by decide +kernel)
set_option maxHeartbeats 4000000 in
set_option maxRecDepth 100000 in
theorem c_X1_thingAskedBy (l : Launch) (D : va_G) (cI cZ cO : ClassId) (N : Nat) (a0 : Nat → Nat) (u0 : TU) (a1 : Nat → Nat) (u1 : TU) (a2 : Nat → Nat) (u2 : TU) (p3 : Int32) (out : Int32) (h : f_X1_thingAskedBy N u0 u1 u2 p3 = some out) : Met l yX1_thingAskedBy wsX1_thingAskedBy rm_X1_thingAskedBy (va_Pc [.ref (a0 0), .ref (a1 0), .ref (a2 0), .int p3] (fun U => va_P D vwCl (wX1 cI a0 u0 ++ wX5 cI a1 u1 ++ wX2 cI a2 u2) U.heap ∧ va_K D vwCl (tyA cI cZ cO) U)) (vp_Si (fun r => r = out)) 0 0 (fun _ => False) := by
  refine pm_i (own := RX1) (cc := cX1_thingAskedBy) (maxL := 9) (by decide) rfl rfl (Nat.le_of_ble_eq_true rfl) ?_
  intro p e s m args below meth c Q H ls hx hb hml hown hts hP hK hl hret
  have hl : lv_has ls 9 [(0, .ref (a0 0)), (1, .ref (a1 0)), (2, .ref (a2 0)), (3, .int p3)] := hl
  have K18 : ∀ (x3 : Int32) (x4 : Int32) (x5 : Int32) (x6 : Int32) (ls : Array Slot), lv_has ls 9 [(0, .ref (a0 0)), (1, .ref (a1 0)), (3, .int x3), (4, .int x4), (5, .int x5), (6, .int x6)] → lq3 (g_X1_thingAskedBy_18 N u0 u1 u2 x3) N x4 x5 x6 = some out → W p l e rm_X1_thingAskedBy s m args below meth c H [] 0 0 Q (F0 m 18 ls []) := by
    intro x3 x4 x5 x6 ls hl h
    refine lq3_W (Wd := fun x4 x5 x6 => ∀ (ls : Array Slot), lv_has ls 9 [(0, .ref (a0 0)), (1, .ref (a1 0)), (3, .int x3), (4, .int x4), (5, .int x5), (6, .int x6)] → W p l e rm_X1_thingAskedBy s m args below meth c H [] 0 0 Q (F0 m 18 ls [])) (fun rec18 ih18 x4 x5 x6 h ls hl => ?_) N x4 x5 x6 h ls hl
    have K78 : ∀ (x4 : Int32) (x5 : Int32) (x6 : Int32) (t0 : Int32) (ls : Array Slot), lv_has ls 9 [(0, .ref (a0 0)), (1, .ref (a1 0)), (3, .int x3), (4, .int x4), (5, .int x5), (6, .int x6)] → g_X1_thingAskedBy_78 N u0 u1 u2 rec18 x3 x4 x5 x6 t0 = some out → W p l e rm_X1_thingAskedBy s m args below meth c H [] 0 0 Q (F0 m 78 ls [.int t0]) := by
      intro x4 x5 x6 t0 ls hl h
      unfold g_X1_thingAskedBy_78 at h
      refine lv_istore (lv' := [(8, .int t0), (0, .ref (a0 0)), (1, .ref (a1 0)), (3, .int x3), (4, .int x4), (5, .int x5), (6, .int x6)]) hx hb dX1_thingAskedBy_78 hl (by decide) rfl (fun ls hl => ?_)
      refine lv_iload hx hb dX1_thingAskedBy_80 (lv_at hl 6 rfl) ?_
      refine lv_iload_n hx hb dX1_thingAskedBy_82 rfl (lv_at hl 3 rfl) ?_
      refine lv_icmp_ne (tgt := 89) hx hb dX1_thingAskedBy_83 (by decide) (fun q_1 => ?_) (fun q_1 => ?_)
      · have h := mk_ifn q_1 h
        refine lv_iload hx hb dX1_thingAskedBy_89 (lv_at hl 0 rfl) ?_
        refine lv_bipush (v := (-9 : Int32)) hx hb dX1_thingAskedBy_91 (by decide) ?_
        refine lv_icmp_eq (tgt := 107) hx hb dX1_thingAskedBy_93 (by decide) (fun q_2 => ?_) (fun q_2 => ?_)
        · have h := mk_ifp q_2 h
          refine lv_iinc (v := (x6 + (1 : Int32))) (lv' := [(6, .int (x6 + (1 : Int32))), (8, .int t0), (0, .ref (a0 0)), (1, .ref (a1 0)), (3, .int x3), (4, .int x4), (5, .int x5)]) hx hb dX1_thingAskedBy_107 hl (k := 6) rfl rfl (by decide) rfl (fun ls hl => ?_)
          refine lv_goto (tgt := 18) hx hb dX1_thingAskedBy_110 (by decide) ?_
          exact ih18 x4 x5 (x6 + (1 : Int32)) h ls (lv_sub hl [2, 3, 4, 5, 6, 0] rfl)
        · have h := mk_ifn q_2 h
          refine lv_iload hx hb dX1_thingAskedBy_96 (lv_at hl 4 rfl) ?_
          refine lv_iconst (v := (1 : Int32)) hx hb dX1_thingAskedBy_98 (by decide) ?_
          refine lv_iload hx hb dX1_thingAskedBy_99 (lv_at hl 0 rfl) ?_
          refine lv_ishl hx hb dX1_thingAskedBy_101 ?_
          refine lv_iconst (v := (-1 : Int32)) hx hb dX1_thingAskedBy_102 (by decide) ?_
          refine lv_ixor hx hb dX1_thingAskedBy_103 ?_
          refine lv_iand hx hb dX1_thingAskedBy_104 ?_
          refine lv_istore (lv' := [(4, .int (x4 &&& (((1 : Int32) <<< (t0 &&& 31)) ^^^ (-1 : Int32)))), (8, .int t0), (0, .ref (a0 0)), (1, .ref (a1 0)), (3, .int x3), (5, .int x5), (6, .int x6)]) hx hb dX1_thingAskedBy_105 hl (by decide) rfl (fun ls hl => ?_)
          refine lv_iinc (v := (x6 + (1 : Int32))) (lv' := [(6, .int (x6 + (1 : Int32))), (4, .int (x4 &&& (((1 : Int32) <<< (t0 &&& 31)) ^^^ (-1 : Int32)))), (8, .int t0), (0, .ref (a0 0)), (1, .ref (a1 0)), (3, .int x3), (5, .int x5)]) hx hb dX1_thingAskedBy_107 hl (k := 6) rfl rfl (by decide) rfl (fun ls hl => ?_)
          refine lv_goto (tgt := 18) hx hb dX1_thingAskedBy_110 (by decide) ?_
          exact ih18 (x4 &&& (((1 : Int32) <<< (t0 &&& 31)) ^^^ (-1 : Int32))) x5 (x6 + (1 : Int32)) h ls (lv_sub hl [3, 4, 5, 1, 6, 0] rfl)
      · have h := mk_ifp q_1 h
        refine lv_iload hx hb dX1_thingAskedBy_86 (lv_at hl 0 rfl) ?_
        exact hret _ _ _ h dX1_thingAskedBy_88
    have K39 : ∀ (x4 : Int32) (x5 : Int32) (x6 : Int32) (t0 : Int32) (ls : Array Slot), lv_has ls 9 [(0, .ref (a0 0)), (1, .ref (a1 0)), (3, .int x3), (4, .int x4), (5, .int x5), (6, .int x6)] → g_X1_thingAskedBy_39 N u0 u1 u2 rec18 x3 x4 x5 x6 t0 = some out → W p l e rm_X1_thingAskedBy s m args below meth c H [] 0 0 Q (F0 m 39 ls [.int t0]) := by
      intro x4 x5 x6 t0 ls hl h
      unfold g_X1_thingAskedBy_39 at h
      refine lv_istore (lv' := [(7, .int t0), (0, .ref (a0 0)), (1, .ref (a1 0)), (3, .int x3), (4, .int x4), (5, .int x5), (6, .int x6)]) hx hb dX1_thingAskedBy_39 hl (by decide) rfl (fun ls hl => ?_)
      refine lv_iload hx hb dX1_thingAskedBy_41 (lv_at hl 5 rfl) ?_
      refine lv_iconst (v := (1 : Int32)) hx hb dX1_thingAskedBy_43 (by decide) ?_
      refine lv_iload hx hb dX1_thingAskedBy_44 (lv_at hl 6 rfl) ?_
      refine lv_ishl hx hb dX1_thingAskedBy_46 ?_
      refine lv_iconst (v := (-1 : Int32)) hx hb dX1_thingAskedBy_47 (by decide) ?_
      refine lv_ixor hx hb dX1_thingAskedBy_48 ?_
      refine lv_iand hx hb dX1_thingAskedBy_49 ?_
      refine lv_istore (lv' := [(5, .int (x5 &&& (((1 : Int32) <<< (x6 &&& 31)) ^^^ (-1 : Int32)))), (7, .int t0), (0, .ref (a0 0)), (1, .ref (a1 0)), (3, .int x3), (4, .int x4), (6, .int x6)]) hx hb dX1_thingAskedBy_50 hl (by decide) rfl (fun ls hl => ?_)
      refine lv_iload hx hb dX1_thingAskedBy_52 (lv_at hl 1 rfl) ?_
      refine lv_if_eq (tgt := 76) hx hb dX1_thingAskedBy_54 (by decide) (fun q_3 => ?_) (fun q_3 => ?_)
      · have h := mk_ifp q_3 h
        refine lv_bipush (v := (-9 : Int32)) hx hb dX1_thingAskedBy_76 (by decide) ?_
        exact K78 x4 (x5 &&& (((1 : Int32) <<< (x6 &&& 31)) ^^^ (-1 : Int32))) x6 (-9 : Int32) ls (lv_sub hl [2, 3, 4, 5, 0, 6] rfl) h
      · have h := mk_ifn q_3 h
        refine lv_aload_n hx hb dX1_thingAskedBy_57 rfl (lv_at hl 2 rfl) ?_
        refine lv_aload_n hx hb dX1_thingAskedBy_58 rfl (lv_at hl 3 rfl) ?_
        refine lv_iload hx hb dX1_thingAskedBy_59 (lv_at hl 6 rfl) ?_
        refine lv_iload hx hb dX1_thingAskedBy_61 (lv_at hl 5 rfl) ?_
        refine lv_aload_n hx hb dX1_thingAskedBy_63 rfl (lv_at hl 2 rfl) ?_
        refine lv_aload_n hx hb dX1_thingAskedBy_64 rfl (lv_at hl 3 rfl) ?_
        refine lv_iload hx hb dX1_thingAskedBy_65 (lv_at hl 0 rfl) ?_
        obtain ⟨r_4, er_4, h⟩ := mk_bd h
        refine pc_v (As := [.ref (a1 0), .int (x5 &&& (((1 : Int32) <<< (x6 &&& 31)) ^^^ (-1 : Int32)))]) (rest := [.int x4, .int x6, .ref (a1 0), .ref (a0 0)]) ⟨hx, hb, hml, hown, hts⟩ (c_X1_setsFor l D cI cZ cO N a0 u0 a1 u1 (x5 &&& (((1 : Int32) <<< (x6 &&& 31)) ^^^ (-1 : Int32))) r_4 er_4) (cwV 2 hts k_X1_thingAskedBy_X1_setsFor_69 rfl rfl rfl (by decide +kernel) ⟨(Nat.le_of_ble_eq_true rfl), (Nat.le_of_ble_eq_true rfl)⟩) (va_recv hK hP (ci := 1) (q0 := 0) rfl rfl) (hP.sub (ws' := wX1 cI a0 u0 ++ wX5 cI a1 u1) [0, 1, 2, 3, 4, 5, 6, 7, 8, 9, 10, 11] rfl) hK rfl hl.1 rfl (Nat.le_of_ble_eq_true rfl) dX1_thingAskedBy_67 ⟨Nat.zero_le _, Nat.zero_le _⟩ ?_
        obtain ⟨r_5, er_5, h⟩ := mk_bd h
        refine pc_v (As := [.ref (a1 0), .int x6, .int x4, .int r_4]) (rest := []) ⟨hx, hb, hml, hown, hts⟩ (c_X1_firstThingFor l D cI cZ cO N a0 u0 a1 u1 x6 x4 r_4 r_5 er_5) (cwV 4 hts k_X1_thingAskedBy_X1_firstThingFor_80 rfl rfl rfl (by decide +kernel) ⟨(Nat.le_of_ble_eq_true rfl), (Nat.le_of_ble_eq_true rfl)⟩) (va_recv hK hP (ci := 1) (q0 := 0) rfl rfl) (hP.sub (ws' := wX1 cI a0 u0 ++ wX5 cI a1 u1) [0, 1, 2, 3, 4, 5, 6, 7, 8, 9, 10, 11] rfl) hK rfl hl.1 rfl (Nat.le_of_ble_eq_true rfl) dX1_thingAskedBy_70 ⟨Nat.zero_le _, Nat.zero_le _⟩ ?_
        refine lv_goto (tgt := 78) hx hb dX1_thingAskedBy_73 (by decide) ?_
        exact K78 x4 (x5 &&& (((1 : Int32) <<< (x6 &&& 31)) ^^^ (-1 : Int32))) x6 r_5 ls (lv_sub hl [2, 3, 4, 5, 0, 6] rfl) h
    unfold g_X1_thingAskedBy_18 at h
    refine lv_iload hx hb dX1_thingAskedBy_18 (lv_at hl 5 rfl) ?_
    refine lv_iload_n hx hb dX1_thingAskedBy_20 rfl (lv_at hl 2 rfl) ?_
    refine lv_icmp_gt (tgt := 113) hx hb dX1_thingAskedBy_21 (by decide) (fun q_6 => ?_) (fun q_6 => ?_)
    · have h := mk_ifp q_6 h
      refine lv_bipush (v := (-9 : Int32)) hx hb dX1_thingAskedBy_113 (by decide) ?_
      exact hret _ _ _ h dX1_thingAskedBy_115
    · have h := mk_ifn q_6 h
      refine lv_iload hx hb dX1_thingAskedBy_24 (lv_at hl 4 rfl) ?_
      refine lv_iload hx hb dX1_thingAskedBy_26 (lv_at hl 5 rfl) ?_
      refine lv_ishr hx hb dX1_thingAskedBy_28 ?_
      refine lv_iconst (v := (1 : Int32)) hx hb dX1_thingAskedBy_29 (by decide) ?_
      refine lv_iand hx hb dX1_thingAskedBy_30 ?_
      refine lv_if_eq (tgt := 38) hx hb dX1_thingAskedBy_31 (by decide) (fun q_7 => ?_) (fun q_7 => ?_)
      · have h := mk_ifp q_7 h
        refine lv_iconst (v := (0 : Int32)) hx hb dX1_thingAskedBy_38 (by decide) ?_
        exact K39 x4 x5 x6 (0 : Int32) ls (lv_sub hl [0, 1, 2, 3, 4, 5] rfl) h
      · have h := mk_ifn q_7 h
        refine lv_iconst (v := (1 : Int32)) hx hb dX1_thingAskedBy_34 (by decide) ?_
        refine lv_goto (tgt := 39) hx hb dX1_thingAskedBy_35 (by decide) ?_
        exact K39 x4 x5 x6 (1 : Int32) ls (lv_sub hl [0, 1, 2, 3, 4, 5] rfl) h
  unfold f_X1_thingAskedBy at h
  refine lv_aload_n hx hb dX1_thingAskedBy_0 rfl (lv_at hl 0 rfl) ?_
  refine lv_aload_n hx hb dX1_thingAskedBy_1 rfl (lv_at hl 1 rfl) ?_
  refine lv_aload_n hx hb dX1_thingAskedBy_2 rfl (lv_at hl 2 rfl) ?_
  obtain ⟨r_8, er_8, h⟩ := mk_bd h
  refine pc_v (As := [.ref (a1 0), .ref (a2 0)]) (rest := []) ⟨hx, hb, hml, hown, hts⟩ (c_X1_bestSet l D cI cZ cO N a0 u0 a1 u1 a2 u2 r_8 er_8) (cwV 2 hts k_X1_thingAskedBy_X1_bestSet_76 rfl rfl rfl (by decide +kernel) ⟨(Nat.le_of_ble_eq_true rfl), (Nat.le_of_ble_eq_true rfl)⟩) (va_recv hK hP (ci := 1) (q0 := 0) rfl rfl) hP hK rfl hl.1 rfl (Nat.le_of_ble_eq_true rfl) dX1_thingAskedBy_3 ⟨Nat.zero_le _, Nat.zero_le _⟩ ?_
  refine lv_istore (lv' := [(4, .int r_8), (0, .ref (a0 0)), (1, .ref (a1 0)), (2, .ref (a2 0)), (3, .int p3)]) hx hb dX1_thingAskedBy_6 hl (by decide) rfl (fun ls hl => ?_)
  refine lv_aload_n hx hb dX1_thingAskedBy_8 rfl (lv_at hl 3 rfl) ?_
  refine lv_aload_n hx hb dX1_thingAskedBy_9 rfl (lv_at hl 2 rfl) ?_
  obtain ⟨r_9, er_9, h⟩ := mk_bd h
  refine pc_v (As := [.ref (a1 0)]) (rest := []) ⟨hx, hb, hml, hown, hts⟩ (c_X2_idleAskers l D cI cZ cO N a2 u2 a1 u1 r_9 er_9) (cwV 1 hts k_X1_thingAskedBy_X2_idleAskers_66 rfl rfl rfl (by decide +kernel) ⟨(Nat.le_of_ble_eq_true rfl), (Nat.le_of_ble_eq_true rfl)⟩) (va_recv hK hP (ci := 2) (q0 := 12) rfl rfl) (hP.sub (ws' := wX2 cI a2 u2 ++ wX5 cI a1 u1) [12, 13, 14, 2, 3, 4, 5, 6, 7, 8, 9, 10, 11] rfl) hK rfl hl.1 rfl (Nat.le_of_ble_eq_true rfl) dX1_thingAskedBy_10 ⟨Nat.zero_le _, Nat.zero_le _⟩ ?_
  refine lv_istore (lv' := [(5, .int r_9), (4, .int r_8), (0, .ref (a0 0)), (1, .ref (a1 0)), (2, .ref (a2 0)), (3, .int p3)]) hx hb dX1_thingAskedBy_13 hl (by decide) rfl (fun ls hl => ?_)
  refine lv_iconst (v := (0 : Int32)) hx hb dX1_thingAskedBy_15 (by decide) ?_
  refine lv_istore (lv' := [(6, .int (0 : Int32)), (5, .int r_9), (4, .int r_8), (0, .ref (a0 0)), (1, .ref (a1 0)), (2, .ref (a2 0)), (3, .int p3)]) hx hb dX1_thingAskedBy_16 hl (by decide) rfl (fun ls hl => ?_)
  exact K18 p3 r_8 r_9 (0 : Int32) ls (lv_sub hl [3, 4, 6, 2, 1, 0] rfl) h
