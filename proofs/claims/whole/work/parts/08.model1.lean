theorem dX7_in_0 : decode cX7_in 0 = .ok (.lload_n 0, 1) := by decide +kernel
theorem dX7_in_1 : decode cX7_in 1 = .ok (.lload_n 2, 1) := by decide +kernel
theorem dX7_in_2 : decode cX7_in 2 = .ok (.lcmp, 1) := by decide +kernel
theorem dX7_in_3 : decode cX7_in 3 = .ok (.ifCond .lt 14, 3) := by decide +kernel
theorem dX7_in_6 : decode cX7_in 6 = .ok (.lload_n 0, 1) := by decide +kernel
theorem dX7_in_7 : decode cX7_in 7 = .ok (.lload 4, 2) := by decide +kernel
theorem dX7_in_9 : decode cX7_in 9 = .ok (.lcmp, 1) := by decide +kernel
theorem dX7_in_10 : decode cX7_in 10 = .ok (.ifCond .gt 7, 3) := by decide +kernel
theorem dX7_in_13 : decode cX7_in 13 = .ok (.iconst 1, 1) := by decide +kernel
theorem dX7_in_14 : decode cX7_in 14 = .ok (.goto 4, 3) := by decide +kernel
theorem dX7_in_17 : decode cX7_in 17 = .ok (.iconst 0, 1) := by decide +kernel
theorem dX7_in_18 : decode cX7_in 18 = .ok (.ireturn, 1) := by decide +kernel
theorem dX7_again_0 : decode cX7_again 0 = .ok (.iload_n 1, 1) := by decide +kernel
theorem dX7_again_1 : decode cX7_again 1 = .ok (.i2l, 1) := by decide +kernel
theorem dX7_again_2 : decode cX7_again 2 = .ok (.lconst 0, 1) := by decide +kernel
theorem dX7_again_3 : decode cX7_again 3 = .ok (.lconst 1, 1) := by decide +kernel
theorem dX7_again_4 : decode cX7_again 4 = .ok (.invokestatic 73, 3) := by decide +kernel
theorem dX7_again_7 : decode cX7_again 7 = .ok (.ifCond .ne 5, 3) := by decide +kernel
theorem dX7_again_10 : decode cX7_again 10 = .ok (.iconst (-1), 1) := by decide +kernel
theorem dX7_again_11 : decode cX7_again 11 = .ok (.ireturn, 1) := by decide +kernel
theorem dX7_again_12 : decode cX7_again 12 = .ok (.aload_n 0, 1) := by decide +kernel
theorem dX7_again_13 : decode cX7_again 13 = .ok (.getfield 61, 3) := by decide +kernel
theorem dX7_again_16 : decode cX7_again 16 = .ok (.iload_n 1, 1) := by decide +kernel
theorem dX7_again_17 : decode cX7_again 17 = .ok (.baload, 1) := by decide +kernel
theorem dX7_again_18 : decode cX7_again 18 = .ok (.ifCond .ne 6, 3) := by decide +kernel
theorem dX7_again_21 : decode cX7_again 21 = .ok (.bipush (-3), 2) := by decide +kernel
theorem dX7_again_23 : decode cX7_again 23 = .ok (.ireturn, 1) := by decide +kernel
theorem dX7_again_24 : decode cX7_again 24 = .ok (.iconst 0, 1) := by decide +kernel
theorem dX7_again_25 : decode cX7_again 25 = .ok (.istore_n 2, 1) := by decide +kernel
theorem dX7_again_26 : decode cX7_again 26 = .ok (.iload_n 2, 1) := by decide +kernel
theorem dX7_again_27 : decode cX7_again 27 = .ok (.bipush 10, 2) := by decide +kernel
theorem dX7_again_29 : decode cX7_again 29 = .ok (.if_icmp .ge 26, 3) := by decide +kernel
theorem dX7_again_32 : decode cX7_again 32 = .ok (.aload_n 0, 1) := by decide +kernel
theorem dX7_again_33 : decode cX7_again 33 = .ok (.getfield 40, 3) := by decide +kernel
theorem dX7_again_36 : decode cX7_again 36 = .ok (.iload_n 2, 1) := by decide +kernel
theorem dX7_again_37 : decode cX7_again 37 = .ok (.aload_n 0, 1) := by decide +kernel
theorem dX7_again_38 : decode cX7_again 38 = .ok (.getfield 65, 3) := by decide +kernel
theorem dX7_again_41 : decode cX7_again 41 = .ok (.bipush 10, 2) := by decide +kernel
theorem dX7_again_43 : decode cX7_again 43 = .ok (.iload_n 1, 1) := by decide +kernel
theorem dX7_again_44 : decode cX7_again 44 = .ok (.imul, 1) := by decide +kernel
theorem dX7_again_45 : decode cX7_again 45 = .ok (.iload_n 2, 1) := by decide +kernel
theorem dX7_again_46 : decode cX7_again 46 = .ok (.iadd, 1) := by decide +kernel
theorem dX7_again_47 : decode cX7_again 47 = .ok (.iaload, 1) := by decide +kernel
theorem dX7_again_48 : decode cX7_again 48 = .ok (.iastore, 1) := by decide +kernel
theorem dX7_again_49 : decode cX7_again 49 = .ok (.iinc 2 1, 3) := by decide +kernel
theorem dX7_again_52 : decode cX7_again 52 = .ok (.goto (-26), 3) := by decide +kernel
theorem dX7_again_55 : decode cX7_again 55 = .ok (.aload_n 0, 1) := by decide +kernel
theorem dX7_again_56 : decode cX7_again 56 = .ok (.iconst 0, 1) := by decide +kernel
theorem dX7_again_57 : decode cX7_again 57 = .ok (.putfield 133, 3) := by decide +kernel
theorem dX7_again_60 : decode cX7_again 60 = .ok (.aload_n 0, 1) := by decide +kernel
theorem dX7_again_61 : decode cX7_again 61 = .ok (.getfield 40, 3) := by decide +kernel
theorem dX7_again_64 : decode cX7_again 64 = .ok (.iconst 1, 1) := by decide +kernel
theorem dX7_again_65 : decode cX7_again 65 = .ok (.iaload, 1) := by decide +kernel
theorem dX7_again_66 : decode cX7_again 66 = .ok (.ireturn, 1) := by decide +kernel
theorem dX7_isAsker_0 : decode cX7_isAsker 0 = .ok (.iload_n 1, 1) := by decide +kernel
theorem dX7_isAsker_1 : decode cX7_isAsker 1 = .ok (.i2l, 1) := by decide +kernel
theorem dX7_isAsker_2 : decode cX7_isAsker 2 = .ok (.lconst 0, 1) := by decide +kernel
theorem dX7_isAsker_3 : decode cX7_isAsker 3 = .ok (.aload_n 0, 1) := by decide +kernel
theorem dX7_isAsker_4 : decode cX7_isAsker 4 = .ok (.getfield 127, 3) := by decide +kernel
theorem dX7_isAsker_7 : decode cX7_isAsker 7 = .ok (.iconst 1, 1) := by decide +kernel
theorem dX7_isAsker_8 : decode cX7_isAsker 8 = .ok (.isub, 1) := by decide +kernel
theorem dX7_isAsker_9 : decode cX7_isAsker 9 = .ok (.i2l, 1) := by decide +kernel
theorem dX7_isAsker_10 : decode cX7_isAsker 10 = .ok (.invokestatic 73, 3) := by decide +kernel
theorem dX7_isAsker_13 : decode cX7_isAsker 13 = .ok (.ireturn, 1) := by decide +kernel
theorem dX7_isThing_0 : decode cX7_isThing 0 = .ok (.iload_n 1, 1) := by decide +kernel
theorem dX7_isThing_1 : decode cX7_isThing 1 = .ok (.i2l, 1) := by decide +kernel
theorem dX7_isThing_2 : decode cX7_isThing 2 = .ok (.lconst 0, 1) := by decide +kernel
theorem dX7_isThing_3 : decode cX7_isThing 3 = .ok (.aload_n 0, 1) := by decide +kernel
theorem dX7_isThing_4 : decode cX7_isThing 4 = .ok (.getfield 124, 3) := by decide +kernel
theorem dX7_isThing_7 : decode cX7_isThing 7 = .ok (.iconst 1, 1) := by decide +kernel
theorem dX7_isThing_8 : decode cX7_isThing 8 = .ok (.isub, 1) := by decide +kernel
theorem dX7_isThing_9 : decode cX7_isThing 9 = .ok (.i2l, 1) := by decide +kernel
theorem dX7_isThing_10 : decode cX7_isThing 10 = .ok (.invokestatic 73, 3) := by decide +kernel
theorem dX7_isThing_13 : decode cX7_isThing 13 = .ok (.ireturn, 1) := by decide +kernel
theorem dX7_keepAct_0 : decode cX7_keepAct 0 = .ok (.iconst 0, 1) := by decide +kernel
theorem dX7_keepAct_1 : decode cX7_keepAct 1 = .ok (.istore_n 1, 1) := by decide +kernel
theorem dX7_keepAct_2 : decode cX7_keepAct 2 = .ok (.iload_n 1, 1) := by decide +kernel
theorem dX7_keepAct_3 : decode cX7_keepAct 3 = .ok (.bipush 10, 2) := by decide +kernel
theorem dX7_keepAct_5 : decode cX7_keepAct 5 = .ok (.if_icmp .ge 29, 3) := by decide +kernel
theorem dX7_keepAct_8 : decode cX7_keepAct 8 = .ok (.aload_n 0, 1) := by decide +kernel
theorem dX7_keepAct_9 : decode cX7_keepAct 9 = .ok (.getfield 46, 3) := by decide +kernel
theorem dX7_keepAct_12 : decode cX7_keepAct 12 = .ok (.bipush 10, 2) := by decide +kernel
theorem dX7_keepAct_14 : decode cX7_keepAct 14 = .ok (.aload_n 0, 1) := by decide +kernel
theorem dX7_keepAct_15 : decode cX7_keepAct 15 = .ok (.getfield 152, 3) := by decide +kernel
theorem dX7_keepAct_18 : decode cX7_keepAct 18 = .ok (.imul, 1) := by decide +kernel
theorem dX7_keepAct_19 : decode cX7_keepAct 19 = .ok (.iload_n 1, 1) := by decide +kernel
theorem dX7_keepAct_20 : decode cX7_keepAct 20 = .ok (.iadd, 1) := by decide +kernel
theorem dX7_keepAct_21 : decode cX7_keepAct 21 = .ok (.aload_n 0, 1) := by decide +kernel
theorem dX7_keepAct_22 : decode cX7_keepAct 22 = .ok (.getfield 40, 3) := by decide +kernel
theorem dX7_keepAct_25 : decode cX7_keepAct 25 = .ok (.iload_n 1, 1) := by decide +kernel
theorem dX7_keepAct_26 : decode cX7_keepAct 26 = .ok (.iaload, 1) := by decide +kernel
theorem dX7_keepAct_27 : decode cX7_keepAct 27 = .ok (.iastore, 1) := by decide +kernel
theorem dX7_keepAct_28 : decode cX7_keepAct 28 = .ok (.iinc 1 1, 3) := by decide +kernel
theorem dX7_keepAct_31 : decode cX7_keepAct 31 = .ok (.goto (-29), 3) := by decide +kernel
theorem dX7_keepAct_34 : decode cX7_keepAct 34 = .ok (.aload_n 0, 1) := by decide +kernel
theorem dX7_keepAct_35 : decode cX7_keepAct 35 = .ok (.aload_n 0, 1) := by decide +kernel
theorem dX7_keepAct_36 : decode cX7_keepAct 36 = .ok (.getfield 152, 3) := by decide +kernel
theorem dX7_keepAct_39 : decode cX7_keepAct 39 = .ok (.iconst 1, 1) := by decide +kernel
theorem dX7_keepAct_40 : decode cX7_keepAct 40 = .ok (.iadd, 1) := by decide +kernel
theorem dX7_keepAct_41 : decode cX7_keepAct 41 = .ok (.bipush 16, 2) := by decide +kernel
theorem dX7_keepAct_43 : decode cX7_keepAct 43 = .ok (.irem, 1) := by decide +kernel
theorem dX7_keepAct_44 : decode cX7_keepAct 44 = .ok (.putfield 152, 3) := by decide +kernel
theorem dX7_keepAct_47 : decode cX7_keepAct 47 = .ok (.aload_n 0, 1) := by decide +kernel
theorem dX7_keepAct_48 : decode cX7_keepAct 48 = .ok (.aload_n 0, 1) := by decide +kernel
theorem dX7_keepAct_49 : decode cX7_keepAct 49 = .ok (.getfield 133, 3) := by decide +kernel
theorem dX7_keepAct_52 : decode cX7_keepAct 52 = .ok (.bipush 16, 2) := by decide +kernel
theorem dX7_keepAct_54 : decode cX7_keepAct 54 = .ok (.if_icmp .ge 12, 3) := by decide +kernel
theorem dX7_keepAct_57 : decode cX7_keepAct 57 = .ok (.aload_n 0, 1) := by decide +kernel
theorem dX7_keepAct_58 : decode cX7_keepAct 58 = .ok (.getfield 133, 3) := by decide +kernel
theorem dX7_keepAct_61 : decode cX7_keepAct 61 = .ok (.iconst 1, 1) := by decide +kernel
theorem dX7_keepAct_62 : decode cX7_keepAct 62 = .ok (.iadd, 1) := by decide +kernel
theorem dX7_keepAct_63 : decode cX7_keepAct 63 = .ok (.goto 5, 3) := by decide +kernel
theorem dX7_keepAct_66 : decode cX7_keepAct 66 = .ok (.bipush 16, 2) := by decide +kernel
theorem dX7_keepAct_68 : decode cX7_keepAct 68 = .ok (.putfield 133, 3) := by decide +kernel
theorem dX7_keepAct_71 : decode cX7_keepAct 71 = .ok (.return_, 1) := by decide +kernel
theorem dX7_trueEnd_0 : decode cX7_trueEnd 0 = .ok (.aload_n 0, 1) := by decide +kernel
theorem dX7_trueEnd_1 : decode cX7_trueEnd 1 = .ok (.getfield 7, 3) := by decide +kernel
theorem dX7_trueEnd_4 : decode cX7_trueEnd 4 = .ok (.iconst 5, 1) := by decide +kernel
theorem dX7_trueEnd_5 : decode cX7_trueEnd 5 = .ok (.iload_n 1, 1) := by decide +kernel
theorem dX7_trueEnd_6 : decode cX7_trueEnd 6 = .ok (.imul, 1) := by decide +kernel
theorem dX7_trueEnd_7 : decode cX7_trueEnd 7 = .ok (.aload_n 0, 1) := by decide +kernel
theorem dX7_trueEnd_8 : decode cX7_trueEnd 8 = .ok (.getfield 7, 3) := by decide +kernel
theorem dX7_trueEnd_11 : decode cX7_trueEnd 11 = .ok (.iconst 5, 1) := by decide +kernel
theorem dX7_trueEnd_12 : decode cX7_trueEnd 12 = .ok (.iload_n 1, 1) := by decide +kernel
theorem dX7_trueEnd_13 : decode cX7_trueEnd 13 = .ok (.imul, 1) := by decide +kernel
theorem dX7_trueEnd_14 : decode cX7_trueEnd 14 = .ok (.iconst 4, 1) := by decide +kernel
theorem dX7_trueEnd_15 : decode cX7_trueEnd 15 = .ok (.iadd, 1) := by decide +kernel
theorem dX7_trueEnd_16 : decode cX7_trueEnd 16 = .ok (.iaload, 1) := by decide +kernel
theorem dX7_trueEnd_17 : decode cX7_trueEnd 17 = .ok (.iadd, 1) := by decide +kernel
theorem dX7_trueEnd_18 : decode cX7_trueEnd 18 = .ok (.iaload, 1) := by decide +kernel
theorem dX7_trueEnd_19 : decode cX7_trueEnd 19 = .ok (.ireturn, 1) := by decide +kernel
theorem dX7_ask_0 : decode cX7_ask 0 = .ok (.aload_n 0, 1) := by decide +kernel
theorem dX7_ask_1 : decode cX7_ask 1 = .ok (.iload_n 1, 1) := by decide +kernel
theorem dX7_ask_2 : decode cX7_ask 2 = .ok (.invokevirtual 146, 3) := by decide +kernel
theorem dX7_ask_5 : decode cX7_ask 5 = .ok (.ifCond .eq 11, 3) := by decide +kernel
theorem dX7_ask_8 : decode cX7_ask 8 = .ok (.aload_n 0, 1) := by decide +kernel
theorem dX7_ask_9 : decode cX7_ask 9 = .ok (.iload_n 2, 1) := by decide +kernel
theorem dX7_ask_10 : decode cX7_ask 10 = .ok (.invokevirtual 136, 3) := by decide +kernel
theorem dX7_ask_13 : decode cX7_ask 13 = .ok (.ifCond .ne 5, 3) := by decide +kernel
theorem dX7_ask_16 : decode cX7_ask 16 = .ok (.iconst (-1), 1) := by decide +kernel
theorem dX7_ask_17 : decode cX7_ask 17 = .ok (.ireturn, 1) := by decide +kernel
theorem dX7_ask_18 : decode cX7_ask 18 = .ok (.iload_n 2, 1) := by decide +kernel
theorem dX7_ask_19 : decode cX7_ask 19 = .ok (.i2l, 1) := by decide +kernel
theorem dX7_ask_20 : decode cX7_ask 20 = .ok (.aload_n 0, 1) := by decide +kernel
theorem dX7_ask_21 : decode cX7_ask 21 = .ok (.getfield 13, 3) := by decide +kernel
theorem dX7_ask_24 : decode cX7_ask 24 = .ok (.iload_n 1, 1) := by decide +kernel
theorem dX7_ask_25 : decode cX7_ask 25 = .ok (.iaload, 1) := by decide +kernel
theorem dX7_ask_26 : decode cX7_ask 26 = .ok (.i2l, 1) := by decide +kernel
theorem dX7_ask_27 : decode cX7_ask 27 = .ok (.aload_n 0, 1) := by decide +kernel
theorem dX7_ask_28 : decode cX7_ask 28 = .ok (.getfield 16, 3) := by decide +kernel
theorem dX7_ask_31 : decode cX7_ask 31 = .ok (.iload_n 1, 1) := by decide +kernel
theorem dX7_ask_32 : decode cX7_ask 32 = .ok (.iaload, 1) := by decide +kernel
theorem dX7_ask_33 : decode cX7_ask 33 = .ok (.i2l, 1) := by decide +kernel
theorem dX7_ask_34 : decode cX7_ask 34 = .ok (.invokestatic 73, 3) := by decide +kernel
theorem dX7_ask_37 : decode cX7_ask 37 = .ok (.ifCond .ne 6, 3) := by decide +kernel
theorem dX7_ask_40 : decode cX7_ask 40 = .ok (.bipush (-2), 2) := by decide +kernel
theorem dX7_ask_42 : decode cX7_ask 42 = .ok (.ireturn, 1) := by decide +kernel
theorem dX7_ask_43 : decode cX7_ask 43 = .ok (.aload_n 0, 1) := by decide +kernel
theorem dX7_ask_44 : decode cX7_ask 44 = .ok (.getfield 40, 3) := by decide +kernel
theorem dX7_ask_47 : decode cX7_ask 47 = .ok (.bipush 6, 2) := by decide +kernel
theorem dX7_ask_49 : decode cX7_ask 49 = .ok (.iload_n 1, 1) := by decide +kernel
theorem dX7_ask_50 : decode cX7_ask 50 = .ok (.iadd, 1) := by decide +kernel
theorem dX7_ask_51 : decode cX7_ask 51 = .ok (.iaload, 1) := by decide +kernel
theorem dX7_ask_52 : decode cX7_ask 52 = .ok (.bipush (-9), 2) := by decide +kernel
theorem dX7_ask_54 : decode cX7_ask 54 = .ok (.if_icmp .eq 6, 3) := by decide +kernel
theorem dX7_ask_57 : decode cX7_ask 57 = .ok (.bipush (-3), 2) := by decide +kernel
theorem dX7_ask_59 : decode cX7_ask 59 = .ok (.ireturn, 1) := by decide +kernel
theorem dX7_ask_60 : decode cX7_ask 60 = .ok (.aload_n 0, 1) := by decide +kernel
theorem dX7_ask_61 : decode cX7_ask 61 = .ok (.invokevirtual 155, 3) := by decide +kernel
theorem dX7_ask_64 : decode cX7_ask 64 = .ok (.aload_n 0, 1) := by decide +kernel
theorem dX7_ask_65 : decode cX7_ask 65 = .ok (.getfield 40, 3) := by decide +kernel
theorem dX7_ask_68 : decode cX7_ask 68 = .ok (.bipush 6, 2) := by decide +kernel
theorem dX7_ask_70 : decode cX7_ask 70 = .ok (.iload_n 1, 1) := by decide +kernel
theorem dX7_ask_71 : decode cX7_ask 71 = .ok (.iadd, 1) := by decide +kernel
theorem dX7_ask_72 : decode cX7_ask 72 = .ok (.iload_n 2, 1) := by decide +kernel
theorem dX7_ask_73 : decode cX7_ask 73 = .ok (.iastore, 1) := by decide +kernel
theorem dX7_ask_74 : decode cX7_ask 74 = .ok (.aload_n 0, 1) := by decide +kernel
theorem dX7_ask_75 : decode cX7_ask 75 = .ok (.iload_n 2, 1) := by decide +kernel
theorem dX7_ask_76 : decode cX7_ask 76 = .ok (.invokevirtual 140, 3) := by decide +kernel
theorem dX7_ask_79 : decode cX7_ask 79 = .ok (.ireturn, 1) := by decide +kernel
theorem dX7_askedOf_0 : decode cX7_askedOf 0 = .ok (.iconst 0, 1) := by decide +kernel
theorem dX7_askedOf_1 : decode cX7_askedOf 1 = .ok (.istore_n 1, 1) := by decide +kernel
theorem dX7_askedOf_2 : decode cX7_askedOf 2 = .ok (.iconst 0, 1) := by decide +kernel
theorem dX7_askedOf_3 : decode cX7_askedOf 3 = .ok (.istore_n 2, 1) := by decide +kernel
theorem dX7_askedOf_4 : decode cX7_askedOf 4 = .ok (.iload_n 2, 1) := by decide +kernel
theorem dX7_askedOf_5 : decode cX7_askedOf 5 = .ok (.aload_n 0, 1) := by decide +kernel
theorem dX7_askedOf_6 : decode cX7_askedOf 6 = .ok (.getfield 127, 3) := by decide +kernel
theorem dX7_askedOf_9 : decode cX7_askedOf 9 = .ok (.if_icmp .ge 41, 3) := by decide +kernel
theorem dX7_askedOf_12 : decode cX7_askedOf 12 = .ok (.iload_n 1, 1) := by decide +kernel
theorem dX7_askedOf_13 : decode cX7_askedOf 13 = .ok (.aload_n 0, 1) := by decide +kernel
theorem dX7_askedOf_14 : decode cX7_askedOf 14 = .ok (.getfield 40, 3) := by decide +kernel
theorem dX7_askedOf_17 : decode cX7_askedOf 17 = .ok (.bipush 6, 2) := by decide +kernel
theorem dX7_askedOf_19 : decode cX7_askedOf 19 = .ok (.iload_n 2, 1) := by decide +kernel
theorem dX7_askedOf_20 : decode cX7_askedOf 20 = .ok (.iadd, 1) := by decide +kernel
theorem dX7_askedOf_21 : decode cX7_askedOf 21 = .ok (.iaload, 1) := by decide +kernel
theorem dX7_askedOf_22 : decode cX7_askedOf 22 = .ok (.bipush (-9), 2) := by decide +kernel
theorem dX7_askedOf_24 : decode cX7_askedOf 24 = .ok (.if_icmp .ne 7, 3) := by decide +kernel
theorem dX7_askedOf_27 : decode cX7_askedOf 27 = .ok (.iconst 0, 1) := by decide +kernel
theorem dX7_askedOf_28 : decode cX7_askedOf 28 = .ok (.goto 14, 3) := by decide +kernel
theorem dX7_askedOf_31 : decode cX7_askedOf 31 = .ok (.iconst 1, 1) := by decide +kernel
theorem dX7_askedOf_32 : decode cX7_askedOf 32 = .ok (.aload_n 0, 1) := by decide +kernel
theorem dX7_askedOf_33 : decode cX7_askedOf 33 = .ok (.getfield 40, 3) := by decide +kernel
theorem dX7_askedOf_36 : decode cX7_askedOf 36 = .ok (.bipush 6, 2) := by decide +kernel
theorem dX7_askedOf_38 : decode cX7_askedOf 38 = .ok (.iload_n 2, 1) := by decide +kernel
theorem dX7_askedOf_39 : decode cX7_askedOf 39 = .ok (.iadd, 1) := by decide +kernel
theorem dX7_askedOf_40 : decode cX7_askedOf 40 = .ok (.iaload, 1) := by decide +kernel
theorem dX7_askedOf_41 : decode cX7_askedOf 41 = .ok (.ishl, 1) := by decide +kernel
theorem dX7_askedOf_42 : decode cX7_askedOf 42 = .ok (.ior, 1) := by decide +kernel
theorem dX7_askedOf_43 : decode cX7_askedOf 43 = .ok (.istore_n 1, 1) := by decide +kernel
theorem dX7_askedOf_44 : decode cX7_askedOf 44 = .ok (.iinc 2 1, 3) := by decide +kernel
theorem dX7_askedOf_47 : decode cX7_askedOf 47 = .ok (.goto (-43), 3) := by decide +kernel
theorem dX7_askedOf_50 : decode cX7_askedOf 50 = .ok (.iload_n 1, 1) := by decide +kernel
theorem dX7_askedOf_51 : decode cX7_askedOf 51 = .ok (.ireturn, 1) := by decide +kernel
theorem dX7_heard_0 : decode cX7_heard 0 = .ok (.iconst 0, 1) := by decide +kernel
theorem dX7_heard_1 : decode cX7_heard 1 = .ok (.istore_n 2, 1) := by decide +kernel
theorem dX7_heard_2 : decode cX7_heard 2 = .ok (.iload_n 1, 1) := by decide +kernel
theorem dX7_heard_3 : decode cX7_heard 3 = .ok (.iconst 1, 1) := by decide +kernel
theorem dX7_heard_4 : decode cX7_heard 4 = .ok (.isub, 1) := by decide +kernel
theorem dX7_heard_5 : decode cX7_heard 5 = .ok (.istore_n 3, 1) := by decide +kernel
theorem dX7_heard_6 : decode cX7_heard 6 = .ok (.iload_n 3, 1) := by decide +kernel
theorem dX7_heard_7 : decode cX7_heard 7 = .ok (.iload_n 1, 1) := by decide +kernel
theorem dX7_heard_8 : decode cX7_heard 8 = .ok (.iconst 1, 1) := by decide +kernel
theorem dX7_heard_9 : decode cX7_heard 9 = .ok (.iadd, 1) := by decide +kernel
theorem dX7_heard_10 : decode cX7_heard 10 = .ok (.if_icmp .gt 69, 3) := by decide +kernel
theorem dX7_heard_13 : decode cX7_heard 13 = .ok (.iload_n 3, 1) := by decide +kernel
theorem dX7_heard_14 : decode cX7_heard 14 = .ok (.i2l, 1) := by decide +kernel
theorem dX7_heard_15 : decode cX7_heard 15 = .ok (.lconst 0, 1) := by decide +kernel
theorem dX7_heard_16 : decode cX7_heard 16 = .ok (.aload_n 0, 1) := by decide +kernel
theorem dX7_heard_17 : decode cX7_heard 17 = .ok (.getfield 127, 3) := by decide +kernel
theorem dX7_heard_20 : decode cX7_heard 20 = .ok (.iconst 1, 1) := by decide +kernel
theorem dX7_heard_21 : decode cX7_heard 21 = .ok (.isub, 1) := by decide +kernel
theorem dX7_heard_22 : decode cX7_heard 22 = .ok (.i2l, 1) := by decide +kernel
theorem dX7_heard_23 : decode cX7_heard 23 = .ok (.invokestatic 73, 3) := by decide +kernel
theorem dX7_heard_26 : decode cX7_heard 26 = .ok (.ifCond .eq 21, 3) := by decide +kernel
theorem dX7_heard_29 : decode cX7_heard 29 = .ok (.aload_n 0, 1) := by decide +kernel
theorem dX7_heard_30 : decode cX7_heard 30 = .ok (.getfield 40, 3) := by decide +kernel
theorem dX7_heard_33 : decode cX7_heard 33 = .ok (.bipush 6, 2) := by decide +kernel
theorem dX7_heard_35 : decode cX7_heard 35 = .ok (.iload_n 3, 1) := by decide +kernel
theorem dX7_heard_36 : decode cX7_heard 36 = .ok (.iadd, 1) := by decide +kernel
theorem dX7_heard_37 : decode cX7_heard 37 = .ok (.iaload, 1) := by decide +kernel
theorem dX7_heard_38 : decode cX7_heard 38 = .ok (.bipush (-9), 2) := by decide +kernel
theorem dX7_heard_40 : decode cX7_heard 40 = .ok (.if_icmp .eq 7, 3) := by decide +kernel
theorem dX7_heard_43 : decode cX7_heard 43 = .ok (.iconst 1, 1) := by decide +kernel
theorem dX7_heard_44 : decode cX7_heard 44 = .ok (.goto 4, 3) := by decide +kernel
theorem dX7_heard_47 : decode cX7_heard 47 = .ok (.iconst 0, 1) := by decide +kernel
theorem dX7_heard_48 : decode cX7_heard 48 = .ok (.istore 4, 2) := by decide +kernel
theorem dX7_heard_50 : decode cX7_heard 50 = .ok (.iload_n 2, 1) := by decide +kernel
theorem dX7_heard_51 : decode cX7_heard 51 = .ok (.iload 4, 2) := by decide +kernel
theorem dX7_heard_53 : decode cX7_heard 53 = .ok (.ifCond .eq 17, 3) := by decide +kernel
theorem dX7_heard_56 : decode cX7_heard 56 = .ok (.iconst 1, 1) := by decide +kernel
theorem dX7_heard_57 : decode cX7_heard 57 = .ok (.aload_n 0, 1) := by decide +kernel
theorem dX7_heard_58 : decode cX7_heard 58 = .ok (.getfield 40, 3) := by decide +kernel
theorem dX7_heard_61 : decode cX7_heard 61 = .ok (.bipush 6, 2) := by decide +kernel
theorem dX7_heard_63 : decode cX7_heard 63 = .ok (.iload_n 3, 1) := by decide +kernel
theorem dX7_heard_64 : decode cX7_heard 64 = .ok (.iadd, 1) := by decide +kernel
theorem dX7_heard_65 : decode cX7_heard 65 = .ok (.iaload, 1) := by decide +kernel
theorem dX7_heard_66 : decode cX7_heard 66 = .ok (.ishl, 1) := by decide +kernel
theorem dX7_heard_67 : decode cX7_heard 67 = .ok (.goto 4, 3) := by decide +kernel
theorem dX7_heard_70 : decode cX7_heard 70 = .ok (.iconst 0, 1) := by decide +kernel
theorem dX7_heard_71 : decode cX7_heard 71 = .ok (.ior, 1) := by decide +kernel
theorem dX7_heard_72 : decode cX7_heard 72 = .ok (.istore_n 2, 1) := by decide +kernel
theorem dX7_heard_73 : decode cX7_heard 73 = .ok (.iinc 3 1, 3) := by decide +kernel
theorem dX7_heard_76 : decode cX7_heard 76 = .ok (.goto (-70), 3) := by decide +kernel
theorem dX7_heard_79 : decode cX7_heard 79 = .ok (.iload_n 2, 1) := by decide +kernel
theorem dX7_heard_80 : decode cX7_heard 80 = .ok (.ireturn, 1) := by decide +kernel
theorem dX7_asker_0 : decode cX7_asker 0 = .ok (.aload_n 0, 1) := by decide +kernel
theorem dX7_asker_1 : decode cX7_asker 1 = .ok (.iload_n 1, 1) := by decide +kernel
theorem dX7_asker_2 : decode cX7_asker 2 = .ok (.invokevirtual 146, 3) := by decide +kernel
theorem dX7_asker_5 : decode cX7_asker 5 = .ok (.ifCond .ne 5, 3) := by decide +kernel
theorem dX7_asker_8 : decode cX7_asker 8 = .ok (.iconst (-1), 1) := by decide +kernel
theorem dX7_asker_9 : decode cX7_asker 9 = .ok (.ireturn, 1) := by decide +kernel
theorem dX7_asker_10 : decode cX7_asker 10 = .ok (.iload_n 2, 1) := by decide +kernel
theorem dX7_asker_11 : decode cX7_asker 11 = .ok (.tableswitch 59 0 3 #[29, 36, 43, 53], 29) := by decide +kernel
theorem dX7_asker_40 : decode cX7_asker 40 = .ok (.aload_n 0, 1) := by decide +kernel
theorem dX7_asker_41 : decode cX7_asker 41 = .ok (.getfield 13, 3) := by decide +kernel
theorem dX7_asker_44 : decode cX7_asker 44 = .ok (.iload_n 1, 1) := by decide +kernel
theorem dX7_asker_45 : decode cX7_asker 45 = .ok (.iaload, 1) := by decide +kernel
theorem dX7_asker_46 : decode cX7_asker 46 = .ok (.ireturn, 1) := by decide +kernel
theorem dX7_asker_47 : decode cX7_asker 47 = .ok (.aload_n 0, 1) := by decide +kernel
theorem dX7_asker_48 : decode cX7_asker 48 = .ok (.getfield 16, 3) := by decide +kernel
theorem dX7_asker_51 : decode cX7_asker 51 = .ok (.iload_n 1, 1) := by decide +kernel
theorem dX7_asker_52 : decode cX7_asker 52 = .ok (.iaload, 1) := by decide +kernel
theorem dX7_asker_53 : decode cX7_asker 53 = .ok (.ireturn, 1) := by decide +kernel
theorem dX7_asker_54 : decode cX7_asker 54 = .ok (.aload_n 0, 1) := by decide +kernel
theorem dX7_asker_55 : decode cX7_asker 55 = .ok (.getfield 40, 3) := by decide +kernel
theorem dX7_asker_58 : decode cX7_asker 58 = .ok (.bipush 6, 2) := by decide +kernel
theorem dX7_asker_60 : decode cX7_asker 60 = .ok (.iload_n 1, 1) := by decide +kernel
theorem dX7_asker_61 : decode cX7_asker 61 = .ok (.iadd, 1) := by decide +kernel
theorem dX7_asker_62 : decode cX7_asker 62 = .ok (.iaload, 1) := by decide +kernel
theorem dX7_asker_63 : decode cX7_asker 63 = .ok (.ireturn, 1) := by decide +kernel
theorem dX7_asker_64 : decode cX7_asker 64 = .ok (.aload_n 0, 1) := by decide +kernel
theorem dX7_asker_65 : decode cX7_asker 65 = .ok (.iload_n 1, 1) := by decide +kernel
theorem dX7_asker_66 : decode cX7_asker 66 = .ok (.invokevirtual 149, 3) := by decide +kernel
theorem dX7_asker_69 : decode cX7_asker 69 = .ok (.ireturn, 1) := by decide +kernel
theorem dX7_asker_70 : decode cX7_asker 70 = .ok (.bipush (-2), 2) := by decide +kernel
theorem dX7_asker_72 : decode cX7_asker 72 = .ok (.ireturn, 1) := by decide +kernel
theorem dX7_asks_0 : decode cX7_asks 0 = .ok (.iload_n 0, 1) := by decide +kernel
theorem dX7_asks_1 : decode cX7_asks 1 = .ok (.istore_n 2, 1) := by decide +kernel
theorem dX7_asks_2 : decode cX7_asks 2 = .ok (.iload_n 1, 1) := by decide +kernel
theorem dX7_asks_3 : decode cX7_asks 3 = .ok (.istore_n 3, 1) := by decide +kernel
theorem dX7_asks_4 : decode cX7_asks 4 = .ok (.iload_n 3, 1) := by decide +kernel
theorem dX7_asks_5 : decode cX7_asks 5 = .ok (.iconst 3, 1) := by decide +kernel
theorem dX7_asks_6 : decode cX7_asks 6 = .ok (.if_icmp .ge 13, 3) := by decide +kernel
theorem dX7_asks_9 : decode cX7_asks 9 = .ok (.iload_n 2, 1) := by decide +kernel
theorem dX7_asks_10 : decode cX7_asks 10 = .ok (.iconst 5, 1) := by decide +kernel
theorem dX7_asks_11 : decode cX7_asks 11 = .ok (.idiv, 1) := by decide +kernel
theorem dX7_asks_12 : decode cX7_asks 12 = .ok (.istore_n 2, 1) := by decide +kernel
theorem dX7_asks_13 : decode cX7_asks 13 = .ok (.iinc 3 1, 3) := by decide +kernel
theorem dX7_asks_16 : decode cX7_asks 16 = .ok (.goto (-12), 3) := by decide +kernel
theorem dX7_asks_19 : decode cX7_asks 19 = .ok (.iload_n 2, 1) := by decide +kernel
theorem dX7_asks_20 : decode cX7_asks 20 = .ok (.iconst 5, 1) := by decide +kernel
theorem dX7_asks_21 : decode cX7_asks 21 = .ok (.irem, 1) := by decide +kernel
theorem dX7_asks_22 : decode cX7_asks 22 = .ok (.ireturn, 1) := by decide +kernel
theorem dX7_mayLink_0 : decode cX7_mayLink 0 = .ok (.iconst 0, 1) := by decide +kernel
theorem dX7_mayLink_1 : decode cX7_mayLink 1 = .ok (.istore_n 2, 1) := by decide +kernel
theorem dX7_mayLink_2 : decode cX7_mayLink 2 = .ok (.iconst 0, 1) := by decide +kernel
theorem dX7_mayLink_3 : decode cX7_mayLink 3 = .ok (.istore_n 3, 1) := by decide +kernel
theorem dX7_mayLink_4 : decode cX7_mayLink 4 = .ok (.iload_n 3, 1) := by decide +kernel
theorem dX7_mayLink_5 : decode cX7_mayLink 5 = .ok (.aload_n 0, 1) := by decide +kernel
theorem dX7_mayLink_6 : decode cX7_mayLink 6 = .ok (.getfield 93, 3) := by decide +kernel
theorem dX7_mayLink_9 : decode cX7_mayLink 9 = .ok (.if_icmp .ge 115, 3) := by decide +kernel
theorem dX7_mayLink_12 : decode cX7_mayLink 12 = .ok (.iload_n 3, 1) := by decide +kernel
theorem dX7_mayLink_13 : decode cX7_mayLink 13 = .ok (.iload_n 1, 1) := by decide +kernel
theorem dX7_mayLink_14 : decode cX7_mayLink 14 = .ok (.if_icmp .eq 34, 3) := by decide +kernel
theorem dX7_mayLink_17 : decode cX7_mayLink 17 = .ok (.aload_n 0, 1) := by decide +kernel
theorem dX7_mayLink_18 : decode cX7_mayLink 18 = .ok (.getfield 25, 3) := by decide +kernel
theorem dX7_mayLink_21 : decode cX7_mayLink 21 = .ok (.iconst 5, 1) := by decide +kernel
theorem dX7_mayLink_22 : decode cX7_mayLink 22 = .ok (.iload_n 1, 1) := by decide +kernel
theorem dX7_mayLink_23 : decode cX7_mayLink 23 = .ok (.imul, 1) := by decide +kernel
theorem dX7_mayLink_24 : decode cX7_mayLink 24 = .ok (.iconst 4, 1) := by decide +kernel
theorem dX7_mayLink_25 : decode cX7_mayLink 25 = .ok (.iadd, 1) := by decide +kernel
theorem dX7_mayLink_26 : decode cX7_mayLink 26 = .ok (.iaload, 1) := by decide +kernel
theorem dX7_mayLink_27 : decode cX7_mayLink 27 = .ok (.iconst 1, 1) := by decide +kernel
theorem dX7_mayLink_28 : decode cX7_mayLink 28 = .ok (.if_icmp .eq 16, 3) := by decide +kernel
theorem dX7_mayLink_31 : decode cX7_mayLink 31 = .ok (.aload_n 0, 1) := by decide +kernel
theorem dX7_mayLink_32 : decode cX7_mayLink 32 = .ok (.getfield 25, 3) := by decide +kernel
theorem dX7_mayLink_35 : decode cX7_mayLink 35 = .ok (.iconst 5, 1) := by decide +kernel
theorem dX7_mayLink_36 : decode cX7_mayLink 36 = .ok (.iload_n 3, 1) := by decide +kernel
theorem dX7_mayLink_37 : decode cX7_mayLink 37 = .ok (.imul, 1) := by decide +kernel
theorem dX7_mayLink_38 : decode cX7_mayLink 38 = .ok (.iconst 4, 1) := by decide +kernel
theorem dX7_mayLink_39 : decode cX7_mayLink 39 = .ok (.iadd, 1) := by decide +kernel
theorem dX7_mayLink_40 : decode cX7_mayLink 40 = .ok (.iaload, 1) := by decide +kernel
theorem dX7_mayLink_41 : decode cX7_mayLink 41 = .ok (.ifCond .ne 7, 3) := by decide +kernel
theorem dX7_mayLink_44 : decode cX7_mayLink 44 = .ok (.iconst 1, 1) := by decide +kernel
theorem dX7_mayLink_45 : decode cX7_mayLink 45 = .ok (.goto 4, 3) := by decide +kernel
theorem dX7_mayLink_48 : decode cX7_mayLink 48 = .ok (.iconst 0, 1) := by decide +kernel
theorem dX7_mayLink_49 : decode cX7_mayLink 49 = .ok (.istore 4, 2) := by decide +kernel
theorem dX7_mayLink_51 : decode cX7_mayLink 51 = .ok (.iconst 0, 1) := by decide +kernel
theorem dX7_mayLink_52 : decode cX7_mayLink 52 = .ok (.istore 5, 2) := by decide +kernel
theorem dX7_mayLink_54 : decode cX7_mayLink 54 = .ok (.iload 5, 2) := by decide +kernel
theorem dX7_mayLink_56 : decode cX7_mayLink 56 = .ok (.aload_n 0, 1) := by decide +kernel
theorem dX7_mayLink_57 : decode cX7_mayLink 57 = .ok (.getfield 96, 3) := by decide +kernel
theorem dX7_mayLink_60 : decode cX7_mayLink 60 = .ok (.if_icmp .ge 43, 3) := by decide +kernel
theorem dX7_mayLink_63 : decode cX7_mayLink 63 = .ok (.iload 4, 2) := by decide +kernel
theorem dX7_mayLink_65 : decode cX7_mayLink 65 = .ok (.ifCond .eq 29, 3) := by decide +kernel
theorem dX7_mayLink_68 : decode cX7_mayLink 68 = .ok (.aload_n 0, 1) := by decide +kernel
theorem dX7_mayLink_69 : decode cX7_mayLink 69 = .ok (.getfield 34, 3) := by decide +kernel
theorem dX7_mayLink_72 : decode cX7_mayLink 72 = .ok (.iload 5, 2) := by decide +kernel
theorem dX7_mayLink_74 : decode cX7_mayLink 74 = .ok (.iaload, 1) := by decide +kernel
theorem dX7_mayLink_75 : decode cX7_mayLink 75 = .ok (.iload_n 1, 1) := by decide +kernel
theorem dX7_mayLink_76 : decode cX7_mayLink 76 = .ok (.if_icmp .ne 14, 3) := by decide +kernel
theorem dX7_mayLink_79 : decode cX7_mayLink 79 = .ok (.aload_n 0, 1) := by decide +kernel
theorem dX7_mayLink_80 : decode cX7_mayLink 80 = .ok (.getfield 37, 3) := by decide +kernel
theorem dX7_mayLink_83 : decode cX7_mayLink 83 = .ok (.iload 5, 2) := by decide +kernel
theorem dX7_mayLink_85 : decode cX7_mayLink 85 = .ok (.iaload, 1) := by decide +kernel
theorem dX7_mayLink_86 : decode cX7_mayLink 86 = .ok (.iload_n 3, 1) := by decide +kernel
theorem dX7_mayLink_87 : decode cX7_mayLink 87 = .ok (.if_icmp .eq 7, 3) := by decide +kernel
theorem dX7_mayLink_90 : decode cX7_mayLink 90 = .ok (.iconst 1, 1) := by decide +kernel
theorem dX7_mayLink_91 : decode cX7_mayLink 91 = .ok (.goto 4, 3) := by decide +kernel
theorem dX7_mayLink_94 : decode cX7_mayLink 94 = .ok (.iconst 0, 1) := by decide +kernel
theorem dX7_mayLink_95 : decode cX7_mayLink 95 = .ok (.istore 4, 2) := by decide +kernel
theorem dX7_mayLink_97 : decode cX7_mayLink 97 = .ok (.iinc 5 1, 3) := by decide +kernel
theorem dX7_mayLink_100 : decode cX7_mayLink 100 = .ok (.goto (-46), 3) := by decide +kernel
theorem dX7_mayLink_103 : decode cX7_mayLink 103 = .ok (.iload_n 2, 1) := by decide +kernel
theorem dX7_mayLink_104 : decode cX7_mayLink 104 = .ok (.iload 4, 2) := by decide +kernel
theorem dX7_mayLink_106 : decode cX7_mayLink 106 = .ok (.ifCond .eq 9, 3) := by decide +kernel
theorem dX7_mayLink_109 : decode cX7_mayLink 109 = .ok (.iconst 1, 1) := by decide +kernel
theorem dX7_mayLink_110 : decode cX7_mayLink 110 = .ok (.iload_n 3, 1) := by decide +kernel
theorem dX7_mayLink_111 : decode cX7_mayLink 111 = .ok (.ishl, 1) := by decide +kernel
theorem dX7_mayLink_112 : decode cX7_mayLink 112 = .ok (.goto 4, 3) := by decide +kernel
theorem dX7_mayLink_115 : decode cX7_mayLink 115 = .ok (.iconst 0, 1) := by decide +kernel
theorem dX7_mayLink_116 : decode cX7_mayLink 116 = .ok (.ior, 1) := by decide +kernel
theorem dX7_mayLink_117 : decode cX7_mayLink 117 = .ok (.istore_n 2, 1) := by decide +kernel
theorem dX7_mayLink_118 : decode cX7_mayLink 118 = .ok (.iinc 3 1, 3) := by decide +kernel
theorem dX7_mayLink_121 : decode cX7_mayLink 121 = .ok (.goto (-117), 3) := by decide +kernel
theorem dX7_mayLink_124 : decode cX7_mayLink 124 = .ok (.iload_n 2, 1) := by decide +kernel
theorem dX7_mayLink_125 : decode cX7_mayLink 125 = .ok (.ireturn, 1) := by decide +kernel
theorem dX7_begins_0 : decode cX7_begins 0 = .ok (.iconst 0, 1) := by decide +kernel
theorem dX7_begins_1 : decode cX7_begins 1 = .ok (.istore_n 1, 1) := by decide +kernel
theorem dX7_begins_2 : decode cX7_begins 2 = .ok (.iconst 0, 1) := by decide +kernel
theorem dX7_begins_3 : decode cX7_begins 3 = .ok (.istore_n 2, 1) := by decide +kernel
theorem dX7_begins_4 : decode cX7_begins 4 = .ok (.iload_n 2, 1) := by decide +kernel
theorem dX7_begins_5 : decode cX7_begins 5 = .ok (.aload_n 0, 1) := by decide +kernel
theorem dX7_begins_6 : decode cX7_begins 6 = .ok (.getfield 93, 3) := by decide +kernel
theorem dX7_begins_9 : decode cX7_begins 9 = .ok (.if_icmp .ge 27, 3) := by decide +kernel
theorem dX7_begins_12 : decode cX7_begins 12 = .ok (.iload_n 1, 1) := by decide +kernel
theorem dX7_begins_13 : decode cX7_begins 13 = .ok (.aload_n 0, 1) := by decide +kernel
theorem dX7_begins_14 : decode cX7_begins 14 = .ok (.iload_n 2, 1) := by decide +kernel
theorem dX7_begins_15 : decode cX7_begins 15 = .ok (.invokevirtual 99, 3) := by decide +kernel
theorem dX7_begins_18 : decode cX7_begins 18 = .ok (.ifCond .eq 9, 3) := by decide +kernel
theorem dX7_begins_21 : decode cX7_begins 21 = .ok (.iconst 1, 1) := by decide +kernel
theorem dX7_begins_22 : decode cX7_begins 22 = .ok (.iload_n 2, 1) := by decide +kernel
theorem dX7_begins_23 : decode cX7_begins 23 = .ok (.ishl, 1) := by decide +kernel
theorem dX7_begins_24 : decode cX7_begins 24 = .ok (.goto 4, 3) := by decide +kernel
theorem dX7_begins_27 : decode cX7_begins 27 = .ok (.iconst 0, 1) := by decide +kernel
theorem dX7_begins_28 : decode cX7_begins 28 = .ok (.ior, 1) := by decide +kernel
theorem dX7_begins_29 : decode cX7_begins 29 = .ok (.istore_n 1, 1) := by decide +kernel
theorem dX7_begins_30 : decode cX7_begins 30 = .ok (.iinc 2 1, 3) := by decide +kernel
theorem dX7_begins_33 : decode cX7_begins 33 = .ok (.goto (-29), 3) := by decide +kernel
theorem dX7_begins_36 : decode cX7_begins 36 = .ok (.iload_n 1, 1) := by decide +kernel
theorem dX7_begins_37 : decode cX7_begins 37 = .ok (.ireturn, 1) := by decide +kernel
theorem dX7_has_0 : decode cX7_has 0 = .ok (.iload_n 0, 1) := by decide +kernel
theorem dX7_has_1 : decode cX7_has 1 = .ok (.iload_n 1, 1) := by decide +kernel
theorem dX7_has_2 : decode cX7_has 2 = .ok (.ishr, 1) := by decide +kernel
theorem dX7_has_3 : decode cX7_has 3 = .ok (.iconst 1, 1) := by decide +kernel
theorem dX7_has_4 : decode cX7_has 4 = .ok (.iand, 1) := by decide +kernel
theorem dX7_has_5 : decode cX7_has 5 = .ok (.iconst 1, 1) := by decide +kernel
theorem dX7_has_6 : decode cX7_has 6 = .ok (.if_icmp .ne 7, 3) := by decide +kernel
theorem dX7_has_9 : decode cX7_has 9 = .ok (.iconst 1, 1) := by decide +kernel
theorem dX7_has_10 : decode cX7_has 10 = .ok (.goto 4, 3) := by decide +kernel
theorem dX7_has_13 : decode cX7_has 13 = .ok (.iconst 0, 1) := by decide +kernel
theorem dX7_has_14 : decode cX7_has 14 = .ok (.ireturn, 1) := by decide +kernel
theorem dX7_setBy_0 : decode cX7_setBy 0 = .ok (.iconst 0, 1) := by decide +kernel
theorem dX7_setBy_1 : decode cX7_setBy 1 = .ok (.istore_n 3, 1) := by decide +kernel
theorem dX7_setBy_2 : decode cX7_setBy 2 = .ok (.iconst 0, 1) := by decide +kernel
theorem dX7_setBy_3 : decode cX7_setBy 3 = .ok (.istore 4, 2) := by decide +kernel
theorem dX7_setBy_5 : decode cX7_setBy 5 = .ok (.iload 4, 2) := by decide +kernel
theorem dX7_setBy_7 : decode cX7_setBy 7 = .ok (.iconst 4, 1) := by decide +kernel
theorem dX7_setBy_8 : decode cX7_setBy 8 = .ok (.if_icmp .ge 106, 3) := by decide +kernel
theorem dX7_setBy_11 : decode cX7_setBy 11 = .ok (.iload_n 1, 1) := by decide +kernel
theorem dX7_setBy_12 : decode cX7_setBy 12 = .ok (.iload 4, 2) := by decide +kernel
theorem dX7_setBy_14 : decode cX7_setBy 14 = .ok (.invokestatic 207, 3) := by decide +kernel
theorem dX7_setBy_17 : decode cX7_setBy 17 = .ok (.istore 5, 2) := by decide +kernel
theorem dX7_setBy_19 : decode cX7_setBy 19 = .ok (.iload 5, 2) := by decide +kernel
theorem dX7_setBy_21 : decode cX7_setBy 21 = .ok (.iconst 4, 1) := by decide +kernel
theorem dX7_setBy_22 : decode cX7_setBy 22 = .ok (.if_icmp .ge 86, 3) := by decide +kernel
theorem dX7_setBy_25 : decode cX7_setBy 25 = .ok (.iload 4, 2) := by decide +kernel
theorem dX7_setBy_27 : decode cX7_setBy 27 = .ok (.aload_n 0, 1) := by decide +kernel
theorem dX7_setBy_28 : decode cX7_setBy 28 = .ok (.getfield 127, 3) := by decide +kernel
theorem dX7_setBy_31 : decode cX7_setBy 31 = .ok (.if_icmp .ge 59, 3) := by decide +kernel
theorem dX7_setBy_34 : decode cX7_setBy 34 = .ok (.iload_n 2, 1) := by decide +kernel
theorem dX7_setBy_35 : decode cX7_setBy 35 = .ok (.iload 4, 2) := by decide +kernel
theorem dX7_setBy_37 : decode cX7_setBy 37 = .ok (.invokestatic 89, 3) := by decide +kernel
theorem dX7_setBy_40 : decode cX7_setBy 40 = .ok (.ifCond .eq 50, 3) := by decide +kernel
theorem dX7_setBy_43 : decode cX7_setBy 43 = .ok (.aload_n 0, 1) := by decide +kernel
theorem dX7_setBy_44 : decode cX7_setBy 44 = .ok (.iload 5, 2) := by decide +kernel
theorem dX7_setBy_46 : decode cX7_setBy 46 = .ok (.invokevirtual 136, 3) := by decide +kernel
theorem dX7_setBy_49 : decode cX7_setBy 49 = .ok (.ifCond .eq 41, 3) := by decide +kernel
theorem dX7_setBy_52 : decode cX7_setBy 52 = .ok (.iload 5, 2) := by decide +kernel
theorem dX7_setBy_54 : decode cX7_setBy 54 = .ok (.i2l, 1) := by decide +kernel
theorem dX7_setBy_55 : decode cX7_setBy 55 = .ok (.aload_n 0, 1) := by decide +kernel
theorem dX7_setBy_56 : decode cX7_setBy 56 = .ok (.getfield 13, 3) := by decide +kernel
theorem dX7_setBy_59 : decode cX7_setBy 59 = .ok (.iload 4, 2) := by decide +kernel
theorem dX7_setBy_61 : decode cX7_setBy 61 = .ok (.iaload, 1) := by decide +kernel
theorem dX7_setBy_62 : decode cX7_setBy 62 = .ok (.i2l, 1) := by decide +kernel
theorem dX7_setBy_63 : decode cX7_setBy 63 = .ok (.aload_n 0, 1) := by decide +kernel
theorem dX7_setBy_64 : decode cX7_setBy 64 = .ok (.getfield 16, 3) := by decide +kernel
theorem dX7_setBy_67 : decode cX7_setBy 67 = .ok (.iload 4, 2) := by decide +kernel
theorem dX7_setBy_69 : decode cX7_setBy 69 = .ok (.iaload, 1) := by decide +kernel
theorem dX7_setBy_70 : decode cX7_setBy 70 = .ok (.i2l, 1) := by decide +kernel
theorem dX7_setBy_71 : decode cX7_setBy 71 = .ok (.invokestatic 73, 3) := by decide +kernel
theorem dX7_setBy_74 : decode cX7_setBy 74 = .ok (.ifCond .eq 16, 3) := by decide +kernel
theorem dX7_setBy_77 : decode cX7_setBy 77 = .ok (.iload_n 3, 1) := by decide +kernel
theorem dX7_setBy_78 : decode cX7_setBy 78 = .ok (.iload 5, 2) := by decide +kernel
theorem dX7_setBy_80 : decode cX7_setBy 80 = .ok (.invokestatic 89, 3) := by decide +kernel
theorem dX7_setBy_83 : decode cX7_setBy 83 = .ok (.ifCond .ne 7, 3) := by decide +kernel
theorem dX7_setBy_86 : decode cX7_setBy 86 = .ok (.iconst 1, 1) := by decide +kernel
theorem dX7_setBy_87 : decode cX7_setBy 87 = .ok (.goto 4, 3) := by decide +kernel
theorem dX7_setBy_90 : decode cX7_setBy 90 = .ok (.iconst 0, 1) := by decide +kernel
theorem dX7_setBy_91 : decode cX7_setBy 91 = .ok (.istore 6, 2) := by decide +kernel
theorem dX7_setBy_93 : decode cX7_setBy 93 = .ok (.iload 6, 2) := by decide +kernel
theorem dX7_setBy_95 : decode cX7_setBy 95 = .ok (.ifCond .ne 6, 3) := by decide +kernel
theorem dX7_setBy_98 : decode cX7_setBy 98 = .ok (.bipush (-9), 2) := by decide +kernel
theorem dX7_setBy_100 : decode cX7_setBy 100 = .ok (.ireturn, 1) := by decide +kernel
theorem dX7_setBy_101 : decode cX7_setBy 101 = .ok (.iload_n 3, 1) := by decide +kernel
theorem dX7_setBy_102 : decode cX7_setBy 102 = .ok (.iconst 1, 1) := by decide +kernel
theorem dX7_setBy_103 : decode cX7_setBy 103 = .ok (.iload 5, 2) := by decide +kernel
theorem dX7_setBy_105 : decode cX7_setBy 105 = .ok (.ishl, 1) := by decide +kernel
theorem dX7_setBy_106 : decode cX7_setBy 106 = .ok (.ior, 1) := by decide +kernel
theorem dX7_setBy_107 : decode cX7_setBy 107 = .ok (.istore_n 3, 1) := by decide +kernel
theorem dX7_setBy_108 : decode cX7_setBy 108 = .ok (.iinc 4 1, 3) := by decide +kernel
theorem dX7_setBy_111 : decode cX7_setBy 111 = .ok (.goto (-106), 3) := by decide +kernel
theorem dX7_setBy_114 : decode cX7_setBy 114 = .ok (.iload_n 3, 1) := by decide +kernel
theorem dX7_setBy_115 : decode cX7_setBy 115 = .ok (.ireturn, 1) := by decide +kernel
theorem dX7_ones_0 : decode cX7_ones 0 = .ok (.iload_n 0, 1) := by decide +kernel
theorem dX7_ones_1 : decode cX7_ones 1 = .ok (.iconst 1, 1) := by decide +kernel
theorem dX7_ones_2 : decode cX7_ones 2 = .ok (.iand, 1) := by decide +kernel
theorem dX7_ones_3 : decode cX7_ones 3 = .ok (.iload_n 0, 1) := by decide +kernel
theorem dX7_ones_4 : decode cX7_ones 4 = .ok (.iconst 1, 1) := by decide +kernel
theorem dX7_ones_5 : decode cX7_ones 5 = .ok (.ishr, 1) := by decide +kernel
theorem dX7_ones_6 : decode cX7_ones 6 = .ok (.iconst 1, 1) := by decide +kernel
theorem dX7_ones_7 : decode cX7_ones 7 = .ok (.iand, 1) := by decide +kernel
theorem dX7_ones_8 : decode cX7_ones 8 = .ok (.iadd, 1) := by decide +kernel
theorem dX7_ones_9 : decode cX7_ones 9 = .ok (.iload_n 0, 1) := by decide +kernel
theorem dX7_ones_10 : decode cX7_ones 10 = .ok (.iconst 2, 1) := by decide +kernel
theorem dX7_ones_11 : decode cX7_ones 11 = .ok (.ishr, 1) := by decide +kernel
theorem dX7_ones_12 : decode cX7_ones 12 = .ok (.iconst 1, 1) := by decide +kernel
theorem dX7_ones_13 : decode cX7_ones 13 = .ok (.iand, 1) := by decide +kernel
theorem dX7_ones_14 : decode cX7_ones 14 = .ok (.iadd, 1) := by decide +kernel
theorem dX7_ones_15 : decode cX7_ones 15 = .ok (.iload_n 0, 1) := by decide +kernel
theorem dX7_ones_16 : decode cX7_ones 16 = .ok (.iconst 3, 1) := by decide +kernel
theorem dX7_ones_17 : decode cX7_ones 17 = .ok (.ishr, 1) := by decide +kernel
theorem dX7_ones_18 : decode cX7_ones 18 = .ok (.iconst 1, 1) := by decide +kernel
theorem dX7_ones_19 : decode cX7_ones 19 = .ok (.iand, 1) := by decide +kernel
theorem dX7_ones_20 : decode cX7_ones 20 = .ok (.iadd, 1) := by decide +kernel
theorem dX7_ones_21 : decode cX7_ones 21 = .ok (.ireturn, 1) := by decide +kernel
theorem dX7_bestBy_0 : decode cX7_bestBy 0 = .ok (.iconst 0, 1) := by decide +kernel
theorem dX7_bestBy_1 : decode cX7_bestBy 1 = .ok (.istore_n 2, 1) := by decide +kernel
theorem dX7_bestBy_2 : decode cX7_bestBy 2 = .ok (.iconst 0, 1) := by decide +kernel
theorem dX7_bestBy_3 : decode cX7_bestBy 3 = .ok (.istore_n 3, 1) := by decide +kernel
theorem dX7_bestBy_4 : decode cX7_bestBy 4 = .ok (.iload_n 3, 1) := by decide +kernel
theorem dX7_bestBy_5 : decode cX7_bestBy 5 = .ok (.sipush 625, 3) := by decide +kernel
theorem dX7_bestBy_8 : decode cX7_bestBy 8 = .ok (.if_icmp .ge 91, 3) := by decide +kernel
theorem dX7_bestBy_11 : decode cX7_bestBy 11 = .ok (.aload_n 0, 1) := by decide +kernel
theorem dX7_bestBy_12 : decode cX7_bestBy 12 = .ok (.iload_n 3, 1) := by decide +kernel
theorem dX7_bestBy_13 : decode cX7_bestBy 13 = .ok (.iload_n 1, 1) := by decide +kernel
theorem dX7_bestBy_14 : decode cX7_bestBy 14 = .ok (.invokevirtual 210, 3) := by decide +kernel
theorem dX7_bestBy_17 : decode cX7_bestBy 17 = .ok (.istore 4, 2) := by decide +kernel
theorem dX7_bestBy_19 : decode cX7_bestBy 19 = .ok (.iload 4, 2) := by decide +kernel
theorem dX7_bestBy_21 : decode cX7_bestBy 21 = .ok (.bipush (-9), 2) := by decide +kernel
theorem dX7_bestBy_23 : decode cX7_bestBy 23 = .ok (.if_icmp .eq 70, 3) := by decide +kernel
theorem dX7_bestBy_26 : decode cX7_bestBy 26 = .ok (.iload 4, 2) := by decide +kernel
theorem dX7_bestBy_28 : decode cX7_bestBy 28 = .ok (.iload_n 2, 1) := by decide +kernel
theorem dX7_bestBy_29 : decode cX7_bestBy 29 = .ok (.if_icmp .eq 64, 3) := by decide +kernel
theorem dX7_bestBy_32 : decode cX7_bestBy 32 = .ok (.aload_n 0, 1) := by decide +kernel
theorem dX7_bestBy_33 : decode cX7_bestBy 33 = .ok (.getfield 49, 3) := by decide +kernel
theorem dX7_bestBy_36 : decode cX7_bestBy 36 = .ok (.iload 4, 2) := by decide +kernel
theorem dX7_bestBy_38 : decode cX7_bestBy 38 = .ok (.iaload, 1) := by decide +kernel
theorem dX7_bestBy_39 : decode cX7_bestBy 39 = .ok (.aload_n 0, 1) := by decide +kernel
theorem dX7_bestBy_40 : decode cX7_bestBy 40 = .ok (.getfield 49, 3) := by decide +kernel
theorem dX7_bestBy_43 : decode cX7_bestBy 43 = .ok (.iload_n 2, 1) := by decide +kernel
theorem dX7_bestBy_44 : decode cX7_bestBy 44 = .ok (.iaload, 1) := by decide +kernel
theorem dX7_bestBy_45 : decode cX7_bestBy 45 = .ok (.isub, 1) := by decide +kernel
theorem dX7_bestBy_46 : decode cX7_bestBy 46 = .ok (.istore 5, 2) := by decide +kernel
theorem dX7_bestBy_48 : decode cX7_bestBy 48 = .ok (.iload_n 2, 1) := by decide +kernel
theorem dX7_bestBy_49 : decode cX7_bestBy 49 = .ok (.invokestatic 213, 3) := by decide +kernel
theorem dX7_bestBy_52 : decode cX7_bestBy 52 = .ok (.iload 4, 2) := by decide +kernel
theorem dX7_bestBy_54 : decode cX7_bestBy 54 = .ok (.invokestatic 213, 3) := by decide +kernel
theorem dX7_bestBy_57 : decode cX7_bestBy 57 = .ok (.isub, 1) := by decide +kernel
theorem dX7_bestBy_58 : decode cX7_bestBy 58 = .ok (.istore 6, 2) := by decide +kernel
theorem dX7_bestBy_60 : decode cX7_bestBy 60 = .ok (.iload 5, 2) := by decide +kernel
theorem dX7_bestBy_62 : decode cX7_bestBy 62 = .ok (.ifCond .gt 24, 3) := by decide +kernel
theorem dX7_bestBy_65 : decode cX7_bestBy 65 = .ok (.iload 5, 2) := by decide +kernel
theorem dX7_bestBy_67 : decode cX7_bestBy 67 = .ok (.ifCond .ne 24, 3) := by decide +kernel
theorem dX7_bestBy_70 : decode cX7_bestBy 70 = .ok (.iload 6, 2) := by decide +kernel
theorem dX7_bestBy_72 : decode cX7_bestBy 72 = .ok (.ifCond .gt 14, 3) := by decide +kernel
theorem dX7_bestBy_75 : decode cX7_bestBy 75 = .ok (.iload 6, 2) := by decide +kernel
theorem dX7_bestBy_77 : decode cX7_bestBy 77 = .ok (.ifCond .ne 14, 3) := by decide +kernel
theorem dX7_bestBy_80 : decode cX7_bestBy 80 = .ok (.iload 4, 2) := by decide +kernel
theorem dX7_bestBy_82 : decode cX7_bestBy 82 = .ok (.iload_n 2, 1) := by decide +kernel
theorem dX7_bestBy_83 : decode cX7_bestBy 83 = .ok (.if_icmp .ge 8, 3) := by decide +kernel
theorem dX7_bestBy_86 : decode cX7_bestBy 86 = .ok (.iload 4, 2) := by decide +kernel
theorem dX7_bestBy_88 : decode cX7_bestBy 88 = .ok (.goto 4, 3) := by decide +kernel
theorem dX7_bestBy_91 : decode cX7_bestBy 91 = .ok (.iload_n 2, 1) := by decide +kernel
theorem dX7_bestBy_92 : decode cX7_bestBy 92 = .ok (.istore_n 2, 1) := by decide +kernel
theorem dX7_bestBy_93 : decode cX7_bestBy 93 = .ok (.iinc 3 1, 3) := by decide +kernel
theorem dX7_bestBy_96 : decode cX7_bestBy 96 = .ok (.goto (-92), 3) := by decide +kernel
theorem dX7_bestBy_99 : decode cX7_bestBy 99 = .ok (.iload_n 2, 1) := by decide +kernel
theorem dX7_bestBy_100 : decode cX7_bestBy 100 = .ok (.ireturn, 1) := by decide +kernel
theorem dX7_isWorld_0 : decode cX7_isWorld 0 = .ok (.iconst 1, 1) := by decide +kernel
theorem dX7_isWorld_1 : decode cX7_isWorld 1 = .ok (.istore_n 2, 1) := by decide +kernel
theorem dX7_isWorld_2 : decode cX7_isWorld 2 = .ok (.iconst 0, 1) := by decide +kernel
theorem dX7_isWorld_3 : decode cX7_isWorld 3 = .ok (.istore_n 3, 1) := by decide +kernel
theorem dX7_isWorld_4 : decode cX7_isWorld 4 = .ok (.iload_n 3, 1) := by decide +kernel
theorem dX7_isWorld_5 : decode cX7_isWorld 5 = .ok (.aload_n 0, 1) := by decide +kernel
theorem dX7_isWorld_6 : decode cX7_isWorld 6 = .ok (.getfield 130, 3) := by decide +kernel
theorem dX7_isWorld_9 : decode cX7_isWorld 9 = .ok (.if_icmp .ge 45, 3) := by decide +kernel
theorem dX7_isWorld_12 : decode cX7_isWorld 12 = .ok (.iload_n 2, 1) := by decide +kernel
theorem dX7_isWorld_13 : decode cX7_isWorld 13 = .ok (.ifCond .eq 33, 3) := by decide +kernel
theorem dX7_isWorld_16 : decode cX7_isWorld 16 = .ok (.iload_n 1, 1) := by decide +kernel
theorem dX7_isWorld_17 : decode cX7_isWorld 17 = .ok (.aload_n 0, 1) := by decide +kernel
theorem dX7_isWorld_18 : decode cX7_isWorld 18 = .ok (.getfield 19, 3) := by decide +kernel
theorem dX7_isWorld_21 : decode cX7_isWorld 21 = .ok (.iload_n 3, 1) := by decide +kernel
theorem dX7_isWorld_22 : decode cX7_isWorld 22 = .ok (.iaload, 1) := by decide +kernel
theorem dX7_isWorld_23 : decode cX7_isWorld 23 = .ok (.invokestatic 89, 3) := by decide +kernel
theorem dX7_isWorld_26 : decode cX7_isWorld 26 = .ok (.ifCond .eq 16, 3) := by decide +kernel
theorem dX7_isWorld_29 : decode cX7_isWorld 29 = .ok (.iload_n 1, 1) := by decide +kernel
theorem dX7_isWorld_30 : decode cX7_isWorld 30 = .ok (.aload_n 0, 1) := by decide +kernel
theorem dX7_isWorld_31 : decode cX7_isWorld 31 = .ok (.getfield 22, 3) := by decide +kernel
theorem dX7_isWorld_34 : decode cX7_isWorld 34 = .ok (.iload_n 3, 1) := by decide +kernel
theorem dX7_isWorld_35 : decode cX7_isWorld 35 = .ok (.iaload, 1) := by decide +kernel
theorem dX7_isWorld_36 : decode cX7_isWorld 36 = .ok (.invokestatic 89, 3) := by decide +kernel
theorem dX7_isWorld_39 : decode cX7_isWorld 39 = .ok (.ifCond .eq 7, 3) := by decide +kernel
theorem dX7_isWorld_42 : decode cX7_isWorld 42 = .ok (.iconst 1, 1) := by decide +kernel
theorem dX7_isWorld_43 : decode cX7_isWorld 43 = .ok (.goto 4, 3) := by decide +kernel
theorem dX7_isWorld_46 : decode cX7_isWorld 46 = .ok (.iconst 0, 1) := by decide +kernel
theorem dX7_isWorld_47 : decode cX7_isWorld 47 = .ok (.istore_n 2, 1) := by decide +kernel
theorem dX7_isWorld_48 : decode cX7_isWorld 48 = .ok (.iinc 3 1, 3) := by decide +kernel
theorem dX7_isWorld_51 : decode cX7_isWorld 51 = .ok (.goto (-47), 3) := by decide +kernel
theorem dX7_isWorld_54 : decode cX7_isWorld 54 = .ok (.iload_n 2, 1) := by decide +kernel
theorem dX7_isWorld_55 : decode cX7_isWorld 55 = .ok (.ireturn, 1) := by decide +kernel
theorem dX7_endBy_0 : decode cX7_endBy 0 = .ok (.aload_n 0, 1) := by decide +kernel
theorem dX7_endBy_1 : decode cX7_endBy 1 = .ok (.getfield 7, 3) := by decide +kernel
theorem dX7_endBy_4 : decode cX7_endBy 4 = .ok (.iconst 5, 1) := by decide +kernel
theorem dX7_endBy_5 : decode cX7_endBy 5 = .ok (.iload_n 1, 1) := by decide +kernel
theorem dX7_endBy_6 : decode cX7_endBy 6 = .ok (.imul, 1) := by decide +kernel
theorem dX7_endBy_7 : decode cX7_endBy 7 = .ok (.iload_n 2, 1) := by decide +kernel
theorem dX7_endBy_8 : decode cX7_endBy 8 = .ok (.ifCond .eq 7, 3) := by decide +kernel
theorem dX7_endBy_11 : decode cX7_endBy 11 = .ok (.iconst 0, 1) := by decide +kernel
theorem dX7_endBy_12 : decode cX7_endBy 12 = .ok (.goto 4, 3) := by decide +kernel
theorem dX7_endBy_15 : decode cX7_endBy 15 = .ok (.iconst 1, 1) := by decide +kernel
theorem dX7_endBy_16 : decode cX7_endBy 16 = .ok (.iadd, 1) := by decide +kernel
theorem dX7_endBy_17 : decode cX7_endBy 17 = .ok (.iaload, 1) := by decide +kernel
theorem dX7_endBy_18 : decode cX7_endBy 18 = .ok (.ireturn, 1) := by decide +kernel
theorem dX7_isSeenBy_0 : decode cX7_isSeenBy 0 = .ok (.aload_n 0, 1) := by decide +kernel
theorem dX7_isSeenBy_1 : decode cX7_isSeenBy 1 = .ok (.iload_n 1, 1) := by decide +kernel
theorem dX7_isSeenBy_2 : decode cX7_isSeenBy 2 = .ok (.invokevirtual 158, 3) := by decide +kernel
theorem dX7_isSeenBy_5 : decode cX7_isSeenBy 5 = .ok (.istore_n 3, 1) := by decide +kernel
theorem dX7_isSeenBy_6 : decode cX7_isSeenBy 6 = .ok (.iconst 0, 1) := by decide +kernel
theorem dX7_isSeenBy_7 : decode cX7_isSeenBy 7 = .ok (.istore 4, 2) := by decide +kernel
theorem dX7_isSeenBy_9 : decode cX7_isSeenBy 9 = .ok (.iload 4, 2) := by decide +kernel
theorem dX7_isSeenBy_11 : decode cX7_isSeenBy 11 = .ok (.aload_n 0, 1) := by decide +kernel
theorem dX7_isSeenBy_12 : decode cX7_isSeenBy 12 = .ok (.getfield 124, 3) := by decide +kernel
theorem dX7_isSeenBy_15 : decode cX7_isSeenBy 15 = .ok (.if_icmp .ge 63, 3) := by decide +kernel
theorem dX7_isSeenBy_18 : decode cX7_isSeenBy 18 = .ok (.aload_n 0, 1) := by decide +kernel
theorem dX7_isSeenBy_19 : decode cX7_isSeenBy 19 = .ok (.iload 4, 2) := by decide +kernel
theorem dX7_isSeenBy_21 : decode cX7_isSeenBy 21 = .ok (.iload_n 1, 1) := by decide +kernel
theorem dX7_isSeenBy_22 : decode cX7_isSeenBy 22 = .ok (.iload 4, 2) := by decide +kernel
theorem dX7_isSeenBy_24 : decode cX7_isSeenBy 24 = .ok (.invokestatic 89, 3) := by decide +kernel
theorem dX7_isSeenBy_27 : decode cX7_isSeenBy 27 = .ok (.invokevirtual 161, 3) := by decide +kernel
theorem dX7_isSeenBy_30 : decode cX7_isSeenBy 30 = .ok (.istore 5, 2) := by decide +kernel
theorem dX7_isSeenBy_32 : decode cX7_isSeenBy 32 = .ok (.iload_n 3, 1) := by decide +kernel
theorem dX7_isSeenBy_33 : decode cX7_isSeenBy 33 = .ok (.ifCond .eq 37, 3) := by decide +kernel
theorem dX7_isSeenBy_36 : decode cX7_isSeenBy 36 = .ok (.aload_n 0, 1) := by decide +kernel
theorem dX7_isSeenBy_37 : decode cX7_isSeenBy 37 = .ok (.iload 4, 2) := by decide +kernel
theorem dX7_isSeenBy_39 : decode cX7_isSeenBy 39 = .ok (.invokevirtual 140, 3) := by decide +kernel
theorem dX7_isSeenBy_42 : decode cX7_isSeenBy 42 = .ok (.iload_n 2, 1) := by decide +kernel
theorem dX7_isSeenBy_43 : decode cX7_isSeenBy 43 = .ok (.if_icmp .le 12, 3) := by decide +kernel
theorem dX7_isSeenBy_46 : decode cX7_isSeenBy 46 = .ok (.iload 5, 2) := by decide +kernel
theorem dX7_isSeenBy_48 : decode cX7_isSeenBy 48 = .ok (.iload_n 2, 1) := by decide +kernel
theorem dX7_isSeenBy_49 : decode cX7_isSeenBy 49 = .ok (.if_icmp .le 21, 3) := by decide +kernel
theorem dX7_isSeenBy_52 : decode cX7_isSeenBy 52 = .ok (.goto 14, 3) := by decide +kernel
theorem dX7_isSeenBy_55 : decode cX7_isSeenBy 55 = .ok (.iload 5, 2) := by decide +kernel
theorem dX7_isSeenBy_57 : decode cX7_isSeenBy 57 = .ok (.aload_n 0, 1) := by decide +kernel
theorem dX7_isSeenBy_58 : decode cX7_isSeenBy 58 = .ok (.iload 4, 2) := by decide +kernel
theorem dX7_isSeenBy_60 : decode cX7_isSeenBy 60 = .ok (.invokevirtual 140, 3) := by decide +kernel
theorem dX7_isSeenBy_63 : decode cX7_isSeenBy 63 = .ok (.if_icmp .ne 7, 3) := by decide +kernel
theorem dX7_isSeenBy_66 : decode cX7_isSeenBy 66 = .ok (.iconst 1, 1) := by decide +kernel
theorem dX7_isSeenBy_67 : decode cX7_isSeenBy 67 = .ok (.goto 4, 3) := by decide +kernel
theorem dX7_isSeenBy_70 : decode cX7_isSeenBy 70 = .ok (.iconst 0, 1) := by decide +kernel
theorem dX7_isSeenBy_71 : decode cX7_isSeenBy 71 = .ok (.istore_n 3, 1) := by decide +kernel
theorem dX7_isSeenBy_72 : decode cX7_isSeenBy 72 = .ok (.iinc 4 1, 3) := by decide +kernel
theorem dX7_isSeenBy_75 : decode cX7_isSeenBy 75 = .ok (.goto (-66), 3) := by decide +kernel
theorem dX7_isSeenBy_78 : decode cX7_isSeenBy 78 = .ok (.iload_n 3, 1) := by decide +kernel
theorem dX7_isSeenBy_79 : decode cX7_isSeenBy 79 = .ok (.ireturn, 1) := by decide +kernel
theorem dX7_truth_0 : decode cX7_truth 0 = .ok (.iconst 0, 1) := by decide +kernel
theorem dX7_truth_1 : decode cX7_truth 1 = .ok (.istore_n 1, 1) := by decide +kernel
theorem dX7_truth_2 : decode cX7_truth 2 = .ok (.iconst 0, 1) := by decide +kernel
theorem dX7_truth_3 : decode cX7_truth 3 = .ok (.istore_n 2, 1) := by decide +kernel
theorem dX7_truth_4 : decode cX7_truth 4 = .ok (.iload_n 2, 1) := by decide +kernel
theorem dX7_truth_5 : decode cX7_truth 5 = .ok (.aload_n 0, 1) := by decide +kernel
theorem dX7_truth_6 : decode cX7_truth 6 = .ok (.getfield 124, 3) := by decide +kernel
theorem dX7_truth_9 : decode cX7_truth 9 = .ok (.if_icmp .ge 32, 3) := by decide +kernel
theorem dX7_truth_12 : decode cX7_truth 12 = .ok (.iload_n 1, 1) := by decide +kernel
theorem dX7_truth_13 : decode cX7_truth 13 = .ok (.aload_n 0, 1) := by decide +kernel
theorem dX7_truth_14 : decode cX7_truth 14 = .ok (.getfield 7, 3) := by decide +kernel
theorem dX7_truth_17 : decode cX7_truth 17 = .ok (.iconst 5, 1) := by decide +kernel
theorem dX7_truth_18 : decode cX7_truth 18 = .ok (.iload_n 2, 1) := by decide +kernel
theorem dX7_truth_19 : decode cX7_truth 19 = .ok (.imul, 1) := by decide +kernel
theorem dX7_truth_20 : decode cX7_truth 20 = .ok (.iconst 4, 1) := by decide +kernel
theorem dX7_truth_21 : decode cX7_truth 21 = .ok (.iadd, 1) := by decide +kernel
theorem dX7_truth_22 : decode cX7_truth 22 = .ok (.iaload, 1) := by decide +kernel
theorem dX7_truth_23 : decode cX7_truth 23 = .ok (.ifCond .ne 9, 3) := by decide +kernel
theorem dX7_truth_26 : decode cX7_truth 26 = .ok (.iconst 1, 1) := by decide +kernel
theorem dX7_truth_27 : decode cX7_truth 27 = .ok (.iload_n 2, 1) := by decide +kernel
theorem dX7_truth_28 : decode cX7_truth 28 = .ok (.ishl, 1) := by decide +kernel
theorem dX7_truth_29 : decode cX7_truth 29 = .ok (.goto 4, 3) := by decide +kernel
theorem dX7_truth_32 : decode cX7_truth 32 = .ok (.iconst 0, 1) := by decide +kernel
theorem dX7_truth_33 : decode cX7_truth 33 = .ok (.ior, 1) := by decide +kernel
theorem dX7_truth_34 : decode cX7_truth 34 = .ok (.istore_n 1, 1) := by decide +kernel
theorem dX7_truth_35 : decode cX7_truth 35 = .ok (.iinc 2 1, 3) := by decide +kernel
theorem dX7_truth_38 : decode cX7_truth 38 = .ok (.goto (-34), 3) := by decide +kernel
theorem dX7_truth_41 : decode cX7_truth 41 = .ok (.iload_n 1, 1) := by decide +kernel
theorem dX7_truth_42 : decode cX7_truth 42 = .ok (.ireturn, 1) := by decide +kernel
theorem dX7_isPossible_0 : decode cX7_isPossible 0 = .ok (.aload_n 0, 1) := by decide +kernel
theorem dX7_isPossible_1 : decode cX7_isPossible 1 = .ok (.iload_n 1, 1) := by decide +kernel
theorem dX7_isPossible_2 : decode cX7_isPossible 2 = .ok (.iload_n 2, 1) := by decide +kernel
theorem dX7_isPossible_3 : decode cX7_isPossible 3 = .ok (.invokevirtual 165, 3) := by decide +kernel
theorem dX7_isPossible_6 : decode cX7_isPossible 6 = .ok (.ifCond .eq 18, 3) := by decide +kernel
theorem dX7_isPossible_9 : decode cX7_isPossible 9 = .ok (.iload_n 1, 1) := by decide +kernel
theorem dX7_isPossible_10 : decode cX7_isPossible 10 = .ok (.aload_n 0, 1) := by decide +kernel
theorem dX7_isPossible_11 : decode cX7_isPossible 11 = .ok (.invokevirtual 168, 3) := by decide +kernel
theorem dX7_isPossible_14 : decode cX7_isPossible 14 = .ok (.ixor, 1) := by decide +kernel
theorem dX7_isPossible_15 : decode cX7_isPossible 15 = .ok (.iload_n 3, 1) := by decide +kernel
theorem dX7_isPossible_16 : decode cX7_isPossible 16 = .ok (.iand, 1) := by decide +kernel
theorem dX7_isPossible_17 : decode cX7_isPossible 17 = .ok (.ifCond .ne 7, 3) := by decide +kernel
theorem dX7_isPossible_20 : decode cX7_isPossible 20 = .ok (.iconst 1, 1) := by decide +kernel
theorem dX7_isPossible_21 : decode cX7_isPossible 21 = .ok (.goto 4, 3) := by decide +kernel
theorem dX7_isPossible_24 : decode cX7_isPossible 24 = .ok (.iconst 0, 1) := by decide +kernel
theorem dX7_isPossible_25 : decode cX7_isPossible 25 = .ok (.ireturn, 1) := by decide +kernel
theorem dX7_partsOf_0 : decode cX7_partsOf 0 = .ok (.iconst 1, 1) := by decide +kernel
theorem dX7_partsOf_1 : decode cX7_partsOf 1 = .ok (.istore_n 2, 1) := by decide +kernel
theorem dX7_partsOf_2 : decode cX7_partsOf 2 = .ok (.iconst 0, 1) := by decide +kernel
theorem dX7_partsOf_3 : decode cX7_partsOf 3 = .ok (.istore_n 3, 1) := by decide +kernel
theorem dX7_partsOf_4 : decode cX7_partsOf 4 = .ok (.iload_n 3, 1) := by decide +kernel
theorem dX7_partsOf_5 : decode cX7_partsOf 5 = .ok (.aload_n 0, 1) := by decide +kernel
theorem dX7_partsOf_6 : decode cX7_partsOf 6 = .ok (.getfield 124, 3) := by decide +kernel
theorem dX7_partsOf_9 : decode cX7_partsOf 9 = .ok (.if_icmp .ge 46, 3) := by decide +kernel
theorem dX7_partsOf_12 : decode cX7_partsOf 12 = .ok (.iload_n 2, 1) := by decide +kernel
theorem dX7_partsOf_13 : decode cX7_partsOf 13 = .ok (.iload_n 1, 1) := by decide +kernel
theorem dX7_partsOf_14 : decode cX7_partsOf 14 = .ok (.iload_n 3, 1) := by decide +kernel
theorem dX7_partsOf_15 : decode cX7_partsOf 15 = .ok (.invokestatic 89, 3) := by decide +kernel
theorem dX7_partsOf_18 : decode cX7_partsOf 18 = .ok (.ifCond .eq 16, 3) := by decide +kernel
theorem dX7_partsOf_21 : decode cX7_partsOf 21 = .ok (.aload_n 0, 1) := by decide +kernel
theorem dX7_partsOf_22 : decode cX7_partsOf 22 = .ok (.getfield 7, 3) := by decide +kernel
theorem dX7_partsOf_25 : decode cX7_partsOf 25 = .ok (.iconst 5, 1) := by decide +kernel
theorem dX7_partsOf_26 : decode cX7_partsOf 26 = .ok (.iload_n 3, 1) := by decide +kernel
theorem dX7_partsOf_27 : decode cX7_partsOf 27 = .ok (.imul, 1) := by decide +kernel
theorem dX7_partsOf_28 : decode cX7_partsOf 28 = .ok (.iconst 2, 1) := by decide +kernel
theorem dX7_partsOf_29 : decode cX7_partsOf 29 = .ok (.iadd, 1) := by decide +kernel
theorem dX7_partsOf_30 : decode cX7_partsOf 30 = .ok (.iaload, 1) := by decide +kernel
theorem dX7_partsOf_31 : decode cX7_partsOf 31 = .ok (.goto 16, 3) := by decide +kernel
theorem dX7_partsOf_34 : decode cX7_partsOf 34 = .ok (.bipush 10, 2) := by decide +kernel
theorem dX7_partsOf_36 : decode cX7_partsOf 36 = .ok (.aload_n 0, 1) := by decide +kernel
theorem dX7_partsOf_37 : decode cX7_partsOf 37 = .ok (.getfield 7, 3) := by decide +kernel
theorem dX7_partsOf_40 : decode cX7_partsOf 40 = .ok (.iconst 5, 1) := by decide +kernel
theorem dX7_partsOf_41 : decode cX7_partsOf 41 = .ok (.iload_n 3, 1) := by decide +kernel
theorem dX7_partsOf_42 : decode cX7_partsOf 42 = .ok (.imul, 1) := by decide +kernel
theorem dX7_partsOf_43 : decode cX7_partsOf 43 = .ok (.iconst 2, 1) := by decide +kernel
theorem dX7_partsOf_44 : decode cX7_partsOf 44 = .ok (.iadd, 1) := by decide +kernel
theorem dX7_partsOf_45 : decode cX7_partsOf 45 = .ok (.iaload, 1) := by decide +kernel
theorem dX7_partsOf_46 : decode cX7_partsOf 46 = .ok (.isub, 1) := by decide +kernel
theorem dX7_partsOf_47 : decode cX7_partsOf 47 = .ok (.imul, 1) := by decide +kernel
theorem dX7_partsOf_48 : decode cX7_partsOf 48 = .ok (.istore_n 2, 1) := by decide +kernel
theorem dX7_partsOf_49 : decode cX7_partsOf 49 = .ok (.iinc 3 1, 3) := by decide +kernel
theorem dX7_partsOf_52 : decode cX7_partsOf 52 = .ok (.goto (-48), 3) := by decide +kernel
theorem dX7_partsOf_55 : decode cX7_partsOf 55 = .ok (.iload_n 2, 1) := by decide +kernel
theorem dX7_partsOf_56 : decode cX7_partsOf 56 = .ok (.ireturn, 1) := by decide +kernel
theorem dX7_partsBy_0 : decode cX7_partsBy 0 = .ok (.iconst 0, 1) := by decide +kernel
theorem dX7_partsBy_1 : decode cX7_partsBy 1 = .ok (.istore_n 3, 1) := by decide +kernel
theorem dX7_partsBy_2 : decode cX7_partsBy 2 = .ok (.iconst 0, 1) := by decide +kernel
theorem dX7_partsBy_3 : decode cX7_partsBy 3 = .ok (.istore 4, 2) := by decide +kernel
theorem dX7_partsBy_5 : decode cX7_partsBy 5 = .ok (.iload 4, 2) := by decide +kernel
theorem dX7_partsBy_7 : decode cX7_partsBy 7 = .ok (.iconst 1, 1) := by decide +kernel
theorem dX7_partsBy_8 : decode cX7_partsBy 8 = .ok (.aload_n 0, 1) := by decide +kernel
theorem dX7_partsBy_9 : decode cX7_partsBy 9 = .ok (.getfield 124, 3) := by decide +kernel
theorem dX7_partsBy_12 : decode cX7_partsBy 12 = .ok (.ishl, 1) := by decide +kernel
theorem dX7_partsBy_13 : decode cX7_partsBy 13 = .ok (.if_icmp .ge 33, 3) := by decide +kernel
theorem dX7_partsBy_16 : decode cX7_partsBy 16 = .ok (.iload_n 3, 1) := by decide +kernel
theorem dX7_partsBy_17 : decode cX7_partsBy 17 = .ok (.aload_n 0, 1) := by decide +kernel
theorem dX7_partsBy_18 : decode cX7_partsBy 18 = .ok (.iload 4, 2) := by decide +kernel
theorem dX7_partsBy_20 : decode cX7_partsBy 20 = .ok (.iload_n 1, 1) := by decide +kernel
theorem dX7_partsBy_21 : decode cX7_partsBy 21 = .ok (.iload_n 2, 1) := by decide +kernel
theorem dX7_partsBy_22 : decode cX7_partsBy 22 = .ok (.invokevirtual 171, 3) := by decide +kernel
theorem dX7_partsBy_25 : decode cX7_partsBy 25 = .ok (.ifCond .eq 12, 3) := by decide +kernel
theorem dX7_partsBy_28 : decode cX7_partsBy 28 = .ok (.aload_n 0, 1) := by decide +kernel
theorem dX7_partsBy_29 : decode cX7_partsBy 29 = .ok (.iload 4, 2) := by decide +kernel
theorem dX7_partsBy_31 : decode cX7_partsBy 31 = .ok (.invokevirtual 175, 3) := by decide +kernel
theorem dX7_partsBy_34 : decode cX7_partsBy 34 = .ok (.goto 4, 3) := by decide +kernel
theorem dX7_partsBy_37 : decode cX7_partsBy 37 = .ok (.iconst 0, 1) := by decide +kernel
theorem dX7_partsBy_38 : decode cX7_partsBy 38 = .ok (.iadd, 1) := by decide +kernel
theorem dX7_partsBy_39 : decode cX7_partsBy 39 = .ok (.istore_n 3, 1) := by decide +kernel
theorem dX7_partsBy_40 : decode cX7_partsBy 40 = .ok (.iinc 4 1, 3) := by decide +kernel
theorem dX7_partsBy_43 : decode cX7_partsBy 43 = .ok (.goto (-38), 3) := by decide +kernel
theorem dX7_partsBy_46 : decode cX7_partsBy 46 = .ok (.iload_n 3, 1) := by decide +kernel
theorem dX7_partsBy_47 : decode cX7_partsBy 47 = .ok (.ireturn, 1) := by decide +kernel
theorem dX7_layPossible_0 : decode cX7_layPossible 0 = .ok (.aload_n 0, 1) := by decide +kernel
theorem dX7_layPossible_1 : decode cX7_layPossible 1 = .ok (.iconst 0, 1) := by decide +kernel
theorem dX7_layPossible_2 : decode cX7_layPossible 2 = .ok (.putfield 186, 3) := by decide +kernel
theorem dX7_layPossible_5 : decode cX7_layPossible 5 = .ok (.iconst 0, 1) := by decide +kernel
theorem dX7_layPossible_6 : decode cX7_layPossible 6 = .ok (.istore_n 3, 1) := by decide +kernel
theorem dX7_layPossible_7 : decode cX7_layPossible 7 = .ok (.iload_n 3, 1) := by decide +kernel
theorem dX7_layPossible_8 : decode cX7_layPossible 8 = .ok (.iconst 1, 1) := by decide +kernel
theorem dX7_layPossible_9 : decode cX7_layPossible 9 = .ok (.aload_n 0, 1) := by decide +kernel
theorem dX7_layPossible_10 : decode cX7_layPossible 10 = .ok (.getfield 124, 3) := by decide +kernel
theorem dX7_layPossible_13 : decode cX7_layPossible 13 = .ok (.ishl, 1) := by decide +kernel
theorem dX7_layPossible_14 : decode cX7_layPossible 14 = .ok (.if_icmp .ge 35, 3) := by decide +kernel
theorem dX7_layPossible_17 : decode cX7_layPossible 17 = .ok (.aload_n 0, 1) := by decide +kernel
theorem dX7_layPossible_18 : decode cX7_layPossible 18 = .ok (.dup, 1) := by decide +kernel
theorem dX7_layPossible_19 : decode cX7_layPossible 19 = .ok (.getfield 186, 3) := by decide +kernel
theorem dX7_layPossible_22 : decode cX7_layPossible 22 = .ok (.aload_n 0, 1) := by decide +kernel
theorem dX7_layPossible_23 : decode cX7_layPossible 23 = .ok (.iload_n 3, 1) := by decide +kernel
theorem dX7_layPossible_24 : decode cX7_layPossible 24 = .ok (.iload_n 1, 1) := by decide +kernel
theorem dX7_layPossible_25 : decode cX7_layPossible 25 = .ok (.iload_n 2, 1) := by decide +kernel
theorem dX7_layPossible_26 : decode cX7_layPossible 26 = .ok (.invokevirtual 171, 3) := by decide +kernel
theorem dX7_layPossible_29 : decode cX7_layPossible 29 = .ok (.ifCond .eq 9, 3) := by decide +kernel
theorem dX7_layPossible_32 : decode cX7_layPossible 32 = .ok (.iconst 1, 1) := by decide +kernel
theorem dX7_layPossible_33 : decode cX7_layPossible 33 = .ok (.iload_n 3, 1) := by decide +kernel
theorem dX7_layPossible_34 : decode cX7_layPossible 34 = .ok (.ishl, 1) := by decide +kernel
theorem dX7_layPossible_35 : decode cX7_layPossible 35 = .ok (.goto 4, 3) := by decide +kernel
theorem dX7_layPossible_38 : decode cX7_layPossible 38 = .ok (.iconst 0, 1) := by decide +kernel
theorem dX7_layPossible_39 : decode cX7_layPossible 39 = .ok (.ior, 1) := by decide +kernel
theorem dX7_layPossible_40 : decode cX7_layPossible 40 = .ok (.putfield 186, 3) := by decide +kernel
theorem dX7_layPossible_43 : decode cX7_layPossible 43 = .ok (.iinc 3 1, 3) := by decide +kernel
theorem dX7_layPossible_46 : decode cX7_layPossible 46 = .ok (.goto (-39), 3) := by decide +kernel
theorem dX7_layPossible_49 : decode cX7_layPossible 49 = .ok (.return_, 1) := by decide +kernel
theorem dX7_gives_0 : decode cX7_gives 0 = .ok (.iload_n 2, 1) := by decide +kernel
theorem dX7_gives_1 : decode cX7_gives 1 = .ok (.iload 4, 2) := by decide +kernel
theorem dX7_gives_3 : decode cX7_gives 3 = .ok (.if_icmp .ge 7, 3) := by decide +kernel
theorem dX7_gives_6 : decode cX7_gives 6 = .ok (.iload_n 2, 1) := by decide +kernel
theorem dX7_gives_7 : decode cX7_gives 7 = .ok (.goto 5, 3) := by decide +kernel
theorem dX7_gives_10 : decode cX7_gives 10 = .ok (.iload 4, 2) := by decide +kernel
theorem dX7_gives_12 : decode cX7_gives 12 = .ok (.iload_n 3, 1) := by decide +kernel
theorem dX7_gives_13 : decode cX7_gives 13 = .ok (.isub, 1) := by decide +kernel
theorem dX7_gives_14 : decode cX7_gives 14 = .ok (.istore 5, 2) := by decide +kernel
theorem dX7_gives_16 : decode cX7_gives 16 = .ok (.iload 5, 2) := by decide +kernel
theorem dX7_gives_18 : decode cX7_gives 18 = .ok (.ifCond .le 8, 3) := by decide +kernel
theorem dX7_gives_21 : decode cX7_gives 21 = .ok (.iload 5, 2) := by decide +kernel
theorem dX7_gives_23 : decode cX7_gives 23 = .ok (.goto 4, 3) := by decide +kernel
theorem dX7_gives_26 : decode cX7_gives 26 = .ok (.iconst 0, 1) := by decide +kernel
theorem dX7_gives_27 : decode cX7_gives 27 = .ok (.iload_n 2, 1) := by decide +kernel
theorem dX7_gives_28 : decode cX7_gives 28 = .ok (.iload 4, 2) := by decide +kernel
theorem dX7_gives_30 : decode cX7_gives 30 = .ok (.if_icmp .le 16, 3) := by decide +kernel
theorem dX7_gives_33 : decode cX7_gives 33 = .ok (.aload_n 0, 1) := by decide +kernel
theorem dX7_gives_34 : decode cX7_gives 34 = .ok (.getfield 7, 3) := by decide +kernel
theorem dX7_gives_37 : decode cX7_gives 37 = .ok (.iconst 5, 1) := by decide +kernel
theorem dX7_gives_38 : decode cX7_gives 38 = .ok (.iload_n 1, 1) := by decide +kernel
theorem dX7_gives_39 : decode cX7_gives 39 = .ok (.imul, 1) := by decide +kernel
theorem dX7_gives_40 : decode cX7_gives 40 = .ok (.iconst 3, 1) := by decide +kernel
theorem dX7_gives_41 : decode cX7_gives 41 = .ok (.iadd, 1) := by decide +kernel
theorem dX7_gives_42 : decode cX7_gives 42 = .ok (.iaload, 1) := by decide +kernel
theorem dX7_gives_43 : decode cX7_gives 43 = .ok (.goto 4, 3) := by decide +kernel
theorem dX7_gives_46 : decode cX7_gives 46 = .ok (.iconst 0, 1) := by decide +kernel
theorem dX7_gives_47 : decode cX7_gives 47 = .ok (.iadd, 1) := by decide +kernel
theorem dX7_gives_48 : decode cX7_gives 48 = .ok (.ireturn, 1) := by decide +kernel
theorem dX7_givesBy_0 : decode cX7_givesBy 0 = .ok (.iconst 0, 1) := by decide +kernel
theorem dX7_givesBy_1 : decode cX7_givesBy 1 = .ok (.istore 4, 2) := by decide +kernel
theorem dX7_givesBy_3 : decode cX7_givesBy 3 = .ok (.iconst 0, 1) := by decide +kernel
theorem dX7_givesBy_4 : decode cX7_givesBy 4 = .ok (.istore 5, 2) := by decide +kernel
theorem dX7_givesBy_6 : decode cX7_givesBy 6 = .ok (.iload 5, 2) := by decide +kernel
theorem dX7_givesBy_8 : decode cX7_givesBy 8 = .ok (.iconst 1, 1) := by decide +kernel
theorem dX7_givesBy_9 : decode cX7_givesBy 9 = .ok (.aload_n 0, 1) := by decide +kernel
theorem dX7_givesBy_10 : decode cX7_givesBy 10 = .ok (.getfield 124, 3) := by decide +kernel
theorem dX7_givesBy_13 : decode cX7_givesBy 13 = .ok (.ishl, 1) := by decide +kernel
theorem dX7_givesBy_14 : decode cX7_givesBy 14 = .ok (.if_icmp .ge 55, 3) := by decide +kernel
theorem dX7_givesBy_17 : decode cX7_givesBy 17 = .ok (.iload 4, 2) := by decide +kernel
theorem dX7_givesBy_19 : decode cX7_givesBy 19 = .ok (.aload_n 0, 1) := by decide +kernel
theorem dX7_givesBy_20 : decode cX7_givesBy 20 = .ok (.getfield 186, 3) := by decide +kernel
theorem dX7_givesBy_23 : decode cX7_givesBy 23 = .ok (.iload 5, 2) := by decide +kernel
theorem dX7_givesBy_25 : decode cX7_givesBy 25 = .ok (.invokestatic 89, 3) := by decide +kernel
theorem dX7_givesBy_28 : decode cX7_givesBy 28 = .ok (.ifCond .eq 31, 3) := by decide +kernel
theorem dX7_givesBy_31 : decode cX7_givesBy 31 = .ok (.aload_n 0, 1) := by decide +kernel
theorem dX7_givesBy_32 : decode cX7_givesBy 32 = .ok (.iload 5, 2) := by decide +kernel
theorem dX7_givesBy_34 : decode cX7_givesBy 34 = .ok (.invokevirtual 175, 3) := by decide +kernel
theorem dX7_givesBy_37 : decode cX7_givesBy 37 = .ok (.aload_n 0, 1) := by decide +kernel
theorem dX7_givesBy_38 : decode cX7_givesBy 38 = .ok (.iload_n 1, 1) := by decide +kernel
theorem dX7_givesBy_39 : decode cX7_givesBy 39 = .ok (.aload_n 0, 1) := by decide +kernel
theorem dX7_givesBy_40 : decode cX7_givesBy 40 = .ok (.iload_n 1, 1) := by decide +kernel
theorem dX7_givesBy_41 : decode cX7_givesBy 41 = .ok (.iload 5, 2) := by decide +kernel
theorem dX7_givesBy_43 : decode cX7_givesBy 43 = .ok (.iload_n 1, 1) := by decide +kernel
theorem dX7_givesBy_44 : decode cX7_givesBy 44 = .ok (.invokestatic 89, 3) := by decide +kernel
theorem dX7_givesBy_47 : decode cX7_givesBy 47 = .ok (.invokevirtual 161, 3) := by decide +kernel
theorem dX7_givesBy_50 : decode cX7_givesBy 50 = .ok (.iload_n 2, 1) := by decide +kernel
theorem dX7_givesBy_51 : decode cX7_givesBy 51 = .ok (.iload_n 3, 1) := by decide +kernel
theorem dX7_givesBy_52 : decode cX7_givesBy 52 = .ok (.invokevirtual 189, 3) := by decide +kernel
theorem dX7_givesBy_55 : decode cX7_givesBy 55 = .ok (.imul, 1) := by decide +kernel
theorem dX7_givesBy_56 : decode cX7_givesBy 56 = .ok (.goto 4, 3) := by decide +kernel
theorem dX7_givesBy_59 : decode cX7_givesBy 59 = .ok (.iconst 0, 1) := by decide +kernel
theorem dX7_givesBy_60 : decode cX7_givesBy 60 = .ok (.iadd, 1) := by decide +kernel
theorem dX7_givesBy_61 : decode cX7_givesBy 61 = .ok (.istore 4, 2) := by decide +kernel
theorem dX7_givesBy_63 : decode cX7_givesBy 63 = .ok (.iinc 5 1, 3) := by decide +kernel
theorem dX7_givesBy_66 : decode cX7_givesBy 66 = .ok (.goto (-60), 3) := by decide +kernel
theorem dX7_givesBy_69 : decode cX7_givesBy 69 = .ok (.iload 4, 2) := by decide +kernel
theorem dX7_givesBy_71 : decode cX7_givesBy 71 = .ok (.ireturn, 1) := by decide +kernel
theorem dX7_wiseBy_0 : decode cX7_wiseBy 0 = .ok (.iload_n 2, 1) := by decide +kernel
theorem dX7_wiseBy_1 : decode cX7_wiseBy 1 = .ok (.istore_n 3, 1) := by decide +kernel
theorem dX7_wiseBy_2 : decode cX7_wiseBy 2 = .ok (.iload_n 2, 1) := by decide +kernel
theorem dX7_wiseBy_3 : decode cX7_wiseBy 3 = .ok (.iconst 1, 1) := by decide +kernel
theorem dX7_wiseBy_4 : decode cX7_wiseBy 4 = .ok (.iadd, 1) := by decide +kernel
theorem dX7_wiseBy_5 : decode cX7_wiseBy 5 = .ok (.istore 4, 2) := by decide +kernel
theorem dX7_wiseBy_7 : decode cX7_wiseBy 7 = .ok (.iload 4, 2) := by decide +kernel
theorem dX7_wiseBy_9 : decode cX7_wiseBy 9 = .ok (.bipush 10, 2) := by decide +kernel
theorem dX7_wiseBy_11 : decode cX7_wiseBy 11 = .ok (.if_icmp .ge 34, 3) := by decide +kernel
theorem dX7_wiseBy_14 : decode cX7_wiseBy 14 = .ok (.aload_n 0, 1) := by decide +kernel
theorem dX7_wiseBy_15 : decode cX7_wiseBy 15 = .ok (.iload_n 1, 1) := by decide +kernel
theorem dX7_wiseBy_16 : decode cX7_wiseBy 16 = .ok (.iload_n 2, 1) := by decide +kernel
theorem dX7_wiseBy_17 : decode cX7_wiseBy 17 = .ok (.iload 4, 2) := by decide +kernel
theorem dX7_wiseBy_19 : decode cX7_wiseBy 19 = .ok (.invokevirtual 193, 3) := by decide +kernel
theorem dX7_wiseBy_22 : decode cX7_wiseBy 22 = .ok (.aload_n 0, 1) := by decide +kernel
theorem dX7_wiseBy_23 : decode cX7_wiseBy 23 = .ok (.iload_n 1, 1) := by decide +kernel
theorem dX7_wiseBy_24 : decode cX7_wiseBy 24 = .ok (.iload_n 2, 1) := by decide +kernel
theorem dX7_wiseBy_25 : decode cX7_wiseBy 25 = .ok (.iload_n 3, 1) := by decide +kernel
theorem dX7_wiseBy_26 : decode cX7_wiseBy 26 = .ok (.invokevirtual 193, 3) := by decide +kernel
theorem dX7_wiseBy_29 : decode cX7_wiseBy 29 = .ok (.if_icmp .le 8, 3) := by decide +kernel
theorem dX7_wiseBy_32 : decode cX7_wiseBy 32 = .ok (.iload 4, 2) := by decide +kernel
theorem dX7_wiseBy_34 : decode cX7_wiseBy 34 = .ok (.goto 4, 3) := by decide +kernel
theorem dX7_wiseBy_37 : decode cX7_wiseBy 37 = .ok (.iload_n 3, 1) := by decide +kernel
theorem dX7_wiseBy_38 : decode cX7_wiseBy 38 = .ok (.istore_n 3, 1) := by decide +kernel
theorem dX7_wiseBy_39 : decode cX7_wiseBy 39 = .ok (.iinc 4 1, 3) := by decide +kernel
theorem dX7_wiseBy_42 : decode cX7_wiseBy 42 = .ok (.goto (-35), 3) := by decide +kernel
theorem dX7_wiseBy_45 : decode cX7_wiseBy 45 = .ok (.iload_n 3, 1) := by decide +kernel
theorem dX7_wiseBy_46 : decode cX7_wiseBy 46 = .ok (.ireturn, 1) := by decide +kernel
theorem dX7_worthBy_0 : decode cX7_worthBy 0 = .ok (.aload_n 0, 1) := by decide +kernel
theorem dX7_worthBy_1 : decode cX7_worthBy 1 = .ok (.aload_n 0, 1) := by decide +kernel
theorem dX7_worthBy_2 : decode cX7_worthBy 2 = .ok (.getfield 40, 3) := by decide +kernel
theorem dX7_worthBy_5 : decode cX7_worthBy 5 = .ok (.iconst 0, 1) := by decide +kernel
theorem dX7_worthBy_6 : decode cX7_worthBy 6 = .ok (.iaload, 1) := by decide +kernel
theorem dX7_worthBy_7 : decode cX7_worthBy 7 = .ok (.iconst 0, 1) := by decide +kernel
theorem dX7_worthBy_8 : decode cX7_worthBy 8 = .ok (.invokevirtual 197, 3) := by decide +kernel
theorem dX7_worthBy_11 : decode cX7_worthBy 11 = .ok (.aload_n 0, 1) := by decide +kernel
theorem dX7_worthBy_12 : decode cX7_worthBy 12 = .ok (.getfield 186, 3) := by decide +kernel
theorem dX7_worthBy_15 : decode cX7_worthBy 15 = .ok (.istore_n 2, 1) := by decide +kernel
theorem dX7_worthBy_16 : decode cX7_worthBy 16 = .ok (.iconst 0, 1) := by decide +kernel
theorem dX7_worthBy_17 : decode cX7_worthBy 17 = .ok (.istore_n 3, 1) := by decide +kernel
theorem dX7_worthBy_18 : decode cX7_worthBy 18 = .ok (.iconst 0, 1) := by decide +kernel
theorem dX7_worthBy_19 : decode cX7_worthBy 19 = .ok (.istore 4, 2) := by decide +kernel
theorem dX7_worthBy_21 : decode cX7_worthBy 21 = .ok (.iload 4, 2) := by decide +kernel
theorem dX7_worthBy_23 : decode cX7_worthBy 23 = .ok (.iconst 1, 1) := by decide +kernel
theorem dX7_worthBy_24 : decode cX7_worthBy 24 = .ok (.aload_n 0, 1) := by decide +kernel
theorem dX7_worthBy_25 : decode cX7_worthBy 25 = .ok (.getfield 124, 3) := by decide +kernel
theorem dX7_worthBy_28 : decode cX7_worthBy 28 = .ok (.ishl, 1) := by decide +kernel
theorem dX7_worthBy_29 : decode cX7_worthBy 29 = .ok (.if_icmp .ge 141, 3) := by decide +kernel
theorem dX7_worthBy_32 : decode cX7_worthBy 32 = .ok (.iload 4, 2) := by decide +kernel
theorem dX7_worthBy_34 : decode cX7_worthBy 34 = .ok (.iload_n 1, 1) := by decide +kernel
theorem dX7_worthBy_35 : decode cX7_worthBy 35 = .ok (.iconst (-1), 1) := by decide +kernel
theorem dX7_worthBy_36 : decode cX7_worthBy 36 = .ok (.ixor, 1) := by decide +kernel
theorem dX7_worthBy_37 : decode cX7_worthBy 37 = .ok (.iand, 1) := by decide +kernel
theorem dX7_worthBy_38 : decode cX7_worthBy 38 = .ok (.ifCond .ne 126, 3) := by decide +kernel
theorem dX7_worthBy_41 : decode cX7_worthBy 41 = .ok (.aload_n 0, 1) := by decide +kernel
theorem dX7_worthBy_42 : decode cX7_worthBy 42 = .ok (.iconst 0, 1) := by decide +kernel
theorem dX7_worthBy_43 : decode cX7_worthBy 43 = .ok (.putfield 186, 3) := by decide +kernel
theorem dX7_worthBy_46 : decode cX7_worthBy 46 = .ok (.iconst 0, 1) := by decide +kernel
theorem dX7_worthBy_47 : decode cX7_worthBy 47 = .ok (.istore 5, 2) := by decide +kernel
theorem dX7_worthBy_49 : decode cX7_worthBy 49 = .ok (.iload 5, 2) := by decide +kernel
theorem dX7_worthBy_51 : decode cX7_worthBy 51 = .ok (.iconst 1, 1) := by decide +kernel
theorem dX7_worthBy_52 : decode cX7_worthBy 52 = .ok (.aload_n 0, 1) := by decide +kernel
theorem dX7_worthBy_53 : decode cX7_worthBy 53 = .ok (.getfield 124, 3) := by decide +kernel
theorem dX7_worthBy_56 : decode cX7_worthBy 56 = .ok (.ishl, 1) := by decide +kernel
theorem dX7_worthBy_57 : decode cX7_worthBy 57 = .ok (.if_icmp .ge 44, 3) := by decide +kernel
theorem dX7_worthBy_60 : decode cX7_worthBy 60 = .ok (.aload_n 0, 1) := by decide +kernel
theorem dX7_worthBy_61 : decode cX7_worthBy 61 = .ok (.dup, 1) := by decide +kernel
theorem dX7_worthBy_62 : decode cX7_worthBy 62 = .ok (.getfield 186, 3) := by decide +kernel
theorem dX7_worthBy_65 : decode cX7_worthBy 65 = .ok (.iload_n 2, 1) := by decide +kernel
theorem dX7_worthBy_66 : decode cX7_worthBy 66 = .ok (.iload 5, 2) := by decide +kernel
theorem dX7_worthBy_68 : decode cX7_worthBy 68 = .ok (.invokestatic 89, 3) := by decide +kernel
theorem dX7_worthBy_71 : decode cX7_worthBy 71 = .ok (.ifCond .eq 19, 3) := by decide +kernel
theorem dX7_worthBy_74 : decode cX7_worthBy 74 = .ok (.iload 5, 2) := by decide +kernel
theorem dX7_worthBy_76 : decode cX7_worthBy 76 = .ok (.iload_n 1, 1) := by decide +kernel
theorem dX7_worthBy_77 : decode cX7_worthBy 77 = .ok (.iand, 1) := by decide +kernel
theorem dX7_worthBy_78 : decode cX7_worthBy 78 = .ok (.iload 4, 2) := by decide +kernel
theorem dX7_worthBy_80 : decode cX7_worthBy 80 = .ok (.if_icmp .ne 10, 3) := by decide +kernel
theorem dX7_worthBy_83 : decode cX7_worthBy 83 = .ok (.iconst 1, 1) := by decide +kernel
theorem dX7_worthBy_84 : decode cX7_worthBy 84 = .ok (.iload 5, 2) := by decide +kernel
theorem dX7_worthBy_86 : decode cX7_worthBy 86 = .ok (.ishl, 1) := by decide +kernel
theorem dX7_worthBy_87 : decode cX7_worthBy 87 = .ok (.goto 4, 3) := by decide +kernel
theorem dX7_worthBy_90 : decode cX7_worthBy 90 = .ok (.iconst 0, 1) := by decide +kernel
theorem dX7_worthBy_91 : decode cX7_worthBy 91 = .ok (.ior, 1) := by decide +kernel
theorem dX7_worthBy_92 : decode cX7_worthBy 92 = .ok (.putfield 186, 3) := by decide +kernel
theorem dX7_worthBy_95 : decode cX7_worthBy 95 = .ok (.iinc 5 1, 3) := by decide +kernel
theorem dX7_worthBy_98 : decode cX7_worthBy 98 = .ok (.goto (-49), 3) := by decide +kernel
theorem dX7_worthBy_101 : decode cX7_worthBy 101 = .ok (.iconst 0, 1) := by decide +kernel
theorem dX7_worthBy_102 : decode cX7_worthBy 102 = .ok (.istore 5, 2) := by decide +kernel
theorem dX7_worthBy_104 : decode cX7_worthBy 104 = .ok (.iload 5, 2) := by decide +kernel
theorem dX7_worthBy_106 : decode cX7_worthBy 106 = .ok (.aload_n 0, 1) := by decide +kernel
theorem dX7_worthBy_107 : decode cX7_worthBy 107 = .ok (.getfield 124, 3) := by decide +kernel
theorem dX7_worthBy_110 : decode cX7_worthBy 110 = .ok (.if_icmp .ge 54, 3) := by decide +kernel
theorem dX7_worthBy_113 : decode cX7_worthBy 113 = .ok (.iload_n 3, 1) := by decide +kernel
theorem dX7_worthBy_114 : decode cX7_worthBy 114 = .ok (.aload_n 0, 1) := by decide +kernel
theorem dX7_worthBy_115 : decode cX7_worthBy 115 = .ok (.getfield 40, 3) := by decide +kernel
theorem dX7_worthBy_118 : decode cX7_worthBy 118 = .ok (.iconst 2, 1) := by decide +kernel
theorem dX7_worthBy_119 : decode cX7_worthBy 119 = .ok (.iload 5, 2) := by decide +kernel
theorem dX7_worthBy_121 : decode cX7_worthBy 121 = .ok (.iadd, 1) := by decide +kernel
theorem dX7_worthBy_122 : decode cX7_worthBy 122 = .ok (.iaload, 1) := by decide +kernel
theorem dX7_worthBy_123 : decode cX7_worthBy 123 = .ok (.bipush (-9), 2) := by decide +kernel
theorem dX7_worthBy_125 : decode cX7_worthBy 125 = .ok (.if_icmp .ne 30, 3) := by decide +kernel
theorem dX7_worthBy_128 : decode cX7_worthBy 128 = .ok (.aload_n 0, 1) := by decide +kernel
theorem dX7_worthBy_129 : decode cX7_worthBy 129 = .ok (.iload 5, 2) := by decide +kernel
theorem dX7_worthBy_131 : decode cX7_worthBy 131 = .ok (.aload_n 0, 1) := by decide +kernel
theorem dX7_worthBy_132 : decode cX7_worthBy 132 = .ok (.getfield 40, 3) := by decide +kernel
theorem dX7_worthBy_135 : decode cX7_worthBy 135 = .ok (.iconst 0, 1) := by decide +kernel
theorem dX7_worthBy_136 : decode cX7_worthBy 136 = .ok (.iaload, 1) := by decide +kernel
theorem dX7_worthBy_137 : decode cX7_worthBy 137 = .ok (.aload_n 0, 1) := by decide +kernel
theorem dX7_worthBy_138 : decode cX7_worthBy 138 = .ok (.iload 5, 2) := by decide +kernel
theorem dX7_worthBy_140 : decode cX7_worthBy 140 = .ok (.aload_n 0, 1) := by decide +kernel
theorem dX7_worthBy_141 : decode cX7_worthBy 141 = .ok (.getfield 40, 3) := by decide +kernel
theorem dX7_worthBy_144 : decode cX7_worthBy 144 = .ok (.iconst 0, 1) := by decide +kernel
theorem dX7_worthBy_145 : decode cX7_worthBy 145 = .ok (.iaload, 1) := by decide +kernel
theorem dX7_worthBy_146 : decode cX7_worthBy 146 = .ok (.invokevirtual 201, 3) := by decide +kernel
theorem dX7_worthBy_149 : decode cX7_worthBy 149 = .ok (.invokevirtual 193, 3) := by decide +kernel
theorem dX7_worthBy_152 : decode cX7_worthBy 152 = .ok (.goto 4, 3) := by decide +kernel
theorem dX7_worthBy_155 : decode cX7_worthBy 155 = .ok (.iconst 0, 1) := by decide +kernel
theorem dX7_worthBy_156 : decode cX7_worthBy 156 = .ok (.iadd, 1) := by decide +kernel
theorem dX7_worthBy_157 : decode cX7_worthBy 157 = .ok (.istore_n 3, 1) := by decide +kernel
theorem dX7_worthBy_158 : decode cX7_worthBy 158 = .ok (.iinc 5 1, 3) := by decide +kernel
theorem dX7_worthBy_161 : decode cX7_worthBy 161 = .ok (.goto (-57), 3) := by decide +kernel
theorem dX7_worthBy_164 : decode cX7_worthBy 164 = .ok (.iinc 4 1, 3) := by decide +kernel
theorem dX7_worthBy_167 : decode cX7_worthBy 167 = .ok (.goto (-146), 3) := by decide +kernel
theorem dX7_worthBy_170 : decode cX7_worthBy 170 = .ok (.iload_n 3, 1) := by decide +kernel
theorem dX7_worthBy_171 : decode cX7_worthBy 171 = .ok (.ireturn, 1) := by decide +kernel
theorem dX7_layWorths_0 : decode cX7_layWorths 0 = .ok (.iconst 0, 1) := by decide +kernel
theorem dX7_layWorths_1 : decode cX7_layWorths 1 = .ok (.istore_n 1, 1) := by decide +kernel
theorem dX7_layWorths_2 : decode cX7_layWorths 2 = .ok (.iload_n 1, 1) := by decide +kernel
theorem dX7_layWorths_3 : decode cX7_layWorths 3 = .ok (.iconst 1, 1) := by decide +kernel
theorem dX7_layWorths_4 : decode cX7_layWorths 4 = .ok (.aload_n 0, 1) := by decide +kernel
theorem dX7_layWorths_5 : decode cX7_layWorths 5 = .ok (.getfield 124, 3) := by decide +kernel
theorem dX7_layWorths_8 : decode cX7_layWorths 8 = .ok (.ishl, 1) := by decide +kernel
theorem dX7_layWorths_9 : decode cX7_layWorths 9 = .ok (.if_icmp .ge 20, 3) := by decide +kernel
theorem dX7_layWorths_12 : decode cX7_layWorths 12 = .ok (.aload_n 0, 1) := by decide +kernel
theorem dX7_layWorths_13 : decode cX7_layWorths 13 = .ok (.getfield 49, 3) := by decide +kernel
theorem dX7_layWorths_16 : decode cX7_layWorths 16 = .ok (.iload_n 1, 1) := by decide +kernel
theorem dX7_layWorths_17 : decode cX7_layWorths 17 = .ok (.aload_n 0, 1) := by decide +kernel
theorem dX7_layWorths_18 : decode cX7_layWorths 18 = .ok (.iload_n 1, 1) := by decide +kernel
theorem dX7_layWorths_19 : decode cX7_layWorths 19 = .ok (.invokevirtual 204, 3) := by decide +kernel
theorem dX7_layWorths_22 : decode cX7_layWorths 22 = .ok (.iastore, 1) := by decide +kernel
theorem dX7_layWorths_23 : decode cX7_layWorths 23 = .ok (.iinc 1 1, 3) := by decide +kernel
theorem dX7_layWorths_26 : decode cX7_layWorths 26 = .ok (.goto (-24), 3) := by decide +kernel
theorem dX7_layWorths_29 : decode cX7_layWorths 29 = .ok (.return_, 1) := by decide +kernel
theorem dX7_fresh_0 : decode cX7_fresh 0 = .ok (.iconst 0, 1) := by decide +kernel
theorem dX7_fresh_1 : decode cX7_fresh 1 = .ok (.istore_n 1, 1) := by decide +kernel
theorem dX7_fresh_2 : decode cX7_fresh 2 = .ok (.iconst 0, 1) := by decide +kernel
theorem dX7_fresh_3 : decode cX7_fresh 3 = .ok (.istore_n 2, 1) := by decide +kernel
theorem dX7_fresh_4 : decode cX7_fresh 4 = .ok (.iload_n 2, 1) := by decide +kernel
theorem dX7_fresh_5 : decode cX7_fresh 5 = .ok (.aload_n 0, 1) := by decide +kernel
theorem dX7_fresh_6 : decode cX7_fresh 6 = .ok (.getfield 127, 3) := by decide +kernel
theorem dX7_fresh_9 : decode cX7_fresh 9 = .ok (.if_icmp .ge 33, 3) := by decide +kernel
theorem dX7_fresh_12 : decode cX7_fresh 12 = .ok (.iload_n 1, 1) := by decide +kernel
theorem dX7_fresh_13 : decode cX7_fresh 13 = .ok (.aload_n 0, 1) := by decide +kernel
theorem dX7_fresh_14 : decode cX7_fresh 14 = .ok (.getfield 40, 3) := by decide +kernel
theorem dX7_fresh_17 : decode cX7_fresh 17 = .ok (.bipush 6, 2) := by decide +kernel
theorem dX7_fresh_19 : decode cX7_fresh 19 = .ok (.iload_n 2, 1) := by decide +kernel
theorem dX7_fresh_20 : decode cX7_fresh 20 = .ok (.iadd, 1) := by decide +kernel
theorem dX7_fresh_21 : decode cX7_fresh 21 = .ok (.iaload, 1) := by decide +kernel
theorem dX7_fresh_22 : decode cX7_fresh 22 = .ok (.bipush (-9), 2) := by decide +kernel
theorem dX7_fresh_24 : decode cX7_fresh 24 = .ok (.if_icmp .ne 9, 3) := by decide +kernel
theorem dX7_fresh_27 : decode cX7_fresh 27 = .ok (.iconst 1, 1) := by decide +kernel
theorem dX7_fresh_28 : decode cX7_fresh 28 = .ok (.iload_n 2, 1) := by decide +kernel
theorem dX7_fresh_29 : decode cX7_fresh 29 = .ok (.ishl, 1) := by decide +kernel
theorem dX7_fresh_30 : decode cX7_fresh 30 = .ok (.goto 4, 3) := by decide +kernel
theorem dX7_fresh_33 : decode cX7_fresh 33 = .ok (.iconst 0, 1) := by decide +kernel
theorem dX7_fresh_34 : decode cX7_fresh 34 = .ok (.ior, 1) := by decide +kernel
theorem dX7_fresh_35 : decode cX7_fresh 35 = .ok (.istore_n 1, 1) := by decide +kernel
theorem dX7_fresh_36 : decode cX7_fresh 36 = .ok (.iinc 2 1, 3) := by decide +kernel
theorem dX7_fresh_39 : decode cX7_fresh 39 = .ok (.goto (-35), 3) := by decide +kernel
theorem dX7_fresh_42 : decode cX7_fresh 42 = .ok (.iload_n 1, 1) := by decide +kernel
theorem dX7_fresh_43 : decode cX7_fresh 43 = .ok (.ireturn, 1) := by decide +kernel
theorem dX7_by_0 : decode cX7_by 0 = .ok (.aload_n 0, 1) := by decide +kernel
theorem dX7_by_1 : decode cX7_by 1 = .ok (.iload_n 1, 1) := by decide +kernel
theorem dX7_by_2 : decode cX7_by 2 = .ok (.invokevirtual 146, 3) := by decide +kernel
theorem dX7_by_5 : decode cX7_by 5 = .ok (.ifCond .ne 5, 3) := by decide +kernel
theorem dX7_by_8 : decode cX7_by 8 = .ok (.iconst (-1), 1) := by decide +kernel
theorem dX7_by_9 : decode cX7_by 9 = .ok (.ireturn, 1) := by decide +kernel
theorem dX7_by_10 : decode cX7_by 10 = .ok (.aload_n 0, 1) := by decide +kernel
theorem dX7_by_11 : decode cX7_by 11 = .ok (.aload_n 0, 1) := by decide +kernel
theorem dX7_by_12 : decode cX7_by 12 = .ok (.getfield 40, 3) := by decide +kernel
theorem dX7_by_15 : decode cX7_by 15 = .ok (.iconst 0, 1) := by decide +kernel
theorem dX7_by_16 : decode cX7_by 16 = .ok (.iaload, 1) := by decide +kernel
theorem dX7_by_17 : decode cX7_by 17 = .ok (.iconst 0, 1) := by decide +kernel
theorem dX7_by_18 : decode cX7_by 18 = .ok (.invokevirtual 180, 3) := by decide +kernel
theorem dX7_by_21 : decode cX7_by 21 = .ok (.ifCond .ne 6, 3) := by decide +kernel
theorem dX7_by_24 : decode cX7_by 24 = .ok (.bipush (-3), 2) := by decide +kernel
theorem dX7_by_26 : decode cX7_by 26 = .ok (.ireturn, 1) := by decide +kernel
theorem dX7_by_27 : decode cX7_by 27 = .ok (.aload_n 0, 1) := by decide +kernel
theorem dX7_by_28 : decode cX7_by 28 = .ok (.invokevirtual 216, 3) := by decide +kernel
theorem dX7_by_31 : decode cX7_by 31 = .ok (.aload_n 0, 1) := by decide +kernel
theorem dX7_by_32 : decode cX7_by 32 = .ok (.aload_n 0, 1) := by decide +kernel
theorem dX7_by_33 : decode cX7_by 33 = .ok (.invokevirtual 219, 3) := by decide +kernel
theorem dX7_by_36 : decode cX7_by 36 = .ok (.invokevirtual 222, 3) := by decide +kernel
theorem dX7_by_39 : decode cX7_by 39 = .ok (.istore_n 2, 1) := by decide +kernel
theorem dX7_by_40 : decode cX7_by 40 = .ok (.iconst 0, 1) := by decide +kernel
theorem dX7_by_41 : decode cX7_by 41 = .ok (.istore_n 3, 1) := by decide +kernel
theorem dX7_by_42 : decode cX7_by 42 = .ok (.aload_n 0, 1) := by decide +kernel
theorem dX7_by_43 : decode cX7_by 43 = .ok (.iload_n 3, 1) := by decide +kernel
theorem dX7_by_44 : decode cX7_by 44 = .ok (.aload_n 0, 1) := by decide +kernel
theorem dX7_by_45 : decode cX7_by 45 = .ok (.invokevirtual 219, 3) := by decide +kernel
theorem dX7_by_48 : decode cX7_by 48 = .ok (.invokevirtual 210, 3) := by decide +kernel
theorem dX7_by_51 : decode cX7_by 51 = .ok (.iload_n 2, 1) := by decide +kernel
theorem dX7_by_52 : decode cX7_by 52 = .ok (.if_icmp .eq 9, 3) := by decide +kernel
theorem dX7_by_55 : decode cX7_by 55 = .ok (.iinc 3 1, 3) := by decide +kernel
theorem dX7_by_58 : decode cX7_by 58 = .ok (.goto (-16), 3) := by decide +kernel
theorem dX7_by_61 : decode cX7_by 61 = .ok (.iload_n 3, 1) := by decide +kernel
theorem dX7_by_62 : decode cX7_by 62 = .ok (.iload_n 1, 1) := by decide +kernel
theorem dX7_by_63 : decode cX7_by 63 = .ok (.invokestatic 207, 3) := by decide +kernel
theorem dX7_by_66 : decode cX7_by 66 = .ok (.iconst 4, 1) := by decide +kernel
theorem dX7_by_67 : decode cX7_by 67 = .ok (.if_icmp .ne 8, 3) := by decide +kernel
theorem dX7_by_70 : decode cX7_by 70 = .ok (.bipush (-9), 2) := by decide +kernel
theorem dX7_by_72 : decode cX7_by 72 = .ok (.goto 8, 3) := by decide +kernel
theorem dX7_by_75 : decode cX7_by 75 = .ok (.iload_n 3, 1) := by decide +kernel
theorem dX7_by_76 : decode cX7_by 76 = .ok (.iload_n 1, 1) := by decide +kernel
theorem dX7_by_77 : decode cX7_by 77 = .ok (.invokestatic 207, 3) := by decide +kernel
theorem dX7_by_80 : decode cX7_by 80 = .ok (.ireturn, 1) := by decide +kernel
theorem dX7_layStart_0 : decode cX7_layStart 0 = .ok (.aload_n 0, 1) := by decide +kernel
theorem dX7_layStart_1 : decode cX7_layStart 1 = .ok (.iconst 0, 1) := by decide +kernel
theorem dX7_layStart_2 : decode cX7_layStart 2 = .ok (.putfield 186, 3) := by decide +kernel
theorem dX7_layStart_5 : decode cX7_layStart 5 = .ok (.iconst 0, 1) := by decide +kernel
theorem dX7_layStart_6 : decode cX7_layStart 6 = .ok (.istore_n 2, 1) := by decide +kernel
theorem dX7_layStart_7 : decode cX7_layStart 7 = .ok (.iload_n 2, 1) := by decide +kernel
theorem dX7_layStart_8 : decode cX7_layStart 8 = .ok (.iconst 1, 1) := by decide +kernel
theorem dX7_layStart_9 : decode cX7_layStart 9 = .ok (.aload_n 0, 1) := by decide +kernel
theorem dX7_layStart_10 : decode cX7_layStart 10 = .ok (.getfield 124, 3) := by decide +kernel
theorem dX7_layStart_13 : decode cX7_layStart 13 = .ok (.ishl, 1) := by decide +kernel
theorem dX7_layStart_14 : decode cX7_layStart 14 = .ok (.if_icmp .ge 44, 3) := by decide +kernel
theorem dX7_layStart_17 : decode cX7_layStart 17 = .ok (.aload_n 0, 1) := by decide +kernel
theorem dX7_layStart_18 : decode cX7_layStart 18 = .ok (.dup, 1) := by decide +kernel
theorem dX7_layStart_19 : decode cX7_layStart 19 = .ok (.getfield 186, 3) := by decide +kernel
theorem dX7_layStart_22 : decode cX7_layStart 22 = .ok (.aload_n 0, 1) := by decide +kernel
theorem dX7_layStart_23 : decode cX7_layStart 23 = .ok (.iload_n 2, 1) := by decide +kernel
theorem dX7_layStart_24 : decode cX7_layStart 24 = .ok (.invokevirtual 158, 3) := by decide +kernel
theorem dX7_layStart_27 : decode cX7_layStart 27 = .ok (.ifCond .eq 20, 3) := by decide +kernel
theorem dX7_layStart_30 : decode cX7_layStart 30 = .ok (.iload_n 2, 1) := by decide +kernel
theorem dX7_layStart_31 : decode cX7_layStart 31 = .ok (.aload_n 0, 1) := by decide +kernel
theorem dX7_layStart_32 : decode cX7_layStart 32 = .ok (.invokevirtual 168, 3) := by decide +kernel
theorem dX7_layStart_35 : decode cX7_layStart 35 = .ok (.ixor, 1) := by decide +kernel
theorem dX7_layStart_36 : decode cX7_layStart 36 = .ok (.iload_n 1, 1) := by decide +kernel
theorem dX7_layStart_37 : decode cX7_layStart 37 = .ok (.iand, 1) := by decide +kernel
theorem dX7_layStart_38 : decode cX7_layStart 38 = .ok (.ifCond .ne 9, 3) := by decide +kernel
theorem dX7_layStart_41 : decode cX7_layStart 41 = .ok (.iconst 1, 1) := by decide +kernel
theorem dX7_layStart_42 : decode cX7_layStart 42 = .ok (.iload_n 2, 1) := by decide +kernel
theorem dX7_layStart_43 : decode cX7_layStart 43 = .ok (.ishl, 1) := by decide +kernel
theorem dX7_layStart_44 : decode cX7_layStart 44 = .ok (.goto 4, 3) := by decide +kernel
theorem dX7_layStart_47 : decode cX7_layStart 47 = .ok (.iconst 0, 1) := by decide +kernel
theorem dX7_layStart_48 : decode cX7_layStart 48 = .ok (.ior, 1) := by decide +kernel
theorem dX7_layStart_49 : decode cX7_layStart 49 = .ok (.putfield 186, 3) := by decide +kernel
theorem dX7_layStart_52 : decode cX7_layStart 52 = .ok (.iinc 2 1, 3) := by decide +kernel
theorem dX7_layStart_55 : decode cX7_layStart 55 = .ok (.goto (-48), 3) := by decide +kernel
theorem dX7_layStart_58 : decode cX7_layStart 58 = .ok (.return_, 1) := by decide +kernel
abbrev rm_X7_in : Room := { frames := 0, cells := 0, slots := 0, locals := 0 }
set_option maxHeartbeats 4000000 in
set_option maxRecDepth 100000 in
theorem c_X7_in (l : Launch) (D : va_G) (cI cZ cO : ClassId) (N : Nat) (p0 : Int64) (p2 : Int64) (p4 : Int64) (out : Int32) (h : f_X7_in N  p0 p2 p4 = some out) : Met l yX7_in wsX7_in rm_X7_in (va_Pc [.long p0, .long p2, .long p4] (fun U => va_P D vwCl [] U.heap ∧ va_K D vwCl (tyA cI cZ cO) U)) (vp_Si (fun r => r = out)) 0 0 (fun _ => False) := by
  refine pm_z (own := RX7) (cc := cX7_in) (maxL := 6) (by decide) rfl rfl (Nat.le_of_ble_eq_true rfl) ?_
  intro p e s m args below meth c Q H ls hx hb hml hown hts hP hK hl hret
  have hl : lv_has ls 6 [(0, .long p0), (2, .long p2), (4, .long p4)] := hl
  unfold f_X7_in at h
  refine lv_lload_n hx hb dX7_in_0 rfl (lv_at hl 0 rfl) ?_
  refine lv_lload_n hx hb dX7_in_1 rfl (lv_at hl 1 rfl) ?_
  refine W.lcmp hx hb dX7_in_2 ?_
  refine lv_if_lt (tgt := 17) hx hb dX7_in_3 (by decide) (fun q_1 => ?_) (fun q_1 => ?_)
  · have h := mk_ifp q_1 h
    refine lv_iconst (v := (0 : Int32)) hx hb dX7_in_17 (by decide) ?_
    exact hret _ _ _ h (Or.inl rfl) dX7_in_18
  · have h := mk_ifn q_1 h
    refine lv_lload_n hx hb dX7_in_6 rfl (lv_at hl 0 rfl) ?_
    refine lv_lload hx hb dX7_in_7 (lv_at hl 2 rfl) ?_
    refine W.lcmp hx hb dX7_in_9 ?_
    refine lv_if_gt (tgt := 17) hx hb dX7_in_10 (by decide) (fun q_2 => ?_) (fun q_2 => ?_)
    · have h := mk_ifp q_2 h
      refine lv_iconst (v := (0 : Int32)) hx hb dX7_in_17 (by decide) ?_
      exact hret _ _ _ h (Or.inl rfl) dX7_in_18
    · have h := mk_ifn q_2 h
      refine lv_iconst (v := (1 : Int32)) hx hb dX7_in_13 (by decide) ?_
      refine lv_goto (tgt := 18) hx hb dX7_in_14 (by decide) ?_
      exact hret _ _ _ h (Or.inr rfl) dX7_in_18

abbrev rm_X7_again : Room := { frames := 1, cells := 0, slots := 0, locals := 25 }
set_option maxRecDepth 20000 in
theorem k_X7_again_X7_in_73 : GoodIn wsX7_again (va_wsS RX7 73 yX7_in wsX7_in) := goodIn_r _ [5, 6, 7, 8] rfl (by decide +kernel)
set_option maxHeartbeats 4000000 in
set_option maxRecDepth 100000 in
theorem c_X7_again (l : Launch) (D : va_G) (cI cZ cO : ClassId) (N : Nat) (a0 : Nat → Nat) (u0 : TU) (sd : Int64) (p1 : Int32) (sz : Nat) (out : Int32 × TU) (h : f_X7_again N u0 sd p1 = some out) : Met l yX7_again wsX7_again rm_X7_again (va_Pc [.ref (a0 0), .int p1] (mk_Pe D vwCl (tyA cI cZ cO) (wX7 cI cZ a0 u0 sd) sz)) (va_Qi (fun r u => (r, u) = out) (mk_Be D vwCl (wX7 cI cZ a0 u0 sd) sz (fun q => (wX7 cI cZ a0 q sd))) (va_A (wX7 cI cZ a0 u0 sd) sz)) 0 0 (va_A (wX7 cI cZ a0 u0 sd) sz) := by
  refine em_i (own := RX7) (cc := cX7_again) (maxL := 3) (by decide) rfl rfl (Nat.le_of_ble_eq_true rfl) ?_
  intro p e s m args below meth c Q A H0 H locs ls hx hb hml hown hts hP hK hD hS hA hl hret
  have hl : lv_has ls 3 [(0, .ref (a0 0)), (1, .int p1)] := hl
  have hiX7 : ∀ w ∈ u_ws RX7 TX7 33, w ∈ wsX7_again := mk_seg 9 33 rfl
  have K26 : ∀ (u0 : TU) (x1 : Int32) (x2 : Int32) (H : Heap) (locs : List Loc) (ls : Array Slot), va_P D vwCl (wX7 cI cZ a0 u0 sd) H → va_D A (wX7 cI cZ a0 u0 sd) → va_S A H0 H locs → lv_has ls 3 [(0, .ref (a0 0)), (1, .int x1), (2, .int x2)] → lq2 (g_X7_again_26 N sd x1) N u0 x2 = some out → W p l e rm_X7_again s m args below meth c H locs 0 0 Q (F0 m 26 ls []) := by
    intro u0 x1 x2 H locs ls hP hD hS hl h
    refine lq2_W (Wd := fun u0 x2 => ∀ (H : Heap) (locs : List Loc) (ls : Array Slot), va_P D vwCl (wX7 cI cZ a0 u0 sd) H → va_D A (wX7 cI cZ a0 u0 sd) → va_S A H0 H locs → lv_has ls 3 [(0, .ref (a0 0)), (1, .int x1), (2, .int x2)] → W p l e rm_X7_again s m args below meth c H locs 0 0 Q (F0 m 26 ls [])) (fun rec26 ih26 u0 x2 h H locs ls hP hD hS hl => ?_) N u0 x2 h H locs ls hP hD hS hl
    unfold g_X7_again_26 at h
    refine lv_iload_n hx hb dX7_again_26 rfl (lv_at hl 2 rfl) ?_
    refine lv_bipush (v := (10 : Int32)) hx hb dX7_again_27 (by decide) ?_
    refine lv_icmp_ge (tgt := 55) hx hb dX7_again_29 (by decide) (fun q_1 => ?_) (fun q_1 => ?_)
    · have h := mk_ifp q_1 h
      refine lv_aload_n hx hb dX7_again_55 rfl (lv_at hl 0 rfl) ?_
      refine lv_iconst (v := (0 : Int32)) hx hb dX7_again_56 (by decide) ?_
      obtain ⟨w_2, ew_2, h⟩ := mk_nmE h
      refine va_put (D := D) (ci := 7) (v := .int (0 : Int32)) (ty := .int) (C := RX7) (T := TX7) (N := 33) hx hb hts hiX7 tyX7 tyX7_ok nmX7 hown hK hP hD hS 0 rfl rfl 21 (by decide) (hts (.fieldLink RX7 133 "ClockOnceModel" "acts" "I") (List.mem_of_getElem? (i := 4) rfl)) (fun _ h9 => h9) rfl (by decide +kernel) rfl rfl (Nat.le_of_ble_eq_true rfl) dX7_again_57 (fun H locs hP hD hS => ?_)
      have hP : va_P D vwCl (wX7 cI cZ a0 w_2 sd) H := by rw [ew_2]; exact hP
      have hD : va_D A (wX7 cI cZ a0 w_2 sd) := by rw [ew_2]; exact hD
      refine lv_aload_n hx hb dX7_again_60 rfl (lv_at hl 0 rfl) ?_
      refine va_get (D := D) (ci := 7) (v := .ref (a0 11)) (C := RX7) (T := TX7) (N := 33) hx hb hts hiX7 hown hK hP 0 rfl rfl 16 (by decide) (hts (.fieldLink RX7 40 "ClockOnceModel" "now" "[I") (List.mem_of_getElem? (i := 2) rfl)) (fun _ h9 => h9) rfl dX7_again_61 ?_
      refine lv_iconst (v := (1 : Int32)) hx hb dX7_again_64 (by decide) ?_
      obtain ⟨v_3, ev_3, hiv_3, h⟩ := mk_rdE h
      refine va_iald hx hb hK hP 11 0 rfl rfl hiv_3 dX7_again_65 ?_
      refine mk_topi ev_3 ?_
      exact hret _ _ _ _ _ _ h hP hD hS dX7_again_66
    · have h := mk_ifn q_1 h
      refine lv_aload_n hx hb dX7_again_32 rfl (lv_at hl 0 rfl) ?_
      refine va_get (D := D) (ci := 7) (v := .ref (a0 11)) (C := RX7) (T := TX7) (N := 33) hx hb hts hiX7 hown hK hP 0 rfl rfl 16 (by decide) (hts (.fieldLink RX7 40 "ClockOnceModel" "now" "[I") (List.mem_of_getElem? (i := 2) rfl)) (fun _ h9 => h9) rfl dX7_again_33 ?_
      refine lv_iload_n hx hb dX7_again_36 rfl (lv_at hl 2 rfl) ?_
      refine lv_aload_n hx hb dX7_again_37 rfl (lv_at hl 0 rfl) ?_
      refine va_get (D := D) (ci := 7) (v := .ref (a0 19)) (C := RX7) (T := TX7) (N := 33) hx hb hts hiX7 hown hK hP 0 rfl rfl 32 (by decide) (hts (.fieldLink RX7 65 "ClockOnceModel" "kept" "[I") (List.mem_of_getElem? (i := 3) rfl)) (fun _ h9 => h9) rfl dX7_again_38 ?_
      refine lv_bipush (v := (10 : Int32)) hx hb dX7_again_41 (by decide) ?_
      refine lv_iload_n hx hb dX7_again_43 rfl (lv_at hl 1 rfl) ?_
      refine lv_imul hx hb dX7_again_44 ?_
      refine lv_iload_n hx hb dX7_again_45 rfl (lv_at hl 2 rfl) ?_
      refine lv_iadd hx hb dX7_again_46 ?_
      obtain ⟨v_4, ev_4, hiv_4, h⟩ := mk_rdE h
      refine va_iald hx hb hK hP 19 0 rfl rfl hiv_4 dX7_again_47 ?_
      refine mk_topi ev_4 ?_
      obtain ⟨hx_5, h⟩ := mk_ixE h
      obtain ⟨w_6, ew_6, h⟩ := mk_nmE h
      refine va_iast hx hb hK hP hD hS 11 0 rfl rfl hx_5 dX7_again_48 (fun H locs hP hD hS => ?_)
      have hP : va_P D vwCl (wX7 cI cZ a0 w_6 sd) H := by rw [ew_6]; exact hP
      have hD : va_D A (wX7 cI cZ a0 w_6 sd) := by rw [ew_6]; exact hD
      refine lv_iinc (v := (x2 + (1 : Int32))) (lv' := [(2, .int (x2 + (1 : Int32))), (0, .ref (a0 0)), (1, .int x1)]) hx hb dX7_again_49 hl (k := 2) rfl rfl (by decide) rfl (fun ls hl => ?_)
      refine lv_goto (tgt := 26) hx hb dX7_again_52 (by decide) ?_
      exact ih26 w_6 (x2 + (1 : Int32)) h H locs ls hP hD hS (lv_sub hl [1, 2, 0] rfl)
  unfold f_X7_again at h
  refine lv_iload_n hx hb dX7_again_0 rfl (lv_at hl 1 rfl) ?_
  refine lv_i2l (v := (p1.toInt64)) hx hb dX7_again_1 rfl ?_
  refine lv_lconst (v := (0 : Int64)) hx hb dX7_again_2 (by decide) ?_
  refine lv_lconst (v := (1 : Int64)) hx hb dX7_again_3 (by decide) ?_
  obtain ⟨r_7, er_7, h⟩ := mk_bd h
  refine pc_s (As := [.long (p1.toInt64), .long (0 : Int64), .long (1 : Int64)]) (rest := []) ⟨hx, hb, hml, hown, hts⟩ (c_X7_in l D cI cZ cO N (p1.toInt64) (0 : Int64) (1 : Int64) r_7 er_7) (va_cwS 3 hts k_X7_again_X7_in_73 rfl rfl rfl (by decide +kernel) ⟨(Nat.le_of_ble_eq_true rfl), (Nat.le_of_ble_eq_true rfl)⟩) (hP.sub (ws' := []) [] rfl) hK rfl hl.1 rfl (Nat.le_of_ble_eq_true rfl) dX7_again_4 ⟨Nat.zero_le _, Nat.zero_le _⟩ ?_
  refine lv_if_ne (tgt := 12) hx hb dX7_again_7 (by decide) (fun q_8 => ?_) (fun q_8 => ?_)
  · have h := mk_ifn q_8 h
    refine lv_aload_n hx hb dX7_again_12 rfl (lv_at hl 0 rfl) ?_
    refine va_get (D := D) (ci := 7) (v := .ref (a0 18)) (C := RX7) (T := TX7) (N := 33) hx hb hts hiX7 hown hK hP 0 rfl rfl 31 (by decide) (hts (.fieldLink RX7 61 "ClockOnceModel" "isKept" "[Z") (List.mem_of_getElem? (i := 1) rfl)) (fun _ h9 => h9) rfl dX7_again_13 ?_
    refine lv_iload_n hx hb dX7_again_16 rfl (lv_at hl 1 rfl) ?_
    obtain ⟨v_9, ev_9, hiv_9, h⟩ := mk_rdE h
    refine va_zald hx hb hK hP 18 1 rfl rfl hiv_9 dX7_again_17 ?_
    refine mk_topi ev_9 ?_
    refine lv_if_ne (tgt := 24) hx hb dX7_again_18 (by decide) (fun q_10 => ?_) (fun q_10 => ?_)
    · have h := mk_ifn q_10 h
      refine lv_iconst (v := (0 : Int32)) hx hb dX7_again_24 (by decide) ?_
      refine lv_istore_n (lv' := [(2, .int (0 : Int32)), (0, .ref (a0 0)), (1, .int p1)]) hx hb dX7_again_25 rfl hl (by decide) rfl (fun ls hl => ?_)
      exact K26 u0 p1 (0 : Int32) H locs ls hP hD hS (lv_sub hl [1, 2, 0] rfl) h
    · have h := mk_ifp q_10 h
      refine lv_bipush (v := (-3 : Int32)) hx hb dX7_again_21 (by decide) ?_
      exact hret _ _ _ _ _ _ h hP hD hS dX7_again_23
  · have h := mk_ifp q_8 h
    refine lv_iconst (v := (-1 : Int32)) hx hb dX7_again_10 (by decide) ?_
    exact hret _ _ _ _ _ _ h hP hD hS dX7_again_11

abbrev rm_X7_isAsker : Room := { frames := 1, cells := 0, slots := 0, locals := 25 }
set_option maxRecDepth 20000 in
theorem k_X7_isAsker_X7_in_73 : GoodIn wsX7_isAsker (va_wsS RX7 73 yX7_in wsX7_in) := goodIn_r _ [2, 3, 4, 5] rfl (by decide +kernel)
set_option maxHeartbeats 4000000 in
set_option maxRecDepth 100000 in
theorem c_X7_isAsker (l : Launch) (D : va_G) (cI cZ cO : ClassId) (N : Nat) (a0 : Nat → Nat) (u0 : TU) (sd : Int64) (p1 : Int32) (out : Int32) (h : f_X7_isAsker N u0 sd p1 = some out) : Met l yX7_isAsker wsX7_isAsker rm_X7_isAsker (va_Pc [.ref (a0 0), .int p1] (fun U => va_P D vwCl (wX7 cI cZ a0 u0 sd) U.heap ∧ va_K D vwCl (tyA cI cZ cO) U)) (vp_Si (fun r => r = out)) 0 0 (fun _ => False) := by
  refine pm_z (own := RX7) (cc := cX7_isAsker) (maxL := 2) (by decide) rfl rfl (Nat.le_of_ble_eq_true rfl) ?_
  intro p e s m args below meth c Q H ls hx hb hml hown hts hP hK hl hret
  have hl : lv_has ls 2 [(0, .ref (a0 0)), (1, .int p1)] := hl
  have hiX7 : ∀ w ∈ u_ws RX7 TX7 33, w ∈ wsX7_isAsker := mk_seg 6 33 rfl
  unfold f_X7_isAsker at h
  refine lv_iload_n hx hb dX7_isAsker_0 rfl (lv_at hl 1 rfl) ?_
  refine lv_i2l (v := (p1.toInt64)) hx hb dX7_isAsker_1 rfl ?_
  refine lv_lconst (v := (0 : Int64)) hx hb dX7_isAsker_2 (by decide) ?_
  refine lv_aload_n hx hb dX7_isAsker_3 rfl (lv_at hl 0 rfl) ?_
  refine va_get (D := D) (ci := 7) (v := .int (u0 0 1)) (C := RX7) (T := TX7) (N := 33) hx hb hts hiX7 hown hK hP 0 rfl rfl 1 (by decide) (hts (.fieldLink RX7 127 "ClockOnceModel" "askers" "I") (List.mem_of_getElem? (i := 1) rfl)) (fun _ h9 => h9) rfl dX7_isAsker_4 ?_
  refine lv_iconst (v := (1 : Int32)) hx hb dX7_isAsker_7 (by decide) ?_
  refine lv_isub hx hb dX7_isAsker_8 ?_
  refine lv_i2l (v := (((u0 0 1) - (1 : Int32)).toInt64)) hx hb dX7_isAsker_9 rfl ?_
  obtain ⟨r_1, er_1, h⟩ := mk_bd h
  refine pc_s (As := [.long (p1.toInt64), .long (0 : Int64), .long (((u0 0 1) - (1 : Int32)).toInt64)]) (rest := []) ⟨hx, hb, hml, hown, hts⟩ (c_X7_in l D cI cZ cO N (p1.toInt64) (0 : Int64) (((u0 0 1) - (1 : Int32)).toInt64) r_1 er_1) (va_cwS 3 hts k_X7_isAsker_X7_in_73 rfl rfl rfl (by decide +kernel) ⟨(Nat.le_of_ble_eq_true rfl), (Nat.le_of_ble_eq_true rfl)⟩) (hP.sub (ws' := []) [] rfl) hK rfl hl.1 rfl (Nat.le_of_ble_eq_true rfl) dX7_isAsker_10 ⟨Nat.zero_le _, Nat.zero_le _⟩ ?_
  obtain ⟨hz_2, h⟩ := mk_zE h
  exact hret _ _ _ h hz_2 dX7_isAsker_13

abbrev rm_X7_isThing : Room := { frames := 1, cells := 0, slots := 0, locals := 25 }
set_option maxRecDepth 20000 in
theorem k_X7_isThing_X7_in_73 : GoodIn wsX7_isThing (va_wsS RX7 73 yX7_in wsX7_in) := goodIn_r _ [2, 3, 4, 5] rfl (by decide +kernel)
set_option maxHeartbeats 4000000 in
set_option maxRecDepth 100000 in
theorem c_X7_isThing (l : Launch) (D : va_G) (cI cZ cO : ClassId) (N : Nat) (a0 : Nat → Nat) (u0 : TU) (sd : Int64) (p1 : Int32) (out : Int32) (h : f_X7_isThing N u0 sd p1 = some out) : Met l yX7_isThing wsX7_isThing rm_X7_isThing (va_Pc [.ref (a0 0), .int p1] (fun U => va_P D vwCl (wX7 cI cZ a0 u0 sd) U.heap ∧ va_K D vwCl (tyA cI cZ cO) U)) (vp_Si (fun r => r = out)) 0 0 (fun _ => False) := by
  refine pm_z (own := RX7) (cc := cX7_isThing) (maxL := 2) (by decide) rfl rfl (Nat.le_of_ble_eq_true rfl) ?_
  intro p e s m args below meth c Q H ls hx hb hml hown hts hP hK hl hret
  have hl : lv_has ls 2 [(0, .ref (a0 0)), (1, .int p1)] := hl
  have hiX7 : ∀ w ∈ u_ws RX7 TX7 33, w ∈ wsX7_isThing := mk_seg 6 33 rfl
  unfold f_X7_isThing at h
  refine lv_iload_n hx hb dX7_isThing_0 rfl (lv_at hl 1 rfl) ?_
  refine lv_i2l (v := (p1.toInt64)) hx hb dX7_isThing_1 rfl ?_
  refine lv_lconst (v := (0 : Int64)) hx hb dX7_isThing_2 (by decide) ?_
  refine lv_aload_n hx hb dX7_isThing_3 rfl (lv_at hl 0 rfl) ?_
  refine va_get (D := D) (ci := 7) (v := .int (u0 0 0)) (C := RX7) (T := TX7) (N := 33) hx hb hts hiX7 hown hK hP 0 rfl rfl 0 (by decide) (hts (.fieldLink RX7 124 "ClockOnceModel" "things" "I") (List.mem_of_getElem? (i := 1) rfl)) (fun _ h9 => h9) rfl dX7_isThing_4 ?_
  refine lv_iconst (v := (1 : Int32)) hx hb dX7_isThing_7 (by decide) ?_
  refine lv_isub hx hb dX7_isThing_8 ?_
  refine lv_i2l (v := (((u0 0 0) - (1 : Int32)).toInt64)) hx hb dX7_isThing_9 rfl ?_
  obtain ⟨r_1, er_1, h⟩ := mk_bd h
  refine pc_s (As := [.long (p1.toInt64), .long (0 : Int64), .long (((u0 0 0) - (1 : Int32)).toInt64)]) (rest := []) ⟨hx, hb, hml, hown, hts⟩ (c_X7_in l D cI cZ cO N (p1.toInt64) (0 : Int64) (((u0 0 0) - (1 : Int32)).toInt64) r_1 er_1) (va_cwS 3 hts k_X7_isThing_X7_in_73 rfl rfl rfl (by decide +kernel) ⟨(Nat.le_of_ble_eq_true rfl), (Nat.le_of_ble_eq_true rfl)⟩) (hP.sub (ws' := []) [] rfl) hK rfl hl.1 rfl (Nat.le_of_ble_eq_true rfl) dX7_isThing_10 ⟨Nat.zero_le _, Nat.zero_le _⟩ ?_
  obtain ⟨hz_2, h⟩ := mk_zE h
  exact hret _ _ _ h hz_2 dX7_isThing_13

abbrev rm_X7_keepAct : Room := { frames := 0, cells := 0, slots := 0, locals := 0 }
set_option maxHeartbeats 4000000 in
set_option maxRecDepth 100000 in
theorem c_X7_keepAct (l : Launch) (D : va_G) (cI cZ cO : ClassId) (N : Nat) (a0 : Nat → Nat) (u0 : TU) (sd : Int64) (sz : Nat) (out : TU) (h : f_X7_keepAct N u0 sd = some out) : Met l yX7_keepAct wsX7_keepAct rm_X7_keepAct (va_Pc [.ref (a0 0)] (mk_Pe D vwCl (tyA cI cZ cO) (wX7 cI cZ a0 u0 sd) sz)) (va_Qv (fun u => u = out) (mk_Be D vwCl (wX7 cI cZ a0 u0 sd) sz (fun q => (wX7 cI cZ a0 q sd))) (va_A (wX7 cI cZ a0 u0 sd) sz)) 0 0 (va_A (wX7 cI cZ a0 u0 sd) sz) := by
  refine em_v (own := RX7) (cc := cX7_keepAct) (maxL := 2) (by decide) rfl rfl (Nat.le_of_ble_eq_true rfl) ?_
  intro p e s m args below meth c Q A H0 H locs ls hx hb hml hown hts hP hK hD hS hA hl hret
  have hl : lv_has ls 2 [(0, .ref (a0 0))] := hl
  have hiX7 : ∀ w ∈ u_ws RX7 TX7 33, w ∈ wsX7_keepAct := mk_seg 5 33 rfl
  have K2 : ∀ (u0 : TU) (x1 : Int32) (H : Heap) (locs : List Loc) (ls : Array Slot), va_P D vwCl (wX7 cI cZ a0 u0 sd) H → va_D A (wX7 cI cZ a0 u0 sd) → va_S A H0 H locs → lv_has ls 2 [(0, .ref (a0 0)), (1, .int x1)] → lq2 (g_X7_keepAct_2 N sd) N u0 x1 = some out → W p l e rm_X7_keepAct s m args below meth c H locs 0 0 Q (F0 m 2 ls []) := by
    intro u0 x1 H locs ls hP hD hS hl h
    refine lq2_W (Wd := fun u0 x1 => ∀ (H : Heap) (locs : List Loc) (ls : Array Slot), va_P D vwCl (wX7 cI cZ a0 u0 sd) H → va_D A (wX7 cI cZ a0 u0 sd) → va_S A H0 H locs → lv_has ls 2 [(0, .ref (a0 0)), (1, .int x1)] → W p l e rm_X7_keepAct s m args below meth c H locs 0 0 Q (F0 m 2 ls [])) (fun rec2 ih2 u0 x1 h H locs ls hP hD hS hl => ?_) N u0 x1 h H locs ls hP hD hS hl
    unfold g_X7_keepAct_2 at h
    refine lv_iload_n hx hb dX7_keepAct_2 rfl (lv_at hl 1 rfl) ?_
    refine lv_bipush (v := (10 : Int32)) hx hb dX7_keepAct_3 (by decide) ?_
    refine lv_icmp_ge (tgt := 34) hx hb dX7_keepAct_5 (by decide) (fun q_1 => ?_) (fun q_1 => ?_)
    · have h := mk_ifp q_1 h
      refine lv_aload_n hx hb dX7_keepAct_34 rfl (lv_at hl 0 rfl) ?_
      refine lv_aload_n hx hb dX7_keepAct_35 rfl (lv_at hl 0 rfl) ?_
      refine va_get (D := D) (ci := 7) (v := .int (u0 0 10)) (C := RX7) (T := TX7) (N := 33) hx hb hts hiX7 hown hK hP 0 rfl rfl 22 (by decide) (hts (.fieldLink RX7 152 "ClockOnceModel" "next" "I") (List.mem_of_getElem? (i := 2) rfl)) (fun _ h9 => h9) rfl dX7_keepAct_36 ?_
      refine lv_iconst (v := (1 : Int32)) hx hb dX7_keepAct_39 (by decide) ?_
      refine lv_iadd hx hb dX7_keepAct_40 ?_
      refine lv_bipush (v := (16 : Int32)) hx hb dX7_keepAct_41 (by decide) ?_
      refine lv_irem hx hb dX7_keepAct_43 (by decide) ?_
      obtain ⟨w_2, ew_2, h⟩ := mk_nmE h
      refine va_put (D := D) (ci := 7) (v := .int (((u0 0 10) + (1 : Int32)) - ((u0 0 10) + (1 : Int32)) / (16 : Int32) * (16 : Int32))) (ty := .int) (C := RX7) (T := TX7) (N := 33) hx hb hts hiX7 tyX7 tyX7_ok nmX7 hown hK hP hD hS 0 rfl rfl 22 (by decide) (hts (.fieldLink RX7 152 "ClockOnceModel" "next" "I") (List.mem_of_getElem? (i := 2) rfl)) (fun _ h9 => h9) rfl (by decide +kernel) rfl rfl (Nat.le_of_ble_eq_true rfl) dX7_keepAct_44 (fun H locs hP hD hS => ?_)
      have hP : va_P D vwCl (wX7 cI cZ a0 w_2 sd) H := by rw [ew_2]; exact hP
      have hD : va_D A (wX7 cI cZ a0 w_2 sd) := by rw [ew_2]; exact hD
      refine lv_aload_n hx hb dX7_keepAct_47 rfl (lv_at hl 0 rfl) ?_
      refine lv_aload_n hx hb dX7_keepAct_48 rfl (lv_at hl 0 rfl) ?_
      refine va_get (D := D) (ci := 7) (v := .int (w_2 0 9)) (C := RX7) (T := TX7) (N := 33) hx hb hts hiX7 hown hK hP 0 rfl rfl 21 (by decide) (hts (.fieldLink RX7 133 "ClockOnceModel" "acts" "I") (List.mem_of_getElem? (i := 4) rfl)) (fun _ h9 => h9) rfl dX7_keepAct_49 ?_
      refine lv_bipush (v := (16 : Int32)) hx hb dX7_keepAct_52 (by decide) ?_
      refine lv_icmp_ge (tgt := 66) hx hb dX7_keepAct_54 (by decide) (fun q_3 => ?_) (fun q_3 => ?_)
      · have h := mk_ifp q_3 h
        refine lv_bipush (v := (16 : Int32)) hx hb dX7_keepAct_66 (by decide) ?_
        obtain ⟨w_4, ew_4, h⟩ := mk_nmE h
        refine va_put (D := D) (ci := 7) (v := .int (16 : Int32)) (ty := .int) (C := RX7) (T := TX7) (N := 33) hx hb hts hiX7 tyX7 tyX7_ok nmX7 hown hK hP hD hS 0 rfl rfl 21 (by decide) (hts (.fieldLink RX7 133 "ClockOnceModel" "acts" "I") (List.mem_of_getElem? (i := 4) rfl)) (fun _ h9 => h9) rfl (by decide +kernel) rfl rfl (Nat.le_of_ble_eq_true rfl) dX7_keepAct_68 (fun H locs hP hD hS => ?_)
        have hP : va_P D vwCl (wX7 cI cZ a0 w_4 sd) H := by rw [ew_4]; exact hP
        have hD : va_D A (wX7 cI cZ a0 w_4 sd) := by rw [ew_4]; exact hD
        exact hret _ _ _ _ _ h hP hD hS dX7_keepAct_71
      · have h := mk_ifn q_3 h
        refine lv_aload_n hx hb dX7_keepAct_57 rfl (lv_at hl 0 rfl) ?_
        refine va_get (D := D) (ci := 7) (v := .int (w_2 0 9)) (C := RX7) (T := TX7) (N := 33) hx hb hts hiX7 hown hK hP 0 rfl rfl 21 (by decide) (hts (.fieldLink RX7 133 "ClockOnceModel" "acts" "I") (List.mem_of_getElem? (i := 4) rfl)) (fun _ h9 => h9) rfl dX7_keepAct_58 ?_
        refine lv_iconst (v := (1 : Int32)) hx hb dX7_keepAct_61 (by decide) ?_
        refine lv_iadd hx hb dX7_keepAct_62 ?_
        refine lv_goto (tgt := 68) hx hb dX7_keepAct_63 (by decide) ?_
        obtain ⟨w_5, ew_5, h⟩ := mk_nmE h
        refine va_put (D := D) (ci := 7) (v := .int ((w_2 0 9) + (1 : Int32))) (ty := .int) (C := RX7) (T := TX7) (N := 33) hx hb hts hiX7 tyX7 tyX7_ok nmX7 hown hK hP hD hS 0 rfl rfl 21 (by decide) (hts (.fieldLink RX7 133 "ClockOnceModel" "acts" "I") (List.mem_of_getElem? (i := 4) rfl)) (fun _ h9 => h9) rfl (by decide +kernel) rfl rfl (Nat.le_of_ble_eq_true rfl) dX7_keepAct_68 (fun H locs hP hD hS => ?_)
        have hP : va_P D vwCl (wX7 cI cZ a0 w_5 sd) H := by rw [ew_5]; exact hP
        have hD : va_D A (wX7 cI cZ a0 w_5 sd) := by rw [ew_5]; exact hD
        exact hret _ _ _ _ _ h hP hD hS dX7_keepAct_71
    · have h := mk_ifn q_1 h
      refine lv_aload_n hx hb dX7_keepAct_8 rfl (lv_at hl 0 rfl) ?_
      refine va_get (D := D) (ci := 7) (v := .ref (a0 13)) (C := RX7) (T := TX7) (N := 33) hx hb hts hiX7 hown hK hP 0 rfl rfl 23 (by decide) (hts (.fieldLink RX7 46 "ClockOnceModel" "row" "[I") (List.mem_of_getElem? (i := 1) rfl)) (fun _ h9 => h9) rfl dX7_keepAct_9 ?_
      refine lv_bipush (v := (10 : Int32)) hx hb dX7_keepAct_12 (by decide) ?_
      refine lv_aload_n hx hb dX7_keepAct_14 rfl (lv_at hl 0 rfl) ?_
      refine va_get (D := D) (ci := 7) (v := .int (u0 0 10)) (C := RX7) (T := TX7) (N := 33) hx hb hts hiX7 hown hK hP 0 rfl rfl 22 (by decide) (hts (.fieldLink RX7 152 "ClockOnceModel" "next" "I") (List.mem_of_getElem? (i := 2) rfl)) (fun _ h9 => h9) rfl dX7_keepAct_15 ?_
      refine lv_imul hx hb dX7_keepAct_18 ?_
      refine lv_iload_n hx hb dX7_keepAct_19 rfl (lv_at hl 1 rfl) ?_
      refine lv_iadd hx hb dX7_keepAct_20 ?_
      refine lv_aload_n hx hb dX7_keepAct_21 rfl (lv_at hl 0 rfl) ?_
      refine va_get (D := D) (ci := 7) (v := .ref (a0 11)) (C := RX7) (T := TX7) (N := 33) hx hb hts hiX7 hown hK hP 0 rfl rfl 16 (by decide) (hts (.fieldLink RX7 40 "ClockOnceModel" "now" "[I") (List.mem_of_getElem? (i := 3) rfl)) (fun _ h9 => h9) rfl dX7_keepAct_22 ?_
      refine lv_iload_n hx hb dX7_keepAct_25 rfl (lv_at hl 1 rfl) ?_
      obtain ⟨v_6, ev_6, hiv_6, h⟩ := mk_rdE h
      refine va_iald hx hb hK hP 11 0 rfl rfl hiv_6 dX7_keepAct_26 ?_
      refine mk_topi ev_6 ?_
      obtain ⟨hx_7, h⟩ := mk_ixE h
      obtain ⟨w_8, ew_8, h⟩ := mk_nmE h
      refine va_iast hx hb hK hP hD hS 13 0 rfl rfl hx_7 dX7_keepAct_27 (fun H locs hP hD hS => ?_)
      have hP : va_P D vwCl (wX7 cI cZ a0 w_8 sd) H := by rw [ew_8]; exact hP
      have hD : va_D A (wX7 cI cZ a0 w_8 sd) := by rw [ew_8]; exact hD
      refine lv_iinc (v := (x1 + (1 : Int32))) (lv' := [(1, .int (x1 + (1 : Int32))), (0, .ref (a0 0))]) hx hb dX7_keepAct_28 hl (k := 1) rfl rfl (by decide) rfl (fun ls hl => ?_)
      refine lv_goto (tgt := 2) hx hb dX7_keepAct_31 (by decide) ?_
      exact ih2 w_8 (x1 + (1 : Int32)) h H locs ls hP hD hS (lv_sub hl [1, 0] rfl)
  unfold f_X7_keepAct at h
  refine lv_iconst (v := (0 : Int32)) hx hb dX7_keepAct_0 (by decide) ?_
  refine lv_istore_n (lv' := [(1, .int (0 : Int32)), (0, .ref (a0 0))]) hx hb dX7_keepAct_1 rfl hl (by decide) rfl (fun ls hl => ?_)
  exact K2 u0 (0 : Int32) H locs ls hP hD hS (lv_sub hl [1, 0] rfl) h

abbrev rm_X7_trueEnd : Room := { frames := 0, cells := 0, slots := 0, locals := 0 }
set_option maxHeartbeats 4000000 in
set_option maxRecDepth 100000 in
theorem c_X7_trueEnd (l : Launch) (D : va_G) (cI cZ cO : ClassId) (N : Nat) (a0 : Nat → Nat) (u0 : TU) (sd : Int64) (p1 : Int32) (out : Int32) (h : f_X7_trueEnd N u0 sd p1 = some out) : Met l yX7_trueEnd wsX7_trueEnd rm_X7_trueEnd (va_Pc [.ref (a0 0), .int p1] (fun U => va_P D vwCl (wX7 cI cZ a0 u0 sd) U.heap ∧ va_K D vwCl (tyA cI cZ cO) U)) (vp_Si (fun r => r = out)) 0 0 (fun _ => False) := by
  refine pm_i (own := RX7) (cc := cX7_trueEnd) (maxL := 2) (by decide) rfl rfl (Nat.le_of_ble_eq_true rfl) ?_
  intro p e s m args below meth c Q H ls hx hb hml hown hts hP hK hl hret
  have hl : lv_has ls 2 [(0, .ref (a0 0)), (1, .int p1)] := hl
  have hiX7 : ∀ w ∈ u_ws RX7 TX7 33, w ∈ wsX7_trueEnd := mk_seg 2 33 rfl
  unfold f_X7_trueEnd at h
  refine lv_aload_n hx hb dX7_trueEnd_0 rfl (lv_at hl 0 rfl) ?_
  refine va_get (D := D) (ci := 7) (v := .ref (a0 1)) (C := RX7) (T := TX7) (N := 33) hx hb hts hiX7 hown hK hP 0 rfl rfl 3 (by decide) (hts (.fieldLink RX7 7 "ClockOnceModel" "of" "[I") (List.mem_of_getElem? (i := 1) rfl)) (fun _ h9 => h9) rfl dX7_trueEnd_1 ?_
  refine lv_iconst (v := (5 : Int32)) hx hb dX7_trueEnd_4 (by decide) ?_
  refine lv_iload_n hx hb dX7_trueEnd_5 rfl (lv_at hl 1 rfl) ?_
  refine lv_imul hx hb dX7_trueEnd_6 ?_
  refine lv_aload_n hx hb dX7_trueEnd_7 rfl (lv_at hl 0 rfl) ?_
  refine va_get (D := D) (ci := 7) (v := .ref (a0 1)) (C := RX7) (T := TX7) (N := 33) hx hb hts hiX7 hown hK hP 0 rfl rfl 3 (by decide) (hts (.fieldLink RX7 7 "ClockOnceModel" "of" "[I") (List.mem_of_getElem? (i := 1) rfl)) (fun _ h9 => h9) rfl dX7_trueEnd_8 ?_
  refine lv_iconst (v := (5 : Int32)) hx hb dX7_trueEnd_11 (by decide) ?_
  refine lv_iload_n hx hb dX7_trueEnd_12 rfl (lv_at hl 1 rfl) ?_
  refine lv_imul hx hb dX7_trueEnd_13 ?_
  refine lv_iconst (v := (4 : Int32)) hx hb dX7_trueEnd_14 (by decide) ?_
  refine lv_iadd hx hb dX7_trueEnd_15 ?_
  obtain ⟨v_1, ev_1, hiv_1, h⟩ := mk_rdE h
  refine va_iald hx hb hK hP 1 0 rfl rfl hiv_1 dX7_trueEnd_16 ?_
  refine mk_topi ev_1 ?_
  refine lv_iadd hx hb dX7_trueEnd_17 ?_
  obtain ⟨v_2, ev_2, hiv_2, h⟩ := mk_rdE h
  refine va_iald hx hb hK hP 1 0 rfl rfl hiv_2 dX7_trueEnd_18 ?_
  refine mk_topi ev_2 ?_
  exact hret _ _ _ h dX7_trueEnd_19

abbrev rm_X7_ask : Room := { frames := 2, cells := 0, slots := 0, locals := 46 }
set_option maxRecDepth 20000 in
theorem k_X7_ask_X7_isAsker_146 : GoodIn wsX7_ask (wsV RX7 146 RX7 yX7_isAsker wsX7_isAsker) := goodIn_r _ [4, 5, 6, 7, 8, 9, 10, 11, 7, 12, 30, 31, 32, 33, 34, 35, 36, 37, 38, 39, 40, 41, 42, 43, 44, 45, 46, 47, 48, 49, 50, 51, 52, 53, 54, 55, 56, 57, 58, 59, 60, 61, 62] rfl (by decide +kernel)
set_option maxRecDepth 20000 in
theorem k_X7_ask_X7_isThing_136 : GoodIn wsX7_ask (wsV RX7 136 RX7 yX7_isThing wsX7_isThing) := goodIn_r _ [13, 14, 15, 7, 16, 17, 10, 11, 7, 12, 30, 31, 32, 33, 34, 35, 36, 37, 38, 39, 40, 41, 42, 43, 44, 45, 46, 47, 48, 49, 50, 51, 52, 53, 54, 55, 56, 57, 58, 59, 60, 61, 62] rfl (by decide +kernel)
set_option maxRecDepth 20000 in
theorem k_X7_ask_X7_in_73 : GoodIn wsX7_ask (va_wsS RX7 73 yX7_in wsX7_in) := goodIn_r _ [10, 11, 7, 12] rfl (by decide +kernel)
set_option maxRecDepth 20000 in
theorem k_X7_ask_X7_keepAct_155 : GoodIn wsX7_ask (wsV RX7 155 RX7 yX7_keepAct wsX7_keepAct) := goodIn_r _ [18, 19, 20, 7, 21, 22, 23, 3, 24, 30, 31, 32, 33, 34, 35, 36, 37, 38, 39, 40, 41, 42, 43, 44, 45, 46, 47, 48, 49, 50, 51, 52, 53, 54, 55, 56, 57, 58, 59, 60, 61, 62] rfl (by decide +kernel)
set_option maxRecDepth 20000 in
theorem k_X7_ask_X7_trueEnd_140 : GoodIn wsX7_ask (wsV RX7 140 RX7 yX7_trueEnd wsX7_trueEnd) := goodIn_r _ [25, 26, 27, 7, 28, 29, 30, 31, 32, 33, 34, 35, 36, 37, 38, 39, 40, 41, 42, 43, 44, 45, 46, 47, 48, 49, 50, 51, 52, 53, 54, 55, 56, 57, 58, 59, 60, 61, 62] rfl (by decide +kernel)
set_option maxHeartbeats 4000000 in
set_option maxRecDepth 100000 in
theorem c_X7_ask (l : Launch) (D : va_G) (cI cZ cO : ClassId) (N : Nat) (a0 : Nat → Nat) (u0 : TU) (sd : Int64) (p1 : Int32) (p2 : Int32) (sz : Nat) (out : Int32 × TU) (h : f_X7_ask N u0 sd p1 p2 = some out) : Met l yX7_ask wsX7_ask rm_X7_ask (va_Pc [.ref (a0 0), .int p1, .int p2] (mk_Pe D vwCl (tyA cI cZ cO) (wX7 cI cZ a0 u0 sd) sz)) (va_Qi (fun r u => (r, u) = out) (mk_Be D vwCl (wX7 cI cZ a0 u0 sd) sz (fun q => (wX7 cI cZ a0 q sd))) (va_A (wX7 cI cZ a0 u0 sd) sz)) 0 0 (va_A (wX7 cI cZ a0 u0 sd) sz) := by
  refine em_i (own := RX7) (cc := cX7_ask) (maxL := 3) (by decide) rfl rfl (Nat.le_of_ble_eq_true rfl) ?_
  intro p e s m args below meth c Q A H0 H locs ls hx hb hml hown hts hP hK hD hS hA hl hret
  have hl : lv_has ls 3 [(0, .ref (a0 0)), (1, .int p1), (2, .int p2)] := hl
  have hiX7 : ∀ w ∈ u_ws RX7 TX7 33, w ∈ wsX7_ask := mk_seg 30 33 rfl
  unfold f_X7_ask at h
  refine lv_aload_n hx hb dX7_ask_0 rfl (lv_at hl 0 rfl) ?_
  refine lv_iload_n hx hb dX7_ask_1 rfl (lv_at hl 1 rfl) ?_
  obtain ⟨r_1, er_1, h⟩ := mk_bd h
  refine pc_v (As := [.int p1]) (rest := []) ⟨hx, hb, hml, hown, hts⟩ (c_X7_isAsker l D cI cZ cO N a0 u0 sd p1 r_1 er_1) (cwV 1 hts k_X7_ask_X7_isAsker_146 rfl rfl rfl (by decide +kernel) ⟨(Nat.le_of_ble_eq_true rfl), (Nat.le_of_ble_eq_true rfl)⟩) (va_recv hK hP (ci := 7) (q0 := 0) rfl rfl) hP hK rfl hl.1 rfl (Nat.le_of_ble_eq_true rfl) dX7_ask_2 ⟨Nat.zero_le _, Nat.zero_le _⟩ ?_
  refine lv_if_eq (tgt := 16) hx hb dX7_ask_5 (by decide) (fun q_2 => ?_) (fun q_2 => ?_)
  · have h := mk_ifp q_2 h
    refine lv_iconst (v := (-1 : Int32)) hx hb dX7_ask_16 (by decide) ?_
    exact hret _ _ _ _ _ _ h hP hD hS dX7_ask_17
  · have h := mk_ifn q_2 h
    refine lv_aload_n hx hb dX7_ask_8 rfl (lv_at hl 0 rfl) ?_
    refine lv_iload_n hx hb dX7_ask_9 rfl (lv_at hl 2 rfl) ?_
    obtain ⟨r_3, er_3, h⟩ := mk_bd h
    refine pc_v (As := [.int p2]) (rest := []) ⟨hx, hb, hml, hown, hts⟩ (c_X7_isThing l D cI cZ cO N a0 u0 sd p2 r_3 er_3) (cwV 1 hts k_X7_ask_X7_isThing_136 rfl rfl rfl (by decide +kernel) ⟨(Nat.le_of_ble_eq_true rfl), (Nat.le_of_ble_eq_true rfl)⟩) (va_recv hK hP (ci := 7) (q0 := 0) rfl rfl) hP hK rfl hl.1 rfl (Nat.le_of_ble_eq_true rfl) dX7_ask_10 ⟨Nat.zero_le _, Nat.zero_le _⟩ ?_
    refine lv_if_ne (tgt := 18) hx hb dX7_ask_13 (by decide) (fun q_4 => ?_) (fun q_4 => ?_)
    · have h := mk_ifn q_4 h
      refine lv_iload_n hx hb dX7_ask_18 rfl (lv_at hl 2 rfl) ?_
      refine lv_i2l (v := (p2.toInt64)) hx hb dX7_ask_19 rfl ?_
      refine lv_aload_n hx hb dX7_ask_20 rfl (lv_at hl 0 rfl) ?_
      refine va_get (D := D) (ci := 7) (v := .ref (a0 2)) (C := RX7) (T := TX7) (N := 33) hx hb hts hiX7 hown hK hP 0 rfl rfl 4 (by decide) (hts (.fieldLink RX7 13 "ClockOnceModel" "from" "[I") (List.mem_of_getElem? (i := 1) rfl)) (fun _ h9 => h9) rfl dX7_ask_21 ?_
      refine lv_iload_n hx hb dX7_ask_24 rfl (lv_at hl 1 rfl) ?_
      obtain ⟨v_5, ev_5, hiv_5, h⟩ := mk_rdE h
      refine va_iald hx hb hK hP 2 0 rfl rfl hiv_5 dX7_ask_25 ?_
      refine mk_topi ev_5 ?_
      refine lv_i2l (v := (v_5.toInt64)) hx hb dX7_ask_26 rfl ?_
      refine lv_aload_n hx hb dX7_ask_27 rfl (lv_at hl 0 rfl) ?_
      refine va_get (D := D) (ci := 7) (v := .ref (a0 3)) (C := RX7) (T := TX7) (N := 33) hx hb hts hiX7 hown hK hP 0 rfl rfl 5 (by decide) (hts (.fieldLink RX7 16 "ClockOnceModel" "to" "[I") (List.mem_of_getElem? (i := 2) rfl)) (fun _ h9 => h9) rfl dX7_ask_28 ?_
      refine lv_iload_n hx hb dX7_ask_31 rfl (lv_at hl 1 rfl) ?_
      obtain ⟨v_6, ev_6, hiv_6, h⟩ := mk_rdE h
      refine va_iald hx hb hK hP 3 0 rfl rfl hiv_6 dX7_ask_32 ?_
      refine mk_topi ev_6 ?_
      refine lv_i2l (v := (v_6.toInt64)) hx hb dX7_ask_33 rfl ?_
      obtain ⟨r_7, er_7, h⟩ := mk_bd h
      refine pc_s (As := [.long (p2.toInt64), .long (v_5.toInt64), .long (v_6.toInt64)]) (rest := []) ⟨hx, hb, hml, hown, hts⟩ (c_X7_in l D cI cZ cO N (p2.toInt64) (v_5.toInt64) (v_6.toInt64) r_7 er_7) (va_cwS 3 hts k_X7_ask_X7_in_73 rfl rfl rfl (by decide +kernel) ⟨(Nat.le_of_ble_eq_true rfl), (Nat.le_of_ble_eq_true rfl)⟩) (hP.sub (ws' := []) [] rfl) hK rfl hl.1 rfl (Nat.le_of_ble_eq_true rfl) dX7_ask_34 ⟨Nat.zero_le _, Nat.zero_le _⟩ ?_
      refine lv_if_ne (tgt := 43) hx hb dX7_ask_37 (by decide) (fun q_8 => ?_) (fun q_8 => ?_)
      · have h := mk_ifn q_8 h
        refine lv_aload_n hx hb dX7_ask_43 rfl (lv_at hl 0 rfl) ?_
        refine va_get (D := D) (ci := 7) (v := .ref (a0 11)) (C := RX7) (T := TX7) (N := 33) hx hb hts hiX7 hown hK hP 0 rfl rfl 16 (by decide) (hts (.fieldLink RX7 40 "ClockOnceModel" "now" "[I") (List.mem_of_getElem? (i := 3) rfl)) (fun _ h9 => h9) rfl dX7_ask_44 ?_
        refine lv_bipush (v := (6 : Int32)) hx hb dX7_ask_47 (by decide) ?_
        refine lv_iload_n hx hb dX7_ask_49 rfl (lv_at hl 1 rfl) ?_
        refine lv_iadd hx hb dX7_ask_50 ?_
        obtain ⟨v_9, ev_9, hiv_9, h⟩ := mk_rdE h
        refine va_iald hx hb hK hP 11 0 rfl rfl hiv_9 dX7_ask_51 ?_
        refine mk_topi ev_9 ?_
        refine lv_bipush (v := (-9 : Int32)) hx hb dX7_ask_52 (by decide) ?_
        refine lv_icmp_eq (tgt := 60) hx hb dX7_ask_54 (by decide) (fun q_10 => ?_) (fun q_10 => ?_)
        · have h := mk_ifp q_10 h
          refine lv_aload_n hx hb dX7_ask_60 rfl (lv_at hl 0 rfl) ?_
          obtain ⟨r_11, er_11, h⟩ := mk_bd h
          refine es_vv (As := []) (rest := []) (w' := (wX7 cI cZ a0 r_11 sd)) ⟨hx, hb, hml, hown, hts⟩ (c_X7_keepAct l D cI cZ cO N a0 u0 sd H.size r_11 er_11) (cwV 0 hts k_X7_ask_X7_keepAct_155 rfl rfl rfl (by decide +kernel) ⟨(Nat.le_of_ble_eq_true rfl), (Nat.le_of_ble_eq_true rfl)⟩) (va_recv hK hP (ci := 7) (q0 := 0) rfl rfl) hK hP hD hS hA rfl rfl hl.1 rfl (Nat.le_of_ble_eq_true rfl) dX7_ask_61 ⟨Nat.zero_le _, Nat.zero_le _⟩ (fun H locs hP hD hS => ?_)
          refine lv_aload_n hx hb dX7_ask_64 rfl (lv_at hl 0 rfl) ?_
          refine va_get (D := D) (ci := 7) (v := .ref (a0 11)) (C := RX7) (T := TX7) (N := 33) hx hb hts hiX7 hown hK hP 0 rfl rfl 16 (by decide) (hts (.fieldLink RX7 40 "ClockOnceModel" "now" "[I") (List.mem_of_getElem? (i := 3) rfl)) (fun _ h9 => h9) rfl dX7_ask_65 ?_
          refine lv_bipush (v := (6 : Int32)) hx hb dX7_ask_68 (by decide) ?_
          refine lv_iload_n hx hb dX7_ask_70 rfl (lv_at hl 1 rfl) ?_
          refine lv_iadd hx hb dX7_ask_71 ?_
          refine lv_iload_n hx hb dX7_ask_72 rfl (lv_at hl 2 rfl) ?_
          obtain ⟨hx_12, h⟩ := mk_ixE h
          obtain ⟨w_13, ew_13, h⟩ := mk_nmE h
          refine va_iast hx hb hK hP hD hS 11 0 rfl rfl hx_12 dX7_ask_73 (fun H locs hP hD hS => ?_)
          have hP : va_P D vwCl (wX7 cI cZ a0 w_13 sd) H := by rw [ew_13]; exact hP
          have hD : va_D A (wX7 cI cZ a0 w_13 sd) := by rw [ew_13]; exact hD
          refine lv_aload_n hx hb dX7_ask_74 rfl (lv_at hl 0 rfl) ?_
          refine lv_iload_n hx hb dX7_ask_75 rfl (lv_at hl 2 rfl) ?_
          obtain ⟨r_14, er_14, h⟩ := mk_bd h
          refine pc_v (As := [.int p2]) (rest := []) ⟨hx, hb, hml, hown, hts⟩ (c_X7_trueEnd l D cI cZ cO N a0 w_13 sd p2 r_14 er_14) (cwV 1 hts k_X7_ask_X7_trueEnd_140 rfl rfl rfl (by decide +kernel) ⟨(Nat.le_of_ble_eq_true rfl), (Nat.le_of_ble_eq_true rfl)⟩) (va_recv hK hP (ci := 7) (q0 := 0) rfl rfl) hP hK rfl hl.1 rfl (Nat.le_of_ble_eq_true rfl) dX7_ask_76 ⟨Nat.zero_le _, Nat.zero_le _⟩ ?_
          exact hret _ _ _ _ _ _ h hP hD hS dX7_ask_79
        · have h := mk_ifn q_10 h
          refine lv_bipush (v := (-3 : Int32)) hx hb dX7_ask_57 (by decide) ?_
          exact hret _ _ _ _ _ _ h hP hD hS dX7_ask_59
      · have h := mk_ifp q_8 h
        refine lv_bipush (v := (-2 : Int32)) hx hb dX7_ask_40 (by decide) ?_
        exact hret _ _ _ _ _ _ h hP hD hS dX7_ask_42
    · have h := mk_ifp q_4 h
      refine lv_iconst (v := (-1 : Int32)) hx hb dX7_ask_16 (by decide) ?_
      exact hret _ _ _ _ _ _ h hP hD hS dX7_ask_17

abbrev rm_X7_askedOf : Room := { frames := 0, cells := 0, slots := 0, locals := 0 }
set_option maxHeartbeats 4000000 in
set_option maxRecDepth 100000 in
theorem c_X7_askedOf (l : Launch) (D : va_G) (cI cZ cO : ClassId) (N : Nat) (a0 : Nat → Nat) (u0 : TU) (sd : Int64) (out : Int32) (h : f_X7_askedOf N u0 sd = some out) : Met l yX7_askedOf wsX7_askedOf rm_X7_askedOf (va_Pc [.ref (a0 0)] (fun U => va_P D vwCl (wX7 cI cZ a0 u0 sd) U.heap ∧ va_K D vwCl (tyA cI cZ cO) U)) (vp_Si (fun r => r = out)) 0 0 (fun _ => False) := by
  refine pm_i (own := RX7) (cc := cX7_askedOf) (maxL := 3) (by decide) rfl rfl (Nat.le_of_ble_eq_true rfl) ?_
  intro p e s m args below meth c Q H ls hx hb hml hown hts hP hK hl hret
  have hl : lv_has ls 3 [(0, .ref (a0 0))] := hl
  have hiX7 : ∀ w ∈ u_ws RX7 TX7 33, w ∈ wsX7_askedOf := mk_seg 3 33 rfl
  have K4 : ∀ (x1 : Int32) (x2 : Int32) (ls : Array Slot), lv_has ls 3 [(0, .ref (a0 0)), (1, .int x1), (2, .int x2)] → lq2 (g_X7_askedOf_4 N u0 sd) N x1 x2 = some out → W p l e rm_X7_askedOf s m args below meth c H [] 0 0 Q (F0 m 4 ls []) := by
    intro x1 x2 ls hl h
    refine lq2_W (Wd := fun x1 x2 => ∀ (ls : Array Slot), lv_has ls 3 [(0, .ref (a0 0)), (1, .int x1), (2, .int x2)] → W p l e rm_X7_askedOf s m args below meth c H [] 0 0 Q (F0 m 4 ls [])) (fun rec4 ih4 x1 x2 h ls hl => ?_) N x1 x2 h ls hl
    unfold g_X7_askedOf_4 at h
    refine lv_iload_n hx hb dX7_askedOf_4 rfl (lv_at hl 2 rfl) ?_
    refine lv_aload_n hx hb dX7_askedOf_5 rfl (lv_at hl 0 rfl) ?_
    refine va_get (D := D) (ci := 7) (v := .int (u0 0 1)) (C := RX7) (T := TX7) (N := 33) hx hb hts hiX7 hown hK hP 0 rfl rfl 1 (by decide) (hts (.fieldLink RX7 127 "ClockOnceModel" "askers" "I") (List.mem_of_getElem? (i := 1) rfl)) (fun _ h9 => h9) rfl dX7_askedOf_6 ?_
    refine lv_icmp_ge (tgt := 50) hx hb dX7_askedOf_9 (by decide) (fun q_1 => ?_) (fun q_1 => ?_)
    · have h := mk_ifp q_1 h
      refine lv_iload_n hx hb dX7_askedOf_50 rfl (lv_at hl 1 rfl) ?_
      exact hret _ _ _ h dX7_askedOf_51
    · have h := mk_ifn q_1 h
      refine lv_iload_n hx hb dX7_askedOf_12 rfl (lv_at hl 1 rfl) ?_
      refine lv_aload_n hx hb dX7_askedOf_13 rfl (lv_at hl 0 rfl) ?_
      refine va_get (D := D) (ci := 7) (v := .ref (a0 11)) (C := RX7) (T := TX7) (N := 33) hx hb hts hiX7 hown hK hP 0 rfl rfl 16 (by decide) (hts (.fieldLink RX7 40 "ClockOnceModel" "now" "[I") (List.mem_of_getElem? (i := 2) rfl)) (fun _ h9 => h9) rfl dX7_askedOf_14 ?_
      refine lv_bipush (v := (6 : Int32)) hx hb dX7_askedOf_17 (by decide) ?_
      refine lv_iload_n hx hb dX7_askedOf_19 rfl (lv_at hl 2 rfl) ?_
      refine lv_iadd hx hb dX7_askedOf_20 ?_
      obtain ⟨v_2, ev_2, hiv_2, h⟩ := mk_rdE h
      refine va_iald hx hb hK hP 11 0 rfl rfl hiv_2 dX7_askedOf_21 ?_
      refine mk_topi ev_2 ?_
      refine lv_bipush (v := (-9 : Int32)) hx hb dX7_askedOf_22 (by decide) ?_
      refine lv_icmp_ne (tgt := 31) hx hb dX7_askedOf_24 (by decide) (fun q_3 => ?_) (fun q_3 => ?_)
      · have h := mk_ifn q_3 h
        refine lv_iconst (v := (1 : Int32)) hx hb dX7_askedOf_31 (by decide) ?_
        refine lv_aload_n hx hb dX7_askedOf_32 rfl (lv_at hl 0 rfl) ?_
        refine va_get (D := D) (ci := 7) (v := .ref (a0 11)) (C := RX7) (T := TX7) (N := 33) hx hb hts hiX7 hown hK hP 0 rfl rfl 16 (by decide) (hts (.fieldLink RX7 40 "ClockOnceModel" "now" "[I") (List.mem_of_getElem? (i := 2) rfl)) (fun _ h9 => h9) rfl dX7_askedOf_33 ?_
        refine lv_bipush (v := (6 : Int32)) hx hb dX7_askedOf_36 (by decide) ?_
        refine lv_iload_n hx hb dX7_askedOf_38 rfl (lv_at hl 2 rfl) ?_
        refine lv_iadd hx hb dX7_askedOf_39 ?_
        obtain ⟨v_4, ev_4, hiv_4, h⟩ := mk_rdE h
        refine va_iald hx hb hK hP 11 0 rfl rfl hiv_4 dX7_askedOf_40 ?_
        refine mk_topi ev_4 ?_
        refine lv_ishl hx hb dX7_askedOf_41 ?_
        refine lv_ior hx hb dX7_askedOf_42 ?_
        refine lv_istore_n (lv' := [(1, .int (x1 ||| ((1 : Int32) <<< (v_4 &&& 31)))), (0, .ref (a0 0)), (2, .int x2)]) hx hb dX7_askedOf_43 rfl hl (by decide) rfl (fun ls hl => ?_)
        refine lv_iinc (v := (x2 + (1 : Int32))) (lv' := [(2, .int (x2 + (1 : Int32))), (1, .int (x1 ||| ((1 : Int32) <<< (v_4 &&& 31)))), (0, .ref (a0 0))]) hx hb dX7_askedOf_44 hl (k := 2) rfl rfl (by decide) rfl (fun ls hl => ?_)
        refine lv_goto (tgt := 4) hx hb dX7_askedOf_47 (by decide) ?_
        exact ih4 (x1 ||| ((1 : Int32) <<< (v_4 &&& 31))) (x2 + (1 : Int32)) h ls (lv_sub hl [2, 1, 0] rfl)
      · have h := mk_ifp q_3 h
        refine lv_iconst (v := (0 : Int32)) hx hb dX7_askedOf_27 (by decide) ?_
        refine lv_goto (tgt := 42) hx hb dX7_askedOf_28 (by decide) ?_
        refine lv_ior hx hb dX7_askedOf_42 ?_
        refine lv_istore_n (lv' := [(1, .int (x1 ||| (0 : Int32))), (0, .ref (a0 0)), (2, .int x2)]) hx hb dX7_askedOf_43 rfl hl (by decide) rfl (fun ls hl => ?_)
        refine lv_iinc (v := (x2 + (1 : Int32))) (lv' := [(2, .int (x2 + (1 : Int32))), (1, .int (x1 ||| (0 : Int32))), (0, .ref (a0 0))]) hx hb dX7_askedOf_44 hl (k := 2) rfl rfl (by decide) rfl (fun ls hl => ?_)
        refine lv_goto (tgt := 4) hx hb dX7_askedOf_47 (by decide) ?_
        exact ih4 (x1 ||| (0 : Int32)) (x2 + (1 : Int32)) h ls (lv_sub hl [2, 1, 0] rfl)
  unfold f_X7_askedOf at h
  refine lv_iconst (v := (0 : Int32)) hx hb dX7_askedOf_0 (by decide) ?_
  refine lv_istore_n (lv' := [(1, .int (0 : Int32)), (0, .ref (a0 0))]) hx hb dX7_askedOf_1 rfl hl (by decide) rfl (fun ls hl => ?_)
  refine lv_iconst (v := (0 : Int32)) hx hb dX7_askedOf_2 (by decide) ?_
  refine lv_istore_n (lv' := [(2, .int (0 : Int32)), (1, .int (0 : Int32)), (0, .ref (a0 0))]) hx hb dX7_askedOf_3 rfl hl (by decide) rfl (fun ls hl => ?_)
  exact K4 (0 : Int32) (0 : Int32) ls (lv_sub hl [2, 1, 0] rfl) h

abbrev rm_X7_heard : Room := { frames := 1, cells := 0, slots := 0, locals := 25 }
set_option maxRecDepth 20000 in
theorem k_X7_heard_X7_in_73 : GoodIn wsX7_heard (va_wsS RX7 73 yX7_in wsX7_in) := goodIn_r _ [3, 4, 5, 6] rfl (by decide +kernel)
set_option maxHeartbeats 4000000 in
set_option maxRecDepth 100000 in
theorem c_X7_heard (l : Launch) (D : va_G) (cI cZ cO : ClassId) (N : Nat) (a0 : Nat → Nat) (u0 : TU) (sd : Int64) (p1 : Int32) (out : Int32) (h : f_X7_heard N u0 sd p1 = some out) : Met l yX7_heard wsX7_heard rm_X7_heard (va_Pc [.ref (a0 0), .int p1] (fun U => va_P D vwCl (wX7 cI cZ a0 u0 sd) U.heap ∧ va_K D vwCl (tyA cI cZ cO) U)) (vp_Si (fun r => r = out)) 0 0 (fun _ => False) := by
  refine pm_i (own := RX7) (cc := cX7_heard) (maxL := 5) (by decide) rfl rfl (Nat.le_of_ble_eq_true rfl) ?_
  intro p e s m args below meth c Q H ls hx hb hml hown hts hP hK hl hret
  have hl : lv_has ls 5 [(0, .ref (a0 0)), (1, .int p1)] := hl
  have hiX7 : ∀ w ∈ u_ws RX7 TX7 33, w ∈ wsX7_heard := mk_seg 7 33 rfl
  have K6 : ∀ (x1 : Int32) (x2 : Int32) (x3 : Int32) (ls : Array Slot), lv_has ls 5 [(0, .ref (a0 0)), (1, .int x1), (2, .int x2), (3, .int x3)] → lq2 (g_X7_heard_6 N u0 sd x1) N x2 x3 = some out → W p l e rm_X7_heard s m args below meth c H [] 0 0 Q (F0 m 6 ls []) := by
    intro x1 x2 x3 ls hl h
    refine lq2_W (Wd := fun x2 x3 => ∀ (ls : Array Slot), lv_has ls 5 [(0, .ref (a0 0)), (1, .int x1), (2, .int x2), (3, .int x3)] → W p l e rm_X7_heard s m args below meth c H [] 0 0 Q (F0 m 6 ls [])) (fun rec6 ih6 x2 x3 h ls hl => ?_) N x2 x3 h ls hl
    have K48 : ∀ (x2 : Int32) (x3 : Int32) (t0 : Int32) (ls : Array Slot), lv_has ls 5 [(0, .ref (a0 0)), (1, .int x1), (2, .int x2), (3, .int x3)] → g_X7_heard_48 N u0 sd rec6 x1 x2 x3 t0 = some out → W p l e rm_X7_heard s m args below meth c H [] 0 0 Q (F0 m 48 ls [.int t0]) := by
      intro x2 x3 t0 ls hl h
      unfold g_X7_heard_48 at h
      refine lv_istore (lv' := [(4, .int t0), (0, .ref (a0 0)), (1, .int x1), (2, .int x2), (3, .int x3)]) hx hb dX7_heard_48 hl (by decide) rfl (fun ls hl => ?_)
      refine lv_iload_n hx hb dX7_heard_50 rfl (lv_at hl 3 rfl) ?_
      refine lv_iload hx hb dX7_heard_51 (lv_at hl 0 rfl) ?_
      refine lv_if_eq (tgt := 70) hx hb dX7_heard_53 (by decide) (fun q_1 => ?_) (fun q_1 => ?_)
      · have h := mk_ifp q_1 h
        refine lv_iconst (v := (0 : Int32)) hx hb dX7_heard_70 (by decide) ?_
        refine lv_ior hx hb dX7_heard_71 ?_
        refine lv_istore_n (lv' := [(2, .int (x2 ||| (0 : Int32))), (4, .int t0), (0, .ref (a0 0)), (1, .int x1), (3, .int x3)]) hx hb dX7_heard_72 rfl hl (by decide) rfl (fun ls hl => ?_)
        refine lv_iinc (v := (x3 + (1 : Int32))) (lv' := [(3, .int (x3 + (1 : Int32))), (2, .int (x2 ||| (0 : Int32))), (4, .int t0), (0, .ref (a0 0)), (1, .int x1)]) hx hb dX7_heard_73 hl (k := 4) rfl rfl (by decide) rfl (fun ls hl => ?_)
        refine lv_goto (tgt := 6) hx hb dX7_heard_76 (by decide) ?_
        exact ih6 (x2 ||| (0 : Int32)) (x3 + (1 : Int32)) h ls (lv_sub hl [3, 4, 1, 0] rfl)
      · have h := mk_ifn q_1 h
        refine lv_iconst (v := (1 : Int32)) hx hb dX7_heard_56 (by decide) ?_
        refine lv_aload_n hx hb dX7_heard_57 rfl (lv_at hl 1 rfl) ?_
        refine va_get (D := D) (ci := 7) (v := .ref (a0 11)) (C := RX7) (T := TX7) (N := 33) hx hb hts hiX7 hown hK hP 0 rfl rfl 16 (by decide) (hts (.fieldLink RX7 40 "ClockOnceModel" "now" "[I") (List.mem_of_getElem? (i := 2) rfl)) (fun _ h9 => h9) rfl dX7_heard_58 ?_
        refine lv_bipush (v := (6 : Int32)) hx hb dX7_heard_61 (by decide) ?_
        refine lv_iload_n hx hb dX7_heard_63 rfl (lv_at hl 4 rfl) ?_
        refine lv_iadd hx hb dX7_heard_64 ?_
        obtain ⟨v_2, ev_2, hiv_2, h⟩ := mk_rdE h
        refine va_iald hx hb hK hP 11 0 rfl rfl hiv_2 dX7_heard_65 ?_
        refine mk_topi ev_2 ?_
        refine lv_ishl hx hb dX7_heard_66 ?_
        refine lv_goto (tgt := 71) hx hb dX7_heard_67 (by decide) ?_
        refine lv_ior hx hb dX7_heard_71 ?_
        refine lv_istore_n (lv' := [(2, .int (x2 ||| ((1 : Int32) <<< (v_2 &&& 31)))), (4, .int t0), (0, .ref (a0 0)), (1, .int x1), (3, .int x3)]) hx hb dX7_heard_72 rfl hl (by decide) rfl (fun ls hl => ?_)
        refine lv_iinc (v := (x3 + (1 : Int32))) (lv' := [(3, .int (x3 + (1 : Int32))), (2, .int (x2 ||| ((1 : Int32) <<< (v_2 &&& 31)))), (4, .int t0), (0, .ref (a0 0)), (1, .int x1)]) hx hb dX7_heard_73 hl (k := 4) rfl rfl (by decide) rfl (fun ls hl => ?_)
        refine lv_goto (tgt := 6) hx hb dX7_heard_76 (by decide) ?_
        exact ih6 (x2 ||| ((1 : Int32) <<< (v_2 &&& 31))) (x3 + (1 : Int32)) h ls (lv_sub hl [3, 4, 1, 0] rfl)
    unfold g_X7_heard_6 at h
    refine lv_iload_n hx hb dX7_heard_6 rfl (lv_at hl 3 rfl) ?_
    refine lv_iload_n hx hb dX7_heard_7 rfl (lv_at hl 1 rfl) ?_
    refine lv_iconst (v := (1 : Int32)) hx hb dX7_heard_8 (by decide) ?_
    refine lv_iadd hx hb dX7_heard_9 ?_
    refine lv_icmp_gt (tgt := 79) hx hb dX7_heard_10 (by decide) (fun q_3 => ?_) (fun q_3 => ?_)
    · have h := mk_ifp q_3 h
      refine lv_iload_n hx hb dX7_heard_79 rfl (lv_at hl 2 rfl) ?_
      exact hret _ _ _ h dX7_heard_80
    · have h := mk_ifn q_3 h
      refine lv_iload_n hx hb dX7_heard_13 rfl (lv_at hl 3 rfl) ?_
      refine lv_i2l (v := (x3.toInt64)) hx hb dX7_heard_14 rfl ?_
      refine lv_lconst (v := (0 : Int64)) hx hb dX7_heard_15 (by decide) ?_
      refine lv_aload_n hx hb dX7_heard_16 rfl (lv_at hl 0 rfl) ?_
      refine va_get (D := D) (ci := 7) (v := .int (u0 0 1)) (C := RX7) (T := TX7) (N := 33) hx hb hts hiX7 hown hK hP 0 rfl rfl 1 (by decide) (hts (.fieldLink RX7 127 "ClockOnceModel" "askers" "I") (List.mem_of_getElem? (i := 1) rfl)) (fun _ h9 => h9) rfl dX7_heard_17 ?_
      refine lv_iconst (v := (1 : Int32)) hx hb dX7_heard_20 (by decide) ?_
      refine lv_isub hx hb dX7_heard_21 ?_
      refine lv_i2l (v := (((u0 0 1) - (1 : Int32)).toInt64)) hx hb dX7_heard_22 rfl ?_
      obtain ⟨r_4, er_4, h⟩ := mk_bd h
      refine pc_s (As := [.long (x3.toInt64), .long (0 : Int64), .long (((u0 0 1) - (1 : Int32)).toInt64)]) (rest := []) ⟨hx, hb, hml, hown, hts⟩ (c_X7_in l D cI cZ cO N (x3.toInt64) (0 : Int64) (((u0 0 1) - (1 : Int32)).toInt64) r_4 er_4) (va_cwS 3 hts k_X7_heard_X7_in_73 rfl rfl rfl (by decide +kernel) ⟨(Nat.le_of_ble_eq_true rfl), (Nat.le_of_ble_eq_true rfl)⟩) (hP.sub (ws' := []) [] rfl) hK rfl hl.1 rfl (Nat.le_of_ble_eq_true rfl) dX7_heard_23 ⟨Nat.zero_le _, Nat.zero_le _⟩ ?_
      refine lv_if_eq (tgt := 47) hx hb dX7_heard_26 (by decide) (fun q_5 => ?_) (fun q_5 => ?_)
      · have h := mk_ifp q_5 h
        refine lv_iconst (v := (0 : Int32)) hx hb dX7_heard_47 (by decide) ?_
        exact K48 x2 x3 (0 : Int32) ls (lv_sub hl [0, 1, 2, 3] rfl) h
      · have h := mk_ifn q_5 h
        refine lv_aload_n hx hb dX7_heard_29 rfl (lv_at hl 0 rfl) ?_
        refine va_get (D := D) (ci := 7) (v := .ref (a0 11)) (C := RX7) (T := TX7) (N := 33) hx hb hts hiX7 hown hK hP 0 rfl rfl 16 (by decide) (hts (.fieldLink RX7 40 "ClockOnceModel" "now" "[I") (List.mem_of_getElem? (i := 2) rfl)) (fun _ h9 => h9) rfl dX7_heard_30 ?_
        refine lv_bipush (v := (6 : Int32)) hx hb dX7_heard_33 (by decide) ?_
        refine lv_iload_n hx hb dX7_heard_35 rfl (lv_at hl 3 rfl) ?_
        refine lv_iadd hx hb dX7_heard_36 ?_
        obtain ⟨v_6, ev_6, hiv_6, h⟩ := mk_rdE h
        refine va_iald hx hb hK hP 11 0 rfl rfl hiv_6 dX7_heard_37 ?_
        refine mk_topi ev_6 ?_
        refine lv_bipush (v := (-9 : Int32)) hx hb dX7_heard_38 (by decide) ?_
        refine lv_icmp_eq (tgt := 47) hx hb dX7_heard_40 (by decide) (fun q_7 => ?_) (fun q_7 => ?_)
        · have h := mk_ifp q_7 h
          refine lv_iconst (v := (0 : Int32)) hx hb dX7_heard_47 (by decide) ?_
          exact K48 x2 x3 (0 : Int32) ls (lv_sub hl [0, 1, 2, 3] rfl) h
        · have h := mk_ifn q_7 h
          refine lv_iconst (v := (1 : Int32)) hx hb dX7_heard_43 (by decide) ?_
          refine lv_goto (tgt := 48) hx hb dX7_heard_44 (by decide) ?_
          exact K48 x2 x3 (1 : Int32) ls (lv_sub hl [0, 1, 2, 3] rfl) h
  unfold f_X7_heard at h
  refine lv_iconst (v := (0 : Int32)) hx hb dX7_heard_0 (by decide) ?_
  refine lv_istore_n (lv' := [(2, .int (0 : Int32)), (0, .ref (a0 0)), (1, .int p1)]) hx hb dX7_heard_1 rfl hl (by decide) rfl (fun ls hl => ?_)
  refine lv_iload_n hx hb dX7_heard_2 rfl (lv_at hl 2 rfl) ?_
  refine lv_iconst (v := (1 : Int32)) hx hb dX7_heard_3 (by decide) ?_
  refine lv_isub hx hb dX7_heard_4 ?_
  refine lv_istore_n (lv' := [(3, .int (p1 - (1 : Int32))), (2, .int (0 : Int32)), (0, .ref (a0 0)), (1, .int p1)]) hx hb dX7_heard_5 rfl hl (by decide) rfl (fun ls hl => ?_)
  exact K6 p1 (0 : Int32) (p1 - (1 : Int32)) ls (lv_sub hl [2, 3, 1, 0] rfl) h

abbrev rm_X7_asker : Room := { frames := 2, cells := 0, slots := 0, locals := 49 }
set_option maxRecDepth 20000 in
theorem k_X7_asker_X7_isAsker_146 : GoodIn wsX7_asker (wsV RX7 146 RX7 yX7_isAsker wsX7_isAsker) := goodIn_r _ [4, 5, 6, 7, 8, 9, 10, 11, 7, 12, 17, 18, 19, 20, 21, 22, 23, 24, 25, 26, 27, 28, 29, 30, 31, 32, 33, 34, 35, 36, 37, 38, 39, 40, 41, 42, 43, 44, 45, 46, 47, 48, 49] rfl (by decide +kernel)
set_option maxRecDepth 20000 in
theorem k_X7_asker_X7_heard_149 : GoodIn wsX7_asker (wsV RX7 149 RX7 yX7_heard wsX7_heard) := goodIn_r _ [13, 14, 15, 7, 16, 9, 3, 10, 11, 7, 12, 17, 18, 19, 20, 21, 22, 23, 24, 25, 26, 27, 28, 29, 30, 31, 32, 33, 34, 35, 36, 37, 38, 39, 40, 41, 42, 43, 44, 45, 46, 47, 48, 49] rfl (by decide +kernel)
set_option maxHeartbeats 4000000 in
set_option maxRecDepth 100000 in
theorem c_X7_asker (l : Launch) (D : va_G) (cI cZ cO : ClassId) (N : Nat) (a0 : Nat → Nat) (u0 : TU) (sd : Int64) (p1 : Int32) (p2 : Int32) (out : Int32) (h : f_X7_asker N u0 sd p1 p2 = some out) : Met l yX7_asker wsX7_asker rm_X7_asker (va_Pc [.ref (a0 0), .int p1, .int p2] (fun U => va_P D vwCl (wX7 cI cZ a0 u0 sd) U.heap ∧ va_K D vwCl (tyA cI cZ cO) U)) (vp_Si (fun r => r = out)) 0 0 (fun _ => False) := by
  refine pm_i (own := RX7) (cc := cX7_asker) (maxL := 3) (by decide) rfl rfl (Nat.le_of_ble_eq_true rfl) ?_
  intro p e s m args below meth c Q H ls hx hb hml hown hts hP hK hl hret
  have hl : lv_has ls 3 [(0, .ref (a0 0)), (1, .int p1), (2, .int p2)] := hl
  have hiX7 : ∀ w ∈ u_ws RX7 TX7 33, w ∈ wsX7_asker := mk_seg 17 33 rfl
  unfold f_X7_asker at h
  refine lv_aload_n hx hb dX7_asker_0 rfl (lv_at hl 0 rfl) ?_
  refine lv_iload_n hx hb dX7_asker_1 rfl (lv_at hl 1 rfl) ?_
  obtain ⟨r_1, er_1, h⟩ := mk_bd h
  refine pc_v (As := [.int p1]) (rest := []) ⟨hx, hb, hml, hown, hts⟩ (c_X7_isAsker l D cI cZ cO N a0 u0 sd p1 r_1 er_1) (cwV 1 hts k_X7_asker_X7_isAsker_146 rfl rfl rfl (by decide +kernel) ⟨(Nat.le_of_ble_eq_true rfl), (Nat.le_of_ble_eq_true rfl)⟩) (va_recv hK hP (ci := 7) (q0 := 0) rfl rfl) hP hK rfl hl.1 rfl (Nat.le_of_ble_eq_true rfl) dX7_asker_2 ⟨Nat.zero_le _, Nat.zero_le _⟩ ?_
  refine lv_if_ne (tgt := 10) hx hb dX7_asker_5 (by decide) (fun q_2 => ?_) (fun q_2 => ?_)
  · have h := mk_ifn q_2 h
    refine lv_iload_n hx hb dX7_asker_10 rfl (lv_at hl 2 rfl) ?_
    by_cases q_3 : p2 = (0 : Int32)
    · have h := mk_ifp q_3 h
      refine lv_tableIn (off := 29) (tgt := 40) hx hb dX7_asker_11 (by rw [q_3]; decide) (by rw [q_3]; decide) (by rw [q_3]; rfl) (by decide) ?_
      refine lv_aload_n hx hb dX7_asker_40 rfl (lv_at hl 0 rfl) ?_
      refine va_get (D := D) (ci := 7) (v := .ref (a0 2)) (C := RX7) (T := TX7) (N := 33) hx hb hts hiX7 hown hK hP 0 rfl rfl 4 (by decide) (hts (.fieldLink RX7 13 "ClockOnceModel" "from" "[I") (List.mem_of_getElem? (i := 1) rfl)) (fun _ h9 => h9) rfl dX7_asker_41 ?_
      refine lv_iload_n hx hb dX7_asker_44 rfl (lv_at hl 1 rfl) ?_
      obtain ⟨v_4, ev_4, hiv_4, h⟩ := mk_rdE h
      refine va_iald hx hb hK hP 2 0 rfl rfl hiv_4 dX7_asker_45 ?_
      refine mk_topi ev_4 ?_
      exact hret _ _ _ h dX7_asker_46
    have h := mk_ifn q_3 h
    by_cases q_5 : p2 = (1 : Int32)
    · have h := mk_ifp q_5 h
      refine lv_tableIn (off := 36) (tgt := 47) hx hb dX7_asker_11 (by rw [q_5]; decide) (by rw [q_5]; decide) (by rw [q_5]; rfl) (by decide) ?_
      refine lv_aload_n hx hb dX7_asker_47 rfl (lv_at hl 0 rfl) ?_
      refine va_get (D := D) (ci := 7) (v := .ref (a0 3)) (C := RX7) (T := TX7) (N := 33) hx hb hts hiX7 hown hK hP 0 rfl rfl 5 (by decide) (hts (.fieldLink RX7 16 "ClockOnceModel" "to" "[I") (List.mem_of_getElem? (i := 2) rfl)) (fun _ h9 => h9) rfl dX7_asker_48 ?_
      refine lv_iload_n hx hb dX7_asker_51 rfl (lv_at hl 1 rfl) ?_
      obtain ⟨v_6, ev_6, hiv_6, h⟩ := mk_rdE h
      refine va_iald hx hb hK hP 3 0 rfl rfl hiv_6 dX7_asker_52 ?_
      refine mk_topi ev_6 ?_
      exact hret _ _ _ h dX7_asker_53
    have h := mk_ifn q_5 h
    by_cases q_7 : p2 = (2 : Int32)
    · have h := mk_ifp q_7 h
      refine lv_tableIn (off := 43) (tgt := 54) hx hb dX7_asker_11 (by rw [q_7]; decide) (by rw [q_7]; decide) (by rw [q_7]; rfl) (by decide) ?_
      refine lv_aload_n hx hb dX7_asker_54 rfl (lv_at hl 0 rfl) ?_
      refine va_get (D := D) (ci := 7) (v := .ref (a0 11)) (C := RX7) (T := TX7) (N := 33) hx hb hts hiX7 hown hK hP 0 rfl rfl 16 (by decide) (hts (.fieldLink RX7 40 "ClockOnceModel" "now" "[I") (List.mem_of_getElem? (i := 3) rfl)) (fun _ h9 => h9) rfl dX7_asker_55 ?_
      refine lv_bipush (v := (6 : Int32)) hx hb dX7_asker_58 (by decide) ?_
      refine lv_iload_n hx hb dX7_asker_60 rfl (lv_at hl 1 rfl) ?_
      refine lv_iadd hx hb dX7_asker_61 ?_
      obtain ⟨v_8, ev_8, hiv_8, h⟩ := mk_rdE h
      refine va_iald hx hb hK hP 11 0 rfl rfl hiv_8 dX7_asker_62 ?_
      refine mk_topi ev_8 ?_
      exact hret _ _ _ h dX7_asker_63
    have h := mk_ifn q_7 h
    by_cases q_9 : p2 = (3 : Int32)
    · have h := mk_ifp q_9 h
      refine lv_tableIn (off := 53) (tgt := 64) hx hb dX7_asker_11 (by rw [q_9]; decide) (by rw [q_9]; decide) (by rw [q_9]; rfl) (by decide) ?_
      refine lv_aload_n hx hb dX7_asker_64 rfl (lv_at hl 0 rfl) ?_
      refine lv_iload_n hx hb dX7_asker_65 rfl (lv_at hl 1 rfl) ?_
      obtain ⟨r_10, er_10, h⟩ := mk_bd h
      refine pc_v (As := [.int p1]) (rest := []) ⟨hx, hb, hml, hown, hts⟩ (c_X7_heard l D cI cZ cO N a0 u0 sd p1 r_10 er_10) (cwV 1 hts k_X7_asker_X7_heard_149 rfl rfl rfl (by decide +kernel) ⟨(Nat.le_of_ble_eq_true rfl), (Nat.le_of_ble_eq_true rfl)⟩) (va_recv hK hP (ci := 7) (q0 := 0) rfl rfl) hP hK rfl hl.1 rfl (Nat.le_of_ble_eq_true rfl) dX7_asker_66 ⟨Nat.zero_le _, Nat.zero_le _⟩ ?_
      exact hret _ _ _ h dX7_asker_69
    have h := mk_ifn q_9 h
    refine lv_tableOut (tgt := 70) hx hb dX7_asker_11 (by have zq_3 := mk_ne (z := 0) (by decide) q_3; have zq_5 := mk_ne (z := 1) (by decide) q_5; have zq_7 := mk_ne (z := 2) (by decide) q_7; have zq_9 := mk_ne (z := 3) (by decide) q_9; omega) (by decide) ?_
    refine lv_bipush (v := (-2 : Int32)) hx hb dX7_asker_70 (by decide) ?_
    exact hret _ _ _ h dX7_asker_72
  · have h := mk_ifp q_2 h
    refine lv_iconst (v := (-1 : Int32)) hx hb dX7_asker_8 (by decide) ?_
    exact hret _ _ _ h dX7_asker_9

abbrev rm_X7_asks : Room := { frames := 0, cells := 0, slots := 0, locals := 0 }
set_option maxHeartbeats 4000000 in
set_option maxRecDepth 100000 in
theorem c_X7_asks (l : Launch) (D : va_G) (cI cZ cO : ClassId) (N : Nat) (p0 : Int32) (p1 : Int32) (out : Int32) (h : f_X7_asks N  p0 p1 = some out) : Met l yX7_asks wsX7_asks rm_X7_asks (va_Pc [.int p0, .int p1] (fun U => va_P D vwCl [] U.heap ∧ va_K D vwCl (tyA cI cZ cO) U)) (vp_Si (fun r => r = out)) 0 0 (fun _ => False) := by
  refine pm_i (own := RX7) (cc := cX7_asks) (maxL := 4) (by decide) rfl rfl (Nat.le_of_ble_eq_true rfl) ?_
  intro p e s m args below meth c Q H ls hx hb hml hown hts hP hK hl hret
  have hl : lv_has ls 4 [(0, .int p0), (1, .int p1)] := hl
  have K4 : ∀ (x2 : Int32) (x3 : Int32) (ls : Array Slot), lv_has ls 4 [(2, .int x2), (3, .int x3)] → lq2 (g_X7_asks_4 N) N x2 x3 = some out → W p l e rm_X7_asks s m args below meth c H [] 0 0 Q (F0 m 4 ls []) := by
    intro x2 x3 ls hl h
    refine lq2_W (Wd := fun x2 x3 => ∀ (ls : Array Slot), lv_has ls 4 [(2, .int x2), (3, .int x3)] → W p l e rm_X7_asks s m args below meth c H [] 0 0 Q (F0 m 4 ls [])) (fun rec4 ih4 x2 x3 h ls hl => ?_) N x2 x3 h ls hl
    unfold g_X7_asks_4 at h
    refine lv_iload_n hx hb dX7_asks_4 rfl (lv_at hl 1 rfl) ?_
    refine lv_iconst (v := (3 : Int32)) hx hb dX7_asks_5 (by decide) ?_
    refine lv_icmp_ge (tgt := 19) hx hb dX7_asks_6 (by decide) (fun q_1 => ?_) (fun q_1 => ?_)
    · have h := mk_ifp q_1 h
      refine lv_iload_n hx hb dX7_asks_19 rfl (lv_at hl 0 rfl) ?_
      refine lv_iconst (v := (5 : Int32)) hx hb dX7_asks_20 (by decide) ?_
      refine lv_irem hx hb dX7_asks_21 (by decide) ?_
      exact hret _ _ _ h dX7_asks_22
    · have h := mk_ifn q_1 h
      refine lv_iload_n hx hb dX7_asks_9 rfl (lv_at hl 0 rfl) ?_
      refine lv_iconst (v := (5 : Int32)) hx hb dX7_asks_10 (by decide) ?_
      refine lv_idiv hx hb dX7_asks_11 (by decide) ?_
      refine lv_istore_n (lv' := [(2, .int (x2 / (5 : Int32))), (3, .int x3)]) hx hb dX7_asks_12 rfl hl (by decide) rfl (fun ls hl => ?_)
      refine lv_iinc (v := (x3 + (1 : Int32))) (lv' := [(3, .int (x3 + (1 : Int32))), (2, .int (x2 / (5 : Int32)))]) hx hb dX7_asks_13 hl (k := 1) rfl rfl (by decide) rfl (fun ls hl => ?_)
      refine lv_goto (tgt := 4) hx hb dX7_asks_16 (by decide) ?_
      exact ih4 (x2 / (5 : Int32)) (x3 + (1 : Int32)) h ls (lv_sub hl [1, 0] rfl)
  unfold f_X7_asks at h
  refine lv_iload_n hx hb dX7_asks_0 rfl (lv_at hl 0 rfl) ?_
  refine lv_istore_n (lv' := [(2, .int p0), (0, .int p0), (1, .int p1)]) hx hb dX7_asks_1 rfl hl (by decide) rfl (fun ls hl => ?_)
  refine lv_iload_n hx hb dX7_asks_2 rfl (lv_at hl 2 rfl) ?_
  refine lv_istore_n (lv' := [(3, .int p1), (2, .int p0), (0, .int p0), (1, .int p1)]) hx hb dX7_asks_3 rfl hl (by decide) rfl (fun ls hl => ?_)
  exact K4 p0 p1 ls (lv_sub hl [1, 0] rfl) h

abbrev rm_X7_mayLink : Room := { frames := 0, cells := 0, slots := 0, locals := 0 }
set_option maxHeartbeats 4000000 in
set_option maxRecDepth 100000 in
theorem c_X7_mayLink (l : Launch) (D : va_G) (cI cZ cO : ClassId) (N : Nat) (a0 : Nat → Nat) (u0 : TU) (sd : Int64) (p1 : Int32) (out : Int32) (h : f_X7_mayLink N u0 sd p1 = some out) : Met l yX7_mayLink wsX7_mayLink rm_X7_mayLink (va_Pc [.ref (a0 0), .int p1] (fun U => va_P D vwCl (wX7 cI cZ a0 u0 sd) U.heap ∧ va_K D vwCl (tyA cI cZ cO) U)) (vp_Si (fun r => r = out)) 0 0 (fun _ => False) := by
  refine pm_i (own := RX7) (cc := cX7_mayLink) (maxL := 6) (by decide) rfl rfl (Nat.le_of_ble_eq_true rfl) ?_
  intro p e s m args below meth c Q H ls hx hb hml hown hts hP hK hl hret
  have hl : lv_has ls 6 [(0, .ref (a0 0)), (1, .int p1)] := hl
  have hiX7 : ∀ w ∈ u_ws RX7 TX7 33, w ∈ wsX7_mayLink := mk_seg 6 33 rfl
  have K4 : ∀ (x1 : Int32) (x2 : Int32) (x3 : Int32) (ls : Array Slot), lv_has ls 6 [(0, .ref (a0 0)), (1, .int x1), (2, .int x2), (3, .int x3)] → lq2 (g_X7_mayLink_4 N u0 sd x1) N x2 x3 = some out → W p l e rm_X7_mayLink s m args below meth c H [] 0 0 Q (F0 m 4 ls []) := by
    intro x1 x2 x3 ls hl h
    refine lq2_W (Wd := fun x2 x3 => ∀ (ls : Array Slot), lv_has ls 6 [(0, .ref (a0 0)), (1, .int x1), (2, .int x2), (3, .int x3)] → W p l e rm_X7_mayLink s m args below meth c H [] 0 0 Q (F0 m 4 ls [])) (fun rec4 ih4 x2 x3 h ls hl => ?_) N x2 x3 h ls hl
    have K54 : ∀ (x2 : Int32) (x3 : Int32) (x4 : Int32) (x5 : Int32) (ls : Array Slot), lv_has ls 6 [(0, .ref (a0 0)), (1, .int x1), (2, .int x2), (3, .int x3), (4, .int x4), (5, .int x5)] → lq2 (g_X7_mayLink_54 N u0 sd rec4 x1 x2 x3) N x4 x5 = some out → W p l e rm_X7_mayLink s m args below meth c H [] 0 0 Q (F0 m 54 ls []) := by
      intro x2 x3 x4 x5 ls hl h
      refine lq2_W (Wd := fun x4 x5 => ∀ (ls : Array Slot), lv_has ls 6 [(0, .ref (a0 0)), (1, .int x1), (2, .int x2), (3, .int x3), (4, .int x4), (5, .int x5)] → W p l e rm_X7_mayLink s m args below meth c H [] 0 0 Q (F0 m 54 ls [])) (fun rec54 ih54 x4 x5 h ls hl => ?_) N x4 x5 h ls hl
      have K90 : ∀ (x5 : Int32) (ls : Array Slot), lv_has ls 6 [(0, .ref (a0 0)), (1, .int x1), (2, .int x2), (3, .int x3), (5, .int x5)] → g_X7_mayLink_90 N u0 sd rec4 rec54 x1 x2 x3 x5 = some out → W p l e rm_X7_mayLink s m args below meth c H [] 0 0 Q (F0 m 90 ls []) := by
        intro x5 ls hl h
        unfold g_X7_mayLink_90 at h
        refine lv_iconst (v := (1 : Int32)) hx hb dX7_mayLink_90 (by decide) ?_
        refine lv_goto (tgt := 95) hx hb dX7_mayLink_91 (by decide) ?_
        refine lv_istore (lv' := [(4, .int (1 : Int32)), (0, .ref (a0 0)), (1, .int x1), (2, .int x2), (3, .int x3), (5, .int x5)]) hx hb dX7_mayLink_95 hl (by decide) rfl (fun ls hl => ?_)
        refine lv_iinc (v := (x5 + (1 : Int32))) (lv' := [(5, .int (x5 + (1 : Int32))), (4, .int (1 : Int32)), (0, .ref (a0 0)), (1, .int x1), (2, .int x2), (3, .int x3)]) hx hb dX7_mayLink_97 hl (k := 5) rfl rfl (by decide) rfl (fun ls hl => ?_)
        refine lv_goto (tgt := 54) hx hb dX7_mayLink_100 (by decide) ?_
        exact ih54 (1 : Int32) (x5 + (1 : Int32)) h ls (lv_sub hl [2, 3, 4, 5, 1, 0] rfl)
      unfold g_X7_mayLink_54 at h
      refine lv_iload hx hb dX7_mayLink_54 (lv_at hl 5 rfl) ?_
      refine lv_aload_n hx hb dX7_mayLink_56 rfl (lv_at hl 0 rfl) ?_
      refine va_get (D := D) (ci := 7) (v := .int (u0 0 5)) (C := RX7) (T := TX7) (N := 33) hx hb hts hiX7 hown hK hP 0 rfl rfl 15 (by decide) (hts (.fieldLink RX7 96 "ClockOnceModel" "readLinks" "I") (List.mem_of_getElem? (i := 3) rfl)) (fun _ h9 => h9) rfl dX7_mayLink_57 ?_
      refine lv_icmp_ge (tgt := 103) hx hb dX7_mayLink_60 (by decide) (fun q_1 => ?_) (fun q_1 => ?_)
      · have h := mk_ifp q_1 h
        refine lv_iload_n hx hb dX7_mayLink_103 rfl (lv_at hl 2 rfl) ?_
        refine lv_iload hx hb dX7_mayLink_104 (lv_at hl 4 rfl) ?_
        refine lv_if_eq (tgt := 115) hx hb dX7_mayLink_106 (by decide) (fun q_2 => ?_) (fun q_2 => ?_)
        · have h := mk_ifp q_2 h
          refine lv_iconst (v := (0 : Int32)) hx hb dX7_mayLink_115 (by decide) ?_
          refine lv_ior hx hb dX7_mayLink_116 ?_
          refine lv_istore_n (lv' := [(2, .int (x2 ||| (0 : Int32))), (0, .ref (a0 0)), (1, .int x1), (3, .int x3), (4, .int x4), (5, .int x5)]) hx hb dX7_mayLink_117 rfl hl (by decide) rfl (fun ls hl => ?_)
          refine lv_iinc (v := (x3 + (1 : Int32))) (lv' := [(3, .int (x3 + (1 : Int32))), (2, .int (x2 ||| (0 : Int32))), (0, .ref (a0 0)), (1, .int x1), (4, .int x4), (5, .int x5)]) hx hb dX7_mayLink_118 hl (k := 3) rfl rfl (by decide) rfl (fun ls hl => ?_)
          refine lv_goto (tgt := 4) hx hb dX7_mayLink_121 (by decide) ?_
          exact ih4 (x2 ||| (0 : Int32)) (x3 + (1 : Int32)) h ls (lv_sub hl [2, 3, 1, 0] rfl)
        · have h := mk_ifn q_2 h
          refine lv_iconst (v := (1 : Int32)) hx hb dX7_mayLink_109 (by decide) ?_
          refine lv_iload_n hx hb dX7_mayLink_110 rfl (lv_at hl 3 rfl) ?_
          refine lv_ishl hx hb dX7_mayLink_111 ?_
          refine lv_goto (tgt := 116) hx hb dX7_mayLink_112 (by decide) ?_
          refine lv_ior hx hb dX7_mayLink_116 ?_
          refine lv_istore_n (lv' := [(2, .int (x2 ||| ((1 : Int32) <<< (x3 &&& 31)))), (0, .ref (a0 0)), (1, .int x1), (3, .int x3), (4, .int x4), (5, .int x5)]) hx hb dX7_mayLink_117 rfl hl (by decide) rfl (fun ls hl => ?_)
          refine lv_iinc (v := (x3 + (1 : Int32))) (lv' := [(3, .int (x3 + (1 : Int32))), (2, .int (x2 ||| ((1 : Int32) <<< (x3 &&& 31)))), (0, .ref (a0 0)), (1, .int x1), (4, .int x4), (5, .int x5)]) hx hb dX7_mayLink_118 hl (k := 3) rfl rfl (by decide) rfl (fun ls hl => ?_)
          refine lv_goto (tgt := 4) hx hb dX7_mayLink_121 (by decide) ?_
          exact ih4 (x2 ||| ((1 : Int32) <<< (x3 &&& 31))) (x3 + (1 : Int32)) h ls (lv_sub hl [2, 3, 1, 0] rfl)
      · have h := mk_ifn q_1 h
        refine lv_iload hx hb dX7_mayLink_63 (lv_at hl 4 rfl) ?_
        refine lv_if_eq (tgt := 94) hx hb dX7_mayLink_65 (by decide) (fun q_3 => ?_) (fun q_3 => ?_)
        · have h := mk_ifp q_3 h
          refine lv_iconst (v := (0 : Int32)) hx hb dX7_mayLink_94 (by decide) ?_
          refine lv_istore (lv' := [(4, .int (0 : Int32)), (0, .ref (a0 0)), (1, .int x1), (2, .int x2), (3, .int x3), (5, .int x5)]) hx hb dX7_mayLink_95 hl (by decide) rfl (fun ls hl => ?_)
          refine lv_iinc (v := (x5 + (1 : Int32))) (lv' := [(5, .int (x5 + (1 : Int32))), (4, .int (0 : Int32)), (0, .ref (a0 0)), (1, .int x1), (2, .int x2), (3, .int x3)]) hx hb dX7_mayLink_97 hl (k := 5) rfl rfl (by decide) rfl (fun ls hl => ?_)
          refine lv_goto (tgt := 54) hx hb dX7_mayLink_100 (by decide) ?_
          exact ih54 (0 : Int32) (x5 + (1 : Int32)) h ls (lv_sub hl [2, 3, 4, 5, 1, 0] rfl)
        · have h := mk_ifn q_3 h
          refine lv_aload_n hx hb dX7_mayLink_68 rfl (lv_at hl 0 rfl) ?_
          refine va_get (D := D) (ci := 7) (v := .ref (a0 9)) (C := RX7) (T := TX7) (N := 33) hx hb hts hiX7 hown hK hP 0 rfl rfl 11 (by decide) (hts (.fieldLink RX7 34 "ClockOnceModel" "readLinkOf" "[I") (List.mem_of_getElem? (i := 4) rfl)) (fun _ h9 => h9) rfl dX7_mayLink_69 ?_
          refine lv_iload hx hb dX7_mayLink_72 (lv_at hl 5 rfl) ?_
          obtain ⟨v_4, ev_4, hiv_4, h⟩ := mk_rdE h
          refine va_iald hx hb hK hP 9 0 rfl rfl hiv_4 dX7_mayLink_74 ?_
          refine mk_topi ev_4 ?_
          refine lv_iload_n hx hb dX7_mayLink_75 rfl (lv_at hl 1 rfl) ?_
          refine lv_icmp_ne (tgt := 90) hx hb dX7_mayLink_76 (by decide) (fun q_5 => ?_) (fun q_5 => ?_)
          · have h := mk_ifn q_5 h
            exact K90 x5 ls (lv_sub hl [0, 1, 2, 3, 5] rfl) h
          · have h := mk_ifp q_5 h
            refine lv_aload_n hx hb dX7_mayLink_79 rfl (lv_at hl 0 rfl) ?_
            refine va_get (D := D) (ci := 7) (v := .ref (a0 10)) (C := RX7) (T := TX7) (N := 33) hx hb hts hiX7 hown hK hP 0 rfl rfl 12 (by decide) (hts (.fieldLink RX7 37 "ClockOnceModel" "readLinkTo" "[I") (List.mem_of_getElem? (i := 5) rfl)) (fun _ h9 => h9) rfl dX7_mayLink_80 ?_
            refine lv_iload hx hb dX7_mayLink_83 (lv_at hl 5 rfl) ?_
            obtain ⟨v_6, ev_6, hiv_6, h⟩ := mk_rdE h
            refine va_iald hx hb hK hP 10 0 rfl rfl hiv_6 dX7_mayLink_85 ?_
            refine mk_topi ev_6 ?_
            refine lv_iload_n hx hb dX7_mayLink_86 rfl (lv_at hl 3 rfl) ?_
            refine lv_icmp_eq (tgt := 94) hx hb dX7_mayLink_87 (by decide) (fun q_7 => ?_) (fun q_7 => ?_)
            · have h := mk_ifp q_7 h
              refine lv_iconst (v := (0 : Int32)) hx hb dX7_mayLink_94 (by decide) ?_
              refine lv_istore (lv' := [(4, .int (0 : Int32)), (0, .ref (a0 0)), (1, .int x1), (2, .int x2), (3, .int x3), (5, .int x5)]) hx hb dX7_mayLink_95 hl (by decide) rfl (fun ls hl => ?_)
              refine lv_iinc (v := (x5 + (1 : Int32))) (lv' := [(5, .int (x5 + (1 : Int32))), (4, .int (0 : Int32)), (0, .ref (a0 0)), (1, .int x1), (2, .int x2), (3, .int x3)]) hx hb dX7_mayLink_97 hl (k := 5) rfl rfl (by decide) rfl (fun ls hl => ?_)
              refine lv_goto (tgt := 54) hx hb dX7_mayLink_100 (by decide) ?_
              exact ih54 (0 : Int32) (x5 + (1 : Int32)) h ls (lv_sub hl [2, 3, 4, 5, 1, 0] rfl)
            · have h := mk_ifn q_7 h
              exact K90 x5 ls (lv_sub hl [0, 1, 2, 3, 5] rfl) h
    have K44 : ∀ (x2 : Int32) (x3 : Int32) (ls : Array Slot), lv_has ls 6 [(0, .ref (a0 0)), (1, .int x1), (2, .int x2), (3, .int x3)] → g_X7_mayLink_44 N u0 sd rec4 x1 x2 x3 = some out → W p l e rm_X7_mayLink s m args below meth c H [] 0 0 Q (F0 m 44 ls []) := by
      intro x2 x3 ls hl h
      unfold g_X7_mayLink_44 at h
      refine lv_iconst (v := (1 : Int32)) hx hb dX7_mayLink_44 (by decide) ?_
      refine lv_goto (tgt := 49) hx hb dX7_mayLink_45 (by decide) ?_
      refine lv_istore (lv' := [(4, .int (1 : Int32)), (0, .ref (a0 0)), (1, .int x1), (2, .int x2), (3, .int x3)]) hx hb dX7_mayLink_49 hl (by decide) rfl (fun ls hl => ?_)
      refine lv_iconst (v := (0 : Int32)) hx hb dX7_mayLink_51 (by decide) ?_
      refine lv_istore (lv' := [(5, .int (0 : Int32)), (4, .int (1 : Int32)), (0, .ref (a0 0)), (1, .int x1), (2, .int x2), (3, .int x3)]) hx hb dX7_mayLink_52 hl (by decide) rfl (fun ls hl => ?_)
      exact K54 x2 x3 (1 : Int32) (0 : Int32) ls (lv_sub hl [2, 3, 4, 5, 1, 0] rfl) h
    unfold g_X7_mayLink_4 at h
    refine lv_iload_n hx hb dX7_mayLink_4 rfl (lv_at hl 3 rfl) ?_
    refine lv_aload_n hx hb dX7_mayLink_5 rfl (lv_at hl 0 rfl) ?_
    refine va_get (D := D) (ci := 7) (v := .int (u0 0 3)) (C := RX7) (T := TX7) (N := 33) hx hb hts hiX7 hown hK hP 0 rfl rfl 13 (by decide) (hts (.fieldLink RX7 93 "ClockOnceModel" "readThings" "I") (List.mem_of_getElem? (i := 1) rfl)) (fun _ h9 => h9) rfl dX7_mayLink_6 ?_
    refine lv_icmp_ge (tgt := 124) hx hb dX7_mayLink_9 (by decide) (fun q_8 => ?_) (fun q_8 => ?_)
    · have h := mk_ifp q_8 h
      refine lv_iload_n hx hb dX7_mayLink_124 rfl (lv_at hl 2 rfl) ?_
      exact hret _ _ _ h dX7_mayLink_125
    · have h := mk_ifn q_8 h
      refine lv_iload_n hx hb dX7_mayLink_12 rfl (lv_at hl 3 rfl) ?_
      refine lv_iload_n hx hb dX7_mayLink_13 rfl (lv_at hl 1 rfl) ?_
      refine lv_icmp_eq (tgt := 48) hx hb dX7_mayLink_14 (by decide) (fun q_9 => ?_) (fun q_9 => ?_)
      · have h := mk_ifp q_9 h
        refine lv_iconst (v := (0 : Int32)) hx hb dX7_mayLink_48 (by decide) ?_
        refine lv_istore (lv' := [(4, .int (0 : Int32)), (0, .ref (a0 0)), (1, .int x1), (2, .int x2), (3, .int x3)]) hx hb dX7_mayLink_49 hl (by decide) rfl (fun ls hl => ?_)
        refine lv_iconst (v := (0 : Int32)) hx hb dX7_mayLink_51 (by decide) ?_
        refine lv_istore (lv' := [(5, .int (0 : Int32)), (4, .int (0 : Int32)), (0, .ref (a0 0)), (1, .int x1), (2, .int x2), (3, .int x3)]) hx hb dX7_mayLink_52 hl (by decide) rfl (fun ls hl => ?_)
        exact K54 x2 x3 (0 : Int32) (0 : Int32) ls (lv_sub hl [2, 3, 4, 5, 1, 0] rfl) h
      · have h := mk_ifn q_9 h
        refine lv_aload_n hx hb dX7_mayLink_17 rfl (lv_at hl 0 rfl) ?_
        refine va_get (D := D) (ci := 7) (v := .ref (a0 6)) (C := RX7) (T := TX7) (N := 33) hx hb hts hiX7 hown hK hP 0 rfl rfl 8 (by decide) (hts (.fieldLink RX7 25 "ClockOnceModel" "readOf" "[I") (List.mem_of_getElem? (i := 2) rfl)) (fun _ h9 => h9) rfl dX7_mayLink_18 ?_
        refine lv_iconst (v := (5 : Int32)) hx hb dX7_mayLink_21 (by decide) ?_
        refine lv_iload_n hx hb dX7_mayLink_22 rfl (lv_at hl 1 rfl) ?_
        refine lv_imul hx hb dX7_mayLink_23 ?_
        refine lv_iconst (v := (4 : Int32)) hx hb dX7_mayLink_24 (by decide) ?_
        refine lv_iadd hx hb dX7_mayLink_25 ?_
        obtain ⟨v_10, ev_10, hiv_10, h⟩ := mk_rdE h
        refine va_iald hx hb hK hP 6 0 rfl rfl hiv_10 dX7_mayLink_26 ?_
        refine mk_topi ev_10 ?_
        refine lv_iconst (v := (1 : Int32)) hx hb dX7_mayLink_27 (by decide) ?_
        refine lv_icmp_eq (tgt := 44) hx hb dX7_mayLink_28 (by decide) (fun q_11 => ?_) (fun q_11 => ?_)
        · have h := mk_ifp q_11 h
          exact K44 x2 x3 ls (lv_sub hl [0, 1, 2, 3] rfl) h
        · have h := mk_ifn q_11 h
          refine lv_aload_n hx hb dX7_mayLink_31 rfl (lv_at hl 0 rfl) ?_
          refine va_get (D := D) (ci := 7) (v := .ref (a0 6)) (C := RX7) (T := TX7) (N := 33) hx hb hts hiX7 hown hK hP 0 rfl rfl 8 (by decide) (hts (.fieldLink RX7 25 "ClockOnceModel" "readOf" "[I") (List.mem_of_getElem? (i := 2) rfl)) (fun _ h9 => h9) rfl dX7_mayLink_32 ?_
          refine lv_iconst (v := (5 : Int32)) hx hb dX7_mayLink_35 (by decide) ?_
          refine lv_iload_n hx hb dX7_mayLink_36 rfl (lv_at hl 3 rfl) ?_
          refine lv_imul hx hb dX7_mayLink_37 ?_
          refine lv_iconst (v := (4 : Int32)) hx hb dX7_mayLink_38 (by decide) ?_
          refine lv_iadd hx hb dX7_mayLink_39 ?_
          obtain ⟨v_12, ev_12, hiv_12, h⟩ := mk_rdE h
          refine va_iald hx hb hK hP 6 0 rfl rfl hiv_12 dX7_mayLink_40 ?_
          refine mk_topi ev_12 ?_
          refine lv_if_ne (tgt := 48) hx hb dX7_mayLink_41 (by decide) (fun q_13 => ?_) (fun q_13 => ?_)
          · have h := mk_ifn q_13 h
            refine lv_iconst (v := (0 : Int32)) hx hb dX7_mayLink_48 (by decide) ?_
            refine lv_istore (lv' := [(4, .int (0 : Int32)), (0, .ref (a0 0)), (1, .int x1), (2, .int x2), (3, .int x3)]) hx hb dX7_mayLink_49 hl (by decide) rfl (fun ls hl => ?_)
            refine lv_iconst (v := (0 : Int32)) hx hb dX7_mayLink_51 (by decide) ?_
            refine lv_istore (lv' := [(5, .int (0 : Int32)), (4, .int (0 : Int32)), (0, .ref (a0 0)), (1, .int x1), (2, .int x2), (3, .int x3)]) hx hb dX7_mayLink_52 hl (by decide) rfl (fun ls hl => ?_)
            exact K54 x2 x3 (0 : Int32) (0 : Int32) ls (lv_sub hl [2, 3, 4, 5, 1, 0] rfl) h
          · have h := mk_ifp q_13 h
            exact K44 x2 x3 ls (lv_sub hl [0, 1, 2, 3] rfl) h
  unfold f_X7_mayLink at h
  refine lv_iconst (v := (0 : Int32)) hx hb dX7_mayLink_0 (by decide) ?_
  refine lv_istore_n (lv' := [(2, .int (0 : Int32)), (0, .ref (a0 0)), (1, .int p1)]) hx hb dX7_mayLink_1 rfl hl (by decide) rfl (fun ls hl => ?_)
  refine lv_iconst (v := (0 : Int32)) hx hb dX7_mayLink_2 (by decide) ?_
  refine lv_istore_n (lv' := [(3, .int (0 : Int32)), (2, .int (0 : Int32)), (0, .ref (a0 0)), (1, .int p1)]) hx hb dX7_mayLink_3 rfl hl (by decide) rfl (fun ls hl => ?_)
  exact K4 p1 (0 : Int32) (0 : Int32) ls (lv_sub hl [2, 3, 1, 0] rfl) h

abbrev rm_X7_begins : Room := { frames := 1, cells := 0, slots := 0, locals := 25 }
set_option maxRecDepth 20000 in
theorem k_X7_begins_X7_mayLink_99 : GoodIn wsX7_begins (wsV RX7 99 RX7 yX7_mayLink wsX7_mayLink) := goodIn_r _ [2, 3, 4, 5, 6, 1, 7, 8, 9, 10, 11, 12, 13, 14, 15, 16, 17, 18, 19, 20, 21, 22, 23, 24, 25, 26, 27, 28, 29, 30, 31, 32, 33, 34, 35, 36, 37, 38, 39, 40, 41, 42, 43] rfl (by decide +kernel)
set_option maxHeartbeats 4000000 in
set_option maxRecDepth 100000 in
theorem c_X7_begins (l : Launch) (D : va_G) (cI cZ cO : ClassId) (N : Nat) (a0 : Nat → Nat) (u0 : TU) (sd : Int64) (out : Int32) (h : f_X7_begins N u0 sd = some out) : Met l yX7_begins wsX7_begins rm_X7_begins (va_Pc [.ref (a0 0)] (fun U => va_P D vwCl (wX7 cI cZ a0 u0 sd) U.heap ∧ va_K D vwCl (tyA cI cZ cO) U)) (vp_Si (fun r => r = out)) 0 0 (fun _ => False) := by
  refine pm_i (own := RX7) (cc := cX7_begins) (maxL := 3) (by decide) rfl rfl (Nat.le_of_ble_eq_true rfl) ?_
  intro p e s m args below meth c Q H ls hx hb hml hown hts hP hK hl hret
  have hl : lv_has ls 3 [(0, .ref (a0 0))] := hl
  have hiX7 : ∀ w ∈ u_ws RX7 TX7 33, w ∈ wsX7_begins := mk_seg 11 33 rfl
  have K4 : ∀ (x1 : Int32) (x2 : Int32) (ls : Array Slot), lv_has ls 3 [(0, .ref (a0 0)), (1, .int x1), (2, .int x2)] → lq2 (g_X7_begins_4 N u0 sd) N x1 x2 = some out → W p l e rm_X7_begins s m args below meth c H [] 0 0 Q (F0 m 4 ls []) := by
    intro x1 x2 ls hl h
    refine lq2_W (Wd := fun x1 x2 => ∀ (ls : Array Slot), lv_has ls 3 [(0, .ref (a0 0)), (1, .int x1), (2, .int x2)] → W p l e rm_X7_begins s m args below meth c H [] 0 0 Q (F0 m 4 ls [])) (fun rec4 ih4 x1 x2 h ls hl => ?_) N x1 x2 h ls hl
    unfold g_X7_begins_4 at h
    refine lv_iload_n hx hb dX7_begins_4 rfl (lv_at hl 2 rfl) ?_
    refine lv_aload_n hx hb dX7_begins_5 rfl (lv_at hl 0 rfl) ?_
    refine va_get (D := D) (ci := 7) (v := .int (u0 0 3)) (C := RX7) (T := TX7) (N := 33) hx hb hts hiX7 hown hK hP 0 rfl rfl 13 (by decide) (hts (.fieldLink RX7 93 "ClockOnceModel" "readThings" "I") (List.mem_of_getElem? (i := 1) rfl)) (fun _ h9 => h9) rfl dX7_begins_6 ?_
    refine lv_icmp_ge (tgt := 36) hx hb dX7_begins_9 (by decide) (fun q_1 => ?_) (fun q_1 => ?_)
    · have h := mk_ifp q_1 h
      refine lv_iload_n hx hb dX7_begins_36 rfl (lv_at hl 1 rfl) ?_
      exact hret _ _ _ h dX7_begins_37
    · have h := mk_ifn q_1 h
      refine lv_iload_n hx hb dX7_begins_12 rfl (lv_at hl 1 rfl) ?_
      refine lv_aload_n hx hb dX7_begins_13 rfl (lv_at hl 0 rfl) ?_
      refine lv_iload_n hx hb dX7_begins_14 rfl (lv_at hl 2 rfl) ?_
      obtain ⟨r_2, er_2, h⟩ := mk_bd h
      refine pc_v (As := [.int x2]) (rest := [.int x1]) ⟨hx, hb, hml, hown, hts⟩ (c_X7_mayLink l D cI cZ cO N a0 u0 sd x2 r_2 er_2) (cwV 1 hts k_X7_begins_X7_mayLink_99 rfl rfl rfl (by decide +kernel) ⟨(Nat.le_of_ble_eq_true rfl), (Nat.le_of_ble_eq_true rfl)⟩) (va_recv hK hP (ci := 7) (q0 := 0) rfl rfl) hP hK rfl hl.1 rfl (Nat.le_of_ble_eq_true rfl) dX7_begins_15 ⟨Nat.zero_le _, Nat.zero_le _⟩ ?_
      refine lv_if_eq (tgt := 27) hx hb dX7_begins_18 (by decide) (fun q_3 => ?_) (fun q_3 => ?_)
      · have h := mk_ifp q_3 h
        refine lv_iconst (v := (0 : Int32)) hx hb dX7_begins_27 (by decide) ?_
        refine lv_ior hx hb dX7_begins_28 ?_
        refine lv_istore_n (lv' := [(1, .int (x1 ||| (0 : Int32))), (0, .ref (a0 0)), (2, .int x2)]) hx hb dX7_begins_29 rfl hl (by decide) rfl (fun ls hl => ?_)
        refine lv_iinc (v := (x2 + (1 : Int32))) (lv' := [(2, .int (x2 + (1 : Int32))), (1, .int (x1 ||| (0 : Int32))), (0, .ref (a0 0))]) hx hb dX7_begins_30 hl (k := 2) rfl rfl (by decide) rfl (fun ls hl => ?_)
        refine lv_goto (tgt := 4) hx hb dX7_begins_33 (by decide) ?_
        exact ih4 (x1 ||| (0 : Int32)) (x2 + (1 : Int32)) h ls (lv_sub hl [2, 1, 0] rfl)
      · have h := mk_ifn q_3 h
        refine lv_iconst (v := (1 : Int32)) hx hb dX7_begins_21 (by decide) ?_
        refine lv_iload_n hx hb dX7_begins_22 rfl (lv_at hl 2 rfl) ?_
        refine lv_ishl hx hb dX7_begins_23 ?_
        refine lv_goto (tgt := 28) hx hb dX7_begins_24 (by decide) ?_
        refine lv_ior hx hb dX7_begins_28 ?_
        refine lv_istore_n (lv' := [(1, .int (x1 ||| ((1 : Int32) <<< (x2 &&& 31)))), (0, .ref (a0 0)), (2, .int x2)]) hx hb dX7_begins_29 rfl hl (by decide) rfl (fun ls hl => ?_)
        refine lv_iinc (v := (x2 + (1 : Int32))) (lv' := [(2, .int (x2 + (1 : Int32))), (1, .int (x1 ||| ((1 : Int32) <<< (x2 &&& 31)))), (0, .ref (a0 0))]) hx hb dX7_begins_30 hl (k := 2) rfl rfl (by decide) rfl (fun ls hl => ?_)
        refine lv_goto (tgt := 4) hx hb dX7_begins_33 (by decide) ?_
        exact ih4 (x1 ||| ((1 : Int32) <<< (x2 &&& 31))) (x2 + (1 : Int32)) h ls (lv_sub hl [2, 1, 0] rfl)
  unfold f_X7_begins at h
  refine lv_iconst (v := (0 : Int32)) hx hb dX7_begins_0 (by decide) ?_
  refine lv_istore_n (lv' := [(1, .int (0 : Int32)), (0, .ref (a0 0))]) hx hb dX7_begins_1 rfl hl (by decide) rfl (fun ls hl => ?_)
  refine lv_iconst (v := (0 : Int32)) hx hb dX7_begins_2 (by decide) ?_
  refine lv_istore_n (lv' := [(2, .int (0 : Int32)), (1, .int (0 : Int32)), (0, .ref (a0 0))]) hx hb dX7_begins_3 rfl hl (by decide) rfl (fun ls hl => ?_)
  exact K4 (0 : Int32) (0 : Int32) ls (lv_sub hl [2, 1, 0] rfl) h

abbrev rm_X7_has : Room := { frames := 0, cells := 0, slots := 0, locals := 0 }
set_option maxHeartbeats 4000000 in
set_option maxRecDepth 100000 in
theorem c_X7_has (l : Launch) (D : va_G) (cI cZ cO : ClassId) (N : Nat) (p0 : Int32) (p1 : Int32) (out : Int32) (h : f_X7_has N  p0 p1 = some out) : Met l yX7_has wsX7_has rm_X7_has (va_Pc [.int p0, .int p1] (fun U => va_P D vwCl [] U.heap ∧ va_K D vwCl (tyA cI cZ cO) U)) (vp_Si (fun r => r = out)) 0 0 (fun _ => False) := by
  refine pm_z (own := RX7) (cc := cX7_has) (maxL := 2) (by decide) rfl rfl (Nat.le_of_ble_eq_true rfl) ?_
  intro p e s m args below meth c Q H ls hx hb hml hown hts hP hK hl hret
  have hl : lv_has ls 2 [(0, .int p0), (1, .int p1)] := hl
  unfold f_X7_has at h
  refine lv_iload_n hx hb dX7_has_0 rfl (lv_at hl 0 rfl) ?_
  refine lv_iload_n hx hb dX7_has_1 rfl (lv_at hl 1 rfl) ?_
  refine lv_ishr hx hb dX7_has_2 ?_
  refine lv_iconst (v := (1 : Int32)) hx hb dX7_has_3 (by decide) ?_
  refine lv_iand hx hb dX7_has_4 ?_
  refine lv_iconst (v := (1 : Int32)) hx hb dX7_has_5 (by decide) ?_
  refine lv_icmp_ne (tgt := 13) hx hb dX7_has_6 (by decide) (fun q_1 => ?_) (fun q_1 => ?_)
  · have h := mk_ifn q_1 h
    refine lv_iconst (v := (0 : Int32)) hx hb dX7_has_13 (by decide) ?_
    exact hret _ _ _ h (Or.inl rfl) dX7_has_14
  · have h := mk_ifp q_1 h
    refine lv_iconst (v := (1 : Int32)) hx hb dX7_has_9 (by decide) ?_
    refine lv_goto (tgt := 14) hx hb dX7_has_10 (by decide) ?_
    exact hret _ _ _ h (Or.inr rfl) dX7_has_14

abbrev rm_X7_setBy : Room := { frames := 2, cells := 0, slots := 0, locals := 46 }
set_option maxRecDepth 20000 in
theorem k_X7_setBy_X7_asks_207 : GoodIn wsX7_setBy (va_wsS RX7 207 yX7_asks wsX7_asks) := goodIn_r _ [4, 5, 6, 7] rfl (by decide +kernel)
set_option maxRecDepth 20000 in
theorem k_X7_setBy_X7_has_89 : GoodIn wsX7_setBy (va_wsS RX7 89 yX7_has wsX7_has) := goodIn_r _ [8, 9, 6, 10] rfl (by decide +kernel)
set_option maxRecDepth 20000 in
theorem k_X7_setBy_X7_isThing_136 : GoodIn wsX7_setBy (wsV RX7 136 RX7 yX7_isThing wsX7_isThing) := goodIn_r _ [11, 12, 13, 6, 14, 15, 16, 17, 6, 18, 19, 20, 21, 22, 23, 24, 25, 26, 27, 28, 29, 30, 31, 32, 33, 34, 35, 36, 37, 38, 39, 40, 41, 42, 43, 44, 45, 46, 47, 48, 49, 50, 51] rfl (by decide +kernel)
set_option maxRecDepth 20000 in
theorem k_X7_setBy_X7_in_73 : GoodIn wsX7_setBy (va_wsS RX7 73 yX7_in wsX7_in) := goodIn_r _ [16, 17, 6, 18] rfl (by decide +kernel)
set_option maxHeartbeats 4000000 in
set_option maxRecDepth 100000 in
theorem c_X7_setBy (l : Launch) (D : va_G) (cI cZ cO : ClassId) (N : Nat) (a0 : Nat → Nat) (u0 : TU) (sd : Int64) (p1 : Int32) (p2 : Int32) (out : Int32) (h : f_X7_setBy N u0 sd p1 p2 = some out) : Met l yX7_setBy wsX7_setBy rm_X7_setBy (va_Pc [.ref (a0 0), .int p1, .int p2] (fun U => va_P D vwCl (wX7 cI cZ a0 u0 sd) U.heap ∧ va_K D vwCl (tyA cI cZ cO) U)) (vp_Si (fun r => r = out)) 0 0 (fun _ => False) := by
  refine pm_i (own := RX7) (cc := cX7_setBy) (maxL := 7) (by decide) rfl rfl (Nat.le_of_ble_eq_true rfl) ?_
  intro p e s m args below meth c Q H ls hx hb hml hown hts hP hK hl hret
  have hl : lv_has ls 7 [(0, .ref (a0 0)), (1, .int p1), (2, .int p2)] := hl
  have hiX7 : ∀ w ∈ u_ws RX7 TX7 33, w ∈ wsX7_setBy := mk_seg 19 33 rfl
  have K5 : ∀ (x1 : Int32) (x2 : Int32) (x3 : Int32) (x4 : Int32) (ls : Array Slot), lv_has ls 7 [(0, .ref (a0 0)), (1, .int x1), (2, .int x2), (3, .int x3), (4, .int x4)] → lq2 (g_X7_setBy_5 N u0 sd x1 x2) N x3 x4 = some out → W p l e rm_X7_setBy s m args below meth c H [] 0 0 Q (F0 m 5 ls []) := by
    intro x1 x2 x3 x4 ls hl h
    refine lq2_W (Wd := fun x3 x4 => ∀ (ls : Array Slot), lv_has ls 7 [(0, .ref (a0 0)), (1, .int x1), (2, .int x2), (3, .int x3), (4, .int x4)] → W p l e rm_X7_setBy s m args below meth c H [] 0 0 Q (F0 m 5 ls [])) (fun rec5 ih5 x3 x4 h ls hl => ?_) N x3 x4 h ls hl
    have K91 : ∀ (x3 : Int32) (x4 : Int32) (x5 : Int32) (t0 : Int32) (ls : Array Slot), lv_has ls 7 [(0, .ref (a0 0)), (1, .int x1), (2, .int x2), (3, .int x3), (4, .int x4), (5, .int x5)] → g_X7_setBy_91 N u0 sd rec5 x1 x2 x3 x4 x5 t0 = some out → W p l e rm_X7_setBy s m args below meth c H [] 0 0 Q (F0 m 91 ls [.int t0]) := by
      intro x3 x4 x5 t0 ls hl h
      unfold g_X7_setBy_91 at h
      refine lv_istore (lv' := [(6, .int t0), (0, .ref (a0 0)), (1, .int x1), (2, .int x2), (3, .int x3), (4, .int x4), (5, .int x5)]) hx hb dX7_setBy_91 hl (by decide) rfl (fun ls hl => ?_)
      refine lv_iload hx hb dX7_setBy_93 (lv_at hl 0 rfl) ?_
      refine lv_if_ne (tgt := 101) hx hb dX7_setBy_95 (by decide) (fun q_1 => ?_) (fun q_1 => ?_)
      · have h := mk_ifn q_1 h
        refine lv_iload_n hx hb dX7_setBy_101 rfl (lv_at hl 4 rfl) ?_
        refine lv_iconst (v := (1 : Int32)) hx hb dX7_setBy_102 (by decide) ?_
        refine lv_iload hx hb dX7_setBy_103 (lv_at hl 6 rfl) ?_
        refine lv_ishl hx hb dX7_setBy_105 ?_
        refine lv_ior hx hb dX7_setBy_106 ?_
        refine lv_istore_n (lv' := [(3, .int (x3 ||| ((1 : Int32) <<< (x5 &&& 31)))), (6, .int t0), (0, .ref (a0 0)), (1, .int x1), (2, .int x2), (4, .int x4), (5, .int x5)]) hx hb dX7_setBy_107 rfl hl (by decide) rfl (fun ls hl => ?_)
        refine lv_iinc (v := (x4 + (1 : Int32))) (lv' := [(4, .int (x4 + (1 : Int32))), (3, .int (x3 ||| ((1 : Int32) <<< (x5 &&& 31)))), (6, .int t0), (0, .ref (a0 0)), (1, .int x1), (2, .int x2), (5, .int x5)]) hx hb dX7_setBy_108 hl (k := 5) rfl rfl (by decide) rfl (fun ls hl => ?_)
        refine lv_goto (tgt := 5) hx hb dX7_setBy_111 (by decide) ?_
        exact ih5 (x3 ||| ((1 : Int32) <<< (x5 &&& 31))) (x4 + (1 : Int32)) h ls (lv_sub hl [3, 4, 5, 1, 0] rfl)
      · have h := mk_ifp q_1 h
        refine lv_bipush (v := (-9 : Int32)) hx hb dX7_setBy_98 (by decide) ?_
        exact hret _ _ _ h dX7_setBy_100
    unfold g_X7_setBy_5 at h
    refine lv_iload hx hb dX7_setBy_5 (lv_at hl 4 rfl) ?_
    refine lv_iconst (v := (4 : Int32)) hx hb dX7_setBy_7 (by decide) ?_
    refine lv_icmp_ge (tgt := 114) hx hb dX7_setBy_8 (by decide) (fun q_2 => ?_) (fun q_2 => ?_)
    · have h := mk_ifp q_2 h
      refine lv_iload_n hx hb dX7_setBy_114 rfl (lv_at hl 3 rfl) ?_
      exact hret _ _ _ h dX7_setBy_115
    · have h := mk_ifn q_2 h
      refine lv_iload_n hx hb dX7_setBy_11 rfl (lv_at hl 1 rfl) ?_
      refine lv_iload hx hb dX7_setBy_12 (lv_at hl 4 rfl) ?_
      obtain ⟨r_3, er_3, h⟩ := mk_bd h
      refine pc_s (As := [.int x1, .int x4]) (rest := []) ⟨hx, hb, hml, hown, hts⟩ (c_X7_asks l D cI cZ cO N x1 x4 r_3 er_3) (va_cwS 2 hts k_X7_setBy_X7_asks_207 rfl rfl rfl (by decide +kernel) ⟨(Nat.le_of_ble_eq_true rfl), (Nat.le_of_ble_eq_true rfl)⟩) (hP.sub (ws' := []) [] rfl) hK rfl hl.1 rfl (Nat.le_of_ble_eq_true rfl) dX7_setBy_14 ⟨Nat.zero_le _, Nat.zero_le _⟩ ?_
      refine lv_istore (lv' := [(5, .int r_3), (0, .ref (a0 0)), (1, .int x1), (2, .int x2), (3, .int x3), (4, .int x4)]) hx hb dX7_setBy_17 hl (by decide) rfl (fun ls hl => ?_)
      refine lv_iload hx hb dX7_setBy_19 (lv_at hl 0 rfl) ?_
      refine lv_iconst (v := (4 : Int32)) hx hb dX7_setBy_21 (by decide) ?_
      refine lv_icmp_ge (tgt := 108) hx hb dX7_setBy_22 (by decide) (fun q_4 => ?_) (fun q_4 => ?_)
      · have h := mk_ifp q_4 h
        refine lv_iinc (v := (x4 + (1 : Int32))) (lv' := [(4, .int (x4 + (1 : Int32))), (5, .int r_3), (0, .ref (a0 0)), (1, .int x1), (2, .int x2), (3, .int x3)]) hx hb dX7_setBy_108 hl (k := 5) rfl rfl (by decide) rfl (fun ls hl => ?_)
        refine lv_goto (tgt := 5) hx hb dX7_setBy_111 (by decide) ?_
        exact ih5 x3 (x4 + (1 : Int32)) h ls (lv_sub hl [2, 3, 4, 5, 0] rfl)
      · have h := mk_ifn q_4 h
        refine lv_iload hx hb dX7_setBy_25 (lv_at hl 5 rfl) ?_
        refine lv_aload_n hx hb dX7_setBy_27 rfl (lv_at hl 1 rfl) ?_
        refine va_get (D := D) (ci := 7) (v := .int (u0 0 1)) (C := RX7) (T := TX7) (N := 33) hx hb hts hiX7 hown hK hP 0 rfl rfl 1 (by decide) (hts (.fieldLink RX7 127 "ClockOnceModel" "askers" "I") (List.mem_of_getElem? (i := 1) rfl)) (fun _ h9 => h9) rfl dX7_setBy_28 ?_
        refine lv_icmp_ge (tgt := 90) hx hb dX7_setBy_31 (by decide) (fun q_5 => ?_) (fun q_5 => ?_)
        · have h := mk_ifp q_5 h
          refine lv_iconst (v := (0 : Int32)) hx hb dX7_setBy_90 (by decide) ?_
          exact K91 x3 x4 r_3 (0 : Int32) ls (lv_sub hl [1, 2, 3, 4, 5, 0] rfl) h
        · have h := mk_ifn q_5 h
          refine lv_iload_n hx hb dX7_setBy_34 rfl (lv_at hl 3 rfl) ?_
          refine lv_iload hx hb dX7_setBy_35 (lv_at hl 5 rfl) ?_
          obtain ⟨r_6, er_6, h⟩ := mk_bd h
          refine pc_s (As := [.int x2, .int x4]) (rest := []) ⟨hx, hb, hml, hown, hts⟩ (c_X7_has l D cI cZ cO N x2 x4 r_6 er_6) (va_cwS 2 hts k_X7_setBy_X7_has_89 rfl rfl rfl (by decide +kernel) ⟨(Nat.le_of_ble_eq_true rfl), (Nat.le_of_ble_eq_true rfl)⟩) (hP.sub (ws' := []) [] rfl) hK rfl hl.1 rfl (Nat.le_of_ble_eq_true rfl) dX7_setBy_37 ⟨Nat.zero_le _, Nat.zero_le _⟩ ?_
          refine lv_if_eq (tgt := 90) hx hb dX7_setBy_40 (by decide) (fun q_7 => ?_) (fun q_7 => ?_)
          · have h := mk_ifp q_7 h
            refine lv_iconst (v := (0 : Int32)) hx hb dX7_setBy_90 (by decide) ?_
            exact K91 x3 x4 r_3 (0 : Int32) ls (lv_sub hl [1, 2, 3, 4, 5, 0] rfl) h
          · have h := mk_ifn q_7 h
            refine lv_aload_n hx hb dX7_setBy_43 rfl (lv_at hl 1 rfl) ?_
            refine lv_iload hx hb dX7_setBy_44 (lv_at hl 0 rfl) ?_
            obtain ⟨r_8, er_8, h⟩ := mk_bd h
            refine pc_v (As := [.int r_3]) (rest := []) ⟨hx, hb, hml, hown, hts⟩ (c_X7_isThing l D cI cZ cO N a0 u0 sd r_3 r_8 er_8) (cwV 1 hts k_X7_setBy_X7_isThing_136 rfl rfl rfl (by decide +kernel) ⟨(Nat.le_of_ble_eq_true rfl), (Nat.le_of_ble_eq_true rfl)⟩) (va_recv hK hP (ci := 7) (q0 := 0) rfl rfl) hP hK rfl hl.1 rfl (Nat.le_of_ble_eq_true rfl) dX7_setBy_46 ⟨Nat.zero_le _, Nat.zero_le _⟩ ?_
            refine lv_if_eq (tgt := 90) hx hb dX7_setBy_49 (by decide) (fun q_9 => ?_) (fun q_9 => ?_)
            · have h := mk_ifp q_9 h
              refine lv_iconst (v := (0 : Int32)) hx hb dX7_setBy_90 (by decide) ?_
              exact K91 x3 x4 r_3 (0 : Int32) ls (lv_sub hl [1, 2, 3, 4, 5, 0] rfl) h
            · have h := mk_ifn q_9 h
              refine lv_iload hx hb dX7_setBy_52 (lv_at hl 0 rfl) ?_
              refine lv_i2l (v := (r_3.toInt64)) hx hb dX7_setBy_54 rfl ?_
              refine lv_aload_n hx hb dX7_setBy_55 rfl (lv_at hl 1 rfl) ?_
              refine va_get (D := D) (ci := 7) (v := .ref (a0 2)) (C := RX7) (T := TX7) (N := 33) hx hb hts hiX7 hown hK hP 0 rfl rfl 4 (by decide) (hts (.fieldLink RX7 13 "ClockOnceModel" "from" "[I") (List.mem_of_getElem? (i := 2) rfl)) (fun _ h9 => h9) rfl dX7_setBy_56 ?_
              refine lv_iload hx hb dX7_setBy_59 (lv_at hl 5 rfl) ?_
              obtain ⟨v_10, ev_10, hiv_10, h⟩ := mk_rdE h
              refine va_iald hx hb hK hP 2 0 rfl rfl hiv_10 dX7_setBy_61 ?_
              refine mk_topi ev_10 ?_
              refine lv_i2l (v := (v_10.toInt64)) hx hb dX7_setBy_62 rfl ?_
              refine lv_aload_n hx hb dX7_setBy_63 rfl (lv_at hl 1 rfl) ?_
              refine va_get (D := D) (ci := 7) (v := .ref (a0 3)) (C := RX7) (T := TX7) (N := 33) hx hb hts hiX7 hown hK hP 0 rfl rfl 5 (by decide) (hts (.fieldLink RX7 16 "ClockOnceModel" "to" "[I") (List.mem_of_getElem? (i := 3) rfl)) (fun _ h9 => h9) rfl dX7_setBy_64 ?_
              refine lv_iload hx hb dX7_setBy_67 (lv_at hl 5 rfl) ?_
              obtain ⟨v_11, ev_11, hiv_11, h⟩ := mk_rdE h
              refine va_iald hx hb hK hP 3 0 rfl rfl hiv_11 dX7_setBy_69 ?_
              refine mk_topi ev_11 ?_
              refine lv_i2l (v := (v_11.toInt64)) hx hb dX7_setBy_70 rfl ?_
              obtain ⟨r_12, er_12, h⟩ := mk_bd h
              refine pc_s (As := [.long (r_3.toInt64), .long (v_10.toInt64), .long (v_11.toInt64)]) (rest := []) ⟨hx, hb, hml, hown, hts⟩ (c_X7_in l D cI cZ cO N (r_3.toInt64) (v_10.toInt64) (v_11.toInt64) r_12 er_12) (va_cwS 3 hts k_X7_setBy_X7_in_73 rfl rfl rfl (by decide +kernel) ⟨(Nat.le_of_ble_eq_true rfl), (Nat.le_of_ble_eq_true rfl)⟩) (hP.sub (ws' := []) [] rfl) hK rfl hl.1 rfl (Nat.le_of_ble_eq_true rfl) dX7_setBy_71 ⟨Nat.zero_le _, Nat.zero_le _⟩ ?_
              refine lv_if_eq (tgt := 90) hx hb dX7_setBy_74 (by decide) (fun q_13 => ?_) (fun q_13 => ?_)
              · have h := mk_ifp q_13 h
                refine lv_iconst (v := (0 : Int32)) hx hb dX7_setBy_90 (by decide) ?_
                exact K91 x3 x4 r_3 (0 : Int32) ls (lv_sub hl [1, 2, 3, 4, 5, 0] rfl) h
              · have h := mk_ifn q_13 h
                refine lv_iload_n hx hb dX7_setBy_77 rfl (lv_at hl 4 rfl) ?_
                refine lv_iload hx hb dX7_setBy_78 (lv_at hl 0 rfl) ?_
                obtain ⟨r_14, er_14, h⟩ := mk_bd h
                refine pc_s (As := [.int x3, .int r_3]) (rest := []) ⟨hx, hb, hml, hown, hts⟩ (c_X7_has l D cI cZ cO N x3 r_3 r_14 er_14) (va_cwS 2 hts k_X7_setBy_X7_has_89 rfl rfl rfl (by decide +kernel) ⟨(Nat.le_of_ble_eq_true rfl), (Nat.le_of_ble_eq_true rfl)⟩) (hP.sub (ws' := []) [] rfl) hK rfl hl.1 rfl (Nat.le_of_ble_eq_true rfl) dX7_setBy_80 ⟨Nat.zero_le _, Nat.zero_le _⟩ ?_
                refine lv_if_ne (tgt := 90) hx hb dX7_setBy_83 (by decide) (fun q_15 => ?_) (fun q_15 => ?_)
                · have h := mk_ifn q_15 h
                  refine lv_iconst (v := (0 : Int32)) hx hb dX7_setBy_90 (by decide) ?_
                  exact K91 x3 x4 r_3 (0 : Int32) ls (lv_sub hl [1, 2, 3, 4, 5, 0] rfl) h
                · have h := mk_ifp q_15 h
                  refine lv_iconst (v := (1 : Int32)) hx hb dX7_setBy_86 (by decide) ?_
                  refine lv_goto (tgt := 91) hx hb dX7_setBy_87 (by decide) ?_
                  exact K91 x3 x4 r_3 (1 : Int32) ls (lv_sub hl [1, 2, 3, 4, 5, 0] rfl) h
  unfold f_X7_setBy at h
  refine lv_iconst (v := (0 : Int32)) hx hb dX7_setBy_0 (by decide) ?_
  refine lv_istore_n (lv' := [(3, .int (0 : Int32)), (0, .ref (a0 0)), (1, .int p1), (2, .int p2)]) hx hb dX7_setBy_1 rfl hl (by decide) rfl (fun ls hl => ?_)
  refine lv_iconst (v := (0 : Int32)) hx hb dX7_setBy_2 (by decide) ?_
  refine lv_istore (lv' := [(4, .int (0 : Int32)), (3, .int (0 : Int32)), (0, .ref (a0 0)), (1, .int p1), (2, .int p2)]) hx hb dX7_setBy_3 hl (by decide) rfl (fun ls hl => ?_)
  exact K5 p1 p2 (0 : Int32) (0 : Int32) ls (lv_sub hl [2, 3, 4, 1, 0] rfl) h

abbrev rm_X7_ones : Room := { frames := 0, cells := 0, slots := 0, locals := 0 }
set_option maxHeartbeats 4000000 in
set_option maxRecDepth 100000 in
theorem c_X7_ones (l : Launch) (D : va_G) (cI cZ cO : ClassId) (N : Nat) (p0 : Int32) (out : Int32) (h : f_X7_ones N  p0 = some out) : Met l yX7_ones wsX7_ones rm_X7_ones (va_Pc [.int p0] (fun U => va_P D vwCl [] U.heap ∧ va_K D vwCl (tyA cI cZ cO) U)) (vp_Si (fun r => r = out)) 0 0 (fun _ => False) := by
  refine pm_i (own := RX7) (cc := cX7_ones) (maxL := 1) (by decide) rfl rfl (Nat.le_of_ble_eq_true rfl) ?_
  intro p e s m args below meth c Q H ls hx hb hml hown hts hP hK hl hret
  have hl : lv_has ls 1 [(0, .int p0)] := hl
  unfold f_X7_ones at h
  refine lv_iload_n hx hb dX7_ones_0 rfl (lv_at hl 0 rfl) ?_
  refine lv_iconst (v := (1 : Int32)) hx hb dX7_ones_1 (by decide) ?_
  refine lv_iand hx hb dX7_ones_2 ?_
  refine lv_iload_n hx hb dX7_ones_3 rfl (lv_at hl 0 rfl) ?_
  refine lv_iconst (v := (1 : Int32)) hx hb dX7_ones_4 (by decide) ?_
  refine lv_ishr hx hb dX7_ones_5 ?_
  refine lv_iconst (v := (1 : Int32)) hx hb dX7_ones_6 (by decide) ?_
  refine lv_iand hx hb dX7_ones_7 ?_
  refine lv_iadd hx hb dX7_ones_8 ?_
  refine lv_iload_n hx hb dX7_ones_9 rfl (lv_at hl 0 rfl) ?_
  refine lv_iconst (v := (2 : Int32)) hx hb dX7_ones_10 (by decide) ?_
  refine lv_ishr hx hb dX7_ones_11 ?_
  refine lv_iconst (v := (1 : Int32)) hx hb dX7_ones_12 (by decide) ?_
  refine lv_iand hx hb dX7_ones_13 ?_
  refine lv_iadd hx hb dX7_ones_14 ?_
  refine lv_iload_n hx hb dX7_ones_15 rfl (lv_at hl 0 rfl) ?_
  refine lv_iconst (v := (3 : Int32)) hx hb dX7_ones_16 (by decide) ?_
  refine lv_ishr hx hb dX7_ones_17 ?_
  refine lv_iconst (v := (1 : Int32)) hx hb dX7_ones_18 (by decide) ?_
  refine lv_iand hx hb dX7_ones_19 ?_
  refine lv_iadd hx hb dX7_ones_20 ?_
  exact hret _ _ _ h dX7_ones_21

abbrev rm_X7_bestBy : Room := { frames := 3, cells := 0, slots := 0, locals := 72 }
set_option maxRecDepth 20000 in
theorem k_X7_bestBy_X7_setBy_210 : GoodIn wsX7_bestBy (wsV RX7 210 RX7 yX7_setBy wsX7_setBy) := goodIn_r _ [2, 3, 4, 5, 6, 7, 8, 9, 10, 11, 5, 12, 13, 14, 15, 16, 17, 18, 19, 20, 21, 22, 23, 27, 28, 29, 30, 31, 32, 33, 34, 35, 36, 37, 38, 39, 40, 41, 42, 43, 44, 45, 46, 47, 48, 49, 50, 51, 52, 53, 54, 55, 56, 57, 58, 59] rfl (by decide +kernel)
set_option maxRecDepth 20000 in
theorem k_X7_bestBy_X7_ones_213 : GoodIn wsX7_bestBy (va_wsS RX7 213 yX7_ones wsX7_ones) := goodIn_r _ [24, 25, 5, 26] rfl (by decide +kernel)
set_option maxHeartbeats 4000000 in
set_option maxRecDepth 100000 in
theorem c_X7_bestBy (l : Launch) (D : va_G) (cI cZ cO : ClassId) (N : Nat) (a0 : Nat → Nat) (u0 : TU) (sd : Int64) (p1 : Int32) (out : Int32) (h : f_X7_bestBy N u0 sd p1 = some out) : Met l yX7_bestBy wsX7_bestBy rm_X7_bestBy (va_Pc [.ref (a0 0), .int p1] (fun U => va_P D vwCl (wX7 cI cZ a0 u0 sd) U.heap ∧ va_K D vwCl (tyA cI cZ cO) U)) (vp_Si (fun r => r = out)) 0 0 (fun _ => False) := by
  refine pm_i (own := RX7) (cc := cX7_bestBy) (maxL := 7) (by decide) rfl rfl (Nat.le_of_ble_eq_true rfl) ?_
  intro p e s m args below meth c Q H ls hx hb hml hown hts hP hK hl hret
  have hl : lv_has ls 7 [(0, .ref (a0 0)), (1, .int p1)] := hl
  have hiX7 : ∀ w ∈ u_ws RX7 TX7 33, w ∈ wsX7_bestBy := mk_seg 27 33 rfl
  have K4 : ∀ (x1 : Int32) (x2 : Int32) (x3 : Int32) (ls : Array Slot), lv_has ls 7 [(0, .ref (a0 0)), (1, .int x1), (2, .int x2), (3, .int x3)] → lq2 (g_X7_bestBy_4 N u0 sd x1) N x2 x3 = some out → W p l e rm_X7_bestBy s m args below meth c H [] 0 0 Q (F0 m 4 ls []) := by
    intro x1 x2 x3 ls hl h
    refine lq2_W (Wd := fun x2 x3 => ∀ (ls : Array Slot), lv_has ls 7 [(0, .ref (a0 0)), (1, .int x1), (2, .int x2), (3, .int x3)] → W p l e rm_X7_bestBy s m args below meth c H [] 0 0 Q (F0 m 4 ls [])) (fun rec4 ih4 x2 x3 h ls hl => ?_) N x2 x3 h ls hl
    have K86 : ∀ (x3 : Int32) (x4 : Int32) (ls : Array Slot), lv_has ls 7 [(0, .ref (a0 0)), (1, .int x1), (3, .int x3), (4, .int x4)] → g_X7_bestBy_86 N u0 sd rec4 x1 x3 x4 = some out → W p l e rm_X7_bestBy s m args below meth c H [] 0 0 Q (F0 m 86 ls []) := by
      intro x3 x4 ls hl h
      unfold g_X7_bestBy_86 at h
      refine lv_iload hx hb dX7_bestBy_86 (lv_at hl 3 rfl) ?_
      refine lv_goto (tgt := 92) hx hb dX7_bestBy_88 (by decide) ?_
      refine lv_istore_n (lv' := [(2, .int x4), (0, .ref (a0 0)), (1, .int x1), (3, .int x3), (4, .int x4)]) hx hb dX7_bestBy_92 rfl hl (by decide) rfl (fun ls hl => ?_)
      refine lv_iinc (v := (x3 + (1 : Int32))) (lv' := [(3, .int (x3 + (1 : Int32))), (2, .int x4), (0, .ref (a0 0)), (1, .int x1), (4, .int x4)]) hx hb dX7_bestBy_93 hl (k := 3) rfl rfl (by decide) rfl (fun ls hl => ?_)
      refine lv_goto (tgt := 4) hx hb dX7_bestBy_96 (by decide) ?_
      exact ih4 x4 (x3 + (1 : Int32)) h ls (lv_sub hl [2, 3, 1, 0] rfl)
    unfold g_X7_bestBy_4 at h
    refine lv_iload_n hx hb dX7_bestBy_4 rfl (lv_at hl 3 rfl) ?_
    refine lv_sipush (v := (625 : Int32)) hx hb dX7_bestBy_5 (by decide) ?_
    refine lv_icmp_ge (tgt := 99) hx hb dX7_bestBy_8 (by decide) (fun q_1 => ?_) (fun q_1 => ?_)
    · have h := mk_ifp q_1 h
      refine lv_iload_n hx hb dX7_bestBy_99 rfl (lv_at hl 2 rfl) ?_
      exact hret _ _ _ h dX7_bestBy_100
    · have h := mk_ifn q_1 h
      refine lv_aload_n hx hb dX7_bestBy_11 rfl (lv_at hl 0 rfl) ?_
      refine lv_iload_n hx hb dX7_bestBy_12 rfl (lv_at hl 3 rfl) ?_
      refine lv_iload_n hx hb dX7_bestBy_13 rfl (lv_at hl 1 rfl) ?_
      obtain ⟨r_2, er_2, h⟩ := mk_bd h
      refine pc_v (As := [.int x3, .int x1]) (rest := []) ⟨hx, hb, hml, hown, hts⟩ (c_X7_setBy l D cI cZ cO N a0 u0 sd x3 x1 r_2 er_2) (cwV 2 hts k_X7_bestBy_X7_setBy_210 rfl rfl rfl (by decide +kernel) ⟨(Nat.le_of_ble_eq_true rfl), (Nat.le_of_ble_eq_true rfl)⟩) (va_recv hK hP (ci := 7) (q0 := 0) rfl rfl) hP hK rfl hl.1 rfl (Nat.le_of_ble_eq_true rfl) dX7_bestBy_14 ⟨Nat.zero_le _, Nat.zero_le _⟩ ?_
      refine lv_istore (lv' := [(4, .int r_2), (0, .ref (a0 0)), (1, .int x1), (2, .int x2), (3, .int x3)]) hx hb dX7_bestBy_17 hl (by decide) rfl (fun ls hl => ?_)
      refine lv_iload hx hb dX7_bestBy_19 (lv_at hl 0 rfl) ?_
      refine lv_bipush (v := (-9 : Int32)) hx hb dX7_bestBy_21 (by decide) ?_
      refine lv_icmp_eq (tgt := 93) hx hb dX7_bestBy_23 (by decide) (fun q_3 => ?_) (fun q_3 => ?_)
      · have h := mk_ifp q_3 h
        refine lv_iinc (v := (x3 + (1 : Int32))) (lv' := [(3, .int (x3 + (1 : Int32))), (4, .int r_2), (0, .ref (a0 0)), (1, .int x1), (2, .int x2)]) hx hb dX7_bestBy_93 hl (k := 4) rfl rfl (by decide) rfl (fun ls hl => ?_)
        refine lv_goto (tgt := 4) hx hb dX7_bestBy_96 (by decide) ?_
        exact ih4 x2 (x3 + (1 : Int32)) h ls (lv_sub hl [2, 3, 4, 0] rfl)
      · have h := mk_ifn q_3 h
        refine lv_iload hx hb dX7_bestBy_26 (lv_at hl 0 rfl) ?_
        refine lv_iload_n hx hb dX7_bestBy_28 rfl (lv_at hl 3 rfl) ?_
        refine lv_icmp_eq (tgt := 93) hx hb dX7_bestBy_29 (by decide) (fun q_4 => ?_) (fun q_4 => ?_)
        · have h := mk_ifp q_4 h
          refine lv_iinc (v := (x3 + (1 : Int32))) (lv' := [(3, .int (x3 + (1 : Int32))), (4, .int r_2), (0, .ref (a0 0)), (1, .int x1), (2, .int x2)]) hx hb dX7_bestBy_93 hl (k := 4) rfl rfl (by decide) rfl (fun ls hl => ?_)
          refine lv_goto (tgt := 4) hx hb dX7_bestBy_96 (by decide) ?_
          exact ih4 x2 (x3 + (1 : Int32)) h ls (lv_sub hl [2, 3, 4, 0] rfl)
        · have h := mk_ifn q_4 h
          refine lv_aload_n hx hb dX7_bestBy_32 rfl (lv_at hl 1 rfl) ?_
          refine va_get (D := D) (ci := 7) (v := .ref (a0 14)) (C := RX7) (T := TX7) (N := 33) hx hb hts hiX7 hown hK hP 0 rfl rfl 25 (by decide) (hts (.fieldLink RX7 49 "ClockOnceModel" "worths" "[I") (List.mem_of_getElem? (i := 1) rfl)) (fun _ h9 => h9) rfl dX7_bestBy_33 ?_
          refine lv_iload hx hb dX7_bestBy_36 (lv_at hl 0 rfl) ?_
          obtain ⟨v_5, ev_5, hiv_5, h⟩ := mk_rdE h
          refine va_iald hx hb hK hP 14 0 rfl rfl hiv_5 dX7_bestBy_38 ?_
          refine mk_topi ev_5 ?_
          refine lv_aload_n hx hb dX7_bestBy_39 rfl (lv_at hl 1 rfl) ?_
          refine va_get (D := D) (ci := 7) (v := .ref (a0 14)) (C := RX7) (T := TX7) (N := 33) hx hb hts hiX7 hown hK hP 0 rfl rfl 25 (by decide) (hts (.fieldLink RX7 49 "ClockOnceModel" "worths" "[I") (List.mem_of_getElem? (i := 1) rfl)) (fun _ h9 => h9) rfl dX7_bestBy_40 ?_
          refine lv_iload_n hx hb dX7_bestBy_43 rfl (lv_at hl 3 rfl) ?_
          obtain ⟨v_6, ev_6, hiv_6, h⟩ := mk_rdE h
          refine va_iald hx hb hK hP 14 0 rfl rfl hiv_6 dX7_bestBy_44 ?_
          refine mk_topi ev_6 ?_
          refine lv_isub hx hb dX7_bestBy_45 ?_
          refine lv_istore (lv' := [(5, .int (v_5 - v_6)), (4, .int r_2), (0, .ref (a0 0)), (1, .int x1), (2, .int x2), (3, .int x3)]) hx hb dX7_bestBy_46 hl (by decide) rfl (fun ls hl => ?_)
          refine lv_iload_n hx hb dX7_bestBy_48 rfl (lv_at hl 4 rfl) ?_
          obtain ⟨r_7, er_7, h⟩ := mk_bd h
          refine pc_s (As := [.int x2]) (rest := []) ⟨hx, hb, hml, hown, hts⟩ (c_X7_ones l D cI cZ cO N x2 r_7 er_7) (va_cwS 1 hts k_X7_bestBy_X7_ones_213 rfl rfl rfl (by decide +kernel) ⟨(Nat.le_of_ble_eq_true rfl), (Nat.le_of_ble_eq_true rfl)⟩) (hP.sub (ws' := []) [] rfl) hK rfl hl.1 rfl (Nat.le_of_ble_eq_true rfl) dX7_bestBy_49 ⟨Nat.zero_le _, Nat.zero_le _⟩ ?_
          refine lv_iload hx hb dX7_bestBy_52 (lv_at hl 1 rfl) ?_
          obtain ⟨r_8, er_8, h⟩ := mk_bd h
          refine pc_s (As := [.int r_2]) (rest := [.int r_7]) ⟨hx, hb, hml, hown, hts⟩ (c_X7_ones l D cI cZ cO N r_2 r_8 er_8) (va_cwS 1 hts k_X7_bestBy_X7_ones_213 rfl rfl rfl (by decide +kernel) ⟨(Nat.le_of_ble_eq_true rfl), (Nat.le_of_ble_eq_true rfl)⟩) (hP.sub (ws' := []) [] rfl) hK rfl hl.1 rfl (Nat.le_of_ble_eq_true rfl) dX7_bestBy_54 ⟨Nat.zero_le _, Nat.zero_le _⟩ ?_
          refine lv_isub hx hb dX7_bestBy_57 ?_
          refine lv_istore (lv' := [(6, .int (r_7 - r_8)), (5, .int (v_5 - v_6)), (4, .int r_2), (0, .ref (a0 0)), (1, .int x1), (2, .int x2), (3, .int x3)]) hx hb dX7_bestBy_58 hl (by decide) rfl (fun ls hl => ?_)
          refine lv_iload hx hb dX7_bestBy_60 (lv_at hl 1 rfl) ?_
          refine lv_if_gt (tgt := 86) hx hb dX7_bestBy_62 (by decide) (fun q_9 => ?_) (fun q_9 => ?_)
          · have h := mk_ifp q_9 h
            exact K86 x3 r_2 ls (lv_sub hl [3, 4, 6, 2] rfl) h
          · have h := mk_ifn q_9 h
            refine lv_iload hx hb dX7_bestBy_65 (lv_at hl 1 rfl) ?_
            refine lv_if_ne (tgt := 91) hx hb dX7_bestBy_67 (by decide) (fun q_10 => ?_) (fun q_10 => ?_)
            · have h := mk_ifn q_10 h
              refine lv_iload_n hx hb dX7_bestBy_91 rfl (lv_at hl 5 rfl) ?_
              refine lv_istore_n (lv' := [(2, .int x2), (6, .int (r_7 - r_8)), (5, .int (v_5 - v_6)), (4, .int r_2), (0, .ref (a0 0)), (1, .int x1), (3, .int x3)]) hx hb dX7_bestBy_92 rfl hl (by decide) rfl (fun ls hl => ?_)
              refine lv_iinc (v := (x3 + (1 : Int32))) (lv' := [(3, .int (x3 + (1 : Int32))), (2, .int x2), (6, .int (r_7 - r_8)), (5, .int (v_5 - v_6)), (4, .int r_2), (0, .ref (a0 0)), (1, .int x1)]) hx hb dX7_bestBy_93 hl (k := 6) rfl rfl (by decide) rfl (fun ls hl => ?_)
              refine lv_goto (tgt := 4) hx hb dX7_bestBy_96 (by decide) ?_
              exact ih4 x2 (x3 + (1 : Int32)) h ls (lv_sub hl [5, 6, 1, 0] rfl)
            · have h := mk_ifp q_10 h
              refine lv_iload hx hb dX7_bestBy_70 (lv_at hl 0 rfl) ?_
              refine lv_if_gt (tgt := 86) hx hb dX7_bestBy_72 (by decide) (fun q_11 => ?_) (fun q_11 => ?_)
              · have h := mk_ifp q_11 h
                exact K86 x3 r_2 ls (lv_sub hl [3, 4, 6, 2] rfl) h
              · have h := mk_ifn q_11 h
                refine lv_iload hx hb dX7_bestBy_75 (lv_at hl 0 rfl) ?_
                refine lv_if_ne (tgt := 91) hx hb dX7_bestBy_77 (by decide) (fun q_12 => ?_) (fun q_12 => ?_)
                · have h := mk_ifn q_12 h
                  refine lv_iload_n hx hb dX7_bestBy_91 rfl (lv_at hl 5 rfl) ?_
                  refine lv_istore_n (lv' := [(2, .int x2), (6, .int (r_7 - r_8)), (5, .int (v_5 - v_6)), (4, .int r_2), (0, .ref (a0 0)), (1, .int x1), (3, .int x3)]) hx hb dX7_bestBy_92 rfl hl (by decide) rfl (fun ls hl => ?_)
                  refine lv_iinc (v := (x3 + (1 : Int32))) (lv' := [(3, .int (x3 + (1 : Int32))), (2, .int x2), (6, .int (r_7 - r_8)), (5, .int (v_5 - v_6)), (4, .int r_2), (0, .ref (a0 0)), (1, .int x1)]) hx hb dX7_bestBy_93 hl (k := 6) rfl rfl (by decide) rfl (fun ls hl => ?_)
                  refine lv_goto (tgt := 4) hx hb dX7_bestBy_96 (by decide) ?_
                  exact ih4 x2 (x3 + (1 : Int32)) h ls (lv_sub hl [5, 6, 1, 0] rfl)
                · have h := mk_ifp q_12 h
                  refine lv_iload hx hb dX7_bestBy_80 (lv_at hl 2 rfl) ?_
                  refine lv_iload_n hx hb dX7_bestBy_82 rfl (lv_at hl 5 rfl) ?_
                  refine lv_icmp_ge (tgt := 91) hx hb dX7_bestBy_83 (by decide) (fun q_13 => ?_) (fun q_13 => ?_)
                  · have h := mk_ifp q_13 h
                    refine lv_iload_n hx hb dX7_bestBy_91 rfl (lv_at hl 5 rfl) ?_
                    refine lv_istore_n (lv' := [(2, .int x2), (6, .int (r_7 - r_8)), (5, .int (v_5 - v_6)), (4, .int r_2), (0, .ref (a0 0)), (1, .int x1), (3, .int x3)]) hx hb dX7_bestBy_92 rfl hl (by decide) rfl (fun ls hl => ?_)
                    refine lv_iinc (v := (x3 + (1 : Int32))) (lv' := [(3, .int (x3 + (1 : Int32))), (2, .int x2), (6, .int (r_7 - r_8)), (5, .int (v_5 - v_6)), (4, .int r_2), (0, .ref (a0 0)), (1, .int x1)]) hx hb dX7_bestBy_93 hl (k := 6) rfl rfl (by decide) rfl (fun ls hl => ?_)
                    refine lv_goto (tgt := 4) hx hb dX7_bestBy_96 (by decide) ?_
                    exact ih4 x2 (x3 + (1 : Int32)) h ls (lv_sub hl [5, 6, 1, 0] rfl)
                  · have h := mk_ifn q_13 h
                    exact K86 x3 r_2 ls (lv_sub hl [3, 4, 6, 2] rfl) h
  unfold f_X7_bestBy at h
  refine lv_iconst (v := (0 : Int32)) hx hb dX7_bestBy_0 (by decide) ?_
  refine lv_istore_n (lv' := [(2, .int (0 : Int32)), (0, .ref (a0 0)), (1, .int p1)]) hx hb dX7_bestBy_1 rfl hl (by decide) rfl (fun ls hl => ?_)
  refine lv_iconst (v := (0 : Int32)) hx hb dX7_bestBy_2 (by decide) ?_
  refine lv_istore_n (lv' := [(3, .int (0 : Int32)), (2, .int (0 : Int32)), (0, .ref (a0 0)), (1, .int p1)]) hx hb dX7_bestBy_3 rfl hl (by decide) rfl (fun ls hl => ?_)
  exact K4 p1 (0 : Int32) (0 : Int32) ls (lv_sub hl [2, 3, 1, 0] rfl) h

abbrev rm_X7_isWorld : Room := { frames := 1, cells := 0, slots := 0, locals := 21 }
set_option maxRecDepth 20000 in
theorem k_X7_isWorld_X7_has_89 : GoodIn wsX7_isWorld (va_wsS RX7 89 yX7_has wsX7_has) := goodIn_r _ [4, 5, 6, 7] rfl (by decide +kernel)
set_option maxHeartbeats 4000000 in
set_option maxRecDepth 100000 in
theorem c_X7_isWorld (l : Launch) (D : va_G) (cI cZ cO : ClassId) (N : Nat) (a0 : Nat → Nat) (u0 : TU) (sd : Int64) (p1 : Int32) (out : Int32) (h : f_X7_isWorld N u0 sd p1 = some out) : Met l yX7_isWorld wsX7_isWorld rm_X7_isWorld (va_Pc [.ref (a0 0), .int p1] (fun U => va_P D vwCl (wX7 cI cZ a0 u0 sd) U.heap ∧ va_K D vwCl (tyA cI cZ cO) U)) (vp_Si (fun r => r = out)) 0 0 (fun _ => False) := by
  refine pm_z (own := RX7) (cc := cX7_isWorld) (maxL := 4) (by decide) rfl rfl (Nat.le_of_ble_eq_true rfl) ?_
  intro p e s m args below meth c Q H ls hx hb hml hown hts hP hK hl hret
  have hl : lv_has ls 4 [(0, .ref (a0 0)), (1, .int p1)] := hl
  have hiX7 : ∀ w ∈ u_ws RX7 TX7 33, w ∈ wsX7_isWorld := mk_seg 8 33 rfl
  have K4 : ∀ (x1 : Int32) (x2 : Int32) (x3 : Int32) (ls : Array Slot), lv_has ls 4 [(0, .ref (a0 0)), (1, .int x1), (2, .int x2), (3, .int x3)] → lq2 (g_X7_isWorld_4 N u0 sd x1) N x2 x3 = some out → W p l e rm_X7_isWorld s m args below meth c H [] 0 0 Q (F0 m 4 ls []) := by
    intro x1 x2 x3 ls hl h
    refine lq2_W (Wd := fun x2 x3 => ∀ (ls : Array Slot), lv_has ls 4 [(0, .ref (a0 0)), (1, .int x1), (2, .int x2), (3, .int x3)] → W p l e rm_X7_isWorld s m args below meth c H [] 0 0 Q (F0 m 4 ls [])) (fun rec4 ih4 x2 x3 h ls hl => ?_) N x2 x3 h ls hl
    have K42 : ∀ (x3 : Int32) (ls : Array Slot), lv_has ls 4 [(0, .ref (a0 0)), (1, .int x1), (3, .int x3)] → g_X7_isWorld_42 N u0 sd rec4 x1 x3 = some out → W p l e rm_X7_isWorld s m args below meth c H [] 0 0 Q (F0 m 42 ls []) := by
      intro x3 ls hl h
      unfold g_X7_isWorld_42 at h
      refine lv_iconst (v := (1 : Int32)) hx hb dX7_isWorld_42 (by decide) ?_
      refine lv_goto (tgt := 47) hx hb dX7_isWorld_43 (by decide) ?_
      refine lv_istore_n (lv' := [(2, .int (1 : Int32)), (0, .ref (a0 0)), (1, .int x1), (3, .int x3)]) hx hb dX7_isWorld_47 rfl hl (by decide) rfl (fun ls hl => ?_)
      refine lv_iinc (v := (x3 + (1 : Int32))) (lv' := [(3, .int (x3 + (1 : Int32))), (2, .int (1 : Int32)), (0, .ref (a0 0)), (1, .int x1)]) hx hb dX7_isWorld_48 hl (k := 3) rfl rfl (by decide) rfl (fun ls hl => ?_)
      refine lv_goto (tgt := 4) hx hb dX7_isWorld_51 (by decide) ?_
      exact ih4 (1 : Int32) (x3 + (1 : Int32)) h ls (lv_sub hl [2, 3, 1, 0] rfl)
    unfold g_X7_isWorld_4 at h
    refine lv_iload_n hx hb dX7_isWorld_4 rfl (lv_at hl 3 rfl) ?_
    refine lv_aload_n hx hb dX7_isWorld_5 rfl (lv_at hl 0 rfl) ?_
    refine va_get (D := D) (ci := 7) (v := .int (u0 0 2)) (C := RX7) (T := TX7) (N := 33) hx hb hts hiX7 hown hK hP 0 rfl rfl 2 (by decide) (hts (.fieldLink RX7 130 "ClockOnceModel" "links" "I") (List.mem_of_getElem? (i := 1) rfl)) (fun _ h9 => h9) rfl dX7_isWorld_6 ?_
    refine lv_icmp_ge (tgt := 54) hx hb dX7_isWorld_9 (by decide) (fun q_1 => ?_) (fun q_1 => ?_)
    · have h := mk_ifp q_1 h
      refine lv_iload_n hx hb dX7_isWorld_54 rfl (lv_at hl 2 rfl) ?_
      obtain ⟨hz_2, h⟩ := mk_zE h
      exact hret _ _ _ h hz_2 dX7_isWorld_55
    · have h := mk_ifn q_1 h
      refine lv_iload_n hx hb dX7_isWorld_12 rfl (lv_at hl 2 rfl) ?_
      refine lv_if_eq (tgt := 46) hx hb dX7_isWorld_13 (by decide) (fun q_3 => ?_) (fun q_3 => ?_)
      · have h := mk_ifp q_3 h
        refine lv_iconst (v := (0 : Int32)) hx hb dX7_isWorld_46 (by decide) ?_
        refine lv_istore_n (lv' := [(2, .int (0 : Int32)), (0, .ref (a0 0)), (1, .int x1), (3, .int x3)]) hx hb dX7_isWorld_47 rfl hl (by decide) rfl (fun ls hl => ?_)
        refine lv_iinc (v := (x3 + (1 : Int32))) (lv' := [(3, .int (x3 + (1 : Int32))), (2, .int (0 : Int32)), (0, .ref (a0 0)), (1, .int x1)]) hx hb dX7_isWorld_48 hl (k := 3) rfl rfl (by decide) rfl (fun ls hl => ?_)
        refine lv_goto (tgt := 4) hx hb dX7_isWorld_51 (by decide) ?_
        exact ih4 (0 : Int32) (x3 + (1 : Int32)) h ls (lv_sub hl [2, 3, 1, 0] rfl)
      · have h := mk_ifn q_3 h
        refine lv_iload_n hx hb dX7_isWorld_16 rfl (lv_at hl 1 rfl) ?_
        refine lv_aload_n hx hb dX7_isWorld_17 rfl (lv_at hl 0 rfl) ?_
        refine va_get (D := D) (ci := 7) (v := .ref (a0 4)) (C := RX7) (T := TX7) (N := 33) hx hb hts hiX7 hown hK hP 0 rfl rfl 6 (by decide) (hts (.fieldLink RX7 19 "ClockOnceModel" "linkOf" "[I") (List.mem_of_getElem? (i := 2) rfl)) (fun _ h9 => h9) rfl dX7_isWorld_18 ?_
        refine lv_iload_n hx hb dX7_isWorld_21 rfl (lv_at hl 3 rfl) ?_
        obtain ⟨v_4, ev_4, hiv_4, h⟩ := mk_rdE h
        refine va_iald hx hb hK hP 4 0 rfl rfl hiv_4 dX7_isWorld_22 ?_
        refine mk_topi ev_4 ?_
        obtain ⟨r_5, er_5, h⟩ := mk_bd h
        refine pc_s (As := [.int x1, .int v_4]) (rest := []) ⟨hx, hb, hml, hown, hts⟩ (c_X7_has l D cI cZ cO N x1 v_4 r_5 er_5) (va_cwS 2 hts k_X7_isWorld_X7_has_89 rfl rfl rfl (by decide +kernel) ⟨(Nat.le_of_ble_eq_true rfl), (Nat.le_of_ble_eq_true rfl)⟩) (hP.sub (ws' := []) [] rfl) hK rfl hl.1 rfl (Nat.le_of_ble_eq_true rfl) dX7_isWorld_23 ⟨Nat.zero_le _, Nat.zero_le _⟩ ?_
        refine lv_if_eq (tgt := 42) hx hb dX7_isWorld_26 (by decide) (fun q_6 => ?_) (fun q_6 => ?_)
        · have h := mk_ifp q_6 h
          exact K42 x3 ls (lv_sub hl [0, 1, 3] rfl) h
        · have h := mk_ifn q_6 h
          refine lv_iload_n hx hb dX7_isWorld_29 rfl (lv_at hl 1 rfl) ?_
          refine lv_aload_n hx hb dX7_isWorld_30 rfl (lv_at hl 0 rfl) ?_
          refine va_get (D := D) (ci := 7) (v := .ref (a0 5)) (C := RX7) (T := TX7) (N := 33) hx hb hts hiX7 hown hK hP 0 rfl rfl 7 (by decide) (hts (.fieldLink RX7 22 "ClockOnceModel" "linkTo" "[I") (List.mem_of_getElem? (i := 3) rfl)) (fun _ h9 => h9) rfl dX7_isWorld_31 ?_
          refine lv_iload_n hx hb dX7_isWorld_34 rfl (lv_at hl 3 rfl) ?_
          obtain ⟨v_7, ev_7, hiv_7, h⟩ := mk_rdE h
          refine va_iald hx hb hK hP 5 0 rfl rfl hiv_7 dX7_isWorld_35 ?_
          refine mk_topi ev_7 ?_
          obtain ⟨r_8, er_8, h⟩ := mk_bd h
          refine pc_s (As := [.int x1, .int v_7]) (rest := []) ⟨hx, hb, hml, hown, hts⟩ (c_X7_has l D cI cZ cO N x1 v_7 r_8 er_8) (va_cwS 2 hts k_X7_isWorld_X7_has_89 rfl rfl rfl (by decide +kernel) ⟨(Nat.le_of_ble_eq_true rfl), (Nat.le_of_ble_eq_true rfl)⟩) (hP.sub (ws' := []) [] rfl) hK rfl hl.1 rfl (Nat.le_of_ble_eq_true rfl) dX7_isWorld_36 ⟨Nat.zero_le _, Nat.zero_le _⟩ ?_
          refine lv_if_eq (tgt := 46) hx hb dX7_isWorld_39 (by decide) (fun q_9 => ?_) (fun q_9 => ?_)
          · have h := mk_ifp q_9 h
            refine lv_iconst (v := (0 : Int32)) hx hb dX7_isWorld_46 (by decide) ?_
            refine lv_istore_n (lv' := [(2, .int (0 : Int32)), (0, .ref (a0 0)), (1, .int x1), (3, .int x3)]) hx hb dX7_isWorld_47 rfl hl (by decide) rfl (fun ls hl => ?_)
            refine lv_iinc (v := (x3 + (1 : Int32))) (lv' := [(3, .int (x3 + (1 : Int32))), (2, .int (0 : Int32)), (0, .ref (a0 0)), (1, .int x1)]) hx hb dX7_isWorld_48 hl (k := 3) rfl rfl (by decide) rfl (fun ls hl => ?_)
            refine lv_goto (tgt := 4) hx hb dX7_isWorld_51 (by decide) ?_
            exact ih4 (0 : Int32) (x3 + (1 : Int32)) h ls (lv_sub hl [2, 3, 1, 0] rfl)
          · have h := mk_ifn q_9 h
            exact K42 x3 ls (lv_sub hl [0, 1, 3] rfl) h
  unfold f_X7_isWorld at h
  refine lv_iconst (v := (1 : Int32)) hx hb dX7_isWorld_0 (by decide) ?_
  refine lv_istore_n (lv' := [(2, .int (1 : Int32)), (0, .ref (a0 0)), (1, .int p1)]) hx hb dX7_isWorld_1 rfl hl (by decide) rfl (fun ls hl => ?_)
  refine lv_iconst (v := (0 : Int32)) hx hb dX7_isWorld_2 (by decide) ?_
  refine lv_istore_n (lv' := [(3, .int (0 : Int32)), (2, .int (1 : Int32)), (0, .ref (a0 0)), (1, .int p1)]) hx hb dX7_isWorld_3 rfl hl (by decide) rfl (fun ls hl => ?_)
  exact K4 p1 (1 : Int32) (0 : Int32) ls (lv_sub hl [2, 3, 1, 0] rfl) h

abbrev rm_X7_endBy : Room := { frames := 0, cells := 0, slots := 0, locals := 0 }
set_option maxHeartbeats 4000000 in
set_option maxRecDepth 100000 in
theorem c_X7_endBy (l : Launch) (D : va_G) (cI cZ cO : ClassId) (N : Nat) (a0 : Nat → Nat) (u0 : TU) (sd : Int64) (p1 : Int32) (p2 : Int32) (out : Int32) (h : f_X7_endBy N u0 sd p1 p2 = some out) : Met l yX7_endBy wsX7_endBy rm_X7_endBy (va_Pc [.ref (a0 0), .int p1, .int p2] (fun U => va_P D vwCl (wX7 cI cZ a0 u0 sd) U.heap ∧ va_K D vwCl (tyA cI cZ cO) U)) (vp_Si (fun r => r = out)) 0 0 (fun _ => False) := by
  refine pm_i (own := RX7) (cc := cX7_endBy) (maxL := 3) (by decide) rfl rfl (Nat.le_of_ble_eq_true rfl) ?_
  intro p e s m args below meth c Q H ls hx hb hml hown hts hP hK hl hret
  have hl : lv_has ls 3 [(0, .ref (a0 0)), (1, .int p1), (2, .int p2)] := hl
  have hiX7 : ∀ w ∈ u_ws RX7 TX7 33, w ∈ wsX7_endBy := mk_seg 2 33 rfl
  unfold f_X7_endBy at h
  refine lv_aload_n hx hb dX7_endBy_0 rfl (lv_at hl 0 rfl) ?_
  refine va_get (D := D) (ci := 7) (v := .ref (a0 1)) (C := RX7) (T := TX7) (N := 33) hx hb hts hiX7 hown hK hP 0 rfl rfl 3 (by decide) (hts (.fieldLink RX7 7 "ClockOnceModel" "of" "[I") (List.mem_of_getElem? (i := 1) rfl)) (fun _ h9 => h9) rfl dX7_endBy_1 ?_
  refine lv_iconst (v := (5 : Int32)) hx hb dX7_endBy_4 (by decide) ?_
  refine lv_iload_n hx hb dX7_endBy_5 rfl (lv_at hl 1 rfl) ?_
  refine lv_imul hx hb dX7_endBy_6 ?_
  refine lv_iload_n hx hb dX7_endBy_7 rfl (lv_at hl 2 rfl) ?_
  refine lv_if_eq (tgt := 15) hx hb dX7_endBy_8 (by decide) (fun q_1 => ?_) (fun q_1 => ?_)
  · have h := mk_ifp q_1 h
    refine lv_iconst (v := (1 : Int32)) hx hb dX7_endBy_15 (by decide) ?_
    refine lv_iadd hx hb dX7_endBy_16 ?_
    obtain ⟨v_2, ev_2, hiv_2, h⟩ := mk_rdE h
    refine va_iald hx hb hK hP 1 0 rfl rfl hiv_2 dX7_endBy_17 ?_
    refine mk_topi ev_2 ?_
    exact hret _ _ _ h dX7_endBy_18
  · have h := mk_ifn q_1 h
    refine lv_iconst (v := (0 : Int32)) hx hb dX7_endBy_11 (by decide) ?_
    refine lv_goto (tgt := 16) hx hb dX7_endBy_12 (by decide) ?_
    refine lv_iadd hx hb dX7_endBy_16 ?_
    obtain ⟨v_3, ev_3, hiv_3, h⟩ := mk_rdE h
    refine va_iald hx hb hK hP 1 0 rfl rfl hiv_3 dX7_endBy_17 ?_
    refine mk_topi ev_3 ?_
    exact hret _ _ _ h dX7_endBy_18

abbrev rm_X7_isSeenBy : Room := { frames := 2, cells := 0, slots := 0, locals := 44 }
set_option maxRecDepth 20000 in
theorem k_X7_isSeenBy_X7_has_89 : GoodIn wsX7_isSeenBy (va_wsS RX7 89 yX7_has wsX7_has) := goodIn_r _ [10, 11, 5, 12] rfl (by decide +kernel)
set_option maxRecDepth 20000 in
theorem k_X7_isSeenBy_X7_endBy_161 : GoodIn wsX7_isSeenBy (wsV RX7 161 RX7 yX7_endBy wsX7_endBy) := goodIn_r _ [13, 14, 15, 5, 16, 17, 22, 23, 24, 25, 26, 27, 28, 29, 30, 31, 32, 33, 34, 35, 36, 37, 38, 39, 40, 41, 42, 43, 44, 45, 46, 47, 48, 49, 50, 51, 52, 53, 54] rfl (by decide +kernel)
set_option maxRecDepth 20000 in
theorem k_X7_isSeenBy_X7_trueEnd_140 : GoodIn wsX7_isSeenBy (wsV RX7 140 RX7 yX7_trueEnd wsX7_trueEnd) := goodIn_r _ [18, 19, 20, 5, 21, 17, 22, 23, 24, 25, 26, 27, 28, 29, 30, 31, 32, 33, 34, 35, 36, 37, 38, 39, 40, 41, 42, 43, 44, 45, 46, 47, 48, 49, 50, 51, 52, 53, 54] rfl (by decide +kernel)
set_option maxRecDepth 20000 in
theorem k_X7_isSeenBy_X7_isWorld_158 : GoodIn wsX7_isSeenBy (wsV RX7 158 RX7 yX7_isWorld wsX7_isWorld) := goodIn_r _ [2, 3, 4, 5, 6, 7, 8, 9, 10, 11, 5, 12, 22, 23, 24, 25, 26, 27, 28, 29, 30, 31, 32, 33, 34, 35, 36, 37, 38, 39, 40, 41, 42, 43, 44, 45, 46, 47, 48, 49, 50, 51, 52, 53, 54] rfl (by decide +kernel)
set_option maxHeartbeats 4000000 in
set_option maxRecDepth 100000 in
theorem c_X7_isSeenBy (l : Launch) (D : va_G) (cI cZ cO : ClassId) (N : Nat) (a0 : Nat → Nat) (u0 : TU) (sd : Int64) (p1 : Int32) (p2 : Int32) (out : Int32) (h : f_X7_isSeenBy N u0 sd p1 p2 = some out) : Met l yX7_isSeenBy wsX7_isSeenBy rm_X7_isSeenBy (va_Pc [.ref (a0 0), .int p1, .int p2] (fun U => va_P D vwCl (wX7 cI cZ a0 u0 sd) U.heap ∧ va_K D vwCl (tyA cI cZ cO) U)) (vp_Si (fun r => r = out)) 0 0 (fun _ => False) := by
  refine pm_z (own := RX7) (cc := cX7_isSeenBy) (maxL := 6) (by decide) rfl rfl (Nat.le_of_ble_eq_true rfl) ?_
  intro p e s m args below meth c Q H ls hx hb hml hown hts hP hK hl hret
  have hl : lv_has ls 6 [(0, .ref (a0 0)), (1, .int p1), (2, .int p2)] := hl
  have hiX7 : ∀ w ∈ u_ws RX7 TX7 33, w ∈ wsX7_isSeenBy := mk_seg 22 33 rfl
  have K9 : ∀ (x1 : Int32) (x2 : Int32) (x3 : Int32) (x4 : Int32) (ls : Array Slot), lv_has ls 6 [(0, .ref (a0 0)), (1, .int x1), (2, .int x2), (3, .int x3), (4, .int x4)] → lq2 (g_X7_isSeenBy_9 N u0 sd x1 x2) N x3 x4 = some out → W p l e rm_X7_isSeenBy s m args below meth c H [] 0 0 Q (F0 m 9 ls []) := by
    intro x1 x2 x3 x4 ls hl h
    refine lq2_W (Wd := fun x3 x4 => ∀ (ls : Array Slot), lv_has ls 6 [(0, .ref (a0 0)), (1, .int x1), (2, .int x2), (3, .int x3), (4, .int x4)] → W p l e rm_X7_isSeenBy s m args below meth c H [] 0 0 Q (F0 m 9 ls [])) (fun rec9 ih9 x3 x4 h ls hl => ?_) N x3 x4 h ls hl
    have K66 : ∀ (x4 : Int32) (ls : Array Slot), lv_has ls 6 [(0, .ref (a0 0)), (1, .int x1), (2, .int x2), (4, .int x4)] → g_X7_isSeenBy_66 N u0 sd rec9 x1 x2 x4 = some out → W p l e rm_X7_isSeenBy s m args below meth c H [] 0 0 Q (F0 m 66 ls []) := by
      intro x4 ls hl h
      unfold g_X7_isSeenBy_66 at h
      refine lv_iconst (v := (1 : Int32)) hx hb dX7_isSeenBy_66 (by decide) ?_
      refine lv_goto (tgt := 71) hx hb dX7_isSeenBy_67 (by decide) ?_
      refine lv_istore_n (lv' := [(3, .int (1 : Int32)), (0, .ref (a0 0)), (1, .int x1), (2, .int x2), (4, .int x4)]) hx hb dX7_isSeenBy_71 rfl hl (by decide) rfl (fun ls hl => ?_)
      refine lv_iinc (v := (x4 + (1 : Int32))) (lv' := [(4, .int (x4 + (1 : Int32))), (3, .int (1 : Int32)), (0, .ref (a0 0)), (1, .int x1), (2, .int x2)]) hx hb dX7_isSeenBy_72 hl (k := 4) rfl rfl (by decide) rfl (fun ls hl => ?_)
      refine lv_goto (tgt := 9) hx hb dX7_isSeenBy_75 (by decide) ?_
      exact ih9 (1 : Int32) (x4 + (1 : Int32)) h ls (lv_sub hl [2, 3, 4, 1, 0] rfl)
    unfold g_X7_isSeenBy_9 at h
    refine lv_iload hx hb dX7_isSeenBy_9 (lv_at hl 4 rfl) ?_
    refine lv_aload_n hx hb dX7_isSeenBy_11 rfl (lv_at hl 0 rfl) ?_
    refine va_get (D := D) (ci := 7) (v := .int (u0 0 0)) (C := RX7) (T := TX7) (N := 33) hx hb hts hiX7 hown hK hP 0 rfl rfl 0 (by decide) (hts (.fieldLink RX7 124 "ClockOnceModel" "things" "I") (List.mem_of_getElem? (i := 1) rfl)) (fun _ h9 => h9) rfl dX7_isSeenBy_12 ?_
    refine lv_icmp_ge (tgt := 78) hx hb dX7_isSeenBy_15 (by decide) (fun q_1 => ?_) (fun q_1 => ?_)
    · have h := mk_ifp q_1 h
      refine lv_iload_n hx hb dX7_isSeenBy_78 rfl (lv_at hl 3 rfl) ?_
      obtain ⟨hz_2, h⟩ := mk_zE h
      exact hret _ _ _ h hz_2 dX7_isSeenBy_79
    · have h := mk_ifn q_1 h
      refine lv_aload_n hx hb dX7_isSeenBy_18 rfl (lv_at hl 0 rfl) ?_
      refine lv_iload hx hb dX7_isSeenBy_19 (lv_at hl 4 rfl) ?_
      refine lv_iload_n hx hb dX7_isSeenBy_21 rfl (lv_at hl 1 rfl) ?_
      refine lv_iload hx hb dX7_isSeenBy_22 (lv_at hl 4 rfl) ?_
      obtain ⟨r_3, er_3, h⟩ := mk_bd h
      refine pc_s (As := [.int x1, .int x4]) (rest := [.int x4, .ref (a0 0)]) ⟨hx, hb, hml, hown, hts⟩ (c_X7_has l D cI cZ cO N x1 x4 r_3 er_3) (va_cwS 2 hts k_X7_isSeenBy_X7_has_89 rfl rfl rfl (by decide +kernel) ⟨(Nat.le_of_ble_eq_true rfl), (Nat.le_of_ble_eq_true rfl)⟩) (hP.sub (ws' := []) [] rfl) hK rfl hl.1 rfl (Nat.le_of_ble_eq_true rfl) dX7_isSeenBy_24 ⟨Nat.zero_le _, Nat.zero_le _⟩ ?_
      obtain ⟨r_4, er_4, h⟩ := mk_bd h
      refine pc_v (As := [.int x4, .int r_3]) (rest := []) ⟨hx, hb, hml, hown, hts⟩ (c_X7_endBy l D cI cZ cO N a0 u0 sd x4 r_3 r_4 er_4) (cwV 2 hts k_X7_isSeenBy_X7_endBy_161 rfl rfl rfl (by decide +kernel) ⟨(Nat.le_of_ble_eq_true rfl), (Nat.le_of_ble_eq_true rfl)⟩) (va_recv hK hP (ci := 7) (q0 := 0) rfl rfl) hP hK rfl hl.1 rfl (Nat.le_of_ble_eq_true rfl) dX7_isSeenBy_27 ⟨Nat.zero_le _, Nat.zero_le _⟩ ?_
      refine lv_istore (lv' := [(5, .int r_4), (0, .ref (a0 0)), (1, .int x1), (2, .int x2), (3, .int x3), (4, .int x4)]) hx hb dX7_isSeenBy_30 hl (by decide) rfl (fun ls hl => ?_)
      refine lv_iload_n hx hb dX7_isSeenBy_32 rfl (lv_at hl 4 rfl) ?_
      refine lv_if_eq (tgt := 70) hx hb dX7_isSeenBy_33 (by decide) (fun q_5 => ?_) (fun q_5 => ?_)
      · have h := mk_ifp q_5 h
        refine lv_iconst (v := (0 : Int32)) hx hb dX7_isSeenBy_70 (by decide) ?_
        refine lv_istore_n (lv' := [(3, .int (0 : Int32)), (5, .int r_4), (0, .ref (a0 0)), (1, .int x1), (2, .int x2), (4, .int x4)]) hx hb dX7_isSeenBy_71 rfl hl (by decide) rfl (fun ls hl => ?_)
        refine lv_iinc (v := (x4 + (1 : Int32))) (lv' := [(4, .int (x4 + (1 : Int32))), (3, .int (0 : Int32)), (5, .int r_4), (0, .ref (a0 0)), (1, .int x1), (2, .int x2)]) hx hb dX7_isSeenBy_72 hl (k := 5) rfl rfl (by decide) rfl (fun ls hl => ?_)
        refine lv_goto (tgt := 9) hx hb dX7_isSeenBy_75 (by decide) ?_
        exact ih9 (0 : Int32) (x4 + (1 : Int32)) h ls (lv_sub hl [3, 4, 5, 1, 0] rfl)
      · have h := mk_ifn q_5 h
        refine lv_aload_n hx hb dX7_isSeenBy_36 rfl (lv_at hl 1 rfl) ?_
        refine lv_iload hx hb dX7_isSeenBy_37 (lv_at hl 5 rfl) ?_
        obtain ⟨r_6, er_6, h⟩ := mk_bd h
        refine pc_v (As := [.int x4]) (rest := []) ⟨hx, hb, hml, hown, hts⟩ (c_X7_trueEnd l D cI cZ cO N a0 u0 sd x4 r_6 er_6) (cwV 1 hts k_X7_isSeenBy_X7_trueEnd_140 rfl rfl rfl (by decide +kernel) ⟨(Nat.le_of_ble_eq_true rfl), (Nat.le_of_ble_eq_true rfl)⟩) (va_recv hK hP (ci := 7) (q0 := 0) rfl rfl) hP hK rfl hl.1 rfl (Nat.le_of_ble_eq_true rfl) dX7_isSeenBy_39 ⟨Nat.zero_le _, Nat.zero_le _⟩ ?_
        refine lv_iload_n hx hb dX7_isSeenBy_42 rfl (lv_at hl 3 rfl) ?_
        refine lv_icmp_le (tgt := 55) hx hb dX7_isSeenBy_43 (by decide) (fun q_7 => ?_) (fun q_7 => ?_)
        · have h := mk_ifp q_7 h
          refine lv_iload hx hb dX7_isSeenBy_55 (lv_at hl 0 rfl) ?_
          refine lv_aload_n hx hb dX7_isSeenBy_57 rfl (lv_at hl 1 rfl) ?_
          refine lv_iload hx hb dX7_isSeenBy_58 (lv_at hl 5 rfl) ?_
          obtain ⟨r_8, er_8, h⟩ := mk_bd h
          refine pc_v (As := [.int x4]) (rest := [.int r_4]) ⟨hx, hb, hml, hown, hts⟩ (c_X7_trueEnd l D cI cZ cO N a0 u0 sd x4 r_8 er_8) (cwV 1 hts k_X7_isSeenBy_X7_trueEnd_140 rfl rfl rfl (by decide +kernel) ⟨(Nat.le_of_ble_eq_true rfl), (Nat.le_of_ble_eq_true rfl)⟩) (va_recv hK hP (ci := 7) (q0 := 0) rfl rfl) hP hK rfl hl.1 rfl (Nat.le_of_ble_eq_true rfl) dX7_isSeenBy_60 ⟨Nat.zero_le _, Nat.zero_le _⟩ ?_
          refine lv_icmp_ne (tgt := 70) hx hb dX7_isSeenBy_63 (by decide) (fun q_9 => ?_) (fun q_9 => ?_)
          · have h := mk_ifn q_9 h
            refine lv_iconst (v := (0 : Int32)) hx hb dX7_isSeenBy_70 (by decide) ?_
            refine lv_istore_n (lv' := [(3, .int (0 : Int32)), (5, .int r_4), (0, .ref (a0 0)), (1, .int x1), (2, .int x2), (4, .int x4)]) hx hb dX7_isSeenBy_71 rfl hl (by decide) rfl (fun ls hl => ?_)
            refine lv_iinc (v := (x4 + (1 : Int32))) (lv' := [(4, .int (x4 + (1 : Int32))), (3, .int (0 : Int32)), (5, .int r_4), (0, .ref (a0 0)), (1, .int x1), (2, .int x2)]) hx hb dX7_isSeenBy_72 hl (k := 5) rfl rfl (by decide) rfl (fun ls hl => ?_)
            refine lv_goto (tgt := 9) hx hb dX7_isSeenBy_75 (by decide) ?_
            exact ih9 (0 : Int32) (x4 + (1 : Int32)) h ls (lv_sub hl [3, 4, 5, 1, 0] rfl)
          · have h := mk_ifp q_9 h
            exact K66 x4 ls (lv_sub hl [1, 2, 3, 5] rfl) h
        · have h := mk_ifn q_7 h
          refine lv_iload hx hb dX7_isSeenBy_46 (lv_at hl 0 rfl) ?_
          refine lv_iload_n hx hb dX7_isSeenBy_48 rfl (lv_at hl 3 rfl) ?_
          refine lv_icmp_le (tgt := 70) hx hb dX7_isSeenBy_49 (by decide) (fun q_10 => ?_) (fun q_10 => ?_)
          · have h := mk_ifp q_10 h
            refine lv_iconst (v := (0 : Int32)) hx hb dX7_isSeenBy_70 (by decide) ?_
            refine lv_istore_n (lv' := [(3, .int (0 : Int32)), (5, .int r_4), (0, .ref (a0 0)), (1, .int x1), (2, .int x2), (4, .int x4)]) hx hb dX7_isSeenBy_71 rfl hl (by decide) rfl (fun ls hl => ?_)
            refine lv_iinc (v := (x4 + (1 : Int32))) (lv' := [(4, .int (x4 + (1 : Int32))), (3, .int (0 : Int32)), (5, .int r_4), (0, .ref (a0 0)), (1, .int x1), (2, .int x2)]) hx hb dX7_isSeenBy_72 hl (k := 5) rfl rfl (by decide) rfl (fun ls hl => ?_)
            refine lv_goto (tgt := 9) hx hb dX7_isSeenBy_75 (by decide) ?_
            exact ih9 (0 : Int32) (x4 + (1 : Int32)) h ls (lv_sub hl [3, 4, 5, 1, 0] rfl)
          · have h := mk_ifn q_10 h
            refine lv_goto (tgt := 66) hx hb dX7_isSeenBy_52 (by decide) ?_
            exact K66 x4 ls (lv_sub hl [1, 2, 3, 5] rfl) h
  unfold f_X7_isSeenBy at h
  refine lv_aload_n hx hb dX7_isSeenBy_0 rfl (lv_at hl 0 rfl) ?_
  refine lv_iload_n hx hb dX7_isSeenBy_1 rfl (lv_at hl 1 rfl) ?_
  obtain ⟨r_11, er_11, h⟩ := mk_bd h
  refine pc_v (As := [.int p1]) (rest := []) ⟨hx, hb, hml, hown, hts⟩ (c_X7_isWorld l D cI cZ cO N a0 u0 sd p1 r_11 er_11) (cwV 1 hts k_X7_isSeenBy_X7_isWorld_158 rfl rfl rfl (by decide +kernel) ⟨(Nat.le_of_ble_eq_true rfl), (Nat.le_of_ble_eq_true rfl)⟩) (va_recv hK hP (ci := 7) (q0 := 0) rfl rfl) hP hK rfl hl.1 rfl (Nat.le_of_ble_eq_true rfl) dX7_isSeenBy_2 ⟨Nat.zero_le _, Nat.zero_le _⟩ ?_
  refine lv_istore_n (lv' := [(3, .int r_11), (0, .ref (a0 0)), (1, .int p1), (2, .int p2)]) hx hb dX7_isSeenBy_5 rfl hl (by decide) rfl (fun ls hl => ?_)
  refine lv_iconst (v := (0 : Int32)) hx hb dX7_isSeenBy_6 (by decide) ?_
  refine lv_istore (lv' := [(4, .int (0 : Int32)), (3, .int r_11), (0, .ref (a0 0)), (1, .int p1), (2, .int p2)]) hx hb dX7_isSeenBy_7 hl (by decide) rfl (fun ls hl => ?_)
  exact K9 p1 p2 r_11 (0 : Int32) ls (lv_sub hl [2, 3, 4, 1, 0] rfl) h

abbrev rm_X7_truth : Room := { frames := 0, cells := 0, slots := 0, locals := 0 }
set_option maxHeartbeats 4000000 in
set_option maxRecDepth 100000 in
theorem c_X7_truth (l : Launch) (D : va_G) (cI cZ cO : ClassId) (N : Nat) (a0 : Nat → Nat) (u0 : TU) (sd : Int64) (out : Int32) (h : f_X7_truth N u0 sd = some out) : Met l yX7_truth wsX7_truth rm_X7_truth (va_Pc [.ref (a0 0)] (fun U => va_P D vwCl (wX7 cI cZ a0 u0 sd) U.heap ∧ va_K D vwCl (tyA cI cZ cO) U)) (vp_Si (fun r => r = out)) 0 0 (fun _ => False) := by
  refine pm_i (own := RX7) (cc := cX7_truth) (maxL := 3) (by decide) rfl rfl (Nat.le_of_ble_eq_true rfl) ?_
  intro p e s m args below meth c Q H ls hx hb hml hown hts hP hK hl hret
  have hl : lv_has ls 3 [(0, .ref (a0 0))] := hl
  have hiX7 : ∀ w ∈ u_ws RX7 TX7 33, w ∈ wsX7_truth := mk_seg 3 33 rfl
  have K4 : ∀ (x1 : Int32) (x2 : Int32) (ls : Array Slot), lv_has ls 3 [(0, .ref (a0 0)), (1, .int x1), (2, .int x2)] → lq2 (g_X7_truth_4 N u0 sd) N x1 x2 = some out → W p l e rm_X7_truth s m args below meth c H [] 0 0 Q (F0 m 4 ls []) := by
    intro x1 x2 ls hl h
    refine lq2_W (Wd := fun x1 x2 => ∀ (ls : Array Slot), lv_has ls 3 [(0, .ref (a0 0)), (1, .int x1), (2, .int x2)] → W p l e rm_X7_truth s m args below meth c H [] 0 0 Q (F0 m 4 ls [])) (fun rec4 ih4 x1 x2 h ls hl => ?_) N x1 x2 h ls hl
    unfold g_X7_truth_4 at h
    refine lv_iload_n hx hb dX7_truth_4 rfl (lv_at hl 2 rfl) ?_
    refine lv_aload_n hx hb dX7_truth_5 rfl (lv_at hl 0 rfl) ?_
    refine va_get (D := D) (ci := 7) (v := .int (u0 0 0)) (C := RX7) (T := TX7) (N := 33) hx hb hts hiX7 hown hK hP 0 rfl rfl 0 (by decide) (hts (.fieldLink RX7 124 "ClockOnceModel" "things" "I") (List.mem_of_getElem? (i := 1) rfl)) (fun _ h9 => h9) rfl dX7_truth_6 ?_
    refine lv_icmp_ge (tgt := 41) hx hb dX7_truth_9 (by decide) (fun q_1 => ?_) (fun q_1 => ?_)
    · have h := mk_ifp q_1 h
      refine lv_iload_n hx hb dX7_truth_41 rfl (lv_at hl 1 rfl) ?_
      exact hret _ _ _ h dX7_truth_42
    · have h := mk_ifn q_1 h
      refine lv_iload_n hx hb dX7_truth_12 rfl (lv_at hl 1 rfl) ?_
      refine lv_aload_n hx hb dX7_truth_13 rfl (lv_at hl 0 rfl) ?_
      refine va_get (D := D) (ci := 7) (v := .ref (a0 1)) (C := RX7) (T := TX7) (N := 33) hx hb hts hiX7 hown hK hP 0 rfl rfl 3 (by decide) (hts (.fieldLink RX7 7 "ClockOnceModel" "of" "[I") (List.mem_of_getElem? (i := 2) rfl)) (fun _ h9 => h9) rfl dX7_truth_14 ?_
      refine lv_iconst (v := (5 : Int32)) hx hb dX7_truth_17 (by decide) ?_
      refine lv_iload_n hx hb dX7_truth_18 rfl (lv_at hl 2 rfl) ?_
      refine lv_imul hx hb dX7_truth_19 ?_
      refine lv_iconst (v := (4 : Int32)) hx hb dX7_truth_20 (by decide) ?_
      refine lv_iadd hx hb dX7_truth_21 ?_
      obtain ⟨v_2, ev_2, hiv_2, h⟩ := mk_rdE h
      refine va_iald hx hb hK hP 1 0 rfl rfl hiv_2 dX7_truth_22 ?_
      refine mk_topi ev_2 ?_
      refine lv_if_ne (tgt := 32) hx hb dX7_truth_23 (by decide) (fun q_3 => ?_) (fun q_3 => ?_)
      · have h := mk_ifn q_3 h
        refine lv_iconst (v := (0 : Int32)) hx hb dX7_truth_32 (by decide) ?_
        refine lv_ior hx hb dX7_truth_33 ?_
        refine lv_istore_n (lv' := [(1, .int (x1 ||| (0 : Int32))), (0, .ref (a0 0)), (2, .int x2)]) hx hb dX7_truth_34 rfl hl (by decide) rfl (fun ls hl => ?_)
        refine lv_iinc (v := (x2 + (1 : Int32))) (lv' := [(2, .int (x2 + (1 : Int32))), (1, .int (x1 ||| (0 : Int32))), (0, .ref (a0 0))]) hx hb dX7_truth_35 hl (k := 2) rfl rfl (by decide) rfl (fun ls hl => ?_)
        refine lv_goto (tgt := 4) hx hb dX7_truth_38 (by decide) ?_
        exact ih4 (x1 ||| (0 : Int32)) (x2 + (1 : Int32)) h ls (lv_sub hl [2, 1, 0] rfl)
      · have h := mk_ifp q_3 h
        refine lv_iconst (v := (1 : Int32)) hx hb dX7_truth_26 (by decide) ?_
        refine lv_iload_n hx hb dX7_truth_27 rfl (lv_at hl 2 rfl) ?_
        refine lv_ishl hx hb dX7_truth_28 ?_
        refine lv_goto (tgt := 33) hx hb dX7_truth_29 (by decide) ?_
        refine lv_ior hx hb dX7_truth_33 ?_
        refine lv_istore_n (lv' := [(1, .int (x1 ||| ((1 : Int32) <<< (x2 &&& 31)))), (0, .ref (a0 0)), (2, .int x2)]) hx hb dX7_truth_34 rfl hl (by decide) rfl (fun ls hl => ?_)
        refine lv_iinc (v := (x2 + (1 : Int32))) (lv' := [(2, .int (x2 + (1 : Int32))), (1, .int (x1 ||| ((1 : Int32) <<< (x2 &&& 31)))), (0, .ref (a0 0))]) hx hb dX7_truth_35 hl (k := 2) rfl rfl (by decide) rfl (fun ls hl => ?_)
        refine lv_goto (tgt := 4) hx hb dX7_truth_38 (by decide) ?_
        exact ih4 (x1 ||| ((1 : Int32) <<< (x2 &&& 31))) (x2 + (1 : Int32)) h ls (lv_sub hl [2, 1, 0] rfl)
  unfold f_X7_truth at h
  refine lv_iconst (v := (0 : Int32)) hx hb dX7_truth_0 (by decide) ?_
  refine lv_istore_n (lv' := [(1, .int (0 : Int32)), (0, .ref (a0 0))]) hx hb dX7_truth_1 rfl hl (by decide) rfl (fun ls hl => ?_)
  refine lv_iconst (v := (0 : Int32)) hx hb dX7_truth_2 (by decide) ?_
  refine lv_istore_n (lv' := [(2, .int (0 : Int32)), (1, .int (0 : Int32)), (0, .ref (a0 0))]) hx hb dX7_truth_3 rfl hl (by decide) rfl (fun ls hl => ?_)
  exact K4 (0 : Int32) (0 : Int32) ls (lv_sub hl [2, 1, 0] rfl) h

abbrev rm_X7_isPossible : Room := { frames := 3, cells := 0, slots := 0, locals := 69 }
set_option maxRecDepth 20000 in
theorem k_X7_isPossible_X7_isSeenBy_165 : GoodIn wsX7_isPossible (wsV RX7 165 RX7 yX7_isSeenBy wsX7_isSeenBy) := goodIn_r _ [1, 2, 3, 4, 5, 6, 7, 8, 9, 4, 10, 11, 12, 13, 14, 15, 16, 17, 18, 19, 20, 21, 22, 23, 24, 25, 30, 31, 32, 33, 34, 35, 36, 37, 38, 39, 40, 41, 42, 43, 44, 45, 46, 47, 48, 49, 50, 51, 52, 53, 54, 55, 56, 57, 58, 59, 60, 61, 62] rfl (by decide +kernel)
set_option maxRecDepth 20000 in
theorem k_X7_isPossible_X7_truth_168 : GoodIn wsX7_isPossible (wsV RX7 168 RX7 yX7_truth wsX7_truth) := goodIn_r _ [26, 27, 28, 4, 29, 6, 21, 30, 31, 32, 33, 34, 35, 36, 37, 38, 39, 40, 41, 42, 43, 44, 45, 46, 47, 48, 49, 50, 51, 52, 53, 54, 55, 56, 57, 58, 59, 60, 61, 62] rfl (by decide +kernel)
set_option maxHeartbeats 4000000 in
set_option maxRecDepth 100000 in
theorem c_X7_isPossible (l : Launch) (D : va_G) (cI cZ cO : ClassId) (N : Nat) (a0 : Nat → Nat) (u0 : TU) (sd : Int64) (p1 : Int32) (p2 : Int32) (p3 : Int32) (out : Int32) (h : f_X7_isPossible N u0 sd p1 p2 p3 = some out) : Met l yX7_isPossible wsX7_isPossible rm_X7_isPossible (va_Pc [.ref (a0 0), .int p1, .int p2, .int p3] (fun U => va_P D vwCl (wX7 cI cZ a0 u0 sd) U.heap ∧ va_K D vwCl (tyA cI cZ cO) U)) (vp_Si (fun r => r = out)) 0 0 (fun _ => False) := by
  refine pm_z (own := RX7) (cc := cX7_isPossible) (maxL := 4) (by decide) rfl rfl (Nat.le_of_ble_eq_true rfl) ?_
  intro p e s m args below meth c Q H ls hx hb hml hown hts hP hK hl hret
  have hl : lv_has ls 4 [(0, .ref (a0 0)), (1, .int p1), (2, .int p2), (3, .int p3)] := hl
  unfold f_X7_isPossible at h
  refine lv_aload_n hx hb dX7_isPossible_0 rfl (lv_at hl 0 rfl) ?_
  refine lv_iload_n hx hb dX7_isPossible_1 rfl (lv_at hl 1 rfl) ?_
  refine lv_iload_n hx hb dX7_isPossible_2 rfl (lv_at hl 2 rfl) ?_
  obtain ⟨r_1, er_1, h⟩ := mk_bd h
  refine pc_v (As := [.int p1, .int p2]) (rest := []) ⟨hx, hb, hml, hown, hts⟩ (c_X7_isSeenBy l D cI cZ cO N a0 u0 sd p1 p2 r_1 er_1) (cwV 2 hts k_X7_isPossible_X7_isSeenBy_165 rfl rfl rfl (by decide +kernel) ⟨(Nat.le_of_ble_eq_true rfl), (Nat.le_of_ble_eq_true rfl)⟩) (va_recv hK hP (ci := 7) (q0 := 0) rfl rfl) hP hK rfl hl.1 rfl (Nat.le_of_ble_eq_true rfl) dX7_isPossible_3 ⟨Nat.zero_le _, Nat.zero_le _⟩ ?_
  refine lv_if_eq (tgt := 24) hx hb dX7_isPossible_6 (by decide) (fun q_2 => ?_) (fun q_2 => ?_)
  · have h := mk_ifp q_2 h
    refine lv_iconst (v := (0 : Int32)) hx hb dX7_isPossible_24 (by decide) ?_
    exact hret _ _ _ h (Or.inl rfl) dX7_isPossible_25
  · have h := mk_ifn q_2 h
    refine lv_iload_n hx hb dX7_isPossible_9 rfl (lv_at hl 1 rfl) ?_
    refine lv_aload_n hx hb dX7_isPossible_10 rfl (lv_at hl 0 rfl) ?_
    obtain ⟨r_3, er_3, h⟩ := mk_bd h
    refine pc_v (As := []) (rest := [.int p1]) ⟨hx, hb, hml, hown, hts⟩ (c_X7_truth l D cI cZ cO N a0 u0 sd r_3 er_3) (cwV 0 hts k_X7_isPossible_X7_truth_168 rfl rfl rfl (by decide +kernel) ⟨(Nat.le_of_ble_eq_true rfl), (Nat.le_of_ble_eq_true rfl)⟩) (va_recv hK hP (ci := 7) (q0 := 0) rfl rfl) hP hK rfl hl.1 rfl (Nat.le_of_ble_eq_true rfl) dX7_isPossible_11 ⟨Nat.zero_le _, Nat.zero_le _⟩ ?_
    refine lv_ixor hx hb dX7_isPossible_14 ?_
    refine lv_iload_n hx hb dX7_isPossible_15 rfl (lv_at hl 3 rfl) ?_
    refine lv_iand hx hb dX7_isPossible_16 ?_
    refine lv_if_ne (tgt := 24) hx hb dX7_isPossible_17 (by decide) (fun q_4 => ?_) (fun q_4 => ?_)
    · have h := mk_ifn q_4 h
      refine lv_iconst (v := (0 : Int32)) hx hb dX7_isPossible_24 (by decide) ?_
      exact hret _ _ _ h (Or.inl rfl) dX7_isPossible_25
    · have h := mk_ifp q_4 h
      refine lv_iconst (v := (1 : Int32)) hx hb dX7_isPossible_20 (by decide) ?_
      refine lv_goto (tgt := 25) hx hb dX7_isPossible_21 (by decide) ?_
      exact hret _ _ _ h (Or.inr rfl) dX7_isPossible_25

abbrev rm_X7_partsOf : Room := { frames := 1, cells := 0, slots := 0, locals := 21 }
set_option maxRecDepth 20000 in
theorem k_X7_partsOf_X7_has_89 : GoodIn wsX7_partsOf (va_wsS RX7 89 yX7_has wsX7_has) := goodIn_r _ [3, 4, 5, 6] rfl (by decide +kernel)
set_option maxHeartbeats 4000000 in
set_option maxRecDepth 100000 in
theorem c_X7_partsOf (l : Launch) (D : va_G) (cI cZ cO : ClassId) (N : Nat) (a0 : Nat → Nat) (u0 : TU) (sd : Int64) (p1 : Int32) (out : Int32) (h : f_X7_partsOf N u0 sd p1 = some out) : Met l yX7_partsOf wsX7_partsOf rm_X7_partsOf (va_Pc [.ref (a0 0), .int p1] (fun U => va_P D vwCl (wX7 cI cZ a0 u0 sd) U.heap ∧ va_K D vwCl (tyA cI cZ cO) U)) (vp_Si (fun r => r = out)) 0 0 (fun _ => False) := by
  refine pm_i (own := RX7) (cc := cX7_partsOf) (maxL := 4) (by decide) rfl rfl (Nat.le_of_ble_eq_true rfl) ?_
  intro p e s m args below meth c Q H ls hx hb hml hown hts hP hK hl hret
  have hl : lv_has ls 4 [(0, .ref (a0 0)), (1, .int p1)] := hl
  have hiX7 : ∀ w ∈ u_ws RX7 TX7 33, w ∈ wsX7_partsOf := mk_seg 7 33 rfl
  have K4 : ∀ (x1 : Int32) (x2 : Int32) (x3 : Int32) (ls : Array Slot), lv_has ls 4 [(0, .ref (a0 0)), (1, .int x1), (2, .int x2), (3, .int x3)] → lq2 (g_X7_partsOf_4 N u0 sd x1) N x2 x3 = some out → W p l e rm_X7_partsOf s m args below meth c H [] 0 0 Q (F0 m 4 ls []) := by
    intro x1 x2 x3 ls hl h
    refine lq2_W (Wd := fun x2 x3 => ∀ (ls : Array Slot), lv_has ls 4 [(0, .ref (a0 0)), (1, .int x1), (2, .int x2), (3, .int x3)] → W p l e rm_X7_partsOf s m args below meth c H [] 0 0 Q (F0 m 4 ls [])) (fun rec4 ih4 x2 x3 h ls hl => ?_) N x2 x3 h ls hl
    unfold g_X7_partsOf_4 at h
    refine lv_iload_n hx hb dX7_partsOf_4 rfl (lv_at hl 3 rfl) ?_
    refine lv_aload_n hx hb dX7_partsOf_5 rfl (lv_at hl 0 rfl) ?_
    refine va_get (D := D) (ci := 7) (v := .int (u0 0 0)) (C := RX7) (T := TX7) (N := 33) hx hb hts hiX7 hown hK hP 0 rfl rfl 0 (by decide) (hts (.fieldLink RX7 124 "ClockOnceModel" "things" "I") (List.mem_of_getElem? (i := 1) rfl)) (fun _ h9 => h9) rfl dX7_partsOf_6 ?_
    refine lv_icmp_ge (tgt := 55) hx hb dX7_partsOf_9 (by decide) (fun q_1 => ?_) (fun q_1 => ?_)
    · have h := mk_ifp q_1 h
      refine lv_iload_n hx hb dX7_partsOf_55 rfl (lv_at hl 2 rfl) ?_
      exact hret _ _ _ h dX7_partsOf_56
    · have h := mk_ifn q_1 h
      refine lv_iload_n hx hb dX7_partsOf_12 rfl (lv_at hl 2 rfl) ?_
      refine lv_iload_n hx hb dX7_partsOf_13 rfl (lv_at hl 1 rfl) ?_
      refine lv_iload_n hx hb dX7_partsOf_14 rfl (lv_at hl 3 rfl) ?_
      obtain ⟨r_2, er_2, h⟩ := mk_bd h
      refine pc_s (As := [.int x1, .int x3]) (rest := [.int x2]) ⟨hx, hb, hml, hown, hts⟩ (c_X7_has l D cI cZ cO N x1 x3 r_2 er_2) (va_cwS 2 hts k_X7_partsOf_X7_has_89 rfl rfl rfl (by decide +kernel) ⟨(Nat.le_of_ble_eq_true rfl), (Nat.le_of_ble_eq_true rfl)⟩) (hP.sub (ws' := []) [] rfl) hK rfl hl.1 rfl (Nat.le_of_ble_eq_true rfl) dX7_partsOf_15 ⟨Nat.zero_le _, Nat.zero_le _⟩ ?_
      refine lv_if_eq (tgt := 34) hx hb dX7_partsOf_18 (by decide) (fun q_3 => ?_) (fun q_3 => ?_)
      · have h := mk_ifp q_3 h
        refine lv_bipush (v := (10 : Int32)) hx hb dX7_partsOf_34 (by decide) ?_
        refine lv_aload_n hx hb dX7_partsOf_36 rfl (lv_at hl 0 rfl) ?_
        refine va_get (D := D) (ci := 7) (v := .ref (a0 1)) (C := RX7) (T := TX7) (N := 33) hx hb hts hiX7 hown hK hP 0 rfl rfl 3 (by decide) (hts (.fieldLink RX7 7 "ClockOnceModel" "of" "[I") (List.mem_of_getElem? (i := 2) rfl)) (fun _ h9 => h9) rfl dX7_partsOf_37 ?_
        refine lv_iconst (v := (5 : Int32)) hx hb dX7_partsOf_40 (by decide) ?_
        refine lv_iload_n hx hb dX7_partsOf_41 rfl (lv_at hl 3 rfl) ?_
        refine lv_imul hx hb dX7_partsOf_42 ?_
        refine lv_iconst (v := (2 : Int32)) hx hb dX7_partsOf_43 (by decide) ?_
        refine lv_iadd hx hb dX7_partsOf_44 ?_
        obtain ⟨v_4, ev_4, hiv_4, h⟩ := mk_rdE h
        refine va_iald hx hb hK hP 1 0 rfl rfl hiv_4 dX7_partsOf_45 ?_
        refine mk_topi ev_4 ?_
        refine lv_isub hx hb dX7_partsOf_46 ?_
        refine lv_imul hx hb dX7_partsOf_47 ?_
        refine lv_istore_n (lv' := [(2, .int (x2 * ((10 : Int32) - v_4))), (0, .ref (a0 0)), (1, .int x1), (3, .int x3)]) hx hb dX7_partsOf_48 rfl hl (by decide) rfl (fun ls hl => ?_)
        refine lv_iinc (v := (x3 + (1 : Int32))) (lv' := [(3, .int (x3 + (1 : Int32))), (2, .int (x2 * ((10 : Int32) - v_4))), (0, .ref (a0 0)), (1, .int x1)]) hx hb dX7_partsOf_49 hl (k := 3) rfl rfl (by decide) rfl (fun ls hl => ?_)
        refine lv_goto (tgt := 4) hx hb dX7_partsOf_52 (by decide) ?_
        exact ih4 (x2 * ((10 : Int32) - v_4)) (x3 + (1 : Int32)) h ls (lv_sub hl [2, 3, 1, 0] rfl)
      · have h := mk_ifn q_3 h
        refine lv_aload_n hx hb dX7_partsOf_21 rfl (lv_at hl 0 rfl) ?_
        refine va_get (D := D) (ci := 7) (v := .ref (a0 1)) (C := RX7) (T := TX7) (N := 33) hx hb hts hiX7 hown hK hP 0 rfl rfl 3 (by decide) (hts (.fieldLink RX7 7 "ClockOnceModel" "of" "[I") (List.mem_of_getElem? (i := 2) rfl)) (fun _ h9 => h9) rfl dX7_partsOf_22 ?_
        refine lv_iconst (v := (5 : Int32)) hx hb dX7_partsOf_25 (by decide) ?_
        refine lv_iload_n hx hb dX7_partsOf_26 rfl (lv_at hl 3 rfl) ?_
        refine lv_imul hx hb dX7_partsOf_27 ?_
        refine lv_iconst (v := (2 : Int32)) hx hb dX7_partsOf_28 (by decide) ?_
        refine lv_iadd hx hb dX7_partsOf_29 ?_
        obtain ⟨v_5, ev_5, hiv_5, h⟩ := mk_rdE h
        refine va_iald hx hb hK hP 1 0 rfl rfl hiv_5 dX7_partsOf_30 ?_
        refine mk_topi ev_5 ?_
        refine lv_goto (tgt := 47) hx hb dX7_partsOf_31 (by decide) ?_
        refine lv_imul hx hb dX7_partsOf_47 ?_
        refine lv_istore_n (lv' := [(2, .int (x2 * v_5)), (0, .ref (a0 0)), (1, .int x1), (3, .int x3)]) hx hb dX7_partsOf_48 rfl hl (by decide) rfl (fun ls hl => ?_)
        refine lv_iinc (v := (x3 + (1 : Int32))) (lv' := [(3, .int (x3 + (1 : Int32))), (2, .int (x2 * v_5)), (0, .ref (a0 0)), (1, .int x1)]) hx hb dX7_partsOf_49 hl (k := 3) rfl rfl (by decide) rfl (fun ls hl => ?_)
        refine lv_goto (tgt := 4) hx hb dX7_partsOf_52 (by decide) ?_
        exact ih4 (x2 * v_5) (x3 + (1 : Int32)) h ls (lv_sub hl [2, 3, 1, 0] rfl)
  unfold f_X7_partsOf at h
  refine lv_iconst (v := (1 : Int32)) hx hb dX7_partsOf_0 (by decide) ?_
  refine lv_istore_n (lv' := [(2, .int (1 : Int32)), (0, .ref (a0 0)), (1, .int p1)]) hx hb dX7_partsOf_1 rfl hl (by decide) rfl (fun ls hl => ?_)
  refine lv_iconst (v := (0 : Int32)) hx hb dX7_partsOf_2 (by decide) ?_
  refine lv_istore_n (lv' := [(3, .int (0 : Int32)), (2, .int (1 : Int32)), (0, .ref (a0 0)), (1, .int p1)]) hx hb dX7_partsOf_3 rfl hl (by decide) rfl (fun ls hl => ?_)
  exact K4 p1 (1 : Int32) (0 : Int32) ls (lv_sub hl [2, 3, 1, 0] rfl) h

abbrev rm_X7_partsBy : Room := { frames := 4, cells := 0, slots := 0, locals := 92 }
set_option maxRecDepth 20000 in
theorem k_X7_partsBy_X7_isPossible_171 : GoodIn wsX7_partsBy (wsV RX7 171 RX7 yX7_isPossible wsX7_isPossible) := goodIn_r _ [2, 3, 4, 5, 6, 7, 8, 9, 5, 10, 1, 11, 12, 13, 14, 15, 16, 17, 18, 19, 20, 21, 22, 23, 24, 25, 26, 27, 28, 29, 30, 31, 32, 33, 38, 39, 40, 41, 42, 43, 44, 45, 46, 47, 48, 49, 50, 51, 52, 53, 54, 55, 56, 57, 58, 59, 60, 61, 62, 63, 64, 65, 66, 67, 68, 69, 70] rfl (by decide +kernel)
set_option maxRecDepth 20000 in
theorem k_X7_partsBy_X7_partsOf_175 : GoodIn wsX7_partsBy (wsV RX7 175 RX7 yX7_partsOf wsX7_partsOf) := goodIn_r _ [34, 35, 36, 5, 37, 1, 25, 18, 19, 5, 20, 38, 39, 40, 41, 42, 43, 44, 45, 46, 47, 48, 49, 50, 51, 52, 53, 54, 55, 56, 57, 58, 59, 60, 61, 62, 63, 64, 65, 66, 67, 68, 69, 70] rfl (by decide +kernel)
set_option maxHeartbeats 4000000 in
set_option maxRecDepth 100000 in
theorem c_X7_partsBy (l : Launch) (D : va_G) (cI cZ cO : ClassId) (N : Nat) (a0 : Nat → Nat) (u0 : TU) (sd : Int64) (p1 : Int32) (p2 : Int32) (out : Int32) (h : f_X7_partsBy N u0 sd p1 p2 = some out) : Met l yX7_partsBy wsX7_partsBy rm_X7_partsBy (va_Pc [.ref (a0 0), .int p1, .int p2] (fun U => va_P D vwCl (wX7 cI cZ a0 u0 sd) U.heap ∧ va_K D vwCl (tyA cI cZ cO) U)) (vp_Si (fun r => r = out)) 0 0 (fun _ => False) := by
  refine pm_i (own := RX7) (cc := cX7_partsBy) (maxL := 5) (by decide) rfl rfl (Nat.le_of_ble_eq_true rfl) ?_
  intro p e s m args below meth c Q H ls hx hb hml hown hts hP hK hl hret
  have hl : lv_has ls 5 [(0, .ref (a0 0)), (1, .int p1), (2, .int p2)] := hl
  have hiX7 : ∀ w ∈ u_ws RX7 TX7 33, w ∈ wsX7_partsBy := mk_seg 38 33 rfl
  have K5 : ∀ (x1 : Int32) (x2 : Int32) (x3 : Int32) (x4 : Int32) (ls : Array Slot), lv_has ls 5 [(0, .ref (a0 0)), (1, .int x1), (2, .int x2), (3, .int x3), (4, .int x4)] → lq2 (g_X7_partsBy_5 N u0 sd x1 x2) N x3 x4 = some out → W p l e rm_X7_partsBy s m args below meth c H [] 0 0 Q (F0 m 5 ls []) := by
    intro x1 x2 x3 x4 ls hl h
    refine lq2_W (Wd := fun x3 x4 => ∀ (ls : Array Slot), lv_has ls 5 [(0, .ref (a0 0)), (1, .int x1), (2, .int x2), (3, .int x3), (4, .int x4)] → W p l e rm_X7_partsBy s m args below meth c H [] 0 0 Q (F0 m 5 ls [])) (fun rec5 ih5 x3 x4 h ls hl => ?_) N x3 x4 h ls hl
    unfold g_X7_partsBy_5 at h
    refine lv_iload hx hb dX7_partsBy_5 (lv_at hl 4 rfl) ?_
    refine lv_iconst (v := (1 : Int32)) hx hb dX7_partsBy_7 (by decide) ?_
    refine lv_aload_n hx hb dX7_partsBy_8 rfl (lv_at hl 0 rfl) ?_
    refine va_get (D := D) (ci := 7) (v := .int (u0 0 0)) (C := RX7) (T := TX7) (N := 33) hx hb hts hiX7 hown hK hP 0 rfl rfl 0 (by decide) (hts (.fieldLink RX7 124 "ClockOnceModel" "things" "I") (List.mem_of_getElem? (i := 1) rfl)) (fun _ h9 => h9) rfl dX7_partsBy_9 ?_
    refine lv_ishl hx hb dX7_partsBy_12 ?_
    refine lv_icmp_ge (tgt := 46) hx hb dX7_partsBy_13 (by decide) (fun q_1 => ?_) (fun q_1 => ?_)
    · have h := mk_ifp q_1 h
      refine lv_iload_n hx hb dX7_partsBy_46 rfl (lv_at hl 3 rfl) ?_
      exact hret _ _ _ h dX7_partsBy_47
    · have h := mk_ifn q_1 h
      refine lv_iload_n hx hb dX7_partsBy_16 rfl (lv_at hl 3 rfl) ?_
      refine lv_aload_n hx hb dX7_partsBy_17 rfl (lv_at hl 0 rfl) ?_
      refine lv_iload hx hb dX7_partsBy_18 (lv_at hl 4 rfl) ?_
      refine lv_iload_n hx hb dX7_partsBy_20 rfl (lv_at hl 1 rfl) ?_
      refine lv_iload_n hx hb dX7_partsBy_21 rfl (lv_at hl 2 rfl) ?_
      obtain ⟨r_2, er_2, h⟩ := mk_bd h
      refine pc_v (As := [.int x4, .int x1, .int x2]) (rest := [.int x3]) ⟨hx, hb, hml, hown, hts⟩ (c_X7_isPossible l D cI cZ cO N a0 u0 sd x4 x1 x2 r_2 er_2) (cwV 3 hts k_X7_partsBy_X7_isPossible_171 rfl rfl rfl (by decide +kernel) ⟨(Nat.le_of_ble_eq_true rfl), (Nat.le_of_ble_eq_true rfl)⟩) (va_recv hK hP (ci := 7) (q0 := 0) rfl rfl) hP hK rfl hl.1 rfl (Nat.le_of_ble_eq_true rfl) dX7_partsBy_22 ⟨Nat.zero_le _, Nat.zero_le _⟩ ?_
      refine lv_if_eq (tgt := 37) hx hb dX7_partsBy_25 (by decide) (fun q_3 => ?_) (fun q_3 => ?_)
      · have h := mk_ifp q_3 h
        refine lv_iconst (v := (0 : Int32)) hx hb dX7_partsBy_37 (by decide) ?_
        refine lv_iadd hx hb dX7_partsBy_38 ?_
        refine lv_istore_n (lv' := [(3, .int (x3 + (0 : Int32))), (0, .ref (a0 0)), (1, .int x1), (2, .int x2), (4, .int x4)]) hx hb dX7_partsBy_39 rfl hl (by decide) rfl (fun ls hl => ?_)
        refine lv_iinc (v := (x4 + (1 : Int32))) (lv' := [(4, .int (x4 + (1 : Int32))), (3, .int (x3 + (0 : Int32))), (0, .ref (a0 0)), (1, .int x1), (2, .int x2)]) hx hb dX7_partsBy_40 hl (k := 4) rfl rfl (by decide) rfl (fun ls hl => ?_)
        refine lv_goto (tgt := 5) hx hb dX7_partsBy_43 (by decide) ?_
        exact ih5 (x3 + (0 : Int32)) (x4 + (1 : Int32)) h ls (lv_sub hl [2, 3, 4, 1, 0] rfl)
      · have h := mk_ifn q_3 h
        refine lv_aload_n hx hb dX7_partsBy_28 rfl (lv_at hl 0 rfl) ?_
        refine lv_iload hx hb dX7_partsBy_29 (lv_at hl 4 rfl) ?_
        obtain ⟨r_4, er_4, h⟩ := mk_bd h
        refine pc_v (As := [.int x4]) (rest := [.int x3]) ⟨hx, hb, hml, hown, hts⟩ (c_X7_partsOf l D cI cZ cO N a0 u0 sd x4 r_4 er_4) (cwV 1 hts k_X7_partsBy_X7_partsOf_175 rfl rfl rfl (by decide +kernel) ⟨(Nat.le_of_ble_eq_true rfl), (Nat.le_of_ble_eq_true rfl)⟩) (va_recv hK hP (ci := 7) (q0 := 0) rfl rfl) hP hK rfl hl.1 rfl (Nat.le_of_ble_eq_true rfl) dX7_partsBy_31 ⟨Nat.zero_le _, Nat.zero_le _⟩ ?_
        refine lv_goto (tgt := 38) hx hb dX7_partsBy_34 (by decide) ?_
        refine lv_iadd hx hb dX7_partsBy_38 ?_
        refine lv_istore_n (lv' := [(3, .int (x3 + r_4)), (0, .ref (a0 0)), (1, .int x1), (2, .int x2), (4, .int x4)]) hx hb dX7_partsBy_39 rfl hl (by decide) rfl (fun ls hl => ?_)
        refine lv_iinc (v := (x4 + (1 : Int32))) (lv' := [(4, .int (x4 + (1 : Int32))), (3, .int (x3 + r_4)), (0, .ref (a0 0)), (1, .int x1), (2, .int x2)]) hx hb dX7_partsBy_40 hl (k := 4) rfl rfl (by decide) rfl (fun ls hl => ?_)
        refine lv_goto (tgt := 5) hx hb dX7_partsBy_43 (by decide) ?_
        exact ih5 (x3 + r_4) (x4 + (1 : Int32)) h ls (lv_sub hl [2, 3, 4, 1, 0] rfl)
  unfold f_X7_partsBy at h
  refine lv_iconst (v := (0 : Int32)) hx hb dX7_partsBy_0 (by decide) ?_
  refine lv_istore_n (lv' := [(3, .int (0 : Int32)), (0, .ref (a0 0)), (1, .int p1), (2, .int p2)]) hx hb dX7_partsBy_1 rfl hl (by decide) rfl (fun ls hl => ?_)
  refine lv_iconst (v := (0 : Int32)) hx hb dX7_partsBy_2 (by decide) ?_
  refine lv_istore (lv' := [(4, .int (0 : Int32)), (3, .int (0 : Int32)), (0, .ref (a0 0)), (1, .int p1), (2, .int p2)]) hx hb dX7_partsBy_3 hl (by decide) rfl (fun ls hl => ?_)
  exact K5 p1 p2 (0 : Int32) (0 : Int32) ls (lv_sub hl [2, 3, 4, 1, 0] rfl) h

abbrev rm_X7_layPossible : Room := { frames := 4, cells := 0, slots := 0, locals := 92 }
set_option maxRecDepth 20000 in
theorem k_X7_layPossible_X7_isPossible_171 : GoodIn wsX7_layPossible (wsV RX7 171 RX7 yX7_isPossible wsX7_isPossible) := goodIn_r _ [3, 4, 5, 6, 7, 8, 9, 10, 6, 11, 2, 12, 13, 14, 15, 16, 17, 18, 19, 20, 21, 22, 23, 24, 25, 26, 27, 28, 29, 30, 31, 32, 33, 34, 35, 36, 37, 38, 39, 40, 41, 42, 43, 44, 45, 46, 47, 48, 49, 50, 51, 52, 53, 54, 55, 56, 57, 58, 59, 60, 61, 62, 63, 64, 65, 66, 67] rfl (by decide +kernel)
set_option maxHeartbeats 4000000 in
set_option maxRecDepth 100000 in
theorem c_X7_layPossible (l : Launch) (D : va_G) (cI cZ cO : ClassId) (N : Nat) (a0 : Nat → Nat) (u0 : TU) (sd : Int64) (p1 : Int32) (p2 : Int32) (sz : Nat) (out : TU) (h : f_X7_layPossible N u0 sd p1 p2 = some out) : Met l yX7_layPossible wsX7_layPossible rm_X7_layPossible (va_Pc [.ref (a0 0), .int p1, .int p2] (mk_Pe D vwCl (tyA cI cZ cO) (wX7 cI cZ a0 u0 sd) sz)) (va_Qv (fun u => u = out) (mk_Be D vwCl (wX7 cI cZ a0 u0 sd) sz (fun q => (wX7 cI cZ a0 q sd))) (va_A (wX7 cI cZ a0 u0 sd) sz)) 0 0 (va_A (wX7 cI cZ a0 u0 sd) sz) := by
  refine em_v (own := RX7) (cc := cX7_layPossible) (maxL := 4) (by decide) rfl rfl (Nat.le_of_ble_eq_true rfl) ?_
  intro p e s m args below meth c Q A H0 H locs ls hx hb hml hown hts hP hK hD hS hA hl hret
  have hl : lv_has ls 4 [(0, .ref (a0 0)), (1, .int p1), (2, .int p2)] := hl
  have hiX7 : ∀ w ∈ u_ws RX7 TX7 33, w ∈ wsX7_layPossible := mk_seg 35 33 rfl
  have K7 : ∀ (u0 : TU) (x1 : Int32) (x2 : Int32) (x3 : Int32) (H : Heap) (locs : List Loc) (ls : Array Slot), va_P D vwCl (wX7 cI cZ a0 u0 sd) H → va_D A (wX7 cI cZ a0 u0 sd) → va_S A H0 H locs → lv_has ls 4 [(0, .ref (a0 0)), (1, .int x1), (2, .int x2), (3, .int x3)] → lq2 (g_X7_layPossible_7 N sd x1 x2) N u0 x3 = some out → W p l e rm_X7_layPossible s m args below meth c H locs 0 0 Q (F0 m 7 ls []) := by
    intro u0 x1 x2 x3 H locs ls hP hD hS hl h
    refine lq2_W (Wd := fun u0 x3 => ∀ (H : Heap) (locs : List Loc) (ls : Array Slot), va_P D vwCl (wX7 cI cZ a0 u0 sd) H → va_D A (wX7 cI cZ a0 u0 sd) → va_S A H0 H locs → lv_has ls 4 [(0, .ref (a0 0)), (1, .int x1), (2, .int x2), (3, .int x3)] → W p l e rm_X7_layPossible s m args below meth c H locs 0 0 Q (F0 m 7 ls [])) (fun rec7 ih7 u0 x3 h H locs ls hP hD hS hl => ?_) N u0 x3 h H locs ls hP hD hS hl
    unfold g_X7_layPossible_7 at h
    refine lv_iload_n hx hb dX7_layPossible_7 rfl (lv_at hl 3 rfl) ?_
    refine lv_iconst (v := (1 : Int32)) hx hb dX7_layPossible_8 (by decide) ?_
    refine lv_aload_n hx hb dX7_layPossible_9 rfl (lv_at hl 0 rfl) ?_
    refine va_get (D := D) (ci := 7) (v := .int (u0 0 0)) (C := RX7) (T := TX7) (N := 33) hx hb hts hiX7 hown hK hP 0 rfl rfl 0 (by decide) (hts (.fieldLink RX7 124 "ClockOnceModel" "things" "I") (List.mem_of_getElem? (i := 2) rfl)) (fun _ h9 => h9) rfl dX7_layPossible_10 ?_
    refine lv_ishl hx hb dX7_layPossible_13 ?_
    refine lv_icmp_ge (tgt := 49) hx hb dX7_layPossible_14 (by decide) (fun q_1 => ?_) (fun q_1 => ?_)
    · have h := mk_ifp q_1 h
      exact hret _ _ _ _ _ h hP hD hS dX7_layPossible_49
    · have h := mk_ifn q_1 h
      refine lv_aload_n hx hb dX7_layPossible_17 rfl (lv_at hl 0 rfl) ?_
      refine lv_dup hx hb dX7_layPossible_18 rfl ?_
      refine va_get (D := D) (ci := 7) (v := .int (u0 0 11)) (C := RX7) (T := TX7) (N := 33) hx hb hts hiX7 hown hK hP 0 rfl rfl 24 (by decide) (hts (.fieldLink RX7 186 "ClockOnceModel" "possible" "I") (List.mem_of_getElem? (i := 1) rfl)) (fun _ h9 => h9) rfl dX7_layPossible_19 ?_
      refine lv_aload_n hx hb dX7_layPossible_22 rfl (lv_at hl 0 rfl) ?_
      refine lv_iload_n hx hb dX7_layPossible_23 rfl (lv_at hl 3 rfl) ?_
      refine lv_iload_n hx hb dX7_layPossible_24 rfl (lv_at hl 1 rfl) ?_
      refine lv_iload_n hx hb dX7_layPossible_25 rfl (lv_at hl 2 rfl) ?_
      obtain ⟨r_2, er_2, h⟩ := mk_bd h
      refine pc_v (As := [.int x3, .int x1, .int x2]) (rest := [.int (u0 0 11), .ref (a0 0)]) ⟨hx, hb, hml, hown, hts⟩ (c_X7_isPossible l D cI cZ cO N a0 u0 sd x3 x1 x2 r_2 er_2) (cwV 3 hts k_X7_layPossible_X7_isPossible_171 rfl rfl rfl (by decide +kernel) ⟨(Nat.le_of_ble_eq_true rfl), (Nat.le_of_ble_eq_true rfl)⟩) (va_recv hK hP (ci := 7) (q0 := 0) rfl rfl) hP hK rfl hl.1 rfl (Nat.le_of_ble_eq_true rfl) dX7_layPossible_26 ⟨Nat.zero_le _, Nat.zero_le _⟩ ?_
      refine lv_if_eq (tgt := 38) hx hb dX7_layPossible_29 (by decide) (fun q_3 => ?_) (fun q_3 => ?_)
      · have h := mk_ifp q_3 h
        refine lv_iconst (v := (0 : Int32)) hx hb dX7_layPossible_38 (by decide) ?_
        refine lv_ior hx hb dX7_layPossible_39 ?_
        obtain ⟨w_4, ew_4, h⟩ := mk_nmE h
        refine va_put (D := D) (ci := 7) (v := .int ((u0 0 11) ||| (0 : Int32))) (ty := .int) (C := RX7) (T := TX7) (N := 33) hx hb hts hiX7 tyX7 tyX7_ok nmX7 hown hK hP hD hS 0 rfl rfl 24 (by decide) (hts (.fieldLink RX7 186 "ClockOnceModel" "possible" "I") (List.mem_of_getElem? (i := 1) rfl)) (fun _ h9 => h9) rfl (by decide +kernel) rfl rfl (Nat.le_of_ble_eq_true rfl) dX7_layPossible_40 (fun H locs hP hD hS => ?_)
        have hP : va_P D vwCl (wX7 cI cZ a0 w_4 sd) H := by rw [ew_4]; exact hP
        have hD : va_D A (wX7 cI cZ a0 w_4 sd) := by rw [ew_4]; exact hD
        refine lv_iinc (v := (x3 + (1 : Int32))) (lv' := [(3, .int (x3 + (1 : Int32))), (0, .ref (a0 0)), (1, .int x1), (2, .int x2)]) hx hb dX7_layPossible_43 hl (k := 3) rfl rfl (by decide) rfl (fun ls hl => ?_)
        refine lv_goto (tgt := 7) hx hb dX7_layPossible_46 (by decide) ?_
        exact ih7 w_4 (x3 + (1 : Int32)) h H locs ls hP hD hS (lv_sub hl [1, 2, 3, 0] rfl)
      · have h := mk_ifn q_3 h
        refine lv_iconst (v := (1 : Int32)) hx hb dX7_layPossible_32 (by decide) ?_
        refine lv_iload_n hx hb dX7_layPossible_33 rfl (lv_at hl 3 rfl) ?_
        refine lv_ishl hx hb dX7_layPossible_34 ?_
        refine lv_goto (tgt := 39) hx hb dX7_layPossible_35 (by decide) ?_
        refine lv_ior hx hb dX7_layPossible_39 ?_
        obtain ⟨w_5, ew_5, h⟩ := mk_nmE h
        refine va_put (D := D) (ci := 7) (v := .int ((u0 0 11) ||| ((1 : Int32) <<< (x3 &&& 31)))) (ty := .int) (C := RX7) (T := TX7) (N := 33) hx hb hts hiX7 tyX7 tyX7_ok nmX7 hown hK hP hD hS 0 rfl rfl 24 (by decide) (hts (.fieldLink RX7 186 "ClockOnceModel" "possible" "I") (List.mem_of_getElem? (i := 1) rfl)) (fun _ h9 => h9) rfl (by decide +kernel) rfl rfl (Nat.le_of_ble_eq_true rfl) dX7_layPossible_40 (fun H locs hP hD hS => ?_)
        have hP : va_P D vwCl (wX7 cI cZ a0 w_5 sd) H := by rw [ew_5]; exact hP
        have hD : va_D A (wX7 cI cZ a0 w_5 sd) := by rw [ew_5]; exact hD
        refine lv_iinc (v := (x3 + (1 : Int32))) (lv' := [(3, .int (x3 + (1 : Int32))), (0, .ref (a0 0)), (1, .int x1), (2, .int x2)]) hx hb dX7_layPossible_43 hl (k := 3) rfl rfl (by decide) rfl (fun ls hl => ?_)
        refine lv_goto (tgt := 7) hx hb dX7_layPossible_46 (by decide) ?_
        exact ih7 w_5 (x3 + (1 : Int32)) h H locs ls hP hD hS (lv_sub hl [1, 2, 3, 0] rfl)
  unfold f_X7_layPossible at h
  refine lv_aload_n hx hb dX7_layPossible_0 rfl (lv_at hl 0 rfl) ?_
  refine lv_iconst (v := (0 : Int32)) hx hb dX7_layPossible_1 (by decide) ?_
  obtain ⟨w_6, ew_6, h⟩ := mk_nmE h
  refine va_put (D := D) (ci := 7) (v := .int (0 : Int32)) (ty := .int) (C := RX7) (T := TX7) (N := 33) hx hb hts hiX7 tyX7 tyX7_ok nmX7 hown hK hP hD hS 0 rfl rfl 24 (by decide) (hts (.fieldLink RX7 186 "ClockOnceModel" "possible" "I") (List.mem_of_getElem? (i := 1) rfl)) (fun _ h9 => h9) rfl (by decide +kernel) rfl rfl (Nat.le_of_ble_eq_true rfl) dX7_layPossible_2 (fun H locs hP hD hS => ?_)
  have hP : va_P D vwCl (wX7 cI cZ a0 w_6 sd) H := by rw [ew_6]; exact hP
  have hD : va_D A (wX7 cI cZ a0 w_6 sd) := by rw [ew_6]; exact hD
  refine lv_iconst (v := (0 : Int32)) hx hb dX7_layPossible_5 (by decide) ?_
  refine lv_istore_n (lv' := [(3, .int (0 : Int32)), (0, .ref (a0 0)), (1, .int p1), (2, .int p2)]) hx hb dX7_layPossible_6 rfl hl (by decide) rfl (fun ls hl => ?_)
  exact K7 w_6 p1 p2 (0 : Int32) H locs ls hP hD hS (lv_sub hl [1, 2, 3, 0] rfl) h

abbrev rm_X7_gives : Room := { frames := 0, cells := 0, slots := 0, locals := 0 }
set_option maxHeartbeats 4000000 in
set_option maxRecDepth 100000 in
theorem c_X7_gives (l : Launch) (D : va_G) (cI cZ cO : ClassId) (N : Nat) (a0 : Nat → Nat) (u0 : TU) (sd : Int64) (p1 : Int32) (p2 : Int32) (p3 : Int32) (p4 : Int32) (out : Int32) (h : f_X7_gives N u0 sd p1 p2 p3 p4 = some out) : Met l yX7_gives wsX7_gives rm_X7_gives (va_Pc [.ref (a0 0), .int p1, .int p2, .int p3, .int p4] (fun U => va_P D vwCl (wX7 cI cZ a0 u0 sd) U.heap ∧ va_K D vwCl (tyA cI cZ cO) U)) (vp_Si (fun r => r = out)) 0 0 (fun _ => False) := by
  refine pm_i (own := RX7) (cc := cX7_gives) (maxL := 6) (by decide) rfl rfl (Nat.le_of_ble_eq_true rfl) ?_
  intro p e s m args below meth c Q H ls hx hb hml hown hts hP hK hl hret
  have hl : lv_has ls 6 [(0, .ref (a0 0)), (1, .int p1), (2, .int p2), (3, .int p3), (4, .int p4)] := hl
  have hiX7 : ∀ w ∈ u_ws RX7 TX7 33, w ∈ wsX7_gives := mk_seg 2 33 rfl
  have K27 : ∀ (x1 : Int32) (x2 : Int32) (x4 : Int32) (t0 : Int32) (ls : Array Slot), lv_has ls 6 [(0, .ref (a0 0)), (1, .int x1), (2, .int x2), (4, .int x4)] → g_X7_gives_27 N u0 sd x1 x2 x4 t0 = some out → W p l e rm_X7_gives s m args below meth c H [] 0 0 Q (F0 m 27 ls [.int t0]) := by
    intro x1 x2 x4 t0 ls hl h
    unfold g_X7_gives_27 at h
    refine lv_iload_n hx hb dX7_gives_27 rfl (lv_at hl 2 rfl) ?_
    refine lv_iload hx hb dX7_gives_28 (lv_at hl 3 rfl) ?_
    refine lv_icmp_le (tgt := 46) hx hb dX7_gives_30 (by decide) (fun q_1 => ?_) (fun q_1 => ?_)
    · have h := mk_ifp q_1 h
      refine lv_iconst (v := (0 : Int32)) hx hb dX7_gives_46 (by decide) ?_
      refine lv_iadd hx hb dX7_gives_47 ?_
      exact hret _ _ _ h dX7_gives_48
    · have h := mk_ifn q_1 h
      refine lv_aload_n hx hb dX7_gives_33 rfl (lv_at hl 0 rfl) ?_
      refine va_get (D := D) (ci := 7) (v := .ref (a0 1)) (C := RX7) (T := TX7) (N := 33) hx hb hts hiX7 hown hK hP 0 rfl rfl 3 (by decide) (hts (.fieldLink RX7 7 "ClockOnceModel" "of" "[I") (List.mem_of_getElem? (i := 1) rfl)) (fun _ h9 => h9) rfl dX7_gives_34 ?_
      refine lv_iconst (v := (5 : Int32)) hx hb dX7_gives_37 (by decide) ?_
      refine lv_iload_n hx hb dX7_gives_38 rfl (lv_at hl 1 rfl) ?_
      refine lv_imul hx hb dX7_gives_39 ?_
      refine lv_iconst (v := (3 : Int32)) hx hb dX7_gives_40 (by decide) ?_
      refine lv_iadd hx hb dX7_gives_41 ?_
      obtain ⟨v_2, ev_2, hiv_2, h⟩ := mk_rdE h
      refine va_iald hx hb hK hP 1 0 rfl rfl hiv_2 dX7_gives_42 ?_
      refine mk_topi ev_2 ?_
      refine lv_goto (tgt := 47) hx hb dX7_gives_43 (by decide) ?_
      refine lv_iadd hx hb dX7_gives_47 ?_
      exact hret _ _ _ h dX7_gives_48
  have K12 : ∀ (x1 : Int32) (x2 : Int32) (x3 : Int32) (x4 : Int32) (t0 : Int32) (ls : Array Slot), lv_has ls 6 [(0, .ref (a0 0)), (1, .int x1), (2, .int x2), (3, .int x3), (4, .int x4)] → g_X7_gives_12 N u0 sd x1 x2 x3 x4 t0 = some out → W p l e rm_X7_gives s m args below meth c H [] 0 0 Q (F0 m 12 ls [.int t0]) := by
    intro x1 x2 x3 x4 t0 ls hl h
    unfold g_X7_gives_12 at h
    refine lv_iload_n hx hb dX7_gives_12 rfl (lv_at hl 3 rfl) ?_
    refine lv_isub hx hb dX7_gives_13 ?_
    refine lv_istore (lv' := [(5, .int (t0 - x3)), (0, .ref (a0 0)), (1, .int x1), (2, .int x2), (3, .int x3), (4, .int x4)]) hx hb dX7_gives_14 hl (by decide) rfl (fun ls hl => ?_)
    refine lv_iload hx hb dX7_gives_16 (lv_at hl 0 rfl) ?_
    refine lv_if_le (tgt := 26) hx hb dX7_gives_18 (by decide) (fun q_3 => ?_) (fun q_3 => ?_)
    · have h := mk_ifp q_3 h
      refine lv_iconst (v := (0 : Int32)) hx hb dX7_gives_26 (by decide) ?_
      exact K27 x1 x2 x4 (0 : Int32) ls (lv_sub hl [1, 2, 3, 5] rfl) h
    · have h := mk_ifn q_3 h
      refine lv_iload hx hb dX7_gives_21 (lv_at hl 0 rfl) ?_
      refine lv_goto (tgt := 27) hx hb dX7_gives_23 (by decide) ?_
      exact K27 x1 x2 x4 (t0 - x3) ls (lv_sub hl [1, 2, 3, 5] rfl) h
  unfold f_X7_gives at h
  refine lv_iload_n hx hb dX7_gives_0 rfl (lv_at hl 2 rfl) ?_
  refine lv_iload hx hb dX7_gives_1 (lv_at hl 4 rfl) ?_
  refine lv_icmp_ge (tgt := 10) hx hb dX7_gives_3 (by decide) (fun q_4 => ?_) (fun q_4 => ?_)
  · have h := mk_ifp q_4 h
    refine lv_iload hx hb dX7_gives_10 (lv_at hl 4 rfl) ?_
    exact K12 p1 p2 p3 p4 p4 ls (lv_sub hl [0, 1, 2, 3, 4] rfl) h
  · have h := mk_ifn q_4 h
    refine lv_iload_n hx hb dX7_gives_6 rfl (lv_at hl 2 rfl) ?_
    refine lv_goto (tgt := 12) hx hb dX7_gives_7 (by decide) ?_
    exact K12 p1 p2 p3 p4 p2 ls (lv_sub hl [0, 1, 2, 3, 4] rfl) h

abbrev rm_X7_givesBy : Room := { frames := 2, cells := 0, slots := 0, locals := 44 }
set_option maxRecDepth 20000 in
theorem k_X7_givesBy_X7_has_89 : GoodIn wsX7_givesBy (va_wsS RX7 89 yX7_has wsX7_has) := goodIn_r _ [3, 4, 5, 6] rfl (by decide +kernel)
set_option maxRecDepth 20000 in
theorem k_X7_givesBy_X7_partsOf_175 : GoodIn wsX7_givesBy (wsV RX7 175 RX7 yX7_partsOf wsX7_partsOf) := goodIn_r _ [7, 8, 9, 5, 10, 1, 11, 3, 4, 5, 6, 20, 21, 22, 23, 24, 25, 26, 27, 28, 29, 30, 31, 32, 33, 34, 35, 36, 37, 38, 39, 40, 41, 42, 43, 44, 45, 46, 47, 48, 49, 50, 51, 52] rfl (by decide +kernel)
set_option maxRecDepth 20000 in
theorem k_X7_givesBy_X7_endBy_161 : GoodIn wsX7_givesBy (wsV RX7 161 RX7 yX7_endBy wsX7_endBy) := goodIn_r _ [12, 13, 14, 5, 15, 11, 20, 21, 22, 23, 24, 25, 26, 27, 28, 29, 30, 31, 32, 33, 34, 35, 36, 37, 38, 39, 40, 41, 42, 43, 44, 45, 46, 47, 48, 49, 50, 51, 52] rfl (by decide +kernel)
set_option maxRecDepth 20000 in
theorem k_X7_givesBy_X7_gives_189 : GoodIn wsX7_givesBy (wsV RX7 189 RX7 yX7_gives wsX7_gives) := goodIn_r _ [16, 17, 18, 5, 19, 11, 20, 21, 22, 23, 24, 25, 26, 27, 28, 29, 30, 31, 32, 33, 34, 35, 36, 37, 38, 39, 40, 41, 42, 43, 44, 45, 46, 47, 48, 49, 50, 51, 52] rfl (by decide +kernel)
set_option maxHeartbeats 4000000 in
set_option maxRecDepth 100000 in
theorem c_X7_givesBy (l : Launch) (D : va_G) (cI cZ cO : ClassId) (N : Nat) (a0 : Nat → Nat) (u0 : TU) (sd : Int64) (p1 : Int32) (p2 : Int32) (p3 : Int32) (out : Int32) (h : f_X7_givesBy N u0 sd p1 p2 p3 = some out) : Met l yX7_givesBy wsX7_givesBy rm_X7_givesBy (va_Pc [.ref (a0 0), .int p1, .int p2, .int p3] (fun U => va_P D vwCl (wX7 cI cZ a0 u0 sd) U.heap ∧ va_K D vwCl (tyA cI cZ cO) U)) (vp_Si (fun r => r = out)) 0 0 (fun _ => False) := by
  refine pm_i (own := RX7) (cc := cX7_givesBy) (maxL := 6) (by decide) rfl rfl (Nat.le_of_ble_eq_true rfl) ?_
  intro p e s m args below meth c Q H ls hx hb hml hown hts hP hK hl hret
  have hl : lv_has ls 6 [(0, .ref (a0 0)), (1, .int p1), (2, .int p2), (3, .int p3)] := hl
  have hiX7 : ∀ w ∈ u_ws RX7 TX7 33, w ∈ wsX7_givesBy := mk_seg 20 33 rfl
  have K6 : ∀ (x1 : Int32) (x2 : Int32) (x3 : Int32) (x4 : Int32) (x5 : Int32) (ls : Array Slot), lv_has ls 6 [(0, .ref (a0 0)), (1, .int x1), (2, .int x2), (3, .int x3), (4, .int x4), (5, .int x5)] → lq2 (g_X7_givesBy_6 N u0 sd x1 x2 x3) N x4 x5 = some out → W p l e rm_X7_givesBy s m args below meth c H [] 0 0 Q (F0 m 6 ls []) := by
    intro x1 x2 x3 x4 x5 ls hl h
    refine lq2_W (Wd := fun x4 x5 => ∀ (ls : Array Slot), lv_has ls 6 [(0, .ref (a0 0)), (1, .int x1), (2, .int x2), (3, .int x3), (4, .int x4), (5, .int x5)] → W p l e rm_X7_givesBy s m args below meth c H [] 0 0 Q (F0 m 6 ls [])) (fun rec6 ih6 x4 x5 h ls hl => ?_) N x4 x5 h ls hl
    unfold g_X7_givesBy_6 at h
    refine lv_iload hx hb dX7_givesBy_6 (lv_at hl 5 rfl) ?_
    refine lv_iconst (v := (1 : Int32)) hx hb dX7_givesBy_8 (by decide) ?_
    refine lv_aload_n hx hb dX7_givesBy_9 rfl (lv_at hl 0 rfl) ?_
    refine va_get (D := D) (ci := 7) (v := .int (u0 0 0)) (C := RX7) (T := TX7) (N := 33) hx hb hts hiX7 hown hK hP 0 rfl rfl 0 (by decide) (hts (.fieldLink RX7 124 "ClockOnceModel" "things" "I") (List.mem_of_getElem? (i := 1) rfl)) (fun _ h9 => h9) rfl dX7_givesBy_10 ?_
    refine lv_ishl hx hb dX7_givesBy_13 ?_
    refine lv_icmp_ge (tgt := 69) hx hb dX7_givesBy_14 (by decide) (fun q_1 => ?_) (fun q_1 => ?_)
    · have h := mk_ifp q_1 h
      refine lv_iload hx hb dX7_givesBy_69 (lv_at hl 4 rfl) ?_
      exact hret _ _ _ h dX7_givesBy_71
    · have h := mk_ifn q_1 h
      refine lv_iload hx hb dX7_givesBy_17 (lv_at hl 4 rfl) ?_
      refine lv_aload_n hx hb dX7_givesBy_19 rfl (lv_at hl 0 rfl) ?_
      refine va_get (D := D) (ci := 7) (v := .int (u0 0 11)) (C := RX7) (T := TX7) (N := 33) hx hb hts hiX7 hown hK hP 0 rfl rfl 24 (by decide) (hts (.fieldLink RX7 186 "ClockOnceModel" "possible" "I") (List.mem_of_getElem? (i := 2) rfl)) (fun _ h9 => h9) rfl dX7_givesBy_20 ?_
      refine lv_iload hx hb dX7_givesBy_23 (lv_at hl 5 rfl) ?_
      obtain ⟨r_2, er_2, h⟩ := mk_bd h
      refine pc_s (As := [.int (u0 0 11), .int x5]) (rest := [.int x4]) ⟨hx, hb, hml, hown, hts⟩ (c_X7_has l D cI cZ cO N (u0 0 11) x5 r_2 er_2) (va_cwS 2 hts k_X7_givesBy_X7_has_89 rfl rfl rfl (by decide +kernel) ⟨(Nat.le_of_ble_eq_true rfl), (Nat.le_of_ble_eq_true rfl)⟩) (hP.sub (ws' := []) [] rfl) hK rfl hl.1 rfl (Nat.le_of_ble_eq_true rfl) dX7_givesBy_25 ⟨Nat.zero_le _, Nat.zero_le _⟩ ?_
      refine lv_if_eq (tgt := 59) hx hb dX7_givesBy_28 (by decide) (fun q_3 => ?_) (fun q_3 => ?_)
      · have h := mk_ifp q_3 h
        refine lv_iconst (v := (0 : Int32)) hx hb dX7_givesBy_59 (by decide) ?_
        refine lv_iadd hx hb dX7_givesBy_60 ?_
        refine lv_istore (lv' := [(4, .int (x4 + (0 : Int32))), (0, .ref (a0 0)), (1, .int x1), (2, .int x2), (3, .int x3), (5, .int x5)]) hx hb dX7_givesBy_61 hl (by decide) rfl (fun ls hl => ?_)
        refine lv_iinc (v := (x5 + (1 : Int32))) (lv' := [(5, .int (x5 + (1 : Int32))), (4, .int (x4 + (0 : Int32))), (0, .ref (a0 0)), (1, .int x1), (2, .int x2), (3, .int x3)]) hx hb dX7_givesBy_63 hl (k := 5) rfl rfl (by decide) rfl (fun ls hl => ?_)
        refine lv_goto (tgt := 6) hx hb dX7_givesBy_66 (by decide) ?_
        exact ih6 (x4 + (0 : Int32)) (x5 + (1 : Int32)) h ls (lv_sub hl [2, 3, 4, 5, 1, 0] rfl)
      · have h := mk_ifn q_3 h
        refine lv_aload_n hx hb dX7_givesBy_31 rfl (lv_at hl 0 rfl) ?_
        refine lv_iload hx hb dX7_givesBy_32 (lv_at hl 5 rfl) ?_
        obtain ⟨r_4, er_4, h⟩ := mk_bd h
        refine pc_v (As := [.int x5]) (rest := [.int x4]) ⟨hx, hb, hml, hown, hts⟩ (c_X7_partsOf l D cI cZ cO N a0 u0 sd x5 r_4 er_4) (cwV 1 hts k_X7_givesBy_X7_partsOf_175 rfl rfl rfl (by decide +kernel) ⟨(Nat.le_of_ble_eq_true rfl), (Nat.le_of_ble_eq_true rfl)⟩) (va_recv hK hP (ci := 7) (q0 := 0) rfl rfl) hP hK rfl hl.1 rfl (Nat.le_of_ble_eq_true rfl) dX7_givesBy_34 ⟨Nat.zero_le _, Nat.zero_le _⟩ ?_
        refine lv_aload_n hx hb dX7_givesBy_37 rfl (lv_at hl 0 rfl) ?_
        refine lv_iload_n hx hb dX7_givesBy_38 rfl (lv_at hl 1 rfl) ?_
        refine lv_aload_n hx hb dX7_givesBy_39 rfl (lv_at hl 0 rfl) ?_
        refine lv_iload_n hx hb dX7_givesBy_40 rfl (lv_at hl 1 rfl) ?_
        refine lv_iload hx hb dX7_givesBy_41 (lv_at hl 5 rfl) ?_
        refine lv_iload_n hx hb dX7_givesBy_43 rfl (lv_at hl 1 rfl) ?_
        obtain ⟨r_5, er_5, h⟩ := mk_bd h
        refine pc_s (As := [.int x5, .int x1]) (rest := [.int x1, .ref (a0 0), .int x1, .ref (a0 0), .int r_4, .int x4]) ⟨hx, hb, hml, hown, hts⟩ (c_X7_has l D cI cZ cO N x5 x1 r_5 er_5) (va_cwS 2 hts k_X7_givesBy_X7_has_89 rfl rfl rfl (by decide +kernel) ⟨(Nat.le_of_ble_eq_true rfl), (Nat.le_of_ble_eq_true rfl)⟩) (hP.sub (ws' := []) [] rfl) hK rfl hl.1 rfl (Nat.le_of_ble_eq_true rfl) dX7_givesBy_44 ⟨Nat.zero_le _, Nat.zero_le _⟩ ?_
        obtain ⟨r_6, er_6, h⟩ := mk_bd h
        refine pc_v (As := [.int x1, .int r_5]) (rest := [.int x1, .ref (a0 0), .int r_4, .int x4]) ⟨hx, hb, hml, hown, hts⟩ (c_X7_endBy l D cI cZ cO N a0 u0 sd x1 r_5 r_6 er_6) (cwV 2 hts k_X7_givesBy_X7_endBy_161 rfl rfl rfl (by decide +kernel) ⟨(Nat.le_of_ble_eq_true rfl), (Nat.le_of_ble_eq_true rfl)⟩) (va_recv hK hP (ci := 7) (q0 := 0) rfl rfl) hP hK rfl hl.1 rfl (Nat.le_of_ble_eq_true rfl) dX7_givesBy_47 ⟨Nat.zero_le _, Nat.zero_le _⟩ ?_
        refine lv_iload_n hx hb dX7_givesBy_50 rfl (lv_at hl 2 rfl) ?_
        refine lv_iload_n hx hb dX7_givesBy_51 rfl (lv_at hl 3 rfl) ?_
        obtain ⟨r_7, er_7, h⟩ := mk_bd h
        refine pc_v (As := [.int x1, .int r_6, .int x2, .int x3]) (rest := [.int r_4, .int x4]) ⟨hx, hb, hml, hown, hts⟩ (c_X7_gives l D cI cZ cO N a0 u0 sd x1 r_6 x2 x3 r_7 er_7) (cwV 4 hts k_X7_givesBy_X7_gives_189 rfl rfl rfl (by decide +kernel) ⟨(Nat.le_of_ble_eq_true rfl), (Nat.le_of_ble_eq_true rfl)⟩) (va_recv hK hP (ci := 7) (q0 := 0) rfl rfl) hP hK rfl hl.1 rfl (Nat.le_of_ble_eq_true rfl) dX7_givesBy_52 ⟨Nat.zero_le _, Nat.zero_le _⟩ ?_
        refine lv_imul hx hb dX7_givesBy_55 ?_
        refine lv_goto (tgt := 60) hx hb dX7_givesBy_56 (by decide) ?_
        refine lv_iadd hx hb dX7_givesBy_60 ?_
        refine lv_istore (lv' := [(4, .int (x4 + (r_4 * r_7))), (0, .ref (a0 0)), (1, .int x1), (2, .int x2), (3, .int x3), (5, .int x5)]) hx hb dX7_givesBy_61 hl (by decide) rfl (fun ls hl => ?_)
        refine lv_iinc (v := (x5 + (1 : Int32))) (lv' := [(5, .int (x5 + (1 : Int32))), (4, .int (x4 + (r_4 * r_7))), (0, .ref (a0 0)), (1, .int x1), (2, .int x2), (3, .int x3)]) hx hb dX7_givesBy_63 hl (k := 5) rfl rfl (by decide) rfl (fun ls hl => ?_)
        refine lv_goto (tgt := 6) hx hb dX7_givesBy_66 (by decide) ?_
        exact ih6 (x4 + (r_4 * r_7)) (x5 + (1 : Int32)) h ls (lv_sub hl [2, 3, 4, 5, 1, 0] rfl)
  unfold f_X7_givesBy at h
  refine lv_iconst (v := (0 : Int32)) hx hb dX7_givesBy_0 (by decide) ?_
  refine lv_istore (lv' := [(4, .int (0 : Int32)), (0, .ref (a0 0)), (1, .int p1), (2, .int p2), (3, .int p3)]) hx hb dX7_givesBy_1 hl (by decide) rfl (fun ls hl => ?_)
  refine lv_iconst (v := (0 : Int32)) hx hb dX7_givesBy_3 (by decide) ?_
  refine lv_istore (lv' := [(5, .int (0 : Int32)), (4, .int (0 : Int32)), (0, .ref (a0 0)), (1, .int p1), (2, .int p2), (3, .int p3)]) hx hb dX7_givesBy_4 hl (by decide) rfl (fun ls hl => ?_)
  exact K6 p1 p2 p3 (0 : Int32) (0 : Int32) ls (lv_sub hl [2, 3, 4, 5, 1, 0] rfl) h

abbrev rm_X7_wiseBy : Room := { frames := 3, cells := 0, slots := 0, locals := 69 }
set_option maxRecDepth 20000 in
theorem k_X7_wiseBy_X7_givesBy_193 : GoodIn wsX7_wiseBy (wsV RX7 193 RX7 yX7_givesBy wsX7_givesBy) := goodIn_r _ [1, 2, 3, 4, 5, 6, 7, 8, 9, 4, 10, 11, 12, 13, 14, 15, 16, 17, 18, 19, 20, 21, 22, 23, 24, 25, 26, 27, 28, 29, 30, 31, 32, 33, 34, 35, 36, 37, 38, 39, 40, 41, 42, 43, 44, 45, 46, 47, 48, 49, 50, 51, 52, 53, 54, 55, 56] rfl (by decide +kernel)
set_option maxHeartbeats 4000000 in
set_option maxRecDepth 100000 in
theorem c_X7_wiseBy (l : Launch) (D : va_G) (cI cZ cO : ClassId) (N : Nat) (a0 : Nat → Nat) (u0 : TU) (sd : Int64) (p1 : Int32) (p2 : Int32) (out : Int32) (h : f_X7_wiseBy N u0 sd p1 p2 = some out) : Met l yX7_wiseBy wsX7_wiseBy rm_X7_wiseBy (va_Pc [.ref (a0 0), .int p1, .int p2] (fun U => va_P D vwCl (wX7 cI cZ a0 u0 sd) U.heap ∧ va_K D vwCl (tyA cI cZ cO) U)) (vp_Si (fun r => r = out)) 0 0 (fun _ => False) := by
  refine pm_i (own := RX7) (cc := cX7_wiseBy) (maxL := 5) (by decide) rfl rfl (Nat.le_of_ble_eq_true rfl) ?_
  intro p e s m args below meth c Q H ls hx hb hml hown hts hP hK hl hret
  have hl : lv_has ls 5 [(0, .ref (a0 0)), (1, .int p1), (2, .int p2)] := hl
  have K7 : ∀ (x1 : Int32) (x2 : Int32) (x3 : Int32) (x4 : Int32) (ls : Array Slot), lv_has ls 5 [(0, .ref (a0 0)), (1, .int x1), (2, .int x2), (3, .int x3), (4, .int x4)] → lq2 (g_X7_wiseBy_7 N u0 sd x1 x2) N x3 x4 = some out → W p l e rm_X7_wiseBy s m args below meth c H [] 0 0 Q (F0 m 7 ls []) := by
    intro x1 x2 x3 x4 ls hl h
    refine lq2_W (Wd := fun x3 x4 => ∀ (ls : Array Slot), lv_has ls 5 [(0, .ref (a0 0)), (1, .int x1), (2, .int x2), (3, .int x3), (4, .int x4)] → W p l e rm_X7_wiseBy s m args below meth c H [] 0 0 Q (F0 m 7 ls [])) (fun rec7 ih7 x3 x4 h ls hl => ?_) N x3 x4 h ls hl
    unfold g_X7_wiseBy_7 at h
    refine lv_iload hx hb dX7_wiseBy_7 (lv_at hl 4 rfl) ?_
    refine lv_bipush (v := (10 : Int32)) hx hb dX7_wiseBy_9 (by decide) ?_
    refine lv_icmp_ge (tgt := 45) hx hb dX7_wiseBy_11 (by decide) (fun q_1 => ?_) (fun q_1 => ?_)
    · have h := mk_ifp q_1 h
      refine lv_iload_n hx hb dX7_wiseBy_45 rfl (lv_at hl 3 rfl) ?_
      exact hret _ _ _ h dX7_wiseBy_46
    · have h := mk_ifn q_1 h
      refine lv_aload_n hx hb dX7_wiseBy_14 rfl (lv_at hl 0 rfl) ?_
      refine lv_iload_n hx hb dX7_wiseBy_15 rfl (lv_at hl 1 rfl) ?_
      refine lv_iload_n hx hb dX7_wiseBy_16 rfl (lv_at hl 2 rfl) ?_
      refine lv_iload hx hb dX7_wiseBy_17 (lv_at hl 4 rfl) ?_
      obtain ⟨r_2, er_2, h⟩ := mk_bd h
      refine pc_v (As := [.int x1, .int x2, .int x4]) (rest := []) ⟨hx, hb, hml, hown, hts⟩ (c_X7_givesBy l D cI cZ cO N a0 u0 sd x1 x2 x4 r_2 er_2) (cwV 3 hts k_X7_wiseBy_X7_givesBy_193 rfl rfl rfl (by decide +kernel) ⟨(Nat.le_of_ble_eq_true rfl), (Nat.le_of_ble_eq_true rfl)⟩) (va_recv hK hP (ci := 7) (q0 := 0) rfl rfl) hP hK rfl hl.1 rfl (Nat.le_of_ble_eq_true rfl) dX7_wiseBy_19 ⟨Nat.zero_le _, Nat.zero_le _⟩ ?_
      refine lv_aload_n hx hb dX7_wiseBy_22 rfl (lv_at hl 0 rfl) ?_
      refine lv_iload_n hx hb dX7_wiseBy_23 rfl (lv_at hl 1 rfl) ?_
      refine lv_iload_n hx hb dX7_wiseBy_24 rfl (lv_at hl 2 rfl) ?_
      refine lv_iload_n hx hb dX7_wiseBy_25 rfl (lv_at hl 3 rfl) ?_
      obtain ⟨r_3, er_3, h⟩ := mk_bd h
      refine pc_v (As := [.int x1, .int x2, .int x3]) (rest := [.int r_2]) ⟨hx, hb, hml, hown, hts⟩ (c_X7_givesBy l D cI cZ cO N a0 u0 sd x1 x2 x3 r_3 er_3) (cwV 3 hts k_X7_wiseBy_X7_givesBy_193 rfl rfl rfl (by decide +kernel) ⟨(Nat.le_of_ble_eq_true rfl), (Nat.le_of_ble_eq_true rfl)⟩) (va_recv hK hP (ci := 7) (q0 := 0) rfl rfl) hP hK rfl hl.1 rfl (Nat.le_of_ble_eq_true rfl) dX7_wiseBy_26 ⟨Nat.zero_le _, Nat.zero_le _⟩ ?_
      refine lv_icmp_le (tgt := 37) hx hb dX7_wiseBy_29 (by decide) (fun q_4 => ?_) (fun q_4 => ?_)
      · have h := mk_ifp q_4 h
        refine lv_iload_n hx hb dX7_wiseBy_37 rfl (lv_at hl 3 rfl) ?_
        refine lv_istore_n (lv' := [(3, .int x3), (0, .ref (a0 0)), (1, .int x1), (2, .int x2), (4, .int x4)]) hx hb dX7_wiseBy_38 rfl hl (by decide) rfl (fun ls hl => ?_)
        refine lv_iinc (v := (x4 + (1 : Int32))) (lv' := [(4, .int (x4 + (1 : Int32))), (3, .int x3), (0, .ref (a0 0)), (1, .int x1), (2, .int x2)]) hx hb dX7_wiseBy_39 hl (k := 4) rfl rfl (by decide) rfl (fun ls hl => ?_)
        refine lv_goto (tgt := 7) hx hb dX7_wiseBy_42 (by decide) ?_
        exact ih7 x3 (x4 + (1 : Int32)) h ls (lv_sub hl [2, 3, 4, 1, 0] rfl)
      · have h := mk_ifn q_4 h
        refine lv_iload hx hb dX7_wiseBy_32 (lv_at hl 4 rfl) ?_
        refine lv_goto (tgt := 38) hx hb dX7_wiseBy_34 (by decide) ?_
        refine lv_istore_n (lv' := [(3, .int x4), (0, .ref (a0 0)), (1, .int x1), (2, .int x2), (4, .int x4)]) hx hb dX7_wiseBy_38 rfl hl (by decide) rfl (fun ls hl => ?_)
        refine lv_iinc (v := (x4 + (1 : Int32))) (lv' := [(4, .int (x4 + (1 : Int32))), (3, .int x4), (0, .ref (a0 0)), (1, .int x1), (2, .int x2)]) hx hb dX7_wiseBy_39 hl (k := 4) rfl rfl (by decide) rfl (fun ls hl => ?_)
        refine lv_goto (tgt := 7) hx hb dX7_wiseBy_42 (by decide) ?_
        exact ih7 x4 (x4 + (1 : Int32)) h ls (lv_sub hl [2, 3, 4, 1, 0] rfl)
  unfold f_X7_wiseBy at h
  refine lv_iload_n hx hb dX7_wiseBy_0 rfl (lv_at hl 2 rfl) ?_
  refine lv_istore_n (lv' := [(3, .int p2), (0, .ref (a0 0)), (1, .int p1), (2, .int p2)]) hx hb dX7_wiseBy_1 rfl hl (by decide) rfl (fun ls hl => ?_)
  refine lv_iload_n hx hb dX7_wiseBy_2 rfl (lv_at hl 3 rfl) ?_
  refine lv_iconst (v := (1 : Int32)) hx hb dX7_wiseBy_3 (by decide) ?_
  refine lv_iadd hx hb dX7_wiseBy_4 ?_
  refine lv_istore (lv' := [(4, .int (p2 + (1 : Int32))), (3, .int p2), (0, .ref (a0 0)), (1, .int p1), (2, .int p2)]) hx hb dX7_wiseBy_5 hl (by decide) rfl (fun ls hl => ?_)
  exact K7 p1 p2 p2 (p2 + (1 : Int32)) ls (lv_sub hl [2, 3, 4, 1, 0] rfl) h

abbrev rm_X7_worthBy : Room := { frames := 5, cells := 0, slots := 0, locals := 115 }
set_option maxRecDepth 20000 in
theorem k_X7_worthBy_X7_wiseBy_201 : GoodIn wsX7_worthBy (wsV RX7 201 RX7 yX7_wiseBy wsX7_wiseBy) := goodIn_r _ [40, 41, 42, 7, 43, 44, 45, 46, 7, 47, 3, 2, 24, 25, 26, 48, 49, 50, 51, 31, 27, 28, 29, 30, 52, 53, 54, 55, 56, 57, 58, 59, 60, 61, 62, 63, 64, 65, 66, 67, 68, 69, 70, 71, 72, 73, 74, 75, 76, 77, 78, 79, 80, 81, 82, 83, 84, 85, 86, 87, 88] rfl (by decide +kernel)
set_option maxRecDepth 20000 in
theorem k_X7_worthBy_X7_givesBy_193 : GoodIn wsX7_worthBy (wsV RX7 193 RX7 yX7_givesBy wsX7_givesBy) := goodIn_r _ [44, 45, 46, 7, 47, 3, 2, 24, 25, 7, 26, 48, 49, 50, 51, 31, 27, 28, 29, 30, 52, 53, 54, 55, 56, 57, 58, 59, 60, 61, 62, 63, 64, 65, 66, 67, 68, 69, 70, 71, 72, 73, 74, 75, 76, 77, 78, 79, 80, 81, 82, 83, 84, 85, 86, 87, 88] rfl (by decide +kernel)
set_option maxRecDepth 20000 in
theorem k_X7_worthBy_X7_has_89 : GoodIn wsX7_worthBy (va_wsS RX7 89 yX7_has wsX7_has) := goodIn_r _ [24, 25, 7, 26] rfl (by decide +kernel)
set_option maxRecDepth 20000 in
theorem k_X7_worthBy_X7_layPossible_197 : GoodIn wsX7_worthBy (wsV RX7 197 RX7 yX7_layPossible wsX7_layPossible) := goodIn_r _ [4, 5, 6, 7, 8, 2, 3, 9, 10, 11, 7, 12, 13, 14, 15, 16, 17, 18, 19, 20, 21, 22, 23, 24, 25, 26, 27, 28, 29, 30, 31, 32, 33, 34, 35, 36, 37, 38, 39, 56, 57, 58, 59, 60, 61, 62, 63, 64, 65, 66, 67, 68, 69, 70, 71, 72, 73, 74, 75, 76, 77, 78, 79, 80, 81, 82, 83, 84, 85, 86, 87, 88] rfl (by decide +kernel)
set_option maxHeartbeats 4000000 in
set_option maxRecDepth 100000 in
theorem c_X7_worthBy (l : Launch) (D : va_G) (cI cZ cO : ClassId) (N : Nat) (a0 : Nat → Nat) (u0 : TU) (sd : Int64) (p1 : Int32) (sz : Nat) (out : Int32 × TU) (h : f_X7_worthBy N u0 sd p1 = some out) : Met l yX7_worthBy wsX7_worthBy rm_X7_worthBy (va_Pc [.ref (a0 0), .int p1] (mk_Pe D vwCl (tyA cI cZ cO) (wX7 cI cZ a0 u0 sd) sz)) (va_Qi (fun r u => (r, u) = out) (mk_Be D vwCl (wX7 cI cZ a0 u0 sd) sz (fun q => (wX7 cI cZ a0 q sd))) (va_A (wX7 cI cZ a0 u0 sd) sz)) 0 0 (va_A (wX7 cI cZ a0 u0 sd) sz) := by
  refine em_i (own := RX7) (cc := cX7_worthBy) (maxL := 6) (by decide) rfl rfl (Nat.le_of_ble_eq_true rfl) ?_
  intro p e s m args below meth c Q A H0 H locs ls hx hb hml hown hts hP hK hD hS hA hl hret
  have hl : lv_has ls 6 [(0, .ref (a0 0)), (1, .int p1)] := hl
  have hiX7 : ∀ w ∈ u_ws RX7 TX7 33, w ∈ wsX7_worthBy := mk_seg 56 33 rfl
  have K21 : ∀ (u0 : TU) (x1 : Int32) (x2 : Int32) (x3 : Int32) (x4 : Int32) (H : Heap) (locs : List Loc) (ls : Array Slot), va_P D vwCl (wX7 cI cZ a0 u0 sd) H → va_D A (wX7 cI cZ a0 u0 sd) → va_S A H0 H locs → lv_has ls 6 [(0, .ref (a0 0)), (1, .int x1), (2, .int x2), (3, .int x3), (4, .int x4)] → lq3 (g_X7_worthBy_21 N sd x1 x2) N u0 x3 x4 = some out → W p l e rm_X7_worthBy s m args below meth c H locs 0 0 Q (F0 m 21 ls []) := by
    intro u0 x1 x2 x3 x4 H locs ls hP hD hS hl h
    refine lq3_W (Wd := fun u0 x3 x4 => ∀ (H : Heap) (locs : List Loc) (ls : Array Slot), va_P D vwCl (wX7 cI cZ a0 u0 sd) H → va_D A (wX7 cI cZ a0 u0 sd) → va_S A H0 H locs → lv_has ls 6 [(0, .ref (a0 0)), (1, .int x1), (2, .int x2), (3, .int x3), (4, .int x4)] → W p l e rm_X7_worthBy s m args below meth c H locs 0 0 Q (F0 m 21 ls [])) (fun rec21 ih21 u0 x3 x4 h H locs ls hP hD hS hl => ?_) N u0 x3 x4 h H locs ls hP hD hS hl
    have K104 : ∀ (u0 : TU) (x3 : Int32) (x4 : Int32) (x5 : Int32) (H : Heap) (locs : List Loc) (ls : Array Slot), va_P D vwCl (wX7 cI cZ a0 u0 sd) H → va_D A (wX7 cI cZ a0 u0 sd) → va_S A H0 H locs → lv_has ls 6 [(0, .ref (a0 0)), (1, .int x1), (2, .int x2), (3, .int x3), (4, .int x4), (5, .int x5)] → lq2 (g_X7_worthBy_104 N u0 sd rec21 x1 x2 x4) N x3 x5 = some out → W p l e rm_X7_worthBy s m args below meth c H locs 0 0 Q (F0 m 104 ls []) := by
      intro u0 x3 x4 x5 H locs ls hP hD hS hl h
      refine lq2_W (Wd := fun x3 x5 => ∀ (H : Heap) (locs : List Loc) (ls : Array Slot), va_P D vwCl (wX7 cI cZ a0 u0 sd) H → va_D A (wX7 cI cZ a0 u0 sd) → va_S A H0 H locs → lv_has ls 6 [(0, .ref (a0 0)), (1, .int x1), (2, .int x2), (3, .int x3), (4, .int x4), (5, .int x5)] → W p l e rm_X7_worthBy s m args below meth c H locs 0 0 Q (F0 m 104 ls [])) (fun rec104 ih104 x3 x5 h H locs ls hP hD hS hl => ?_) N x3 x5 h H locs ls hP hD hS hl
      unfold g_X7_worthBy_104 at h
      refine lv_iload hx hb dX7_worthBy_104 (lv_at hl 5 rfl) ?_
      refine lv_aload_n hx hb dX7_worthBy_106 rfl (lv_at hl 0 rfl) ?_
      refine va_get (D := D) (ci := 7) (v := .int (u0 0 0)) (C := RX7) (T := TX7) (N := 33) hx hb hts hiX7 hown hK hP 0 rfl rfl 0 (by decide) (hts (.fieldLink RX7 124 "ClockOnceModel" "things" "I") (List.mem_of_getElem? (i := 3) rfl)) (fun _ h9 => h9) rfl dX7_worthBy_107 ?_
      refine lv_icmp_ge (tgt := 164) hx hb dX7_worthBy_110 (by decide) (fun q_1 => ?_) (fun q_1 => ?_)
      · have h := mk_ifp q_1 h
        refine lv_iinc (v := (x4 + (1 : Int32))) (lv' := [(4, .int (x4 + (1 : Int32))), (0, .ref (a0 0)), (1, .int x1), (2, .int x2), (3, .int x3), (5, .int x5)]) hx hb dX7_worthBy_164 hl (k := 4) rfl rfl (by decide) rfl (fun ls hl => ?_)
        refine lv_goto (tgt := 21) hx hb dX7_worthBy_167 (by decide) ?_
        exact ih21 u0 x3 (x4 + (1 : Int32)) h H locs ls hP hD hS (lv_sub hl [1, 2, 3, 4, 0] rfl)
      · have h := mk_ifn q_1 h
        refine lv_iload_n hx hb dX7_worthBy_113 rfl (lv_at hl 3 rfl) ?_
        refine lv_aload_n hx hb dX7_worthBy_114 rfl (lv_at hl 0 rfl) ?_
        refine va_get (D := D) (ci := 7) (v := .ref (a0 11)) (C := RX7) (T := TX7) (N := 33) hx hb hts hiX7 hown hK hP 0 rfl rfl 16 (by decide) (hts (.fieldLink RX7 40 "ClockOnceModel" "now" "[I") (List.mem_of_getElem? (i := 1) rfl)) (fun _ h9 => h9) rfl dX7_worthBy_115 ?_
        refine lv_iconst (v := (2 : Int32)) hx hb dX7_worthBy_118 (by decide) ?_
        refine lv_iload hx hb dX7_worthBy_119 (lv_at hl 5 rfl) ?_
        refine lv_iadd hx hb dX7_worthBy_121 ?_
        obtain ⟨v_2, ev_2, hiv_2, h⟩ := mk_rdE h
        refine va_iald hx hb hK hP 11 0 rfl rfl hiv_2 dX7_worthBy_122 ?_
        refine mk_topi ev_2 ?_
        refine lv_bipush (v := (-9 : Int32)) hx hb dX7_worthBy_123 (by decide) ?_
        refine lv_icmp_ne (tgt := 155) hx hb dX7_worthBy_125 (by decide) (fun q_3 => ?_) (fun q_3 => ?_)
        · have h := mk_ifn q_3 h
          refine lv_iconst (v := (0 : Int32)) hx hb dX7_worthBy_155 (by decide) ?_
          refine lv_iadd hx hb dX7_worthBy_156 ?_
          refine lv_istore_n (lv' := [(3, .int (x3 + (0 : Int32))), (0, .ref (a0 0)), (1, .int x1), (2, .int x2), (4, .int x4), (5, .int x5)]) hx hb dX7_worthBy_157 rfl hl (by decide) rfl (fun ls hl => ?_)
          refine lv_iinc (v := (x5 + (1 : Int32))) (lv' := [(5, .int (x5 + (1 : Int32))), (3, .int (x3 + (0 : Int32))), (0, .ref (a0 0)), (1, .int x1), (2, .int x2), (4, .int x4)]) hx hb dX7_worthBy_158 hl (k := 5) rfl rfl (by decide) rfl (fun ls hl => ?_)
          refine lv_goto (tgt := 104) hx hb dX7_worthBy_161 (by decide) ?_
          exact ih104 (x3 + (0 : Int32)) (x5 + (1 : Int32)) h H locs ls hP hD hS (lv_sub hl [2, 3, 4, 1, 5, 0] rfl)
        · have h := mk_ifp q_3 h
          refine lv_aload_n hx hb dX7_worthBy_128 rfl (lv_at hl 0 rfl) ?_
          refine lv_iload hx hb dX7_worthBy_129 (lv_at hl 5 rfl) ?_
          refine lv_aload_n hx hb dX7_worthBy_131 rfl (lv_at hl 0 rfl) ?_
          refine va_get (D := D) (ci := 7) (v := .ref (a0 11)) (C := RX7) (T := TX7) (N := 33) hx hb hts hiX7 hown hK hP 0 rfl rfl 16 (by decide) (hts (.fieldLink RX7 40 "ClockOnceModel" "now" "[I") (List.mem_of_getElem? (i := 1) rfl)) (fun _ h9 => h9) rfl dX7_worthBy_132 ?_
          refine lv_iconst (v := (0 : Int32)) hx hb dX7_worthBy_135 (by decide) ?_
          obtain ⟨v_4, ev_4, hiv_4, h⟩ := mk_rdE h
          refine va_iald hx hb hK hP 11 0 rfl rfl hiv_4 dX7_worthBy_136 ?_
          refine mk_topi ev_4 ?_
          refine lv_aload_n hx hb dX7_worthBy_137 rfl (lv_at hl 0 rfl) ?_
          refine lv_iload hx hb dX7_worthBy_138 (lv_at hl 5 rfl) ?_
          refine lv_aload_n hx hb dX7_worthBy_140 rfl (lv_at hl 0 rfl) ?_
          refine va_get (D := D) (ci := 7) (v := .ref (a0 11)) (C := RX7) (T := TX7) (N := 33) hx hb hts hiX7 hown hK hP 0 rfl rfl 16 (by decide) (hts (.fieldLink RX7 40 "ClockOnceModel" "now" "[I") (List.mem_of_getElem? (i := 1) rfl)) (fun _ h9 => h9) rfl dX7_worthBy_141 ?_
          refine lv_iconst (v := (0 : Int32)) hx hb dX7_worthBy_144 (by decide) ?_
          obtain ⟨v_5, ev_5, hiv_5, h⟩ := mk_rdE h
          refine va_iald hx hb hK hP 11 0 rfl rfl hiv_5 dX7_worthBy_145 ?_
          refine mk_topi ev_5 ?_
          obtain ⟨r_6, er_6, h⟩ := mk_bd h
          refine pc_v (As := [.int x5, .int v_5]) (rest := [.int v_4, .int x5, .ref (a0 0), .int x3]) ⟨hx, hb, hml, hown, hts⟩ (c_X7_wiseBy l D cI cZ cO N a0 u0 sd x5 v_5 r_6 er_6) (cwV 2 hts k_X7_worthBy_X7_wiseBy_201 rfl rfl rfl (by decide +kernel) ⟨(Nat.le_of_ble_eq_true rfl), (Nat.le_of_ble_eq_true rfl)⟩) (va_recv hK hP (ci := 7) (q0 := 0) rfl rfl) hP hK rfl hl.1 rfl (Nat.le_of_ble_eq_true rfl) dX7_worthBy_146 ⟨Nat.zero_le _, Nat.zero_le _⟩ ?_
          obtain ⟨r_7, er_7, h⟩ := mk_bd h
          refine pc_v (As := [.int x5, .int v_4, .int r_6]) (rest := [.int x3]) ⟨hx, hb, hml, hown, hts⟩ (c_X7_givesBy l D cI cZ cO N a0 u0 sd x5 v_4 r_6 r_7 er_7) (cwV 3 hts k_X7_worthBy_X7_givesBy_193 rfl rfl rfl (by decide +kernel) ⟨(Nat.le_of_ble_eq_true rfl), (Nat.le_of_ble_eq_true rfl)⟩) (va_recv hK hP (ci := 7) (q0 := 0) rfl rfl) hP hK rfl hl.1 rfl (Nat.le_of_ble_eq_true rfl) dX7_worthBy_149 ⟨Nat.zero_le _, Nat.zero_le _⟩ ?_
          refine lv_goto (tgt := 156) hx hb dX7_worthBy_152 (by decide) ?_
          refine lv_iadd hx hb dX7_worthBy_156 ?_
          refine lv_istore_n (lv' := [(3, .int (x3 + r_7)), (0, .ref (a0 0)), (1, .int x1), (2, .int x2), (4, .int x4), (5, .int x5)]) hx hb dX7_worthBy_157 rfl hl (by decide) rfl (fun ls hl => ?_)
          refine lv_iinc (v := (x5 + (1 : Int32))) (lv' := [(5, .int (x5 + (1 : Int32))), (3, .int (x3 + r_7)), (0, .ref (a0 0)), (1, .int x1), (2, .int x2), (4, .int x4)]) hx hb dX7_worthBy_158 hl (k := 5) rfl rfl (by decide) rfl (fun ls hl => ?_)
          refine lv_goto (tgt := 104) hx hb dX7_worthBy_161 (by decide) ?_
          exact ih104 (x3 + r_7) (x5 + (1 : Int32)) h H locs ls hP hD hS (lv_sub hl [2, 3, 4, 1, 5, 0] rfl)
    have K49 : ∀ (u0 : TU) (x3 : Int32) (x4 : Int32) (x5 : Int32) (H : Heap) (locs : List Loc) (ls : Array Slot), va_P D vwCl (wX7 cI cZ a0 u0 sd) H → va_D A (wX7 cI cZ a0 u0 sd) → va_S A H0 H locs → lv_has ls 6 [(0, .ref (a0 0)), (1, .int x1), (2, .int x2), (3, .int x3), (4, .int x4), (5, .int x5)] → lq2 (g_X7_worthBy_49 N sd rec21 x1 x2 x3 x4) N u0 x5 = some out → W p l e rm_X7_worthBy s m args below meth c H locs 0 0 Q (F0 m 49 ls []) := by
      intro u0 x3 x4 x5 H locs ls hP hD hS hl h
      refine lq2_W (Wd := fun u0 x5 => ∀ (H : Heap) (locs : List Loc) (ls : Array Slot), va_P D vwCl (wX7 cI cZ a0 u0 sd) H → va_D A (wX7 cI cZ a0 u0 sd) → va_S A H0 H locs → lv_has ls 6 [(0, .ref (a0 0)), (1, .int x1), (2, .int x2), (3, .int x3), (4, .int x4), (5, .int x5)] → W p l e rm_X7_worthBy s m args below meth c H locs 0 0 Q (F0 m 49 ls [])) (fun rec49 ih49 u0 x5 h H locs ls hP hD hS hl => ?_) N u0 x5 h H locs ls hP hD hS hl
      have K90 : ∀ (u0 : TU) (x5 : Int32) (t1 : Int32) (H : Heap) (locs : List Loc) (ls : Array Slot), va_P D vwCl (wX7 cI cZ a0 u0 sd) H → va_D A (wX7 cI cZ a0 u0 sd) → va_S A H0 H locs → lv_has ls 6 [(0, .ref (a0 0)), (1, .int x1), (2, .int x2), (3, .int x3), (4, .int x4), (5, .int x5)] → g_X7_worthBy_90 N u0 sd rec21 rec49 x1 x2 x3 x4 x5 t1 = some out → W p l e rm_X7_worthBy s m args below meth c H locs 0 0 Q (F0 m 90 ls [.int t1, .ref (a0 0)]) := by
        intro u0 x5 t1 H locs ls hP hD hS hl h
        unfold g_X7_worthBy_90 at h
        refine lv_iconst (v := (0 : Int32)) hx hb dX7_worthBy_90 (by decide) ?_
        refine lv_ior hx hb dX7_worthBy_91 ?_
        obtain ⟨w_8, ew_8, h⟩ := mk_nmE h
        refine va_put (D := D) (ci := 7) (v := .int (t1 ||| (0 : Int32))) (ty := .int) (C := RX7) (T := TX7) (N := 33) hx hb hts hiX7 tyX7 tyX7_ok nmX7 hown hK hP hD hS 0 rfl rfl 24 (by decide) (hts (.fieldLink RX7 186 "ClockOnceModel" "possible" "I") (List.mem_of_getElem? (i := 2) rfl)) (fun _ h9 => h9) rfl (by decide +kernel) rfl rfl (Nat.le_of_ble_eq_true rfl) dX7_worthBy_92 (fun H locs hP hD hS => ?_)
        have hP : va_P D vwCl (wX7 cI cZ a0 w_8 sd) H := by rw [ew_8]; exact hP
        have hD : va_D A (wX7 cI cZ a0 w_8 sd) := by rw [ew_8]; exact hD
        refine lv_iinc (v := (x5 + (1 : Int32))) (lv' := [(5, .int (x5 + (1 : Int32))), (0, .ref (a0 0)), (1, .int x1), (2, .int x2), (3, .int x3), (4, .int x4)]) hx hb dX7_worthBy_95 hl (k := 5) rfl rfl (by decide) rfl (fun ls hl => ?_)
        refine lv_goto (tgt := 49) hx hb dX7_worthBy_98 (by decide) ?_
        exact ih49 w_8 (x5 + (1 : Int32)) h H locs ls hP hD hS (lv_sub hl [1, 2, 3, 4, 5, 0] rfl)
      unfold g_X7_worthBy_49 at h
      refine lv_iload hx hb dX7_worthBy_49 (lv_at hl 5 rfl) ?_
      refine lv_iconst (v := (1 : Int32)) hx hb dX7_worthBy_51 (by decide) ?_
      refine lv_aload_n hx hb dX7_worthBy_52 rfl (lv_at hl 0 rfl) ?_
      refine va_get (D := D) (ci := 7) (v := .int (u0 0 0)) (C := RX7) (T := TX7) (N := 33) hx hb hts hiX7 hown hK hP 0 rfl rfl 0 (by decide) (hts (.fieldLink RX7 124 "ClockOnceModel" "things" "I") (List.mem_of_getElem? (i := 3) rfl)) (fun _ h9 => h9) rfl dX7_worthBy_53 ?_
      refine lv_ishl hx hb dX7_worthBy_56 ?_
      refine lv_icmp_ge (tgt := 101) hx hb dX7_worthBy_57 (by decide) (fun q_9 => ?_) (fun q_9 => ?_)
      · have h := mk_ifp q_9 h
        refine lv_iconst (v := (0 : Int32)) hx hb dX7_worthBy_101 (by decide) ?_
        refine lv_istore (lv' := [(5, .int (0 : Int32)), (0, .ref (a0 0)), (1, .int x1), (2, .int x2), (3, .int x3), (4, .int x4)]) hx hb dX7_worthBy_102 hl (by decide) rfl (fun ls hl => ?_)
        exact K104 u0 x3 x4 (0 : Int32) H locs ls hP hD hS (lv_sub hl [1, 2, 3, 4, 5, 0] rfl) h
      · have h := mk_ifn q_9 h
        refine lv_aload_n hx hb dX7_worthBy_60 rfl (lv_at hl 0 rfl) ?_
        refine lv_dup hx hb dX7_worthBy_61 rfl ?_
        refine va_get (D := D) (ci := 7) (v := .int (u0 0 11)) (C := RX7) (T := TX7) (N := 33) hx hb hts hiX7 hown hK hP 0 rfl rfl 24 (by decide) (hts (.fieldLink RX7 186 "ClockOnceModel" "possible" "I") (List.mem_of_getElem? (i := 2) rfl)) (fun _ h9 => h9) rfl dX7_worthBy_62 ?_
        refine lv_iload_n hx hb dX7_worthBy_65 rfl (lv_at hl 2 rfl) ?_
        refine lv_iload hx hb dX7_worthBy_66 (lv_at hl 5 rfl) ?_
        obtain ⟨r_10, er_10, h⟩ := mk_bd h
        refine pc_s (As := [.int x2, .int x5]) (rest := [.int (u0 0 11), .ref (a0 0)]) ⟨hx, hb, hml, hown, hts⟩ (c_X7_has l D cI cZ cO N x2 x5 r_10 er_10) (va_cwS 2 hts k_X7_worthBy_X7_has_89 rfl rfl rfl (by decide +kernel) ⟨(Nat.le_of_ble_eq_true rfl), (Nat.le_of_ble_eq_true rfl)⟩) (hP.sub (ws' := []) [] rfl) hK rfl hl.1 rfl (Nat.le_of_ble_eq_true rfl) dX7_worthBy_68 ⟨Nat.zero_le _, Nat.zero_le _⟩ ?_
        refine lv_if_eq (tgt := 90) hx hb dX7_worthBy_71 (by decide) (fun q_11 => ?_) (fun q_11 => ?_)
        · have h := mk_ifp q_11 h
          exact K90 u0 x5 (u0 0 11) H locs ls hP hD hS (lv_sub hl [0, 1, 2, 3, 4, 5] rfl) h
        · have h := mk_ifn q_11 h
          refine lv_iload hx hb dX7_worthBy_74 (lv_at hl 5 rfl) ?_
          refine lv_iload_n hx hb dX7_worthBy_76 rfl (lv_at hl 1 rfl) ?_
          refine lv_iand hx hb dX7_worthBy_77 ?_
          refine lv_iload hx hb dX7_worthBy_78 (lv_at hl 4 rfl) ?_
          refine lv_icmp_ne (tgt := 90) hx hb dX7_worthBy_80 (by decide) (fun q_12 => ?_) (fun q_12 => ?_)
          · have h := mk_ifn q_12 h
            exact K90 u0 x5 (u0 0 11) H locs ls hP hD hS (lv_sub hl [0, 1, 2, 3, 4, 5] rfl) h
          · have h := mk_ifp q_12 h
            refine lv_iconst (v := (1 : Int32)) hx hb dX7_worthBy_83 (by decide) ?_
            refine lv_iload hx hb dX7_worthBy_84 (lv_at hl 5 rfl) ?_
            refine lv_ishl hx hb dX7_worthBy_86 ?_
            refine lv_goto (tgt := 91) hx hb dX7_worthBy_87 (by decide) ?_
            refine lv_ior hx hb dX7_worthBy_91 ?_
            obtain ⟨w_13, ew_13, h⟩ := mk_nmE h
            refine va_put (D := D) (ci := 7) (v := .int ((u0 0 11) ||| ((1 : Int32) <<< (x5 &&& 31)))) (ty := .int) (C := RX7) (T := TX7) (N := 33) hx hb hts hiX7 tyX7 tyX7_ok nmX7 hown hK hP hD hS 0 rfl rfl 24 (by decide) (hts (.fieldLink RX7 186 "ClockOnceModel" "possible" "I") (List.mem_of_getElem? (i := 2) rfl)) (fun _ h9 => h9) rfl (by decide +kernel) rfl rfl (Nat.le_of_ble_eq_true rfl) dX7_worthBy_92 (fun H locs hP hD hS => ?_)
            have hP : va_P D vwCl (wX7 cI cZ a0 w_13 sd) H := by rw [ew_13]; exact hP
            have hD : va_D A (wX7 cI cZ a0 w_13 sd) := by rw [ew_13]; exact hD
            refine lv_iinc (v := (x5 + (1 : Int32))) (lv' := [(5, .int (x5 + (1 : Int32))), (0, .ref (a0 0)), (1, .int x1), (2, .int x2), (3, .int x3), (4, .int x4)]) hx hb dX7_worthBy_95 hl (k := 5) rfl rfl (by decide) rfl (fun ls hl => ?_)
            refine lv_goto (tgt := 49) hx hb dX7_worthBy_98 (by decide) ?_
            exact ih49 w_13 (x5 + (1 : Int32)) h H locs ls hP hD hS (lv_sub hl [1, 2, 3, 4, 5, 0] rfl)
    unfold g_X7_worthBy_21 at h
    refine lv_iload hx hb dX7_worthBy_21 (lv_at hl 4 rfl) ?_
    refine lv_iconst (v := (1 : Int32)) hx hb dX7_worthBy_23 (by decide) ?_
    refine lv_aload_n hx hb dX7_worthBy_24 rfl (lv_at hl 0 rfl) ?_
    refine va_get (D := D) (ci := 7) (v := .int (u0 0 0)) (C := RX7) (T := TX7) (N := 33) hx hb hts hiX7 hown hK hP 0 rfl rfl 0 (by decide) (hts (.fieldLink RX7 124 "ClockOnceModel" "things" "I") (List.mem_of_getElem? (i := 3) rfl)) (fun _ h9 => h9) rfl dX7_worthBy_25 ?_
    refine lv_ishl hx hb dX7_worthBy_28 ?_
    refine lv_icmp_ge (tgt := 170) hx hb dX7_worthBy_29 (by decide) (fun q_14 => ?_) (fun q_14 => ?_)
    · have h := mk_ifp q_14 h
      refine lv_iload_n hx hb dX7_worthBy_170 rfl (lv_at hl 3 rfl) ?_
      exact hret _ _ _ _ _ _ h hP hD hS dX7_worthBy_171
    · have h := mk_ifn q_14 h
      refine lv_iload hx hb dX7_worthBy_32 (lv_at hl 4 rfl) ?_
      refine lv_iload_n hx hb dX7_worthBy_34 rfl (lv_at hl 1 rfl) ?_
      refine lv_iconst (v := (-1 : Int32)) hx hb dX7_worthBy_35 (by decide) ?_
      refine lv_ixor hx hb dX7_worthBy_36 ?_
      refine lv_iand hx hb dX7_worthBy_37 ?_
      refine lv_if_ne (tgt := 164) hx hb dX7_worthBy_38 (by decide) (fun q_15 => ?_) (fun q_15 => ?_)
      · have h := mk_ifn q_15 h
        refine lv_iinc (v := (x4 + (1 : Int32))) (lv' := [(4, .int (x4 + (1 : Int32))), (0, .ref (a0 0)), (1, .int x1), (2, .int x2), (3, .int x3)]) hx hb dX7_worthBy_164 hl (k := 4) rfl rfl (by decide) rfl (fun ls hl => ?_)
        refine lv_goto (tgt := 21) hx hb dX7_worthBy_167 (by decide) ?_
        exact ih21 u0 x3 (x4 + (1 : Int32)) h H locs ls hP hD hS (lv_sub hl [1, 2, 3, 4, 0] rfl)
      · have h := mk_ifp q_15 h
        refine lv_aload_n hx hb dX7_worthBy_41 rfl (lv_at hl 0 rfl) ?_
        refine lv_iconst (v := (0 : Int32)) hx hb dX7_worthBy_42 (by decide) ?_
        obtain ⟨w_16, ew_16, h⟩ := mk_nmE h
        refine va_put (D := D) (ci := 7) (v := .int (0 : Int32)) (ty := .int) (C := RX7) (T := TX7) (N := 33) hx hb hts hiX7 tyX7 tyX7_ok nmX7 hown hK hP hD hS 0 rfl rfl 24 (by decide) (hts (.fieldLink RX7 186 "ClockOnceModel" "possible" "I") (List.mem_of_getElem? (i := 2) rfl)) (fun _ h9 => h9) rfl (by decide +kernel) rfl rfl (Nat.le_of_ble_eq_true rfl) dX7_worthBy_43 (fun H locs hP hD hS => ?_)
        have hP : va_P D vwCl (wX7 cI cZ a0 w_16 sd) H := by rw [ew_16]; exact hP
        have hD : va_D A (wX7 cI cZ a0 w_16 sd) := by rw [ew_16]; exact hD
        refine lv_iconst (v := (0 : Int32)) hx hb dX7_worthBy_46 (by decide) ?_
        refine lv_istore (lv' := [(5, .int (0 : Int32)), (0, .ref (a0 0)), (1, .int x1), (2, .int x2), (3, .int x3), (4, .int x4)]) hx hb dX7_worthBy_47 hl (by decide) rfl (fun ls hl => ?_)
        exact K49 w_16 x3 x4 (0 : Int32) H locs ls hP hD hS (lv_sub hl [1, 2, 3, 4, 5, 0] rfl) h
  unfold f_X7_worthBy at h
  refine lv_aload_n hx hb dX7_worthBy_0 rfl (lv_at hl 0 rfl) ?_
  refine lv_aload_n hx hb dX7_worthBy_1 rfl (lv_at hl 0 rfl) ?_
  refine va_get (D := D) (ci := 7) (v := .ref (a0 11)) (C := RX7) (T := TX7) (N := 33) hx hb hts hiX7 hown hK hP 0 rfl rfl 16 (by decide) (hts (.fieldLink RX7 40 "ClockOnceModel" "now" "[I") (List.mem_of_getElem? (i := 1) rfl)) (fun _ h9 => h9) rfl dX7_worthBy_2 ?_
  refine lv_iconst (v := (0 : Int32)) hx hb dX7_worthBy_5 (by decide) ?_
  obtain ⟨v_17, ev_17, hiv_17, h⟩ := mk_rdE h
  refine va_iald hx hb hK hP 11 0 rfl rfl hiv_17 dX7_worthBy_6 ?_
  refine mk_topi ev_17 ?_
  refine lv_iconst (v := (0 : Int32)) hx hb dX7_worthBy_7 (by decide) ?_
  obtain ⟨r_18, er_18, h⟩ := mk_bd h
  refine es_vv (As := [.int v_17, .int (0 : Int32)]) (rest := []) (w' := (wX7 cI cZ a0 r_18 sd)) ⟨hx, hb, hml, hown, hts⟩ (c_X7_layPossible l D cI cZ cO N a0 u0 sd v_17 (0 : Int32) H.size r_18 er_18) (cwV 2 hts k_X7_worthBy_X7_layPossible_197 rfl rfl rfl (by decide +kernel) ⟨(Nat.le_of_ble_eq_true rfl), (Nat.le_of_ble_eq_true rfl)⟩) (va_recv hK hP (ci := 7) (q0 := 0) rfl rfl) hK hP hD hS hA rfl rfl hl.1 rfl (Nat.le_of_ble_eq_true rfl) dX7_worthBy_8 ⟨Nat.zero_le _, Nat.zero_le _⟩ (fun H locs hP hD hS => ?_)
  refine lv_aload_n hx hb dX7_worthBy_11 rfl (lv_at hl 0 rfl) ?_
  refine va_get (D := D) (ci := 7) (v := .int (r_18 0 11)) (C := RX7) (T := TX7) (N := 33) hx hb hts hiX7 hown hK hP 0 rfl rfl 24 (by decide) (hts (.fieldLink RX7 186 "ClockOnceModel" "possible" "I") (List.mem_of_getElem? (i := 2) rfl)) (fun _ h9 => h9) rfl dX7_worthBy_12 ?_
  refine lv_istore_n (lv' := [(2, .int (r_18 0 11)), (0, .ref (a0 0)), (1, .int p1)]) hx hb dX7_worthBy_15 rfl hl (by decide) rfl (fun ls hl => ?_)
  refine lv_iconst (v := (0 : Int32)) hx hb dX7_worthBy_16 (by decide) ?_
  refine lv_istore_n (lv' := [(3, .int (0 : Int32)), (2, .int (r_18 0 11)), (0, .ref (a0 0)), (1, .int p1)]) hx hb dX7_worthBy_17 rfl hl (by decide) rfl (fun ls hl => ?_)
  refine lv_iconst (v := (0 : Int32)) hx hb dX7_worthBy_18 (by decide) ?_
  refine lv_istore (lv' := [(4, .int (0 : Int32)), (3, .int (0 : Int32)), (2, .int (r_18 0 11)), (0, .ref (a0 0)), (1, .int p1)]) hx hb dX7_worthBy_19 hl (by decide) rfl (fun ls hl => ?_)
  exact K21 r_18 p1 (r_18 0 11) (0 : Int32) (0 : Int32) H locs ls hP hD hS (lv_sub hl [3, 4, 2, 1, 0] rfl) h

abbrev rm_X7_layWorths : Room := { frames := 6, cells := 0, slots := 0, locals := 140 }
set_option maxRecDepth 20000 in
theorem k_X7_layWorths_X7_worthBy_204 : GoodIn wsX7_layWorths (wsV RX7 204 RX7 yX7_worthBy wsX7_worthBy) := goodIn_r _ [3, 4, 5, 6, 7, 8, 9, 1, 10, 11, 12, 6, 13, 14, 15, 16, 17, 18, 19, 20, 21, 22, 23, 24, 25, 26, 27, 28, 29, 30, 31, 32, 33, 34, 35, 36, 37, 38, 39, 40, 41, 42, 43, 44, 45, 46, 47, 48, 49, 50, 51, 52, 53, 54, 55, 56, 57, 58, 59, 60, 61, 62, 63, 64, 65, 66, 67, 68, 69, 70, 71, 72, 73, 74, 75, 76, 77, 78, 79, 80, 81, 82, 83, 84, 85, 86, 87, 88, 89, 90, 91, 92, 93] rfl (by decide +kernel)
set_option maxHeartbeats 4000000 in
set_option maxRecDepth 100000 in
theorem c_X7_layWorths (l : Launch) (D : va_G) (cI cZ cO : ClassId) (N : Nat) (a0 : Nat → Nat) (u0 : TU) (sd : Int64) (sz : Nat) (out : TU) (h : f_X7_layWorths N u0 sd = some out) : Met l yX7_layWorths wsX7_layWorths rm_X7_layWorths (va_Pc [.ref (a0 0)] (mk_Pe D vwCl (tyA cI cZ cO) (wX7 cI cZ a0 u0 sd) sz)) (va_Qv (fun u => u = out) (mk_Be D vwCl (wX7 cI cZ a0 u0 sd) sz (fun q => (wX7 cI cZ a0 q sd))) (va_A (wX7 cI cZ a0 u0 sd) sz)) 0 0 (va_A (wX7 cI cZ a0 u0 sd) sz) := by
  refine em_v (own := RX7) (cc := cX7_layWorths) (maxL := 2) (by decide) rfl rfl (Nat.le_of_ble_eq_true rfl) ?_
  intro p e s m args below meth c Q A H0 H locs ls hx hb hml hown hts hP hK hD hS hA hl hret
  have hl : lv_has ls 2 [(0, .ref (a0 0))] := hl
  have hiX7 : ∀ w ∈ u_ws RX7 TX7 33, w ∈ wsX7_layWorths := mk_seg 61 33 rfl
  have K2 : ∀ (u0 : TU) (x1 : Int32) (H : Heap) (locs : List Loc) (ls : Array Slot), va_P D vwCl (wX7 cI cZ a0 u0 sd) H → va_D A (wX7 cI cZ a0 u0 sd) → va_S A H0 H locs → lv_has ls 2 [(0, .ref (a0 0)), (1, .int x1)] → lq2 (g_X7_layWorths_2 N sd) N u0 x1 = some out → W p l e rm_X7_layWorths s m args below meth c H locs 0 0 Q (F0 m 2 ls []) := by
    intro u0 x1 H locs ls hP hD hS hl h
    refine lq2_W (Wd := fun u0 x1 => ∀ (H : Heap) (locs : List Loc) (ls : Array Slot), va_P D vwCl (wX7 cI cZ a0 u0 sd) H → va_D A (wX7 cI cZ a0 u0 sd) → va_S A H0 H locs → lv_has ls 2 [(0, .ref (a0 0)), (1, .int x1)] → W p l e rm_X7_layWorths s m args below meth c H locs 0 0 Q (F0 m 2 ls [])) (fun rec2 ih2 u0 x1 h H locs ls hP hD hS hl => ?_) N u0 x1 h H locs ls hP hD hS hl
    unfold g_X7_layWorths_2 at h
    refine lv_iload_n hx hb dX7_layWorths_2 rfl (lv_at hl 1 rfl) ?_
    refine lv_iconst (v := (1 : Int32)) hx hb dX7_layWorths_3 (by decide) ?_
    refine lv_aload_n hx hb dX7_layWorths_4 rfl (lv_at hl 0 rfl) ?_
    refine va_get (D := D) (ci := 7) (v := .int (u0 0 0)) (C := RX7) (T := TX7) (N := 33) hx hb hts hiX7 hown hK hP 0 rfl rfl 0 (by decide) (hts (.fieldLink RX7 124 "ClockOnceModel" "things" "I") (List.mem_of_getElem? (i := 1) rfl)) (fun _ h9 => h9) rfl dX7_layWorths_5 ?_
    refine lv_ishl hx hb dX7_layWorths_8 ?_
    refine lv_icmp_ge (tgt := 29) hx hb dX7_layWorths_9 (by decide) (fun q_1 => ?_) (fun q_1 => ?_)
    · have h := mk_ifp q_1 h
      exact hret _ _ _ _ _ h hP hD hS dX7_layWorths_29
    · have h := mk_ifn q_1 h
      refine lv_aload_n hx hb dX7_layWorths_12 rfl (lv_at hl 0 rfl) ?_
      refine va_get (D := D) (ci := 7) (v := .ref (a0 14)) (C := RX7) (T := TX7) (N := 33) hx hb hts hiX7 hown hK hP 0 rfl rfl 25 (by decide) (hts (.fieldLink RX7 49 "ClockOnceModel" "worths" "[I") (List.mem_of_getElem? (i := 2) rfl)) (fun _ h9 => h9) rfl dX7_layWorths_13 ?_
      refine lv_iload_n hx hb dX7_layWorths_16 rfl (lv_at hl 1 rfl) ?_
      refine lv_aload_n hx hb dX7_layWorths_17 rfl (lv_at hl 0 rfl) ?_
      refine lv_iload_n hx hb dX7_layWorths_18 rfl (lv_at hl 1 rfl) ?_
      obtain ⟨r_2, er_2, h⟩ := mk_bd h
      refine es_vi (As := [.int x1]) (rest := [.int x1, .ref (a0 14)]) (w' := (wX7 cI cZ a0 r_2.2 sd)) ⟨hx, hb, hml, hown, hts⟩ (c_X7_worthBy l D cI cZ cO N a0 u0 sd x1 H.size r_2 er_2) (cwV 1 hts k_X7_layWorths_X7_worthBy_204 rfl rfl rfl (by decide +kernel) ⟨(Nat.le_of_ble_eq_true rfl), (Nat.le_of_ble_eq_true rfl)⟩) (va_recv hK hP (ci := 7) (q0 := 0) rfl rfl) hK hP hD hS hA rfl rfl hl.1 rfl (Nat.le_of_ble_eq_true rfl) dX7_layWorths_19 ⟨Nat.zero_le _, Nat.zero_le _⟩ (fun H locs hP hD hS => ?_)
      obtain ⟨hx_3, h⟩ := mk_ixE h
      obtain ⟨w_4, ew_4, h⟩ := mk_nmE h
      refine va_iast hx hb hK hP hD hS 14 0 rfl rfl hx_3 dX7_layWorths_22 (fun H locs hP hD hS => ?_)
      have hP : va_P D vwCl (wX7 cI cZ a0 w_4 sd) H := by rw [ew_4]; exact hP
      have hD : va_D A (wX7 cI cZ a0 w_4 sd) := by rw [ew_4]; exact hD
      refine lv_iinc (v := (x1 + (1 : Int32))) (lv' := [(1, .int (x1 + (1 : Int32))), (0, .ref (a0 0))]) hx hb dX7_layWorths_23 hl (k := 1) rfl rfl (by decide) rfl (fun ls hl => ?_)
      refine lv_goto (tgt := 2) hx hb dX7_layWorths_26 (by decide) ?_
      exact ih2 w_4 (x1 + (1 : Int32)) h H locs ls hP hD hS (lv_sub hl [1, 0] rfl)
  unfold f_X7_layWorths at h
  refine lv_iconst (v := (0 : Int32)) hx hb dX7_layWorths_0 (by decide) ?_
  refine lv_istore_n (lv' := [(1, .int (0 : Int32)), (0, .ref (a0 0))]) hx hb dX7_layWorths_1 rfl hl (by decide) rfl (fun ls hl => ?_)
  exact K2 u0 (0 : Int32) H locs ls hP hD hS (lv_sub hl [1, 0] rfl) h

abbrev rm_X7_fresh : Room := { frames := 0, cells := 0, slots := 0, locals := 0 }
set_option maxHeartbeats 4000000 in
set_option maxRecDepth 100000 in
theorem c_X7_fresh (l : Launch) (D : va_G) (cI cZ cO : ClassId) (N : Nat) (a0 : Nat → Nat) (u0 : TU) (sd : Int64) (out : Int32) (h : f_X7_fresh N u0 sd = some out) : Met l yX7_fresh wsX7_fresh rm_X7_fresh (va_Pc [.ref (a0 0)] (fun U => va_P D vwCl (wX7 cI cZ a0 u0 sd) U.heap ∧ va_K D vwCl (tyA cI cZ cO) U)) (vp_Si (fun r => r = out)) 0 0 (fun _ => False) := by
  refine pm_i (own := RX7) (cc := cX7_fresh) (maxL := 3) (by decide) rfl rfl (Nat.le_of_ble_eq_true rfl) ?_
  intro p e s m args below meth c Q H ls hx hb hml hown hts hP hK hl hret
  have hl : lv_has ls 3 [(0, .ref (a0 0))] := hl
  have hiX7 : ∀ w ∈ u_ws RX7 TX7 33, w ∈ wsX7_fresh := mk_seg 3 33 rfl
  have K4 : ∀ (x1 : Int32) (x2 : Int32) (ls : Array Slot), lv_has ls 3 [(0, .ref (a0 0)), (1, .int x1), (2, .int x2)] → lq2 (g_X7_fresh_4 N u0 sd) N x1 x2 = some out → W p l e rm_X7_fresh s m args below meth c H [] 0 0 Q (F0 m 4 ls []) := by
    intro x1 x2 ls hl h
    refine lq2_W (Wd := fun x1 x2 => ∀ (ls : Array Slot), lv_has ls 3 [(0, .ref (a0 0)), (1, .int x1), (2, .int x2)] → W p l e rm_X7_fresh s m args below meth c H [] 0 0 Q (F0 m 4 ls [])) (fun rec4 ih4 x1 x2 h ls hl => ?_) N x1 x2 h ls hl
    unfold g_X7_fresh_4 at h
    refine lv_iload_n hx hb dX7_fresh_4 rfl (lv_at hl 2 rfl) ?_
    refine lv_aload_n hx hb dX7_fresh_5 rfl (lv_at hl 0 rfl) ?_
    refine va_get (D := D) (ci := 7) (v := .int (u0 0 1)) (C := RX7) (T := TX7) (N := 33) hx hb hts hiX7 hown hK hP 0 rfl rfl 1 (by decide) (hts (.fieldLink RX7 127 "ClockOnceModel" "askers" "I") (List.mem_of_getElem? (i := 1) rfl)) (fun _ h9 => h9) rfl dX7_fresh_6 ?_
    refine lv_icmp_ge (tgt := 42) hx hb dX7_fresh_9 (by decide) (fun q_1 => ?_) (fun q_1 => ?_)
    · have h := mk_ifp q_1 h
      refine lv_iload_n hx hb dX7_fresh_42 rfl (lv_at hl 1 rfl) ?_
      exact hret _ _ _ h dX7_fresh_43
    · have h := mk_ifn q_1 h
      refine lv_iload_n hx hb dX7_fresh_12 rfl (lv_at hl 1 rfl) ?_
      refine lv_aload_n hx hb dX7_fresh_13 rfl (lv_at hl 0 rfl) ?_
      refine va_get (D := D) (ci := 7) (v := .ref (a0 11)) (C := RX7) (T := TX7) (N := 33) hx hb hts hiX7 hown hK hP 0 rfl rfl 16 (by decide) (hts (.fieldLink RX7 40 "ClockOnceModel" "now" "[I") (List.mem_of_getElem? (i := 2) rfl)) (fun _ h9 => h9) rfl dX7_fresh_14 ?_
      refine lv_bipush (v := (6 : Int32)) hx hb dX7_fresh_17 (by decide) ?_
      refine lv_iload_n hx hb dX7_fresh_19 rfl (lv_at hl 2 rfl) ?_
      refine lv_iadd hx hb dX7_fresh_20 ?_
      obtain ⟨v_2, ev_2, hiv_2, h⟩ := mk_rdE h
      refine va_iald hx hb hK hP 11 0 rfl rfl hiv_2 dX7_fresh_21 ?_
      refine mk_topi ev_2 ?_
      refine lv_bipush (v := (-9 : Int32)) hx hb dX7_fresh_22 (by decide) ?_
      refine lv_icmp_ne (tgt := 33) hx hb dX7_fresh_24 (by decide) (fun q_3 => ?_) (fun q_3 => ?_)
      · have h := mk_ifn q_3 h
        refine lv_iconst (v := (0 : Int32)) hx hb dX7_fresh_33 (by decide) ?_
        refine lv_ior hx hb dX7_fresh_34 ?_
        refine lv_istore_n (lv' := [(1, .int (x1 ||| (0 : Int32))), (0, .ref (a0 0)), (2, .int x2)]) hx hb dX7_fresh_35 rfl hl (by decide) rfl (fun ls hl => ?_)
        refine lv_iinc (v := (x2 + (1 : Int32))) (lv' := [(2, .int (x2 + (1 : Int32))), (1, .int (x1 ||| (0 : Int32))), (0, .ref (a0 0))]) hx hb dX7_fresh_36 hl (k := 2) rfl rfl (by decide) rfl (fun ls hl => ?_)
        refine lv_goto (tgt := 4) hx hb dX7_fresh_39 (by decide) ?_
        exact ih4 (x1 ||| (0 : Int32)) (x2 + (1 : Int32)) h ls (lv_sub hl [2, 1, 0] rfl)
      · have h := mk_ifp q_3 h
        refine lv_iconst (v := (1 : Int32)) hx hb dX7_fresh_27 (by decide) ?_
        refine lv_iload_n hx hb dX7_fresh_28 rfl (lv_at hl 2 rfl) ?_
        refine lv_ishl hx hb dX7_fresh_29 ?_
        refine lv_goto (tgt := 34) hx hb dX7_fresh_30 (by decide) ?_
        refine lv_ior hx hb dX7_fresh_34 ?_
        refine lv_istore_n (lv' := [(1, .int (x1 ||| ((1 : Int32) <<< (x2 &&& 31)))), (0, .ref (a0 0)), (2, .int x2)]) hx hb dX7_fresh_35 rfl hl (by decide) rfl (fun ls hl => ?_)
        refine lv_iinc (v := (x2 + (1 : Int32))) (lv' := [(2, .int (x2 + (1 : Int32))), (1, .int (x1 ||| ((1 : Int32) <<< (x2 &&& 31)))), (0, .ref (a0 0))]) hx hb dX7_fresh_36 hl (k := 2) rfl rfl (by decide) rfl (fun ls hl => ?_)
        refine lv_goto (tgt := 4) hx hb dX7_fresh_39 (by decide) ?_
        exact ih4 (x1 ||| ((1 : Int32) <<< (x2 &&& 31))) (x2 + (1 : Int32)) h ls (lv_sub hl [2, 1, 0] rfl)
  unfold f_X7_fresh at h
  refine lv_iconst (v := (0 : Int32)) hx hb dX7_fresh_0 (by decide) ?_
  refine lv_istore_n (lv' := [(1, .int (0 : Int32)), (0, .ref (a0 0))]) hx hb dX7_fresh_1 rfl hl (by decide) rfl (fun ls hl => ?_)
  refine lv_iconst (v := (0 : Int32)) hx hb dX7_fresh_2 (by decide) ?_
  refine lv_istore_n (lv' := [(2, .int (0 : Int32)), (1, .int (0 : Int32)), (0, .ref (a0 0))]) hx hb dX7_fresh_3 rfl hl (by decide) rfl (fun ls hl => ?_)
  exact K4 (0 : Int32) (0 : Int32) ls (lv_sub hl [2, 1, 0] rfl) h

abbrev rm_X7_by : Room := { frames := 7, cells := 0, slots := 0, locals := 161 }
set_option maxRecDepth 20000 in
theorem k_X7_by_X7_fresh_219 : GoodIn wsX7_by (wsV RX7 219 RX7 yX7_fresh wsX7_fresh) := goodIn_r _ [77, 78, 79, 5, 80, 7, 1, 101, 102, 103, 104, 105, 106, 107, 108, 109, 110, 111, 112, 113, 114, 115, 116, 117, 118, 119, 120, 121, 122, 123, 124, 125, 126, 127, 128, 129, 130, 131, 132, 133] rfl (by decide +kernel)
set_option maxRecDepth 20000 in
theorem k_X7_by_X7_setBy_210 : GoodIn wsX7_by (wsV RX7 210 RX7 yX7_setBy wsX7_setBy) := goodIn_r _ [85, 86, 87, 5, 88, 7, 89, 90, 91, 92, 5, 93, 31, 32, 33, 94, 95, 96, 97, 15, 8, 9, 10, 101, 102, 103, 104, 105, 106, 107, 108, 109, 110, 111, 112, 113, 114, 115, 116, 117, 118, 119, 120, 121, 122, 123, 124, 125, 126, 127, 128, 129, 130, 131, 132, 133] rfl (by decide +kernel)
set_option maxRecDepth 20000 in
theorem k_X7_by_X7_asks_207 : GoodIn wsX7_by (va_wsS RX7 207 yX7_asks wsX7_asks) := goodIn_r _ [91, 92, 5, 93] rfl (by decide +kernel)
set_option maxRecDepth 20000 in
theorem k_X7_by_X7_isAsker_146 : GoodIn wsX7_by (wsV RX7 146 RX7 yX7_isAsker wsX7_isAsker) := goodIn_r _ [2, 3, 4, 5, 6, 7, 8, 9, 5, 10, 101, 102, 103, 104, 105, 106, 107, 108, 109, 110, 111, 112, 113, 114, 115, 116, 117, 118, 119, 120, 121, 122, 123, 124, 125, 126, 127, 128, 129, 130, 131, 132, 133] rfl (by decide +kernel)
set_option maxRecDepth 20000 in
theorem k_X7_by_X7_partsBy_180 : GoodIn wsX7_by (wsV RX7 180 RX7 yX7_partsBy wsX7_partsBy) := goodIn_r _ [11, 12, 13, 5, 14, 15, 16, 17, 18, 5, 19, 20, 21, 22, 23, 24, 25, 26, 27, 28, 29, 30, 31, 32, 33, 34, 35, 36, 37, 38, 39, 40, 41, 42, 43, 44, 45, 46, 47, 48, 49, 50, 101, 102, 103, 104, 105, 106, 107, 108, 109, 110, 111, 112, 113, 114, 115, 116, 117, 118, 119, 120, 121, 122, 123, 124, 125, 126, 127, 128, 129, 130, 131, 132, 133] rfl (by decide +kernel)
set_option maxRecDepth 20000 in
theorem k_X7_by_X7_layWorths_216 : GoodIn wsX7_by (wsV RX7 216 RX7 yX7_layWorths wsX7_layWorths) := goodIn_r _ [51, 52, 53, 5, 54, 15, 55, 56, 57, 58, 5, 59, 1, 60, 61, 62, 63, 64, 16, 17, 18, 19, 20, 21, 22, 23, 24, 25, 26, 27, 28, 29, 30, 31, 32, 33, 34, 35, 36, 37, 38, 39, 40, 41, 42, 43, 44, 45, 46, 65, 66, 67, 68, 69, 70, 71, 72, 47, 48, 49, 50, 73, 74, 75, 76, 101, 102, 103, 104, 105, 106, 107, 108, 109, 110, 111, 112, 113, 114, 115, 116, 117, 118, 119, 120, 121, 122, 123, 124, 125, 126, 127, 128, 129, 130, 131, 132, 133] rfl (by decide +kernel)
set_option maxRecDepth 20000 in
theorem k_X7_by_X7_bestBy_222 : GoodIn wsX7_by (wsV RX7 222 RX7 yX7_bestBy wsX7_bestBy) := goodIn_r _ [81, 82, 83, 5, 84, 55, 85, 86, 87, 5, 88, 7, 89, 90, 91, 92, 93, 31, 32, 33, 94, 95, 96, 97, 15, 8, 9, 10, 98, 99, 100, 101, 102, 103, 104, 105, 106, 107, 108, 109, 110, 111, 112, 113, 114, 115, 116, 117, 118, 119, 120, 121, 122, 123, 124, 125, 126, 127, 128, 129, 130, 131, 132, 133] rfl (by decide +kernel)
set_option maxHeartbeats 4000000 in
set_option maxRecDepth 100000 in
theorem c_X7_by (l : Launch) (D : va_G) (cI cZ cO : ClassId) (N : Nat) (a0 : Nat → Nat) (u0 : TU) (sd : Int64) (p1 : Int32) (sz : Nat) (out : Int32 × TU) (h : f_X7_by N u0 sd p1 = some out) : Met l yX7_by wsX7_by rm_X7_by (va_Pc [.ref (a0 0), .int p1] (mk_Pe D vwCl (tyA cI cZ cO) (wX7 cI cZ a0 u0 sd) sz)) (va_Qi (fun r u => (r, u) = out) (mk_Be D vwCl (wX7 cI cZ a0 u0 sd) sz (fun q => (wX7 cI cZ a0 q sd))) (va_A (wX7 cI cZ a0 u0 sd) sz)) 0 0 (va_A (wX7 cI cZ a0 u0 sd) sz) := by
  refine em_i (own := RX7) (cc := cX7_by) (maxL := 4) (by decide) rfl rfl (Nat.le_of_ble_eq_true rfl) ?_
  intro p e s m args below meth c Q A H0 H locs ls hx hb hml hown hts hP hK hD hS hA hl hret
  have hl : lv_has ls 4 [(0, .ref (a0 0)), (1, .int p1)] := hl
  have hiX7 : ∀ w ∈ u_ws RX7 TX7 33, w ∈ wsX7_by := mk_seg 101 33 rfl
  have K42 : ∀ (u0 : TU) (x1 : Int32) (x2 : Int32) (x3 : Int32) (H : Heap) (locs : List Loc) (ls : Array Slot), va_P D vwCl (wX7 cI cZ a0 u0 sd) H → va_D A (wX7 cI cZ a0 u0 sd) → va_S A H0 H locs → lv_has ls 4 [(0, .ref (a0 0)), (1, .int x1), (2, .int x2), (3, .int x3)] → lq1 (g_X7_by_42 N u0 sd x1 x2) N x3 = some out → W p l e rm_X7_by s m args below meth c H locs 0 0 Q (F0 m 42 ls []) := by
    intro u0 x1 x2 x3 H locs ls hP hD hS hl h
    refine lq1_W (Wd := fun x3 => ∀ (H : Heap) (locs : List Loc) (ls : Array Slot), va_P D vwCl (wX7 cI cZ a0 u0 sd) H → va_D A (wX7 cI cZ a0 u0 sd) → va_S A H0 H locs → lv_has ls 4 [(0, .ref (a0 0)), (1, .int x1), (2, .int x2), (3, .int x3)] → W p l e rm_X7_by s m args below meth c H locs 0 0 Q (F0 m 42 ls [])) (fun rec42 ih42 x3 h H locs ls hP hD hS hl => ?_) N x3 h H locs ls hP hD hS hl
    unfold g_X7_by_42 at h
    refine lv_aload_n hx hb dX7_by_42 rfl (lv_at hl 0 rfl) ?_
    refine lv_iload_n hx hb dX7_by_43 rfl (lv_at hl 3 rfl) ?_
    refine lv_aload_n hx hb dX7_by_44 rfl (lv_at hl 0 rfl) ?_
    obtain ⟨r_1, er_1, h⟩ := mk_bd h
    refine pc_v (As := []) (rest := [.int x3, .ref (a0 0)]) ⟨hx, hb, hml, hown, hts⟩ (c_X7_fresh l D cI cZ cO N a0 u0 sd r_1 er_1) (cwV 0 hts k_X7_by_X7_fresh_219 rfl rfl rfl (by decide +kernel) ⟨(Nat.le_of_ble_eq_true rfl), (Nat.le_of_ble_eq_true rfl)⟩) (va_recv hK hP (ci := 7) (q0 := 0) rfl rfl) hP hK rfl hl.1 rfl (Nat.le_of_ble_eq_true rfl) dX7_by_45 ⟨Nat.zero_le _, Nat.zero_le _⟩ ?_
    obtain ⟨r_2, er_2, h⟩ := mk_bd h
    refine pc_v (As := [.int x3, .int r_1]) (rest := []) ⟨hx, hb, hml, hown, hts⟩ (c_X7_setBy l D cI cZ cO N a0 u0 sd x3 r_1 r_2 er_2) (cwV 2 hts k_X7_by_X7_setBy_210 rfl rfl rfl (by decide +kernel) ⟨(Nat.le_of_ble_eq_true rfl), (Nat.le_of_ble_eq_true rfl)⟩) (va_recv hK hP (ci := 7) (q0 := 0) rfl rfl) hP hK rfl hl.1 rfl (Nat.le_of_ble_eq_true rfl) dX7_by_48 ⟨Nat.zero_le _, Nat.zero_le _⟩ ?_
    refine lv_iload_n hx hb dX7_by_51 rfl (lv_at hl 2 rfl) ?_
    refine lv_icmp_eq (tgt := 61) hx hb dX7_by_52 (by decide) (fun q_3 => ?_) (fun q_3 => ?_)
    · have h := mk_ifp q_3 h
      refine lv_iload_n hx hb dX7_by_61 rfl (lv_at hl 3 rfl) ?_
      refine lv_iload_n hx hb dX7_by_62 rfl (lv_at hl 1 rfl) ?_
      obtain ⟨r_4, er_4, h⟩ := mk_bd h
      refine pc_s (As := [.int x3, .int x1]) (rest := []) ⟨hx, hb, hml, hown, hts⟩ (c_X7_asks l D cI cZ cO N x3 x1 r_4 er_4) (va_cwS 2 hts k_X7_by_X7_asks_207 rfl rfl rfl (by decide +kernel) ⟨(Nat.le_of_ble_eq_true rfl), (Nat.le_of_ble_eq_true rfl)⟩) (hP.sub (ws' := []) [] rfl) hK rfl hl.1 rfl (Nat.le_of_ble_eq_true rfl) dX7_by_63 ⟨Nat.zero_le _, Nat.zero_le _⟩ ?_
      refine lv_iconst (v := (4 : Int32)) hx hb dX7_by_66 (by decide) ?_
      refine lv_icmp_ne (tgt := 75) hx hb dX7_by_67 (by decide) (fun q_5 => ?_) (fun q_5 => ?_)
      · have h := mk_ifn q_5 h
        refine lv_iload_n hx hb dX7_by_75 rfl (lv_at hl 3 rfl) ?_
        refine lv_iload_n hx hb dX7_by_76 rfl (lv_at hl 1 rfl) ?_
        obtain ⟨r_6, er_6, h⟩ := mk_bd h
        refine pc_s (As := [.int x3, .int x1]) (rest := []) ⟨hx, hb, hml, hown, hts⟩ (c_X7_asks l D cI cZ cO N x3 x1 r_6 er_6) (va_cwS 2 hts k_X7_by_X7_asks_207 rfl rfl rfl (by decide +kernel) ⟨(Nat.le_of_ble_eq_true rfl), (Nat.le_of_ble_eq_true rfl)⟩) (hP.sub (ws' := []) [] rfl) hK rfl hl.1 rfl (Nat.le_of_ble_eq_true rfl) dX7_by_77 ⟨Nat.zero_le _, Nat.zero_le _⟩ ?_
        exact hret _ _ _ _ _ _ h hP hD hS dX7_by_80
      · have h := mk_ifp q_5 h
        refine lv_bipush (v := (-9 : Int32)) hx hb dX7_by_70 (by decide) ?_
        refine lv_goto (tgt := 80) hx hb dX7_by_72 (by decide) ?_
        exact hret _ _ _ _ _ _ h hP hD hS dX7_by_80
    · have h := mk_ifn q_3 h
      refine lv_iinc (v := (x3 + (1 : Int32))) (lv' := [(3, .int (x3 + (1 : Int32))), (0, .ref (a0 0)), (1, .int x1), (2, .int x2)]) hx hb dX7_by_55 hl (k := 3) rfl rfl (by decide) rfl (fun ls hl => ?_)
      refine lv_goto (tgt := 42) hx hb dX7_by_58 (by decide) ?_
      exact ih42 (x3 + (1 : Int32)) h H locs ls hP hD hS (lv_sub hl [1, 2, 3, 0] rfl)
  unfold f_X7_by at h
  refine lv_aload_n hx hb dX7_by_0 rfl (lv_at hl 0 rfl) ?_
  refine lv_iload_n hx hb dX7_by_1 rfl (lv_at hl 1 rfl) ?_
  obtain ⟨r_7, er_7, h⟩ := mk_bd h
  refine pc_v (As := [.int p1]) (rest := []) ⟨hx, hb, hml, hown, hts⟩ (c_X7_isAsker l D cI cZ cO N a0 u0 sd p1 r_7 er_7) (cwV 1 hts k_X7_by_X7_isAsker_146 rfl rfl rfl (by decide +kernel) ⟨(Nat.le_of_ble_eq_true rfl), (Nat.le_of_ble_eq_true rfl)⟩) (va_recv hK hP (ci := 7) (q0 := 0) rfl rfl) hP hK rfl hl.1 rfl (Nat.le_of_ble_eq_true rfl) dX7_by_2 ⟨Nat.zero_le _, Nat.zero_le _⟩ ?_
  refine lv_if_ne (tgt := 10) hx hb dX7_by_5 (by decide) (fun q_8 => ?_) (fun q_8 => ?_)
  · have h := mk_ifn q_8 h
    refine lv_aload_n hx hb dX7_by_10 rfl (lv_at hl 0 rfl) ?_
    refine lv_aload_n hx hb dX7_by_11 rfl (lv_at hl 0 rfl) ?_
    refine va_get (D := D) (ci := 7) (v := .ref (a0 11)) (C := RX7) (T := TX7) (N := 33) hx hb hts hiX7 hown hK hP 0 rfl rfl 16 (by decide) (hts (.fieldLink RX7 40 "ClockOnceModel" "now" "[I") (List.mem_of_getElem? (i := 1) rfl)) (fun _ h9 => h9) rfl dX7_by_12 ?_
    refine lv_iconst (v := (0 : Int32)) hx hb dX7_by_15 (by decide) ?_
    obtain ⟨v_9, ev_9, hiv_9, h⟩ := mk_rdE h
    refine va_iald hx hb hK hP 11 0 rfl rfl hiv_9 dX7_by_16 ?_
    refine mk_topi ev_9 ?_
    refine lv_iconst (v := (0 : Int32)) hx hb dX7_by_17 (by decide) ?_
    obtain ⟨r_10, er_10, h⟩ := mk_bd h
    refine pc_v (As := [.int v_9, .int (0 : Int32)]) (rest := []) ⟨hx, hb, hml, hown, hts⟩ (c_X7_partsBy l D cI cZ cO N a0 u0 sd v_9 (0 : Int32) r_10 er_10) (cwV 2 hts k_X7_by_X7_partsBy_180 rfl rfl rfl (by decide +kernel) ⟨(Nat.le_of_ble_eq_true rfl), (Nat.le_of_ble_eq_true rfl)⟩) (va_recv hK hP (ci := 7) (q0 := 0) rfl rfl) hP hK rfl hl.1 rfl (Nat.le_of_ble_eq_true rfl) dX7_by_18 ⟨Nat.zero_le _, Nat.zero_le _⟩ ?_
    refine lv_if_ne (tgt := 27) hx hb dX7_by_21 (by decide) (fun q_11 => ?_) (fun q_11 => ?_)
    · have h := mk_ifn q_11 h
      refine lv_aload_n hx hb dX7_by_27 rfl (lv_at hl 0 rfl) ?_
      obtain ⟨r_12, er_12, h⟩ := mk_bd h
      refine es_vv (As := []) (rest := []) (w' := (wX7 cI cZ a0 r_12 sd)) ⟨hx, hb, hml, hown, hts⟩ (c_X7_layWorths l D cI cZ cO N a0 u0 sd H.size r_12 er_12) (cwV 0 hts k_X7_by_X7_layWorths_216 rfl rfl rfl (by decide +kernel) ⟨(Nat.le_of_ble_eq_true rfl), (Nat.le_of_ble_eq_true rfl)⟩) (va_recv hK hP (ci := 7) (q0 := 0) rfl rfl) hK hP hD hS hA rfl rfl hl.1 rfl (Nat.le_of_ble_eq_true rfl) dX7_by_28 ⟨Nat.zero_le _, Nat.zero_le _⟩ (fun H locs hP hD hS => ?_)
      refine lv_aload_n hx hb dX7_by_31 rfl (lv_at hl 0 rfl) ?_
      refine lv_aload_n hx hb dX7_by_32 rfl (lv_at hl 0 rfl) ?_
      obtain ⟨r_13, er_13, h⟩ := mk_bd h
      refine pc_v (As := []) (rest := [.ref (a0 0)]) ⟨hx, hb, hml, hown, hts⟩ (c_X7_fresh l D cI cZ cO N a0 r_12 sd r_13 er_13) (cwV 0 hts k_X7_by_X7_fresh_219 rfl rfl rfl (by decide +kernel) ⟨(Nat.le_of_ble_eq_true rfl), (Nat.le_of_ble_eq_true rfl)⟩) (va_recv hK hP (ci := 7) (q0 := 0) rfl rfl) hP hK rfl hl.1 rfl (Nat.le_of_ble_eq_true rfl) dX7_by_33 ⟨Nat.zero_le _, Nat.zero_le _⟩ ?_
      obtain ⟨r_14, er_14, h⟩ := mk_bd h
      refine pc_v (As := [.int r_13]) (rest := []) ⟨hx, hb, hml, hown, hts⟩ (c_X7_bestBy l D cI cZ cO N a0 r_12 sd r_13 r_14 er_14) (cwV 1 hts k_X7_by_X7_bestBy_222 rfl rfl rfl (by decide +kernel) ⟨(Nat.le_of_ble_eq_true rfl), (Nat.le_of_ble_eq_true rfl)⟩) (va_recv hK hP (ci := 7) (q0 := 0) rfl rfl) hP hK rfl hl.1 rfl (Nat.le_of_ble_eq_true rfl) dX7_by_36 ⟨Nat.zero_le _, Nat.zero_le _⟩ ?_
      refine lv_istore_n (lv' := [(2, .int r_14), (0, .ref (a0 0)), (1, .int p1)]) hx hb dX7_by_39 rfl hl (by decide) rfl (fun ls hl => ?_)
      refine lv_iconst (v := (0 : Int32)) hx hb dX7_by_40 (by decide) ?_
      refine lv_istore_n (lv' := [(3, .int (0 : Int32)), (2, .int r_14), (0, .ref (a0 0)), (1, .int p1)]) hx hb dX7_by_41 rfl hl (by decide) rfl (fun ls hl => ?_)
      exact K42 r_12 p1 r_14 (0 : Int32) H locs ls hP hD hS (lv_sub hl [2, 3, 1, 0] rfl) h
    · have h := mk_ifp q_11 h
      refine lv_bipush (v := (-3 : Int32)) hx hb dX7_by_24 (by decide) ?_
      exact hret _ _ _ _ _ _ h hP hD hS dX7_by_26
  · have h := mk_ifp q_8 h
    refine lv_iconst (v := (-1 : Int32)) hx hb dX7_by_8 (by decide) ?_
    exact hret _ _ _ _ _ _ h hP hD hS dX7_by_9

abbrev rm_X7_layStart : Room := { frames := 2, cells := 0, slots := 0, locals := 44 }
set_option maxRecDepth 20000 in
theorem k_X7_layStart_X7_isWorld_158 : GoodIn wsX7_layStart (wsV RX7 158 RX7 yX7_isWorld wsX7_isWorld) := goodIn_r _ [3, 4, 5, 6, 7, 8, 9, 10, 11, 12, 6, 13, 19, 20, 21, 22, 23, 24, 25, 26, 27, 28, 29, 30, 31, 32, 33, 34, 35, 36, 37, 38, 39, 40, 41, 42, 43, 44, 45, 46, 47, 48, 49, 50, 51] rfl (by decide +kernel)
set_option maxRecDepth 20000 in
theorem k_X7_layStart_X7_truth_168 : GoodIn wsX7_layStart (wsV RX7 168 RX7 yX7_truth wsX7_truth) := goodIn_r _ [14, 15, 16, 6, 17, 2, 18, 19, 20, 21, 22, 23, 24, 25, 26, 27, 28, 29, 30, 31, 32, 33, 34, 35, 36, 37, 38, 39, 40, 41, 42, 43, 44, 45, 46, 47, 48, 49, 50, 51] rfl (by decide +kernel)
set_option maxHeartbeats 4000000 in
set_option maxRecDepth 100000 in
theorem c_X7_layStart (l : Launch) (D : va_G) (cI cZ cO : ClassId) (N : Nat) (a0 : Nat → Nat) (u0 : TU) (sd : Int64) (p1 : Int32) (sz : Nat) (out : TU) (h : f_X7_layStart N u0 sd p1 = some out) : Met l yX7_layStart wsX7_layStart rm_X7_layStart (va_Pc [.ref (a0 0), .int p1] (mk_Pe D vwCl (tyA cI cZ cO) (wX7 cI cZ a0 u0 sd) sz)) (va_Qv (fun u => u = out) (mk_Be D vwCl (wX7 cI cZ a0 u0 sd) sz (fun q => (wX7 cI cZ a0 q sd))) (va_A (wX7 cI cZ a0 u0 sd) sz)) 0 0 (va_A (wX7 cI cZ a0 u0 sd) sz) := by
  refine em_v (own := RX7) (cc := cX7_layStart) (maxL := 3) (by decide) rfl rfl (Nat.le_of_ble_eq_true rfl) ?_
  intro p e s m args below meth c Q A H0 H locs ls hx hb hml hown hts hP hK hD hS hA hl hret
  have hl : lv_has ls 3 [(0, .ref (a0 0)), (1, .int p1)] := hl
  have hiX7 : ∀ w ∈ u_ws RX7 TX7 33, w ∈ wsX7_layStart := mk_seg 19 33 rfl
  have K7 : ∀ (u0 : TU) (x1 : Int32) (x2 : Int32) (H : Heap) (locs : List Loc) (ls : Array Slot), va_P D vwCl (wX7 cI cZ a0 u0 sd) H → va_D A (wX7 cI cZ a0 u0 sd) → va_S A H0 H locs → lv_has ls 3 [(0, .ref (a0 0)), (1, .int x1), (2, .int x2)] → lq2 (g_X7_layStart_7 N sd x1) N u0 x2 = some out → W p l e rm_X7_layStart s m args below meth c H locs 0 0 Q (F0 m 7 ls []) := by
    intro u0 x1 x2 H locs ls hP hD hS hl h
    refine lq2_W (Wd := fun u0 x2 => ∀ (H : Heap) (locs : List Loc) (ls : Array Slot), va_P D vwCl (wX7 cI cZ a0 u0 sd) H → va_D A (wX7 cI cZ a0 u0 sd) → va_S A H0 H locs → lv_has ls 3 [(0, .ref (a0 0)), (1, .int x1), (2, .int x2)] → W p l e rm_X7_layStart s m args below meth c H locs 0 0 Q (F0 m 7 ls [])) (fun rec7 ih7 u0 x2 h H locs ls hP hD hS hl => ?_) N u0 x2 h H locs ls hP hD hS hl
    have K47 : ∀ (u0 : TU) (x2 : Int32) (t1 : Int32) (H : Heap) (locs : List Loc) (ls : Array Slot), va_P D vwCl (wX7 cI cZ a0 u0 sd) H → va_D A (wX7 cI cZ a0 u0 sd) → va_S A H0 H locs → lv_has ls 3 [(0, .ref (a0 0)), (1, .int x1), (2, .int x2)] → g_X7_layStart_47 N u0 sd rec7 x1 x2 t1 = some out → W p l e rm_X7_layStart s m args below meth c H locs 0 0 Q (F0 m 47 ls [.int t1, .ref (a0 0)]) := by
      intro u0 x2 t1 H locs ls hP hD hS hl h
      unfold g_X7_layStart_47 at h
      refine lv_iconst (v := (0 : Int32)) hx hb dX7_layStart_47 (by decide) ?_
      refine lv_ior hx hb dX7_layStart_48 ?_
      obtain ⟨w_1, ew_1, h⟩ := mk_nmE h
      refine va_put (D := D) (ci := 7) (v := .int (t1 ||| (0 : Int32))) (ty := .int) (C := RX7) (T := TX7) (N := 33) hx hb hts hiX7 tyX7 tyX7_ok nmX7 hown hK hP hD hS 0 rfl rfl 24 (by decide) (hts (.fieldLink RX7 186 "ClockOnceModel" "possible" "I") (List.mem_of_getElem? (i := 1) rfl)) (fun _ h9 => h9) rfl (by decide +kernel) rfl rfl (Nat.le_of_ble_eq_true rfl) dX7_layStart_49 (fun H locs hP hD hS => ?_)
      have hP : va_P D vwCl (wX7 cI cZ a0 w_1 sd) H := by rw [ew_1]; exact hP
      have hD : va_D A (wX7 cI cZ a0 w_1 sd) := by rw [ew_1]; exact hD
      refine lv_iinc (v := (x2 + (1 : Int32))) (lv' := [(2, .int (x2 + (1 : Int32))), (0, .ref (a0 0)), (1, .int x1)]) hx hb dX7_layStart_52 hl (k := 2) rfl rfl (by decide) rfl (fun ls hl => ?_)
      refine lv_goto (tgt := 7) hx hb dX7_layStart_55 (by decide) ?_
      exact ih7 w_1 (x2 + (1 : Int32)) h H locs ls hP hD hS (lv_sub hl [1, 2, 0] rfl)
    unfold g_X7_layStart_7 at h
    refine lv_iload_n hx hb dX7_layStart_7 rfl (lv_at hl 2 rfl) ?_
    refine lv_iconst (v := (1 : Int32)) hx hb dX7_layStart_8 (by decide) ?_
    refine lv_aload_n hx hb dX7_layStart_9 rfl (lv_at hl 0 rfl) ?_
    refine va_get (D := D) (ci := 7) (v := .int (u0 0 0)) (C := RX7) (T := TX7) (N := 33) hx hb hts hiX7 hown hK hP 0 rfl rfl 0 (by decide) (hts (.fieldLink RX7 124 "ClockOnceModel" "things" "I") (List.mem_of_getElem? (i := 2) rfl)) (fun _ h9 => h9) rfl dX7_layStart_10 ?_
    refine lv_ishl hx hb dX7_layStart_13 ?_
    refine lv_icmp_ge (tgt := 58) hx hb dX7_layStart_14 (by decide) (fun q_2 => ?_) (fun q_2 => ?_)
    · have h := mk_ifp q_2 h
      exact hret _ _ _ _ _ h hP hD hS dX7_layStart_58
    · have h := mk_ifn q_2 h
      refine lv_aload_n hx hb dX7_layStart_17 rfl (lv_at hl 0 rfl) ?_
      refine lv_dup hx hb dX7_layStart_18 rfl ?_
      refine va_get (D := D) (ci := 7) (v := .int (u0 0 11)) (C := RX7) (T := TX7) (N := 33) hx hb hts hiX7 hown hK hP 0 rfl rfl 24 (by decide) (hts (.fieldLink RX7 186 "ClockOnceModel" "possible" "I") (List.mem_of_getElem? (i := 1) rfl)) (fun _ h9 => h9) rfl dX7_layStart_19 ?_
      refine lv_aload_n hx hb dX7_layStart_22 rfl (lv_at hl 0 rfl) ?_
      refine lv_iload_n hx hb dX7_layStart_23 rfl (lv_at hl 2 rfl) ?_
      obtain ⟨r_3, er_3, h⟩ := mk_bd h
      refine pc_v (As := [.int x2]) (rest := [.int (u0 0 11), .ref (a0 0)]) ⟨hx, hb, hml, hown, hts⟩ (c_X7_isWorld l D cI cZ cO N a0 u0 sd x2 r_3 er_3) (cwV 1 hts k_X7_layStart_X7_isWorld_158 rfl rfl rfl (by decide +kernel) ⟨(Nat.le_of_ble_eq_true rfl), (Nat.le_of_ble_eq_true rfl)⟩) (va_recv hK hP (ci := 7) (q0 := 0) rfl rfl) hP hK rfl hl.1 rfl (Nat.le_of_ble_eq_true rfl) dX7_layStart_24 ⟨Nat.zero_le _, Nat.zero_le _⟩ ?_
      refine lv_if_eq (tgt := 47) hx hb dX7_layStart_27 (by decide) (fun q_4 => ?_) (fun q_4 => ?_)
      · have h := mk_ifp q_4 h
        exact K47 u0 x2 (u0 0 11) H locs ls hP hD hS (lv_sub hl [0, 1, 2] rfl) h
      · have h := mk_ifn q_4 h
        refine lv_iload_n hx hb dX7_layStart_30 rfl (lv_at hl 2 rfl) ?_
        refine lv_aload_n hx hb dX7_layStart_31 rfl (lv_at hl 0 rfl) ?_
        obtain ⟨r_5, er_5, h⟩ := mk_bd h
        refine pc_v (As := []) (rest := [.int x2, .int (u0 0 11), .ref (a0 0)]) ⟨hx, hb, hml, hown, hts⟩ (c_X7_truth l D cI cZ cO N a0 u0 sd r_5 er_5) (cwV 0 hts k_X7_layStart_X7_truth_168 rfl rfl rfl (by decide +kernel) ⟨(Nat.le_of_ble_eq_true rfl), (Nat.le_of_ble_eq_true rfl)⟩) (va_recv hK hP (ci := 7) (q0 := 0) rfl rfl) hP hK rfl hl.1 rfl (Nat.le_of_ble_eq_true rfl) dX7_layStart_32 ⟨Nat.zero_le _, Nat.zero_le _⟩ ?_
        refine lv_ixor hx hb dX7_layStart_35 ?_
        refine lv_iload_n hx hb dX7_layStart_36 rfl (lv_at hl 1 rfl) ?_
        refine lv_iand hx hb dX7_layStart_37 ?_
        refine lv_if_ne (tgt := 47) hx hb dX7_layStart_38 (by decide) (fun q_6 => ?_) (fun q_6 => ?_)
        · have h := mk_ifn q_6 h
          exact K47 u0 x2 (u0 0 11) H locs ls hP hD hS (lv_sub hl [0, 1, 2] rfl) h
        · have h := mk_ifp q_6 h
          refine lv_iconst (v := (1 : Int32)) hx hb dX7_layStart_41 (by decide) ?_
          refine lv_iload_n hx hb dX7_layStart_42 rfl (lv_at hl 2 rfl) ?_
          refine lv_ishl hx hb dX7_layStart_43 ?_
          refine lv_goto (tgt := 48) hx hb dX7_layStart_44 (by decide) ?_
          refine lv_ior hx hb dX7_layStart_48 ?_
          obtain ⟨w_7, ew_7, h⟩ := mk_nmE h
          refine va_put (D := D) (ci := 7) (v := .int ((u0 0 11) ||| ((1 : Int32) <<< (x2 &&& 31)))) (ty := .int) (C := RX7) (T := TX7) (N := 33) hx hb hts hiX7 tyX7 tyX7_ok nmX7 hown hK hP hD hS 0 rfl rfl 24 (by decide) (hts (.fieldLink RX7 186 "ClockOnceModel" "possible" "I") (List.mem_of_getElem? (i := 1) rfl)) (fun _ h9 => h9) rfl (by decide +kernel) rfl rfl (Nat.le_of_ble_eq_true rfl) dX7_layStart_49 (fun H locs hP hD hS => ?_)
          have hP : va_P D vwCl (wX7 cI cZ a0 w_7 sd) H := by rw [ew_7]; exact hP
          have hD : va_D A (wX7 cI cZ a0 w_7 sd) := by rw [ew_7]; exact hD
          refine lv_iinc (v := (x2 + (1 : Int32))) (lv' := [(2, .int (x2 + (1 : Int32))), (0, .ref (a0 0)), (1, .int x1)]) hx hb dX7_layStart_52 hl (k := 2) rfl rfl (by decide) rfl (fun ls hl => ?_)
          refine lv_goto (tgt := 7) hx hb dX7_layStart_55 (by decide) ?_
          exact ih7 w_7 (x2 + (1 : Int32)) h H locs ls hP hD hS (lv_sub hl [1, 2, 0] rfl)
  unfold f_X7_layStart at h
  refine lv_aload_n hx hb dX7_layStart_0 rfl (lv_at hl 0 rfl) ?_
  refine lv_iconst (v := (0 : Int32)) hx hb dX7_layStart_1 (by decide) ?_
  obtain ⟨w_8, ew_8, h⟩ := mk_nmE h
  refine va_put (D := D) (ci := 7) (v := .int (0 : Int32)) (ty := .int) (C := RX7) (T := TX7) (N := 33) hx hb hts hiX7 tyX7 tyX7_ok nmX7 hown hK hP hD hS 0 rfl rfl 24 (by decide) (hts (.fieldLink RX7 186 "ClockOnceModel" "possible" "I") (List.mem_of_getElem? (i := 1) rfl)) (fun _ h9 => h9) rfl (by decide +kernel) rfl rfl (Nat.le_of_ble_eq_true rfl) dX7_layStart_2 (fun H locs hP hD hS => ?_)
  have hP : va_P D vwCl (wX7 cI cZ a0 w_8 sd) H := by rw [ew_8]; exact hP
  have hD : va_D A (wX7 cI cZ a0 w_8 sd) := by rw [ew_8]; exact hD
  refine lv_iconst (v := (0 : Int32)) hx hb dX7_layStart_5 (by decide) ?_
  refine lv_istore_n (lv' := [(2, .int (0 : Int32)), (0, .ref (a0 0)), (1, .int p1)]) hx hb dX7_layStart_6 rfl hl (by decide) rfl (fun ls hl => ?_)
  exact K7 w_8 p1 (0 : Int32) H locs ls hP hD hS (lv_sub hl [1, 2, 0] rfl) h
