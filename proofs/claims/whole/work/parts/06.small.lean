theorem dX0_forgetFirst_0 : decode cX0_forgetFirst 0 = .ok (.aload_n 0, 1) := by decide +kernel
theorem dX0_forgetFirst_1 : decode cX0_forgetFirst 1 = .ok (.bipush 15, 2) := by decide +kernel
theorem dX0_forgetFirst_3 : decode cX0_forgetFirst 3 = .ok (.putfield 21, 3) := by decide +kernel
theorem dX0_forgetFirst_6 : decode cX0_forgetFirst 6 = .ok (.aload_n 0, 1) := by decide +kernel
theorem dX0_forgetFirst_7 : decode cX0_forgetFirst 7 = .ok (.getfield 9, 3) := by decide +kernel
theorem dX0_forgetFirst_10 : decode cX0_forgetFirst 10 = .ok (.iconst 1, 1) := by decide +kernel
theorem dX0_forgetFirst_11 : decode cX0_forgetFirst 11 = .ok (.aload_n 0, 1) := by decide +kernel
theorem dX0_forgetFirst_12 : decode cX0_forgetFirst 12 = .ok (.getfield 9, 3) := by decide +kernel
theorem dX0_forgetFirst_15 : decode cX0_forgetFirst 15 = .ok (.iconst 0, 1) := by decide +kernel
theorem dX0_forgetFirst_16 : decode cX0_forgetFirst 16 = .ok (.aload_n 0, 1) := by decide +kernel
theorem dX0_forgetFirst_17 : decode cX0_forgetFirst 17 = .ok (.getfield 21, 3) := by decide +kernel
theorem dX0_forgetFirst_20 : decode cX0_forgetFirst 20 = .ok (.invokestatic 28, 3) := by decide +kernel
theorem dX0_forgetFirst_23 : decode cX0_forgetFirst 23 = .ok (.aload_n 0, 1) := by decide +kernel
theorem dX0_forgetFirst_24 : decode cX0_forgetFirst 24 = .ok (.getfield 15, 3) := by decide +kernel
theorem dX0_forgetFirst_27 : decode cX0_forgetFirst 27 = .ok (.iconst 1, 1) := by decide +kernel
theorem dX0_forgetFirst_28 : decode cX0_forgetFirst 28 = .ok (.aload_n 0, 1) := by decide +kernel
theorem dX0_forgetFirst_29 : decode cX0_forgetFirst 29 = .ok (.getfield 15, 3) := by decide +kernel
theorem dX0_forgetFirst_32 : decode cX0_forgetFirst 32 = .ok (.iconst 0, 1) := by decide +kernel
theorem dX0_forgetFirst_33 : decode cX0_forgetFirst 33 = .ok (.aload_n 0, 1) := by decide +kernel
theorem dX0_forgetFirst_34 : decode cX0_forgetFirst 34 = .ok (.getfield 21, 3) := by decide +kernel
theorem dX0_forgetFirst_37 : decode cX0_forgetFirst 37 = .ok (.invokestatic 28, 3) := by decide +kernel
theorem dX0_forgetFirst_40 : decode cX0_forgetFirst 40 = .ok (.aload_n 0, 1) := by decide +kernel
theorem dX0_forgetFirst_41 : decode cX0_forgetFirst 41 = .ok (.getfield 18, 3) := by decide +kernel
theorem dX0_forgetFirst_44 : decode cX0_forgetFirst 44 = .ok (.iconst 1, 1) := by decide +kernel
theorem dX0_forgetFirst_45 : decode cX0_forgetFirst 45 = .ok (.aload_n 0, 1) := by decide +kernel
theorem dX0_forgetFirst_46 : decode cX0_forgetFirst 46 = .ok (.getfield 18, 3) := by decide +kernel
theorem dX0_forgetFirst_49 : decode cX0_forgetFirst 49 = .ok (.iconst 0, 1) := by decide +kernel
theorem dX0_forgetFirst_50 : decode cX0_forgetFirst 50 = .ok (.aload_n 0, 1) := by decide +kernel
theorem dX0_forgetFirst_51 : decode cX0_forgetFirst 51 = .ok (.getfield 21, 3) := by decide +kernel
theorem dX0_forgetFirst_54 : decode cX0_forgetFirst 54 = .ok (.invokestatic 28, 3) := by decide +kernel
theorem dX0_forgetFirst_57 : decode cX0_forgetFirst 57 = .ok (.return_, 1) := by decide +kernel
theorem dX0_add_0 : decode cX0_add 0 = .ok (.aload_n 0, 1) := by decide +kernel
theorem dX0_add_1 : decode cX0_add 1 = .ok (.getfield 21, 3) := by decide +kernel
theorem dX0_add_4 : decode cX0_add 4 = .ok (.bipush 16, 2) := by decide +kernel
theorem dX0_add_6 : decode cX0_add 6 = .ok (.if_icmp .lt 7, 3) := by decide +kernel
theorem dX0_add_9 : decode cX0_add 9 = .ok (.aload_n 0, 1) := by decide +kernel
theorem dX0_add_10 : decode cX0_add 10 = .ok (.invokevirtual 25, 3) := by decide +kernel
theorem dX0_add_13 : decode cX0_add 13 = .ok (.aload_n 0, 1) := by decide +kernel
theorem dX0_add_14 : decode cX0_add 14 = .ok (.getfield 9, 3) := by decide +kernel
theorem dX0_add_17 : decode cX0_add 17 = .ok (.aload_n 0, 1) := by decide +kernel
theorem dX0_add_18 : decode cX0_add 18 = .ok (.getfield 21, 3) := by decide +kernel
theorem dX0_add_21 : decode cX0_add 21 = .ok (.iload_n 1, 1) := by decide +kernel
theorem dX0_add_22 : decode cX0_add 22 = .ok (.iastore, 1) := by decide +kernel
theorem dX0_add_23 : decode cX0_add 23 = .ok (.aload_n 0, 1) := by decide +kernel
theorem dX0_add_24 : decode cX0_add 24 = .ok (.getfield 15, 3) := by decide +kernel
theorem dX0_add_27 : decode cX0_add 27 = .ok (.aload_n 0, 1) := by decide +kernel
theorem dX0_add_28 : decode cX0_add 28 = .ok (.getfield 21, 3) := by decide +kernel
theorem dX0_add_31 : decode cX0_add 31 = .ok (.iload_n 2, 1) := by decide +kernel
theorem dX0_add_32 : decode cX0_add 32 = .ok (.iastore, 1) := by decide +kernel
theorem dX0_add_33 : decode cX0_add 33 = .ok (.aload_n 0, 1) := by decide +kernel
theorem dX0_add_34 : decode cX0_add 34 = .ok (.getfield 18, 3) := by decide +kernel
theorem dX0_add_37 : decode cX0_add 37 = .ok (.aload_n 0, 1) := by decide +kernel
theorem dX0_add_38 : decode cX0_add 38 = .ok (.getfield 21, 3) := by decide +kernel
theorem dX0_add_41 : decode cX0_add 41 = .ok (.iload_n 3, 1) := by decide +kernel
theorem dX0_add_42 : decode cX0_add 42 = .ok (.iastore, 1) := by decide +kernel
theorem dX0_add_43 : decode cX0_add 43 = .ok (.aload_n 0, 1) := by decide +kernel
theorem dX0_add_44 : decode cX0_add 44 = .ok (.dup, 1) := by decide +kernel
theorem dX0_add_45 : decode cX0_add 45 = .ok (.getfield 21, 3) := by decide +kernel
theorem dX0_add_48 : decode cX0_add 48 = .ok (.iconst 1, 1) := by decide +kernel
theorem dX0_add_49 : decode cX0_add 49 = .ok (.iadd, 1) := by decide +kernel
theorem dX0_add_50 : decode cX0_add 50 = .ok (.putfield 21, 3) := by decide +kernel
theorem dX0_add_53 : decode cX0_add 53 = .ok (.return_, 1) := by decide +kernel
theorem dX0_takeBackLast_0 : decode cX0_takeBackLast 0 = .ok (.aload_n 0, 1) := by decide +kernel
theorem dX0_takeBackLast_1 : decode cX0_takeBackLast 1 = .ok (.getfield 21, 3) := by decide +kernel
theorem dX0_takeBackLast_4 : decode cX0_takeBackLast 4 = .ok (.ifCond .gt 4, 3) := by decide +kernel
theorem dX0_takeBackLast_7 : decode cX0_takeBackLast 7 = .ok (.return_, 1) := by decide +kernel
theorem dX0_takeBackLast_8 : decode cX0_takeBackLast 8 = .ok (.aload_n 0, 1) := by decide +kernel
theorem dX0_takeBackLast_9 : decode cX0_takeBackLast 9 = .ok (.dup, 1) := by decide +kernel
theorem dX0_takeBackLast_10 : decode cX0_takeBackLast 10 = .ok (.getfield 21, 3) := by decide +kernel
theorem dX0_takeBackLast_13 : decode cX0_takeBackLast 13 = .ok (.iconst 1, 1) := by decide +kernel
theorem dX0_takeBackLast_14 : decode cX0_takeBackLast 14 = .ok (.isub, 1) := by decide +kernel
theorem dX0_takeBackLast_15 : decode cX0_takeBackLast 15 = .ok (.putfield 21, 3) := by decide +kernel
theorem dX0_takeBackLast_18 : decode cX0_takeBackLast 18 = .ok (.aload_n 1, 1) := by decide +kernel
theorem dX0_takeBackLast_19 : decode cX0_takeBackLast 19 = .ok (.dup, 1) := by decide +kernel
theorem dX0_takeBackLast_20 : decode cX0_takeBackLast 20 = .ok (.getfield 34, 3) := by decide +kernel
theorem dX0_takeBackLast_23 : decode cX0_takeBackLast 23 = .ok (.aload_n 0, 1) := by decide +kernel
theorem dX0_takeBackLast_24 : decode cX0_takeBackLast 24 = .ok (.getfield 18, 3) := by decide +kernel
theorem dX0_takeBackLast_27 : decode cX0_takeBackLast 27 = .ok (.aload_n 0, 1) := by decide +kernel
theorem dX0_takeBackLast_28 : decode cX0_takeBackLast 28 = .ok (.getfield 21, 3) := by decide +kernel
theorem dX0_takeBackLast_31 : decode cX0_takeBackLast 31 = .ok (.iaload, 1) := by decide +kernel
theorem dX0_takeBackLast_32 : decode cX0_takeBackLast 32 = .ok (.isub, 1) := by decide +kernel
theorem dX0_takeBackLast_33 : decode cX0_takeBackLast 33 = .ok (.putfield 34, 3) := by decide +kernel
theorem dX0_takeBackLast_36 : decode cX0_takeBackLast 36 = .ok (.aload_n 0, 1) := by decide +kernel
theorem dX0_takeBackLast_37 : decode cX0_takeBackLast 37 = .ok (.getfield 9, 3) := by decide +kernel
theorem dX0_takeBackLast_40 : decode cX0_takeBackLast 40 = .ok (.aload_n 0, 1) := by decide +kernel
theorem dX0_takeBackLast_41 : decode cX0_takeBackLast 41 = .ok (.getfield 21, 3) := by decide +kernel
theorem dX0_takeBackLast_44 : decode cX0_takeBackLast 44 = .ok (.iaload, 1) := by decide +kernel
theorem dX0_takeBackLast_45 : decode cX0_takeBackLast 45 = .ok (.iconst 1, 1) := by decide +kernel
theorem dX0_takeBackLast_46 : decode cX0_takeBackLast 46 = .ok (.if_icmp .ne 16, 3) := by decide +kernel
theorem dX0_takeBackLast_49 : decode cX0_takeBackLast 49 = .ok (.aload_n 1, 1) := by decide +kernel
theorem dX0_takeBackLast_50 : decode cX0_takeBackLast 50 = .ok (.dup, 1) := by decide +kernel
theorem dX0_takeBackLast_51 : decode cX0_takeBackLast 51 = .ok (.getfield 39, 3) := by decide +kernel
theorem dX0_takeBackLast_54 : decode cX0_takeBackLast 54 = .ok (.iconst 1, 1) := by decide +kernel
theorem dX0_takeBackLast_55 : decode cX0_takeBackLast 55 = .ok (.isub, 1) := by decide +kernel
theorem dX0_takeBackLast_56 : decode cX0_takeBackLast 56 = .ok (.putfield 39, 3) := by decide +kernel
theorem dX0_takeBackLast_59 : decode cX0_takeBackLast 59 = .ok (.goto 51, 3) := by decide +kernel
theorem dX0_takeBackLast_62 : decode cX0_takeBackLast 62 = .ok (.aload_n 0, 1) := by decide +kernel
theorem dX0_takeBackLast_63 : decode cX0_takeBackLast 63 = .ok (.getfield 9, 3) := by decide +kernel
theorem dX0_takeBackLast_66 : decode cX0_takeBackLast 66 = .ok (.aload_n 0, 1) := by decide +kernel
theorem dX0_takeBackLast_67 : decode cX0_takeBackLast 67 = .ok (.getfield 21, 3) := by decide +kernel
theorem dX0_takeBackLast_70 : decode cX0_takeBackLast 70 = .ok (.iaload, 1) := by decide +kernel
theorem dX0_takeBackLast_71 : decode cX0_takeBackLast 71 = .ok (.iconst 2, 1) := by decide +kernel
theorem dX0_takeBackLast_72 : decode cX0_takeBackLast 72 = .ok (.if_icmp .ne 22, 3) := by decide +kernel
theorem dX0_takeBackLast_75 : decode cX0_takeBackLast 75 = .ok (.aload_n 1, 1) := by decide +kernel
theorem dX0_takeBackLast_76 : decode cX0_takeBackLast 76 = .ok (.getfield 42, 3) := by decide +kernel
theorem dX0_takeBackLast_79 : decode cX0_takeBackLast 79 = .ok (.aload_n 0, 1) := by decide +kernel
theorem dX0_takeBackLast_80 : decode cX0_takeBackLast 80 = .ok (.getfield 15, 3) := by decide +kernel
theorem dX0_takeBackLast_83 : decode cX0_takeBackLast 83 = .ok (.aload_n 0, 1) := by decide +kernel
theorem dX0_takeBackLast_84 : decode cX0_takeBackLast 84 = .ok (.getfield 21, 3) := by decide +kernel
theorem dX0_takeBackLast_87 : decode cX0_takeBackLast 87 = .ok (.iaload, 1) := by decide +kernel
theorem dX0_takeBackLast_88 : decode cX0_takeBackLast 88 = .ok (.bipush (-9), 2) := by decide +kernel
theorem dX0_takeBackLast_90 : decode cX0_takeBackLast 90 = .ok (.iastore, 1) := by decide +kernel
theorem dX0_takeBackLast_91 : decode cX0_takeBackLast 91 = .ok (.goto 19, 3) := by decide +kernel
theorem dX0_takeBackLast_94 : decode cX0_takeBackLast 94 = .ok (.aload_n 1, 1) := by decide +kernel
theorem dX0_takeBackLast_95 : decode cX0_takeBackLast 95 = .ok (.getfield 45, 3) := by decide +kernel
theorem dX0_takeBackLast_98 : decode cX0_takeBackLast 98 = .ok (.aload_n 0, 1) := by decide +kernel
theorem dX0_takeBackLast_99 : decode cX0_takeBackLast 99 = .ok (.getfield 15, 3) := by decide +kernel
theorem dX0_takeBackLast_102 : decode cX0_takeBackLast 102 = .ok (.aload_n 0, 1) := by decide +kernel
theorem dX0_takeBackLast_103 : decode cX0_takeBackLast 103 = .ok (.getfield 21, 3) := by decide +kernel
theorem dX0_takeBackLast_106 : decode cX0_takeBackLast 106 = .ok (.iaload, 1) := by decide +kernel
theorem dX0_takeBackLast_107 : decode cX0_takeBackLast 107 = .ok (.bipush (-9), 2) := by decide +kernel
theorem dX0_takeBackLast_109 : decode cX0_takeBackLast 109 = .ok (.iastore, 1) := by decide +kernel
theorem dX0_takeBackLast_110 : decode cX0_takeBackLast 110 = .ok (.return_, 1) := by decide +kernel
theorem dX2_idleAskers_0 : decode cX2_idleAskers 0 = .ok (.iconst 0, 1) := by decide +kernel
theorem dX2_idleAskers_1 : decode cX2_idleAskers 1 = .ok (.istore_n 2, 1) := by decide +kernel
theorem dX2_idleAskers_2 : decode cX2_idleAskers 2 = .ok (.iconst 0, 1) := by decide +kernel
theorem dX2_idleAskers_3 : decode cX2_idleAskers 3 = .ok (.istore_n 3, 1) := by decide +kernel
theorem dX2_idleAskers_4 : decode cX2_idleAskers 4 = .ok (.iload_n 3, 1) := by decide +kernel
theorem dX2_idleAskers_5 : decode cX2_idleAskers 5 = .ok (.aload_n 1, 1) := by decide +kernel
theorem dX2_idleAskers_6 : decode cX2_idleAskers 6 = .ok (.getfield 42, 3) := by decide +kernel
theorem dX2_idleAskers_9 : decode cX2_idleAskers 9 = .ok (.if_icmp .ge 26, 3) := by decide +kernel
theorem dX2_idleAskers_12 : decode cX2_idleAskers 12 = .ok (.aload_n 0, 1) := by decide +kernel
theorem dX2_idleAskers_13 : decode cX2_idleAskers 13 = .ok (.getfield 18, 3) := by decide +kernel
theorem dX2_idleAskers_16 : decode cX2_idleAskers 16 = .ok (.iload_n 3, 1) := by decide +kernel
theorem dX2_idleAskers_17 : decode cX2_idleAskers 17 = .ok (.iaload, 1) := by decide +kernel
theorem dX2_idleAskers_18 : decode cX2_idleAskers 18 = .ok (.bipush (-9), 2) := by decide +kernel
theorem dX2_idleAskers_20 : decode cX2_idleAskers 20 = .ok (.if_icmp .ne 9, 3) := by decide +kernel
theorem dX2_idleAskers_23 : decode cX2_idleAskers 23 = .ok (.iload_n 2, 1) := by decide +kernel
theorem dX2_idleAskers_24 : decode cX2_idleAskers 24 = .ok (.iconst 1, 1) := by decide +kernel
theorem dX2_idleAskers_25 : decode cX2_idleAskers 25 = .ok (.iload_n 3, 1) := by decide +kernel
theorem dX2_idleAskers_26 : decode cX2_idleAskers 26 = .ok (.ishl, 1) := by decide +kernel
theorem dX2_idleAskers_27 : decode cX2_idleAskers 27 = .ok (.ior, 1) := by decide +kernel
theorem dX2_idleAskers_28 : decode cX2_idleAskers 28 = .ok (.istore_n 2, 1) := by decide +kernel
theorem dX2_idleAskers_29 : decode cX2_idleAskers 29 = .ok (.iinc 3 1, 3) := by decide +kernel
theorem dX2_idleAskers_32 : decode cX2_idleAskers 32 = .ok (.goto (-28), 3) := by decide +kernel
theorem dX2_idleAskers_35 : decode cX2_idleAskers 35 = .ok (.iload_n 2, 1) := by decide +kernel
theorem dX2_idleAskers_36 : decode cX2_idleAskers 36 = .ok (.ireturn, 1) := by decide +kernel
theorem dX2_soldThings_0 : decode cX2_soldThings 0 = .ok (.iconst 0, 1) := by decide +kernel
theorem dX2_soldThings_1 : decode cX2_soldThings 1 = .ok (.istore_n 2, 1) := by decide +kernel
theorem dX2_soldThings_2 : decode cX2_soldThings 2 = .ok (.iconst 0, 1) := by decide +kernel
theorem dX2_soldThings_3 : decode cX2_soldThings 3 = .ok (.istore_n 3, 1) := by decide +kernel
theorem dX2_soldThings_4 : decode cX2_soldThings 4 = .ok (.iload_n 3, 1) := by decide +kernel
theorem dX2_soldThings_5 : decode cX2_soldThings 5 = .ok (.aload_n 1, 1) := by decide +kernel
theorem dX2_soldThings_6 : decode cX2_soldThings 6 = .ok (.getfield 47, 3) := by decide +kernel
theorem dX2_soldThings_9 : decode cX2_soldThings 9 = .ok (.if_icmp .ge 26, 3) := by decide +kernel
theorem dX2_soldThings_12 : decode cX2_soldThings 12 = .ok (.aload_n 0, 1) := by decide +kernel
theorem dX2_soldThings_13 : decode cX2_soldThings 13 = .ok (.getfield 22, 3) := by decide +kernel
theorem dX2_soldThings_16 : decode cX2_soldThings 16 = .ok (.iload_n 3, 1) := by decide +kernel
theorem dX2_soldThings_17 : decode cX2_soldThings 17 = .ok (.iaload, 1) := by decide +kernel
theorem dX2_soldThings_18 : decode cX2_soldThings 18 = .ok (.bipush (-9), 2) := by decide +kernel
theorem dX2_soldThings_20 : decode cX2_soldThings 20 = .ok (.if_icmp .eq 9, 3) := by decide +kernel
theorem dX2_soldThings_23 : decode cX2_soldThings 23 = .ok (.iload_n 2, 1) := by decide +kernel
theorem dX2_soldThings_24 : decode cX2_soldThings 24 = .ok (.iconst 1, 1) := by decide +kernel
theorem dX2_soldThings_25 : decode cX2_soldThings 25 = .ok (.iload_n 3, 1) := by decide +kernel
theorem dX2_soldThings_26 : decode cX2_soldThings 26 = .ok (.ishl, 1) := by decide +kernel
theorem dX2_soldThings_27 : decode cX2_soldThings 27 = .ok (.ior, 1) := by decide +kernel
theorem dX2_soldThings_28 : decode cX2_soldThings 28 = .ok (.istore_n 2, 1) := by decide +kernel
theorem dX2_soldThings_29 : decode cX2_soldThings 29 = .ok (.iinc 3 1, 3) := by decide +kernel
theorem dX2_soldThings_32 : decode cX2_soldThings 32 = .ok (.goto (-28), 3) := by decide +kernel
theorem dX2_soldThings_35 : decode cX2_soldThings 35 = .ok (.iload_n 2, 1) := by decide +kernel
theorem dX2_soldThings_36 : decode cX2_soldThings 36 = .ok (.ireturn, 1) := by decide +kernel
theorem dX2_askedOfBit_0 : decode cX2_askedOfBit 0 = .ok (.iload_n 1, 1) := by decide +kernel
theorem dX2_askedOfBit_1 : decode cX2_askedOfBit 1 = .ok (.ifCond .lt 19, 3) := by decide +kernel
theorem dX2_askedOfBit_4 : decode cX2_askedOfBit 4 = .ok (.iload_n 1, 1) := by decide +kernel
theorem dX2_askedOfBit_5 : decode cX2_askedOfBit 5 = .ok (.iconst 4, 1) := by decide +kernel
theorem dX2_askedOfBit_6 : decode cX2_askedOfBit 6 = .ok (.if_icmp .ge 14, 3) := by decide +kernel
theorem dX2_askedOfBit_9 : decode cX2_askedOfBit 9 = .ok (.aload_n 0, 1) := by decide +kernel
theorem dX2_askedOfBit_10 : decode cX2_askedOfBit 10 = .ok (.getfield 18, 3) := by decide +kernel
theorem dX2_askedOfBit_13 : decode cX2_askedOfBit 13 = .ok (.iload_n 1, 1) := by decide +kernel
theorem dX2_askedOfBit_14 : decode cX2_askedOfBit 14 = .ok (.iaload, 1) := by decide +kernel
theorem dX2_askedOfBit_15 : decode cX2_askedOfBit 15 = .ok (.bipush (-9), 2) := by decide +kernel
theorem dX2_askedOfBit_17 : decode cX2_askedOfBit 17 = .ok (.if_icmp .ne 5, 3) := by decide +kernel
theorem dX2_askedOfBit_20 : decode cX2_askedOfBit 20 = .ok (.iconst 0, 1) := by decide +kernel
theorem dX2_askedOfBit_21 : decode cX2_askedOfBit 21 = .ok (.ireturn, 1) := by decide +kernel
theorem dX2_askedOfBit_22 : decode cX2_askedOfBit 22 = .ok (.iconst 1, 1) := by decide +kernel
theorem dX2_askedOfBit_23 : decode cX2_askedOfBit 23 = .ok (.aload_n 0, 1) := by decide +kernel
theorem dX2_askedOfBit_24 : decode cX2_askedOfBit 24 = .ok (.getfield 18, 3) := by decide +kernel
theorem dX2_askedOfBit_27 : decode cX2_askedOfBit 27 = .ok (.iload_n 1, 1) := by decide +kernel
theorem dX2_askedOfBit_28 : decode cX2_askedOfBit 28 = .ok (.iaload, 1) := by decide +kernel
theorem dX2_askedOfBit_29 : decode cX2_askedOfBit 29 = .ok (.ishl, 1) := by decide +kernel
theorem dX2_askedOfBit_30 : decode cX2_askedOfBit 30 = .ok (.ireturn, 1) := by decide +kernel
theorem dX2_askedThings_0 : decode cX2_askedThings 0 = .ok (.iconst 0, 1) := by decide +kernel
theorem dX2_askedThings_1 : decode cX2_askedThings 1 = .ok (.istore_n 1, 1) := by decide +kernel
theorem dX2_askedThings_2 : decode cX2_askedThings 2 = .ok (.iconst 0, 1) := by decide +kernel
theorem dX2_askedThings_3 : decode cX2_askedThings 3 = .ok (.istore_n 2, 1) := by decide +kernel
theorem dX2_askedThings_4 : decode cX2_askedThings 4 = .ok (.iload_n 2, 1) := by decide +kernel
theorem dX2_askedThings_5 : decode cX2_askedThings 5 = .ok (.iconst 4, 1) := by decide +kernel
theorem dX2_askedThings_6 : decode cX2_askedThings 6 = .ok (.if_icmp .ge 17, 3) := by decide +kernel
theorem dX2_askedThings_9 : decode cX2_askedThings 9 = .ok (.iload_n 1, 1) := by decide +kernel
theorem dX2_askedThings_10 : decode cX2_askedThings 10 = .ok (.aload_n 0, 1) := by decide +kernel
theorem dX2_askedThings_11 : decode cX2_askedThings 11 = .ok (.iload_n 2, 1) := by decide +kernel
theorem dX2_askedThings_12 : decode cX2_askedThings 12 = .ok (.invokevirtual 38, 3) := by decide +kernel
theorem dX2_askedThings_15 : decode cX2_askedThings 15 = .ok (.ior, 1) := by decide +kernel
theorem dX2_askedThings_16 : decode cX2_askedThings 16 = .ok (.istore_n 1, 1) := by decide +kernel
theorem dX2_askedThings_17 : decode cX2_askedThings 17 = .ok (.iinc 2 1, 3) := by decide +kernel
theorem dX2_askedThings_20 : decode cX2_askedThings 20 = .ok (.goto (-16), 3) := by decide +kernel
theorem dX2_askedThings_23 : decode cX2_askedThings 23 = .ok (.iload_n 1, 1) := by decide +kernel
theorem dX2_askedThings_24 : decode cX2_askedThings 24 = .ok (.ireturn, 1) := by decide +kernel
theorem dX2_becomeLike_0 : decode cX2_becomeLike 0 = .ok (.aload_n 0, 1) := by decide +kernel
theorem dX2_becomeLike_1 : decode cX2_becomeLike 1 = .ok (.aload_n 1, 1) := by decide +kernel
theorem dX2_becomeLike_2 : decode cX2_becomeLike 2 = .ok (.getfield 9, 3) := by decide +kernel
theorem dX2_becomeLike_5 : decode cX2_becomeLike 5 = .ok (.putfield 9, 3) := by decide +kernel
theorem dX2_becomeLike_8 : decode cX2_becomeLike 8 = .ok (.aload_n 0, 1) := by decide +kernel
theorem dX2_becomeLike_9 : decode cX2_becomeLike 9 = .ok (.aload_n 1, 1) := by decide +kernel
theorem dX2_becomeLike_10 : decode cX2_becomeLike 10 = .ok (.getfield 15, 3) := by decide +kernel
theorem dX2_becomeLike_13 : decode cX2_becomeLike 13 = .ok (.putfield 15, 3) := by decide +kernel
theorem dX2_becomeLike_16 : decode cX2_becomeLike 16 = .ok (.aload_n 1, 1) := by decide +kernel
theorem dX2_becomeLike_17 : decode cX2_becomeLike 17 = .ok (.getfield 18, 3) := by decide +kernel
theorem dX2_becomeLike_20 : decode cX2_becomeLike 20 = .ok (.iconst 0, 1) := by decide +kernel
theorem dX2_becomeLike_21 : decode cX2_becomeLike 21 = .ok (.aload_n 0, 1) := by decide +kernel
theorem dX2_becomeLike_22 : decode cX2_becomeLike 22 = .ok (.getfield 18, 3) := by decide +kernel
theorem dX2_becomeLike_25 : decode cX2_becomeLike 25 = .ok (.iconst 0, 1) := by decide +kernel
theorem dX2_becomeLike_26 : decode cX2_becomeLike 26 = .ok (.iconst 4, 1) := by decide +kernel
theorem dX2_becomeLike_27 : decode cX2_becomeLike 27 = .ok (.invokestatic 32, 3) := by decide +kernel
theorem dX2_becomeLike_30 : decode cX2_becomeLike 30 = .ok (.aload_n 1, 1) := by decide +kernel
theorem dX2_becomeLike_31 : decode cX2_becomeLike 31 = .ok (.getfield 22, 3) := by decide +kernel
theorem dX2_becomeLike_34 : decode cX2_becomeLike 34 = .ok (.iconst 0, 1) := by decide +kernel
theorem dX2_becomeLike_35 : decode cX2_becomeLike 35 = .ok (.aload_n 0, 1) := by decide +kernel
theorem dX2_becomeLike_36 : decode cX2_becomeLike 36 = .ok (.getfield 22, 3) := by decide +kernel
theorem dX2_becomeLike_39 : decode cX2_becomeLike 39 = .ok (.iconst 0, 1) := by decide +kernel
theorem dX2_becomeLike_40 : decode cX2_becomeLike 40 = .ok (.iconst 4, 1) := by decide +kernel
theorem dX2_becomeLike_41 : decode cX2_becomeLike 41 = .ok (.invokestatic 32, 3) := by decide +kernel
theorem dX2_becomeLike_44 : decode cX2_becomeLike 44 = .ok (.return_, 1) := by decide +kernel
theorem dX2_heardBy_0 : decode cX2_heardBy 0 = .ok (.aload_n 0, 1) := by decide +kernel
theorem dX2_heardBy_1 : decode cX2_heardBy 1 = .ok (.iload_n 1, 1) := by decide +kernel
theorem dX2_heardBy_2 : decode cX2_heardBy 2 = .ok (.iconst 1, 1) := by decide +kernel
theorem dX2_heardBy_3 : decode cX2_heardBy 3 = .ok (.isub, 1) := by decide +kernel
theorem dX2_heardBy_4 : decode cX2_heardBy 4 = .ok (.invokevirtual 38, 3) := by decide +kernel
theorem dX2_heardBy_7 : decode cX2_heardBy 7 = .ok (.aload_n 0, 1) := by decide +kernel
theorem dX2_heardBy_8 : decode cX2_heardBy 8 = .ok (.iload_n 1, 1) := by decide +kernel
theorem dX2_heardBy_9 : decode cX2_heardBy 9 = .ok (.invokevirtual 38, 3) := by decide +kernel
theorem dX2_heardBy_12 : decode cX2_heardBy 12 = .ok (.ior, 1) := by decide +kernel
theorem dX2_heardBy_13 : decode cX2_heardBy 13 = .ok (.aload_n 0, 1) := by decide +kernel
theorem dX2_heardBy_14 : decode cX2_heardBy 14 = .ok (.iload_n 1, 1) := by decide +kernel
theorem dX2_heardBy_15 : decode cX2_heardBy 15 = .ok (.iconst 1, 1) := by decide +kernel
theorem dX2_heardBy_16 : decode cX2_heardBy 16 = .ok (.iadd, 1) := by decide +kernel
theorem dX2_heardBy_17 : decode cX2_heardBy 17 = .ok (.invokevirtual 38, 3) := by decide +kernel
theorem dX2_heardBy_20 : decode cX2_heardBy 20 = .ok (.ior, 1) := by decide +kernel
theorem dX2_heardBy_21 : decode cX2_heardBy 21 = .ok (.ireturn, 1) := by decide +kernel
theorem dX2_startAnew_0 : decode cX2_startAnew 0 = .ok (.aload_n 0, 1) := by decide +kernel
theorem dX2_startAnew_1 : decode cX2_startAnew 1 = .ok (.iconst 0, 1) := by decide +kernel
theorem dX2_startAnew_2 : decode cX2_startAnew 2 = .ok (.putfield 9, 3) := by decide +kernel
theorem dX2_startAnew_5 : decode cX2_startAnew 5 = .ok (.aload_n 0, 1) := by decide +kernel
theorem dX2_startAnew_6 : decode cX2_startAnew 6 = .ok (.iconst 0, 1) := by decide +kernel
theorem dX2_startAnew_7 : decode cX2_startAnew 7 = .ok (.putfield 15, 3) := by decide +kernel
theorem dX2_startAnew_10 : decode cX2_startAnew 10 = .ok (.iconst 0, 1) := by decide +kernel
theorem dX2_startAnew_11 : decode cX2_startAnew 11 = .ok (.istore_n 1, 1) := by decide +kernel
theorem dX2_startAnew_12 : decode cX2_startAnew 12 = .ok (.iload_n 1, 1) := by decide +kernel
theorem dX2_startAnew_13 : decode cX2_startAnew 13 = .ok (.iconst 4, 1) := by decide +kernel
theorem dX2_startAnew_14 : decode cX2_startAnew 14 = .ok (.if_icmp .ge 17, 3) := by decide +kernel
theorem dX2_startAnew_17 : decode cX2_startAnew 17 = .ok (.aload_n 0, 1) := by decide +kernel
theorem dX2_startAnew_18 : decode cX2_startAnew 18 = .ok (.getfield 18, 3) := by decide +kernel
theorem dX2_startAnew_21 : decode cX2_startAnew 21 = .ok (.iload_n 1, 1) := by decide +kernel
theorem dX2_startAnew_22 : decode cX2_startAnew 22 = .ok (.bipush (-9), 2) := by decide +kernel
theorem dX2_startAnew_24 : decode cX2_startAnew 24 = .ok (.iastore, 1) := by decide +kernel
theorem dX2_startAnew_25 : decode cX2_startAnew 25 = .ok (.iinc 1 1, 3) := by decide +kernel
theorem dX2_startAnew_28 : decode cX2_startAnew 28 = .ok (.goto (-16), 3) := by decide +kernel
theorem dX2_startAnew_31 : decode cX2_startAnew 31 = .ok (.iconst 0, 1) := by decide +kernel
theorem dX2_startAnew_32 : decode cX2_startAnew 32 = .ok (.istore_n 1, 1) := by decide +kernel
theorem dX2_startAnew_33 : decode cX2_startAnew 33 = .ok (.iload_n 1, 1) := by decide +kernel
theorem dX2_startAnew_34 : decode cX2_startAnew 34 = .ok (.iconst 4, 1) := by decide +kernel
theorem dX2_startAnew_35 : decode cX2_startAnew 35 = .ok (.if_icmp .ge 17, 3) := by decide +kernel
theorem dX2_startAnew_38 : decode cX2_startAnew 38 = .ok (.aload_n 0, 1) := by decide +kernel
theorem dX2_startAnew_39 : decode cX2_startAnew 39 = .ok (.getfield 22, 3) := by decide +kernel
theorem dX2_startAnew_42 : decode cX2_startAnew 42 = .ok (.iload_n 1, 1) := by decide +kernel
theorem dX2_startAnew_43 : decode cX2_startAnew 43 = .ok (.bipush (-9), 2) := by decide +kernel
theorem dX2_startAnew_45 : decode cX2_startAnew 45 = .ok (.iastore, 1) := by decide +kernel
theorem dX2_startAnew_46 : decode cX2_startAnew 46 = .ok (.iinc 1 1, 3) := by decide +kernel
theorem dX2_startAnew_49 : decode cX2_startAnew 49 = .ok (.goto (-16), 3) := by decide +kernel
theorem dX2_startAnew_52 : decode cX2_startAnew 52 = .ok (.return_, 1) := by decide +kernel
theorem dX3_closePart_0 : decode cX3_closePart 0 = .ok (.aload_n 0, 1) := by decide +kernel
theorem dX3_closePart_1 : decode cX3_closePart 1 = .ok (.getfield 13, 3) := by decide +kernel
theorem dX3_closePart_4 : decode cX3_closePart 4 = .ok (.bipush 84, 2) := by decide +kernel
theorem dX3_closePart_6 : decode cX3_closePart 6 = .ok (.if_icmp .ne 14, 3) := by decide +kernel
theorem dX3_closePart_9 : decode cX3_closePart 9 = .ok (.aload_n 1, 1) := by decide +kernel
theorem dX3_closePart_10 : decode cX3_closePart 10 = .ok (.aload_n 0, 1) := by decide +kernel
theorem dX3_closePart_11 : decode cX3_closePart 11 = .ok (.getfield 20, 3) := by decide +kernel
theorem dX3_closePart_14 : decode cX3_closePart 14 = .ok (.invokevirtual 67, 3) := by decide +kernel
theorem dX3_closePart_17 : decode cX3_closePart 17 = .ok (.goto 47, 3) := by decide +kernel
theorem dX3_closePart_20 : decode cX3_closePart 20 = .ok (.aload_n 0, 1) := by decide +kernel
theorem dX3_closePart_21 : decode cX3_closePart 21 = .ok (.getfield 13, 3) := by decide +kernel
theorem dX3_closePart_24 : decode cX3_closePart 24 = .ok (.bipush 65, 2) := by decide +kernel
theorem dX3_closePart_26 : decode cX3_closePart 26 = .ok (.if_icmp .ne 22, 3) := by decide +kernel
theorem dX3_closePart_29 : decode cX3_closePart 29 = .ok (.aload_n 1, 1) := by decide +kernel
theorem dX3_closePart_30 : decode cX3_closePart 30 = .ok (.aload_n 0, 1) := by decide +kernel
theorem dX3_closePart_31 : decode cX3_closePart 31 = .ok (.getfield 20, 3) := by decide +kernel
theorem dX3_closePart_34 : decode cX3_closePart 34 = .ok (.iconst 0, 1) := by decide +kernel
theorem dX3_closePart_35 : decode cX3_closePart 35 = .ok (.iaload, 1) := by decide +kernel
theorem dX3_closePart_36 : decode cX3_closePart 36 = .ok (.aload_n 0, 1) := by decide +kernel
theorem dX3_closePart_37 : decode cX3_closePart 37 = .ok (.getfield 20, 3) := by decide +kernel
theorem dX3_closePart_40 : decode cX3_closePart 40 = .ok (.iconst 1, 1) := by decide +kernel
theorem dX3_closePart_41 : decode cX3_closePart 41 = .ok (.iaload, 1) := by decide +kernel
theorem dX3_closePart_42 : decode cX3_closePart 42 = .ok (.invokevirtual 71, 3) := by decide +kernel
theorem dX3_closePart_45 : decode cX3_closePart 45 = .ok (.goto 19, 3) := by decide +kernel
theorem dX3_closePart_48 : decode cX3_closePart 48 = .ok (.aload_n 1, 1) := by decide +kernel
theorem dX3_closePart_49 : decode cX3_closePart 49 = .ok (.aload_n 0, 1) := by decide +kernel
theorem dX3_closePart_50 : decode cX3_closePart 50 = .ok (.getfield 20, 3) := by decide +kernel
theorem dX3_closePart_53 : decode cX3_closePart 53 = .ok (.iconst 0, 1) := by decide +kernel
theorem dX3_closePart_54 : decode cX3_closePart 54 = .ok (.iaload, 1) := by decide +kernel
theorem dX3_closePart_55 : decode cX3_closePart 55 = .ok (.aload_n 0, 1) := by decide +kernel
theorem dX3_closePart_56 : decode cX3_closePart 56 = .ok (.getfield 20, 3) := by decide +kernel
theorem dX3_closePart_59 : decode cX3_closePart 59 = .ok (.iconst 1, 1) := by decide +kernel
theorem dX3_closePart_60 : decode cX3_closePart 60 = .ok (.iaload, 1) := by decide +kernel
theorem dX3_closePart_61 : decode cX3_closePart 61 = .ok (.invokevirtual 75, 3) := by decide +kernel
theorem dX3_closePart_64 : decode cX3_closePart 64 = .ok (.aload_n 0, 1) := by decide +kernel
theorem dX3_closePart_65 : decode cX3_closePart 65 = .ok (.iconst 0, 1) := by decide +kernel
theorem dX3_closePart_66 : decode cX3_closePart 66 = .ok (.putfield 13, 3) := by decide +kernel
theorem dX3_closePart_69 : decode cX3_closePart 69 = .ok (.return_, 1) := by decide +kernel
theorem dX3_isAtEnd_0 : decode cX3_isAtEnd 0 = .ok (.aload_n 0, 1) := by decide +kernel
theorem dX3_isAtEnd_1 : decode cX3_isAtEnd 1 = .ok (.getfield 7, 3) := by decide +kernel
theorem dX3_isAtEnd_4 : decode cX3_isAtEnd 4 = .ok (.ifCond .eq 14, 3) := by decide +kernel
theorem dX3_isAtEnd_7 : decode cX3_isAtEnd 7 = .ok (.aload_n 0, 1) := by decide +kernel
theorem dX3_isAtEnd_8 : decode cX3_isAtEnd 8 = .ok (.getfield 13, 3) := by decide +kernel
theorem dX3_isAtEnd_11 : decode cX3_isAtEnd 11 = .ok (.ifCond .ne 7, 3) := by decide +kernel
theorem dX3_isAtEnd_14 : decode cX3_isAtEnd 14 = .ok (.iconst 1, 1) := by decide +kernel
theorem dX3_isAtEnd_15 : decode cX3_isAtEnd 15 = .ok (.goto 4, 3) := by decide +kernel
theorem dX3_isAtEnd_18 : decode cX3_isAtEnd 18 = .ok (.iconst 0, 1) := by decide +kernel
theorem dX3_isAtEnd_19 : decode cX3_isAtEnd 19 = .ok (.ireturn, 1) := by decide +kernel
theorem dX3_mayTellThing_0 : decode cX3_mayTellThing 0 = .ok (.aload_n 0, 1) := by decide +kernel
theorem dX3_mayTellThing_1 : decode cX3_mayTellThing 1 = .ok (.getfield 17, 3) := by decide +kernel
theorem dX3_mayTellThing_4 : decode cX3_mayTellThing 4 = .ok (.tableswitch 78 0 3 #[32, 49, 65, 67], 32) := by decide +kernel
theorem dX3_mayTellThing_36 : decode cX3_mayTellThing 36 = .ok (.iload_n 1, 1) := by decide +kernel
theorem dX3_mayTellThing_37 : decode cX3_mayTellThing 37 = .ok (.iconst 1, 1) := by decide +kernel
theorem dX3_mayTellThing_38 : decode cX3_mayTellThing 38 = .ok (.if_icmp .lt 13, 3) := by decide +kernel
theorem dX3_mayTellThing_41 : decode cX3_mayTellThing 41 = .ok (.iload_n 1, 1) := by decide +kernel
theorem dX3_mayTellThing_42 : decode cX3_mayTellThing 42 = .ok (.bipush 8, 2) := by decide +kernel
theorem dX3_mayTellThing_44 : decode cX3_mayTellThing 44 = .ok (.if_icmp .gt 7, 3) := by decide +kernel
theorem dX3_mayTellThing_47 : decode cX3_mayTellThing 47 = .ok (.iconst 1, 1) := by decide +kernel
theorem dX3_mayTellThing_48 : decode cX3_mayTellThing 48 = .ok (.goto 4, 3) := by decide +kernel
theorem dX3_mayTellThing_51 : decode cX3_mayTellThing 51 = .ok (.iconst 0, 1) := by decide +kernel
theorem dX3_mayTellThing_52 : decode cX3_mayTellThing 52 = .ok (.ireturn, 1) := by decide +kernel
theorem dX3_mayTellThing_53 : decode cX3_mayTellThing 53 = .ok (.iload_n 1, 1) := by decide +kernel
theorem dX3_mayTellThing_54 : decode cX3_mayTellThing 54 = .ok (.aload_n 0, 1) := by decide +kernel
theorem dX3_mayTellThing_55 : decode cX3_mayTellThing 55 = .ok (.getfield 20, 3) := by decide +kernel
theorem dX3_mayTellThing_58 : decode cX3_mayTellThing 58 = .ok (.iconst 0, 1) := by decide +kernel
theorem dX3_mayTellThing_59 : decode cX3_mayTellThing 59 = .ok (.iaload, 1) := by decide +kernel
theorem dX3_mayTellThing_60 : decode cX3_mayTellThing 60 = .ok (.if_icmp .le 7, 3) := by decide +kernel
theorem dX3_mayTellThing_63 : decode cX3_mayTellThing 63 = .ok (.iconst 1, 1) := by decide +kernel
theorem dX3_mayTellThing_64 : decode cX3_mayTellThing 64 = .ok (.goto 4, 3) := by decide +kernel
theorem dX3_mayTellThing_67 : decode cX3_mayTellThing 67 = .ok (.iconst 0, 1) := by decide +kernel
theorem dX3_mayTellThing_68 : decode cX3_mayTellThing 68 = .ok (.ireturn, 1) := by decide +kernel
theorem dX3_mayTellThing_69 : decode cX3_mayTellThing 69 = .ok (.iconst 1, 1) := by decide +kernel
theorem dX3_mayTellThing_70 : decode cX3_mayTellThing 70 = .ok (.ireturn, 1) := by decide +kernel
theorem dX3_mayTellThing_71 : decode cX3_mayTellThing 71 = .ok (.iload_n 1, 1) := by decide +kernel
theorem dX3_mayTellThing_72 : decode cX3_mayTellThing 72 = .ok (.iconst 1, 1) := by decide +kernel
theorem dX3_mayTellThing_73 : decode cX3_mayTellThing 73 = .ok (.if_icmp .lt 7, 3) := by decide +kernel
theorem dX3_mayTellThing_76 : decode cX3_mayTellThing 76 = .ok (.iconst 1, 1) := by decide +kernel
theorem dX3_mayTellThing_77 : decode cX3_mayTellThing 77 = .ok (.goto 4, 3) := by decide +kernel
theorem dX3_mayTellThing_80 : decode cX3_mayTellThing 80 = .ok (.iconst 0, 1) := by decide +kernel
theorem dX3_mayTellThing_81 : decode cX3_mayTellThing 81 = .ok (.ireturn, 1) := by decide +kernel
theorem dX3_mayTellThing_82 : decode cX3_mayTellThing 82 = .ok (.iload_n 1, 1) := by decide +kernel
theorem dX3_mayTellThing_83 : decode cX3_mayTellThing 83 = .ok (.iconst 1, 1) := by decide +kernel
theorem dX3_mayTellThing_84 : decode cX3_mayTellThing 84 = .ok (.if_icmp .gt 7, 3) := by decide +kernel
theorem dX3_mayTellThing_87 : decode cX3_mayTellThing 87 = .ok (.iconst 1, 1) := by decide +kernel
theorem dX3_mayTellThing_88 : decode cX3_mayTellThing 88 = .ok (.goto 4, 3) := by decide +kernel
theorem dX3_mayTellThing_91 : decode cX3_mayTellThing 91 = .ok (.iconst 0, 1) := by decide +kernel
theorem dX3_mayTellThing_92 : decode cX3_mayTellThing 92 = .ok (.ireturn, 1) := by decide +kernel
theorem dX3_mayFollow_0 : decode cX3_mayFollow 0 = .ok (.aload_n 0, 1) := by decide +kernel
theorem dX3_mayFollow_1 : decode cX3_mayFollow 1 = .ok (.getfield 13, 3) := by decide +kernel
theorem dX3_mayFollow_4 : decode cX3_mayFollow 4 = .ok (.lookupswitch 65 #[(65, 34), (84, 28)], 28) := by decide +kernel
theorem dX3_mayFollow_32 : decode cX3_mayFollow 32 = .ok (.aload_n 0, 1) := by decide +kernel
theorem dX3_mayFollow_33 : decode cX3_mayFollow 33 = .ok (.iload_n 1, 1) := by decide +kernel
theorem dX3_mayFollow_34 : decode cX3_mayFollow 34 = .ok (.invokevirtual 53, 3) := by decide +kernel
theorem dX3_mayFollow_37 : decode cX3_mayFollow 37 = .ok (.ireturn, 1) := by decide +kernel
theorem dX3_mayFollow_38 : decode cX3_mayFollow 38 = .ok (.aload_n 2, 1) := by decide +kernel
theorem dX3_mayFollow_39 : decode cX3_mayFollow 39 = .ok (.iload_n 1, 1) := by decide +kernel
theorem dX3_mayFollow_40 : decode cX3_mayFollow 40 = .ok (.invokevirtual 57, 3) := by decide +kernel
theorem dX3_mayFollow_43 : decode cX3_mayFollow 43 = .ok (.ifCond .eq 24, 3) := by decide +kernel
theorem dX3_mayFollow_46 : decode cX3_mayFollow 46 = .ok (.aload_n 0, 1) := by decide +kernel
theorem dX3_mayFollow_47 : decode cX3_mayFollow 47 = .ok (.getfield 17, 3) := by decide +kernel
theorem dX3_mayFollow_50 : decode cX3_mayFollow 50 = .ok (.ifCond .eq 13, 3) := by decide +kernel
theorem dX3_mayFollow_53 : decode cX3_mayFollow 53 = .ok (.iload_n 1, 1) := by decide +kernel
theorem dX3_mayFollow_54 : decode cX3_mayFollow 54 = .ok (.aload_n 0, 1) := by decide +kernel
theorem dX3_mayFollow_55 : decode cX3_mayFollow 55 = .ok (.getfield 20, 3) := by decide +kernel
theorem dX3_mayFollow_58 : decode cX3_mayFollow 58 = .ok (.iconst 0, 1) := by decide +kernel
theorem dX3_mayFollow_59 : decode cX3_mayFollow 59 = .ok (.iaload, 1) := by decide +kernel
theorem dX3_mayFollow_60 : decode cX3_mayFollow 60 = .ok (.if_icmp .lt 7, 3) := by decide +kernel
theorem dX3_mayFollow_63 : decode cX3_mayFollow 63 = .ok (.iconst 1, 1) := by decide +kernel
theorem dX3_mayFollow_64 : decode cX3_mayFollow 64 = .ok (.goto 4, 3) := by decide +kernel
theorem dX3_mayFollow_67 : decode cX3_mayFollow 67 = .ok (.iconst 0, 1) := by decide +kernel
theorem dX3_mayFollow_68 : decode cX3_mayFollow 68 = .ok (.ireturn, 1) := by decide +kernel
theorem dX3_mayFollow_69 : decode cX3_mayFollow 69 = .ok (.aload_n 0, 1) := by decide +kernel
theorem dX3_mayFollow_70 : decode cX3_mayFollow 70 = .ok (.getfield 17, 3) := by decide +kernel
theorem dX3_mayFollow_73 : decode cX3_mayFollow 73 = .ok (.ifCond .ne 11, 3) := by decide +kernel
theorem dX3_mayFollow_76 : decode cX3_mayFollow 76 = .ok (.aload_n 2, 1) := by decide +kernel
theorem dX3_mayFollow_77 : decode cX3_mayFollow 77 = .ok (.iload_n 1, 1) := by decide +kernel
theorem dX3_mayFollow_78 : decode cX3_mayFollow 78 = .ok (.invokevirtual 60, 3) := by decide +kernel
theorem dX3_mayFollow_81 : decode cX3_mayFollow 81 = .ok (.goto 14, 3) := by decide +kernel
theorem dX3_mayFollow_84 : decode cX3_mayFollow 84 = .ok (.aload_n 2, 1) := by decide +kernel
theorem dX3_mayFollow_85 : decode cX3_mayFollow 85 = .ok (.aload_n 0, 1) := by decide +kernel
theorem dX3_mayFollow_86 : decode cX3_mayFollow 86 = .ok (.getfield 20, 3) := by decide +kernel
theorem dX3_mayFollow_89 : decode cX3_mayFollow 89 = .ok (.iconst 0, 1) := by decide +kernel
theorem dX3_mayFollow_90 : decode cX3_mayFollow 90 = .ok (.iaload, 1) := by decide +kernel
theorem dX3_mayFollow_91 : decode cX3_mayFollow 91 = .ok (.iload_n 1, 1) := by decide +kernel
theorem dX3_mayFollow_92 : decode cX3_mayFollow 92 = .ok (.invokevirtual 63, 3) := by decide +kernel
theorem dX3_mayFollow_95 : decode cX3_mayFollow 95 = .ok (.ireturn, 1) := by decide +kernel
theorem dX3_mayOpen_0 : decode cX3_mayOpen 0 = .ok (.iload_n 1, 1) := by decide +kernel
theorem dX3_mayOpen_1 : decode cX3_mayOpen 1 = .ok (.lookupswitch 50 #[(65, 40), (76, 45), (84, 35)], 35) := by decide +kernel
theorem dX3_mayOpen_36 : decode cX3_mayOpen 36 = .ok (.aload_n 2, 1) := by decide +kernel
theorem dX3_mayOpen_37 : decode cX3_mayOpen 37 = .ok (.invokevirtual 36, 3) := by decide +kernel
theorem dX3_mayOpen_40 : decode cX3_mayOpen 40 = .ok (.ireturn, 1) := by decide +kernel
theorem dX3_mayOpen_41 : decode cX3_mayOpen 41 = .ok (.aload_n 2, 1) := by decide +kernel
theorem dX3_mayOpen_42 : decode cX3_mayOpen 42 = .ok (.invokevirtual 40, 3) := by decide +kernel
theorem dX3_mayOpen_45 : decode cX3_mayOpen 45 = .ok (.ireturn, 1) := by decide +kernel
theorem dX3_mayOpen_46 : decode cX3_mayOpen 46 = .ok (.aload_n 2, 1) := by decide +kernel
theorem dX3_mayOpen_47 : decode cX3_mayOpen 47 = .ok (.invokevirtual 43, 3) := by decide +kernel
theorem dX3_mayOpen_50 : decode cX3_mayOpen 50 = .ok (.ireturn, 1) := by decide +kernel
theorem dX3_mayOpen_51 : decode cX3_mayOpen 51 = .ok (.iconst 0, 1) := by decide +kernel
theorem dX3_mayOpen_52 : decode cX3_mayOpen 52 = .ok (.ireturn, 1) := by decide +kernel
theorem dX3_startAnew_0 : decode cX3_startAnew 0 = .ok (.aload_n 0, 1) := by decide +kernel
theorem dX3_startAnew_1 : decode cX3_startAnew 1 = .ok (.iconst 0, 1) := by decide +kernel
theorem dX3_startAnew_2 : decode cX3_startAnew 2 = .ok (.putfield 7, 3) := by decide +kernel
theorem dX3_startAnew_5 : decode cX3_startAnew 5 = .ok (.aload_n 0, 1) := by decide +kernel
theorem dX3_startAnew_6 : decode cX3_startAnew 6 = .ok (.iconst 0, 1) := by decide +kernel
theorem dX3_startAnew_7 : decode cX3_startAnew 7 = .ok (.putfield 13, 3) := by decide +kernel
theorem dX3_startAnew_10 : decode cX3_startAnew 10 = .ok (.aload_n 1, 1) := by decide +kernel
theorem dX3_startAnew_11 : decode cX3_startAnew 11 = .ok (.invokevirtual 24, 3) := by decide +kernel
theorem dX3_startAnew_14 : decode cX3_startAnew 14 = .ok (.return_, 1) := by decide +kernel
theorem dX3_takesFigure_0 : decode cX3_takesFigure 0 = .ok (.iload_n 1, 1) := by decide +kernel
theorem dX3_takesFigure_1 : decode cX3_takesFigure 1 = .ok (.ifCond .lt 33, 3) := by decide +kernel
theorem dX3_takesFigure_4 : decode cX3_takesFigure 4 = .ok (.iload_n 1, 1) := by decide +kernel
theorem dX3_takesFigure_5 : decode cX3_takesFigure 5 = .ok (.bipush 9, 2) := by decide +kernel
theorem dX3_takesFigure_7 : decode cX3_takesFigure 7 = .ok (.if_icmp .gt 27, 3) := by decide +kernel
theorem dX3_takesFigure_10 : decode cX3_takesFigure 10 = .ok (.aload_n 0, 1) := by decide +kernel
theorem dX3_takesFigure_11 : decode cX3_takesFigure 11 = .ok (.getfield 17, 3) := by decide +kernel
theorem dX3_takesFigure_14 : decode cX3_takesFigure 14 = .ok (.ifCond .lt 20, 3) := by decide +kernel
theorem dX3_takesFigure_17 : decode cX3_takesFigure 17 = .ok (.aload_n 0, 1) := by decide +kernel
theorem dX3_takesFigure_18 : decode cX3_takesFigure 18 = .ok (.getfield 17, 3) := by decide +kernel
theorem dX3_takesFigure_21 : decode cX3_takesFigure 21 = .ok (.iconst 5, 1) := by decide +kernel
theorem dX3_takesFigure_22 : decode cX3_takesFigure 22 = .ok (.if_icmp .ge 12, 3) := by decide +kernel
theorem dX3_takesFigure_25 : decode cX3_takesFigure 25 = .ok (.aload_n 0, 1) := by decide +kernel
theorem dX3_takesFigure_26 : decode cX3_takesFigure 26 = .ok (.iload_n 1, 1) := by decide +kernel
theorem dX3_takesFigure_27 : decode cX3_takesFigure 27 = .ok (.aload_n 2, 1) := by decide +kernel
theorem dX3_takesFigure_28 : decode cX3_takesFigure 28 = .ok (.invokevirtual 46, 3) := by decide +kernel
theorem dX3_takesFigure_31 : decode cX3_takesFigure 31 = .ok (.ifCond .ne 5, 3) := by decide +kernel
theorem dX3_takesFigure_34 : decode cX3_takesFigure 34 = .ok (.iconst 0, 1) := by decide +kernel
theorem dX3_takesFigure_35 : decode cX3_takesFigure 35 = .ok (.ireturn, 1) := by decide +kernel
theorem dX3_takesFigure_36 : decode cX3_takesFigure 36 = .ok (.aload_n 0, 1) := by decide +kernel
theorem dX3_takesFigure_37 : decode cX3_takesFigure 37 = .ok (.getfield 20, 3) := by decide +kernel
theorem dX3_takesFigure_40 : decode cX3_takesFigure 40 = .ok (.aload_n 0, 1) := by decide +kernel
theorem dX3_takesFigure_41 : decode cX3_takesFigure 41 = .ok (.getfield 17, 3) := by decide +kernel
theorem dX3_takesFigure_44 : decode cX3_takesFigure 44 = .ok (.iload_n 1, 1) := by decide +kernel
theorem dX3_takesFigure_45 : decode cX3_takesFigure 45 = .ok (.iastore, 1) := by decide +kernel
theorem dX3_takesFigure_46 : decode cX3_takesFigure 46 = .ok (.aload_n 0, 1) := by decide +kernel
theorem dX3_takesFigure_47 : decode cX3_takesFigure 47 = .ok (.dup, 1) := by decide +kernel
theorem dX3_takesFigure_48 : decode cX3_takesFigure 48 = .ok (.getfield 17, 3) := by decide +kernel
theorem dX3_takesFigure_51 : decode cX3_takesFigure 51 = .ok (.iconst 1, 1) := by decide +kernel
theorem dX3_takesFigure_52 : decode cX3_takesFigure 52 = .ok (.iadd, 1) := by decide +kernel
theorem dX3_takesFigure_53 : decode cX3_takesFigure 53 = .ok (.putfield 17, 3) := by decide +kernel
theorem dX3_takesFigure_56 : decode cX3_takesFigure 56 = .ok (.aload_n 0, 1) := by decide +kernel
theorem dX3_takesFigure_57 : decode cX3_takesFigure 57 = .ok (.getfield 17, 3) := by decide +kernel
theorem dX3_takesFigure_60 : decode cX3_takesFigure 60 = .ok (.aload_n 0, 1) := by decide +kernel
theorem dX3_takesFigure_61 : decode cX3_takesFigure 61 = .ok (.getfield 13, 3) := by decide +kernel
theorem dX3_takesFigure_64 : decode cX3_takesFigure 64 = .ok (.bipush 84, 2) := by decide +kernel
theorem dX3_takesFigure_66 : decode cX3_takesFigure 66 = .ok (.if_icmp .ne 7, 3) := by decide +kernel
theorem dX3_takesFigure_69 : decode cX3_takesFigure 69 = .ok (.iconst 5, 1) := by decide +kernel
theorem dX3_takesFigure_70 : decode cX3_takesFigure 70 = .ok (.goto 4, 3) := by decide +kernel
theorem dX3_takesFigure_73 : decode cX3_takesFigure 73 = .ok (.iconst 2, 1) := by decide +kernel
theorem dX3_takesFigure_74 : decode cX3_takesFigure 74 = .ok (.if_icmp .ne 8, 3) := by decide +kernel
theorem dX3_takesFigure_77 : decode cX3_takesFigure 77 = .ok (.aload_n 0, 1) := by decide +kernel
theorem dX3_takesFigure_78 : decode cX3_takesFigure 78 = .ok (.aload_n 2, 1) := by decide +kernel
theorem dX3_takesFigure_79 : decode cX3_takesFigure 79 = .ok (.invokevirtual 49, 3) := by decide +kernel
theorem dX3_takesFigure_82 : decode cX3_takesFigure 82 = .ok (.iconst 1, 1) := by decide +kernel
theorem dX3_takesFigure_83 : decode cX3_takesFigure 83 = .ok (.ireturn, 1) := by decide +kernel
theorem dX3_takes_0 : decode cX3_takes 0 = .ok (.aload_n 0, 1) := by decide +kernel
theorem dX3_takes_1 : decode cX3_takes 1 = .ok (.getfield 7, 3) := by decide +kernel
theorem dX3_takes_4 : decode cX3_takes 4 = .ok (.ifCond .ne 23, 3) := by decide +kernel
theorem dX3_takes_7 : decode cX3_takes 7 = .ok (.aload_n 0, 1) := by decide +kernel
theorem dX3_takes_8 : decode cX3_takes 8 = .ok (.iload_n 1, 1) := by decide +kernel
theorem dX3_takes_9 : decode cX3_takes 9 = .ok (.bipush 67, 2) := by decide +kernel
theorem dX3_takes_11 : decode cX3_takes 11 = .ok (.if_icmp .ne 7, 3) := by decide +kernel
theorem dX3_takes_14 : decode cX3_takes 14 = .ok (.iconst 1, 1) := by decide +kernel
theorem dX3_takes_15 : decode cX3_takes 15 = .ok (.goto 4, 3) := by decide +kernel
theorem dX3_takes_18 : decode cX3_takes 18 = .ok (.iconst 0, 1) := by decide +kernel
theorem dX3_takes_19 : decode cX3_takes 19 = .ok (.putfield 7, 3) := by decide +kernel
theorem dX3_takes_22 : decode cX3_takes 22 = .ok (.aload_n 0, 1) := by decide +kernel
theorem dX3_takes_23 : decode cX3_takes 23 = .ok (.getfield 7, 3) := by decide +kernel
theorem dX3_takes_26 : decode cX3_takes 26 = .ok (.ireturn, 1) := by decide +kernel
theorem dX3_takes_27 : decode cX3_takes 27 = .ok (.aload_n 0, 1) := by decide +kernel
theorem dX3_takes_28 : decode cX3_takes 28 = .ok (.getfield 13, 3) := by decide +kernel
theorem dX3_takes_31 : decode cX3_takes 31 = .ok (.ifCond .ne 39, 3) := by decide +kernel
theorem dX3_takes_34 : decode cX3_takes 34 = .ok (.aload_n 0, 1) := by decide +kernel
theorem dX3_takes_35 : decode cX3_takes 35 = .ok (.aload_n 0, 1) := by decide +kernel
theorem dX3_takes_36 : decode cX3_takes 36 = .ok (.iload_n 1, 1) := by decide +kernel
theorem dX3_takes_37 : decode cX3_takes 37 = .ok (.aload_n 2, 1) := by decide +kernel
theorem dX3_takes_38 : decode cX3_takes 38 = .ok (.invokevirtual 29, 3) := by decide +kernel
theorem dX3_takes_41 : decode cX3_takes 41 = .ok (.ifCond .eq 7, 3) := by decide +kernel
theorem dX3_takes_44 : decode cX3_takes 44 = .ok (.iload_n 1, 1) := by decide +kernel
theorem dX3_takes_45 : decode cX3_takes 45 = .ok (.goto 4, 3) := by decide +kernel
theorem dX3_takes_48 : decode cX3_takes 48 = .ok (.iconst 0, 1) := by decide +kernel
theorem dX3_takes_49 : decode cX3_takes 49 = .ok (.putfield 13, 3) := by decide +kernel
theorem dX3_takes_52 : decode cX3_takes 52 = .ok (.aload_n 0, 1) := by decide +kernel
theorem dX3_takes_53 : decode cX3_takes 53 = .ok (.iconst 0, 1) := by decide +kernel
theorem dX3_takes_54 : decode cX3_takes 54 = .ok (.putfield 17, 3) := by decide +kernel
theorem dX3_takes_57 : decode cX3_takes 57 = .ok (.aload_n 0, 1) := by decide +kernel
theorem dX3_takes_58 : decode cX3_takes 58 = .ok (.getfield 13, 3) := by decide +kernel
theorem dX3_takes_61 : decode cX3_takes 61 = .ok (.ifCond .eq 7, 3) := by decide +kernel
theorem dX3_takes_64 : decode cX3_takes 64 = .ok (.iconst 1, 1) := by decide +kernel
theorem dX3_takes_65 : decode cX3_takes 65 = .ok (.goto 4, 3) := by decide +kernel
theorem dX3_takes_68 : decode cX3_takes 68 = .ok (.iconst 0, 1) := by decide +kernel
theorem dX3_takes_69 : decode cX3_takes 69 = .ok (.ireturn, 1) := by decide +kernel
theorem dX3_takes_70 : decode cX3_takes 70 = .ok (.aload_n 0, 1) := by decide +kernel
theorem dX3_takes_71 : decode cX3_takes 71 = .ok (.iload_n 1, 1) := by decide +kernel
theorem dX3_takes_72 : decode cX3_takes 72 = .ok (.bipush 48, 2) := by decide +kernel
theorem dX3_takes_74 : decode cX3_takes 74 = .ok (.isub, 1) := by decide +kernel
theorem dX3_takes_75 : decode cX3_takes 75 = .ok (.aload_n 2, 1) := by decide +kernel
theorem dX3_takes_76 : decode cX3_takes 76 = .ok (.invokevirtual 33, 3) := by decide +kernel
theorem dX3_takes_79 : decode cX3_takes 79 = .ok (.ireturn, 1) := by decide +kernel
theorem dX4_add_0 : decode cX4_add 0 = .ok (.aload_n 0, 1) := by decide +kernel
theorem dX4_add_1 : decode cX4_add 1 = .ok (.getfield 18, 3) := by decide +kernel
theorem dX4_add_4 : decode cX4_add 4 = .ok (.bipush 6, 2) := by decide +kernel
theorem dX4_add_6 : decode cX4_add 6 = .ok (.if_icmp .ge 33, 3) := by decide +kernel
theorem dX4_add_9 : decode cX4_add 9 = .ok (.aload_n 0, 1) := by decide +kernel
theorem dX4_add_10 : decode cX4_add 10 = .ok (.getfield 9, 3) := by decide +kernel
theorem dX4_add_13 : decode cX4_add 13 = .ok (.aload_n 0, 1) := by decide +kernel
theorem dX4_add_14 : decode cX4_add 14 = .ok (.getfield 18, 3) := by decide +kernel
theorem dX4_add_17 : decode cX4_add 17 = .ok (.iload_n 1, 1) := by decide +kernel
theorem dX4_add_18 : decode cX4_add 18 = .ok (.iastore, 1) := by decide +kernel
theorem dX4_add_19 : decode cX4_add 19 = .ok (.aload_n 0, 1) := by decide +kernel
theorem dX4_add_20 : decode cX4_add 20 = .ok (.getfield 15, 3) := by decide +kernel
theorem dX4_add_23 : decode cX4_add 23 = .ok (.aload_n 0, 1) := by decide +kernel
theorem dX4_add_24 : decode cX4_add 24 = .ok (.getfield 18, 3) := by decide +kernel
theorem dX4_add_27 : decode cX4_add 27 = .ok (.iload_n 2, 1) := by decide +kernel
theorem dX4_add_28 : decode cX4_add 28 = .ok (.iastore, 1) := by decide +kernel
theorem dX4_add_29 : decode cX4_add 29 = .ok (.aload_n 0, 1) := by decide +kernel
theorem dX4_add_30 : decode cX4_add 30 = .ok (.dup, 1) := by decide +kernel
theorem dX4_add_31 : decode cX4_add 31 = .ok (.getfield 18, 3) := by decide +kernel
theorem dX4_add_34 : decode cX4_add 34 = .ok (.iconst 1, 1) := by decide +kernel
theorem dX4_add_35 : decode cX4_add 35 = .ok (.iadd, 1) := by decide +kernel
theorem dX4_add_36 : decode cX4_add 36 = .ok (.putfield 18, 3) := by decide +kernel
theorem dX4_add_39 : decode cX4_add 39 = .ok (.return_, 1) := by decide +kernel
theorem dX4_fits_0 : decode cX4_fits 0 = .ok (.iconst 0, 1) := by decide +kernel
theorem dX4_fits_1 : decode cX4_fits 1 = .ok (.istore_n 3, 1) := by decide +kernel
theorem dX4_fits_2 : decode cX4_fits 2 = .ok (.iload_n 3, 1) := by decide +kernel
theorem dX4_fits_3 : decode cX4_fits 3 = .ok (.aload_n 0, 1) := by decide +kernel
theorem dX4_fits_4 : decode cX4_fits 4 = .ok (.getfield 18, 3) := by decide +kernel
theorem dX4_fits_7 : decode cX4_fits 7 = .ok (.if_icmp .ge 45, 3) := by decide +kernel
theorem dX4_fits_10 : decode cX4_fits 10 = .ok (.aload_n 1, 1) := by decide +kernel
theorem dX4_fits_11 : decode cX4_fits 11 = .ok (.aload_n 0, 1) := by decide +kernel
theorem dX4_fits_12 : decode cX4_fits 12 = .ok (.getfield 9, 3) := by decide +kernel
theorem dX4_fits_15 : decode cX4_fits 15 = .ok (.iload_n 3, 1) := by decide +kernel
theorem dX4_fits_16 : decode cX4_fits 16 = .ok (.iaload, 1) := by decide +kernel
theorem dX4_fits_17 : decode cX4_fits 17 = .ok (.invokevirtual 22, 3) := by decide +kernel
theorem dX4_fits_20 : decode cX4_fits 20 = .ok (.ifCond .eq 26, 3) := by decide +kernel
theorem dX4_fits_23 : decode cX4_fits 23 = .ok (.aload_n 1, 1) := by decide +kernel
theorem dX4_fits_24 : decode cX4_fits 24 = .ok (.iload_n 2, 1) := by decide +kernel
theorem dX4_fits_25 : decode cX4_fits 25 = .ok (.aload_n 0, 1) := by decide +kernel
theorem dX4_fits_26 : decode cX4_fits 26 = .ok (.getfield 9, 3) := by decide +kernel
theorem dX4_fits_29 : decode cX4_fits 29 = .ok (.iload_n 3, 1) := by decide +kernel
theorem dX4_fits_30 : decode cX4_fits 30 = .ok (.iaload, 1) := by decide +kernel
theorem dX4_fits_31 : decode cX4_fits 31 = .ok (.iconst 0, 1) := by decide +kernel
theorem dX4_fits_32 : decode cX4_fits 32 = .ok (.invokevirtual 28, 3) := by decide +kernel
theorem dX4_fits_35 : decode cX4_fits 35 = .ok (.aload_n 0, 1) := by decide +kernel
theorem dX4_fits_36 : decode cX4_fits 36 = .ok (.getfield 15, 3) := by decide +kernel
theorem dX4_fits_39 : decode cX4_fits 39 = .ok (.iload_n 3, 1) := by decide +kernel
theorem dX4_fits_40 : decode cX4_fits 40 = .ok (.iaload, 1) := by decide +kernel
theorem dX4_fits_41 : decode cX4_fits 41 = .ok (.if_icmp .eq 5, 3) := by decide +kernel
theorem dX4_fits_44 : decode cX4_fits 44 = .ok (.iconst 0, 1) := by decide +kernel
theorem dX4_fits_45 : decode cX4_fits 45 = .ok (.ireturn, 1) := by decide +kernel
theorem dX4_fits_46 : decode cX4_fits 46 = .ok (.iinc 3 1, 3) := by decide +kernel
theorem dX4_fits_49 : decode cX4_fits 49 = .ok (.goto (-47), 3) := by decide +kernel
theorem dX4_fits_52 : decode cX4_fits 52 = .ok (.iconst 1, 1) := by decide +kernel
theorem dX4_fits_53 : decode cX4_fits 53 = .ok (.ireturn, 1) := by decide +kernel
abbrev rm_X0_forgetFirst : Room := { frames := 1, cells := 0, slots := 0, locals := 80 }
set_option maxHeartbeats 4000000 in
set_option maxRecDepth 100000 in
theorem c_X0_forgetFirst (l : Launch) (D : va_G) (cI cZ cO : ClassId) (N : Nat) (a0 : Nat → Nat) (u0 : TU) (sz : Nat) (out : TU) (h : f_X0_forgetFirst N u0 = some out) : Met l yX0_forgetFirst wsX0_forgetFirst rm_X0_forgetFirst (va_Pc [.ref (a0 0)] (mk_Pe D vwCl (tyA cI cZ cO) (wX0 cI a0 u0) sz)) (va_Qv (fun u => u = out) (mk_Be D vwCl (wX0 cI a0 u0) sz (fun q => (wX0 cI a0 q))) (va_A (wX0 cI a0 u0) sz)) 0 0 (va_A (wX0 cI a0 u0) sz) := by
  refine em_v (own := RX0) (cc := cX0_forgetFirst) (maxL := 1) (by decide) rfl rfl (Nat.le_of_ble_eq_true rfl) ?_
  intro p e s m args below meth c Q A H0 H locs ls hx hb hml hown hts hP hK hD hS hA hl hret
  have hl : lv_has ls 1 [(0, .ref (a0 0))] := hl
  have hiX0 : ∀ w ∈ u_ws RX0 TX0 4, w ∈ wsX0_forgetFirst := mk_seg 9 4 rfl
  unfold f_X0_forgetFirst at h
  refine lv_aload_n hx hb dX0_forgetFirst_0 rfl (lv_at hl 0 rfl) ?_
  refine lv_bipush (v := (15 : Int32)) hx hb dX0_forgetFirst_1 (by decide) ?_
  obtain ⟨w_1, ew_1, h⟩ := mk_nmE h
  refine va_put (D := D) (ci := 0) (v := .int (15 : Int32)) (ty := .int) (C := RX0) (T := TX0) (N := 4) hx hb hts hiX0 tyX0 tyX0_ok nmX0 hown hK hP hD hS 0 rfl rfl 3 (by decide) (hts (.fieldLink RX0 21 "ClockOnce$Acts" "size" "I") (List.mem_of_getElem? (i := 1) rfl)) (fun _ h9 => h9) rfl (by decide +kernel) rfl rfl (Nat.le_of_ble_eq_true rfl) dX0_forgetFirst_3 (fun H locs hP hD hS => ?_)
  have hP : va_P D vwCl (wX0 cI a0 w_1) H := by rw [ew_1]; exact hP
  have hD : va_D A (wX0 cI a0 w_1) := by rw [ew_1]; exact hD
  refine lv_aload_n hx hb dX0_forgetFirst_6 rfl (lv_at hl 0 rfl) ?_
  refine va_get (D := D) (ci := 0) (v := .ref (a0 1)) (C := RX0) (T := TX0) (N := 4) hx hb hts hiX0 hown hK hP 0 rfl rfl 0 (by decide) (hts (.fieldLink RX0 9 "ClockOnce$Acts" "kinds" "[I") (List.mem_of_getElem? (i := 2) rfl)) (fun _ h9 => h9) rfl dX0_forgetFirst_7 ?_
  refine lv_iconst (v := (1 : Int32)) hx hb dX0_forgetFirst_10 (by decide) ?_
  refine lv_aload_n hx hb dX0_forgetFirst_11 rfl (lv_at hl 0 rfl) ?_
  refine va_get (D := D) (ci := 0) (v := .ref (a0 1)) (C := RX0) (T := TX0) (N := 4) hx hb hts hiX0 hown hK hP 0 rfl rfl 0 (by decide) (hts (.fieldLink RX0 9 "ClockOnce$Acts" "kinds" "[I") (List.mem_of_getElem? (i := 2) rfl)) (fun _ h9 => h9) rfl dX0_forgetFirst_12 ?_
  refine lv_iconst (v := (0 : Int32)) hx hb dX0_forgetFirst_15 (by decide) ?_
  refine lv_aload_n hx hb dX0_forgetFirst_16 rfl (lv_at hl 0 rfl) ?_
  refine va_get (D := D) (ci := 0) (v := .int (w_1 0 0)) (C := RX0) (T := TX0) (N := 4) hx hb hts hiX0 hown hK hP 0 rfl rfl 3 (by decide) (hts (.fieldLink RX0 21 "ClockOnce$Acts" "size" "I") (List.mem_of_getElem? (i := 1) rfl)) (fun _ h9 => h9) rfl dX0_forgetFirst_17 ?_
  obtain ⟨hc_2, h⟩ := mk_cpE h
  obtain ⟨w_3, ew_3, h⟩ := mk_nmE h
  refine va_copyi hx hb (hml.trans hl.1.symm) hown (hts (.methodLink RX0 28 arraycopyName) (List.mem_of_getElem? (i := 3) rfl)) (hts (.native arraycopyName) (List.mem_of_getElem? (i := 4) rfl)) (hts (.static arraycopyName) (List.mem_of_getElem? (i := 5) rfl)) (hts (.initialized "java/lang/System") (List.mem_of_getElem? (i := 6) rfl)) hK hP hD hS 1 1 0 0 rfl rfl rfl rfl rfl hc_2.1 hc_2.2.1 hc_2.2.2.1 hc_2.2.2.2.1 hc_2.2.2.2.2 (fun _ _ => rfl) (Nat.le_of_ble_eq_true rfl) (by decide) dX0_forgetFirst_20 (fun H locs hP hD hS => ?_)
  have hP : va_P D vwCl (wX0 cI a0 w_3) H := by rw [ew_3]; exact hP
  have hD : va_D A (wX0 cI a0 w_3) := by rw [ew_3]; exact hD
  refine lv_aload_n hx hb dX0_forgetFirst_23 rfl (lv_at hl 0 rfl) ?_
  refine va_get (D := D) (ci := 0) (v := .ref (a0 2)) (C := RX0) (T := TX0) (N := 4) hx hb hts hiX0 hown hK hP 0 rfl rfl 1 (by decide) (hts (.fieldLink RX0 15 "ClockOnce$Acts" "whos" "[I") (List.mem_of_getElem? (i := 7) rfl)) (fun _ h9 => h9) rfl dX0_forgetFirst_24 ?_
  refine lv_iconst (v := (1 : Int32)) hx hb dX0_forgetFirst_27 (by decide) ?_
  refine lv_aload_n hx hb dX0_forgetFirst_28 rfl (lv_at hl 0 rfl) ?_
  refine va_get (D := D) (ci := 0) (v := .ref (a0 2)) (C := RX0) (T := TX0) (N := 4) hx hb hts hiX0 hown hK hP 0 rfl rfl 1 (by decide) (hts (.fieldLink RX0 15 "ClockOnce$Acts" "whos" "[I") (List.mem_of_getElem? (i := 7) rfl)) (fun _ h9 => h9) rfl dX0_forgetFirst_29 ?_
  refine lv_iconst (v := (0 : Int32)) hx hb dX0_forgetFirst_32 (by decide) ?_
  refine lv_aload_n hx hb dX0_forgetFirst_33 rfl (lv_at hl 0 rfl) ?_
  refine va_get (D := D) (ci := 0) (v := .int (w_3 0 0)) (C := RX0) (T := TX0) (N := 4) hx hb hts hiX0 hown hK hP 0 rfl rfl 3 (by decide) (hts (.fieldLink RX0 21 "ClockOnce$Acts" "size" "I") (List.mem_of_getElem? (i := 1) rfl)) (fun _ h9 => h9) rfl dX0_forgetFirst_34 ?_
  obtain ⟨hc_4, h⟩ := mk_cpE h
  obtain ⟨w_5, ew_5, h⟩ := mk_nmE h
  refine va_copyi hx hb (hml.trans hl.1.symm) hown (hts (.methodLink RX0 28 arraycopyName) (List.mem_of_getElem? (i := 3) rfl)) (hts (.native arraycopyName) (List.mem_of_getElem? (i := 4) rfl)) (hts (.static arraycopyName) (List.mem_of_getElem? (i := 5) rfl)) (hts (.initialized "java/lang/System") (List.mem_of_getElem? (i := 6) rfl)) hK hP hD hS 2 2 0 0 rfl rfl rfl rfl rfl hc_4.1 hc_4.2.1 hc_4.2.2.1 hc_4.2.2.2.1 hc_4.2.2.2.2 (fun _ _ => rfl) (Nat.le_of_ble_eq_true rfl) (by decide) dX0_forgetFirst_37 (fun H locs hP hD hS => ?_)
  have hP : va_P D vwCl (wX0 cI a0 w_5) H := by rw [ew_5]; exact hP
  have hD : va_D A (wX0 cI a0 w_5) := by rw [ew_5]; exact hD
  refine lv_aload_n hx hb dX0_forgetFirst_40 rfl (lv_at hl 0 rfl) ?_
  refine va_get (D := D) (ci := 0) (v := .ref (a0 3)) (C := RX0) (T := TX0) (N := 4) hx hb hts hiX0 hown hK hP 0 rfl rfl 2 (by decide) (hts (.fieldLink RX0 18 "ClockOnce$Acts" "gains" "[I") (List.mem_of_getElem? (i := 8) rfl)) (fun _ h9 => h9) rfl dX0_forgetFirst_41 ?_
  refine lv_iconst (v := (1 : Int32)) hx hb dX0_forgetFirst_44 (by decide) ?_
  refine lv_aload_n hx hb dX0_forgetFirst_45 rfl (lv_at hl 0 rfl) ?_
  refine va_get (D := D) (ci := 0) (v := .ref (a0 3)) (C := RX0) (T := TX0) (N := 4) hx hb hts hiX0 hown hK hP 0 rfl rfl 2 (by decide) (hts (.fieldLink RX0 18 "ClockOnce$Acts" "gains" "[I") (List.mem_of_getElem? (i := 8) rfl)) (fun _ h9 => h9) rfl dX0_forgetFirst_46 ?_
  refine lv_iconst (v := (0 : Int32)) hx hb dX0_forgetFirst_49 (by decide) ?_
  refine lv_aload_n hx hb dX0_forgetFirst_50 rfl (lv_at hl 0 rfl) ?_
  refine va_get (D := D) (ci := 0) (v := .int (w_5 0 0)) (C := RX0) (T := TX0) (N := 4) hx hb hts hiX0 hown hK hP 0 rfl rfl 3 (by decide) (hts (.fieldLink RX0 21 "ClockOnce$Acts" "size" "I") (List.mem_of_getElem? (i := 1) rfl)) (fun _ h9 => h9) rfl dX0_forgetFirst_51 ?_
  obtain ⟨hc_6, h⟩ := mk_cpE h
  obtain ⟨w_7, ew_7, h⟩ := mk_nmE h
  refine va_copyi hx hb (hml.trans hl.1.symm) hown (hts (.methodLink RX0 28 arraycopyName) (List.mem_of_getElem? (i := 3) rfl)) (hts (.native arraycopyName) (List.mem_of_getElem? (i := 4) rfl)) (hts (.static arraycopyName) (List.mem_of_getElem? (i := 5) rfl)) (hts (.initialized "java/lang/System") (List.mem_of_getElem? (i := 6) rfl)) hK hP hD hS 3 3 0 0 rfl rfl rfl rfl rfl hc_6.1 hc_6.2.1 hc_6.2.2.1 hc_6.2.2.2.1 hc_6.2.2.2.2 (fun _ _ => rfl) (Nat.le_of_ble_eq_true rfl) (by decide) dX0_forgetFirst_54 (fun H locs hP hD hS => ?_)
  have hP : va_P D vwCl (wX0 cI a0 w_7) H := by rw [ew_7]; exact hP
  have hD : va_D A (wX0 cI a0 w_7) := by rw [ew_7]; exact hD
  exact hret _ _ _ _ _ h hP hD hS dX0_forgetFirst_57

abbrev rm_X0_add : Room := { frames := 2, cells := 0, slots := 0, locals := 100 }
set_option maxRecDepth 20000 in
theorem k_X0_add_X0_forgetFirst_25 : GoodIn wsX0_add (wsV RX0 25 RX0 yX0_forgetFirst wsX0_forgetFirst) := goodIn_r _ [5, 6, 7, 8, 9, 1, 2, 10, 11, 12, 13, 3, 4, 14, 15, 16, 17] rfl (by decide +kernel)
set_option maxHeartbeats 4000000 in
set_option maxRecDepth 100000 in
theorem c_X0_add (l : Launch) (D : va_G) (cI cZ cO : ClassId) (N : Nat) (a0 : Nat → Nat) (u0 : TU) (p1 : Int32) (p2 : Int32) (p3 : Int32) (sz : Nat) (out : TU) (h : f_X0_add N u0 p1 p2 p3 = some out) : Met l yX0_add wsX0_add rm_X0_add (va_Pc [.ref (a0 0), .int p1, .int p2, .int p3] (mk_Pe D vwCl (tyA cI cZ cO) (wX0 cI a0 u0) sz)) (va_Qv (fun u => u = out) (mk_Be D vwCl (wX0 cI a0 u0) sz (fun q => (wX0 cI a0 q))) (va_A (wX0 cI a0 u0) sz)) 0 0 (va_A (wX0 cI a0 u0) sz) := by
  refine em_v (own := RX0) (cc := cX0_add) (maxL := 4) (by decide) rfl rfl (Nat.le_of_ble_eq_true rfl) ?_
  intro p e s m args below meth c Q A H0 H locs ls hx hb hml hown hts hP hK hD hS hA hl hret
  have hl : lv_has ls 4 [(0, .ref (a0 0)), (1, .int p1), (2, .int p2), (3, .int p3)] := hl
  have hiX0 : ∀ w ∈ u_ws RX0 TX0 4, w ∈ wsX0_add := mk_seg 14 4 rfl
  have K13 : ∀ (u0 : TU) (x1 : Int32) (x2 : Int32) (x3 : Int32) (H : Heap) (locs : List Loc) (ls : Array Slot), va_P D vwCl (wX0 cI a0 u0) H → va_D A (wX0 cI a0 u0) → va_S A H0 H locs → lv_has ls 4 [(0, .ref (a0 0)), (1, .int x1), (2, .int x2), (3, .int x3)] → g_X0_add_13 N u0 x1 x2 x3 = some out → W p l e rm_X0_add s m args below meth c H locs 0 0 Q (F0 m 13 ls []) := by
    intro u0 x1 x2 x3 H locs ls hP hD hS hl h
    unfold g_X0_add_13 at h
    refine lv_aload_n hx hb dX0_add_13 rfl (lv_at hl 0 rfl) ?_
    refine va_get (D := D) (ci := 0) (v := .ref (a0 1)) (C := RX0) (T := TX0) (N := 4) hx hb hts hiX0 hown hK hP 0 rfl rfl 0 (by decide) (hts (.fieldLink RX0 9 "ClockOnce$Acts" "kinds" "[I") (List.mem_of_getElem? (i := 2) rfl)) (fun _ h9 => h9) rfl dX0_add_14 ?_
    refine lv_aload_n hx hb dX0_add_17 rfl (lv_at hl 0 rfl) ?_
    refine va_get (D := D) (ci := 0) (v := .int (u0 0 0)) (C := RX0) (T := TX0) (N := 4) hx hb hts hiX0 hown hK hP 0 rfl rfl 3 (by decide) (hts (.fieldLink RX0 21 "ClockOnce$Acts" "size" "I") (List.mem_of_getElem? (i := 1) rfl)) (fun _ h9 => h9) rfl dX0_add_18 ?_
    refine lv_iload_n hx hb dX0_add_21 rfl (lv_at hl 1 rfl) ?_
    obtain ⟨hx_1, h⟩ := mk_ixE h
    obtain ⟨w_2, ew_2, h⟩ := mk_nmE h
    refine va_iast hx hb hK hP hD hS 1 0 rfl rfl hx_1 dX0_add_22 (fun H locs hP hD hS => ?_)
    have hP : va_P D vwCl (wX0 cI a0 w_2) H := by rw [ew_2]; exact hP
    have hD : va_D A (wX0 cI a0 w_2) := by rw [ew_2]; exact hD
    refine lv_aload_n hx hb dX0_add_23 rfl (lv_at hl 0 rfl) ?_
    refine va_get (D := D) (ci := 0) (v := .ref (a0 2)) (C := RX0) (T := TX0) (N := 4) hx hb hts hiX0 hown hK hP 0 rfl rfl 1 (by decide) (hts (.fieldLink RX0 15 "ClockOnce$Acts" "whos" "[I") (List.mem_of_getElem? (i := 3) rfl)) (fun _ h9 => h9) rfl dX0_add_24 ?_
    refine lv_aload_n hx hb dX0_add_27 rfl (lv_at hl 0 rfl) ?_
    refine va_get (D := D) (ci := 0) (v := .int (w_2 0 0)) (C := RX0) (T := TX0) (N := 4) hx hb hts hiX0 hown hK hP 0 rfl rfl 3 (by decide) (hts (.fieldLink RX0 21 "ClockOnce$Acts" "size" "I") (List.mem_of_getElem? (i := 1) rfl)) (fun _ h9 => h9) rfl dX0_add_28 ?_
    refine lv_iload_n hx hb dX0_add_31 rfl (lv_at hl 2 rfl) ?_
    obtain ⟨hx_3, h⟩ := mk_ixE h
    obtain ⟨w_4, ew_4, h⟩ := mk_nmE h
    refine va_iast hx hb hK hP hD hS 2 0 rfl rfl hx_3 dX0_add_32 (fun H locs hP hD hS => ?_)
    have hP : va_P D vwCl (wX0 cI a0 w_4) H := by rw [ew_4]; exact hP
    have hD : va_D A (wX0 cI a0 w_4) := by rw [ew_4]; exact hD
    refine lv_aload_n hx hb dX0_add_33 rfl (lv_at hl 0 rfl) ?_
    refine va_get (D := D) (ci := 0) (v := .ref (a0 3)) (C := RX0) (T := TX0) (N := 4) hx hb hts hiX0 hown hK hP 0 rfl rfl 2 (by decide) (hts (.fieldLink RX0 18 "ClockOnce$Acts" "gains" "[I") (List.mem_of_getElem? (i := 4) rfl)) (fun _ h9 => h9) rfl dX0_add_34 ?_
    refine lv_aload_n hx hb dX0_add_37 rfl (lv_at hl 0 rfl) ?_
    refine va_get (D := D) (ci := 0) (v := .int (w_4 0 0)) (C := RX0) (T := TX0) (N := 4) hx hb hts hiX0 hown hK hP 0 rfl rfl 3 (by decide) (hts (.fieldLink RX0 21 "ClockOnce$Acts" "size" "I") (List.mem_of_getElem? (i := 1) rfl)) (fun _ h9 => h9) rfl dX0_add_38 ?_
    refine lv_iload_n hx hb dX0_add_41 rfl (lv_at hl 3 rfl) ?_
    obtain ⟨hx_5, h⟩ := mk_ixE h
    obtain ⟨w_6, ew_6, h⟩ := mk_nmE h
    refine va_iast hx hb hK hP hD hS 3 0 rfl rfl hx_5 dX0_add_42 (fun H locs hP hD hS => ?_)
    have hP : va_P D vwCl (wX0 cI a0 w_6) H := by rw [ew_6]; exact hP
    have hD : va_D A (wX0 cI a0 w_6) := by rw [ew_6]; exact hD
    refine lv_aload_n hx hb dX0_add_43 rfl (lv_at hl 0 rfl) ?_
    refine lv_dup hx hb dX0_add_44 rfl ?_
    refine va_get (D := D) (ci := 0) (v := .int (w_6 0 0)) (C := RX0) (T := TX0) (N := 4) hx hb hts hiX0 hown hK hP 0 rfl rfl 3 (by decide) (hts (.fieldLink RX0 21 "ClockOnce$Acts" "size" "I") (List.mem_of_getElem? (i := 1) rfl)) (fun _ h9 => h9) rfl dX0_add_45 ?_
    refine lv_iconst (v := (1 : Int32)) hx hb dX0_add_48 (by decide) ?_
    refine lv_iadd hx hb dX0_add_49 ?_
    obtain ⟨w_7, ew_7, h⟩ := mk_nmE h
    refine va_put (D := D) (ci := 0) (v := .int ((w_6 0 0) + (1 : Int32))) (ty := .int) (C := RX0) (T := TX0) (N := 4) hx hb hts hiX0 tyX0 tyX0_ok nmX0 hown hK hP hD hS 0 rfl rfl 3 (by decide) (hts (.fieldLink RX0 21 "ClockOnce$Acts" "size" "I") (List.mem_of_getElem? (i := 1) rfl)) (fun _ h9 => h9) rfl (by decide +kernel) rfl rfl (Nat.le_of_ble_eq_true rfl) dX0_add_50 (fun H locs hP hD hS => ?_)
    have hP : va_P D vwCl (wX0 cI a0 w_7) H := by rw [ew_7]; exact hP
    have hD : va_D A (wX0 cI a0 w_7) := by rw [ew_7]; exact hD
    exact hret _ _ _ _ _ h hP hD hS dX0_add_53
  unfold f_X0_add at h
  refine lv_aload_n hx hb dX0_add_0 rfl (lv_at hl 0 rfl) ?_
  refine va_get (D := D) (ci := 0) (v := .int (u0 0 0)) (C := RX0) (T := TX0) (N := 4) hx hb hts hiX0 hown hK hP 0 rfl rfl 3 (by decide) (hts (.fieldLink RX0 21 "ClockOnce$Acts" "size" "I") (List.mem_of_getElem? (i := 1) rfl)) (fun _ h9 => h9) rfl dX0_add_1 ?_
  refine lv_bipush (v := (16 : Int32)) hx hb dX0_add_4 (by decide) ?_
  refine lv_icmp_lt (tgt := 13) hx hb dX0_add_6 (by decide) (fun q_8 => ?_) (fun q_8 => ?_)
  · have h := mk_ifp q_8 h
    exact K13 u0 p1 p2 p3 H locs ls hP hD hS (lv_sub hl [0, 1, 2, 3] rfl) h
  · have h := mk_ifn q_8 h
    refine lv_aload_n hx hb dX0_add_9 rfl (lv_at hl 0 rfl) ?_
    obtain ⟨r_9, er_9, h⟩ := mk_bd h
    refine es_vv (As := []) (rest := []) (w' := (wX0 cI a0 r_9)) ⟨hx, hb, hml, hown, hts⟩ (c_X0_forgetFirst l D cI cZ cO N a0 u0 H.size r_9 er_9) (cwV 0 hts k_X0_add_X0_forgetFirst_25 rfl rfl rfl (by decide +kernel) ⟨(Nat.le_of_ble_eq_true rfl), (Nat.le_of_ble_eq_true rfl)⟩) (va_recv hK hP (ci := 0) (q0 := 0) rfl rfl) hK hP hD hS hA rfl rfl hl.1 rfl (Nat.le_of_ble_eq_true rfl) dX0_add_10 ⟨Nat.zero_le _, Nat.zero_le _⟩ (fun H locs hP hD hS => ?_)
    exact K13 r_9 p1 p2 p3 H locs ls hP hD hS (lv_sub hl [0, 1, 2, 3] rfl) h

abbrev rm_X0_takeBackLast : Room := { frames := 0, cells := 0, slots := 0, locals := 0 }
set_option maxHeartbeats 4000000 in
set_option maxRecDepth 100000 in
theorem c_X0_takeBackLast (l : Launch) (D : va_G) (cI cZ cO : ClassId) (N : Nat) (a0 : Nat → Nat) (u0 : TU) (a1 : Nat → Nat) (u1 : TU) (sz : Nat) (out : TU × TU) (h : f_X0_takeBackLast N u0 u1 = some out) : Met l yX0_takeBackLast wsX0_takeBackLast rm_X0_takeBackLast (va_Pc [.ref (a0 0), .ref (a1 0)] (mk_Pe D vwCl (tyA cI cZ cO) (wX0 cI a0 u0 ++ wX2 cI a1 u1) sz)) (va_Qv (fun u => u = out) (mk_Be D vwCl (wX0 cI a0 u0 ++ wX2 cI a1 u1) sz (fun q => (wX0 cI a0 q.1 ++ wX2 cI a1 q.2))) (va_A (wX0 cI a0 u0 ++ wX2 cI a1 u1) sz)) 0 0 (va_A (wX0 cI a0 u0 ++ wX2 cI a1 u1) sz) := by
  refine em_v (own := RX0) (cc := cX0_takeBackLast) (maxL := 2) (by decide) rfl rfl (Nat.le_of_ble_eq_true rfl) ?_
  intro p e s m args below meth c Q A H0 H locs ls hx hb hml hown hts hP hK hD hS hA hl hret
  have hl : lv_has ls 2 [(0, .ref (a0 0)), (1, .ref (a1 0))] := hl
  have hiX0 : ∀ w ∈ u_ws RX0 TX0 4, w ∈ wsX0_takeBackLast := mk_seg 9 4 rfl
  have hiX2 : ∀ w ∈ u_ws RX2 TX2 5, w ∈ wsX0_takeBackLast := mk_seg 13 5 rfl
  unfold f_X0_takeBackLast at h
  refine lv_aload_n hx hb dX0_takeBackLast_0 rfl (lv_at hl 0 rfl) ?_
  refine va_get (D := D) (ci := 0) (v := .int (u0 0 0)) (C := RX0) (T := TX0) (N := 4) hx hb hts hiX0 hown hK hP 0 rfl rfl 3 (by decide) (hts (.fieldLink RX0 21 "ClockOnce$Acts" "size" "I") (List.mem_of_getElem? (i := 1) rfl)) (fun _ h9 => h9) rfl dX0_takeBackLast_1 ?_
  refine lv_if_gt (tgt := 8) hx hb dX0_takeBackLast_4 (by decide) (fun q_1 => ?_) (fun q_1 => ?_)
  · have h := mk_ifp q_1 h
    refine lv_aload_n hx hb dX0_takeBackLast_8 rfl (lv_at hl 0 rfl) ?_
    refine lv_dup hx hb dX0_takeBackLast_9 rfl ?_
    refine va_get (D := D) (ci := 0) (v := .int (u0 0 0)) (C := RX0) (T := TX0) (N := 4) hx hb hts hiX0 hown hK hP 0 rfl rfl 3 (by decide) (hts (.fieldLink RX0 21 "ClockOnce$Acts" "size" "I") (List.mem_of_getElem? (i := 1) rfl)) (fun _ h9 => h9) rfl dX0_takeBackLast_10 ?_
    refine lv_iconst (v := (1 : Int32)) hx hb dX0_takeBackLast_13 (by decide) ?_
    refine lv_isub hx hb dX0_takeBackLast_14 ?_
    obtain ⟨w_2, ew_2, h⟩ := mk_nmE h
    refine va_put (D := D) (ci := 0) (v := .int ((u0 0 0) - (1 : Int32))) (ty := .int) (C := RX0) (T := TX0) (N := 4) hx hb hts hiX0 tyX0 tyX0_ok nmX0 hown hK hP hD hS 0 rfl rfl 3 (by decide) (hts (.fieldLink RX0 21 "ClockOnce$Acts" "size" "I") (List.mem_of_getElem? (i := 1) rfl)) (fun _ h9 => h9) rfl (by decide +kernel) rfl rfl (Nat.le_of_ble_eq_true rfl) dX0_takeBackLast_15 (fun H locs hP hD hS => ?_)
    have hP : va_P D vwCl (wX0 cI a0 w_2 ++ wX2 cI a1 u1) H := by rw [ew_2]; exact hP
    have hD : va_D A (wX0 cI a0 w_2 ++ wX2 cI a1 u1) := by rw [ew_2]; exact hD
    refine lv_aload_n hx hb dX0_takeBackLast_18 rfl (lv_at hl 1 rfl) ?_
    refine lv_dup hx hb dX0_takeBackLast_19 rfl ?_
    refine va_get (D := D) (ci := 2) (v := .int (u1 0 1)) (C := RX2) (T := TX2) (N := 5) hx hb hts hiX2 hown hK hP 4 rfl rfl 1 (by decide) (hts (.fieldLink RX0 34 "ClockOnce$Life" "coins" "I") (List.mem_of_getElem? (i := 2) rfl)) (fun _ h9 => h9) rfl dX0_takeBackLast_20 ?_
    refine lv_aload_n hx hb dX0_takeBackLast_23 rfl (lv_at hl 0 rfl) ?_
    refine va_get (D := D) (ci := 0) (v := .ref (a0 3)) (C := RX0) (T := TX0) (N := 4) hx hb hts hiX0 hown hK hP 0 rfl rfl 2 (by decide) (hts (.fieldLink RX0 18 "ClockOnce$Acts" "gains" "[I") (List.mem_of_getElem? (i := 3) rfl)) (fun _ h9 => h9) rfl dX0_takeBackLast_24 ?_
    refine lv_aload_n hx hb dX0_takeBackLast_27 rfl (lv_at hl 0 rfl) ?_
    refine va_get (D := D) (ci := 0) (v := .int (w_2 0 0)) (C := RX0) (T := TX0) (N := 4) hx hb hts hiX0 hown hK hP 0 rfl rfl 3 (by decide) (hts (.fieldLink RX0 21 "ClockOnce$Acts" "size" "I") (List.mem_of_getElem? (i := 1) rfl)) (fun _ h9 => h9) rfl dX0_takeBackLast_28 ?_
    obtain ⟨v_3, ev_3, hiv_3, h⟩ := mk_rdE h
    refine va_iald hx hb hK hP 3 0 rfl rfl hiv_3 dX0_takeBackLast_31 ?_
    refine mk_topi ev_3 ?_
    refine lv_isub hx hb dX0_takeBackLast_32 ?_
    obtain ⟨w_4, ew_4, h⟩ := mk_nmE h
    refine va_put (D := D) (ci := 2) (v := .int ((u1 0 1) - v_3)) (ty := .int) (C := RX2) (T := TX2) (N := 5) hx hb hts hiX2 tyX2 tyX2_ok nmX2 hown hK hP hD hS 4 rfl rfl 1 (by decide) (hts (.fieldLink RX0 34 "ClockOnce$Life" "coins" "I") (List.mem_of_getElem? (i := 2) rfl)) (fun _ h9 => h9) rfl (by decide +kernel) rfl rfl (Nat.le_of_ble_eq_true rfl) dX0_takeBackLast_33 (fun H locs hP hD hS => ?_)
    have hP : va_P D vwCl (wX0 cI a0 w_2 ++ wX2 cI a1 w_4) H := by rw [ew_4]; exact hP
    have hD : va_D A (wX0 cI a0 w_2 ++ wX2 cI a1 w_4) := by rw [ew_4]; exact hD
    refine lv_aload_n hx hb dX0_takeBackLast_36 rfl (lv_at hl 0 rfl) ?_
    refine va_get (D := D) (ci := 0) (v := .ref (a0 1)) (C := RX0) (T := TX0) (N := 4) hx hb hts hiX0 hown hK hP 0 rfl rfl 0 (by decide) (hts (.fieldLink RX0 9 "ClockOnce$Acts" "kinds" "[I") (List.mem_of_getElem? (i := 4) rfl)) (fun _ h9 => h9) rfl dX0_takeBackLast_37 ?_
    refine lv_aload_n hx hb dX0_takeBackLast_40 rfl (lv_at hl 0 rfl) ?_
    refine va_get (D := D) (ci := 0) (v := .int (w_2 0 0)) (C := RX0) (T := TX0) (N := 4) hx hb hts hiX0 hown hK hP 0 rfl rfl 3 (by decide) (hts (.fieldLink RX0 21 "ClockOnce$Acts" "size" "I") (List.mem_of_getElem? (i := 1) rfl)) (fun _ h9 => h9) rfl dX0_takeBackLast_41 ?_
    obtain ⟨v_5, ev_5, hiv_5, h⟩ := mk_rdE h
    refine va_iald hx hb hK hP 1 0 rfl rfl hiv_5 dX0_takeBackLast_44 ?_
    refine mk_topi ev_5 ?_
    refine lv_iconst (v := (1 : Int32)) hx hb dX0_takeBackLast_45 (by decide) ?_
    refine lv_icmp_ne (tgt := 62) hx hb dX0_takeBackLast_46 (by decide) (fun q_6 => ?_) (fun q_6 => ?_)
    · have h := mk_ifn q_6 h
      refine lv_aload_n hx hb dX0_takeBackLast_62 rfl (lv_at hl 0 rfl) ?_
      refine va_get (D := D) (ci := 0) (v := .ref (a0 1)) (C := RX0) (T := TX0) (N := 4) hx hb hts hiX0 hown hK hP 0 rfl rfl 0 (by decide) (hts (.fieldLink RX0 9 "ClockOnce$Acts" "kinds" "[I") (List.mem_of_getElem? (i := 4) rfl)) (fun _ h9 => h9) rfl dX0_takeBackLast_63 ?_
      refine lv_aload_n hx hb dX0_takeBackLast_66 rfl (lv_at hl 0 rfl) ?_
      refine va_get (D := D) (ci := 0) (v := .int (w_2 0 0)) (C := RX0) (T := TX0) (N := 4) hx hb hts hiX0 hown hK hP 0 rfl rfl 3 (by decide) (hts (.fieldLink RX0 21 "ClockOnce$Acts" "size" "I") (List.mem_of_getElem? (i := 1) rfl)) (fun _ h9 => h9) rfl dX0_takeBackLast_67 ?_
      obtain ⟨v_7, ev_7, hiv_7, h⟩ := mk_rdE h
      refine va_iald hx hb hK hP 1 0 rfl rfl hiv_7 dX0_takeBackLast_70 ?_
      refine mk_topi ev_7 ?_
      refine lv_iconst (v := (2 : Int32)) hx hb dX0_takeBackLast_71 (by decide) ?_
      refine lv_icmp_ne (tgt := 94) hx hb dX0_takeBackLast_72 (by decide) (fun q_8 => ?_) (fun q_8 => ?_)
      · have h := mk_ifn q_8 h
        refine lv_aload_n hx hb dX0_takeBackLast_94 rfl (lv_at hl 1 rfl) ?_
        refine va_get (D := D) (ci := 2) (v := .ref (a1 1)) (C := RX2) (T := TX2) (N := 5) hx hb hts hiX2 hown hK hP 4 rfl rfl 2 (by decide) (hts (.fieldLink RX0 45 "ClockOnce$Life" "askedOf" "[I") (List.mem_of_getElem? (i := 8) rfl)) (fun _ h9 => h9) rfl dX0_takeBackLast_95 ?_
        refine lv_aload_n hx hb dX0_takeBackLast_98 rfl (lv_at hl 0 rfl) ?_
        refine va_get (D := D) (ci := 0) (v := .ref (a0 2)) (C := RX0) (T := TX0) (N := 4) hx hb hts hiX0 hown hK hP 0 rfl rfl 1 (by decide) (hts (.fieldLink RX0 15 "ClockOnce$Acts" "whos" "[I") (List.mem_of_getElem? (i := 7) rfl)) (fun _ h9 => h9) rfl dX0_takeBackLast_99 ?_
        refine lv_aload_n hx hb dX0_takeBackLast_102 rfl (lv_at hl 0 rfl) ?_
        refine va_get (D := D) (ci := 0) (v := .int (w_2 0 0)) (C := RX0) (T := TX0) (N := 4) hx hb hts hiX0 hown hK hP 0 rfl rfl 3 (by decide) (hts (.fieldLink RX0 21 "ClockOnce$Acts" "size" "I") (List.mem_of_getElem? (i := 1) rfl)) (fun _ h9 => h9) rfl dX0_takeBackLast_103 ?_
        obtain ⟨v_9, ev_9, hiv_9, h⟩ := mk_rdE h
        refine va_iald hx hb hK hP 2 0 rfl rfl hiv_9 dX0_takeBackLast_106 ?_
        refine mk_topi ev_9 ?_
        refine lv_bipush (v := (-9 : Int32)) hx hb dX0_takeBackLast_107 (by decide) ?_
        obtain ⟨hx_10, h⟩ := mk_ixE h
        obtain ⟨w_11, ew_11, h⟩ := mk_nmE h
        refine va_iast hx hb hK hP hD hS 5 0 rfl rfl hx_10 dX0_takeBackLast_109 (fun H locs hP hD hS => ?_)
        have hP : va_P D vwCl (wX0 cI a0 w_2 ++ wX2 cI a1 w_11) H := by rw [ew_11]; exact hP
        have hD : va_D A (wX0 cI a0 w_2 ++ wX2 cI a1 w_11) := by rw [ew_11]; exact hD
        exact hret _ _ _ _ _ h hP hD hS dX0_takeBackLast_110
      · have h := mk_ifp q_8 h
        refine lv_aload_n hx hb dX0_takeBackLast_75 rfl (lv_at hl 1 rfl) ?_
        refine va_get (D := D) (ci := 2) (v := .ref (a1 2)) (C := RX2) (T := TX2) (N := 5) hx hb hts hiX2 hown hK hP 4 rfl rfl 3 (by decide) (hts (.fieldLink RX0 42 "ClockOnce$Life" "soldOn" "[I") (List.mem_of_getElem? (i := 6) rfl)) (fun _ h9 => h9) rfl dX0_takeBackLast_76 ?_
        refine lv_aload_n hx hb dX0_takeBackLast_79 rfl (lv_at hl 0 rfl) ?_
        refine va_get (D := D) (ci := 0) (v := .ref (a0 2)) (C := RX0) (T := TX0) (N := 4) hx hb hts hiX0 hown hK hP 0 rfl rfl 1 (by decide) (hts (.fieldLink RX0 15 "ClockOnce$Acts" "whos" "[I") (List.mem_of_getElem? (i := 7) rfl)) (fun _ h9 => h9) rfl dX0_takeBackLast_80 ?_
        refine lv_aload_n hx hb dX0_takeBackLast_83 rfl (lv_at hl 0 rfl) ?_
        refine va_get (D := D) (ci := 0) (v := .int (w_2 0 0)) (C := RX0) (T := TX0) (N := 4) hx hb hts hiX0 hown hK hP 0 rfl rfl 3 (by decide) (hts (.fieldLink RX0 21 "ClockOnce$Acts" "size" "I") (List.mem_of_getElem? (i := 1) rfl)) (fun _ h9 => h9) rfl dX0_takeBackLast_84 ?_
        obtain ⟨v_12, ev_12, hiv_12, h⟩ := mk_rdE h
        refine va_iald hx hb hK hP 2 0 rfl rfl hiv_12 dX0_takeBackLast_87 ?_
        refine mk_topi ev_12 ?_
        refine lv_bipush (v := (-9 : Int32)) hx hb dX0_takeBackLast_88 (by decide) ?_
        obtain ⟨hx_13, h⟩ := mk_ixE h
        obtain ⟨w_14, ew_14, h⟩ := mk_nmE h
        refine va_iast hx hb hK hP hD hS 6 0 rfl rfl hx_13 dX0_takeBackLast_90 (fun H locs hP hD hS => ?_)
        have hP : va_P D vwCl (wX0 cI a0 w_2 ++ wX2 cI a1 w_14) H := by rw [ew_14]; exact hP
        have hD : va_D A (wX0 cI a0 w_2 ++ wX2 cI a1 w_14) := by rw [ew_14]; exact hD
        refine lv_goto (tgt := 110) hx hb dX0_takeBackLast_91 (by decide) ?_
        exact hret _ _ _ _ _ h hP hD hS dX0_takeBackLast_110
    · have h := mk_ifp q_6 h
      refine lv_aload_n hx hb dX0_takeBackLast_49 rfl (lv_at hl 1 rfl) ?_
      refine lv_dup hx hb dX0_takeBackLast_50 rfl ?_
      refine va_get (D := D) (ci := 2) (v := .int (w_4 0 0)) (C := RX2) (T := TX2) (N := 5) hx hb hts hiX2 hown hK hP 4 rfl rfl 0 (by decide) (hts (.fieldLink RX0 39 "ClockOnce$Life" "day" "I") (List.mem_of_getElem? (i := 5) rfl)) (fun _ h9 => h9) rfl dX0_takeBackLast_51 ?_
      refine lv_iconst (v := (1 : Int32)) hx hb dX0_takeBackLast_54 (by decide) ?_
      refine lv_isub hx hb dX0_takeBackLast_55 ?_
      obtain ⟨w_15, ew_15, h⟩ := mk_nmE h
      refine va_put (D := D) (ci := 2) (v := .int ((w_4 0 0) - (1 : Int32))) (ty := .int) (C := RX2) (T := TX2) (N := 5) hx hb hts hiX2 tyX2 tyX2_ok nmX2 hown hK hP hD hS 4 rfl rfl 0 (by decide) (hts (.fieldLink RX0 39 "ClockOnce$Life" "day" "I") (List.mem_of_getElem? (i := 5) rfl)) (fun _ h9 => h9) rfl (by decide +kernel) rfl rfl (Nat.le_of_ble_eq_true rfl) dX0_takeBackLast_56 (fun H locs hP hD hS => ?_)
      have hP : va_P D vwCl (wX0 cI a0 w_2 ++ wX2 cI a1 w_15) H := by rw [ew_15]; exact hP
      have hD : va_D A (wX0 cI a0 w_2 ++ wX2 cI a1 w_15) := by rw [ew_15]; exact hD
      refine lv_goto (tgt := 110) hx hb dX0_takeBackLast_59 (by decide) ?_
      exact hret _ _ _ _ _ h hP hD hS dX0_takeBackLast_110
  · have h := mk_ifn q_1 h
    exact hret _ _ _ _ _ h hP hD hS dX0_takeBackLast_7

abbrev rm_X2_idleAskers : Room := { frames := 0, cells := 0, slots := 0, locals := 0 }
set_option maxHeartbeats 4000000 in
set_option maxRecDepth 100000 in
theorem c_X2_idleAskers (l : Launch) (D : va_G) (cI cZ cO : ClassId) (N : Nat) (a0 : Nat → Nat) (u0 : TU) (a1 : Nat → Nat) (u1 : TU) (out : Int32) (h : f_X2_idleAskers N u0 u1 = some out) : Met l yX2_idleAskers wsX2_idleAskers rm_X2_idleAskers (va_Pc [.ref (a0 0), .ref (a1 0)] (fun U => va_P D vwCl (wX2 cI a0 u0 ++ wX5 cI a1 u1) U.heap ∧ va_K D vwCl (tyA cI cZ cO) U)) (vp_Si (fun r => r = out)) 0 0 (fun _ => False) := by
  refine pm_i (own := RX2) (cc := cX2_idleAskers) (maxL := 4) (by decide) rfl rfl (Nat.le_of_ble_eq_true rfl) ?_
  intro p e s m args below meth c Q H ls hx hb hml hown hts hP hK hl hret
  have hl : lv_has ls 4 [(0, .ref (a0 0)), (1, .ref (a1 0))] := hl
  have hiX2 : ∀ w ∈ u_ws RX2 TX2 5, w ∈ wsX2_idleAskers := mk_seg 17 5 rfl
  have hiX5 : ∀ w ∈ u_ws RX5 TX5 14, w ∈ wsX2_idleAskers := mk_seg 3 14 rfl
  have K4 : ∀ (x2 : Int32) (x3 : Int32) (ls : Array Slot), lv_has ls 4 [(0, .ref (a0 0)), (1, .ref (a1 0)), (2, .int x2), (3, .int x3)] → lq2 (g_X2_idleAskers_4 N u0 u1) N x2 x3 = some out → W p l e rm_X2_idleAskers s m args below meth c H [] 0 0 Q (F0 m 4 ls []) := by
    intro x2 x3 ls hl h
    refine lq2_W (Wd := fun x2 x3 => ∀ (ls : Array Slot), lv_has ls 4 [(0, .ref (a0 0)), (1, .ref (a1 0)), (2, .int x2), (3, .int x3)] → W p l e rm_X2_idleAskers s m args below meth c H [] 0 0 Q (F0 m 4 ls [])) (fun rec4 ih4 x2 x3 h ls hl => ?_) N x2 x3 h ls hl
    unfold g_X2_idleAskers_4 at h
    refine lv_iload_n hx hb dX2_idleAskers_4 rfl (lv_at hl 3 rfl) ?_
    refine lv_aload_n hx hb dX2_idleAskers_5 rfl (lv_at hl 1 rfl) ?_
    refine va_get (D := D) (ci := 5) (v := .int (u1 0 2)) (C := RX5) (T := TX5) (N := 14) hx hb hts hiX5 hown hK hP 3 rfl rfl 8 (by decide) (hts (.fieldLink RX2 42 "ClockOnce$Town" "askers" "I") (List.mem_of_getElem? (i := 1) rfl)) (fun _ h9 => h9) rfl dX2_idleAskers_6 ?_
    refine lv_icmp_ge (tgt := 35) hx hb dX2_idleAskers_9 (by decide) (fun q_1 => ?_) (fun q_1 => ?_)
    · have h := mk_ifp q_1 h
      refine lv_iload_n hx hb dX2_idleAskers_35 rfl (lv_at hl 2 rfl) ?_
      exact hret _ _ _ h dX2_idleAskers_36
    · have h := mk_ifn q_1 h
      refine lv_aload_n hx hb dX2_idleAskers_12 rfl (lv_at hl 0 rfl) ?_
      refine va_get (D := D) (ci := 2) (v := .ref (a0 1)) (C := RX2) (T := TX2) (N := 5) hx hb hts hiX2 hown hK hP 0 rfl rfl 2 (by decide) (hts (.fieldLink RX2 18 "ClockOnce$Life" "askedOf" "[I") (List.mem_of_getElem? (i := 2) rfl)) (fun _ h9 => h9) rfl dX2_idleAskers_13 ?_
      refine lv_iload_n hx hb dX2_idleAskers_16 rfl (lv_at hl 3 rfl) ?_
      obtain ⟨v_2, ev_2, hiv_2, h⟩ := mk_rdE h
      refine va_iald hx hb hK hP 1 0 rfl rfl hiv_2 dX2_idleAskers_17 ?_
      refine mk_topi ev_2 ?_
      refine lv_bipush (v := (-9 : Int32)) hx hb dX2_idleAskers_18 (by decide) ?_
      refine lv_icmp_ne (tgt := 29) hx hb dX2_idleAskers_20 (by decide) (fun q_3 => ?_) (fun q_3 => ?_)
      · have h := mk_ifn q_3 h
        refine lv_iinc (v := (x3 + (1 : Int32))) (lv' := [(3, .int (x3 + (1 : Int32))), (0, .ref (a0 0)), (1, .ref (a1 0)), (2, .int x2)]) hx hb dX2_idleAskers_29 hl (k := 3) rfl rfl (by decide) rfl (fun ls hl => ?_)
        refine lv_goto (tgt := 4) hx hb dX2_idleAskers_32 (by decide) ?_
        exact ih4 x2 (x3 + (1 : Int32)) h ls (lv_sub hl [1, 2, 3, 0] rfl)
      · have h := mk_ifp q_3 h
        refine lv_iload_n hx hb dX2_idleAskers_23 rfl (lv_at hl 2 rfl) ?_
        refine lv_iconst (v := (1 : Int32)) hx hb dX2_idleAskers_24 (by decide) ?_
        refine lv_iload_n hx hb dX2_idleAskers_25 rfl (lv_at hl 3 rfl) ?_
        refine lv_ishl hx hb dX2_idleAskers_26 ?_
        refine lv_ior hx hb dX2_idleAskers_27 ?_
        refine lv_istore_n (lv' := [(2, .int (x2 ||| ((1 : Int32) <<< (x3 &&& 31)))), (0, .ref (a0 0)), (1, .ref (a1 0)), (3, .int x3)]) hx hb dX2_idleAskers_28 rfl hl (by decide) rfl (fun ls hl => ?_)
        refine lv_iinc (v := (x3 + (1 : Int32))) (lv' := [(3, .int (x3 + (1 : Int32))), (2, .int (x2 ||| ((1 : Int32) <<< (x3 &&& 31)))), (0, .ref (a0 0)), (1, .ref (a1 0))]) hx hb dX2_idleAskers_29 hl (k := 3) rfl rfl (by decide) rfl (fun ls hl => ?_)
        refine lv_goto (tgt := 4) hx hb dX2_idleAskers_32 (by decide) ?_
        exact ih4 (x2 ||| ((1 : Int32) <<< (x3 &&& 31))) (x3 + (1 : Int32)) h ls (lv_sub hl [2, 3, 1, 0] rfl)
  unfold f_X2_idleAskers at h
  refine lv_iconst (v := (0 : Int32)) hx hb dX2_idleAskers_0 (by decide) ?_
  refine lv_istore_n (lv' := [(2, .int (0 : Int32)), (0, .ref (a0 0)), (1, .ref (a1 0))]) hx hb dX2_idleAskers_1 rfl hl (by decide) rfl (fun ls hl => ?_)
  refine lv_iconst (v := (0 : Int32)) hx hb dX2_idleAskers_2 (by decide) ?_
  refine lv_istore_n (lv' := [(3, .int (0 : Int32)), (2, .int (0 : Int32)), (0, .ref (a0 0)), (1, .ref (a1 0))]) hx hb dX2_idleAskers_3 rfl hl (by decide) rfl (fun ls hl => ?_)
  exact K4 (0 : Int32) (0 : Int32) ls (lv_sub hl [2, 3, 1, 0] rfl) h

abbrev rm_X2_soldThings : Room := { frames := 0, cells := 0, slots := 0, locals := 0 }
set_option maxHeartbeats 4000000 in
set_option maxRecDepth 100000 in
theorem c_X2_soldThings (l : Launch) (D : va_G) (cI cZ cO : ClassId) (N : Nat) (a0 : Nat → Nat) (u0 : TU) (a1 : Nat → Nat) (u1 : TU) (out : Int32) (h : f_X2_soldThings N u0 u1 = some out) : Met l yX2_soldThings wsX2_soldThings rm_X2_soldThings (va_Pc [.ref (a0 0), .ref (a1 0)] (fun U => va_P D vwCl (wX2 cI a0 u0 ++ wX5 cI a1 u1) U.heap ∧ va_K D vwCl (tyA cI cZ cO) U)) (vp_Si (fun r => r = out)) 0 0 (fun _ => False) := by
  refine pm_i (own := RX2) (cc := cX2_soldThings) (maxL := 4) (by decide) rfl rfl (Nat.le_of_ble_eq_true rfl) ?_
  intro p e s m args below meth c Q H ls hx hb hml hown hts hP hK hl hret
  have hl : lv_has ls 4 [(0, .ref (a0 0)), (1, .ref (a1 0))] := hl
  have hiX2 : ∀ w ∈ u_ws RX2 TX2 5, w ∈ wsX2_soldThings := mk_seg 17 5 rfl
  have hiX5 : ∀ w ∈ u_ws RX5 TX5 14, w ∈ wsX2_soldThings := mk_seg 3 14 rfl
  have K4 : ∀ (x2 : Int32) (x3 : Int32) (ls : Array Slot), lv_has ls 4 [(0, .ref (a0 0)), (1, .ref (a1 0)), (2, .int x2), (3, .int x3)] → lq2 (g_X2_soldThings_4 N u0 u1) N x2 x3 = some out → W p l e rm_X2_soldThings s m args below meth c H [] 0 0 Q (F0 m 4 ls []) := by
    intro x2 x3 ls hl h
    refine lq2_W (Wd := fun x2 x3 => ∀ (ls : Array Slot), lv_has ls 4 [(0, .ref (a0 0)), (1, .ref (a1 0)), (2, .int x2), (3, .int x3)] → W p l e rm_X2_soldThings s m args below meth c H [] 0 0 Q (F0 m 4 ls [])) (fun rec4 ih4 x2 x3 h ls hl => ?_) N x2 x3 h ls hl
    unfold g_X2_soldThings_4 at h
    refine lv_iload_n hx hb dX2_soldThings_4 rfl (lv_at hl 3 rfl) ?_
    refine lv_aload_n hx hb dX2_soldThings_5 rfl (lv_at hl 1 rfl) ?_
    refine va_get (D := D) (ci := 5) (v := .int (u1 0 0)) (C := RX5) (T := TX5) (N := 14) hx hb hts hiX5 hown hK hP 3 rfl rfl 4 (by decide) (hts (.fieldLink RX2 47 "ClockOnce$Town" "things" "I") (List.mem_of_getElem? (i := 1) rfl)) (fun _ h9 => h9) rfl dX2_soldThings_6 ?_
    refine lv_icmp_ge (tgt := 35) hx hb dX2_soldThings_9 (by decide) (fun q_1 => ?_) (fun q_1 => ?_)
    · have h := mk_ifp q_1 h
      refine lv_iload_n hx hb dX2_soldThings_35 rfl (lv_at hl 2 rfl) ?_
      exact hret _ _ _ h dX2_soldThings_36
    · have h := mk_ifn q_1 h
      refine lv_aload_n hx hb dX2_soldThings_12 rfl (lv_at hl 0 rfl) ?_
      refine va_get (D := D) (ci := 2) (v := .ref (a0 2)) (C := RX2) (T := TX2) (N := 5) hx hb hts hiX2 hown hK hP 0 rfl rfl 3 (by decide) (hts (.fieldLink RX2 22 "ClockOnce$Life" "soldOn" "[I") (List.mem_of_getElem? (i := 2) rfl)) (fun _ h9 => h9) rfl dX2_soldThings_13 ?_
      refine lv_iload_n hx hb dX2_soldThings_16 rfl (lv_at hl 3 rfl) ?_
      obtain ⟨v_2, ev_2, hiv_2, h⟩ := mk_rdE h
      refine va_iald hx hb hK hP 2 0 rfl rfl hiv_2 dX2_soldThings_17 ?_
      refine mk_topi ev_2 ?_
      refine lv_bipush (v := (-9 : Int32)) hx hb dX2_soldThings_18 (by decide) ?_
      refine lv_icmp_eq (tgt := 29) hx hb dX2_soldThings_20 (by decide) (fun q_3 => ?_) (fun q_3 => ?_)
      · have h := mk_ifp q_3 h
        refine lv_iinc (v := (x3 + (1 : Int32))) (lv' := [(3, .int (x3 + (1 : Int32))), (0, .ref (a0 0)), (1, .ref (a1 0)), (2, .int x2)]) hx hb dX2_soldThings_29 hl (k := 3) rfl rfl (by decide) rfl (fun ls hl => ?_)
        refine lv_goto (tgt := 4) hx hb dX2_soldThings_32 (by decide) ?_
        exact ih4 x2 (x3 + (1 : Int32)) h ls (lv_sub hl [1, 2, 3, 0] rfl)
      · have h := mk_ifn q_3 h
        refine lv_iload_n hx hb dX2_soldThings_23 rfl (lv_at hl 2 rfl) ?_
        refine lv_iconst (v := (1 : Int32)) hx hb dX2_soldThings_24 (by decide) ?_
        refine lv_iload_n hx hb dX2_soldThings_25 rfl (lv_at hl 3 rfl) ?_
        refine lv_ishl hx hb dX2_soldThings_26 ?_
        refine lv_ior hx hb dX2_soldThings_27 ?_
        refine lv_istore_n (lv' := [(2, .int (x2 ||| ((1 : Int32) <<< (x3 &&& 31)))), (0, .ref (a0 0)), (1, .ref (a1 0)), (3, .int x3)]) hx hb dX2_soldThings_28 rfl hl (by decide) rfl (fun ls hl => ?_)
        refine lv_iinc (v := (x3 + (1 : Int32))) (lv' := [(3, .int (x3 + (1 : Int32))), (2, .int (x2 ||| ((1 : Int32) <<< (x3 &&& 31)))), (0, .ref (a0 0)), (1, .ref (a1 0))]) hx hb dX2_soldThings_29 hl (k := 3) rfl rfl (by decide) rfl (fun ls hl => ?_)
        refine lv_goto (tgt := 4) hx hb dX2_soldThings_32 (by decide) ?_
        exact ih4 (x2 ||| ((1 : Int32) <<< (x3 &&& 31))) (x3 + (1 : Int32)) h ls (lv_sub hl [2, 3, 1, 0] rfl)
  unfold f_X2_soldThings at h
  refine lv_iconst (v := (0 : Int32)) hx hb dX2_soldThings_0 (by decide) ?_
  refine lv_istore_n (lv' := [(2, .int (0 : Int32)), (0, .ref (a0 0)), (1, .ref (a1 0))]) hx hb dX2_soldThings_1 rfl hl (by decide) rfl (fun ls hl => ?_)
  refine lv_iconst (v := (0 : Int32)) hx hb dX2_soldThings_2 (by decide) ?_
  refine lv_istore_n (lv' := [(3, .int (0 : Int32)), (2, .int (0 : Int32)), (0, .ref (a0 0)), (1, .ref (a1 0))]) hx hb dX2_soldThings_3 rfl hl (by decide) rfl (fun ls hl => ?_)
  exact K4 (0 : Int32) (0 : Int32) ls (lv_sub hl [2, 3, 1, 0] rfl) h

abbrev rm_X2_askedOfBit : Room := { frames := 0, cells := 0, slots := 0, locals := 0 }
set_option maxHeartbeats 4000000 in
set_option maxRecDepth 100000 in
theorem c_X2_askedOfBit (l : Launch) (D : va_G) (cI cZ cO : ClassId) (N : Nat) (a0 : Nat → Nat) (u0 : TU) (p1 : Int32) (out : Int32) (h : f_X2_askedOfBit N u0 p1 = some out) : Met l yX2_askedOfBit wsX2_askedOfBit rm_X2_askedOfBit (va_Pc [.ref (a0 0), .int p1] (fun U => va_P D vwCl (wX2 cI a0 u0) U.heap ∧ va_K D vwCl (tyA cI cZ cO) U)) (vp_Si (fun r => r = out)) 0 0 (fun _ => False) := by
  refine pm_i (own := RX2) (cc := cX2_askedOfBit) (maxL := 2) (by decide) rfl rfl (Nat.le_of_ble_eq_true rfl) ?_
  intro p e s m args below meth c Q H ls hx hb hml hown hts hP hK hl hret
  have hl : lv_has ls 2 [(0, .ref (a0 0)), (1, .int p1)] := hl
  have hiX2 : ∀ w ∈ u_ws RX2 TX2 5, w ∈ wsX2_askedOfBit := mk_seg 2 5 rfl
  unfold f_X2_askedOfBit at h
  refine lv_iload_n hx hb dX2_askedOfBit_0 rfl (lv_at hl 1 rfl) ?_
  refine lv_if_lt (tgt := 20) hx hb dX2_askedOfBit_1 (by decide) (fun q_1 => ?_) (fun q_1 => ?_)
  · have h := mk_ifp q_1 h
    refine lv_iconst (v := (0 : Int32)) hx hb dX2_askedOfBit_20 (by decide) ?_
    exact hret _ _ _ h dX2_askedOfBit_21
  · have h := mk_ifn q_1 h
    refine lv_iload_n hx hb dX2_askedOfBit_4 rfl (lv_at hl 1 rfl) ?_
    refine lv_iconst (v := (4 : Int32)) hx hb dX2_askedOfBit_5 (by decide) ?_
    refine lv_icmp_ge (tgt := 20) hx hb dX2_askedOfBit_6 (by decide) (fun q_2 => ?_) (fun q_2 => ?_)
    · have h := mk_ifp q_2 h
      refine lv_iconst (v := (0 : Int32)) hx hb dX2_askedOfBit_20 (by decide) ?_
      exact hret _ _ _ h dX2_askedOfBit_21
    · have h := mk_ifn q_2 h
      refine lv_aload_n hx hb dX2_askedOfBit_9 rfl (lv_at hl 0 rfl) ?_
      refine va_get (D := D) (ci := 2) (v := .ref (a0 1)) (C := RX2) (T := TX2) (N := 5) hx hb hts hiX2 hown hK hP 0 rfl rfl 2 (by decide) (hts (.fieldLink RX2 18 "ClockOnce$Life" "askedOf" "[I") (List.mem_of_getElem? (i := 1) rfl)) (fun _ h9 => h9) rfl dX2_askedOfBit_10 ?_
      refine lv_iload_n hx hb dX2_askedOfBit_13 rfl (lv_at hl 1 rfl) ?_
      obtain ⟨v_3, ev_3, hiv_3, h⟩ := mk_rdE h
      refine va_iald hx hb hK hP 1 0 rfl rfl hiv_3 dX2_askedOfBit_14 ?_
      refine mk_topi ev_3 ?_
      refine lv_bipush (v := (-9 : Int32)) hx hb dX2_askedOfBit_15 (by decide) ?_
      refine lv_icmp_ne (tgt := 22) hx hb dX2_askedOfBit_17 (by decide) (fun q_4 => ?_) (fun q_4 => ?_)
      · have h := mk_ifn q_4 h
        refine lv_iconst (v := (1 : Int32)) hx hb dX2_askedOfBit_22 (by decide) ?_
        refine lv_aload_n hx hb dX2_askedOfBit_23 rfl (lv_at hl 0 rfl) ?_
        refine va_get (D := D) (ci := 2) (v := .ref (a0 1)) (C := RX2) (T := TX2) (N := 5) hx hb hts hiX2 hown hK hP 0 rfl rfl 2 (by decide) (hts (.fieldLink RX2 18 "ClockOnce$Life" "askedOf" "[I") (List.mem_of_getElem? (i := 1) rfl)) (fun _ h9 => h9) rfl dX2_askedOfBit_24 ?_
        refine lv_iload_n hx hb dX2_askedOfBit_27 rfl (lv_at hl 1 rfl) ?_
        obtain ⟨v_5, ev_5, hiv_5, h⟩ := mk_rdE h
        refine va_iald hx hb hK hP 1 0 rfl rfl hiv_5 dX2_askedOfBit_28 ?_
        refine mk_topi ev_5 ?_
        refine lv_ishl hx hb dX2_askedOfBit_29 ?_
        exact hret _ _ _ h dX2_askedOfBit_30
      · have h := mk_ifp q_4 h
        refine lv_iconst (v := (0 : Int32)) hx hb dX2_askedOfBit_20 (by decide) ?_
        exact hret _ _ _ h dX2_askedOfBit_21

abbrev rm_X2_askedThings : Room := { frames := 1, cells := 0, slots := 0, locals := 21 }
set_option maxRecDepth 20000 in
theorem k_X2_askedThings_X2_askedOfBit_38 : GoodIn wsX2_askedThings (wsV RX2 38 RX2 yX2_askedOfBit wsX2_askedOfBit) := goodIn_r _ [1, 2, 3, 4, 5, 6, 7, 8, 9, 10, 11] rfl (by decide +kernel)
set_option maxHeartbeats 4000000 in
set_option maxRecDepth 100000 in
theorem c_X2_askedThings (l : Launch) (D : va_G) (cI cZ cO : ClassId) (N : Nat) (a0 : Nat → Nat) (u0 : TU) (out : Int32) (h : f_X2_askedThings N u0 = some out) : Met l yX2_askedThings wsX2_askedThings rm_X2_askedThings (va_Pc [.ref (a0 0)] (fun U => va_P D vwCl (wX2 cI a0 u0) U.heap ∧ va_K D vwCl (tyA cI cZ cO) U)) (vp_Si (fun r => r = out)) 0 0 (fun _ => False) := by
  refine pm_i (own := RX2) (cc := cX2_askedThings) (maxL := 3) (by decide) rfl rfl (Nat.le_of_ble_eq_true rfl) ?_
  intro p e s m args below meth c Q H ls hx hb hml hown hts hP hK hl hret
  have hl : lv_has ls 3 [(0, .ref (a0 0))] := hl
  have K4 : ∀ (x1 : Int32) (x2 : Int32) (ls : Array Slot), lv_has ls 3 [(0, .ref (a0 0)), (1, .int x1), (2, .int x2)] → lq2 (g_X2_askedThings_4 N u0) N x1 x2 = some out → W p l e rm_X2_askedThings s m args below meth c H [] 0 0 Q (F0 m 4 ls []) := by
    intro x1 x2 ls hl h
    refine lq2_W (Wd := fun x1 x2 => ∀ (ls : Array Slot), lv_has ls 3 [(0, .ref (a0 0)), (1, .int x1), (2, .int x2)] → W p l e rm_X2_askedThings s m args below meth c H [] 0 0 Q (F0 m 4 ls [])) (fun rec4 ih4 x1 x2 h ls hl => ?_) N x1 x2 h ls hl
    unfold g_X2_askedThings_4 at h
    refine lv_iload_n hx hb dX2_askedThings_4 rfl (lv_at hl 2 rfl) ?_
    refine lv_iconst (v := (4 : Int32)) hx hb dX2_askedThings_5 (by decide) ?_
    refine lv_icmp_ge (tgt := 23) hx hb dX2_askedThings_6 (by decide) (fun q_1 => ?_) (fun q_1 => ?_)
    · have h := mk_ifp q_1 h
      refine lv_iload_n hx hb dX2_askedThings_23 rfl (lv_at hl 1 rfl) ?_
      exact hret _ _ _ h dX2_askedThings_24
    · have h := mk_ifn q_1 h
      refine lv_iload_n hx hb dX2_askedThings_9 rfl (lv_at hl 1 rfl) ?_
      refine lv_aload_n hx hb dX2_askedThings_10 rfl (lv_at hl 0 rfl) ?_
      refine lv_iload_n hx hb dX2_askedThings_11 rfl (lv_at hl 2 rfl) ?_
      obtain ⟨r_2, er_2, h⟩ := mk_bd h
      refine pc_v (As := [.int x2]) (rest := [.int x1]) ⟨hx, hb, hml, hown, hts⟩ (c_X2_askedOfBit l D cI cZ cO N a0 u0 x2 r_2 er_2) (cwV 1 hts k_X2_askedThings_X2_askedOfBit_38 rfl rfl rfl (by decide +kernel) ⟨(Nat.le_of_ble_eq_true rfl), (Nat.le_of_ble_eq_true rfl)⟩) (va_recv hK hP (ci := 2) (q0 := 0) rfl rfl) hP hK rfl hl.1 rfl (Nat.le_of_ble_eq_true rfl) dX2_askedThings_12 ⟨Nat.zero_le _, Nat.zero_le _⟩ ?_
      refine lv_ior hx hb dX2_askedThings_15 ?_
      refine lv_istore_n (lv' := [(1, .int (x1 ||| r_2)), (0, .ref (a0 0)), (2, .int x2)]) hx hb dX2_askedThings_16 rfl hl (by decide) rfl (fun ls hl => ?_)
      refine lv_iinc (v := (x2 + (1 : Int32))) (lv' := [(2, .int (x2 + (1 : Int32))), (1, .int (x1 ||| r_2)), (0, .ref (a0 0))]) hx hb dX2_askedThings_17 hl (k := 2) rfl rfl (by decide) rfl (fun ls hl => ?_)
      refine lv_goto (tgt := 4) hx hb dX2_askedThings_20 (by decide) ?_
      exact ih4 (x1 ||| r_2) (x2 + (1 : Int32)) h ls (lv_sub hl [2, 1, 0] rfl)
  unfold f_X2_askedThings at h
  refine lv_iconst (v := (0 : Int32)) hx hb dX2_askedThings_0 (by decide) ?_
  refine lv_istore_n (lv' := [(1, .int (0 : Int32)), (0, .ref (a0 0))]) hx hb dX2_askedThings_1 rfl hl (by decide) rfl (fun ls hl => ?_)
  refine lv_iconst (v := (0 : Int32)) hx hb dX2_askedThings_2 (by decide) ?_
  refine lv_istore_n (lv' := [(2, .int (0 : Int32)), (1, .int (0 : Int32)), (0, .ref (a0 0))]) hx hb dX2_askedThings_3 rfl hl (by decide) rfl (fun ls hl => ?_)
  exact K4 (0 : Int32) (0 : Int32) ls (lv_sub hl [2, 1, 0] rfl) h

abbrev rm_X2_becomeLike : Room := { frames := 1, cells := 0, slots := 0, locals := 80 }
set_option maxHeartbeats 4000000 in
set_option maxRecDepth 100000 in
theorem c_X2_becomeLike (l : Launch) (D : va_G) (cI cZ cO : ClassId) (N : Nat) (a0 : Nat → Nat) (u0 : TU) (a1 : Nat → Nat) (u1 : TU) (sz : Nat) (out : TU) (h : f_X2_becomeLike N u0 u1 = some out) : Met l yX2_becomeLike wsX2_becomeLike rm_X2_becomeLike (va_Pc [.ref (a0 0), .ref (a1 0)] (mk_Pe D vwCl (tyA cI cZ cO) (wX2 cI a0 u0 ++ wX2 cI a1 u1) sz)) (va_Qv (fun u => u = out) (mk_Be D vwCl (wX2 cI a0 u0 ++ wX2 cI a1 u1) sz (fun q => (wX2 cI a0 q ++ wX2 cI a1 u1))) (va_A (wX2 cI a0 u0 ++ wX2 cI a1 u1) sz)) 0 0 (va_A (wX2 cI a0 u0 ++ wX2 cI a1 u1) sz) := by
  refine em_v (own := RX2) (cc := cX2_becomeLike) (maxL := 2) (by decide) rfl rfl (Nat.le_of_ble_eq_true rfl) ?_
  intro p e s m args below meth c Q A H0 H locs ls hx hb hml hown hts hP hK hD hS hA hl hret
  have hl : lv_has ls 2 [(0, .ref (a0 0)), (1, .ref (a1 0))] := hl
  have hiX2 : ∀ w ∈ u_ws RX2 TX2 5, w ∈ wsX2_becomeLike := mk_seg 9 5 rfl
  unfold f_X2_becomeLike at h
  refine lv_aload_n hx hb dX2_becomeLike_0 rfl (lv_at hl 0 rfl) ?_
  refine lv_aload_n hx hb dX2_becomeLike_1 rfl (lv_at hl 1 rfl) ?_
  refine va_get (D := D) (ci := 2) (v := .int (u1 0 0)) (C := RX2) (T := TX2) (N := 5) hx hb hts hiX2 hown hK hP 3 rfl rfl 0 (by decide) (hts (.fieldLink RX2 9 "ClockOnce$Life" "day" "I") (List.mem_of_getElem? (i := 1) rfl)) (fun _ h9 => h9) rfl dX2_becomeLike_2 ?_
  obtain ⟨w_1, ew_1, h⟩ := mk_nmE h
  refine va_put (D := D) (ci := 2) (v := .int (u1 0 0)) (ty := .int) (C := RX2) (T := TX2) (N := 5) hx hb hts hiX2 tyX2 tyX2_ok nmX2 hown hK hP hD hS 0 rfl rfl 0 (by decide) (hts (.fieldLink RX2 9 "ClockOnce$Life" "day" "I") (List.mem_of_getElem? (i := 1) rfl)) (fun _ h9 => h9) rfl (by decide +kernel) rfl rfl (Nat.le_of_ble_eq_true rfl) dX2_becomeLike_5 (fun H locs hP hD hS => ?_)
  have hP : va_P D vwCl (wX2 cI a0 w_1 ++ wX2 cI a1 u1) H := by rw [ew_1]; exact hP
  have hD : va_D A (wX2 cI a0 w_1 ++ wX2 cI a1 u1) := by rw [ew_1]; exact hD
  refine lv_aload_n hx hb dX2_becomeLike_8 rfl (lv_at hl 0 rfl) ?_
  refine lv_aload_n hx hb dX2_becomeLike_9 rfl (lv_at hl 1 rfl) ?_
  refine va_get (D := D) (ci := 2) (v := .int (u1 0 1)) (C := RX2) (T := TX2) (N := 5) hx hb hts hiX2 hown hK hP 3 rfl rfl 1 (by decide) (hts (.fieldLink RX2 15 "ClockOnce$Life" "coins" "I") (List.mem_of_getElem? (i := 2) rfl)) (fun _ h9 => h9) rfl dX2_becomeLike_10 ?_
  obtain ⟨w_2, ew_2, h⟩ := mk_nmE h
  refine va_put (D := D) (ci := 2) (v := .int (u1 0 1)) (ty := .int) (C := RX2) (T := TX2) (N := 5) hx hb hts hiX2 tyX2 tyX2_ok nmX2 hown hK hP hD hS 0 rfl rfl 1 (by decide) (hts (.fieldLink RX2 15 "ClockOnce$Life" "coins" "I") (List.mem_of_getElem? (i := 2) rfl)) (fun _ h9 => h9) rfl (by decide +kernel) rfl rfl (Nat.le_of_ble_eq_true rfl) dX2_becomeLike_13 (fun H locs hP hD hS => ?_)
  have hP : va_P D vwCl (wX2 cI a0 w_2 ++ wX2 cI a1 u1) H := by rw [ew_2]; exact hP
  have hD : va_D A (wX2 cI a0 w_2 ++ wX2 cI a1 u1) := by rw [ew_2]; exact hD
  refine lv_aload_n hx hb dX2_becomeLike_16 rfl (lv_at hl 1 rfl) ?_
  refine va_get (D := D) (ci := 2) (v := .ref (a1 1)) (C := RX2) (T := TX2) (N := 5) hx hb hts hiX2 hown hK hP 3 rfl rfl 2 (by decide) (hts (.fieldLink RX2 18 "ClockOnce$Life" "askedOf" "[I") (List.mem_of_getElem? (i := 3) rfl)) (fun _ h9 => h9) rfl dX2_becomeLike_17 ?_
  refine lv_iconst (v := (0 : Int32)) hx hb dX2_becomeLike_20 (by decide) ?_
  refine lv_aload_n hx hb dX2_becomeLike_21 rfl (lv_at hl 0 rfl) ?_
  refine va_get (D := D) (ci := 2) (v := .ref (a0 1)) (C := RX2) (T := TX2) (N := 5) hx hb hts hiX2 hown hK hP 0 rfl rfl 2 (by decide) (hts (.fieldLink RX2 18 "ClockOnce$Life" "askedOf" "[I") (List.mem_of_getElem? (i := 3) rfl)) (fun _ h9 => h9) rfl dX2_becomeLike_22 ?_
  refine lv_iconst (v := (0 : Int32)) hx hb dX2_becomeLike_25 (by decide) ?_
  refine lv_iconst (v := (4 : Int32)) hx hb dX2_becomeLike_26 (by decide) ?_
  obtain ⟨hc_3, h⟩ := mk_cpE h
  obtain ⟨w_4, ew_4, h⟩ := mk_nmE h
  refine va_copyi hx hb (hml.trans hl.1.symm) hown (hts (.methodLink RX2 32 arraycopyName) (List.mem_of_getElem? (i := 4) rfl)) (hts (.native arraycopyName) (List.mem_of_getElem? (i := 5) rfl)) (hts (.static arraycopyName) (List.mem_of_getElem? (i := 6) rfl)) (hts (.initialized "java/lang/System") (List.mem_of_getElem? (i := 7) rfl)) hK hP hD hS 4 1 0 0 rfl rfl rfl rfl rfl hc_3.1 hc_3.2.1 hc_3.2.2.1 hc_3.2.2.2.1 hc_3.2.2.2.2 (fun _ _ => rfl) (Nat.le_of_ble_eq_true rfl) (by decide) dX2_becomeLike_27 (fun H locs hP hD hS => ?_)
  have hP : va_P D vwCl (wX2 cI a0 w_4 ++ wX2 cI a1 u1) H := by rw [ew_4]; exact hP
  have hD : va_D A (wX2 cI a0 w_4 ++ wX2 cI a1 u1) := by rw [ew_4]; exact hD
  refine lv_aload_n hx hb dX2_becomeLike_30 rfl (lv_at hl 1 rfl) ?_
  refine va_get (D := D) (ci := 2) (v := .ref (a1 2)) (C := RX2) (T := TX2) (N := 5) hx hb hts hiX2 hown hK hP 3 rfl rfl 3 (by decide) (hts (.fieldLink RX2 22 "ClockOnce$Life" "soldOn" "[I") (List.mem_of_getElem? (i := 8) rfl)) (fun _ h9 => h9) rfl dX2_becomeLike_31 ?_
  refine lv_iconst (v := (0 : Int32)) hx hb dX2_becomeLike_34 (by decide) ?_
  refine lv_aload_n hx hb dX2_becomeLike_35 rfl (lv_at hl 0 rfl) ?_
  refine va_get (D := D) (ci := 2) (v := .ref (a0 2)) (C := RX2) (T := TX2) (N := 5) hx hb hts hiX2 hown hK hP 0 rfl rfl 3 (by decide) (hts (.fieldLink RX2 22 "ClockOnce$Life" "soldOn" "[I") (List.mem_of_getElem? (i := 8) rfl)) (fun _ h9 => h9) rfl dX2_becomeLike_36 ?_
  refine lv_iconst (v := (0 : Int32)) hx hb dX2_becomeLike_39 (by decide) ?_
  refine lv_iconst (v := (4 : Int32)) hx hb dX2_becomeLike_40 (by decide) ?_
  obtain ⟨hc_5, h⟩ := mk_cpE h
  obtain ⟨w_6, ew_6, h⟩ := mk_nmE h
  refine va_copyi hx hb (hml.trans hl.1.symm) hown (hts (.methodLink RX2 32 arraycopyName) (List.mem_of_getElem? (i := 4) rfl)) (hts (.native arraycopyName) (List.mem_of_getElem? (i := 5) rfl)) (hts (.static arraycopyName) (List.mem_of_getElem? (i := 6) rfl)) (hts (.initialized "java/lang/System") (List.mem_of_getElem? (i := 7) rfl)) hK hP hD hS 5 2 0 0 rfl rfl rfl rfl rfl hc_5.1 hc_5.2.1 hc_5.2.2.1 hc_5.2.2.2.1 hc_5.2.2.2.2 (fun _ _ => rfl) (Nat.le_of_ble_eq_true rfl) (by decide) dX2_becomeLike_41 (fun H locs hP hD hS => ?_)
  have hP : va_P D vwCl (wX2 cI a0 w_6 ++ wX2 cI a1 u1) H := by rw [ew_6]; exact hP
  have hD : va_D A (wX2 cI a0 w_6 ++ wX2 cI a1 u1) := by rw [ew_6]; exact hD
  exact hret _ _ _ _ _ h hP hD hS dX2_becomeLike_44

abbrev rm_X2_heardBy : Room := { frames := 1, cells := 0, slots := 0, locals := 21 }
set_option maxRecDepth 20000 in
theorem k_X2_heardBy_X2_askedOfBit_38 : GoodIn wsX2_heardBy (wsV RX2 38 RX2 yX2_askedOfBit wsX2_askedOfBit) := goodIn_r _ [1, 2, 3, 4, 5, 6, 7, 8, 9, 10, 11] rfl (by decide +kernel)
set_option maxHeartbeats 4000000 in
set_option maxRecDepth 100000 in
theorem c_X2_heardBy (l : Launch) (D : va_G) (cI cZ cO : ClassId) (N : Nat) (a0 : Nat → Nat) (u0 : TU) (p1 : Int32) (out : Int32) (h : f_X2_heardBy N u0 p1 = some out) : Met l yX2_heardBy wsX2_heardBy rm_X2_heardBy (va_Pc [.ref (a0 0), .int p1] (fun U => va_P D vwCl (wX2 cI a0 u0) U.heap ∧ va_K D vwCl (tyA cI cZ cO) U)) (vp_Si (fun r => r = out)) 0 0 (fun _ => False) := by
  refine pm_i (own := RX2) (cc := cX2_heardBy) (maxL := 2) (by decide) rfl rfl (Nat.le_of_ble_eq_true rfl) ?_
  intro p e s m args below meth c Q H ls hx hb hml hown hts hP hK hl hret
  have hl : lv_has ls 2 [(0, .ref (a0 0)), (1, .int p1)] := hl
  unfold f_X2_heardBy at h
  refine lv_aload_n hx hb dX2_heardBy_0 rfl (lv_at hl 0 rfl) ?_
  refine lv_iload_n hx hb dX2_heardBy_1 rfl (lv_at hl 1 rfl) ?_
  refine lv_iconst (v := (1 : Int32)) hx hb dX2_heardBy_2 (by decide) ?_
  refine lv_isub hx hb dX2_heardBy_3 ?_
  obtain ⟨r_1, er_1, h⟩ := mk_bd h
  refine pc_v (As := [.int (p1 - (1 : Int32))]) (rest := []) ⟨hx, hb, hml, hown, hts⟩ (c_X2_askedOfBit l D cI cZ cO N a0 u0 (p1 - (1 : Int32)) r_1 er_1) (cwV 1 hts k_X2_heardBy_X2_askedOfBit_38 rfl rfl rfl (by decide +kernel) ⟨(Nat.le_of_ble_eq_true rfl), (Nat.le_of_ble_eq_true rfl)⟩) (va_recv hK hP (ci := 2) (q0 := 0) rfl rfl) hP hK rfl hl.1 rfl (Nat.le_of_ble_eq_true rfl) dX2_heardBy_4 ⟨Nat.zero_le _, Nat.zero_le _⟩ ?_
  refine lv_aload_n hx hb dX2_heardBy_7 rfl (lv_at hl 0 rfl) ?_
  refine lv_iload_n hx hb dX2_heardBy_8 rfl (lv_at hl 1 rfl) ?_
  obtain ⟨r_2, er_2, h⟩ := mk_bd h
  refine pc_v (As := [.int p1]) (rest := [.int r_1]) ⟨hx, hb, hml, hown, hts⟩ (c_X2_askedOfBit l D cI cZ cO N a0 u0 p1 r_2 er_2) (cwV 1 hts k_X2_heardBy_X2_askedOfBit_38 rfl rfl rfl (by decide +kernel) ⟨(Nat.le_of_ble_eq_true rfl), (Nat.le_of_ble_eq_true rfl)⟩) (va_recv hK hP (ci := 2) (q0 := 0) rfl rfl) hP hK rfl hl.1 rfl (Nat.le_of_ble_eq_true rfl) dX2_heardBy_9 ⟨Nat.zero_le _, Nat.zero_le _⟩ ?_
  refine lv_ior hx hb dX2_heardBy_12 ?_
  refine lv_aload_n hx hb dX2_heardBy_13 rfl (lv_at hl 0 rfl) ?_
  refine lv_iload_n hx hb dX2_heardBy_14 rfl (lv_at hl 1 rfl) ?_
  refine lv_iconst (v := (1 : Int32)) hx hb dX2_heardBy_15 (by decide) ?_
  refine lv_iadd hx hb dX2_heardBy_16 ?_
  obtain ⟨r_3, er_3, h⟩ := mk_bd h
  refine pc_v (As := [.int (p1 + (1 : Int32))]) (rest := [.int (r_1 ||| r_2)]) ⟨hx, hb, hml, hown, hts⟩ (c_X2_askedOfBit l D cI cZ cO N a0 u0 (p1 + (1 : Int32)) r_3 er_3) (cwV 1 hts k_X2_heardBy_X2_askedOfBit_38 rfl rfl rfl (by decide +kernel) ⟨(Nat.le_of_ble_eq_true rfl), (Nat.le_of_ble_eq_true rfl)⟩) (va_recv hK hP (ci := 2) (q0 := 0) rfl rfl) hP hK rfl hl.1 rfl (Nat.le_of_ble_eq_true rfl) dX2_heardBy_17 ⟨Nat.zero_le _, Nat.zero_le _⟩ ?_
  refine lv_ior hx hb dX2_heardBy_20 ?_
  exact hret _ _ _ h dX2_heardBy_21

abbrev rm_X2_startAnew : Room := { frames := 0, cells := 0, slots := 0, locals := 0 }
set_option maxHeartbeats 4000000 in
set_option maxRecDepth 100000 in
theorem c_X2_startAnew (l : Launch) (D : va_G) (cI cZ cO : ClassId) (N : Nat) (a0 : Nat → Nat) (u0 : TU) (sz : Nat) (out : TU) (h : f_X2_startAnew N u0 = some out) : Met l yX2_startAnew wsX2_startAnew rm_X2_startAnew (va_Pc [.ref (a0 0)] (mk_Pe D vwCl (tyA cI cZ cO) (wX2 cI a0 u0) sz)) (va_Qv (fun u => u = out) (mk_Be D vwCl (wX2 cI a0 u0) sz (fun q => (wX2 cI a0 q))) (va_A (wX2 cI a0 u0) sz)) 0 0 (va_A (wX2 cI a0 u0) sz) := by
  refine em_v (own := RX2) (cc := cX2_startAnew) (maxL := 2) (by decide) rfl rfl (Nat.le_of_ble_eq_true rfl) ?_
  intro p e s m args below meth c Q A H0 H locs ls hx hb hml hown hts hP hK hD hS hA hl hret
  have hl : lv_has ls 2 [(0, .ref (a0 0))] := hl
  have hiX2 : ∀ w ∈ u_ws RX2 TX2 5, w ∈ wsX2_startAnew := mk_seg 5 5 rfl
  have K33 : ∀ (u0 : TU) (x1 : Int32) (H : Heap) (locs : List Loc) (ls : Array Slot), va_P D vwCl (wX2 cI a0 u0) H → va_D A (wX2 cI a0 u0) → va_S A H0 H locs → lv_has ls 2 [(0, .ref (a0 0)), (1, .int x1)] → lq2 (g_X2_startAnew_33 N) N u0 x1 = some out → W p l e rm_X2_startAnew s m args below meth c H locs 0 0 Q (F0 m 33 ls []) := by
    intro u0 x1 H locs ls hP hD hS hl h
    refine lq2_W (Wd := fun u0 x1 => ∀ (H : Heap) (locs : List Loc) (ls : Array Slot), va_P D vwCl (wX2 cI a0 u0) H → va_D A (wX2 cI a0 u0) → va_S A H0 H locs → lv_has ls 2 [(0, .ref (a0 0)), (1, .int x1)] → W p l e rm_X2_startAnew s m args below meth c H locs 0 0 Q (F0 m 33 ls [])) (fun rec33 ih33 u0 x1 h H locs ls hP hD hS hl => ?_) N u0 x1 h H locs ls hP hD hS hl
    unfold g_X2_startAnew_33 at h
    refine lv_iload_n hx hb dX2_startAnew_33 rfl (lv_at hl 1 rfl) ?_
    refine lv_iconst (v := (4 : Int32)) hx hb dX2_startAnew_34 (by decide) ?_
    refine lv_icmp_ge (tgt := 52) hx hb dX2_startAnew_35 (by decide) (fun q_1 => ?_) (fun q_1 => ?_)
    · have h := mk_ifp q_1 h
      exact hret _ _ _ _ _ h hP hD hS dX2_startAnew_52
    · have h := mk_ifn q_1 h
      refine lv_aload_n hx hb dX2_startAnew_38 rfl (lv_at hl 0 rfl) ?_
      refine va_get (D := D) (ci := 2) (v := .ref (a0 2)) (C := RX2) (T := TX2) (N := 5) hx hb hts hiX2 hown hK hP 0 rfl rfl 3 (by decide) (hts (.fieldLink RX2 22 "ClockOnce$Life" "soldOn" "[I") (List.mem_of_getElem? (i := 4) rfl)) (fun _ h9 => h9) rfl dX2_startAnew_39 ?_
      refine lv_iload_n hx hb dX2_startAnew_42 rfl (lv_at hl 1 rfl) ?_
      refine lv_bipush (v := (-9 : Int32)) hx hb dX2_startAnew_43 (by decide) ?_
      obtain ⟨hx_2, h⟩ := mk_ixE h
      obtain ⟨w_3, ew_3, h⟩ := mk_nmE h
      refine va_iast hx hb hK hP hD hS 2 0 rfl rfl hx_2 dX2_startAnew_45 (fun H locs hP hD hS => ?_)
      have hP : va_P D vwCl (wX2 cI a0 w_3) H := by rw [ew_3]; exact hP
      have hD : va_D A (wX2 cI a0 w_3) := by rw [ew_3]; exact hD
      refine lv_iinc (v := (x1 + (1 : Int32))) (lv' := [(1, .int (x1 + (1 : Int32))), (0, .ref (a0 0))]) hx hb dX2_startAnew_46 hl (k := 1) rfl rfl (by decide) rfl (fun ls hl => ?_)
      refine lv_goto (tgt := 33) hx hb dX2_startAnew_49 (by decide) ?_
      exact ih33 w_3 (x1 + (1 : Int32)) h H locs ls hP hD hS (lv_sub hl [1, 0] rfl)
  have K12 : ∀ (u0 : TU) (x1 : Int32) (H : Heap) (locs : List Loc) (ls : Array Slot), va_P D vwCl (wX2 cI a0 u0) H → va_D A (wX2 cI a0 u0) → va_S A H0 H locs → lv_has ls 2 [(0, .ref (a0 0)), (1, .int x1)] → lq2 (g_X2_startAnew_12 N) N u0 x1 = some out → W p l e rm_X2_startAnew s m args below meth c H locs 0 0 Q (F0 m 12 ls []) := by
    intro u0 x1 H locs ls hP hD hS hl h
    refine lq2_W (Wd := fun u0 x1 => ∀ (H : Heap) (locs : List Loc) (ls : Array Slot), va_P D vwCl (wX2 cI a0 u0) H → va_D A (wX2 cI a0 u0) → va_S A H0 H locs → lv_has ls 2 [(0, .ref (a0 0)), (1, .int x1)] → W p l e rm_X2_startAnew s m args below meth c H locs 0 0 Q (F0 m 12 ls [])) (fun rec12 ih12 u0 x1 h H locs ls hP hD hS hl => ?_) N u0 x1 h H locs ls hP hD hS hl
    unfold g_X2_startAnew_12 at h
    refine lv_iload_n hx hb dX2_startAnew_12 rfl (lv_at hl 1 rfl) ?_
    refine lv_iconst (v := (4 : Int32)) hx hb dX2_startAnew_13 (by decide) ?_
    refine lv_icmp_ge (tgt := 31) hx hb dX2_startAnew_14 (by decide) (fun q_4 => ?_) (fun q_4 => ?_)
    · have h := mk_ifp q_4 h
      refine lv_iconst (v := (0 : Int32)) hx hb dX2_startAnew_31 (by decide) ?_
      refine lv_istore_n (lv' := [(1, .int (0 : Int32)), (0, .ref (a0 0))]) hx hb dX2_startAnew_32 rfl hl (by decide) rfl (fun ls hl => ?_)
      exact K33 u0 (0 : Int32) H locs ls hP hD hS (lv_sub hl [1, 0] rfl) h
    · have h := mk_ifn q_4 h
      refine lv_aload_n hx hb dX2_startAnew_17 rfl (lv_at hl 0 rfl) ?_
      refine va_get (D := D) (ci := 2) (v := .ref (a0 1)) (C := RX2) (T := TX2) (N := 5) hx hb hts hiX2 hown hK hP 0 rfl rfl 2 (by decide) (hts (.fieldLink RX2 18 "ClockOnce$Life" "askedOf" "[I") (List.mem_of_getElem? (i := 3) rfl)) (fun _ h9 => h9) rfl dX2_startAnew_18 ?_
      refine lv_iload_n hx hb dX2_startAnew_21 rfl (lv_at hl 1 rfl) ?_
      refine lv_bipush (v := (-9 : Int32)) hx hb dX2_startAnew_22 (by decide) ?_
      obtain ⟨hx_5, h⟩ := mk_ixE h
      obtain ⟨w_6, ew_6, h⟩ := mk_nmE h
      refine va_iast hx hb hK hP hD hS 1 0 rfl rfl hx_5 dX2_startAnew_24 (fun H locs hP hD hS => ?_)
      have hP : va_P D vwCl (wX2 cI a0 w_6) H := by rw [ew_6]; exact hP
      have hD : va_D A (wX2 cI a0 w_6) := by rw [ew_6]; exact hD
      refine lv_iinc (v := (x1 + (1 : Int32))) (lv' := [(1, .int (x1 + (1 : Int32))), (0, .ref (a0 0))]) hx hb dX2_startAnew_25 hl (k := 1) rfl rfl (by decide) rfl (fun ls hl => ?_)
      refine lv_goto (tgt := 12) hx hb dX2_startAnew_28 (by decide) ?_
      exact ih12 w_6 (x1 + (1 : Int32)) h H locs ls hP hD hS (lv_sub hl [1, 0] rfl)
  unfold f_X2_startAnew at h
  refine lv_aload_n hx hb dX2_startAnew_0 rfl (lv_at hl 0 rfl) ?_
  refine lv_iconst (v := (0 : Int32)) hx hb dX2_startAnew_1 (by decide) ?_
  obtain ⟨w_7, ew_7, h⟩ := mk_nmE h
  refine va_put (D := D) (ci := 2) (v := .int (0 : Int32)) (ty := .int) (C := RX2) (T := TX2) (N := 5) hx hb hts hiX2 tyX2 tyX2_ok nmX2 hown hK hP hD hS 0 rfl rfl 0 (by decide) (hts (.fieldLink RX2 9 "ClockOnce$Life" "day" "I") (List.mem_of_getElem? (i := 1) rfl)) (fun _ h9 => h9) rfl (by decide +kernel) rfl rfl (Nat.le_of_ble_eq_true rfl) dX2_startAnew_2 (fun H locs hP hD hS => ?_)
  have hP : va_P D vwCl (wX2 cI a0 w_7) H := by rw [ew_7]; exact hP
  have hD : va_D A (wX2 cI a0 w_7) := by rw [ew_7]; exact hD
  refine lv_aload_n hx hb dX2_startAnew_5 rfl (lv_at hl 0 rfl) ?_
  refine lv_iconst (v := (0 : Int32)) hx hb dX2_startAnew_6 (by decide) ?_
  obtain ⟨w_8, ew_8, h⟩ := mk_nmE h
  refine va_put (D := D) (ci := 2) (v := .int (0 : Int32)) (ty := .int) (C := RX2) (T := TX2) (N := 5) hx hb hts hiX2 tyX2 tyX2_ok nmX2 hown hK hP hD hS 0 rfl rfl 1 (by decide) (hts (.fieldLink RX2 15 "ClockOnce$Life" "coins" "I") (List.mem_of_getElem? (i := 2) rfl)) (fun _ h9 => h9) rfl (by decide +kernel) rfl rfl (Nat.le_of_ble_eq_true rfl) dX2_startAnew_7 (fun H locs hP hD hS => ?_)
  have hP : va_P D vwCl (wX2 cI a0 w_8) H := by rw [ew_8]; exact hP
  have hD : va_D A (wX2 cI a0 w_8) := by rw [ew_8]; exact hD
  refine lv_iconst (v := (0 : Int32)) hx hb dX2_startAnew_10 (by decide) ?_
  refine lv_istore_n (lv' := [(1, .int (0 : Int32)), (0, .ref (a0 0))]) hx hb dX2_startAnew_11 rfl hl (by decide) rfl (fun ls hl => ?_)
  exact K12 w_8 (0 : Int32) H locs ls hP hD hS (lv_sub hl [1, 0] rfl) h

abbrev rm_X3_closePart : Room := { frames := 2, cells := 0, slots := 0, locals := 41 }
set_option maxRecDepth 20000 in
theorem k_X3_closePart_X5_addLink_75 : GoodIn wsX3_closePart (wsV RX3 75 RX5 yX5_addLink wsX5_addLink) := goodIn_r _ [25, 26, 27, 6, 28, 29, 30, 31, 36, 37, 38, 39, 40, 41, 42, 43, 44, 45, 46, 47, 48, 49] rfl (by decide +kernel)
set_option maxRecDepth 20000 in
theorem k_X3_closePart_X5_addAsker_71 : GoodIn wsX3_closePart (wsV RX3 71 RX5 yX5_addAsker wsX5_addAsker) := goodIn_r _ [18, 19, 20, 6, 21, 22, 23, 24, 36, 37, 38, 39, 40, 41, 42, 43, 44, 45, 46, 47, 48, 49] rfl (by decide +kernel)
set_option maxRecDepth 20000 in
theorem k_X3_closePart_X5_addThing_67 : GoodIn wsX3_closePart (wsV RX3 67 RX5 yX5_addThing wsX5_addThing) := goodIn_r _ [3, 4, 5, 6, 7, 8, 9, 10, 11, 12, 13, 14, 15, 16, 6, 17, 36, 37, 38, 39, 40, 41, 42, 43, 44, 45, 46, 47, 48, 49] rfl (by decide +kernel)
set_option maxHeartbeats 4000000 in
set_option maxRecDepth 100000 in
theorem c_X3_closePart (l : Launch) (D : va_G) (cI cZ cO : ClassId) (N : Nat) (a0 : Nat → Nat) (u0 : TU) (a1 : Nat → Nat) (u1 : TU) (sz : Nat) (out : TU × TU) (h : f_X3_closePart N u0 u1 = some out) : Met l yX3_closePart wsX3_closePart rm_X3_closePart (va_Pc [.ref (a0 0), .ref (a1 0)] (mk_Pe D vwCl (tyA cI cZ cO) (wX3 cI a0 u0 ++ wX5 cI a1 u1) sz)) (va_Qv (fun u => u = out) (mk_Be D vwCl (wX3 cI a0 u0 ++ wX5 cI a1 u1) sz (fun q => (wX3 cI a0 q.1 ++ wX5 cI a1 q.2))) (va_A (wX3 cI a0 u0 ++ wX5 cI a1 u1) sz)) 0 0 (va_A (wX3 cI a0 u0 ++ wX5 cI a1 u1) sz) := by
  refine em_v (own := RX3) (cc := cX3_closePart) (maxL := 2) (by decide) rfl rfl (Nat.le_of_ble_eq_true rfl) ?_
  intro p e s m args below meth c Q A H0 H locs ls hx hb hml hown hts hP hK hD hS hA hl hret
  have hl : lv_has ls 2 [(0, .ref (a0 0)), (1, .ref (a1 0))] := hl
  have hiX3 : ∀ w ∈ u_ws RX3 TX3 4, w ∈ wsX3_closePart := mk_seg 32 4 rfl
  unfold f_X3_closePart at h
  refine lv_aload_n hx hb dX3_closePart_0 rfl (lv_at hl 0 rfl) ?_
  refine va_get (D := D) (ci := 3) (v := .int (u0 0 1)) (C := RX3) (T := TX3) (N := 4) hx hb hts hiX3 hown hK hP 0 rfl rfl 1 (by decide) (hts (.fieldLink RX3 13 "ClockOnce$Reader" "part" "I") (List.mem_of_getElem? (i := 1) rfl)) (fun _ h9 => h9) rfl dX3_closePart_1 ?_
  refine lv_bipush (v := (84 : Int32)) hx hb dX3_closePart_4 (by decide) ?_
  refine lv_icmp_ne (tgt := 20) hx hb dX3_closePart_6 (by decide) (fun q_1 => ?_) (fun q_1 => ?_)
  · have h := mk_ifn q_1 h
    refine lv_aload_n hx hb dX3_closePart_20 rfl (lv_at hl 0 rfl) ?_
    refine va_get (D := D) (ci := 3) (v := .int (u0 0 1)) (C := RX3) (T := TX3) (N := 4) hx hb hts hiX3 hown hK hP 0 rfl rfl 1 (by decide) (hts (.fieldLink RX3 13 "ClockOnce$Reader" "part" "I") (List.mem_of_getElem? (i := 1) rfl)) (fun _ h9 => h9) rfl dX3_closePart_21 ?_
    refine lv_bipush (v := (65 : Int32)) hx hb dX3_closePart_24 (by decide) ?_
    refine lv_icmp_ne (tgt := 48) hx hb dX3_closePart_26 (by decide) (fun q_2 => ?_) (fun q_2 => ?_)
    · have h := mk_ifn q_2 h
      refine lv_aload_n hx hb dX3_closePart_48 rfl (lv_at hl 1 rfl) ?_
      refine lv_aload_n hx hb dX3_closePart_49 rfl (lv_at hl 0 rfl) ?_
      refine va_get (D := D) (ci := 3) (v := .ref (a0 1)) (C := RX3) (T := TX3) (N := 4) hx hb hts hiX3 hown hK hP 0 rfl rfl 3 (by decide) (hts (.fieldLink RX3 20 "ClockOnce$Reader" "figures" "[I") (List.mem_of_getElem? (i := 2) rfl)) (fun _ h9 => h9) rfl dX3_closePart_50 ?_
      refine lv_iconst (v := (0 : Int32)) hx hb dX3_closePart_53 (by decide) ?_
      obtain ⟨v_3, ev_3, hiv_3, h⟩ := mk_rdE h
      refine va_iald hx hb hK hP 1 0 rfl rfl hiv_3 dX3_closePart_54 ?_
      refine mk_topi ev_3 ?_
      refine lv_aload_n hx hb dX3_closePart_55 rfl (lv_at hl 0 rfl) ?_
      refine va_get (D := D) (ci := 3) (v := .ref (a0 1)) (C := RX3) (T := TX3) (N := 4) hx hb hts hiX3 hown hK hP 0 rfl rfl 3 (by decide) (hts (.fieldLink RX3 20 "ClockOnce$Reader" "figures" "[I") (List.mem_of_getElem? (i := 2) rfl)) (fun _ h9 => h9) rfl dX3_closePart_56 ?_
      refine lv_iconst (v := (1 : Int32)) hx hb dX3_closePart_59 (by decide) ?_
      obtain ⟨v_4, ev_4, hiv_4, h⟩ := mk_rdE h
      refine va_iald hx hb hK hP 1 0 rfl rfl hiv_4 dX3_closePart_60 ?_
      refine mk_topi ev_4 ?_
      obtain ⟨r_5, er_5, h⟩ := mk_bd h
      refine ec_vv (As := [.int v_3, .int v_4]) (rest := []) (w' := (wX3 cI a0 u0 ++ wX5 cI a1 r_5)) ⟨hx, hb, hml, hown, hts⟩ (c_X5_addLink l D cI cZ cO N a1 u1 v_3 v_4 H.size r_5 er_5) (cwV 2 hts k_X3_closePart_X5_addLink_75 rfl rfl rfl (by decide +kernel) ⟨(Nat.le_of_ble_eq_true rfl), (Nat.le_of_ble_eq_true rfl)⟩) (va_recv hK hP (ci := 5) (q0 := 2) rfl rfl) hK hP hD hS hA [2, 3, 4, 5, 6, 7, 8, 9, 10, 11] [0, 1] [0, 1, 2, 3, 4, 5, 6, 7, 8, 9, 10, 11] (hP.sub (ws' := wX5 cI a1 u1) [2, 3, 4, 5, 6, 7, 8, 9, 10, 11] rfl) (hD.sub (ws' := wX5 cI a1 u1) [2, 3, 4, 5, 6, 7, 8, 9, 10, 11] (by decide) rfl) rfl rfl (by decide) (by decide) rfl (by decide) rfl hl.1 rfl (Nat.le_of_ble_eq_true rfl) dX3_closePart_61 ⟨Nat.zero_le _, Nat.zero_le _⟩ (fun H locs hP hD hS => ?_)
      refine lv_aload_n hx hb dX3_closePart_64 rfl (lv_at hl 0 rfl) ?_
      refine lv_iconst (v := (0 : Int32)) hx hb dX3_closePart_65 (by decide) ?_
      obtain ⟨w_6, ew_6, h⟩ := mk_nmE h
      refine va_put (D := D) (ci := 3) (v := .int (0 : Int32)) (ty := .int) (C := RX3) (T := TX3) (N := 4) hx hb hts hiX3 tyX3 tyX3_ok nmX3 hown hK hP hD hS 0 rfl rfl 1 (by decide) (hts (.fieldLink RX3 13 "ClockOnce$Reader" "part" "I") (List.mem_of_getElem? (i := 1) rfl)) (fun _ h9 => h9) rfl (by decide +kernel) rfl rfl (Nat.le_of_ble_eq_true rfl) dX3_closePart_66 (fun H locs hP hD hS => ?_)
      have hP : va_P D vwCl (wX3 cI a0 w_6 ++ wX5 cI a1 r_5) H := by rw [ew_6]; exact hP
      have hD : va_D A (wX3 cI a0 w_6 ++ wX5 cI a1 r_5) := by rw [ew_6]; exact hD
      exact hret _ _ _ _ _ h hP hD hS dX3_closePart_69
    · have h := mk_ifp q_2 h
      refine lv_aload_n hx hb dX3_closePart_29 rfl (lv_at hl 1 rfl) ?_
      refine lv_aload_n hx hb dX3_closePart_30 rfl (lv_at hl 0 rfl) ?_
      refine va_get (D := D) (ci := 3) (v := .ref (a0 1)) (C := RX3) (T := TX3) (N := 4) hx hb hts hiX3 hown hK hP 0 rfl rfl 3 (by decide) (hts (.fieldLink RX3 20 "ClockOnce$Reader" "figures" "[I") (List.mem_of_getElem? (i := 2) rfl)) (fun _ h9 => h9) rfl dX3_closePart_31 ?_
      refine lv_iconst (v := (0 : Int32)) hx hb dX3_closePart_34 (by decide) ?_
      obtain ⟨v_7, ev_7, hiv_7, h⟩ := mk_rdE h
      refine va_iald hx hb hK hP 1 0 rfl rfl hiv_7 dX3_closePart_35 ?_
      refine mk_topi ev_7 ?_
      refine lv_aload_n hx hb dX3_closePart_36 rfl (lv_at hl 0 rfl) ?_
      refine va_get (D := D) (ci := 3) (v := .ref (a0 1)) (C := RX3) (T := TX3) (N := 4) hx hb hts hiX3 hown hK hP 0 rfl rfl 3 (by decide) (hts (.fieldLink RX3 20 "ClockOnce$Reader" "figures" "[I") (List.mem_of_getElem? (i := 2) rfl)) (fun _ h9 => h9) rfl dX3_closePart_37 ?_
      refine lv_iconst (v := (1 : Int32)) hx hb dX3_closePart_40 (by decide) ?_
      obtain ⟨v_8, ev_8, hiv_8, h⟩ := mk_rdE h
      refine va_iald hx hb hK hP 1 0 rfl rfl hiv_8 dX3_closePart_41 ?_
      refine mk_topi ev_8 ?_
      obtain ⟨r_9, er_9, h⟩ := mk_bd h
      refine ec_vv (As := [.int v_7, .int v_8]) (rest := []) (w' := (wX3 cI a0 u0 ++ wX5 cI a1 r_9)) ⟨hx, hb, hml, hown, hts⟩ (c_X5_addAsker l D cI cZ cO N a1 u1 v_7 v_8 H.size r_9 er_9) (cwV 2 hts k_X3_closePart_X5_addAsker_71 rfl rfl rfl (by decide +kernel) ⟨(Nat.le_of_ble_eq_true rfl), (Nat.le_of_ble_eq_true rfl)⟩) (va_recv hK hP (ci := 5) (q0 := 2) rfl rfl) hK hP hD hS hA [2, 3, 4, 5, 6, 7, 8, 9, 10, 11] [0, 1] [0, 1, 2, 3, 4, 5, 6, 7, 8, 9, 10, 11] (hP.sub (ws' := wX5 cI a1 u1) [2, 3, 4, 5, 6, 7, 8, 9, 10, 11] rfl) (hD.sub (ws' := wX5 cI a1 u1) [2, 3, 4, 5, 6, 7, 8, 9, 10, 11] (by decide) rfl) rfl rfl (by decide) (by decide) rfl (by decide) rfl hl.1 rfl (Nat.le_of_ble_eq_true rfl) dX3_closePart_42 ⟨Nat.zero_le _, Nat.zero_le _⟩ (fun H locs hP hD hS => ?_)
      refine lv_goto (tgt := 64) hx hb dX3_closePart_45 (by decide) ?_
      refine lv_aload_n hx hb dX3_closePart_64 rfl (lv_at hl 0 rfl) ?_
      refine lv_iconst (v := (0 : Int32)) hx hb dX3_closePart_65 (by decide) ?_
      obtain ⟨w_10, ew_10, h⟩ := mk_nmE h
      refine va_put (D := D) (ci := 3) (v := .int (0 : Int32)) (ty := .int) (C := RX3) (T := TX3) (N := 4) hx hb hts hiX3 tyX3 tyX3_ok nmX3 hown hK hP hD hS 0 rfl rfl 1 (by decide) (hts (.fieldLink RX3 13 "ClockOnce$Reader" "part" "I") (List.mem_of_getElem? (i := 1) rfl)) (fun _ h9 => h9) rfl (by decide +kernel) rfl rfl (Nat.le_of_ble_eq_true rfl) dX3_closePart_66 (fun H locs hP hD hS => ?_)
      have hP : va_P D vwCl (wX3 cI a0 w_10 ++ wX5 cI a1 r_9) H := by rw [ew_10]; exact hP
      have hD : va_D A (wX3 cI a0 w_10 ++ wX5 cI a1 r_9) := by rw [ew_10]; exact hD
      exact hret _ _ _ _ _ h hP hD hS dX3_closePart_69
  · have h := mk_ifp q_1 h
    refine lv_aload_n hx hb dX3_closePart_9 rfl (lv_at hl 1 rfl) ?_
    refine lv_aload_n hx hb dX3_closePart_10 rfl (lv_at hl 0 rfl) ?_
    refine va_get (D := D) (ci := 3) (v := .ref (a0 1)) (C := RX3) (T := TX3) (N := 4) hx hb hts hiX3 hown hK hP 0 rfl rfl 3 (by decide) (hts (.fieldLink RX3 20 "ClockOnce$Reader" "figures" "[I") (List.mem_of_getElem? (i := 2) rfl)) (fun _ h9 => h9) rfl dX3_closePart_11 ?_
    obtain ⟨r_11, er_11, h⟩ := mk_bd h
    refine ec_vv (As := [.ref (a0 1)]) (rest := []) (w' := (wX3 cI a0 u0 ++ wX5 cI a1 r_11)) ⟨hx, hb, hml, hown, hts⟩ (c_X5_addThing l D cI cZ cO N a1 u1 (fun _ => a0 1) (fun _ => u0 1) H.size r_11 er_11) (cwV 1 hts k_X3_closePart_X5_addThing_67 rfl rfl rfl (by decide +kernel) ⟨(Nat.le_of_ble_eq_true rfl), (Nat.le_of_ble_eq_true rfl)⟩) (va_recv hK hP (ci := 5) (q0 := 2) rfl rfl) hK hP hD hS hA [2, 3, 4, 5, 6, 7, 8, 9, 10, 11, 1] [0] [0, 11, 1, 2, 3, 4, 5, 6, 7, 8, 9, 10] (hP.sub (ws' := wX5 cI a1 u1 ++ wA5 cI (fun _ => a0 1) (fun _ => u0 1)) [2, 3, 4, 5, 6, 7, 8, 9, 10, 11, 1] rfl) (hD.sub (ws' := wX5 cI a1 u1 ++ wA5 cI (fun _ => a0 1) (fun _ => u0 1)) [2, 3, 4, 5, 6, 7, 8, 9, 10, 11, 1] (by decide) rfl) rfl rfl (by decide) (by decide) rfl (by decide) rfl hl.1 rfl (Nat.le_of_ble_eq_true rfl) dX3_closePart_14 ⟨Nat.zero_le _, Nat.zero_le _⟩ (fun H locs hP hD hS => ?_)
    refine lv_goto (tgt := 64) hx hb dX3_closePart_17 (by decide) ?_
    refine lv_aload_n hx hb dX3_closePart_64 rfl (lv_at hl 0 rfl) ?_
    refine lv_iconst (v := (0 : Int32)) hx hb dX3_closePart_65 (by decide) ?_
    obtain ⟨w_12, ew_12, h⟩ := mk_nmE h
    refine va_put (D := D) (ci := 3) (v := .int (0 : Int32)) (ty := .int) (C := RX3) (T := TX3) (N := 4) hx hb hts hiX3 tyX3 tyX3_ok nmX3 hown hK hP hD hS 0 rfl rfl 1 (by decide) (hts (.fieldLink RX3 13 "ClockOnce$Reader" "part" "I") (List.mem_of_getElem? (i := 1) rfl)) (fun _ h9 => h9) rfl (by decide +kernel) rfl rfl (Nat.le_of_ble_eq_true rfl) dX3_closePart_66 (fun H locs hP hD hS => ?_)
    have hP : va_P D vwCl (wX3 cI a0 w_12 ++ wX5 cI a1 r_11) H := by rw [ew_12]; exact hP
    have hD : va_D A (wX3 cI a0 w_12 ++ wX5 cI a1 r_11) := by rw [ew_12]; exact hD
    exact hret _ _ _ _ _ h hP hD hS dX3_closePart_69

abbrev rm_X3_isAtEnd : Room := { frames := 0, cells := 0, slots := 0, locals := 0 }
set_option maxHeartbeats 4000000 in
set_option maxRecDepth 100000 in
theorem c_X3_isAtEnd (l : Launch) (D : va_G) (cI cZ cO : ClassId) (N : Nat) (a0 : Nat → Nat) (u0 : TU) (out : Int32) (h : f_X3_isAtEnd N u0 = some out) : Met l yX3_isAtEnd wsX3_isAtEnd rm_X3_isAtEnd (va_Pc [.ref (a0 0)] (fun U => va_P D vwCl (wX3 cI a0 u0) U.heap ∧ va_K D vwCl (tyA cI cZ cO) U)) (vp_Si (fun r => r = out)) 0 0 (fun _ => False) := by
  refine pm_z (own := RX3) (cc := cX3_isAtEnd) (maxL := 1) (by decide) rfl rfl (Nat.le_of_ble_eq_true rfl) ?_
  intro p e s m args below meth c Q H ls hx hb hml hown hts hP hK hl hret
  have hl : lv_has ls 1 [(0, .ref (a0 0))] := hl
  have hiX3 : ∀ w ∈ u_ws RX3 TX3 4, w ∈ wsX3_isAtEnd := mk_seg 3 4 rfl
  unfold f_X3_isAtEnd at h
  refine lv_aload_n hx hb dX3_isAtEnd_0 rfl (lv_at hl 0 rfl) ?_
  refine va_get (D := D) (ci := 3) (v := .int (u0 0 0)) (C := RX3) (T := TX3) (N := 4) hx hb hts hiX3 hown hK hP 0 rfl rfl 0 (by decide) (hts (.fieldLink RX3 7 "ClockOnce$Reader" "begun" "Z") (List.mem_of_getElem? (i := 1) rfl)) (fun _ h9 => h9) rfl dX3_isAtEnd_1 ?_
  refine lv_if_eq (tgt := 18) hx hb dX3_isAtEnd_4 (by decide) (fun q_1 => ?_) (fun q_1 => ?_)
  · have h := mk_ifp q_1 h
    refine lv_iconst (v := (0 : Int32)) hx hb dX3_isAtEnd_18 (by decide) ?_
    exact hret _ _ _ h (Or.inl rfl) dX3_isAtEnd_19
  · have h := mk_ifn q_1 h
    refine lv_aload_n hx hb dX3_isAtEnd_7 rfl (lv_at hl 0 rfl) ?_
    refine va_get (D := D) (ci := 3) (v := .int (u0 0 1)) (C := RX3) (T := TX3) (N := 4) hx hb hts hiX3 hown hK hP 0 rfl rfl 1 (by decide) (hts (.fieldLink RX3 13 "ClockOnce$Reader" "part" "I") (List.mem_of_getElem? (i := 2) rfl)) (fun _ h9 => h9) rfl dX3_isAtEnd_8 ?_
    refine lv_if_ne (tgt := 18) hx hb dX3_isAtEnd_11 (by decide) (fun q_2 => ?_) (fun q_2 => ?_)
    · have h := mk_ifn q_2 h
      refine lv_iconst (v := (0 : Int32)) hx hb dX3_isAtEnd_18 (by decide) ?_
      exact hret _ _ _ h (Or.inl rfl) dX3_isAtEnd_19
    · have h := mk_ifp q_2 h
      refine lv_iconst (v := (1 : Int32)) hx hb dX3_isAtEnd_14 (by decide) ?_
      refine lv_goto (tgt := 19) hx hb dX3_isAtEnd_15 (by decide) ?_
      exact hret _ _ _ h (Or.inr rfl) dX3_isAtEnd_19

abbrev rm_X3_mayTellThing : Room := { frames := 0, cells := 0, slots := 0, locals := 0 }
set_option maxHeartbeats 4000000 in
set_option maxRecDepth 100000 in
theorem c_X3_mayTellThing (l : Launch) (D : va_G) (cI cZ cO : ClassId) (N : Nat) (a0 : Nat → Nat) (u0 : TU) (p1 : Int32) (out : Int32) (h : f_X3_mayTellThing N u0 p1 = some out) : Met l yX3_mayTellThing wsX3_mayTellThing rm_X3_mayTellThing (va_Pc [.ref (a0 0), .int p1] (fun U => va_P D vwCl (wX3 cI a0 u0) U.heap ∧ va_K D vwCl (tyA cI cZ cO) U)) (vp_Si (fun r => r = out)) 0 0 (fun _ => False) := by
  refine pm_z (own := RX3) (cc := cX3_mayTellThing) (maxL := 2) (by decide) rfl rfl (Nat.le_of_ble_eq_true rfl) ?_
  intro p e s m args below meth c Q H ls hx hb hml hown hts hP hK hl hret
  have hl : lv_has ls 2 [(0, .ref (a0 0)), (1, .int p1)] := hl
  have hiX3 : ∀ w ∈ u_ws RX3 TX3 4, w ∈ wsX3_mayTellThing := mk_seg 3 4 rfl
  unfold f_X3_mayTellThing at h
  refine lv_aload_n hx hb dX3_mayTellThing_0 rfl (lv_at hl 0 rfl) ?_
  refine va_get (D := D) (ci := 3) (v := .int (u0 0 2)) (C := RX3) (T := TX3) (N := 4) hx hb hts hiX3 hown hK hP 0 rfl rfl 2 (by decide) (hts (.fieldLink RX3 17 "ClockOnce$Reader" "place" "I") (List.mem_of_getElem? (i := 1) rfl)) (fun _ h9 => h9) rfl dX3_mayTellThing_1 ?_
  by_cases q_1 : (u0 0 2) = (0 : Int32)
  · have h := mk_ifp q_1 h
    refine lv_tableIn (off := 32) (tgt := 36) hx hb dX3_mayTellThing_4 (by rw [q_1]; decide) (by rw [q_1]; decide) (by rw [q_1]; rfl) (by decide) ?_
    refine lv_iload_n hx hb dX3_mayTellThing_36 rfl (lv_at hl 1 rfl) ?_
    refine lv_iconst (v := (1 : Int32)) hx hb dX3_mayTellThing_37 (by decide) ?_
    refine lv_icmp_lt (tgt := 51) hx hb dX3_mayTellThing_38 (by decide) (fun q_2 => ?_) (fun q_2 => ?_)
    · have h := mk_ifp q_2 h
      refine lv_iconst (v := (0 : Int32)) hx hb dX3_mayTellThing_51 (by decide) ?_
      exact hret _ _ _ h (Or.inl rfl) dX3_mayTellThing_52
    · have h := mk_ifn q_2 h
      refine lv_iload_n hx hb dX3_mayTellThing_41 rfl (lv_at hl 1 rfl) ?_
      refine lv_bipush (v := (8 : Int32)) hx hb dX3_mayTellThing_42 (by decide) ?_
      refine lv_icmp_gt (tgt := 51) hx hb dX3_mayTellThing_44 (by decide) (fun q_3 => ?_) (fun q_3 => ?_)
      · have h := mk_ifp q_3 h
        refine lv_iconst (v := (0 : Int32)) hx hb dX3_mayTellThing_51 (by decide) ?_
        exact hret _ _ _ h (Or.inl rfl) dX3_mayTellThing_52
      · have h := mk_ifn q_3 h
        refine lv_iconst (v := (1 : Int32)) hx hb dX3_mayTellThing_47 (by decide) ?_
        refine lv_goto (tgt := 52) hx hb dX3_mayTellThing_48 (by decide) ?_
        exact hret _ _ _ h (Or.inr rfl) dX3_mayTellThing_52
  have h := mk_ifn q_1 h
  by_cases q_4 : (u0 0 2) = (1 : Int32)
  · have h := mk_ifp q_4 h
    refine lv_tableIn (off := 49) (tgt := 53) hx hb dX3_mayTellThing_4 (by rw [q_4]; decide) (by rw [q_4]; decide) (by rw [q_4]; rfl) (by decide) ?_
    refine lv_iload_n hx hb dX3_mayTellThing_53 rfl (lv_at hl 1 rfl) ?_
    refine lv_aload_n hx hb dX3_mayTellThing_54 rfl (lv_at hl 0 rfl) ?_
    refine va_get (D := D) (ci := 3) (v := .ref (a0 1)) (C := RX3) (T := TX3) (N := 4) hx hb hts hiX3 hown hK hP 0 rfl rfl 3 (by decide) (hts (.fieldLink RX3 20 "ClockOnce$Reader" "figures" "[I") (List.mem_of_getElem? (i := 2) rfl)) (fun _ h9 => h9) rfl dX3_mayTellThing_55 ?_
    refine lv_iconst (v := (0 : Int32)) hx hb dX3_mayTellThing_58 (by decide) ?_
    obtain ⟨v_5, ev_5, hiv_5, h⟩ := mk_rdE h
    refine va_iald hx hb hK hP 1 0 rfl rfl hiv_5 dX3_mayTellThing_59 ?_
    refine mk_topi ev_5 ?_
    refine lv_icmp_le (tgt := 67) hx hb dX3_mayTellThing_60 (by decide) (fun q_6 => ?_) (fun q_6 => ?_)
    · have h := mk_ifp q_6 h
      refine lv_iconst (v := (0 : Int32)) hx hb dX3_mayTellThing_67 (by decide) ?_
      exact hret _ _ _ h (Or.inl rfl) dX3_mayTellThing_68
    · have h := mk_ifn q_6 h
      refine lv_iconst (v := (1 : Int32)) hx hb dX3_mayTellThing_63 (by decide) ?_
      refine lv_goto (tgt := 68) hx hb dX3_mayTellThing_64 (by decide) ?_
      exact hret _ _ _ h (Or.inr rfl) dX3_mayTellThing_68
  have h := mk_ifn q_4 h
  by_cases q_7 : (u0 0 2) = (2 : Int32)
  · have h := mk_ifp q_7 h
    refine lv_tableIn (off := 65) (tgt := 69) hx hb dX3_mayTellThing_4 (by rw [q_7]; decide) (by rw [q_7]; decide) (by rw [q_7]; rfl) (by decide) ?_
    refine lv_iconst (v := (1 : Int32)) hx hb dX3_mayTellThing_69 (by decide) ?_
    exact hret _ _ _ h (Or.inr rfl) dX3_mayTellThing_70
  have h := mk_ifn q_7 h
  by_cases q_8 : (u0 0 2) = (3 : Int32)
  · have h := mk_ifp q_8 h
    refine lv_tableIn (off := 67) (tgt := 71) hx hb dX3_mayTellThing_4 (by rw [q_8]; decide) (by rw [q_8]; decide) (by rw [q_8]; rfl) (by decide) ?_
    refine lv_iload_n hx hb dX3_mayTellThing_71 rfl (lv_at hl 1 rfl) ?_
    refine lv_iconst (v := (1 : Int32)) hx hb dX3_mayTellThing_72 (by decide) ?_
    refine lv_icmp_lt (tgt := 80) hx hb dX3_mayTellThing_73 (by decide) (fun q_9 => ?_) (fun q_9 => ?_)
    · have h := mk_ifp q_9 h
      refine lv_iconst (v := (0 : Int32)) hx hb dX3_mayTellThing_80 (by decide) ?_
      exact hret _ _ _ h (Or.inl rfl) dX3_mayTellThing_81
    · have h := mk_ifn q_9 h
      refine lv_iconst (v := (1 : Int32)) hx hb dX3_mayTellThing_76 (by decide) ?_
      refine lv_goto (tgt := 81) hx hb dX3_mayTellThing_77 (by decide) ?_
      exact hret _ _ _ h (Or.inr rfl) dX3_mayTellThing_81
  have h := mk_ifn q_8 h
  refine lv_tableOut (tgt := 82) hx hb dX3_mayTellThing_4 (by have zq_1 := mk_ne (z := 0) (by decide) q_1; have zq_4 := mk_ne (z := 1) (by decide) q_4; have zq_7 := mk_ne (z := 2) (by decide) q_7; have zq_8 := mk_ne (z := 3) (by decide) q_8; omega) (by decide) ?_
  refine lv_iload_n hx hb dX3_mayTellThing_82 rfl (lv_at hl 1 rfl) ?_
  refine lv_iconst (v := (1 : Int32)) hx hb dX3_mayTellThing_83 (by decide) ?_
  refine lv_icmp_gt (tgt := 91) hx hb dX3_mayTellThing_84 (by decide) (fun q_10 => ?_) (fun q_10 => ?_)
  · have h := mk_ifp q_10 h
    refine lv_iconst (v := (0 : Int32)) hx hb dX3_mayTellThing_91 (by decide) ?_
    exact hret _ _ _ h (Or.inl rfl) dX3_mayTellThing_92
  · have h := mk_ifn q_10 h
    refine lv_iconst (v := (1 : Int32)) hx hb dX3_mayTellThing_87 (by decide) ?_
    refine lv_goto (tgt := 92) hx hb dX3_mayTellThing_88 (by decide) ?_
    exact hret _ _ _ h (Or.inr rfl) dX3_mayTellThing_92

abbrev rm_X3_mayFollow : Room := { frames := 3, cells := 0, slots := 0, locals := 68 }
set_option maxRecDepth 20000 in
theorem k_X3_mayFollow_X5_hasThing_57 : GoodIn wsX3_mayFollow (wsV RX3 57 RX5 yX5_hasThing wsX5_hasThing) := goodIn_r _ [9, 10, 11, 12, 13, 14, 37, 38, 39, 40, 41, 42, 43, 44, 45, 46, 47, 48, 49, 50] rfl (by decide +kernel)
set_option maxRecDepth 20000 in
theorem k_X3_mayFollow_X3_mayTellThing_53 : GoodIn wsX3_mayFollow (wsV RX3 53 RX3 yX3_mayTellThing wsX3_mayTellThing) := goodIn_r _ [4, 5, 6, 7, 8, 2, 3, 33, 34, 35, 36] rfl (by decide +kernel)
set_option maxRecDepth 20000 in
theorem k_X3_mayFollow_X5_canLink_63 : GoodIn wsX3_mayFollow (wsV RX3 63 RX5 yX5_canLink wsX5_canLink) := goodIn_r _ [32, 20, 21, 12, 22, 23, 24, 25, 26, 27, 10, 11, 12, 13, 14, 28, 29, 30, 31, 37, 38, 39, 40, 41, 42, 43, 44, 45, 46, 47, 48, 49, 50] rfl (by decide +kernel)
set_option maxRecDepth 20000 in
theorem k_X3_mayFollow_X5_canLinkFrom_60 : GoodIn wsX3_mayFollow (wsV RX3 60 RX5 yX5_canLinkFrom wsX5_canLinkFrom) := goodIn_r _ [15, 16, 17, 12, 18, 14, 19, 20, 21, 12, 22, 23, 24, 25, 26, 27, 10, 11, 13, 28, 29, 30, 31, 37, 38, 39, 40, 41, 42, 43, 44, 45, 46, 47, 48, 49, 50] rfl (by decide +kernel)
set_option maxHeartbeats 4000000 in
set_option maxRecDepth 100000 in
theorem c_X3_mayFollow (l : Launch) (D : va_G) (cI cZ cO : ClassId) (N : Nat) (a0 : Nat → Nat) (u0 : TU) (a1 : Nat → Nat) (u1 : TU) (p1 : Int32) (out : Int32) (h : f_X3_mayFollow N u0 u1 p1 = some out) : Met l yX3_mayFollow wsX3_mayFollow rm_X3_mayFollow (va_Pc [.ref (a0 0), .int p1, .ref (a1 0)] (fun U => va_P D vwCl (wX3 cI a0 u0 ++ wX5 cI a1 u1) U.heap ∧ va_K D vwCl (tyA cI cZ cO) U)) (vp_Si (fun r => r = out)) 0 0 (fun _ => False) := by
  refine pm_z (own := RX3) (cc := cX3_mayFollow) (maxL := 3) (by decide) rfl rfl (Nat.le_of_ble_eq_true rfl) ?_
  intro p e s m args below meth c Q H ls hx hb hml hown hts hP hK hl hret
  have hl : lv_has ls 3 [(0, .ref (a0 0)), (1, .int p1), (2, .ref (a1 0))] := hl
  have hiX3 : ∀ w ∈ u_ws RX3 TX3 4, w ∈ wsX3_mayFollow := mk_seg 33 4 rfl
  unfold f_X3_mayFollow at h
  refine lv_aload_n hx hb dX3_mayFollow_0 rfl (lv_at hl 0 rfl) ?_
  refine va_get (D := D) (ci := 3) (v := .int (u0 0 1)) (C := RX3) (T := TX3) (N := 4) hx hb hts hiX3 hown hK hP 0 rfl rfl 1 (by decide) (hts (.fieldLink RX3 13 "ClockOnce$Reader" "part" "I") (List.mem_of_getElem? (i := 1) rfl)) (fun _ h9 => h9) rfl dX3_mayFollow_1 ?_
  by_cases q_1 : (u0 0 1) = (65 : Int32)
  · have h := mk_ifp q_1 h
    refine lv_lookup (off := 34) (tgt := 38) hx hb dX3_mayFollow_4 (by decide) (by rw [q_1]; rfl) (by decide) ?_
    refine lv_aload_n hx hb dX3_mayFollow_38 rfl (lv_at hl 2 rfl) ?_
    refine lv_iload_n hx hb dX3_mayFollow_39 rfl (lv_at hl 1 rfl) ?_
    obtain ⟨r_2, er_2, h⟩ := mk_bd h
    refine pc_v (As := [.int p1]) (rest := []) ⟨hx, hb, hml, hown, hts⟩ (c_X5_hasThing l D cI cZ cO N a1 u1 p1 r_2 er_2) (cwV 1 hts k_X3_mayFollow_X5_hasThing_57 rfl rfl rfl (by decide +kernel) ⟨(Nat.le_of_ble_eq_true rfl), (Nat.le_of_ble_eq_true rfl)⟩) (va_recv hK hP (ci := 5) (q0 := 2) rfl rfl) (hP.sub (ws' := wX5 cI a1 u1) [2, 3, 4, 5, 6, 7, 8, 9, 10, 11] rfl) hK rfl hl.1 rfl (Nat.le_of_ble_eq_true rfl) dX3_mayFollow_40 ⟨Nat.zero_le _, Nat.zero_le _⟩ ?_
    refine lv_if_eq (tgt := 67) hx hb dX3_mayFollow_43 (by decide) (fun q_3 => ?_) (fun q_3 => ?_)
    · have h := mk_ifp q_3 h
      refine lv_iconst (v := (0 : Int32)) hx hb dX3_mayFollow_67 (by decide) ?_
      exact hret _ _ _ h (Or.inl rfl) dX3_mayFollow_68
    · have h := mk_ifn q_3 h
      refine lv_aload_n hx hb dX3_mayFollow_46 rfl (lv_at hl 0 rfl) ?_
      refine va_get (D := D) (ci := 3) (v := .int (u0 0 2)) (C := RX3) (T := TX3) (N := 4) hx hb hts hiX3 hown hK hP 0 rfl rfl 2 (by decide) (hts (.fieldLink RX3 17 "ClockOnce$Reader" "place" "I") (List.mem_of_getElem? (i := 2) rfl)) (fun _ h9 => h9) rfl dX3_mayFollow_47 ?_
      refine lv_if_eq (tgt := 63) hx hb dX3_mayFollow_50 (by decide) (fun q_4 => ?_) (fun q_4 => ?_)
      · have h := mk_ifp q_4 h
        refine lv_iconst (v := (1 : Int32)) hx hb dX3_mayFollow_63 (by decide) ?_
        refine lv_goto (tgt := 68) hx hb dX3_mayFollow_64 (by decide) ?_
        exact hret _ _ _ h (Or.inr rfl) dX3_mayFollow_68
      · have h := mk_ifn q_4 h
        refine lv_iload_n hx hb dX3_mayFollow_53 rfl (lv_at hl 1 rfl) ?_
        refine lv_aload_n hx hb dX3_mayFollow_54 rfl (lv_at hl 0 rfl) ?_
        refine va_get (D := D) (ci := 3) (v := .ref (a0 1)) (C := RX3) (T := TX3) (N := 4) hx hb hts hiX3 hown hK hP 0 rfl rfl 3 (by decide) (hts (.fieldLink RX3 20 "ClockOnce$Reader" "figures" "[I") (List.mem_of_getElem? (i := 3) rfl)) (fun _ h9 => h9) rfl dX3_mayFollow_55 ?_
        refine lv_iconst (v := (0 : Int32)) hx hb dX3_mayFollow_58 (by decide) ?_
        obtain ⟨v_5, ev_5, hiv_5, h⟩ := mk_rdE h
        refine va_iald hx hb hK hP 1 0 rfl rfl hiv_5 dX3_mayFollow_59 ?_
        refine mk_topi ev_5 ?_
        refine lv_icmp_lt (tgt := 67) hx hb dX3_mayFollow_60 (by decide) (fun q_6 => ?_) (fun q_6 => ?_)
        · have h := mk_ifp q_6 h
          refine lv_iconst (v := (0 : Int32)) hx hb dX3_mayFollow_67 (by decide) ?_
          exact hret _ _ _ h (Or.inl rfl) dX3_mayFollow_68
        · have h := mk_ifn q_6 h
          refine lv_iconst (v := (1 : Int32)) hx hb dX3_mayFollow_63 (by decide) ?_
          refine lv_goto (tgt := 68) hx hb dX3_mayFollow_64 (by decide) ?_
          exact hret _ _ _ h (Or.inr rfl) dX3_mayFollow_68
  have h := mk_ifn q_1 h
  by_cases q_7 : (u0 0 1) = (84 : Int32)
  · have h := mk_ifp q_7 h
    refine lv_lookup (off := 28) (tgt := 32) hx hb dX3_mayFollow_4 (by decide) (by rw [q_7]; rfl) (by decide) ?_
    refine lv_aload_n hx hb dX3_mayFollow_32 rfl (lv_at hl 0 rfl) ?_
    refine lv_iload_n hx hb dX3_mayFollow_33 rfl (lv_at hl 1 rfl) ?_
    obtain ⟨r_8, er_8, h⟩ := mk_bd h
    refine pc_v (As := [.int p1]) (rest := []) ⟨hx, hb, hml, hown, hts⟩ (c_X3_mayTellThing l D cI cZ cO N a0 u0 p1 r_8 er_8) (cwV 1 hts k_X3_mayFollow_X3_mayTellThing_53 rfl rfl rfl (by decide +kernel) ⟨(Nat.le_of_ble_eq_true rfl), (Nat.le_of_ble_eq_true rfl)⟩) (va_recv hK hP (ci := 3) (q0 := 0) rfl rfl) (hP.sub (ws' := wX3 cI a0 u0) [0, 1] rfl) hK rfl hl.1 rfl (Nat.le_of_ble_eq_true rfl) dX3_mayFollow_34 ⟨Nat.zero_le _, Nat.zero_le _⟩ ?_
    obtain ⟨hz_9, h⟩ := mk_zE h
    exact hret _ _ _ h hz_9 dX3_mayFollow_37
  have h := mk_ifn q_7 h
  refine lv_lookup (off := 65) (tgt := 69) hx hb dX3_mayFollow_4 (by decide) (by have zq_1 := mk_ne (z := 65) (by decide) q_1; have zq_7 := mk_ne (z := 84) (by decide) q_7; simp [Op.lookupswitch.offset, zq_1, Ne.symm zq_1, zq_7, Ne.symm zq_7]) (by decide) ?_
  refine lv_aload_n hx hb dX3_mayFollow_69 rfl (lv_at hl 0 rfl) ?_
  refine va_get (D := D) (ci := 3) (v := .int (u0 0 2)) (C := RX3) (T := TX3) (N := 4) hx hb hts hiX3 hown hK hP 0 rfl rfl 2 (by decide) (hts (.fieldLink RX3 17 "ClockOnce$Reader" "place" "I") (List.mem_of_getElem? (i := 2) rfl)) (fun _ h9 => h9) rfl dX3_mayFollow_70 ?_
  refine lv_if_ne (tgt := 84) hx hb dX3_mayFollow_73 (by decide) (fun q_10 => ?_) (fun q_10 => ?_)
  · have h := mk_ifn q_10 h
    refine lv_aload_n hx hb dX3_mayFollow_84 rfl (lv_at hl 2 rfl) ?_
    refine lv_aload_n hx hb dX3_mayFollow_85 rfl (lv_at hl 0 rfl) ?_
    refine va_get (D := D) (ci := 3) (v := .ref (a0 1)) (C := RX3) (T := TX3) (N := 4) hx hb hts hiX3 hown hK hP 0 rfl rfl 3 (by decide) (hts (.fieldLink RX3 20 "ClockOnce$Reader" "figures" "[I") (List.mem_of_getElem? (i := 3) rfl)) (fun _ h9 => h9) rfl dX3_mayFollow_86 ?_
    refine lv_iconst (v := (0 : Int32)) hx hb dX3_mayFollow_89 (by decide) ?_
    obtain ⟨v_11, ev_11, hiv_11, h⟩ := mk_rdE h
    refine va_iald hx hb hK hP 1 0 rfl rfl hiv_11 dX3_mayFollow_90 ?_
    refine mk_topi ev_11 ?_
    refine lv_iload_n hx hb dX3_mayFollow_91 rfl (lv_at hl 1 rfl) ?_
    obtain ⟨r_12, er_12, h⟩ := mk_bd h
    refine pc_v (As := [.int v_11, .int p1]) (rest := []) ⟨hx, hb, hml, hown, hts⟩ (c_X5_canLink l D cI cZ cO N a1 u1 v_11 p1 r_12 er_12) (cwV 2 hts k_X3_mayFollow_X5_canLink_63 rfl rfl rfl (by decide +kernel) ⟨(Nat.le_of_ble_eq_true rfl), (Nat.le_of_ble_eq_true rfl)⟩) (va_recv hK hP (ci := 5) (q0 := 2) rfl rfl) (hP.sub (ws' := wX5 cI a1 u1) [2, 3, 4, 5, 6, 7, 8, 9, 10, 11] rfl) hK rfl hl.1 rfl (Nat.le_of_ble_eq_true rfl) dX3_mayFollow_92 ⟨Nat.zero_le _, Nat.zero_le _⟩ ?_
    obtain ⟨hz_13, h⟩ := mk_zE h
    exact hret _ _ _ h hz_13 dX3_mayFollow_95
  · have h := mk_ifp q_10 h
    refine lv_aload_n hx hb dX3_mayFollow_76 rfl (lv_at hl 2 rfl) ?_
    refine lv_iload_n hx hb dX3_mayFollow_77 rfl (lv_at hl 1 rfl) ?_
    obtain ⟨r_14, er_14, h⟩ := mk_bd h
    refine pc_v (As := [.int p1]) (rest := []) ⟨hx, hb, hml, hown, hts⟩ (c_X5_canLinkFrom l D cI cZ cO N a1 u1 p1 r_14 er_14) (cwV 1 hts k_X3_mayFollow_X5_canLinkFrom_60 rfl rfl rfl (by decide +kernel) ⟨(Nat.le_of_ble_eq_true rfl), (Nat.le_of_ble_eq_true rfl)⟩) (va_recv hK hP (ci := 5) (q0 := 2) rfl rfl) (hP.sub (ws' := wX5 cI a1 u1) [2, 3, 4, 5, 6, 7, 8, 9, 10, 11] rfl) hK rfl hl.1 rfl (Nat.le_of_ble_eq_true rfl) dX3_mayFollow_78 ⟨Nat.zero_le _, Nat.zero_le _⟩ ?_
    refine lv_goto (tgt := 95) hx hb dX3_mayFollow_81 (by decide) ?_
    obtain ⟨hz_15, h⟩ := mk_zE h
    exact hret _ _ _ h hz_15 dX3_mayFollow_95

abbrev rm_X3_mayOpen : Room := { frames := 4, cells := 0, slots := 0, locals := 89 }
set_option maxRecDepth 20000 in
theorem k_X3_mayOpen_X5_isRoomForAsker_40 : GoodIn wsX3_mayOpen (wsV RX3 40 RX5 yX5_isRoomForAsker wsX5_isRoomForAsker) := goodIn_r _ [7, 8, 9, 4, 10, 6, 11, 36, 37, 38, 39, 40, 41, 42, 43, 44, 45, 46, 47, 48, 49] rfl (by decide +kernel)
set_option maxRecDepth 20000 in
theorem k_X3_mayOpen_X5_isRoomForLink_43 : GoodIn wsX3_mayOpen (wsV RX3 43 RX5 yX5_isRoomForLink wsX5_isRoomForLink) := goodIn_r _ [12, 13, 14, 4, 15, 16, 6, 17, 18, 19, 4, 20, 21, 22, 23, 24, 25, 26, 27, 28, 29, 30, 31, 32, 33, 34, 35, 36, 37, 38, 39, 40, 41, 42, 43, 44, 45, 46, 47, 48, 49] rfl (by decide +kernel)
set_option maxRecDepth 20000 in
theorem k_X3_mayOpen_X5_isRoomForThing_36 : GoodIn wsX3_mayOpen (wsV RX3 36 RX5 yX5_isRoomForThing wsX5_isRoomForThing) := goodIn_r _ [1, 2, 3, 4, 5, 6, 36, 37, 38, 39, 40, 41, 42, 43, 44, 45, 46, 47, 48, 49] rfl (by decide +kernel)
set_option maxHeartbeats 4000000 in
set_option maxRecDepth 100000 in
theorem c_X3_mayOpen (l : Launch) (D : va_G) (cI cZ cO : ClassId) (N : Nat) (a0 : Nat → Nat) (u0 : TU) (a1 : Nat → Nat) (u1 : TU) (p1 : Int32) (out : Int32) (h : f_X3_mayOpen N u0 u1 p1 = some out) : Met l yX3_mayOpen wsX3_mayOpen rm_X3_mayOpen (va_Pc [.ref (a0 0), .int p1, .ref (a1 0)] (fun U => va_P D vwCl (wX3 cI a0 u0 ++ wX5 cI a1 u1) U.heap ∧ va_K D vwCl (tyA cI cZ cO) U)) (vp_Si (fun r => r = out)) 0 0 (fun _ => False) := by
  refine pm_z (own := RX3) (cc := cX3_mayOpen) (maxL := 3) (by decide) rfl rfl (Nat.le_of_ble_eq_true rfl) ?_
  intro p e s m args below meth c Q H ls hx hb hml hown hts hP hK hl hret
  have hl : lv_has ls 3 [(0, .ref (a0 0)), (1, .int p1), (2, .ref (a1 0))] := hl
  unfold f_X3_mayOpen at h
  refine lv_iload_n hx hb dX3_mayOpen_0 rfl (lv_at hl 1 rfl) ?_
  by_cases q_1 : p1 = (65 : Int32)
  · have h := mk_ifp q_1 h
    refine lv_lookup (off := 40) (tgt := 41) hx hb dX3_mayOpen_1 (by decide) (by rw [q_1]; rfl) (by decide) ?_
    refine lv_aload_n hx hb dX3_mayOpen_41 rfl (lv_at hl 2 rfl) ?_
    obtain ⟨r_2, er_2, h⟩ := mk_bd h
    refine pc_v (As := []) (rest := []) ⟨hx, hb, hml, hown, hts⟩ (c_X5_isRoomForAsker l D cI cZ cO N a1 u1 r_2 er_2) (cwV 0 hts k_X3_mayOpen_X5_isRoomForAsker_40 rfl rfl rfl (by decide +kernel) ⟨(Nat.le_of_ble_eq_true rfl), (Nat.le_of_ble_eq_true rfl)⟩) (va_recv hK hP (ci := 5) (q0 := 2) rfl rfl) (hP.sub (ws' := wX5 cI a1 u1) [2, 3, 4, 5, 6, 7, 8, 9, 10, 11] rfl) hK rfl hl.1 rfl (Nat.le_of_ble_eq_true rfl) dX3_mayOpen_42 ⟨Nat.zero_le _, Nat.zero_le _⟩ ?_
    obtain ⟨hz_3, h⟩ := mk_zE h
    exact hret _ _ _ h hz_3 dX3_mayOpen_45
  have h := mk_ifn q_1 h
  by_cases q_4 : p1 = (76 : Int32)
  · have h := mk_ifp q_4 h
    refine lv_lookup (off := 45) (tgt := 46) hx hb dX3_mayOpen_1 (by decide) (by rw [q_4]; rfl) (by decide) ?_
    refine lv_aload_n hx hb dX3_mayOpen_46 rfl (lv_at hl 2 rfl) ?_
    obtain ⟨r_5, er_5, h⟩ := mk_bd h
    refine pc_v (As := []) (rest := []) ⟨hx, hb, hml, hown, hts⟩ (c_X5_isRoomForLink l D cI cZ cO N a1 u1 r_5 er_5) (cwV 0 hts k_X3_mayOpen_X5_isRoomForLink_43 rfl rfl rfl (by decide +kernel) ⟨(Nat.le_of_ble_eq_true rfl), (Nat.le_of_ble_eq_true rfl)⟩) (va_recv hK hP (ci := 5) (q0 := 2) rfl rfl) (hP.sub (ws' := wX5 cI a1 u1) [2, 3, 4, 5, 6, 7, 8, 9, 10, 11] rfl) hK rfl hl.1 rfl (Nat.le_of_ble_eq_true rfl) dX3_mayOpen_47 ⟨Nat.zero_le _, Nat.zero_le _⟩ ?_
    obtain ⟨hz_6, h⟩ := mk_zE h
    exact hret _ _ _ h hz_6 dX3_mayOpen_50
  have h := mk_ifn q_4 h
  by_cases q_7 : p1 = (84 : Int32)
  · have h := mk_ifp q_7 h
    refine lv_lookup (off := 35) (tgt := 36) hx hb dX3_mayOpen_1 (by decide) (by rw [q_7]; rfl) (by decide) ?_
    refine lv_aload_n hx hb dX3_mayOpen_36 rfl (lv_at hl 2 rfl) ?_
    obtain ⟨r_8, er_8, h⟩ := mk_bd h
    refine pc_v (As := []) (rest := []) ⟨hx, hb, hml, hown, hts⟩ (c_X5_isRoomForThing l D cI cZ cO N a1 u1 r_8 er_8) (cwV 0 hts k_X3_mayOpen_X5_isRoomForThing_36 rfl rfl rfl (by decide +kernel) ⟨(Nat.le_of_ble_eq_true rfl), (Nat.le_of_ble_eq_true rfl)⟩) (va_recv hK hP (ci := 5) (q0 := 2) rfl rfl) (hP.sub (ws' := wX5 cI a1 u1) [2, 3, 4, 5, 6, 7, 8, 9, 10, 11] rfl) hK rfl hl.1 rfl (Nat.le_of_ble_eq_true rfl) dX3_mayOpen_37 ⟨Nat.zero_le _, Nat.zero_le _⟩ ?_
    obtain ⟨hz_9, h⟩ := mk_zE h
    exact hret _ _ _ h hz_9 dX3_mayOpen_40
  have h := mk_ifn q_7 h
  refine lv_lookup (off := 50) (tgt := 51) hx hb dX3_mayOpen_1 (by decide) (by have zq_1 := mk_ne (z := 65) (by decide) q_1; have zq_4 := mk_ne (z := 76) (by decide) q_4; have zq_7 := mk_ne (z := 84) (by decide) q_7; simp [Op.lookupswitch.offset, zq_1, Ne.symm zq_1, zq_4, Ne.symm zq_4, zq_7, Ne.symm zq_7]) (by decide) ?_
  refine lv_iconst (v := (0 : Int32)) hx hb dX3_mayOpen_51 (by decide) ?_
  exact hret _ _ _ h (Or.inl rfl) dX3_mayOpen_52

abbrev rm_X3_startAnew : Room := { frames := 1, cells := 0, slots := 0, locals := 20 }
set_option maxRecDepth 20000 in
theorem k_X3_startAnew_X5_empty_24 : GoodIn wsX3_startAnew (wsV RX3 24 RX5 yX5_empty wsX5_empty) := goodIn_r _ [3, 4, 5, 6, 7, 8, 9, 10, 11, 16, 17, 18, 19, 20, 21, 22, 23, 24, 25, 26, 27, 28, 29] rfl (by decide +kernel)
set_option maxHeartbeats 4000000 in
set_option maxRecDepth 100000 in
theorem c_X3_startAnew (l : Launch) (D : va_G) (cI cZ cO : ClassId) (N : Nat) (a0 : Nat → Nat) (u0 : TU) (a1 : Nat → Nat) (u1 : TU) (sz : Nat) (out : TU × TU) (h : f_X3_startAnew N u0 u1 = some out) : Met l yX3_startAnew wsX3_startAnew rm_X3_startAnew (va_Pc [.ref (a0 0), .ref (a1 0)] (mk_Pe D vwCl (tyA cI cZ cO) (wX3 cI a0 u0 ++ wX5 cI a1 u1) sz)) (va_Qv (fun u => u = out) (mk_Be D vwCl (wX3 cI a0 u0 ++ wX5 cI a1 u1) sz (fun q => (wX3 cI a0 q.1 ++ wX5 cI a1 q.2))) (va_A (wX3 cI a0 u0 ++ wX5 cI a1 u1) sz)) 0 0 (va_A (wX3 cI a0 u0 ++ wX5 cI a1 u1) sz) := by
  refine em_v (own := RX3) (cc := cX3_startAnew) (maxL := 2) (by decide) rfl rfl (Nat.le_of_ble_eq_true rfl) ?_
  intro p e s m args below meth c Q A H0 H locs ls hx hb hml hown hts hP hK hD hS hA hl hret
  have hl : lv_has ls 2 [(0, .ref (a0 0)), (1, .ref (a1 0))] := hl
  have hiX3 : ∀ w ∈ u_ws RX3 TX3 4, w ∈ wsX3_startAnew := mk_seg 12 4 rfl
  unfold f_X3_startAnew at h
  refine lv_aload_n hx hb dX3_startAnew_0 rfl (lv_at hl 0 rfl) ?_
  refine lv_iconst (v := (0 : Int32)) hx hb dX3_startAnew_1 (by decide) ?_
  obtain ⟨w_1, ew_1, h⟩ := mk_nmE h
  refine va_put (D := D) (ci := 3) (v := .int (0 : Int32)) (ty := .boolean) (C := RX3) (T := TX3) (N := 4) hx hb hts hiX3 tyX3 tyX3_ok nmX3 hown hK hP hD hS 0 rfl rfl 0 (by decide) (hts (.fieldLink RX3 7 "ClockOnce$Reader" "begun" "Z") (List.mem_of_getElem? (i := 1) rfl)) (fun _ h9 => h9) rfl (by decide +kernel) (by decide) (by decide) (Nat.le_of_ble_eq_true rfl) dX3_startAnew_2 (fun H locs hP hD hS => ?_)
  have hP : va_P D vwCl (wX3 cI a0 w_1 ++ wX5 cI a1 u1) H := by rw [ew_1]; exact hP
  have hD : va_D A (wX3 cI a0 w_1 ++ wX5 cI a1 u1) := by rw [ew_1]; exact hD
  refine lv_aload_n hx hb dX3_startAnew_5 rfl (lv_at hl 0 rfl) ?_
  refine lv_iconst (v := (0 : Int32)) hx hb dX3_startAnew_6 (by decide) ?_
  obtain ⟨w_2, ew_2, h⟩ := mk_nmE h
  refine va_put (D := D) (ci := 3) (v := .int (0 : Int32)) (ty := .int) (C := RX3) (T := TX3) (N := 4) hx hb hts hiX3 tyX3 tyX3_ok nmX3 hown hK hP hD hS 0 rfl rfl 1 (by decide) (hts (.fieldLink RX3 13 "ClockOnce$Reader" "part" "I") (List.mem_of_getElem? (i := 2) rfl)) (fun _ h9 => h9) rfl (by decide +kernel) rfl rfl (Nat.le_of_ble_eq_true rfl) dX3_startAnew_7 (fun H locs hP hD hS => ?_)
  have hP : va_P D vwCl (wX3 cI a0 w_2 ++ wX5 cI a1 u1) H := by rw [ew_2]; exact hP
  have hD : va_D A (wX3 cI a0 w_2 ++ wX5 cI a1 u1) := by rw [ew_2]; exact hD
  refine lv_aload_n hx hb dX3_startAnew_10 rfl (lv_at hl 1 rfl) ?_
  obtain ⟨r_3, er_3, h⟩ := mk_bd h
  refine ec_vv (As := []) (rest := []) (w' := (wX3 cI a0 w_2 ++ wX5 cI a1 r_3)) ⟨hx, hb, hml, hown, hts⟩ (c_X5_empty l D cI cZ cO N a1 u1 H.size r_3 er_3) (cwV 0 hts k_X3_startAnew_X5_empty_24 rfl rfl rfl (by decide +kernel) ⟨(Nat.le_of_ble_eq_true rfl), (Nat.le_of_ble_eq_true rfl)⟩) (va_recv hK hP (ci := 5) (q0 := 2) rfl rfl) hK hP hD hS hA [2, 3, 4, 5, 6, 7, 8, 9, 10, 11] [0, 1] [0, 1, 2, 3, 4, 5, 6, 7, 8, 9, 10, 11] (hP.sub (ws' := wX5 cI a1 u1) [2, 3, 4, 5, 6, 7, 8, 9, 10, 11] rfl) (hD.sub (ws' := wX5 cI a1 u1) [2, 3, 4, 5, 6, 7, 8, 9, 10, 11] (by decide) rfl) rfl rfl (by decide) (by decide) rfl (by decide) rfl hl.1 rfl (Nat.le_of_ble_eq_true rfl) dX3_startAnew_11 ⟨Nat.zero_le _, Nat.zero_le _⟩ (fun H locs hP hD hS => ?_)
  exact hret _ _ _ _ _ h hP hD hS dX3_startAnew_14

abbrev rm_X3_takesFigure : Room := { frames := 4, cells := 0, slots := 0, locals := 90 }
set_option maxRecDepth 20000 in
theorem k_X3_takesFigure_X3_closePart_49 : GoodIn wsX3_takesFigure (wsV RX3 49 RX3 yX3_closePart wsX3_closePart) := goodIn_r _ [37, 38, 39, 7, 40, 3, 2, 41, 42, 43, 16, 44, 45, 18, 46, 47, 48, 30, 49, 50, 51, 52, 53, 54, 55, 56, 57, 58, 59, 60, 61, 62, 63, 27, 28, 29, 64, 65, 66, 67, 68, 69, 70, 71, 72, 73, 74, 75, 76, 77, 78, 79, 80, 81] rfl (by decide +kernel)
set_option maxRecDepth 20000 in
theorem k_X3_takesFigure_X3_mayFollow_46 : GoodIn wsX3_takesFigure (wsV RX3 46 RX3 yX3_mayFollow wsX3_mayFollow) := goodIn_r _ [4, 5, 6, 7, 8, 3, 1, 2, 9, 10, 11, 7, 12, 13, 14, 15, 16, 17, 18, 19, 20, 21, 22, 23, 24, 25, 26, 27, 28, 29, 30, 31, 32, 33, 34, 35, 36, 64, 65, 66, 67, 68, 69, 70, 71, 72, 73, 74, 75, 76, 77, 78, 79, 80, 81] rfl (by decide +kernel)
set_option maxHeartbeats 4000000 in
set_option maxRecDepth 100000 in
theorem c_X3_takesFigure (l : Launch) (D : va_G) (cI cZ cO : ClassId) (N : Nat) (a0 : Nat → Nat) (u0 : TU) (a1 : Nat → Nat) (u1 : TU) (p1 : Int32) (sz : Nat) (out : Int32 × TU × TU) (h : f_X3_takesFigure N u0 u1 p1 = some out) : Met l yX3_takesFigure wsX3_takesFigure rm_X3_takesFigure (va_Pc [.ref (a0 0), .int p1, .ref (a1 0)] (mk_Pe D vwCl (tyA cI cZ cO) (wX3 cI a0 u0 ++ wX5 cI a1 u1) sz)) (va_Qi (fun r u => (r, u) = out) (mk_Be D vwCl (wX3 cI a0 u0 ++ wX5 cI a1 u1) sz (fun q => (wX3 cI a0 q.1 ++ wX5 cI a1 q.2))) (va_A (wX3 cI a0 u0 ++ wX5 cI a1 u1) sz)) 0 0 (va_A (wX3 cI a0 u0 ++ wX5 cI a1 u1) sz) := by
  refine em_z (own := RX3) (cc := cX3_takesFigure) (maxL := 3) (by decide) rfl rfl (Nat.le_of_ble_eq_true rfl) ?_
  intro p e s m args below meth c Q A H0 H locs ls hx hb hml hown hts hP hK hD hS hA hl hret
  have hl : lv_has ls 3 [(0, .ref (a0 0)), (1, .int p1), (2, .ref (a1 0))] := hl
  have hiX3 : ∀ w ∈ u_ws RX3 TX3 4, w ∈ wsX3_takesFigure := mk_seg 64 4 rfl
  have K74 : ∀ (u0 : TU) (u1 : TU) (t0 : Int32) (t1 : Int32) (H : Heap) (locs : List Loc) (ls : Array Slot), va_P D vwCl (wX3 cI a0 u0 ++ wX5 cI a1 u1) H → va_D A (wX3 cI a0 u0 ++ wX5 cI a1 u1) → va_S A H0 H locs → lv_has ls 3 [(0, .ref (a0 0)), (2, .ref (a1 0))] → g_X3_takesFigure_74 N u0 u1 t0 t1 = some out → W p l e rm_X3_takesFigure s m args below meth c H locs 0 0 Q (F0 m 74 ls [.int t1, .int t0]) := by
    intro u0 u1 t0 t1 H locs ls hP hD hS hl h
    unfold g_X3_takesFigure_74 at h
    refine lv_icmp_ne (tgt := 82) hx hb dX3_takesFigure_74 (by decide) (fun q_1 => ?_) (fun q_1 => ?_)
    · have h := mk_ifn q_1 h
      refine lv_iconst (v := (1 : Int32)) hx hb dX3_takesFigure_82 (by decide) ?_
      exact hret _ _ _ _ _ _ h (Or.inr rfl) hP hD hS dX3_takesFigure_83
    · have h := mk_ifp q_1 h
      refine lv_aload_n hx hb dX3_takesFigure_77 rfl (lv_at hl 0 rfl) ?_
      refine lv_aload_n hx hb dX3_takesFigure_78 rfl (lv_at hl 1 rfl) ?_
      obtain ⟨r_2, er_2, h⟩ := mk_bd h
      refine es_vv (As := [.ref (a1 0)]) (rest := []) (w' := (wX3 cI a0 r_2.1 ++ wX5 cI a1 r_2.2)) ⟨hx, hb, hml, hown, hts⟩ (c_X3_closePart l D cI cZ cO N a0 u0 a1 u1 H.size r_2 er_2) (cwV 1 hts k_X3_takesFigure_X3_closePart_49 rfl rfl rfl (by decide +kernel) ⟨(Nat.le_of_ble_eq_true rfl), (Nat.le_of_ble_eq_true rfl)⟩) (va_recv hK hP (ci := 3) (q0 := 0) rfl rfl) hK hP hD hS hA rfl rfl hl.1 rfl (Nat.le_of_ble_eq_true rfl) dX3_takesFigure_79 ⟨Nat.zero_le _, Nat.zero_le _⟩ (fun H locs hP hD hS => ?_)
      refine lv_iconst (v := (1 : Int32)) hx hb dX3_takesFigure_82 (by decide) ?_
      exact hret _ _ _ _ _ _ h (Or.inr rfl) hP hD hS dX3_takesFigure_83
  unfold f_X3_takesFigure at h
  refine lv_iload_n hx hb dX3_takesFigure_0 rfl (lv_at hl 1 rfl) ?_
  refine lv_if_lt (tgt := 34) hx hb dX3_takesFigure_1 (by decide) (fun q_3 => ?_) (fun q_3 => ?_)
  · have h := mk_ifp q_3 h
    refine lv_iconst (v := (0 : Int32)) hx hb dX3_takesFigure_34 (by decide) ?_
    exact hret _ _ _ _ _ _ h (Or.inl rfl) hP hD hS dX3_takesFigure_35
  · have h := mk_ifn q_3 h
    refine lv_iload_n hx hb dX3_takesFigure_4 rfl (lv_at hl 1 rfl) ?_
    refine lv_bipush (v := (9 : Int32)) hx hb dX3_takesFigure_5 (by decide) ?_
    refine lv_icmp_gt (tgt := 34) hx hb dX3_takesFigure_7 (by decide) (fun q_4 => ?_) (fun q_4 => ?_)
    · have h := mk_ifp q_4 h
      refine lv_iconst (v := (0 : Int32)) hx hb dX3_takesFigure_34 (by decide) ?_
      exact hret _ _ _ _ _ _ h (Or.inl rfl) hP hD hS dX3_takesFigure_35
    · have h := mk_ifn q_4 h
      refine lv_aload_n hx hb dX3_takesFigure_10 rfl (lv_at hl 0 rfl) ?_
      refine va_get (D := D) (ci := 3) (v := .int (u0 0 2)) (C := RX3) (T := TX3) (N := 4) hx hb hts hiX3 hown hK hP 0 rfl rfl 2 (by decide) (hts (.fieldLink RX3 17 "ClockOnce$Reader" "place" "I") (List.mem_of_getElem? (i := 1) rfl)) (fun _ h9 => h9) rfl dX3_takesFigure_11 ?_
      refine lv_if_lt (tgt := 34) hx hb dX3_takesFigure_14 (by decide) (fun q_5 => ?_) (fun q_5 => ?_)
      · have h := mk_ifp q_5 h
        refine lv_iconst (v := (0 : Int32)) hx hb dX3_takesFigure_34 (by decide) ?_
        exact hret _ _ _ _ _ _ h (Or.inl rfl) hP hD hS dX3_takesFigure_35
      · have h := mk_ifn q_5 h
        refine lv_aload_n hx hb dX3_takesFigure_17 rfl (lv_at hl 0 rfl) ?_
        refine va_get (D := D) (ci := 3) (v := .int (u0 0 2)) (C := RX3) (T := TX3) (N := 4) hx hb hts hiX3 hown hK hP 0 rfl rfl 2 (by decide) (hts (.fieldLink RX3 17 "ClockOnce$Reader" "place" "I") (List.mem_of_getElem? (i := 1) rfl)) (fun _ h9 => h9) rfl dX3_takesFigure_18 ?_
        refine lv_iconst (v := (5 : Int32)) hx hb dX3_takesFigure_21 (by decide) ?_
        refine lv_icmp_ge (tgt := 34) hx hb dX3_takesFigure_22 (by decide) (fun q_6 => ?_) (fun q_6 => ?_)
        · have h := mk_ifp q_6 h
          refine lv_iconst (v := (0 : Int32)) hx hb dX3_takesFigure_34 (by decide) ?_
          exact hret _ _ _ _ _ _ h (Or.inl rfl) hP hD hS dX3_takesFigure_35
        · have h := mk_ifn q_6 h
          refine lv_aload_n hx hb dX3_takesFigure_25 rfl (lv_at hl 0 rfl) ?_
          refine lv_iload_n hx hb dX3_takesFigure_26 rfl (lv_at hl 1 rfl) ?_
          refine lv_aload_n hx hb dX3_takesFigure_27 rfl (lv_at hl 2 rfl) ?_
          obtain ⟨r_7, er_7, h⟩ := mk_bd h
          refine pc_v (As := [.int p1, .ref (a1 0)]) (rest := []) ⟨hx, hb, hml, hown, hts⟩ (c_X3_mayFollow l D cI cZ cO N a0 u0 a1 u1 p1 r_7 er_7) (cwV 2 hts k_X3_takesFigure_X3_mayFollow_46 rfl rfl rfl (by decide +kernel) ⟨(Nat.le_of_ble_eq_true rfl), (Nat.le_of_ble_eq_true rfl)⟩) (va_recv hK hP (ci := 3) (q0 := 0) rfl rfl) hP hK rfl hl.1 rfl (Nat.le_of_ble_eq_true rfl) dX3_takesFigure_28 ⟨Nat.zero_le _, Nat.zero_le _⟩ ?_
          refine lv_if_ne (tgt := 36) hx hb dX3_takesFigure_31 (by decide) (fun q_8 => ?_) (fun q_8 => ?_)
          · have h := mk_ifn q_8 h
            refine lv_aload_n hx hb dX3_takesFigure_36 rfl (lv_at hl 0 rfl) ?_
            refine va_get (D := D) (ci := 3) (v := .ref (a0 1)) (C := RX3) (T := TX3) (N := 4) hx hb hts hiX3 hown hK hP 0 rfl rfl 3 (by decide) (hts (.fieldLink RX3 20 "ClockOnce$Reader" "figures" "[I") (List.mem_of_getElem? (i := 2) rfl)) (fun _ h9 => h9) rfl dX3_takesFigure_37 ?_
            refine lv_aload_n hx hb dX3_takesFigure_40 rfl (lv_at hl 0 rfl) ?_
            refine va_get (D := D) (ci := 3) (v := .int (u0 0 2)) (C := RX3) (T := TX3) (N := 4) hx hb hts hiX3 hown hK hP 0 rfl rfl 2 (by decide) (hts (.fieldLink RX3 17 "ClockOnce$Reader" "place" "I") (List.mem_of_getElem? (i := 1) rfl)) (fun _ h9 => h9) rfl dX3_takesFigure_41 ?_
            refine lv_iload_n hx hb dX3_takesFigure_44 rfl (lv_at hl 1 rfl) ?_
            obtain ⟨hx_9, h⟩ := mk_ixE h
            obtain ⟨w_10, ew_10, h⟩ := mk_nmE h
            refine va_iast hx hb hK hP hD hS 1 0 rfl rfl hx_9 dX3_takesFigure_45 (fun H locs hP hD hS => ?_)
            have hP : va_P D vwCl (wX3 cI a0 w_10 ++ wX5 cI a1 u1) H := by rw [ew_10]; exact hP
            have hD : va_D A (wX3 cI a0 w_10 ++ wX5 cI a1 u1) := by rw [ew_10]; exact hD
            refine lv_aload_n hx hb dX3_takesFigure_46 rfl (lv_at hl 0 rfl) ?_
            refine lv_dup hx hb dX3_takesFigure_47 rfl ?_
            refine va_get (D := D) (ci := 3) (v := .int (w_10 0 2)) (C := RX3) (T := TX3) (N := 4) hx hb hts hiX3 hown hK hP 0 rfl rfl 2 (by decide) (hts (.fieldLink RX3 17 "ClockOnce$Reader" "place" "I") (List.mem_of_getElem? (i := 1) rfl)) (fun _ h9 => h9) rfl dX3_takesFigure_48 ?_
            refine lv_iconst (v := (1 : Int32)) hx hb dX3_takesFigure_51 (by decide) ?_
            refine lv_iadd hx hb dX3_takesFigure_52 ?_
            obtain ⟨w_11, ew_11, h⟩ := mk_nmE h
            refine va_put (D := D) (ci := 3) (v := .int ((w_10 0 2) + (1 : Int32))) (ty := .int) (C := RX3) (T := TX3) (N := 4) hx hb hts hiX3 tyX3 tyX3_ok nmX3 hown hK hP hD hS 0 rfl rfl 2 (by decide) (hts (.fieldLink RX3 17 "ClockOnce$Reader" "place" "I") (List.mem_of_getElem? (i := 1) rfl)) (fun _ h9 => h9) rfl (by decide +kernel) rfl rfl (Nat.le_of_ble_eq_true rfl) dX3_takesFigure_53 (fun H locs hP hD hS => ?_)
            have hP : va_P D vwCl (wX3 cI a0 w_11 ++ wX5 cI a1 u1) H := by rw [ew_11]; exact hP
            have hD : va_D A (wX3 cI a0 w_11 ++ wX5 cI a1 u1) := by rw [ew_11]; exact hD
            refine lv_aload_n hx hb dX3_takesFigure_56 rfl (lv_at hl 0 rfl) ?_
            refine va_get (D := D) (ci := 3) (v := .int (w_11 0 2)) (C := RX3) (T := TX3) (N := 4) hx hb hts hiX3 hown hK hP 0 rfl rfl 2 (by decide) (hts (.fieldLink RX3 17 "ClockOnce$Reader" "place" "I") (List.mem_of_getElem? (i := 1) rfl)) (fun _ h9 => h9) rfl dX3_takesFigure_57 ?_
            refine lv_aload_n hx hb dX3_takesFigure_60 rfl (lv_at hl 0 rfl) ?_
            refine va_get (D := D) (ci := 3) (v := .int (w_11 0 1)) (C := RX3) (T := TX3) (N := 4) hx hb hts hiX3 hown hK hP 0 rfl rfl 1 (by decide) (hts (.fieldLink RX3 13 "ClockOnce$Reader" "part" "I") (List.mem_of_getElem? (i := 3) rfl)) (fun _ h9 => h9) rfl dX3_takesFigure_61 ?_
            refine lv_bipush (v := (84 : Int32)) hx hb dX3_takesFigure_64 (by decide) ?_
            refine lv_icmp_ne (tgt := 73) hx hb dX3_takesFigure_66 (by decide) (fun q_12 => ?_) (fun q_12 => ?_)
            · have h := mk_ifn q_12 h
              refine lv_iconst (v := (2 : Int32)) hx hb dX3_takesFigure_73 (by decide) ?_
              exact K74 w_11 u1 (w_11 0 2) (2 : Int32) H locs ls hP hD hS (lv_sub hl [0, 2] rfl) h
            · have h := mk_ifp q_12 h
              refine lv_iconst (v := (5 : Int32)) hx hb dX3_takesFigure_69 (by decide) ?_
              refine lv_goto (tgt := 74) hx hb dX3_takesFigure_70 (by decide) ?_
              exact K74 w_11 u1 (w_11 0 2) (5 : Int32) H locs ls hP hD hS (lv_sub hl [0, 2] rfl) h
          · have h := mk_ifp q_8 h
            refine lv_iconst (v := (0 : Int32)) hx hb dX3_takesFigure_34 (by decide) ?_
            exact hret _ _ _ _ _ _ h (Or.inl rfl) hP hD hS dX3_takesFigure_35

abbrev rm_X3_takes : Room := { frames := 5, cells := 0, slots := 0, locals := 112 }
set_option maxRecDepth 20000 in
theorem k_X3_takes_X3_takesFigure_33 : GoodIn wsX3_takes (wsV RX3 33 RX3 yX3_takesFigure wsX3_takesFigure) := goodIn_r _ [44, 45, 46, 7, 47, 3, 48, 2, 49, 50, 51, 7, 52, 53, 54, 55, 56, 57, 37, 38, 12, 39, 14, 58, 26, 27, 28, 29, 30, 31, 32, 24, 33, 34, 35, 36, 40, 41, 42, 43, 59, 60, 61, 62, 63, 64, 65, 66, 67, 68, 69, 70, 71, 72, 10, 11, 13, 73, 74, 75, 76, 19, 77, 78, 79, 80, 81, 82, 83, 84, 85, 86, 87, 88, 89, 90, 91, 92, 93, 94, 95, 96, 97, 98, 99, 100] rfl (by decide +kernel)
set_option maxRecDepth 20000 in
theorem k_X3_takes_X3_mayOpen_29 : GoodIn wsX3_takes (wsV RX3 29 RX3 yX3_mayOpen wsX3_mayOpen) := goodIn_r _ [4, 5, 6, 7, 8, 9, 10, 11, 12, 13, 14, 15, 16, 17, 18, 19, 20, 21, 22, 23, 24, 25, 26, 27, 28, 29, 30, 31, 32, 33, 34, 35, 36, 37, 38, 39, 40, 41, 42, 43, 87, 88, 89, 90, 91, 92, 93, 94, 95, 96, 97, 98, 99, 100] rfl (by decide +kernel)
set_option maxHeartbeats 4000000 in
set_option maxRecDepth 100000 in
theorem c_X3_takes (l : Launch) (D : va_G) (cI cZ cO : ClassId) (N : Nat) (a0 : Nat → Nat) (u0 : TU) (a1 : Nat → Nat) (u1 : TU) (p1 : Int32) (sz : Nat) (out : Int32 × TU × TU) (h : f_X3_takes N u0 u1 p1 = some out) : Met l yX3_takes wsX3_takes rm_X3_takes (va_Pc [.ref (a0 0), .int p1, .ref (a1 0)] (mk_Pe D vwCl (tyA cI cZ cO) (wX3 cI a0 u0 ++ wX5 cI a1 u1) sz)) (va_Qi (fun r u => (r, u) = out) (mk_Be D vwCl (wX3 cI a0 u0 ++ wX5 cI a1 u1) sz (fun q => (wX3 cI a0 q.1 ++ wX5 cI a1 q.2))) (va_A (wX3 cI a0 u0 ++ wX5 cI a1 u1) sz)) 0 0 (va_A (wX3 cI a0 u0 ++ wX5 cI a1 u1) sz) := by
  refine em_z (own := RX3) (cc := cX3_takes) (maxL := 3) (by decide) rfl rfl (Nat.le_of_ble_eq_true rfl) ?_
  intro p e s m args below meth c Q A H0 H locs ls hx hb hml hown hts hP hK hD hS hA hl hret
  have hl : lv_has ls 3 [(0, .ref (a0 0)), (1, .int p1), (2, .ref (a1 0))] := hl
  have hiX3 : ∀ w ∈ u_ws RX3 TX3 4, w ∈ wsX3_takes := mk_seg 83 4 rfl
  have K49 : ∀ (u0 : TU) (u1 : TU) (t1 : Int32) (H : Heap) (locs : List Loc) (ls : Array Slot), va_P D vwCl (wX3 cI a0 u0 ++ wX5 cI a1 u1) H → va_D A (wX3 cI a0 u0 ++ wX5 cI a1 u1) → va_S A H0 H locs → lv_has ls 3 [(0, .ref (a0 0))] → g_X3_takes_49 N u0 u1 t1 = some out → W p l e rm_X3_takes s m args below meth c H locs 0 0 Q (F0 m 49 ls [.int t1, .ref (a0 0)]) := by
    intro u0 u1 t1 H locs ls hP hD hS hl h
    unfold g_X3_takes_49 at h
    obtain ⟨w_1, ew_1, h⟩ := mk_nmE h
    refine va_put (D := D) (ci := 3) (v := .int t1) (ty := .int) (C := RX3) (T := TX3) (N := 4) hx hb hts hiX3 tyX3 tyX3_ok nmX3 hown hK hP hD hS 0 rfl rfl 1 (by decide) (hts (.fieldLink RX3 13 "ClockOnce$Reader" "part" "I") (List.mem_of_getElem? (i := 2) rfl)) (fun _ h9 => h9) rfl (by decide +kernel) rfl rfl (Nat.le_of_ble_eq_true rfl) dX3_takes_49 (fun H locs hP hD hS => ?_)
    have hP : va_P D vwCl (wX3 cI a0 w_1 ++ wX5 cI a1 u1) H := by rw [ew_1]; exact hP
    have hD : va_D A (wX3 cI a0 w_1 ++ wX5 cI a1 u1) := by rw [ew_1]; exact hD
    refine lv_aload_n hx hb dX3_takes_52 rfl (lv_at hl 0 rfl) ?_
    refine lv_iconst (v := (0 : Int32)) hx hb dX3_takes_53 (by decide) ?_
    obtain ⟨w_2, ew_2, h⟩ := mk_nmE h
    refine va_put (D := D) (ci := 3) (v := .int (0 : Int32)) (ty := .int) (C := RX3) (T := TX3) (N := 4) hx hb hts hiX3 tyX3 tyX3_ok nmX3 hown hK hP hD hS 0 rfl rfl 2 (by decide) (hts (.fieldLink RX3 17 "ClockOnce$Reader" "place" "I") (List.mem_of_getElem? (i := 3) rfl)) (fun _ h9 => h9) rfl (by decide +kernel) rfl rfl (Nat.le_of_ble_eq_true rfl) dX3_takes_54 (fun H locs hP hD hS => ?_)
    have hP : va_P D vwCl (wX3 cI a0 w_2 ++ wX5 cI a1 u1) H := by rw [ew_2]; exact hP
    have hD : va_D A (wX3 cI a0 w_2 ++ wX5 cI a1 u1) := by rw [ew_2]; exact hD
    refine lv_aload_n hx hb dX3_takes_57 rfl (lv_at hl 0 rfl) ?_
    refine va_get (D := D) (ci := 3) (v := .int (w_2 0 1)) (C := RX3) (T := TX3) (N := 4) hx hb hts hiX3 hown hK hP 0 rfl rfl 1 (by decide) (hts (.fieldLink RX3 13 "ClockOnce$Reader" "part" "I") (List.mem_of_getElem? (i := 2) rfl)) (fun _ h9 => h9) rfl dX3_takes_58 ?_
    refine lv_if_eq (tgt := 68) hx hb dX3_takes_61 (by decide) (fun q_3 => ?_) (fun q_3 => ?_)
    · have h := mk_ifp q_3 h
      refine lv_iconst (v := (0 : Int32)) hx hb dX3_takes_68 (by decide) ?_
      exact hret _ _ _ _ _ _ h (Or.inl rfl) hP hD hS dX3_takes_69
    · have h := mk_ifn q_3 h
      refine lv_iconst (v := (1 : Int32)) hx hb dX3_takes_64 (by decide) ?_
      refine lv_goto (tgt := 69) hx hb dX3_takes_65 (by decide) ?_
      exact hret _ _ _ _ _ _ h (Or.inr rfl) hP hD hS dX3_takes_69
  unfold f_X3_takes at h
  refine lv_aload_n hx hb dX3_takes_0 rfl (lv_at hl 0 rfl) ?_
  refine va_get (D := D) (ci := 3) (v := .int (u0 0 0)) (C := RX3) (T := TX3) (N := 4) hx hb hts hiX3 hown hK hP 0 rfl rfl 0 (by decide) (hts (.fieldLink RX3 7 "ClockOnce$Reader" "begun" "Z") (List.mem_of_getElem? (i := 1) rfl)) (fun _ h9 => h9) rfl dX3_takes_1 ?_
  refine lv_if_ne (tgt := 27) hx hb dX3_takes_4 (by decide) (fun q_4 => ?_) (fun q_4 => ?_)
  · have h := mk_ifn q_4 h
    refine lv_aload_n hx hb dX3_takes_27 rfl (lv_at hl 0 rfl) ?_
    refine va_get (D := D) (ci := 3) (v := .int (u0 0 1)) (C := RX3) (T := TX3) (N := 4) hx hb hts hiX3 hown hK hP 0 rfl rfl 1 (by decide) (hts (.fieldLink RX3 13 "ClockOnce$Reader" "part" "I") (List.mem_of_getElem? (i := 2) rfl)) (fun _ h9 => h9) rfl dX3_takes_28 ?_
    refine lv_if_ne (tgt := 70) hx hb dX3_takes_31 (by decide) (fun q_5 => ?_) (fun q_5 => ?_)
    · have h := mk_ifn q_5 h
      refine lv_aload_n hx hb dX3_takes_70 rfl (lv_at hl 0 rfl) ?_
      refine lv_iload_n hx hb dX3_takes_71 rfl (lv_at hl 1 rfl) ?_
      refine lv_bipush (v := (48 : Int32)) hx hb dX3_takes_72 (by decide) ?_
      refine lv_isub hx hb dX3_takes_74 ?_
      refine lv_aload_n hx hb dX3_takes_75 rfl (lv_at hl 2 rfl) ?_
      obtain ⟨r_6, er_6, h⟩ := mk_bd h
      refine es_vi (As := [.int (p1 - (48 : Int32)), .ref (a1 0)]) (rest := []) (w' := (wX3 cI a0 r_6.2.1 ++ wX5 cI a1 r_6.2.2)) ⟨hx, hb, hml, hown, hts⟩ (c_X3_takesFigure l D cI cZ cO N a0 u0 a1 u1 (p1 - (48 : Int32)) H.size r_6 er_6) (cwV 2 hts k_X3_takes_X3_takesFigure_33 rfl rfl rfl (by decide +kernel) ⟨(Nat.le_of_ble_eq_true rfl), (Nat.le_of_ble_eq_true rfl)⟩) (va_recv hK hP (ci := 3) (q0 := 0) rfl rfl) hK hP hD hS hA rfl rfl hl.1 rfl (Nat.le_of_ble_eq_true rfl) dX3_takes_76 ⟨Nat.zero_le _, Nat.zero_le _⟩ (fun H locs hP hD hS => ?_)
      obtain ⟨hz_7, h⟩ := mk_zE h
      exact hret _ _ _ _ _ _ h hz_7 hP hD hS dX3_takes_79
    · have h := mk_ifp q_5 h
      refine lv_aload_n hx hb dX3_takes_34 rfl (lv_at hl 0 rfl) ?_
      refine lv_aload_n hx hb dX3_takes_35 rfl (lv_at hl 0 rfl) ?_
      refine lv_iload_n hx hb dX3_takes_36 rfl (lv_at hl 1 rfl) ?_
      refine lv_aload_n hx hb dX3_takes_37 rfl (lv_at hl 2 rfl) ?_
      obtain ⟨r_8, er_8, h⟩ := mk_bd h
      refine pc_v (As := [.int p1, .ref (a1 0)]) (rest := [.ref (a0 0)]) ⟨hx, hb, hml, hown, hts⟩ (c_X3_mayOpen l D cI cZ cO N a0 u0 a1 u1 p1 r_8 er_8) (cwV 2 hts k_X3_takes_X3_mayOpen_29 rfl rfl rfl (by decide +kernel) ⟨(Nat.le_of_ble_eq_true rfl), (Nat.le_of_ble_eq_true rfl)⟩) (va_recv hK hP (ci := 3) (q0 := 0) rfl rfl) hP hK rfl hl.1 rfl (Nat.le_of_ble_eq_true rfl) dX3_takes_38 ⟨Nat.zero_le _, Nat.zero_le _⟩ ?_
      refine lv_if_eq (tgt := 48) hx hb dX3_takes_41 (by decide) (fun q_9 => ?_) (fun q_9 => ?_)
      · have h := mk_ifp q_9 h
        refine lv_iconst (v := (0 : Int32)) hx hb dX3_takes_48 (by decide) ?_
        exact K49 u0 u1 (0 : Int32) H locs ls hP hD hS (lv_sub hl [0] rfl) h
      · have h := mk_ifn q_9 h
        refine lv_iload_n hx hb dX3_takes_44 rfl (lv_at hl 1 rfl) ?_
        refine lv_goto (tgt := 49) hx hb dX3_takes_45 (by decide) ?_
        exact K49 u0 u1 p1 H locs ls hP hD hS (lv_sub hl [0] rfl) h
  · have h := mk_ifp q_4 h
    refine lv_aload_n hx hb dX3_takes_7 rfl (lv_at hl 0 rfl) ?_
    refine lv_iload_n hx hb dX3_takes_8 rfl (lv_at hl 1 rfl) ?_
    refine lv_bipush (v := (67 : Int32)) hx hb dX3_takes_9 (by decide) ?_
    refine lv_icmp_ne (tgt := 18) hx hb dX3_takes_11 (by decide) (fun q_10 => ?_) (fun q_10 => ?_)
    · have h := mk_ifn q_10 h
      refine lv_iconst (v := (0 : Int32)) hx hb dX3_takes_18 (by decide) ?_
      obtain ⟨w_11, ew_11, h⟩ := mk_nmE h
      refine va_put (D := D) (ci := 3) (v := .int (0 : Int32)) (ty := .boolean) (C := RX3) (T := TX3) (N := 4) hx hb hts hiX3 tyX3 tyX3_ok nmX3 hown hK hP hD hS 0 rfl rfl 0 (by decide) (hts (.fieldLink RX3 7 "ClockOnce$Reader" "begun" "Z") (List.mem_of_getElem? (i := 1) rfl)) (fun _ h9 => h9) rfl (by decide +kernel) (by decide) (by decide) (Nat.le_of_ble_eq_true rfl) dX3_takes_19 (fun H locs hP hD hS => ?_)
      have hP : va_P D vwCl (wX3 cI a0 w_11 ++ wX5 cI a1 u1) H := by rw [ew_11]; exact hP
      have hD : va_D A (wX3 cI a0 w_11 ++ wX5 cI a1 u1) := by rw [ew_11]; exact hD
      refine lv_aload_n hx hb dX3_takes_22 rfl (lv_at hl 0 rfl) ?_
      refine va_get (D := D) (ci := 3) (v := .int (w_11 0 0)) (C := RX3) (T := TX3) (N := 4) hx hb hts hiX3 hown hK hP 0 rfl rfl 0 (by decide) (hts (.fieldLink RX3 7 "ClockOnce$Reader" "begun" "Z") (List.mem_of_getElem? (i := 1) rfl)) (fun _ h9 => h9) rfl dX3_takes_23 ?_
      obtain ⟨hz_12, h⟩ := mk_zE h
      exact hret _ _ _ _ _ _ h hz_12 hP hD hS dX3_takes_26
    · have h := mk_ifp q_10 h
      refine lv_iconst (v := (1 : Int32)) hx hb dX3_takes_14 (by decide) ?_
      refine lv_goto (tgt := 19) hx hb dX3_takes_15 (by decide) ?_
      obtain ⟨w_13, ew_13, h⟩ := mk_nmE h
      refine va_put (D := D) (ci := 3) (v := .int (1 : Int32)) (ty := .boolean) (C := RX3) (T := TX3) (N := 4) hx hb hts hiX3 tyX3 tyX3_ok nmX3 hown hK hP hD hS 0 rfl rfl 0 (by decide) (hts (.fieldLink RX3 7 "ClockOnce$Reader" "begun" "Z") (List.mem_of_getElem? (i := 1) rfl)) (fun _ h9 => h9) rfl (by decide +kernel) (by decide) (by decide) (Nat.le_of_ble_eq_true rfl) dX3_takes_19 (fun H locs hP hD hS => ?_)
      have hP : va_P D vwCl (wX3 cI a0 w_13 ++ wX5 cI a1 u1) H := by rw [ew_13]; exact hP
      have hD : va_D A (wX3 cI a0 w_13 ++ wX5 cI a1 u1) := by rw [ew_13]; exact hD
      refine lv_aload_n hx hb dX3_takes_22 rfl (lv_at hl 0 rfl) ?_
      refine va_get (D := D) (ci := 3) (v := .int (w_13 0 0)) (C := RX3) (T := TX3) (N := 4) hx hb hts hiX3 hown hK hP 0 rfl rfl 0 (by decide) (hts (.fieldLink RX3 7 "ClockOnce$Reader" "begun" "Z") (List.mem_of_getElem? (i := 1) rfl)) (fun _ h9 => h9) rfl dX3_takes_23 ?_
      obtain ⟨hz_14, h⟩ := mk_zE h
      exact hret _ _ _ _ _ _ h hz_14 hP hD hS dX3_takes_26

abbrev rm_X4_add : Room := { frames := 0, cells := 0, slots := 0, locals := 0 }
set_option maxHeartbeats 4000000 in
set_option maxRecDepth 100000 in
theorem c_X4_add (l : Launch) (D : va_G) (cI cZ cO : ClassId) (N : Nat) (a0 : Nat → Nat) (u0 : TU) (p1 : Int32) (p2 : Int32) (sz : Nat) (out : TU) (h : f_X4_add N u0 p1 p2 = some out) : Met l yX4_add wsX4_add rm_X4_add (va_Pc [.ref (a0 0), .int p1, .int p2] (mk_Pe D vwCl (tyA cI cZ cO) (wX4 cI a0 u0) sz)) (va_Qv (fun u => u = out) (mk_Be D vwCl (wX4 cI a0 u0) sz (fun q => (wX4 cI a0 q))) (va_A (wX4 cI a0 u0) sz)) 0 0 (va_A (wX4 cI a0 u0) sz) := by
  refine em_v (own := RX4) (cc := cX4_add) (maxL := 3) (by decide) rfl rfl (Nat.le_of_ble_eq_true rfl) ?_
  intro p e s m args below meth c Q A H0 H locs ls hx hb hml hown hts hP hK hD hS hA hl hret
  have hl : lv_has ls 3 [(0, .ref (a0 0)), (1, .int p1), (2, .int p2)] := hl
  have hiX4 : ∀ w ∈ u_ws RX4 TX4 3, w ∈ wsX4_add := mk_seg 4 3 rfl
  unfold f_X4_add at h
  refine lv_aload_n hx hb dX4_add_0 rfl (lv_at hl 0 rfl) ?_
  refine va_get (D := D) (ci := 4) (v := .int (u0 0 0)) (C := RX4) (T := TX4) (N := 3) hx hb hts hiX4 hown hK hP 0 rfl rfl 2 (by decide) (hts (.fieldLink RX4 18 "ClockOnce$Sales" "size" "I") (List.mem_of_getElem? (i := 1) rfl)) (fun _ h9 => h9) rfl dX4_add_1 ?_
  refine lv_bipush (v := (6 : Int32)) hx hb dX4_add_4 (by decide) ?_
  refine lv_icmp_ge (tgt := 39) hx hb dX4_add_6 (by decide) (fun q_1 => ?_) (fun q_1 => ?_)
  · have h := mk_ifp q_1 h
    exact hret _ _ _ _ _ h hP hD hS dX4_add_39
  · have h := mk_ifn q_1 h
    refine lv_aload_n hx hb dX4_add_9 rfl (lv_at hl 0 rfl) ?_
    refine va_get (D := D) (ci := 4) (v := .ref (a0 1)) (C := RX4) (T := TX4) (N := 3) hx hb hts hiX4 hown hK hP 0 rfl rfl 0 (by decide) (hts (.fieldLink RX4 9 "ClockOnce$Sales" "things" "[I") (List.mem_of_getElem? (i := 2) rfl)) (fun _ h9 => h9) rfl dX4_add_10 ?_
    refine lv_aload_n hx hb dX4_add_13 rfl (lv_at hl 0 rfl) ?_
    refine va_get (D := D) (ci := 4) (v := .int (u0 0 0)) (C := RX4) (T := TX4) (N := 3) hx hb hts hiX4 hown hK hP 0 rfl rfl 2 (by decide) (hts (.fieldLink RX4 18 "ClockOnce$Sales" "size" "I") (List.mem_of_getElem? (i := 1) rfl)) (fun _ h9 => h9) rfl dX4_add_14 ?_
    refine lv_iload_n hx hb dX4_add_17 rfl (lv_at hl 1 rfl) ?_
    obtain ⟨hx_2, h⟩ := mk_ixE h
    obtain ⟨w_3, ew_3, h⟩ := mk_nmE h
    refine va_iast hx hb hK hP hD hS 1 0 rfl rfl hx_2 dX4_add_18 (fun H locs hP hD hS => ?_)
    have hP : va_P D vwCl (wX4 cI a0 w_3) H := by rw [ew_3]; exact hP
    have hD : va_D A (wX4 cI a0 w_3) := by rw [ew_3]; exact hD
    refine lv_aload_n hx hb dX4_add_19 rfl (lv_at hl 0 rfl) ?_
    refine va_get (D := D) (ci := 4) (v := .ref (a0 2)) (C := RX4) (T := TX4) (N := 3) hx hb hts hiX4 hown hK hP 0 rfl rfl 1 (by decide) (hts (.fieldLink RX4 15 "ClockOnce$Sales" "days" "[I") (List.mem_of_getElem? (i := 3) rfl)) (fun _ h9 => h9) rfl dX4_add_20 ?_
    refine lv_aload_n hx hb dX4_add_23 rfl (lv_at hl 0 rfl) ?_
    refine va_get (D := D) (ci := 4) (v := .int (w_3 0 0)) (C := RX4) (T := TX4) (N := 3) hx hb hts hiX4 hown hK hP 0 rfl rfl 2 (by decide) (hts (.fieldLink RX4 18 "ClockOnce$Sales" "size" "I") (List.mem_of_getElem? (i := 1) rfl)) (fun _ h9 => h9) rfl dX4_add_24 ?_
    refine lv_iload_n hx hb dX4_add_27 rfl (lv_at hl 2 rfl) ?_
    obtain ⟨hx_4, h⟩ := mk_ixE h
    obtain ⟨w_5, ew_5, h⟩ := mk_nmE h
    refine va_iast hx hb hK hP hD hS 2 0 rfl rfl hx_4 dX4_add_28 (fun H locs hP hD hS => ?_)
    have hP : va_P D vwCl (wX4 cI a0 w_5) H := by rw [ew_5]; exact hP
    have hD : va_D A (wX4 cI a0 w_5) := by rw [ew_5]; exact hD
    refine lv_aload_n hx hb dX4_add_29 rfl (lv_at hl 0 rfl) ?_
    refine lv_dup hx hb dX4_add_30 rfl ?_
    refine va_get (D := D) (ci := 4) (v := .int (w_5 0 0)) (C := RX4) (T := TX4) (N := 3) hx hb hts hiX4 hown hK hP 0 rfl rfl 2 (by decide) (hts (.fieldLink RX4 18 "ClockOnce$Sales" "size" "I") (List.mem_of_getElem? (i := 1) rfl)) (fun _ h9 => h9) rfl dX4_add_31 ?_
    refine lv_iconst (v := (1 : Int32)) hx hb dX4_add_34 (by decide) ?_
    refine lv_iadd hx hb dX4_add_35 ?_
    obtain ⟨w_6, ew_6, h⟩ := mk_nmE h
    refine va_put (D := D) (ci := 4) (v := .int ((w_5 0 0) + (1 : Int32))) (ty := .int) (C := RX4) (T := TX4) (N := 3) hx hb hts hiX4 tyX4 tyX4_ok nmX4 hown hK hP hD hS 0 rfl rfl 2 (by decide) (hts (.fieldLink RX4 18 "ClockOnce$Sales" "size" "I") (List.mem_of_getElem? (i := 1) rfl)) (fun _ h9 => h9) rfl (by decide +kernel) rfl rfl (Nat.le_of_ble_eq_true rfl) dX4_add_36 (fun H locs hP hD hS => ?_)
    have hP : va_P D vwCl (wX4 cI a0 w_6) H := by rw [ew_6]; exact hP
    have hD : va_D A (wX4 cI a0 w_6) := by rw [ew_6]; exact hD
    exact hret _ _ _ _ _ h hP hD hS dX4_add_39

abbrev rm_X4_fits : Room := { frames := 4, cells := 0, slots := 0, locals := 102 }
set_option maxRecDepth 20000 in
theorem k_X4_fits_X5_hasThing_22 : GoodIn wsX4_fits (wsV RX4 22 RX5 yX5_hasThing wsX5_hasThing) := goodIn_r _ [4, 5, 6, 7, 8, 9, 45, 46, 47, 48, 49, 50, 51, 52, 53, 54, 55, 56, 57, 58] rfl (by decide +kernel)
set_option maxRecDepth 20000 in
theorem k_X4_fits_X5_wiseDay_28 : GoodIn wsX4_fits (wsV RX4 28 RX5 yX5_wiseDay wsX5_wiseDay) := goodIn_r _ [10, 11, 12, 7, 13, 14, 15, 16, 7, 17, 9, 18, 19, 20, 21, 22, 23, 24, 25, 26, 27, 28, 29, 30, 31, 32, 33, 34, 35, 36, 37, 38, 39, 40, 41, 45, 46, 47, 48, 49, 50, 51, 52, 53, 54, 55, 56, 57, 58] rfl (by decide +kernel)
set_option maxHeartbeats 4000000 in
set_option maxRecDepth 100000 in
theorem c_X4_fits (l : Launch) (D : va_G) (cI cZ cO : ClassId) (N : Nat) (a0 : Nat → Nat) (u0 : TU) (a1 : Nat → Nat) (u1 : TU) (p2 : Int32) (out : Int32) (h : f_X4_fits N u0 u1 p2 = some out) : Met l yX4_fits wsX4_fits rm_X4_fits (va_Pc [.ref (a0 0), .ref (a1 0), .int p2] (fun U => va_P D vwCl (wX4 cI a0 u0 ++ wX5 cI a1 u1) U.heap ∧ va_K D vwCl (tyA cI cZ cO) U)) (vp_Si (fun r => r = out)) 0 0 (fun _ => False) := by
  refine pm_z (own := RX4) (cc := cX4_fits) (maxL := 4) (by decide) rfl rfl (Nat.le_of_ble_eq_true rfl) ?_
  intro p e s m args below meth c Q H ls hx hb hml hown hts hP hK hl hret
  have hl : lv_has ls 4 [(0, .ref (a0 0)), (1, .ref (a1 0)), (2, .int p2)] := hl
  have hiX4 : ∀ w ∈ u_ws RX4 TX4 3, w ∈ wsX4_fits := mk_seg 42 3 rfl
  have K2 : ∀ (x2 : Int32) (x3 : Int32) (ls : Array Slot), lv_has ls 4 [(0, .ref (a0 0)), (1, .ref (a1 0)), (2, .int x2), (3, .int x3)] → lq1 (g_X4_fits_2 N u0 u1 x2) N x3 = some out → W p l e rm_X4_fits s m args below meth c H [] 0 0 Q (F0 m 2 ls []) := by
    intro x2 x3 ls hl h
    refine lq1_W (Wd := fun x3 => ∀ (ls : Array Slot), lv_has ls 4 [(0, .ref (a0 0)), (1, .ref (a1 0)), (2, .int x2), (3, .int x3)] → W p l e rm_X4_fits s m args below meth c H [] 0 0 Q (F0 m 2 ls [])) (fun rec2 ih2 x3 h ls hl => ?_) N x3 h ls hl
    unfold g_X4_fits_2 at h
    refine lv_iload_n hx hb dX4_fits_2 rfl (lv_at hl 3 rfl) ?_
    refine lv_aload_n hx hb dX4_fits_3 rfl (lv_at hl 0 rfl) ?_
    refine va_get (D := D) (ci := 4) (v := .int (u0 0 0)) (C := RX4) (T := TX4) (N := 3) hx hb hts hiX4 hown hK hP 0 rfl rfl 2 (by decide) (hts (.fieldLink RX4 18 "ClockOnce$Sales" "size" "I") (List.mem_of_getElem? (i := 1) rfl)) (fun _ h9 => h9) rfl dX4_fits_4 ?_
    refine lv_icmp_ge (tgt := 52) hx hb dX4_fits_7 (by decide) (fun q_1 => ?_) (fun q_1 => ?_)
    · have h := mk_ifp q_1 h
      refine lv_iconst (v := (1 : Int32)) hx hb dX4_fits_52 (by decide) ?_
      exact hret _ _ _ h (Or.inr rfl) dX4_fits_53
    · have h := mk_ifn q_1 h
      refine lv_aload_n hx hb dX4_fits_10 rfl (lv_at hl 1 rfl) ?_
      refine lv_aload_n hx hb dX4_fits_11 rfl (lv_at hl 0 rfl) ?_
      refine va_get (D := D) (ci := 4) (v := .ref (a0 1)) (C := RX4) (T := TX4) (N := 3) hx hb hts hiX4 hown hK hP 0 rfl rfl 0 (by decide) (hts (.fieldLink RX4 9 "ClockOnce$Sales" "things" "[I") (List.mem_of_getElem? (i := 2) rfl)) (fun _ h9 => h9) rfl dX4_fits_12 ?_
      refine lv_iload_n hx hb dX4_fits_15 rfl (lv_at hl 3 rfl) ?_
      obtain ⟨v_2, ev_2, hiv_2, h⟩ := mk_rdE h
      refine va_iald hx hb hK hP 1 0 rfl rfl hiv_2 dX4_fits_16 ?_
      refine mk_topi ev_2 ?_
      obtain ⟨r_3, er_3, h⟩ := mk_bd h
      refine pc_v (As := [.int v_2]) (rest := []) ⟨hx, hb, hml, hown, hts⟩ (c_X5_hasThing l D cI cZ cO N a1 u1 v_2 r_3 er_3) (cwV 1 hts k_X4_fits_X5_hasThing_22 rfl rfl rfl (by decide +kernel) ⟨(Nat.le_of_ble_eq_true rfl), (Nat.le_of_ble_eq_true rfl)⟩) (va_recv hK hP (ci := 5) (q0 := 3) rfl rfl) (hP.sub (ws' := wX5 cI a1 u1) [3, 4, 5, 6, 7, 8, 9, 10, 11, 12] rfl) hK rfl hl.1 rfl (Nat.le_of_ble_eq_true rfl) dX4_fits_17 ⟨Nat.zero_le _, Nat.zero_le _⟩ ?_
      refine lv_if_eq (tgt := 46) hx hb dX4_fits_20 (by decide) (fun q_4 => ?_) (fun q_4 => ?_)
      · have h := mk_ifp q_4 h
        refine lv_iinc (v := (x3 + (1 : Int32))) (lv' := [(3, .int (x3 + (1 : Int32))), (0, .ref (a0 0)), (1, .ref (a1 0)), (2, .int x2)]) hx hb dX4_fits_46 hl (k := 3) rfl rfl (by decide) rfl (fun ls hl => ?_)
        refine lv_goto (tgt := 2) hx hb dX4_fits_49 (by decide) ?_
        exact ih2 (x3 + (1 : Int32)) h ls (lv_sub hl [1, 2, 3, 0] rfl)
      · have h := mk_ifn q_4 h
        refine lv_aload_n hx hb dX4_fits_23 rfl (lv_at hl 1 rfl) ?_
        refine lv_iload_n hx hb dX4_fits_24 rfl (lv_at hl 2 rfl) ?_
        refine lv_aload_n hx hb dX4_fits_25 rfl (lv_at hl 0 rfl) ?_
        refine va_get (D := D) (ci := 4) (v := .ref (a0 1)) (C := RX4) (T := TX4) (N := 3) hx hb hts hiX4 hown hK hP 0 rfl rfl 0 (by decide) (hts (.fieldLink RX4 9 "ClockOnce$Sales" "things" "[I") (List.mem_of_getElem? (i := 2) rfl)) (fun _ h9 => h9) rfl dX4_fits_26 ?_
        refine lv_iload_n hx hb dX4_fits_29 rfl (lv_at hl 3 rfl) ?_
        obtain ⟨v_5, ev_5, hiv_5, h⟩ := mk_rdE h
        refine va_iald hx hb hK hP 1 0 rfl rfl hiv_5 dX4_fits_30 ?_
        refine mk_topi ev_5 ?_
        refine lv_iconst (v := (0 : Int32)) hx hb dX4_fits_31 (by decide) ?_
        obtain ⟨r_6, er_6, h⟩ := mk_bd h
        refine pc_v (As := [.int x2, .int v_5, .int (0 : Int32)]) (rest := []) ⟨hx, hb, hml, hown, hts⟩ (c_X5_wiseDay l D cI cZ cO N a1 u1 x2 v_5 (0 : Int32) r_6 er_6) (cwV 3 hts k_X4_fits_X5_wiseDay_28 rfl rfl rfl (by decide +kernel) ⟨(Nat.le_of_ble_eq_true rfl), (Nat.le_of_ble_eq_true rfl)⟩) (va_recv hK hP (ci := 5) (q0 := 3) rfl rfl) (hP.sub (ws' := wX5 cI a1 u1) [3, 4, 5, 6, 7, 8, 9, 10, 11, 12] rfl) hK rfl hl.1 rfl (Nat.le_of_ble_eq_true rfl) dX4_fits_32 ⟨Nat.zero_le _, Nat.zero_le _⟩ ?_
        refine lv_aload_n hx hb dX4_fits_35 rfl (lv_at hl 0 rfl) ?_
        refine va_get (D := D) (ci := 4) (v := .ref (a0 2)) (C := RX4) (T := TX4) (N := 3) hx hb hts hiX4 hown hK hP 0 rfl rfl 1 (by decide) (hts (.fieldLink RX4 15 "ClockOnce$Sales" "days" "[I") (List.mem_of_getElem? (i := 3) rfl)) (fun _ h9 => h9) rfl dX4_fits_36 ?_
        refine lv_iload_n hx hb dX4_fits_39 rfl (lv_at hl 3 rfl) ?_
        obtain ⟨v_7, ev_7, hiv_7, h⟩ := mk_rdE h
        refine va_iald hx hb hK hP 2 0 rfl rfl hiv_7 dX4_fits_40 ?_
        refine mk_topi ev_7 ?_
        refine lv_icmp_eq (tgt := 46) hx hb dX4_fits_41 (by decide) (fun q_8 => ?_) (fun q_8 => ?_)
        · have h := mk_ifp q_8 h
          refine lv_iinc (v := (x3 + (1 : Int32))) (lv' := [(3, .int (x3 + (1 : Int32))), (0, .ref (a0 0)), (1, .ref (a1 0)), (2, .int x2)]) hx hb dX4_fits_46 hl (k := 3) rfl rfl (by decide) rfl (fun ls hl => ?_)
          refine lv_goto (tgt := 2) hx hb dX4_fits_49 (by decide) ?_
          exact ih2 (x3 + (1 : Int32)) h ls (lv_sub hl [1, 2, 3, 0] rfl)
        · have h := mk_ifn q_8 h
          refine lv_iconst (v := (0 : Int32)) hx hb dX4_fits_44 (by decide) ?_
          exact hret _ _ _ h (Or.inl rfl) dX4_fits_45
  unfold f_X4_fits at h
  refine lv_iconst (v := (0 : Int32)) hx hb dX4_fits_0 (by decide) ?_
  refine lv_istore_n (lv' := [(3, .int (0 : Int32)), (0, .ref (a0 0)), (1, .ref (a1 0)), (2, .int p2)]) hx hb dX4_fits_1 rfl hl (by decide) rfl (fun ls hl => ?_)
  exact K2 p2 (0 : Int32) ls (lv_sub hl [1, 2, 3, 0] rfl) h
