theorem dX1_orders_0 : decode cX1_orders 0 = .ok (.iload_n 0, 1) := by decide +kernel
theorem dX1_orders_1 : decode cX1_orders 1 = .ok (.ifCond .lt 11, 3) := by decide +kernel
theorem dX1_orders_4 : decode cX1_orders 4 = .ok (.iload_n 0, 1) := by decide +kernel
theorem dX1_orders_5 : decode cX1_orders 5 = .ok (.getstatic 15, 3) := by decide +kernel
theorem dX1_orders_8 : decode cX1_orders 8 = .ok (.arraylength, 1) := by decide +kernel
theorem dX1_orders_9 : decode cX1_orders 9 = .ok (.if_icmp .lt 7, 3) := by decide +kernel
theorem dX1_orders_12 : decode cX1_orders 12 = .ok (.iconst 1, 1) := by decide +kernel
theorem dX1_orders_13 : decode cX1_orders 13 = .ok (.goto 8, 3) := by decide +kernel
theorem dX1_orders_16 : decode cX1_orders 16 = .ok (.getstatic 15, 3) := by decide +kernel
theorem dX1_orders_19 : decode cX1_orders 19 = .ok (.iload_n 0, 1) := by decide +kernel
theorem dX1_orders_20 : decode cX1_orders 20 = .ok (.iaload, 1) := by decide +kernel
theorem dX1_orders_21 : decode cX1_orders 21 = .ok (.ireturn, 1) := by decide +kernel
theorem dX1_gainInAllOrders_0 : decode cX1_gainInAllOrders 0 = .ok (.iload_n 2, 1) := by decide +kernel
theorem dX1_gainInAllOrders_1 : decode cX1_gainInAllOrders 1 = .ok (.invokestatic 61, 3) := by decide +kernel
theorem dX1_gainInAllOrders_4 : decode cX1_gainInAllOrders 4 = .ok (.istore 4, 2) := by decide +kernel
theorem dX1_gainInAllOrders_6 : decode cX1_gainInAllOrders 6 = .ok (.iconst 0, 1) := by decide +kernel
theorem dX1_gainInAllOrders_7 : decode cX1_gainInAllOrders 7 = .ok (.istore 5, 2) := by decide +kernel
theorem dX1_gainInAllOrders_9 : decode cX1_gainInAllOrders 9 = .ok (.iconst 0, 1) := by decide +kernel
theorem dX1_gainInAllOrders_10 : decode cX1_gainInAllOrders 10 = .ok (.istore 6, 2) := by decide +kernel
theorem dX1_gainInAllOrders_12 : decode cX1_gainInAllOrders 12 = .ok (.iload 6, 2) := by decide +kernel
theorem dX1_gainInAllOrders_14 : decode cX1_gainInAllOrders 14 = .ok (.iconst 1, 1) := by decide +kernel
theorem dX1_gainInAllOrders_15 : decode cX1_gainInAllOrders 15 = .ok (.aload_n 1, 1) := by decide +kernel
theorem dX1_gainInAllOrders_16 : decode cX1_gainInAllOrders 16 = .ok (.getfield 48, 3) := by decide +kernel
theorem dX1_gainInAllOrders_19 : decode cX1_gainInAllOrders 19 = .ok (.ishl, 1) := by decide +kernel
theorem dX1_gainInAllOrders_20 : decode cX1_gainInAllOrders 20 = .ok (.if_icmp .ge 103, 3) := by decide +kernel
theorem dX1_gainInAllOrders_23 : decode cX1_gainInAllOrders 23 = .ok (.iload 6, 2) := by decide +kernel
theorem dX1_gainInAllOrders_25 : decode cX1_gainInAllOrders 25 = .ok (.iload_n 2, 1) := by decide +kernel
theorem dX1_gainInAllOrders_26 : decode cX1_gainInAllOrders 26 = .ok (.iconst (-1), 1) := by decide +kernel
theorem dX1_gainInAllOrders_27 : decode cX1_gainInAllOrders 27 = .ok (.ixor, 1) := by decide +kernel
theorem dX1_gainInAllOrders_28 : decode cX1_gainInAllOrders 28 = .ok (.iand, 1) := by decide +kernel
theorem dX1_gainInAllOrders_29 : decode cX1_gainInAllOrders 29 = .ok (.ifCond .ne 88, 3) := by decide +kernel
theorem dX1_gainInAllOrders_32 : decode cX1_gainInAllOrders 32 = .ok (.iload 6, 2) := by decide +kernel
theorem dX1_gainInAllOrders_34 : decode cX1_gainInAllOrders 34 = .ok (.iload_n 3, 1) := by decide +kernel
theorem dX1_gainInAllOrders_35 : decode cX1_gainInAllOrders 35 = .ok (.ishr, 1) := by decide +kernel
theorem dX1_gainInAllOrders_36 : decode cX1_gainInAllOrders 36 = .ok (.iconst 1, 1) := by decide +kernel
theorem dX1_gainInAllOrders_37 : decode cX1_gainInAllOrders 37 = .ok (.iand, 1) := by decide +kernel
theorem dX1_gainInAllOrders_38 : decode cX1_gainInAllOrders 38 = .ok (.ifCond .ne 79, 3) := by decide +kernel
theorem dX1_gainInAllOrders_41 : decode cX1_gainInAllOrders 41 = .ok (.iload 6, 2) := by decide +kernel
theorem dX1_gainInAllOrders_43 : decode cX1_gainInAllOrders 43 = .ok (.invokestatic 61, 3) := by decide +kernel
theorem dX1_gainInAllOrders_46 : decode cX1_gainInAllOrders 46 = .ok (.istore 7, 2) := by decide +kernel
theorem dX1_gainInAllOrders_48 : decode cX1_gainInAllOrders 48 = .ok (.aload_n 0, 1) := by decide +kernel
theorem dX1_gainInAllOrders_49 : decode cX1_gainInAllOrders 49 = .ok (.getfield 9, 3) := by decide +kernel
theorem dX1_gainInAllOrders_52 : decode cX1_gainInAllOrders 52 = .ok (.aload_n 0, 1) := by decide +kernel
theorem dX1_gainInAllOrders_53 : decode cX1_gainInAllOrders 53 = .ok (.aload_n 1, 1) := by decide +kernel
theorem dX1_gainInAllOrders_54 : decode cX1_gainInAllOrders 54 = .ok (.aload_n 0, 1) := by decide +kernel
theorem dX1_gainInAllOrders_55 : decode cX1_gainInAllOrders 55 = .ok (.aload_n 1, 1) := by decide +kernel
theorem dX1_gainInAllOrders_56 : decode cX1_gainInAllOrders 56 = .ok (.iload 6, 2) := by decide +kernel
theorem dX1_gainInAllOrders_58 : decode cX1_gainInAllOrders 58 = .ok (.invokevirtual 69, 3) := by decide +kernel
theorem dX1_gainInAllOrders_61 : decode cX1_gainInAllOrders 61 = .ok (.invokevirtual 73, 3) := by decide +kernel
theorem dX1_gainInAllOrders_64 : decode cX1_gainInAllOrders 64 = .ok (.iaload, 1) := by decide +kernel
theorem dX1_gainInAllOrders_65 : decode cX1_gainInAllOrders 65 = .ok (.istore 8, 2) := by decide +kernel
theorem dX1_gainInAllOrders_67 : decode cX1_gainInAllOrders 67 = .ok (.aload_n 0, 1) := by decide +kernel
theorem dX1_gainInAllOrders_68 : decode cX1_gainInAllOrders 68 = .ok (.getfield 9, 3) := by decide +kernel
theorem dX1_gainInAllOrders_71 : decode cX1_gainInAllOrders 71 = .ok (.aload_n 0, 1) := by decide +kernel
theorem dX1_gainInAllOrders_72 : decode cX1_gainInAllOrders 72 = .ok (.aload_n 1, 1) := by decide +kernel
theorem dX1_gainInAllOrders_73 : decode cX1_gainInAllOrders 73 = .ok (.aload_n 0, 1) := by decide +kernel
theorem dX1_gainInAllOrders_74 : decode cX1_gainInAllOrders 74 = .ok (.aload_n 1, 1) := by decide +kernel
theorem dX1_gainInAllOrders_75 : decode cX1_gainInAllOrders 75 = .ok (.iload 6, 2) := by decide +kernel
theorem dX1_gainInAllOrders_77 : decode cX1_gainInAllOrders 77 = .ok (.iconst 1, 1) := by decide +kernel
theorem dX1_gainInAllOrders_78 : decode cX1_gainInAllOrders 78 = .ok (.iload_n 3, 1) := by decide +kernel
theorem dX1_gainInAllOrders_79 : decode cX1_gainInAllOrders 79 = .ok (.ishl, 1) := by decide +kernel
theorem dX1_gainInAllOrders_80 : decode cX1_gainInAllOrders 80 = .ok (.ior, 1) := by decide +kernel
theorem dX1_gainInAllOrders_81 : decode cX1_gainInAllOrders 81 = .ok (.invokevirtual 69, 3) := by decide +kernel
theorem dX1_gainInAllOrders_84 : decode cX1_gainInAllOrders 84 = .ok (.invokevirtual 73, 3) := by decide +kernel
theorem dX1_gainInAllOrders_87 : decode cX1_gainInAllOrders 87 = .ok (.iaload, 1) := by decide +kernel
theorem dX1_gainInAllOrders_88 : decode cX1_gainInAllOrders 88 = .ok (.istore 9, 2) := by decide +kernel
theorem dX1_gainInAllOrders_90 : decode cX1_gainInAllOrders 90 = .ok (.iload 5, 2) := by decide +kernel
theorem dX1_gainInAllOrders_92 : decode cX1_gainInAllOrders 92 = .ok (.iload 7, 2) := by decide +kernel
theorem dX1_gainInAllOrders_94 : decode cX1_gainInAllOrders 94 = .ok (.invokestatic 84, 3) := by decide +kernel
theorem dX1_gainInAllOrders_97 : decode cX1_gainInAllOrders 97 = .ok (.iload 4, 2) := by decide +kernel
theorem dX1_gainInAllOrders_99 : decode cX1_gainInAllOrders 99 = .ok (.iload 7, 2) := by decide +kernel
theorem dX1_gainInAllOrders_101 : decode cX1_gainInAllOrders 101 = .ok (.isub, 1) := by decide +kernel
theorem dX1_gainInAllOrders_102 : decode cX1_gainInAllOrders 102 = .ok (.iconst 1, 1) := by decide +kernel
theorem dX1_gainInAllOrders_103 : decode cX1_gainInAllOrders 103 = .ok (.isub, 1) := by decide +kernel
theorem dX1_gainInAllOrders_104 : decode cX1_gainInAllOrders 104 = .ok (.invokestatic 84, 3) := by decide +kernel
theorem dX1_gainInAllOrders_107 : decode cX1_gainInAllOrders 107 = .ok (.imul, 1) := by decide +kernel
theorem dX1_gainInAllOrders_108 : decode cX1_gainInAllOrders 108 = .ok (.iload 9, 2) := by decide +kernel
theorem dX1_gainInAllOrders_110 : decode cX1_gainInAllOrders 110 = .ok (.iload 8, 2) := by decide +kernel
theorem dX1_gainInAllOrders_112 : decode cX1_gainInAllOrders 112 = .ok (.isub, 1) := by decide +kernel
theorem dX1_gainInAllOrders_113 : decode cX1_gainInAllOrders 113 = .ok (.imul, 1) := by decide +kernel
theorem dX1_gainInAllOrders_114 : decode cX1_gainInAllOrders 114 = .ok (.iadd, 1) := by decide +kernel
theorem dX1_gainInAllOrders_115 : decode cX1_gainInAllOrders 115 = .ok (.istore 5, 2) := by decide +kernel
theorem dX1_gainInAllOrders_117 : decode cX1_gainInAllOrders 117 = .ok (.iinc 6 1, 3) := by decide +kernel
theorem dX1_gainInAllOrders_120 : decode cX1_gainInAllOrders 120 = .ok (.goto (-108), 3) := by decide +kernel
theorem dX1_gainInAllOrders_123 : decode cX1_gainInAllOrders 123 = .ok (.iload 5, 2) := by decide +kernel
theorem dX1_gainInAllOrders_125 : decode cX1_gainInAllOrders 125 = .ok (.ireturn, 1) := by decide +kernel
theorem dX6_town_0 : decode cX6_town 0 = .ok (.aload_n 0, 1) := by decide +kernel
theorem dX6_town_1 : decode cX6_town 1 = .ok (.invokevirtual 73, 3) := by decide +kernel
theorem dX6_town_4 : decode cX6_town 4 = .ok (.bipush (-9), 2) := by decide +kernel
theorem dX6_town_6 : decode cX6_town 6 = .ok (.if_icmp .eq 6, 3) := by decide +kernel
theorem dX6_town_9 : decode cX6_town 9 = .ok (.bipush (-3), 2) := by decide +kernel
theorem dX6_town_11 : decode cX6_town 11 = .ok (.ireturn, 1) := by decide +kernel
theorem dX6_town_12 : decode cX6_town 12 = .ok (.aload_n 0, 1) := by decide +kernel
theorem dX6_town_13 : decode cX6_town 13 = .ok (.getfield 27, 3) := by decide +kernel
theorem dX6_town_16 : decode cX6_town 16 = .ok (.astore_n 1, 1) := by decide +kernel
theorem dX6_town_17 : decode cX6_town 17 = .ok (.aload_n 0, 1) := by decide +kernel
theorem dX6_town_18 : decode cX6_town 18 = .ok (.aload_n 0, 1) := by decide +kernel
theorem dX6_town_19 : decode cX6_town 19 = .ok (.getfield 31, 3) := by decide +kernel
theorem dX6_town_22 : decode cX6_town 22 = .ok (.putfield 27, 3) := by decide +kernel
theorem dX6_town_25 : decode cX6_town 25 = .ok (.aload_n 0, 1) := by decide +kernel
theorem dX6_town_26 : decode cX6_town 26 = .ok (.aload_n 1, 1) := by decide +kernel
theorem dX6_town_27 : decode cX6_town 27 = .ok (.putfield 31, 3) := by decide +kernel
theorem dX6_town_30 : decode cX6_town 30 = .ok (.aload_n 0, 1) := by decide +kernel
theorem dX6_town_31 : decode cX6_town 31 = .ok (.getfield 27, 3) := by decide +kernel
theorem dX6_town_34 : decode cX6_town 34 = .ok (.invokevirtual 77, 3) := by decide +kernel
theorem dX6_town_37 : decode cX6_town 37 = .ok (.aload_n 0, 1) := by decide +kernel
theorem dX6_town_38 : decode cX6_town 38 = .ok (.getfield 37, 3) := by decide +kernel
theorem dX6_town_41 : decode cX6_town 41 = .ok (.invokevirtual 80, 3) := by decide +kernel
theorem dX6_town_44 : decode cX6_town 44 = .ok (.aload_n 0, 1) := by decide +kernel
theorem dX6_town_45 : decode cX6_town 45 = .ok (.getfield 44, 3) := by decide +kernel
theorem dX6_town_48 : decode cX6_town 48 = .ok (.iconst 0, 1) := by decide +kernel
theorem dX6_town_49 : decode cX6_town 49 = .ok (.putfield 83, 3) := by decide +kernel
theorem dX6_town_52 : decode cX6_town 52 = .ok (.aload_n 0, 1) := by decide +kernel
theorem dX6_town_53 : decode cX6_town 53 = .ok (.invokevirtual 86, 3) := by decide +kernel
theorem dX6_town_56 : decode cX6_town 56 = .ok (.bipush 10, 2) := by decide +kernel
theorem dX6_town_58 : decode cX6_town 58 = .ok (.aload_n 0, 1) := by decide +kernel
theorem dX6_town_59 : decode cX6_town 59 = .ok (.getfield 27, 3) := by decide +kernel
theorem dX6_town_62 : decode cX6_town 62 = .ok (.getfield 89, 3) := by decide +kernel
theorem dX6_town_65 : decode cX6_town 65 = .ok (.imul, 1) := by decide +kernel
theorem dX6_town_66 : decode cX6_town 66 = .ok (.aload_n 0, 1) := by decide +kernel
theorem dX6_town_67 : decode cX6_town 67 = .ok (.getfield 27, 3) := by decide +kernel
theorem dX6_town_70 : decode cX6_town 70 = .ok (.getfield 92, 3) := by decide +kernel
theorem dX6_town_73 : decode cX6_town 73 = .ok (.iadd, 1) := by decide +kernel
theorem dX6_town_74 : decode cX6_town 74 = .ok (.ireturn, 1) := by decide +kernel
theorem dX6_share_0 : decode cX6_share 0 = .ok (.aload_n 0, 1) := by decide +kernel
theorem dX6_share_1 : decode cX6_share 1 = .ok (.getfield 27, 3) := by decide +kernel
theorem dX6_share_4 : decode cX6_share 4 = .ok (.iload_n 1, 1) := by decide +kernel
theorem dX6_share_5 : decode cX6_share 5 = .ok (.invokevirtual 121, 3) := by decide +kernel
theorem dX6_share_8 : decode cX6_share 8 = .ok (.ifCond .ne 5, 3) := by decide +kernel
theorem dX6_share_11 : decode cX6_share 11 = .ok (.iconst (-1), 1) := by decide +kernel
theorem dX6_share_12 : decode cX6_share 12 = .ok (.ireturn, 1) := by decide +kernel
theorem dX6_share_13 : decode cX6_share 13 = .ok (.aload_n 0, 1) := by decide +kernel
theorem dX6_share_14 : decode cX6_share 14 = .ok (.invokevirtual 185, 3) := by decide +kernel
theorem dX6_share_17 : decode cX6_share 17 = .ok (.istore_n 3, 1) := by decide +kernel
theorem dX6_share_18 : decode cX6_share 18 = .ok (.iload_n 3, 1) := by decide +kernel
theorem dX6_share_19 : decode cX6_share 19 = .ok (.ifCond .ne 6, 3) := by decide +kernel
theorem dX6_share_22 : decode cX6_share 22 = .ok (.bipush (-3), 2) := by decide +kernel
theorem dX6_share_24 : decode cX6_share 24 = .ok (.ireturn, 1) := by decide +kernel
theorem dX6_share_25 : decode cX6_share 25 = .ok (.aload_n 0, 1) := by decide +kernel
theorem dX6_share_26 : decode cX6_share 26 = .ok (.getfield 37, 3) := by decide +kernel
theorem dX6_share_29 : decode cX6_share 29 = .ok (.aload_n 0, 1) := by decide +kernel
theorem dX6_share_30 : decode cX6_share 30 = .ok (.getfield 27, 3) := by decide +kernel
theorem dX6_share_33 : decode cX6_share 33 = .ok (.invokevirtual 204, 3) := by decide +kernel
theorem dX6_share_36 : decode cX6_share 36 = .ok (.istore 4, 2) := by decide +kernel
theorem dX6_share_38 : decode cX6_share 38 = .ok (.iload 4, 2) := by decide +kernel
theorem dX6_share_40 : decode cX6_share 40 = .ok (.iload_n 1, 1) := by decide +kernel
theorem dX6_share_41 : decode cX6_share 41 = .ok (.ishr, 1) := by decide +kernel
theorem dX6_share_42 : decode cX6_share 42 = .ok (.iconst 1, 1) := by decide +kernel
theorem dX6_share_43 : decode cX6_share 43 = .ok (.iand, 1) := by decide +kernel
theorem dX6_share_44 : decode cX6_share 44 = .ok (.ifCond .ne 10, 3) := by decide +kernel
theorem dX6_share_47 : decode cX6_share 47 = .ok (.iconst 0, 1) := by decide +kernel
theorem dX6_share_48 : decode cX6_share 48 = .ok (.iconst 1, 1) := by decide +kernel
theorem dX6_share_49 : decode cX6_share 49 = .ok (.iload_n 2, 1) := by decide +kernel
theorem dX6_share_50 : decode cX6_share 50 = .ok (.invokestatic 173, 3) := by decide +kernel
theorem dX6_share_53 : decode cX6_share 53 = .ok (.ireturn, 1) := by decide +kernel
theorem dX6_share_54 : decode cX6_share 54 = .ok (.aload_n 0, 1) := by decide +kernel
theorem dX6_share_55 : decode cX6_share 55 = .ok (.getfield 62, 3) := by decide +kernel
theorem dX6_share_58 : decode cX6_share 58 = .ok (.aload_n 0, 1) := by decide +kernel
theorem dX6_share_59 : decode cX6_share 59 = .ok (.getfield 27, 3) := by decide +kernel
theorem dX6_share_62 : decode cX6_share 62 = .ok (.aload_n 0, 1) := by decide +kernel
theorem dX6_share_63 : decode cX6_share 63 = .ok (.getfield 37, 3) := by decide +kernel
theorem dX6_share_66 : decode cX6_share 66 = .ok (.invokevirtual 188, 3) := by decide +kernel
theorem dX6_share_69 : decode cX6_share 69 = .ok (.aload_n 0, 1) := by decide +kernel
theorem dX6_share_70 : decode cX6_share 70 = .ok (.getfield 62, 3) := by decide +kernel
theorem dX6_share_73 : decode cX6_share 73 = .ok (.aload_n 0, 1) := by decide +kernel
theorem dX6_share_74 : decode cX6_share 74 = .ok (.getfield 27, 3) := by decide +kernel
theorem dX6_share_77 : decode cX6_share 77 = .ok (.iload 4, 2) := by decide +kernel
theorem dX6_share_79 : decode cX6_share 79 = .ok (.iload_n 1, 1) := by decide +kernel
theorem dX6_share_80 : decode cX6_share 80 = .ok (.invokevirtual 208, 3) := by decide +kernel
theorem dX6_share_83 : decode cX6_share 83 = .ok (.istore 5, 2) := by decide +kernel
theorem dX6_share_85 : decode cX6_share 85 = .ok (.iload 5, 2) := by decide +kernel
theorem dX6_share_87 : decode cX6_share 87 = .ok (.iload 4, 2) := by decide +kernel
theorem dX6_share_89 : decode cX6_share 89 = .ok (.invokestatic 155, 3) := by decide +kernel
theorem dX6_share_92 : decode cX6_share 92 = .ok (.invokestatic 212, 3) := by decide +kernel
theorem dX6_share_95 : decode cX6_share 95 = .ok (.iload_n 3, 1) := by decide +kernel
theorem dX6_share_96 : decode cX6_share 96 = .ok (.imul, 1) := by decide +kernel
theorem dX6_share_97 : decode cX6_share 97 = .ok (.iload_n 2, 1) := by decide +kernel
theorem dX6_share_98 : decode cX6_share 98 = .ok (.invokestatic 173, 3) := by decide +kernel
theorem dX6_share_101 : decode cX6_share 101 = .ok (.ireturn, 1) := by decide +kernel
theorem dX6_keep_0 : decode cX6_keep 0 = .ok (.aload_n 0, 1) := by decide +kernel
theorem dX6_keep_1 : decode cX6_keep 1 = .ok (.iload_n 1, 1) := by decide +kernel
theorem dX6_keep_2 : decode cX6_keep 2 = .ok (.invokevirtual 252, 3) := by decide +kernel
theorem dX6_keep_5 : decode cX6_keep 5 = .ok (.astore_n 2, 1) := by decide +kernel
theorem dX6_keep_6 : decode cX6_keep 6 = .ok (.aload_n 2, 1) := by decide +kernel
theorem dX6_keep_7 : decode cX6_keep 7 = .ok (.ifnonnull 5, 3) := by decide +kernel
theorem dX6_keep_10 : decode cX6_keep 10 = .ok (.iconst (-1), 1) := by decide +kernel
theorem dX6_keep_11 : decode cX6_keep 11 = .ok (.ireturn, 1) := by decide +kernel
theorem dX6_keep_12 : decode cX6_keep 12 = .ok (.aload_n 2, 1) := by decide +kernel
theorem dX6_keep_13 : decode cX6_keep 13 = .ok (.aload_n 0, 1) := by decide +kernel
theorem dX6_keep_14 : decode cX6_keep 14 = .ok (.getfield 37, 3) := by decide +kernel
theorem dX6_keep_17 : decode cX6_keep 17 = .ok (.invokevirtual 256, 3) := by decide +kernel
theorem dX6_keep_20 : decode cX6_keep 20 = .ok (.aload_n 2, 1) := by decide +kernel
theorem dX6_keep_21 : decode cX6_keep 21 = .ok (.iconst 1, 1) := by decide +kernel
theorem dX6_keep_22 : decode cX6_keep 22 = .ok (.putfield 259, 3) := by decide +kernel
theorem dX6_keep_25 : decode cX6_keep 25 = .ok (.aload_n 0, 1) := by decide +kernel
theorem dX6_keep_26 : decode cX6_keep 26 = .ok (.getfield 37, 3) := by decide +kernel
theorem dX6_keep_29 : decode cX6_keep 29 = .ok (.getfield 146, 3) := by decide +kernel
theorem dX6_keep_32 : decode cX6_keep 32 = .ok (.ireturn, 1) := by decide +kernel
theorem dX6_again_0 : decode cX6_again 0 = .ok (.aload_n 0, 1) := by decide +kernel
theorem dX6_again_1 : decode cX6_again 1 = .ok (.iload_n 1, 1) := by decide +kernel
theorem dX6_again_2 : decode cX6_again 2 = .ok (.invokevirtual 252, 3) := by decide +kernel
theorem dX6_again_5 : decode cX6_again 5 = .ok (.astore_n 2, 1) := by decide +kernel
theorem dX6_again_6 : decode cX6_again 6 = .ok (.aload_n 2, 1) := by decide +kernel
theorem dX6_again_7 : decode cX6_again 7 = .ok (.ifnonnull 5, 3) := by decide +kernel
theorem dX6_again_10 : decode cX6_again 10 = .ok (.iconst (-1), 1) := by decide +kernel
theorem dX6_again_11 : decode cX6_again 11 = .ok (.ireturn, 1) := by decide +kernel
theorem dX6_again_12 : decode cX6_again 12 = .ok (.aload_n 2, 1) := by decide +kernel
theorem dX6_again_13 : decode cX6_again 13 = .ok (.getfield 259, 3) := by decide +kernel
theorem dX6_again_16 : decode cX6_again 16 = .ok (.ifCond .ne 6, 3) := by decide +kernel
theorem dX6_again_19 : decode cX6_again 19 = .ok (.bipush (-3), 2) := by decide +kernel
theorem dX6_again_21 : decode cX6_again 21 = .ok (.ireturn, 1) := by decide +kernel
theorem dX6_again_22 : decode cX6_again 22 = .ok (.aload_n 0, 1) := by decide +kernel
theorem dX6_again_23 : decode cX6_again 23 = .ok (.getfield 37, 3) := by decide +kernel
theorem dX6_again_26 : decode cX6_again 26 = .ok (.aload_n 2, 1) := by decide +kernel
theorem dX6_again_27 : decode cX6_again 27 = .ok (.invokevirtual 256, 3) := by decide +kernel
theorem dX6_again_30 : decode cX6_again 30 = .ok (.aload_n 0, 1) := by decide +kernel
theorem dX6_again_31 : decode cX6_again 31 = .ok (.getfield 44, 3) := by decide +kernel
theorem dX6_again_34 : decode cX6_again 34 = .ok (.iconst 0, 1) := by decide +kernel
theorem dX6_again_35 : decode cX6_again 35 = .ok (.putfield 83, 3) := by decide +kernel
theorem dX6_again_38 : decode cX6_again 38 = .ok (.aload_n 0, 1) := by decide +kernel
theorem dX6_again_39 : decode cX6_again 39 = .ok (.getfield 37, 3) := by decide +kernel
theorem dX6_again_42 : decode cX6_again 42 = .ok (.getfield 146, 3) := by decide +kernel
theorem dX6_again_45 : decode cX6_again 45 = .ok (.ireturn, 1) := by decide +kernel
theorem dX6_slotOf_0 : decode cX6_slotOf 0 = .ok (.iload_n 1, 1) := by decide +kernel
theorem dX6_slotOf_1 : decode cX6_slotOf 1 = .ok (.ifCond .lt 12, 3) := by decide +kernel
theorem dX6_slotOf_4 : decode cX6_slotOf 4 = .ok (.iload_n 1, 1) := by decide +kernel
theorem dX6_slotOf_5 : decode cX6_slotOf 5 = .ok (.aload_n 0, 1) := by decide +kernel
theorem dX6_slotOf_6 : decode cX6_slotOf 6 = .ok (.getfield 48, 3) := by decide +kernel
theorem dX6_slotOf_9 : decode cX6_slotOf 9 = .ok (.arraylength, 1) := by decide +kernel
theorem dX6_slotOf_10 : decode cX6_slotOf 10 = .ok (.if_icmp .lt 7, 3) := by decide +kernel
theorem dX6_slotOf_13 : decode cX6_slotOf 13 = .ok (.aconst_null, 1) := by decide +kernel
theorem dX6_slotOf_14 : decode cX6_slotOf 14 = .ok (.goto 9, 3) := by decide +kernel
theorem dX6_slotOf_17 : decode cX6_slotOf 17 = .ok (.aload_n 0, 1) := by decide +kernel
theorem dX6_slotOf_18 : decode cX6_slotOf 18 = .ok (.getfield 48, 3) := by decide +kernel
theorem dX6_slotOf_21 : decode cX6_slotOf 21 = .ok (.iload_n 1, 1) := by decide +kernel
theorem dX6_slotOf_22 : decode cX6_slotOf 22 = .ok (.aaload, 1) := by decide +kernel
theorem dX6_slotOf_23 : decode cX6_slotOf 23 = .ok (.areturn, 1) := by decide +kernel
theorem dX6_forgetKept_0 : decode cX6_forgetKept 0 = .ok (.iconst 0, 1) := by decide +kernel
theorem dX6_forgetKept_1 : decode cX6_forgetKept 1 = .ok (.istore_n 1, 1) := by decide +kernel
theorem dX6_forgetKept_2 : decode cX6_forgetKept 2 = .ok (.iload_n 1, 1) := by decide +kernel
theorem dX6_forgetKept_3 : decode cX6_forgetKept 3 = .ok (.aload_n 0, 1) := by decide +kernel
theorem dX6_forgetKept_4 : decode cX6_forgetKept 4 = .ok (.getfield 48, 3) := by decide +kernel
theorem dX6_forgetKept_7 : decode cX6_forgetKept 7 = .ok (.arraylength, 1) := by decide +kernel
theorem dX6_forgetKept_8 : decode cX6_forgetKept 8 = .ok (.if_icmp .ge 24, 3) := by decide +kernel
theorem dX6_forgetKept_11 : decode cX6_forgetKept 11 = .ok (.aload_n 0, 1) := by decide +kernel
theorem dX6_forgetKept_12 : decode cX6_forgetKept 12 = .ok (.iload_n 1, 1) := by decide +kernel
theorem dX6_forgetKept_13 : decode cX6_forgetKept 13 = .ok (.invokevirtual 252, 3) := by decide +kernel
theorem dX6_forgetKept_16 : decode cX6_forgetKept 16 = .ok (.astore_n 2, 1) := by decide +kernel
theorem dX6_forgetKept_17 : decode cX6_forgetKept 17 = .ok (.aload_n 2, 1) := by decide +kernel
theorem dX6_forgetKept_18 : decode cX6_forgetKept 18 = .ok (.ifnull 8, 3) := by decide +kernel
theorem dX6_forgetKept_21 : decode cX6_forgetKept 21 = .ok (.aload_n 2, 1) := by decide +kernel
theorem dX6_forgetKept_22 : decode cX6_forgetKept 22 = .ok (.iconst 0, 1) := by decide +kernel
theorem dX6_forgetKept_23 : decode cX6_forgetKept 23 = .ok (.putfield 259, 3) := by decide +kernel
theorem dX6_forgetKept_26 : decode cX6_forgetKept 26 = .ok (.iinc 1 1, 3) := by decide +kernel
theorem dX6_forgetKept_29 : decode cX6_forgetKept 29 = .ok (.goto (-27), 3) := by decide +kernel
theorem dX6_forgetKept_32 : decode cX6_forgetKept 32 = .ok (.return_, 1) := by decide +kernel
abbrev rm_X1_orders : Room := { frames := 0, cells := 0, slots := 0, locals := 0 }
set_option maxHeartbeats 4000000 in
set_option maxRecDepth 100000 in
theorem c_X1_orders (l : Launch) (D : va_G) (cI cZ cO : ClassId) (N : Nat) (p0 : Int32) (t : Nat) (out : Int32) (h : f_X1_orders N  p0 = some out) : Met l yX1_orders wsX1_orders rm_X1_orders (va_Pc [.int p0] (fun U => (va_P D vwCl [] U.heap ∧ va_K D vwCl (tyA cI cZ cO) U) ∧ mk_Z cI t (fun _ => False) U U.heap)) (vp_Si (fun r => r = out)) 0 0 (fun _ => False) := by
  refine pm_iZ (cI := cI) (t := t) (own := RX1) (cc := cX1_orders) (maxL := 1) (by decide) rfl rfl (Nat.le_of_ble_eq_true rfl) ?_
  intro p e s m args below meth c Q H ls hx hb hml hown hts hP hK hZ hSZ hl hret
  have hl : lv_has ls 1 [(0, .int p0)] := hl
  unfold f_X1_orders at h
  refine lv_iload_n hx hb dX1_orders_0 rfl (lv_at hl 0 rfl) ?_
  refine lv_if_lt (tgt := 12) hx hb dX1_orders_1 (by decide) (fun q_1 => ?_) (fun q_1 => ?_)
  · have h := mk_ifp q_1 h
    refine lv_iconst (v := (1 : Int32)) hx hb dX1_orders_12 (by decide) ?_
    refine lv_goto (tgt := 21) hx hb dX1_orders_13 (by decide) ?_
    exact hret _ _ _ h dX1_orders_21
  · have h := mk_ifn q_1 h
    refine lv_iload_n hx hb dX1_orders_4 rfl (lv_at hl 0 rfl) ?_
    refine va_gets hx hb hZ.1 hSZ hown (hts (.fieldLink RX1 15 "ClockOnce$Asking" "ORDERS" "[I") (List.mem_of_getElem? (i := 1) rfl)) (fun _ h9 => h9) dX1_orders_5 ?_
    refine va_tlen (v := (5 : Int32)) hx hb hZ.2 hSZ rfl dX1_orders_8 ?_
    refine lv_icmp_lt (tgt := 16) hx hb dX1_orders_9 (by decide) (fun q_2 => ?_) (fun q_2 => ?_)
    · have h := mk_ifp q_2 h
      refine va_gets hx hb hZ.1 hSZ hown (hts (.fieldLink RX1 15 "ClockOnce$Asking" "ORDERS" "[I") (List.mem_of_getElem? (i := 1) rfl)) (fun _ h9 => h9) dX1_orders_16 ?_
      refine lv_iload_n hx hb dX1_orders_19 rfl (lv_at hl 0 rfl) ?_
      obtain ⟨v_3, ev_3, hiv_3, h⟩ := mk_rdE h
      refine va_ti (v := .int (mk_od p0.toNatClampNeg)) hx hb hZ.2 hSZ hiv_3 rfl dX1_orders_20 ?_
      refine mk_topi ev_3 ?_
      exact hret _ _ _ h dX1_orders_21
    · have h := mk_ifn q_2 h
      refine lv_iconst (v := (1 : Int32)) hx hb dX1_orders_12 (by decide) ?_
      refine lv_goto (tgt := 21) hx hb dX1_orders_13 (by decide) ?_
      exact hret _ _ _ h dX1_orders_21

abbrev rm_X1_gainInAllOrders : Room := { frames := 2, cells := 0, slots := 0, locals := 51 }
set_option maxRecDepth 20000 in
theorem k_X1_gainInAllOrders_J6_bitCount_0f7a4_61 : GoodIn wsX1_gainInAllOrders (va_wsS RX1 61 yJ6_bitCount_0f7a4 wsJ6_bitCount_0f7a4) := goodIn_r _ [3, 4, 5, 6, 7, 8, 9] rfl (by decide +kernel)
set_option maxRecDepth 20000 in
theorem k_X1_gainInAllOrders_X1_setsFor_69 : GoodIn wsX1_gainInAllOrders (wsV RX1 69 RX1 yX1_setsFor wsX1_setsFor) := goodIn_r _ [10, 11, 12, 13, 14, 1, 15, 16, 17, 13, 18, 19, 20, 21, 30, 31, 32, 33, 34, 35, 36, 37, 38, 39, 40, 41, 42, 43] rfl (by decide +kernel)
set_option maxRecDepth 20000 in
theorem k_X1_gainInAllOrders_X1_bestOf_73 : GoodIn wsX1_gainInAllOrders (wsV RX1 73 RX1 yX1_bestOf wsX1_bestOf) := goodIn_r _ [22, 23, 24, 13, 25, 19, 2, 3, 4, 5, 6, 7, 8, 9, 30, 31, 32, 33, 34, 35, 36, 37, 38, 39, 40, 41, 42, 43, 44] rfl (by decide +kernel)
set_option maxRecDepth 20000 in
theorem k_X1_gainInAllOrders_X1_orders_84 : GoodIn wsX1_gainInAllOrders (va_wsS RX1 84 yX1_orders wsX1_orders) := goodIn_r _ [26, 27, 13, 28, 29] rfl (by decide +kernel)
set_option maxHeartbeats 4000000 in
set_option maxRecDepth 100000 in
theorem c_X1_gainInAllOrders (l : Launch) (D : va_G) (cI cZ cO : ClassId) (N : Nat) (a0 : Nat → Nat) (u0 : TU) (a1 : Nat → Nat) (u1 : TU) (p2 : Int32) (p3 : Int32) (t : Nat) (out : Int32) (h : f_X1_gainInAllOrders N u0 u1 p2 p3 = some out) : Met l yX1_gainInAllOrders wsX1_gainInAllOrders rm_X1_gainInAllOrders (va_Pc [.ref (a0 0), .ref (a1 0), .int p2, .int p3] (fun U => (va_P D vwCl (wX1 cI a0 u0 ++ wX5 cI a1 u1) U.heap ∧ va_K D vwCl (tyA cI cZ cO) U) ∧ mk_Z cI t (fun _ => False) U U.heap)) (vp_Si (fun r => r = out)) 0 0 (fun _ => False) := by
  refine pm_iZ (cI := cI) (t := t) (own := RX1) (cc := cX1_gainInAllOrders) (maxL := 10) (by decide) rfl rfl (Nat.le_of_ble_eq_true rfl) ?_
  intro p e s m args below meth c Q H ls hx hb hml hown hts hP hK hZ hSZ hl hret
  have hl : lv_has ls 10 [(0, .ref (a0 0)), (1, .ref (a1 0)), (2, .int p2), (3, .int p3)] := hl
  have hiX1 : ∀ w ∈ u_ws RX1 TX1 1, w ∈ wsX1_gainInAllOrders := mk_seg 44 1 rfl
  have hiX5 : ∀ w ∈ u_ws RX5 TX5 14, w ∈ wsX1_gainInAllOrders := mk_seg 30 14 rfl
  have K12 : ∀ (x2 : Int32) (x3 : Int32) (x4 : Int32) (x5 : Int32) (x6 : Int32) (ls : Array Slot), lv_has ls 10 [(0, .ref (a0 0)), (1, .ref (a1 0)), (2, .int x2), (3, .int x3), (4, .int x4), (5, .int x5), (6, .int x6)] → lq2 (g_X1_gainInAllOrders_12 N u0 u1 x2 x3 x4) N x5 x6 = some out → W p l e rm_X1_gainInAllOrders s m args below meth c H [] 0 0 Q (F0 m 12 ls []) := by
    intro x2 x3 x4 x5 x6 ls hl h
    refine lq2_W (Wd := fun x5 x6 => ∀ (ls : Array Slot), lv_has ls 10 [(0, .ref (a0 0)), (1, .ref (a1 0)), (2, .int x2), (3, .int x3), (4, .int x4), (5, .int x5), (6, .int x6)] → W p l e rm_X1_gainInAllOrders s m args below meth c H [] 0 0 Q (F0 m 12 ls [])) (fun rec12 ih12 x5 x6 h ls hl => ?_) N x5 x6 h ls hl
    unfold g_X1_gainInAllOrders_12 at h
    refine lv_iload hx hb dX1_gainInAllOrders_12 (lv_at hl 6 rfl) ?_
    refine lv_iconst (v := (1 : Int32)) hx hb dX1_gainInAllOrders_14 (by decide) ?_
    refine lv_aload_n hx hb dX1_gainInAllOrders_15 rfl (lv_at hl 1 rfl) ?_
    refine va_get (D := D) (ci := 5) (v := .int (u1 0 2)) (C := RX5) (T := TX5) (N := 14) hx hb hts hiX5 hown hK hP 2 rfl rfl 8 (by decide) (hts (.fieldLink RX1 48 "ClockOnce$Town" "askers" "I") (List.mem_of_getElem? (i := 1) rfl)) (fun _ h9 => h9) rfl dX1_gainInAllOrders_16 ?_
    refine lv_ishl hx hb dX1_gainInAllOrders_19 ?_
    refine lv_icmp_ge (tgt := 123) hx hb dX1_gainInAllOrders_20 (by decide) (fun q_1 => ?_) (fun q_1 => ?_)
    · have h := mk_ifp q_1 h
      refine lv_iload hx hb dX1_gainInAllOrders_123 (lv_at hl 5 rfl) ?_
      exact hret _ _ _ h dX1_gainInAllOrders_125
    · have h := mk_ifn q_1 h
      refine lv_iload hx hb dX1_gainInAllOrders_23 (lv_at hl 6 rfl) ?_
      refine lv_iload_n hx hb dX1_gainInAllOrders_25 rfl (lv_at hl 2 rfl) ?_
      refine lv_iconst (v := (-1 : Int32)) hx hb dX1_gainInAllOrders_26 (by decide) ?_
      refine lv_ixor hx hb dX1_gainInAllOrders_27 ?_
      refine lv_iand hx hb dX1_gainInAllOrders_28 ?_
      refine lv_if_ne (tgt := 117) hx hb dX1_gainInAllOrders_29 (by decide) (fun q_2 => ?_) (fun q_2 => ?_)
      · have h := mk_ifn q_2 h
        refine lv_iinc (v := (x6 + (1 : Int32))) (lv' := [(6, .int (x6 + (1 : Int32))), (0, .ref (a0 0)), (1, .ref (a1 0)), (2, .int x2), (3, .int x3), (4, .int x4), (5, .int x5)]) hx hb dX1_gainInAllOrders_117 hl (k := 6) rfl rfl (by decide) rfl (fun ls hl => ?_)
        refine lv_goto (tgt := 12) hx hb dX1_gainInAllOrders_120 (by decide) ?_
        exact ih12 x5 (x6 + (1 : Int32)) h ls (lv_sub hl [1, 2, 3, 4, 5, 6, 0] rfl)
      · have h := mk_ifp q_2 h
        refine lv_iload hx hb dX1_gainInAllOrders_32 (lv_at hl 6 rfl) ?_
        refine lv_iload_n hx hb dX1_gainInAllOrders_34 rfl (lv_at hl 3 rfl) ?_
        refine lv_ishr hx hb dX1_gainInAllOrders_35 ?_
        refine lv_iconst (v := (1 : Int32)) hx hb dX1_gainInAllOrders_36 (by decide) ?_
        refine lv_iand hx hb dX1_gainInAllOrders_37 ?_
        refine lv_if_ne (tgt := 117) hx hb dX1_gainInAllOrders_38 (by decide) (fun q_3 => ?_) (fun q_3 => ?_)
        · have h := mk_ifn q_3 h
          refine lv_iinc (v := (x6 + (1 : Int32))) (lv' := [(6, .int (x6 + (1 : Int32))), (0, .ref (a0 0)), (1, .ref (a1 0)), (2, .int x2), (3, .int x3), (4, .int x4), (5, .int x5)]) hx hb dX1_gainInAllOrders_117 hl (k := 6) rfl rfl (by decide) rfl (fun ls hl => ?_)
          refine lv_goto (tgt := 12) hx hb dX1_gainInAllOrders_120 (by decide) ?_
          exact ih12 x5 (x6 + (1 : Int32)) h ls (lv_sub hl [1, 2, 3, 4, 5, 6, 0] rfl)
        · have h := mk_ifp q_3 h
          refine lv_iload hx hb dX1_gainInAllOrders_41 (lv_at hl 6 rfl) ?_
          obtain ⟨r_4, er_4, h⟩ := mk_bd h
          refine pc_s (As := [.int x6]) (rest := []) ⟨hx, hb, hml, hown, hts⟩ (c_J6_bitCount_0f7a4 l D cI cZ cO N x6 r_4 er_4) (va_cwS 1 hts k_X1_gainInAllOrders_J6_bitCount_0f7a4_61 rfl rfl rfl (by decide +kernel) ⟨(Nat.le_of_ble_eq_true rfl), (Nat.le_of_ble_eq_true rfl)⟩) (hP.sub (ws' := []) [] rfl) hK rfl hl.1 rfl (Nat.le_of_ble_eq_true rfl) dX1_gainInAllOrders_43 ⟨Nat.zero_le _, Nat.zero_le _⟩ ?_
          refine lv_istore (lv' := [(7, .int r_4), (0, .ref (a0 0)), (1, .ref (a1 0)), (2, .int x2), (3, .int x3), (4, .int x4), (5, .int x5), (6, .int x6)]) hx hb dX1_gainInAllOrders_46 hl (by decide) rfl (fun ls hl => ?_)
          refine lv_aload_n hx hb dX1_gainInAllOrders_48 rfl (lv_at hl 1 rfl) ?_
          refine va_get (D := D) (ci := 1) (v := .ref (a0 1)) (C := RX1) (T := TX1) (N := 1) hx hb hts hiX1 hown hK hP 0 rfl rfl 0 (by decide) (hts (.fieldLink RX1 9 "ClockOnce$Asking" "worths" "[I") (List.mem_of_getElem? (i := 2) rfl)) (fun _ h9 => h9) rfl dX1_gainInAllOrders_49 ?_
          refine lv_aload_n hx hb dX1_gainInAllOrders_52 rfl (lv_at hl 1 rfl) ?_
          refine lv_aload_n hx hb dX1_gainInAllOrders_53 rfl (lv_at hl 2 rfl) ?_
          refine lv_aload_n hx hb dX1_gainInAllOrders_54 rfl (lv_at hl 1 rfl) ?_
          refine lv_aload_n hx hb dX1_gainInAllOrders_55 rfl (lv_at hl 2 rfl) ?_
          refine lv_iload hx hb dX1_gainInAllOrders_56 (lv_at hl 7 rfl) ?_
          obtain ⟨r_5, er_5, h⟩ := mk_bd h
          refine pc_v (As := [.ref (a1 0), .int x6]) (rest := [.ref (a1 0), .ref (a0 0), .ref (a0 1)]) ⟨hx, hb, hml, hown, hts⟩ (c_X1_setsFor l D cI cZ cO N a0 u0 a1 u1 x6 r_5 er_5) (cwV 2 hts k_X1_gainInAllOrders_X1_setsFor_69 rfl rfl rfl (by decide +kernel) ⟨(Nat.le_of_ble_eq_true rfl), (Nat.le_of_ble_eq_true rfl)⟩) (va_recv hK hP (ci := 1) (q0 := 0) rfl rfl) hP hK rfl hl.1 rfl (Nat.le_of_ble_eq_true rfl) dX1_gainInAllOrders_58 ⟨Nat.zero_le _, Nat.zero_le _⟩ ?_
          obtain ⟨r_6, er_6, h⟩ := mk_bd h
          refine pc_v (As := [.ref (a1 0), .int r_5]) (rest := [.ref (a0 1)]) ⟨hx, hb, hml, hown, hts⟩ (c_X1_bestOf l D cI cZ cO N a0 u0 a1 u1 r_5 r_6 er_6) (cwV 2 hts k_X1_gainInAllOrders_X1_bestOf_73 rfl rfl rfl (by decide +kernel) ⟨(Nat.le_of_ble_eq_true rfl), (Nat.le_of_ble_eq_true rfl)⟩) (va_recv hK hP (ci := 1) (q0 := 0) rfl rfl) hP hK rfl hl.1 rfl (Nat.le_of_ble_eq_true rfl) dX1_gainInAllOrders_61 ⟨Nat.zero_le _, Nat.zero_le _⟩ ?_
          obtain ⟨v_7, ev_7, hiv_7, h⟩ := mk_rdE h
          refine va_iald hx hb hK hP 1 0 rfl rfl hiv_7 dX1_gainInAllOrders_64 ?_
          refine mk_topi ev_7 ?_
          refine lv_istore (lv' := [(8, .int v_7), (7, .int r_4), (0, .ref (a0 0)), (1, .ref (a1 0)), (2, .int x2), (3, .int x3), (4, .int x4), (5, .int x5), (6, .int x6)]) hx hb dX1_gainInAllOrders_65 hl (by decide) rfl (fun ls hl => ?_)
          refine lv_aload_n hx hb dX1_gainInAllOrders_67 rfl (lv_at hl 2 rfl) ?_
          refine va_get (D := D) (ci := 1) (v := .ref (a0 1)) (C := RX1) (T := TX1) (N := 1) hx hb hts hiX1 hown hK hP 0 rfl rfl 0 (by decide) (hts (.fieldLink RX1 9 "ClockOnce$Asking" "worths" "[I") (List.mem_of_getElem? (i := 2) rfl)) (fun _ h9 => h9) rfl dX1_gainInAllOrders_68 ?_
          refine lv_aload_n hx hb dX1_gainInAllOrders_71 rfl (lv_at hl 2 rfl) ?_
          refine lv_aload_n hx hb dX1_gainInAllOrders_72 rfl (lv_at hl 3 rfl) ?_
          refine lv_aload_n hx hb dX1_gainInAllOrders_73 rfl (lv_at hl 2 rfl) ?_
          refine lv_aload_n hx hb dX1_gainInAllOrders_74 rfl (lv_at hl 3 rfl) ?_
          refine lv_iload hx hb dX1_gainInAllOrders_75 (lv_at hl 8 rfl) ?_
          refine lv_iconst (v := (1 : Int32)) hx hb dX1_gainInAllOrders_77 (by decide) ?_
          refine lv_iload_n hx hb dX1_gainInAllOrders_78 rfl (lv_at hl 5 rfl) ?_
          refine lv_ishl hx hb dX1_gainInAllOrders_79 ?_
          refine lv_ior hx hb dX1_gainInAllOrders_80 ?_
          obtain ⟨r_8, er_8, h⟩ := mk_bd h
          refine pc_v (As := [.ref (a1 0), .int (x6 ||| ((1 : Int32) <<< (x3 &&& 31)))]) (rest := [.ref (a1 0), .ref (a0 0), .ref (a0 1)]) ⟨hx, hb, hml, hown, hts⟩ (c_X1_setsFor l D cI cZ cO N a0 u0 a1 u1 (x6 ||| ((1 : Int32) <<< (x3 &&& 31))) r_8 er_8) (cwV 2 hts k_X1_gainInAllOrders_X1_setsFor_69 rfl rfl rfl (by decide +kernel) ⟨(Nat.le_of_ble_eq_true rfl), (Nat.le_of_ble_eq_true rfl)⟩) (va_recv hK hP (ci := 1) (q0 := 0) rfl rfl) hP hK rfl hl.1 rfl (Nat.le_of_ble_eq_true rfl) dX1_gainInAllOrders_81 ⟨Nat.zero_le _, Nat.zero_le _⟩ ?_
          obtain ⟨r_9, er_9, h⟩ := mk_bd h
          refine pc_v (As := [.ref (a1 0), .int r_8]) (rest := [.ref (a0 1)]) ⟨hx, hb, hml, hown, hts⟩ (c_X1_bestOf l D cI cZ cO N a0 u0 a1 u1 r_8 r_9 er_9) (cwV 2 hts k_X1_gainInAllOrders_X1_bestOf_73 rfl rfl rfl (by decide +kernel) ⟨(Nat.le_of_ble_eq_true rfl), (Nat.le_of_ble_eq_true rfl)⟩) (va_recv hK hP (ci := 1) (q0 := 0) rfl rfl) hP hK rfl hl.1 rfl (Nat.le_of_ble_eq_true rfl) dX1_gainInAllOrders_84 ⟨Nat.zero_le _, Nat.zero_le _⟩ ?_
          obtain ⟨v_10, ev_10, hiv_10, h⟩ := mk_rdE h
          refine va_iald hx hb hK hP 1 0 rfl rfl hiv_10 dX1_gainInAllOrders_87 ?_
          refine mk_topi ev_10 ?_
          refine lv_istore (lv' := [(9, .int v_10), (8, .int v_7), (7, .int r_4), (0, .ref (a0 0)), (1, .ref (a1 0)), (2, .int x2), (3, .int x3), (4, .int x4), (5, .int x5), (6, .int x6)]) hx hb dX1_gainInAllOrders_88 hl (by decide) rfl (fun ls hl => ?_)
          refine lv_iload hx hb dX1_gainInAllOrders_90 (lv_at hl 8 rfl) ?_
          refine lv_iload hx hb dX1_gainInAllOrders_92 (lv_at hl 2 rfl) ?_
          obtain ⟨r_11, er_11, h⟩ := mk_bd h
          refine pc_sZ (As := [.int r_4]) (rest := [.int x5]) ⟨hx, hb, hml, hown, hts⟩ (c_X1_orders l D cI cZ cO N r_4 t r_11 er_11) (va_cwS 1 hts k_X1_gainInAllOrders_X1_orders_84 rfl rfl rfl (by decide +kernel) ⟨(Nat.le_of_ble_eq_true rfl), (Nat.le_of_ble_eq_true rfl)⟩) (hP.sub (ws' := []) [] rfl) hK hZ hSZ rfl hl.1 rfl (Nat.le_of_ble_eq_true rfl) dX1_gainInAllOrders_94 ⟨Nat.zero_le _, Nat.zero_le _⟩ ?_
          refine lv_iload hx hb dX1_gainInAllOrders_97 (lv_at hl 7 rfl) ?_
          refine lv_iload hx hb dX1_gainInAllOrders_99 (lv_at hl 2 rfl) ?_
          refine lv_isub hx hb dX1_gainInAllOrders_101 ?_
          refine lv_iconst (v := (1 : Int32)) hx hb dX1_gainInAllOrders_102 (by decide) ?_
          refine lv_isub hx hb dX1_gainInAllOrders_103 ?_
          obtain ⟨r_12, er_12, h⟩ := mk_bd h
          refine pc_sZ (As := [.int ((x4 - r_4) - (1 : Int32))]) (rest := [.int r_11, .int x5]) ⟨hx, hb, hml, hown, hts⟩ (c_X1_orders l D cI cZ cO N ((x4 - r_4) - (1 : Int32)) t r_12 er_12) (va_cwS 1 hts k_X1_gainInAllOrders_X1_orders_84 rfl rfl rfl (by decide +kernel) ⟨(Nat.le_of_ble_eq_true rfl), (Nat.le_of_ble_eq_true rfl)⟩) (hP.sub (ws' := []) [] rfl) hK hZ hSZ rfl hl.1 rfl (Nat.le_of_ble_eq_true rfl) dX1_gainInAllOrders_104 ⟨Nat.zero_le _, Nat.zero_le _⟩ ?_
          refine lv_imul hx hb dX1_gainInAllOrders_107 ?_
          refine lv_iload hx hb dX1_gainInAllOrders_108 (lv_at hl 0 rfl) ?_
          refine lv_iload hx hb dX1_gainInAllOrders_110 (lv_at hl 1 rfl) ?_
          refine lv_isub hx hb dX1_gainInAllOrders_112 ?_
          refine lv_imul hx hb dX1_gainInAllOrders_113 ?_
          refine lv_iadd hx hb dX1_gainInAllOrders_114 ?_
          obtain ⟨y_13, ey_13, h⟩ := mk_nmE h
          refine mk_topi ey_13 ?_
          refine lv_istore (lv' := [(5, .int y_13), (9, .int v_10), (8, .int v_7), (7, .int r_4), (0, .ref (a0 0)), (1, .ref (a1 0)), (2, .int x2), (3, .int x3), (4, .int x4), (6, .int x6)]) hx hb dX1_gainInAllOrders_115 hl (by decide) rfl (fun ls hl => ?_)
          refine lv_iinc (v := (x6 + (1 : Int32))) (lv' := [(6, .int (x6 + (1 : Int32))), (5, .int y_13), (9, .int v_10), (8, .int v_7), (7, .int r_4), (0, .ref (a0 0)), (1, .ref (a1 0)), (2, .int x2), (3, .int x3), (4, .int x4)]) hx hb dX1_gainInAllOrders_117 hl (k := 9) rfl rfl (by decide) rfl (fun ls hl => ?_)
          refine lv_goto (tgt := 12) hx hb dX1_gainInAllOrders_120 (by decide) ?_
          exact ih12 y_13 (x6 + (1 : Int32)) h ls (lv_sub hl [5, 6, 7, 8, 9, 1, 0] rfl)
  unfold f_X1_gainInAllOrders at h
  refine lv_iload_n hx hb dX1_gainInAllOrders_0 rfl (lv_at hl 2 rfl) ?_
  obtain ⟨r_14, er_14, h⟩ := mk_bd h
  refine pc_s (As := [.int p2]) (rest := []) ⟨hx, hb, hml, hown, hts⟩ (c_J6_bitCount_0f7a4 l D cI cZ cO N p2 r_14 er_14) (va_cwS 1 hts k_X1_gainInAllOrders_J6_bitCount_0f7a4_61 rfl rfl rfl (by decide +kernel) ⟨(Nat.le_of_ble_eq_true rfl), (Nat.le_of_ble_eq_true rfl)⟩) (hP.sub (ws' := []) [] rfl) hK rfl hl.1 rfl (Nat.le_of_ble_eq_true rfl) dX1_gainInAllOrders_1 ⟨Nat.zero_le _, Nat.zero_le _⟩ ?_
  refine lv_istore (lv' := [(4, .int r_14), (0, .ref (a0 0)), (1, .ref (a1 0)), (2, .int p2), (3, .int p3)]) hx hb dX1_gainInAllOrders_4 hl (by decide) rfl (fun ls hl => ?_)
  refine lv_iconst (v := (0 : Int32)) hx hb dX1_gainInAllOrders_6 (by decide) ?_
  refine lv_istore (lv' := [(5, .int (0 : Int32)), (4, .int r_14), (0, .ref (a0 0)), (1, .ref (a1 0)), (2, .int p2), (3, .int p3)]) hx hb dX1_gainInAllOrders_7 hl (by decide) rfl (fun ls hl => ?_)
  refine lv_iconst (v := (0 : Int32)) hx hb dX1_gainInAllOrders_9 (by decide) ?_
  refine lv_istore (lv' := [(6, .int (0 : Int32)), (5, .int (0 : Int32)), (4, .int r_14), (0, .ref (a0 0)), (1, .ref (a1 0)), (2, .int p2), (3, .int p3)]) hx hb dX1_gainInAllOrders_10 hl (by decide) rfl (fun ls hl => ?_)
  exact K12 p2 p3 r_14 (0 : Int32) (0 : Int32) ls (lv_sub hl [3, 4, 5, 6, 2, 1, 0] rfl) h

abbrev rm_X6_share : Room := { frames := 6, cells := 0, slots := 0, locals := 156 }
set_option maxRecDepth 20000 in
theorem k_X6_share_X5_hasAsker_121 : GoodIn wsX6_share (wsV RX6 121 RX5 yX5_hasAsker wsX5_hasAsker) := goodIn_r _ [4, 5, 6, 7, 8, 9, 153, 154, 155, 156, 157, 158, 159, 160, 161, 162, 163, 164, 165, 166] rfl (by decide +kernel)
set_option maxRecDepth 20000 in
theorem k_X6_share_X6_partsSeen_185 : GoodIn wsX6_share (wsV RX6 185 RX6 yX6_partsSeen wsX6_partsSeen) := goodIn_r _ [10, 11, 12, 13, 14, 1, 2, 15, 16, 17, 18, 7, 19, 20, 21, 22, 23, 24, 25, 26, 27, 28, 29, 30, 31, 32, 33, 34, 35, 36, 37, 38, 39, 40, 41, 42, 43, 44, 45, 46, 47, 48, 49, 50, 51, 52, 53, 141, 142, 143, 144, 145, 146, 147, 148, 149, 150, 151, 152, 167, 168, 169, 170, 171, 153, 154, 155, 156, 157, 158, 159, 160, 161, 162, 163, 164, 165, 166] rfl (by decide +kernel)
set_option maxRecDepth 20000 in
theorem k_X6_share_X2_idleAskers_204 : GoodIn wsX6_share (wsV RX6 204 RX2 yX2_idleAskers wsX2_idleAskers) := goodIn_r _ [54, 55, 56, 57, 58, 59, 60, 153, 154, 155, 156, 157, 158, 159, 160, 161, 162, 163, 164, 165, 166, 167, 168, 169, 170, 171] rfl (by decide +kernel)
set_option maxRecDepth 20000 in
theorem k_X6_share_X1_findWorths_188 : GoodIn wsX6_share (wsV RX6 188 RX1 yX1_findWorths wsX1_findWorths) := goodIn_r _ [67, 68, 69, 70, 71, 72, 73, 74, 75, 17, 18, 7, 19, 20, 21, 22, 23, 24, 25, 26, 27, 28, 29, 30, 31, 32, 33, 34, 35, 36, 37, 38, 39, 40, 41, 42, 43, 44, 45, 46, 47, 48, 76, 77, 78, 70, 79, 80, 81, 82, 57, 83, 84, 85, 86, 87, 88, 89, 90, 91, 92, 93, 94, 53, 95, 50, 51, 52, 96, 97, 98, 99, 100, 101, 102, 103, 104, 105, 106, 107, 108, 167, 168, 169, 170, 171, 153, 154, 155, 156, 157, 158, 159, 160, 161, 162, 163, 164, 165, 166, 172] rfl (by decide +kernel)
set_option maxRecDepth 20000 in
theorem k_X6_share_X1_gainInAllOrders_208 : GoodIn wsX6_share (wsV RX6 208 RX1 yX1_gainInAllOrders wsX1_gainInAllOrders) := goodIn_r _ [109, 110, 111, 70, 112, 113, 74, 114, 115, 116, 117, 118, 119, 120, 121, 122, 123, 70, 124, 125, 126, 127, 128, 73, 129, 130, 131, 132, 133, 134, 135, 136, 137, 138, 153, 154, 155, 156, 157, 158, 159, 160, 161, 162, 163, 164, 165, 166, 172] rfl (by decide +kernel)
set_option maxRecDepth 20000 in
theorem k_X6_share_J6_bitCount_0f7a4_155 : GoodIn wsX6_share (va_wsS RX6 155 yJ6_bitCount_0f7a4 wsJ6_bitCount_0f7a4) := goodIn_r _ [139, 115, 116, 117, 118, 119, 120] rfl (by decide +kernel)
set_option maxRecDepth 20000 in
theorem k_X6_share_X1_orders_212 : GoodIn wsX6_share (va_wsS RX6 212 yX1_orders wsX1_orders) := goodIn_r _ [140, 136, 70, 137, 138] rfl (by decide +kernel)
set_option maxRecDepth 20000 in
theorem k_X6_share_X6_fraction_173 : GoodIn wsX6_share (va_wsS RX6 173 yX6_fraction wsX6_fraction) := goodIn_r _ [61, 62, 13, 63, 64, 65, 13, 66] rfl (by decide +kernel)
set_option maxHeartbeats 4000000 in
set_option maxRecDepth 100000 in
theorem c_X6_share (l : Launch) (D : va_G) (cI cZ cO : ClassId) (N : Nat) (a0 : Nat → Nat → Nat) (c0 : CU) (sd : Int64) (p1 : Int32) (p2 : Int32) (t : Nat) (sz : Nat) (out : Int32 × CU) (h : f_X6_share N c0 sd p1 p2 = some out) : Met l yX6_share wsX6_share rm_X6_share (va_Pc [.ref ((a0 0) 0), .int p1, .int p2] (fun U => mk_Pe D vwCl (tyA cI cZ cO) (wX6 cI cO a0 c0 sd) sz U ∧ mk_Z cI t (va_A (wX6 cI cO a0 c0 sd) sz) U U.heap)) (va_Qi (fun r u => (r, u) = out) (mk_Be D vwCl (wX6 cI cO a0 c0 sd) sz (fun q => (wX6 cI cO a0 q sd))) (va_A (wX6 cI cO a0 c0 sd) sz)) 0 0 (va_A (wX6 cI cO a0 c0 sd) sz) := by
  refine em_iZ (cI := cI) (t := t) (own := RX6) (cc := cX6_share) (maxL := 6) (by decide) rfl rfl (Nat.le_of_ble_eq_true rfl) ?_
  intro p e s m args below meth c Q A H locs ls hx hb hml hown hts hP hK hZ hD hS hA hl hret
  have hl : lv_has ls 6 [(0, .ref ((a0 0) 0)), (1, .int p1), (2, .int p2)] := hl
  have hiX6 : ∀ w ∈ u_ws RX6 TX6 12, w ∈ wsX6_share := mk_seg 141 12 rfl
  unfold f_X6_share at h
  refine lv_aload_n hx hb dX6_share_0 rfl (lv_at hl 0 rfl) ?_
  refine va_get (D := D) (ci := 6) (v := .ref ((a0 2) 0)) (C := RX6) (T := TX6) (N := 12) hx hb hts hiX6 hown hK hP 0 rfl rfl 3 (by decide) (hts (.fieldLink RX6 27 "ClockOnce" "town" "LClockOnce$Town;") (List.mem_of_getElem? (i := 1) rfl)) (fun _ h9 => h9) rfl dX6_share_1 ?_
  refine lv_iload_n hx hb dX6_share_4 rfl (lv_at hl 1 rfl) ?_
  obtain ⟨r_1, er_1, h⟩ := mk_bd h
  refine pc_v (As := [.int p1]) (rest := []) ⟨hx, hb, hml, hown, hts⟩ (c_X5_hasAsker l D cI cZ cO N (a0 2) (c0 2) p1 r_1 er_1) (cwV 1 hts k_X6_share_X5_hasAsker_121 rfl rfl rfl (by decide +kernel) ⟨(Nat.le_of_ble_eq_true rfl), (Nat.le_of_ble_eq_true rfl)⟩) (va_recv hK hP (ci := 5) (q0 := 6) rfl rfl) (hP.sub (ws' := wX5 cI (a0 2) (c0 2)) [6, 7, 8, 9, 10, 11, 12, 13, 14, 15] rfl) hK rfl hl.1 rfl (Nat.le_of_ble_eq_true rfl) dX6_share_5 ⟨Nat.zero_le _, Nat.zero_le _⟩ ?_
  refine lv_if_ne (tgt := 13) hx hb dX6_share_8 (by decide) (fun q_2 => ?_) (fun q_2 => ?_)
  · have h := mk_ifn q_2 h
    refine lv_aload_n hx hb dX6_share_13 rfl (lv_at hl 0 rfl) ?_
    obtain ⟨r_3, er_3, h⟩ := mk_bd h
    refine pc_v (As := []) (rest := []) ⟨hx, hb, hml, hown, hts⟩ (c_X6_partsSeen l D cI cZ cO N a0 c0 sd r_3 er_3) (cwV 0 hts k_X6_share_X6_partsSeen_185 rfl rfl rfl (by decide +kernel) ⟨(Nat.le_of_ble_eq_true rfl), (Nat.le_of_ble_eq_true rfl)⟩) (va_recv hK hP (ci := 6) (q0 := 0) rfl rfl) hP hK rfl hl.1 rfl (Nat.le_of_ble_eq_true rfl) dX6_share_14 ⟨Nat.zero_le _, Nat.zero_le _⟩ ?_
    refine lv_istore_n (lv' := [(3, .int r_3), (0, .ref ((a0 0) 0)), (1, .int p1), (2, .int p2)]) hx hb dX6_share_17 rfl hl (by decide) rfl (fun ls hl => ?_)
    refine lv_iload_n hx hb dX6_share_18 rfl (lv_at hl 0 rfl) ?_
    refine lv_if_ne (tgt := 25) hx hb dX6_share_19 (by decide) (fun q_4 => ?_) (fun q_4 => ?_)
    · have h := mk_ifn q_4 h
      refine lv_aload_n hx hb dX6_share_25 rfl (lv_at hl 1 rfl) ?_
      refine va_get (D := D) (ci := 6) (v := .ref ((a0 4) 0)) (C := RX6) (T := TX6) (N := 12) hx hb hts hiX6 hown hK hP 0 rfl rfl 5 (by decide) (hts (.fieldLink RX6 37 "ClockOnce" "life" "LClockOnce$Life;") (List.mem_of_getElem? (i := 2) rfl)) (fun _ h9 => h9) rfl dX6_share_26 ?_
      refine lv_aload_n hx hb dX6_share_29 rfl (lv_at hl 1 rfl) ?_
      refine va_get (D := D) (ci := 6) (v := .ref ((a0 2) 0)) (C := RX6) (T := TX6) (N := 12) hx hb hts hiX6 hown hK hP 0 rfl rfl 3 (by decide) (hts (.fieldLink RX6 27 "ClockOnce" "town" "LClockOnce$Town;") (List.mem_of_getElem? (i := 1) rfl)) (fun _ h9 => h9) rfl dX6_share_30 ?_
      obtain ⟨r_5, er_5, h⟩ := mk_bd h
      refine pc_v (As := [.ref ((a0 2) 0)]) (rest := []) ⟨hx, hb, hml, hown, hts⟩ (c_X2_idleAskers l D cI cZ cO N (a0 4) (c0 4) (a0 2) (c0 2) r_5 er_5) (cwV 1 hts k_X6_share_X2_idleAskers_204 rfl rfl rfl (by decide +kernel) ⟨(Nat.le_of_ble_eq_true rfl), (Nat.le_of_ble_eq_true rfl)⟩) (va_recv hK hP (ci := 2) (q0 := 26) rfl rfl) (hP.sub (ws' := wX2 cI (a0 4) (c0 4) ++ wX5 cI (a0 2) (c0 2)) [26, 27, 28, 6, 7, 8, 9, 10, 11, 12, 13, 14, 15] rfl) hK rfl hl.1 rfl (Nat.le_of_ble_eq_true rfl) dX6_share_33 ⟨Nat.zero_le _, Nat.zero_le _⟩ ?_
      refine lv_istore (lv' := [(4, .int r_5), (3, .int r_3), (0, .ref ((a0 0) 0)), (1, .int p1), (2, .int p2)]) hx hb dX6_share_36 hl (by decide) rfl (fun ls hl => ?_)
      refine lv_iload hx hb dX6_share_38 (lv_at hl 0 rfl) ?_
      refine lv_iload_n hx hb dX6_share_40 rfl (lv_at hl 3 rfl) ?_
      refine lv_ishr hx hb dX6_share_41 ?_
      refine lv_iconst (v := (1 : Int32)) hx hb dX6_share_42 (by decide) ?_
      refine lv_iand hx hb dX6_share_43 ?_
      refine lv_if_ne (tgt := 54) hx hb dX6_share_44 (by decide) (fun q_6 => ?_) (fun q_6 => ?_)
      · have h := mk_ifn q_6 h
        refine lv_aload_n hx hb dX6_share_54 rfl (lv_at hl 2 rfl) ?_
        refine va_get (D := D) (ci := 6) (v := .ref ((a0 9) 0)) (C := RX6) (T := TX6) (N := 12) hx hb hts hiX6 hown hK hP 0 rfl rfl 9 (by decide) (hts (.fieldLink RX6 62 "ClockOnce" "asking" "LClockOnce$Asking;") (List.mem_of_getElem? (i := 3) rfl)) (fun _ h9 => h9) rfl dX6_share_55 ?_
        refine lv_aload_n hx hb dX6_share_58 rfl (lv_at hl 2 rfl) ?_
        refine va_get (D := D) (ci := 6) (v := .ref ((a0 2) 0)) (C := RX6) (T := TX6) (N := 12) hx hb hts hiX6 hown hK hP 0 rfl rfl 3 (by decide) (hts (.fieldLink RX6 27 "ClockOnce" "town" "LClockOnce$Town;") (List.mem_of_getElem? (i := 1) rfl)) (fun _ h9 => h9) rfl dX6_share_59 ?_
        refine lv_aload_n hx hb dX6_share_62 rfl (lv_at hl 2 rfl) ?_
        refine va_get (D := D) (ci := 6) (v := .ref ((a0 4) 0)) (C := RX6) (T := TX6) (N := 12) hx hb hts hiX6 hown hK hP 0 rfl rfl 5 (by decide) (hts (.fieldLink RX6 37 "ClockOnce" "life" "LClockOnce$Life;") (List.mem_of_getElem? (i := 2) rfl)) (fun _ h9 => h9) rfl dX6_share_63 ?_
        obtain ⟨r_7, er_7, h⟩ := mk_bd h
        refine ec_vv (As := [.ref ((a0 2) 0), .ref ((a0 4) 0)]) (rest := []) (w' := (wX6 cI cO a0 (mk_set3 c0 9 r_7) sd)) ⟨hx, hb, hml, hown, hts⟩ (c_X1_findWorths l D cI cZ cO N (a0 9) (c0 9) (a0 2) (c0 2) (a0 4) (c0 4) H.size r_7 er_7) (cwV 2 hts k_X6_share_X1_findWorths_188 rfl rfl rfl (by decide +kernel) ⟨(Nat.le_of_ble_eq_true rfl), (Nat.le_of_ble_eq_true rfl)⟩) (va_recv hK hP (ci := 1) (q0 := 42) rfl rfl) hK hP hD hS hA [42, 43, 6, 7, 8, 9, 10, 11, 12, 13, 14, 15, 26, 27, 28] [0, 1, 2, 3, 4, 5, 16, 17, 18, 19, 20, 21, 22, 23, 24, 25, 29, 30, 31, 32, 33, 34, 35, 36, 37, 38, 39, 40, 41] [0, 1, 2, 3, 4, 5, 31, 32, 33, 34, 35, 36, 37, 38, 39, 40, 6, 7, 8, 9, 10, 11, 12, 13, 14, 15, 41, 42, 43, 16, 17, 18, 19, 20, 21, 22, 23, 24, 25, 26, 27, 28, 29, 30] (hP.sub (ws' := wX1 cI (a0 9) (c0 9) ++ wX5 cI (a0 2) (c0 2) ++ wX2 cI (a0 4) (c0 4)) [42, 43, 6, 7, 8, 9, 10, 11, 12, 13, 14, 15, 26, 27, 28] rfl) (hD.sub (ws' := wX1 cI (a0 9) (c0 9) ++ wX5 cI (a0 2) (c0 2) ++ wX2 cI (a0 4) (c0 4)) [42, 43, 6, 7, 8, 9, 10, 11, 12, 13, 14, 15, 26, 27, 28] (by decide) rfl) rfl rfl (by decide) (by decide) rfl (by decide) rfl hl.1 rfl (Nat.le_of_ble_eq_true rfl) dX6_share_66 ⟨Nat.zero_le _, Nat.zero_le _⟩ (fun H locs hP hD hS => ?_)
        obtain ⟨w_8, ew_8, h⟩ := mk_nmE h
        rw [← ew_8] at hP hD
        refine lv_aload_n hx hb dX6_share_69 rfl (lv_at hl 2 rfl) ?_
        refine va_get (D := D) (ci := 6) (v := .ref ((a0 9) 0)) (C := RX6) (T := TX6) (N := 12) hx hb hts hiX6 hown hK hP 0 rfl rfl 9 (by decide) (hts (.fieldLink RX6 62 "ClockOnce" "asking" "LClockOnce$Asking;") (List.mem_of_getElem? (i := 3) rfl)) (fun _ h9 => h9) rfl dX6_share_70 ?_
        refine lv_aload_n hx hb dX6_share_73 rfl (lv_at hl 2 rfl) ?_
        refine va_get (D := D) (ci := 6) (v := .ref ((a0 2) 0)) (C := RX6) (T := TX6) (N := 12) hx hb hts hiX6 hown hK hP 0 rfl rfl 3 (by decide) (hts (.fieldLink RX6 27 "ClockOnce" "town" "LClockOnce$Town;") (List.mem_of_getElem? (i := 1) rfl)) (fun _ h9 => h9) rfl dX6_share_74 ?_
        refine lv_iload hx hb dX6_share_77 (lv_at hl 0 rfl) ?_
        refine lv_iload_n hx hb dX6_share_79 rfl (lv_at hl 3 rfl) ?_
        obtain ⟨r_9, er_9, h⟩ := mk_bd h
        refine pc_vZ (As := [.ref ((a0 2) 0), .int r_5, .int p1]) (rest := []) ⟨hx, hb, hml, hown, hts⟩ (c_X1_gainInAllOrders l D cI cZ cO N (a0 9) (w_8 9) (a0 2) (w_8 2) r_5 p1 t r_9 er_9) (cwV 3 hts k_X6_share_X1_gainInAllOrders_208 rfl rfl rfl (by decide +kernel) ⟨(Nat.le_of_ble_eq_true rfl), (Nat.le_of_ble_eq_true rfl)⟩) (va_recv hK hP (ci := 1) (q0 := 42) rfl rfl) (hP.sub (ws' := wX1 cI (a0 9) (w_8 9) ++ wX5 cI (a0 2) (w_8 2)) [42, 43, 6, 7, 8, 9, 10, 11, 12, 13, 14, 15] rfl) hK hZ hS rfl hl.1 rfl (Nat.le_of_ble_eq_true rfl) dX6_share_80 ⟨Nat.zero_le _, Nat.zero_le _⟩ ?_
        refine lv_istore (lv' := [(5, .int r_9), (4, .int r_5), (3, .int r_3), (0, .ref ((a0 0) 0)), (1, .int p1), (2, .int p2)]) hx hb dX6_share_83 hl (by decide) rfl (fun ls hl => ?_)
        refine lv_iload hx hb dX6_share_85 (lv_at hl 0 rfl) ?_
        refine lv_iload hx hb dX6_share_87 (lv_at hl 1 rfl) ?_
        obtain ⟨r_10, er_10, h⟩ := mk_bd h
        refine pc_s (As := [.int r_5]) (rest := [.int r_9]) ⟨hx, hb, hml, hown, hts⟩ (c_J6_bitCount_0f7a4 l D cI cZ cO N r_5 r_10 er_10) (va_cwS 1 hts k_X6_share_J6_bitCount_0f7a4_155 rfl rfl rfl (by decide +kernel) ⟨(Nat.le_of_ble_eq_true rfl), (Nat.le_of_ble_eq_true rfl)⟩) (hP.sub (ws' := []) [] rfl) hK rfl hl.1 rfl (Nat.le_of_ble_eq_true rfl) dX6_share_89 ⟨Nat.zero_le _, Nat.zero_le _⟩ ?_
        obtain ⟨r_11, er_11, h⟩ := mk_bd h
        refine pc_sZ (As := [.int r_10]) (rest := [.int r_9]) ⟨hx, hb, hml, hown, hts⟩ (c_X1_orders l D cI cZ cO N r_10 t r_11 er_11) (va_cwS 1 hts k_X6_share_X1_orders_212 rfl rfl rfl (by decide +kernel) ⟨(Nat.le_of_ble_eq_true rfl), (Nat.le_of_ble_eq_true rfl)⟩) (hP.sub (ws' := []) [] rfl) hK hZ hS rfl hl.1 rfl (Nat.le_of_ble_eq_true rfl) dX6_share_92 ⟨Nat.zero_le _, Nat.zero_le _⟩ ?_
        refine lv_iload_n hx hb dX6_share_95 rfl (lv_at hl 2 rfl) ?_
        refine lv_imul hx hb dX6_share_96 ?_
        refine lv_iload_n hx hb dX6_share_97 rfl (lv_at hl 5 rfl) ?_
        obtain ⟨r_12, er_12, h⟩ := mk_bd h
        refine pc_s (As := [.int r_9, .int (r_11 * r_3), .int p2]) (rest := []) ⟨hx, hb, hml, hown, hts⟩ (c_X6_fraction l D cI cZ cO N r_9 (r_11 * r_3) p2 r_12 er_12) (va_cwS 3 hts k_X6_share_X6_fraction_173 rfl rfl rfl (by decide +kernel) ⟨(Nat.le_of_ble_eq_true rfl), (Nat.le_of_ble_eq_true rfl)⟩) (hP.sub (ws' := []) [] rfl) hK rfl hl.1 rfl (Nat.le_of_ble_eq_true rfl) dX6_share_98 ⟨Nat.zero_le _, Nat.zero_le _⟩ ?_
        exact hret _ _ _ _ _ _ h hP hD hS dX6_share_101
      · have h := mk_ifp q_6 h
        refine lv_iconst (v := (0 : Int32)) hx hb dX6_share_47 (by decide) ?_
        refine lv_iconst (v := (1 : Int32)) hx hb dX6_share_48 (by decide) ?_
        refine lv_iload_n hx hb dX6_share_49 rfl (lv_at hl 4 rfl) ?_
        obtain ⟨r_13, er_13, h⟩ := mk_bd h
        refine pc_s (As := [.int (0 : Int32), .int (1 : Int32), .int p2]) (rest := []) ⟨hx, hb, hml, hown, hts⟩ (c_X6_fraction l D cI cZ cO N (0 : Int32) (1 : Int32) p2 r_13 er_13) (va_cwS 3 hts k_X6_share_X6_fraction_173 rfl rfl rfl (by decide +kernel) ⟨(Nat.le_of_ble_eq_true rfl), (Nat.le_of_ble_eq_true rfl)⟩) (hP.sub (ws' := []) [] rfl) hK rfl hl.1 rfl (Nat.le_of_ble_eq_true rfl) dX6_share_50 ⟨Nat.zero_le _, Nat.zero_le _⟩ ?_
        exact hret _ _ _ _ _ _ h hP hD hS dX6_share_53
    · have h := mk_ifp q_4 h
      refine lv_bipush (v := (-3 : Int32)) hx hb dX6_share_22 (by decide) ?_
      exact hret _ _ _ _ _ _ h hP hD hS dX6_share_24
  · have h := mk_ifp q_2 h
    refine lv_iconst (v := (-1 : Int32)) hx hb dX6_share_11 (by decide) ?_
    exact hret _ _ _ _ _ _ h hP hD hS dX6_share_12

abbrev rm_X6_slotOf : Room := { frames := 0, cells := 0, slots := 0, locals := 0 }
set_option maxHeartbeats 4000000 in
set_option maxRecDepth 100000 in
theorem c_X6_slotOf (l : Launch) (D : va_G) (cI cZ cO : ClassId) (N : Nat) (a0 : Nat → Nat → Nat) (c0 : CU) (sd : Int64) (p1 : Int32) (out : Int32) (h : f_X6_slotOf N c0 sd p1 = some out) : Met l yX6_slotOf wsX6_slotOf rm_X6_slotOf (va_Pc [.ref ((a0 0) 0), .int p1] (fun U => va_P D vwCl (wX6 cI cO a0 c0 sd) U.heap ∧ va_K D vwCl (tyA cI cZ cO) U)) (va_Sq (fun r => r = mk_sl a0 out)) 0 0 (fun _ => False) := by
  refine pm_q (a0 := a0) (own := RX6) (cc := cX6_slotOf) (maxL := 2) (by decide) rfl rfl (Nat.le_of_ble_eq_true rfl) ?_
  intro p e s m args below meth c Q H ls hx hb hml hown hts hP hK hl hret
  have hl : lv_has ls 2 [(0, .ref ((a0 0) 0)), (1, .int p1)] := hl
  have hiX6 : ∀ w ∈ u_ws RX6 TX6 12, w ∈ wsX6_slotOf := mk_seg 2 12 rfl
  unfold f_X6_slotOf at h
  refine lv_iload_n hx hb dX6_slotOf_0 rfl (lv_at hl 1 rfl) ?_
  refine lv_if_lt (tgt := 13) hx hb dX6_slotOf_1 (by decide) (fun q_1 => ?_) (fun q_1 => ?_)
  · have h := mk_ifp q_1 h
    refine lv_null hx hb dX6_slotOf_13 ?_
    refine lv_goto (tgt := 23) hx hb dX6_slotOf_14 (by decide) ?_
    exact hret _ _ _ none h rfl dX6_slotOf_23
  · have h := mk_ifn q_1 h
    refine lv_iload_n hx hb dX6_slotOf_4 rfl (lv_at hl 1 rfl) ?_
    refine lv_aload_n hx hb dX6_slotOf_5 rfl (lv_at hl 0 rfl) ?_
    refine va_get (D := D) (ci := 6) (v := .ref (a0 0 3)) (C := RX6) (T := TX6) (N := 12) hx hb hts hiX6 hown hK hP 0 rfl rfl 7 (by decide) (hts (.fieldLink RX6 48 "ClockOnce" "slots" "[LClockOnce$Life;") (List.mem_of_getElem? (i := 1) rfl)) (fun _ h9 => h9) rfl dX6_slotOf_6 ?_
    refine va_alen (v := (2 : Int32)) hx hb hK hP 2 2 rfl rfl rfl dX6_slotOf_9 ?_
    refine lv_icmp_lt (tgt := 17) hx hb dX6_slotOf_10 (by decide) (fun q_2 => ?_) (fun q_2 => ?_)
    · have h := mk_ifp q_2 h
      refine lv_aload_n hx hb dX6_slotOf_17 rfl (lv_at hl 0 rfl) ?_
      refine va_get (D := D) (ci := 6) (v := .ref (a0 0 3)) (C := RX6) (T := TX6) (N := 12) hx hb hts hiX6 hown hK hP 0 rfl rfl 7 (by decide) (hts (.fieldLink RX6 48 "ClockOnce" "slots" "[LClockOnce$Life;") (List.mem_of_getElem? (i := 1) rfl)) (fun _ h9 => h9) rfl dX6_slotOf_18 ?_
      refine lv_iload_n hx hb dX6_slotOf_21 rfl (lv_at hl 1 rfl) ?_
      obtain ⟨hx_3, h⟩ := mk_ixE h
      refine va_aldq hx hb hK hP 2 2 rfl rfl hx_3 dX6_slotOf_22 ?_
      exact hret _ _ _ _ h (mk_slin hx_3) dX6_slotOf_23
    · have h := mk_ifn q_2 h
      refine lv_null hx hb dX6_slotOf_13 ?_
      refine lv_goto (tgt := 23) hx hb dX6_slotOf_14 (by decide) ?_
      exact hret _ _ _ none h rfl dX6_slotOf_23

abbrev rm_X6_keep : Room := { frames := 2, cells := 0, slots := 0, locals := 101 }
set_option maxRecDepth 20000 in
theorem k_X6_keep_X6_slotOf_252 : GoodIn wsX6_keep (wsV RX6 252 RX6 yX6_slotOf wsX6_slotOf) := goodIn_r _ [4, 5, 6, 7, 8, 9, 23, 24, 25, 26, 27, 28, 29, 30, 31, 32, 33, 34] rfl (by decide +kernel)
set_option maxRecDepth 20000 in
theorem k_X6_keep_X2_becomeLike_256 : GoodIn wsX6_keep (wsV RX6 256 RX2 yX2_becomeLike wsX2_becomeLike) := goodIn_r _ [10, 11, 12, 13, 14, 15, 16, 17, 18, 19, 20, 21, 22, 35, 36, 37, 38, 39] rfl (by decide +kernel)
set_option maxHeartbeats 4000000 in
set_option maxRecDepth 100000 in
theorem c_X6_keep (l : Launch) (D : va_G) (cI cZ cO : ClassId) (N : Nat) (a0 : Nat → Nat → Nat) (c0 : CU) (sd : Int64) (p1 : Int32) (sz : Nat) (out : Int32 × CU) (h : f_X6_keep N c0 sd p1 = some out) : Met l yX6_keep wsX6_keep rm_X6_keep (va_Pc [.ref ((a0 0) 0), .int p1] (mk_Pe D vwCl (tyA cI cZ cO) (wX6 cI cO a0 c0 sd) sz)) (va_Qi (fun r u => (r, u) = out) (mk_Be D vwCl (wX6 cI cO a0 c0 sd) sz (fun q => (wX6 cI cO a0 q sd))) (va_A (wX6 cI cO a0 c0 sd) sz)) 0 0 (va_A (wX6 cI cO a0 c0 sd) sz) := by
  refine em_i (own := RX6) (cc := cX6_keep) (maxL := 3) (by decide) rfl rfl (Nat.le_of_ble_eq_true rfl) ?_
  intro p e s m args below meth c Q A H0 H locs ls hx hb hml hown hts hP hK hD hS hA hl hret
  have hl : lv_has ls 3 [(0, .ref ((a0 0) 0)), (1, .int p1)] := hl
  have hiX2 : ∀ w ∈ u_ws RX2 TX2 5, w ∈ wsX6_keep := mk_seg 35 5 rfl
  have hiX6 : ∀ w ∈ u_ws RX6 TX6 12, w ∈ wsX6_keep := mk_seg 23 12 rfl
  unfold f_X6_keep at h
  refine lv_aload_n hx hb dX6_keep_0 rfl (lv_at hl 0 rfl) ?_
  refine lv_iload_n hx hb dX6_keep_1 rfl (lv_at hl 1 rfl) ?_
  obtain ⟨r_1, er_1, h⟩ := mk_bd h
  refine pc_vq (As := [.int p1]) (rest := []) ⟨hx, hb, hml, hown, hts⟩ (c_X6_slotOf l D cI cZ cO N a0 c0 sd p1 r_1 er_1) (cwV 1 hts k_X6_keep_X6_slotOf_252 rfl rfl rfl (by decide +kernel) ⟨(Nat.le_of_ble_eq_true rfl), (Nat.le_of_ble_eq_true rfl)⟩) (va_recv hK hP (ci := 6) (q0 := 0) rfl rfl) hP hK rfl hl.1 rfl (Nat.le_of_ble_eq_true rfl) dX6_keep_2 ⟨Nat.zero_le _, Nat.zero_le _⟩ ?_
  by_cases q_2 : r_1 = 0
  · have h := mk_ifp q_2 h
    refine mk_sl0 q_2 ?_
    refine lv_astore_n (lv' := [(2, .ref ((a0 6) 0)), (0, .ref ((a0 0) 0)), (1, .int p1)]) hx hb dX6_keep_5 rfl hl (by decide) rfl (fun ls hl => ?_)
    refine lv_aload_n hx hb dX6_keep_6 rfl (lv_at hl 0 rfl) ?_
    refine lv_ifnonnull (tgt := 12) hx hb dX6_keep_7 (by decide) ?_
    refine lv_aload_n hx hb dX6_keep_12 rfl (lv_at hl 0 rfl) ?_
    refine lv_aload_n hx hb dX6_keep_13 rfl (lv_at hl 1 rfl) ?_
    refine va_get (D := D) (ci := 6) (v := .ref ((a0 4) 0)) (C := RX6) (T := TX6) (N := 12) hx hb hts hiX6 hown hK hP 0 rfl rfl 5 (by decide) (hts (.fieldLink RX6 37 "ClockOnce" "life" "LClockOnce$Life;") (List.mem_of_getElem? (i := 1) rfl)) (fun _ h9 => h9) rfl dX6_keep_14 ?_
    obtain ⟨r_4, er_4, h⟩ := mk_bd h
    refine ec_vv (As := [.ref ((a0 4) 0)]) (rest := []) (w' := (wX6 cI cO a0 (mk_set3 c0 6 r_4) sd)) ⟨hx, hb, hml, hown, hts⟩ (c_X2_becomeLike l D cI cZ cO N (a0 6) (c0 6) (a0 4) (c0 4) H.size r_4 er_4) (cwV 1 hts k_X6_keep_X2_becomeLike_256 rfl rfl rfl (by decide +kernel) ⟨(Nat.le_of_ble_eq_true rfl), (Nat.le_of_ble_eq_true rfl)⟩) (va_recv hK hP (ci := 2) (q0 := 33) rfl rfl) hK hP hD hS hA [33, 34, 35, 26, 27, 28] [0, 1, 2, 3, 4, 5, 6, 7, 8, 9, 10, 11, 12, 13, 14, 15, 16, 17, 18, 19, 20, 21, 22, 23, 24, 25, 29, 30, 31, 32, 36, 37, 38, 39, 40, 41, 42, 43] [0, 1, 2, 3, 4, 5, 6, 7, 8, 9, 10, 11, 12, 13, 14, 15, 16, 17, 18, 19, 20, 21, 22, 23, 24, 25, 41, 42, 43, 26, 27, 28, 29, 38, 39, 40, 30, 31, 32, 33, 34, 35, 36, 37] (hP.sub (ws' := wX2 cI (a0 6) (c0 6) ++ wX2 cI (a0 4) (c0 4)) [33, 34, 35, 26, 27, 28] rfl) (hD.sub (ws' := wX2 cI (a0 6) (c0 6) ++ wX2 cI (a0 4) (c0 4)) [33, 34, 35, 26, 27, 28] (by decide) rfl) rfl rfl (by decide) (by decide) rfl (by decide) rfl hl.1 rfl (Nat.le_of_ble_eq_true rfl) dX6_keep_17 ⟨Nat.zero_le _, Nat.zero_le _⟩ (fun H locs hP hD hS => ?_)
    obtain ⟨w_5, ew_5, h⟩ := mk_nmE h
    rw [← ew_5] at hP hD
    refine lv_aload_n hx hb dX6_keep_20 rfl (lv_at hl 0 rfl) ?_
    refine lv_iconst (v := (1 : Int32)) hx hb dX6_keep_21 (by decide) ?_
    obtain ⟨w_6, ew_6, h⟩ := mk_nmE h
    refine va_put (D := D) (ci := 2) (v := .int (1 : Int32)) (ty := .boolean) (C := RX2) (T := TX2) (N := 5) hx hb hts hiX2 tyX2 tyX2_ok nmX2 hown hK hP hD hS 33 rfl rfl 4 (by decide) (hts (.fieldLink RX6 259 "ClockOnce$Life" "isKept" "Z") (List.mem_of_getElem? (i := 2) rfl)) (fun _ h9 => h9) rfl (by decide +kernel) (by decide) (by decide) (Nat.le_of_ble_eq_true rfl) dX6_keep_22 (fun H locs hP hD hS => ?_)
    have hP : va_P D vwCl (wX6 cI cO a0 w_6 sd) H := by rw [ew_6]; exact hP
    have hD : va_D A (wX6 cI cO a0 w_6 sd) := by rw [ew_6]; exact hD
    refine lv_aload_n hx hb dX6_keep_25 rfl (lv_at hl 1 rfl) ?_
    refine va_get (D := D) (ci := 6) (v := .ref ((a0 4) 0)) (C := RX6) (T := TX6) (N := 12) hx hb hts hiX6 hown hK hP 0 rfl rfl 5 (by decide) (hts (.fieldLink RX6 37 "ClockOnce" "life" "LClockOnce$Life;") (List.mem_of_getElem? (i := 1) rfl)) (fun _ h9 => h9) rfl dX6_keep_26 ?_
    refine va_get (D := D) (ci := 2) (v := .int ((w_6 4) 0 1)) (C := RX2) (T := TX2) (N := 5) hx hb hts hiX2 hown hK hP 26 rfl rfl 1 (by decide) (hts (.fieldLink RX6 146 "ClockOnce$Life" "coins" "I") (List.mem_of_getElem? (i := 3) rfl)) (fun _ h9 => h9) rfl dX6_keep_29 ?_
    exact hret _ _ _ _ _ _ h hP hD hS dX6_keep_32
  have h := mk_ifn q_2 h
  by_cases q_3 : r_1 = 1
  · have h := mk_ifp q_3 h
    refine mk_sl1 q_3 ?_
    refine lv_astore_n (lv' := [(2, .ref ((a0 7) 0)), (0, .ref ((a0 0) 0)), (1, .int p1)]) hx hb dX6_keep_5 rfl hl (by decide) rfl (fun ls hl => ?_)
    refine lv_aload_n hx hb dX6_keep_6 rfl (lv_at hl 0 rfl) ?_
    refine lv_ifnonnull (tgt := 12) hx hb dX6_keep_7 (by decide) ?_
    refine lv_aload_n hx hb dX6_keep_12 rfl (lv_at hl 0 rfl) ?_
    refine lv_aload_n hx hb dX6_keep_13 rfl (lv_at hl 1 rfl) ?_
    refine va_get (D := D) (ci := 6) (v := .ref ((a0 4) 0)) (C := RX6) (T := TX6) (N := 12) hx hb hts hiX6 hown hK hP 0 rfl rfl 5 (by decide) (hts (.fieldLink RX6 37 "ClockOnce" "life" "LClockOnce$Life;") (List.mem_of_getElem? (i := 1) rfl)) (fun _ h9 => h9) rfl dX6_keep_14 ?_
    obtain ⟨r_7, er_7, h⟩ := mk_bd h
    refine ec_vv (As := [.ref ((a0 4) 0)]) (rest := []) (w' := (wX6 cI cO a0 (mk_set3 c0 7 r_7) sd)) ⟨hx, hb, hml, hown, hts⟩ (c_X2_becomeLike l D cI cZ cO N (a0 7) (c0 7) (a0 4) (c0 4) H.size r_7 er_7) (cwV 1 hts k_X6_keep_X2_becomeLike_256 rfl rfl rfl (by decide +kernel) ⟨(Nat.le_of_ble_eq_true rfl), (Nat.le_of_ble_eq_true rfl)⟩) (va_recv hK hP (ci := 2) (q0 := 36) rfl rfl) hK hP hD hS hA [36, 37, 38, 26, 27, 28] [0, 1, 2, 3, 4, 5, 6, 7, 8, 9, 10, 11, 12, 13, 14, 15, 16, 17, 18, 19, 20, 21, 22, 23, 24, 25, 29, 30, 31, 32, 33, 34, 35, 39, 40, 41, 42, 43] [0, 1, 2, 3, 4, 5, 6, 7, 8, 9, 10, 11, 12, 13, 14, 15, 16, 17, 18, 19, 20, 21, 22, 23, 24, 25, 41, 42, 43, 26, 27, 28, 29, 30, 31, 32, 38, 39, 40, 33, 34, 35, 36, 37] (hP.sub (ws' := wX2 cI (a0 7) (c0 7) ++ wX2 cI (a0 4) (c0 4)) [36, 37, 38, 26, 27, 28] rfl) (hD.sub (ws' := wX2 cI (a0 7) (c0 7) ++ wX2 cI (a0 4) (c0 4)) [36, 37, 38, 26, 27, 28] (by decide) rfl) rfl rfl (by decide) (by decide) rfl (by decide) rfl hl.1 rfl (Nat.le_of_ble_eq_true rfl) dX6_keep_17 ⟨Nat.zero_le _, Nat.zero_le _⟩ (fun H locs hP hD hS => ?_)
    obtain ⟨w_8, ew_8, h⟩ := mk_nmE h
    rw [← ew_8] at hP hD
    refine lv_aload_n hx hb dX6_keep_20 rfl (lv_at hl 0 rfl) ?_
    refine lv_iconst (v := (1 : Int32)) hx hb dX6_keep_21 (by decide) ?_
    obtain ⟨w_9, ew_9, h⟩ := mk_nmE h
    refine va_put (D := D) (ci := 2) (v := .int (1 : Int32)) (ty := .boolean) (C := RX2) (T := TX2) (N := 5) hx hb hts hiX2 tyX2 tyX2_ok nmX2 hown hK hP hD hS 36 rfl rfl 4 (by decide) (hts (.fieldLink RX6 259 "ClockOnce$Life" "isKept" "Z") (List.mem_of_getElem? (i := 2) rfl)) (fun _ h9 => h9) rfl (by decide +kernel) (by decide) (by decide) (Nat.le_of_ble_eq_true rfl) dX6_keep_22 (fun H locs hP hD hS => ?_)
    have hP : va_P D vwCl (wX6 cI cO a0 w_9 sd) H := by rw [ew_9]; exact hP
    have hD : va_D A (wX6 cI cO a0 w_9 sd) := by rw [ew_9]; exact hD
    refine lv_aload_n hx hb dX6_keep_25 rfl (lv_at hl 1 rfl) ?_
    refine va_get (D := D) (ci := 6) (v := .ref ((a0 4) 0)) (C := RX6) (T := TX6) (N := 12) hx hb hts hiX6 hown hK hP 0 rfl rfl 5 (by decide) (hts (.fieldLink RX6 37 "ClockOnce" "life" "LClockOnce$Life;") (List.mem_of_getElem? (i := 1) rfl)) (fun _ h9 => h9) rfl dX6_keep_26 ?_
    refine va_get (D := D) (ci := 2) (v := .int ((w_9 4) 0 1)) (C := RX2) (T := TX2) (N := 5) hx hb hts hiX2 hown hK hP 26 rfl rfl 1 (by decide) (hts (.fieldLink RX6 146 "ClockOnce$Life" "coins" "I") (List.mem_of_getElem? (i := 3) rfl)) (fun _ h9 => h9) rfl dX6_keep_29 ?_
    exact hret _ _ _ _ _ _ h hP hD hS dX6_keep_32
  have h := mk_ifn q_3 h
  refine mk_sl2 q_2 q_3 ?_
  refine lv_astore_nN (lv' := [(2, .null), (0, .ref ((a0 0) 0)), (1, .int p1)]) hx hb dX6_keep_5 rfl hl (by decide) rfl (fun ls hl => ?_)
  refine lv_aload_nN hx hb dX6_keep_6 rfl (lv_at hl 0 rfl) ?_
  refine lv_ifnonnullN hx hb dX6_keep_7 ?_
  refine lv_iconst (v := (-1 : Int32)) hx hb dX6_keep_10 (by decide) ?_
  exact hret _ _ _ _ _ _ h hP hD hS dX6_keep_11

abbrev rm_X6_again : Room := { frames := 2, cells := 0, slots := 0, locals := 101 }
set_option maxRecDepth 20000 in
theorem k_X6_again_X6_slotOf_252 : GoodIn wsX6_again (wsV RX6 252 RX6 yX6_slotOf wsX6_slotOf) := goodIn_r _ [6, 7, 8, 9, 10, 11, 30, 31, 32, 33, 34, 35, 36, 37, 38, 39, 40, 41] rfl (by decide +kernel)
set_option maxRecDepth 20000 in
theorem k_X6_again_X2_becomeLike_256 : GoodIn wsX6_again (wsV RX6 256 RX2 yX2_becomeLike wsX2_becomeLike) := goodIn_r _ [12, 13, 14, 15, 16, 17, 18, 19, 20, 21, 22, 23, 24, 25, 26, 27, 28, 29] rfl (by decide +kernel)
set_option maxHeartbeats 4000000 in
set_option maxRecDepth 100000 in
theorem c_X6_again (l : Launch) (D : va_G) (cI cZ cO : ClassId) (N : Nat) (a0 : Nat → Nat → Nat) (c0 : CU) (sd : Int64) (p1 : Int32) (sz : Nat) (out : Int32 × CU) (h : f_X6_again N c0 sd p1 = some out) : Met l yX6_again wsX6_again rm_X6_again (va_Pc [.ref ((a0 0) 0), .int p1] (mk_Pe D vwCl (tyA cI cZ cO) (wX6 cI cO a0 c0 sd) sz)) (va_Qi (fun r u => (r, u) = out) (mk_Be D vwCl (wX6 cI cO a0 c0 sd) sz (fun q => (wX6 cI cO a0 q sd))) (va_A (wX6 cI cO a0 c0 sd) sz)) 0 0 (va_A (wX6 cI cO a0 c0 sd) sz) := by
  refine em_i (own := RX6) (cc := cX6_again) (maxL := 3) (by decide) rfl rfl (Nat.le_of_ble_eq_true rfl) ?_
  intro p e s m args below meth c Q A H0 H locs ls hx hb hml hown hts hP hK hD hS hA hl hret
  have hl : lv_has ls 3 [(0, .ref ((a0 0) 0)), (1, .int p1)] := hl
  have hiX0 : ∀ w ∈ u_ws RX0 TX0 4, w ∈ wsX6_again := mk_seg 42 4 rfl
  have hiX2 : ∀ w ∈ u_ws RX2 TX2 5, w ∈ wsX6_again := mk_seg 25 5 rfl
  have hiX6 : ∀ w ∈ u_ws RX6 TX6 12, w ∈ wsX6_again := mk_seg 30 12 rfl
  unfold f_X6_again at h
  refine lv_aload_n hx hb dX6_again_0 rfl (lv_at hl 0 rfl) ?_
  refine lv_iload_n hx hb dX6_again_1 rfl (lv_at hl 1 rfl) ?_
  obtain ⟨r_1, er_1, h⟩ := mk_bd h
  refine pc_vq (As := [.int p1]) (rest := []) ⟨hx, hb, hml, hown, hts⟩ (c_X6_slotOf l D cI cZ cO N a0 c0 sd p1 r_1 er_1) (cwV 1 hts k_X6_again_X6_slotOf_252 rfl rfl rfl (by decide +kernel) ⟨(Nat.le_of_ble_eq_true rfl), (Nat.le_of_ble_eq_true rfl)⟩) (va_recv hK hP (ci := 6) (q0 := 0) rfl rfl) hP hK rfl hl.1 rfl (Nat.le_of_ble_eq_true rfl) dX6_again_2 ⟨Nat.zero_le _, Nat.zero_le _⟩ ?_
  by_cases q_2 : r_1 = 0
  · have h := mk_ifp q_2 h
    refine mk_sl0 q_2 ?_
    refine lv_astore_n (lv' := [(2, .ref ((a0 6) 0)), (0, .ref ((a0 0) 0)), (1, .int p1)]) hx hb dX6_again_5 rfl hl (by decide) rfl (fun ls hl => ?_)
    refine lv_aload_n hx hb dX6_again_6 rfl (lv_at hl 0 rfl) ?_
    refine lv_ifnonnull (tgt := 12) hx hb dX6_again_7 (by decide) ?_
    refine lv_aload_n hx hb dX6_again_12 rfl (lv_at hl 0 rfl) ?_
    refine va_get (D := D) (ci := 2) (v := .int ((c0 6) 0 2)) (C := RX2) (T := TX2) (N := 5) hx hb hts hiX2 hown hK hP 33 rfl rfl 4 (by decide) (hts (.fieldLink RX6 259 "ClockOnce$Life" "isKept" "Z") (List.mem_of_getElem? (i := 1) rfl)) (fun _ h9 => h9) rfl dX6_again_13 ?_
    refine lv_if_ne (tgt := 22) hx hb dX6_again_16 (by decide) (fun q_4 => ?_) (fun q_4 => ?_)
    · have h := mk_ifn q_4 h
      refine lv_aload_n hx hb dX6_again_22 rfl (lv_at hl 1 rfl) ?_
      refine va_get (D := D) (ci := 6) (v := .ref ((a0 4) 0)) (C := RX6) (T := TX6) (N := 12) hx hb hts hiX6 hown hK hP 0 rfl rfl 5 (by decide) (hts (.fieldLink RX6 37 "ClockOnce" "life" "LClockOnce$Life;") (List.mem_of_getElem? (i := 2) rfl)) (fun _ h9 => h9) rfl dX6_again_23 ?_
      refine lv_aload_n hx hb dX6_again_26 rfl (lv_at hl 0 rfl) ?_
      obtain ⟨r_5, er_5, h⟩ := mk_bd h
      refine ec_vv (As := [.ref ((a0 6) 0)]) (rest := []) (w' := (wX6 cI cO a0 (mk_set3 c0 4 r_5) sd)) ⟨hx, hb, hml, hown, hts⟩ (c_X2_becomeLike l D cI cZ cO N (a0 4) (c0 4) (a0 6) (c0 6) H.size r_5 er_5) (cwV 1 hts k_X6_again_X2_becomeLike_256 rfl rfl rfl (by decide +kernel) ⟨(Nat.le_of_ble_eq_true rfl), (Nat.le_of_ble_eq_true rfl)⟩) (va_recv hK hP (ci := 2) (q0 := 26) rfl rfl) hK hP hD hS hA [26, 27, 28, 33, 34, 35] [0, 1, 2, 3, 4, 5, 6, 7, 8, 9, 10, 11, 12, 13, 14, 15, 16, 17, 18, 19, 20, 21, 22, 23, 24, 25, 29, 30, 31, 32, 36, 37, 38, 39, 40, 41, 42, 43] [0, 1, 2, 3, 4, 5, 6, 7, 8, 9, 10, 11, 12, 13, 14, 15, 16, 17, 18, 19, 20, 21, 22, 23, 24, 25, 38, 39, 40, 26, 27, 28, 29, 41, 42, 43, 30, 31, 32, 33, 34, 35, 36, 37] (hP.sub (ws' := wX2 cI (a0 4) (c0 4) ++ wX2 cI (a0 6) (c0 6)) [26, 27, 28, 33, 34, 35] rfl) (hD.sub (ws' := wX2 cI (a0 4) (c0 4) ++ wX2 cI (a0 6) (c0 6)) [26, 27, 28, 33, 34, 35] (by decide) rfl) rfl rfl (by decide) (by decide) rfl (by decide) rfl hl.1 rfl (Nat.le_of_ble_eq_true rfl) dX6_again_27 ⟨Nat.zero_le _, Nat.zero_le _⟩ (fun H locs hP hD hS => ?_)
      obtain ⟨w_6, ew_6, h⟩ := mk_nmE h
      rw [← ew_6] at hP hD
      refine lv_aload_n hx hb dX6_again_30 rfl (lv_at hl 1 rfl) ?_
      refine va_get (D := D) (ci := 6) (v := .ref ((a0 5) 0)) (C := RX6) (T := TX6) (N := 12) hx hb hts hiX6 hown hK hP 0 rfl rfl 6 (by decide) (hts (.fieldLink RX6 44 "ClockOnce" "acts" "LClockOnce$Acts;") (List.mem_of_getElem? (i := 3) rfl)) (fun _ h9 => h9) rfl dX6_again_31 ?_
      refine lv_iconst (v := (0 : Int32)) hx hb dX6_again_34 (by decide) ?_
      obtain ⟨w_7, ew_7, h⟩ := mk_nmE h
      refine va_put (D := D) (ci := 0) (v := .int (0 : Int32)) (ty := .int) (C := RX0) (T := TX0) (N := 4) hx hb hts hiX0 tyX0 tyX0_ok nmX0 hown hK hP hD hS 29 rfl rfl 3 (by decide) (hts (.fieldLink RX6 83 "ClockOnce$Acts" "size" "I") (List.mem_of_getElem? (i := 4) rfl)) (fun _ h9 => h9) rfl (by decide +kernel) rfl rfl (Nat.le_of_ble_eq_true rfl) dX6_again_35 (fun H locs hP hD hS => ?_)
      have hP : va_P D vwCl (wX6 cI cO a0 w_7 sd) H := by rw [ew_7]; exact hP
      have hD : va_D A (wX6 cI cO a0 w_7 sd) := by rw [ew_7]; exact hD
      refine lv_aload_n hx hb dX6_again_38 rfl (lv_at hl 1 rfl) ?_
      refine va_get (D := D) (ci := 6) (v := .ref ((a0 4) 0)) (C := RX6) (T := TX6) (N := 12) hx hb hts hiX6 hown hK hP 0 rfl rfl 5 (by decide) (hts (.fieldLink RX6 37 "ClockOnce" "life" "LClockOnce$Life;") (List.mem_of_getElem? (i := 2) rfl)) (fun _ h9 => h9) rfl dX6_again_39 ?_
      refine va_get (D := D) (ci := 2) (v := .int ((w_7 4) 0 1)) (C := RX2) (T := TX2) (N := 5) hx hb hts hiX2 hown hK hP 26 rfl rfl 1 (by decide) (hts (.fieldLink RX6 146 "ClockOnce$Life" "coins" "I") (List.mem_of_getElem? (i := 5) rfl)) (fun _ h9 => h9) rfl dX6_again_42 ?_
      exact hret _ _ _ _ _ _ h hP hD hS dX6_again_45
    · have h := mk_ifp q_4 h
      refine lv_bipush (v := (-3 : Int32)) hx hb dX6_again_19 (by decide) ?_
      exact hret _ _ _ _ _ _ h hP hD hS dX6_again_21
  have h := mk_ifn q_2 h
  by_cases q_3 : r_1 = 1
  · have h := mk_ifp q_3 h
    refine mk_sl1 q_3 ?_
    refine lv_astore_n (lv' := [(2, .ref ((a0 7) 0)), (0, .ref ((a0 0) 0)), (1, .int p1)]) hx hb dX6_again_5 rfl hl (by decide) rfl (fun ls hl => ?_)
    refine lv_aload_n hx hb dX6_again_6 rfl (lv_at hl 0 rfl) ?_
    refine lv_ifnonnull (tgt := 12) hx hb dX6_again_7 (by decide) ?_
    refine lv_aload_n hx hb dX6_again_12 rfl (lv_at hl 0 rfl) ?_
    refine va_get (D := D) (ci := 2) (v := .int ((c0 7) 0 2)) (C := RX2) (T := TX2) (N := 5) hx hb hts hiX2 hown hK hP 36 rfl rfl 4 (by decide) (hts (.fieldLink RX6 259 "ClockOnce$Life" "isKept" "Z") (List.mem_of_getElem? (i := 1) rfl)) (fun _ h9 => h9) rfl dX6_again_13 ?_
    refine lv_if_ne (tgt := 22) hx hb dX6_again_16 (by decide) (fun q_8 => ?_) (fun q_8 => ?_)
    · have h := mk_ifn q_8 h
      refine lv_aload_n hx hb dX6_again_22 rfl (lv_at hl 1 rfl) ?_
      refine va_get (D := D) (ci := 6) (v := .ref ((a0 4) 0)) (C := RX6) (T := TX6) (N := 12) hx hb hts hiX6 hown hK hP 0 rfl rfl 5 (by decide) (hts (.fieldLink RX6 37 "ClockOnce" "life" "LClockOnce$Life;") (List.mem_of_getElem? (i := 2) rfl)) (fun _ h9 => h9) rfl dX6_again_23 ?_
      refine lv_aload_n hx hb dX6_again_26 rfl (lv_at hl 0 rfl) ?_
      obtain ⟨r_9, er_9, h⟩ := mk_bd h
      refine ec_vv (As := [.ref ((a0 7) 0)]) (rest := []) (w' := (wX6 cI cO a0 (mk_set3 c0 4 r_9) sd)) ⟨hx, hb, hml, hown, hts⟩ (c_X2_becomeLike l D cI cZ cO N (a0 4) (c0 4) (a0 7) (c0 7) H.size r_9 er_9) (cwV 1 hts k_X6_again_X2_becomeLike_256 rfl rfl rfl (by decide +kernel) ⟨(Nat.le_of_ble_eq_true rfl), (Nat.le_of_ble_eq_true rfl)⟩) (va_recv hK hP (ci := 2) (q0 := 26) rfl rfl) hK hP hD hS hA [26, 27, 28, 36, 37, 38] [0, 1, 2, 3, 4, 5, 6, 7, 8, 9, 10, 11, 12, 13, 14, 15, 16, 17, 18, 19, 20, 21, 22, 23, 24, 25, 29, 30, 31, 32, 33, 34, 35, 39, 40, 41, 42, 43] [0, 1, 2, 3, 4, 5, 6, 7, 8, 9, 10, 11, 12, 13, 14, 15, 16, 17, 18, 19, 20, 21, 22, 23, 24, 25, 38, 39, 40, 26, 27, 28, 29, 30, 31, 32, 41, 42, 43, 33, 34, 35, 36, 37] (hP.sub (ws' := wX2 cI (a0 4) (c0 4) ++ wX2 cI (a0 7) (c0 7)) [26, 27, 28, 36, 37, 38] rfl) (hD.sub (ws' := wX2 cI (a0 4) (c0 4) ++ wX2 cI (a0 7) (c0 7)) [26, 27, 28, 36, 37, 38] (by decide) rfl) rfl rfl (by decide) (by decide) rfl (by decide) rfl hl.1 rfl (Nat.le_of_ble_eq_true rfl) dX6_again_27 ⟨Nat.zero_le _, Nat.zero_le _⟩ (fun H locs hP hD hS => ?_)
      obtain ⟨w_10, ew_10, h⟩ := mk_nmE h
      rw [← ew_10] at hP hD
      refine lv_aload_n hx hb dX6_again_30 rfl (lv_at hl 1 rfl) ?_
      refine va_get (D := D) (ci := 6) (v := .ref ((a0 5) 0)) (C := RX6) (T := TX6) (N := 12) hx hb hts hiX6 hown hK hP 0 rfl rfl 6 (by decide) (hts (.fieldLink RX6 44 "ClockOnce" "acts" "LClockOnce$Acts;") (List.mem_of_getElem? (i := 3) rfl)) (fun _ h9 => h9) rfl dX6_again_31 ?_
      refine lv_iconst (v := (0 : Int32)) hx hb dX6_again_34 (by decide) ?_
      obtain ⟨w_11, ew_11, h⟩ := mk_nmE h
      refine va_put (D := D) (ci := 0) (v := .int (0 : Int32)) (ty := .int) (C := RX0) (T := TX0) (N := 4) hx hb hts hiX0 tyX0 tyX0_ok nmX0 hown hK hP hD hS 29 rfl rfl 3 (by decide) (hts (.fieldLink RX6 83 "ClockOnce$Acts" "size" "I") (List.mem_of_getElem? (i := 4) rfl)) (fun _ h9 => h9) rfl (by decide +kernel) rfl rfl (Nat.le_of_ble_eq_true rfl) dX6_again_35 (fun H locs hP hD hS => ?_)
      have hP : va_P D vwCl (wX6 cI cO a0 w_11 sd) H := by rw [ew_11]; exact hP
      have hD : va_D A (wX6 cI cO a0 w_11 sd) := by rw [ew_11]; exact hD
      refine lv_aload_n hx hb dX6_again_38 rfl (lv_at hl 1 rfl) ?_
      refine va_get (D := D) (ci := 6) (v := .ref ((a0 4) 0)) (C := RX6) (T := TX6) (N := 12) hx hb hts hiX6 hown hK hP 0 rfl rfl 5 (by decide) (hts (.fieldLink RX6 37 "ClockOnce" "life" "LClockOnce$Life;") (List.mem_of_getElem? (i := 2) rfl)) (fun _ h9 => h9) rfl dX6_again_39 ?_
      refine va_get (D := D) (ci := 2) (v := .int ((w_11 4) 0 1)) (C := RX2) (T := TX2) (N := 5) hx hb hts hiX2 hown hK hP 26 rfl rfl 1 (by decide) (hts (.fieldLink RX6 146 "ClockOnce$Life" "coins" "I") (List.mem_of_getElem? (i := 5) rfl)) (fun _ h9 => h9) rfl dX6_again_42 ?_
      exact hret _ _ _ _ _ _ h hP hD hS dX6_again_45
    · have h := mk_ifp q_8 h
      refine lv_bipush (v := (-3 : Int32)) hx hb dX6_again_19 (by decide) ?_
      exact hret _ _ _ _ _ _ h hP hD hS dX6_again_21
  have h := mk_ifn q_3 h
  refine mk_sl2 q_2 q_3 ?_
  refine lv_astore_nN (lv' := [(2, .null), (0, .ref ((a0 0) 0)), (1, .int p1)]) hx hb dX6_again_5 rfl hl (by decide) rfl (fun ls hl => ?_)
  refine lv_aload_nN hx hb dX6_again_6 rfl (lv_at hl 0 rfl) ?_
  refine lv_ifnonnullN hx hb dX6_again_7 ?_
  refine lv_iconst (v := (-1 : Int32)) hx hb dX6_again_10 (by decide) ?_
  exact hret _ _ _ _ _ _ h hP hD hS dX6_again_11

abbrev rm_X6_forgetKept : Room := { frames := 1, cells := 0, slots := 0, locals := 21 }
set_option maxRecDepth 20000 in
theorem k_X6_forgetKept_X6_slotOf_252 : GoodIn wsX6_forgetKept (wsV RX6 252 RX6 yX6_slotOf wsX6_slotOf) := goodIn_r _ [3, 4, 5, 6, 7, 1, 8, 9, 10, 11, 12, 13, 14, 15, 16, 17, 18, 19] rfl (by decide +kernel)
set_option maxHeartbeats 4000000 in
set_option maxRecDepth 100000 in
theorem c_X6_forgetKept (l : Launch) (D : va_G) (cI cZ cO : ClassId) (N : Nat) (a0 : Nat → Nat → Nat) (c0 : CU) (sd : Int64) (sz : Nat) (out : CU) (h : f_X6_forgetKept N c0 sd = some out) : Met l yX6_forgetKept wsX6_forgetKept rm_X6_forgetKept (va_Pc [.ref ((a0 0) 0)] (mk_Pe D vwCl (tyA cI cZ cO) (wX6 cI cO a0 c0 sd) sz)) (va_Qv (fun u => u = out) (mk_Be D vwCl (wX6 cI cO a0 c0 sd) sz (fun q => (wX6 cI cO a0 q sd))) (va_A (wX6 cI cO a0 c0 sd) sz)) 0 0 (va_A (wX6 cI cO a0 c0 sd) sz) := by
  refine em_v (own := RX6) (cc := cX6_forgetKept) (maxL := 3) (by decide) rfl rfl (Nat.le_of_ble_eq_true rfl) ?_
  intro p e s m args below meth c Q A H0 H locs ls hx hb hml hown hts hP hK hD hS hA hl hret
  have hl : lv_has ls 3 [(0, .ref ((a0 0) 0))] := hl
  have hiX2 : ∀ w ∈ u_ws RX2 TX2 5, w ∈ wsX6_forgetKept := mk_seg 20 5 rfl
  have hiX6 : ∀ w ∈ u_ws RX6 TX6 12, w ∈ wsX6_forgetKept := mk_seg 8 12 rfl
  have K2 : ∀ (c0 : CU) (x1 : Int32) (H : Heap) (locs : List Loc) (ls : Array Slot), va_P D vwCl (wX6 cI cO a0 c0 sd) H → va_D A (wX6 cI cO a0 c0 sd) → va_S A H0 H locs → lv_has ls 3 [(0, .ref ((a0 0) 0)), (1, .int x1)] → lq2 (g_X6_forgetKept_2 N sd) N c0 x1 = some out → W p l e rm_X6_forgetKept s m args below meth c H locs 0 0 Q (F0 m 2 ls []) := by
    intro c0 x1 H locs ls hP hD hS hl h
    refine lq2_W (Wd := fun c0 x1 => ∀ (H : Heap) (locs : List Loc) (ls : Array Slot), va_P D vwCl (wX6 cI cO a0 c0 sd) H → va_D A (wX6 cI cO a0 c0 sd) → va_S A H0 H locs → lv_has ls 3 [(0, .ref ((a0 0) 0)), (1, .int x1)] → W p l e rm_X6_forgetKept s m args below meth c H locs 0 0 Q (F0 m 2 ls [])) (fun rec2 ih2 c0 x1 h H locs ls hP hD hS hl => ?_) N c0 x1 h H locs ls hP hD hS hl
    unfold g_X6_forgetKept_2 at h
    refine lv_iload_n hx hb dX6_forgetKept_2 rfl (lv_at hl 1 rfl) ?_
    refine lv_aload_n hx hb dX6_forgetKept_3 rfl (lv_at hl 0 rfl) ?_
    refine va_get (D := D) (ci := 6) (v := .ref (a0 0 3)) (C := RX6) (T := TX6) (N := 12) hx hb hts hiX6 hown hK hP 0 rfl rfl 7 (by decide) (hts (.fieldLink RX6 48 "ClockOnce" "slots" "[LClockOnce$Life;") (List.mem_of_getElem? (i := 1) rfl)) (fun _ h9 => h9) rfl dX6_forgetKept_4 ?_
    refine va_alen (v := (2 : Int32)) hx hb hK hP 2 2 rfl rfl rfl dX6_forgetKept_7 ?_
    refine lv_icmp_ge (tgt := 32) hx hb dX6_forgetKept_8 (by decide) (fun q_1 => ?_) (fun q_1 => ?_)
    · have h := mk_ifp q_1 h
      exact hret _ _ _ _ _ h hP hD hS dX6_forgetKept_32
    · have h := mk_ifn q_1 h
      refine lv_aload_n hx hb dX6_forgetKept_11 rfl (lv_at hl 0 rfl) ?_
      refine lv_iload_n hx hb dX6_forgetKept_12 rfl (lv_at hl 1 rfl) ?_
      obtain ⟨r_2, er_2, h⟩ := mk_bd h
      refine pc_vq (As := [.int x1]) (rest := []) ⟨hx, hb, hml, hown, hts⟩ (c_X6_slotOf l D cI cZ cO N a0 c0 sd x1 r_2 er_2) (cwV 1 hts k_X6_forgetKept_X6_slotOf_252 rfl rfl rfl (by decide +kernel) ⟨(Nat.le_of_ble_eq_true rfl), (Nat.le_of_ble_eq_true rfl)⟩) (va_recv hK hP (ci := 6) (q0 := 0) rfl rfl) hP hK rfl hl.1 rfl (Nat.le_of_ble_eq_true rfl) dX6_forgetKept_13 ⟨Nat.zero_le _, Nat.zero_le _⟩ ?_
      by_cases q_3 : r_2 = 0
      · have h := mk_ifp q_3 h
        refine mk_sl0 q_3 ?_
        refine lv_astore_n (lv' := [(2, .ref ((a0 6) 0)), (0, .ref ((a0 0) 0)), (1, .int x1)]) hx hb dX6_forgetKept_16 rfl hl (by decide) rfl (fun ls hl => ?_)
        refine lv_aload_n hx hb dX6_forgetKept_17 rfl (lv_at hl 0 rfl) ?_
        refine lv_ifnull hx hb dX6_forgetKept_18 ?_
        refine lv_aload_n hx hb dX6_forgetKept_21 rfl (lv_at hl 0 rfl) ?_
        refine lv_iconst (v := (0 : Int32)) hx hb dX6_forgetKept_22 (by decide) ?_
        obtain ⟨w_5, ew_5, h⟩ := mk_nmE h
        refine va_put (D := D) (ci := 2) (v := .int (0 : Int32)) (ty := .boolean) (C := RX2) (T := TX2) (N := 5) hx hb hts hiX2 tyX2 tyX2_ok nmX2 hown hK hP hD hS 33 rfl rfl 4 (by decide) (hts (.fieldLink RX6 259 "ClockOnce$Life" "isKept" "Z") (List.mem_of_getElem? (i := 2) rfl)) (fun _ h9 => h9) rfl (by decide +kernel) (by decide) (by decide) (Nat.le_of_ble_eq_true rfl) dX6_forgetKept_23 (fun H locs hP hD hS => ?_)
        have hP : va_P D vwCl (wX6 cI cO a0 w_5 sd) H := by rw [ew_5]; exact hP
        have hD : va_D A (wX6 cI cO a0 w_5 sd) := by rw [ew_5]; exact hD
        refine lv_iinc (v := (x1 + (1 : Int32))) (lv' := [(1, .int (x1 + (1 : Int32))), (2, .ref ((a0 6) 0)), (0, .ref ((a0 0) 0))]) hx hb dX6_forgetKept_26 hl (k := 2) rfl rfl (by decide) rfl (fun ls hl => ?_)
        refine lv_goto (tgt := 2) hx hb dX6_forgetKept_29 (by decide) ?_
        exact ih2 w_5 (x1 + (1 : Int32)) h H locs ls hP hD hS (lv_sub hl [2, 0] rfl)
      have h := mk_ifn q_3 h
      by_cases q_4 : r_2 = 1
      · have h := mk_ifp q_4 h
        refine mk_sl1 q_4 ?_
        refine lv_astore_n (lv' := [(2, .ref ((a0 7) 0)), (0, .ref ((a0 0) 0)), (1, .int x1)]) hx hb dX6_forgetKept_16 rfl hl (by decide) rfl (fun ls hl => ?_)
        refine lv_aload_n hx hb dX6_forgetKept_17 rfl (lv_at hl 0 rfl) ?_
        refine lv_ifnull hx hb dX6_forgetKept_18 ?_
        refine lv_aload_n hx hb dX6_forgetKept_21 rfl (lv_at hl 0 rfl) ?_
        refine lv_iconst (v := (0 : Int32)) hx hb dX6_forgetKept_22 (by decide) ?_
        obtain ⟨w_6, ew_6, h⟩ := mk_nmE h
        refine va_put (D := D) (ci := 2) (v := .int (0 : Int32)) (ty := .boolean) (C := RX2) (T := TX2) (N := 5) hx hb hts hiX2 tyX2 tyX2_ok nmX2 hown hK hP hD hS 36 rfl rfl 4 (by decide) (hts (.fieldLink RX6 259 "ClockOnce$Life" "isKept" "Z") (List.mem_of_getElem? (i := 2) rfl)) (fun _ h9 => h9) rfl (by decide +kernel) (by decide) (by decide) (Nat.le_of_ble_eq_true rfl) dX6_forgetKept_23 (fun H locs hP hD hS => ?_)
        have hP : va_P D vwCl (wX6 cI cO a0 w_6 sd) H := by rw [ew_6]; exact hP
        have hD : va_D A (wX6 cI cO a0 w_6 sd) := by rw [ew_6]; exact hD
        refine lv_iinc (v := (x1 + (1 : Int32))) (lv' := [(1, .int (x1 + (1 : Int32))), (2, .ref ((a0 7) 0)), (0, .ref ((a0 0) 0))]) hx hb dX6_forgetKept_26 hl (k := 2) rfl rfl (by decide) rfl (fun ls hl => ?_)
        refine lv_goto (tgt := 2) hx hb dX6_forgetKept_29 (by decide) ?_
        exact ih2 w_6 (x1 + (1 : Int32)) h H locs ls hP hD hS (lv_sub hl [2, 0] rfl)
      have h := mk_ifn q_4 h
      refine mk_sl2 q_3 q_4 ?_
      refine lv_astore_nN (lv' := [(2, .null), (0, .ref ((a0 0) 0)), (1, .int x1)]) hx hb dX6_forgetKept_16 rfl hl (by decide) rfl (fun ls hl => ?_)
      refine lv_aload_nN hx hb dX6_forgetKept_17 rfl (lv_at hl 0 rfl) ?_
      refine lv_ifnullN (tgt := 26) hx hb dX6_forgetKept_18 (by decide) ?_
      refine lv_iinc (v := (x1 + (1 : Int32))) (lv' := [(1, .int (x1 + (1 : Int32))), (2, .null), (0, .ref ((a0 0) 0))]) hx hb dX6_forgetKept_26 hl (k := 2) rfl rfl (by decide) rfl (fun ls hl => ?_)
      refine lv_goto (tgt := 2) hx hb dX6_forgetKept_29 (by decide) ?_
      exact ih2 c0 (x1 + (1 : Int32)) h H locs ls hP hD hS (lv_sub hl [2, 0] rfl)
  unfold f_X6_forgetKept at h
  refine lv_iconst (v := (0 : Int32)) hx hb dX6_forgetKept_0 (by decide) ?_
  refine lv_istore_n (lv' := [(1, .int (0 : Int32)), (0, .ref ((a0 0) 0))]) hx hb dX6_forgetKept_1 rfl hl (by decide) rfl (fun ls hl => ?_)
  exact K2 c0 (0 : Int32) H locs ls hP hD hS (lv_sub hl [1, 0] rfl) h

abbrev rm_X6_town : Room := { frames := 7, cells := 0, slots := 0, locals := 155 }
set_option maxRecDepth 20000 in
theorem k_X6_town_X6_readText_73 : GoodIn wsX6_town (wsV RX6 73 RX6 yX6_readText wsX6_readText) := goodIn_r _ [8, 9, 10, 11, 12, 13, 2, 14, 15, 16, 17, 18, 19, 20, 21, 22, 23, 24, 25, 26, 27, 28, 29, 30, 31, 32, 33, 34, 35, 36, 37, 38, 39, 40, 41, 42, 43, 44, 45, 46, 47, 48, 49, 50, 51, 52, 53, 54, 55, 56, 57, 58, 59, 60, 61, 62, 63, 64, 65, 66, 67, 68, 69, 70, 71, 72, 73, 74, 75, 76, 77, 78, 79, 80, 81, 82, 83, 84, 85, 86, 87, 88, 89, 90, 91, 92, 93, 94, 95, 96, 97, 98, 99, 100, 101, 102, 103, 104, 105, 106, 107, 108, 109, 110, 111, 112, 113, 147, 148, 149, 150, 151, 152, 153, 154, 155, 156, 157, 158, 177, 178, 179, 180, 163, 164, 165, 166, 167, 168, 169, 170, 171, 172, 173, 174, 175, 176] rfl (by decide +kernel)
set_option maxRecDepth 20000 in
theorem k_X6_town_X5_weighWorlds_77 : GoodIn wsX6_town (wsV RX6 77 RX5 yX5_weighWorlds wsX5_weighWorlds) := goodIn_r _ [114, 115, 116, 26, 117, 118, 28, 97, 119, 120, 121, 122, 26, 123, 31, 61, 62, 67, 68, 69, 70, 124, 125, 126, 127, 163, 164, 165, 166, 167, 168, 169, 170, 171, 172, 173, 174, 175, 176] rfl (by decide +kernel)
set_option maxRecDepth 20000 in
theorem k_X6_town_X2_startAnew_80 : GoodIn wsX6_town (wsV RX6 80 RX2 yX2_startAnew wsX2_startAnew) := goodIn_r _ [128, 129, 130, 131, 132, 133, 134, 135, 136, 181, 182, 183, 184, 185] rfl (by decide +kernel)
set_option maxRecDepth 20000 in
theorem k_X6_town_X6_forgetKept_86 : GoodIn wsX6_town (wsV RX6 86 RX6 yX6_forgetKept wsX6_forgetKept) := goodIn_r _ [137, 138, 139, 11, 140, 141, 142, 143, 144, 145, 11, 146, 147, 148, 149, 150, 151, 152, 153, 154, 155, 156, 157, 158, 181, 182, 183, 184, 185] rfl (by decide +kernel)
set_option maxHeartbeats 4000000 in
set_option maxRecDepth 100000 in
theorem c_X6_town (l : Launch) (D : va_G) (cI cZ cO : ClassId) (N : Nat) (a0 : Nat → Nat → Nat) (c0 : CU) (sd : Int64) (sz : Nat) (out : Int32 × Bool × CU) (h : f_X6_town N c0 sd = some out) : Met l yX6_town wsX6_town rm_X6_town (va_Pc [.ref ((a0 0) 0)] (mk_Pe D vwCl (tyA cI cZ cO) (wX6 cI cO a0 c0 sd) sz)) (va_Qi (fun r u => (r, u) = out) (mk_Be D vwCl (wX6 cI cO a0 c0 sd) sz (fun q => (wX6 cI cO (if q.1 then mk_sw a0 else a0) q.2 sd))) (va_A (wX6 cI cO a0 c0 sd) sz)) 0 0 (va_A (wX6 cI cO a0 c0 sd) sz) := by
  refine em_i (own := RX6) (cc := cX6_town) (maxL := 2) (by decide) rfl rfl (Nat.le_of_ble_eq_true rfl) ?_
  intro p e s m args below meth c Q A H0 H locs ls hx hb hml hown hts hP hK hD hS hA hl hret
  have hl : lv_has ls 2 [(0, .ref ((a0 0) 0))] := hl
  have hiX0 : ∀ w ∈ u_ws RX0 TX0 4, w ∈ wsX6_town := mk_seg 159 4 rfl
  have hiX5 : ∀ w ∈ u_ws RX5 TX5 14, w ∈ wsX6_town := mk_seg 163 14 rfl
  have hiX6 : ∀ w ∈ u_ws RX6 TX6 12, w ∈ wsX6_town := mk_seg 147 12 rfl
  unfold f_X6_town at h
  refine lv_aload_n hx hb dX6_town_0 rfl (lv_at hl 0 rfl) ?_
  obtain ⟨r_1, er_1, h⟩ := mk_bd h
  refine es_vi (As := []) (rest := []) (w' := (wX6 cI cO a0 r_1.2 sd)) ⟨hx, hb, hml, hown, hts⟩ (c_X6_readText l D cI cZ cO N a0 c0 sd H.size r_1 er_1) (cwV 0 hts k_X6_town_X6_readText_73 rfl rfl rfl (by decide +kernel) ⟨(Nat.le_of_ble_eq_true rfl), (Nat.le_of_ble_eq_true rfl)⟩) (va_recv hK hP (ci := 6) (q0 := 0) rfl rfl) hK hP hD hS hA rfl rfl hl.1 rfl (Nat.le_of_ble_eq_true rfl) dX6_town_1 ⟨Nat.zero_le _, Nat.zero_le _⟩ (fun H locs hP hD hS => ?_)
  refine lv_bipush (v := (-9 : Int32)) hx hb dX6_town_4 (by decide) ?_
  refine lv_icmp_eq (tgt := 12) hx hb dX6_town_6 (by decide) (fun q_2 => ?_) (fun q_2 => ?_)
  · have h := mk_ifp q_2 h
    refine lv_aload_n hx hb dX6_town_12 rfl (lv_at hl 0 rfl) ?_
    refine va_get (D := D) (ci := 6) (v := .ref ((a0 2) 0)) (C := RX6) (T := TX6) (N := 12) hx hb hts hiX6 hown hK hP 0 rfl rfl 3 (by decide) (hts (.fieldLink RX6 27 "ClockOnce" "town" "LClockOnce$Town;") (List.mem_of_getElem? (i := 1) rfl)) (fun _ h9 => h9) rfl dX6_town_13 ?_
    refine lv_astore_n (lv' := [(1, .ref ((a0 2) 0)), (0, .ref ((a0 0) 0))]) hx hb dX6_town_16 rfl hl (by decide) rfl (fun ls hl => ?_)
    refine lv_aload_n hx hb dX6_town_17 rfl (lv_at hl 1 rfl) ?_
    refine lv_aload_n hx hb dX6_town_18 rfl (lv_at hl 1 rfl) ?_
    refine va_get (D := D) (ci := 6) (v := .ref ((a0 3) 0)) (C := RX6) (T := TX6) (N := 12) hx hb hts hiX6 hown hK hP 0 rfl rfl 4 (by decide) (hts (.fieldLink RX6 31 "ClockOnce" "draft" "LClockOnce$Town;") (List.mem_of_getElem? (i := 2) rfl)) (fun _ h9 => h9) rfl dX6_town_19 ?_
    refine va_put (D := D) (ci := 6) (v := .ref ((a0 3) 0)) (ty := .object "ClockOnce$Town") (C := RX6) (T := TX6) (N := 12) hx hb hts hiX6 tyX6 tyX6_ok nmX6 hown hK hP hD hS 0 rfl rfl 3 (by decide) (hts (.fieldLink RX6 27 "ClockOnce" "town" "LClockOnce$Town;") (List.mem_of_getElem? (i := 1) rfl)) (fun _ h9 => h9) rfl (by decide +kernel) rfl rfl (Nat.le_of_ble_eq_true rfl) dX6_town_22 (fun H locs hP hD hS => ?_)
    refine lv_aload_n hx hb dX6_town_25 rfl (lv_at hl 1 rfl) ?_
    refine lv_aload_n hx hb dX6_town_26 rfl (lv_at hl 0 rfl) ?_
    refine va_put (D := D) (ci := 6) (v := .ref ((a0 2) 0)) (ty := .object "ClockOnce$Town") (C := RX6) (T := TX6) (N := 12) hx hb hts hiX6 tyX6 tyX6_ok nmX6 hown hK hP hD hS 0 rfl rfl 4 (by decide) (hts (.fieldLink RX6 31 "ClockOnce" "draft" "LClockOnce$Town;") (List.mem_of_getElem? (i := 2) rfl)) (fun _ h9 => h9) rfl (by decide +kernel) rfl rfl (Nat.le_of_ble_eq_true rfl) dX6_town_27 (fun H locs hP hD hS => ?_)
    obtain ⟨w_3, ew_3, h⟩ := mk_nmE h
    have hP : va_P D vwCl (wX6 cI cO (mk_sw a0) w_3 sd) H := by rw [ew_3]; exact hP.sub [0, 1, 2, 3, 4, 5, 16, 17, 18, 19, 20, 21, 22, 23, 24, 25, 6, 7, 8, 9, 10, 11, 12, 13, 14, 15, 26, 27, 28, 29, 30, 31, 32, 33, 34, 35, 36, 37, 38, 39, 40, 41, 42, 43] rfl
    have hD : va_D A (wX6 cI cO (mk_sw a0) w_3 sd) := by rw [ew_3]; exact hD.sub [0, 1, 2, 3, 4, 5, 16, 17, 18, 19, 20, 21, 22, 23, 24, 25, 6, 7, 8, 9, 10, 11, 12, 13, 14, 15, 26, 27, 28, 29, 30, 31, 32, 33, 34, 35, 36, 37, 38, 39, 40, 41, 42, 43] (by decide) rfl
    refine lv_aload_n hx hb dX6_town_30 rfl (lv_at hl 1 rfl) ?_
    refine va_get (D := D) (ci := 6) (v := .ref (((mk_sw a0) 2) 0)) (C := RX6) (T := TX6) (N := 12) hx hb hts hiX6 hown hK hP 0 rfl rfl 3 (by decide) (hts (.fieldLink RX6 27 "ClockOnce" "town" "LClockOnce$Town;") (List.mem_of_getElem? (i := 1) rfl)) (fun _ h9 => h9) rfl dX6_town_31 ?_
    obtain ⟨r_4, er_4, h⟩ := mk_bd h
    refine ec_vv (As := []) (rest := []) (w' := (wX6 cI cO (mk_sw a0) (mk_set3 w_3 2 r_4) sd)) ⟨hx, hb, hml, hown, hts⟩ (c_X5_weighWorlds l D cI cZ cO N ((mk_sw a0) 2) (w_3 2) H.size r_4 er_4) (cwV 0 hts k_X6_town_X5_weighWorlds_77 rfl rfl rfl (by decide +kernel) ⟨(Nat.le_of_ble_eq_true rfl), (Nat.le_of_ble_eq_true rfl)⟩) (va_recv hK hP (ci := 5) (q0 := 6) rfl rfl) hK hP hD hS hA [6, 7, 8, 9, 10, 11, 12, 13, 14, 15] [0, 1, 2, 3, 4, 5, 16, 17, 18, 19, 20, 21, 22, 23, 24, 25, 26, 27, 28, 29, 30, 31, 32, 33, 34, 35, 36, 37, 38, 39, 40, 41, 42, 43] [0, 1, 2, 3, 4, 5, 34, 35, 36, 37, 38, 39, 40, 41, 42, 43, 6, 7, 8, 9, 10, 11, 12, 13, 14, 15, 16, 17, 18, 19, 20, 21, 22, 23, 24, 25, 26, 27, 28, 29, 30, 31, 32, 33] (hP.sub (ws' := wX5 cI ((mk_sw a0) 2) (w_3 2)) [6, 7, 8, 9, 10, 11, 12, 13, 14, 15] rfl) (hD.sub (ws' := wX5 cI ((mk_sw a0) 2) (w_3 2)) [6, 7, 8, 9, 10, 11, 12, 13, 14, 15] (by decide) rfl) rfl rfl (by decide) (by decide) rfl (by decide) rfl hl.1 rfl (Nat.le_of_ble_eq_true rfl) dX6_town_34 ⟨Nat.zero_le _, Nat.zero_le _⟩ (fun H locs hP hD hS => ?_)
    obtain ⟨w_5, ew_5, h⟩ := mk_nmE h
    rw [← ew_5] at hP hD
    refine lv_aload_n hx hb dX6_town_37 rfl (lv_at hl 1 rfl) ?_
    refine va_get (D := D) (ci := 6) (v := .ref (((mk_sw a0) 4) 0)) (C := RX6) (T := TX6) (N := 12) hx hb hts hiX6 hown hK hP 0 rfl rfl 5 (by decide) (hts (.fieldLink RX6 37 "ClockOnce" "life" "LClockOnce$Life;") (List.mem_of_getElem? (i := 3) rfl)) (fun _ h9 => h9) rfl dX6_town_38 ?_
    obtain ⟨r_6, er_6, h⟩ := mk_bd h
    refine ec_vv (As := []) (rest := []) (w' := (wX6 cI cO (mk_sw a0) (mk_set3 w_5 4 r_6) sd)) ⟨hx, hb, hml, hown, hts⟩ (c_X2_startAnew l D cI cZ cO N ((mk_sw a0) 4) (w_5 4) H.size r_6 er_6) (cwV 0 hts k_X6_town_X2_startAnew_80 rfl rfl rfl (by decide +kernel) ⟨(Nat.le_of_ble_eq_true rfl), (Nat.le_of_ble_eq_true rfl)⟩) (va_recv hK hP (ci := 2) (q0 := 26) rfl rfl) hK hP hD hS hA [26, 27, 28] [0, 1, 2, 3, 4, 5, 6, 7, 8, 9, 10, 11, 12, 13, 14, 15, 16, 17, 18, 19, 20, 21, 22, 23, 24, 25, 29, 30, 31, 32, 33, 34, 35, 36, 37, 38, 39, 40, 41, 42, 43] [0, 1, 2, 3, 4, 5, 6, 7, 8, 9, 10, 11, 12, 13, 14, 15, 16, 17, 18, 19, 20, 21, 22, 23, 24, 25, 41, 42, 43, 26, 27, 28, 29, 30, 31, 32, 33, 34, 35, 36, 37, 38, 39, 40] (hP.sub (ws' := wX2 cI ((mk_sw a0) 4) (w_5 4)) [26, 27, 28] rfl) (hD.sub (ws' := wX2 cI ((mk_sw a0) 4) (w_5 4)) [26, 27, 28] (by decide) rfl) rfl rfl (by decide) (by decide) rfl (by decide) rfl hl.1 rfl (Nat.le_of_ble_eq_true rfl) dX6_town_41 ⟨Nat.zero_le _, Nat.zero_le _⟩ (fun H locs hP hD hS => ?_)
    obtain ⟨w_7, ew_7, h⟩ := mk_nmE h
    rw [← ew_7] at hP hD
    refine lv_aload_n hx hb dX6_town_44 rfl (lv_at hl 1 rfl) ?_
    refine va_get (D := D) (ci := 6) (v := .ref (((mk_sw a0) 5) 0)) (C := RX6) (T := TX6) (N := 12) hx hb hts hiX6 hown hK hP 0 rfl rfl 6 (by decide) (hts (.fieldLink RX6 44 "ClockOnce" "acts" "LClockOnce$Acts;") (List.mem_of_getElem? (i := 4) rfl)) (fun _ h9 => h9) rfl dX6_town_45 ?_
    refine lv_iconst (v := (0 : Int32)) hx hb dX6_town_48 (by decide) ?_
    obtain ⟨w_8, ew_8, h⟩ := mk_nmE h
    refine va_put (D := D) (ci := 0) (v := .int (0 : Int32)) (ty := .int) (C := RX0) (T := TX0) (N := 4) hx hb hts hiX0 tyX0 tyX0_ok nmX0 hown hK hP hD hS 29 rfl rfl 3 (by decide) (hts (.fieldLink RX6 83 "ClockOnce$Acts" "size" "I") (List.mem_of_getElem? (i := 5) rfl)) (fun _ h9 => h9) rfl (by decide +kernel) rfl rfl (Nat.le_of_ble_eq_true rfl) dX6_town_49 (fun H locs hP hD hS => ?_)
    have hP : va_P D vwCl (wX6 cI cO (mk_sw a0) w_8 sd) H := by rw [ew_8]; exact hP
    have hD : va_D A (wX6 cI cO (mk_sw a0) w_8 sd) := by rw [ew_8]; exact hD
    refine lv_aload_n hx hb dX6_town_52 rfl (lv_at hl 1 rfl) ?_
    obtain ⟨r_9, er_9, h⟩ := mk_bd h
    refine es_vv (As := []) (rest := []) (w' := (wX6 cI cO (mk_sw a0) r_9 sd)) ⟨hx, hb, hml, hown, hts⟩ (c_X6_forgetKept l D cI cZ cO N (mk_sw a0) w_8 sd H.size r_9 er_9) (cwV 0 hts k_X6_town_X6_forgetKept_86 rfl rfl rfl (by decide +kernel) ⟨(Nat.le_of_ble_eq_true rfl), (Nat.le_of_ble_eq_true rfl)⟩) (va_recv hK hP (ci := 6) (q0 := 0) rfl rfl) hK hP hD hS hA rfl rfl hl.1 rfl (Nat.le_of_ble_eq_true rfl) dX6_town_53 ⟨Nat.zero_le _, Nat.zero_le _⟩ (fun H locs hP hD hS => ?_)
    refine lv_bipush (v := (10 : Int32)) hx hb dX6_town_56 (by decide) ?_
    refine lv_aload_n hx hb dX6_town_58 rfl (lv_at hl 1 rfl) ?_
    refine va_get (D := D) (ci := 6) (v := .ref (((mk_sw a0) 2) 0)) (C := RX6) (T := TX6) (N := 12) hx hb hts hiX6 hown hK hP 0 rfl rfl 3 (by decide) (hts (.fieldLink RX6 27 "ClockOnce" "town" "LClockOnce$Town;") (List.mem_of_getElem? (i := 1) rfl)) (fun _ h9 => h9) rfl dX6_town_59 ?_
    refine va_get (D := D) (ci := 5) (v := .int ((r_9 2) 0 0)) (C := RX5) (T := TX5) (N := 14) hx hb hts hiX5 hown hK hP 6 rfl rfl 4 (by decide) (hts (.fieldLink RX6 89 "ClockOnce$Town" "things" "I") (List.mem_of_getElem? (i := 6) rfl)) (fun _ h9 => h9) rfl dX6_town_62 ?_
    refine lv_imul hx hb dX6_town_65 ?_
    refine lv_aload_n hx hb dX6_town_66 rfl (lv_at hl 1 rfl) ?_
    refine va_get (D := D) (ci := 6) (v := .ref (((mk_sw a0) 2) 0)) (C := RX6) (T := TX6) (N := 12) hx hb hts hiX6 hown hK hP 0 rfl rfl 3 (by decide) (hts (.fieldLink RX6 27 "ClockOnce" "town" "LClockOnce$Town;") (List.mem_of_getElem? (i := 1) rfl)) (fun _ h9 => h9) rfl dX6_town_67 ?_
    refine va_get (D := D) (ci := 5) (v := .int ((r_9 2) 0 2)) (C := RX5) (T := TX5) (N := 14) hx hb hts hiX5 hown hK hP 6 rfl rfl 8 (by decide) (hts (.fieldLink RX6 92 "ClockOnce$Town" "askers" "I") (List.mem_of_getElem? (i := 7) rfl)) (fun _ h9 => h9) rfl dX6_town_70 ?_
    refine lv_iadd hx hb dX6_town_73 ?_
    exact hret _ _ _ _ _ _ h hP hD hS dX6_town_74
  · have h := mk_ifn q_2 h
    refine lv_bipush (v := (-3 : Int32)) hx hb dX6_town_9 (by decide) ?_
    exact hret _ _ _ _ _ _ h hP hD hS dX6_town_11
