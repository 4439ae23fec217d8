-- the decode rows, as printed
theorem dX12_depth_14 : decode cX12_depth 14 = .ok (.bipush (-2), 2) := by decide +kernel
theorem dX12_depth_16 : decode cX12_depth 16 = .ok (.ireturn, 1) := by decide +kernel
theorem dX12_depth_17 : decode cX12_depth 17 = .ok (.aload_n 0, 1) := by decide +kernel
theorem dX12_depth_18 : decode cX12_depth 18 = .ok (.invokevirtual 418, 3) := by decide +kernel
theorem dX12_depth_21 : decode cX12_depth 21 = .ok (.istore_n 2, 1) := by decide +kernel
theorem dX12_depth_22 : decode cX12_depth 22 = .ok (.aload_n 0, 1) := by decide +kernel
theorem dX12_depth_23 : decode cX12_depth 23 = .ok (.getfield 77, 3) := by decide +kernel
theorem dX12_depth_26 : decode cX12_depth 26 = .ok (.iload_n 1, 1) := by decide +kernel
theorem dX12_depth_27 : decode cX12_depth 27 = .ok (.iaload, 1) := by decide +kernel
theorem dX12_depth_28 : decode cX12_depth 28 = .ok (.iconst 1, 1) := by decide +kernel
theorem dX12_depth_29 : decode cX12_depth 29 = .ok (.iload_n 1, 1) := by decide +kernel
theorem dX12_depth_30 : decode cX12_depth 30 = .ok (.ishl, 1) := by decide +kernel
theorem dX12_depth_31 : decode cX12_depth 31 = .ok (.ior, 1) := by decide +kernel
theorem dX12_depth_32 : decode cX12_depth 32 = .ok (.iload_n 2, 1) := by decide +kernel
theorem dX12_depth_33 : decode cX12_depth 33 = .ok (.iand, 1) := by decide +kernel
theorem dX12_depth_34 : decode cX12_depth 34 = .ok (.ifCond .eq 7, 3) := by decide +kernel
theorem dX12_depth_37 : decode cX12_depth 37 = .ok (.iconst (-1), 1) := by decide +kernel
theorem dX12_depth_38 : decode cX12_depth 38 = .ok (.goto 8, 3) := by decide +kernel
theorem dX12_depth_41 : decode cX12_depth 41 = .ok (.aload_n 0, 1) := by decide +kernel
theorem dX12_depth_42 : decode cX12_depth 42 = .ok (.iload_n 1, 1) := by decide +kernel
theorem dX12_depth_43 : decode cX12_depth 43 = .ok (.invokevirtual 421, 3) := by decide +kernel
theorem dX12_depth_46 : decode cX12_depth 46 = .ok (.ireturn, 1) := by decide +kernel
theorem dX12_orders_0 : decode cX12_orders 0 = .ok (.aload_n 0, 1) := by decide +kernel
theorem dX12_orders_1 : decode cX12_orders 1 = .ok (.iconst 0, 1) := by decide +kernel
theorem dX12_orders_2 : decode cX12_orders 2 = .ok (.putfield 89, 3) := by decide +kernel
theorem dX12_orders_5 : decode cX12_orders 5 = .ok (.aload_n 0, 1) := by decide +kernel
theorem dX12_orders_6 : decode cX12_orders 6 = .ok (.iload_n 1, 1) := by decide +kernel
theorem dX12_orders_7 : decode cX12_orders 7 = .ok (.invokevirtual 409, 3) := by decide +kernel
theorem dX12_orders_10 : decode cX12_orders 10 = .ok (.ifCond .ne 7, 3) := by decide +kernel
theorem dX12_orders_13 : decode cX12_orders 13 = .ok (.ldc2_w 424, 3) := by decide +kernel
theorem dX12_orders_16 : decode cX12_orders 16 = .ok (.lreturn, 1) := by decide +kernel
theorem dX12_orders_17 : decode cX12_orders 17 = .ok (.aload_n 0, 1) := by decide +kernel
theorem dX12_orders_18 : decode cX12_orders 18 = .ok (.invokevirtual 412, 3) := by decide +kernel
theorem dX12_orders_21 : decode cX12_orders 21 = .ok (.aload_n 0, 1) := by decide +kernel
theorem dX12_orders_22 : decode cX12_orders 22 = .ok (.getfield 74, 3) := by decide +kernel
theorem dX12_orders_25 : decode cX12_orders 25 = .ok (.iload_n 1, 1) := by decide +kernel
theorem dX12_orders_26 : decode cX12_orders 26 = .ok (.laload, 1) := by decide +kernel
theorem dX12_orders_27 : decode cX12_orders 27 = .ok (.lreturn, 1) := by decide +kernel
theorem dX12_dropsBy_0 : decode cX12_dropsBy 0 = .ok (.bipush 16, 2) := by decide +kernel
theorem dX12_dropsBy_2 : decode cX12_dropsBy 2 = .ok (.aload_n 0, 1) := by decide +kernel
theorem dX12_dropsBy_3 : decode cX12_dropsBy 3 = .ok (.getfield 40, 3) := by decide +kernel
theorem dX12_dropsBy_6 : decode cX12_dropsBy 6 = .ok (.iload_n 1, 1) := by decide +kernel
theorem dX12_dropsBy_7 : decode cX12_dropsBy 7 = .ok (.iaload, 1) := by decide +kernel
theorem dX12_dropsBy_8 : decode cX12_dropsBy 8 = .ok (.iload_n 2, 1) := by decide +kernel
theorem dX12_dropsBy_9 : decode cX12_dropsBy 9 = .ok (.iconst (-1), 1) := by decide +kernel
theorem dX12_dropsBy_10 : decode cX12_dropsBy 10 = .ok (.ixor, 1) := by decide +kernel
theorem dX12_dropsBy_11 : decode cX12_dropsBy 11 = .ok (.iand, 1) := by decide +kernel
theorem dX12_dropsBy_12 : decode cX12_dropsBy 12 = .ok (.invokestatic 426, 3) := by decide +kernel
theorem dX12_dropsBy_15 : decode cX12_dropsBy 15 = .ok (.aload_n 0, 1) := by decide +kernel
theorem dX12_dropsBy_16 : decode cX12_dropsBy 16 = .ok (.getfield 43, 3) := by decide +kernel
theorem dX12_dropsBy_19 : decode cX12_dropsBy 19 = .ok (.iload_n 1, 1) := by decide +kernel
theorem dX12_dropsBy_20 : decode cX12_dropsBy 20 = .ok (.iaload, 1) := by decide +kernel
theorem dX12_dropsBy_21 : decode cX12_dropsBy 21 = .ok (.iload_n 2, 1) := by decide +kernel
theorem dX12_dropsBy_22 : decode cX12_dropsBy 22 = .ok (.iand, 1) := by decide +kernel
theorem dX12_dropsBy_23 : decode cX12_dropsBy 23 = .ok (.invokestatic 426, 3) := by decide +kernel
theorem dX12_dropsBy_26 : decode cX12_dropsBy 26 = .ok (.iadd, 1) := by decide +kernel
theorem dX12_dropsBy_27 : decode cX12_dropsBy 27 = .ok (.imul, 1) := by decide +kernel
theorem dX12_dropsBy_28 : decode cX12_dropsBy 28 = .ok (.iconst 1, 1) := by decide +kernel
theorem dX12_dropsBy_29 : decode cX12_dropsBy 29 = .ok (.iadd, 1) := by decide +kernel
theorem dX12_dropsBy_30 : decode cX12_dropsBy 30 = .ok (.aload_n 0, 1) := by decide +kernel
theorem dX12_dropsBy_31 : decode cX12_dropsBy 31 = .ok (.getfield 80, 3) := by decide +kernel
theorem dX12_dropsBy_34 : decode cX12_dropsBy 34 = .ok (.iload_n 2, 1) := by decide +kernel
theorem dX12_dropsBy_35 : decode cX12_dropsBy 35 = .ok (.iconst 1, 1) := by decide +kernel
theorem dX12_dropsBy_36 : decode cX12_dropsBy 36 = .ok (.iload_n 1, 1) := by decide +kernel
theorem dX12_dropsBy_37 : decode cX12_dropsBy 37 = .ok (.ishl, 1) := by decide +kernel
theorem dX12_dropsBy_38 : decode cX12_dropsBy 38 = .ok (.ior, 1) := by decide +kernel
theorem dX12_dropsBy_39 : decode cX12_dropsBy 39 = .ok (.iaload, 1) := by decide +kernel
theorem dX12_dropsBy_40 : decode cX12_dropsBy 40 = .ok (.iadd, 1) := by decide +kernel
theorem dX12_dropsBy_41 : decode cX12_dropsBy 41 = .ok (.ireturn, 1) := by decide +kernel
theorem dX12_laysDrops_0 : decode cX12_laysDrops 0 = .ok (.aload_n 0, 1) := by decide +kernel
theorem dX12_laysDrops_1 : decode cX12_laysDrops 1 = .ok (.invokevirtual 403, 3) := by decide +kernel
theorem dX12_laysDrops_4 : decode cX12_laysDrops 4 = .ok (.iconst 1, 1) := by decide +kernel
theorem dX12_laysDrops_5 : decode cX12_laysDrops 5 = .ok (.isub, 1) := by decide +kernel
theorem dX12_laysDrops_6 : decode cX12_laysDrops 6 = .ok (.istore_n 1, 1) := by decide +kernel
theorem dX12_laysDrops_7 : decode cX12_laysDrops 7 = .ok (.iload_n 1, 1) := by decide +kernel
theorem dX12_laysDrops_8 : decode cX12_laysDrops 8 = .ok (.ifCond .lt 100, 3) := by decide +kernel
theorem dX12_laysDrops_11 : decode cX12_laysDrops 11 = .ok (.aload_n 0, 1) := by decide +kernel
theorem dX12_laysDrops_12 : decode cX12_laysDrops 12 = .ok (.getfield 80, 3) := by decide +kernel
theorem dX12_laysDrops_15 : decode cX12_laysDrops 15 = .ok (.iload_n 1, 1) := by decide +kernel
theorem dX12_laysDrops_16 : decode cX12_laysDrops 16 = .ok (.aload_n 0, 1) := by decide +kernel
theorem dX12_laysDrops_17 : decode cX12_laysDrops 17 = .ok (.getfield 34, 3) := by decide +kernel
theorem dX12_laysDrops_20 : decode cX12_laysDrops 20 = .ok (.iconst 4, 1) := by decide +kernel
theorem dX12_laysDrops_21 : decode cX12_laysDrops 21 = .ok (.iaload, 1) := by decide +kernel
theorem dX12_laysDrops_22 : decode cX12_laysDrops 22 = .ok (.iload_n 1, 1) := by decide +kernel
theorem dX12_laysDrops_23 : decode cX12_laysDrops 23 = .ok (.iconst (-1), 1) := by decide +kernel
theorem dX12_laysDrops_24 : decode cX12_laysDrops 24 = .ok (.ixor, 1) := by decide +kernel
theorem dX12_laysDrops_25 : decode cX12_laysDrops 25 = .ok (.iand, 1) := by decide +kernel
theorem dX12_laysDrops_26 : decode cX12_laysDrops 26 = .ok (.ifCond .ne 7, 3) := by decide +kernel
theorem dX12_laysDrops_29 : decode cX12_laysDrops 29 = .ok (.iconst 0, 1) := by decide +kernel
theorem dX12_laysDrops_30 : decode cX12_laysDrops 30 = .ok (.goto 5, 3) := by decide +kernel
theorem dX12_laysDrops_33 : decode cX12_laysDrops 33 = .ok (.ldc 139, 2) := by decide +kernel
theorem dX12_laysDrops_35 : decode cX12_laysDrops 35 = .ok (.iastore, 1) := by decide +kernel
theorem dX12_laysDrops_36 : decode cX12_laysDrops 36 = .ok (.iconst 0, 1) := by decide +kernel
theorem dX12_laysDrops_37 : decode cX12_laysDrops 37 = .ok (.istore_n 2, 1) := by decide +kernel
theorem dX12_laysDrops_38 : decode cX12_laysDrops 38 = .ok (.iload_n 2, 1) := by decide +kernel
theorem dX12_laysDrops_39 : decode cX12_laysDrops 39 = .ok (.aload_n 0, 1) := by decide +kernel
theorem dX12_laysDrops_40 : decode cX12_laysDrops 40 = .ok (.getfield 34, 3) := by decide +kernel
theorem dX12_laysDrops_43 : decode cX12_laysDrops 43 = .ok (.iconst 3, 1) := by decide +kernel
theorem dX12_laysDrops_44 : decode cX12_laysDrops 44 = .ok (.iaload, 1) := by decide +kernel
theorem dX12_laysDrops_45 : decode cX12_laysDrops 45 = .ok (.if_icmp .ge 57, 3) := by decide +kernel
theorem dX12_laysDrops_48 : decode cX12_laysDrops 48 = .ok (.aload_n 0, 1) := by decide +kernel
theorem dX12_laysDrops_49 : decode cX12_laysDrops 49 = .ok (.getfield 34, 3) := by decide +kernel
theorem dX12_laysDrops_52 : decode cX12_laysDrops 52 = .ok (.iconst 4, 1) := by decide +kernel
theorem dX12_laysDrops_53 : decode cX12_laysDrops 53 = .ok (.iaload, 1) := by decide +kernel
theorem dX12_laysDrops_54 : decode cX12_laysDrops 54 = .ok (.iload_n 1, 1) := by decide +kernel
theorem dX12_laysDrops_55 : decode cX12_laysDrops 55 = .ok (.iconst (-1), 1) := by decide +kernel
theorem dX12_laysDrops_56 : decode cX12_laysDrops 56 = .ok (.ixor, 1) := by decide +kernel
theorem dX12_laysDrops_57 : decode cX12_laysDrops 57 = .ok (.iand, 1) := by decide +kernel
theorem dX12_laysDrops_58 : decode cX12_laysDrops 58 = .ok (.ifCond .eq 44, 3) := by decide +kernel
theorem dX12_laysDrops_61 : decode cX12_laysDrops 61 = .ok (.iload_n 1, 1) := by decide +kernel
theorem dX12_laysDrops_62 : decode cX12_laysDrops 62 = .ok (.iload_n 2, 1) := by decide +kernel
theorem dX12_laysDrops_63 : decode cX12_laysDrops 63 = .ok (.invokestatic 278, 3) := by decide +kernel
theorem dX12_laysDrops_66 : decode cX12_laysDrops 66 = .ok (.ifCond .ne 30, 3) := by decide +kernel
theorem dX12_laysDrops_69 : decode cX12_laysDrops 69 = .ok (.aload_n 0, 1) := by decide +kernel
theorem dX12_laysDrops_70 : decode cX12_laysDrops 70 = .ok (.iload_n 2, 1) := by decide +kernel
theorem dX12_laysDrops_71 : decode cX12_laysDrops 71 = .ok (.iload_n 1, 1) := by decide +kernel
theorem dX12_laysDrops_72 : decode cX12_laysDrops 72 = .ok (.invokevirtual 429, 3) := by decide +kernel
theorem dX12_laysDrops_75 : decode cX12_laysDrops 75 = .ok (.aload_n 0, 1) := by decide +kernel
theorem dX12_laysDrops_76 : decode cX12_laysDrops 76 = .ok (.getfield 80, 3) := by decide +kernel
theorem dX12_laysDrops_79 : decode cX12_laysDrops 79 = .ok (.iload_n 1, 1) := by decide +kernel
theorem dX12_laysDrops_80 : decode cX12_laysDrops 80 = .ok (.iaload, 1) := by decide +kernel
theorem dX12_laysDrops_81 : decode cX12_laysDrops 81 = .ok (.if_icmp .ge 15, 3) := by decide +kernel
theorem dX12_laysDrops_84 : decode cX12_laysDrops 84 = .ok (.aload_n 0, 1) := by decide +kernel
theorem dX12_laysDrops_85 : decode cX12_laysDrops 85 = .ok (.getfield 80, 3) := by decide +kernel
theorem dX12_laysDrops_88 : decode cX12_laysDrops 88 = .ok (.iload_n 1, 1) := by decide +kernel
theorem dX12_laysDrops_89 : decode cX12_laysDrops 89 = .ok (.aload_n 0, 1) := by decide +kernel
theorem dX12_laysDrops_90 : decode cX12_laysDrops 90 = .ok (.iload_n 2, 1) := by decide +kernel
theorem dX12_laysDrops_91 : decode cX12_laysDrops 91 = .ok (.iload_n 1, 1) := by decide +kernel
theorem dX12_laysDrops_92 : decode cX12_laysDrops 92 = .ok (.invokevirtual 429, 3) := by decide +kernel
theorem dX12_laysDrops_95 : decode cX12_laysDrops 95 = .ok (.iastore, 1) := by decide +kernel
theorem dX12_laysDrops_96 : decode cX12_laysDrops 96 = .ok (.iinc 2 1, 3) := by decide +kernel
theorem dX12_laysDrops_99 : decode cX12_laysDrops 99 = .ok (.goto (-61), 3) := by decide +kernel
theorem dX12_laysDrops_102 : decode cX12_laysDrops 102 = .ok (.iinc 1 (-1), 3) := by decide +kernel
theorem dX12_laysDrops_105 : decode cX12_laysDrops 105 = .ok (.goto (-98), 3) := by decide +kernel
theorem dX12_laysDrops_108 : decode cX12_laysDrops 108 = .ok (.return_, 1) := by decide +kernel
theorem dX12_loose_0 : decode cX12_loose 0 = .ok (.aload_n 0, 1) := by decide +kernel
theorem dX12_loose_1 : decode cX12_loose 1 = .ok (.iconst 0, 1) := by decide +kernel
theorem dX12_loose_2 : decode cX12_loose 2 = .ok (.putfield 89, 3) := by decide +kernel
theorem dX12_loose_5 : decode cX12_loose 5 = .ok (.aload_n 0, 1) := by decide +kernel
theorem dX12_loose_6 : decode cX12_loose 6 = .ok (.invokevirtual 267, 3) := by decide +kernel
theorem dX12_loose_9 : decode cX12_loose 9 = .ok (.ifCond .ne 6, 3) := by decide +kernel
theorem dX12_loose_12 : decode cX12_loose 12 = .ok (.bipush (-2), 2) := by decide +kernel
theorem dX12_loose_14 : decode cX12_loose 14 = .ok (.ireturn, 1) := by decide +kernel
theorem dX12_loose_15 : decode cX12_loose 15 = .ok (.aload_n 0, 1) := by decide +kernel
theorem dX12_loose_16 : decode cX12_loose 16 = .ok (.invokevirtual 432, 3) := by decide +kernel
theorem dX12_loose_19 : decode cX12_loose 19 = .ok (.aload_n 0, 1) := by decide +kernel
theorem dX12_loose_20 : decode cX12_loose 20 = .ok (.getfield 80, 3) := by decide +kernel
theorem dX12_loose_23 : decode cX12_loose 23 = .ok (.iconst 0, 1) := by decide +kernel
theorem dX12_loose_24 : decode cX12_loose 24 = .ok (.iaload, 1) := by decide +kernel
theorem dX12_loose_25 : decode cX12_loose 25 = .ok (.bipush 16, 2) := by decide +kernel
theorem dX12_loose_27 : decode cX12_loose 27 = .ok (.idiv, 1) := by decide +kernel
theorem dX12_loose_28 : decode cX12_loose 28 = .ok (.ireturn, 1) := by decide +kernel
theorem dX12_loosely_0 : decode cX12_loosely 0 = .ok (.aload_n 0, 1) := by decide +kernel
theorem dX12_loosely_1 : decode cX12_loosely 1 = .ok (.iconst 0, 1) := by decide +kernel
theorem dX12_loosely_2 : decode cX12_loosely 2 = .ok (.putfield 89, 3) := by decide +kernel
theorem dX12_loosely_5 : decode cX12_loosely 5 = .ok (.aload_n 0, 1) := by decide +kernel
theorem dX12_loosely_6 : decode cX12_loosely 6 = .ok (.invokevirtual 267, 3) := by decide +kernel
theorem dX12_loosely_9 : decode cX12_loosely 9 = .ok (.ifCond .ne 6, 3) := by decide +kernel
theorem dX12_loosely_12 : decode cX12_loosely 12 = .ok (.bipush (-2), 2) := by decide +kernel
theorem dX12_loosely_14 : decode cX12_loosely 14 = .ok (.ireturn, 1) := by decide +kernel
theorem dX12_loosely_15 : decode cX12_loosely 15 = .ok (.aload_n 0, 1) := by decide +kernel
theorem dX12_loosely_16 : decode cX12_loosely 16 = .ok (.invokevirtual 432, 3) := by decide +kernel
theorem dX12_loosely_19 : decode cX12_loosely 19 = .ok (.iconst 0, 1) := by decide +kernel
theorem dX12_loosely_20 : decode cX12_loosely 20 = .ok (.istore_n 2, 1) := by decide +kernel
theorem dX12_loosely_21 : decode cX12_loosely 21 = .ok (.iconst 0, 1) := by decide +kernel
theorem dX12_loosely_22 : decode cX12_loosely 22 = .ok (.istore_n 3, 1) := by decide +kernel
theorem dX12_loosely_23 : decode cX12_loosely 23 = .ok (.aload_n 0, 1) := by decide +kernel
theorem dX12_loosely_24 : decode cX12_loosely 24 = .ok (.getfield 34, 3) := by decide +kernel
theorem dX12_loosely_27 : decode cX12_loosely 27 = .ok (.iconst 4, 1) := by decide +kernel
theorem dX12_loosely_28 : decode cX12_loosely 28 = .ok (.iaload, 1) := by decide +kernel
theorem dX12_loosely_29 : decode cX12_loosely 29 = .ok (.iload_n 2, 1) := by decide +kernel
theorem dX12_loosely_30 : decode cX12_loosely 30 = .ok (.iconst (-1), 1) := by decide +kernel
theorem dX12_loosely_31 : decode cX12_loosely 31 = .ok (.ixor, 1) := by decide +kernel
theorem dX12_loosely_32 : decode cX12_loosely 32 = .ok (.iand, 1) := by decide +kernel
theorem dX12_loosely_33 : decode cX12_loosely 33 = .ok (.ifCond .eq 58, 3) := by decide +kernel
theorem dX12_loosely_36 : decode cX12_loosely 36 = .ok (.iconst 0, 1) := by decide +kernel
theorem dX12_loosely_37 : decode cX12_loosely 37 = .ok (.istore 4, 2) := by decide +kernel
theorem dX12_loosely_39 : decode cX12_loosely 39 = .ok (.iload_n 2, 1) := by decide +kernel
theorem dX12_loosely_40 : decode cX12_loosely 40 = .ok (.iload 4, 2) := by decide +kernel
theorem dX12_loosely_42 : decode cX12_loosely 42 = .ok (.invokestatic 278, 3) := by decide +kernel
theorem dX12_loosely_45 : decode cX12_loosely 45 = .ok (.ifCond .ne 19, 3) := by decide +kernel
theorem dX12_loosely_48 : decode cX12_loosely 48 = .ok (.aload_n 0, 1) := by decide +kernel
theorem dX12_loosely_49 : decode cX12_loosely 49 = .ok (.iload 4, 2) := by decide +kernel
theorem dX12_loosely_51 : decode cX12_loosely 51 = .ok (.iload_n 2, 1) := by decide +kernel
theorem dX12_loosely_52 : decode cX12_loosely 52 = .ok (.invokevirtual 429, 3) := by decide +kernel
theorem dX12_loosely_55 : decode cX12_loosely 55 = .ok (.aload_n 0, 1) := by decide +kernel
theorem dX12_loosely_56 : decode cX12_loosely 56 = .ok (.getfield 80, 3) := by decide +kernel
theorem dX12_loosely_59 : decode cX12_loosely 59 = .ok (.iload_n 2, 1) := by decide +kernel
theorem dX12_loosely_60 : decode cX12_loosely 60 = .ok (.iaload, 1) := by decide +kernel
theorem dX12_loosely_61 : decode cX12_loosely 61 = .ok (.if_icmp .eq 9, 3) := by decide +kernel
theorem dX12_loosely_64 : decode cX12_loosely 64 = .ok (.iinc 4 1, 3) := by decide +kernel
theorem dX12_loosely_67 : decode cX12_loosely 67 = .ok (.goto (-28), 3) := by decide +kernel
theorem dX12_loosely_70 : decode cX12_loosely 70 = .ok (.iload_n 3, 1) := by decide +kernel
theorem dX12_loosely_71 : decode cX12_loosely 71 = .ok (.iload_n 1, 1) := by decide +kernel
theorem dX12_loosely_72 : decode cX12_loosely 72 = .ok (.if_icmp .ne 6, 3) := by decide +kernel
theorem dX12_loosely_75 : decode cX12_loosely 75 = .ok (.iload 4, 2) := by decide +kernel
theorem dX12_loosely_77 : decode cX12_loosely 77 = .ok (.ireturn, 1) := by decide +kernel
theorem dX12_loosely_78 : decode cX12_loosely 78 = .ok (.iload_n 2, 1) := by decide +kernel
theorem dX12_loosely_79 : decode cX12_loosely 79 = .ok (.iconst 1, 1) := by decide +kernel
theorem dX12_loosely_80 : decode cX12_loosely 80 = .ok (.iload 4, 2) := by decide +kernel
theorem dX12_loosely_82 : decode cX12_loosely 82 = .ok (.ishl, 1) := by decide +kernel
theorem dX12_loosely_83 : decode cX12_loosely 83 = .ok (.ior, 1) := by decide +kernel
theorem dX12_loosely_84 : decode cX12_loosely 84 = .ok (.istore_n 2, 1) := by decide +kernel
theorem dX12_loosely_85 : decode cX12_loosely 85 = .ok (.iinc 3 1, 3) := by decide +kernel
theorem dX12_loosely_88 : decode cX12_loosely 88 = .ok (.goto (-65), 3) := by decide +kernel
theorem dX12_loosely_91 : decode cX12_loosely 91 = .ok (.iconst (-1), 1) := by decide +kernel
theorem dX12_loosely_92 : decode cX12_loosely 92 = .ok (.ireturn, 1) := by decide +kernel
theorem dX12_canBeHad_0 : decode cX12_canBeHad 0 = .ok (.aload_n 0, 1) := by decide +kernel
theorem dX12_canBeHad_1 : decode cX12_canBeHad 1 = .ok (.invokevirtual 412, 3) := by decide +kernel
theorem dX12_canBeHad_4 : decode cX12_canBeHad 4 = .ok (.iconst 0, 1) := by decide +kernel
theorem dX12_canBeHad_5 : decode cX12_canBeHad 5 = .ok (.istore_n 1, 1) := by decide +kernel
theorem dX12_canBeHad_6 : decode cX12_canBeHad 6 = .ok (.iload_n 1, 1) := by decide +kernel
theorem dX12_canBeHad_7 : decode cX12_canBeHad 7 = .ok (.aload_n 0, 1) := by decide +kernel
theorem dX12_canBeHad_8 : decode cX12_canBeHad 8 = .ok (.invokevirtual 403, 3) := by decide +kernel
theorem dX12_canBeHad_11 : decode cX12_canBeHad 11 = .ok (.if_icmp .ge 35, 3) := by decide +kernel
theorem dX12_canBeHad_14 : decode cX12_canBeHad 14 = .ok (.aload_n 0, 1) := by decide +kernel
theorem dX12_canBeHad_15 : decode cX12_canBeHad 15 = .ok (.getfield 74, 3) := by decide +kernel
theorem dX12_canBeHad_18 : decode cX12_canBeHad 18 = .ok (.iload_n 1, 1) := by decide +kernel
theorem dX12_canBeHad_19 : decode cX12_canBeHad 19 = .ok (.laload, 1) := by decide +kernel
theorem dX12_canBeHad_20 : decode cX12_canBeHad 20 = .ok (.lconst 0, 1) := by decide +kernel
theorem dX12_canBeHad_21 : decode cX12_canBeHad 21 = .ok (.lcmp, 1) := by decide +kernel
theorem dX12_canBeHad_22 : decode cX12_canBeHad 22 = .ok (.ifCond .le 18, 3) := by decide +kernel
theorem dX12_canBeHad_25 : decode cX12_canBeHad 25 = .ok (.aload_n 0, 1) := by decide +kernel
theorem dX12_canBeHad_26 : decode cX12_canBeHad 26 = .ok (.getfield 34, 3) := by decide +kernel
theorem dX12_canBeHad_29 : decode cX12_canBeHad 29 = .ok (.iconst 4, 1) := by decide +kernel
theorem dX12_canBeHad_30 : decode cX12_canBeHad 30 = .ok (.iaload, 1) := by decide +kernel
theorem dX12_canBeHad_31 : decode cX12_canBeHad 31 = .ok (.iload_n 1, 1) := by decide +kernel
theorem dX12_canBeHad_32 : decode cX12_canBeHad 32 = .ok (.iconst (-1), 1) := by decide +kernel
theorem dX12_canBeHad_33 : decode cX12_canBeHad 33 = .ok (.ixor, 1) := by decide +kernel
theorem dX12_canBeHad_34 : decode cX12_canBeHad 34 = .ok (.iand, 1) := by decide +kernel
theorem dX12_canBeHad_35 : decode cX12_canBeHad 35 = .ok (.ifCond .ne 5, 3) := by decide +kernel
theorem dX12_canBeHad_38 : decode cX12_canBeHad 38 = .ok (.iconst 1, 1) := by decide +kernel
theorem dX12_canBeHad_39 : decode cX12_canBeHad 39 = .ok (.ireturn, 1) := by decide +kernel
theorem dX12_canBeHad_40 : decode cX12_canBeHad 40 = .ok (.iinc 1 1, 3) := by decide +kernel
theorem dX12_canBeHad_43 : decode cX12_canBeHad 43 = .ok (.goto (-37), 3) := by decide +kernel
theorem dX12_canBeHad_46 : decode cX12_canBeHad 46 = .ok (.iconst 0, 1) := by decide +kernel
theorem dX12_canBeHad_47 : decode cX12_canBeHad 47 = .ok (.ireturn, 1) := by decide +kernel
theorem dX12_isParted_0 : decode cX12_isParted 0 = .ok (.aload_n 1, 1) := by decide +kernel
theorem dX12_isParted_1 : decode cX12_isParted 1 = .ok (.iload_n 2, 1) := by decide +kernel
theorem dX12_isParted_2 : decode cX12_isParted 2 = .ok (.dup2, 1) := by decide +kernel
theorem dX12_isParted_3 : decode cX12_isParted 3 = .ok (.iaload, 1) := by decide +kernel
theorem dX12_isParted_4 : decode cX12_isParted 4 = .ok (.iconst 1, 1) := by decide +kernel
theorem dX12_isParted_5 : decode cX12_isParted 5 = .ok (.iload_n 3, 1) := by decide +kernel
theorem dX12_isParted_6 : decode cX12_isParted 6 = .ok (.ishl, 1) := by decide +kernel
theorem dX12_isParted_7 : decode cX12_isParted 7 = .ok (.iconst (-1), 1) := by decide +kernel
theorem dX12_isParted_8 : decode cX12_isParted 8 = .ok (.ixor, 1) := by decide +kernel
theorem dX12_isParted_9 : decode cX12_isParted 9 = .ok (.iand, 1) := by decide +kernel
theorem dX12_isParted_10 : decode cX12_isParted 10 = .ok (.iastore, 1) := by decide +kernel
theorem dX12_isParted_11 : decode cX12_isParted 11 = .ok (.aload_n 0, 1) := by decide +kernel
theorem dX12_isParted_12 : decode cX12_isParted 12 = .ok (.invokevirtual 435, 3) := by decide +kernel
theorem dX12_isParted_15 : decode cX12_isParted 15 = .ok (.istore 4, 2) := by decide +kernel
theorem dX12_isParted_17 : decode cX12_isParted 17 = .ok (.aload_n 1, 1) := by decide +kernel
theorem dX12_isParted_18 : decode cX12_isParted 18 = .ok (.iload_n 2, 1) := by decide +kernel
theorem dX12_isParted_19 : decode cX12_isParted 19 = .ok (.dup2, 1) := by decide +kernel
theorem dX12_isParted_20 : decode cX12_isParted 20 = .ok (.iaload, 1) := by decide +kernel
theorem dX12_isParted_21 : decode cX12_isParted 21 = .ok (.iconst 1, 1) := by decide +kernel
theorem dX12_isParted_22 : decode cX12_isParted 22 = .ok (.iload_n 3, 1) := by decide +kernel
theorem dX12_isParted_23 : decode cX12_isParted 23 = .ok (.ishl, 1) := by decide +kernel
theorem dX12_isParted_24 : decode cX12_isParted 24 = .ok (.ior, 1) := by decide +kernel
theorem dX12_isParted_25 : decode cX12_isParted 25 = .ok (.iastore, 1) := by decide +kernel
theorem dX12_isParted_26 : decode cX12_isParted 26 = .ok (.iload 4, 2) := by decide +kernel
theorem dX12_isParted_28 : decode cX12_isParted 28 = .ok (.ireturn, 1) := by decide +kernel
theorem dX12_parted_0 : decode cX12_parted 0 = .ok (.aload_n 0, 1) := by decide +kernel
theorem dX12_parted_1 : decode cX12_parted 1 = .ok (.iconst 0, 1) := by decide +kernel
theorem dX12_parted_2 : decode cX12_parted 2 = .ok (.putfield 89, 3) := by decide +kernel
theorem dX12_parted_5 : decode cX12_parted 5 = .ok (.aload_n 0, 1) := by decide +kernel
theorem dX12_parted_6 : decode cX12_parted 6 = .ok (.invokevirtual 267, 3) := by decide +kernel
theorem dX12_parted_9 : decode cX12_parted 9 = .ok (.ifCond .ne 6, 3) := by decide +kernel
theorem dX12_parted_12 : decode cX12_parted 12 = .ok (.bipush (-2), 2) := by decide +kernel
theorem dX12_parted_14 : decode cX12_parted 14 = .ok (.ireturn, 1) := by decide +kernel
theorem dX12_parted_15 : decode cX12_parted 15 = .ok (.aload_n 0, 1) := by decide +kernel
theorem dX12_parted_16 : decode cX12_parted 16 = .ok (.invokevirtual 435, 3) := by decide +kernel
theorem dX12_parted_19 : decode cX12_parted 19 = .ok (.ifCond .eq 5, 3) := by decide +kernel
theorem dX12_parted_22 : decode cX12_parted 22 = .ok (.iconst (-1), 1) := by decide +kernel
theorem dX12_parted_23 : decode cX12_parted 23 = .ok (.ireturn, 1) := by decide +kernel
theorem dX12_parted_24 : decode cX12_parted 24 = .ok (.iconst 0, 1) := by decide +kernel
theorem dX12_parted_25 : decode cX12_parted 25 = .ok (.istore_n 1, 1) := by decide +kernel
theorem dX12_parted_26 : decode cX12_parted 26 = .ok (.iload_n 1, 1) := by decide +kernel
theorem dX12_parted_27 : decode cX12_parted 27 = .ok (.iconst 2, 1) := by decide +kernel
theorem dX12_parted_28 : decode cX12_parted 28 = .ok (.if_icmp .ge 110, 3) := by decide +kernel
theorem dX12_parted_31 : decode cX12_parted 31 = .ok (.iconst 0, 1) := by decide +kernel
theorem dX12_parted_32 : decode cX12_parted 32 = .ok (.istore_n 2, 1) := by decide +kernel
theorem dX12_parted_33 : decode cX12_parted 33 = .ok (.iload_n 2, 1) := by decide +kernel
theorem dX12_parted_34 : decode cX12_parted 34 = .ok (.aload_n 0, 1) := by decide +kernel
theorem dX12_parted_35 : decode cX12_parted 35 = .ok (.getfield 34, 3) := by decide +kernel
theorem dX12_parted_38 : decode cX12_parted 38 = .ok (.iconst 3, 1) := by decide +kernel
theorem dX12_parted_39 : decode cX12_parted 39 = .ok (.iaload, 1) := by decide +kernel
theorem dX12_parted_40 : decode cX12_parted 40 = .ok (.if_icmp .ge 92, 3) := by decide +kernel
theorem dX12_parted_43 : decode cX12_parted 43 = .ok (.iconst 0, 1) := by decide +kernel
theorem dX12_parted_44 : decode cX12_parted 44 = .ok (.istore_n 3, 1) := by decide +kernel
theorem dX12_parted_45 : decode cX12_parted 45 = .ok (.iload_n 3, 1) := by decide +kernel
theorem dX12_parted_46 : decode cX12_parted 46 = .ok (.aload_n 0, 1) := by decide +kernel
theorem dX12_parted_47 : decode cX12_parted 47 = .ok (.getfield 34, 3) := by decide +kernel
theorem dX12_parted_50 : decode cX12_parted 50 = .ok (.iconst 3, 1) := by decide +kernel
theorem dX12_parted_51 : decode cX12_parted 51 = .ok (.iaload, 1) := by decide +kernel
theorem dX12_parted_52 : decode cX12_parted 52 = .ok (.if_icmp .ge 74, 3) := by decide +kernel
theorem dX12_parted_55 : decode cX12_parted 55 = .ok (.iload_n 1, 1) := by decide +kernel
theorem dX12_parted_56 : decode cX12_parted 56 = .ok (.ifCond .ne 12, 3) := by decide +kernel
theorem dX12_parted_59 : decode cX12_parted 59 = .ok (.aload_n 0, 1) := by decide +kernel
theorem dX12_parted_60 : decode cX12_parted 60 = .ok (.getfield 40, 3) := by decide +kernel
theorem dX12_parted_63 : decode cX12_parted 63 = .ok (.iload_n 2, 1) := by decide +kernel
theorem dX12_parted_64 : decode cX12_parted 64 = .ok (.iaload, 1) := by decide +kernel
theorem dX12_parted_65 : decode cX12_parted 65 = .ok (.goto 9, 3) := by decide +kernel
theorem dX12_parted_68 : decode cX12_parted 68 = .ok (.aload_n 0, 1) := by decide +kernel
theorem dX12_parted_69 : decode cX12_parted 69 = .ok (.getfield 43, 3) := by decide +kernel
theorem dX12_parted_72 : decode cX12_parted 72 = .ok (.iload_n 2, 1) := by decide +kernel
theorem dX12_parted_73 : decode cX12_parted 73 = .ok (.iaload, 1) := by decide +kernel
theorem dX12_parted_74 : decode cX12_parted 74 = .ok (.iload_n 3, 1) := by decide +kernel
theorem dX12_parted_75 : decode cX12_parted 75 = .ok (.invokestatic 278, 3) := by decide +kernel
theorem dX12_parted_78 : decode cX12_parted 78 = .ok (.ifCond .ne 6, 3) := by decide +kernel
theorem dX12_parted_81 : decode cX12_parted 81 = .ok (.goto 39, 3) := by decide +kernel
theorem dX12_parted_84 : decode cX12_parted 84 = .ok (.aload_n 0, 1) := by decide +kernel
theorem dX12_parted_85 : decode cX12_parted 85 = .ok (.iload_n 1, 1) := by decide +kernel
theorem dX12_parted_86 : decode cX12_parted 86 = .ok (.ifCond .ne 10, 3) := by decide +kernel
theorem dX12_parted_89 : decode cX12_parted 89 = .ok (.aload_n 0, 1) := by decide +kernel
theorem dX12_parted_90 : decode cX12_parted 90 = .ok (.getfield 40, 3) := by decide +kernel
theorem dX12_parted_93 : decode cX12_parted 93 = .ok (.goto 7, 3) := by decide +kernel
theorem dX12_parted_96 : decode cX12_parted 96 = .ok (.aload_n 0, 1) := by decide +kernel
theorem dX12_parted_97 : decode cX12_parted 97 = .ok (.getfield 43, 3) := by decide +kernel
theorem dX12_parted_100 : decode cX12_parted 100 = .ok (.iload_n 2, 1) := by decide +kernel
theorem dX12_parted_101 : decode cX12_parted 101 = .ok (.iload_n 3, 1) := by decide +kernel
theorem dX12_parted_102 : decode cX12_parted 102 = .ok (.invokevirtual 438, 3) := by decide +kernel
theorem dX12_parted_105 : decode cX12_parted 105 = .ok (.ifCond .eq 15, 3) := by decide +kernel
theorem dX12_parted_108 : decode cX12_parted 108 = .ok (.bipush 100, 2) := by decide +kernel
theorem dX12_parted_110 : decode cX12_parted 110 = .ok (.iload_n 1, 1) := by decide +kernel
theorem dX12_parted_111 : decode cX12_parted 111 = .ok (.imul, 1) := by decide +kernel
theorem dX12_parted_112 : decode cX12_parted 112 = .ok (.bipush 10, 2) := by decide +kernel
theorem dX12_parted_114 : decode cX12_parted 114 = .ok (.iload_n 2, 1) := by decide +kernel
theorem dX12_parted_115 : decode cX12_parted 115 = .ok (.imul, 1) := by decide +kernel
theorem dX12_parted_116 : decode cX12_parted 116 = .ok (.iadd, 1) := by decide +kernel
theorem dX12_parted_117 : decode cX12_parted 117 = .ok (.iload_n 3, 1) := by decide +kernel
theorem dX12_parted_118 : decode cX12_parted 118 = .ok (.iadd, 1) := by decide +kernel
theorem dX12_parted_119 : decode cX12_parted 119 = .ok (.ireturn, 1) := by decide +kernel
theorem dX12_parted_120 : decode cX12_parted 120 = .ok (.iinc 3 1, 3) := by decide +kernel
theorem dX12_parted_123 : decode cX12_parted 123 = .ok (.goto (-78), 3) := by decide +kernel
theorem dX12_parted_126 : decode cX12_parted 126 = .ok (.iinc 2 1, 3) := by decide +kernel
theorem dX12_parted_129 : decode cX12_parted 129 = .ok (.goto (-96), 3) := by decide +kernel
theorem dX12_parted_132 : decode cX12_parted 132 = .ok (.iinc 1 1, 3) := by decide +kernel
theorem dX12_parted_135 : decode cX12_parted 135 = .ok (.goto (-109), 3) := by decide +kernel
theorem dX12_parted_138 : decode cX12_parted 138 = .ok (.iconst (-1), 1) := by decide +kernel
theorem dX12_parted_139 : decode cX12_parted 139 = .ok (.ireturn, 1) := by decide +kernel
theorem dX12_whyNot_0 : decode cX12_whyNot 0 = .ok (.iload_n 1, 1) := by decide +kernel
theorem dX12_whyNot_1 : decode cX12_whyNot 1 = .ok (.invokestatic 98, 3) := by decide +kernel
theorem dX12_whyNot_4 : decode cX12_whyNot 4 = .ok (.ifCond .eq 10, 3) := by decide +kernel
theorem dX12_whyNot_7 : decode cX12_whyNot 7 = .ok (.aload_n 0, 1) := by decide +kernel
theorem dX12_whyNot_8 : decode cX12_whyNot 8 = .ok (.invokevirtual 267, 3) := by decide +kernel
theorem dX12_whyNot_11 : decode cX12_whyNot 11 = .ok (.ifCond .ne 6, 3) := by decide +kernel
theorem dX12_whyNot_14 : decode cX12_whyNot 14 = .ok (.bipush (-2), 2) := by decide +kernel
theorem dX12_whyNot_16 : decode cX12_whyNot 16 = .ok (.ireturn, 1) := by decide +kernel
theorem dX12_whyNot_17 : decode cX12_whyNot 17 = .ok (.aload_n 0, 1) := by decide +kernel
theorem dX12_whyNot_18 : decode cX12_whyNot 18 = .ok (.getfield 7, 3) := by decide +kernel
theorem dX12_whyNot_21 : decode cX12_whyNot 21 = .ok (.iload_n 1, 1) := by decide +kernel
theorem dX12_whyNot_22 : decode cX12_whyNot 22 = .ok (.iaload, 1) := by decide +kernel
theorem dX12_whyNot_23 : decode cX12_whyNot 23 = .ok (.iconst (-1), 1) := by decide +kernel
theorem dX12_whyNot_24 : decode cX12_whyNot 24 = .ok (.if_icmp .ne 6, 3) := by decide +kernel
theorem dX12_whyNot_27 : decode cX12_whyNot 27 = .ok (.bipush (-6), 2) := by decide +kernel
theorem dX12_whyNot_29 : decode cX12_whyNot 29 = .ok (.ireturn, 1) := by decide +kernel
theorem dX12_whyNot_30 : decode cX12_whyNot 30 = .ok (.iconst 0, 1) := by decide +kernel
theorem dX12_whyNot_31 : decode cX12_whyNot 31 = .ok (.istore_n 2, 1) := by decide +kernel
theorem dX12_whyNot_32 : decode cX12_whyNot 32 = .ok (.iload_n 2, 1) := by decide +kernel
theorem dX12_whyNot_33 : decode cX12_whyNot 33 = .ok (.aload_n 0, 1) := by decide +kernel
theorem dX12_whyNot_34 : decode cX12_whyNot 34 = .ok (.getfield 13, 3) := by decide +kernel
theorem dX12_whyNot_37 : decode cX12_whyNot 37 = .ok (.iload_n 1, 1) := by decide +kernel
theorem dX12_whyNot_38 : decode cX12_whyNot 38 = .ok (.iaload, 1) := by decide +kernel
theorem dX12_whyNot_39 : decode cX12_whyNot 39 = .ok (.if_icmp .ge 30, 3) := by decide +kernel
theorem dX12_whyNot_42 : decode cX12_whyNot 42 = .ok (.aload_n 0, 1) := by decide +kernel
theorem dX12_whyNot_43 : decode cX12_whyNot 43 = .ok (.aload_n 0, 1) := by decide +kernel
theorem dX12_whyNot_44 : decode cX12_whyNot 44 = .ok (.getfield 16, 3) := by decide +kernel
theorem dX12_whyNot_47 : decode cX12_whyNot 47 = .ok (.bipush 60, 2) := by decide +kernel
theorem dX12_whyNot_49 : decode cX12_whyNot 49 = .ok (.iload_n 1, 1) := by decide +kernel
theorem dX12_whyNot_50 : decode cX12_whyNot 50 = .ok (.imul, 1) := by decide +kernel
theorem dX12_whyNot_51 : decode cX12_whyNot 51 = .ok (.iload_n 2, 1) := by decide +kernel
theorem dX12_whyNot_52 : decode cX12_whyNot 52 = .ok (.iadd, 1) := by decide +kernel
theorem dX12_whyNot_53 : decode cX12_whyNot 53 = .ok (.laload, 1) := by decide +kernel
theorem dX12_whyNot_54 : decode cX12_whyNot 54 = .ok (.invokevirtual 270, 3) := by decide +kernel
theorem dX12_whyNot_57 : decode cX12_whyNot 57 = .ok (.ifCond .ne 6, 3) := by decide +kernel
theorem dX12_whyNot_60 : decode cX12_whyNot 60 = .ok (.bipush (-2), 2) := by decide +kernel
theorem dX12_whyNot_62 : decode cX12_whyNot 62 = .ok (.ireturn, 1) := by decide +kernel
theorem dX12_whyNot_63 : decode cX12_whyNot 63 = .ok (.iinc 2 1, 3) := by decide +kernel
theorem dX12_whyNot_66 : decode cX12_whyNot 66 = .ok (.goto (-34), 3) := by decide +kernel
theorem dX12_whyNot_69 : decode cX12_whyNot 69 = .ok (.iconst 0, 1) := by decide +kernel
theorem dX12_whyNot_70 : decode cX12_whyNot 70 = .ok (.ireturn, 1) := by decide +kernel
theorem dX12_cellOf_0 : decode cX12_cellOf 0 = .ok (.aload_n 0, 1) := by decide +kernel
theorem dX12_cellOf_1 : decode cX12_cellOf 1 = .ok (.getfield 16, 3) := by decide +kernel
theorem dX12_cellOf_4 : decode cX12_cellOf 4 = .ok (.bipush 60, 2) := by decide +kernel
theorem dX12_cellOf_6 : decode cX12_cellOf 6 = .ok (.iload_n 1, 1) := by decide +kernel
theorem dX12_cellOf_7 : decode cX12_cellOf 7 = .ok (.imul, 1) := by decide +kernel
theorem dX12_cellOf_8 : decode cX12_cellOf 8 = .ok (.iload_n 2, 1) := by decide +kernel
theorem dX12_cellOf_9 : decode cX12_cellOf 9 = .ok (.iadd, 1) := by decide +kernel
theorem dX12_cellOf_10 : decode cX12_cellOf 10 = .ok (.laload, 1) := by decide +kernel
theorem dX12_cellOf_11 : decode cX12_cellOf 11 = .ok (.l2i, 1) := by decide +kernel
theorem dX12_cellOf_12 : decode cX12_cellOf 12 = .ok (.ireturn, 1) := by decide +kernel
theorem dX12_judge_0 : decode cX12_judge 0 = .ok (.aload_n 0, 1) := by decide +kernel
theorem dX12_judge_1 : decode cX12_judge 1 = .ok (.iconst 0, 1) := by decide +kernel
theorem dX12_judge_2 : decode cX12_judge 2 = .ok (.putfield 89, 3) := by decide +kernel
theorem dX12_judge_5 : decode cX12_judge 5 = .ok (.aload_n 0, 1) := by decide +kernel
theorem dX12_judge_6 : decode cX12_judge 6 = .ok (.iload_n 1, 1) := by decide +kernel
theorem dX12_judge_7 : decode cX12_judge 7 = .ok (.invokevirtual 442, 3) := by decide +kernel
theorem dX12_judge_10 : decode cX12_judge 10 = .ok (.istore_n 2, 1) := by decide +kernel
theorem dX12_judge_11 : decode cX12_judge 11 = .ok (.iload_n 2, 1) := by decide +kernel
theorem dX12_judge_12 : decode cX12_judge 12 = .ok (.ifCond .eq 5, 3) := by decide +kernel
theorem dX12_judge_15 : decode cX12_judge 15 = .ok (.iload_n 2, 1) := by decide +kernel
theorem dX12_judge_16 : decode cX12_judge 16 = .ok (.ireturn, 1) := by decide +kernel
theorem dX12_judge_17 : decode cX12_judge 17 = .ok (.iconst 0, 1) := by decide +kernel
theorem dX12_judge_18 : decode cX12_judge 18 = .ok (.istore_n 3, 1) := by decide +kernel
theorem dX12_judge_19 : decode cX12_judge 19 = .ok (.iconst 0, 1) := by decide +kernel
theorem dX12_judge_20 : decode cX12_judge 20 = .ok (.istore 4, 2) := by decide +kernel
theorem dX12_judge_22 : decode cX12_judge 22 = .ok (.iload 4, 2) := by decide +kernel
theorem dX12_judge_24 : decode cX12_judge 24 = .ok (.aload_n 0, 1) := by decide +kernel
theorem dX12_judge_25 : decode cX12_judge 25 = .ok (.getfield 13, 3) := by decide +kernel
theorem dX12_judge_28 : decode cX12_judge 28 = .ok (.iload_n 1, 1) := by decide +kernel
theorem dX12_judge_29 : decode cX12_judge 29 = .ok (.iaload, 1) := by decide +kernel
theorem dX12_judge_30 : decode cX12_judge 30 = .ok (.if_icmp .ge 47, 3) := by decide +kernel
theorem dX12_judge_33 : decode cX12_judge 33 = .ok (.aload_n 0, 1) := by decide +kernel
theorem dX12_judge_34 : decode cX12_judge 34 = .ok (.iload_n 1, 1) := by decide +kernel
theorem dX12_judge_35 : decode cX12_judge 35 = .ok (.iload 4, 2) := by decide +kernel
theorem dX12_judge_37 : decode cX12_judge 37 = .ok (.invokevirtual 445, 3) := by decide +kernel
theorem dX12_judge_40 : decode cX12_judge 40 = .ok (.istore 5, 2) := by decide +kernel
theorem dX12_judge_42 : decode cX12_judge 42 = .ok (.iload_n 3, 1) := by decide +kernel
theorem dX12_judge_43 : decode cX12_judge 43 = .ok (.iload 5, 2) := by decide +kernel
theorem dX12_judge_45 : decode cX12_judge 45 = .ok (.invokestatic 278, 3) := by decide +kernel
theorem dX12_judge_48 : decode cX12_judge 48 = .ok (.ifCond .ne 13, 3) := by decide +kernel
theorem dX12_judge_51 : decode cX12_judge 51 = .ok (.aload_n 0, 1) := by decide +kernel
theorem dX12_judge_52 : decode cX12_judge 52 = .ok (.iload 5, 2) := by decide +kernel
theorem dX12_judge_54 : decode cX12_judge 54 = .ok (.iload_n 3, 1) := by decide +kernel
theorem dX12_judge_55 : decode cX12_judge 55 = .ok (.invokevirtual 406, 3) := by decide +kernel
theorem dX12_judge_58 : decode cX12_judge 58 = .ok (.ifCond .ne 6, 3) := by decide +kernel
theorem dX12_judge_61 : decode cX12_judge 61 = .ok (.iload 4, 2) := by decide +kernel
theorem dX12_judge_63 : decode cX12_judge 63 = .ok (.ireturn, 1) := by decide +kernel
theorem dX12_judge_64 : decode cX12_judge 64 = .ok (.iload_n 3, 1) := by decide +kernel
theorem dX12_judge_65 : decode cX12_judge 65 = .ok (.iconst 1, 1) := by decide +kernel
theorem dX12_judge_66 : decode cX12_judge 66 = .ok (.iload 5, 2) := by decide +kernel
theorem dX12_judge_68 : decode cX12_judge 68 = .ok (.ishl, 1) := by decide +kernel
theorem dX12_judge_69 : decode cX12_judge 69 = .ok (.ior, 1) := by decide +kernel
theorem dX12_judge_70 : decode cX12_judge 70 = .ok (.istore_n 3, 1) := by decide +kernel
theorem dX12_judge_71 : decode cX12_judge 71 = .ok (.iinc 4 1, 3) := by decide +kernel
theorem dX12_judge_74 : decode cX12_judge 74 = .ok (.goto (-52), 3) := by decide +kernel
theorem dX12_judge_77 : decode cX12_judge 77 = .ok (.aload_n 0, 1) := by decide +kernel
theorem dX12_judge_78 : decode cX12_judge 78 = .ok (.getfield 13, 3) := by decide +kernel
theorem dX12_judge_81 : decode cX12_judge 81 = .ok (.iload_n 1, 1) := by decide +kernel
theorem dX12_judge_82 : decode cX12_judge 82 = .ok (.iaload, 1) := by decide +kernel
theorem dX12_judge_83 : decode cX12_judge 83 = .ok (.ireturn, 1) := by decide +kernel
theorem dX12_bribed_0 : decode cX12_bribed 0 = .ok (.aload_n 0, 1) := by decide +kernel
theorem dX12_bribed_1 : decode cX12_bribed 1 = .ok (.iconst 0, 1) := by decide +kernel
theorem dX12_bribed_2 : decode cX12_bribed 2 = .ok (.putfield 89, 3) := by decide +kernel
theorem dX12_bribed_5 : decode cX12_bribed 5 = .ok (.aload_n 0, 1) := by decide +kernel
theorem dX12_bribed_6 : decode cX12_bribed 6 = .ok (.iload_n 1, 1) := by decide +kernel
theorem dX12_bribed_7 : decode cX12_bribed 7 = .ok (.invokevirtual 442, 3) := by decide +kernel
theorem dX12_bribed_10 : decode cX12_bribed 10 = .ok (.istore_n 2, 1) := by decide +kernel
theorem dX12_bribed_11 : decode cX12_bribed 11 = .ok (.iload_n 2, 1) := by decide +kernel
theorem dX12_bribed_12 : decode cX12_bribed 12 = .ok (.ifCond .eq 5, 3) := by decide +kernel
theorem dX12_bribed_15 : decode cX12_bribed 15 = .ok (.iload_n 2, 1) := by decide +kernel
theorem dX12_bribed_16 : decode cX12_bribed 16 = .ok (.ireturn, 1) := by decide +kernel
theorem dX12_bribed_17 : decode cX12_bribed 17 = .ok (.iconst 0, 1) := by decide +kernel
theorem dX12_bribed_18 : decode cX12_bribed 18 = .ok (.istore_n 3, 1) := by decide +kernel
theorem dX12_bribed_19 : decode cX12_bribed 19 = .ok (.iconst 0, 1) := by decide +kernel
theorem dX12_bribed_20 : decode cX12_bribed 20 = .ok (.istore 4, 2) := by decide +kernel
theorem dX12_bribed_22 : decode cX12_bribed 22 = .ok (.iconst 0, 1) := by decide +kernel
theorem dX12_bribed_23 : decode cX12_bribed 23 = .ok (.istore 5, 2) := by decide +kernel
theorem dX12_bribed_25 : decode cX12_bribed 25 = .ok (.iload 5, 2) := by decide +kernel
theorem dX12_bribed_27 : decode cX12_bribed 27 = .ok (.aload_n 0, 1) := by decide +kernel
theorem dX12_bribed_28 : decode cX12_bribed 28 = .ok (.getfield 13, 3) := by decide +kernel
theorem dX12_bribed_31 : decode cX12_bribed 31 = .ok (.iload_n 1, 1) := by decide +kernel
theorem dX12_bribed_32 : decode cX12_bribed 32 = .ok (.iaload, 1) := by decide +kernel
theorem dX12_bribed_33 : decode cX12_bribed 33 = .ok (.if_icmp .ge 57, 3) := by decide +kernel
theorem dX12_bribed_36 : decode cX12_bribed 36 = .ok (.aload_n 0, 1) := by decide +kernel
theorem dX12_bribed_37 : decode cX12_bribed 37 = .ok (.iload_n 1, 1) := by decide +kernel
theorem dX12_bribed_38 : decode cX12_bribed 38 = .ok (.iload 5, 2) := by decide +kernel
theorem dX12_bribed_40 : decode cX12_bribed 40 = .ok (.invokevirtual 445, 3) := by decide +kernel
theorem dX12_bribed_43 : decode cX12_bribed 43 = .ok (.istore 6, 2) := by decide +kernel
theorem dX12_bribed_45 : decode cX12_bribed 45 = .ok (.iload 4, 2) := by decide +kernel
theorem dX12_bribed_47 : decode cX12_bribed 47 = .ok (.iload_n 3, 1) := by decide +kernel
theorem dX12_bribed_48 : decode cX12_bribed 48 = .ok (.iload 6, 2) := by decide +kernel
theorem dX12_bribed_50 : decode cX12_bribed 50 = .ok (.invokestatic 278, 3) := by decide +kernel
theorem dX12_bribed_53 : decode cX12_bribed 53 = .ok (.ifCond .ne 13, 3) := by decide +kernel
theorem dX12_bribed_56 : decode cX12_bribed 56 = .ok (.aload_n 0, 1) := by decide +kernel
theorem dX12_bribed_57 : decode cX12_bribed 57 = .ok (.iload 6, 2) := by decide +kernel
theorem dX12_bribed_59 : decode cX12_bribed 59 = .ok (.iload_n 3, 1) := by decide +kernel
theorem dX12_bribed_60 : decode cX12_bribed 60 = .ok (.invokevirtual 406, 3) := by decide +kernel
theorem dX12_bribed_63 : decode cX12_bribed 63 = .ok (.ifCond .ne 10, 3) := by decide +kernel
theorem dX12_bribed_66 : decode cX12_bribed 66 = .ok (.iconst 1, 1) := by decide +kernel
theorem dX12_bribed_67 : decode cX12_bribed 67 = .ok (.iload 6, 2) := by decide +kernel
theorem dX12_bribed_69 : decode cX12_bribed 69 = .ok (.ishl, 1) := by decide +kernel
theorem dX12_bribed_70 : decode cX12_bribed 70 = .ok (.goto 4, 3) := by decide +kernel
theorem dX12_bribed_73 : decode cX12_bribed 73 = .ok (.iconst 0, 1) := by decide +kernel
theorem dX12_bribed_74 : decode cX12_bribed 74 = .ok (.ior, 1) := by decide +kernel
theorem dX12_bribed_75 : decode cX12_bribed 75 = .ok (.istore 4, 2) := by decide +kernel
theorem dX12_bribed_77 : decode cX12_bribed 77 = .ok (.iload_n 3, 1) := by decide +kernel
theorem dX12_bribed_78 : decode cX12_bribed 78 = .ok (.iconst 1, 1) := by decide +kernel
theorem dX12_bribed_79 : decode cX12_bribed 79 = .ok (.iload 6, 2) := by decide +kernel
theorem dX12_bribed_81 : decode cX12_bribed 81 = .ok (.ishl, 1) := by decide +kernel
theorem dX12_bribed_82 : decode cX12_bribed 82 = .ok (.ior, 1) := by decide +kernel
theorem dX12_bribed_83 : decode cX12_bribed 83 = .ok (.istore_n 3, 1) := by decide +kernel
theorem dX12_bribed_84 : decode cX12_bribed 84 = .ok (.iinc 5 1, 3) := by decide +kernel
theorem dX12_bribed_87 : decode cX12_bribed 87 = .ok (.goto (-62), 3) := by decide +kernel
theorem dX12_bribed_90 : decode cX12_bribed 90 = .ok (.iload 4, 2) := by decide +kernel
theorem dX12_bribed_92 : decode cX12_bribed 92 = .ok (.ireturn, 1) := by decide +kernel
theorem dX12_runs_0 : decode cX12_runs 0 = .ok (.aload_n 0, 1) := by decide +kernel
theorem dX12_runs_1 : decode cX12_runs 1 = .ok (.aload_n 0, 1) := by decide +kernel
theorem dX12_runs_2 : decode cX12_runs 2 = .ok (.getfield 34, 3) := by decide +kernel
theorem dX12_runs_5 : decode cX12_runs 5 = .ok (.iconst 2, 1) := by decide +kernel
theorem dX12_runs_6 : decode cX12_runs 6 = .ok (.iaload, 1) := by decide +kernel
theorem dX12_runs_7 : decode cX12_runs 7 = .ok (.invokevirtual 325, 3) := by decide +kernel
theorem dX12_runs_10 : decode cX12_runs 10 = .ok (.iconst 0, 1) := by decide +kernel
theorem dX12_runs_11 : decode cX12_runs 11 = .ok (.istore_n 2, 1) := by decide +kernel
theorem dX12_runs_12 : decode cX12_runs 12 = .ok (.iload_n 2, 1) := by decide +kernel
theorem dX12_runs_13 : decode cX12_runs 13 = .ok (.aload_n 0, 1) := by decide +kernel
theorem dX12_runs_14 : decode cX12_runs 14 = .ok (.getfield 13, 3) := by decide +kernel
theorem dX12_runs_17 : decode cX12_runs 17 = .ok (.iload_n 1, 1) := by decide +kernel
theorem dX12_runs_18 : decode cX12_runs 18 = .ok (.iaload, 1) := by decide +kernel
theorem dX12_runs_19 : decode cX12_runs 19 = .ok (.if_icmp .ge 95, 3) := by decide +kernel
theorem dX12_runs_22 : decode cX12_runs 22 = .ok (.aload_n 0, 1) := by decide +kernel
theorem dX12_runs_23 : decode cX12_runs 23 = .ok (.iload_n 1, 1) := by decide +kernel
theorem dX12_runs_24 : decode cX12_runs 24 = .ok (.iload_n 2, 1) := by decide +kernel
theorem dX12_runs_25 : decode cX12_runs 25 = .ok (.invokevirtual 445, 3) := by decide +kernel
theorem dX12_runs_28 : decode cX12_runs 28 = .ok (.istore_n 3, 1) := by decide +kernel
theorem dX12_runs_29 : decode cX12_runs 29 = .ok (.aload_n 0, 1) := by decide +kernel
theorem dX12_runs_30 : decode cX12_runs 30 = .ok (.iload_n 3, 1) := by decide +kernel
theorem dX12_runs_31 : decode cX12_runs 31 = .ok (.invokevirtual 328, 3) := by decide +kernel
theorem dX12_runs_34 : decode cX12_runs 34 = .ok (.istore 4, 2) := by decide +kernel
theorem dX12_runs_36 : decode cX12_runs 36 = .ok (.iload 4, 2) := by decide +kernel
theorem dX12_runs_38 : decode cX12_runs 38 = .ok (.iconst (-1), 1) := by decide +kernel
theorem dX12_runs_39 : decode cX12_runs 39 = .ok (.if_icmp .ne 5, 3) := by decide +kernel
theorem dX12_runs_42 : decode cX12_runs 42 = .ok (.iconst (-1), 1) := by decide +kernel
theorem dX12_runs_43 : decode cX12_runs 43 = .ok (.ireturn, 1) := by decide +kernel
theorem dX12_runs_44 : decode cX12_runs 44 = .ok (.aload_n 0, 1) := by decide +kernel
theorem dX12_runs_45 : decode cX12_runs 45 = .ok (.getfield 83, 3) := by decide +kernel
theorem dX12_runs_48 : decode cX12_runs 48 = .ok (.iload_n 3, 1) := by decide +kernel
theorem dX12_runs_49 : decode cX12_runs 49 = .ok (.dup2, 1) := by decide +kernel
theorem dX12_runs_50 : decode cX12_runs 50 = .ok (.iaload, 1) := by decide +kernel
theorem dX12_runs_51 : decode cX12_runs 51 = .ok (.iload 4, 2) := by decide +kernel
theorem dX12_runs_53 : decode cX12_runs 53 = .ok (.aload_n 0, 1) := by decide +kernel
theorem dX12_runs_54 : decode cX12_runs 54 = .ok (.getfield 300, 3) := by decide +kernel
theorem dX12_runs_57 : decode cX12_runs 57 = .ok (.isub, 1) := by decide +kernel
theorem dX12_runs_58 : decode cX12_runs 58 = .ok (.aload_n 0, 1) := by decide +kernel
theorem dX12_runs_59 : decode cX12_runs 59 = .ok (.getfield 56, 3) := by decide +kernel
theorem dX12_runs_62 : decode cX12_runs 62 = .ok (.bipush 6, 2) := by decide +kernel
theorem dX12_runs_64 : decode cX12_runs 64 = .ok (.aload_n 0, 1) := by decide +kernel
theorem dX12_runs_65 : decode cX12_runs 65 = .ok (.getfield 303, 3) := by decide +kernel
theorem dX12_runs_68 : decode cX12_runs 68 = .ok (.imul, 1) := by decide +kernel
theorem dX12_runs_69 : decode cX12_runs 69 = .ok (.aload_n 0, 1) := by decide +kernel
theorem dX12_runs_70 : decode cX12_runs 70 = .ok (.iload_n 3, 1) := by decide +kernel
theorem dX12_runs_71 : decode cX12_runs 71 = .ok (.iconst 0, 1) := by decide +kernel
theorem dX12_runs_72 : decode cX12_runs 72 = .ok (.invokevirtual 275, 3) := by decide +kernel
theorem dX12_runs_75 : decode cX12_runs 75 = .ok (.iadd, 1) := by decide +kernel
theorem dX12_runs_76 : decode cX12_runs 76 = .ok (.iaload, 1) := by decide +kernel
theorem dX12_runs_77 : decode cX12_runs 77 = .ok (.isub, 1) := by decide +kernel
theorem dX12_runs_78 : decode cX12_runs 78 = .ok (.iadd, 1) := by decide +kernel
theorem dX12_runs_79 : decode cX12_runs 79 = .ok (.iastore, 1) := by decide +kernel
theorem dX12_runs_80 : decode cX12_runs 80 = .ok (.aload_n 0, 1) := by decide +kernel
theorem dX12_runs_81 : decode cX12_runs 81 = .ok (.getfield 318, 3) := by decide +kernel
theorem dX12_runs_84 : decode cX12_runs 84 = .ok (.ifCond .eq 17, 3) := by decide +kernel
theorem dX12_runs_87 : decode cX12_runs 87 = .ok (.aload_n 0, 1) := by decide +kernel
theorem dX12_runs_88 : decode cX12_runs 88 = .ok (.getfield 62, 3) := by decide +kernel
theorem dX12_runs_91 : decode cX12_runs 91 = .ok (.sipush 400, 3) := by decide +kernel
theorem dX12_runs_94 : decode cX12_runs 94 = .ok (.iload_n 3, 1) := by decide +kernel
theorem dX12_runs_95 : decode cX12_runs 95 = .ok (.imul, 1) := by decide +kernel
theorem dX12_runs_96 : decode cX12_runs 96 = .ok (.iload 4, 2) := by decide +kernel
theorem dX12_runs_98 : decode cX12_runs 98 = .ok (.iadd, 1) := by decide +kernel
theorem dX12_runs_99 : decode cX12_runs 99 = .ok (.iconst 1, 1) := by decide +kernel
theorem dX12_runs_100 : decode cX12_runs 100 = .ok (.bastore, 1) := by decide +kernel
theorem dX12_runs_101 : decode cX12_runs 101 = .ok (.aload_n 0, 1) := by decide +kernel
theorem dX12_runs_102 : decode cX12_runs 102 = .ok (.iload_n 3, 1) := by decide +kernel
theorem dX12_runs_103 : decode cX12_runs 103 = .ok (.iload 4, 2) := by decide +kernel
theorem dX12_runs_105 : decode cX12_runs 105 = .ok (.invokevirtual 331, 3) := by decide +kernel
theorem dX12_runs_108 : decode cX12_runs 108 = .ok (.iinc 2 1, 3) := by decide +kernel
theorem dX12_runs_111 : decode cX12_runs 111 = .ok (.goto (-99), 3) := by decide +kernel
theorem dX12_runs_114 : decode cX12_runs 114 = .ok (.aload_n 0, 1) := by decide +kernel
theorem dX12_runs_115 : decode cX12_runs 115 = .ok (.getfield 300, 3) := by decide +kernel
theorem dX12_runs_118 : decode cX12_runs 118 = .ok (.ireturn, 1) := by decide +kernel
theorem dX12_run_0 : decode cX12_run 0 = .ok (.aload_n 0, 1) := by decide +kernel
theorem dX12_run_1 : decode cX12_run 1 = .ok (.iconst 0, 1) := by decide +kernel
theorem dX12_run_2 : decode cX12_run 2 = .ok (.putfield 89, 3) := by decide +kernel
theorem dX12_run_5 : decode cX12_run 5 = .ok (.aload_n 0, 1) := by decide +kernel
theorem dX12_run_6 : decode cX12_run 6 = .ok (.iload_n 1, 1) := by decide +kernel
theorem dX12_run_7 : decode cX12_run 7 = .ok (.invokevirtual 442, 3) := by decide +kernel
theorem dX12_run_10 : decode cX12_run 10 = .ok (.istore_n 2, 1) := by decide +kernel
theorem dX12_run_11 : decode cX12_run 11 = .ok (.iload_n 2, 1) := by decide +kernel
theorem dX12_run_12 : decode cX12_run 12 = .ok (.ifCond .eq 7, 3) := by decide +kernel
theorem dX12_run_15 : decode cX12_run 15 = .ok (.iload_n 2, 1) := by decide +kernel
theorem dX12_run_16 : decode cX12_run 16 = .ok (.goto 8, 3) := by decide +kernel
theorem dX12_run_19 : decode cX12_run 19 = .ok (.aload_n 0, 1) := by decide +kernel
theorem dX12_run_20 : decode cX12_run 20 = .ok (.iload_n 1, 1) := by decide +kernel
theorem dX12_run_21 : decode cX12_run 21 = .ok (.invokevirtual 448, 3) := by decide +kernel
theorem dX12_run_24 : decode cX12_run 24 = .ok (.ireturn, 1) := by decide +kernel
theorem dX12_queues_0 : decode cX12_queues 0 = .ok (.iconst 0, 1) := by decide +kernel
theorem dX12_queues_1 : decode cX12_queues 1 = .ok (.istore_n 3, 1) := by decide +kernel
theorem dX12_queues_2 : decode cX12_queues 2 = .ok (.iload_n 3, 1) := by decide +kernel
theorem dX12_queues_3 : decode cX12_queues 3 = .ok (.sipush 3200, 3) := by decide +kernel
theorem dX12_queues_6 : decode cX12_queues 6 = .ok (.if_icmp .ge 16, 3) := by decide +kernel
theorem dX12_queues_9 : decode cX12_queues 9 = .ok (.aload_n 0, 1) := by decide +kernel
theorem dX12_queues_10 : decode cX12_queues 10 = .ok (.getfield 62, 3) := by decide +kernel
theorem dX12_queues_13 : decode cX12_queues 13 = .ok (.iload_n 3, 1) := by decide +kernel
theorem dX12_queues_14 : decode cX12_queues 14 = .ok (.iconst 0, 1) := by decide +kernel
theorem dX12_queues_15 : decode cX12_queues 15 = .ok (.bastore, 1) := by decide +kernel
theorem dX12_queues_16 : decode cX12_queues 16 = .ok (.iinc 3 1, 3) := by decide +kernel
theorem dX12_queues_19 : decode cX12_queues 19 = .ok (.goto (-17), 3) := by decide +kernel
theorem dX12_queues_22 : decode cX12_queues 22 = .ok (.iconst 0, 1) := by decide +kernel
theorem dX12_queues_23 : decode cX12_queues 23 = .ok (.istore_n 3, 1) := by decide +kernel
theorem dX12_queues_24 : decode cX12_queues 24 = .ok (.iload_n 3, 1) := by decide +kernel
theorem dX12_queues_25 : decode cX12_queues 25 = .ok (.bipush 8, 2) := by decide +kernel
theorem dX12_queues_27 : decode cX12_queues 27 = .ok (.if_icmp .ge 16, 3) := by decide +kernel
theorem dX12_queues_30 : decode cX12_queues 30 = .ok (.aload_n 0, 1) := by decide +kernel
theorem dX12_queues_31 : decode cX12_queues 31 = .ok (.getfield 83, 3) := by decide +kernel
theorem dX12_queues_34 : decode cX12_queues 34 = .ok (.iload_n 3, 1) := by decide +kernel
theorem dX12_queues_35 : decode cX12_queues 35 = .ok (.iconst 0, 1) := by decide +kernel
theorem dX12_queues_36 : decode cX12_queues 36 = .ok (.iastore, 1) := by decide +kernel
theorem dX12_queues_37 : decode cX12_queues 37 = .ok (.iinc 3 1, 3) := by decide +kernel
theorem dX12_queues_40 : decode cX12_queues 40 = .ok (.goto (-16), 3) := by decide +kernel
theorem dX12_queues_43 : decode cX12_queues 43 = .ok (.aload_n 0, 1) := by decide +kernel
theorem dX12_queues_44 : decode cX12_queues 44 = .ok (.iconst 1, 1) := by decide +kernel
theorem dX12_queues_45 : decode cX12_queues 45 = .ok (.putfield 318, 3) := by decide +kernel
theorem dX12_queues_48 : decode cX12_queues 48 = .ok (.iconst 0, 1) := by decide +kernel
theorem dX12_queues_49 : decode cX12_queues 49 = .ok (.istore_n 3, 1) := by decide +kernel
theorem dX12_queues_50 : decode cX12_queues 50 = .ok (.iload_n 3, 1) := by decide +kernel
theorem dX12_queues_51 : decode cX12_queues 51 = .ok (.iload_n 2, 1) := by decide +kernel
theorem dX12_queues_52 : decode cX12_queues 52 = .ok (.if_icmp .ge 20, 3) := by decide +kernel
theorem dX12_queues_55 : decode cX12_queues 55 = .ok (.aload_n 0, 1) := by decide +kernel
theorem dX12_queues_56 : decode cX12_queues 56 = .ok (.getfield 86, 3) := by decide +kernel
theorem dX12_queues_59 : decode cX12_queues 59 = .ok (.iload_n 3, 1) := by decide +kernel
theorem dX12_queues_60 : decode cX12_queues 60 = .ok (.aload_n 0, 1) := by decide +kernel
theorem dX12_queues_61 : decode cX12_queues 61 = .ok (.iload_n 1, 1) := by decide +kernel
theorem dX12_queues_62 : decode cX12_queues 62 = .ok (.invokevirtual 448, 3) := by decide +kernel
theorem dX12_queues_65 : decode cX12_queues 65 = .ok (.iastore, 1) := by decide +kernel
theorem dX12_queues_66 : decode cX12_queues 66 = .ok (.iinc 3 1, 3) := by decide +kernel
theorem dX12_queues_69 : decode cX12_queues 69 = .ok (.goto (-19), 3) := by decide +kernel
theorem dX12_queues_72 : decode cX12_queues 72 = .ok (.aload_n 0, 1) := by decide +kernel
theorem dX12_queues_73 : decode cX12_queues 73 = .ok (.iconst 0, 1) := by decide +kernel
theorem dX12_queues_74 : decode cX12_queues 74 = .ok (.putfield 318, 3) := by decide +kernel
theorem dX12_queues_77 : decode cX12_queues 77 = .ok (.return_, 1) := by decide +kernel
theorem dX12_lastOf_0 : decode cX12_lastOf 0 = .ok (.iconst 0, 1) := by decide +kernel
theorem dX12_lastOf_1 : decode cX12_lastOf 1 = .ok (.istore_n 2, 1) := by decide +kernel
theorem dX12_lastOf_2 : decode cX12_lastOf 2 = .ok (.iconst 0, 1) := by decide +kernel
theorem dX12_lastOf_3 : decode cX12_lastOf 3 = .ok (.istore_n 3, 1) := by decide +kernel
theorem dX12_lastOf_4 : decode cX12_lastOf 4 = .ok (.iload_n 3, 1) := by decide +kernel
theorem dX12_lastOf_5 : decode cX12_lastOf 5 = .ok (.iload_n 1, 1) := by decide +kernel
theorem dX12_lastOf_6 : decode cX12_lastOf 6 = .ok (.if_icmp .ge 42, 3) := by decide +kernel
theorem dX12_lastOf_9 : decode cX12_lastOf 9 = .ok (.aload_n 0, 1) := by decide +kernel
theorem dX12_lastOf_10 : decode cX12_lastOf 10 = .ok (.getfield 86, 3) := by decide +kernel
theorem dX12_lastOf_13 : decode cX12_lastOf 13 = .ok (.iload_n 3, 1) := by decide +kernel
theorem dX12_lastOf_14 : decode cX12_lastOf 14 = .ok (.iaload, 1) := by decide +kernel
theorem dX12_lastOf_15 : decode cX12_lastOf 15 = .ok (.iconst (-1), 1) := by decide +kernel
theorem dX12_lastOf_16 : decode cX12_lastOf 16 = .ok (.if_icmp .ne 5, 3) := by decide +kernel
theorem dX12_lastOf_19 : decode cX12_lastOf 19 = .ok (.iconst (-1), 1) := by decide +kernel
theorem dX12_lastOf_20 : decode cX12_lastOf 20 = .ok (.ireturn, 1) := by decide +kernel
theorem dX12_lastOf_21 : decode cX12_lastOf 21 = .ok (.aload_n 0, 1) := by decide +kernel
theorem dX12_lastOf_22 : decode cX12_lastOf 22 = .ok (.getfield 86, 3) := by decide +kernel
theorem dX12_lastOf_25 : decode cX12_lastOf 25 = .ok (.iload_n 3, 1) := by decide +kernel
theorem dX12_lastOf_26 : decode cX12_lastOf 26 = .ok (.iaload, 1) := by decide +kernel
theorem dX12_lastOf_27 : decode cX12_lastOf 27 = .ok (.iload_n 2, 1) := by decide +kernel
theorem dX12_lastOf_28 : decode cX12_lastOf 28 = .ok (.if_icmp .le 12, 3) := by decide +kernel
theorem dX12_lastOf_31 : decode cX12_lastOf 31 = .ok (.aload_n 0, 1) := by decide +kernel
theorem dX12_lastOf_32 : decode cX12_lastOf 32 = .ok (.getfield 86, 3) := by decide +kernel
theorem dX12_lastOf_35 : decode cX12_lastOf 35 = .ok (.iload_n 3, 1) := by decide +kernel
theorem dX12_lastOf_36 : decode cX12_lastOf 36 = .ok (.iaload, 1) := by decide +kernel
theorem dX12_lastOf_37 : decode cX12_lastOf 37 = .ok (.goto 4, 3) := by decide +kernel
theorem dX12_lastOf_40 : decode cX12_lastOf 40 = .ok (.iload_n 2, 1) := by decide +kernel
theorem dX12_lastOf_41 : decode cX12_lastOf 41 = .ok (.istore_n 2, 1) := by decide +kernel
theorem dX12_lastOf_42 : decode cX12_lastOf 42 = .ok (.iinc 3 1, 3) := by decide +kernel
theorem dX12_lastOf_45 : decode cX12_lastOf 45 = .ok (.goto (-41), 3) := by decide +kernel
theorem dX12_lastOf_48 : decode cX12_lastOf 48 = .ok (.iload_n 2, 1) := by decide +kernel
theorem dX12_lastOf_49 : decode cX12_lastOf 49 = .ok (.ireturn, 1) := by decide +kernel
theorem dX12_queue_0 : decode cX12_queue 0 = .ok (.aload_n 0, 1) := by decide +kernel
theorem dX12_queue_1 : decode cX12_queue 1 = .ok (.iconst 0, 1) := by decide +kernel
theorem dX12_queue_2 : decode cX12_queue 2 = .ok (.putfield 89, 3) := by decide +kernel
theorem dX12_queue_5 : decode cX12_queue 5 = .ok (.iload_n 2, 1) := by decide +kernel
theorem dX12_queue_6 : decode cX12_queue 6 = .ok (.i2l, 1) := by decide +kernel
theorem dX12_queue_7 : decode cX12_queue 7 = .ok (.lconst 1, 1) := by decide +kernel
theorem dX12_queue_8 : decode cX12_queue 8 = .ok (.ldc2_w 451, 3) := by decide +kernel
theorem dX12_queue_11 : decode cX12_queue 11 = .ok (.invokestatic 94, 3) := by decide +kernel
theorem dX12_queue_14 : decode cX12_queue 14 = .ok (.ifCond .eq 11, 3) := by decide +kernel
theorem dX12_queue_17 : decode cX12_queue 17 = .ok (.aload_n 0, 1) := by decide +kernel
theorem dX12_queue_18 : decode cX12_queue 18 = .ok (.iload_n 1, 1) := by decide +kernel
theorem dX12_queue_19 : decode cX12_queue 19 = .ok (.invokevirtual 442, 3) := by decide +kernel
theorem dX12_queue_22 : decode cX12_queue 22 = .ok (.goto 5, 3) := by decide +kernel
theorem dX12_queue_25 : decode cX12_queue 25 = .ok (.bipush (-2), 2) := by decide +kernel
theorem dX12_queue_27 : decode cX12_queue 27 = .ok (.istore_n 3, 1) := by decide +kernel
theorem dX12_queue_28 : decode cX12_queue 28 = .ok (.iload_n 3, 1) := by decide +kernel
theorem dX12_queue_29 : decode cX12_queue 29 = .ok (.ifCond .eq 5, 3) := by decide +kernel
theorem dX12_queue_32 : decode cX12_queue 32 = .ok (.iload_n 3, 1) := by decide +kernel
theorem dX12_queue_33 : decode cX12_queue 33 = .ok (.ireturn, 1) := by decide +kernel
theorem dX12_queue_34 : decode cX12_queue 34 = .ok (.aload_n 0, 1) := by decide +kernel
theorem dX12_queue_35 : decode cX12_queue 35 = .ok (.iload_n 1, 1) := by decide +kernel
theorem dX12_queue_36 : decode cX12_queue 36 = .ok (.iload_n 2, 1) := by decide +kernel
theorem dX12_queue_37 : decode cX12_queue 37 = .ok (.invokevirtual 453, 3) := by decide +kernel
theorem dX12_queue_40 : decode cX12_queue 40 = .ok (.aload_n 0, 1) := by decide +kernel
theorem dX12_queue_41 : decode cX12_queue 41 = .ok (.iload_n 2, 1) := by decide +kernel
theorem dX12_queue_42 : decode cX12_queue 42 = .ok (.invokevirtual 456, 3) := by decide +kernel
theorem dX12_queue_45 : decode cX12_queue 45 = .ok (.ireturn, 1) := by decide +kernel
theorem dX12_served_0 : decode cX12_served 0 = .ok (.aload_n 0, 1) := by decide +kernel
theorem dX12_served_1 : decode cX12_served 1 = .ok (.iconst 0, 1) := by decide +kernel
theorem dX12_served_2 : decode cX12_served 2 = .ok (.putfield 89, 3) := by decide +kernel
theorem dX12_served_5 : decode cX12_served 5 = .ok (.iload_n 2, 1) := by decide +kernel
theorem dX12_served_6 : decode cX12_served 6 = .ok (.i2l, 1) := by decide +kernel
theorem dX12_served_7 : decode cX12_served 7 = .ok (.lconst 0, 1) := by decide +kernel
theorem dX12_served_8 : decode cX12_served 8 = .ok (.ldc2_w 459, 3) := by decide +kernel
theorem dX12_served_11 : decode cX12_served 11 = .ok (.invokestatic 94, 3) := by decide +kernel
theorem dX12_served_14 : decode cX12_served 14 = .ok (.ifCond .eq 11, 3) := by decide +kernel
theorem dX12_served_17 : decode cX12_served 17 = .ok (.aload_n 0, 1) := by decide +kernel
theorem dX12_served_18 : decode cX12_served 18 = .ok (.iload_n 1, 1) := by decide +kernel
theorem dX12_served_19 : decode cX12_served 19 = .ok (.invokevirtual 442, 3) := by decide +kernel
theorem dX12_served_22 : decode cX12_served 22 = .ok (.goto 5, 3) := by decide +kernel
theorem dX12_served_25 : decode cX12_served 25 = .ok (.bipush (-2), 2) := by decide +kernel
theorem dX12_served_27 : decode cX12_served 27 = .ok (.istore_n 3, 1) := by decide +kernel
theorem dX12_served_28 : decode cX12_served 28 = .ok (.iload_n 3, 1) := by decide +kernel
theorem dX12_served_29 : decode cX12_served 29 = .ok (.ifCond .eq 5, 3) := by decide +kernel
theorem dX12_served_32 : decode cX12_served 32 = .ok (.iload_n 3, 1) := by decide +kernel
theorem dX12_served_33 : decode cX12_served 33 = .ok (.ireturn, 1) := by decide +kernel
theorem dX12_served_34 : decode cX12_served 34 = .ok (.aload_n 0, 1) := by decide +kernel
theorem dX12_served_35 : decode cX12_served 35 = .ok (.iload_n 1, 1) := by decide +kernel
theorem dX12_served_36 : decode cX12_served 36 = .ok (.bipush 9, 2) := by decide +kernel
theorem dX12_served_38 : decode cX12_served 38 = .ok (.invokevirtual 453, 3) := by decide +kernel
theorem dX12_served_41 : decode cX12_served 41 = .ok (.iconst 0, 1) := by decide +kernel
theorem dX12_served_42 : decode cX12_served 42 = .ok (.istore 4, 2) := by decide +kernel
theorem dX12_served_44 : decode cX12_served 44 = .ok (.iconst 0, 1) := by decide +kernel
theorem dX12_served_45 : decode cX12_served 45 = .ok (.istore 5, 2) := by decide +kernel
theorem dX12_served_47 : decode cX12_served 47 = .ok (.iload 5, 2) := by decide +kernel
theorem dX12_served_49 : decode cX12_served 49 = .ok (.bipush 9, 2) := by decide +kernel
theorem dX12_served_51 : decode cX12_served 51 = .ok (.if_icmp .ge 41, 3) := by decide +kernel
theorem dX12_served_54 : decode cX12_served 54 = .ok (.iload 4, 2) := by decide +kernel
theorem dX12_served_56 : decode cX12_served 56 = .ok (.aload_n 0, 1) := by decide +kernel
theorem dX12_served_57 : decode cX12_served 57 = .ok (.getfield 86, 3) := by decide +kernel
theorem dX12_served_60 : decode cX12_served 60 = .ok (.iload 5, 2) := by decide +kernel
theorem dX12_served_62 : decode cX12_served 62 = .ok (.iaload, 1) := by decide +kernel
theorem dX12_served_63 : decode cX12_served 63 = .ok (.iconst (-1), 1) := by decide +kernel
theorem dX12_served_64 : decode cX12_served 64 = .ok (.if_icmp .eq 18, 3) := by decide +kernel
theorem dX12_served_67 : decode cX12_served 67 = .ok (.aload_n 0, 1) := by decide +kernel
theorem dX12_served_68 : decode cX12_served 68 = .ok (.getfield 86, 3) := by decide +kernel
theorem dX12_served_71 : decode cX12_served 71 = .ok (.iload 5, 2) := by decide +kernel
theorem dX12_served_73 : decode cX12_served 73 = .ok (.iaload, 1) := by decide +kernel
theorem dX12_served_74 : decode cX12_served 74 = .ok (.iload_n 2, 1) := by decide +kernel
theorem dX12_served_75 : decode cX12_served 75 = .ok (.if_icmp .gt 7, 3) := by decide +kernel
theorem dX12_served_78 : decode cX12_served 78 = .ok (.iconst 1, 1) := by decide +kernel
theorem dX12_served_79 : decode cX12_served 79 = .ok (.goto 4, 3) := by decide +kernel
theorem dX12_served_82 : decode cX12_served 82 = .ok (.iconst 0, 1) := by decide +kernel
theorem dX12_served_83 : decode cX12_served 83 = .ok (.iadd, 1) := by decide +kernel
theorem dX12_served_84 : decode cX12_served 84 = .ok (.istore 4, 2) := by decide +kernel
theorem dX12_served_86 : decode cX12_served 86 = .ok (.iinc 5 1, 3) := by decide +kernel
theorem dX12_served_89 : decode cX12_served 89 = .ok (.goto (-42), 3) := by decide +kernel
theorem dX12_served_92 : decode cX12_served 92 = .ok (.iload 4, 2) := by decide +kernel
theorem dX12_served_94 : decode cX12_served 94 = .ok (.ireturn, 1) := by decide +kernel
theorem dX12_chair_0 : decode cX12_chair 0 = .ok (.aload_n 0, 1) := by decide +kernel
theorem dX12_chair_1 : decode cX12_chair 1 = .ok (.iconst 0, 1) := by decide +kernel
theorem dX12_chair_2 : decode cX12_chair 2 = .ok (.putfield 89, 3) := by decide +kernel
theorem dX12_chair_5 : decode cX12_chair 5 = .ok (.aload_n 0, 1) := by decide +kernel
theorem dX12_chair_6 : decode cX12_chair 6 = .ok (.iload_n 1, 1) := by decide +kernel
theorem dX12_chair_7 : decode cX12_chair 7 = .ok (.invokevirtual 442, 3) := by decide +kernel
theorem dX12_chair_10 : decode cX12_chair 10 = .ok (.istore_n 2, 1) := by decide +kernel
theorem dX12_chair_11 : decode cX12_chair 11 = .ok (.iload_n 2, 1) := by decide +kernel
theorem dX12_chair_12 : decode cX12_chair 12 = .ok (.ifCond .eq 5, 3) := by decide +kernel
theorem dX12_chair_15 : decode cX12_chair 15 = .ok (.iload_n 2, 1) := by decide +kernel
theorem dX12_chair_16 : decode cX12_chair 16 = .ok (.ireturn, 1) := by decide +kernel
theorem dX12_chair_17 : decode cX12_chair 17 = .ok (.aload_n 0, 1) := by decide +kernel
theorem dX12_chair_18 : decode cX12_chair 18 = .ok (.iload_n 1, 1) := by decide +kernel
theorem dX12_chair_19 : decode cX12_chair 19 = .ok (.bipush 9, 2) := by decide +kernel
theorem dX12_chair_21 : decode cX12_chair 21 = .ok (.invokevirtual 453, 3) := by decide +kernel
theorem dX12_chair_24 : decode cX12_chair 24 = .ok (.aload_n 0, 1) := by decide +kernel
theorem dX12_chair_25 : decode cX12_chair 25 = .ok (.bipush 9, 2) := by decide +kernel
theorem dX12_chair_27 : decode cX12_chair 27 = .ok (.invokevirtual 456, 3) := by decide +kernel
theorem dX12_chair_30 : decode cX12_chair 30 = .ok (.iconst (-1), 1) := by decide +kernel
theorem dX12_chair_31 : decode cX12_chair 31 = .ok (.if_icmp .ne 5, 3) := by decide +kernel
theorem dX12_chair_34 : decode cX12_chair 34 = .ok (.iconst (-1), 1) := by decide +kernel
theorem dX12_chair_35 : decode cX12_chair 35 = .ok (.ireturn, 1) := by decide +kernel
theorem dX12_chair_36 : decode cX12_chair 36 = .ok (.iconst (-1), 1) := by decide +kernel
theorem dX12_chair_37 : decode cX12_chair 37 = .ok (.istore_n 3, 1) := by decide +kernel
theorem dX12_chair_38 : decode cX12_chair 38 = .ok (.iconst 0, 1) := by decide +kernel
theorem dX12_chair_39 : decode cX12_chair 39 = .ok (.istore 4, 2) := by decide +kernel
theorem dX12_chair_41 : decode cX12_chair 41 = .ok (.iload 4, 2) := by decide +kernel
theorem dX12_chair_43 : decode cX12_chair 43 = .ok (.aload_n 0, 1) := by decide +kernel
theorem dX12_chair_44 : decode cX12_chair 44 = .ok (.getfield 34, 3) := by decide +kernel
theorem dX12_chair_47 : decode cX12_chair 47 = .ok (.iconst 3, 1) := by decide +kernel
theorem dX12_chair_48 : decode cX12_chair 48 = .ok (.iaload, 1) := by decide +kernel
theorem dX12_chair_49 : decode cX12_chair 49 = .ok (.if_icmp .ge 85, 3) := by decide +kernel
theorem dX12_chair_52 : decode cX12_chair 52 = .ok (.iconst 0, 1) := by decide +kernel
theorem dX12_chair_53 : decode cX12_chair 53 = .ok (.istore 5, 2) := by decide +kernel
theorem dX12_chair_55 : decode cX12_chair 55 = .ok (.iconst 0, 1) := by decide +kernel
theorem dX12_chair_56 : decode cX12_chair 56 = .ok (.istore 6, 2) := by decide +kernel
theorem dX12_chair_58 : decode cX12_chair 58 = .ok (.iload 6, 2) := by decide +kernel
theorem dX12_chair_60 : decode cX12_chair 60 = .ok (.aload_n 0, 1) := by decide +kernel
theorem dX12_chair_61 : decode cX12_chair 61 = .ok (.getfield 13, 3) := by decide +kernel
theorem dX12_chair_64 : decode cX12_chair 64 = .ok (.iload_n 1, 1) := by decide +kernel
theorem dX12_chair_65 : decode cX12_chair 65 = .ok (.iaload, 1) := by decide +kernel
theorem dX12_chair_66 : decode cX12_chair 66 = .ok (.if_icmp .ge 33, 3) := by decide +kernel
theorem dX12_chair_69 : decode cX12_chair 69 = .ok (.iload 5, 2) := by decide +kernel
theorem dX12_chair_71 : decode cX12_chair 71 = .ok (.ifCond .ne 15, 3) := by decide +kernel
theorem dX12_chair_74 : decode cX12_chair 74 = .ok (.aload_n 0, 1) := by decide +kernel
theorem dX12_chair_75 : decode cX12_chair 75 = .ok (.iload_n 1, 1) := by decide +kernel
theorem dX12_chair_76 : decode cX12_chair 76 = .ok (.iload 6, 2) := by decide +kernel
theorem dX12_chair_78 : decode cX12_chair 78 = .ok (.invokevirtual 445, 3) := by decide +kernel
theorem dX12_chair_81 : decode cX12_chair 81 = .ok (.iload 4, 2) := by decide +kernel
theorem dX12_chair_83 : decode cX12_chair 83 = .ok (.if_icmp .ne 7, 3) := by decide +kernel
theorem dX12_chair_86 : decode cX12_chair 86 = .ok (.iconst 1, 1) := by decide +kernel
theorem dX12_chair_87 : decode cX12_chair 87 = .ok (.goto 4, 3) := by decide +kernel
theorem dX12_chair_90 : decode cX12_chair 90 = .ok (.iconst 0, 1) := by decide +kernel
theorem dX12_chair_91 : decode cX12_chair 91 = .ok (.istore 5, 2) := by decide +kernel
theorem dX12_chair_93 : decode cX12_chair 93 = .ok (.iinc 6 1, 3) := by decide +kernel
theorem dX12_chair_96 : decode cX12_chair 96 = .ok (.goto (-38), 3) := by decide +kernel
theorem dX12_chair_99 : decode cX12_chair 99 = .ok (.iload 5, 2) := by decide +kernel
theorem dX12_chair_101 : decode cX12_chair 101 = .ok (.ifCond .eq 27, 3) := by decide +kernel
theorem dX12_chair_104 : decode cX12_chair 104 = .ok (.iload_n 3, 1) := by decide +kernel
theorem dX12_chair_105 : decode cX12_chair 105 = .ok (.iconst (-1), 1) := by decide +kernel
theorem dX12_chair_106 : decode cX12_chair 106 = .ok (.if_icmp .eq 19, 3) := by decide +kernel
theorem dX12_chair_109 : decode cX12_chair 109 = .ok (.aload_n 0, 1) := by decide +kernel
theorem dX12_chair_110 : decode cX12_chair 110 = .ok (.getfield 83, 3) := by decide +kernel
theorem dX12_chair_113 : decode cX12_chair 113 = .ok (.iload 4, 2) := by decide +kernel
theorem dX12_chair_115 : decode cX12_chair 115 = .ok (.iaload, 1) := by decide +kernel
theorem dX12_chair_116 : decode cX12_chair 116 = .ok (.aload_n 0, 1) := by decide +kernel
theorem dX12_chair_117 : decode cX12_chair 117 = .ok (.getfield 83, 3) := by decide +kernel
theorem dX12_chair_120 : decode cX12_chair 120 = .ok (.iload_n 3, 1) := by decide +kernel
theorem dX12_chair_121 : decode cX12_chair 121 = .ok (.iaload, 1) := by decide +kernel
theorem dX12_chair_122 : decode cX12_chair 122 = .ok (.if_icmp .le 6, 3) := by decide +kernel
theorem dX12_chair_125 : decode cX12_chair 125 = .ok (.iload 4, 2) := by decide +kernel
theorem dX12_chair_127 : decode cX12_chair 127 = .ok (.istore_n 3, 1) := by decide +kernel
theorem dX12_chair_128 : decode cX12_chair 128 = .ok (.iinc 4 1, 3) := by decide +kernel
theorem dX12_chair_131 : decode cX12_chair 131 = .ok (.goto (-90), 3) := by decide +kernel
theorem dX12_chair_134 : decode cX12_chair 134 = .ok (.iload_n 3, 1) := by decide +kernel
theorem dX12_chair_135 : decode cX12_chair 135 = .ok (.ireturn, 1) := by decide +kernel
theorem dX12_draws_0 : decode cX12_draws 0 = .ok (.aload_n 0, 1) := by decide +kernel
theorem dX12_draws_1 : decode cX12_draws 1 = .ok (.invokevirtual 334, 3) := by decide +kernel
theorem dX12_draws_4 : decode cX12_draws 4 = .ok (.lload_n 1, 1) := by decide +kernel
theorem dX12_draws_5 : decode cX12_draws 5 = .ok (.lstore_n 3, 1) := by decide +kernel
theorem dX12_draws_6 : decode cX12_draws 6 = .ok (.aload_n 0, 1) := by decide +kernel
theorem dX12_draws_7 : decode cX12_draws 7 = .ok (.invokevirtual 337, 3) := by decide +kernel
theorem dX12_draws_10 : decode cX12_draws 10 = .ok (.istore 5, 2) := by decide +kernel
theorem dX12_draws_12 : decode cX12_draws 12 = .ok (.aload_n 0, 1) := by decide +kernel
theorem dX12_draws_13 : decode cX12_draws 13 = .ok (.iconst 0, 1) := by decide +kernel
theorem dX12_draws_14 : decode cX12_draws 14 = .ok (.putfield 461, 3) := by decide +kernel
theorem dX12_draws_17 : decode cX12_draws 17 = .ok (.aload_n 0, 1) := by decide +kernel
theorem dX12_draws_18 : decode cX12_draws 18 = .ok (.invokevirtual 345, 3) := by decide +kernel
theorem dX12_draws_21 : decode cX12_draws 21 = .ok (.ifCond .ne 128, 3) := by decide +kernel
theorem dX12_draws_24 : decode cX12_draws 24 = .ok (.aload_n 0, 1) := by decide +kernel
theorem dX12_draws_25 : decode cX12_draws 25 = .ok (.invokevirtual 340, 3) := by decide +kernel
theorem dX12_draws_28 : decode cX12_draws 28 = .ok (.iload 5, 2) := by decide +kernel
theorem dX12_draws_30 : decode cX12_draws 30 = .ok (.iconst (-1), 1) := by decide +kernel
theorem dX12_draws_31 : decode cX12_draws 31 = .ok (.ixor, 1) := by decide +kernel
theorem dX12_draws_32 : decode cX12_draws 32 = .ok (.iand, 1) := by decide +kernel
theorem dX12_draws_33 : decode cX12_draws 33 = .ok (.istore 6, 2) := by decide +kernel
theorem dX12_draws_35 : decode cX12_draws 35 = .ok (.iload 6, 2) := by decide +kernel
theorem dX12_draws_37 : decode cX12_draws 37 = .ok (.ifCond .ne 5, 3) := by decide +kernel
theorem dX12_draws_40 : decode cX12_draws 40 = .ok (.iconst (-1), 1) := by decide +kernel
theorem dX12_draws_41 : decode cX12_draws 41 = .ok (.ireturn, 1) := by decide +kernel
theorem dX12_draws_42 : decode cX12_draws 42 = .ok (.ldc2_w 464, 3) := by decide +kernel
theorem dX12_draws_45 : decode cX12_draws 45 = .ok (.lload_n 3, 1) := by decide +kernel
theorem dX12_draws_46 : decode cX12_draws 46 = .ok (.lmul, 1) := by decide +kernel
theorem dX12_draws_47 : decode cX12_draws 47 = .ok (.ldc2_w 466, 3) := by decide +kernel
theorem dX12_draws_50 : decode cX12_draws 50 = .ok (.ladd, 1) := by decide +kernel
theorem dX12_draws_51 : decode cX12_draws 51 = .ok (.ldc2_w 468, 3) := by decide +kernel
theorem dX12_draws_54 : decode cX12_draws 54 = .ok (.lrem, 1) := by decide +kernel
theorem dX12_draws_55 : decode cX12_draws 55 = .ok (.lstore_n 3, 1) := by decide +kernel
theorem dX12_draws_56 : decode cX12_draws 56 = .ok (.lload_n 3, 1) := by decide +kernel
theorem dX12_draws_57 : decode cX12_draws 57 = .ok (.ldc2_w 470, 3) := by decide +kernel
theorem dX12_draws_60 : decode cX12_draws 60 = .ok (.ldiv, 1) := by decide +kernel
theorem dX12_draws_61 : decode cX12_draws 61 = .ok (.iload 6, 2) := by decide +kernel
theorem dX12_draws_63 : decode cX12_draws 63 = .ok (.invokestatic 426, 3) := by decide +kernel
theorem dX12_draws_66 : decode cX12_draws 66 = .ok (.i2l, 1) := by decide +kernel
theorem dX12_draws_67 : decode cX12_draws 67 = .ok (.lrem, 1) := by decide +kernel
theorem dX12_draws_68 : decode cX12_draws 68 = .ok (.l2i, 1) := by decide +kernel
theorem dX12_draws_69 : decode cX12_draws 69 = .ok (.istore 7, 2) := by decide +kernel
theorem dX12_draws_71 : decode cX12_draws 71 = .ok (.iconst 0, 1) := by decide +kernel
theorem dX12_draws_72 : decode cX12_draws 72 = .ok (.istore 8, 2) := by decide +kernel
theorem dX12_draws_74 : decode cX12_draws 74 = .ok (.iload 7, 2) := by decide +kernel
theorem dX12_draws_76 : decode cX12_draws 76 = .ok (.ifCond .gt 13, 3) := by decide +kernel
theorem dX12_draws_79 : decode cX12_draws 79 = .ok (.iload 6, 2) := by decide +kernel
theorem dX12_draws_81 : decode cX12_draws 81 = .ok (.iload 8, 2) := by decide +kernel
theorem dX12_draws_83 : decode cX12_draws 83 = .ok (.invokestatic 278, 3) := by decide +kernel
theorem dX12_draws_86 : decode cX12_draws 86 = .ok (.ifCond .ne 29, 3) := by decide +kernel
theorem dX12_draws_89 : decode cX12_draws 89 = .ok (.iload 7, 2) := by decide +kernel
theorem dX12_draws_91 : decode cX12_draws 91 = .ok (.iload 6, 2) := by decide +kernel
theorem dX12_draws_93 : decode cX12_draws 93 = .ok (.iload 8, 2) := by decide +kernel
theorem dX12_draws_95 : decode cX12_draws 95 = .ok (.invokestatic 278, 3) := by decide +kernel
theorem dX12_draws_98 : decode cX12_draws 98 = .ok (.ifCond .eq 7, 3) := by decide +kernel
theorem dX12_draws_101 : decode cX12_draws 101 = .ok (.iconst 1, 1) := by decide +kernel
theorem dX12_draws_102 : decode cX12_draws 102 = .ok (.goto 4, 3) := by decide +kernel
theorem dX12_draws_105 : decode cX12_draws 105 = .ok (.iconst 0, 1) := by decide +kernel
theorem dX12_draws_106 : decode cX12_draws 106 = .ok (.isub, 1) := by decide +kernel
theorem dX12_draws_107 : decode cX12_draws 107 = .ok (.istore 7, 2) := by decide +kernel
theorem dX12_draws_109 : decode cX12_draws 109 = .ok (.iinc 8 1, 3) := by decide +kernel
theorem dX12_draws_112 : decode cX12_draws 112 = .ok (.goto (-38), 3) := by decide +kernel
theorem dX12_draws_115 : decode cX12_draws 115 = .ok (.aload_n 0, 1) := by decide +kernel
theorem dX12_draws_116 : decode cX12_draws 116 = .ok (.iload 8, 2) := by decide +kernel
theorem dX12_draws_118 : decode cX12_draws 118 = .ok (.aload_n 0, 1) := by decide +kernel
theorem dX12_draws_119 : decode cX12_draws 119 = .ok (.iload 8, 2) := by decide +kernel
theorem dX12_draws_121 : decode cX12_draws 121 = .ok (.invokevirtual 328, 3) := by decide +kernel
theorem dX12_draws_124 : decode cX12_draws 124 = .ok (.invokevirtual 331, 3) := by decide +kernel
theorem dX12_draws_127 : decode cX12_draws 127 = .ok (.iload 5, 2) := by decide +kernel
theorem dX12_draws_129 : decode cX12_draws 129 = .ok (.iconst 1, 1) := by decide +kernel
theorem dX12_draws_130 : decode cX12_draws 130 = .ok (.iload 8, 2) := by decide +kernel
theorem dX12_draws_132 : decode cX12_draws 132 = .ok (.ishl, 1) := by decide +kernel
theorem dX12_draws_133 : decode cX12_draws 133 = .ok (.ior, 1) := by decide +kernel
theorem dX12_draws_134 : decode cX12_draws 134 = .ok (.istore 5, 2) := by decide +kernel
theorem dX12_draws_136 : decode cX12_draws 136 = .ok (.aload_n 0, 1) := by decide +kernel
theorem dX12_draws_137 : decode cX12_draws 137 = .ok (.dup, 1) := by decide +kernel
theorem dX12_draws_138 : decode cX12_draws 138 = .ok (.getfield 461, 3) := by decide +kernel
theorem dX12_draws_141 : decode cX12_draws 141 = .ok (.iconst 1, 1) := by decide +kernel
theorem dX12_draws_142 : decode cX12_draws 142 = .ok (.iadd, 1) := by decide +kernel
theorem dX12_draws_143 : decode cX12_draws 143 = .ok (.putfield 461, 3) := by decide +kernel
theorem dX12_draws_146 : decode cX12_draws 146 = .ok (.goto (-129), 3) := by decide +kernel
theorem dX12_draws_149 : decode cX12_draws 149 = .ok (.aload_n 0, 1) := by decide +kernel
theorem dX12_draws_150 : decode cX12_draws 150 = .ok (.getfield 300, 3) := by decide +kernel
theorem dX12_draws_153 : decode cX12_draws 153 = .ok (.ireturn, 1) := by decide +kernel
theorem dX12_isSeed_0 : decode cX12_isSeed 0 = .ok (.aload_n 0, 1) := by decide +kernel
theorem dX12_isSeed_1 : decode cX12_isSeed 1 = .ok (.invokevirtual 267, 3) := by decide +kernel
theorem dX12_isSeed_4 : decode cX12_isSeed 4 = .ok (.ifCond .eq 19, 3) := by decide +kernel
theorem dX12_isSeed_7 : decode cX12_isSeed 7 = .ok (.iload_n 1, 1) := by decide +kernel
theorem dX12_isSeed_8 : decode cX12_isSeed 8 = .ok (.i2l, 1) := by decide +kernel
theorem dX12_isSeed_9 : decode cX12_isSeed 9 = .ok (.lconst 0, 1) := by decide +kernel
theorem dX12_isSeed_10 : decode cX12_isSeed 10 = .ok (.ldc2_w 472, 3) := by decide +kernel
theorem dX12_isSeed_13 : decode cX12_isSeed 13 = .ok (.invokestatic 94, 3) := by decide +kernel
theorem dX12_isSeed_16 : decode cX12_isSeed 16 = .ok (.ifCond .eq 7, 3) := by decide +kernel
theorem dX12_isSeed_19 : decode cX12_isSeed 19 = .ok (.iconst 1, 1) := by decide +kernel
theorem dX12_isSeed_20 : decode cX12_isSeed 20 = .ok (.goto 4, 3) := by decide +kernel
theorem dX12_isSeed_23 : decode cX12_isSeed 23 = .ok (.iconst 0, 1) := by decide +kernel
theorem dX12_isSeed_24 : decode cX12_isSeed 24 = .ok (.ireturn, 1) := by decide +kernel
theorem dX12_blind_0 : decode cX12_blind 0 = .ok (.aload_n 0, 1) := by decide +kernel
theorem dX12_blind_1 : decode cX12_blind 1 = .ok (.iconst 0, 1) := by decide +kernel
theorem dX12_blind_2 : decode cX12_blind 2 = .ok (.putfield 89, 3) := by decide +kernel
theorem dX12_blind_5 : decode cX12_blind 5 = .ok (.aload_n 0, 1) := by decide +kernel
theorem dX12_blind_6 : decode cX12_blind 6 = .ok (.iload_n 1, 1) := by decide +kernel
theorem dX12_blind_7 : decode cX12_blind 7 = .ok (.invokevirtual 474, 3) := by decide +kernel
theorem dX12_blind_10 : decode cX12_blind 10 = .ok (.ifCond .eq 12, 3) := by decide +kernel
theorem dX12_blind_13 : decode cX12_blind 13 = .ok (.aload_n 0, 1) := by decide +kernel
theorem dX12_blind_14 : decode cX12_blind 14 = .ok (.iload_n 1, 1) := by decide +kernel
theorem dX12_blind_15 : decode cX12_blind 15 = .ok (.i2l, 1) := by decide +kernel
theorem dX12_blind_16 : decode cX12_blind 16 = .ok (.invokevirtual 477, 3) := by decide +kernel
theorem dX12_blind_19 : decode cX12_blind 19 = .ok (.goto 5, 3) := by decide +kernel
theorem dX12_blind_22 : decode cX12_blind 22 = .ok (.bipush (-2), 2) := by decide +kernel
theorem dX12_blind_24 : decode cX12_blind 24 = .ok (.ireturn, 1) := by decide +kernel
theorem dX12_tries_0 : decode cX12_tries 0 = .ok (.aload_n 0, 1) := by decide +kernel
theorem dX12_tries_1 : decode cX12_tries 1 = .ok (.iconst 0, 1) := by decide +kernel
theorem dX12_tries_2 : decode cX12_tries 2 = .ok (.putfield 89, 3) := by decide +kernel
theorem dX12_tries_5 : decode cX12_tries 5 = .ok (.aload_n 0, 1) := by decide +kernel
theorem dX12_tries_6 : decode cX12_tries 6 = .ok (.iload_n 1, 1) := by decide +kernel
theorem dX12_tries_7 : decode cX12_tries 7 = .ok (.invokevirtual 474, 3) := by decide +kernel
theorem dX12_tries_10 : decode cX12_tries 10 = .ok (.ifCond .ne 6, 3) := by decide +kernel
theorem dX12_tries_13 : decode cX12_tries 13 = .ok (.bipush (-2), 2) := by decide +kernel
theorem dX12_tries_15 : decode cX12_tries 15 = .ok (.ireturn, 1) := by decide +kernel
theorem dX12_tries_16 : decode cX12_tries 16 = .ok (.aload_n 0, 1) := by decide +kernel
theorem dX12_tries_17 : decode cX12_tries 17 = .ok (.iload_n 1, 1) := by decide +kernel
theorem dX12_tries_18 : decode cX12_tries 18 = .ok (.i2l, 1) := by decide +kernel
theorem dX12_tries_19 : decode cX12_tries 19 = .ok (.invokevirtual 477, 3) := by decide +kernel
theorem dX12_tries_22 : decode cX12_tries 22 = .ok (.pop, 1) := by decide +kernel
theorem dX12_tries_23 : decode cX12_tries 23 = .ok (.aload_n 0, 1) := by decide +kernel
theorem dX12_tries_24 : decode cX12_tries 24 = .ok (.getfield 461, 3) := by decide +kernel
theorem dX12_tries_27 : decode cX12_tries 27 = .ok (.ireturn, 1) := by decide +kernel
theorem dX12_luck_0 : decode cX12_luck 0 = .ok (.aload_n 0, 1) := by decide +kernel
theorem dX12_luck_1 : decode cX12_luck 1 = .ok (.iconst 0, 1) := by decide +kernel
theorem dX12_luck_2 : decode cX12_luck 2 = .ok (.putfield 89, 3) := by decide +kernel
theorem dX12_luck_5 : decode cX12_luck 5 = .ok (.aload_n 0, 1) := by decide +kernel
theorem dX12_luck_6 : decode cX12_luck 6 = .ok (.iload_n 1, 1) := by decide +kernel
theorem dX12_luck_7 : decode cX12_luck 7 = .ok (.invokevirtual 474, 3) := by decide +kernel
theorem dX12_luck_10 : decode cX12_luck 10 = .ok (.ifCond .eq 15, 3) := by decide +kernel
theorem dX12_luck_13 : decode cX12_luck 13 = .ok (.iload_n 2, 1) := by decide +kernel
theorem dX12_luck_14 : decode cX12_luck 14 = .ok (.i2l, 1) := by decide +kernel
theorem dX12_luck_15 : decode cX12_luck 15 = .ok (.lconst 1, 1) := by decide +kernel
theorem dX12_luck_16 : decode cX12_luck 16 = .ok (.ldc2_w 481, 3) := by decide +kernel
theorem dX12_luck_19 : decode cX12_luck 19 = .ok (.invokestatic 94, 3) := by decide +kernel
theorem dX12_luck_22 : decode cX12_luck 22 = .ok (.ifCond .ne 6, 3) := by decide +kernel
theorem dX12_luck_25 : decode cX12_luck 25 = .ok (.bipush (-2), 2) := by decide +kernel
theorem dX12_luck_27 : decode cX12_luck 27 = .ok (.ireturn, 1) := by decide +kernel
theorem dX12_luck_28 : decode cX12_luck 28 = .ok (.iconst 0, 1) := by decide +kernel
theorem dX12_luck_29 : decode cX12_luck 29 = .ok (.istore_n 3, 1) := by decide +kernel
theorem dX12_luck_30 : decode cX12_luck 30 = .ok (.iconst 0, 1) := by decide +kernel
theorem dX12_luck_31 : decode cX12_luck 31 = .ok (.istore 4, 2) := by decide +kernel
theorem dX12_luck_33 : decode cX12_luck 33 = .ok (.iload 4, 2) := by decide +kernel
theorem dX12_luck_35 : decode cX12_luck 35 = .ok (.iload_n 2, 1) := by decide +kernel
theorem dX12_luck_36 : decode cX12_luck 36 = .ok (.if_icmp .ge 31, 3) := by decide +kernel
theorem dX12_luck_39 : decode cX12_luck 39 = .ok (.iload_n 3, 1) := by decide +kernel
theorem dX12_luck_40 : decode cX12_luck 40 = .ok (.aload_n 0, 1) := by decide +kernel
theorem dX12_luck_41 : decode cX12_luck 41 = .ok (.iload_n 1, 1) := by decide +kernel
theorem dX12_luck_42 : decode cX12_luck 42 = .ok (.i2l, 1) := by decide +kernel
theorem dX12_luck_43 : decode cX12_luck 43 = .ok (.iload 4, 2) := by decide +kernel
theorem dX12_luck_45 : decode cX12_luck 45 = .ok (.i2l, 1) := by decide +kernel
theorem dX12_luck_46 : decode cX12_luck 46 = .ok (.ladd, 1) := by decide +kernel
theorem dX12_luck_47 : decode cX12_luck 47 = .ok (.invokevirtual 477, 3) := by decide +kernel
theorem dX12_luck_50 : decode cX12_luck 50 = .ok (.iconst (-1), 1) := by decide +kernel
theorem dX12_luck_51 : decode cX12_luck 51 = .ok (.if_icmp .eq 7, 3) := by decide +kernel
theorem dX12_luck_54 : decode cX12_luck 54 = .ok (.iconst 1, 1) := by decide +kernel
theorem dX12_luck_55 : decode cX12_luck 55 = .ok (.goto 4, 3) := by decide +kernel
theorem dX12_luck_58 : decode cX12_luck 58 = .ok (.iconst 0, 1) := by decide +kernel
theorem dX12_luck_59 : decode cX12_luck 59 = .ok (.iadd, 1) := by decide +kernel
theorem dX12_luck_60 : decode cX12_luck 60 = .ok (.istore_n 3, 1) := by decide +kernel
theorem dX12_luck_61 : decode cX12_luck 61 = .ok (.iinc 4 1, 3) := by decide +kernel
theorem dX12_luck_64 : decode cX12_luck 64 = .ok (.goto (-31), 3) := by decide +kernel
theorem dX12_luck_67 : decode cX12_luck 67 = .ok (.iload_n 3, 1) := by decide +kernel
theorem dX12_luck_68 : decode cX12_luck 68 = .ok (.ireturn, 1) := by decide +kernel
theorem dX12_common_0 : decode cX12_common 0 = .ok (.iload_n 1, 1) := by decide +kernel
theorem dX12_common_1 : decode cX12_common 1 = .ok (.ifCond .ne 7, 3) := by decide +kernel
theorem dX12_common_4 : decode cX12_common 4 = .ok (.iload_n 0, 1) := by decide +kernel
theorem dX12_common_5 : decode cX12_common 5 = .ok (.goto 10, 3) := by decide +kernel
theorem dX12_common_8 : decode cX12_common 8 = .ok (.iload_n 1, 1) := by decide +kernel
theorem dX12_common_9 : decode cX12_common 9 = .ok (.iload_n 0, 1) := by decide +kernel
theorem dX12_common_10 : decode cX12_common 10 = .ok (.iload_n 1, 1) := by decide +kernel
theorem dX12_common_11 : decode cX12_common 11 = .ok (.irem, 1) := by decide +kernel
theorem dX12_common_12 : decode cX12_common 12 = .ok (.invokestatic 483, 3) := by decide +kernel
theorem dX12_common_15 : decode cX12_common 15 = .ok (.ireturn, 1) := by decide +kernel
theorem dX12_worth_0 : decode cX12_worth 0 = .ok (.aload_n 0, 1) := by decide +kernel
theorem dX12_worth_1 : decode cX12_worth 1 = .ok (.iconst 0, 1) := by decide +kernel
theorem dX12_worth_2 : decode cX12_worth 2 = .ok (.putfield 89, 3) := by decide +kernel
theorem dX12_worth_5 : decode cX12_worth 5 = .ok (.aload_n 0, 1) := by decide +kernel
theorem dX12_worth_6 : decode cX12_worth 6 = .ok (.iload_n 1, 1) := by decide +kernel
theorem dX12_worth_7 : decode cX12_worth 7 = .ok (.invokevirtual 474, 3) := by decide +kernel
theorem dX12_worth_10 : decode cX12_worth 10 = .ok (.ifCond .eq 25, 3) := by decide +kernel
theorem dX12_worth_13 : decode cX12_worth 13 = .ok (.iload_n 2, 1) := by decide +kernel
theorem dX12_worth_14 : decode cX12_worth 14 = .ok (.i2l, 1) := by decide +kernel
theorem dX12_worth_15 : decode cX12_worth 15 = .ok (.lconst 1, 1) := by decide +kernel
theorem dX12_worth_16 : decode cX12_worth 16 = .ok (.ldc2_w 481, 3) := by decide +kernel
theorem dX12_worth_19 : decode cX12_worth 19 = .ok (.invokestatic 94, 3) := by decide +kernel
theorem dX12_worth_22 : decode cX12_worth 22 = .ok (.ifCond .eq 13, 3) := by decide +kernel
theorem dX12_worth_25 : decode cX12_worth 25 = .ok (.iload_n 3, 1) := by decide +kernel
theorem dX12_worth_26 : decode cX12_worth 26 = .ok (.i2l, 1) := by decide +kernel
theorem dX12_worth_27 : decode cX12_worth 27 = .ok (.lconst 0, 1) := by decide +kernel
theorem dX12_worth_28 : decode cX12_worth 28 = .ok (.lconst 1, 1) := by decide +kernel
theorem dX12_worth_29 : decode cX12_worth 29 = .ok (.invokestatic 94, 3) := by decide +kernel
theorem dX12_worth_32 : decode cX12_worth 32 = .ok (.ifCond .ne 6, 3) := by decide +kernel
theorem dX12_worth_35 : decode cX12_worth 35 = .ok (.bipush (-2), 2) := by decide +kernel
theorem dX12_worth_37 : decode cX12_worth 37 = .ok (.ireturn, 1) := by decide +kernel
theorem dX12_worth_38 : decode cX12_worth 38 = .ok (.aload_n 0, 1) := by decide +kernel
theorem dX12_worth_39 : decode cX12_worth 39 = .ok (.iconst 0, 1) := by decide +kernel
theorem dX12_worth_40 : decode cX12_worth 40 = .ok (.invokevirtual 385, 3) := by decide +kernel
theorem dX12_worth_43 : decode cX12_worth 43 = .ok (.istore 4, 2) := by decide +kernel
theorem dX12_worth_45 : decode cX12_worth 45 = .ok (.iconst 0, 1) := by decide +kernel
theorem dX12_worth_46 : decode cX12_worth 46 = .ok (.istore 5, 2) := by decide +kernel
theorem dX12_worth_48 : decode cX12_worth 48 = .ok (.iconst 0, 1) := by decide +kernel
theorem dX12_worth_49 : decode cX12_worth 49 = .ok (.istore 6, 2) := by decide +kernel
theorem dX12_worth_51 : decode cX12_worth 51 = .ok (.iconst 0, 1) := by decide +kernel
theorem dX12_worth_52 : decode cX12_worth 52 = .ok (.istore 7, 2) := by decide +kernel
theorem dX12_worth_54 : decode cX12_worth 54 = .ok (.iload 7, 2) := by decide +kernel
theorem dX12_worth_56 : decode cX12_worth 56 = .ok (.iload_n 2, 1) := by decide +kernel
theorem dX12_worth_57 : decode cX12_worth 57 = .ok (.if_icmp .ge 43, 3) := by decide +kernel
theorem dX12_worth_60 : decode cX12_worth 60 = .ok (.aload_n 0, 1) := by decide +kernel
theorem dX12_worth_61 : decode cX12_worth 61 = .ok (.iload_n 1, 1) := by decide +kernel
theorem dX12_worth_62 : decode cX12_worth 62 = .ok (.i2l, 1) := by decide +kernel
theorem dX12_worth_63 : decode cX12_worth 63 = .ok (.iload 7, 2) := by decide +kernel
theorem dX12_worth_65 : decode cX12_worth 65 = .ok (.i2l, 1) := by decide +kernel
theorem dX12_worth_66 : decode cX12_worth 66 = .ok (.ladd, 1) := by decide +kernel
theorem dX12_worth_67 : decode cX12_worth 67 = .ok (.invokevirtual 477, 3) := by decide +kernel
theorem dX12_worth_70 : decode cX12_worth 70 = .ok (.istore 8, 2) := by decide +kernel
theorem dX12_worth_72 : decode cX12_worth 72 = .ok (.iload 8, 2) := by decide +kernel
theorem dX12_worth_74 : decode cX12_worth 74 = .ok (.iconst (-1), 1) := by decide +kernel
theorem dX12_worth_75 : decode cX12_worth 75 = .ok (.if_icmp .ne 6, 3) := by decide +kernel
theorem dX12_worth_78 : decode cX12_worth 78 = .ok (.goto 16, 3) := by decide +kernel
theorem dX12_worth_81 : decode cX12_worth 81 = .ok (.iload 5, 2) := by decide +kernel
theorem dX12_worth_83 : decode cX12_worth 83 = .ok (.iload 8, 2) := by decide +kernel
theorem dX12_worth_85 : decode cX12_worth 85 = .ok (.iload 4, 2) := by decide +kernel
theorem dX12_worth_87 : decode cX12_worth 87 = .ok (.isub, 1) := by decide +kernel
theorem dX12_worth_88 : decode cX12_worth 88 = .ok (.iadd, 1) := by decide +kernel
theorem dX12_worth_89 : decode cX12_worth 89 = .ok (.istore 5, 2) := by decide +kernel
theorem dX12_worth_91 : decode cX12_worth 91 = .ok (.iinc 6 1, 3) := by decide +kernel
theorem dX12_worth_94 : decode cX12_worth 94 = .ok (.iinc 7 1, 3) := by decide +kernel
theorem dX12_worth_97 : decode cX12_worth 97 = .ok (.goto (-43), 3) := by decide +kernel
theorem dX12_worth_100 : decode cX12_worth 100 = .ok (.iload 6, 2) := by decide +kernel
theorem dX12_worth_102 : decode cX12_worth 102 = .ok (.ifCond .ne 7, 3) := by decide +kernel
theorem dX12_worth_105 : decode cX12_worth 105 = .ok (.iconst (-1), 1) := by decide +kernel
theorem dX12_worth_106 : decode cX12_worth 106 = .ok (.goto 22, 3) := by decide +kernel
theorem dX12_worth_109 : decode cX12_worth 109 = .ok (.iload_n 3, 1) := by decide +kernel
theorem dX12_worth_110 : decode cX12_worth 110 = .ok (.ifCond .ne 8, 3) := by decide +kernel
theorem dX12_worth_113 : decode cX12_worth 113 = .ok (.iload 5, 2) := by decide +kernel
theorem dX12_worth_115 : decode cX12_worth 115 = .ok (.goto 5, 3) := by decide +kernel
theorem dX12_worth_118 : decode cX12_worth 118 = .ok (.iload 6, 2) := by decide +kernel
theorem dX12_worth_120 : decode cX12_worth 120 = .ok (.iload 5, 2) := by decide +kernel
theorem dX12_worth_122 : decode cX12_worth 122 = .ok (.iload 6, 2) := by decide +kernel
theorem dX12_worth_124 : decode cX12_worth 124 = .ok (.invokestatic 483, 3) := by decide +kernel
theorem dX12_worth_127 : decode cX12_worth 127 = .ok (.idiv, 1) := by decide +kernel
theorem dX12_worth_128 : decode cX12_worth 128 = .ok (.ireturn, 1) := by decide +kernel
theorem dX12_ask_0 : decode cX12_ask 0 = .ok (.aload_n 0, 1) := by decide +kernel
theorem dX12_ask_1 : decode cX12_ask 1 = .ok (.iconst 0, 1) := by decide +kernel
theorem dX12_ask_2 : decode cX12_ask 2 = .ok (.putfield 89, 3) := by decide +kernel
theorem dX12_ask_5 : decode cX12_ask 5 = .ok (.aload_n 0, 1) := by decide +kernel
theorem dX12_ask_6 : decode cX12_ask 6 = .ok (.iload_n 1, 1) := by decide +kernel
theorem dX12_ask_7 : decode cX12_ask 7 = .ok (.i2l, 1) := by decide +kernel
theorem dX12_ask_8 : decode cX12_ask 8 = .ok (.invokevirtual 270, 3) := by decide +kernel
theorem dX12_ask_11 : decode cX12_ask 11 = .ok (.ifCond .eq 38, 3) := by decide +kernel
theorem dX12_ask_14 : decode cX12_ask 14 = .ok (.aload_n 0, 1) := by decide +kernel
theorem dX12_ask_15 : decode cX12_ask 15 = .ok (.iload_n 2, 1) := by decide +kernel
theorem dX12_ask_16 : decode cX12_ask 16 = .ok (.i2l, 1) := by decide +kernel
theorem dX12_ask_17 : decode cX12_ask 17 = .ok (.invokevirtual 270, 3) := by decide +kernel
theorem dX12_ask_20 : decode cX12_ask 20 = .ok (.ifCond .eq 29, 3) := by decide +kernel
theorem dX12_ask_23 : decode cX12_ask 23 = .ok (.iload_n 1, 1) := by decide +kernel
theorem dX12_ask_24 : decode cX12_ask 24 = .ok (.iload_n 2, 1) := by decide +kernel
theorem dX12_ask_25 : decode cX12_ask 25 = .ok (.if_icmp .eq 24, 3) := by decide +kernel
theorem dX12_ask_28 : decode cX12_ask 28 = .ok (.iload_n 3, 1) := by decide +kernel
theorem dX12_ask_29 : decode cX12_ask 29 = .ok (.i2l, 1) := by decide +kernel
theorem dX12_ask_30 : decode cX12_ask 30 = .ok (.lconst 0, 1) := by decide +kernel
theorem dX12_ask_31 : decode cX12_ask 31 = .ok (.lconst 1, 1) := by decide +kernel
theorem dX12_ask_32 : decode cX12_ask 32 = .ok (.invokestatic 94, 3) := by decide +kernel
theorem dX12_ask_35 : decode cX12_ask 35 = .ok (.ifCond .eq 14, 3) := by decide +kernel
theorem dX12_ask_38 : decode cX12_ask 38 = .ok (.iload 4, 2) := by decide +kernel
theorem dX12_ask_40 : decode cX12_ask 40 = .ok (.i2l, 1) := by decide +kernel
theorem dX12_ask_41 : decode cX12_ask 41 = .ok (.lconst 0, 1) := by decide +kernel
theorem dX12_ask_42 : decode cX12_ask 42 = .ok (.lconst 1, 1) := by decide +kernel
theorem dX12_ask_43 : decode cX12_ask 43 = .ok (.invokestatic 94, 3) := by decide +kernel
theorem dX12_ask_46 : decode cX12_ask 46 = .ok (.ifCond .ne 6, 3) := by decide +kernel
theorem dX12_ask_49 : decode cX12_ask 49 = .ok (.bipush (-2), 2) := by decide +kernel
theorem dX12_ask_51 : decode cX12_ask 51 = .ok (.ireturn, 1) := by decide +kernel
theorem dX12_ask_52 : decode cX12_ask 52 = .ok (.aload_n 0, 1) := by decide +kernel
theorem dX12_ask_53 : decode cX12_ask 53 = .ok (.getfield 34, 3) := by decide +kernel
theorem dX12_ask_56 : decode cX12_ask 56 = .ok (.iconst 5, 1) := by decide +kernel
theorem dX12_ask_57 : decode cX12_ask 57 = .ok (.iaload, 1) := by decide +kernel
theorem dX12_ask_58 : decode cX12_ask 58 = .ok (.ifCond .le 6, 3) := by decide +kernel
theorem dX12_ask_61 : decode cX12_ask 61 = .ok (.bipush (-5), 2) := by decide +kernel
theorem dX12_ask_63 : decode cX12_ask 63 = .ok (.ireturn, 1) := by decide +kernel
theorem dX12_ask_64 : decode cX12_ask 64 = .ok (.iload_n 3, 1) := by decide +kernel
theorem dX12_ask_65 : decode cX12_ask 65 = .ok (.ifCond .ne 10, 3) := by decide +kernel
theorem dX12_ask_68 : decode cX12_ask 68 = .ok (.aload_n 0, 1) := by decide +kernel
theorem dX12_ask_69 : decode cX12_ask 69 = .ok (.getfield 40, 3) := by decide +kernel
theorem dX12_ask_72 : decode cX12_ask 72 = .ok (.goto 7, 3) := by decide +kernel
theorem dX12_ask_75 : decode cX12_ask 75 = .ok (.aload_n 0, 1) := by decide +kernel
theorem dX12_ask_76 : decode cX12_ask 76 = .ok (.getfield 43, 3) := by decide +kernel
theorem dX12_ask_79 : decode cX12_ask 79 = .ok (.astore 5, 2) := by decide +kernel
theorem dX12_ask_81 : decode cX12_ask 81 = .ok (.aload 5, 2) := by decide +kernel
theorem dX12_ask_83 : decode cX12_ask 83 = .ok (.iload_n 1, 1) := by decide +kernel
theorem dX12_ask_84 : decode cX12_ask 84 = .ok (.iaload, 1) := by decide +kernel
theorem dX12_ask_85 : decode cX12_ask 85 = .ok (.iload_n 2, 1) := by decide +kernel
theorem dX12_ask_86 : decode cX12_ask 86 = .ok (.ishr, 1) := by decide +kernel
theorem dX12_ask_87 : decode cX12_ask 87 = .ok (.iconst 1, 1) := by decide +kernel
theorem dX12_ask_88 : decode cX12_ask 88 = .ok (.iand, 1) := by decide +kernel
theorem dX12_ask_89 : decode cX12_ask 89 = .ok (.istore 6, 2) := by decide +kernel
theorem dX12_ask_91 : decode cX12_ask 91 = .ok (.aload 5, 2) := by decide +kernel
theorem dX12_ask_93 : decode cX12_ask 93 = .ok (.iload_n 1, 1) := by decide +kernel
theorem dX12_ask_94 : decode cX12_ask 94 = .ok (.iload 4, 2) := by decide +kernel
theorem dX12_ask_96 : decode cX12_ask 96 = .ok (.iconst 1, 1) := by decide +kernel
theorem dX12_ask_97 : decode cX12_ask 97 = .ok (.if_icmp .ne 14, 3) := by decide +kernel
theorem dX12_ask_100 : decode cX12_ask 100 = .ok (.aload 5, 2) := by decide +kernel
theorem dX12_ask_102 : decode cX12_ask 102 = .ok (.iload_n 1, 1) := by decide +kernel
theorem dX12_ask_103 : decode cX12_ask 103 = .ok (.iaload, 1) := by decide +kernel
theorem dX12_ask_104 : decode cX12_ask 104 = .ok (.iconst 1, 1) := by decide +kernel
theorem dX12_ask_105 : decode cX12_ask 105 = .ok (.iload_n 2, 1) := by decide +kernel
theorem dX12_ask_106 : decode cX12_ask 106 = .ok (.ishl, 1) := by decide +kernel
theorem dX12_ask_107 : decode cX12_ask 107 = .ok (.ior, 1) := by decide +kernel
theorem dX12_ask_108 : decode cX12_ask 108 = .ok (.goto 13, 3) := by decide +kernel
theorem dX12_ask_111 : decode cX12_ask 111 = .ok (.aload 5, 2) := by decide +kernel
theorem dX12_ask_113 : decode cX12_ask 113 = .ok (.iload_n 1, 1) := by decide +kernel
theorem dX12_ask_114 : decode cX12_ask 114 = .ok (.iaload, 1) := by decide +kernel
theorem dX12_ask_115 : decode cX12_ask 115 = .ok (.iconst 1, 1) := by decide +kernel
theorem dX12_ask_116 : decode cX12_ask 116 = .ok (.iload_n 2, 1) := by decide +kernel
theorem dX12_ask_117 : decode cX12_ask 117 = .ok (.ishl, 1) := by decide +kernel
theorem dX12_ask_118 : decode cX12_ask 118 = .ok (.iconst (-1), 1) := by decide +kernel
theorem dX12_ask_119 : decode cX12_ask 119 = .ok (.ixor, 1) := by decide +kernel
theorem dX12_ask_120 : decode cX12_ask 120 = .ok (.iand, 1) := by decide +kernel
theorem dX12_ask_121 : decode cX12_ask 121 = .ok (.iastore, 1) := by decide +kernel
theorem dX12_ask_122 : decode cX12_ask 122 = .ok (.iload 6, 2) := by decide +kernel
theorem dX12_ask_124 : decode cX12_ask 124 = .ok (.ireturn, 1) := by decide +kernel
theorem dX12_leave_0 : decode cX12_leave 0 = .ok (.aload_n 0, 1) := by decide +kernel
theorem dX12_leave_1 : decode cX12_leave 1 = .ok (.iconst 0, 1) := by decide +kernel
theorem dX12_leave_2 : decode cX12_leave 2 = .ok (.putfield 89, 3) := by decide +kernel
theorem dX12_leave_5 : decode cX12_leave 5 = .ok (.iload_n 2, 1) := by decide +kernel
theorem dX12_leave_6 : decode cX12_leave 6 = .ok (.iconst (-1), 1) := by decide +kernel
theorem dX12_leave_7 : decode cX12_leave 7 = .ok (.if_icmp .ne 12, 3) := by decide +kernel
theorem dX12_leave_10 : decode cX12_leave 10 = .ok (.iload_n 3, 1) := by decide +kernel
theorem dX12_leave_11 : decode cX12_leave 11 = .ok (.iconst (-1), 1) := by decide +kernel
theorem dX12_leave_12 : decode cX12_leave 12 = .ok (.if_icmp .ne 7, 3) := by decide +kernel
theorem dX12_leave_15 : decode cX12_leave 15 = .ok (.iconst 1, 1) := by decide +kernel
theorem dX12_leave_16 : decode cX12_leave 16 = .ok (.goto 4, 3) := by decide +kernel
theorem dX12_leave_19 : decode cX12_leave 19 = .ok (.iconst 0, 1) := by decide +kernel
theorem dX12_leave_20 : decode cX12_leave 20 = .ok (.istore 4, 2) := by decide +kernel
theorem dX12_leave_22 : decode cX12_leave 22 = .ok (.aload_n 0, 1) := by decide +kernel
theorem dX12_leave_23 : decode cX12_leave 23 = .ok (.iload_n 1, 1) := by decide +kernel
theorem dX12_leave_24 : decode cX12_leave 24 = .ok (.i2l, 1) := by decide +kernel
theorem dX12_leave_25 : decode cX12_leave 25 = .ok (.invokevirtual 270, 3) := by decide +kernel
theorem dX12_leave_28 : decode cX12_leave 28 = .ok (.ifCond .eq 33, 3) := by decide +kernel
theorem dX12_leave_31 : decode cX12_leave 31 = .ok (.iload 4, 2) := by decide +kernel
theorem dX12_leave_33 : decode cX12_leave 33 = .ok (.ifCond .ne 31, 3) := by decide +kernel
theorem dX12_leave_36 : decode cX12_leave 36 = .ok (.iload_n 2, 1) := by decide +kernel
theorem dX12_leave_37 : decode cX12_leave 37 = .ok (.i2l, 1) := by decide +kernel
theorem dX12_leave_38 : decode cX12_leave 38 = .ok (.lconst 0, 1) := by decide +kernel
theorem dX12_leave_39 : decode cX12_leave 39 = .ok (.ldc2_w 486, 3) := by decide +kernel
theorem dX12_leave_42 : decode cX12_leave 42 = .ok (.invokestatic 94, 3) := by decide +kernel
theorem dX12_leave_45 : decode cX12_leave 45 = .ok (.ifCond .eq 16, 3) := by decide +kernel
theorem dX12_leave_48 : decode cX12_leave 48 = .ok (.iload_n 3, 1) := by decide +kernel
theorem dX12_leave_49 : decode cX12_leave 49 = .ok (.i2l, 1) := by decide +kernel
theorem dX12_leave_50 : decode cX12_leave 50 = .ok (.iload_n 2, 1) := by decide +kernel
theorem dX12_leave_51 : decode cX12_leave 51 = .ok (.i2l, 1) := by decide +kernel
theorem dX12_leave_52 : decode cX12_leave 52 = .ok (.ldc2_w 486, 3) := by decide +kernel
theorem dX12_leave_55 : decode cX12_leave 55 = .ok (.invokestatic 94, 3) := by decide +kernel
theorem dX12_leave_58 : decode cX12_leave 58 = .ok (.ifCond .ne 6, 3) := by decide +kernel
theorem dX12_leave_61 : decode cX12_leave 61 = .ok (.bipush (-2), 2) := by decide +kernel
theorem dX12_leave_63 : decode cX12_leave 63 = .ok (.ireturn, 1) := by decide +kernel
theorem dX12_leave_64 : decode cX12_leave 64 = .ok (.aload_n 0, 1) := by decide +kernel
theorem dX12_leave_65 : decode cX12_leave 65 = .ok (.getfield 34, 3) := by decide +kernel
theorem dX12_leave_68 : decode cX12_leave 68 = .ok (.iconst 5, 1) := by decide +kernel
theorem dX12_leave_69 : decode cX12_leave 69 = .ok (.iaload, 1) := by decide +kernel
theorem dX12_leave_70 : decode cX12_leave 70 = .ok (.ifCond .le 6, 3) := by decide +kernel
theorem dX12_leave_73 : decode cX12_leave 73 = .ok (.bipush (-5), 2) := by decide +kernel
theorem dX12_leave_75 : decode cX12_leave 75 = .ok (.ireturn, 1) := by decide +kernel
theorem dX12_leave_76 : decode cX12_leave 76 = .ok (.aload_n 0, 1) := by decide +kernel
theorem dX12_leave_77 : decode cX12_leave 77 = .ok (.getfield 37, 3) := by decide +kernel
theorem dX12_leave_80 : decode cX12_leave 80 = .ok (.bipush 9, 2) := by decide +kernel
theorem dX12_leave_82 : decode cX12_leave 82 = .ok (.iload_n 1, 1) := by decide +kernel
theorem dX12_leave_83 : decode cX12_leave 83 = .ok (.imul, 1) := by decide +kernel
theorem dX12_leave_84 : decode cX12_leave 84 = .ok (.bipush 7, 2) := by decide +kernel
theorem dX12_leave_86 : decode cX12_leave 86 = .ok (.iadd, 1) := by decide +kernel
theorem dX12_leave_87 : decode cX12_leave 87 = .ok (.iload_n 2, 1) := by decide +kernel
theorem dX12_leave_88 : decode cX12_leave 88 = .ok (.iastore, 1) := by decide +kernel
theorem dX12_leave_89 : decode cX12_leave 89 = .ok (.aload_n 0, 1) := by decide +kernel
theorem dX12_leave_90 : decode cX12_leave 90 = .ok (.getfield 37, 3) := by decide +kernel
theorem dX12_leave_93 : decode cX12_leave 93 = .ok (.bipush 9, 2) := by decide +kernel
theorem dX12_leave_95 : decode cX12_leave 95 = .ok (.iload_n 1, 1) := by decide +kernel
theorem dX12_leave_96 : decode cX12_leave 96 = .ok (.imul, 1) := by decide +kernel
theorem dX12_leave_97 : decode cX12_leave 97 = .ok (.bipush 8, 2) := by decide +kernel
theorem dX12_leave_99 : decode cX12_leave 99 = .ok (.iadd, 1) := by decide +kernel
theorem dX12_leave_100 : decode cX12_leave 100 = .ok (.iload_n 3, 1) := by decide +kernel
theorem dX12_leave_101 : decode cX12_leave 101 = .ok (.iastore, 1) := by decide +kernel
theorem dX12_leave_102 : decode cX12_leave 102 = .ok (.iconst 0, 1) := by decide +kernel
theorem dX12_leave_103 : decode cX12_leave 103 = .ok (.ireturn, 1) := by decide +kernel
theorem dX12_wants_0 : decode cX12_wants 0 = .ok (.aload_n 0, 1) := by decide +kernel
theorem dX12_wants_1 : decode cX12_wants 1 = .ok (.iconst 0, 1) := by decide +kernel
theorem dX12_wants_2 : decode cX12_wants 2 = .ok (.putfield 89, 3) := by decide +kernel
theorem dX12_wants_5 : decode cX12_wants 5 = .ok (.aload_n 0, 1) := by decide +kernel
theorem dX12_wants_6 : decode cX12_wants 6 = .ok (.iload_n 1, 1) := by decide +kernel
theorem dX12_wants_7 : decode cX12_wants 7 = .ok (.invokevirtual 409, 3) := by decide +kernel
theorem dX12_wants_10 : decode cX12_wants 10 = .ok (.ifCond .ne 6, 3) := by decide +kernel
theorem dX12_wants_13 : decode cX12_wants 13 = .ok (.bipush (-2), 2) := by decide +kernel
theorem dX12_wants_15 : decode cX12_wants 15 = .ok (.ireturn, 1) := by decide +kernel
theorem dX12_wants_16 : decode cX12_wants 16 = .ok (.aload_n 0, 1) := by decide +kernel
theorem dX12_wants_17 : decode cX12_wants 17 = .ok (.getfield 34, 3) := by decide +kernel
theorem dX12_wants_20 : decode cX12_wants 20 = .ok (.iconst 4, 1) := by decide +kernel
theorem dX12_wants_21 : decode cX12_wants 21 = .ok (.iaload, 1) := by decide +kernel
theorem dX12_wants_22 : decode cX12_wants 22 = .ok (.istore_n 2, 1) := by decide +kernel
theorem dX12_wants_23 : decode cX12_wants 23 = .ok (.aload_n 0, 1) := by decide +kernel
theorem dX12_wants_24 : decode cX12_wants 24 = .ok (.getfield 34, 3) := by decide +kernel
theorem dX12_wants_27 : decode cX12_wants 27 = .ok (.iconst 4, 1) := by decide +kernel
theorem dX12_wants_28 : decode cX12_wants 28 = .ok (.iload_n 1, 1) := by decide +kernel
theorem dX12_wants_29 : decode cX12_wants 29 = .ok (.iastore, 1) := by decide +kernel
theorem dX12_wants_30 : decode cX12_wants 30 = .ok (.iload_n 2, 1) := by decide +kernel
theorem dX12_wants_31 : decode cX12_wants 31 = .ok (.ireturn, 1) := by decide +kernel
theorem dX12_count_0 : decode cX12_count 0 = .ok (.aload_n 0, 1) := by decide +kernel
theorem dX12_count_1 : decode cX12_count 1 = .ok (.iconst 0, 1) := by decide +kernel
theorem dX12_count_2 : decode cX12_count 2 = .ok (.putfield 89, 3) := by decide +kernel
theorem dX12_count_5 : decode cX12_count 5 = .ok (.iconst 0, 1) := by decide +kernel
theorem dX12_count_6 : decode cX12_count 6 = .ok (.istore_n 2, 1) := by decide +kernel
theorem dX12_count_7 : decode cX12_count 7 = .ok (.iload_n 1, 1) := by decide +kernel
theorem dX12_count_8 : decode cX12_count 8 = .ok (.tableswitch 189 0 8 #[52, 59, 66, 98, 130, 137, 142, 149, 156], 52) := by decide +kernel
theorem dX12_count_60 : decode cX12_count 60 = .ok (.aload_n 0, 1) := by decide +kernel
theorem dX12_count_61 : decode cX12_count 61 = .ok (.getfield 34, 3) := by decide +kernel
theorem dX12_count_64 : decode cX12_count 64 = .ok (.iconst 3, 1) := by decide +kernel
theorem dX12_count_65 : decode cX12_count 65 = .ok (.iaload, 1) := by decide +kernel
theorem dX12_count_66 : decode cX12_count 66 = .ok (.ireturn, 1) := by decide +kernel
theorem dX12_count_67 : decode cX12_count 67 = .ok (.aload_n 0, 1) := by decide +kernel
theorem dX12_count_68 : decode cX12_count 68 = .ok (.getfield 34, 3) := by decide +kernel
theorem dX12_count_71 : decode cX12_count 71 = .ok (.iconst 0, 1) := by decide +kernel
theorem dX12_count_72 : decode cX12_count 72 = .ok (.iaload, 1) := by decide +kernel
theorem dX12_count_73 : decode cX12_count 73 = .ok (.ireturn, 1) := by decide +kernel
theorem dX12_count_74 : decode cX12_count 74 = .ok (.iconst 0, 1) := by decide +kernel
theorem dX12_count_75 : decode cX12_count 75 = .ok (.istore_n 3, 1) := by decide +kernel
theorem dX12_count_76 : decode cX12_count 76 = .ok (.iload_n 3, 1) := by decide +kernel
theorem dX12_count_77 : decode cX12_count 77 = .ok (.aload_n 0, 1) := by decide +kernel
theorem dX12_count_78 : decode cX12_count 78 = .ok (.getfield 34, 3) := by decide +kernel
theorem dX12_count_81 : decode cX12_count 81 = .ok (.iconst 3, 1) := by decide +kernel
theorem dX12_count_82 : decode cX12_count 82 = .ok (.iaload, 1) := by decide +kernel
theorem dX12_count_83 : decode cX12_count 83 = .ok (.if_icmp .ge 21, 3) := by decide +kernel
theorem dX12_count_86 : decode cX12_count 86 = .ok (.iload_n 2, 1) := by decide +kernel
theorem dX12_count_87 : decode cX12_count 87 = .ok (.aload_n 0, 1) := by decide +kernel
theorem dX12_count_88 : decode cX12_count 88 = .ok (.getfield 40, 3) := by decide +kernel
theorem dX12_count_91 : decode cX12_count 91 = .ok (.iload_n 3, 1) := by decide +kernel
theorem dX12_count_92 : decode cX12_count 92 = .ok (.iaload, 1) := by decide +kernel
theorem dX12_count_93 : decode cX12_count 93 = .ok (.invokestatic 426, 3) := by decide +kernel
theorem dX12_count_96 : decode cX12_count 96 = .ok (.iadd, 1) := by decide +kernel
theorem dX12_count_97 : decode cX12_count 97 = .ok (.istore_n 2, 1) := by decide +kernel
theorem dX12_count_98 : decode cX12_count 98 = .ok (.iinc 3 1, 3) := by decide +kernel
theorem dX12_count_101 : decode cX12_count 101 = .ok (.goto (-25), 3) := by decide +kernel
theorem dX12_count_104 : decode cX12_count 104 = .ok (.iload_n 2, 1) := by decide +kernel
theorem dX12_count_105 : decode cX12_count 105 = .ok (.ireturn, 1) := by decide +kernel
theorem dX12_count_106 : decode cX12_count 106 = .ok (.iconst 0, 1) := by decide +kernel
theorem dX12_count_107 : decode cX12_count 107 = .ok (.istore_n 3, 1) := by decide +kernel
theorem dX12_count_108 : decode cX12_count 108 = .ok (.iload_n 3, 1) := by decide +kernel
theorem dX12_count_109 : decode cX12_count 109 = .ok (.aload_n 0, 1) := by decide +kernel
theorem dX12_count_110 : decode cX12_count 110 = .ok (.getfield 34, 3) := by decide +kernel
theorem dX12_count_113 : decode cX12_count 113 = .ok (.iconst 3, 1) := by decide +kernel
theorem dX12_count_114 : decode cX12_count 114 = .ok (.iaload, 1) := by decide +kernel
theorem dX12_count_115 : decode cX12_count 115 = .ok (.if_icmp .ge 21, 3) := by decide +kernel
theorem dX12_count_118 : decode cX12_count 118 = .ok (.iload_n 2, 1) := by decide +kernel
theorem dX12_count_119 : decode cX12_count 119 = .ok (.aload_n 0, 1) := by decide +kernel
theorem dX12_count_120 : decode cX12_count 120 = .ok (.getfield 43, 3) := by decide +kernel
theorem dX12_count_123 : decode cX12_count 123 = .ok (.iload_n 3, 1) := by decide +kernel
theorem dX12_count_124 : decode cX12_count 124 = .ok (.iaload, 1) := by decide +kernel
theorem dX12_count_125 : decode cX12_count 125 = .ok (.invokestatic 426, 3) := by decide +kernel
theorem dX12_count_128 : decode cX12_count 128 = .ok (.iadd, 1) := by decide +kernel
theorem dX12_count_129 : decode cX12_count 129 = .ok (.istore_n 2, 1) := by decide +kernel
theorem dX12_count_130 : decode cX12_count 130 = .ok (.iinc 3 1, 3) := by decide +kernel
theorem dX12_count_133 : decode cX12_count 133 = .ok (.goto (-25), 3) := by decide +kernel
theorem dX12_count_136 : decode cX12_count 136 = .ok (.iload_n 2, 1) := by decide +kernel
theorem dX12_count_137 : decode cX12_count 137 = .ok (.ireturn, 1) := by decide +kernel
theorem dX12_count_138 : decode cX12_count 138 = .ok (.aload_n 0, 1) := by decide +kernel
theorem dX12_count_139 : decode cX12_count 139 = .ok (.getfield 31, 3) := by decide +kernel
theorem dX12_count_142 : decode cX12_count 142 = .ok (.iconst 0, 1) := by decide +kernel
theorem dX12_count_143 : decode cX12_count 143 = .ok (.iaload, 1) := by decide +kernel
theorem dX12_count_144 : decode cX12_count 144 = .ok (.ireturn, 1) := by decide +kernel
theorem dX12_count_145 : decode cX12_count 145 = .ok (.aload_n 0, 1) := by decide +kernel
theorem dX12_count_146 : decode cX12_count 146 = .ok (.getfield 106, 3) := by decide +kernel
theorem dX12_count_149 : decode cX12_count 149 = .ok (.ireturn, 1) := by decide +kernel
theorem dX12_count_150 : decode cX12_count 150 = .ok (.aload_n 0, 1) := by decide +kernel
theorem dX12_count_151 : decode cX12_count 151 = .ok (.getfield 34, 3) := by decide +kernel
theorem dX12_count_154 : decode cX12_count 154 = .ok (.iconst 5, 1) := by decide +kernel
theorem dX12_count_155 : decode cX12_count 155 = .ok (.iaload, 1) := by decide +kernel
theorem dX12_count_156 : decode cX12_count 156 = .ok (.ireturn, 1) := by decide +kernel
theorem dX12_count_157 : decode cX12_count 157 = .ok (.aload_n 0, 1) := by decide +kernel
theorem dX12_count_158 : decode cX12_count 158 = .ok (.getfield 34, 3) := by decide +kernel
theorem dX12_count_161 : decode cX12_count 161 = .ok (.iconst 2, 1) := by decide +kernel
theorem dX12_count_162 : decode cX12_count 162 = .ok (.iaload, 1) := by decide +kernel
theorem dX12_count_163 : decode cX12_count 163 = .ok (.ireturn, 1) := by decide +kernel
theorem dX12_count_164 : decode cX12_count 164 = .ok (.iconst 0, 1) := by decide +kernel
theorem dX12_count_165 : decode cX12_count 165 = .ok (.istore_n 3, 1) := by decide +kernel
theorem dX12_count_166 : decode cX12_count 166 = .ok (.iload_n 3, 1) := by decide +kernel
theorem dX12_count_167 : decode cX12_count 167 = .ok (.iconst 4, 1) := by decide +kernel
theorem dX12_count_168 : decode cX12_count 168 = .ok (.if_icmp .ge 27, 3) := by decide +kernel
theorem dX12_count_171 : decode cX12_count 171 = .ok (.iload_n 2, 1) := by decide +kernel
theorem dX12_count_172 : decode cX12_count 172 = .ok (.aload_n 0, 1) := by decide +kernel
theorem dX12_count_173 : decode cX12_count 173 = .ok (.getfield 7, 3) := by decide +kernel
theorem dX12_count_176 : decode cX12_count 176 = .ok (.iload_n 3, 1) := by decide +kernel
theorem dX12_count_177 : decode cX12_count 177 = .ok (.iaload, 1) := by decide +kernel
theorem dX12_count_178 : decode cX12_count 178 = .ok (.iconst (-1), 1) := by decide +kernel
theorem dX12_count_179 : decode cX12_count 179 = .ok (.if_icmp .ne 7, 3) := by decide +kernel
theorem dX12_count_182 : decode cX12_count 182 = .ok (.iconst 0, 1) := by decide +kernel
theorem dX12_count_183 : decode cX12_count 183 = .ok (.goto 4, 3) := by decide +kernel
theorem dX12_count_186 : decode cX12_count 186 = .ok (.iconst 1, 1) := by decide +kernel
theorem dX12_count_187 : decode cX12_count 187 = .ok (.iadd, 1) := by decide +kernel
theorem dX12_count_188 : decode cX12_count 188 = .ok (.istore_n 2, 1) := by decide +kernel
theorem dX12_count_189 : decode cX12_count 189 = .ok (.iinc 3 1, 3) := by decide +kernel
theorem dX12_count_192 : decode cX12_count 192 = .ok (.goto (-26), 3) := by decide +kernel
theorem dX12_count_195 : decode cX12_count 195 = .ok (.iload_n 2, 1) := by decide +kernel
theorem dX12_count_196 : decode cX12_count 196 = .ok (.ireturn, 1) := by decide +kernel
theorem dX12_count_197 : decode cX12_count 197 = .ok (.iconst (-1), 1) := by decide +kernel
theorem dX12_count_198 : decode cX12_count 198 = .ok (.ireturn, 1) := by decide +kernel
theorem dX12_keep_0 : decode cX12_keep 0 = .ok (.aload_n 0, 1) := by decide +kernel
theorem dX12_keep_1 : decode cX12_keep 1 = .ok (.iconst 0, 1) := by decide +kernel
theorem dX12_keep_2 : decode cX12_keep 2 = .ok (.putfield 89, 3) := by decide +kernel
theorem dX12_keep_5 : decode cX12_keep 5 = .ok (.iload_n 1, 1) := by decide +kernel
theorem dX12_keep_6 : decode cX12_keep 6 = .ok (.i2l, 1) := by decide +kernel
theorem dX12_keep_7 : decode cX12_keep 7 = .ok (.lconst 0, 1) := by decide +kernel
theorem dX12_keep_8 : decode cX12_keep 8 = .ok (.ldc2_w 488, 3) := by decide +kernel
theorem dX12_keep_11 : decode cX12_keep 11 = .ok (.invokestatic 94, 3) := by decide +kernel
theorem dX12_keep_14 : decode cX12_keep 14 = .ok (.ifCond .ne 6, 3) := by decide +kernel
theorem dX12_keep_17 : decode cX12_keep 17 = .ok (.bipush (-2), 2) := by decide +kernel
theorem dX12_keep_19 : decode cX12_keep 19 = .ok (.ireturn, 1) := by decide +kernel
theorem dX12_keep_20 : decode cX12_keep 20 = .ok (.aload_n 0, 1) := by decide +kernel
theorem dX12_keep_21 : decode cX12_keep 21 = .ok (.iconst 0, 1) := by decide +kernel
theorem dX12_keep_22 : decode cX12_keep 22 = .ok (.iconst 1, 1) := by decide +kernel
theorem dX12_keep_23 : decode cX12_keep 23 = .ok (.iload_n 1, 1) := by decide +kernel
theorem dX12_keep_24 : decode cX12_keep 24 = .ok (.iadd, 1) := by decide +kernel
theorem dX12_keep_25 : decode cX12_keep 25 = .ok (.invokevirtual 258, 3) := by decide +kernel
theorem dX12_keep_28 : decode cX12_keep 28 = .ok (.aload_n 0, 1) := by decide +kernel
theorem dX12_keep_29 : decode cX12_keep 29 = .ok (.getfield 52, 3) := by decide +kernel
theorem dX12_keep_32 : decode cX12_keep 32 = .ok (.iload_n 1, 1) := by decide +kernel
theorem dX12_keep_33 : decode cX12_keep 33 = .ok (.iconst 1, 1) := by decide +kernel
theorem dX12_keep_34 : decode cX12_keep 34 = .ok (.bastore, 1) := by decide +kernel
theorem dX12_keep_35 : decode cX12_keep 35 = .ok (.iconst 0, 1) := by decide +kernel
theorem dX12_keep_36 : decode cX12_keep 36 = .ok (.ireturn, 1) := by decide +kernel
theorem dX12_back_0 : decode cX12_back 0 = .ok (.aload_n 0, 1) := by decide +kernel
theorem dX12_back_1 : decode cX12_back 1 = .ok (.iconst 0, 1) := by decide +kernel
theorem dX12_back_2 : decode cX12_back 2 = .ok (.putfield 89, 3) := by decide +kernel
theorem dX12_back_5 : decode cX12_back 5 = .ok (.iload_n 1, 1) := by decide +kernel
theorem dX12_back_6 : decode cX12_back 6 = .ok (.i2l, 1) := by decide +kernel
theorem dX12_back_7 : decode cX12_back 7 = .ok (.lconst 0, 1) := by decide +kernel
theorem dX12_back_8 : decode cX12_back 8 = .ok (.ldc2_w 488, 3) := by decide +kernel
theorem dX12_back_11 : decode cX12_back 11 = .ok (.invokestatic 94, 3) := by decide +kernel
theorem dX12_back_14 : decode cX12_back 14 = .ok (.ifCond .ne 6, 3) := by decide +kernel
theorem dX12_back_17 : decode cX12_back 17 = .ok (.bipush (-2), 2) := by decide +kernel
theorem dX12_back_19 : decode cX12_back 19 = .ok (.ireturn, 1) := by decide +kernel
theorem dX12_back_20 : decode cX12_back 20 = .ok (.aload_n 0, 1) := by decide +kernel
theorem dX12_back_21 : decode cX12_back 21 = .ok (.getfield 52, 3) := by decide +kernel
theorem dX12_back_24 : decode cX12_back 24 = .ok (.iload_n 1, 1) := by decide +kernel
theorem dX12_back_25 : decode cX12_back 25 = .ok (.baload, 1) := by decide +kernel
theorem dX12_back_26 : decode cX12_back 26 = .ok (.ifCond .ne 6, 3) := by decide +kernel
theorem dX12_back_29 : decode cX12_back 29 = .ok (.bipush (-6), 2) := by decide +kernel
theorem dX12_back_31 : decode cX12_back 31 = .ok (.ireturn, 1) := by decide +kernel
theorem dX12_back_32 : decode cX12_back 32 = .ok (.aload_n 0, 1) := by decide +kernel
theorem dX12_back_33 : decode cX12_back 33 = .ok (.iconst 1, 1) := by decide +kernel
theorem dX12_back_34 : decode cX12_back 34 = .ok (.iload_n 1, 1) := by decide +kernel
theorem dX12_back_35 : decode cX12_back 35 = .ok (.iadd, 1) := by decide +kernel
theorem dX12_back_36 : decode cX12_back 36 = .ok (.iconst 0, 1) := by decide +kernel
theorem dX12_back_37 : decode cX12_back 37 = .ok (.invokevirtual 258, 3) := by decide +kernel
theorem dX12_back_40 : decode cX12_back 40 = .ok (.iconst 0, 1) := by decide +kernel
theorem dX12_back_41 : decode cX12_back 41 = .ok (.ireturn, 1) := by decide +kernel
theorem dJ6_bitCount_0f7a4_0 : decode cJ6_bitCount_0f7a4 0 = .ok (.iload_n 0, 1) := by decide +kernel
theorem dJ6_bitCount_0f7a4_1 : decode cJ6_bitCount_0f7a4 1 = .ok (.iload_n 0, 1) := by decide +kernel
theorem dJ6_bitCount_0f7a4_2 : decode cJ6_bitCount_0f7a4 2 = .ok (.iconst 1, 1) := by decide +kernel
theorem dJ6_bitCount_0f7a4_3 : decode cJ6_bitCount_0f7a4 3 = .ok (.iushr, 1) := by decide +kernel
theorem dJ6_bitCount_0f7a4_4 : decode cJ6_bitCount_0f7a4 4 = .ok (.ldc_w 265, 3) := by decide +kernel
theorem dJ6_bitCount_0f7a4_7 : decode cJ6_bitCount_0f7a4 7 = .ok (.iand, 1) := by decide +kernel
theorem dJ6_bitCount_0f7a4_8 : decode cJ6_bitCount_0f7a4 8 = .ok (.isub, 1) := by decide +kernel
theorem dJ6_bitCount_0f7a4_9 : decode cJ6_bitCount_0f7a4 9 = .ok (.istore_n 0, 1) := by decide +kernel
theorem dJ6_bitCount_0f7a4_10 : decode cJ6_bitCount_0f7a4 10 = .ok (.iload_n 0, 1) := by decide +kernel
theorem dJ6_bitCount_0f7a4_11 : decode cJ6_bitCount_0f7a4 11 = .ok (.ldc_w 266, 3) := by decide +kernel
theorem dJ6_bitCount_0f7a4_14 : decode cJ6_bitCount_0f7a4 14 = .ok (.iand, 1) := by decide +kernel
theorem dJ6_bitCount_0f7a4_15 : decode cJ6_bitCount_0f7a4 15 = .ok (.iload_n 0, 1) := by decide +kernel
theorem dJ6_bitCount_0f7a4_16 : decode cJ6_bitCount_0f7a4 16 = .ok (.iconst 2, 1) := by decide +kernel
theorem dJ6_bitCount_0f7a4_17 : decode cJ6_bitCount_0f7a4 17 = .ok (.iushr, 1) := by decide +kernel
theorem dJ6_bitCount_0f7a4_18 : decode cJ6_bitCount_0f7a4 18 = .ok (.ldc_w 266, 3) := by decide +kernel
theorem dJ6_bitCount_0f7a4_21 : decode cJ6_bitCount_0f7a4 21 = .ok (.iand, 1) := by decide +kernel
theorem dJ6_bitCount_0f7a4_22 : decode cJ6_bitCount_0f7a4 22 = .ok (.iadd, 1) := by decide +kernel
theorem dJ6_bitCount_0f7a4_23 : decode cJ6_bitCount_0f7a4 23 = .ok (.istore_n 0, 1) := by decide +kernel
theorem dJ6_bitCount_0f7a4_24 : decode cJ6_bitCount_0f7a4 24 = .ok (.iload_n 0, 1) := by decide +kernel
theorem dJ6_bitCount_0f7a4_25 : decode cJ6_bitCount_0f7a4 25 = .ok (.iload_n 0, 1) := by decide +kernel
theorem dJ6_bitCount_0f7a4_26 : decode cJ6_bitCount_0f7a4 26 = .ok (.iconst 4, 1) := by decide +kernel
theorem dJ6_bitCount_0f7a4_27 : decode cJ6_bitCount_0f7a4 27 = .ok (.iushr, 1) := by decide +kernel
theorem dJ6_bitCount_0f7a4_28 : decode cJ6_bitCount_0f7a4 28 = .ok (.iadd, 1) := by decide +kernel
theorem dJ6_bitCount_0f7a4_29 : decode cJ6_bitCount_0f7a4 29 = .ok (.ldc_w 267, 3) := by decide +kernel
theorem dJ6_bitCount_0f7a4_32 : decode cJ6_bitCount_0f7a4 32 = .ok (.iand, 1) := by decide +kernel
theorem dJ6_bitCount_0f7a4_33 : decode cJ6_bitCount_0f7a4 33 = .ok (.istore_n 0, 1) := by decide +kernel
theorem dJ6_bitCount_0f7a4_34 : decode cJ6_bitCount_0f7a4 34 = .ok (.iload_n 0, 1) := by decide +kernel
theorem dJ6_bitCount_0f7a4_35 : decode cJ6_bitCount_0f7a4 35 = .ok (.iload_n 0, 1) := by decide +kernel
theorem dJ6_bitCount_0f7a4_36 : decode cJ6_bitCount_0f7a4 36 = .ok (.bipush 8, 2) := by decide +kernel
theorem dJ6_bitCount_0f7a4_38 : decode cJ6_bitCount_0f7a4 38 = .ok (.iushr, 1) := by decide +kernel
theorem dJ6_bitCount_0f7a4_39 : decode cJ6_bitCount_0f7a4 39 = .ok (.iadd, 1) := by decide +kernel
theorem dJ6_bitCount_0f7a4_40 : decode cJ6_bitCount_0f7a4 40 = .ok (.istore_n 0, 1) := by decide +kernel
theorem dJ6_bitCount_0f7a4_41 : decode cJ6_bitCount_0f7a4 41 = .ok (.iload_n 0, 1) := by decide +kernel
theorem dJ6_bitCount_0f7a4_42 : decode cJ6_bitCount_0f7a4 42 = .ok (.iload_n 0, 1) := by decide +kernel
theorem dJ6_bitCount_0f7a4_43 : decode cJ6_bitCount_0f7a4 43 = .ok (.bipush 16, 2) := by decide +kernel
theorem dJ6_bitCount_0f7a4_45 : decode cJ6_bitCount_0f7a4 45 = .ok (.iushr, 1) := by decide +kernel
theorem dJ6_bitCount_0f7a4_46 : decode cJ6_bitCount_0f7a4 46 = .ok (.iadd, 1) := by decide +kernel
theorem dJ6_bitCount_0f7a4_47 : decode cJ6_bitCount_0f7a4 47 = .ok (.istore_n 0, 1) := by decide +kernel
theorem dJ6_bitCount_0f7a4_48 : decode cJ6_bitCount_0f7a4 48 = .ok (.iload_n 0, 1) := by decide +kernel
theorem dJ6_bitCount_0f7a4_49 : decode cJ6_bitCount_0f7a4 49 = .ok (.bipush 63, 2) := by decide +kernel
theorem dJ6_bitCount_0f7a4_51 : decode cJ6_bitCount_0f7a4 51 = .ok (.iand, 1) := by decide +kernel
theorem dJ6_bitCount_0f7a4_52 : decode cJ6_bitCount_0f7a4 52 = .ok (.ireturn, 1) := by decide +kernel
theorem dJ9_max_7cf53_0 : decode cJ9_max_7cf53 0 = .ok (.iload_n 0, 1) := by decide +kernel
theorem dJ9_max_7cf53_1 : decode cJ9_max_7cf53 1 = .ok (.iload_n 1, 1) := by decide +kernel
theorem dJ9_max_7cf53_2 : decode cJ9_max_7cf53 2 = .ok (.if_icmp .lt 7, 3) := by decide +kernel
theorem dJ9_max_7cf53_5 : decode cJ9_max_7cf53 5 = .ok (.iload_n 0, 1) := by decide +kernel
theorem dJ9_max_7cf53_6 : decode cJ9_max_7cf53 6 = .ok (.goto 4, 3) := by decide +kernel
theorem dJ9_max_7cf53_9 : decode cJ9_max_7cf53 9 = .ok (.iload_n 1, 1) := by decide +kernel
theorem dJ9_max_7cf53_10 : decode cJ9_max_7cf53 10 = .ok (.ireturn, 1) := by decide +kernel
theorem dJ9_min_7cf53_0 : decode cJ9_min_7cf53 0 = .ok (.iload_n 0, 1) := by decide +kernel
theorem dJ9_min_7cf53_1 : decode cJ9_min_7cf53 1 = .ok (.iload_n 1, 1) := by decide +kernel
theorem dJ9_min_7cf53_2 : decode cJ9_min_7cf53 2 = .ok (.if_icmp .gt 7, 3) := by decide +kernel
theorem dJ9_min_7cf53_5 : decode cJ9_min_7cf53 5 = .ok (.iload_n 0, 1) := by decide +kernel
theorem dJ9_min_7cf53_6 : decode cJ9_min_7cf53 6 = .ok (.goto 4, 3) := by decide +kernel
theorem dJ9_min_7cf53_9 : decode cJ9_min_7cf53 9 = .ok (.iload_n 1, 1) := by decide +kernel
theorem dJ9_min_7cf53_10 : decode cJ9_min_7cf53 10 = .ok (.ireturn, 1) := by decide +kernel
theorem dJ0_length_8abf5_0 : decode cJ0_length_8abf5 0 = .ok (.aload_n 0, 1) := by decide +kernel
theorem dJ0_length_8abf5_1 : decode cJ0_length_8abf5 1 = .ok (.getfield 9, 3) := by decide +kernel
theorem dJ0_length_8abf5_4 : decode cJ0_length_8abf5 4 = .ok (.arraylength, 1) := by decide +kernel
theorem dJ0_length_8abf5_5 : decode cJ0_length_8abf5 5 = .ok (.aload_n 0, 1) := by decide +kernel
theorem dJ0_length_8abf5_6 : decode cJ0_length_8abf5 6 = .ok (.invokevirtual 335, 3) := by decide +kernel
theorem dJ0_length_8abf5_9 : decode cJ0_length_8abf5 9 = .ok (.ishr, 1) := by decide +kernel
theorem dJ0_length_8abf5_10 : decode cJ0_length_8abf5 10 = .ok (.ireturn, 1) := by decide +kernel
theorem dJ0_charAt_5068e_0 : decode cJ0_charAt_5068e 0 = .ok (.aload_n 0, 1) := by decide +kernel
theorem dJ0_charAt_5068e_1 : decode cJ0_charAt_5068e 1 = .ok (.invokevirtual 492, 3) := by decide +kernel
theorem dJ0_charAt_5068e_4 : decode cJ0_charAt_5068e 4 = .ok (.ifCond .eq 12, 3) := by decide +kernel
theorem dJ0_charAt_5068e_7 : decode cJ0_charAt_5068e 7 = .ok (.aload_n 0, 1) := by decide +kernel
theorem dJ0_charAt_5068e_8 : decode cJ0_charAt_5068e 8 = .ok (.getfield 9, 3) := by decide +kernel
theorem dJ0_charAt_5068e_11 : decode cJ0_charAt_5068e 11 = .ok (.iload_n 1, 1) := by decide +kernel
theorem dJ0_charAt_5068e_12 : decode cJ0_charAt_5068e 12 = .ok (.invokestatic 495, 3) := by decide +kernel
theorem dJ0_charAt_5068e_15 : decode cJ0_charAt_5068e 15 = .ok (.ireturn, 1) := by decide +kernel
theorem dJ0_charAt_5068e_16 : decode cJ0_charAt_5068e 16 = .ok (.aload_n 0, 1) := by decide +kernel
theorem dJ0_charAt_5068e_17 : decode cJ0_charAt_5068e 17 = .ok (.getfield 9, 3) := by decide +kernel
theorem dJ0_charAt_5068e_20 : decode cJ0_charAt_5068e 20 = .ok (.iload_n 1, 1) := by decide +kernel
theorem dJ0_charAt_5068e_21 : decode cJ0_charAt_5068e 21 = .ok (.invokestatic 498, 3) := by decide +kernel
theorem dJ0_charAt_5068e_24 : decode cJ0_charAt_5068e 24 = .ok (.ireturn, 1) := by decide +kernel
theorem dJ0_coder_7d493_0 : decode cJ0_coder_7d493 0 = .ok (.getstatic 38, 3) := by decide +kernel
theorem dJ0_coder_7d493_3 : decode cJ0_coder_7d493 3 = .ok (.ifCond .eq 10, 3) := by decide +kernel
theorem dJ0_coder_7d493_6 : decode cJ0_coder_7d493 6 = .ok (.aload_n 0, 1) := by decide +kernel
theorem dJ0_coder_7d493_7 : decode cJ0_coder_7d493 7 = .ok (.getfield 15, 3) := by decide +kernel
theorem dJ0_coder_7d493_10 : decode cJ0_coder_7d493 10 = .ok (.goto 4, 3) := by decide +kernel
theorem dJ0_coder_7d493_13 : decode cJ0_coder_7d493 13 = .ok (.iconst 1, 1) := by decide +kernel
theorem dJ0_coder_7d493_14 : decode cJ0_coder_7d493 14 = .ok (.ireturn, 1) := by decide +kernel
theorem dJ0_isLatin1_aae02_0 : decode cJ0_isLatin1_aae02 0 = .ok (.getstatic 38, 3) := by decide +kernel
theorem dJ0_isLatin1_aae02_3 : decode cJ0_isLatin1_aae02 3 = .ok (.ifCond .eq 14, 3) := by decide +kernel
theorem dJ0_isLatin1_aae02_6 : decode cJ0_isLatin1_aae02 6 = .ok (.aload_n 0, 1) := by decide +kernel
theorem dJ0_isLatin1_aae02_7 : decode cJ0_isLatin1_aae02 7 = .ok (.getfield 15, 3) := by decide +kernel
theorem dJ0_isLatin1_aae02_10 : decode cJ0_isLatin1_aae02 10 = .ok (.ifCond .ne 7, 3) := by decide +kernel
theorem dJ0_isLatin1_aae02_13 : decode cJ0_isLatin1_aae02 13 = .ok (.iconst 1, 1) := by decide +kernel
theorem dJ0_isLatin1_aae02_14 : decode cJ0_isLatin1_aae02 14 = .ok (.goto 4, 3) := by decide +kernel
theorem dJ0_isLatin1_aae02_17 : decode cJ0_isLatin1_aae02 17 = .ok (.iconst 0, 1) := by decide +kernel
theorem dJ0_isLatin1_aae02_18 : decode cJ0_isLatin1_aae02 18 = .ok (.ireturn, 1) := by decide +kernel
theorem dJ0_checkIndex_df160_0 : decode cJ0_checkIndex_df160 0 = .ok (.iload_n 0, 1) := by decide +kernel
theorem dJ0_checkIndex_df160_1 : decode cJ0_checkIndex_df160 1 = .ok (.iload_n 1, 1) := by decide +kernel
theorem dJ0_checkIndex_df160_2 : decode cJ0_checkIndex_df160 2 = .ok (.getstatic 1053, 3) := by decide +kernel
theorem dJ0_checkIndex_df160_5 : decode cJ0_checkIndex_df160 5 = .ok (.invokestatic 1059, 3) := by decide +kernel
theorem dJ0_checkIndex_df160_8 : decode cJ0_checkIndex_df160 8 = .ok (.pop, 1) := by decide +kernel
theorem dJ0_checkIndex_df160_9 : decode cJ0_checkIndex_df160 9 = .ok (.return_, 1) := by decide +kernel
theorem dJ1_charAt_3b067_0 : decode cJ1_charAt_3b067 0 = .ok (.iload_n 1, 1) := by decide +kernel
theorem dJ1_charAt_3b067_1 : decode cJ1_charAt_3b067 1 = .ok (.aload_n 0, 1) := by decide +kernel
theorem dJ1_charAt_3b067_2 : decode cJ1_charAt_3b067 2 = .ok (.arraylength, 1) := by decide +kernel
theorem dJ1_charAt_3b067_3 : decode cJ1_charAt_3b067 3 = .ok (.invokestatic 9, 3) := by decide +kernel
theorem dJ1_charAt_3b067_6 : decode cJ1_charAt_3b067 6 = .ok (.aload_n 0, 1) := by decide +kernel
theorem dJ1_charAt_3b067_7 : decode cJ1_charAt_3b067 7 = .ok (.iload_n 1, 1) := by decide +kernel
theorem dJ1_charAt_3b067_8 : decode cJ1_charAt_3b067 8 = .ok (.baload, 1) := by decide +kernel
theorem dJ1_charAt_3b067_9 : decode cJ1_charAt_3b067 9 = .ok (.sipush 255, 3) := by decide +kernel
theorem dJ1_charAt_3b067_12 : decode cJ1_charAt_3b067 12 = .ok (.iand, 1) := by decide +kernel
theorem dJ1_charAt_3b067_13 : decode cJ1_charAt_3b067 13 = .ok (.i2c, 1) := by decide +kernel
theorem dJ1_charAt_3b067_14 : decode cJ1_charAt_3b067 14 = .ok (.ireturn, 1) := by decide +kernel
theorem dJ2_getChar_3b067_0 : decode cJ2_getChar_3b067 0 = .ok (.getstatic 44, 3) := by decide +kernel
theorem dJ2_getChar_3b067_3 : decode cJ2_getChar_3b067 3 = .ok (.ifCond .ne 25, 3) := by decide +kernel
theorem dJ2_getChar_3b067_6 : decode cJ2_getChar_3b067 6 = .ok (.iload_n 1, 1) := by decide +kernel
theorem dJ2_getChar_3b067_7 : decode cJ2_getChar_3b067 7 = .ok (.ifCond .lt 11, 3) := by decide +kernel
theorem dJ2_getChar_3b067_10 : decode cJ2_getChar_3b067 10 = .ok (.iload_n 1, 1) := by decide +kernel
theorem dJ2_getChar_3b067_11 : decode cJ2_getChar_3b067 11 = .ok (.aload_n 0, 1) := by decide +kernel
theorem dJ2_getChar_3b067_12 : decode cJ2_getChar_3b067 12 = .ok (.invokestatic 48, 3) := by decide +kernel
theorem dJ2_getChar_3b067_15 : decode cJ2_getChar_3b067 15 = .ok (.if_icmp .lt 13, 3) := by decide +kernel
theorem dJ2_getChar_3b067_18 : decode cJ2_getChar_3b067 18 = .ok (.new 52, 3) := by decide +kernel
theorem dJ2_getChar_3b067_21 : decode cJ2_getChar_3b067 21 = .ok (.dup, 1) := by decide +kernel
theorem dJ2_getChar_3b067_22 : decode cJ2_getChar_3b067 22 = .ok (.ldc 54, 2) := by decide +kernel
theorem dJ2_getChar_3b067_24 : decode cJ2_getChar_3b067 24 = .ok (.invokespecial 56, 3) := by decide +kernel
theorem dJ2_getChar_3b067_27 : decode cJ2_getChar_3b067 27 = .ok (.athrow, 1) := by decide +kernel
theorem dJ2_getChar_3b067_28 : decode cJ2_getChar_3b067 28 = .ok (.iload_n 1, 1) := by decide +kernel
theorem dJ2_getChar_3b067_29 : decode cJ2_getChar_3b067 29 = .ok (.iconst 1, 1) := by decide +kernel
theorem dJ2_getChar_3b067_30 : decode cJ2_getChar_3b067 30 = .ok (.ishl, 1) := by decide +kernel
theorem dJ2_getChar_3b067_31 : decode cJ2_getChar_3b067 31 = .ok (.istore_n 1, 1) := by decide +kernel
theorem dJ2_getChar_3b067_32 : decode cJ2_getChar_3b067 32 = .ok (.aload_n 0, 1) := by decide +kernel
theorem dJ2_getChar_3b067_33 : decode cJ2_getChar_3b067 33 = .ok (.iload_n 1, 1) := by decide +kernel
theorem dJ2_getChar_3b067_34 : decode cJ2_getChar_3b067 34 = .ok (.iinc 1 1, 3) := by decide +kernel
theorem dJ2_getChar_3b067_37 : decode cJ2_getChar_3b067 37 = .ok (.baload, 1) := by decide +kernel
theorem dJ2_getChar_3b067_38 : decode cJ2_getChar_3b067 38 = .ok (.sipush 255, 3) := by decide +kernel
theorem dJ2_getChar_3b067_41 : decode cJ2_getChar_3b067 41 = .ok (.iand, 1) := by decide +kernel
theorem dJ2_getChar_3b067_42 : decode cJ2_getChar_3b067 42 = .ok (.getstatic 59, 3) := by decide +kernel
theorem dJ2_getChar_3b067_45 : decode cJ2_getChar_3b067 45 = .ok (.ishl, 1) := by decide +kernel
theorem dJ2_getChar_3b067_46 : decode cJ2_getChar_3b067 46 = .ok (.aload_n 0, 1) := by decide +kernel
theorem dJ2_getChar_3b067_47 : decode cJ2_getChar_3b067 47 = .ok (.iload_n 1, 1) := by decide +kernel
theorem dJ2_getChar_3b067_48 : decode cJ2_getChar_3b067 48 = .ok (.baload, 1) := by decide +kernel
theorem dJ2_getChar_3b067_49 : decode cJ2_getChar_3b067 49 = .ok (.sipush 255, 3) := by decide +kernel
theorem dJ2_getChar_3b067_52 : decode cJ2_getChar_3b067 52 = .ok (.iand, 1) := by decide +kernel
theorem dJ2_getChar_3b067_53 : decode cJ2_getChar_3b067 53 = .ok (.getstatic 63, 3) := by decide +kernel
theorem dJ2_getChar_3b067_56 : decode cJ2_getChar_3b067 56 = .ok (.ishl, 1) := by decide +kernel
theorem dJ2_getChar_3b067_57 : decode cJ2_getChar_3b067 57 = .ok (.ior, 1) := by decide +kernel
theorem dJ2_getChar_3b067_58 : decode cJ2_getChar_3b067 58 = .ok (.i2c, 1) := by decide +kernel
theorem dJ2_getChar_3b067_59 : decode cJ2_getChar_3b067 59 = .ok (.ireturn, 1) := by decide +kernel
theorem dJ2_length_9d52b_0 : decode cJ2_length_9d52b 0 = .ok (.aload_n 0, 1) := by decide +kernel
theorem dJ2_length_9d52b_1 : decode cJ2_length_9d52b 1 = .ok (.arraylength, 1) := by decide +kernel
theorem dJ2_length_9d52b_2 : decode cJ2_length_9d52b 2 = .ok (.iconst 1, 1) := by decide +kernel
theorem dJ2_length_9d52b_3 : decode cJ2_length_9d52b 3 = .ok (.ishr, 1) := by decide +kernel
theorem dJ2_length_9d52b_4 : decode cJ2_length_9d52b 4 = .ok (.ireturn, 1) := by decide +kernel
theorem dJ2_charAt_3b067_0 : decode cJ2_charAt_3b067 0 = .ok (.iload_n 1, 1) := by decide +kernel
theorem dJ2_charAt_3b067_1 : decode cJ2_charAt_3b067 1 = .ok (.aload_n 0, 1) := by decide +kernel
theorem dJ2_charAt_3b067_2 : decode cJ2_charAt_3b067 2 = .ok (.invokestatic 67, 3) := by decide +kernel
theorem dJ2_charAt_3b067_5 : decode cJ2_charAt_3b067 5 = .ok (.aload_n 0, 1) := by decide +kernel
theorem dJ2_charAt_3b067_6 : decode cJ2_charAt_3b067 6 = .ok (.iload_n 1, 1) := by decide +kernel
theorem dJ2_charAt_3b067_7 : decode cJ2_charAt_3b067 7 = .ok (.invokestatic 71, 3) := by decide +kernel
theorem dJ2_charAt_3b067_10 : decode cJ2_charAt_3b067 10 = .ok (.ireturn, 1) := by decide +kernel
theorem dJ2_checkIndex_2214a_0 : decode cJ2_checkIndex_2214a 0 = .ok (.iload_n 0, 1) := by decide +kernel
theorem dJ2_checkIndex_2214a_1 : decode cJ2_checkIndex_2214a 1 = .ok (.aload_n 1, 1) := by decide +kernel
theorem dJ2_checkIndex_2214a_2 : decode cJ2_checkIndex_2214a 2 = .ok (.invokestatic 48, 3) := by decide +kernel
theorem dJ2_checkIndex_2214a_5 : decode cJ2_checkIndex_2214a 5 = .ok (.invokestatic 414, 3) := by decide +kernel
theorem dJ2_checkIndex_2214a_8 : decode cJ2_checkIndex_2214a 8 = .ok (.return_, 1) := by decide +kernel
theorem dJ7_fill_d0a16_0 : decode cJ7_fill_d0a16 0 = .ok (.iconst 0, 1) := by decide +kernel
theorem dJ7_fill_d0a16_1 : decode cJ7_fill_d0a16 1 = .ok (.istore_n 3, 1) := by decide +kernel
theorem dJ7_fill_d0a16_2 : decode cJ7_fill_d0a16 2 = .ok (.aload_n 0, 1) := by decide +kernel
theorem dJ7_fill_d0a16_3 : decode cJ7_fill_d0a16 3 = .ok (.arraylength, 1) := by decide +kernel
theorem dJ7_fill_d0a16_4 : decode cJ7_fill_d0a16 4 = .ok (.istore 4, 2) := by decide +kernel
theorem dJ7_fill_d0a16_6 : decode cJ7_fill_d0a16 6 = .ok (.iload_n 3, 1) := by decide +kernel
theorem dJ7_fill_d0a16_7 : decode cJ7_fill_d0a16 7 = .ok (.iload 4, 2) := by decide +kernel
theorem dJ7_fill_d0a16_9 : decode cJ7_fill_d0a16 9 = .ok (.if_icmp .ge 13, 3) := by decide +kernel
theorem dJ7_fill_d0a16_12 : decode cJ7_fill_d0a16 12 = .ok (.aload_n 0, 1) := by decide +kernel
theorem dJ7_fill_d0a16_13 : decode cJ7_fill_d0a16 13 = .ok (.iload_n 3, 1) := by decide +kernel
theorem dJ7_fill_d0a16_14 : decode cJ7_fill_d0a16 14 = .ok (.lload_n 1, 1) := by decide +kernel
theorem dJ7_fill_d0a16_15 : decode cJ7_fill_d0a16 15 = .ok (.lastore, 1) := by decide +kernel
theorem dJ7_fill_d0a16_16 : decode cJ7_fill_d0a16 16 = .ok (.iinc 3 1, 3) := by decide +kernel
theorem dJ7_fill_d0a16_19 : decode cJ7_fill_d0a16 19 = .ok (.goto (-13), 3) := by decide +kernel
theorem dJ7_fill_d0a16_22 : decode cJ7_fill_d0a16 22 = .ok (.return_, 1) := by decide +kernel
theorem dJ7_fill_53178_0 : decode cJ7_fill_53178 0 = .ok (.iconst 0, 1) := by decide +kernel
theorem dJ7_fill_53178_1 : decode cJ7_fill_53178 1 = .ok (.istore_n 2, 1) := by decide +kernel
theorem dJ7_fill_53178_2 : decode cJ7_fill_53178 2 = .ok (.aload_n 0, 1) := by decide +kernel
theorem dJ7_fill_53178_3 : decode cJ7_fill_53178 3 = .ok (.arraylength, 1) := by decide +kernel
theorem dJ7_fill_53178_4 : decode cJ7_fill_53178 4 = .ok (.istore_n 3, 1) := by decide +kernel
theorem dJ7_fill_53178_5 : decode cJ7_fill_53178 5 = .ok (.iload_n 2, 1) := by decide +kernel
theorem dJ7_fill_53178_6 : decode cJ7_fill_53178 6 = .ok (.iload_n 3, 1) := by decide +kernel
theorem dJ7_fill_53178_7 : decode cJ7_fill_53178 7 = .ok (.if_icmp .ge 13, 3) := by decide +kernel
theorem dJ7_fill_53178_10 : decode cJ7_fill_53178 10 = .ok (.aload_n 0, 1) := by decide +kernel
theorem dJ7_fill_53178_11 : decode cJ7_fill_53178 11 = .ok (.iload_n 2, 1) := by decide +kernel
theorem dJ7_fill_53178_12 : decode cJ7_fill_53178 12 = .ok (.iload_n 1, 1) := by decide +kernel
theorem dJ7_fill_53178_13 : decode cJ7_fill_53178 13 = .ok (.iastore, 1) := by decide +kernel
theorem dJ7_fill_53178_14 : decode cJ7_fill_53178 14 = .ok (.iinc 2 1, 3) := by decide +kernel
theorem dJ7_fill_53178_17 : decode cJ7_fill_53178 17 = .ok (.goto (-12), 3) := by decide +kernel
theorem dJ7_fill_53178_20 : decode cJ7_fill_53178 20 = .ok (.return_, 1) := by decide +kernel
theorem dJ3_checkIndex_8e157_0 : decode cJ3_checkIndex_8e157 0 = .ok (.iload_n 0, 1) := by decide +kernel
theorem dJ3_checkIndex_8e157_1 : decode cJ3_checkIndex_8e157 1 = .ok (.ifCond .lt 8, 3) := by decide +kernel
theorem dJ3_checkIndex_8e157_4 : decode cJ3_checkIndex_8e157 4 = .ok (.iload_n 0, 1) := by decide +kernel
theorem dJ3_checkIndex_8e157_5 : decode cJ3_checkIndex_8e157 5 = .ok (.iload_n 1, 1) := by decide +kernel
theorem dJ3_checkIndex_8e157_6 : decode cJ3_checkIndex_8e157 6 = .ok (.if_icmp .lt 10, 3) := by decide +kernel
theorem dJ3_checkIndex_8e157_9 : decode cJ3_checkIndex_8e157 9 = .ok (.aload_n 2, 1) := by decide +kernel
theorem dJ3_checkIndex_8e157_10 : decode cJ3_checkIndex_8e157 10 = .ok (.iload_n 0, 1) := by decide +kernel
theorem dJ3_checkIndex_8e157_11 : decode cJ3_checkIndex_8e157 11 = .ok (.iload_n 1, 1) := by decide +kernel
theorem dJ3_checkIndex_8e157_12 : decode cJ3_checkIndex_8e157 12 = .ok (.invokestatic 95, 3) := by decide +kernel
theorem dJ3_checkIndex_8e157_15 : decode cJ3_checkIndex_8e157 15 = .ok (.athrow, 1) := by decide +kernel
theorem dJ3_checkIndex_8e157_16 : decode cJ3_checkIndex_8e157 16 = .ok (.iload_n 0, 1) := by decide +kernel
theorem dJ3_checkIndex_8e157_17 : decode cJ3_checkIndex_8e157 17 = .ok (.ireturn, 1) := by decide +kernel
