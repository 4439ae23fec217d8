-- the decode rows, as printed
theorem dX8_isWord_77 : decode cX8_isWord 77 = .ok (.ireturn, 1) := by decide +kernel
theorem dX9_init_0 : decode cX9_init 0 = .ok (.aload_n 0, 1) := by decide +kernel
theorem dX9_init_1 : decode cX9_init 1 = .ok (.invokespecial 3, 3) := by decide +kernel
theorem dX9_init_4 : decode cX9_init 4 = .ok (.aload_n 0, 1) := by decide +kernel
theorem dX9_init_5 : decode cX9_init 5 = .ok (.bipush 6, 2) := by decide +kernel
theorem dX9_init_7 : decode cX9_init 7 = .ok (.bipush 6, 2) := by decide +kernel
theorem dX9_init_9 : decode cX9_init 9 = .ok (.multianewarray 9 2, 4) := by decide +kernel
theorem dX9_init_13 : decode cX9_init 13 = .ok (.putfield 11, 3) := by decide +kernel
theorem dX9_init_16 : decode cX9_init 16 = .ok (.aload_n 0, 1) := by decide +kernel
theorem dX9_init_17 : decode cX9_init 17 = .ok (.bipush 8, 2) := by decide +kernel
theorem dX9_init_19 : decode cX9_init 19 = .ok (.sipush 400, 3) := by decide +kernel
theorem dX9_init_22 : decode cX9_init 22 = .ok (.multianewarray 9 2, 4) := by decide +kernel
theorem dX9_init_26 : decode cX9_init 26 = .ok (.putfield 16, 3) := by decide +kernel
theorem dX9_init_29 : decode cX9_init 29 = .ok (.return_, 1) := by decide +kernel
theorem dX9_drawUp_0 : decode cX9_drawUp 0 = .ok (.aload_n 0, 1) := by decide +kernel
theorem dX9_drawUp_1 : decode cX9_drawUp 1 = .ok (.aload_n 1, 1) := by decide +kernel
theorem dX9_drawUp_2 : decode cX9_drawUp 2 = .ok (.invokevirtual 19, 3) := by decide +kernel
theorem dX9_drawUp_5 : decode cX9_drawUp 5 = .ok (.aload_n 0, 1) := by decide +kernel
theorem dX9_drawUp_6 : decode cX9_drawUp 6 = .ok (.aload_n 1, 1) := by decide +kernel
theorem dX9_drawUp_7 : decode cX9_drawUp 7 = .ok (.getfield 23, 3) := by decide +kernel
theorem dX9_drawUp_10 : decode cX9_drawUp 10 = .ok (.invokevirtual 29, 3) := by decide +kernel
theorem dX9_drawUp_13 : decode cX9_drawUp 13 = .ok (.iconst 0, 1) := by decide +kernel
theorem dX9_drawUp_14 : decode cX9_drawUp 14 = .ok (.istore_n 2, 1) := by decide +kernel
theorem dX9_drawUp_15 : decode cX9_drawUp 15 = .ok (.iload_n 2, 1) := by decide +kernel
theorem dX9_drawUp_16 : decode cX9_drawUp 16 = .ok (.aload_n 1, 1) := by decide +kernel
theorem dX9_drawUp_17 : decode cX9_drawUp 17 = .ok (.getfield 33, 3) := by decide +kernel
theorem dX9_drawUp_20 : decode cX9_drawUp 20 = .ok (.if_icmp .ge 50, 3) := by decide +kernel
theorem dX9_drawUp_23 : decode cX9_drawUp 23 = .ok (.iconst (-1), 1) := by decide +kernel
theorem dX9_drawUp_24 : decode cX9_drawUp 24 = .ok (.istore_n 3, 1) := by decide +kernel
theorem dX9_drawUp_25 : decode cX9_drawUp 25 = .ok (.sipush 399, 3) := by decide +kernel
theorem dX9_drawUp_28 : decode cX9_drawUp 28 = .ok (.istore 4, 2) := by decide +kernel
theorem dX9_drawUp_30 : decode cX9_drawUp 30 = .ok (.iload 4, 2) := by decide +kernel
theorem dX9_drawUp_32 : decode cX9_drawUp 32 = .ok (.ifCond .lt 32, 3) := by decide +kernel
theorem dX9_drawUp_35 : decode cX9_drawUp 35 = .ok (.aload_n 1, 1) := by decide +kernel
theorem dX9_drawUp_36 : decode cX9_drawUp 36 = .ok (.iload_n 2, 1) := by decide +kernel
theorem dX9_drawUp_37 : decode cX9_drawUp 37 = .ok (.iload 4, 2) := by decide +kernel
theorem dX9_drawUp_39 : decode cX9_drawUp 39 = .ok (.invokevirtual 36, 3) := by decide +kernel
theorem dX9_drawUp_42 : decode cX9_drawUp 42 = .ok (.ifCond .eq 6, 3) := by decide +kernel
theorem dX9_drawUp_45 : decode cX9_drawUp 45 = .ok (.iload 4, 2) := by decide +kernel
theorem dX9_drawUp_47 : decode cX9_drawUp 47 = .ok (.istore_n 3, 1) := by decide +kernel
theorem dX9_drawUp_48 : decode cX9_drawUp 48 = .ok (.aload_n 0, 1) := by decide +kernel
theorem dX9_drawUp_49 : decode cX9_drawUp 49 = .ok (.getfield 16, 3) := by decide +kernel
theorem dX9_drawUp_52 : decode cX9_drawUp 52 = .ok (.iload_n 2, 1) := by decide +kernel
theorem dX9_drawUp_53 : decode cX9_drawUp 53 = .ok (.aaload, 1) := by decide +kernel
theorem dX9_drawUp_54 : decode cX9_drawUp 54 = .ok (.iload 4, 2) := by decide +kernel
theorem dX9_drawUp_56 : decode cX9_drawUp 56 = .ok (.iload_n 3, 1) := by decide +kernel
theorem dX9_drawUp_57 : decode cX9_drawUp 57 = .ok (.iastore, 1) := by decide +kernel
theorem dX9_drawUp_58 : decode cX9_drawUp 58 = .ok (.iinc 4 (-1), 3) := by decide +kernel
theorem dX9_drawUp_61 : decode cX9_drawUp 61 = .ok (.goto (-31), 3) := by decide +kernel
theorem dX9_drawUp_64 : decode cX9_drawUp 64 = .ok (.iinc 2 1, 3) := by decide +kernel
theorem dX9_drawUp_67 : decode cX9_drawUp 67 = .ok (.goto (-52), 3) := by decide +kernel
theorem dX9_drawUp_70 : decode cX9_drawUp 70 = .ok (.return_, 1) := by decide +kernel
theorem dX9_layWays_0 : decode cX9_layWays 0 = .ok (.iconst 0, 1) := by decide +kernel
theorem dX9_layWays_1 : decode cX9_layWays 1 = .ok (.istore_n 2, 1) := by decide +kernel
theorem dX9_layWays_2 : decode cX9_layWays 2 = .ok (.iload_n 2, 1) := by decide +kernel
theorem dX9_layWays_3 : decode cX9_layWays 3 = .ok (.aload_n 1, 1) := by decide +kernel
theorem dX9_layWays_4 : decode cX9_layWays 4 = .ok (.getfield 23, 3) := by decide +kernel
theorem dX9_layWays_7 : decode cX9_layWays 7 = .ok (.if_icmp .ge 65, 3) := by decide +kernel
theorem dX9_layWays_10 : decode cX9_layWays 10 = .ok (.iconst 0, 1) := by decide +kernel
theorem dX9_layWays_11 : decode cX9_layWays 11 = .ok (.istore_n 3, 1) := by decide +kernel
theorem dX9_layWays_12 : decode cX9_layWays 12 = .ok (.iload_n 3, 1) := by decide +kernel
theorem dX9_layWays_13 : decode cX9_layWays 13 = .ok (.aload_n 1, 1) := by decide +kernel
theorem dX9_layWays_14 : decode cX9_layWays 14 = .ok (.getfield 23, 3) := by decide +kernel
theorem dX9_layWays_17 : decode cX9_layWays 17 = .ok (.if_icmp .ge 40, 3) := by decide +kernel
theorem dX9_layWays_20 : decode cX9_layWays 20 = .ok (.aload_n 0, 1) := by decide +kernel
theorem dX9_layWays_21 : decode cX9_layWays 21 = .ok (.getfield 11, 3) := by decide +kernel
theorem dX9_layWays_24 : decode cX9_layWays 24 = .ok (.iload_n 2, 1) := by decide +kernel
theorem dX9_layWays_25 : decode cX9_layWays 25 = .ok (.aaload, 1) := by decide +kernel
theorem dX9_layWays_26 : decode cX9_layWays 26 = .ok (.iload_n 3, 1) := by decide +kernel
theorem dX9_layWays_27 : decode cX9_layWays 27 = .ok (.aload_n 1, 1) := by decide +kernel
theorem dX9_layWays_28 : decode cX9_layWays 28 = .ok (.getfield 40, 3) := by decide +kernel
theorem dX9_layWays_31 : decode cX9_layWays 31 = .ok (.iload_n 2, 1) := by decide +kernel
theorem dX9_layWays_32 : decode cX9_layWays 32 = .ok (.aaload, 1) := by decide +kernel
theorem dX9_layWays_33 : decode cX9_layWays 33 = .ok (.iload_n 3, 1) := by decide +kernel
theorem dX9_layWays_34 : decode cX9_layWays 34 = .ok (.iaload, 1) := by decide +kernel
theorem dX9_layWays_35 : decode cX9_layWays 35 = .ok (.ifCond .le 14, 3) := by decide +kernel
theorem dX9_layWays_38 : decode cX9_layWays 38 = .ok (.aload_n 1, 1) := by decide +kernel
theorem dX9_layWays_39 : decode cX9_layWays 39 = .ok (.getfield 40, 3) := by decide +kernel
theorem dX9_layWays_42 : decode cX9_layWays 42 = .ok (.iload_n 2, 1) := by decide +kernel
theorem dX9_layWays_43 : decode cX9_layWays 43 = .ok (.aaload, 1) := by decide +kernel
theorem dX9_layWays_44 : decode cX9_layWays 44 = .ok (.iload_n 3, 1) := by decide +kernel
theorem dX9_layWays_45 : decode cX9_layWays 45 = .ok (.iaload, 1) := by decide +kernel
theorem dX9_layWays_46 : decode cX9_layWays 46 = .ok (.goto 4, 3) := by decide +kernel
theorem dX9_layWays_49 : decode cX9_layWays 49 = .ok (.iconst (-1), 1) := by decide +kernel
theorem dX9_layWays_50 : decode cX9_layWays 50 = .ok (.iastore, 1) := by decide +kernel
theorem dX9_layWays_51 : decode cX9_layWays 51 = .ok (.iinc 3 1, 3) := by decide +kernel
theorem dX9_layWays_54 : decode cX9_layWays 54 = .ok (.goto (-42), 3) := by decide +kernel
theorem dX9_layWays_57 : decode cX9_layWays 57 = .ok (.aload_n 0, 1) := by decide +kernel
theorem dX9_layWays_58 : decode cX9_layWays 58 = .ok (.getfield 11, 3) := by decide +kernel
theorem dX9_layWays_61 : decode cX9_layWays 61 = .ok (.iload_n 2, 1) := by decide +kernel
theorem dX9_layWays_62 : decode cX9_layWays 62 = .ok (.aaload, 1) := by decide +kernel
theorem dX9_layWays_63 : decode cX9_layWays 63 = .ok (.iload_n 2, 1) := by decide +kernel
theorem dX9_layWays_64 : decode cX9_layWays 64 = .ok (.iconst 0, 1) := by decide +kernel
theorem dX9_layWays_65 : decode cX9_layWays 65 = .ok (.iastore, 1) := by decide +kernel
theorem dX9_layWays_66 : decode cX9_layWays 66 = .ok (.iinc 2 1, 3) := by decide +kernel
theorem dX9_layWays_69 : decode cX9_layWays 69 = .ok (.goto (-67), 3) := by decide +kernel
theorem dX9_layWays_72 : decode cX9_layWays 72 = .ok (.return_, 1) := by decide +kernel
theorem dX9_shortenWalks_0 : decode cX9_shortenWalks 0 = .ok (.iconst 0, 1) := by decide +kernel
theorem dX9_shortenWalks_1 : decode cX9_shortenWalks 1 = .ok (.istore_n 2, 1) := by decide +kernel
theorem dX9_shortenWalks_2 : decode cX9_shortenWalks 2 = .ok (.iload_n 2, 1) := by decide +kernel
theorem dX9_shortenWalks_3 : decode cX9_shortenWalks 3 = .ok (.iload_n 1, 1) := by decide +kernel
theorem dX9_shortenWalks_4 : decode cX9_shortenWalks 4 = .ok (.if_icmp .ge 45, 3) := by decide +kernel
theorem dX9_shortenWalks_7 : decode cX9_shortenWalks 7 = .ok (.iconst 0, 1) := by decide +kernel
theorem dX9_shortenWalks_8 : decode cX9_shortenWalks 8 = .ok (.istore_n 3, 1) := by decide +kernel
theorem dX9_shortenWalks_9 : decode cX9_shortenWalks 9 = .ok (.iload_n 3, 1) := by decide +kernel
theorem dX9_shortenWalks_10 : decode cX9_shortenWalks 10 = .ok (.iload_n 1, 1) := by decide +kernel
theorem dX9_shortenWalks_11 : decode cX9_shortenWalks 11 = .ok (.if_icmp .ge 32, 3) := by decide +kernel
theorem dX9_shortenWalks_14 : decode cX9_shortenWalks 14 = .ok (.iconst 0, 1) := by decide +kernel
theorem dX9_shortenWalks_15 : decode cX9_shortenWalks 15 = .ok (.istore 4, 2) := by decide +kernel
theorem dX9_shortenWalks_17 : decode cX9_shortenWalks 17 = .ok (.iload 4, 2) := by decide +kernel
theorem dX9_shortenWalks_19 : decode cX9_shortenWalks 19 = .ok (.iload_n 1, 1) := by decide +kernel
theorem dX9_shortenWalks_20 : decode cX9_shortenWalks 20 = .ok (.if_icmp .ge 17, 3) := by decide +kernel
theorem dX9_shortenWalks_23 : decode cX9_shortenWalks 23 = .ok (.aload_n 0, 1) := by decide +kernel
theorem dX9_shortenWalks_24 : decode cX9_shortenWalks 24 = .ok (.iload_n 3, 1) := by decide +kernel
theorem dX9_shortenWalks_25 : decode cX9_shortenWalks 25 = .ok (.iload_n 2, 1) := by decide +kernel
theorem dX9_shortenWalks_26 : decode cX9_shortenWalks 26 = .ok (.iload 4, 2) := by decide +kernel
theorem dX9_shortenWalks_28 : decode cX9_shortenWalks 28 = .ok (.invokevirtual 43, 3) := by decide +kernel
theorem dX9_shortenWalks_31 : decode cX9_shortenWalks 31 = .ok (.iinc 4 1, 3) := by decide +kernel
theorem dX9_shortenWalks_34 : decode cX9_shortenWalks 34 = .ok (.goto (-17), 3) := by decide +kernel
theorem dX9_shortenWalks_37 : decode cX9_shortenWalks 37 = .ok (.iinc 3 1, 3) := by decide +kernel
theorem dX9_shortenWalks_40 : decode cX9_shortenWalks 40 = .ok (.goto (-31), 3) := by decide +kernel
theorem dX9_shortenWalks_43 : decode cX9_shortenWalks 43 = .ok (.iinc 2 1, 3) := by decide +kernel
theorem dX9_shortenWalks_46 : decode cX9_shortenWalks 46 = .ok (.goto (-44), 3) := by decide +kernel
theorem dX9_shortenWalks_49 : decode cX9_shortenWalks 49 = .ok (.return_, 1) := by decide +kernel
theorem dX9_shorten_0 : decode cX9_shorten 0 = .ok (.aload_n 0, 1) := by decide +kernel
theorem dX9_shorten_1 : decode cX9_shorten 1 = .ok (.getfield 11, 3) := by decide +kernel
theorem dX9_shorten_4 : decode cX9_shorten 4 = .ok (.iload_n 1, 1) := by decide +kernel
theorem dX9_shorten_5 : decode cX9_shorten 5 = .ok (.aaload, 1) := by decide +kernel
theorem dX9_shorten_6 : decode cX9_shorten 6 = .ok (.iload_n 2, 1) := by decide +kernel
theorem dX9_shorten_7 : decode cX9_shorten 7 = .ok (.iaload, 1) := by decide +kernel
theorem dX9_shorten_8 : decode cX9_shorten 8 = .ok (.iconst (-1), 1) := by decide +kernel
theorem dX9_shorten_9 : decode cX9_shorten 9 = .ok (.if_icmp .eq 15, 3) := by decide +kernel
theorem dX9_shorten_12 : decode cX9_shorten 12 = .ok (.aload_n 0, 1) := by decide +kernel
theorem dX9_shorten_13 : decode cX9_shorten 13 = .ok (.getfield 11, 3) := by decide +kernel
theorem dX9_shorten_16 : decode cX9_shorten 16 = .ok (.iload_n 2, 1) := by decide +kernel
theorem dX9_shorten_17 : decode cX9_shorten 17 = .ok (.aaload, 1) := by decide +kernel
theorem dX9_shorten_18 : decode cX9_shorten 18 = .ok (.iload_n 3, 1) := by decide +kernel
theorem dX9_shorten_19 : decode cX9_shorten 19 = .ok (.iaload, 1) := by decide +kernel
theorem dX9_shorten_20 : decode cX9_shorten 20 = .ok (.iconst (-1), 1) := by decide +kernel
theorem dX9_shorten_21 : decode cX9_shorten 21 = .ok (.if_icmp .ne 4, 3) := by decide +kernel
theorem dX9_shorten_24 : decode cX9_shorten 24 = .ok (.return_, 1) := by decide +kernel
theorem dX9_shorten_25 : decode cX9_shorten 25 = .ok (.aload_n 0, 1) := by decide +kernel
theorem dX9_shorten_26 : decode cX9_shorten 26 = .ok (.getfield 11, 3) := by decide +kernel
theorem dX9_shorten_29 : decode cX9_shorten 29 = .ok (.iload_n 1, 1) := by decide +kernel
theorem dX9_shorten_30 : decode cX9_shorten 30 = .ok (.aaload, 1) := by decide +kernel
theorem dX9_shorten_31 : decode cX9_shorten 31 = .ok (.iload_n 2, 1) := by decide +kernel
theorem dX9_shorten_32 : decode cX9_shorten 32 = .ok (.iaload, 1) := by decide +kernel
theorem dX9_shorten_33 : decode cX9_shorten 33 = .ok (.aload_n 0, 1) := by decide +kernel
theorem dX9_shorten_34 : decode cX9_shorten 34 = .ok (.getfield 11, 3) := by decide +kernel
theorem dX9_shorten_37 : decode cX9_shorten 37 = .ok (.iload_n 2, 1) := by decide +kernel
theorem dX9_shorten_38 : decode cX9_shorten 38 = .ok (.aaload, 1) := by decide +kernel
theorem dX9_shorten_39 : decode cX9_shorten 39 = .ok (.iload_n 3, 1) := by decide +kernel
theorem dX9_shorten_40 : decode cX9_shorten 40 = .ok (.iaload, 1) := by decide +kernel
theorem dX9_shorten_41 : decode cX9_shorten 41 = .ok (.iadd, 1) := by decide +kernel
theorem dX9_shorten_42 : decode cX9_shorten 42 = .ok (.istore 4, 2) := by decide +kernel
theorem dX9_shorten_44 : decode cX9_shorten 44 = .ok (.aload_n 0, 1) := by decide +kernel
theorem dX9_shorten_45 : decode cX9_shorten 45 = .ok (.getfield 11, 3) := by decide +kernel
theorem dX9_shorten_48 : decode cX9_shorten 48 = .ok (.iload_n 1, 1) := by decide +kernel
theorem dX9_shorten_49 : decode cX9_shorten 49 = .ok (.aaload, 1) := by decide +kernel
theorem dX9_shorten_50 : decode cX9_shorten 50 = .ok (.iload_n 3, 1) := by decide +kernel
theorem dX9_shorten_51 : decode cX9_shorten 51 = .ok (.iaload, 1) := by decide +kernel
theorem dX9_shorten_52 : decode cX9_shorten 52 = .ok (.iconst (-1), 1) := by decide +kernel
theorem dX9_shorten_53 : decode cX9_shorten 53 = .ok (.if_icmp .eq 16, 3) := by decide +kernel
theorem dX9_shorten_56 : decode cX9_shorten 56 = .ok (.aload_n 0, 1) := by decide +kernel
theorem dX9_shorten_57 : decode cX9_shorten 57 = .ok (.getfield 11, 3) := by decide +kernel
theorem dX9_shorten_60 : decode cX9_shorten 60 = .ok (.iload_n 1, 1) := by decide +kernel
theorem dX9_shorten_61 : decode cX9_shorten 61 = .ok (.aaload, 1) := by decide +kernel
theorem dX9_shorten_62 : decode cX9_shorten 62 = .ok (.iload_n 3, 1) := by decide +kernel
theorem dX9_shorten_63 : decode cX9_shorten 63 = .ok (.iaload, 1) := by decide +kernel
theorem dX9_shorten_64 : decode cX9_shorten 64 = .ok (.iload 4, 2) := by decide +kernel
theorem dX9_shorten_66 : decode cX9_shorten 66 = .ok (.if_icmp .le 13, 3) := by decide +kernel
theorem dX9_shorten_69 : decode cX9_shorten 69 = .ok (.aload_n 0, 1) := by decide +kernel
theorem dX9_shorten_70 : decode cX9_shorten 70 = .ok (.getfield 11, 3) := by decide +kernel
theorem dX9_shorten_73 : decode cX9_shorten 73 = .ok (.iload_n 1, 1) := by decide +kernel
theorem dX9_shorten_74 : decode cX9_shorten 74 = .ok (.aaload, 1) := by decide +kernel
theorem dX9_shorten_75 : decode cX9_shorten 75 = .ok (.iload_n 3, 1) := by decide +kernel
theorem dX9_shorten_76 : decode cX9_shorten 76 = .ok (.iload 4, 2) := by decide +kernel
theorem dX9_shorten_78 : decode cX9_shorten 78 = .ok (.iastore, 1) := by decide +kernel
theorem dX9_shorten_79 : decode cX9_shorten 79 = .ok (.return_, 1) := by decide +kernel
theorem dX9_hoursBetween_0 : decode cX9_hoursBetween 0 = .ok (.iload_n 1, 1) := by decide +kernel
theorem dX9_hoursBetween_1 : decode cX9_hoursBetween 1 = .ok (.ifCond .lt 19, 3) := by decide +kernel
theorem dX9_hoursBetween_4 : decode cX9_hoursBetween 4 = .ok (.iload_n 1, 1) := by decide +kernel
theorem dX9_hoursBetween_5 : decode cX9_hoursBetween 5 = .ok (.bipush 6, 2) := by decide +kernel
theorem dX9_hoursBetween_7 : decode cX9_hoursBetween 7 = .ok (.if_icmp .ge 13, 3) := by decide +kernel
theorem dX9_hoursBetween_10 : decode cX9_hoursBetween 10 = .ok (.iload_n 2, 1) := by decide +kernel
theorem dX9_hoursBetween_11 : decode cX9_hoursBetween 11 = .ok (.ifCond .lt 9, 3) := by decide +kernel
theorem dX9_hoursBetween_14 : decode cX9_hoursBetween 14 = .ok (.iload_n 2, 1) := by decide +kernel
theorem dX9_hoursBetween_15 : decode cX9_hoursBetween 15 = .ok (.bipush 6, 2) := by decide +kernel
theorem dX9_hoursBetween_17 : decode cX9_hoursBetween 17 = .ok (.if_icmp .lt 5, 3) := by decide +kernel
theorem dX9_hoursBetween_20 : decode cX9_hoursBetween 20 = .ok (.iconst (-1), 1) := by decide +kernel
theorem dX9_hoursBetween_21 : decode cX9_hoursBetween 21 = .ok (.ireturn, 1) := by decide +kernel
theorem dX9_hoursBetween_22 : decode cX9_hoursBetween 22 = .ok (.aload_n 0, 1) := by decide +kernel
theorem dX9_hoursBetween_23 : decode cX9_hoursBetween 23 = .ok (.getfield 11, 3) := by decide +kernel
theorem dX9_hoursBetween_26 : decode cX9_hoursBetween 26 = .ok (.iload_n 1, 1) := by decide +kernel
theorem dX9_hoursBetween_27 : decode cX9_hoursBetween 27 = .ok (.aaload, 1) := by decide +kernel
theorem dX9_hoursBetween_28 : decode cX9_hoursBetween 28 = .ok (.iload_n 2, 1) := by decide +kernel
theorem dX9_hoursBetween_29 : decode cX9_hoursBetween 29 = .ok (.iaload, 1) := by decide +kernel
theorem dX9_hoursBetween_30 : decode cX9_hoursBetween 30 = .ok (.ireturn, 1) := by decide +kernel
theorem dX9_firstOpen_0 : decode cX9_firstOpen 0 = .ok (.iload_n 1, 1) := by decide +kernel
theorem dX9_firstOpen_1 : decode cX9_firstOpen 1 = .ok (.ifCond .lt 20, 3) := by decide +kernel
theorem dX9_firstOpen_4 : decode cX9_firstOpen 4 = .ok (.iload_n 1, 1) := by decide +kernel
theorem dX9_firstOpen_5 : decode cX9_firstOpen 5 = .ok (.bipush 8, 2) := by decide +kernel
theorem dX9_firstOpen_7 : decode cX9_firstOpen 7 = .ok (.if_icmp .ge 14, 3) := by decide +kernel
theorem dX9_firstOpen_10 : decode cX9_firstOpen 10 = .ok (.iload_n 2, 1) := by decide +kernel
theorem dX9_firstOpen_11 : decode cX9_firstOpen 11 = .ok (.ifCond .lt 10, 3) := by decide +kernel
theorem dX9_firstOpen_14 : decode cX9_firstOpen 14 = .ok (.iload_n 2, 1) := by decide +kernel
theorem dX9_firstOpen_15 : decode cX9_firstOpen 15 = .ok (.sipush 400, 3) := by decide +kernel
theorem dX9_firstOpen_18 : decode cX9_firstOpen 18 = .ok (.if_icmp .lt 5, 3) := by decide +kernel
theorem dX9_firstOpen_21 : decode cX9_firstOpen 21 = .ok (.iconst (-1), 1) := by decide +kernel
theorem dX9_firstOpen_22 : decode cX9_firstOpen 22 = .ok (.ireturn, 1) := by decide +kernel
theorem dX9_firstOpen_23 : decode cX9_firstOpen 23 = .ok (.aload_n 0, 1) := by decide +kernel
theorem dX9_firstOpen_24 : decode cX9_firstOpen 24 = .ok (.getfield 16, 3) := by decide +kernel
theorem dX9_firstOpen_27 : decode cX9_firstOpen 27 = .ok (.iload_n 1, 1) := by decide +kernel
theorem dX9_firstOpen_28 : decode cX9_firstOpen 28 = .ok (.aaload, 1) := by decide +kernel
theorem dX9_firstOpen_29 : decode cX9_firstOpen 29 = .ok (.iload_n 2, 1) := by decide +kernel
theorem dX9_firstOpen_30 : decode cX9_firstOpen 30 = .ok (.iaload, 1) := by decide +kernel
theorem dX9_firstOpen_31 : decode cX9_firstOpen 31 = .ok (.ireturn, 1) := by decide +kernel
theorem dX10_init_0 : decode cX10_init 0 = .ok (.aload_n 0, 1) := by decide +kernel
theorem dX10_init_1 : decode cX10_init 1 = .ok (.invokespecial 3, 3) := by decide +kernel
theorem dX10_init_4 : decode cX10_init 4 = .ok (.aload_n 0, 1) := by decide +kernel
theorem dX10_init_5 : decode cX10_init 5 = .ok (.bipush 8, 2) := by decide +kernel
theorem dX10_init_7 : decode cX10_init 7 = .ok (.newarray .int, 2) := by decide +kernel
theorem dX10_init_9 : decode cX10_init 9 = .ok (.putfield 9, 3) := by decide +kernel
theorem dX10_init_12 : decode cX10_init 12 = .ok (.aload_n 0, 1) := by decide +kernel
theorem dX10_init_13 : decode cX10_init 13 = .ok (.aload_n 1, 1) := by decide +kernel
theorem dX10_init_14 : decode cX10_init 14 = .ok (.putfield 15, 3) := by decide +kernel
theorem dX10_init_17 : decode cX10_init 17 = .ok (.aload_n 0, 1) := by decide +kernel
theorem dX10_init_18 : decode cX10_init 18 = .ok (.aload_n 2, 1) := by decide +kernel
theorem dX10_init_19 : decode cX10_init 19 = .ok (.putfield 19, 3) := by decide +kernel
theorem dX10_init_22 : decode cX10_init 22 = .ok (.aload_n 0, 1) := by decide +kernel
theorem dX10_init_23 : decode cX10_init 23 = .ok (.getfield 9, 3) := by decide +kernel
theorem dX10_init_26 : decode cX10_init 26 = .ok (.iconst (-1), 1) := by decide +kernel
theorem dX10_init_27 : decode cX10_init 27 = .ok (.invokestatic 23, 3) := by decide +kernel
theorem dX10_init_30 : decode cX10_init 30 = .ok (.return_, 1) := by decide +kernel
theorem dX10_beginAt_0 : decode cX10_beginAt 0 = .ok (.aload_n 0, 1) := by decide +kernel
theorem dX10_beginAt_1 : decode cX10_beginAt 1 = .ok (.iload_n 1, 1) := by decide +kernel
theorem dX10_beginAt_2 : decode cX10_beginAt 2 = .ok (.putfield 29, 3) := by decide +kernel
theorem dX10_beginAt_5 : decode cX10_beginAt 5 = .ok (.aload_n 0, 1) := by decide +kernel
theorem dX10_beginAt_6 : decode cX10_beginAt 6 = .ok (.aload_n 0, 1) := by decide +kernel
theorem dX10_beginAt_7 : decode cX10_beginAt 7 = .ok (.getfield 15, 3) := by decide +kernel
theorem dX10_beginAt_10 : decode cX10_beginAt 10 = .ok (.getfield 33, 3) := by decide +kernel
theorem dX10_beginAt_13 : decode cX10_beginAt 13 = .ok (.putfield 38, 3) := by decide +kernel
theorem dX10_beginAt_16 : decode cX10_beginAt 16 = .ok (.aload_n 0, 1) := by decide +kernel
theorem dX10_beginAt_17 : decode cX10_beginAt 17 = .ok (.iconst 0, 1) := by decide +kernel
theorem dX10_beginAt_18 : decode cX10_beginAt 18 = .ok (.putfield 41, 3) := by decide +kernel
theorem dX10_beginAt_21 : decode cX10_beginAt 21 = .ok (.aload_n 0, 1) := by decide +kernel
theorem dX10_beginAt_22 : decode cX10_beginAt 22 = .ok (.iconst 0, 1) := by decide +kernel
theorem dX10_beginAt_23 : decode cX10_beginAt 23 = .ok (.putfield 44, 3) := by decide +kernel
theorem dX10_beginAt_26 : decode cX10_beginAt 26 = .ok (.aload_n 0, 1) := by decide +kernel
theorem dX10_beginAt_27 : decode cX10_beginAt 27 = .ok (.getfield 9, 3) := by decide +kernel
theorem dX10_beginAt_30 : decode cX10_beginAt 30 = .ok (.iconst (-1), 1) := by decide +kernel
theorem dX10_beginAt_31 : decode cX10_beginAt 31 = .ok (.invokestatic 23, 3) := by decide +kernel
theorem dX10_beginAt_34 : decode cX10_beginAt 34 = .ok (.return_, 1) := by decide +kernel
theorem dX10_joins_0 : decode cX10_joins 0 = .ok (.aload_n 0, 1) := by decide +kernel
theorem dX10_joins_1 : decode cX10_joins 1 = .ok (.aload_n 1, 1) := by decide +kernel
theorem dX10_joins_2 : decode cX10_joins 2 = .ok (.getfield 29, 3) := by decide +kernel
theorem dX10_joins_5 : decode cX10_joins 5 = .ok (.putfield 29, 3) := by decide +kernel
theorem dX10_joins_8 : decode cX10_joins 8 = .ok (.aload_n 0, 1) := by decide +kernel
theorem dX10_joins_9 : decode cX10_joins 9 = .ok (.aload_n 1, 1) := by decide +kernel
theorem dX10_joins_10 : decode cX10_joins 10 = .ok (.getfield 38, 3) := by decide +kernel
theorem dX10_joins_13 : decode cX10_joins 13 = .ok (.putfield 38, 3) := by decide +kernel
theorem dX10_joins_16 : decode cX10_joins 16 = .ok (.aload_n 0, 1) := by decide +kernel
theorem dX10_joins_17 : decode cX10_joins 17 = .ok (.iconst 0, 1) := by decide +kernel
theorem dX10_joins_18 : decode cX10_joins 18 = .ok (.putfield 41, 3) := by decide +kernel
theorem dX10_joins_21 : decode cX10_joins 21 = .ok (.aload_n 0, 1) := by decide +kernel
theorem dX10_joins_22 : decode cX10_joins 22 = .ok (.iconst 0, 1) := by decide +kernel
theorem dX10_joins_23 : decode cX10_joins 23 = .ok (.putfield 44, 3) := by decide +kernel
theorem dX10_joins_26 : decode cX10_joins 26 = .ok (.aload_n 1, 1) := by decide +kernel
theorem dX10_joins_27 : decode cX10_joins 27 = .ok (.getfield 9, 3) := by decide +kernel
theorem dX10_joins_30 : decode cX10_joins 30 = .ok (.iconst 0, 1) := by decide +kernel
theorem dX10_joins_31 : decode cX10_joins 31 = .ok (.aload_n 0, 1) := by decide +kernel
theorem dX10_joins_32 : decode cX10_joins 32 = .ok (.getfield 9, 3) := by decide +kernel
theorem dX10_joins_35 : decode cX10_joins 35 = .ok (.iconst 0, 1) := by decide +kernel
theorem dX10_joins_36 : decode cX10_joins 36 = .ok (.bipush 8, 2) := by decide +kernel
theorem dX10_joins_38 : decode cX10_joins 38 = .ok (.invokestatic 47, 3) := by decide +kernel
theorem dX10_joins_41 : decode cX10_joins 41 = .ok (.return_, 1) := by decide +kernel
theorem dX10_lastHeld_0 : decode cX10_lastHeld 0 = .ok (.iload_n 1, 1) := by decide +kernel
theorem dX10_lastHeld_1 : decode cX10_lastHeld 1 = .ok (.ifCond .lt 18, 3) := by decide +kernel
theorem dX10_lastHeld_4 : decode cX10_lastHeld 4 = .ok (.iload_n 1, 1) := by decide +kernel
theorem dX10_lastHeld_5 : decode cX10_lastHeld 5 = .ok (.bipush 8, 2) := by decide +kernel
theorem dX10_lastHeld_7 : decode cX10_lastHeld 7 = .ok (.if_icmp .ge 12, 3) := by decide +kernel
theorem dX10_lastHeld_10 : decode cX10_lastHeld 10 = .ok (.aload_n 0, 1) := by decide +kernel
theorem dX10_lastHeld_11 : decode cX10_lastHeld 11 = .ok (.getfield 9, 3) := by decide +kernel
theorem dX10_lastHeld_14 : decode cX10_lastHeld 14 = .ok (.iload_n 1, 1) := by decide +kernel
theorem dX10_lastHeld_15 : decode cX10_lastHeld 15 = .ok (.iaload, 1) := by decide +kernel
theorem dX10_lastHeld_16 : decode cX10_lastHeld 16 = .ok (.goto 4, 3) := by decide +kernel
theorem dX10_lastHeld_19 : decode cX10_lastHeld 19 = .ok (.iconst (-1), 1) := by decide +kernel
theorem dX10_lastHeld_20 : decode cX10_lastHeld 20 = .ok (.ireturn, 1) := by decide +kernel
theorem dX10_holds_0 : decode cX10_holds 0 = .ok (.aload_n 0, 1) := by decide +kernel
theorem dX10_holds_1 : decode cX10_holds 1 = .ok (.iload_n 1, 1) := by decide +kernel
theorem dX10_holds_2 : decode cX10_holds 2 = .ok (.invokevirtual 53, 3) := by decide +kernel
theorem dX10_holds_5 : decode cX10_holds 5 = .ok (.aload_n 0, 1) := by decide +kernel
theorem dX10_holds_6 : decode cX10_holds 6 = .ok (.getfield 29, 3) := by decide +kernel
theorem dX10_holds_9 : decode cX10_holds 9 = .ok (.if_icmp .lt 7, 3) := by decide +kernel
theorem dX10_holds_12 : decode cX10_holds 12 = .ok (.iconst 1, 1) := by decide +kernel
theorem dX10_holds_13 : decode cX10_holds 13 = .ok (.goto 4, 3) := by decide +kernel
theorem dX10_holds_16 : decode cX10_holds 16 = .ok (.iconst 0, 1) := by decide +kernel
theorem dX10_holds_17 : decode cX10_holds 17 = .ok (.ireturn, 1) := by decide +kernel
theorem dX10_holding_0 : decode cX10_holding 0 = .ok (.iconst 0, 1) := by decide +kernel
theorem dX10_holding_1 : decode cX10_holding 1 = .ok (.istore_n 1, 1) := by decide +kernel
theorem dX10_holding_2 : decode cX10_holding 2 = .ok (.iconst 0, 1) := by decide +kernel
theorem dX10_holding_3 : decode cX10_holding 3 = .ok (.istore_n 2, 1) := by decide +kernel
theorem dX10_holding_4 : decode cX10_holding 4 = .ok (.iload_n 2, 1) := by decide +kernel
theorem dX10_holding_5 : decode cX10_holding 5 = .ok (.bipush 8, 2) := by decide +kernel
theorem dX10_holding_7 : decode cX10_holding 7 = .ok (.if_icmp .ge 28, 3) := by decide +kernel
theorem dX10_holding_10 : decode cX10_holding 10 = .ok (.aload_n 0, 1) := by decide +kernel
theorem dX10_holding_11 : decode cX10_holding 11 = .ok (.getfield 9, 3) := by decide +kernel
theorem dX10_holding_14 : decode cX10_holding 14 = .ok (.iload_n 2, 1) := by decide +kernel
theorem dX10_holding_15 : decode cX10_holding 15 = .ok (.iaload, 1) := by decide +kernel
theorem dX10_holding_16 : decode cX10_holding 16 = .ok (.aload_n 0, 1) := by decide +kernel
theorem dX10_holding_17 : decode cX10_holding 17 = .ok (.getfield 29, 3) := by decide +kernel
theorem dX10_holding_20 : decode cX10_holding 20 = .ok (.if_icmp .lt 9, 3) := by decide +kernel
theorem dX10_holding_23 : decode cX10_holding 23 = .ok (.iload_n 1, 1) := by decide +kernel
theorem dX10_holding_24 : decode cX10_holding 24 = .ok (.iconst 1, 1) := by decide +kernel
theorem dX10_holding_25 : decode cX10_holding 25 = .ok (.iload_n 2, 1) := by decide +kernel
theorem dX10_holding_26 : decode cX10_holding 26 = .ok (.ishl, 1) := by decide +kernel
theorem dX10_holding_27 : decode cX10_holding 27 = .ok (.ior, 1) := by decide +kernel
theorem dX10_holding_28 : decode cX10_holding 28 = .ok (.istore_n 1, 1) := by decide +kernel
theorem dX10_holding_29 : decode cX10_holding 29 = .ok (.iinc 2 1, 3) := by decide +kernel
theorem dX10_holding_32 : decode cX10_holding 32 = .ok (.goto (-28), 3) := by decide +kernel
theorem dX10_holding_35 : decode cX10_holding 35 = .ok (.iload_n 1, 1) := by decide +kernel
theorem dX10_holding_36 : decode cX10_holding 36 = .ok (.ireturn, 1) := by decide +kernel
theorem dX10_missing_0 : decode cX10_missing 0 = .ok (.aload_n 0, 1) := by decide +kernel
theorem dX10_missing_1 : decode cX10_missing 1 = .ok (.getfield 15, 3) := by decide +kernel
theorem dX10_missing_4 : decode cX10_missing 4 = .ok (.getfield 57, 3) := by decide +kernel
theorem dX10_missing_7 : decode cX10_missing 7 = .ok (.aload_n 0, 1) := by decide +kernel
theorem dX10_missing_8 : decode cX10_missing 8 = .ok (.invokevirtual 60, 3) := by decide +kernel
theorem dX10_missing_11 : decode cX10_missing 11 = .ok (.iconst (-1), 1) := by decide +kernel
theorem dX10_missing_12 : decode cX10_missing 12 = .ok (.ixor, 1) := by decide +kernel
theorem dX10_missing_13 : decode cX10_missing 13 = .ok (.iand, 1) := by decide +kernel
theorem dX10_missing_14 : decode cX10_missing 14 = .ok (.ireturn, 1) := by decide +kernel
theorem dX10_arrival_0 : decode cX10_arrival 0 = .ok (.aload_n 0, 1) := by decide +kernel
theorem dX10_arrival_1 : decode cX10_arrival 1 = .ok (.getfield 15, 3) := by decide +kernel
theorem dX10_arrival_4 : decode cX10_arrival 4 = .ok (.iload_n 1, 1) := by decide +kernel
theorem dX10_arrival_5 : decode cX10_arrival 5 = .ok (.invokevirtual 64, 3) := by decide +kernel
theorem dX10_arrival_8 : decode cX10_arrival 8 = .ok (.ifCond .ne 5, 3) := by decide +kernel
theorem dX10_arrival_11 : decode cX10_arrival 11 = .ok (.iconst (-1), 1) := by decide +kernel
theorem dX10_arrival_12 : decode cX10_arrival 12 = .ok (.ireturn, 1) := by decide +kernel
theorem dX10_arrival_13 : decode cX10_arrival 13 = .ok (.aload_n 0, 1) := by decide +kernel
theorem dX10_arrival_14 : decode cX10_arrival 14 = .ok (.getfield 19, 3) := by decide +kernel
theorem dX10_arrival_17 : decode cX10_arrival 17 = .ok (.aload_n 0, 1) := by decide +kernel
theorem dX10_arrival_18 : decode cX10_arrival 18 = .ok (.getfield 38, 3) := by decide +kernel
theorem dX10_arrival_21 : decode cX10_arrival 21 = .ok (.aload_n 0, 1) := by decide +kernel
theorem dX10_arrival_22 : decode cX10_arrival 22 = .ok (.getfield 15, 3) := by decide +kernel
theorem dX10_arrival_25 : decode cX10_arrival 25 = .ok (.getfield 68, 3) := by decide +kernel
theorem dX10_arrival_28 : decode cX10_arrival 28 = .ok (.iconst 0, 1) := by decide +kernel
theorem dX10_arrival_29 : decode cX10_arrival 29 = .ok (.aaload, 1) := by decide +kernel
theorem dX10_arrival_30 : decode cX10_arrival 30 = .ok (.iload_n 1, 1) := by decide +kernel
theorem dX10_arrival_31 : decode cX10_arrival 31 = .ok (.iaload, 1) := by decide +kernel
theorem dX10_arrival_32 : decode cX10_arrival 32 = .ok (.invokevirtual 72, 3) := by decide +kernel
theorem dX10_arrival_35 : decode cX10_arrival 35 = .ok (.istore_n 2, 1) := by decide +kernel
theorem dX10_arrival_36 : decode cX10_arrival 36 = .ok (.iload_n 2, 1) := by decide +kernel
theorem dX10_arrival_37 : decode cX10_arrival 37 = .ok (.iconst (-1), 1) := by decide +kernel
theorem dX10_arrival_38 : decode cX10_arrival 38 = .ok (.if_icmp .ne 7, 3) := by decide +kernel
theorem dX10_arrival_41 : decode cX10_arrival 41 = .ok (.iconst (-1), 1) := by decide +kernel
theorem dX10_arrival_42 : decode cX10_arrival 42 = .ok (.goto 9, 3) := by decide +kernel
theorem dX10_arrival_45 : decode cX10_arrival 45 = .ok (.aload_n 0, 1) := by decide +kernel
theorem dX10_arrival_46 : decode cX10_arrival 46 = .ok (.getfield 29, 3) := by decide +kernel
theorem dX10_arrival_49 : decode cX10_arrival 49 = .ok (.iload_n 2, 1) := by decide +kernel
theorem dX10_arrival_50 : decode cX10_arrival 50 = .ok (.iadd, 1) := by decide +kernel
theorem dX10_arrival_51 : decode cX10_arrival 51 = .ok (.ireturn, 1) := by decide +kernel
theorem dX10_unbarred_0 : decode cX10_unbarred 0 = .ok (.iload_n 2, 1) := by decide +kernel
theorem dX10_unbarred_1 : decode cX10_unbarred 1 = .ok (.istore_n 3, 1) := by decide +kernel
theorem dX10_unbarred_2 : decode cX10_unbarred 2 = .ok (.aload_n 0, 1) := by decide +kernel
theorem dX10_unbarred_3 : decode cX10_unbarred 3 = .ok (.getfield 15, 3) := by decide +kernel
theorem dX10_unbarred_6 : decode cX10_unbarred 6 = .ok (.iload_n 1, 1) := by decide +kernel
theorem dX10_unbarred_7 : decode cX10_unbarred 7 = .ok (.invokevirtual 64, 3) := by decide +kernel
theorem dX10_unbarred_10 : decode cX10_unbarred 10 = .ok (.ifCond .eq 18, 3) := by decide +kernel
theorem dX10_unbarred_13 : decode cX10_unbarred 13 = .ok (.aload_n 0, 1) := by decide +kernel
theorem dX10_unbarred_14 : decode cX10_unbarred 14 = .ok (.getfield 15, 3) := by decide +kernel
theorem dX10_unbarred_17 : decode cX10_unbarred 17 = .ok (.getfield 68, 3) := by decide +kernel
theorem dX10_unbarred_20 : decode cX10_unbarred 20 = .ok (.bipush 10, 2) := by decide +kernel
theorem dX10_unbarred_22 : decode cX10_unbarred 22 = .ok (.aaload, 1) := by decide +kernel
theorem dX10_unbarred_23 : decode cX10_unbarred 23 = .ok (.iload_n 1, 1) := by decide +kernel
theorem dX10_unbarred_24 : decode cX10_unbarred 24 = .ok (.iaload, 1) := by decide +kernel
theorem dX10_unbarred_25 : decode cX10_unbarred 25 = .ok (.goto 4, 3) := by decide +kernel
theorem dX10_unbarred_28 : decode cX10_unbarred 28 = .ok (.iconst 0, 1) := by decide +kernel
theorem dX10_unbarred_29 : decode cX10_unbarred 29 = .ok (.istore 4, 2) := by decide +kernel
theorem dX10_unbarred_31 : decode cX10_unbarred 31 = .ok (.iconst 0, 1) := by decide +kernel
theorem dX10_unbarred_32 : decode cX10_unbarred 32 = .ok (.istore 5, 2) := by decide +kernel
theorem dX10_unbarred_34 : decode cX10_unbarred 34 = .ok (.iload 5, 2) := by decide +kernel
theorem dX10_unbarred_36 : decode cX10_unbarred 36 = .ok (.bipush 8, 2) := by decide +kernel
theorem dX10_unbarred_38 : decode cX10_unbarred 38 = .ok (.if_icmp .ge 41, 3) := by decide +kernel
theorem dX10_unbarred_41 : decode cX10_unbarred 41 = .ok (.iload 4, 2) := by decide +kernel
theorem dX10_unbarred_43 : decode cX10_unbarred 43 = .ok (.iload 5, 2) := by decide +kernel
theorem dX10_unbarred_45 : decode cX10_unbarred 45 = .ok (.ishr, 1) := by decide +kernel
theorem dX10_unbarred_46 : decode cX10_unbarred 46 = .ok (.ifCond .eq 33, 3) := by decide +kernel
theorem dX10_unbarred_49 : decode cX10_unbarred 49 = .ok (.iload 4, 2) := by decide +kernel
theorem dX10_unbarred_51 : decode cX10_unbarred 51 = .ok (.iload 5, 2) := by decide +kernel
theorem dX10_unbarred_53 : decode cX10_unbarred 53 = .ok (.invokestatic 78, 3) := by decide +kernel
theorem dX10_unbarred_56 : decode cX10_unbarred 56 = .ok (.ifCond .eq 17, 3) := by decide +kernel
theorem dX10_unbarred_59 : decode cX10_unbarred 59 = .ok (.iload_n 3, 1) := by decide +kernel
theorem dX10_unbarred_60 : decode cX10_unbarred 60 = .ok (.aload_n 0, 1) := by decide +kernel
theorem dX10_unbarred_61 : decode cX10_unbarred 61 = .ok (.getfield 9, 3) := by decide +kernel
theorem dX10_unbarred_64 : decode cX10_unbarred 64 = .ok (.iload 5, 2) := by decide +kernel
theorem dX10_unbarred_66 : decode cX10_unbarred 66 = .ok (.iaload, 1) := by decide +kernel
theorem dX10_unbarred_67 : decode cX10_unbarred 67 = .ok (.iconst 1, 1) := by decide +kernel
theorem dX10_unbarred_68 : decode cX10_unbarred 68 = .ok (.iadd, 1) := by decide +kernel
theorem dX10_unbarred_69 : decode cX10_unbarred 69 = .ok (.invokestatic 82, 3) := by decide +kernel
theorem dX10_unbarred_72 : decode cX10_unbarred 72 = .ok (.istore_n 3, 1) := by decide +kernel
theorem dX10_unbarred_73 : decode cX10_unbarred 73 = .ok (.iinc 5 1, 3) := by decide +kernel
theorem dX10_unbarred_76 : decode cX10_unbarred 76 = .ok (.goto (-42), 3) := by decide +kernel
theorem dX10_unbarred_79 : decode cX10_unbarred 79 = .ok (.iload_n 3, 1) := by decide +kernel
theorem dX10_unbarred_80 : decode cX10_unbarred 80 = .ok (.ireturn, 1) := by decide +kernel
theorem dX10_supported_0 : decode cX10_supported 0 = .ok (.sipush 399, 3) := by decide +kernel
theorem dX10_supported_3 : decode cX10_supported 3 = .ok (.istore_n 2, 1) := by decide +kernel
theorem dX10_supported_4 : decode cX10_supported 4 = .ok (.aload_n 0, 1) := by decide +kernel
theorem dX10_supported_5 : decode cX10_supported 5 = .ok (.getfield 15, 3) := by decide +kernel
theorem dX10_supported_8 : decode cX10_supported 8 = .ok (.iload_n 1, 1) := by decide +kernel
theorem dX10_supported_9 : decode cX10_supported 9 = .ok (.invokevirtual 64, 3) := by decide +kernel
theorem dX10_supported_12 : decode cX10_supported 12 = .ok (.ifCond .eq 18, 3) := by decide +kernel
theorem dX10_supported_15 : decode cX10_supported 15 = .ok (.aload_n 0, 1) := by decide +kernel
theorem dX10_supported_16 : decode cX10_supported 16 = .ok (.getfield 15, 3) := by decide +kernel
theorem dX10_supported_19 : decode cX10_supported 19 = .ok (.getfield 68, 3) := by decide +kernel
theorem dX10_supported_22 : decode cX10_supported 22 = .ok (.bipush 9, 2) := by decide +kernel
theorem dX10_supported_24 : decode cX10_supported 24 = .ok (.aaload, 1) := by decide +kernel
theorem dX10_supported_25 : decode cX10_supported 25 = .ok (.iload_n 1, 1) := by decide +kernel
theorem dX10_supported_26 : decode cX10_supported 26 = .ok (.iaload, 1) := by decide +kernel
theorem dX10_supported_27 : decode cX10_supported 27 = .ok (.goto 4, 3) := by decide +kernel
theorem dX10_supported_30 : decode cX10_supported 30 = .ok (.iconst 0, 1) := by decide +kernel
theorem dX10_supported_31 : decode cX10_supported 31 = .ok (.istore_n 3, 1) := by decide +kernel
theorem dX10_supported_32 : decode cX10_supported 32 = .ok (.iconst 0, 1) := by decide +kernel
theorem dX10_supported_33 : decode cX10_supported 33 = .ok (.istore 4, 2) := by decide +kernel
theorem dX10_supported_35 : decode cX10_supported 35 = .ok (.iload 4, 2) := by decide +kernel
theorem dX10_supported_37 : decode cX10_supported 37 = .ok (.bipush 8, 2) := by decide +kernel
theorem dX10_supported_39 : decode cX10_supported 39 = .ok (.if_icmp .ge 37, 3) := by decide +kernel
theorem dX10_supported_42 : decode cX10_supported 42 = .ok (.iload_n 3, 1) := by decide +kernel
theorem dX10_supported_43 : decode cX10_supported 43 = .ok (.iload 4, 2) := by decide +kernel
theorem dX10_supported_45 : decode cX10_supported 45 = .ok (.ishr, 1) := by decide +kernel
theorem dX10_supported_46 : decode cX10_supported 46 = .ok (.ifCond .eq 30, 3) := by decide +kernel
theorem dX10_supported_49 : decode cX10_supported 49 = .ok (.iload_n 3, 1) := by decide +kernel
theorem dX10_supported_50 : decode cX10_supported 50 = .ok (.iload 4, 2) := by decide +kernel
theorem dX10_supported_52 : decode cX10_supported 52 = .ok (.invokestatic 78, 3) := by decide +kernel
theorem dX10_supported_55 : decode cX10_supported 55 = .ok (.ifCond .eq 15, 3) := by decide +kernel
theorem dX10_supported_58 : decode cX10_supported 58 = .ok (.iload_n 2, 1) := by decide +kernel
theorem dX10_supported_59 : decode cX10_supported 59 = .ok (.aload_n 0, 1) := by decide +kernel
theorem dX10_supported_60 : decode cX10_supported 60 = .ok (.getfield 9, 3) := by decide +kernel
theorem dX10_supported_63 : decode cX10_supported 63 = .ok (.iload 4, 2) := by decide +kernel
theorem dX10_supported_65 : decode cX10_supported 65 = .ok (.iaload, 1) := by decide +kernel
theorem dX10_supported_66 : decode cX10_supported 66 = .ok (.invokestatic 87, 3) := by decide +kernel
theorem dX10_supported_69 : decode cX10_supported 69 = .ok (.istore_n 2, 1) := by decide +kernel
theorem dX10_supported_70 : decode cX10_supported 70 = .ok (.iinc 4 1, 3) := by decide +kernel
theorem dX10_supported_73 : decode cX10_supported 73 = .ok (.goto (-38), 3) := by decide +kernel
theorem dX10_supported_76 : decode cX10_supported 76 = .ok (.iload_n 2, 1) := by decide +kernel
theorem dX10_supported_77 : decode cX10_supported 77 = .ok (.ireturn, 1) := by decide +kernel
theorem dX10_stampHour_0 : decode cX10_stampHour 0 = .ok (.aload_n 0, 1) := by decide +kernel
theorem dX10_stampHour_1 : decode cX10_stampHour 1 = .ok (.iload_n 1, 1) := by decide +kernel
theorem dX10_stampHour_2 : decode cX10_stampHour 2 = .ok (.invokevirtual 90, 3) := by decide +kernel
theorem dX10_stampHour_5 : decode cX10_stampHour 5 = .ok (.istore_n 2, 1) := by decide +kernel
theorem dX10_stampHour_6 : decode cX10_stampHour 6 = .ok (.iload_n 2, 1) := by decide +kernel
theorem dX10_stampHour_7 : decode cX10_stampHour 7 = .ok (.iconst (-1), 1) := by decide +kernel
theorem dX10_stampHour_8 : decode cX10_stampHour 8 = .ok (.if_icmp .eq 11, 3) := by decide +kernel
theorem dX10_stampHour_11 : decode cX10_stampHour 11 = .ok (.aload_n 0, 1) := by decide +kernel
theorem dX10_stampHour_12 : decode cX10_stampHour 12 = .ok (.iload_n 1, 1) := by decide +kernel
theorem dX10_stampHour_13 : decode cX10_stampHour 13 = .ok (.invokevirtual 93, 3) := by decide +kernel
theorem dX10_stampHour_16 : decode cX10_stampHour 16 = .ok (.ifCond .eq 5, 3) := by decide +kernel
theorem dX10_stampHour_19 : decode cX10_stampHour 19 = .ok (.iconst (-1), 1) := by decide +kernel
theorem dX10_stampHour_20 : decode cX10_stampHour 20 = .ok (.ireturn, 1) := by decide +kernel
theorem dX10_stampHour_21 : decode cX10_stampHour 21 = .ok (.aload_n 0, 1) := by decide +kernel
theorem dX10_stampHour_22 : decode cX10_stampHour 22 = .ok (.getfield 19, 3) := by decide +kernel
theorem dX10_stampHour_25 : decode cX10_stampHour 25 = .ok (.iload_n 1, 1) := by decide +kernel
theorem dX10_stampHour_26 : decode cX10_stampHour 26 = .ok (.aload_n 0, 1) := by decide +kernel
theorem dX10_stampHour_27 : decode cX10_stampHour 27 = .ok (.iload_n 1, 1) := by decide +kernel
theorem dX10_stampHour_28 : decode cX10_stampHour 28 = .ok (.iload_n 2, 1) := by decide +kernel
theorem dX10_stampHour_29 : decode cX10_stampHour 29 = .ok (.invokevirtual 96, 3) := by decide +kernel
theorem dX10_stampHour_32 : decode cX10_stampHour 32 = .ok (.invokevirtual 99, 3) := by decide +kernel
theorem dX10_stampHour_35 : decode cX10_stampHour 35 = .ok (.istore_n 3, 1) := by decide +kernel
theorem dX10_stampHour_36 : decode cX10_stampHour 36 = .ok (.iload_n 3, 1) := by decide +kernel
theorem dX10_stampHour_37 : decode cX10_stampHour 37 = .ok (.aload_n 0, 1) := by decide +kernel
theorem dX10_stampHour_38 : decode cX10_stampHour 38 = .ok (.iload_n 1, 1) := by decide +kernel
theorem dX10_stampHour_39 : decode cX10_stampHour 39 = .ok (.invokevirtual 102, 3) := by decide +kernel
theorem dX10_stampHour_42 : decode cX10_stampHour 42 = .ok (.if_icmp .gt 7, 3) := by decide +kernel
theorem dX10_stampHour_45 : decode cX10_stampHour 45 = .ok (.iload_n 3, 1) := by decide +kernel
theorem dX10_stampHour_46 : decode cX10_stampHour 46 = .ok (.goto 4, 3) := by decide +kernel
theorem dX10_stampHour_49 : decode cX10_stampHour 49 = .ok (.iconst (-1), 1) := by decide +kernel
theorem dX10_stampHour_50 : decode cX10_stampHour 50 = .ok (.ireturn, 1) := by decide +kernel
theorem dX10_obstacle_0 : decode cX10_obstacle 0 = .ok (.aload_n 0, 1) := by decide +kernel
theorem dX10_obstacle_1 : decode cX10_obstacle 1 = .ok (.iload_n 1, 1) := by decide +kernel
theorem dX10_obstacle_2 : decode cX10_obstacle 2 = .ok (.invokevirtual 93, 3) := by decide +kernel
theorem dX10_obstacle_5 : decode cX10_obstacle 5 = .ok (.ifCond .eq 5, 3) := by decide +kernel
theorem dX10_obstacle_8 : decode cX10_obstacle 8 = .ok (.iconst 1, 1) := by decide +kernel
theorem dX10_obstacle_9 : decode cX10_obstacle 9 = .ok (.ireturn, 1) := by decide +kernel
theorem dX10_obstacle_10 : decode cX10_obstacle 10 = .ok (.aload_n 0, 1) := by decide +kernel
theorem dX10_obstacle_11 : decode cX10_obstacle 11 = .ok (.iload_n 1, 1) := by decide +kernel
theorem dX10_obstacle_12 : decode cX10_obstacle 12 = .ok (.invokevirtual 90, 3) := by decide +kernel
theorem dX10_obstacle_15 : decode cX10_obstacle 15 = .ok (.istore_n 2, 1) := by decide +kernel
theorem dX10_obstacle_16 : decode cX10_obstacle 16 = .ok (.iload_n 2, 1) := by decide +kernel
theorem dX10_obstacle_17 : decode cX10_obstacle 17 = .ok (.iconst (-1), 1) := by decide +kernel
theorem dX10_obstacle_18 : decode cX10_obstacle 18 = .ok (.if_icmp .ne 5, 3) := by decide +kernel
theorem dX10_obstacle_21 : decode cX10_obstacle 21 = .ok (.iconst 2, 1) := by decide +kernel
theorem dX10_obstacle_22 : decode cX10_obstacle 22 = .ok (.ireturn, 1) := by decide +kernel
theorem dX10_obstacle_23 : decode cX10_obstacle 23 = .ok (.aload_n 0, 1) := by decide +kernel
theorem dX10_obstacle_24 : decode cX10_obstacle 24 = .ok (.getfield 19, 3) := by decide +kernel
theorem dX10_obstacle_27 : decode cX10_obstacle 27 = .ok (.iload_n 1, 1) := by decide +kernel
theorem dX10_obstacle_28 : decode cX10_obstacle 28 = .ok (.iload_n 2, 1) := by decide +kernel
theorem dX10_obstacle_29 : decode cX10_obstacle 29 = .ok (.invokevirtual 99, 3) := by decide +kernel
theorem dX10_obstacle_32 : decode cX10_obstacle 32 = .ok (.istore_n 3, 1) := by decide +kernel
theorem dX10_obstacle_33 : decode cX10_obstacle 33 = .ok (.iload_n 3, 1) := by decide +kernel
theorem dX10_obstacle_34 : decode cX10_obstacle 34 = .ok (.iconst (-1), 1) := by decide +kernel
theorem dX10_obstacle_35 : decode cX10_obstacle 35 = .ok (.if_icmp .ne 5, 3) := by decide +kernel
theorem dX10_obstacle_38 : decode cX10_obstacle 38 = .ok (.iconst 3, 1) := by decide +kernel
theorem dX10_obstacle_39 : decode cX10_obstacle 39 = .ok (.ireturn, 1) := by decide +kernel
theorem dX10_obstacle_40 : decode cX10_obstacle 40 = .ok (.iload_n 3, 1) := by decide +kernel
theorem dX10_obstacle_41 : decode cX10_obstacle 41 = .ok (.aload_n 0, 1) := by decide +kernel
theorem dX10_obstacle_42 : decode cX10_obstacle 42 = .ok (.iload_n 1, 1) := by decide +kernel
theorem dX10_obstacle_43 : decode cX10_obstacle 43 = .ok (.invokevirtual 102, 3) := by decide +kernel
theorem dX10_obstacle_46 : decode cX10_obstacle 46 = .ok (.if_icmp .le 5, 3) := by decide +kernel
theorem dX10_obstacle_49 : decode cX10_obstacle 49 = .ok (.iconst 4, 1) := by decide +kernel
theorem dX10_obstacle_50 : decode cX10_obstacle 50 = .ok (.ireturn, 1) := by decide +kernel
theorem dX10_obstacle_51 : decode cX10_obstacle 51 = .ok (.aload_n 0, 1) := by decide +kernel
theorem dX10_obstacle_52 : decode cX10_obstacle 52 = .ok (.iload_n 1, 1) := by decide +kernel
theorem dX10_obstacle_53 : decode cX10_obstacle 53 = .ok (.invokevirtual 105, 3) := by decide +kernel
theorem dX10_obstacle_56 : decode cX10_obstacle 56 = .ok (.iconst (-1), 1) := by decide +kernel
theorem dX10_obstacle_57 : decode cX10_obstacle 57 = .ok (.if_icmp .ne 7, 3) := by decide +kernel
theorem dX10_obstacle_60 : decode cX10_obstacle 60 = .ok (.iconst 5, 1) := by decide +kernel
theorem dX10_obstacle_61 : decode cX10_obstacle 61 = .ok (.goto 4, 3) := by decide +kernel
theorem dX10_obstacle_64 : decode cX10_obstacle 64 = .ok (.iconst 0, 1) := by decide +kernel
theorem dX10_obstacle_65 : decode cX10_obstacle 65 = .ok (.ireturn, 1) := by decide +kernel
theorem dX10_willing_0 : decode cX10_willing 0 = .ok (.iconst 0, 1) := by decide +kernel
theorem dX10_willing_1 : decode cX10_willing 1 = .ok (.istore_n 1, 1) := by decide +kernel
theorem dX10_willing_2 : decode cX10_willing 2 = .ok (.iconst 0, 1) := by decide +kernel
theorem dX10_willing_3 : decode cX10_willing 3 = .ok (.istore_n 2, 1) := by decide +kernel
theorem dX10_willing_4 : decode cX10_willing 4 = .ok (.iload_n 2, 1) := by decide +kernel
theorem dX10_willing_5 : decode cX10_willing 5 = .ok (.aload_n 0, 1) := by decide +kernel
theorem dX10_willing_6 : decode cX10_willing 6 = .ok (.getfield 15, 3) := by decide +kernel
theorem dX10_willing_9 : decode cX10_willing 9 = .ok (.getfield 108, 3) := by decide +kernel
theorem dX10_willing_12 : decode cX10_willing 12 = .ok (.if_icmp .ge 24, 3) := by decide +kernel
theorem dX10_willing_15 : decode cX10_willing 15 = .ok (.aload_n 0, 1) := by decide +kernel
theorem dX10_willing_16 : decode cX10_willing 16 = .ok (.iload_n 2, 1) := by decide +kernel
theorem dX10_willing_17 : decode cX10_willing 17 = .ok (.invokevirtual 105, 3) := by decide +kernel
theorem dX10_willing_20 : decode cX10_willing 20 = .ok (.iconst (-1), 1) := by decide +kernel
theorem dX10_willing_21 : decode cX10_willing 21 = .ok (.if_icmp .eq 9, 3) := by decide +kernel
theorem dX10_willing_24 : decode cX10_willing 24 = .ok (.iload_n 1, 1) := by decide +kernel
theorem dX10_willing_25 : decode cX10_willing 25 = .ok (.iconst 1, 1) := by decide +kernel
theorem dX10_willing_26 : decode cX10_willing 26 = .ok (.iload_n 2, 1) := by decide +kernel
theorem dX10_willing_27 : decode cX10_willing 27 = .ok (.ishl, 1) := by decide +kernel
theorem dX10_willing_28 : decode cX10_willing 28 = .ok (.ior, 1) := by decide +kernel
theorem dX10_willing_29 : decode cX10_willing 29 = .ok (.istore_n 1, 1) := by decide +kernel
theorem dX10_willing_30 : decode cX10_willing 30 = .ok (.iinc 2 1, 3) := by decide +kernel
theorem dX10_willing_33 : decode cX10_willing 33 = .ok (.goto (-29), 3) := by decide +kernel
theorem dX10_willing_36 : decode cX10_willing 36 = .ok (.iload_n 1, 1) := by decide +kernel
theorem dX10_willing_37 : decode cX10_willing 37 = .ok (.ireturn, 1) := by decide +kernel
theorem dX10_stampIn_0 : decode cX10_stampIn 0 = .ok (.aload_n 0, 1) := by decide +kernel
theorem dX10_stampIn_1 : decode cX10_stampIn 1 = .ok (.getfield 15, 3) := by decide +kernel
theorem dX10_stampIn_4 : decode cX10_stampIn 4 = .ok (.iload_n 1, 1) := by decide +kernel
theorem dX10_stampIn_5 : decode cX10_stampIn 5 = .ok (.invokevirtual 64, 3) := by decide +kernel
theorem dX10_stampIn_8 : decode cX10_stampIn 8 = .ok (.ifCond .eq 8, 3) := by decide +kernel
theorem dX10_stampIn_11 : decode cX10_stampIn 11 = .ok (.iload_n 2, 1) := by decide +kernel
theorem dX10_stampIn_12 : decode cX10_stampIn 12 = .ok (.iconst (-1), 1) := by decide +kernel
theorem dX10_stampIn_13 : decode cX10_stampIn 13 = .ok (.if_icmp .ne 4, 3) := by decide +kernel
theorem dX10_stampIn_16 : decode cX10_stampIn 16 = .ok (.return_, 1) := by decide +kernel
theorem dX10_stampIn_17 : decode cX10_stampIn 17 = .ok (.aload_n 0, 1) := by decide +kernel
theorem dX10_stampIn_18 : decode cX10_stampIn 18 = .ok (.getfield 15, 3) := by decide +kernel
theorem dX10_stampIn_21 : decode cX10_stampIn 21 = .ok (.getfield 68, 3) := by decide +kernel
theorem dX10_stampIn_24 : decode cX10_stampIn 24 = .ok (.iconst 0, 1) := by decide +kernel
theorem dX10_stampIn_25 : decode cX10_stampIn 25 = .ok (.aaload, 1) := by decide +kernel
theorem dX10_stampIn_26 : decode cX10_stampIn 26 = .ok (.iload_n 1, 1) := by decide +kernel
theorem dX10_stampIn_27 : decode cX10_stampIn 27 = .ok (.iaload, 1) := by decide +kernel
theorem dX10_stampIn_28 : decode cX10_stampIn 28 = .ok (.istore_n 3, 1) := by decide +kernel
theorem dX10_stampIn_29 : decode cX10_stampIn 29 = .ok (.aload_n 0, 1) := by decide +kernel
theorem dX10_stampIn_30 : decode cX10_stampIn 30 = .ok (.getfield 15, 3) := by decide +kernel
theorem dX10_stampIn_33 : decode cX10_stampIn 33 = .ok (.getfield 68, 3) := by decide +kernel
theorem dX10_stampIn_36 : decode cX10_stampIn 36 = .ok (.iconst 5, 1) := by decide +kernel
theorem dX10_stampIn_37 : decode cX10_stampIn 37 = .ok (.aaload, 1) := by decide +kernel
theorem dX10_stampIn_38 : decode cX10_stampIn 38 = .ok (.iload_n 1, 1) := by decide +kernel
theorem dX10_stampIn_39 : decode cX10_stampIn 39 = .ok (.iaload, 1) := by decide +kernel
theorem dX10_stampIn_40 : decode cX10_stampIn 40 = .ok (.istore 4, 2) := by decide +kernel
theorem dX10_stampIn_42 : decode cX10_stampIn 42 = .ok (.aload_n 0, 1) := by decide +kernel
theorem dX10_stampIn_43 : decode cX10_stampIn 43 = .ok (.dup, 1) := by decide +kernel
theorem dX10_stampIn_44 : decode cX10_stampIn 44 = .ok (.getfield 41, 3) := by decide +kernel
theorem dX10_stampIn_47 : decode cX10_stampIn 47 = .ok (.aload_n 0, 1) := by decide +kernel
theorem dX10_stampIn_48 : decode cX10_stampIn 48 = .ok (.getfield 19, 3) := by decide +kernel
theorem dX10_stampIn_51 : decode cX10_stampIn 51 = .ok (.aload_n 0, 1) := by decide +kernel
theorem dX10_stampIn_52 : decode cX10_stampIn 52 = .ok (.getfield 38, 3) := by decide +kernel
theorem dX10_stampIn_55 : decode cX10_stampIn 55 = .ok (.iload_n 3, 1) := by decide +kernel
theorem dX10_stampIn_56 : decode cX10_stampIn 56 = .ok (.invokevirtual 72, 3) := by decide +kernel
theorem dX10_stampIn_59 : decode cX10_stampIn 59 = .ok (.iadd, 1) := by decide +kernel
theorem dX10_stampIn_60 : decode cX10_stampIn 60 = .ok (.putfield 41, 3) := by decide +kernel
theorem dX10_stampIn_63 : decode cX10_stampIn 63 = .ok (.aload_n 0, 1) := by decide +kernel
theorem dX10_stampIn_64 : decode cX10_stampIn 64 = .ok (.dup, 1) := by decide +kernel
theorem dX10_stampIn_65 : decode cX10_stampIn 65 = .ok (.getfield 44, 3) := by decide +kernel
theorem dX10_stampIn_68 : decode cX10_stampIn 68 = .ok (.aload_n 0, 1) := by decide +kernel
theorem dX10_stampIn_69 : decode cX10_stampIn 69 = .ok (.getfield 15, 3) := by decide +kernel
theorem dX10_stampIn_72 : decode cX10_stampIn 72 = .ok (.getfield 68, 3) := by decide +kernel
theorem dX10_stampIn_75 : decode cX10_stampIn 75 = .ok (.bipush 6, 2) := by decide +kernel
theorem dX10_stampIn_77 : decode cX10_stampIn 77 = .ok (.aaload, 1) := by decide +kernel
theorem dX10_stampIn_78 : decode cX10_stampIn 78 = .ok (.iload_n 1, 1) := by decide +kernel
theorem dX10_stampIn_79 : decode cX10_stampIn 79 = .ok (.iaload, 1) := by decide +kernel
theorem dX10_stampIn_80 : decode cX10_stampIn 80 = .ok (.iadd, 1) := by decide +kernel
theorem dX10_stampIn_81 : decode cX10_stampIn 81 = .ok (.putfield 44, 3) := by decide +kernel
theorem dX10_stampIn_84 : decode cX10_stampIn 84 = .ok (.aload_n 0, 1) := by decide +kernel
theorem dX10_stampIn_85 : decode cX10_stampIn 85 = .ok (.getfield 9, 3) := by decide +kernel
theorem dX10_stampIn_88 : decode cX10_stampIn 88 = .ok (.iload_n 1, 1) := by decide +kernel
theorem dX10_stampIn_89 : decode cX10_stampIn 89 = .ok (.iload 4, 2) := by decide +kernel
theorem dX10_stampIn_91 : decode cX10_stampIn 91 = .ok (.iconst (-1), 1) := by decide +kernel
theorem dX10_stampIn_92 : decode cX10_stampIn 92 = .ok (.if_icmp .ne 8, 3) := by decide +kernel
theorem dX10_stampIn_95 : decode cX10_stampIn 95 = .ok (.ldc 111, 2) := by decide +kernel
theorem dX10_stampIn_97 : decode cX10_stampIn 97 = .ok (.goto 10, 3) := by decide +kernel
theorem dX10_stampIn_100 : decode cX10_stampIn 100 = .ok (.iload_n 2, 1) := by decide +kernel
theorem dX10_stampIn_101 : decode cX10_stampIn 101 = .ok (.bipush 10, 2) := by decide +kernel
theorem dX10_stampIn_103 : decode cX10_stampIn 103 = .ok (.iload 4, 2) := by decide +kernel
theorem dX10_stampIn_105 : decode cX10_stampIn 105 = .ok (.imul, 1) := by decide +kernel
theorem dX10_stampIn_106 : decode cX10_stampIn 106 = .ok (.iadd, 1) := by decide +kernel
theorem dX10_stampIn_107 : decode cX10_stampIn 107 = .ok (.iastore, 1) := by decide +kernel
theorem dX10_stampIn_108 : decode cX10_stampIn 108 = .ok (.aload_n 0, 1) := by decide +kernel
theorem dX10_stampIn_109 : decode cX10_stampIn 109 = .ok (.iload_n 3, 1) := by decide +kernel
theorem dX10_stampIn_110 : decode cX10_stampIn 110 = .ok (.putfield 38, 3) := by decide +kernel
theorem dX10_stampIn_113 : decode cX10_stampIn 113 = .ok (.aload_n 0, 1) := by decide +kernel
theorem dX10_stampIn_114 : decode cX10_stampIn 114 = .ok (.iload_n 2, 1) := by decide +kernel
theorem dX10_stampIn_115 : decode cX10_stampIn 115 = .ok (.iconst 1, 1) := by decide +kernel
theorem dX10_stampIn_116 : decode cX10_stampIn 116 = .ok (.iadd, 1) := by decide +kernel
theorem dX10_stampIn_117 : decode cX10_stampIn 117 = .ok (.putfield 29, 3) := by decide +kernel
theorem dX10_stampIn_120 : decode cX10_stampIn 120 = .ok (.return_, 1) := by decide +kernel
theorem dX11_init_0 : decode cX11_init 0 = .ok (.aload_n 0, 1) := by decide +kernel
theorem dX11_init_1 : decode cX11_init 1 = .ok (.invokespecial 1, 3) := by decide +kernel
theorem dX11_init_4 : decode cX11_init 4 = .ok (.aload_n 0, 1) := by decide +kernel
theorem dX11_init_5 : decode cX11_init 5 = .ok (.new 7, 3) := by decide +kernel
theorem dX11_init_8 : decode cX11_init 8 = .ok (.dup, 1) := by decide +kernel
theorem dX11_init_9 : decode cX11_init 9 = .ok (.invokespecial 9, 3) := by decide +kernel
theorem dX11_init_12 : decode cX11_init 12 = .ok (.putfield 10, 3) := by decide +kernel
theorem dX11_init_15 : decode cX11_init 15 = .ok (.aload_n 0, 1) := by decide +kernel
theorem dX11_init_16 : decode cX11_init 16 = .ok (.new 16, 3) := by decide +kernel
theorem dX11_init_19 : decode cX11_init 19 = .ok (.dup, 1) := by decide +kernel
theorem dX11_init_20 : decode cX11_init 20 = .ok (.aload_n 0, 1) := by decide +kernel
theorem dX11_init_21 : decode cX11_init 21 = .ok (.getfield 10, 3) := by decide +kernel
theorem dX11_init_24 : decode cX11_init 24 = .ok (.invokespecial 18, 3) := by decide +kernel
theorem dX11_init_27 : decode cX11_init 27 = .ok (.putfield 21, 3) := by decide +kernel
theorem dX11_init_30 : decode cX11_init 30 = .ok (.aload_n 0, 1) := by decide +kernel
theorem dX11_init_31 : decode cX11_init 31 = .ok (.new 25, 3) := by decide +kernel
theorem dX11_init_34 : decode cX11_init 34 = .ok (.dup, 1) := by decide +kernel
theorem dX11_init_35 : decode cX11_init 35 = .ok (.invokespecial 27, 3) := by decide +kernel
theorem dX11_init_38 : decode cX11_init 38 = .ok (.putfield 28, 3) := by decide +kernel
theorem dX11_init_41 : decode cX11_init 41 = .ok (.aload_n 0, 1) := by decide +kernel
theorem dX11_init_42 : decode cX11_init 42 = .ok (.new 32, 3) := by decide +kernel
theorem dX11_init_45 : decode cX11_init 45 = .ok (.dup, 1) := by decide +kernel
theorem dX11_init_46 : decode cX11_init 46 = .ok (.invokespecial 34, 3) := by decide +kernel
theorem dX11_init_49 : decode cX11_init 49 = .ok (.putfield 35, 3) := by decide +kernel
theorem dX11_init_52 : decode cX11_init 52 = .ok (.aload_n 0, 1) := by decide +kernel
theorem dX11_init_53 : decode cX11_init 53 = .ok (.new 39, 3) := by decide +kernel
theorem dX11_init_56 : decode cX11_init 56 = .ok (.dup, 1) := by decide +kernel
theorem dX11_init_57 : decode cX11_init 57 = .ok (.aload_n 0, 1) := by decide +kernel
theorem dX11_init_58 : decode cX11_init 58 = .ok (.getfield 28, 3) := by decide +kernel
theorem dX11_init_61 : decode cX11_init 61 = .ok (.aload_n 0, 1) := by decide +kernel
theorem dX11_init_62 : decode cX11_init 62 = .ok (.getfield 35, 3) := by decide +kernel
theorem dX11_init_65 : decode cX11_init 65 = .ok (.invokespecial 41, 3) := by decide +kernel
theorem dX11_init_68 : decode cX11_init 68 = .ok (.putfield 44, 3) := by decide +kernel
theorem dX11_init_71 : decode cX11_init 71 = .ok (.aload_n 0, 1) := by decide +kernel
theorem dX11_init_72 : decode cX11_init 72 = .ok (.new 39, 3) := by decide +kernel
theorem dX11_init_75 : decode cX11_init 75 = .ok (.dup, 1) := by decide +kernel
theorem dX11_init_76 : decode cX11_init 76 = .ok (.aload_n 0, 1) := by decide +kernel
theorem dX11_init_77 : decode cX11_init 77 = .ok (.getfield 28, 3) := by decide +kernel
theorem dX11_init_80 : decode cX11_init 80 = .ok (.aload_n 0, 1) := by decide +kernel
theorem dX11_init_81 : decode cX11_init 81 = .ok (.getfield 35, 3) := by decide +kernel
theorem dX11_init_84 : decode cX11_init 84 = .ok (.invokespecial 41, 3) := by decide +kernel
theorem dX11_init_87 : decode cX11_init 87 = .ok (.putfield 48, 3) := by decide +kernel
theorem dX11_init_90 : decode cX11_init 90 = .ok (.aload_n 0, 1) := by decide +kernel
theorem dX11_init_91 : decode cX11_init 91 = .ok (.new 51, 3) := by decide +kernel
theorem dX11_init_94 : decode cX11_init 94 = .ok (.dup, 1) := by decide +kernel
theorem dX11_init_95 : decode cX11_init 95 = .ok (.new 39, 3) := by decide +kernel
theorem dX11_init_98 : decode cX11_init 98 = .ok (.dup, 1) := by decide +kernel
theorem dX11_init_99 : decode cX11_init 99 = .ok (.aload_n 0, 1) := by decide +kernel
theorem dX11_init_100 : decode cX11_init 100 = .ok (.getfield 28, 3) := by decide +kernel
theorem dX11_init_103 : decode cX11_init 103 = .ok (.aload_n 0, 1) := by decide +kernel
theorem dX11_init_104 : decode cX11_init 104 = .ok (.getfield 35, 3) := by decide +kernel
theorem dX11_init_107 : decode cX11_init 107 = .ok (.invokespecial 41, 3) := by decide +kernel
theorem dX11_init_110 : decode cX11_init 110 = .ok (.invokespecial 53, 3) := by decide +kernel
theorem dX11_init_113 : decode cX11_init 113 = .ok (.putfield 56, 3) := by decide +kernel
theorem dX11_init_116 : decode cX11_init 116 = .ok (.aload_n 0, 1) := by decide +kernel
theorem dX11_init_117 : decode cX11_init 117 = .ok (.new 51, 3) := by decide +kernel
theorem dX11_init_120 : decode cX11_init 120 = .ok (.dup, 1) := by decide +kernel
theorem dX11_init_121 : decode cX11_init 121 = .ok (.new 39, 3) := by decide +kernel
theorem dX11_init_124 : decode cX11_init 124 = .ok (.dup, 1) := by decide +kernel
theorem dX11_init_125 : decode cX11_init 125 = .ok (.aload_n 0, 1) := by decide +kernel
theorem dX11_init_126 : decode cX11_init 126 = .ok (.getfield 28, 3) := by decide +kernel
theorem dX11_init_129 : decode cX11_init 129 = .ok (.aload_n 0, 1) := by decide +kernel
theorem dX11_init_130 : decode cX11_init 130 = .ok (.getfield 35, 3) := by decide +kernel
theorem dX11_init_133 : decode cX11_init 133 = .ok (.invokespecial 41, 3) := by decide +kernel
theorem dX11_init_136 : decode cX11_init 136 = .ok (.invokespecial 53, 3) := by decide +kernel
theorem dX11_init_139 : decode cX11_init 139 = .ok (.putfield 60, 3) := by decide +kernel
theorem dX11_init_142 : decode cX11_init 142 = .ok (.aload_n 0, 1) := by decide +kernel
theorem dX11_init_143 : decode cX11_init 143 = .ok (.new 51, 3) := by decide +kernel
theorem dX11_init_146 : decode cX11_init 146 = .ok (.dup, 1) := by decide +kernel
theorem dX11_init_147 : decode cX11_init 147 = .ok (.new 39, 3) := by decide +kernel
theorem dX11_init_150 : decode cX11_init 150 = .ok (.dup, 1) := by decide +kernel
theorem dX11_init_151 : decode cX11_init 151 = .ok (.aload_n 0, 1) := by decide +kernel
theorem dX11_init_152 : decode cX11_init 152 = .ok (.getfield 28, 3) := by decide +kernel
theorem dX11_init_155 : decode cX11_init 155 = .ok (.aload_n 0, 1) := by decide +kernel
theorem dX11_init_156 : decode cX11_init 156 = .ok (.getfield 35, 3) := by decide +kernel
theorem dX11_init_159 : decode cX11_init 159 = .ok (.invokespecial 41, 3) := by decide +kernel
theorem dX11_init_162 : decode cX11_init 162 = .ok (.invokespecial 53, 3) := by decide +kernel
theorem dX11_init_165 : decode cX11_init 165 = .ok (.putfield 63, 3) := by decide +kernel
theorem dX11_init_168 : decode cX11_init 168 = .ok (.aload_n 0, 1) := by decide +kernel
theorem dX11_init_169 : decode cX11_init 169 = .ok (.new 66, 3) := by decide +kernel
theorem dX11_init_172 : decode cX11_init 172 = .ok (.dup, 1) := by decide +kernel
theorem dX11_init_173 : decode cX11_init 173 = .ok (.invokespecial 68, 3) := by decide +kernel
theorem dX11_init_176 : decode cX11_init 176 = .ok (.putfield 69, 3) := by decide +kernel
theorem dX11_init_179 : decode cX11_init 179 = .ok (.aload_n 0, 1) := by decide +kernel
theorem dX11_init_180 : decode cX11_init 180 = .ok (.new 73, 3) := by decide +kernel
theorem dX11_init_183 : decode cX11_init 183 = .ok (.dup, 1) := by decide +kernel
theorem dX11_init_184 : decode cX11_init 184 = .ok (.invokespecial 75, 3) := by decide +kernel
theorem dX11_init_187 : decode cX11_init 187 = .ok (.putfield 76, 3) := by decide +kernel
theorem dX11_init_190 : decode cX11_init 190 = .ok (.aload_n 0, 1) := by decide +kernel
theorem dX11_init_191 : decode cX11_init 191 = .ok (.new 80, 3) := by decide +kernel
theorem dX11_init_194 : decode cX11_init 194 = .ok (.dup, 1) := by decide +kernel
theorem dX11_init_195 : decode cX11_init 195 = .ok (.invokespecial 82, 3) := by decide +kernel
theorem dX11_init_198 : decode cX11_init 198 = .ok (.putfield 83, 3) := by decide +kernel
theorem dX11_init_201 : decode cX11_init 201 = .ok (.aload_n 0, 1) := by decide +kernel
theorem dX11_init_202 : decode cX11_init 202 = .ok (.new 87, 3) := by decide +kernel
theorem dX11_init_205 : decode cX11_init 205 = .ok (.dup, 1) := by decide +kernel
theorem dX11_init_206 : decode cX11_init 206 = .ok (.new 39, 3) := by decide +kernel
theorem dX11_init_209 : decode cX11_init 209 = .ok (.dup, 1) := by decide +kernel
theorem dX11_init_210 : decode cX11_init 210 = .ok (.aload_n 0, 1) := by decide +kernel
theorem dX11_init_211 : decode cX11_init 211 = .ok (.getfield 28, 3) := by decide +kernel
theorem dX11_init_214 : decode cX11_init 214 = .ok (.aload_n 0, 1) := by decide +kernel
theorem dX11_init_215 : decode cX11_init 215 = .ok (.getfield 35, 3) := by decide +kernel
theorem dX11_init_218 : decode cX11_init 218 = .ok (.invokespecial 41, 3) := by decide +kernel
theorem dX11_init_221 : decode cX11_init 221 = .ok (.invokespecial 89, 3) := by decide +kernel
theorem dX11_init_224 : decode cX11_init 224 = .ok (.putfield 90, 3) := by decide +kernel
theorem dX11_init_227 : decode cX11_init 227 = .ok (.aload_n 0, 1) := by decide +kernel
theorem dX11_init_228 : decode cX11_init 228 = .ok (.new 94, 3) := by decide +kernel
theorem dX11_init_231 : decode cX11_init 231 = .ok (.dup, 1) := by decide +kernel
theorem dX11_init_232 : decode cX11_init 232 = .ok (.new 39, 3) := by decide +kernel
theorem dX11_init_235 : decode cX11_init 235 = .ok (.dup, 1) := by decide +kernel
theorem dX11_init_236 : decode cX11_init 236 = .ok (.aload_n 0, 1) := by decide +kernel
theorem dX11_init_237 : decode cX11_init 237 = .ok (.getfield 28, 3) := by decide +kernel
theorem dX11_init_240 : decode cX11_init 240 = .ok (.aload_n 0, 1) := by decide +kernel
theorem dX11_init_241 : decode cX11_init 241 = .ok (.getfield 35, 3) := by decide +kernel
theorem dX11_init_244 : decode cX11_init 244 = .ok (.invokespecial 41, 3) := by decide +kernel
theorem dX11_init_247 : decode cX11_init 247 = .ok (.invokespecial 96, 3) := by decide +kernel
theorem dX11_init_250 : decode cX11_init 250 = .ok (.putfield 97, 3) := by decide +kernel
theorem dX11_init_253 : decode cX11_init 253 = .ok (.aload_n 0, 1) := by decide +kernel
theorem dX11_init_254 : decode cX11_init 254 = .ok (.iconst 3, 1) := by decide +kernel
theorem dX11_init_255 : decode cX11_init 255 = .ok (.anewarray 25, 3) := by decide +kernel
theorem dX11_init_258 : decode cX11_init 258 = .ok (.putfield 101, 3) := by decide +kernel
theorem dX11_init_261 : decode cX11_init 261 = .ok (.return_, 1) := by decide +kernel
theorem dX11_feed_0 : decode cX11_feed 0 = .ok (.aload_n 0, 1) := by decide +kernel
theorem dX11_feed_1 : decode cX11_feed 1 = .ok (.getfield 10, 3) := by decide +kernel
theorem dX11_feed_4 : decode cX11_feed 4 = .ok (.getfield 105, 3) := by decide +kernel
theorem dX11_feed_7 : decode cX11_feed 7 = .ok (.sipush 1580, 3) := by decide +kernel
theorem dX11_feed_10 : decode cX11_feed 10 = .ok (.if_icmp .le 5, 3) := by decide +kernel
theorem dX11_feed_13 : decode cX11_feed 13 = .ok (.iconst (-1), 1) := by decide +kernel
theorem dX11_feed_14 : decode cX11_feed 14 = .ok (.ireturn, 1) := by decide +kernel
theorem dX11_feed_15 : decode cX11_feed 15 = .ok (.aload_n 0, 1) := by decide +kernel
theorem dX11_feed_16 : decode cX11_feed 16 = .ok (.getfield 10, 3) := by decide +kernel
theorem dX11_feed_19 : decode cX11_feed 19 = .ok (.iload_n 1, 1) := by decide +kernel
theorem dX11_feed_20 : decode cX11_feed 20 = .ok (.invokevirtual 109, 3) := by decide +kernel
theorem dX11_feed_23 : decode cX11_feed 23 = .ok (.aload_n 0, 1) := by decide +kernel
theorem dX11_feed_24 : decode cX11_feed 24 = .ok (.getfield 10, 3) := by decide +kernel
theorem dX11_feed_27 : decode cX11_feed 27 = .ok (.iload_n 2, 1) := by decide +kernel
theorem dX11_feed_28 : decode cX11_feed 28 = .ok (.invokevirtual 109, 3) := by decide +kernel
theorem dX11_feed_31 : decode cX11_feed 31 = .ok (.aload_n 0, 1) := by decide +kernel
theorem dX11_feed_32 : decode cX11_feed 32 = .ok (.getfield 10, 3) := by decide +kernel
theorem dX11_feed_35 : decode cX11_feed 35 = .ok (.iload_n 3, 1) := by decide +kernel
theorem dX11_feed_36 : decode cX11_feed 36 = .ok (.invokevirtual 109, 3) := by decide +kernel
theorem dX11_feed_39 : decode cX11_feed 39 = .ok (.aload_n 0, 1) := by decide +kernel
theorem dX11_feed_40 : decode cX11_feed 40 = .ok (.getfield 10, 3) := by decide +kernel
theorem dX11_feed_43 : decode cX11_feed 43 = .ok (.iload 4, 2) := by decide +kernel
theorem dX11_feed_45 : decode cX11_feed 45 = .ok (.invokevirtual 109, 3) := by decide +kernel
theorem dX11_feed_48 : decode cX11_feed 48 = .ok (.aload_n 0, 1) := by decide +kernel
theorem dX11_feed_49 : decode cX11_feed 49 = .ok (.getfield 10, 3) := by decide +kernel
theorem dX11_feed_52 : decode cX11_feed 52 = .ok (.iload 5, 2) := by decide +kernel
theorem dX11_feed_54 : decode cX11_feed 54 = .ok (.invokevirtual 109, 3) := by decide +kernel
theorem dX11_feed_57 : decode cX11_feed 57 = .ok (.aload_n 0, 1) := by decide +kernel
theorem dX11_feed_58 : decode cX11_feed 58 = .ok (.getfield 10, 3) := by decide +kernel
theorem dX11_feed_61 : decode cX11_feed 61 = .ok (.getfield 105, 3) := by decide +kernel
theorem dX11_feed_64 : decode cX11_feed 64 = .ok (.ireturn, 1) := by decide +kernel
theorem dX11_end_0 : decode cX11_end 0 = .ok (.iload_n 1, 1) := by decide +kernel
theorem dX11_end_1 : decode cX11_end 1 = .ok (.ifCond .lt 14, 3) := by decide +kernel
theorem dX11_end_4 : decode cX11_end 4 = .ok (.iload_n 1, 1) := by decide +kernel
theorem dX11_end_5 : decode cX11_end 5 = .ok (.aload_n 0, 1) := by decide +kernel
theorem dX11_end_6 : decode cX11_end 6 = .ok (.getfield 10, 3) := by decide +kernel
theorem dX11_end_9 : decode cX11_end 9 = .ok (.getfield 105, 3) := by decide +kernel
theorem dX11_end_12 : decode cX11_end 12 = .ok (.if_icmp .le 5, 3) := by decide +kernel
theorem dX11_end_15 : decode cX11_end 15 = .ok (.iconst (-1), 1) := by decide +kernel
theorem dX11_end_16 : decode cX11_end 16 = .ok (.ireturn, 1) := by decide +kernel
theorem dX11_end_17 : decode cX11_end 17 = .ok (.aload_n 0, 1) := by decide +kernel
theorem dX11_end_18 : decode cX11_end 18 = .ok (.getfield 10, 3) := by decide +kernel
theorem dX11_end_21 : decode cX11_end 21 = .ok (.iload_n 1, 1) := by decide +kernel
theorem dX11_end_22 : decode cX11_end 22 = .ok (.putfield 105, 3) := by decide +kernel
theorem dX11_end_25 : decode cX11_end 25 = .ok (.iload_n 1, 1) := by decide +kernel
theorem dX11_end_26 : decode cX11_end 26 = .ok (.ireturn, 1) := by decide +kernel
theorem dX11_office_0 : decode cX11_office 0 = .ok (.aload_n 0, 1) := by decide +kernel
theorem dX11_office_1 : decode cX11_office 1 = .ok (.getfield 21, 3) := by decide +kernel
theorem dX11_office_4 : decode cX11_office 4 = .ok (.invokevirtual 113, 3) := by decide +kernel
theorem dX11_office_7 : decode cX11_office 7 = .ok (.aload_n 0, 1) := by decide +kernel
theorem dX11_office_8 : decode cX11_office 8 = .ok (.getfield 10, 3) := by decide +kernel
theorem dX11_office_11 : decode cX11_office 11 = .ok (.iconst 0, 1) := by decide +kernel
theorem dX11_office_12 : decode cX11_office 12 = .ok (.putfield 105, 3) := by decide +kernel
theorem dX11_office_15 : decode cX11_office 15 = .ok (.aload_n 0, 1) := by decide +kernel
theorem dX11_office_16 : decode cX11_office 16 = .ok (.getfield 21, 3) := by decide +kernel
theorem dX11_office_19 : decode cX11_office 19 = .ok (.getfield 116, 3) := by decide +kernel
theorem dX11_office_22 : decode cX11_office 22 = .ok (.ifCond .eq 6, 3) := by decide +kernel
theorem dX11_office_25 : decode cX11_office 25 = .ok (.bipush (-4), 2) := by decide +kernel
theorem dX11_office_27 : decode cX11_office 27 = .ok (.ireturn, 1) := by decide +kernel
theorem dX11_office_28 : decode cX11_office 28 = .ok (.aload_n 0, 1) := by decide +kernel
theorem dX11_office_29 : decode cX11_office 29 = .ok (.getfield 28, 3) := by decide +kernel
theorem dX11_office_32 : decode cX11_office 32 = .ok (.aload_n 0, 1) := by decide +kernel
theorem dX11_office_33 : decode cX11_office 33 = .ok (.getfield 21, 3) := by decide +kernel
theorem dX11_office_36 : decode cX11_office 36 = .ok (.getfield 119, 3) := by decide +kernel
theorem dX11_office_39 : decode cX11_office 39 = .ok (.invokevirtual 120, 3) := by decide +kernel
theorem dX11_office_42 : decode cX11_office 42 = .ok (.aload_n 0, 1) := by decide +kernel
theorem dX11_office_43 : decode cX11_office 43 = .ok (.invokevirtual 124, 3) := by decide +kernel
theorem dX11_office_46 : decode cX11_office 46 = .ok (.aload_n 0, 1) := by decide +kernel
theorem dX11_office_47 : decode cX11_office 47 = .ok (.getfield 28, 3) := by decide +kernel
theorem dX11_office_50 : decode cX11_office 50 = .ok (.getfield 127, 3) := by decide +kernel
theorem dX11_office_53 : decode cX11_office 53 = .ok (.ireturn, 1) := by decide +kernel
theorem dX11_fault_0 : decode cX11_fault 0 = .ok (.iload_n 1, 1) := by decide +kernel
theorem dX11_fault_1 : decode cX11_fault 1 = .ok (.ifCond .ne 11, 3) := by decide +kernel
theorem dX11_fault_4 : decode cX11_fault 4 = .ok (.aload_n 0, 1) := by decide +kernel
theorem dX11_fault_5 : decode cX11_fault 5 = .ok (.getfield 21, 3) := by decide +kernel
theorem dX11_fault_8 : decode cX11_fault 8 = .ok (.getfield 116, 3) := by decide +kernel
theorem dX11_fault_11 : decode cX11_fault 11 = .ok (.ireturn, 1) := by decide +kernel
theorem dX11_fault_12 : decode cX11_fault 12 = .ok (.iload_n 1, 1) := by decide +kernel
theorem dX11_fault_13 : decode cX11_fault 13 = .ok (.iconst 1, 1) := by decide +kernel
theorem dX11_fault_14 : decode cX11_fault 14 = .ok (.if_icmp .ne 13, 3) := by decide +kernel
theorem dX11_fault_17 : decode cX11_fault 17 = .ok (.aload_n 0, 1) := by decide +kernel
theorem dX11_fault_18 : decode cX11_fault 18 = .ok (.getfield 21, 3) := by decide +kernel
theorem dX11_fault_21 : decode cX11_fault 21 = .ok (.getfield 130, 3) := by decide +kernel
theorem dX11_fault_24 : decode cX11_fault 24 = .ok (.goto 4, 3) := by decide +kernel
theorem dX11_fault_27 : decode cX11_fault 27 = .ok (.iconst (-1), 1) := by decide +kernel
theorem dX11_fault_28 : decode cX11_fault 28 = .ok (.ireturn, 1) := by decide +kernel
theorem dX11_official_0 : decode cX11_official 0 = .ok (.aload_n 0, 1) := by decide +kernel
theorem dX11_official_1 : decode cX11_official 1 = .ok (.getfield 28, 3) := by decide +kernel
theorem dX11_official_4 : decode cX11_official 4 = .ok (.iload_n 1, 1) := by decide +kernel
theorem dX11_official_5 : decode cX11_official 5 = .ok (.invokevirtual 133, 3) := by decide +kernel
theorem dX11_official_8 : decode cX11_official 8 = .ok (.ifCond .eq 13, 3) := by decide +kernel
theorem dX11_official_11 : decode cX11_official 11 = .ok (.iload_n 2, 1) := by decide +kernel
theorem dX11_official_12 : decode cX11_official 12 = .ok (.ifCond .lt 9, 3) := by decide +kernel
theorem dX11_official_15 : decode cX11_official 15 = .ok (.iload_n 2, 1) := by decide +kernel
theorem dX11_official_16 : decode cX11_official 16 = .ok (.bipush 8, 2) := by decide +kernel
theorem dX11_official_18 : decode cX11_official 18 = .ok (.if_icmp .le 6, 3) := by decide +kernel
theorem dX11_official_21 : decode cX11_official 21 = .ok (.bipush (-2), 2) := by decide +kernel
theorem dX11_official_23 : decode cX11_official 23 = .ok (.ireturn, 1) := by decide +kernel
theorem dX11_official_24 : decode cX11_official 24 = .ok (.aload_n 0, 1) := by decide +kernel
theorem dX11_official_25 : decode cX11_official 25 = .ok (.getfield 28, 3) := by decide +kernel
theorem dX11_official_28 : decode cX11_official 28 = .ok (.getfield 137, 3) := by decide +kernel
theorem dX11_official_31 : decode cX11_official 31 = .ok (.iload_n 2, 1) := by decide +kernel
theorem dX11_official_32 : decode cX11_official 32 = .ok (.aaload, 1) := by decide +kernel
theorem dX11_official_33 : decode cX11_official 33 = .ok (.iload_n 1, 1) := by decide +kernel
theorem dX11_official_34 : decode cX11_official 34 = .ok (.iaload, 1) := by decide +kernel
theorem dX11_official_35 : decode cX11_official 35 = .ok (.ireturn, 1) := by decide +kernel
theorem dX11_asks_0 : decode cX11_asks 0 = .ok (.aload_n 0, 1) := by decide +kernel
theorem dX11_asks_1 : decode cX11_asks 1 = .ok (.getfield 28, 3) := by decide +kernel
theorem dX11_asks_4 : decode cX11_asks 4 = .ok (.iload_n 1, 1) := by decide +kernel
theorem dX11_asks_5 : decode cX11_asks 5 = .ok (.invokevirtual 133, 3) := by decide +kernel
theorem dX11_asks_8 : decode cX11_asks 8 = .ok (.ifCond .eq 10, 3) := by decide +kernel
theorem dX11_asks_11 : decode cX11_asks 11 = .ok (.iload_n 2, 1) := by decide +kernel
theorem dX11_asks_12 : decode cX11_asks 12 = .ok (.invokestatic 141, 3) := by decide +kernel
theorem dX11_asks_15 : decode cX11_asks 15 = .ok (.ifCond .ne 6, 3) := by decide +kernel
theorem dX11_asks_18 : decode cX11_asks 18 = .ok (.bipush (-2), 2) := by decide +kernel
theorem dX11_asks_20 : decode cX11_asks 20 = .ok (.ireturn, 1) := by decide +kernel
theorem dX11_asks_21 : decode cX11_asks 21 = .ok (.aload_n 0, 1) := by decide +kernel
theorem dX11_asks_22 : decode cX11_asks 22 = .ok (.getfield 28, 3) := by decide +kernel
theorem dX11_asks_25 : decode cX11_asks 25 = .ok (.getfield 137, 3) := by decide +kernel
theorem dX11_asks_28 : decode cX11_asks 28 = .ok (.bipush 9, 2) := by decide +kernel
theorem dX11_asks_30 : decode cX11_asks 30 = .ok (.iload_n 2, 1) := by decide +kernel
theorem dX11_asks_31 : decode cX11_asks 31 = .ok (.iadd, 1) := by decide +kernel
theorem dX11_asks_32 : decode cX11_asks 32 = .ok (.aaload, 1) := by decide +kernel
theorem dX11_asks_33 : decode cX11_asks 33 = .ok (.iload_n 1, 1) := by decide +kernel
theorem dX11_asks_34 : decode cX11_asks 34 = .ok (.iaload, 1) := by decide +kernel
theorem dX11_asks_35 : decode cX11_asks 35 = .ok (.ireturn, 1) := by decide +kernel
theorem dX11_asked_0 : decode cX11_asked 0 = .ok (.aload_n 0, 1) := by decide +kernel
theorem dX11_asked_1 : decode cX11_asked 1 = .ok (.getfield 28, 3) := by decide +kernel
theorem dX11_asked_4 : decode cX11_asked 4 = .ok (.iload_n 1, 1) := by decide +kernel
theorem dX11_asked_5 : decode cX11_asked 5 = .ok (.invokevirtual 133, 3) := by decide +kernel
theorem dX11_asked_8 : decode cX11_asked 8 = .ok (.ifCond .eq 10, 3) := by decide +kernel
theorem dX11_asked_11 : decode cX11_asked 11 = .ok (.iload_n 2, 1) := by decide +kernel
theorem dX11_asked_12 : decode cX11_asked 12 = .ok (.invokestatic 141, 3) := by decide +kernel
theorem dX11_asked_15 : decode cX11_asked 15 = .ok (.ifCond .ne 6, 3) := by decide +kernel
theorem dX11_asked_18 : decode cX11_asked 18 = .ok (.bipush (-2), 2) := by decide +kernel
theorem dX11_asked_20 : decode cX11_asked 20 = .ok (.ireturn, 1) := by decide +kernel
theorem dX11_asked_21 : decode cX11_asked 21 = .ok (.iconst 0, 1) := by decide +kernel
theorem dX11_asked_22 : decode cX11_asked 22 = .ok (.istore_n 3, 1) := by decide +kernel
theorem dX11_asked_23 : decode cX11_asked 23 = .ok (.iconst 0, 1) := by decide +kernel
theorem dX11_asked_24 : decode cX11_asked 24 = .ok (.istore 4, 2) := by decide +kernel
theorem dX11_asked_26 : decode cX11_asked 26 = .ok (.iload 4, 2) := by decide +kernel
theorem dX11_asked_28 : decode cX11_asked 28 = .ok (.aload_n 0, 1) := by decide +kernel
theorem dX11_asked_29 : decode cX11_asked 29 = .ok (.getfield 28, 3) := by decide +kernel
theorem dX11_asked_32 : decode cX11_asked 32 = .ok (.getfield 144, 3) := by decide +kernel
theorem dX11_asked_35 : decode cX11_asked 35 = .ok (.if_icmp .ge 38, 3) := by decide +kernel
theorem dX11_asked_38 : decode cX11_asked 38 = .ok (.aload_n 0, 1) := by decide +kernel
theorem dX11_asked_39 : decode cX11_asked 39 = .ok (.getfield 28, 3) := by decide +kernel
theorem dX11_asked_42 : decode cX11_asked 42 = .ok (.getfield 137, 3) := by decide +kernel
theorem dX11_asked_45 : decode cX11_asked 45 = .ok (.bipush 9, 2) := by decide +kernel
theorem dX11_asked_47 : decode cX11_asked 47 = .ok (.iload_n 2, 1) := by decide +kernel
theorem dX11_asked_48 : decode cX11_asked 48 = .ok (.iadd, 1) := by decide +kernel
theorem dX11_asked_49 : decode cX11_asked 49 = .ok (.aaload, 1) := by decide +kernel
theorem dX11_asked_50 : decode cX11_asked 50 = .ok (.iload 4, 2) := by decide +kernel
theorem dX11_asked_52 : decode cX11_asked 52 = .ok (.iaload, 1) := by decide +kernel
theorem dX11_asked_53 : decode cX11_asked 53 = .ok (.iload_n 1, 1) := by decide +kernel
theorem dX11_asked_54 : decode cX11_asked 54 = .ok (.invokestatic 147, 3) := by decide +kernel
theorem dX11_asked_57 : decode cX11_asked 57 = .ok (.ifCond .eq 10, 3) := by decide +kernel
theorem dX11_asked_60 : decode cX11_asked 60 = .ok (.iload_n 3, 1) := by decide +kernel
theorem dX11_asked_61 : decode cX11_asked 61 = .ok (.iconst 1, 1) := by decide +kernel
theorem dX11_asked_62 : decode cX11_asked 62 = .ok (.iload 4, 2) := by decide +kernel
theorem dX11_asked_64 : decode cX11_asked 64 = .ok (.ishl, 1) := by decide +kernel
theorem dX11_asked_65 : decode cX11_asked 65 = .ok (.ior, 1) := by decide +kernel
theorem dX11_asked_66 : decode cX11_asked 66 = .ok (.istore_n 3, 1) := by decide +kernel
theorem dX11_asked_67 : decode cX11_asked 67 = .ok (.iinc 4 1, 3) := by decide +kernel
theorem dX11_asked_70 : decode cX11_asked 70 = .ok (.goto (-44), 3) := by decide +kernel
theorem dX11_asked_73 : decode cX11_asked 73 = .ok (.iload_n 3, 1) := by decide +kernel
theorem dX11_asked_74 : decode cX11_asked 74 = .ok (.ireturn, 1) := by decide +kernel
theorem dX11_open_0 : decode cX11_open 0 = .ok (.aload_n 0, 1) := by decide +kernel
theorem dX11_open_1 : decode cX11_open 1 = .ok (.getfield 28, 3) := by decide +kernel
theorem dX11_open_4 : decode cX11_open 4 = .ok (.iload_n 1, 1) := by decide +kernel
theorem dX11_open_5 : decode cX11_open 5 = .ok (.invokevirtual 133, 3) := by decide +kernel
theorem dX11_open_8 : decode cX11_open 8 = .ok (.ifCond .eq 10, 3) := by decide +kernel
theorem dX11_open_11 : decode cX11_open 11 = .ok (.iload_n 2, 1) := by decide +kernel
theorem dX11_open_12 : decode cX11_open 12 = .ok (.invokestatic 151, 3) := by decide +kernel
theorem dX11_open_15 : decode cX11_open 15 = .ok (.ifCond .ne 6, 3) := by decide +kernel
theorem dX11_open_18 : decode cX11_open 18 = .ok (.bipush (-2), 2) := by decide +kernel
theorem dX11_open_20 : decode cX11_open 20 = .ok (.ireturn, 1) := by decide +kernel
theorem dX11_open_21 : decode cX11_open 21 = .ok (.aload_n 0, 1) := by decide +kernel
theorem dX11_open_22 : decode cX11_open 22 = .ok (.getfield 28, 3) := by decide +kernel
theorem dX11_open_25 : decode cX11_open 25 = .ok (.iload_n 1, 1) := by decide +kernel
theorem dX11_open_26 : decode cX11_open 26 = .ok (.iload_n 2, 1) := by decide +kernel
theorem dX11_open_27 : decode cX11_open 27 = .ok (.invokevirtual 154, 3) := by decide +kernel
theorem dX11_open_30 : decode cX11_open 30 = .ok (.ifCond .eq 7, 3) := by decide +kernel
theorem dX11_open_33 : decode cX11_open 33 = .ok (.iconst 1, 1) := by decide +kernel
theorem dX11_open_34 : decode cX11_open 34 = .ok (.goto 4, 3) := by decide +kernel
theorem dX11_open_37 : decode cX11_open 37 = .ok (.iconst 0, 1) := by decide +kernel
theorem dX11_open_38 : decode cX11_open 38 = .ok (.ireturn, 1) := by decide +kernel
theorem dX11_opens_0 : decode cX11_opens 0 = .ok (.aload_n 0, 1) := by decide +kernel
theorem dX11_opens_1 : decode cX11_opens 1 = .ok (.getfield 28, 3) := by decide +kernel
theorem dX11_opens_4 : decode cX11_opens 4 = .ok (.iload_n 1, 1) := by decide +kernel
theorem dX11_opens_5 : decode cX11_opens 5 = .ok (.invokevirtual 133, 3) := by decide +kernel
theorem dX11_opens_8 : decode cX11_opens 8 = .ok (.ifCond .eq 10, 3) := by decide +kernel
theorem dX11_opens_11 : decode cX11_opens 11 = .ok (.iload_n 2, 1) := by decide +kernel
theorem dX11_opens_12 : decode cX11_opens 12 = .ok (.invokestatic 151, 3) := by decide +kernel
theorem dX11_opens_15 : decode cX11_opens 15 = .ok (.ifCond .ne 6, 3) := by decide +kernel
theorem dX11_opens_18 : decode cX11_opens 18 = .ok (.bipush (-2), 2) := by decide +kernel
theorem dX11_opens_20 : decode cX11_opens 20 = .ok (.ireturn, 1) := by decide +kernel
theorem dX11_opens_21 : decode cX11_opens 21 = .ok (.aload_n 0, 1) := by decide +kernel
theorem dX11_opens_22 : decode cX11_opens 22 = .ok (.getfield 35, 3) := by decide +kernel
theorem dX11_opens_25 : decode cX11_opens 25 = .ok (.iload_n 1, 1) := by decide +kernel
theorem dX11_opens_26 : decode cX11_opens 26 = .ok (.iload_n 2, 1) := by decide +kernel
theorem dX11_opens_27 : decode cX11_opens 27 = .ok (.invokevirtual 157, 3) := by decide +kernel
theorem dX11_opens_30 : decode cX11_opens 30 = .ok (.ireturn, 1) := by decide +kernel
theorem dX11_week_0 : decode cX11_week 0 = .ok (.aload_n 0, 1) := by decide +kernel
theorem dX11_week_1 : decode cX11_week 1 = .ok (.getfield 28, 3) := by decide +kernel
theorem dX11_week_4 : decode cX11_week 4 = .ok (.iload_n 1, 1) := by decide +kernel
theorem dX11_week_5 : decode cX11_week 5 = .ok (.invokevirtual 133, 3) := by decide +kernel
theorem dX11_week_8 : decode cX11_week 8 = .ok (.ifCond .ne 6, 3) := by decide +kernel
theorem dX11_week_11 : decode cX11_week 11 = .ok (.bipush (-2), 2) := by decide +kernel
theorem dX11_week_13 : decode cX11_week 13 = .ok (.ireturn, 1) := by decide +kernel
theorem dX11_week_14 : decode cX11_week 14 = .ok (.iconst 0, 1) := by decide +kernel
theorem dX11_week_15 : decode cX11_week 15 = .ok (.istore_n 2, 1) := by decide +kernel
theorem dX11_week_16 : decode cX11_week 16 = .ok (.iconst 0, 1) := by decide +kernel
theorem dX11_week_17 : decode cX11_week 17 = .ok (.istore_n 3, 1) := by decide +kernel
theorem dX11_week_18 : decode cX11_week 18 = .ok (.iload_n 3, 1) := by decide +kernel
theorem dX11_week_19 : decode cX11_week 19 = .ok (.bipush 50, 2) := by decide +kernel
theorem dX11_week_21 : decode cX11_week 21 = .ok (.if_icmp .ge 24, 3) := by decide +kernel
theorem dX11_week_24 : decode cX11_week 24 = .ok (.aload_n 0, 1) := by decide +kernel
theorem dX11_week_25 : decode cX11_week 25 = .ok (.getfield 28, 3) := by decide +kernel
theorem dX11_week_28 : decode cX11_week 28 = .ok (.iload_n 1, 1) := by decide +kernel
theorem dX11_week_29 : decode cX11_week 29 = .ok (.iload_n 3, 1) := by decide +kernel
theorem dX11_week_30 : decode cX11_week 30 = .ok (.invokevirtual 161, 3) := by decide +kernel
theorem dX11_week_33 : decode cX11_week 33 = .ok (.ifCond .eq 6, 3) := by decide +kernel
theorem dX11_week_36 : decode cX11_week 36 = .ok (.iinc 2 1, 3) := by decide +kernel
theorem dX11_week_39 : decode cX11_week 39 = .ok (.iinc 3 1, 3) := by decide +kernel
theorem dX11_week_42 : decode cX11_week 42 = .ok (.goto (-24), 3) := by decide +kernel
theorem dX11_week_45 : decode cX11_week 45 = .ok (.iload_n 2, 1) := by decide +kernel
theorem dX11_week_46 : decode cX11_week 46 = .ok (.ireturn, 1) := by decide +kernel
theorem dX11_walk_0 : decode cX11_walk 0 = .ok (.aload_n 0, 1) := by decide +kernel
theorem dX11_walk_1 : decode cX11_walk 1 = .ok (.getfield 28, 3) := by decide +kernel
theorem dX11_walk_4 : decode cX11_walk 4 = .ok (.iload_n 1, 1) := by decide +kernel
theorem dX11_walk_5 : decode cX11_walk 5 = .ok (.invokevirtual 164, 3) := by decide +kernel
theorem dX11_walk_8 : decode cX11_walk 8 = .ok (.ifCond .eq 14, 3) := by decide +kernel
theorem dX11_walk_11 : decode cX11_walk 11 = .ok (.aload_n 0, 1) := by decide +kernel
theorem dX11_walk_12 : decode cX11_walk 12 = .ok (.getfield 28, 3) := by decide +kernel
theorem dX11_walk_15 : decode cX11_walk 15 = .ok (.iload_n 2, 1) := by decide +kernel
theorem dX11_walk_16 : decode cX11_walk 16 = .ok (.invokevirtual 164, 3) := by decide +kernel
theorem dX11_walk_19 : decode cX11_walk 19 = .ok (.ifCond .ne 6, 3) := by decide +kernel
theorem dX11_walk_22 : decode cX11_walk 22 = .ok (.bipush (-2), 2) := by decide +kernel
theorem dX11_walk_24 : decode cX11_walk 24 = .ok (.ireturn, 1) := by decide +kernel
theorem dX11_walk_25 : decode cX11_walk 25 = .ok (.aload_n 0, 1) := by decide +kernel
theorem dX11_walk_26 : decode cX11_walk 26 = .ok (.getfield 35, 3) := by decide +kernel
theorem dX11_walk_29 : decode cX11_walk 29 = .ok (.iload_n 1, 1) := by decide +kernel
theorem dX11_walk_30 : decode cX11_walk 30 = .ok (.iload_n 2, 1) := by decide +kernel
theorem dX11_walk_31 : decode cX11_walk 31 = .ok (.invokevirtual 167, 3) := by decide +kernel
theorem dX11_walk_34 : decode cX11_walk 34 = .ok (.ireturn, 1) := by decide +kernel
theorem dX11_permit_0 : decode cX11_permit 0 = .ok (.aload_n 0, 1) := by decide +kernel
theorem dX11_permit_1 : decode cX11_permit 1 = .ok (.getfield 28, 3) := by decide +kernel
theorem dX11_permit_4 : decode cX11_permit 4 = .ok (.invokevirtual 170, 3) := by decide +kernel
theorem dX11_permit_7 : decode cX11_permit 7 = .ok (.ifCond .eq 13, 3) := by decide +kernel
theorem dX11_permit_10 : decode cX11_permit 10 = .ok (.aload_n 0, 1) := by decide +kernel
theorem dX11_permit_11 : decode cX11_permit 11 = .ok (.getfield 28, 3) := by decide +kernel
theorem dX11_permit_14 : decode cX11_permit 14 = .ok (.getfield 174, 3) := by decide +kernel
theorem dX11_permit_17 : decode cX11_permit 17 = .ok (.goto 5, 3) := by decide +kernel
theorem dX11_permit_20 : decode cX11_permit 20 = .ok (.bipush (-2), 2) := by decide +kernel
theorem dX11_permit_22 : decode cX11_permit 22 = .ok (.ireturn, 1) := by decide +kernel
theorem dX11_now_0 : decode cX11_now 0 = .ok (.aload_n 0, 1) := by decide +kernel
theorem dX11_now_1 : decode cX11_now 1 = .ok (.getfield 28, 3) := by decide +kernel
theorem dX11_now_4 : decode cX11_now 4 = .ok (.invokevirtual 170, 3) := by decide +kernel
theorem dX11_now_7 : decode cX11_now 7 = .ok (.ifCond .eq 13, 3) := by decide +kernel
theorem dX11_now_10 : decode cX11_now 10 = .ok (.aload_n 0, 1) := by decide +kernel
theorem dX11_now_11 : decode cX11_now 11 = .ok (.getfield 44, 3) := by decide +kernel
theorem dX11_now_14 : decode cX11_now 14 = .ok (.getfield 177, 3) := by decide +kernel
theorem dX11_now_17 : decode cX11_now 17 = .ok (.goto 5, 3) := by decide +kernel
theorem dX11_now_20 : decode cX11_now 20 = .ok (.bipush (-2), 2) := by decide +kernel
theorem dX11_now_22 : decode cX11_now 22 = .ok (.ireturn, 1) := by decide +kernel
theorem dX11_room_0 : decode cX11_room 0 = .ok (.aload_n 0, 1) := by decide +kernel
theorem dX11_room_1 : decode cX11_room 1 = .ok (.getfield 28, 3) := by decide +kernel
theorem dX11_room_4 : decode cX11_room 4 = .ok (.invokevirtual 170, 3) := by decide +kernel
theorem dX11_room_7 : decode cX11_room 7 = .ok (.ifCond .eq 13, 3) := by decide +kernel
theorem dX11_room_10 : decode cX11_room 10 = .ok (.aload_n 0, 1) := by decide +kernel
theorem dX11_room_11 : decode cX11_room 11 = .ok (.getfield 44, 3) := by decide +kernel
theorem dX11_room_14 : decode cX11_room 14 = .ok (.getfield 180, 3) := by decide +kernel
theorem dX11_room_17 : decode cX11_room 17 = .ok (.goto 5, 3) := by decide +kernel
theorem dX11_room_20 : decode cX11_room 20 = .ok (.bipush (-2), 2) := by decide +kernel
theorem dX11_room_22 : decode cX11_room 22 = .ok (.ireturn, 1) := by decide +kernel
theorem dX11_held_0 : decode cX11_held 0 = .ok (.aload_n 0, 1) := by decide +kernel
theorem dX11_held_1 : decode cX11_held 1 = .ok (.getfield 28, 3) := by decide +kernel
theorem dX11_held_4 : decode cX11_held 4 = .ok (.invokevirtual 170, 3) := by decide +kernel
theorem dX11_held_7 : decode cX11_held 7 = .ok (.ifCond .eq 13, 3) := by decide +kernel
theorem dX11_held_10 : decode cX11_held 10 = .ok (.aload_n 0, 1) := by decide +kernel
theorem dX11_held_11 : decode cX11_held 11 = .ok (.getfield 44, 3) := by decide +kernel
theorem dX11_held_14 : decode cX11_held 14 = .ok (.invokevirtual 183, 3) := by decide +kernel
theorem dX11_held_17 : decode cX11_held 17 = .ok (.goto 5, 3) := by decide +kernel
theorem dX11_held_20 : decode cX11_held 20 = .ok (.bipush (-2), 2) := by decide +kernel
theorem dX11_held_22 : decode cX11_held 22 = .ok (.ireturn, 1) := by decide +kernel
theorem dX11_until_0 : decode cX11_until 0 = .ok (.aload_n 0, 1) := by decide +kernel
theorem dX11_until_1 : decode cX11_until 1 = .ok (.getfield 28, 3) := by decide +kernel
theorem dX11_until_4 : decode cX11_until 4 = .ok (.iload_n 1, 1) := by decide +kernel
theorem dX11_until_5 : decode cX11_until 5 = .ok (.invokevirtual 133, 3) := by decide +kernel
theorem dX11_until_8 : decode cX11_until 8 = .ok (.ifCond .ne 6, 3) := by decide +kernel
theorem dX11_until_11 : decode cX11_until 11 = .ok (.bipush (-2), 2) := by decide +kernel
theorem dX11_until_13 : decode cX11_until 13 = .ok (.ireturn, 1) := by decide +kernel
theorem dX11_until_14 : decode cX11_until 14 = .ok (.aload_n 0, 1) := by decide +kernel
theorem dX11_until_15 : decode cX11_until 15 = .ok (.getfield 44, 3) := by decide +kernel
theorem dX11_until_18 : decode cX11_until 18 = .ok (.iload_n 1, 1) := by decide +kernel
theorem dX11_until_19 : decode cX11_until 19 = .ok (.invokevirtual 187, 3) := by decide +kernel
theorem dX11_until_22 : decode cX11_until 22 = .ok (.istore_n 2, 1) := by decide +kernel
theorem dX11_until_23 : decode cX11_until 23 = .ok (.aload_n 0, 1) := by decide +kernel
theorem dX11_until_24 : decode cX11_until 24 = .ok (.getfield 44, 3) := by decide +kernel
theorem dX11_until_27 : decode cX11_until 27 = .ok (.iload_n 1, 1) := by decide +kernel
theorem dX11_until_28 : decode cX11_until 28 = .ok (.invokevirtual 191, 3) := by decide +kernel
theorem dX11_until_31 : decode cX11_until 31 = .ok (.ifCond .eq 13, 3) := by decide +kernel
theorem dX11_until_34 : decode cX11_until 34 = .ok (.iload_n 2, 1) := by decide +kernel
theorem dX11_until_35 : decode cX11_until 35 = .ok (.ldc 194, 2) := by decide +kernel
theorem dX11_until_37 : decode cX11_until 37 = .ok (.if_icmp .eq 7, 3) := by decide +kernel
theorem dX11_until_40 : decode cX11_until 40 = .ok (.iload_n 2, 1) := by decide +kernel
theorem dX11_until_41 : decode cX11_until 41 = .ok (.goto 4, 3) := by decide +kernel
theorem dX11_until_44 : decode cX11_until 44 = .ok (.iconst (-1), 1) := by decide +kernel
theorem dX11_until_45 : decode cX11_until 45 = .ok (.ireturn, 1) := by decide +kernel
theorem dX11_when_0 : decode cX11_when 0 = .ok (.aload_n 0, 1) := by decide +kernel
theorem dX11_when_1 : decode cX11_when 1 = .ok (.getfield 28, 3) := by decide +kernel
theorem dX11_when_4 : decode cX11_when 4 = .ok (.iload_n 1, 1) := by decide +kernel
theorem dX11_when_5 : decode cX11_when 5 = .ok (.invokevirtual 133, 3) := by decide +kernel
theorem dX11_when_8 : decode cX11_when 8 = .ok (.ifCond .eq 14, 3) := by decide +kernel
theorem dX11_when_11 : decode cX11_when 11 = .ok (.aload_n 0, 1) := by decide +kernel
theorem dX11_when_12 : decode cX11_when 12 = .ok (.getfield 44, 3) := by decide +kernel
theorem dX11_when_15 : decode cX11_when 15 = .ok (.iload_n 1, 1) := by decide +kernel
theorem dX11_when_16 : decode cX11_when 16 = .ok (.invokevirtual 195, 3) := by decide +kernel
theorem dX11_when_19 : decode cX11_when 19 = .ok (.goto 5, 3) := by decide +kernel
theorem dX11_when_22 : decode cX11_when 22 = .ok (.bipush (-2), 2) := by decide +kernel
theorem dX11_when_24 : decode cX11_when 24 = .ok (.ireturn, 1) := by decide +kernel
theorem dX11_why_0 : decode cX11_why 0 = .ok (.aload_n 0, 1) := by decide +kernel
theorem dX11_why_1 : decode cX11_why 1 = .ok (.getfield 28, 3) := by decide +kernel
theorem dX11_why_4 : decode cX11_why 4 = .ok (.iload_n 1, 1) := by decide +kernel
theorem dX11_why_5 : decode cX11_why 5 = .ok (.invokevirtual 133, 3) := by decide +kernel
theorem dX11_why_8 : decode cX11_why 8 = .ok (.ifCond .eq 14, 3) := by decide +kernel
theorem dX11_why_11 : decode cX11_why 11 = .ok (.aload_n 0, 1) := by decide +kernel
theorem dX11_why_12 : decode cX11_why 12 = .ok (.getfield 44, 3) := by decide +kernel
theorem dX11_why_15 : decode cX11_why 15 = .ok (.iload_n 1, 1) := by decide +kernel
theorem dX11_why_16 : decode cX11_why 16 = .ok (.invokevirtual 198, 3) := by decide +kernel
theorem dX11_why_19 : decode cX11_why 19 = .ok (.goto 5, 3) := by decide +kernel
theorem dX11_why_22 : decode cX11_why 22 = .ok (.bipush (-2), 2) := by decide +kernel
theorem dX11_why_24 : decode cX11_why 24 = .ok (.ireturn, 1) := by decide +kernel
theorem dX11_can_0 : decode cX11_can 0 = .ok (.aload_n 0, 1) := by decide +kernel
theorem dX11_can_1 : decode cX11_can 1 = .ok (.getfield 28, 3) := by decide +kernel
theorem dX11_can_4 : decode cX11_can 4 = .ok (.invokevirtual 170, 3) := by decide +kernel
theorem dX11_can_7 : decode cX11_can 7 = .ok (.ifCond .eq 13, 3) := by decide +kernel
theorem dX11_can_10 : decode cX11_can 10 = .ok (.aload_n 0, 1) := by decide +kernel
theorem dX11_can_11 : decode cX11_can 11 = .ok (.getfield 44, 3) := by decide +kernel
theorem dX11_can_14 : decode cX11_can 14 = .ok (.invokevirtual 201, 3) := by decide +kernel
theorem dX11_can_17 : decode cX11_can 17 = .ok (.goto 5, 3) := by decide +kernel
theorem dX11_can_20 : decode cX11_can 20 = .ok (.bipush (-2), 2) := by decide +kernel
theorem dX11_can_22 : decode cX11_can 22 = .ok (.ireturn, 1) := by decide +kernel
theorem dX11_go_0 : decode cX11_go 0 = .ok (.aload_n 0, 1) := by decide +kernel
theorem dX11_go_1 : decode cX11_go 1 = .ok (.getfield 28, 3) := by decide +kernel
theorem dX11_go_4 : decode cX11_go 4 = .ok (.iload_n 1, 1) := by decide +kernel
theorem dX11_go_5 : decode cX11_go 5 = .ok (.invokevirtual 133, 3) := by decide +kernel
theorem dX11_go_8 : decode cX11_go 8 = .ok (.ifCond .ne 6, 3) := by decide +kernel
theorem dX11_go_11 : decode cX11_go 11 = .ok (.bipush (-2), 2) := by decide +kernel
theorem dX11_go_13 : decode cX11_go 13 = .ok (.ireturn, 1) := by decide +kernel
theorem dX11_go_14 : decode cX11_go 14 = .ok (.aload_n 0, 1) := by decide +kernel
theorem dX11_go_15 : decode cX11_go 15 = .ok (.getfield 44, 3) := by decide +kernel
theorem dX11_go_18 : decode cX11_go 18 = .ok (.iload_n 1, 1) := by decide +kernel
theorem dX11_go_19 : decode cX11_go 19 = .ok (.invokevirtual 195, 3) := by decide +kernel
theorem dX11_go_22 : decode cX11_go 22 = .ok (.istore_n 2, 1) := by decide +kernel
theorem dX11_go_23 : decode cX11_go 23 = .ok (.iload_n 2, 1) := by decide +kernel
theorem dX11_go_24 : decode cX11_go 24 = .ok (.iconst (-1), 1) := by decide +kernel
theorem dX11_go_25 : decode cX11_go 25 = .ok (.if_icmp .eq 14, 3) := by decide +kernel
theorem dX11_go_28 : decode cX11_go 28 = .ok (.aload_n 0, 1) := by decide +kernel
theorem dX11_go_29 : decode cX11_go 29 = .ok (.getfield 28, 3) := by decide +kernel
theorem dX11_go_32 : decode cX11_go 32 = .ok (.iload_n 1, 1) := by decide +kernel
theorem dX11_go_33 : decode cX11_go 33 = .ok (.invokevirtual 204, 3) := by decide +kernel
theorem dX11_go_36 : decode cX11_go 36 = .ok (.ifCond .ne 6, 3) := by decide +kernel
theorem dX11_go_39 : decode cX11_go 39 = .ok (.bipush (-5), 2) := by decide +kernel
theorem dX11_go_41 : decode cX11_go 41 = .ok (.ireturn, 1) := by decide +kernel
theorem dX11_go_42 : decode cX11_go 42 = .ok (.aload_n 0, 1) := by decide +kernel
theorem dX11_go_43 : decode cX11_go 43 = .ok (.getfield 44, 3) := by decide +kernel
theorem dX11_go_46 : decode cX11_go 46 = .ok (.iload_n 1, 1) := by decide +kernel
theorem dX11_go_47 : decode cX11_go 47 = .ok (.iload_n 2, 1) := by decide +kernel
theorem dX11_go_48 : decode cX11_go 48 = .ok (.invokevirtual 207, 3) := by decide +kernel
theorem dX11_go_51 : decode cX11_go 51 = .ok (.aload_n 0, 1) := by decide +kernel
theorem dX11_go_52 : decode cX11_go 52 = .ok (.invokevirtual 211, 3) := by decide +kernel
theorem dX11_go_55 : decode cX11_go 55 = .ok (.iload_n 2, 1) := by decide +kernel
theorem dX11_go_56 : decode cX11_go 56 = .ok (.ireturn, 1) := by decide +kernel
theorem dX11_waits_0 : decode cX11_waits 0 = .ok (.aload_n 0, 1) := by decide +kernel
theorem dX11_waits_1 : decode cX11_waits 1 = .ok (.getfield 28, 3) := by decide +kernel
theorem dX11_waits_4 : decode cX11_waits 4 = .ok (.invokevirtual 170, 3) := by decide +kernel
theorem dX11_waits_7 : decode cX11_waits 7 = .ok (.ifCond .eq 14, 3) := by decide +kernel
theorem dX11_waits_10 : decode cX11_waits 10 = .ok (.iload_n 1, 1) := by decide +kernel
theorem dX11_waits_11 : decode cX11_waits 11 = .ok (.iconst 1, 1) := by decide +kernel
theorem dX11_waits_12 : decode cX11_waits 12 = .ok (.if_icmp .lt 9, 3) := by decide +kernel
theorem dX11_waits_15 : decode cX11_waits 15 = .ok (.iload_n 1, 1) := by decide +kernel
theorem dX11_waits_16 : decode cX11_waits 16 = .ok (.bipush 99, 2) := by decide +kernel
theorem dX11_waits_18 : decode cX11_waits 18 = .ok (.if_icmp .le 6, 3) := by decide +kernel
theorem dX11_waits_21 : decode cX11_waits 21 = .ok (.bipush (-2), 2) := by decide +kernel
theorem dX11_waits_23 : decode cX11_waits 23 = .ok (.ireturn, 1) := by decide +kernel
theorem dX11_waits_24 : decode cX11_waits 24 = .ok (.aload_n 0, 1) := by decide +kernel
theorem dX11_waits_25 : decode cX11_waits 25 = .ok (.getfield 44, 3) := by decide +kernel
theorem dX11_waits_28 : decode cX11_waits 28 = .ok (.getfield 177, 3) := by decide +kernel
theorem dX11_waits_31 : decode cX11_waits 31 = .ok (.iload_n 1, 1) := by decide +kernel
theorem dX11_waits_32 : decode cX11_waits 32 = .ok (.iadd, 1) := by decide +kernel
theorem dX11_waits_33 : decode cX11_waits 33 = .ok (.sipush 400, 3) := by decide +kernel
theorem dX11_waits_36 : decode cX11_waits 36 = .ok (.if_icmp .gt 17, 3) := by decide +kernel
theorem dX11_waits_39 : decode cX11_waits 39 = .ok (.aload_n 0, 1) := by decide +kernel
theorem dX11_waits_40 : decode cX11_waits 40 = .ok (.getfield 28, 3) := by decide +kernel
theorem dX11_waits_43 : decode cX11_waits 43 = .ok (.bipush 10, 2) := by decide +kernel
theorem dX11_waits_45 : decode cX11_waits 45 = .ok (.iload_n 1, 1) := by decide +kernel
theorem dX11_waits_46 : decode cX11_waits 46 = .ok (.iadd, 1) := by decide +kernel
theorem dX11_waits_47 : decode cX11_waits 47 = .ok (.invokevirtual 204, 3) := by decide +kernel
theorem dX11_waits_50 : decode cX11_waits 50 = .ok (.ifCond .ne 6, 3) := by decide +kernel
theorem dX11_waits_53 : decode cX11_waits 53 = .ok (.bipush (-5), 2) := by decide +kernel
theorem dX11_waits_55 : decode cX11_waits 55 = .ok (.ireturn, 1) := by decide +kernel
theorem dX11_waits_56 : decode cX11_waits 56 = .ok (.aload_n 0, 1) := by decide +kernel
theorem dX11_waits_57 : decode cX11_waits 57 = .ok (.getfield 44, 3) := by decide +kernel
theorem dX11_waits_60 : decode cX11_waits 60 = .ok (.dup, 1) := by decide +kernel
theorem dX11_waits_61 : decode cX11_waits 61 = .ok (.getfield 177, 3) := by decide +kernel
theorem dX11_waits_64 : decode cX11_waits 64 = .ok (.iload_n 1, 1) := by decide +kernel
theorem dX11_waits_65 : decode cX11_waits 65 = .ok (.iadd, 1) := by decide +kernel
theorem dX11_waits_66 : decode cX11_waits 66 = .ok (.putfield 177, 3) := by decide +kernel
theorem dX11_waits_69 : decode cX11_waits 69 = .ok (.aload_n 0, 1) := by decide +kernel
theorem dX11_waits_70 : decode cX11_waits 70 = .ok (.invokevirtual 211, 3) := by decide +kernel
theorem dX11_waits_73 : decode cX11_waits 73 = .ok (.aload_n 0, 1) := by decide +kernel
theorem dX11_waits_74 : decode cX11_waits 74 = .ok (.getfield 44, 3) := by decide +kernel
theorem dX11_waits_77 : decode cX11_waits 77 = .ok (.getfield 177, 3) := by decide +kernel
theorem dX11_waits_80 : decode cX11_waits 80 = .ok (.ireturn, 1) := by decide +kernel
theorem dX11_undo_0 : decode cX11_undo 0 = .ok (.aload_n 0, 1) := by decide +kernel
theorem dX11_undo_1 : decode cX11_undo 1 = .ok (.getfield 28, 3) := by decide +kernel
theorem dX11_undo_4 : decode cX11_undo 4 = .ok (.invokevirtual 170, 3) := by decide +kernel
theorem dX11_undo_7 : decode cX11_undo 7 = .ok (.ifCond .ne 6, 3) := by decide +kernel
theorem dX11_undo_10 : decode cX11_undo 10 = .ok (.bipush (-2), 2) := by decide +kernel
theorem dX11_undo_12 : decode cX11_undo 12 = .ok (.ireturn, 1) := by decide +kernel
theorem dX11_undo_13 : decode cX11_undo 13 = .ok (.aload_n 0, 1) := by decide +kernel
theorem dX11_undo_14 : decode cX11_undo 14 = .ok (.getfield 28, 3) := by decide +kernel
theorem dX11_undo_17 : decode cX11_undo 17 = .ok (.getfield 214, 3) := by decide +kernel
theorem dX11_undo_20 : decode cX11_undo 20 = .ok (.ifCond .ne 6, 3) := by decide +kernel
theorem dX11_undo_23 : decode cX11_undo 23 = .ok (.bipush (-5), 2) := by decide +kernel
theorem dX11_undo_25 : decode cX11_undo 25 = .ok (.ireturn, 1) := by decide +kernel
theorem dX11_undo_26 : decode cX11_undo 26 = .ok (.aload_n 0, 1) := by decide +kernel
theorem dX11_undo_27 : decode cX11_undo 27 = .ok (.getfield 28, 3) := by decide +kernel
theorem dX11_undo_30 : decode cX11_undo 30 = .ok (.dup, 1) := by decide +kernel
theorem dX11_undo_31 : decode cX11_undo 31 = .ok (.getfield 214, 3) := by decide +kernel
theorem dX11_undo_34 : decode cX11_undo 34 = .ok (.iconst 1, 1) := by decide +kernel
theorem dX11_undo_35 : decode cX11_undo 35 = .ok (.isub, 1) := by decide +kernel
theorem dX11_undo_36 : decode cX11_undo 36 = .ok (.putfield 214, 3) := by decide +kernel
theorem dX11_undo_39 : decode cX11_undo 39 = .ok (.aload_n 0, 1) := by decide +kernel
theorem dX11_undo_40 : decode cX11_undo 40 = .ok (.invokevirtual 217, 3) := by decide +kernel
theorem dX11_undo_43 : decode cX11_undo 43 = .ok (.aload_n 0, 1) := by decide +kernel
theorem dX11_undo_44 : decode cX11_undo 44 = .ok (.getfield 28, 3) := by decide +kernel
theorem dX11_undo_47 : decode cX11_undo 47 = .ok (.getfield 214, 3) := by decide +kernel
theorem dX11_undo_50 : decode cX11_undo 50 = .ok (.ireturn, 1) := by decide +kernel
theorem dX11_anew_0 : decode cX11_anew 0 = .ok (.aload_n 0, 1) := by decide +kernel
theorem dX11_anew_1 : decode cX11_anew 1 = .ok (.getfield 28, 3) := by decide +kernel
theorem dX11_anew_4 : decode cX11_anew 4 = .ok (.invokevirtual 170, 3) := by decide +kernel
theorem dX11_anew_7 : decode cX11_anew 7 = .ok (.ifCond .ne 6, 3) := by decide +kernel
theorem dX11_anew_10 : decode cX11_anew 10 = .ok (.bipush (-2), 2) := by decide +kernel
theorem dX11_anew_12 : decode cX11_anew 12 = .ok (.ireturn, 1) := by decide +kernel
theorem dX11_anew_13 : decode cX11_anew 13 = .ok (.aload_n 0, 1) := by decide +kernel
theorem dX11_anew_14 : decode cX11_anew 14 = .ok (.getfield 28, 3) := by decide +kernel
theorem dX11_anew_17 : decode cX11_anew 17 = .ok (.getfield 214, 3) := by decide +kernel
theorem dX11_anew_20 : decode cX11_anew 20 = .ok (.istore_n 1, 1) := by decide +kernel
theorem dX11_anew_21 : decode cX11_anew 21 = .ok (.aload_n 0, 1) := by decide +kernel
theorem dX11_anew_22 : decode cX11_anew 22 = .ok (.getfield 28, 3) := by decide +kernel
theorem dX11_anew_25 : decode cX11_anew 25 = .ok (.iconst 0, 1) := by decide +kernel
theorem dX11_anew_26 : decode cX11_anew 26 = .ok (.putfield 214, 3) := by decide +kernel
theorem dX11_anew_29 : decode cX11_anew 29 = .ok (.aload_n 0, 1) := by decide +kernel
theorem dX11_anew_30 : decode cX11_anew 30 = .ok (.invokevirtual 217, 3) := by decide +kernel
theorem dX11_anew_33 : decode cX11_anew 33 = .ok (.iload_n 1, 1) := by decide +kernel
theorem dX11_anew_34 : decode cX11_anew 34 = .ok (.ireturn, 1) := by decide +kernel
theorem dX11_led_0 : decode cX11_led 0 = .ok (.aload_n 0, 1) := by decide +kernel
theorem dX11_led_1 : decode cX11_led 1 = .ok (.getfield 28, 3) := by decide +kernel
theorem dX11_led_4 : decode cX11_led 4 = .ok (.invokevirtual 170, 3) := by decide +kernel
theorem dX11_led_7 : decode cX11_led 7 = .ok (.ifCond .ne 6, 3) := by decide +kernel
theorem dX11_led_10 : decode cX11_led 10 = .ok (.bipush (-2), 2) := by decide +kernel
theorem dX11_led_12 : decode cX11_led 12 = .ok (.ireturn, 1) := by decide +kernel
theorem dX11_led_13 : decode cX11_led 13 = .ok (.iload_n 1, 1) := by decide +kernel
theorem dX11_led_14 : decode cX11_led 14 = .ok (.ifCond .lt 26, 3) := by decide +kernel
theorem dX11_led_17 : decode cX11_led 17 = .ok (.iload_n 1, 1) := by decide +kernel
theorem dX11_led_18 : decode cX11_led 18 = .ok (.aload_n 0, 1) := by decide +kernel
theorem dX11_led_19 : decode cX11_led 19 = .ok (.getfield 28, 3) := by decide +kernel
theorem dX11_led_22 : decode cX11_led 22 = .ok (.getfield 214, 3) := by decide +kernel
theorem dX11_led_25 : decode cX11_led 25 = .ok (.if_icmp .ge 15, 3) := by decide +kernel
theorem dX11_led_28 : decode cX11_led 28 = .ok (.aload_n 0, 1) := by decide +kernel
theorem dX11_led_29 : decode cX11_led 29 = .ok (.getfield 28, 3) := by decide +kernel
theorem dX11_led_32 : decode cX11_led 32 = .ok (.getfield 220, 3) := by decide +kernel
theorem dX11_led_35 : decode cX11_led 35 = .ok (.iload_n 1, 1) := by decide +kernel
theorem dX11_led_36 : decode cX11_led 36 = .ok (.iaload, 1) := by decide +kernel
theorem dX11_led_37 : decode cX11_led 37 = .ok (.goto 4, 3) := by decide +kernel
theorem dX11_led_40 : decode cX11_led 40 = .ok (.iconst (-1), 1) := by decide +kernel
theorem dX11_led_41 : decode cX11_led 41 = .ok (.ireturn, 1) := by decide +kernel
theorem dX11_shoes_0 : decode cX11_shoes 0 = .ok (.aload_n 0, 1) := by decide +kernel
theorem dX11_shoes_1 : decode cX11_shoes 1 = .ok (.getfield 28, 3) := by decide +kernel
theorem dX11_shoes_4 : decode cX11_shoes 4 = .ok (.invokevirtual 170, 3) := by decide +kernel
theorem dX11_shoes_7 : decode cX11_shoes 7 = .ok (.ifCond .eq 13, 3) := by decide +kernel
theorem dX11_shoes_10 : decode cX11_shoes 10 = .ok (.aload_n 0, 1) := by decide +kernel
theorem dX11_shoes_11 : decode cX11_shoes 11 = .ok (.getfield 44, 3) := by decide +kernel
theorem dX11_shoes_14 : decode cX11_shoes 14 = .ok (.getfield 224, 3) := by decide +kernel
theorem dX11_shoes_17 : decode cX11_shoes 17 = .ok (.goto 5, 3) := by decide +kernel
theorem dX11_shoes_20 : decode cX11_shoes 20 = .ok (.bipush (-2), 2) := by decide +kernel
theorem dX11_shoes_22 : decode cX11_shoes 22 = .ok (.ireturn, 1) := by decide +kernel
theorem dX11_paid_0 : decode cX11_paid 0 = .ok (.aload_n 0, 1) := by decide +kernel
theorem dX11_paid_1 : decode cX11_paid 1 = .ok (.getfield 28, 3) := by decide +kernel
theorem dX11_paid_4 : decode cX11_paid 4 = .ok (.invokevirtual 170, 3) := by decide +kernel
theorem dX11_paid_7 : decode cX11_paid 7 = .ok (.ifCond .eq 13, 3) := by decide +kernel
theorem dX11_paid_10 : decode cX11_paid 10 = .ok (.aload_n 0, 1) := by decide +kernel
theorem dX11_paid_11 : decode cX11_paid 11 = .ok (.getfield 44, 3) := by decide +kernel
theorem dX11_paid_14 : decode cX11_paid 14 = .ok (.getfield 227, 3) := by decide +kernel
theorem dX11_paid_17 : decode cX11_paid 17 = .ok (.goto 5, 3) := by decide +kernel
theorem dX11_paid_20 : decode cX11_paid 20 = .ok (.bipush (-2), 2) := by decide +kernel
theorem dX11_paid_22 : decode cX11_paid 22 = .ok (.ireturn, 1) := by decide +kernel
theorem dX11_done_0 : decode cX11_done 0 = .ok (.aload_n 0, 1) := by decide +kernel
theorem dX11_done_1 : decode cX11_done 1 = .ok (.getfield 28, 3) := by decide +kernel
theorem dX11_done_4 : decode cX11_done 4 = .ok (.invokevirtual 170, 3) := by decide +kernel
theorem dX11_done_7 : decode cX11_done 7 = .ok (.ifCond .ne 6, 3) := by decide +kernel
theorem dX11_done_10 : decode cX11_done 10 = .ok (.bipush (-2), 2) := by decide +kernel
theorem dX11_done_12 : decode cX11_done 12 = .ok (.ireturn, 1) := by decide +kernel
theorem dX11_done_13 : decode cX11_done 13 = .ok (.aload_n 0, 1) := by decide +kernel
theorem dX11_done_14 : decode cX11_done 14 = .ok (.getfield 44, 3) := by decide +kernel
theorem dX11_done_17 : decode cX11_done 17 = .ok (.invokevirtual 230, 3) := by decide +kernel
theorem dX11_done_20 : decode cX11_done 20 = .ok (.ifCond .ne 7, 3) := by decide +kernel
theorem dX11_done_23 : decode cX11_done 23 = .ok (.iconst 1, 1) := by decide +kernel
theorem dX11_done_24 : decode cX11_done 24 = .ok (.goto 4, 3) := by decide +kernel
theorem dX11_done_27 : decode cX11_done 27 = .ok (.iconst 0, 1) := by decide +kernel
theorem dX11_done_28 : decode cX11_done 28 = .ok (.ireturn, 1) := by decide +kernel
theorem dX11_soonest_0 : decode cX11_soonest 0 = .ok (.aload_n 0, 1) := by decide +kernel
theorem dX11_soonest_1 : decode cX11_soonest 1 = .ok (.getfield 28, 3) := by decide +kernel
theorem dX11_soonest_4 : decode cX11_soonest 4 = .ok (.invokevirtual 170, 3) := by decide +kernel
theorem dX11_soonest_7 : decode cX11_soonest 7 = .ok (.ifCond .eq 14, 3) := by decide +kernel
theorem dX11_soonest_10 : decode cX11_soonest 10 = .ok (.aload_n 0, 1) := by decide +kernel
theorem dX11_soonest_11 : decode cX11_soonest 11 = .ok (.invokevirtual 233, 3) := by decide +kernel
theorem dX11_soonest_14 : decode cX11_soonest 14 = .ok (.iconst 0, 1) := by decide +kernel
theorem dX11_soonest_15 : decode cX11_soonest 15 = .ok (.invokevirtual 237, 3) := by decide +kernel
theorem dX11_soonest_18 : decode cX11_soonest 18 = .ok (.goto 5, 3) := by decide +kernel
theorem dX11_soonest_21 : decode cX11_soonest 21 = .ok (.bipush (-2), 2) := by decide +kernel
theorem dX11_soonest_23 : decode cX11_soonest 23 = .ok (.ireturn, 1) := by decide +kernel
theorem dX11_step_0 : decode cX11_step 0 = .ok (.aload_n 0, 1) := by decide +kernel
theorem dX11_step_1 : decode cX11_step 1 = .ok (.getfield 28, 3) := by decide +kernel
theorem dX11_step_4 : decode cX11_step 4 = .ok (.invokevirtual 170, 3) := by decide +kernel
theorem dX11_step_7 : decode cX11_step 7 = .ok (.ifCond .eq 15, 3) := by decide +kernel
theorem dX11_step_10 : decode cX11_step 10 = .ok (.aload_n 0, 1) := by decide +kernel
theorem dX11_step_11 : decode cX11_step 11 = .ok (.invokevirtual 233, 3) := by decide +kernel
theorem dX11_step_14 : decode cX11_step 14 = .ok (.iconst 0, 1) := by decide +kernel
theorem dX11_step_15 : decode cX11_step 15 = .ok (.iload_n 1, 1) := by decide +kernel
theorem dX11_step_16 : decode cX11_step 16 = .ok (.invokevirtual 240, 3) := by decide +kernel
theorem dX11_step_19 : decode cX11_step 19 = .ok (.goto 5, 3) := by decide +kernel
theorem dX11_step_22 : decode cX11_step 22 = .ok (.bipush (-2), 2) := by decide +kernel
theorem dX11_step_24 : decode cX11_step 24 = .ok (.ireturn, 1) := by decide +kernel
theorem dX11_fewest_0 : decode cX11_fewest 0 = .ok (.aload_n 0, 1) := by decide +kernel
theorem dX11_fewest_1 : decode cX11_fewest 1 = .ok (.getfield 28, 3) := by decide +kernel
theorem dX11_fewest_4 : decode cX11_fewest 4 = .ok (.invokevirtual 170, 3) := by decide +kernel
theorem dX11_fewest_7 : decode cX11_fewest 7 = .ok (.ifCond .eq 13, 3) := by decide +kernel
theorem dX11_fewest_10 : decode cX11_fewest 10 = .ok (.aload_n 0, 1) := by decide +kernel
theorem dX11_fewest_11 : decode cX11_fewest 11 = .ok (.invokevirtual 243, 3) := by decide +kernel
theorem dX11_fewest_14 : decode cX11_fewest 14 = .ok (.getfield 246, 3) := by decide +kernel
theorem dX11_fewest_17 : decode cX11_fewest 17 = .ok (.goto 5, 3) := by decide +kernel
theorem dX11_fewest_20 : decode cX11_fewest 20 = .ok (.bipush (-2), 2) := by decide +kernel
theorem dX11_fewest_22 : decode cX11_fewest 22 = .ok (.ireturn, 1) := by decide +kernel
theorem dX11_least_0 : decode cX11_least 0 = .ok (.aload_n 0, 1) := by decide +kernel
theorem dX11_least_1 : decode cX11_least 1 = .ok (.getfield 28, 3) := by decide +kernel
theorem dX11_least_4 : decode cX11_least 4 = .ok (.invokevirtual 170, 3) := by decide +kernel
theorem dX11_least_7 : decode cX11_least 7 = .ok (.ifCond .eq 14, 3) := by decide +kernel
theorem dX11_least_10 : decode cX11_least 10 = .ok (.aload_n 0, 1) := by decide +kernel
theorem dX11_least_11 : decode cX11_least 11 = .ok (.invokevirtual 243, 3) := by decide +kernel
theorem dX11_least_14 : decode cX11_least 14 = .ok (.iconst 1, 1) := by decide +kernel
theorem dX11_least_15 : decode cX11_least 15 = .ok (.invokevirtual 237, 3) := by decide +kernel
theorem dX11_least_18 : decode cX11_least 18 = .ok (.goto 5, 3) := by decide +kernel
theorem dX11_least_21 : decode cX11_least 21 = .ok (.bipush (-2), 2) := by decide +kernel
theorem dX11_least_23 : decode cX11_least 23 = .ok (.ireturn, 1) := by decide +kernel
theorem dX11_tread_0 : decode cX11_tread 0 = .ok (.aload_n 0, 1) := by decide +kernel
theorem dX11_tread_1 : decode cX11_tread 1 = .ok (.getfield 28, 3) := by decide +kernel
theorem dX11_tread_4 : decode cX11_tread 4 = .ok (.invokevirtual 170, 3) := by decide +kernel
theorem dX11_tread_7 : decode cX11_tread 7 = .ok (.ifCond .eq 15, 3) := by decide +kernel
theorem dX11_tread_10 : decode cX11_tread 10 = .ok (.aload_n 0, 1) := by decide +kernel
theorem dX11_tread_11 : decode cX11_tread 11 = .ok (.invokevirtual 243, 3) := by decide +kernel
theorem dX11_tread_14 : decode cX11_tread 14 = .ok (.iconst 1, 1) := by decide +kernel
theorem dX11_tread_15 : decode cX11_tread 15 = .ok (.iload_n 1, 1) := by decide +kernel
theorem dX11_tread_16 : decode cX11_tread 16 = .ok (.invokevirtual 240, 3) := by decide +kernel
theorem dX11_tread_19 : decode cX11_tread 19 = .ok (.goto 5, 3) := by decide +kernel
theorem dX11_tread_22 : decode cX11_tread 22 = .ok (.bipush (-2), 2) := by decide +kernel
theorem dX11_tread_24 : decode cX11_tread 24 = .ok (.ireturn, 1) := by decide +kernel
theorem dX11_cheapest_0 : decode cX11_cheapest 0 = .ok (.aload_n 0, 1) := by decide +kernel
theorem dX11_cheapest_1 : decode cX11_cheapest 1 = .ok (.getfield 28, 3) := by decide +kernel
theorem dX11_cheapest_4 : decode cX11_cheapest 4 = .ok (.invokevirtual 170, 3) := by decide +kernel
theorem dX11_cheapest_7 : decode cX11_cheapest 7 = .ok (.ifCond .eq 14, 3) := by decide +kernel
theorem dX11_cheapest_10 : decode cX11_cheapest 10 = .ok (.aload_n 0, 1) := by decide +kernel
theorem dX11_cheapest_11 : decode cX11_cheapest 11 = .ok (.invokevirtual 243, 3) := by decide +kernel
theorem dX11_cheapest_14 : decode cX11_cheapest 14 = .ok (.iconst 2, 1) := by decide +kernel
theorem dX11_cheapest_15 : decode cX11_cheapest 15 = .ok (.invokevirtual 237, 3) := by decide +kernel
theorem dX11_cheapest_18 : decode cX11_cheapest 18 = .ok (.goto 5, 3) := by decide +kernel
theorem dX11_cheapest_21 : decode cX11_cheapest 21 = .ok (.bipush (-2), 2) := by decide +kernel
theorem dX11_cheapest_23 : decode cX11_cheapest 23 = .ok (.ireturn, 1) := by decide +kernel
theorem dX11_whom_0 : decode cX11_whom 0 = .ok (.aload_n 0, 1) := by decide +kernel
theorem dX11_whom_1 : decode cX11_whom 1 = .ok (.getfield 28, 3) := by decide +kernel
theorem dX11_whom_4 : decode cX11_whom 4 = .ok (.invokevirtual 170, 3) := by decide +kernel
theorem dX11_whom_7 : decode cX11_whom 7 = .ok (.ifCond .eq 14, 3) := by decide +kernel
theorem dX11_whom_10 : decode cX11_whom 10 = .ok (.aload_n 0, 1) := by decide +kernel
theorem dX11_whom_11 : decode cX11_whom 11 = .ok (.invokevirtual 243, 3) := by decide +kernel
theorem dX11_whom_14 : decode cX11_whom 14 = .ok (.iconst 2, 1) := by decide +kernel
theorem dX11_whom_15 : decode cX11_whom 15 = .ok (.invokevirtual 249, 3) := by decide +kernel
theorem dX11_whom_18 : decode cX11_whom 18 = .ok (.goto 5, 3) := by decide +kernel
theorem dX11_whom_21 : decode cX11_whom 21 = .ok (.bipush (-2), 2) := by decide +kernel
theorem dX11_whom_23 : decode cX11_whom 23 = .ok (.ireturn, 1) := by decide +kernel
theorem dX11_ways_0 : decode cX11_ways 0 = .ok (.aload_n 0, 1) := by decide +kernel
theorem dX11_ways_1 : decode cX11_ways 1 = .ok (.getfield 28, 3) := by decide +kernel
theorem dX11_ways_4 : decode cX11_ways 4 = .ok (.invokevirtual 170, 3) := by decide +kernel
theorem dX11_ways_7 : decode cX11_ways 7 = .ok (.ifCond .eq 13, 3) := by decide +kernel
theorem dX11_ways_10 : decode cX11_ways 10 = .ok (.aload_n 0, 1) := by decide +kernel
theorem dX11_ways_11 : decode cX11_ways 11 = .ok (.invokevirtual 243, 3) := by decide +kernel
theorem dX11_ways_14 : decode cX11_ways 14 = .ok (.getfield 252, 3) := by decide +kernel
theorem dX11_ways_17 : decode cX11_ways 17 = .ok (.goto 5, 3) := by decide +kernel
theorem dX11_ways_20 : decode cX11_ways 20 = .ok (.bipush (-2), 2) := by decide +kernel
theorem dX11_ways_22 : decode cX11_ways 22 = .ok (.ireturn, 1) := by decide +kernel
theorem dX11_always_0 : decode cX11_always 0 = .ok (.aload_n 0, 1) := by decide +kernel
theorem dX11_always_1 : decode cX11_always 1 = .ok (.getfield 28, 3) := by decide +kernel
theorem dX11_always_4 : decode cX11_always 4 = .ok (.invokevirtual 170, 3) := by decide +kernel
theorem dX11_always_7 : decode cX11_always 7 = .ok (.ifCond .eq 10, 3) := by decide +kernel
theorem dX11_always_10 : decode cX11_always 10 = .ok (.iload_n 1, 1) := by decide +kernel
theorem dX11_always_11 : decode cX11_always 11 = .ok (.invokestatic 141, 3) := by decide +kernel
theorem dX11_always_14 : decode cX11_always 14 = .ok (.ifCond .ne 6, 3) := by decide +kernel
theorem dX11_always_17 : decode cX11_always 17 = .ok (.bipush (-2), 2) := by decide +kernel
theorem dX11_always_19 : decode cX11_always 19 = .ok (.ireturn, 1) := by decide +kernel
theorem dX11_always_20 : decode cX11_always 20 = .ok (.iload_n 1, 1) := by decide +kernel
theorem dX11_always_21 : decode cX11_always 21 = .ok (.ifCond .ne 13, 3) := by decide +kernel
theorem dX11_always_24 : decode cX11_always 24 = .ok (.aload_n 0, 1) := by decide +kernel
theorem dX11_always_25 : decode cX11_always 25 = .ok (.invokevirtual 243, 3) := by decide +kernel
theorem dX11_always_28 : decode cX11_always 28 = .ok (.getfield 255, 3) := by decide +kernel
theorem dX11_always_31 : decode cX11_always 31 = .ok (.goto 10, 3) := by decide +kernel
theorem dX11_always_34 : decode cX11_always 34 = .ok (.aload_n 0, 1) := by decide +kernel
theorem dX11_always_35 : decode cX11_always 35 = .ok (.invokevirtual 243, 3) := by decide +kernel
theorem dX11_always_38 : decode cX11_always 38 = .ok (.getfield 258, 3) := by decide +kernel
theorem dX11_always_41 : decode cX11_always 41 = .ok (.ireturn, 1) := by decide +kernel
theorem dX11_slack_0 : decode cX11_slack 0 = .ok (.aload_n 0, 1) := by decide +kernel
theorem dX11_slack_1 : decode cX11_slack 1 = .ok (.getfield 28, 3) := by decide +kernel
theorem dX11_slack_4 : decode cX11_slack 4 = .ok (.iload_n 1, 1) := by decide +kernel
theorem dX11_slack_5 : decode cX11_slack 5 = .ok (.invokevirtual 133, 3) := by decide +kernel
theorem dX11_slack_8 : decode cX11_slack 8 = .ok (.ifCond .eq 14, 3) := by decide +kernel
theorem dX11_slack_11 : decode cX11_slack 11 = .ok (.aload_n 0, 1) := by decide +kernel
theorem dX11_slack_12 : decode cX11_slack 12 = .ok (.invokevirtual 233, 3) := by decide +kernel
theorem dX11_slack_15 : decode cX11_slack 15 = .ok (.iload_n 1, 1) := by decide +kernel
theorem dX11_slack_16 : decode cX11_slack 16 = .ok (.invokevirtual 261, 3) := by decide +kernel
theorem dX11_slack_19 : decode cX11_slack 19 = .ok (.goto 5, 3) := by decide +kernel
theorem dX11_slack_22 : decode cX11_slack 22 = .ok (.bipush (-2), 2) := by decide +kernel
theorem dX11_slack_24 : decode cX11_slack 24 = .ok (.ireturn, 1) := by decide +kernel
theorem dX11_start_0 : decode cX11_start 0 = .ok (.aload_n 0, 1) := by decide +kernel
theorem dX11_start_1 : decode cX11_start 1 = .ok (.getfield 28, 3) := by decide +kernel
theorem dX11_start_4 : decode cX11_start 4 = .ok (.invokevirtual 170, 3) := by decide +kernel
theorem dX11_start_7 : decode cX11_start 7 = .ok (.ifCond .eq 10, 3) := by decide +kernel
theorem dX11_start_10 : decode cX11_start 10 = .ok (.iload_n 1, 1) := by decide +kernel
theorem dX11_start_11 : decode cX11_start 11 = .ok (.invokestatic 141, 3) := by decide +kernel
theorem dX11_start_14 : decode cX11_start 14 = .ok (.ifCond .ne 6, 3) := by decide +kernel
theorem dX11_start_17 : decode cX11_start 17 = .ok (.bipush (-2), 2) := by decide +kernel
theorem dX11_start_19 : decode cX11_start 19 = .ok (.ireturn, 1) := by decide +kernel
theorem dX11_start_20 : decode cX11_start 20 = .ok (.aload_n 0, 1) := by decide +kernel
theorem dX11_start_21 : decode cX11_start 21 = .ok (.getfield 264, 3) := by decide +kernel
theorem dX11_start_24 : decode cX11_start 24 = .ok (.ifCond .ne 7, 3) := by decide +kernel
theorem dX11_start_27 : decode cX11_start 27 = .ok (.aload_n 0, 1) := by decide +kernel
theorem dX11_start_28 : decode cX11_start 28 = .ok (.invokevirtual 268, 3) := by decide +kernel
theorem dX11_start_31 : decode cX11_start 31 = .ok (.iload_n 1, 1) := by decide +kernel
theorem dX11_start_32 : decode cX11_start 32 = .ok (.ifCond .ne 10, 3) := by decide +kernel
theorem dX11_start_35 : decode cX11_start 35 = .ok (.aload_n 0, 1) := by decide +kernel
theorem dX11_start_36 : decode cX11_start 36 = .ok (.getfield 271, 3) := by decide +kernel
theorem dX11_start_39 : decode cX11_start 39 = .ok (.goto 7, 3) := by decide +kernel
theorem dX11_start_42 : decode cX11_start 42 = .ok (.aload_n 0, 1) := by decide +kernel
theorem dX11_start_43 : decode cX11_start 43 = .ok (.getfield 274, 3) := by decide +kernel
theorem dX11_start_46 : decode cX11_start 46 = .ok (.ireturn, 1) := by decide +kernel
theorem dX11_forged_0 : decode cX11_forged 0 = .ok (.aload_n 0, 1) := by decide +kernel
theorem dX11_forged_1 : decode cX11_forged 1 = .ok (.getfield 28, 3) := by decide +kernel
theorem dX11_forged_4 : decode cX11_forged 4 = .ok (.iload_n 1, 1) := by decide +kernel
theorem dX11_forged_5 : decode cX11_forged 5 = .ok (.invokevirtual 133, 3) := by decide +kernel
theorem dX11_forged_8 : decode cX11_forged 8 = .ok (.ifCond .ne 7, 3) := by decide +kernel
theorem dX11_forged_11 : decode cX11_forged 11 = .ok (.sipush (-2000), 3) := by decide +kernel
theorem dX11_forged_14 : decode cX11_forged 14 = .ok (.ireturn, 1) := by decide +kernel
theorem dX11_forged_15 : decode cX11_forged 15 = .ok (.aload_n 0, 1) := by decide +kernel
theorem dX11_forged_16 : decode cX11_forged 16 = .ok (.iload_n 1, 1) := by decide +kernel
theorem dX11_forged_17 : decode cX11_forged 17 = .ok (.aload_n 0, 1) := by decide +kernel
theorem dX11_forged_18 : decode cX11_forged 18 = .ok (.invokevirtual 233, 3) := by decide +kernel
theorem dX11_forged_21 : decode cX11_forged 21 = .ok (.iconst 0, 1) := by decide +kernel
theorem dX11_forged_22 : decode cX11_forged 22 = .ok (.invokevirtual 237, 3) := by decide +kernel
theorem dX11_forged_25 : decode cX11_forged 25 = .ok (.invokevirtual 277, 3) := by decide +kernel
theorem dX11_forged_28 : decode cX11_forged 28 = .ok (.ireturn, 1) := by decide +kernel
theorem dX11_fake_0 : decode cX11_fake 0 = .ok (.aload_n 0, 1) := by decide +kernel
theorem dX11_fake_1 : decode cX11_fake 1 = .ok (.getfield 28, 3) := by decide +kernel
theorem dX11_fake_4 : decode cX11_fake 4 = .ok (.invokevirtual 170, 3) := by decide +kernel
theorem dX11_fake_7 : decode cX11_fake 7 = .ok (.ifCond .ne 6, 3) := by decide +kernel
theorem dX11_fake_10 : decode cX11_fake 10 = .ok (.bipush (-2), 2) := by decide +kernel
theorem dX11_fake_12 : decode cX11_fake 12 = .ok (.ireturn, 1) := by decide +kernel
theorem dX11_fake_13 : decode cX11_fake 13 = .ok (.aload_n 0, 1) := by decide +kernel
theorem dX11_fake_14 : decode cX11_fake 14 = .ok (.invokevirtual 233, 3) := by decide +kernel
theorem dX11_fake_17 : decode cX11_fake 17 = .ok (.iconst 0, 1) := by decide +kernel
theorem dX11_fake_18 : decode cX11_fake 18 = .ok (.invokevirtual 237, 3) := by decide +kernel
theorem dX11_fake_21 : decode cX11_fake 21 = .ok (.istore_n 1, 1) := by decide +kernel
theorem dX11_fake_22 : decode cX11_fake 22 = .ok (.iconst 0, 1) := by decide +kernel
theorem dX11_fake_23 : decode cX11_fake 23 = .ok (.istore_n 2, 1) := by decide +kernel
theorem dX11_fake_24 : decode cX11_fake 24 = .ok (.iconst (-1), 1) := by decide +kernel
theorem dX11_fake_25 : decode cX11_fake 25 = .ok (.istore_n 3, 1) := by decide +kernel
theorem dX11_fake_26 : decode cX11_fake 26 = .ok (.iconst 0, 1) := by decide +kernel
theorem dX11_fake_27 : decode cX11_fake 27 = .ok (.istore 4, 2) := by decide +kernel
theorem dX11_fake_29 : decode cX11_fake 29 = .ok (.iload 4, 2) := by decide +kernel
theorem dX11_fake_31 : decode cX11_fake 31 = .ok (.aload_n 0, 1) := by decide +kernel
theorem dX11_fake_32 : decode cX11_fake 32 = .ok (.getfield 28, 3) := by decide +kernel
theorem dX11_fake_35 : decode cX11_fake 35 = .ok (.getfield 144, 3) := by decide +kernel
theorem dX11_fake_38 : decode cX11_fake 38 = .ok (.if_icmp .ge 30, 3) := by decide +kernel
theorem dX11_fake_41 : decode cX11_fake 41 = .ok (.aload_n 0, 1) := by decide +kernel
theorem dX11_fake_42 : decode cX11_fake 42 = .ok (.iload 4, 2) := by decide +kernel
theorem dX11_fake_44 : decode cX11_fake 44 = .ok (.iload_n 1, 1) := by decide +kernel
theorem dX11_fake_45 : decode cX11_fake 45 = .ok (.invokevirtual 277, 3) := by decide +kernel
theorem dX11_fake_48 : decode cX11_fake 48 = .ok (.istore 5, 2) := by decide +kernel
theorem dX11_fake_50 : decode cX11_fake 50 = .ok (.iload 5, 2) := by decide +kernel
theorem dX11_fake_52 : decode cX11_fake 52 = .ok (.iload_n 2, 1) := by decide +kernel
theorem dX11_fake_53 : decode cX11_fake 53 = .ok (.if_icmp .le 9, 3) := by decide +kernel
theorem dX11_fake_56 : decode cX11_fake 56 = .ok (.iload 5, 2) := by decide +kernel
theorem dX11_fake_58 : decode cX11_fake 58 = .ok (.istore_n 2, 1) := by decide +kernel
theorem dX11_fake_59 : decode cX11_fake 59 = .ok (.iload 4, 2) := by decide +kernel
theorem dX11_fake_61 : decode cX11_fake 61 = .ok (.istore_n 3, 1) := by decide +kernel
theorem dX11_fake_62 : decode cX11_fake 62 = .ok (.iinc 4 1, 3) := by decide +kernel
theorem dX11_fake_65 : decode cX11_fake 65 = .ok (.goto (-36), 3) := by decide +kernel
theorem dX11_fake_68 : decode cX11_fake 68 = .ok (.iload_n 3, 1) := by decide +kernel
theorem dX11_fake_69 : decode cX11_fake 69 = .ok (.ireturn, 1) := by decide +kernel
theorem dX11_possible_0 : decode cX11_possible 0 = .ok (.aload_n 0, 1) := by decide +kernel
theorem dX11_possible_1 : decode cX11_possible 1 = .ok (.getfield 28, 3) := by decide +kernel
theorem dX11_possible_4 : decode cX11_possible 4 = .ok (.iload_n 1, 1) := by decide +kernel
theorem dX11_possible_5 : decode cX11_possible 5 = .ok (.invokevirtual 280, 3) := by decide +kernel
theorem dX11_possible_8 : decode cX11_possible 8 = .ok (.ifCond .ne 6, 3) := by decide +kernel
theorem dX11_possible_11 : decode cX11_possible 11 = .ok (.bipush (-2), 2) := by decide +kernel
theorem dX11_possible_13 : decode cX11_possible 13 = .ok (.ireturn, 1) := by decide +kernel
theorem dX11_possible_14 : decode cX11_possible 14 = .ok (.aload_n 0, 1) := by decide +kernel
theorem dX11_possible_15 : decode cX11_possible 15 = .ok (.invokevirtual 283, 3) := by decide +kernel
theorem dX11_possible_18 : decode cX11_possible 18 = .ok (.iload_n 1, 1) := by decide +kernel
theorem dX11_possible_19 : decode cX11_possible 19 = .ok (.invokevirtual 287, 3) := by decide +kernel
theorem dX11_possible_22 : decode cX11_possible 22 = .ok (.lconst 0, 1) := by decide +kernel
theorem dX11_possible_23 : decode cX11_possible 23 = .ok (.lcmp, 1) := by decide +kernel
theorem dX11_possible_24 : decode cX11_possible 24 = .ok (.ifCond .le 7, 3) := by decide +kernel
theorem dX11_possible_27 : decode cX11_possible 27 = .ok (.iconst 1, 1) := by decide +kernel
theorem dX11_possible_28 : decode cX11_possible 28 = .ok (.goto 4, 3) := by decide +kernel
theorem dX11_possible_31 : decode cX11_possible 31 = .ok (.iconst 0, 1) := by decide +kernel
theorem dX11_possible_32 : decode cX11_possible 32 = .ok (.ireturn, 1) := by decide +kernel
theorem dX11_sets_0 : decode cX11_sets 0 = .ok (.aload_n 0, 1) := by decide +kernel
theorem dX11_sets_1 : decode cX11_sets 1 = .ok (.getfield 28, 3) := by decide +kernel
theorem dX11_sets_4 : decode cX11_sets 4 = .ok (.invokevirtual 170, 3) := by decide +kernel
theorem dX11_sets_7 : decode cX11_sets 7 = .ok (.ifCond .eq 13, 3) := by decide +kernel
theorem dX11_sets_10 : decode cX11_sets 10 = .ok (.aload_n 0, 1) := by decide +kernel
theorem dX11_sets_11 : decode cX11_sets 11 = .ok (.invokevirtual 283, 3) := by decide +kernel
theorem dX11_sets_14 : decode cX11_sets 14 = .ok (.invokevirtual 291, 3) := by decide +kernel
theorem dX11_sets_17 : decode cX11_sets 17 = .ok (.goto 5, 3) := by decide +kernel
theorem dX11_sets_20 : decode cX11_sets 20 = .ok (.bipush (-2), 2) := by decide +kernel
theorem dX11_sets_22 : decode cX11_sets 22 = .ok (.ireturn, 1) := by decide +kernel
theorem dX11_never_0 : decode cX11_never 0 = .ok (.aload_n 0, 1) := by decide +kernel
theorem dX11_never_1 : decode cX11_never 1 = .ok (.getfield 28, 3) := by decide +kernel
theorem dX11_never_4 : decode cX11_never 4 = .ok (.invokevirtual 170, 3) := by decide +kernel
theorem dX11_never_7 : decode cX11_never 7 = .ok (.ifCond .eq 13, 3) := by decide +kernel
theorem dX11_never_10 : decode cX11_never 10 = .ok (.aload_n 0, 1) := by decide +kernel
theorem dX11_never_11 : decode cX11_never 11 = .ok (.invokevirtual 283, 3) := by decide +kernel
theorem dX11_never_14 : decode cX11_never 14 = .ok (.invokevirtual 294, 3) := by decide +kernel
theorem dX11_never_17 : decode cX11_never 17 = .ok (.goto 5, 3) := by decide +kernel
theorem dX11_never_20 : decode cX11_never 20 = .ok (.bipush (-2), 2) := by decide +kernel
theorem dX11_never_22 : decode cX11_never 22 = .ok (.ireturn, 1) := by decide +kernel
theorem dX11_ring_0 : decode cX11_ring 0 = .ok (.aload_n 0, 1) := by decide +kernel
theorem dX11_ring_1 : decode cX11_ring 1 = .ok (.getfield 28, 3) := by decide +kernel
theorem dX11_ring_4 : decode cX11_ring 4 = .ok (.invokevirtual 170, 3) := by decide +kernel
theorem dX11_ring_7 : decode cX11_ring 7 = .ok (.ifCond .eq 13, 3) := by decide +kernel
theorem dX11_ring_10 : decode cX11_ring 10 = .ok (.aload_n 0, 1) := by decide +kernel
theorem dX11_ring_11 : decode cX11_ring 11 = .ok (.invokevirtual 283, 3) := by decide +kernel
theorem dX11_ring_14 : decode cX11_ring 14 = .ok (.invokevirtual 297, 3) := by decide +kernel
theorem dX11_ring_17 : decode cX11_ring 17 = .ok (.goto 5, 3) := by decide +kernel
theorem dX11_ring_20 : decode cX11_ring 20 = .ok (.bipush (-2), 2) := by decide +kernel
theorem dX11_ring_22 : decode cX11_ring 22 = .ok (.ireturn, 1) := by decide +kernel
theorem dX11_depth_0 : decode cX11_depth 0 = .ok (.aload_n 0, 1) := by decide +kernel
theorem dX11_depth_1 : decode cX11_depth 1 = .ok (.getfield 28, 3) := by decide +kernel
theorem dX11_depth_4 : decode cX11_depth 4 = .ok (.iload_n 1, 1) := by decide +kernel
theorem dX11_depth_5 : decode cX11_depth 5 = .ok (.invokevirtual 133, 3) := by decide +kernel
theorem dX11_depth_8 : decode cX11_depth 8 = .ok (.ifCond .eq 14, 3) := by decide +kernel
theorem dX11_depth_11 : decode cX11_depth 11 = .ok (.aload_n 0, 1) := by decide +kernel
theorem dX11_depth_12 : decode cX11_depth 12 = .ok (.invokevirtual 283, 3) := by decide +kernel
theorem dX11_depth_15 : decode cX11_depth 15 = .ok (.iload_n 1, 1) := by decide +kernel
theorem dX11_depth_16 : decode cX11_depth 16 = .ok (.invokevirtual 300, 3) := by decide +kernel
theorem dX11_depth_19 : decode cX11_depth 19 = .ok (.goto 5, 3) := by decide +kernel
theorem dX11_depth_22 : decode cX11_depth 22 = .ok (.bipush (-2), 2) := by decide +kernel
theorem dX11_depth_24 : decode cX11_depth 24 = .ok (.ireturn, 1) := by decide +kernel
theorem dX11_orders_0 : decode cX11_orders 0 = .ok (.aload_n 0, 1) := by decide +kernel
theorem dX11_orders_1 : decode cX11_orders 1 = .ok (.getfield 28, 3) := by decide +kernel
theorem dX11_orders_4 : decode cX11_orders 4 = .ok (.iload_n 1, 1) := by decide +kernel
theorem dX11_orders_5 : decode cX11_orders 5 = .ok (.invokevirtual 280, 3) := by decide +kernel
theorem dX11_orders_8 : decode cX11_orders 8 = .ok (.ifCond .eq 14, 3) := by decide +kernel
theorem dX11_orders_11 : decode cX11_orders 11 = .ok (.aload_n 0, 1) := by decide +kernel
theorem dX11_orders_12 : decode cX11_orders 12 = .ok (.invokevirtual 283, 3) := by decide +kernel
theorem dX11_orders_15 : decode cX11_orders 15 = .ok (.iload_n 1, 1) := by decide +kernel
theorem dX11_orders_16 : decode cX11_orders 16 = .ok (.invokevirtual 287, 3) := by decide +kernel
theorem dX11_orders_19 : decode cX11_orders 19 = .ok (.goto 6, 3) := by decide +kernel
theorem dX11_orders_22 : decode cX11_orders 22 = .ok (.ldc2_w 303, 3) := by decide +kernel
theorem dX11_orders_25 : decode cX11_orders 25 = .ok (.lreturn, 1) := by decide +kernel
theorem dX11_loose_0 : decode cX11_loose 0 = .ok (.aload_n 0, 1) := by decide +kernel
theorem dX11_loose_1 : decode cX11_loose 1 = .ok (.getfield 28, 3) := by decide +kernel
theorem dX11_loose_4 : decode cX11_loose 4 = .ok (.invokevirtual 170, 3) := by decide +kernel
theorem dX11_loose_7 : decode cX11_loose 7 = .ok (.ifCond .ne 6, 3) := by decide +kernel
theorem dX11_loose_10 : decode cX11_loose 10 = .ok (.bipush (-2), 2) := by decide +kernel
theorem dX11_loose_12 : decode cX11_loose 12 = .ok (.ireturn, 1) := by decide +kernel
theorem dX11_loose_13 : decode cX11_loose 13 = .ok (.aload_n 0, 1) := by decide +kernel
theorem dX11_loose_14 : decode cX11_loose 14 = .ok (.getfield 76, 3) := by decide +kernel
theorem dX11_loose_17 : decode cX11_loose 17 = .ok (.aload_n 0, 1) := by decide +kernel
theorem dX11_loose_18 : decode cX11_loose 18 = .ok (.getfield 28, 3) := by decide +kernel
theorem dX11_loose_21 : decode cX11_loose 21 = .ok (.invokevirtual 305, 3) := by decide +kernel
theorem dX11_loose_24 : decode cX11_loose 24 = .ok (.aload_n 0, 1) := by decide +kernel
theorem dX11_loose_25 : decode cX11_loose 25 = .ok (.getfield 76, 3) := by decide +kernel
theorem dX11_loose_28 : decode cX11_loose 28 = .ok (.invokevirtual 308, 3) := by decide +kernel
theorem dX11_loose_31 : decode cX11_loose 31 = .ok (.ireturn, 1) := by decide +kernel
theorem dX11_loosely_0 : decode cX11_loosely 0 = .ok (.aload_n 0, 1) := by decide +kernel
theorem dX11_loosely_1 : decode cX11_loosely 1 = .ok (.getfield 28, 3) := by decide +kernel
theorem dX11_loosely_4 : decode cX11_loosely 4 = .ok (.invokevirtual 170, 3) := by decide +kernel
theorem dX11_loosely_7 : decode cX11_loosely 7 = .ok (.ifCond .ne 6, 3) := by decide +kernel
theorem dX11_loosely_10 : decode cX11_loosely 10 = .ok (.bipush (-2), 2) := by decide +kernel
theorem dX11_loosely_12 : decode cX11_loosely 12 = .ok (.ireturn, 1) := by decide +kernel
theorem dX11_loosely_13 : decode cX11_loosely 13 = .ok (.aload_n 0, 1) := by decide +kernel
theorem dX11_loosely_14 : decode cX11_loosely 14 = .ok (.getfield 76, 3) := by decide +kernel
theorem dX11_loosely_17 : decode cX11_loosely 17 = .ok (.aload_n 0, 1) := by decide +kernel
theorem dX11_loosely_18 : decode cX11_loosely 18 = .ok (.getfield 28, 3) := by decide +kernel
theorem dX11_loosely_21 : decode cX11_loosely 21 = .ok (.invokevirtual 305, 3) := by decide +kernel
theorem dX11_loosely_24 : decode cX11_loosely 24 = .ok (.aload_n 0, 1) := by decide +kernel
theorem dX11_loosely_25 : decode cX11_loosely 25 = .ok (.getfield 76, 3) := by decide +kernel
theorem dX11_loosely_28 : decode cX11_loosely 28 = .ok (.iload_n 1, 1) := by decide +kernel
theorem dX11_loosely_29 : decode cX11_loosely 29 = .ok (.invokevirtual 311, 3) := by decide +kernel
theorem dX11_loosely_32 : decode cX11_loosely 32 = .ok (.ireturn, 1) := by decide +kernel
theorem dX11_parted_0 : decode cX11_parted 0 = .ok (.aload_n 0, 1) := by decide +kernel
theorem dX11_parted_1 : decode cX11_parted 1 = .ok (.getfield 28, 3) := by decide +kernel
theorem dX11_parted_4 : decode cX11_parted 4 = .ok (.invokevirtual 170, 3) := by decide +kernel
theorem dX11_parted_7 : decode cX11_parted 7 = .ok (.ifCond .eq 20, 3) := by decide +kernel
theorem dX11_parted_10 : decode cX11_parted 10 = .ok (.aload_n 0, 1) := by decide +kernel
theorem dX11_parted_11 : decode cX11_parted 11 = .ok (.invokevirtual 283, 3) := by decide +kernel
theorem dX11_parted_14 : decode cX11_parted 14 = .ok (.aload_n 0, 1) := by decide +kernel
theorem dX11_parted_15 : decode cX11_parted 15 = .ok (.getfield 28, 3) := by decide +kernel
theorem dX11_parted_18 : decode cX11_parted 18 = .ok (.getfield 174, 3) := by decide +kernel
theorem dX11_parted_21 : decode cX11_parted 21 = .ok (.invokevirtual 313, 3) := by decide +kernel
theorem dX11_parted_24 : decode cX11_parted 24 = .ok (.goto 5, 3) := by decide +kernel
theorem dX11_parted_27 : decode cX11_parted 27 = .ok (.bipush (-2), 2) := by decide +kernel
theorem dX11_parted_29 : decode cX11_parted 29 = .ok (.ireturn, 1) := by decide +kernel
theorem dX11_judge_0 : decode cX11_judge 0 = .ok (.aload_n 0, 1) := by decide +kernel
theorem dX11_judge_1 : decode cX11_judge 1 = .ok (.iload_n 1, 1) := by decide +kernel
theorem dX11_judge_2 : decode cX11_judge 2 = .ok (.invokevirtual 316, 3) := by decide +kernel
theorem dX11_judge_5 : decode cX11_judge 5 = .ok (.istore_n 2, 1) := by decide +kernel
theorem dX11_judge_6 : decode cX11_judge 6 = .ok (.iload_n 2, 1) := by decide +kernel
theorem dX11_judge_7 : decode cX11_judge 7 = .ok (.ifCond .eq 5, 3) := by decide +kernel
theorem dX11_judge_10 : decode cX11_judge 10 = .ok (.iload_n 2, 1) := by decide +kernel
theorem dX11_judge_11 : decode cX11_judge 11 = .ok (.ireturn, 1) := by decide +kernel
theorem dX11_judge_12 : decode cX11_judge 12 = .ok (.iconst 0, 1) := by decide +kernel
theorem dX11_judge_13 : decode cX11_judge 13 = .ok (.istore_n 3, 1) := by decide +kernel
theorem dX11_judge_14 : decode cX11_judge 14 = .ok (.iconst 0, 1) := by decide +kernel
theorem dX11_judge_15 : decode cX11_judge 15 = .ok (.istore 4, 2) := by decide +kernel
theorem dX11_judge_17 : decode cX11_judge 17 = .ok (.iload 4, 2) := by decide +kernel
theorem dX11_judge_19 : decode cX11_judge 19 = .ok (.aload_n 0, 1) := by decide +kernel
theorem dX11_judge_20 : decode cX11_judge 20 = .ok (.getfield 83, 3) := by decide +kernel
theorem dX11_judge_23 : decode cX11_judge 23 = .ok (.iload_n 1, 1) := by decide +kernel
theorem dX11_judge_24 : decode cX11_judge 24 = .ok (.invokevirtual 319, 3) := by decide +kernel
theorem dX11_judge_27 : decode cX11_judge 27 = .ok (.if_icmp .ge 44, 3) := by decide +kernel
theorem dX11_judge_30 : decode cX11_judge 30 = .ok (.aload_n 0, 1) := by decide +kernel
theorem dX11_judge_31 : decode cX11_judge 31 = .ok (.getfield 83, 3) := by decide +kernel
theorem dX11_judge_34 : decode cX11_judge 34 = .ok (.iload_n 1, 1) := by decide +kernel
theorem dX11_judge_35 : decode cX11_judge 35 = .ok (.iload 4, 2) := by decide +kernel
theorem dX11_judge_37 : decode cX11_judge 37 = .ok (.invokevirtual 322, 3) := by decide +kernel
theorem dX11_judge_40 : decode cX11_judge 40 = .ok (.istore 5, 2) := by decide +kernel
theorem dX11_judge_42 : decode cX11_judge 42 = .ok (.aload_n 0, 1) := by decide +kernel
theorem dX11_judge_43 : decode cX11_judge 43 = .ok (.getfield 28, 3) := by decide +kernel
theorem dX11_judge_46 : decode cX11_judge 46 = .ok (.iload 5, 2) := by decide +kernel
theorem dX11_judge_48 : decode cX11_judge 48 = .ok (.iload_n 3, 1) := by decide +kernel
theorem dX11_judge_49 : decode cX11_judge 49 = .ok (.invokevirtual 323, 3) := by decide +kernel
theorem dX11_judge_52 : decode cX11_judge 52 = .ok (.ifCond .ne 6, 3) := by decide +kernel
theorem dX11_judge_55 : decode cX11_judge 55 = .ok (.iload 4, 2) := by decide +kernel
theorem dX11_judge_57 : decode cX11_judge 57 = .ok (.ireturn, 1) := by decide +kernel
theorem dX11_judge_58 : decode cX11_judge 58 = .ok (.iload_n 3, 1) := by decide +kernel
theorem dX11_judge_59 : decode cX11_judge 59 = .ok (.iconst 1, 1) := by decide +kernel
theorem dX11_judge_60 : decode cX11_judge 60 = .ok (.iload 5, 2) := by decide +kernel
theorem dX11_judge_62 : decode cX11_judge 62 = .ok (.ishl, 1) := by decide +kernel
theorem dX11_judge_63 : decode cX11_judge 63 = .ok (.ior, 1) := by decide +kernel
theorem dX11_judge_64 : decode cX11_judge 64 = .ok (.istore_n 3, 1) := by decide +kernel
theorem dX11_judge_65 : decode cX11_judge 65 = .ok (.iinc 4 1, 3) := by decide +kernel
theorem dX11_judge_68 : decode cX11_judge 68 = .ok (.goto (-51), 3) := by decide +kernel
theorem dX11_judge_71 : decode cX11_judge 71 = .ok (.aload_n 0, 1) := by decide +kernel
theorem dX11_judge_72 : decode cX11_judge 72 = .ok (.getfield 83, 3) := by decide +kernel
theorem dX11_judge_75 : decode cX11_judge 75 = .ok (.iload_n 1, 1) := by decide +kernel
theorem dX11_judge_76 : decode cX11_judge 76 = .ok (.invokevirtual 319, 3) := by decide +kernel
theorem dX11_judge_79 : decode cX11_judge 79 = .ok (.ireturn, 1) := by decide +kernel
theorem dX11_bribed_0 : decode cX11_bribed 0 = .ok (.aload_n 0, 1) := by decide +kernel
theorem dX11_bribed_1 : decode cX11_bribed 1 = .ok (.iload_n 1, 1) := by decide +kernel
theorem dX11_bribed_2 : decode cX11_bribed 2 = .ok (.invokevirtual 316, 3) := by decide +kernel
theorem dX11_bribed_5 : decode cX11_bribed 5 = .ok (.istore_n 2, 1) := by decide +kernel
theorem dX11_bribed_6 : decode cX11_bribed 6 = .ok (.iload_n 2, 1) := by decide +kernel
theorem dX11_bribed_7 : decode cX11_bribed 7 = .ok (.ifCond .eq 5, 3) := by decide +kernel
theorem dX11_bribed_10 : decode cX11_bribed 10 = .ok (.iload_n 2, 1) := by decide +kernel
theorem dX11_bribed_11 : decode cX11_bribed 11 = .ok (.ireturn, 1) := by decide +kernel
theorem dX11_bribed_12 : decode cX11_bribed 12 = .ok (.iconst 0, 1) := by decide +kernel
theorem dX11_bribed_13 : decode cX11_bribed 13 = .ok (.istore_n 3, 1) := by decide +kernel
theorem dX11_bribed_14 : decode cX11_bribed 14 = .ok (.iconst 0, 1) := by decide +kernel
theorem dX11_bribed_15 : decode cX11_bribed 15 = .ok (.istore 4, 2) := by decide +kernel
theorem dX11_bribed_17 : decode cX11_bribed 17 = .ok (.iconst 0, 1) := by decide +kernel
theorem dX11_bribed_18 : decode cX11_bribed 18 = .ok (.istore 5, 2) := by decide +kernel
theorem dX11_bribed_20 : decode cX11_bribed 20 = .ok (.iload 5, 2) := by decide +kernel
theorem dX11_bribed_22 : decode cX11_bribed 22 = .ok (.aload_n 0, 1) := by decide +kernel
theorem dX11_bribed_23 : decode cX11_bribed 23 = .ok (.getfield 83, 3) := by decide +kernel
theorem dX11_bribed_26 : decode cX11_bribed 26 = .ok (.iload_n 1, 1) := by decide +kernel
theorem dX11_bribed_27 : decode cX11_bribed 27 = .ok (.invokevirtual 319, 3) := by decide +kernel
theorem dX11_bribed_30 : decode cX11_bribed 30 = .ok (.if_icmp .ge 50, 3) := by decide +kernel
theorem dX11_bribed_33 : decode cX11_bribed 33 = .ok (.aload_n 0, 1) := by decide +kernel
theorem dX11_bribed_34 : decode cX11_bribed 34 = .ok (.getfield 83, 3) := by decide +kernel
theorem dX11_bribed_37 : decode cX11_bribed 37 = .ok (.iload_n 1, 1) := by decide +kernel
theorem dX11_bribed_38 : decode cX11_bribed 38 = .ok (.iload 5, 2) := by decide +kernel
theorem dX11_bribed_40 : decode cX11_bribed 40 = .ok (.invokevirtual 322, 3) := by decide +kernel
theorem dX11_bribed_43 : decode cX11_bribed 43 = .ok (.istore 6, 2) := by decide +kernel
theorem dX11_bribed_45 : decode cX11_bribed 45 = .ok (.aload_n 0, 1) := by decide +kernel
theorem dX11_bribed_46 : decode cX11_bribed 46 = .ok (.getfield 28, 3) := by decide +kernel
theorem dX11_bribed_49 : decode cX11_bribed 49 = .ok (.iload 6, 2) := by decide +kernel
theorem dX11_bribed_51 : decode cX11_bribed 51 = .ok (.iload_n 3, 1) := by decide +kernel
theorem dX11_bribed_52 : decode cX11_bribed 52 = .ok (.invokevirtual 323, 3) := by decide +kernel
theorem dX11_bribed_55 : decode cX11_bribed 55 = .ok (.ifCond .ne 12, 3) := by decide +kernel
theorem dX11_bribed_58 : decode cX11_bribed 58 = .ok (.iload 4, 2) := by decide +kernel
theorem dX11_bribed_60 : decode cX11_bribed 60 = .ok (.iconst 1, 1) := by decide +kernel
theorem dX11_bribed_61 : decode cX11_bribed 61 = .ok (.iload 6, 2) := by decide +kernel
theorem dX11_bribed_63 : decode cX11_bribed 63 = .ok (.ishl, 1) := by decide +kernel
theorem dX11_bribed_64 : decode cX11_bribed 64 = .ok (.ior, 1) := by decide +kernel
theorem dX11_bribed_65 : decode cX11_bribed 65 = .ok (.istore 4, 2) := by decide +kernel
theorem dX11_bribed_67 : decode cX11_bribed 67 = .ok (.iload_n 3, 1) := by decide +kernel
theorem dX11_bribed_68 : decode cX11_bribed 68 = .ok (.iconst 1, 1) := by decide +kernel
theorem dX11_bribed_69 : decode cX11_bribed 69 = .ok (.iload 6, 2) := by decide +kernel
theorem dX11_bribed_71 : decode cX11_bribed 71 = .ok (.ishl, 1) := by decide +kernel
theorem dX11_bribed_72 : decode cX11_bribed 72 = .ok (.ior, 1) := by decide +kernel
theorem dX11_bribed_73 : decode cX11_bribed 73 = .ok (.istore_n 3, 1) := by decide +kernel
theorem dX11_bribed_74 : decode cX11_bribed 74 = .ok (.iinc 5 1, 3) := by decide +kernel
theorem dX11_bribed_77 : decode cX11_bribed 77 = .ok (.goto (-57), 3) := by decide +kernel
theorem dX11_bribed_80 : decode cX11_bribed 80 = .ok (.iload 4, 2) := by decide +kernel
theorem dX11_bribed_82 : decode cX11_bribed 82 = .ok (.ireturn, 1) := by decide +kernel
theorem dX11_run_0 : decode cX11_run 0 = .ok (.aload_n 0, 1) := by decide +kernel
theorem dX11_run_1 : decode cX11_run 1 = .ok (.iload_n 1, 1) := by decide +kernel
theorem dX11_run_2 : decode cX11_run 2 = .ok (.invokevirtual 316, 3) := by decide +kernel
theorem dX11_run_5 : decode cX11_run 5 = .ok (.istore_n 2, 1) := by decide +kernel
theorem dX11_run_6 : decode cX11_run 6 = .ok (.iload_n 2, 1) := by decide +kernel
theorem dX11_run_7 : decode cX11_run 7 = .ok (.ifCond .eq 5, 3) := by decide +kernel
theorem dX11_run_10 : decode cX11_run 10 = .ok (.iload_n 2, 1) := by decide +kernel
theorem dX11_run_11 : decode cX11_run 11 = .ok (.ireturn, 1) := by decide +kernel
theorem dX11_run_12 : decode cX11_run 12 = .ok (.aload_n 0, 1) := by decide +kernel
theorem dX11_run_13 : decode cX11_run 13 = .ok (.getfield 90, 3) := by decide +kernel
theorem dX11_run_16 : decode cX11_run 16 = .ok (.aload_n 0, 1) := by decide +kernel
theorem dX11_run_17 : decode cX11_run 17 = .ok (.getfield 83, 3) := by decide +kernel
theorem dX11_run_20 : decode cX11_run 20 = .ok (.iload_n 1, 1) := by decide +kernel
theorem dX11_run_21 : decode cX11_run 21 = .ok (.iconst 1, 1) := by decide +kernel
theorem dX11_run_22 : decode cX11_run 22 = .ok (.invokevirtual 326, 3) := by decide +kernel
theorem dX11_run_25 : decode cX11_run 25 = .ok (.aload_n 0, 1) := by decide +kernel
theorem dX11_run_26 : decode cX11_run 26 = .ok (.getfield 90, 3) := by decide +kernel
theorem dX11_run_29 : decode cX11_run 29 = .ok (.iconst 1, 1) := by decide +kernel
theorem dX11_run_30 : decode cX11_run 30 = .ok (.invokevirtual 330, 3) := by decide +kernel
theorem dX11_run_33 : decode cX11_run 33 = .ok (.ireturn, 1) := by decide +kernel
theorem dX11_queue_0 : decode cX11_queue 0 = .ok (.iload_n 2, 1) := by decide +kernel
theorem dX11_queue_1 : decode cX11_queue 1 = .ok (.iconst 1, 1) := by decide +kernel
theorem dX11_queue_2 : decode cX11_queue 2 = .ok (.if_icmp .lt 9, 3) := by decide +kernel
theorem dX11_queue_5 : decode cX11_queue 5 = .ok (.iload_n 2, 1) := by decide +kernel
theorem dX11_queue_6 : decode cX11_queue 6 = .ok (.bipush 9, 2) := by decide +kernel
theorem dX11_queue_8 : decode cX11_queue 8 = .ok (.if_icmp .le 6, 3) := by decide +kernel
theorem dX11_queue_11 : decode cX11_queue 11 = .ok (.bipush (-2), 2) := by decide +kernel
theorem dX11_queue_13 : decode cX11_queue 13 = .ok (.ireturn, 1) := by decide +kernel
theorem dX11_queue_14 : decode cX11_queue 14 = .ok (.aload_n 0, 1) := by decide +kernel
theorem dX11_queue_15 : decode cX11_queue 15 = .ok (.iload_n 1, 1) := by decide +kernel
theorem dX11_queue_16 : decode cX11_queue 16 = .ok (.invokevirtual 316, 3) := by decide +kernel
theorem dX11_queue_19 : decode cX11_queue 19 = .ok (.istore_n 3, 1) := by decide +kernel
theorem dX11_queue_20 : decode cX11_queue 20 = .ok (.iload_n 3, 1) := by decide +kernel
theorem dX11_queue_21 : decode cX11_queue 21 = .ok (.ifCond .eq 5, 3) := by decide +kernel
theorem dX11_queue_24 : decode cX11_queue 24 = .ok (.iload_n 3, 1) := by decide +kernel
theorem dX11_queue_25 : decode cX11_queue 25 = .ok (.ireturn, 1) := by decide +kernel
theorem dX11_queue_26 : decode cX11_queue 26 = .ok (.aload_n 0, 1) := by decide +kernel
theorem dX11_queue_27 : decode cX11_queue 27 = .ok (.getfield 90, 3) := by decide +kernel
theorem dX11_queue_30 : decode cX11_queue 30 = .ok (.aload_n 0, 1) := by decide +kernel
theorem dX11_queue_31 : decode cX11_queue 31 = .ok (.getfield 83, 3) := by decide +kernel
theorem dX11_queue_34 : decode cX11_queue 34 = .ok (.iload_n 1, 1) := by decide +kernel
theorem dX11_queue_35 : decode cX11_queue 35 = .ok (.iload_n 2, 1) := by decide +kernel
theorem dX11_queue_36 : decode cX11_queue 36 = .ok (.invokevirtual 326, 3) := by decide +kernel
theorem dX11_queue_39 : decode cX11_queue 39 = .ok (.aload_n 0, 1) := by decide +kernel
theorem dX11_queue_40 : decode cX11_queue 40 = .ok (.getfield 90, 3) := by decide +kernel
theorem dX11_queue_43 : decode cX11_queue 43 = .ok (.iload_n 2, 1) := by decide +kernel
theorem dX11_queue_44 : decode cX11_queue 44 = .ok (.invokevirtual 330, 3) := by decide +kernel
theorem dX11_queue_47 : decode cX11_queue 47 = .ok (.ireturn, 1) := by decide +kernel
theorem dX11_served_0 : decode cX11_served 0 = .ok (.iload_n 2, 1) := by decide +kernel
theorem dX11_served_1 : decode cX11_served 1 = .ok (.ifCond .lt 10, 3) := by decide +kernel
theorem dX11_served_4 : decode cX11_served 4 = .ok (.iload_n 2, 1) := by decide +kernel
theorem dX11_served_5 : decode cX11_served 5 = .ok (.sipush 400, 3) := by decide +kernel
theorem dX11_served_8 : decode cX11_served 8 = .ok (.if_icmp .le 6, 3) := by decide +kernel
theorem dX11_served_11 : decode cX11_served 11 = .ok (.bipush (-2), 2) := by decide +kernel
theorem dX11_served_13 : decode cX11_served 13 = .ok (.ireturn, 1) := by decide +kernel
theorem dX11_served_14 : decode cX11_served 14 = .ok (.aload_n 0, 1) := by decide +kernel
theorem dX11_served_15 : decode cX11_served 15 = .ok (.iload_n 1, 1) := by decide +kernel
theorem dX11_served_16 : decode cX11_served 16 = .ok (.invokevirtual 316, 3) := by decide +kernel
theorem dX11_served_19 : decode cX11_served 19 = .ok (.istore_n 3, 1) := by decide +kernel
theorem dX11_served_20 : decode cX11_served 20 = .ok (.iload_n 3, 1) := by decide +kernel
theorem dX11_served_21 : decode cX11_served 21 = .ok (.ifCond .eq 5, 3) := by decide +kernel
theorem dX11_served_24 : decode cX11_served 24 = .ok (.iload_n 3, 1) := by decide +kernel
theorem dX11_served_25 : decode cX11_served 25 = .ok (.ireturn, 1) := by decide +kernel
theorem dX11_served_26 : decode cX11_served 26 = .ok (.aload_n 0, 1) := by decide +kernel
theorem dX11_served_27 : decode cX11_served 27 = .ok (.getfield 90, 3) := by decide +kernel
theorem dX11_served_30 : decode cX11_served 30 = .ok (.aload_n 0, 1) := by decide +kernel
theorem dX11_served_31 : decode cX11_served 31 = .ok (.getfield 83, 3) := by decide +kernel
theorem dX11_served_34 : decode cX11_served 34 = .ok (.iload_n 1, 1) := by decide +kernel
theorem dX11_served_35 : decode cX11_served 35 = .ok (.bipush 9, 2) := by decide +kernel
theorem dX11_served_37 : decode cX11_served 37 = .ok (.invokevirtual 326, 3) := by decide +kernel
theorem dX11_served_40 : decode cX11_served 40 = .ok (.aload_n 0, 1) := by decide +kernel
theorem dX11_served_41 : decode cX11_served 41 = .ok (.getfield 90, 3) := by decide +kernel
theorem dX11_served_44 : decode cX11_served 44 = .ok (.iload_n 2, 1) := by decide +kernel
theorem dX11_served_45 : decode cX11_served 45 = .ok (.invokevirtual 333, 3) := by decide +kernel
theorem dX11_served_48 : decode cX11_served 48 = .ok (.ireturn, 1) := by decide +kernel
theorem dX11_chair_0 : decode cX11_chair 0 = .ok (.aload_n 0, 1) := by decide +kernel
theorem dX11_chair_1 : decode cX11_chair 1 = .ok (.iload_n 1, 1) := by decide +kernel
theorem dX11_chair_2 : decode cX11_chair 2 = .ok (.invokevirtual 316, 3) := by decide +kernel
theorem dX11_chair_5 : decode cX11_chair 5 = .ok (.istore_n 2, 1) := by decide +kernel
theorem dX11_chair_6 : decode cX11_chair 6 = .ok (.iload_n 2, 1) := by decide +kernel
theorem dX11_chair_7 : decode cX11_chair 7 = .ok (.ifCond .eq 5, 3) := by decide +kernel
theorem dX11_chair_10 : decode cX11_chair 10 = .ok (.iload_n 2, 1) := by decide +kernel
theorem dX11_chair_11 : decode cX11_chair 11 = .ok (.ireturn, 1) := by decide +kernel
theorem dX11_chair_12 : decode cX11_chair 12 = .ok (.aload_n 0, 1) := by decide +kernel
theorem dX11_chair_13 : decode cX11_chair 13 = .ok (.getfield 90, 3) := by decide +kernel
theorem dX11_chair_16 : decode cX11_chair 16 = .ok (.aload_n 0, 1) := by decide +kernel
theorem dX11_chair_17 : decode cX11_chair 17 = .ok (.getfield 83, 3) := by decide +kernel
theorem dX11_chair_20 : decode cX11_chair 20 = .ok (.iload_n 1, 1) := by decide +kernel
theorem dX11_chair_21 : decode cX11_chair 21 = .ok (.bipush 9, 2) := by decide +kernel
theorem dX11_chair_23 : decode cX11_chair 23 = .ok (.invokevirtual 326, 3) := by decide +kernel
theorem dX11_chair_26 : decode cX11_chair 26 = .ok (.aload_n 0, 1) := by decide +kernel
theorem dX11_chair_27 : decode cX11_chair 27 = .ok (.getfield 90, 3) := by decide +kernel
theorem dX11_chair_30 : decode cX11_chair 30 = .ok (.bipush 9, 2) := by decide +kernel
theorem dX11_chair_32 : decode cX11_chair 32 = .ok (.invokevirtual 330, 3) := by decide +kernel
theorem dX11_chair_35 : decode cX11_chair 35 = .ok (.iconst (-1), 1) := by decide +kernel
theorem dX11_chair_36 : decode cX11_chair 36 = .ok (.if_icmp .ne 7, 3) := by decide +kernel
theorem dX11_chair_39 : decode cX11_chair 39 = .ok (.iconst (-1), 1) := by decide +kernel
theorem dX11_chair_40 : decode cX11_chair 40 = .ok (.goto 10, 3) := by decide +kernel
theorem dX11_chair_43 : decode cX11_chair 43 = .ok (.aload_n 0, 1) := by decide +kernel
theorem dX11_chair_44 : decode cX11_chair 44 = .ok (.getfield 90, 3) := by decide +kernel
theorem dX11_chair_47 : decode cX11_chair 47 = .ok (.invokevirtual 336, 3) := by decide +kernel
theorem dX11_chair_50 : decode cX11_chair 50 = .ok (.ireturn, 1) := by decide +kernel
theorem dX11_blind_0 : decode cX11_blind 0 = .ok (.aload_n 0, 1) := by decide +kernel
theorem dX11_blind_1 : decode cX11_blind 1 = .ok (.getfield 28, 3) := by decide +kernel
theorem dX11_blind_4 : decode cX11_blind 4 = .ok (.invokevirtual 170, 3) := by decide +kernel
theorem dX11_blind_7 : decode cX11_blind 7 = .ok (.ifCond .eq 10, 3) := by decide +kernel
theorem dX11_blind_10 : decode cX11_blind 10 = .ok (.iload_n 1, 1) := by decide +kernel
theorem dX11_blind_11 : decode cX11_blind 11 = .ok (.invokestatic 339, 3) := by decide +kernel
theorem dX11_blind_14 : decode cX11_blind 14 = .ok (.ifCond .ne 6, 3) := by decide +kernel
theorem dX11_blind_17 : decode cX11_blind 17 = .ok (.bipush (-2), 2) := by decide +kernel
theorem dX11_blind_19 : decode cX11_blind 19 = .ok (.ireturn, 1) := by decide +kernel
theorem dX11_blind_20 : decode cX11_blind 20 = .ok (.aload_n 0, 1) := by decide +kernel
theorem dX11_blind_21 : decode cX11_blind 21 = .ok (.getfield 97, 3) := by decide +kernel
theorem dX11_blind_24 : decode cX11_blind 24 = .ok (.aload_n 0, 1) := by decide +kernel
theorem dX11_blind_25 : decode cX11_blind 25 = .ok (.getfield 44, 3) := by decide +kernel
theorem dX11_blind_28 : decode cX11_blind 28 = .ok (.iload_n 1, 1) := by decide +kernel
theorem dX11_blind_29 : decode cX11_blind 29 = .ok (.invokevirtual 342, 3) := by decide +kernel
theorem dX11_blind_32 : decode cX11_blind 32 = .ok (.aload_n 0, 1) := by decide +kernel
theorem dX11_blind_33 : decode cX11_blind 33 = .ok (.getfield 97, 3) := by decide +kernel
theorem dX11_blind_36 : decode cX11_blind 36 = .ok (.getfield 346, 3) := by decide +kernel
theorem dX11_blind_39 : decode cX11_blind 39 = .ok (.ireturn, 1) := by decide +kernel
theorem dX11_tries_0 : decode cX11_tries 0 = .ok (.aload_n 0, 1) := by decide +kernel
theorem dX11_tries_1 : decode cX11_tries 1 = .ok (.getfield 28, 3) := by decide +kernel
theorem dX11_tries_4 : decode cX11_tries 4 = .ok (.invokevirtual 170, 3) := by decide +kernel
theorem dX11_tries_7 : decode cX11_tries 7 = .ok (.ifCond .eq 10, 3) := by decide +kernel
theorem dX11_tries_10 : decode cX11_tries 10 = .ok (.iload_n 1, 1) := by decide +kernel
theorem dX11_tries_11 : decode cX11_tries 11 = .ok (.invokestatic 339, 3) := by decide +kernel
theorem dX11_tries_14 : decode cX11_tries 14 = .ok (.ifCond .ne 6, 3) := by decide +kernel
theorem dX11_tries_17 : decode cX11_tries 17 = .ok (.bipush (-2), 2) := by decide +kernel
theorem dX11_tries_19 : decode cX11_tries 19 = .ok (.ireturn, 1) := by decide +kernel
theorem dX11_tries_20 : decode cX11_tries 20 = .ok (.aload_n 0, 1) := by decide +kernel
theorem dX11_tries_21 : decode cX11_tries 21 = .ok (.getfield 97, 3) := by decide +kernel
theorem dX11_tries_24 : decode cX11_tries 24 = .ok (.aload_n 0, 1) := by decide +kernel
theorem dX11_tries_25 : decode cX11_tries 25 = .ok (.getfield 44, 3) := by decide +kernel
theorem dX11_tries_28 : decode cX11_tries 28 = .ok (.iload_n 1, 1) := by decide +kernel
theorem dX11_tries_29 : decode cX11_tries 29 = .ok (.invokevirtual 342, 3) := by decide +kernel
theorem dX11_tries_32 : decode cX11_tries 32 = .ok (.aload_n 0, 1) := by decide +kernel
theorem dX11_tries_33 : decode cX11_tries 33 = .ok (.getfield 97, 3) := by decide +kernel
theorem dX11_tries_36 : decode cX11_tries 36 = .ok (.getfield 347, 3) := by decide +kernel
theorem dX11_tries_39 : decode cX11_tries 39 = .ok (.ireturn, 1) := by decide +kernel
theorem dX11_luck_0 : decode cX11_luck 0 = .ok (.aload_n 0, 1) := by decide +kernel
theorem dX11_luck_1 : decode cX11_luck 1 = .ok (.getfield 28, 3) := by decide +kernel
theorem dX11_luck_4 : decode cX11_luck 4 = .ok (.invokevirtual 170, 3) := by decide +kernel
theorem dX11_luck_7 : decode cX11_luck 7 = .ok (.ifCond .eq 21, 3) := by decide +kernel
theorem dX11_luck_10 : decode cX11_luck 10 = .ok (.iload_n 1, 1) := by decide +kernel
theorem dX11_luck_11 : decode cX11_luck 11 = .ok (.invokestatic 339, 3) := by decide +kernel
theorem dX11_luck_14 : decode cX11_luck 14 = .ok (.ifCond .eq 14, 3) := by decide +kernel
theorem dX11_luck_17 : decode cX11_luck 17 = .ok (.iload_n 2, 1) := by decide +kernel
theorem dX11_luck_18 : decode cX11_luck 18 = .ok (.iconst 1, 1) := by decide +kernel
theorem dX11_luck_19 : decode cX11_luck 19 = .ok (.if_icmp .lt 9, 3) := by decide +kernel
theorem dX11_luck_22 : decode cX11_luck 22 = .ok (.iload_n 2, 1) := by decide +kernel
theorem dX11_luck_23 : decode cX11_luck 23 = .ok (.bipush 20, 2) := by decide +kernel
theorem dX11_luck_25 : decode cX11_luck 25 = .ok (.if_icmp .le 6, 3) := by decide +kernel
theorem dX11_luck_28 : decode cX11_luck 28 = .ok (.bipush (-2), 2) := by decide +kernel
theorem dX11_luck_30 : decode cX11_luck 30 = .ok (.ireturn, 1) := by decide +kernel
theorem dX11_luck_31 : decode cX11_luck 31 = .ok (.iconst 0, 1) := by decide +kernel
theorem dX11_luck_32 : decode cX11_luck 32 = .ok (.istore_n 3, 1) := by decide +kernel
theorem dX11_luck_33 : decode cX11_luck 33 = .ok (.iconst 0, 1) := by decide +kernel
theorem dX11_luck_34 : decode cX11_luck 34 = .ok (.istore 4, 2) := by decide +kernel
theorem dX11_luck_36 : decode cX11_luck 36 = .ok (.iload 4, 2) := by decide +kernel
theorem dX11_luck_38 : decode cX11_luck 38 = .ok (.iload_n 2, 1) := by decide +kernel
theorem dX11_luck_39 : decode cX11_luck 39 = .ok (.if_icmp .ge 38, 3) := by decide +kernel
theorem dX11_luck_42 : decode cX11_luck 42 = .ok (.aload_n 0, 1) := by decide +kernel
theorem dX11_luck_43 : decode cX11_luck 43 = .ok (.getfield 97, 3) := by decide +kernel
theorem dX11_luck_46 : decode cX11_luck 46 = .ok (.aload_n 0, 1) := by decide +kernel
theorem dX11_luck_47 : decode cX11_luck 47 = .ok (.getfield 44, 3) := by decide +kernel
theorem dX11_luck_50 : decode cX11_luck 50 = .ok (.iload_n 1, 1) := by decide +kernel
theorem dX11_luck_51 : decode cX11_luck 51 = .ok (.iload 4, 2) := by decide +kernel
theorem dX11_luck_53 : decode cX11_luck 53 = .ok (.iadd, 1) := by decide +kernel
theorem dX11_luck_54 : decode cX11_luck 54 = .ok (.invokevirtual 342, 3) := by decide +kernel
theorem dX11_luck_57 : decode cX11_luck 57 = .ok (.aload_n 0, 1) := by decide +kernel
theorem dX11_luck_58 : decode cX11_luck 58 = .ok (.getfield 97, 3) := by decide +kernel
theorem dX11_luck_61 : decode cX11_luck 61 = .ok (.getfield 346, 3) := by decide +kernel
theorem dX11_luck_64 : decode cX11_luck 64 = .ok (.iconst (-1), 1) := by decide +kernel
theorem dX11_luck_65 : decode cX11_luck 65 = .ok (.if_icmp .eq 6, 3) := by decide +kernel
theorem dX11_luck_68 : decode cX11_luck 68 = .ok (.iinc 3 1, 3) := by decide +kernel
theorem dX11_luck_71 : decode cX11_luck 71 = .ok (.iinc 4 1, 3) := by decide +kernel
theorem dX11_luck_74 : decode cX11_luck 74 = .ok (.goto (-38), 3) := by decide +kernel
theorem dX11_luck_77 : decode cX11_luck 77 = .ok (.iload_n 3, 1) := by decide +kernel
theorem dX11_luck_78 : decode cX11_luck 78 = .ok (.ireturn, 1) := by decide +kernel
theorem dX11_worth_0 : decode cX11_worth 0 = .ok (.aload_n 0, 1) := by decide +kernel
theorem dX11_worth_1 : decode cX11_worth 1 = .ok (.getfield 28, 3) := by decide +kernel
theorem dX11_worth_4 : decode cX11_worth 4 = .ok (.invokevirtual 170, 3) := by decide +kernel
theorem dX11_worth_7 : decode cX11_worth 7 = .ok (.ifCond .eq 28, 3) := by decide +kernel
theorem dX11_worth_10 : decode cX11_worth 10 = .ok (.iload_n 1, 1) := by decide +kernel
theorem dX11_worth_11 : decode cX11_worth 11 = .ok (.invokestatic 339, 3) := by decide +kernel
theorem dX11_worth_14 : decode cX11_worth 14 = .ok (.ifCond .eq 21, 3) := by decide +kernel
theorem dX11_worth_17 : decode cX11_worth 17 = .ok (.iload_n 2, 1) := by decide +kernel
theorem dX11_worth_18 : decode cX11_worth 18 = .ok (.iconst 1, 1) := by decide +kernel
theorem dX11_worth_19 : decode cX11_worth 19 = .ok (.if_icmp .lt 16, 3) := by decide +kernel
theorem dX11_worth_22 : decode cX11_worth 22 = .ok (.iload_n 2, 1) := by decide +kernel
theorem dX11_worth_23 : decode cX11_worth 23 = .ok (.bipush 20, 2) := by decide +kernel
theorem dX11_worth_25 : decode cX11_worth 25 = .ok (.if_icmp .gt 10, 3) := by decide +kernel
theorem dX11_worth_28 : decode cX11_worth 28 = .ok (.iload_n 3, 1) := by decide +kernel
theorem dX11_worth_29 : decode cX11_worth 29 = .ok (.invokestatic 141, 3) := by decide +kernel
theorem dX11_worth_32 : decode cX11_worth 32 = .ok (.ifCond .ne 6, 3) := by decide +kernel
theorem dX11_worth_35 : decode cX11_worth 35 = .ok (.bipush (-2), 2) := by decide +kernel
theorem dX11_worth_37 : decode cX11_worth 37 = .ok (.ireturn, 1) := by decide +kernel
theorem dX11_worth_38 : decode cX11_worth 38 = .ok (.aload_n 0, 1) := by decide +kernel
theorem dX11_worth_39 : decode cX11_worth 39 = .ok (.invokevirtual 233, 3) := by decide +kernel
theorem dX11_worth_42 : decode cX11_worth 42 = .ok (.iconst 0, 1) := by decide +kernel
theorem dX11_worth_43 : decode cX11_worth 43 = .ok (.invokevirtual 237, 3) := by decide +kernel
theorem dX11_worth_46 : decode cX11_worth 46 = .ok (.istore 4, 2) := by decide +kernel
theorem dX11_worth_48 : decode cX11_worth 48 = .ok (.iconst 0, 1) := by decide +kernel
theorem dX11_worth_49 : decode cX11_worth 49 = .ok (.istore 5, 2) := by decide +kernel
theorem dX11_worth_51 : decode cX11_worth 51 = .ok (.iconst 0, 1) := by decide +kernel
theorem dX11_worth_52 : decode cX11_worth 52 = .ok (.istore 6, 2) := by decide +kernel
theorem dX11_worth_54 : decode cX11_worth 54 = .ok (.iconst 0, 1) := by decide +kernel
theorem dX11_worth_55 : decode cX11_worth 55 = .ok (.istore 7, 2) := by decide +kernel
theorem dX11_worth_57 : decode cX11_worth 57 = .ok (.iload 7, 2) := by decide +kernel
theorem dX11_worth_59 : decode cX11_worth 59 = .ok (.iload_n 2, 1) := by decide +kernel
theorem dX11_worth_60 : decode cX11_worth 60 = .ok (.if_icmp .ge 53, 3) := by decide +kernel
theorem dX11_worth_63 : decode cX11_worth 63 = .ok (.aload_n 0, 1) := by decide +kernel
theorem dX11_worth_64 : decode cX11_worth 64 = .ok (.getfield 97, 3) := by decide +kernel
theorem dX11_worth_67 : decode cX11_worth 67 = .ok (.aload_n 0, 1) := by decide +kernel
theorem dX11_worth_68 : decode cX11_worth 68 = .ok (.getfield 44, 3) := by decide +kernel
theorem dX11_worth_71 : decode cX11_worth 71 = .ok (.iload_n 1, 1) := by decide +kernel
theorem dX11_worth_72 : decode cX11_worth 72 = .ok (.iload 7, 2) := by decide +kernel
theorem dX11_worth_74 : decode cX11_worth 74 = .ok (.iadd, 1) := by decide +kernel
theorem dX11_worth_75 : decode cX11_worth 75 = .ok (.invokevirtual 342, 3) := by decide +kernel
theorem dX11_worth_78 : decode cX11_worth 78 = .ok (.aload_n 0, 1) := by decide +kernel
theorem dX11_worth_79 : decode cX11_worth 79 = .ok (.getfield 97, 3) := by decide +kernel
theorem dX11_worth_82 : decode cX11_worth 82 = .ok (.getfield 346, 3) := by decide +kernel
theorem dX11_worth_85 : decode cX11_worth 85 = .ok (.iconst (-1), 1) := by decide +kernel
theorem dX11_worth_86 : decode cX11_worth 86 = .ok (.if_icmp .eq 21, 3) := by decide +kernel
theorem dX11_worth_89 : decode cX11_worth 89 = .ok (.iinc 6 1, 3) := by decide +kernel
theorem dX11_worth_92 : decode cX11_worth 92 = .ok (.iload 5, 2) := by decide +kernel
theorem dX11_worth_94 : decode cX11_worth 94 = .ok (.aload_n 0, 1) := by decide +kernel
theorem dX11_worth_95 : decode cX11_worth 95 = .ok (.getfield 97, 3) := by decide +kernel
theorem dX11_worth_98 : decode cX11_worth 98 = .ok (.getfield 346, 3) := by decide +kernel
theorem dX11_worth_101 : decode cX11_worth 101 = .ok (.iload 4, 2) := by decide +kernel
theorem dX11_worth_103 : decode cX11_worth 103 = .ok (.isub, 1) := by decide +kernel
theorem dX11_worth_104 : decode cX11_worth 104 = .ok (.iadd, 1) := by decide +kernel
theorem dX11_worth_105 : decode cX11_worth 105 = .ok (.istore 5, 2) := by decide +kernel
theorem dX11_worth_107 : decode cX11_worth 107 = .ok (.iinc 7 1, 3) := by decide +kernel
theorem dX11_worth_110 : decode cX11_worth 110 = .ok (.goto (-53), 3) := by decide +kernel
theorem dX11_worth_113 : decode cX11_worth 113 = .ok (.iload 6, 2) := by decide +kernel
theorem dX11_worth_115 : decode cX11_worth 115 = .ok (.ifCond .ne 5, 3) := by decide +kernel
theorem dX11_worth_118 : decode cX11_worth 118 = .ok (.iconst (-1), 1) := by decide +kernel
theorem dX11_worth_119 : decode cX11_worth 119 = .ok (.ireturn, 1) := by decide +kernel
theorem dX11_worth_120 : decode cX11_worth 120 = .ok (.iload 5, 2) := by decide +kernel
theorem dX11_worth_122 : decode cX11_worth 122 = .ok (.iload 6, 2) := by decide +kernel
theorem dX11_worth_124 : decode cX11_worth 124 = .ok (.invokestatic 350, 3) := by decide +kernel
theorem dX11_worth_127 : decode cX11_worth 127 = .ok (.istore 7, 2) := by decide +kernel
theorem dX11_worth_129 : decode cX11_worth 129 = .ok (.iload 7, 2) := by decide +kernel
theorem dX11_worth_131 : decode cX11_worth 131 = .ok (.ifCond .ne 5, 3) := by decide +kernel
theorem dX11_worth_134 : decode cX11_worth 134 = .ok (.iconst (-1), 1) := by decide +kernel
theorem dX11_worth_135 : decode cX11_worth 135 = .ok (.ireturn, 1) := by decide +kernel
theorem dX11_worth_136 : decode cX11_worth 136 = .ok (.iload_n 3, 1) := by decide +kernel
theorem dX11_worth_137 : decode cX11_worth 137 = .ok (.ifCond .ne 11, 3) := by decide +kernel
theorem dX11_worth_140 : decode cX11_worth 140 = .ok (.iload 5, 2) := by decide +kernel
theorem dX11_worth_142 : decode cX11_worth 142 = .ok (.iload 7, 2) := by decide +kernel
theorem dX11_worth_144 : decode cX11_worth 144 = .ok (.idiv, 1) := by decide +kernel
theorem dX11_worth_145 : decode cX11_worth 145 = .ok (.goto 8, 3) := by decide +kernel
theorem dX11_worth_148 : decode cX11_worth 148 = .ok (.iload 6, 2) := by decide +kernel
theorem dX11_worth_150 : decode cX11_worth 150 = .ok (.iload 7, 2) := by decide +kernel
theorem dX11_worth_152 : decode cX11_worth 152 = .ok (.idiv, 1) := by decide +kernel
theorem dX11_worth_153 : decode cX11_worth 153 = .ok (.ireturn, 1) := by decide +kernel
theorem dX11_ask_0 : decode cX11_ask 0 = .ok (.aload_n 0, 1) := by decide +kernel
theorem dX11_ask_1 : decode cX11_ask 1 = .ok (.getfield 28, 3) := by decide +kernel
theorem dX11_ask_4 : decode cX11_ask 4 = .ok (.iload_n 1, 1) := by decide +kernel
theorem dX11_ask_5 : decode cX11_ask 5 = .ok (.invokevirtual 133, 3) := by decide +kernel
theorem dX11_ask_8 : decode cX11_ask 8 = .ok (.ifCond .eq 19, 3) := by decide +kernel
theorem dX11_ask_11 : decode cX11_ask 11 = .ok (.aload_n 0, 1) := by decide +kernel
theorem dX11_ask_12 : decode cX11_ask 12 = .ok (.getfield 28, 3) := by decide +kernel
theorem dX11_ask_15 : decode cX11_ask 15 = .ok (.iload_n 2, 1) := by decide +kernel
theorem dX11_ask_16 : decode cX11_ask 16 = .ok (.invokevirtual 133, 3) := by decide +kernel
theorem dX11_ask_19 : decode cX11_ask 19 = .ok (.ifCond .eq 8, 3) := by decide +kernel
theorem dX11_ask_22 : decode cX11_ask 22 = .ok (.iload_n 1, 1) := by decide +kernel
theorem dX11_ask_23 : decode cX11_ask 23 = .ok (.iload_n 2, 1) := by decide +kernel
theorem dX11_ask_24 : decode cX11_ask 24 = .ok (.if_icmp .ne 6, 3) := by decide +kernel
theorem dX11_ask_27 : decode cX11_ask 27 = .ok (.bipush (-2), 2) := by decide +kernel
theorem dX11_ask_29 : decode cX11_ask 29 = .ok (.ireturn, 1) := by decide +kernel
theorem dX11_ask_30 : decode cX11_ask 30 = .ok (.iload_n 3, 1) := by decide +kernel
theorem dX11_ask_31 : decode cX11_ask 31 = .ok (.invokestatic 141, 3) := by decide +kernel
theorem dX11_ask_34 : decode cX11_ask 34 = .ok (.ifCond .eq 11, 3) := by decide +kernel
theorem dX11_ask_37 : decode cX11_ask 37 = .ok (.iload 4, 2) := by decide +kernel
theorem dX11_ask_39 : decode cX11_ask 39 = .ok (.invokestatic 141, 3) := by decide +kernel
theorem dX11_ask_42 : decode cX11_ask 42 = .ok (.ifCond .ne 6, 3) := by decide +kernel
theorem dX11_ask_45 : decode cX11_ask 45 = .ok (.bipush (-2), 2) := by decide +kernel
theorem dX11_ask_47 : decode cX11_ask 47 = .ok (.ireturn, 1) := by decide +kernel
theorem dX11_ask_48 : decode cX11_ask 48 = .ok (.aload_n 0, 1) := by decide +kernel
theorem dX11_ask_49 : decode cX11_ask 49 = .ok (.getfield 28, 3) := by decide +kernel
theorem dX11_ask_52 : decode cX11_ask 52 = .ok (.getfield 214, 3) := by decide +kernel
theorem dX11_ask_55 : decode cX11_ask 55 = .ok (.ifCond .le 6, 3) := by decide +kernel
theorem dX11_ask_58 : decode cX11_ask 58 = .ok (.bipush (-5), 2) := by decide +kernel
theorem dX11_ask_60 : decode cX11_ask 60 = .ok (.ireturn, 1) := by decide +kernel
theorem dX11_ask_61 : decode cX11_ask 61 = .ok (.aload_n 0, 1) := by decide +kernel
theorem dX11_ask_62 : decode cX11_ask 62 = .ok (.getfield 28, 3) := by decide +kernel
theorem dX11_ask_65 : decode cX11_ask 65 = .ok (.getfield 137, 3) := by decide +kernel
theorem dX11_ask_68 : decode cX11_ask 68 = .ok (.bipush 9, 2) := by decide +kernel
theorem dX11_ask_70 : decode cX11_ask 70 = .ok (.iload_n 3, 1) := by decide +kernel
theorem dX11_ask_71 : decode cX11_ask 71 = .ok (.iadd, 1) := by decide +kernel
theorem dX11_ask_72 : decode cX11_ask 72 = .ok (.aaload, 1) := by decide +kernel
theorem dX11_ask_73 : decode cX11_ask 73 = .ok (.astore 5, 2) := by decide +kernel
theorem dX11_ask_75 : decode cX11_ask 75 = .ok (.aload 5, 2) := by decide +kernel
theorem dX11_ask_77 : decode cX11_ask 77 = .ok (.iload_n 1, 1) := by decide +kernel
theorem dX11_ask_78 : decode cX11_ask 78 = .ok (.iaload, 1) := by decide +kernel
theorem dX11_ask_79 : decode cX11_ask 79 = .ok (.iload_n 2, 1) := by decide +kernel
theorem dX11_ask_80 : decode cX11_ask 80 = .ok (.ishr, 1) := by decide +kernel
theorem dX11_ask_81 : decode cX11_ask 81 = .ok (.iconst 1, 1) := by decide +kernel
theorem dX11_ask_82 : decode cX11_ask 82 = .ok (.iand, 1) := by decide +kernel
theorem dX11_ask_83 : decode cX11_ask 83 = .ok (.istore 6, 2) := by decide +kernel
theorem dX11_ask_85 : decode cX11_ask 85 = .ok (.iload 6, 2) := by decide +kernel
theorem dX11_ask_87 : decode cX11_ask 87 = .ok (.iload 4, 2) := by decide +kernel
theorem dX11_ask_89 : decode cX11_ask 89 = .ok (.if_icmp .eq 13, 3) := by decide +kernel
theorem dX11_ask_92 : decode cX11_ask 92 = .ok (.aload 5, 2) := by decide +kernel
theorem dX11_ask_94 : decode cX11_ask 94 = .ok (.iload_n 1, 1) := by decide +kernel
theorem dX11_ask_95 : decode cX11_ask 95 = .ok (.dup2, 1) := by decide +kernel
theorem dX11_ask_96 : decode cX11_ask 96 = .ok (.iaload, 1) := by decide +kernel
theorem dX11_ask_97 : decode cX11_ask 97 = .ok (.iconst 1, 1) := by decide +kernel
theorem dX11_ask_98 : decode cX11_ask 98 = .ok (.iload_n 2, 1) := by decide +kernel
theorem dX11_ask_99 : decode cX11_ask 99 = .ok (.ishl, 1) := by decide +kernel
theorem dX11_ask_100 : decode cX11_ask 100 = .ok (.ixor, 1) := by decide +kernel
theorem dX11_ask_101 : decode cX11_ask 101 = .ok (.iastore, 1) := by decide +kernel
theorem dX11_ask_102 : decode cX11_ask 102 = .ok (.aload_n 0, 1) := by decide +kernel
theorem dX11_ask_103 : decode cX11_ask 103 = .ok (.invokevirtual 353, 3) := by decide +kernel
theorem dX11_ask_106 : decode cX11_ask 106 = .ok (.iload 6, 2) := by decide +kernel
theorem dX11_ask_108 : decode cX11_ask 108 = .ok (.ireturn, 1) := by decide +kernel
theorem dX11_leave_0 : decode cX11_leave 0 = .ok (.iload_n 2, 1) := by decide +kernel
theorem dX11_leave_1 : decode cX11_leave 1 = .ok (.iconst (-1), 1) := by decide +kernel
theorem dX11_leave_2 : decode cX11_leave 2 = .ok (.if_icmp .ne 12, 3) := by decide +kernel
theorem dX11_leave_5 : decode cX11_leave 5 = .ok (.iload_n 3, 1) := by decide +kernel
theorem dX11_leave_6 : decode cX11_leave 6 = .ok (.iconst (-1), 1) := by decide +kernel
theorem dX11_leave_7 : decode cX11_leave 7 = .ok (.if_icmp .ne 7, 3) := by decide +kernel
theorem dX11_leave_10 : decode cX11_leave 10 = .ok (.iconst 1, 1) := by decide +kernel
theorem dX11_leave_11 : decode cX11_leave 11 = .ok (.goto 4, 3) := by decide +kernel
theorem dX11_leave_14 : decode cX11_leave 14 = .ok (.iconst 0, 1) := by decide +kernel
theorem dX11_leave_15 : decode cX11_leave 15 = .ok (.istore 4, 2) := by decide +kernel
theorem dX11_leave_17 : decode cX11_leave 17 = .ok (.iload_n 2, 1) := by decide +kernel
theorem dX11_leave_18 : decode cX11_leave 18 = .ok (.ifCond .lt 18, 3) := by decide +kernel
theorem dX11_leave_21 : decode cX11_leave 21 = .ok (.iload_n 2, 1) := by decide +kernel
theorem dX11_leave_22 : decode cX11_leave 22 = .ok (.iload_n 3, 1) := by decide +kernel
theorem dX11_leave_23 : decode cX11_leave 23 = .ok (.if_icmp .gt 13, 3) := by decide +kernel
theorem dX11_leave_26 : decode cX11_leave 26 = .ok (.iload_n 3, 1) := by decide +kernel
theorem dX11_leave_27 : decode cX11_leave 27 = .ok (.bipush 40, 2) := by decide +kernel
theorem dX11_leave_29 : decode cX11_leave 29 = .ok (.if_icmp .ge 7, 3) := by decide +kernel
theorem dX11_leave_32 : decode cX11_leave 32 = .ok (.iconst 1, 1) := by decide +kernel
theorem dX11_leave_33 : decode cX11_leave 33 = .ok (.goto 4, 3) := by decide +kernel
theorem dX11_leave_36 : decode cX11_leave 36 = .ok (.iconst 0, 1) := by decide +kernel
theorem dX11_leave_37 : decode cX11_leave 37 = .ok (.istore 5, 2) := by decide +kernel
theorem dX11_leave_39 : decode cX11_leave 39 = .ok (.aload_n 0, 1) := by decide +kernel
theorem dX11_leave_40 : decode cX11_leave 40 = .ok (.getfield 28, 3) := by decide +kernel
theorem dX11_leave_43 : decode cX11_leave 43 = .ok (.iload_n 1, 1) := by decide +kernel
theorem dX11_leave_44 : decode cX11_leave 44 = .ok (.invokevirtual 133, 3) := by decide +kernel
theorem dX11_leave_47 : decode cX11_leave 47 = .ok (.ifCond .eq 13, 3) := by decide +kernel
theorem dX11_leave_50 : decode cX11_leave 50 = .ok (.iload 4, 2) := by decide +kernel
theorem dX11_leave_52 : decode cX11_leave 52 = .ok (.ifCond .ne 11, 3) := by decide +kernel
theorem dX11_leave_55 : decode cX11_leave 55 = .ok (.iload 5, 2) := by decide +kernel
theorem dX11_leave_57 : decode cX11_leave 57 = .ok (.ifCond .ne 6, 3) := by decide +kernel
theorem dX11_leave_60 : decode cX11_leave 60 = .ok (.bipush (-2), 2) := by decide +kernel
theorem dX11_leave_62 : decode cX11_leave 62 = .ok (.ireturn, 1) := by decide +kernel
theorem dX11_leave_63 : decode cX11_leave 63 = .ok (.aload_n 0, 1) := by decide +kernel
theorem dX11_leave_64 : decode cX11_leave 64 = .ok (.getfield 28, 3) := by decide +kernel
theorem dX11_leave_67 : decode cX11_leave 67 = .ok (.getfield 214, 3) := by decide +kernel
theorem dX11_leave_70 : decode cX11_leave 70 = .ok (.ifCond .le 6, 3) := by decide +kernel
theorem dX11_leave_73 : decode cX11_leave 73 = .ok (.bipush (-5), 2) := by decide +kernel
theorem dX11_leave_75 : decode cX11_leave 75 = .ok (.ireturn, 1) := by decide +kernel
theorem dX11_leave_76 : decode cX11_leave 76 = .ok (.aload_n 0, 1) := by decide +kernel
theorem dX11_leave_77 : decode cX11_leave 77 = .ok (.getfield 28, 3) := by decide +kernel
theorem dX11_leave_80 : decode cX11_leave 80 = .ok (.getfield 137, 3) := by decide +kernel
theorem dX11_leave_83 : decode cX11_leave 83 = .ok (.bipush 7, 2) := by decide +kernel
theorem dX11_leave_85 : decode cX11_leave 85 = .ok (.aaload, 1) := by decide +kernel
theorem dX11_leave_86 : decode cX11_leave 86 = .ok (.iload_n 1, 1) := by decide +kernel
theorem dX11_leave_87 : decode cX11_leave 87 = .ok (.iload_n 2, 1) := by decide +kernel
theorem dX11_leave_88 : decode cX11_leave 88 = .ok (.iastore, 1) := by decide +kernel
theorem dX11_leave_89 : decode cX11_leave 89 = .ok (.aload_n 0, 1) := by decide +kernel
theorem dX11_leave_90 : decode cX11_leave 90 = .ok (.getfield 28, 3) := by decide +kernel
theorem dX11_leave_93 : decode cX11_leave 93 = .ok (.getfield 137, 3) := by decide +kernel
theorem dX11_leave_96 : decode cX11_leave 96 = .ok (.bipush 8, 2) := by decide +kernel
theorem dX11_leave_98 : decode cX11_leave 98 = .ok (.aaload, 1) := by decide +kernel
theorem dX11_leave_99 : decode cX11_leave 99 = .ok (.iload_n 1, 1) := by decide +kernel
theorem dX11_leave_100 : decode cX11_leave 100 = .ok (.iload_n 3, 1) := by decide +kernel
theorem dX11_leave_101 : decode cX11_leave 101 = .ok (.iastore, 1) := by decide +kernel
theorem dX11_leave_102 : decode cX11_leave 102 = .ok (.aload_n 0, 1) := by decide +kernel
theorem dX11_leave_103 : decode cX11_leave 103 = .ok (.invokevirtual 124, 3) := by decide +kernel
theorem dX11_leave_106 : decode cX11_leave 106 = .ok (.iconst 0, 1) := by decide +kernel
theorem dX11_leave_107 : decode cX11_leave 107 = .ok (.ireturn, 1) := by decide +kernel
theorem dX11_wants_0 : decode cX11_wants 0 = .ok (.aload_n 0, 1) := by decide +kernel
theorem dX11_wants_1 : decode cX11_wants 1 = .ok (.getfield 28, 3) := by decide +kernel
theorem dX11_wants_4 : decode cX11_wants 4 = .ok (.iload_n 1, 1) := by decide +kernel
theorem dX11_wants_5 : decode cX11_wants 5 = .ok (.invokevirtual 280, 3) := by decide +kernel
theorem dX11_wants_8 : decode cX11_wants 8 = .ok (.ifCond .ne 6, 3) := by decide +kernel
theorem dX11_wants_11 : decode cX11_wants 11 = .ok (.bipush (-2), 2) := by decide +kernel
theorem dX11_wants_13 : decode cX11_wants 13 = .ok (.ireturn, 1) := by decide +kernel
theorem dX11_wants_14 : decode cX11_wants 14 = .ok (.aload_n 0, 1) := by decide +kernel
theorem dX11_wants_15 : decode cX11_wants 15 = .ok (.getfield 28, 3) := by decide +kernel
theorem dX11_wants_18 : decode cX11_wants 18 = .ok (.getfield 174, 3) := by decide +kernel
theorem dX11_wants_21 : decode cX11_wants 21 = .ok (.istore_n 2, 1) := by decide +kernel
theorem dX11_wants_22 : decode cX11_wants 22 = .ok (.aload_n 0, 1) := by decide +kernel
theorem dX11_wants_23 : decode cX11_wants 23 = .ok (.getfield 28, 3) := by decide +kernel
theorem dX11_wants_26 : decode cX11_wants 26 = .ok (.iload_n 1, 1) := by decide +kernel
theorem dX11_wants_27 : decode cX11_wants 27 = .ok (.putfield 174, 3) := by decide +kernel
theorem dX11_wants_30 : decode cX11_wants 30 = .ok (.aload_n 0, 1) := by decide +kernel
theorem dX11_wants_31 : decode cX11_wants 31 = .ok (.invokevirtual 353, 3) := by decide +kernel
theorem dX11_wants_34 : decode cX11_wants 34 = .ok (.iload_n 2, 1) := by decide +kernel
theorem dX11_wants_35 : decode cX11_wants 35 = .ok (.ireturn, 1) := by decide +kernel
theorem dX11_count_0 : decode cX11_count 0 = .ok (.iload_n 1, 1) := by decide +kernel
theorem dX11_count_1 : decode cX11_count 1 = .ok (.tableswitch 127 0 8 #[51, 59, 67, 77, 87, 95, 103, 111, 119], 51) := by decide +kernel
theorem dX11_count_52 : decode cX11_count 52 = .ok (.aload_n 0, 1) := by decide +kernel
theorem dX11_count_53 : decode cX11_count 53 = .ok (.getfield 28, 3) := by decide +kernel
theorem dX11_count_56 : decode cX11_count 56 = .ok (.getfield 144, 3) := by decide +kernel
theorem dX11_count_59 : decode cX11_count 59 = .ok (.ireturn, 1) := by decide +kernel
theorem dX11_count_60 : decode cX11_count 60 = .ok (.aload_n 0, 1) := by decide +kernel
theorem dX11_count_61 : decode cX11_count 61 = .ok (.getfield 28, 3) := by decide +kernel
theorem dX11_count_64 : decode cX11_count 64 = .ok (.getfield 356, 3) := by decide +kernel
theorem dX11_count_67 : decode cX11_count 67 = .ok (.ireturn, 1) := by decide +kernel
theorem dX11_count_68 : decode cX11_count 68 = .ok (.aload_n 0, 1) := by decide +kernel
theorem dX11_count_69 : decode cX11_count 69 = .ok (.getfield 28, 3) := by decide +kernel
theorem dX11_count_72 : decode cX11_count 72 = .ok (.bipush 9, 2) := by decide +kernel
theorem dX11_count_74 : decode cX11_count 74 = .ok (.invokevirtual 359, 3) := by decide +kernel
theorem dX11_count_77 : decode cX11_count 77 = .ok (.ireturn, 1) := by decide +kernel
theorem dX11_count_78 : decode cX11_count 78 = .ok (.aload_n 0, 1) := by decide +kernel
theorem dX11_count_79 : decode cX11_count 79 = .ok (.getfield 28, 3) := by decide +kernel
theorem dX11_count_82 : decode cX11_count 82 = .ok (.bipush 10, 2) := by decide +kernel
theorem dX11_count_84 : decode cX11_count 84 = .ok (.invokevirtual 359, 3) := by decide +kernel
theorem dX11_count_87 : decode cX11_count 87 = .ok (.ireturn, 1) := by decide +kernel
theorem dX11_count_88 : decode cX11_count 88 = .ok (.aload_n 0, 1) := by decide +kernel
theorem dX11_count_89 : decode cX11_count 89 = .ok (.getfield 28, 3) := by decide +kernel
theorem dX11_count_92 : decode cX11_count 92 = .ok (.getfield 127, 3) := by decide +kernel
theorem dX11_count_95 : decode cX11_count 95 = .ok (.ireturn, 1) := by decide +kernel
theorem dX11_count_96 : decode cX11_count 96 = .ok (.aload_n 0, 1) := by decide +kernel
theorem dX11_count_97 : decode cX11_count 97 = .ok (.getfield 10, 3) := by decide +kernel
theorem dX11_count_100 : decode cX11_count 100 = .ok (.getfield 105, 3) := by decide +kernel
theorem dX11_count_103 : decode cX11_count 103 = .ok (.ireturn, 1) := by decide +kernel
theorem dX11_count_104 : decode cX11_count 104 = .ok (.aload_n 0, 1) := by decide +kernel
theorem dX11_count_105 : decode cX11_count 105 = .ok (.getfield 28, 3) := by decide +kernel
theorem dX11_count_108 : decode cX11_count 108 = .ok (.getfield 214, 3) := by decide +kernel
theorem dX11_count_111 : decode cX11_count 111 = .ok (.ireturn, 1) := by decide +kernel
theorem dX11_count_112 : decode cX11_count 112 = .ok (.aload_n 0, 1) := by decide +kernel
theorem dX11_count_113 : decode cX11_count 113 = .ok (.getfield 28, 3) := by decide +kernel
theorem dX11_count_116 : decode cX11_count 116 = .ok (.getfield 362, 3) := by decide +kernel
theorem dX11_count_119 : decode cX11_count 119 = .ok (.ireturn, 1) := by decide +kernel
theorem dX11_count_120 : decode cX11_count 120 = .ok (.aload_n 0, 1) := by decide +kernel
theorem dX11_count_121 : decode cX11_count 121 = .ok (.getfield 83, 3) := by decide +kernel
theorem dX11_count_124 : decode cX11_count 124 = .ok (.invokevirtual 365, 3) := by decide +kernel
theorem dX11_count_127 : decode cX11_count 127 = .ok (.ireturn, 1) := by decide +kernel
theorem dX11_count_128 : decode cX11_count 128 = .ok (.iconst (-1), 1) := by decide +kernel
theorem dX11_count_129 : decode cX11_count 129 = .ok (.ireturn, 1) := by decide +kernel
theorem dX11_keep_0 : decode cX11_keep 0 = .ok (.iload_n 1, 1) := by decide +kernel
theorem dX11_keep_1 : decode cX11_keep 1 = .ok (.ifCond .lt 12, 3) := by decide +kernel
theorem dX11_keep_4 : decode cX11_keep 4 = .ok (.iload_n 1, 1) := by decide +kernel
theorem dX11_keep_5 : decode cX11_keep 5 = .ok (.aload_n 0, 1) := by decide +kernel
theorem dX11_keep_6 : decode cX11_keep 6 = .ok (.getfield 101, 3) := by decide +kernel
theorem dX11_keep_9 : decode cX11_keep 9 = .ok (.arraylength, 1) := by decide +kernel
theorem dX11_keep_10 : decode cX11_keep 10 = .ok (.if_icmp .lt 6, 3) := by decide +kernel
theorem dX11_keep_13 : decode cX11_keep 13 = .ok (.bipush (-2), 2) := by decide +kernel
theorem dX11_keep_15 : decode cX11_keep 15 = .ok (.ireturn, 1) := by decide +kernel
theorem dX11_keep_16 : decode cX11_keep 16 = .ok (.aload_n 0, 1) := by decide +kernel
theorem dX11_keep_17 : decode cX11_keep 17 = .ok (.getfield 101, 3) := by decide +kernel
theorem dX11_keep_20 : decode cX11_keep 20 = .ok (.iload_n 1, 1) := by decide +kernel
theorem dX11_keep_21 : decode cX11_keep 21 = .ok (.aaload, 1) := by decide +kernel
theorem dX11_keep_22 : decode cX11_keep 22 = .ok (.ifnonnull 16, 3) := by decide +kernel
theorem dX11_keep_25 : decode cX11_keep 25 = .ok (.aload_n 0, 1) := by decide +kernel
theorem dX11_keep_26 : decode cX11_keep 26 = .ok (.getfield 101, 3) := by decide +kernel
theorem dX11_keep_29 : decode cX11_keep 29 = .ok (.iload_n 1, 1) := by decide +kernel
theorem dX11_keep_30 : decode cX11_keep 30 = .ok (.new 25, 3) := by decide +kernel
theorem dX11_keep_33 : decode cX11_keep 33 = .ok (.dup, 1) := by decide +kernel
theorem dX11_keep_34 : decode cX11_keep 34 = .ok (.invokespecial 27, 3) := by decide +kernel
theorem dX11_keep_37 : decode cX11_keep 37 = .ok (.aastore, 1) := by decide +kernel
theorem dX11_keep_38 : decode cX11_keep 38 = .ok (.aload_n 0, 1) := by decide +kernel
theorem dX11_keep_39 : decode cX11_keep 39 = .ok (.getfield 101, 3) := by decide +kernel
theorem dX11_keep_42 : decode cX11_keep 42 = .ok (.iload_n 1, 1) := by decide +kernel
theorem dX11_keep_43 : decode cX11_keep 43 = .ok (.aaload, 1) := by decide +kernel
theorem dX11_keep_44 : decode cX11_keep 44 = .ok (.aload_n 0, 1) := by decide +kernel
theorem dX11_keep_45 : decode cX11_keep 45 = .ok (.getfield 28, 3) := by decide +kernel
theorem dX11_keep_48 : decode cX11_keep 48 = .ok (.invokevirtual 120, 3) := by decide +kernel
theorem dX11_keep_51 : decode cX11_keep 51 = .ok (.iconst 0, 1) := by decide +kernel
theorem dX11_keep_52 : decode cX11_keep 52 = .ok (.ireturn, 1) := by decide +kernel
theorem dX11_back_0 : decode cX11_back 0 = .ok (.iload_n 1, 1) := by decide +kernel
theorem dX11_back_1 : decode cX11_back 1 = .ok (.ifCond .lt 12, 3) := by decide +kernel
theorem dX11_back_4 : decode cX11_back 4 = .ok (.iload_n 1, 1) := by decide +kernel
theorem dX11_back_5 : decode cX11_back 5 = .ok (.aload_n 0, 1) := by decide +kernel
theorem dX11_back_6 : decode cX11_back 6 = .ok (.getfield 101, 3) := by decide +kernel
theorem dX11_back_9 : decode cX11_back 9 = .ok (.arraylength, 1) := by decide +kernel
theorem dX11_back_10 : decode cX11_back 10 = .ok (.if_icmp .lt 6, 3) := by decide +kernel
theorem dX11_back_13 : decode cX11_back 13 = .ok (.bipush (-2), 2) := by decide +kernel
theorem dX11_back_15 : decode cX11_back 15 = .ok (.ireturn, 1) := by decide +kernel
theorem dX11_back_16 : decode cX11_back 16 = .ok (.aload_n 0, 1) := by decide +kernel
theorem dX11_back_17 : decode cX11_back 17 = .ok (.getfield 101, 3) := by decide +kernel
theorem dX11_back_20 : decode cX11_back 20 = .ok (.iload_n 1, 1) := by decide +kernel
theorem dX11_back_21 : decode cX11_back 21 = .ok (.aaload, 1) := by decide +kernel
theorem dX11_back_22 : decode cX11_back 22 = .ok (.ifnonnull 6, 3) := by decide +kernel
theorem dX11_back_25 : decode cX11_back 25 = .ok (.bipush (-6), 2) := by decide +kernel
theorem dX11_back_27 : decode cX11_back 27 = .ok (.ireturn, 1) := by decide +kernel
theorem dX11_back_28 : decode cX11_back 28 = .ok (.aload_n 0, 1) := by decide +kernel
theorem dX11_back_29 : decode cX11_back 29 = .ok (.getfield 28, 3) := by decide +kernel
theorem dX11_back_32 : decode cX11_back 32 = .ok (.aload_n 0, 1) := by decide +kernel
theorem dX11_back_33 : decode cX11_back 33 = .ok (.getfield 101, 3) := by decide +kernel
theorem dX11_back_36 : decode cX11_back 36 = .ok (.iload_n 1, 1) := by decide +kernel
theorem dX11_back_37 : decode cX11_back 37 = .ok (.aaload, 1) := by decide +kernel
theorem dX11_back_38 : decode cX11_back 38 = .ok (.invokevirtual 120, 3) := by decide +kernel
theorem dX11_back_41 : decode cX11_back 41 = .ok (.aload_n 0, 1) := by decide +kernel
theorem dX11_back_42 : decode cX11_back 42 = .ok (.invokevirtual 124, 3) := by decide +kernel
theorem dX11_back_45 : decode cX11_back 45 = .ok (.iconst 0, 1) := by decide +kernel
theorem dX11_back_46 : decode cX11_back 46 = .ok (.ireturn, 1) := by decide +kernel
theorem dX11_row_0 : decode cX11_row 0 = .ok (.aload_n 0, 1) := by decide +kernel
theorem dX11_row_1 : decode cX11_row 1 = .ok (.getfield 83, 3) := by decide +kernel
theorem dX11_row_4 : decode cX11_row 4 = .ok (.iload_n 1, 1) := by decide +kernel
theorem dX11_row_5 : decode cX11_row 5 = .ok (.invokevirtual 366, 3) := by decide +kernel
theorem dX11_row_8 : decode cX11_row 8 = .ok (.ifCond .eq 18, 3) := by decide +kernel
theorem dX11_row_11 : decode cX11_row 11 = .ok (.iload_n 2, 1) := by decide +kernel
theorem dX11_row_12 : decode cX11_row 12 = .ok (.ifCond .lt 14, 3) := by decide +kernel
theorem dX11_row_15 : decode cX11_row 15 = .ok (.iload_n 2, 1) := by decide +kernel
theorem dX11_row_16 : decode cX11_row 16 = .ok (.iconst 4, 1) := by decide +kernel
theorem dX11_row_17 : decode cX11_row 17 = .ok (.if_icmp .ge 9, 3) := by decide +kernel
theorem dX11_row_20 : decode cX11_row 20 = .ok (.iload_n 3, 1) := by decide +kernel
theorem dX11_row_21 : decode cX11_row 21 = .ok (.bipush 60, 2) := by decide +kernel
theorem dX11_row_23 : decode cX11_row 23 = .ok (.if_icmp .le 6, 3) := by decide +kernel
theorem dX11_row_26 : decode cX11_row 26 = .ok (.bipush (-2), 2) := by decide +kernel
theorem dX11_row_28 : decode cX11_row 28 = .ok (.ireturn, 1) := by decide +kernel
theorem dX11_row_29 : decode cX11_row 29 = .ok (.iload_n 3, 1) := by decide +kernel
theorem dX11_row_30 : decode cX11_row 30 = .ok (.ifCond .ge 6, 3) := by decide +kernel
theorem dX11_row_33 : decode cX11_row 33 = .ok (.bipush (-3), 2) := by decide +kernel
theorem dX11_row_35 : decode cX11_row 35 = .ok (.ireturn, 1) := by decide +kernel
theorem dX11_row_36 : decode cX11_row 36 = .ok (.aload_n 0, 1) := by decide +kernel
theorem dX11_row_37 : decode cX11_row 37 = .ok (.getfield 83, 3) := by decide +kernel
theorem dX11_row_40 : decode cX11_row 40 = .ok (.iload_n 1, 1) := by decide +kernel
theorem dX11_row_41 : decode cX11_row 41 = .ok (.iload_n 2, 1) := by decide +kernel
theorem dX11_row_42 : decode cX11_row 42 = .ok (.iload_n 3, 1) := by decide +kernel
theorem dX11_row_43 : decode cX11_row 43 = .ok (.invokevirtual 369, 3) := by decide +kernel
theorem dX11_row_46 : decode cX11_row 46 = .ok (.iconst 0, 1) := by decide +kernel
theorem dX11_row_47 : decode cX11_row 47 = .ok (.ireturn, 1) := by decide +kernel
theorem dX11_write_0 : decode cX11_write 0 = .ok (.aload_n 0, 1) := by decide +kernel
theorem dX11_write_1 : decode cX11_write 1 = .ok (.getfield 83, 3) := by decide +kernel
theorem dX11_write_4 : decode cX11_write 4 = .ok (.iload_n 1, 1) := by decide +kernel
theorem dX11_write_5 : decode cX11_write 5 = .ok (.invokevirtual 366, 3) := by decide +kernel
theorem dX11_write_8 : decode cX11_write 8 = .ok (.ifCond .ne 6, 3) := by decide +kernel
theorem dX11_write_11 : decode cX11_write 11 = .ok (.bipush (-2), 2) := by decide +kernel
theorem dX11_write_13 : decode cX11_write 13 = .ok (.ireturn, 1) := by decide +kernel
theorem dX11_write_14 : decode cX11_write 14 = .ok (.aload_n 0, 1) := by decide +kernel
theorem dX11_write_15 : decode cX11_write 15 = .ok (.getfield 83, 3) := by decide +kernel
theorem dX11_write_18 : decode cX11_write 18 = .ok (.iload_n 1, 1) := by decide +kernel
theorem dX11_write_19 : decode cX11_write 19 = .ok (.invokevirtual 373, 3) := by decide +kernel
theorem dX11_write_22 : decode cX11_write 22 = .ok (.ifCond .ne 6, 3) := by decide +kernel
theorem dX11_write_25 : decode cX11_write 25 = .ok (.bipush (-6), 2) := by decide +kernel
theorem dX11_write_27 : decode cX11_write 27 = .ok (.ireturn, 1) := by decide +kernel
theorem dX11_write_28 : decode cX11_write 28 = .ok (.aload_n 0, 1) := by decide +kernel
theorem dX11_write_29 : decode cX11_write 29 = .ok (.getfield 83, 3) := by decide +kernel
theorem dX11_write_32 : decode cX11_write 32 = .ok (.iload_n 1, 1) := by decide +kernel
theorem dX11_write_33 : decode cX11_write 33 = .ok (.iload_n 2, 1) := by decide +kernel
theorem dX11_write_34 : decode cX11_write 34 = .ok (.lload_n 3, 1) := by decide +kernel
theorem dX11_write_35 : decode cX11_write 35 = .ok (.invokevirtual 376, 3) := by decide +kernel
theorem dX11_write_38 : decode cX11_write 38 = .ok (.ifCond .eq 7, 3) := by decide +kernel
theorem dX11_write_41 : decode cX11_write 41 = .ok (.iconst 0, 1) := by decide +kernel
theorem dX11_write_42 : decode cX11_write 42 = .ok (.goto 5, 3) := by decide +kernel
theorem dX11_write_45 : decode cX11_write 45 = .ok (.bipush (-7), 2) := by decide +kernel
theorem dX11_write_47 : decode cX11_write 47 = .ok (.ireturn, 1) := by decide +kernel
theorem dX11_paste_0 : decode cX11_paste 0 = .ok (.aload_n 0, 1) := by decide +kernel
theorem dX11_paste_1 : decode cX11_paste 1 = .ok (.getfield 83, 3) := by decide +kernel
theorem dX11_paste_4 : decode cX11_paste 4 = .ok (.iload_n 1, 1) := by decide +kernel
theorem dX11_paste_5 : decode cX11_paste 5 = .ok (.invokevirtual 366, 3) := by decide +kernel
theorem dX11_paste_8 : decode cX11_paste 8 = .ok (.ifCond .eq 14, 3) := by decide +kernel
theorem dX11_paste_11 : decode cX11_paste 11 = .ok (.aload_n 0, 1) := by decide +kernel
theorem dX11_paste_12 : decode cX11_paste 12 = .ok (.getfield 83, 3) := by decide +kernel
theorem dX11_paste_15 : decode cX11_paste 15 = .ok (.iload_n 3, 1) := by decide +kernel
theorem dX11_paste_16 : decode cX11_paste 16 = .ok (.invokevirtual 366, 3) := by decide +kernel
theorem dX11_paste_19 : decode cX11_paste 19 = .ok (.ifCond .ne 6, 3) := by decide +kernel
theorem dX11_paste_22 : decode cX11_paste 22 = .ok (.bipush (-2), 2) := by decide +kernel
theorem dX11_paste_24 : decode cX11_paste 24 = .ok (.ireturn, 1) := by decide +kernel
theorem dX11_paste_25 : decode cX11_paste 25 = .ok (.aload_n 0, 1) := by decide +kernel
theorem dX11_paste_26 : decode cX11_paste 26 = .ok (.getfield 83, 3) := by decide +kernel
theorem dX11_paste_29 : decode cX11_paste 29 = .ok (.iload_n 1, 1) := by decide +kernel
theorem dX11_paste_30 : decode cX11_paste 30 = .ok (.invokevirtual 373, 3) := by decide +kernel
theorem dX11_paste_33 : decode cX11_paste 33 = .ok (.ifCond .eq 14, 3) := by decide +kernel
theorem dX11_paste_36 : decode cX11_paste 36 = .ok (.aload_n 0, 1) := by decide +kernel
theorem dX11_paste_37 : decode cX11_paste 37 = .ok (.getfield 83, 3) := by decide +kernel
theorem dX11_paste_40 : decode cX11_paste 40 = .ok (.iload_n 3, 1) := by decide +kernel
theorem dX11_paste_41 : decode cX11_paste 41 = .ok (.invokevirtual 373, 3) := by decide +kernel
theorem dX11_paste_44 : decode cX11_paste 44 = .ok (.ifCond .ne 6, 3) := by decide +kernel
theorem dX11_paste_47 : decode cX11_paste 47 = .ok (.bipush (-6), 2) := by decide +kernel
theorem dX11_paste_49 : decode cX11_paste 49 = .ok (.ireturn, 1) := by decide +kernel
theorem dX11_paste_50 : decode cX11_paste 50 = .ok (.aload_n 0, 1) := by decide +kernel
theorem dX11_paste_51 : decode cX11_paste 51 = .ok (.getfield 83, 3) := by decide +kernel
theorem dX11_paste_54 : decode cX11_paste 54 = .ok (.iload_n 1, 1) := by decide +kernel
theorem dX11_paste_55 : decode cX11_paste 55 = .ok (.invokevirtual 380, 3) := by decide +kernel
theorem dX11_paste_58 : decode cX11_paste 58 = .ok (.aload_n 0, 1) := by decide +kernel
theorem dX11_paste_59 : decode cX11_paste 59 = .ok (.getfield 83, 3) := by decide +kernel
theorem dX11_paste_62 : decode cX11_paste 62 = .ok (.iload_n 3, 1) := by decide +kernel
theorem dX11_paste_63 : decode cX11_paste 63 = .ok (.invokevirtual 380, 3) := by decide +kernel
theorem dX11_paste_66 : decode cX11_paste 66 = .ok (.if_icmp .eq 6, 3) := by decide +kernel
theorem dX11_paste_69 : decode cX11_paste 69 = .ok (.bipush (-8), 2) := by decide +kernel
theorem dX11_paste_71 : decode cX11_paste 71 = .ok (.ireturn, 1) := by decide +kernel
theorem dX11_paste_72 : decode cX11_paste 72 = .ok (.aload_n 0, 1) := by decide +kernel
theorem dX11_paste_73 : decode cX11_paste 73 = .ok (.getfield 83, 3) := by decide +kernel
theorem dX11_paste_76 : decode cX11_paste 76 = .ok (.iload_n 1, 1) := by decide +kernel
theorem dX11_paste_77 : decode cX11_paste 77 = .ok (.iload_n 2, 1) := by decide +kernel
theorem dX11_paste_78 : decode cX11_paste 78 = .ok (.iload 5, 2) := by decide +kernel
theorem dX11_paste_80 : decode cX11_paste 80 = .ok (.invokevirtual 383, 3) := by decide +kernel
theorem dX11_paste_83 : decode cX11_paste 83 = .ok (.ifCond .eq 18, 3) := by decide +kernel
theorem dX11_paste_86 : decode cX11_paste 86 = .ok (.aload_n 0, 1) := by decide +kernel
theorem dX11_paste_87 : decode cX11_paste 87 = .ok (.getfield 83, 3) := by decide +kernel
theorem dX11_paste_90 : decode cX11_paste 90 = .ok (.iload_n 3, 1) := by decide +kernel
theorem dX11_paste_91 : decode cX11_paste 91 = .ok (.iload 4, 2) := by decide +kernel
theorem dX11_paste_93 : decode cX11_paste 93 = .ok (.iload 5, 2) := by decide +kernel
theorem dX11_paste_95 : decode cX11_paste 95 = .ok (.invokevirtual 383, 3) := by decide +kernel
theorem dX11_paste_98 : decode cX11_paste 98 = .ok (.ifCond .ne 6, 3) := by decide +kernel
theorem dX11_paste_101 : decode cX11_paste 101 = .ok (.bipush (-7), 2) := by decide +kernel
theorem dX11_paste_103 : decode cX11_paste 103 = .ok (.ireturn, 1) := by decide +kernel
theorem dX11_paste_104 : decode cX11_paste 104 = .ok (.aload_n 0, 1) := by decide +kernel
theorem dX11_paste_105 : decode cX11_paste 105 = .ok (.getfield 83, 3) := by decide +kernel
theorem dX11_paste_108 : decode cX11_paste 108 = .ok (.iload_n 1, 1) := by decide +kernel
theorem dX11_paste_109 : decode cX11_paste 109 = .ok (.iload_n 2, 1) := by decide +kernel
theorem dX11_paste_110 : decode cX11_paste 110 = .ok (.iload_n 3, 1) := by decide +kernel
theorem dX11_paste_111 : decode cX11_paste 111 = .ok (.iload 4, 2) := by decide +kernel
theorem dX11_paste_113 : decode cX11_paste 113 = .ok (.iload 5, 2) := by decide +kernel
theorem dX11_paste_115 : decode cX11_paste 115 = .ok (.invokevirtual 387, 3) := by decide +kernel
theorem dX11_paste_118 : decode cX11_paste 118 = .ok (.iconst 0, 1) := by decide +kernel
theorem dX11_paste_119 : decode cX11_paste 119 = .ok (.ireturn, 1) := by decide +kernel
theorem dX11_isBit_0 : decode cX11_isBit 0 = .ok (.iload_n 0, 1) := by decide +kernel
theorem dX11_isBit_1 : decode cX11_isBit 1 = .ok (.ifCond .eq 8, 3) := by decide +kernel
theorem dX11_isBit_4 : decode cX11_isBit 4 = .ok (.iload_n 0, 1) := by decide +kernel
theorem dX11_isBit_5 : decode cX11_isBit 5 = .ok (.iconst 1, 1) := by decide +kernel
theorem dX11_isBit_6 : decode cX11_isBit 6 = .ok (.if_icmp .ne 7, 3) := by decide +kernel
theorem dX11_isBit_9 : decode cX11_isBit 9 = .ok (.iconst 1, 1) := by decide +kernel
theorem dX11_isBit_10 : decode cX11_isBit 10 = .ok (.goto 4, 3) := by decide +kernel
theorem dX11_isBit_13 : decode cX11_isBit 13 = .ok (.iconst 0, 1) := by decide +kernel
theorem dX11_isBit_14 : decode cX11_isBit 14 = .ok (.ireturn, 1) := by decide +kernel
theorem dX11_hasBit_0 : decode cX11_hasBit 0 = .ok (.iload_n 0, 1) := by decide +kernel
theorem dX11_hasBit_1 : decode cX11_hasBit 1 = .ok (.iload_n 1, 1) := by decide +kernel
theorem dX11_hasBit_2 : decode cX11_hasBit 2 = .ok (.ishr, 1) := by decide +kernel
theorem dX11_hasBit_3 : decode cX11_hasBit 3 = .ok (.iconst 1, 1) := by decide +kernel
theorem dX11_hasBit_4 : decode cX11_hasBit 4 = .ok (.iand, 1) := by decide +kernel
theorem dX11_hasBit_5 : decode cX11_hasBit 5 = .ok (.ifCond .eq 7, 3) := by decide +kernel
theorem dX11_hasBit_8 : decode cX11_hasBit 8 = .ok (.iconst 1, 1) := by decide +kernel
theorem dX11_hasBit_9 : decode cX11_hasBit 9 = .ok (.goto 4, 3) := by decide +kernel
theorem dX11_hasBit_12 : decode cX11_hasBit 12 = .ok (.iconst 0, 1) := by decide +kernel
theorem dX11_hasBit_13 : decode cX11_hasBit 13 = .ok (.ireturn, 1) := by decide +kernel
theorem dX11_isHour_0 : decode cX11_isHour 0 = .ok (.iload_n 0, 1) := by decide +kernel
theorem dX11_isHour_1 : decode cX11_isHour 1 = .ok (.ifCond .lt 14, 3) := by decide +kernel
theorem dX11_isHour_4 : decode cX11_isHour 4 = .ok (.iload_n 0, 1) := by decide +kernel
theorem dX11_isHour_5 : decode cX11_isHour 5 = .ok (.sipush 400, 3) := by decide +kernel
theorem dX11_isHour_8 : decode cX11_isHour 8 = .ok (.if_icmp .ge 7, 3) := by decide +kernel
theorem dX11_isHour_11 : decode cX11_isHour 11 = .ok (.iconst 1, 1) := by decide +kernel
theorem dX11_isHour_12 : decode cX11_isHour 12 = .ok (.goto 4, 3) := by decide +kernel
theorem dX11_isHour_15 : decode cX11_isHour 15 = .ok (.iconst 0, 1) := by decide +kernel
theorem dX11_isHour_16 : decode cX11_isHour 16 = .ok (.ireturn, 1) := by decide +kernel
theorem dX11_isSeed_0 : decode cX11_isSeed 0 = .ok (.iload_n 0, 1) := by decide +kernel
theorem dX11_isSeed_1 : decode cX11_isSeed 1 = .ok (.ifCond .lt 14, 3) := by decide +kernel
theorem dX11_isSeed_4 : decode cX11_isSeed 4 = .ok (.iload_n 0, 1) := by decide +kernel
theorem dX11_isSeed_5 : decode cX11_isSeed 5 = .ok (.ldc_w 391, 3) := by decide +kernel
theorem dX11_isSeed_8 : decode cX11_isSeed 8 = .ok (.if_icmp .gt 7, 3) := by decide +kernel
theorem dX11_isSeed_11 : decode cX11_isSeed 11 = .ok (.iconst 1, 1) := by decide +kernel
theorem dX11_isSeed_12 : decode cX11_isSeed 12 = .ok (.goto 4, 3) := by decide +kernel
theorem dX11_isSeed_15 : decode cX11_isSeed 15 = .ok (.iconst 0, 1) := by decide +kernel
theorem dX11_isSeed_16 : decode cX11_isSeed 16 = .ok (.ireturn, 1) := by decide +kernel
theorem dX11_commonDivisor_0 : decode cX11_commonDivisor 0 = .ok (.iload_n 0, 1) := by decide +kernel
theorem dX11_commonDivisor_1 : decode cX11_commonDivisor 1 = .ok (.istore_n 2, 1) := by decide +kernel
theorem dX11_commonDivisor_2 : decode cX11_commonDivisor 2 = .ok (.iload_n 1, 1) := by decide +kernel
theorem dX11_commonDivisor_3 : decode cX11_commonDivisor 3 = .ok (.istore_n 3, 1) := by decide +kernel
theorem dX11_commonDivisor_4 : decode cX11_commonDivisor 4 = .ok (.iconst 0, 1) := by decide +kernel
theorem dX11_commonDivisor_5 : decode cX11_commonDivisor 5 = .ok (.istore 4, 2) := by decide +kernel
theorem dX11_commonDivisor_7 : decode cX11_commonDivisor 7 = .ok (.iload 4, 2) := by decide +kernel
theorem dX11_commonDivisor_9 : decode cX11_commonDivisor 9 = .ok (.bipush 64, 2) := by decide +kernel
theorem dX11_commonDivisor_11 : decode cX11_commonDivisor 11 = .ok (.if_icmp .ge 23, 3) := by decide +kernel
theorem dX11_commonDivisor_14 : decode cX11_commonDivisor 14 = .ok (.iload_n 3, 1) := by decide +kernel
theorem dX11_commonDivisor_15 : decode cX11_commonDivisor 15 = .ok (.ifCond .eq 19, 3) := by decide +kernel
theorem dX11_commonDivisor_18 : decode cX11_commonDivisor 18 = .ok (.iload_n 2, 1) := by decide +kernel
theorem dX11_commonDivisor_19 : decode cX11_commonDivisor 19 = .ok (.iload_n 3, 1) := by decide +kernel
theorem dX11_commonDivisor_20 : decode cX11_commonDivisor 20 = .ok (.irem, 1) := by decide +kernel
theorem dX11_commonDivisor_21 : decode cX11_commonDivisor 21 = .ok (.istore 5, 2) := by decide +kernel
theorem dX11_commonDivisor_23 : decode cX11_commonDivisor 23 = .ok (.iload_n 3, 1) := by decide +kernel
theorem dX11_commonDivisor_24 : decode cX11_commonDivisor 24 = .ok (.istore_n 2, 1) := by decide +kernel
theorem dX11_commonDivisor_25 : decode cX11_commonDivisor 25 = .ok (.iload 5, 2) := by decide +kernel
theorem dX11_commonDivisor_27 : decode cX11_commonDivisor 27 = .ok (.istore_n 3, 1) := by decide +kernel
theorem dX11_commonDivisor_28 : decode cX11_commonDivisor 28 = .ok (.iinc 4 1, 3) := by decide +kernel
theorem dX11_commonDivisor_31 : decode cX11_commonDivisor 31 = .ok (.goto (-24), 3) := by decide +kernel
theorem dX11_commonDivisor_34 : decode cX11_commonDivisor 34 = .ok (.iload_n 2, 1) := by decide +kernel
theorem dX11_commonDivisor_35 : decode cX11_commonDivisor 35 = .ok (.ireturn, 1) := by decide +kernel
theorem dX11_planChanged_0 : decode cX11_planChanged 0 = .ok (.aload_n 0, 1) := by decide +kernel
theorem dX11_planChanged_1 : decode cX11_planChanged 1 = .ok (.getfield 35, 3) := by decide +kernel
theorem dX11_planChanged_4 : decode cX11_planChanged 4 = .ok (.aload_n 0, 1) := by decide +kernel
theorem dX11_planChanged_5 : decode cX11_planChanged 5 = .ok (.getfield 28, 3) := by decide +kernel
theorem dX11_planChanged_8 : decode cX11_planChanged 8 = .ok (.invokevirtual 392, 3) := by decide +kernel
theorem dX11_planChanged_11 : decode cX11_planChanged 11 = .ok (.aload_n 0, 1) := by decide +kernel
theorem dX11_planChanged_12 : decode cX11_planChanged 12 = .ok (.iconst 0, 1) := by decide +kernel
theorem dX11_planChanged_13 : decode cX11_planChanged 13 = .ok (.putfield 264, 3) := by decide +kernel
theorem dX11_planChanged_16 : decode cX11_planChanged 16 = .ok (.aload_n 0, 1) := by decide +kernel
theorem dX11_planChanged_17 : decode cX11_planChanged 17 = .ok (.invokevirtual 217, 3) := by decide +kernel
theorem dX11_planChanged_20 : decode cX11_planChanged 20 = .ok (.return_, 1) := by decide +kernel
theorem dX11_retrace_0 : decode cX11_retrace 0 = .ok (.aload_n 0, 1) := by decide +kernel
theorem dX11_retrace_1 : decode cX11_retrace 1 = .ok (.getfield 44, 3) := by decide +kernel
theorem dX11_retrace_4 : decode cX11_retrace 4 = .ok (.aload_n 0, 1) := by decide +kernel
theorem dX11_retrace_5 : decode cX11_retrace 5 = .ok (.getfield 28, 3) := by decide +kernel
theorem dX11_retrace_8 : decode cX11_retrace 8 = .ok (.getfield 362, 3) := by decide +kernel
theorem dX11_retrace_11 : decode cX11_retrace 11 = .ok (.invokevirtual 395, 3) := by decide +kernel
theorem dX11_retrace_14 : decode cX11_retrace 14 = .ok (.iconst 0, 1) := by decide +kernel
theorem dX11_retrace_15 : decode cX11_retrace 15 = .ok (.istore_n 1, 1) := by decide +kernel
theorem dX11_retrace_16 : decode cX11_retrace 16 = .ok (.iload_n 1, 1) := by decide +kernel
theorem dX11_retrace_17 : decode cX11_retrace 17 = .ok (.aload_n 0, 1) := by decide +kernel
theorem dX11_retrace_18 : decode cX11_retrace 18 = .ok (.getfield 28, 3) := by decide +kernel
theorem dX11_retrace_21 : decode cX11_retrace 21 = .ok (.getfield 214, 3) := by decide +kernel
theorem dX11_retrace_24 : decode cX11_retrace 24 = .ok (.if_icmp .ge 60, 3) := by decide +kernel
theorem dX11_retrace_27 : decode cX11_retrace 27 = .ok (.aload_n 0, 1) := by decide +kernel
theorem dX11_retrace_28 : decode cX11_retrace 28 = .ok (.getfield 28, 3) := by decide +kernel
theorem dX11_retrace_31 : decode cX11_retrace 31 = .ok (.getfield 220, 3) := by decide +kernel
theorem dX11_retrace_34 : decode cX11_retrace 34 = .ok (.iload_n 1, 1) := by decide +kernel
theorem dX11_retrace_35 : decode cX11_retrace 35 = .ok (.iaload, 1) := by decide +kernel
theorem dX11_retrace_36 : decode cX11_retrace 36 = .ok (.istore_n 2, 1) := by decide +kernel
theorem dX11_retrace_37 : decode cX11_retrace 37 = .ok (.iload_n 2, 1) := by decide +kernel
theorem dX11_retrace_38 : decode cX11_retrace 38 = .ok (.bipush 10, 2) := by decide +kernel
theorem dX11_retrace_40 : decode cX11_retrace 40 = .ok (.if_icmp .ge 22, 3) := by decide +kernel
theorem dX11_retrace_43 : decode cX11_retrace 43 = .ok (.aload_n 0, 1) := by decide +kernel
theorem dX11_retrace_44 : decode cX11_retrace 44 = .ok (.getfield 44, 3) := by decide +kernel
theorem dX11_retrace_47 : decode cX11_retrace 47 = .ok (.iload_n 2, 1) := by decide +kernel
theorem dX11_retrace_48 : decode cX11_retrace 48 = .ok (.aload_n 0, 1) := by decide +kernel
theorem dX11_retrace_49 : decode cX11_retrace 49 = .ok (.getfield 44, 3) := by decide +kernel
theorem dX11_retrace_52 : decode cX11_retrace 52 = .ok (.iload_n 2, 1) := by decide +kernel
theorem dX11_retrace_53 : decode cX11_retrace 53 = .ok (.invokevirtual 195, 3) := by decide +kernel
theorem dX11_retrace_56 : decode cX11_retrace 56 = .ok (.invokevirtual 207, 3) := by decide +kernel
theorem dX11_retrace_59 : decode cX11_retrace 59 = .ok (.goto 19, 3) := by decide +kernel
theorem dX11_retrace_62 : decode cX11_retrace 62 = .ok (.aload_n 0, 1) := by decide +kernel
theorem dX11_retrace_63 : decode cX11_retrace 63 = .ok (.getfield 44, 3) := by decide +kernel
theorem dX11_retrace_66 : decode cX11_retrace 66 = .ok (.dup, 1) := by decide +kernel
theorem dX11_retrace_67 : decode cX11_retrace 67 = .ok (.getfield 177, 3) := by decide +kernel
theorem dX11_retrace_70 : decode cX11_retrace 70 = .ok (.iload_n 2, 1) := by decide +kernel
theorem dX11_retrace_71 : decode cX11_retrace 71 = .ok (.bipush 10, 2) := by decide +kernel
theorem dX11_retrace_73 : decode cX11_retrace 73 = .ok (.isub, 1) := by decide +kernel
theorem dX11_retrace_74 : decode cX11_retrace 74 = .ok (.iadd, 1) := by decide +kernel
theorem dX11_retrace_75 : decode cX11_retrace 75 = .ok (.putfield 177, 3) := by decide +kernel
theorem dX11_retrace_78 : decode cX11_retrace 78 = .ok (.iinc 1 1, 3) := by decide +kernel
theorem dX11_retrace_81 : decode cX11_retrace 81 = .ok (.goto (-65), 3) := by decide +kernel
theorem dX11_retrace_84 : decode cX11_retrace 84 = .ok (.aload_n 0, 1) := by decide +kernel
theorem dX11_retrace_85 : decode cX11_retrace 85 = .ok (.invokevirtual 211, 3) := by decide +kernel
theorem dX11_retrace_88 : decode cX11_retrace 88 = .ok (.return_, 1) := by decide +kernel
theorem dX11_forgetAll_0 : decode cX11_forgetAll 0 = .ok (.aload_n 0, 1) := by decide +kernel
theorem dX11_forgetAll_1 : decode cX11_forgetAll 1 = .ok (.iconst 0, 1) := by decide +kernel
theorem dX11_forgetAll_2 : decode cX11_forgetAll 2 = .ok (.putfield 264, 3) := by decide +kernel
theorem dX11_forgetAll_5 : decode cX11_forgetAll 5 = .ok (.aload_n 0, 1) := by decide +kernel
theorem dX11_forgetAll_6 : decode cX11_forgetAll 6 = .ok (.invokevirtual 211, 3) := by decide +kernel
theorem dX11_forgetAll_9 : decode cX11_forgetAll 9 = .ok (.return_, 1) := by decide +kernel
theorem dX11_forgetRows_0 : decode cX11_forgetRows 0 = .ok (.aload_n 0, 1) := by decide +kernel
theorem dX11_forgetRows_1 : decode cX11_forgetRows 1 = .ok (.getfield 56, 3) := by decide +kernel
theorem dX11_forgetRows_4 : decode cX11_forgetRows 4 = .ok (.iconst 0, 1) := by decide +kernel
theorem dX11_forgetRows_5 : decode cX11_forgetRows 5 = .ok (.putfield 398, 3) := by decide +kernel
theorem dX11_forgetRows_8 : decode cX11_forgetRows 8 = .ok (.aload_n 0, 1) := by decide +kernel
theorem dX11_forgetRows_9 : decode cX11_forgetRows 9 = .ok (.getfield 60, 3) := by decide +kernel
theorem dX11_forgetRows_12 : decode cX11_forgetRows 12 = .ok (.iconst 0, 1) := by decide +kernel
theorem dX11_forgetRows_13 : decode cX11_forgetRows 13 = .ok (.putfield 398, 3) := by decide +kernel
theorem dX11_forgetRows_16 : decode cX11_forgetRows 16 = .ok (.return_, 1) := by decide +kernel
theorem dX11_soonRows_0 : decode cX11_soonRows 0 = .ok (.aload_n 0, 1) := by decide +kernel
theorem dX11_soonRows_1 : decode cX11_soonRows 1 = .ok (.getfield 56, 3) := by decide +kernel
theorem dX11_soonRows_4 : decode cX11_soonRows 4 = .ok (.getfield 398, 3) := by decide +kernel
theorem dX11_soonRows_7 : decode cX11_soonRows 7 = .ok (.ifCond .ne 16, 3) := by decide +kernel
theorem dX11_soonRows_10 : decode cX11_soonRows 10 = .ok (.aload_n 0, 1) := by decide +kernel
theorem dX11_soonRows_11 : decode cX11_soonRows 11 = .ok (.getfield 56, 3) := by decide +kernel
theorem dX11_soonRows_14 : decode cX11_soonRows 14 = .ok (.aload_n 0, 1) := by decide +kernel
theorem dX11_soonRows_15 : decode cX11_soonRows 15 = .ok (.getfield 44, 3) := by decide +kernel
theorem dX11_soonRows_18 : decode cX11_soonRows 18 = .ok (.iconst (-1), 1) := by decide +kernel
theorem dX11_soonRows_19 : decode cX11_soonRows 19 = .ok (.iconst 0, 1) := by decide +kernel
theorem dX11_soonRows_20 : decode cX11_soonRows 20 = .ok (.invokevirtual 401, 3) := by decide +kernel
theorem dX11_soonRows_23 : decode cX11_soonRows 23 = .ok (.aload_n 0, 1) := by decide +kernel
theorem dX11_soonRows_24 : decode cX11_soonRows 24 = .ok (.getfield 56, 3) := by decide +kernel
theorem dX11_soonRows_27 : decode cX11_soonRows 27 = .ok (.areturn, 1) := by decide +kernel
theorem dX11_everyRow_0 : decode cX11_everyRow 0 = .ok (.aload_n 0, 1) := by decide +kernel
theorem dX11_everyRow_1 : decode cX11_everyRow 1 = .ok (.getfield 60, 3) := by decide +kernel
theorem dX11_everyRow_4 : decode cX11_everyRow 4 = .ok (.getfield 398, 3) := by decide +kernel
theorem dX11_everyRow_7 : decode cX11_everyRow 7 = .ok (.ifCond .ne 16, 3) := by decide +kernel
theorem dX11_everyRow_10 : decode cX11_everyRow 10 = .ok (.aload_n 0, 1) := by decide +kernel
theorem dX11_everyRow_11 : decode cX11_everyRow 11 = .ok (.getfield 60, 3) := by decide +kernel
theorem dX11_everyRow_14 : decode cX11_everyRow 14 = .ok (.aload_n 0, 1) := by decide +kernel
theorem dX11_everyRow_15 : decode cX11_everyRow 15 = .ok (.getfield 44, 3) := by decide +kernel
theorem dX11_everyRow_18 : decode cX11_everyRow 18 = .ok (.iconst (-1), 1) := by decide +kernel
theorem dX11_everyRow_19 : decode cX11_everyRow 19 = .ok (.iconst 1, 1) := by decide +kernel
theorem dX11_everyRow_20 : decode cX11_everyRow 20 = .ok (.invokevirtual 401, 3) := by decide +kernel
theorem dX11_everyRow_23 : decode cX11_everyRow 23 = .ok (.aload_n 0, 1) := by decide +kernel
theorem dX11_everyRow_24 : decode cX11_everyRow 24 = .ok (.getfield 60, 3) := by decide +kernel
theorem dX11_everyRow_27 : decode cX11_everyRow 27 = .ok (.areturn, 1) := by decide +kernel
theorem dX11_knownSets_0 : decode cX11_knownSets 0 = .ok (.aload_n 0, 1) := by decide +kernel
theorem dX11_knownSets_1 : decode cX11_knownSets 1 = .ok (.getfield 69, 3) := by decide +kernel
theorem dX11_knownSets_4 : decode cX11_knownSets 4 = .ok (.aload_n 0, 1) := by decide +kernel
theorem dX11_knownSets_5 : decode cX11_knownSets 5 = .ok (.getfield 28, 3) := by decide +kernel
theorem dX11_knownSets_8 : decode cX11_knownSets 8 = .ok (.invokevirtual 405, 3) := by decide +kernel
theorem dX11_knownSets_11 : decode cX11_knownSets 11 = .ok (.aload_n 0, 1) := by decide +kernel
theorem dX11_knownSets_12 : decode cX11_knownSets 12 = .ok (.getfield 69, 3) := by decide +kernel
theorem dX11_knownSets_15 : decode cX11_knownSets 15 = .ok (.areturn, 1) := by decide +kernel
theorem dX11_findStart_0 : decode cX11_findStart 0 = .ok (.aload_n 0, 1) := by decide +kernel
theorem dX11_findStart_1 : decode cX11_findStart 1 = .ok (.iconst (-1), 1) := by decide +kernel
theorem dX11_findStart_2 : decode cX11_findStart 2 = .ok (.putfield 271, 3) := by decide +kernel
theorem dX11_findStart_5 : decode cX11_findStart 5 = .ok (.aload_n 0, 1) := by decide +kernel
theorem dX11_findStart_6 : decode cX11_findStart 6 = .ok (.iconst (-1), 1) := by decide +kernel
theorem dX11_findStart_7 : decode cX11_findStart 7 = .ok (.putfield 274, 3) := by decide +kernel
theorem dX11_findStart_10 : decode cX11_findStart 10 = .ok (.iconst 0, 1) := by decide +kernel
theorem dX11_findStart_11 : decode cX11_findStart 11 = .ok (.istore_n 1, 1) := by decide +kernel
theorem dX11_findStart_12 : decode cX11_findStart 12 = .ok (.iload_n 1, 1) := by decide +kernel
theorem dX11_findStart_13 : decode cX11_findStart 13 = .ok (.bipush 50, 2) := by decide +kernel
theorem dX11_findStart_15 : decode cX11_findStart 15 = .ok (.if_icmp .ge 77, 3) := by decide +kernel
theorem dX11_findStart_18 : decode cX11_findStart 18 = .ok (.aload_n 0, 1) := by decide +kernel
theorem dX11_findStart_19 : decode cX11_findStart 19 = .ok (.getfield 48, 3) := by decide +kernel
theorem dX11_findStart_22 : decode cX11_findStart 22 = .ok (.iload_n 1, 1) := by decide +kernel
theorem dX11_findStart_23 : decode cX11_findStart 23 = .ok (.invokevirtual 395, 3) := by decide +kernel
theorem dX11_findStart_26 : decode cX11_findStart 26 = .ok (.aload_n 0, 1) := by decide +kernel
theorem dX11_findStart_27 : decode cX11_findStart 27 = .ok (.getfield 63, 3) := by decide +kernel
theorem dX11_findStart_30 : decode cX11_findStart 30 = .ok (.aload_n 0, 1) := by decide +kernel
theorem dX11_findStart_31 : decode cX11_findStart 31 = .ok (.getfield 48, 3) := by decide +kernel
theorem dX11_findStart_34 : decode cX11_findStart 34 = .ok (.iconst (-1), 1) := by decide +kernel
theorem dX11_findStart_35 : decode cX11_findStart 35 = .ok (.iconst 0, 1) := by decide +kernel
theorem dX11_findStart_36 : decode cX11_findStart 36 = .ok (.invokevirtual 401, 3) := by decide +kernel
theorem dX11_findStart_39 : decode cX11_findStart 39 = .ok (.aload_n 0, 1) := by decide +kernel
theorem dX11_findStart_40 : decode cX11_findStart 40 = .ok (.getfield 63, 3) := by decide +kernel
theorem dX11_findStart_43 : decode cX11_findStart 43 = .ok (.iconst 0, 1) := by decide +kernel
theorem dX11_findStart_44 : decode cX11_findStart 44 = .ok (.invokevirtual 237, 3) := by decide +kernel
theorem dX11_findStart_47 : decode cX11_findStart 47 = .ok (.iload_n 1, 1) := by decide +kernel
theorem dX11_findStart_48 : decode cX11_findStart 48 = .ok (.isub, 1) := by decide +kernel
theorem dX11_findStart_49 : decode cX11_findStart 49 = .ok (.istore_n 2, 1) := by decide +kernel
theorem dX11_findStart_50 : decode cX11_findStart 50 = .ok (.aload_n 0, 1) := by decide +kernel
theorem dX11_findStart_51 : decode cX11_findStart 51 = .ok (.getfield 63, 3) := by decide +kernel
theorem dX11_findStart_54 : decode cX11_findStart 54 = .ok (.getfield 252, 3) := by decide +kernel
theorem dX11_findStart_57 : decode cX11_findStart 57 = .ok (.ifCond .le 29, 3) := by decide +kernel
theorem dX11_findStart_60 : decode cX11_findStart 60 = .ok (.aload_n 0, 1) := by decide +kernel
theorem dX11_findStart_61 : decode cX11_findStart 61 = .ok (.getfield 271, 3) := by decide +kernel
theorem dX11_findStart_64 : decode cX11_findStart 64 = .ok (.iconst (-1), 1) := by decide +kernel
theorem dX11_findStart_65 : decode cX11_findStart 65 = .ok (.if_icmp .eq 11, 3) := by decide +kernel
theorem dX11_findStart_68 : decode cX11_findStart 68 = .ok (.iload_n 2, 1) := by decide +kernel
theorem dX11_findStart_69 : decode cX11_findStart 69 = .ok (.aload_n 0, 1) := by decide +kernel
theorem dX11_findStart_70 : decode cX11_findStart 70 = .ok (.getfield 274, 3) := by decide +kernel
theorem dX11_findStart_73 : decode cX11_findStart 73 = .ok (.if_icmp .ge 13, 3) := by decide +kernel
theorem dX11_findStart_76 : decode cX11_findStart 76 = .ok (.aload_n 0, 1) := by decide +kernel
theorem dX11_findStart_77 : decode cX11_findStart 77 = .ok (.iload_n 1, 1) := by decide +kernel
theorem dX11_findStart_78 : decode cX11_findStart 78 = .ok (.putfield 271, 3) := by decide +kernel
theorem dX11_findStart_81 : decode cX11_findStart 81 = .ok (.aload_n 0, 1) := by decide +kernel
theorem dX11_findStart_82 : decode cX11_findStart 82 = .ok (.iload_n 2, 1) := by decide +kernel
theorem dX11_findStart_83 : decode cX11_findStart 83 = .ok (.putfield 274, 3) := by decide +kernel
theorem dX11_findStart_86 : decode cX11_findStart 86 = .ok (.iinc 1 1, 3) := by decide +kernel
theorem dX11_findStart_89 : decode cX11_findStart 89 = .ok (.goto (-77), 3) := by decide +kernel
theorem dX11_findStart_92 : decode cX11_findStart 92 = .ok (.aload_n 0, 1) := by decide +kernel
theorem dX11_findStart_93 : decode cX11_findStart 93 = .ok (.iconst 1, 1) := by decide +kernel
theorem dX11_findStart_94 : decode cX11_findStart 94 = .ok (.putfield 264, 3) := by decide +kernel
theorem dX11_findStart_97 : decode cX11_findStart 97 = .ok (.return_, 1) := by decide +kernel
theorem dX11_soonerBy_0 : decode cX11_soonerBy 0 = .ok (.iload_n 2, 1) := by decide +kernel
theorem dX11_soonerBy_1 : decode cX11_soonerBy 1 = .ok (.iconst (-1), 1) := by decide +kernel
theorem dX11_soonerBy_2 : decode cX11_soonerBy 2 = .ok (.if_icmp .ne 7, 3) := by decide +kernel
theorem dX11_soonerBy_5 : decode cX11_soonerBy 5 = .ok (.sipush (-1000), 3) := by decide +kernel
theorem dX11_soonerBy_8 : decode cX11_soonerBy 8 = .ok (.ireturn, 1) := by decide +kernel
theorem dX11_soonerBy_9 : decode cX11_soonerBy 9 = .ok (.aload_n 0, 1) := by decide +kernel
theorem dX11_soonerBy_10 : decode cX11_soonerBy 10 = .ok (.getfield 63, 3) := by decide +kernel
theorem dX11_soonerBy_13 : decode cX11_soonerBy 13 = .ok (.aload_n 0, 1) := by decide +kernel
theorem dX11_soonerBy_14 : decode cX11_soonerBy 14 = .ok (.getfield 44, 3) := by decide +kernel
theorem dX11_soonerBy_17 : decode cX11_soonerBy 17 = .ok (.iload_n 1, 1) := by decide +kernel
theorem dX11_soonerBy_18 : decode cX11_soonerBy 18 = .ok (.iconst 0, 1) := by decide +kernel
theorem dX11_soonerBy_19 : decode cX11_soonerBy 19 = .ok (.invokevirtual 401, 3) := by decide +kernel
theorem dX11_soonerBy_22 : decode cX11_soonerBy 22 = .ok (.aload_n 0, 1) := by decide +kernel
theorem dX11_soonerBy_23 : decode cX11_soonerBy 23 = .ok (.getfield 63, 3) := by decide +kernel
theorem dX11_soonerBy_26 : decode cX11_soonerBy 26 = .ok (.iconst 0, 1) := by decide +kernel
theorem dX11_soonerBy_27 : decode cX11_soonerBy 27 = .ok (.invokevirtual 237, 3) := by decide +kernel
theorem dX11_soonerBy_30 : decode cX11_soonerBy 30 = .ok (.istore_n 3, 1) := by decide +kernel
theorem dX11_soonerBy_31 : decode cX11_soonerBy 31 = .ok (.iload_n 3, 1) := by decide +kernel
theorem dX11_soonerBy_32 : decode cX11_soonerBy 32 = .ok (.iconst (-1), 1) := by decide +kernel
theorem dX11_soonerBy_33 : decode cX11_soonerBy 33 = .ok (.if_icmp .ne 9, 3) := by decide +kernel
theorem dX11_soonerBy_36 : decode cX11_soonerBy 36 = .ok (.sipush (-1000), 3) := by decide +kernel
theorem dX11_soonerBy_39 : decode cX11_soonerBy 39 = .ok (.goto 6, 3) := by decide +kernel
theorem dX11_soonerBy_42 : decode cX11_soonerBy 42 = .ok (.iload_n 2, 1) := by decide +kernel
theorem dX11_soonerBy_43 : decode cX11_soonerBy 43 = .ok (.iload_n 3, 1) := by decide +kernel
theorem dX11_soonerBy_44 : decode cX11_soonerBy 44 = .ok (.isub, 1) := by decide +kernel
theorem dX11_soonerBy_45 : decode cX11_soonerBy 45 = .ok (.ireturn, 1) := by decide +kernel
theorem dX11_refusal_0 : decode cX11_refusal 0 = .ok (.aload_n 0, 1) := by decide +kernel
theorem dX11_refusal_1 : decode cX11_refusal 1 = .ok (.getfield 83, 3) := by decide +kernel
theorem dX11_refusal_4 : decode cX11_refusal 4 = .ok (.iload_n 1, 1) := by decide +kernel
theorem dX11_refusal_5 : decode cX11_refusal 5 = .ok (.invokevirtual 366, 3) := by decide +kernel
theorem dX11_refusal_8 : decode cX11_refusal 8 = .ok (.ifCond .eq 13, 3) := by decide +kernel
theorem dX11_refusal_11 : decode cX11_refusal 11 = .ok (.aload_n 0, 1) := by decide +kernel
theorem dX11_refusal_12 : decode cX11_refusal 12 = .ok (.getfield 28, 3) := by decide +kernel
theorem dX11_refusal_15 : decode cX11_refusal 15 = .ok (.invokevirtual 170, 3) := by decide +kernel
theorem dX11_refusal_18 : decode cX11_refusal 18 = .ok (.ifCond .ne 6, 3) := by decide +kernel
theorem dX11_refusal_21 : decode cX11_refusal 21 = .ok (.bipush (-2), 2) := by decide +kernel
theorem dX11_refusal_23 : decode cX11_refusal 23 = .ok (.ireturn, 1) := by decide +kernel
theorem dX11_refusal_24 : decode cX11_refusal 24 = .ok (.aload_n 0, 1) := by decide +kernel
theorem dX11_refusal_25 : decode cX11_refusal 25 = .ok (.getfield 83, 3) := by decide +kernel
theorem dX11_refusal_28 : decode cX11_refusal 28 = .ok (.iload_n 1, 1) := by decide +kernel
theorem dX11_refusal_29 : decode cX11_refusal 29 = .ok (.invokevirtual 373, 3) := by decide +kernel
theorem dX11_refusal_32 : decode cX11_refusal 32 = .ok (.ifCond .ne 6, 3) := by decide +kernel
theorem dX11_refusal_35 : decode cX11_refusal 35 = .ok (.bipush (-6), 2) := by decide +kernel
theorem dX11_refusal_37 : decode cX11_refusal 37 = .ok (.ireturn, 1) := by decide +kernel
theorem dX11_refusal_38 : decode cX11_refusal 38 = .ok (.aload_n 0, 1) := by decide +kernel
theorem dX11_refusal_39 : decode cX11_refusal 39 = .ok (.getfield 83, 3) := by decide +kernel
theorem dX11_refusal_42 : decode cX11_refusal 42 = .ok (.iload_n 1, 1) := by decide +kernel
theorem dX11_refusal_43 : decode cX11_refusal 43 = .ok (.aload_n 0, 1) := by decide +kernel
theorem dX11_refusal_44 : decode cX11_refusal 44 = .ok (.getfield 28, 3) := by decide +kernel
theorem dX11_refusal_47 : decode cX11_refusal 47 = .ok (.getfield 144, 3) := by decide +kernel
theorem dX11_refusal_50 : decode cX11_refusal 50 = .ok (.invokevirtual 408, 3) := by decide +kernel
theorem dX11_refusal_53 : decode cX11_refusal 53 = .ok (.ifCond .eq 7, 3) := by decide +kernel
theorem dX11_refusal_56 : decode cX11_refusal 56 = .ok (.iconst 0, 1) := by decide +kernel
theorem dX11_refusal_57 : decode cX11_refusal 57 = .ok (.goto 5, 3) := by decide +kernel
theorem dX11_refusal_60 : decode cX11_refusal 60 = .ok (.bipush (-2), 2) := by decide +kernel
theorem dX11_refusal_62 : decode cX11_refusal 62 = .ok (.ireturn, 1) := by decide +kernel
theorem dX12_init_0 : decode cX12_init 0 = .ok (.aload_n 0, 1) := by decide +kernel
theorem dX12_init_1 : decode cX12_init 1 = .ok (.invokespecial 1, 3) := by decide +kernel
theorem dX12_init_4 : decode cX12_init 4 = .ok (.aload_n 0, 1) := by decide +kernel
theorem dX12_init_5 : decode cX12_init 5 = .ok (.iconst 4, 1) := by decide +kernel
theorem dX12_init_6 : decode cX12_init 6 = .ok (.newarray .int, 2) := by decide +kernel
theorem dX12_init_8 : decode cX12_init 8 = .ok (.putfield 7, 3) := by decide +kernel
theorem dX12_init_11 : decode cX12_init 11 = .ok (.aload_n 0, 1) := by decide +kernel
theorem dX12_init_12 : decode cX12_init 12 = .ok (.iconst 4, 1) := by decide +kernel
theorem dX12_init_13 : decode cX12_init 13 = .ok (.newarray .int, 2) := by decide +kernel
theorem dX12_init_15 : decode cX12_init 15 = .ok (.putfield 13, 3) := by decide +kernel
theorem dX12_init_18 : decode cX12_init 18 = .ok (.aload_n 0, 1) := by decide +kernel
theorem dX12_init_19 : decode cX12_init 19 = .ok (.sipush 240, 3) := by decide +kernel
theorem dX12_init_22 : decode cX12_init 22 = .ok (.newarray .long, 2) := by decide +kernel
theorem dX12_init_24 : decode cX12_init 24 = .ok (.putfield 16, 3) := by decide +kernel
theorem dX12_init_27 : decode cX12_init 27 = .ok (.aload_n 0, 1) := by decide +kernel
theorem dX12_init_28 : decode cX12_init 28 = .ok (.bipush 60, 2) := by decide +kernel
theorem dX12_init_30 : decode cX12_init 30 = .ok (.newarray .long, 2) := by decide +kernel
theorem dX12_init_32 : decode cX12_init 32 = .ok (.putfield 20, 3) := by decide +kernel
theorem dX12_init_35 : decode cX12_init 35 = .ok (.aload_n 0, 1) := by decide +kernel
theorem dX12_init_36 : decode cX12_init 36 = .ok (.sipush 1600, 3) := by decide +kernel
theorem dX12_init_39 : decode cX12_init 39 = .ok (.newarray .byte, 2) := by decide +kernel
theorem dX12_init_41 : decode cX12_init 41 = .ok (.putfield 23, 3) := by decide +kernel
theorem dX12_init_44 : decode cX12_init 44 = .ok (.aload_n 0, 1) := by decide +kernel
theorem dX12_init_45 : decode cX12_init 45 = .ok (.iconst (-1), 1) := by decide +kernel
theorem dX12_init_46 : decode cX12_init 46 = .ok (.putfield 27, 3) := by decide +kernel
theorem dX12_init_49 : decode cX12_init 49 = .ok (.aload_n 0, 1) := by decide +kernel
theorem dX12_init_50 : decode cX12_init 50 = .ok (.iconst 5, 1) := by decide +kernel
theorem dX12_init_51 : decode cX12_init 51 = .ok (.newarray .int, 2) := by decide +kernel
theorem dX12_init_53 : decode cX12_init 53 = .ok (.putfield 31, 3) := by decide +kernel
theorem dX12_init_56 : decode cX12_init 56 = .ok (.aload_n 0, 1) := by decide +kernel
theorem dX12_init_57 : decode cX12_init 57 = .ok (.bipush 30, 2) := by decide +kernel
theorem dX12_init_59 : decode cX12_init 59 = .ok (.newarray .int, 2) := by decide +kernel
theorem dX12_init_61 : decode cX12_init 61 = .ok (.putfield 34, 3) := by decide +kernel
theorem dX12_init_64 : decode cX12_init 64 = .ok (.aload_n 0, 1) := by decide +kernel
theorem dX12_init_65 : decode cX12_init 65 = .ok (.sipush 360, 3) := by decide +kernel
theorem dX12_init_68 : decode cX12_init 68 = .ok (.newarray .int, 2) := by decide +kernel
theorem dX12_init_70 : decode cX12_init 70 = .ok (.putfield 37, 3) := by decide +kernel
theorem dX12_init_73 : decode cX12_init 73 = .ok (.aload_n 0, 1) := by decide +kernel
theorem dX12_init_74 : decode cX12_init 74 = .ok (.bipush 40, 2) := by decide +kernel
theorem dX12_init_76 : decode cX12_init 76 = .ok (.newarray .int, 2) := by decide +kernel
theorem dX12_init_78 : decode cX12_init 78 = .ok (.putfield 40, 3) := by decide +kernel
theorem dX12_init_81 : decode cX12_init 81 = .ok (.aload_n 0, 1) := by decide +kernel
theorem dX12_init_82 : decode cX12_init 82 = .ok (.bipush 40, 2) := by decide +kernel
theorem dX12_init_84 : decode cX12_init 84 = .ok (.newarray .int, 2) := by decide +kernel
theorem dX12_init_86 : decode cX12_init 86 = .ok (.putfield 43, 3) := by decide +kernel
theorem dX12_init_89 : decode cX12_init 89 = .ok (.aload_n 0, 1) := by decide +kernel
theorem dX12_init_90 : decode cX12_init 90 = .ok (.sipush 180, 3) := by decide +kernel
theorem dX12_init_93 : decode cX12_init 93 = .ok (.newarray .int, 2) := by decide +kernel
theorem dX12_init_95 : decode cX12_init 95 = .ok (.putfield 46, 3) := by decide +kernel
theorem dX12_init_98 : decode cX12_init 98 = .ok (.aload_n 0, 1) := by decide +kernel
theorem dX12_init_99 : decode cX12_init 99 = .ok (.sipush 200, 3) := by decide +kernel
theorem dX12_init_102 : decode cX12_init 102 = .ok (.newarray .int, 2) := by decide +kernel
theorem dX12_init_104 : decode cX12_init 104 = .ok (.putfield 49, 3) := by decide +kernel
theorem dX12_init_107 : decode cX12_init 107 = .ok (.aload_n 0, 1) := by decide +kernel
theorem dX12_init_108 : decode cX12_init 108 = .ok (.iconst 3, 1) := by decide +kernel
theorem dX12_init_109 : decode cX12_init 109 = .ok (.newarray .boolean, 2) := by decide +kernel
theorem dX12_init_111 : decode cX12_init 111 = .ok (.putfield 52, 3) := by decide +kernel
theorem dX12_init_114 : decode cX12_init 114 = .ok (.aload_n 0, 1) := by decide +kernel
theorem dX12_init_115 : decode cX12_init 115 = .ok (.bipush 36, 2) := by decide +kernel
theorem dX12_init_117 : decode cX12_init 117 = .ok (.newarray .int, 2) := by decide +kernel
theorem dX12_init_119 : decode cX12_init 119 = .ok (.putfield 56, 3) := by decide +kernel
theorem dX12_init_122 : decode cX12_init 122 = .ok (.aload_n 0, 1) := by decide +kernel
theorem dX12_init_123 : decode cX12_init 123 = .ok (.bipush 8, 2) := by decide +kernel
theorem dX12_init_125 : decode cX12_init 125 = .ok (.newarray .int, 2) := by decide +kernel
theorem dX12_init_127 : decode cX12_init 127 = .ok (.putfield 59, 3) := by decide +kernel
theorem dX12_init_130 : decode cX12_init 130 = .ok (.aload_n 0, 1) := by decide +kernel
theorem dX12_init_131 : decode cX12_init 131 = .ok (.sipush 3200, 3) := by decide +kernel
theorem dX12_init_134 : decode cX12_init 134 = .ok (.newarray .boolean, 2) := by decide +kernel
theorem dX12_init_136 : decode cX12_init 136 = .ok (.putfield 62, 3) := by decide +kernel
theorem dX12_init_139 : decode cX12_init 139 = .ok (.aload_n 0, 1) := by decide +kernel
theorem dX12_init_140 : decode cX12_init 140 = .ok (.bipush 9, 2) := by decide +kernel
theorem dX12_init_142 : decode cX12_init 142 = .ok (.newarray .int, 2) := by decide +kernel
theorem dX12_init_144 : decode cX12_init 144 = .ok (.putfield 65, 3) := by decide +kernel
theorem dX12_init_147 : decode cX12_init 147 = .ok (.aload_n 0, 1) := by decide +kernel
theorem dX12_init_148 : decode cX12_init 148 = .ok (.bipush 8, 2) := by decide +kernel
theorem dX12_init_150 : decode cX12_init 150 = .ok (.newarray .int, 2) := by decide +kernel
theorem dX12_init_152 : decode cX12_init 152 = .ok (.putfield 68, 3) := by decide +kernel
theorem dX12_init_155 : decode cX12_init 155 = .ok (.aload_n 0, 1) := by decide +kernel
theorem dX12_init_156 : decode cX12_init 156 = .ok (.bipush 8, 2) := by decide +kernel
theorem dX12_init_158 : decode cX12_init 158 = .ok (.newarray .int, 2) := by decide +kernel
theorem dX12_init_160 : decode cX12_init 160 = .ok (.putfield 71, 3) := by decide +kernel
theorem dX12_init_163 : decode cX12_init 163 = .ok (.aload_n 0, 1) := by decide +kernel
theorem dX12_init_164 : decode cX12_init 164 = .ok (.sipush 256, 3) := by decide +kernel
theorem dX12_init_167 : decode cX12_init 167 = .ok (.newarray .long, 2) := by decide +kernel
theorem dX12_init_169 : decode cX12_init 169 = .ok (.putfield 74, 3) := by decide +kernel
theorem dX12_init_172 : decode cX12_init 172 = .ok (.aload_n 0, 1) := by decide +kernel
theorem dX12_init_173 : decode cX12_init 173 = .ok (.bipush 8, 2) := by decide +kernel
theorem dX12_init_175 : decode cX12_init 175 = .ok (.newarray .int, 2) := by decide +kernel
theorem dX12_init_177 : decode cX12_init 177 = .ok (.putfield 77, 3) := by decide +kernel
theorem dX12_init_180 : decode cX12_init 180 = .ok (.aload_n 0, 1) := by decide +kernel
theorem dX12_init_181 : decode cX12_init 181 = .ok (.sipush 256, 3) := by decide +kernel
theorem dX12_init_184 : decode cX12_init 184 = .ok (.newarray .int, 2) := by decide +kernel
theorem dX12_init_186 : decode cX12_init 186 = .ok (.putfield 80, 3) := by decide +kernel
theorem dX12_init_189 : decode cX12_init 189 = .ok (.aload_n 0, 1) := by decide +kernel
theorem dX12_init_190 : decode cX12_init 190 = .ok (.bipush 8, 2) := by decide +kernel
theorem dX12_init_192 : decode cX12_init 192 = .ok (.newarray .int, 2) := by decide +kernel
theorem dX12_init_194 : decode cX12_init 194 = .ok (.putfield 83, 3) := by decide +kernel
theorem dX12_init_197 : decode cX12_init 197 = .ok (.aload_n 0, 1) := by decide +kernel
theorem dX12_init_198 : decode cX12_init 198 = .ok (.bipush 9, 2) := by decide +kernel
theorem dX12_init_200 : decode cX12_init 200 = .ok (.newarray .int, 2) := by decide +kernel
theorem dX12_init_202 : decode cX12_init 202 = .ok (.putfield 86, 3) := by decide +kernel
theorem dX12_init_205 : decode cX12_init 205 = .ok (.iconst 0, 1) := by decide +kernel
theorem dX12_init_206 : decode cX12_init 206 = .ok (.istore_n 1, 1) := by decide +kernel
theorem dX12_init_207 : decode cX12_init 207 = .ok (.iload_n 1, 1) := by decide +kernel
theorem dX12_init_208 : decode cX12_init 208 = .ok (.iconst 4, 1) := by decide +kernel
theorem dX12_init_209 : decode cX12_init 209 = .ok (.if_icmp .ge 16, 3) := by decide +kernel
theorem dX12_init_212 : decode cX12_init 212 = .ok (.aload_n 0, 1) := by decide +kernel
theorem dX12_init_213 : decode cX12_init 213 = .ok (.getfield 7, 3) := by decide +kernel
theorem dX12_init_216 : decode cX12_init 216 = .ok (.iload_n 1, 1) := by decide +kernel
theorem dX12_init_217 : decode cX12_init 217 = .ok (.iconst (-1), 1) := by decide +kernel
theorem dX12_init_218 : decode cX12_init 218 = .ok (.iastore, 1) := by decide +kernel
theorem dX12_init_219 : decode cX12_init 219 = .ok (.iinc 1 1, 3) := by decide +kernel
theorem dX12_init_222 : decode cX12_init 222 = .ok (.goto (-15), 3) := by decide +kernel
theorem dX12_init_225 : decode cX12_init 225 = .ok (.return_, 1) := by decide +kernel
theorem dX12_in_0 : decode cX12_in 0 = .ok (.lload_n 0, 1) := by decide +kernel
theorem dX12_in_1 : decode cX12_in 1 = .ok (.lload_n 2, 1) := by decide +kernel
theorem dX12_in_2 : decode cX12_in 2 = .ok (.lcmp, 1) := by decide +kernel
theorem dX12_in_3 : decode cX12_in 3 = .ok (.ifCond .lt 14, 3) := by decide +kernel
theorem dX12_in_6 : decode cX12_in 6 = .ok (.lload_n 0, 1) := by decide +kernel
theorem dX12_in_7 : decode cX12_in 7 = .ok (.lload 4, 2) := by decide +kernel
theorem dX12_in_9 : decode cX12_in 9 = .ok (.lcmp, 1) := by decide +kernel
theorem dX12_in_10 : decode cX12_in 10 = .ok (.ifCond .gt 7, 3) := by decide +kernel
theorem dX12_in_13 : decode cX12_in 13 = .ok (.iconst 1, 1) := by decide +kernel
theorem dX12_in_14 : decode cX12_in 14 = .ok (.goto 4, 3) := by decide +kernel
theorem dX12_in_17 : decode cX12_in 17 = .ok (.iconst 0, 1) := by decide +kernel
theorem dX12_in_18 : decode cX12_in 18 = .ok (.ireturn, 1) := by decide +kernel
theorem dX12_isSlot_0 : decode cX12_isSlot 0 = .ok (.iload_n 0, 1) := by decide +kernel
theorem dX12_isSlot_1 : decode cX12_isSlot 1 = .ok (.i2l, 1) := by decide +kernel
theorem dX12_isSlot_2 : decode cX12_isSlot 2 = .ok (.lconst 0, 1) := by decide +kernel
theorem dX12_isSlot_3 : decode cX12_isSlot 3 = .ok (.ldc2_w 92, 3) := by decide +kernel
theorem dX12_isSlot_6 : decode cX12_isSlot 6 = .ok (.invokestatic 94, 3) := by decide +kernel
theorem dX12_isSlot_9 : decode cX12_isSlot 9 = .ok (.ireturn, 1) := by decide +kernel
theorem dX12_row_0 : decode cX12_row 0 = .ok (.aload_n 0, 1) := by decide +kernel
theorem dX12_row_1 : decode cX12_row 1 = .ok (.iconst 0, 1) := by decide +kernel
theorem dX12_row_2 : decode cX12_row 2 = .ok (.putfield 89, 3) := by decide +kernel
theorem dX12_row_5 : decode cX12_row 5 = .ok (.iload_n 1, 1) := by decide +kernel
theorem dX12_row_6 : decode cX12_row 6 = .ok (.invokestatic 98, 3) := by decide +kernel
theorem dX12_row_9 : decode cX12_row 9 = .ok (.ifCond .eq 21, 3) := by decide +kernel
theorem dX12_row_12 : decode cX12_row 12 = .ok (.iload_n 2, 1) := by decide +kernel
theorem dX12_row_13 : decode cX12_row 13 = .ok (.i2l, 1) := by decide +kernel
theorem dX12_row_14 : decode cX12_row 14 = .ok (.lconst 0, 1) := by decide +kernel
theorem dX12_row_15 : decode cX12_row 15 = .ok (.ldc2_w 92, 3) := by decide +kernel
theorem dX12_row_18 : decode cX12_row 18 = .ok (.invokestatic 94, 3) := by decide +kernel
theorem dX12_row_21 : decode cX12_row 21 = .ok (.ifCond .eq 9, 3) := by decide +kernel
theorem dX12_row_24 : decode cX12_row 24 = .ok (.iload_n 3, 1) := by decide +kernel
theorem dX12_row_25 : decode cX12_row 25 = .ok (.bipush 60, 2) := by decide +kernel
theorem dX12_row_27 : decode cX12_row 27 = .ok (.if_icmp .le 6, 3) := by decide +kernel
theorem dX12_row_30 : decode cX12_row 30 = .ok (.bipush (-2), 2) := by decide +kernel
theorem dX12_row_32 : decode cX12_row 32 = .ok (.ireturn, 1) := by decide +kernel
theorem dX12_row_33 : decode cX12_row 33 = .ok (.iload_n 3, 1) := by decide +kernel
theorem dX12_row_34 : decode cX12_row 34 = .ok (.ifCond .ge 6, 3) := by decide +kernel
theorem dX12_row_37 : decode cX12_row 37 = .ok (.bipush (-3), 2) := by decide +kernel
theorem dX12_row_39 : decode cX12_row 39 = .ok (.ireturn, 1) := by decide +kernel
theorem dX12_row_40 : decode cX12_row 40 = .ok (.aload_n 0, 1) := by decide +kernel
theorem dX12_row_41 : decode cX12_row 41 = .ok (.getfield 7, 3) := by decide +kernel
theorem dX12_row_44 : decode cX12_row 44 = .ok (.iload_n 1, 1) := by decide +kernel
theorem dX12_row_45 : decode cX12_row 45 = .ok (.iload_n 2, 1) := by decide +kernel
theorem dX12_row_46 : decode cX12_row 46 = .ok (.iastore, 1) := by decide +kernel
theorem dX12_row_47 : decode cX12_row 47 = .ok (.aload_n 0, 1) := by decide +kernel
theorem dX12_row_48 : decode cX12_row 48 = .ok (.getfield 13, 3) := by decide +kernel
theorem dX12_row_51 : decode cX12_row 51 = .ok (.iload_n 1, 1) := by decide +kernel
theorem dX12_row_52 : decode cX12_row 52 = .ok (.iload_n 3, 1) := by decide +kernel
theorem dX12_row_53 : decode cX12_row 53 = .ok (.iastore, 1) := by decide +kernel
theorem dX12_row_54 : decode cX12_row 54 = .ok (.iconst 0, 1) := by decide +kernel
theorem dX12_row_55 : decode cX12_row 55 = .ok (.istore 4, 2) := by decide +kernel
theorem dX12_row_57 : decode cX12_row 57 = .ok (.iload 4, 2) := by decide +kernel
theorem dX12_row_59 : decode cX12_row 59 = .ok (.iload_n 3, 1) := by decide +kernel
theorem dX12_row_60 : decode cX12_row 60 = .ok (.if_icmp .ge 22, 3) := by decide +kernel
theorem dX12_row_63 : decode cX12_row 63 = .ok (.aload_n 0, 1) := by decide +kernel
theorem dX12_row_64 : decode cX12_row 64 = .ok (.getfield 16, 3) := by decide +kernel
theorem dX12_row_67 : decode cX12_row 67 = .ok (.bipush 60, 2) := by decide +kernel
theorem dX12_row_69 : decode cX12_row 69 = .ok (.iload_n 1, 1) := by decide +kernel
theorem dX12_row_70 : decode cX12_row 70 = .ok (.imul, 1) := by decide +kernel
theorem dX12_row_71 : decode cX12_row 71 = .ok (.iload 4, 2) := by decide +kernel
theorem dX12_row_73 : decode cX12_row 73 = .ok (.iadd, 1) := by decide +kernel
theorem dX12_row_74 : decode cX12_row 74 = .ok (.lconst 0, 1) := by decide +kernel
theorem dX12_row_75 : decode cX12_row 75 = .ok (.lastore, 1) := by decide +kernel
theorem dX12_row_76 : decode cX12_row 76 = .ok (.iinc 4 1, 3) := by decide +kernel
theorem dX12_row_79 : decode cX12_row 79 = .ok (.goto (-22), 3) := by decide +kernel
theorem dX12_row_82 : decode cX12_row 82 = .ok (.iconst 0, 1) := by decide +kernel
theorem dX12_row_83 : decode cX12_row 83 = .ok (.ireturn, 1) := by decide +kernel
theorem dX12_cut_0 : decode cX12_cut 0 = .ok (.iload_n 2, 1) := by decide +kernel
theorem dX12_cut_1 : decode cX12_cut 1 = .ok (.ifCond .ne 10, 3) := by decide +kernel
theorem dX12_cut_4 : decode cX12_cut 4 = .ok (.lload_n 0, 1) := by decide +kernel
theorem dX12_cut_5 : decode cX12_cut 5 = .ok (.l2i, 1) := by decide +kernel
theorem dX12_cut_6 : decode cX12_cut 6 = .ok (.i2b, 1) := by decide +kernel
theorem dX12_cut_7 : decode cX12_cut 7 = .ok (.i2l, 1) := by decide +kernel
theorem dX12_cut_8 : decode cX12_cut 8 = .ok (.goto 27, 3) := by decide +kernel
theorem dX12_cut_11 : decode cX12_cut 11 = .ok (.iload_n 2, 1) := by decide +kernel
theorem dX12_cut_12 : decode cX12_cut 12 = .ok (.iconst 1, 1) := by decide +kernel
theorem dX12_cut_13 : decode cX12_cut 13 = .ok (.if_icmp .ne 10, 3) := by decide +kernel
theorem dX12_cut_16 : decode cX12_cut 16 = .ok (.lload_n 0, 1) := by decide +kernel
theorem dX12_cut_17 : decode cX12_cut 17 = .ok (.l2i, 1) := by decide +kernel
theorem dX12_cut_18 : decode cX12_cut 18 = .ok (.i2s, 1) := by decide +kernel
theorem dX12_cut_19 : decode cX12_cut 19 = .ok (.i2l, 1) := by decide +kernel
theorem dX12_cut_20 : decode cX12_cut 20 = .ok (.goto 15, 3) := by decide +kernel
theorem dX12_cut_23 : decode cX12_cut 23 = .ok (.iload_n 2, 1) := by decide +kernel
theorem dX12_cut_24 : decode cX12_cut 24 = .ok (.iconst 2, 1) := by decide +kernel
theorem dX12_cut_25 : decode cX12_cut 25 = .ok (.if_icmp .ne 9, 3) := by decide +kernel
theorem dX12_cut_28 : decode cX12_cut 28 = .ok (.lload_n 0, 1) := by decide +kernel
theorem dX12_cut_29 : decode cX12_cut 29 = .ok (.l2i, 1) := by decide +kernel
theorem dX12_cut_30 : decode cX12_cut 30 = .ok (.i2l, 1) := by decide +kernel
theorem dX12_cut_31 : decode cX12_cut 31 = .ok (.goto 4, 3) := by decide +kernel
theorem dX12_cut_34 : decode cX12_cut 34 = .ok (.lload_n 0, 1) := by decide +kernel
theorem dX12_cut_35 : decode cX12_cut 35 = .ok (.lreturn, 1) := by decide +kernel
theorem dX12_write_0 : decode cX12_write 0 = .ok (.aload_n 0, 1) := by decide +kernel
theorem dX12_write_1 : decode cX12_write 1 = .ok (.iconst 0, 1) := by decide +kernel
theorem dX12_write_2 : decode cX12_write 2 = .ok (.putfield 89, 3) := by decide +kernel
theorem dX12_write_5 : decode cX12_write 5 = .ok (.iload_n 1, 1) := by decide +kernel
theorem dX12_write_6 : decode cX12_write 6 = .ok (.invokestatic 98, 3) := by decide +kernel
theorem dX12_write_9 : decode cX12_write 9 = .ok (.ifCond .ne 6, 3) := by decide +kernel
theorem dX12_write_12 : decode cX12_write 12 = .ok (.bipush (-2), 2) := by decide +kernel
theorem dX12_write_14 : decode cX12_write 14 = .ok (.ireturn, 1) := by decide +kernel
theorem dX12_write_15 : decode cX12_write 15 = .ok (.aload_n 0, 1) := by decide +kernel
theorem dX12_write_16 : decode cX12_write 16 = .ok (.getfield 7, 3) := by decide +kernel
theorem dX12_write_19 : decode cX12_write 19 = .ok (.iload_n 1, 1) := by decide +kernel
theorem dX12_write_20 : decode cX12_write 20 = .ok (.iaload, 1) := by decide +kernel
theorem dX12_write_21 : decode cX12_write 21 = .ok (.iconst (-1), 1) := by decide +kernel
theorem dX12_write_22 : decode cX12_write 22 = .ok (.if_icmp .ne 6, 3) := by decide +kernel
theorem dX12_write_25 : decode cX12_write 25 = .ok (.bipush (-6), 2) := by decide +kernel
theorem dX12_write_27 : decode cX12_write 27 = .ok (.ireturn, 1) := by decide +kernel
theorem dX12_write_28 : decode cX12_write 28 = .ok (.iload_n 2, 1) := by decide +kernel
theorem dX12_write_29 : decode cX12_write 29 = .ok (.i2l, 1) := by decide +kernel
theorem dX12_write_30 : decode cX12_write 30 = .ok (.lconst 0, 1) := by decide +kernel
theorem dX12_write_31 : decode cX12_write 31 = .ok (.aload_n 0, 1) := by decide +kernel
theorem dX12_write_32 : decode cX12_write 32 = .ok (.getfield 13, 3) := by decide +kernel
theorem dX12_write_35 : decode cX12_write 35 = .ok (.iload_n 1, 1) := by decide +kernel
theorem dX12_write_36 : decode cX12_write 36 = .ok (.iaload, 1) := by decide +kernel
theorem dX12_write_37 : decode cX12_write 37 = .ok (.iconst 1, 1) := by decide +kernel
theorem dX12_write_38 : decode cX12_write 38 = .ok (.isub, 1) := by decide +kernel
theorem dX12_write_39 : decode cX12_write 39 = .ok (.i2l, 1) := by decide +kernel
theorem dX12_write_40 : decode cX12_write 40 = .ok (.invokestatic 94, 3) := by decide +kernel
theorem dX12_write_43 : decode cX12_write 43 = .ok (.ifCond .ne 6, 3) := by decide +kernel
theorem dX12_write_46 : decode cX12_write 46 = .ok (.bipush (-7), 2) := by decide +kernel
theorem dX12_write_48 : decode cX12_write 48 = .ok (.ireturn, 1) := by decide +kernel
theorem dX12_write_49 : decode cX12_write 49 = .ok (.aload_n 0, 1) := by decide +kernel
theorem dX12_write_50 : decode cX12_write 50 = .ok (.getfield 16, 3) := by decide +kernel
theorem dX12_write_53 : decode cX12_write 53 = .ok (.bipush 60, 2) := by decide +kernel
theorem dX12_write_55 : decode cX12_write 55 = .ok (.iload_n 1, 1) := by decide +kernel
theorem dX12_write_56 : decode cX12_write 56 = .ok (.imul, 1) := by decide +kernel
theorem dX12_write_57 : decode cX12_write 57 = .ok (.iload_n 2, 1) := by decide +kernel
theorem dX12_write_58 : decode cX12_write 58 = .ok (.iadd, 1) := by decide +kernel
theorem dX12_write_59 : decode cX12_write 59 = .ok (.lload_n 3, 1) := by decide +kernel
theorem dX12_write_60 : decode cX12_write 60 = .ok (.aload_n 0, 1) := by decide +kernel
theorem dX12_write_61 : decode cX12_write 61 = .ok (.getfield 7, 3) := by decide +kernel
theorem dX12_write_64 : decode cX12_write 64 = .ok (.iload_n 1, 1) := by decide +kernel
theorem dX12_write_65 : decode cX12_write 65 = .ok (.iaload, 1) := by decide +kernel
theorem dX12_write_66 : decode cX12_write 66 = .ok (.invokestatic 102, 3) := by decide +kernel
theorem dX12_write_69 : decode cX12_write 69 = .ok (.lastore, 1) := by decide +kernel
theorem dX12_write_70 : decode cX12_write 70 = .ok (.iconst 0, 1) := by decide +kernel
theorem dX12_write_71 : decode cX12_write 71 = .ok (.ireturn, 1) := by decide +kernel
theorem dX12_paste_0 : decode cX12_paste 0 = .ok (.aload_n 0, 1) := by decide +kernel
theorem dX12_paste_1 : decode cX12_paste 1 = .ok (.iconst 0, 1) := by decide +kernel
theorem dX12_paste_2 : decode cX12_paste 2 = .ok (.putfield 89, 3) := by decide +kernel
theorem dX12_paste_5 : decode cX12_paste 5 = .ok (.iload_n 1, 1) := by decide +kernel
theorem dX12_paste_6 : decode cX12_paste 6 = .ok (.invokestatic 98, 3) := by decide +kernel
theorem dX12_paste_9 : decode cX12_paste 9 = .ok (.ifCond .eq 10, 3) := by decide +kernel
theorem dX12_paste_12 : decode cX12_paste 12 = .ok (.iload_n 3, 1) := by decide +kernel
theorem dX12_paste_13 : decode cX12_paste 13 = .ok (.invokestatic 98, 3) := by decide +kernel
theorem dX12_paste_16 : decode cX12_paste 16 = .ok (.ifCond .ne 6, 3) := by decide +kernel
theorem dX12_paste_19 : decode cX12_paste 19 = .ok (.bipush (-2), 2) := by decide +kernel
theorem dX12_paste_21 : decode cX12_paste 21 = .ok (.ireturn, 1) := by decide +kernel
theorem dX12_paste_22 : decode cX12_paste 22 = .ok (.aload_n 0, 1) := by decide +kernel
theorem dX12_paste_23 : decode cX12_paste 23 = .ok (.getfield 7, 3) := by decide +kernel
theorem dX12_paste_26 : decode cX12_paste 26 = .ok (.iload_n 1, 1) := by decide +kernel
theorem dX12_paste_27 : decode cX12_paste 27 = .ok (.iaload, 1) := by decide +kernel
theorem dX12_paste_28 : decode cX12_paste 28 = .ok (.iconst (-1), 1) := by decide +kernel
theorem dX12_paste_29 : decode cX12_paste 29 = .ok (.if_icmp .eq 13, 3) := by decide +kernel
theorem dX12_paste_32 : decode cX12_paste 32 = .ok (.aload_n 0, 1) := by decide +kernel
theorem dX12_paste_33 : decode cX12_paste 33 = .ok (.getfield 7, 3) := by decide +kernel
theorem dX12_paste_36 : decode cX12_paste 36 = .ok (.iload_n 3, 1) := by decide +kernel
theorem dX12_paste_37 : decode cX12_paste 37 = .ok (.iaload, 1) := by decide +kernel
theorem dX12_paste_38 : decode cX12_paste 38 = .ok (.iconst (-1), 1) := by decide +kernel
theorem dX12_paste_39 : decode cX12_paste 39 = .ok (.if_icmp .ne 6, 3) := by decide +kernel
theorem dX12_paste_42 : decode cX12_paste 42 = .ok (.bipush (-6), 2) := by decide +kernel
theorem dX12_paste_44 : decode cX12_paste 44 = .ok (.ireturn, 1) := by decide +kernel
theorem dX12_paste_45 : decode cX12_paste 45 = .ok (.aload_n 0, 1) := by decide +kernel
theorem dX12_paste_46 : decode cX12_paste 46 = .ok (.getfield 7, 3) := by decide +kernel
theorem dX12_paste_49 : decode cX12_paste 49 = .ok (.iload_n 1, 1) := by decide +kernel
theorem dX12_paste_50 : decode cX12_paste 50 = .ok (.iaload, 1) := by decide +kernel
theorem dX12_paste_51 : decode cX12_paste 51 = .ok (.aload_n 0, 1) := by decide +kernel
theorem dX12_paste_52 : decode cX12_paste 52 = .ok (.getfield 7, 3) := by decide +kernel
theorem dX12_paste_55 : decode cX12_paste 55 = .ok (.iload_n 3, 1) := by decide +kernel
theorem dX12_paste_56 : decode cX12_paste 56 = .ok (.iaload, 1) := by decide +kernel
theorem dX12_paste_57 : decode cX12_paste 57 = .ok (.if_icmp .eq 6, 3) := by decide +kernel
theorem dX12_paste_60 : decode cX12_paste 60 = .ok (.bipush (-8), 2) := by decide +kernel
theorem dX12_paste_62 : decode cX12_paste 62 = .ok (.ireturn, 1) := by decide +kernel
theorem dX12_paste_63 : decode cX12_paste 63 = .ok (.iload_n 2, 1) := by decide +kernel
theorem dX12_paste_64 : decode cX12_paste 64 = .ok (.ifCond .lt 48, 3) := by decide +kernel
theorem dX12_paste_67 : decode cX12_paste 67 = .ok (.iload 4, 2) := by decide +kernel
theorem dX12_paste_69 : decode cX12_paste 69 = .ok (.ifCond .lt 43, 3) := by decide +kernel
theorem dX12_paste_72 : decode cX12_paste 72 = .ok (.iload 5, 2) := by decide +kernel
theorem dX12_paste_74 : decode cX12_paste 74 = .ok (.ifCond .lt 38, 3) := by decide +kernel
theorem dX12_paste_77 : decode cX12_paste 77 = .ok (.iload_n 2, 1) := by decide +kernel
theorem dX12_paste_78 : decode cX12_paste 78 = .ok (.i2l, 1) := by decide +kernel
theorem dX12_paste_79 : decode cX12_paste 79 = .ok (.iload 5, 2) := by decide +kernel
theorem dX12_paste_81 : decode cX12_paste 81 = .ok (.i2l, 1) := by decide +kernel
theorem dX12_paste_82 : decode cX12_paste 82 = .ok (.ladd, 1) := by decide +kernel
theorem dX12_paste_83 : decode cX12_paste 83 = .ok (.aload_n 0, 1) := by decide +kernel
theorem dX12_paste_84 : decode cX12_paste 84 = .ok (.getfield 13, 3) := by decide +kernel
theorem dX12_paste_87 : decode cX12_paste 87 = .ok (.iload_n 1, 1) := by decide +kernel
theorem dX12_paste_88 : decode cX12_paste 88 = .ok (.iaload, 1) := by decide +kernel
theorem dX12_paste_89 : decode cX12_paste 89 = .ok (.i2l, 1) := by decide +kernel
theorem dX12_paste_90 : decode cX12_paste 90 = .ok (.lcmp, 1) := by decide +kernel
theorem dX12_paste_91 : decode cX12_paste 91 = .ok (.ifCond .gt 21, 3) := by decide +kernel
theorem dX12_paste_94 : decode cX12_paste 94 = .ok (.iload 4, 2) := by decide +kernel
theorem dX12_paste_96 : decode cX12_paste 96 = .ok (.i2l, 1) := by decide +kernel
theorem dX12_paste_97 : decode cX12_paste 97 = .ok (.iload 5, 2) := by decide +kernel
theorem dX12_paste_99 : decode cX12_paste 99 = .ok (.i2l, 1) := by decide +kernel
theorem dX12_paste_100 : decode cX12_paste 100 = .ok (.ladd, 1) := by decide +kernel
theorem dX12_paste_101 : decode cX12_paste 101 = .ok (.aload_n 0, 1) := by decide +kernel
theorem dX12_paste_102 : decode cX12_paste 102 = .ok (.getfield 13, 3) := by decide +kernel
theorem dX12_paste_105 : decode cX12_paste 105 = .ok (.iload_n 3, 1) := by decide +kernel
theorem dX12_paste_106 : decode cX12_paste 106 = .ok (.iaload, 1) := by decide +kernel
theorem dX12_paste_107 : decode cX12_paste 107 = .ok (.i2l, 1) := by decide +kernel
theorem dX12_paste_108 : decode cX12_paste 108 = .ok (.lcmp, 1) := by decide +kernel
theorem dX12_paste_109 : decode cX12_paste 109 = .ok (.ifCond .le 6, 3) := by decide +kernel
theorem dX12_paste_112 : decode cX12_paste 112 = .ok (.bipush (-7), 2) := by decide +kernel
theorem dX12_paste_114 : decode cX12_paste 114 = .ok (.ireturn, 1) := by decide +kernel
theorem dX12_paste_115 : decode cX12_paste 115 = .ok (.iconst 0, 1) := by decide +kernel
theorem dX12_paste_116 : decode cX12_paste 116 = .ok (.istore 6, 2) := by decide +kernel
theorem dX12_paste_118 : decode cX12_paste 118 = .ok (.iload 6, 2) := by decide +kernel
theorem dX12_paste_120 : decode cX12_paste 120 = .ok (.iload 5, 2) := by decide +kernel
theorem dX12_paste_122 : decode cX12_paste 122 = .ok (.if_icmp .ge 30, 3) := by decide +kernel
theorem dX12_paste_125 : decode cX12_paste 125 = .ok (.aload_n 0, 1) := by decide +kernel
theorem dX12_paste_126 : decode cX12_paste 126 = .ok (.getfield 20, 3) := by decide +kernel
theorem dX12_paste_129 : decode cX12_paste 129 = .ok (.iload 6, 2) := by decide +kernel
theorem dX12_paste_131 : decode cX12_paste 131 = .ok (.aload_n 0, 1) := by decide +kernel
theorem dX12_paste_132 : decode cX12_paste 132 = .ok (.getfield 16, 3) := by decide +kernel
theorem dX12_paste_135 : decode cX12_paste 135 = .ok (.bipush 60, 2) := by decide +kernel
theorem dX12_paste_137 : decode cX12_paste 137 = .ok (.iload_n 1, 1) := by decide +kernel
theorem dX12_paste_138 : decode cX12_paste 138 = .ok (.imul, 1) := by decide +kernel
theorem dX12_paste_139 : decode cX12_paste 139 = .ok (.iload_n 2, 1) := by decide +kernel
theorem dX12_paste_140 : decode cX12_paste 140 = .ok (.iadd, 1) := by decide +kernel
theorem dX12_paste_141 : decode cX12_paste 141 = .ok (.iload 6, 2) := by decide +kernel
theorem dX12_paste_143 : decode cX12_paste 143 = .ok (.iadd, 1) := by decide +kernel
theorem dX12_paste_144 : decode cX12_paste 144 = .ok (.laload, 1) := by decide +kernel
theorem dX12_paste_145 : decode cX12_paste 145 = .ok (.lastore, 1) := by decide +kernel
theorem dX12_paste_146 : decode cX12_paste 146 = .ok (.iinc 6 1, 3) := by decide +kernel
theorem dX12_paste_149 : decode cX12_paste 149 = .ok (.goto (-31), 3) := by decide +kernel
theorem dX12_paste_152 : decode cX12_paste 152 = .ok (.iconst 0, 1) := by decide +kernel
theorem dX12_paste_153 : decode cX12_paste 153 = .ok (.istore 6, 2) := by decide +kernel
theorem dX12_paste_155 : decode cX12_paste 155 = .ok (.iload 6, 2) := by decide +kernel
theorem dX12_paste_157 : decode cX12_paste 157 = .ok (.iload 5, 2) := by decide +kernel
theorem dX12_paste_159 : decode cX12_paste 159 = .ok (.if_icmp .ge 31, 3) := by decide +kernel
theorem dX12_paste_162 : decode cX12_paste 162 = .ok (.aload_n 0, 1) := by decide +kernel
theorem dX12_paste_163 : decode cX12_paste 163 = .ok (.getfield 16, 3) := by decide +kernel
theorem dX12_paste_166 : decode cX12_paste 166 = .ok (.bipush 60, 2) := by decide +kernel
theorem dX12_paste_168 : decode cX12_paste 168 = .ok (.iload_n 3, 1) := by decide +kernel
theorem dX12_paste_169 : decode cX12_paste 169 = .ok (.imul, 1) := by decide +kernel
theorem dX12_paste_170 : decode cX12_paste 170 = .ok (.iload 4, 2) := by decide +kernel
theorem dX12_paste_172 : decode cX12_paste 172 = .ok (.iadd, 1) := by decide +kernel
theorem dX12_paste_173 : decode cX12_paste 173 = .ok (.iload 6, 2) := by decide +kernel
theorem dX12_paste_175 : decode cX12_paste 175 = .ok (.iadd, 1) := by decide +kernel
theorem dX12_paste_176 : decode cX12_paste 176 = .ok (.aload_n 0, 1) := by decide +kernel
theorem dX12_paste_177 : decode cX12_paste 177 = .ok (.getfield 20, 3) := by decide +kernel
theorem dX12_paste_180 : decode cX12_paste 180 = .ok (.iload 6, 2) := by decide +kernel
theorem dX12_paste_182 : decode cX12_paste 182 = .ok (.laload, 1) := by decide +kernel
theorem dX12_paste_183 : decode cX12_paste 183 = .ok (.lastore, 1) := by decide +kernel
theorem dX12_paste_184 : decode cX12_paste 184 = .ok (.iinc 6 1, 3) := by decide +kernel
theorem dX12_paste_187 : decode cX12_paste 187 = .ok (.goto (-32), 3) := by decide +kernel
theorem dX12_paste_190 : decode cX12_paste 190 = .ok (.iconst 0, 1) := by decide +kernel
theorem dX12_paste_191 : decode cX12_paste 191 = .ok (.ireturn, 1) := by decide +kernel
theorem dX12_feed_0 : decode cX12_feed 0 = .ok (.aload_n 0, 1) := by decide +kernel
theorem dX12_feed_1 : decode cX12_feed 1 = .ok (.iconst 0, 1) := by decide +kernel
theorem dX12_feed_2 : decode cX12_feed 2 = .ok (.putfield 89, 3) := by decide +kernel
theorem dX12_feed_5 : decode cX12_feed 5 = .ok (.aload_n 0, 1) := by decide +kernel
theorem dX12_feed_6 : decode cX12_feed 6 = .ok (.getfield 106, 3) := by decide +kernel
theorem dX12_feed_9 : decode cX12_feed 9 = .ok (.bipush 20, 2) := by decide +kernel
theorem dX12_feed_11 : decode cX12_feed 11 = .ok (.iadd, 1) := by decide +kernel
theorem dX12_feed_12 : decode cX12_feed 12 = .ok (.sipush 1600, 3) := by decide +kernel
theorem dX12_feed_15 : decode cX12_feed 15 = .ok (.if_icmp .le 5, 3) := by decide +kernel
theorem dX12_feed_18 : decode cX12_feed 18 = .ok (.iconst (-1), 1) := by decide +kernel
theorem dX12_feed_19 : decode cX12_feed 19 = .ok (.ireturn, 1) := by decide +kernel
theorem dX12_feed_20 : decode cX12_feed 20 = .ok (.aload_n 0, 1) := by decide +kernel
theorem dX12_feed_21 : decode cX12_feed 21 = .ok (.iload_n 1, 1) := by decide +kernel
theorem dX12_feed_22 : decode cX12_feed 22 = .ok (.invokevirtual 109, 3) := by decide +kernel
theorem dX12_feed_25 : decode cX12_feed 25 = .ok (.aload_n 0, 1) := by decide +kernel
theorem dX12_feed_26 : decode cX12_feed 26 = .ok (.iload_n 2, 1) := by decide +kernel
theorem dX12_feed_27 : decode cX12_feed 27 = .ok (.invokevirtual 109, 3) := by decide +kernel
theorem dX12_feed_30 : decode cX12_feed 30 = .ok (.aload_n 0, 1) := by decide +kernel
theorem dX12_feed_31 : decode cX12_feed 31 = .ok (.iload_n 3, 1) := by decide +kernel
theorem dX12_feed_32 : decode cX12_feed 32 = .ok (.invokevirtual 109, 3) := by decide +kernel
theorem dX12_feed_35 : decode cX12_feed 35 = .ok (.aload_n 0, 1) := by decide +kernel
theorem dX12_feed_36 : decode cX12_feed 36 = .ok (.iload 4, 2) := by decide +kernel
theorem dX12_feed_38 : decode cX12_feed 38 = .ok (.invokevirtual 109, 3) := by decide +kernel
theorem dX12_feed_41 : decode cX12_feed 41 = .ok (.aload_n 0, 1) := by decide +kernel
theorem dX12_feed_42 : decode cX12_feed 42 = .ok (.iload 5, 2) := by decide +kernel
theorem dX12_feed_44 : decode cX12_feed 44 = .ok (.invokevirtual 109, 3) := by decide +kernel
theorem dX12_feed_47 : decode cX12_feed 47 = .ok (.aload_n 0, 1) := by decide +kernel
theorem dX12_feed_48 : decode cX12_feed 48 = .ok (.getfield 106, 3) := by decide +kernel
theorem dX12_feed_51 : decode cX12_feed 51 = .ok (.ireturn, 1) := by decide +kernel
theorem dX12_four_0 : decode cX12_four 0 = .ok (.bipush 24, 2) := by decide +kernel
theorem dX12_four_2 : decode cX12_four 2 = .ok (.istore_n 2, 1) := by decide +kernel
theorem dX12_four_3 : decode cX12_four 3 = .ok (.iload_n 2, 1) := by decide +kernel
theorem dX12_four_4 : decode cX12_four 4 = .ok (.ifCond .lt 32, 3) := by decide +kernel
theorem dX12_four_7 : decode cX12_four 7 = .ok (.aload_n 0, 1) := by decide +kernel
theorem dX12_four_8 : decode cX12_four 8 = .ok (.getfield 23, 3) := by decide +kernel
theorem dX12_four_11 : decode cX12_four 11 = .ok (.aload_n 0, 1) := by decide +kernel
theorem dX12_four_12 : decode cX12_four 12 = .ok (.getfield 106, 3) := by decide +kernel
theorem dX12_four_15 : decode cX12_four 15 = .ok (.iload_n 1, 1) := by decide +kernel
theorem dX12_four_16 : decode cX12_four 16 = .ok (.iload_n 2, 1) := by decide +kernel
theorem dX12_four_17 : decode cX12_four 17 = .ok (.ishr, 1) := by decide +kernel
theorem dX12_four_18 : decode cX12_four 18 = .ok (.i2b, 1) := by decide +kernel
theorem dX12_four_19 : decode cX12_four 19 = .ok (.bastore, 1) := by decide +kernel
theorem dX12_four_20 : decode cX12_four 20 = .ok (.aload_n 0, 1) := by decide +kernel
theorem dX12_four_21 : decode cX12_four 21 = .ok (.dup, 1) := by decide +kernel
theorem dX12_four_22 : decode cX12_four 22 = .ok (.getfield 106, 3) := by decide +kernel
theorem dX12_four_25 : decode cX12_four 25 = .ok (.iconst 1, 1) := by decide +kernel
theorem dX12_four_26 : decode cX12_four 26 = .ok (.iadd, 1) := by decide +kernel
theorem dX12_four_27 : decode cX12_four 27 = .ok (.putfield 106, 3) := by decide +kernel
theorem dX12_four_30 : decode cX12_four 30 = .ok (.iinc 2 (-8), 3) := by decide +kernel
theorem dX12_four_33 : decode cX12_four 33 = .ok (.goto (-30), 3) := by decide +kernel
theorem dX12_four_36 : decode cX12_four 36 = .ok (.return_, 1) := by decide +kernel
theorem dX12_end_0 : decode cX12_end 0 = .ok (.aload_n 0, 1) := by decide +kernel
theorem dX12_end_1 : decode cX12_end 1 = .ok (.iconst 0, 1) := by decide +kernel
theorem dX12_end_2 : decode cX12_end 2 = .ok (.putfield 89, 3) := by decide +kernel
theorem dX12_end_5 : decode cX12_end 5 = .ok (.iload_n 1, 1) := by decide +kernel
theorem dX12_end_6 : decode cX12_end 6 = .ok (.i2l, 1) := by decide +kernel
theorem dX12_end_7 : decode cX12_end 7 = .ok (.lconst 0, 1) := by decide +kernel
theorem dX12_end_8 : decode cX12_end 8 = .ok (.aload_n 0, 1) := by decide +kernel
theorem dX12_end_9 : decode cX12_end 9 = .ok (.getfield 106, 3) := by decide +kernel
theorem dX12_end_12 : decode cX12_end 12 = .ok (.i2l, 1) := by decide +kernel
theorem dX12_end_13 : decode cX12_end 13 = .ok (.invokestatic 94, 3) := by decide +kernel
theorem dX12_end_16 : decode cX12_end 16 = .ok (.ifCond .ne 5, 3) := by decide +kernel
theorem dX12_end_19 : decode cX12_end 19 = .ok (.iconst (-1), 1) := by decide +kernel
theorem dX12_end_20 : decode cX12_end 20 = .ok (.ireturn, 1) := by decide +kernel
theorem dX12_end_21 : decode cX12_end 21 = .ok (.aload_n 0, 1) := by decide +kernel
theorem dX12_end_22 : decode cX12_end 22 = .ok (.iload_n 1, 1) := by decide +kernel
theorem dX12_end_23 : decode cX12_end 23 = .ok (.putfield 106, 3) := by decide +kernel
theorem dX12_end_26 : decode cX12_end 26 = .ok (.iload_n 1, 1) := by decide +kernel
theorem dX12_end_27 : decode cX12_end 27 = .ok (.ireturn, 1) := by decide +kernel
theorem dX12_isByte_0 : decode cX12_isByte 0 = .ok (.iload_n 1, 1) := by decide +kernel
theorem dX12_isByte_1 : decode cX12_isByte 1 = .ok (.aload_n 0, 1) := by decide +kernel
theorem dX12_isByte_2 : decode cX12_isByte 2 = .ok (.getfield 106, 3) := by decide +kernel
theorem dX12_isByte_5 : decode cX12_isByte 5 = .ok (.if_icmp .ge 27, 3) := by decide +kernel
theorem dX12_isByte_8 : decode cX12_isByte 8 = .ok (.aload_n 0, 1) := by decide +kernel
theorem dX12_isByte_9 : decode cX12_isByte 9 = .ok (.getfield 23, 3) := by decide +kernel
theorem dX12_isByte_12 : decode cX12_isByte 12 = .ok (.iload_n 1, 1) := by decide +kernel
theorem dX12_isByte_13 : decode cX12_isByte 13 = .ok (.baload, 1) := by decide +kernel
theorem dX12_isByte_14 : decode cX12_isByte 14 = .ok (.iload_n 2, 1) := by decide +kernel
theorem dX12_isByte_15 : decode cX12_isByte 15 = .ok (.if_icmp .lt 17, 3) := by decide +kernel
theorem dX12_isByte_18 : decode cX12_isByte 18 = .ok (.aload_n 0, 1) := by decide +kernel
theorem dX12_isByte_19 : decode cX12_isByte 19 = .ok (.getfield 23, 3) := by decide +kernel
theorem dX12_isByte_22 : decode cX12_isByte 22 = .ok (.iload_n 1, 1) := by decide +kernel
theorem dX12_isByte_23 : decode cX12_isByte 23 = .ok (.baload, 1) := by decide +kernel
theorem dX12_isByte_24 : decode cX12_isByte 24 = .ok (.iload_n 3, 1) := by decide +kernel
theorem dX12_isByte_25 : decode cX12_isByte 25 = .ok (.if_icmp .gt 7, 3) := by decide +kernel
theorem dX12_isByte_28 : decode cX12_isByte 28 = .ok (.iconst 1, 1) := by decide +kernel
theorem dX12_isByte_29 : decode cX12_isByte 29 = .ok (.goto 4, 3) := by decide +kernel
theorem dX12_isByte_32 : decode cX12_isByte 32 = .ok (.iconst 0, 1) := by decide +kernel
theorem dX12_isByte_33 : decode cX12_isByte 33 = .ok (.ireturn, 1) := by decide +kernel
theorem dX12_next_0 : decode cX12_next 0 = .ok (.aload_n 0, 1) := by decide +kernel
theorem dX12_next_1 : decode cX12_next 1 = .ok (.aload_n 0, 1) := by decide +kernel
theorem dX12_next_2 : decode cX12_next 2 = .ok (.getfield 113, 3) := by decide +kernel
theorem dX12_next_5 : decode cX12_next 5 = .ok (.bipush 32, 2) := by decide +kernel
theorem dX12_next_7 : decode cX12_next 7 = .ok (.bipush 32, 2) := by decide +kernel
theorem dX12_next_9 : decode cX12_next 9 = .ok (.invokevirtual 116, 3) := by decide +kernel
theorem dX12_next_12 : decode cX12_next 12 = .ok (.ifCond .ne 18, 3) := by decide +kernel
theorem dX12_next_15 : decode cX12_next 15 = .ok (.aload_n 0, 1) := by decide +kernel
theorem dX12_next_16 : decode cX12_next 16 = .ok (.aload_n 0, 1) := by decide +kernel
theorem dX12_next_17 : decode cX12_next 17 = .ok (.getfield 113, 3) := by decide +kernel
theorem dX12_next_20 : decode cX12_next 20 = .ok (.bipush 10, 2) := by decide +kernel
theorem dX12_next_22 : decode cX12_next 22 = .ok (.bipush 10, 2) := by decide +kernel
theorem dX12_next_24 : decode cX12_next 24 = .ok (.invokevirtual 116, 3) := by decide +kernel
theorem dX12_next_27 : decode cX12_next 27 = .ok (.ifCond .eq 16, 3) := by decide +kernel
theorem dX12_next_30 : decode cX12_next 30 = .ok (.aload_n 0, 1) := by decide +kernel
theorem dX12_next_31 : decode cX12_next 31 = .ok (.dup, 1) := by decide +kernel
theorem dX12_next_32 : decode cX12_next 32 = .ok (.getfield 113, 3) := by decide +kernel
theorem dX12_next_35 : decode cX12_next 35 = .ok (.iconst 1, 1) := by decide +kernel
theorem dX12_next_36 : decode cX12_next 36 = .ok (.iadd, 1) := by decide +kernel
theorem dX12_next_37 : decode cX12_next 37 = .ok (.putfield 113, 3) := by decide +kernel
theorem dX12_next_40 : decode cX12_next 40 = .ok (.goto (-40), 3) := by decide +kernel
theorem dX12_next_43 : decode cX12_next 43 = .ok (.aload_n 0, 1) := by decide +kernel
theorem dX12_next_44 : decode cX12_next 44 = .ok (.aload_n 0, 1) := by decide +kernel
theorem dX12_next_45 : decode cX12_next 45 = .ok (.getfield 113, 3) := by decide +kernel
theorem dX12_next_48 : decode cX12_next 48 = .ok (.putfield 120, 3) := by decide +kernel
theorem dX12_next_51 : decode cX12_next 51 = .ok (.aload_n 0, 1) := by decide +kernel
theorem dX12_next_52 : decode cX12_next 52 = .ok (.iconst 0, 1) := by decide +kernel
theorem dX12_next_53 : decode cX12_next 53 = .ok (.putfield 123, 3) := by decide +kernel
theorem dX12_next_56 : decode cX12_next 56 = .ok (.aload_n 0, 1) := by decide +kernel
theorem dX12_next_57 : decode cX12_next 57 = .ok (.lconst 0, 1) := by decide +kernel
theorem dX12_next_58 : decode cX12_next 58 = .ok (.putfield 126, 3) := by decide +kernel
theorem dX12_next_61 : decode cX12_next 61 = .ok (.aload_n 0, 1) := by decide +kernel
theorem dX12_next_62 : decode cX12_next 62 = .ok (.getfield 113, 3) := by decide +kernel
theorem dX12_next_65 : decode cX12_next 65 = .ok (.aload_n 0, 1) := by decide +kernel
theorem dX12_next_66 : decode cX12_next 66 = .ok (.getfield 106, 3) := by decide +kernel
theorem dX12_next_69 : decode cX12_next 69 = .ok (.if_icmp .ne 11, 3) := by decide +kernel
theorem dX12_next_72 : decode cX12_next 72 = .ok (.aload_n 0, 1) := by decide +kernel
theorem dX12_next_73 : decode cX12_next 73 = .ok (.iconst 0, 1) := by decide +kernel
theorem dX12_next_74 : decode cX12_next 74 = .ok (.putfield 130, 3) := by decide +kernel
theorem dX12_next_77 : decode cX12_next 77 = .ok (.goto 230, 3) := by decide +kernel
theorem dX12_next_80 : decode cX12_next 80 = .ok (.aload_n 0, 1) := by decide +kernel
theorem dX12_next_81 : decode cX12_next 81 = .ok (.aload_n 0, 1) := by decide +kernel
theorem dX12_next_82 : decode cX12_next 82 = .ok (.getfield 113, 3) := by decide +kernel
theorem dX12_next_85 : decode cX12_next 85 = .ok (.bipush 97, 2) := by decide +kernel
theorem dX12_next_87 : decode cX12_next 87 = .ok (.bipush 122, 2) := by decide +kernel
theorem dX12_next_89 : decode cX12_next 89 = .ok (.invokevirtual 116, 3) := by decide +kernel
theorem dX12_next_92 : decode cX12_next 92 = .ok (.ifCond .eq 96, 3) := by decide +kernel
theorem dX12_next_95 : decode cX12_next 95 = .ok (.aload_n 0, 1) := by decide +kernel
theorem dX12_next_96 : decode cX12_next 96 = .ok (.iconst 1, 1) := by decide +kernel
theorem dX12_next_97 : decode cX12_next 97 = .ok (.putfield 130, 3) := by decide +kernel
theorem dX12_next_100 : decode cX12_next 100 = .ok (.iconst 0, 1) := by decide +kernel
theorem dX12_next_101 : decode cX12_next 101 = .ok (.istore_n 1, 1) := by decide +kernel
theorem dX12_next_102 : decode cX12_next 102 = .ok (.aload_n 0, 1) := by decide +kernel
theorem dX12_next_103 : decode cX12_next 103 = .ok (.aload_n 0, 1) := by decide +kernel
theorem dX12_next_104 : decode cX12_next 104 = .ok (.getfield 113, 3) := by decide +kernel
theorem dX12_next_107 : decode cX12_next 107 = .ok (.bipush 97, 2) := by decide +kernel
theorem dX12_next_109 : decode cX12_next 109 = .ok (.bipush 122, 2) := by decide +kernel
theorem dX12_next_111 : decode cX12_next 111 = .ok (.invokevirtual 116, 3) := by decide +kernel
theorem dX12_next_114 : decode cX12_next 114 = .ok (.ifCond .eq 71, 3) := by decide +kernel
theorem dX12_next_117 : decode cX12_next 117 = .ok (.aload_n 0, 1) := by decide +kernel
theorem dX12_next_118 : decode cX12_next 118 = .ok (.iload_n 1, 1) := by decide +kernel
theorem dX12_next_119 : decode cX12_next 119 = .ok (.bipush 11, 2) := by decide +kernel
theorem dX12_next_121 : decode cX12_next 121 = .ok (.if_icmp .le 9, 3) := by decide +kernel
theorem dX12_next_124 : decode cX12_next 124 = .ok (.ldc2_w 133, 3) := by decide +kernel
theorem dX12_next_127 : decode cX12_next 127 = .ok (.goto 26, 3) := by decide +kernel
theorem dX12_next_130 : decode cX12_next 130 = .ok (.ldc2_w 135, 3) := by decide +kernel
theorem dX12_next_133 : decode cX12_next 133 = .ok (.aload_n 0, 1) := by decide +kernel
theorem dX12_next_134 : decode cX12_next 134 = .ok (.getfield 126, 3) := by decide +kernel
theorem dX12_next_137 : decode cX12_next 137 = .ok (.lmul, 1) := by decide +kernel
theorem dX12_next_138 : decode cX12_next 138 = .ok (.aload_n 0, 1) := by decide +kernel
theorem dX12_next_139 : decode cX12_next 139 = .ok (.getfield 23, 3) := by decide +kernel
theorem dX12_next_142 : decode cX12_next 142 = .ok (.aload_n 0, 1) := by decide +kernel
theorem dX12_next_143 : decode cX12_next 143 = .ok (.getfield 113, 3) := by decide +kernel
theorem dX12_next_146 : decode cX12_next 146 = .ok (.baload, 1) := by decide +kernel
theorem dX12_next_147 : decode cX12_next 147 = .ok (.i2l, 1) := by decide +kernel
theorem dX12_next_148 : decode cX12_next 148 = .ok (.ladd, 1) := by decide +kernel
theorem dX12_next_149 : decode cX12_next 149 = .ok (.ldc2_w 137, 3) := by decide +kernel
theorem dX12_next_152 : decode cX12_next 152 = .ok (.lsub, 1) := by decide +kernel
theorem dX12_next_153 : decode cX12_next 153 = .ok (.putfield 126, 3) := by decide +kernel
theorem dX12_next_156 : decode cX12_next 156 = .ok (.iload_n 1, 1) := by decide +kernel
theorem dX12_next_157 : decode cX12_next 157 = .ok (.bipush 11, 2) := by decide +kernel
theorem dX12_next_159 : decode cX12_next 159 = .ok (.if_icmp .le 10, 3) := by decide +kernel
theorem dX12_next_162 : decode cX12_next 162 = .ok (.aload_n 0, 1) := by decide +kernel
theorem dX12_next_163 : decode cX12_next 163 = .ok (.ldc2_w 133, 3) := by decide +kernel
theorem dX12_next_166 : decode cX12_next 166 = .ok (.putfield 126, 3) := by decide +kernel
theorem dX12_next_169 : decode cX12_next 169 = .ok (.aload_n 0, 1) := by decide +kernel
theorem dX12_next_170 : decode cX12_next 170 = .ok (.dup, 1) := by decide +kernel
theorem dX12_next_171 : decode cX12_next 171 = .ok (.getfield 113, 3) := by decide +kernel
theorem dX12_next_174 : decode cX12_next 174 = .ok (.iconst 1, 1) := by decide +kernel
theorem dX12_next_175 : decode cX12_next 175 = .ok (.iadd, 1) := by decide +kernel
theorem dX12_next_176 : decode cX12_next 176 = .ok (.putfield 113, 3) := by decide +kernel
theorem dX12_next_179 : decode cX12_next 179 = .ok (.iinc 1 1, 3) := by decide +kernel
theorem dX12_next_182 : decode cX12_next 182 = .ok (.goto (-80), 3) := by decide +kernel
theorem dX12_next_185 : decode cX12_next 185 = .ok (.goto 122, 3) := by decide +kernel
theorem dX12_next_188 : decode cX12_next 188 = .ok (.aload_n 0, 1) := by decide +kernel
theorem dX12_next_189 : decode cX12_next 189 = .ok (.aload_n 0, 1) := by decide +kernel
theorem dX12_next_190 : decode cX12_next 190 = .ok (.getfield 113, 3) := by decide +kernel
theorem dX12_next_193 : decode cX12_next 193 = .ok (.bipush 48, 2) := by decide +kernel
theorem dX12_next_195 : decode cX12_next 195 = .ok (.bipush 57, 2) := by decide +kernel
theorem dX12_next_197 : decode cX12_next 197 = .ok (.invokevirtual 116, 3) := by decide +kernel
theorem dX12_next_200 : decode cX12_next 200 = .ok (.ifCond .eq 74, 3) := by decide +kernel
theorem dX12_next_203 : decode cX12_next 203 = .ok (.aload_n 0, 1) := by decide +kernel
theorem dX12_next_204 : decode cX12_next 204 = .ok (.iconst 2, 1) := by decide +kernel
theorem dX12_next_205 : decode cX12_next 205 = .ok (.putfield 130, 3) := by decide +kernel
theorem dX12_next_208 : decode cX12_next 208 = .ok (.aload_n 0, 1) := by decide +kernel
theorem dX12_next_209 : decode cX12_next 209 = .ok (.aload_n 0, 1) := by decide +kernel
theorem dX12_next_210 : decode cX12_next 210 = .ok (.getfield 113, 3) := by decide +kernel
theorem dX12_next_213 : decode cX12_next 213 = .ok (.bipush 48, 2) := by decide +kernel
theorem dX12_next_215 : decode cX12_next 215 = .ok (.bipush 57, 2) := by decide +kernel
theorem dX12_next_217 : decode cX12_next 217 = .ok (.invokevirtual 116, 3) := by decide +kernel
theorem dX12_next_220 : decode cX12_next 220 = .ok (.ifCond .eq 87, 3) := by decide +kernel
