-- the decode rows, as printed
theorem dX4_takeNumber_22 : decode cX4_takeNumber 22 = .ok (.invokevirtual 52, 3) := by decide +kernel
theorem dX4_takeNumber_25 : decode cX4_takeNumber 25 = .ok (.ireturn, 1) := by decide +kernel
theorem dX4_takeNumber_26 : decode cX4_takeNumber 26 = .ok (.aload_n 0, 1) := by decide +kernel
theorem dX4_takeNumber_27 : decode cX4_takeNumber 27 = .ok (.getfield 22, 3) := by decide +kernel
theorem dX4_takeNumber_30 : decode cX4_takeNumber 30 = .ok (.getfield 152, 3) := by decide +kernel
theorem dX4_takeNumber_33 : decode cX4_takeNumber 33 = .ok (.iload_n 1, 1) := by decide +kernel
theorem dX4_takeNumber_34 : decode cX4_takeNumber 34 = .ok (.if_icmp .lt 14, 3) := by decide +kernel
theorem dX4_takeNumber_37 : decode cX4_takeNumber 37 = .ok (.aload_n 0, 1) := by decide +kernel
theorem dX4_takeNumber_38 : decode cX4_takeNumber 38 = .ok (.getfield 22, 3) := by decide +kernel
theorem dX4_takeNumber_41 : decode cX4_takeNumber 41 = .ok (.getfield 152, 3) := by decide +kernel
theorem dX4_takeNumber_44 : decode cX4_takeNumber 44 = .ok (.iload_n 2, 1) := by decide +kernel
theorem dX4_takeNumber_45 : decode cX4_takeNumber 45 = .ok (.if_icmp .le 9, 3) := by decide +kernel
theorem dX4_takeNumber_48 : decode cX4_takeNumber 48 = .ok (.aload_n 0, 1) := by decide +kernel
theorem dX4_takeNumber_49 : decode cX4_takeNumber 49 = .ok (.iconst 2, 1) := by decide +kernel
theorem dX4_takeNumber_50 : decode cX4_takeNumber 50 = .ok (.invokevirtual 52, 3) := by decide +kernel
theorem dX4_takeNumber_53 : decode cX4_takeNumber 53 = .ok (.ireturn, 1) := by decide +kernel
theorem dX4_takeNumber_54 : decode cX4_takeNumber 54 = .ok (.aload_n 0, 1) := by decide +kernel
theorem dX4_takeNumber_55 : decode cX4_takeNumber 55 = .ok (.getfield 22, 3) := by decide +kernel
theorem dX4_takeNumber_58 : decode cX4_takeNumber 58 = .ok (.getfield 152, 3) := by decide +kernel
theorem dX4_takeNumber_61 : decode cX4_takeNumber 61 = .ok (.istore_n 3, 1) := by decide +kernel
theorem dX4_takeNumber_62 : decode cX4_takeNumber 62 = .ok (.aload_n 0, 1) := by decide +kernel
theorem dX4_takeNumber_63 : decode cX4_takeNumber 63 = .ok (.getfield 22, 3) := by decide +kernel
theorem dX4_takeNumber_66 : decode cX4_takeNumber 66 = .ok (.invokevirtual 90, 3) := by decide +kernel
theorem dX4_takeNumber_69 : decode cX4_takeNumber 69 = .ok (.iload_n 3, 1) := by decide +kernel
theorem dX4_takeNumber_70 : decode cX4_takeNumber 70 = .ok (.ireturn, 1) := by decide +kernel
theorem dX4_blame_0 : decode cX4_blame 0 = .ok (.aload_n 0, 1) := by decide +kernel
theorem dX4_blame_1 : decode cX4_blame 1 = .ok (.iload_n 1, 1) := by decide +kernel
theorem dX4_blame_2 : decode cX4_blame 2 = .ok (.putfield 29, 3) := by decide +kernel
theorem dX4_blame_5 : decode cX4_blame 5 = .ok (.aload_n 0, 1) := by decide +kernel
theorem dX4_blame_6 : decode cX4_blame 6 = .ok (.aload_n 0, 1) := by decide +kernel
theorem dX4_blame_7 : decode cX4_blame 7 = .ok (.getfield 22, 3) := by decide +kernel
theorem dX4_blame_10 : decode cX4_blame 10 = .ok (.getfield 159, 3) := by decide +kernel
theorem dX4_blame_13 : decode cX4_blame 13 = .ok (.putfield 18, 3) := by decide +kernel
theorem dX4_blame_16 : decode cX4_blame 16 = .ok (.iconst 0, 1) := by decide +kernel
theorem dX4_blame_17 : decode cX4_blame 17 = .ok (.ireturn, 1) := by decide +kernel
theorem dX5_init_0 : decode cX5_init 0 = .ok (.aload_n 0, 1) := by decide +kernel
theorem dX5_init_1 : decode cX5_init 1 = .ok (.invokespecial 3, 3) := by decide +kernel
theorem dX5_init_4 : decode cX5_init 4 = .ok (.aload_n 0, 1) := by decide +kernel
theorem dX5_init_5 : decode cX5_init 5 = .ok (.bipush 8, 2) := by decide +kernel
theorem dX5_init_7 : decode cX5_init 7 = .ok (.newarray .int, 2) := by decide +kernel
theorem dX5_init_9 : decode cX5_init 9 = .ok (.putfield 9, 3) := by decide +kernel
theorem dX5_init_12 : decode cX5_init 12 = .ok (.aload_n 0, 1) := by decide +kernel
theorem dX5_init_13 : decode cX5_init 13 = .ok (.iconst 3, 1) := by decide +kernel
theorem dX5_init_14 : decode cX5_init 14 = .ok (.newarray .int, 2) := by decide +kernel
theorem dX5_init_16 : decode cX5_init 16 = .ok (.putfield 15, 3) := by decide +kernel
theorem dX5_init_19 : decode cX5_init 19 = .ok (.aload_n 0, 1) := by decide +kernel
theorem dX5_init_20 : decode cX5_init 20 = .ok (.iconst 3, 1) := by decide +kernel
theorem dX5_init_21 : decode cX5_init 21 = .ok (.newarray .int, 2) := by decide +kernel
theorem dX5_init_23 : decode cX5_init 23 = .ok (.putfield 18, 3) := by decide +kernel
theorem dX5_init_26 : decode cX5_init 26 = .ok (.aload_n 0, 1) := by decide +kernel
theorem dX5_init_27 : decode cX5_init 27 = .ok (.iconst 3, 1) := by decide +kernel
theorem dX5_init_28 : decode cX5_init 28 = .ok (.bipush 8, 2) := by decide +kernel
theorem dX5_init_30 : decode cX5_init 30 = .ok (.multianewarray 21 2, 4) := by decide +kernel
theorem dX5_init_34 : decode cX5_init 34 = .ok (.putfield 23, 3) := by decide +kernel
theorem dX5_init_37 : decode cX5_init 37 = .ok (.aload_n 0, 1) := by decide +kernel
theorem dX5_init_38 : decode cX5_init 38 = .ok (.bipush 8, 2) := by decide +kernel
theorem dX5_init_40 : decode cX5_init 40 = .ok (.newarray .int, 2) := by decide +kernel
theorem dX5_init_42 : decode cX5_init 42 = .ok (.putfield 26, 3) := by decide +kernel
theorem dX5_init_45 : decode cX5_init 45 = .ok (.aload_n 0, 1) := by decide +kernel
theorem dX5_init_46 : decode cX5_init 46 = .ok (.aload_n 1, 1) := by decide +kernel
theorem dX5_init_47 : decode cX5_init 47 = .ok (.putfield 29, 3) := by decide +kernel
theorem dX5_init_50 : decode cX5_init 50 = .ok (.return_, 1) := by decide +kernel
theorem dX5_search_0 : decode cX5_search 0 = .ok (.aload_n 0, 1) := by decide +kernel
theorem dX5_search_1 : decode cX5_search 1 = .ok (.getfield 29, 3) := by decide +kernel
theorem dX5_search_4 : decode cX5_search 4 = .ok (.aload_n 1, 1) := by decide +kernel
theorem dX5_search_5 : decode cX5_search 5 = .ok (.invokevirtual 33, 3) := by decide +kernel
theorem dX5_search_8 : decode cX5_search 8 = .ok (.iload_n 2, 1) := by decide +kernel
theorem dX5_search_9 : decode cX5_search 9 = .ok (.ifCond .lt 20, 3) := by decide +kernel
theorem dX5_search_12 : decode cX5_search 12 = .ok (.iload_n 2, 1) := by decide +kernel
theorem dX5_search_13 : decode cX5_search 13 = .ok (.bipush 8, 2) := by decide +kernel
theorem dX5_search_15 : decode cX5_search 15 = .ok (.if_icmp .ge 14, 3) := by decide +kernel
theorem dX5_search_18 : decode cX5_search 18 = .ok (.aload_n 0, 1) := by decide +kernel
theorem dX5_search_19 : decode cX5_search 19 = .ok (.getfield 29, 3) := by decide +kernel
theorem dX5_search_22 : decode cX5_search 22 = .ok (.getfield 39, 3) := by decide +kernel
theorem dX5_search_25 : decode cX5_search 25 = .ok (.iload_n 2, 1) := by decide +kernel
theorem dX5_search_26 : decode cX5_search 26 = .ok (.ldc 40, 2) := by decide +kernel
theorem dX5_search_28 : decode cX5_search 28 = .ok (.iastore, 1) := by decide +kernel
theorem dX5_search_29 : decode cX5_search 29 = .ok (.aload_n 0, 1) := by decide +kernel
theorem dX5_search_30 : decode cX5_search 30 = .ok (.iload_n 3, 1) := by decide +kernel
theorem dX5_search_31 : decode cX5_search 31 = .ok (.putfield 41, 3) := by decide +kernel
theorem dX5_search_34 : decode cX5_search 34 = .ok (.aload_n 0, 1) := by decide +kernel
theorem dX5_search_35 : decode cX5_search 35 = .ok (.aload_n 0, 1) := by decide +kernel
theorem dX5_search_36 : decode cX5_search 36 = .ok (.getfield 29, 3) := by decide +kernel
theorem dX5_search_39 : decode cX5_search 39 = .ok (.invokevirtual 45, 3) := by decide +kernel
theorem dX5_search_42 : decode cX5_search 42 = .ok (.putfield 49, 3) := by decide +kernel
theorem dX5_search_45 : decode cX5_search 45 = .ok (.aload_n 0, 1) := by decide +kernel
theorem dX5_search_46 : decode cX5_search 46 = .ok (.aload_n 0, 1) := by decide +kernel
theorem dX5_search_47 : decode cX5_search 47 = .ok (.getfield 49, 3) := by decide +kernel
theorem dX5_search_50 : decode cX5_search 50 = .ok (.putfield 53, 3) := by decide +kernel
theorem dX5_search_53 : decode cX5_search 53 = .ok (.aload_n 0, 1) := by decide +kernel
theorem dX5_search_54 : decode cX5_search 54 = .ok (.iconst 0, 1) := by decide +kernel
theorem dX5_search_55 : decode cX5_search 55 = .ok (.putfield 56, 3) := by decide +kernel
theorem dX5_search_58 : decode cX5_search 58 = .ok (.aload_n 0, 1) := by decide +kernel
theorem dX5_search_59 : decode cX5_search 59 = .ok (.iconst (-1), 1) := by decide +kernel
theorem dX5_search_60 : decode cX5_search 60 = .ok (.putfield 59, 3) := by decide +kernel
theorem dX5_search_63 : decode cX5_search 63 = .ok (.aload_n 0, 1) := by decide +kernel
theorem dX5_search_64 : decode cX5_search 64 = .ok (.iconst 0, 1) := by decide +kernel
theorem dX5_search_65 : decode cX5_search 65 = .ok (.putfield 62, 3) := by decide +kernel
theorem dX5_search_68 : decode cX5_search 68 = .ok (.aload_n 0, 1) := by decide +kernel
theorem dX5_search_69 : decode cX5_search 69 = .ok (.iconst 0, 1) := by decide +kernel
theorem dX5_search_70 : decode cX5_search 70 = .ok (.putfield 65, 3) := by decide +kernel
theorem dX5_search_73 : decode cX5_search 73 = .ok (.aload_n 0, 1) := by decide +kernel
theorem dX5_search_74 : decode cX5_search 74 = .ok (.getfield 29, 3) := by decide +kernel
theorem dX5_search_77 : decode cX5_search 77 = .ok (.getfield 68, 3) := by decide +kernel
theorem dX5_search_80 : decode cX5_search 80 = .ok (.getfield 72, 3) := by decide +kernel
theorem dX5_search_83 : decode cX5_search 83 = .ok (.aload_n 0, 1) := by decide +kernel
theorem dX5_search_84 : decode cX5_search 84 = .ok (.invokevirtual 77, 3) := by decide +kernel
theorem dX5_search_87 : decode cX5_search 87 = .ok (.iconst (-1), 1) := by decide +kernel
theorem dX5_search_88 : decode cX5_search 88 = .ok (.ixor, 1) := by decide +kernel
theorem dX5_search_89 : decode cX5_search 89 = .ok (.iand, 1) := by decide +kernel
theorem dX5_search_90 : decode cX5_search 90 = .ok (.ifCond .ne 8, 3) := by decide +kernel
theorem dX5_search_93 : decode cX5_search 93 = .ok (.aload_n 0, 1) := by decide +kernel
theorem dX5_search_94 : decode cX5_search 94 = .ok (.iconst 0, 1) := by decide +kernel
theorem dX5_search_95 : decode cX5_search 95 = .ok (.invokestatic 80, 3) := by decide +kernel
theorem dX5_search_98 : decode cX5_search 98 = .ok (.aload_n 0, 1) := by decide +kernel
theorem dX5_search_99 : decode cX5_search 99 = .ok (.iconst 1, 1) := by decide +kernel
theorem dX5_search_100 : decode cX5_search 100 = .ok (.putfield 84, 3) := by decide +kernel
theorem dX5_search_103 : decode cX5_search 103 = .ok (.return_, 1) := by decide +kernel
theorem dX5_best_0 : decode cX5_best 0 = .ok (.aload_n 0, 1) := by decide +kernel
theorem dX5_best_1 : decode cX5_best 1 = .ok (.getfield 56, 3) := by decide +kernel
theorem dX5_best_4 : decode cX5_best 4 = .ok (.ifCond .le 12, 3) := by decide +kernel
theorem dX5_best_7 : decode cX5_best 7 = .ok (.aload_n 0, 1) := by decide +kernel
theorem dX5_best_8 : decode cX5_best 8 = .ok (.getfield 15, 3) := by decide +kernel
theorem dX5_best_11 : decode cX5_best 11 = .ok (.iload_n 1, 1) := by decide +kernel
theorem dX5_best_12 : decode cX5_best 12 = .ok (.iaload, 1) := by decide +kernel
theorem dX5_best_13 : decode cX5_best 13 = .ok (.goto 4, 3) := by decide +kernel
theorem dX5_best_16 : decode cX5_best 16 = .ok (.iconst (-1), 1) := by decide +kernel
theorem dX5_best_17 : decode cX5_best 17 = .ok (.ireturn, 1) := by decide +kernel
theorem dX5_officialAt_0 : decode cX5_officialAt 0 = .ok (.aload_n 0, 1) := by decide +kernel
theorem dX5_officialAt_1 : decode cX5_officialAt 1 = .ok (.getfield 56, 3) := by decide +kernel
theorem dX5_officialAt_4 : decode cX5_officialAt 4 = .ok (.ifCond .le 28, 3) := by decide +kernel
theorem dX5_officialAt_7 : decode cX5_officialAt 7 = .ok (.iload_n 2, 1) := by decide +kernel
theorem dX5_officialAt_8 : decode cX5_officialAt 8 = .ok (.ifCond .lt 24, 3) := by decide +kernel
theorem dX5_officialAt_11 : decode cX5_officialAt 11 = .ok (.iload_n 2, 1) := by decide +kernel
theorem dX5_officialAt_12 : decode cX5_officialAt 12 = .ok (.aload_n 0, 1) := by decide +kernel
theorem dX5_officialAt_13 : decode cX5_officialAt 13 = .ok (.getfield 18, 3) := by decide +kernel
theorem dX5_officialAt_16 : decode cX5_officialAt 16 = .ok (.iload_n 1, 1) := by decide +kernel
theorem dX5_officialAt_17 : decode cX5_officialAt 17 = .ok (.iaload, 1) := by decide +kernel
theorem dX5_officialAt_18 : decode cX5_officialAt 18 = .ok (.if_icmp .ge 14, 3) := by decide +kernel
theorem dX5_officialAt_21 : decode cX5_officialAt 21 = .ok (.aload_n 0, 1) := by decide +kernel
theorem dX5_officialAt_22 : decode cX5_officialAt 22 = .ok (.getfield 23, 3) := by decide +kernel
theorem dX5_officialAt_25 : decode cX5_officialAt 25 = .ok (.iload_n 1, 1) := by decide +kernel
theorem dX5_officialAt_26 : decode cX5_officialAt 26 = .ok (.aaload, 1) := by decide +kernel
theorem dX5_officialAt_27 : decode cX5_officialAt 27 = .ok (.iload_n 2, 1) := by decide +kernel
theorem dX5_officialAt_28 : decode cX5_officialAt 28 = .ok (.iaload, 1) := by decide +kernel
theorem dX5_officialAt_29 : decode cX5_officialAt 29 = .ok (.goto 4, 3) := by decide +kernel
theorem dX5_officialAt_32 : decode cX5_officialAt 32 = .ok (.iconst (-1), 1) := by decide +kernel
theorem dX5_officialAt_33 : decode cX5_officialAt 33 = .ok (.ireturn, 1) := by decide +kernel
theorem dX5_officialsOf_0 : decode cX5_officialsOf 0 = .ok (.aload_n 0, 1) := by decide +kernel
theorem dX5_officialsOf_1 : decode cX5_officialsOf 1 = .ok (.getfield 56, 3) := by decide +kernel
theorem dX5_officialsOf_4 : decode cX5_officialsOf 4 = .ok (.ifCond .ne 5, 3) := by decide +kernel
theorem dX5_officialsOf_7 : decode cX5_officialsOf 7 = .ok (.iconst (-1), 1) := by decide +kernel
theorem dX5_officialsOf_8 : decode cX5_officialsOf 8 = .ok (.ireturn, 1) := by decide +kernel
theorem dX5_officialsOf_9 : decode cX5_officialsOf 9 = .ok (.iconst 0, 1) := by decide +kernel
theorem dX5_officialsOf_10 : decode cX5_officialsOf 10 = .ok (.istore_n 2, 1) := by decide +kernel
theorem dX5_officialsOf_11 : decode cX5_officialsOf 11 = .ok (.iconst 0, 1) := by decide +kernel
theorem dX5_officialsOf_12 : decode cX5_officialsOf 12 = .ok (.istore_n 3, 1) := by decide +kernel
theorem dX5_officialsOf_13 : decode cX5_officialsOf 13 = .ok (.iload_n 3, 1) := by decide +kernel
theorem dX5_officialsOf_14 : decode cX5_officialsOf 14 = .ok (.aload_n 0, 1) := by decide +kernel
theorem dX5_officialsOf_15 : decode cX5_officialsOf 15 = .ok (.getfield 18, 3) := by decide +kernel
theorem dX5_officialsOf_18 : decode cX5_officialsOf 18 = .ok (.iload_n 1, 1) := by decide +kernel
theorem dX5_officialsOf_19 : decode cX5_officialsOf 19 = .ok (.iaload, 1) := by decide +kernel
theorem dX5_officialsOf_20 : decode cX5_officialsOf 20 = .ok (.if_icmp .ge 22, 3) := by decide +kernel
theorem dX5_officialsOf_23 : decode cX5_officialsOf 23 = .ok (.iload_n 2, 1) := by decide +kernel
theorem dX5_officialsOf_24 : decode cX5_officialsOf 24 = .ok (.iconst 1, 1) := by decide +kernel
theorem dX5_officialsOf_25 : decode cX5_officialsOf 25 = .ok (.aload_n 0, 1) := by decide +kernel
theorem dX5_officialsOf_26 : decode cX5_officialsOf 26 = .ok (.getfield 23, 3) := by decide +kernel
theorem dX5_officialsOf_29 : decode cX5_officialsOf 29 = .ok (.iload_n 1, 1) := by decide +kernel
theorem dX5_officialsOf_30 : decode cX5_officialsOf 30 = .ok (.aaload, 1) := by decide +kernel
theorem dX5_officialsOf_31 : decode cX5_officialsOf 31 = .ok (.iload_n 3, 1) := by decide +kernel
theorem dX5_officialsOf_32 : decode cX5_officialsOf 32 = .ok (.iaload, 1) := by decide +kernel
theorem dX5_officialsOf_33 : decode cX5_officialsOf 33 = .ok (.ishl, 1) := by decide +kernel
theorem dX5_officialsOf_34 : decode cX5_officialsOf 34 = .ok (.ior, 1) := by decide +kernel
theorem dX5_officialsOf_35 : decode cX5_officialsOf 35 = .ok (.istore_n 2, 1) := by decide +kernel
theorem dX5_officialsOf_36 : decode cX5_officialsOf 36 = .ok (.iinc 3 1, 3) := by decide +kernel
theorem dX5_officialsOf_39 : decode cX5_officialsOf 39 = .ok (.goto (-26), 3) := by decide +kernel
theorem dX5_officialsOf_42 : decode cX5_officialsOf 42 = .ok (.iload_n 2, 1) := by decide +kernel
theorem dX5_officialsOf_43 : decode cX5_officialsOf 43 = .ok (.ireturn, 1) := by decide +kernel
theorem dX5_spareHours_0 : decode cX5_spareHours 0 = .ok (.aload_n 0, 1) := by decide +kernel
theorem dX5_spareHours_1 : decode cX5_spareHours 1 = .ok (.getfield 56, 3) := by decide +kernel
theorem dX5_spareHours_4 : decode cX5_spareHours 4 = .ok (.ifCond .eq 25, 3) := by decide +kernel
theorem dX5_spareHours_7 : decode cX5_spareHours 7 = .ok (.iload_n 1, 1) := by decide +kernel
theorem dX5_spareHours_8 : decode cX5_spareHours 8 = .ok (.ifCond .lt 21, 3) := by decide +kernel
theorem dX5_spareHours_11 : decode cX5_spareHours 11 = .ok (.iload_n 1, 1) := by decide +kernel
theorem dX5_spareHours_12 : decode cX5_spareHours 12 = .ok (.bipush 8, 2) := by decide +kernel
theorem dX5_spareHours_14 : decode cX5_spareHours 14 = .ok (.if_icmp .ge 15, 3) := by decide +kernel
theorem dX5_spareHours_17 : decode cX5_spareHours 17 = .ok (.aload_n 0, 1) := by decide +kernel
theorem dX5_spareHours_18 : decode cX5_spareHours 18 = .ok (.iconst 0, 1) := by decide +kernel
theorem dX5_spareHours_19 : decode cX5_spareHours 19 = .ok (.invokevirtual 87, 3) := by decide +kernel
theorem dX5_spareHours_22 : decode cX5_spareHours 22 = .ok (.iload_n 1, 1) := by decide +kernel
theorem dX5_spareHours_23 : decode cX5_spareHours 23 = .ok (.invokestatic 91, 3) := by decide +kernel
theorem dX5_spareHours_26 : decode cX5_spareHours 26 = .ok (.ifCond .ne 5, 3) := by decide +kernel
theorem dX5_spareHours_29 : decode cX5_spareHours 29 = .ok (.iconst (-1), 1) := by decide +kernel
theorem dX5_spareHours_30 : decode cX5_spareHours 30 = .ok (.ireturn, 1) := by decide +kernel
theorem dX5_spareHours_31 : decode cX5_spareHours 31 = .ok (.aload_n 0, 1) := by decide +kernel
theorem dX5_spareHours_32 : decode cX5_spareHours 32 = .ok (.getfield 26, 3) := by decide +kernel
theorem dX5_spareHours_35 : decode cX5_spareHours 35 = .ok (.iload_n 1, 1) := by decide +kernel
theorem dX5_spareHours_36 : decode cX5_spareHours 36 = .ok (.iaload, 1) := by decide +kernel
theorem dX5_spareHours_37 : decode cX5_spareHours 37 = .ok (.istore_n 2, 1) := by decide +kernel
theorem dX5_spareHours_38 : decode cX5_spareHours 38 = .ok (.iload_n 2, 1) := by decide +kernel
theorem dX5_spareHours_39 : decode cX5_spareHours 39 = .ok (.ldc 40, 2) := by decide +kernel
theorem dX5_spareHours_41 : decode cX5_spareHours 41 = .ok (.if_icmp .eq 13, 3) := by decide +kernel
theorem dX5_spareHours_44 : decode cX5_spareHours 44 = .ok (.iload_n 2, 1) := by decide +kernel
theorem dX5_spareHours_45 : decode cX5_spareHours 45 = .ok (.aload_n 0, 1) := by decide +kernel
theorem dX5_spareHours_46 : decode cX5_spareHours 46 = .ok (.getfield 15, 3) := by decide +kernel
theorem dX5_spareHours_49 : decode cX5_spareHours 49 = .ok (.iconst 0, 1) := by decide +kernel
theorem dX5_spareHours_50 : decode cX5_spareHours 50 = .ok (.iaload, 1) := by decide +kernel
theorem dX5_spareHours_51 : decode cX5_spareHours 51 = .ok (.if_icmp .ge 7, 3) := by decide +kernel
theorem dX5_spareHours_54 : decode cX5_spareHours 54 = .ok (.iconst (-1), 1) := by decide +kernel
theorem dX5_spareHours_55 : decode cX5_spareHours 55 = .ok (.goto 11, 3) := by decide +kernel
theorem dX5_spareHours_58 : decode cX5_spareHours 58 = .ok (.iload_n 2, 1) := by decide +kernel
theorem dX5_spareHours_59 : decode cX5_spareHours 59 = .ok (.aload_n 0, 1) := by decide +kernel
theorem dX5_spareHours_60 : decode cX5_spareHours 60 = .ok (.getfield 15, 3) := by decide +kernel
theorem dX5_spareHours_63 : decode cX5_spareHours 63 = .ok (.iconst 0, 1) := by decide +kernel
theorem dX5_spareHours_64 : decode cX5_spareHours 64 = .ok (.iaload, 1) := by decide +kernel
theorem dX5_spareHours_65 : decode cX5_spareHours 65 = .ok (.isub, 1) := by decide +kernel
theorem dX5_spareHours_66 : decode cX5_spareHours 66 = .ok (.ireturn, 1) := by decide +kernel
theorem dX5_obtainable_0 : decode cX5_obtainable 0 = .ok (.aload_n 0, 1) := by decide +kernel
theorem dX5_obtainable_1 : decode cX5_obtainable 1 = .ok (.getfield 49, 3) := by decide +kernel
theorem dX5_obtainable_4 : decode cX5_obtainable 4 = .ok (.istore_n 1, 1) := by decide +kernel
theorem dX5_obtainable_5 : decode cX5_obtainable 5 = .ok (.iconst 0, 1) := by decide +kernel
theorem dX5_obtainable_6 : decode cX5_obtainable 6 = .ok (.istore_n 2, 1) := by decide +kernel
theorem dX5_obtainable_7 : decode cX5_obtainable 7 = .ok (.iload_n 2, 1) := by decide +kernel
theorem dX5_obtainable_8 : decode cX5_obtainable 8 = .ok (.bipush 8, 2) := by decide +kernel
theorem dX5_obtainable_10 : decode cX5_obtainable 10 = .ok (.if_icmp .ge 104, 3) := by decide +kernel
theorem dX5_obtainable_13 : decode cX5_obtainable 13 = .ok (.iconst 0, 1) := by decide +kernel
theorem dX5_obtainable_14 : decode cX5_obtainable 14 = .ok (.istore_n 3, 1) := by decide +kernel
theorem dX5_obtainable_15 : decode cX5_obtainable 15 = .ok (.iload_n 3, 1) := by decide +kernel
theorem dX5_obtainable_16 : decode cX5_obtainable 16 = .ok (.aload_n 0, 1) := by decide +kernel
theorem dX5_obtainable_17 : decode cX5_obtainable 17 = .ok (.getfield 29, 3) := by decide +kernel
theorem dX5_obtainable_20 : decode cX5_obtainable 20 = .ok (.getfield 68, 3) := by decide +kernel
theorem dX5_obtainable_23 : decode cX5_obtainable 23 = .ok (.getfield 95, 3) := by decide +kernel
theorem dX5_obtainable_26 : decode cX5_obtainable 26 = .ok (.if_icmp .ge 82, 3) := by decide +kernel
theorem dX5_obtainable_29 : decode cX5_obtainable 29 = .ok (.aload_n 0, 1) := by decide +kernel
theorem dX5_obtainable_30 : decode cX5_obtainable 30 = .ok (.getfield 29, 3) := by decide +kernel
theorem dX5_obtainable_33 : decode cX5_obtainable 33 = .ok (.iload_n 3, 1) := by decide +kernel
theorem dX5_obtainable_34 : decode cX5_obtainable 34 = .ok (.invokevirtual 98, 3) := by decide +kernel
theorem dX5_obtainable_37 : decode cX5_obtainable 37 = .ok (.istore 4, 2) := by decide +kernel
theorem dX5_obtainable_39 : decode cX5_obtainable 39 = .ok (.iload 4, 2) := by decide +kernel
theorem dX5_obtainable_41 : decode cX5_obtainable 41 = .ok (.iconst (-1), 1) := by decide +kernel
theorem dX5_obtainable_42 : decode cX5_obtainable 42 = .ok (.if_icmp .eq 24, 3) := by decide +kernel
theorem dX5_obtainable_45 : decode cX5_obtainable 45 = .ok (.aload_n 0, 1) := by decide +kernel
theorem dX5_obtainable_46 : decode cX5_obtainable 46 = .ok (.getfield 29, 3) := by decide +kernel
theorem dX5_obtainable_49 : decode cX5_obtainable 49 = .ok (.getfield 101, 3) := by decide +kernel
theorem dX5_obtainable_52 : decode cX5_obtainable 52 = .ok (.iload_n 3, 1) := by decide +kernel
theorem dX5_obtainable_53 : decode cX5_obtainable 53 = .ok (.iload 4, 2) := by decide +kernel
theorem dX5_obtainable_55 : decode cX5_obtainable 55 = .ok (.invokevirtual 105, 3) := by decide +kernel
theorem dX5_obtainable_58 : decode cX5_obtainable 58 = .ok (.iconst (-1), 1) := by decide +kernel
theorem dX5_obtainable_59 : decode cX5_obtainable 59 = .ok (.if_icmp .eq 7, 3) := by decide +kernel
theorem dX5_obtainable_62 : decode cX5_obtainable 62 = .ok (.iconst 1, 1) := by decide +kernel
theorem dX5_obtainable_63 : decode cX5_obtainable 63 = .ok (.goto 4, 3) := by decide +kernel
theorem dX5_obtainable_66 : decode cX5_obtainable 66 = .ok (.iconst 0, 1) := by decide +kernel
theorem dX5_obtainable_67 : decode cX5_obtainable 67 = .ok (.istore 5, 2) := by decide +kernel
theorem dX5_obtainable_69 : decode cX5_obtainable 69 = .ok (.iload 5, 2) := by decide +kernel
theorem dX5_obtainable_71 : decode cX5_obtainable 71 = .ok (.ifCond .eq 31, 3) := by decide +kernel
theorem dX5_obtainable_74 : decode cX5_obtainable 74 = .ok (.aload_n 0, 1) := by decide +kernel
theorem dX5_obtainable_75 : decode cX5_obtainable 75 = .ok (.getfield 29, 3) := by decide +kernel
theorem dX5_obtainable_78 : decode cX5_obtainable 78 = .ok (.getfield 68, 3) := by decide +kernel
theorem dX5_obtainable_81 : decode cX5_obtainable 81 = .ok (.getfield 111, 3) := by decide +kernel
theorem dX5_obtainable_84 : decode cX5_obtainable 84 = .ok (.bipush 9, 2) := by decide +kernel
theorem dX5_obtainable_86 : decode cX5_obtainable 86 = .ok (.aaload, 1) := by decide +kernel
theorem dX5_obtainable_87 : decode cX5_obtainable 87 = .ok (.iload_n 3, 1) := by decide +kernel
theorem dX5_obtainable_88 : decode cX5_obtainable 88 = .ok (.iaload, 1) := by decide +kernel
theorem dX5_obtainable_89 : decode cX5_obtainable 89 = .ok (.iload_n 1, 1) := by decide +kernel
theorem dX5_obtainable_90 : decode cX5_obtainable 90 = .ok (.iconst (-1), 1) := by decide +kernel
theorem dX5_obtainable_91 : decode cX5_obtainable 91 = .ok (.ixor, 1) := by decide +kernel
theorem dX5_obtainable_92 : decode cX5_obtainable 92 = .ok (.iand, 1) := by decide +kernel
theorem dX5_obtainable_93 : decode cX5_obtainable 93 = .ok (.ifCond .ne 9, 3) := by decide +kernel
theorem dX5_obtainable_96 : decode cX5_obtainable 96 = .ok (.iload_n 1, 1) := by decide +kernel
theorem dX5_obtainable_97 : decode cX5_obtainable 97 = .ok (.iconst 1, 1) := by decide +kernel
theorem dX5_obtainable_98 : decode cX5_obtainable 98 = .ok (.iload_n 3, 1) := by decide +kernel
theorem dX5_obtainable_99 : decode cX5_obtainable 99 = .ok (.ishl, 1) := by decide +kernel
theorem dX5_obtainable_100 : decode cX5_obtainable 100 = .ok (.ior, 1) := by decide +kernel
theorem dX5_obtainable_101 : decode cX5_obtainable 101 = .ok (.istore_n 1, 1) := by decide +kernel
theorem dX5_obtainable_102 : decode cX5_obtainable 102 = .ok (.iinc 3 1, 3) := by decide +kernel
theorem dX5_obtainable_105 : decode cX5_obtainable 105 = .ok (.goto (-90), 3) := by decide +kernel
theorem dX5_obtainable_108 : decode cX5_obtainable 108 = .ok (.iinc 2 1, 3) := by decide +kernel
theorem dX5_obtainable_111 : decode cX5_obtainable 111 = .ok (.goto (-104), 3) := by decide +kernel
theorem dX5_obtainable_114 : decode cX5_obtainable 114 = .ok (.iload_n 1, 1) := by decide +kernel
theorem dX5_obtainable_115 : decode cX5_obtainable 115 = .ok (.ireturn, 1) := by decide +kernel
theorem dX5_follow_0 : decode cX5_follow 0 = .ok (.aload_n 0, 1) := by decide +kernel
theorem dX5_follow_1 : decode cX5_follow 1 = .ok (.getfield 29, 3) := by decide +kernel
theorem dX5_follow_4 : decode cX5_follow 4 = .ok (.astore_n 2, 1) := by decide +kernel
theorem dX5_follow_5 : decode cX5_follow 5 = .ok (.aload_n 2, 1) := by decide +kernel
theorem dX5_follow_6 : decode cX5_follow 6 = .ok (.invokevirtual 114, 3) := by decide +kernel
theorem dX5_follow_9 : decode cX5_follow 9 = .ok (.istore_n 3, 1) := by decide +kernel
theorem dX5_follow_10 : decode cX5_follow 10 = .ok (.iload_n 3, 1) := by decide +kernel
theorem dX5_follow_11 : decode cX5_follow 11 = .ok (.ifCond .ne 9, 3) := by decide +kernel
theorem dX5_follow_14 : decode cX5_follow 14 = .ok (.aload_n 0, 1) := by decide +kernel
theorem dX5_follow_15 : decode cX5_follow 15 = .ok (.iload_n 1, 1) := by decide +kernel
theorem dX5_follow_16 : decode cX5_follow 16 = .ok (.invokevirtual 117, 3) := by decide +kernel
theorem dX5_follow_19 : decode cX5_follow 19 = .ok (.return_, 1) := by decide +kernel
theorem dX5_follow_20 : decode cX5_follow 20 = .ok (.iload_n 1, 1) := by decide +kernel
theorem dX5_follow_21 : decode cX5_follow 21 = .ok (.bipush 8, 2) := by decide +kernel
theorem dX5_follow_23 : decode cX5_follow 23 = .ok (.if_icmp .ge 12, 3) := by decide +kernel
theorem dX5_follow_26 : decode cX5_follow 26 = .ok (.aload_n 0, 1) := by decide +kernel
theorem dX5_follow_27 : decode cX5_follow 27 = .ok (.iload_n 3, 1) := by decide +kernel
theorem dX5_follow_28 : decode cX5_follow 28 = .ok (.iload_n 1, 1) := by decide +kernel
theorem dX5_follow_29 : decode cX5_follow 29 = .ok (.invokevirtual 121, 3) := by decide +kernel
theorem dX5_follow_32 : decode cX5_follow 32 = .ok (.ifCond .eq 4, 3) := by decide +kernel
theorem dX5_follow_35 : decode cX5_follow 35 = .ok (.return_, 1) := by decide +kernel
theorem dX5_follow_36 : decode cX5_follow 36 = .ok (.aload_n 2, 1) := by decide +kernel
theorem dX5_follow_37 : decode cX5_follow 37 = .ok (.getfield 124, 3) := by decide +kernel
theorem dX5_follow_40 : decode cX5_follow 40 = .ok (.istore 4, 2) := by decide +kernel
theorem dX5_follow_42 : decode cX5_follow 42 = .ok (.aload_n 2, 1) := by decide +kernel
theorem dX5_follow_43 : decode cX5_follow 43 = .ok (.getfield 127, 3) := by decide +kernel
theorem dX5_follow_46 : decode cX5_follow 46 = .ok (.istore 5, 2) := by decide +kernel
theorem dX5_follow_48 : decode cX5_follow 48 = .ok (.aload_n 2, 1) := by decide +kernel
theorem dX5_follow_49 : decode cX5_follow 49 = .ok (.getfield 130, 3) := by decide +kernel
theorem dX5_follow_52 : decode cX5_follow 52 = .ok (.istore 6, 2) := by decide +kernel
theorem dX5_follow_54 : decode cX5_follow 54 = .ok (.aload_n 2, 1) := by decide +kernel
theorem dX5_follow_55 : decode cX5_follow 55 = .ok (.getfield 133, 3) := by decide +kernel
theorem dX5_follow_58 : decode cX5_follow 58 = .ok (.istore 7, 2) := by decide +kernel
theorem dX5_follow_60 : decode cX5_follow 60 = .ok (.iconst 0, 1) := by decide +kernel
theorem dX5_follow_61 : decode cX5_follow 61 = .ok (.istore 8, 2) := by decide +kernel
theorem dX5_follow_63 : decode cX5_follow 63 = .ok (.iload 8, 2) := by decide +kernel
theorem dX5_follow_65 : decode cX5_follow 65 = .ok (.aload_n 2, 1) := by decide +kernel
theorem dX5_follow_66 : decode cX5_follow 66 = .ok (.getfield 68, 3) := by decide +kernel
theorem dX5_follow_69 : decode cX5_follow 69 = .ok (.getfield 95, 3) := by decide +kernel
theorem dX5_follow_72 : decode cX5_follow 72 = .ok (.if_icmp .ge 139, 3) := by decide +kernel
theorem dX5_follow_75 : decode cX5_follow 75 = .ok (.iload 8, 2) := by decide +kernel
theorem dX5_follow_77 : decode cX5_follow 77 = .ok (.bipush 8, 2) := by decide +kernel
theorem dX5_follow_79 : decode cX5_follow 79 = .ok (.if_icmp .ge 132, 3) := by decide +kernel
theorem dX5_follow_82 : decode cX5_follow 82 = .ok (.aload_n 0, 1) := by decide +kernel
theorem dX5_follow_83 : decode cX5_follow 83 = .ok (.getfield 53, 3) := by decide +kernel
theorem dX5_follow_86 : decode cX5_follow 86 = .ok (.iload 8, 2) := by decide +kernel
theorem dX5_follow_88 : decode cX5_follow 88 = .ok (.invokestatic 91, 3) := by decide +kernel
theorem dX5_follow_91 : decode cX5_follow 91 = .ok (.ifCond .eq 7, 3) := by decide +kernel
theorem dX5_follow_94 : decode cX5_follow 94 = .ok (.iconst (-1), 1) := by decide +kernel
theorem dX5_follow_95 : decode cX5_follow 95 = .ok (.goto 9, 3) := by decide +kernel
theorem dX5_follow_98 : decode cX5_follow 98 = .ok (.aload_n 2, 1) := by decide +kernel
theorem dX5_follow_99 : decode cX5_follow 99 = .ok (.iload 8, 2) := by decide +kernel
theorem dX5_follow_101 : decode cX5_follow 101 = .ok (.invokevirtual 136, 3) := by decide +kernel
theorem dX5_follow_104 : decode cX5_follow 104 = .ok (.istore 9, 2) := by decide +kernel
theorem dX5_follow_106 : decode cX5_follow 106 = .ok (.iload 9, 2) := by decide +kernel
theorem dX5_follow_108 : decode cX5_follow 108 = .ok (.iconst (-1), 1) := by decide +kernel
theorem dX5_follow_109 : decode cX5_follow 109 = .ok (.if_icmp .eq 96, 3) := by decide +kernel
theorem dX5_follow_112 : decode cX5_follow 112 = .ok (.aload_n 2, 1) := by decide +kernel
theorem dX5_follow_113 : decode cX5_follow 113 = .ok (.getfield 39, 3) := by decide +kernel
theorem dX5_follow_116 : decode cX5_follow 116 = .ok (.iload 8, 2) := by decide +kernel
theorem dX5_follow_118 : decode cX5_follow 118 = .ok (.iaload, 1) := by decide +kernel
theorem dX5_follow_119 : decode cX5_follow 119 = .ok (.istore 10, 2) := by decide +kernel
theorem dX5_follow_121 : decode cX5_follow 121 = .ok (.aload_n 0, 1) := by decide +kernel
theorem dX5_follow_122 : decode cX5_follow 122 = .ok (.getfield 9, 3) := by decide +kernel
theorem dX5_follow_125 : decode cX5_follow 125 = .ok (.iload_n 1, 1) := by decide +kernel
theorem dX5_follow_126 : decode cX5_follow 126 = .ok (.iload 8, 2) := by decide +kernel
theorem dX5_follow_128 : decode cX5_follow 128 = .ok (.iastore, 1) := by decide +kernel
theorem dX5_follow_129 : decode cX5_follow 129 = .ok (.aload_n 0, 1) := by decide +kernel
theorem dX5_follow_130 : decode cX5_follow 130 = .ok (.dup, 1) := by decide +kernel
theorem dX5_follow_131 : decode cX5_follow 131 = .ok (.getfield 53, 3) := by decide +kernel
theorem dX5_follow_134 : decode cX5_follow 134 = .ok (.iconst 1, 1) := by decide +kernel
theorem dX5_follow_135 : decode cX5_follow 135 = .ok (.iload 8, 2) := by decide +kernel
theorem dX5_follow_137 : decode cX5_follow 137 = .ok (.ishl, 1) := by decide +kernel
theorem dX5_follow_138 : decode cX5_follow 138 = .ok (.ior, 1) := by decide +kernel
theorem dX5_follow_139 : decode cX5_follow 139 = .ok (.putfield 53, 3) := by decide +kernel
theorem dX5_follow_142 : decode cX5_follow 142 = .ok (.aload_n 2, 1) := by decide +kernel
theorem dX5_follow_143 : decode cX5_follow 143 = .ok (.iload 8, 2) := by decide +kernel
theorem dX5_follow_145 : decode cX5_follow 145 = .ok (.iload 9, 2) := by decide +kernel
theorem dX5_follow_147 : decode cX5_follow 147 = .ok (.invokevirtual 139, 3) := by decide +kernel
theorem dX5_follow_150 : decode cX5_follow 150 = .ok (.aload_n 0, 1) := by decide +kernel
theorem dX5_follow_151 : decode cX5_follow 151 = .ok (.iload_n 1, 1) := by decide +kernel
theorem dX5_follow_152 : decode cX5_follow 152 = .ok (.iconst 1, 1) := by decide +kernel
theorem dX5_follow_153 : decode cX5_follow 153 = .ok (.iadd, 1) := by decide +kernel
theorem dX5_follow_154 : decode cX5_follow 154 = .ok (.invokestatic 80, 3) := by decide +kernel
theorem dX5_follow_157 : decode cX5_follow 157 = .ok (.aload_n 2, 1) := by decide +kernel
theorem dX5_follow_158 : decode cX5_follow 158 = .ok (.getfield 39, 3) := by decide +kernel
theorem dX5_follow_161 : decode cX5_follow 161 = .ok (.iload 8, 2) := by decide +kernel
theorem dX5_follow_163 : decode cX5_follow 163 = .ok (.iload 10, 2) := by decide +kernel
theorem dX5_follow_165 : decode cX5_follow 165 = .ok (.iastore, 1) := by decide +kernel
theorem dX5_follow_166 : decode cX5_follow 166 = .ok (.aload_n 2, 1) := by decide +kernel
theorem dX5_follow_167 : decode cX5_follow 167 = .ok (.iload 4, 2) := by decide +kernel
theorem dX5_follow_169 : decode cX5_follow 169 = .ok (.putfield 124, 3) := by decide +kernel
theorem dX5_follow_172 : decode cX5_follow 172 = .ok (.aload_n 2, 1) := by decide +kernel
theorem dX5_follow_173 : decode cX5_follow 173 = .ok (.iload 5, 2) := by decide +kernel
theorem dX5_follow_175 : decode cX5_follow 175 = .ok (.putfield 127, 3) := by decide +kernel
theorem dX5_follow_178 : decode cX5_follow 178 = .ok (.aload_n 2, 1) := by decide +kernel
theorem dX5_follow_179 : decode cX5_follow 179 = .ok (.iload 6, 2) := by decide +kernel
theorem dX5_follow_181 : decode cX5_follow 181 = .ok (.putfield 130, 3) := by decide +kernel
theorem dX5_follow_184 : decode cX5_follow 184 = .ok (.aload_n 2, 1) := by decide +kernel
theorem dX5_follow_185 : decode cX5_follow 185 = .ok (.iload 7, 2) := by decide +kernel
theorem dX5_follow_187 : decode cX5_follow 187 = .ok (.putfield 133, 3) := by decide +kernel
theorem dX5_follow_190 : decode cX5_follow 190 = .ok (.aload_n 0, 1) := by decide +kernel
theorem dX5_follow_191 : decode cX5_follow 191 = .ok (.dup, 1) := by decide +kernel
theorem dX5_follow_192 : decode cX5_follow 192 = .ok (.getfield 53, 3) := by decide +kernel
theorem dX5_follow_195 : decode cX5_follow 195 = .ok (.iconst 1, 1) := by decide +kernel
theorem dX5_follow_196 : decode cX5_follow 196 = .ok (.iload 8, 2) := by decide +kernel
theorem dX5_follow_198 : decode cX5_follow 198 = .ok (.ishl, 1) := by decide +kernel
theorem dX5_follow_199 : decode cX5_follow 199 = .ok (.iconst (-1), 1) := by decide +kernel
theorem dX5_follow_200 : decode cX5_follow 200 = .ok (.ixor, 1) := by decide +kernel
theorem dX5_follow_201 : decode cX5_follow 201 = .ok (.iand, 1) := by decide +kernel
theorem dX5_follow_202 : decode cX5_follow 202 = .ok (.putfield 53, 3) := by decide +kernel
theorem dX5_follow_205 : decode cX5_follow 205 = .ok (.iinc 8 1, 3) := by decide +kernel
theorem dX5_follow_208 : decode cX5_follow 208 = .ok (.goto (-145), 3) := by decide +kernel
theorem dX5_follow_211 : decode cX5_follow 211 = .ok (.return_, 1) := by decide +kernel
theorem dX5_isHopeless_0 : decode cX5_isHopeless 0 = .ok (.iload_n 1, 1) := by decide +kernel
theorem dX5_isHopeless_1 : decode cX5_isHopeless 1 = .ok (.aload_n 0, 1) := by decide +kernel
theorem dX5_isHopeless_2 : decode cX5_isHopeless 2 = .ok (.getfield 53, 3) := by decide +kernel
theorem dX5_isHopeless_5 : decode cX5_isHopeless 5 = .ok (.iand, 1) := by decide +kernel
theorem dX5_isHopeless_6 : decode cX5_isHopeless 6 = .ok (.ifCond .eq 5, 3) := by decide +kernel
theorem dX5_isHopeless_9 : decode cX5_isHopeless 9 = .ok (.iconst 1, 1) := by decide +kernel
theorem dX5_isHopeless_10 : decode cX5_isHopeless 10 = .ok (.ireturn, 1) := by decide +kernel
theorem dX5_isHopeless_11 : decode cX5_isHopeless 11 = .ok (.iconst 0, 1) := by decide +kernel
theorem dX5_isHopeless_12 : decode cX5_isHopeless 12 = .ok (.istore_n 3, 1) := by decide +kernel
theorem dX5_isHopeless_13 : decode cX5_isHopeless 13 = .ok (.iload_n 3, 1) := by decide +kernel
theorem dX5_isHopeless_14 : decode cX5_isHopeless 14 = .ok (.bipush 8, 2) := by decide +kernel
theorem dX5_isHopeless_16 : decode cX5_isHopeless 16 = .ok (.if_icmp .ge 40, 3) := by decide +kernel
theorem dX5_isHopeless_19 : decode cX5_isHopeless 19 = .ok (.iload_n 1, 1) := by decide +kernel
theorem dX5_isHopeless_20 : decode cX5_isHopeless 20 = .ok (.iload_n 3, 1) := by decide +kernel
theorem dX5_isHopeless_21 : decode cX5_isHopeless 21 = .ok (.invokestatic 91, 3) := by decide +kernel
theorem dX5_isHopeless_24 : decode cX5_isHopeless 24 = .ok (.ifCond .eq 26, 3) := by decide +kernel
theorem dX5_isHopeless_27 : decode cX5_isHopeless 27 = .ok (.aload_n 0, 1) := by decide +kernel
theorem dX5_isHopeless_28 : decode cX5_isHopeless 28 = .ok (.getfield 29, 3) := by decide +kernel
theorem dX5_isHopeless_31 : decode cX5_isHopeless 31 = .ok (.iload_n 3, 1) := by decide +kernel
theorem dX5_isHopeless_32 : decode cX5_isHopeless 32 = .ok (.aload_n 0, 1) := by decide +kernel
theorem dX5_isHopeless_33 : decode cX5_isHopeless 33 = .ok (.getfield 29, 3) := by decide +kernel
theorem dX5_isHopeless_36 : decode cX5_isHopeless 36 = .ok (.getfield 124, 3) := by decide +kernel
theorem dX5_isHopeless_39 : decode cX5_isHopeless 39 = .ok (.invokevirtual 143, 3) := by decide +kernel
theorem dX5_isHopeless_42 : decode cX5_isHopeless 42 = .ok (.sipush 400, 3) := by decide +kernel
theorem dX5_isHopeless_45 : decode cX5_isHopeless 45 = .ok (.if_icmp .lt 5, 3) := by decide +kernel
theorem dX5_isHopeless_48 : decode cX5_isHopeless 48 = .ok (.iconst 1, 1) := by decide +kernel
theorem dX5_isHopeless_49 : decode cX5_isHopeless 49 = .ok (.ireturn, 1) := by decide +kernel
theorem dX5_isHopeless_50 : decode cX5_isHopeless 50 = .ok (.iinc 3 1, 3) := by decide +kernel
theorem dX5_isHopeless_53 : decode cX5_isHopeless 53 = .ok (.goto (-40), 3) := by decide +kernel
theorem dX5_isHopeless_56 : decode cX5_isHopeless 56 = .ok (.aload_n 0, 1) := by decide +kernel
theorem dX5_isHopeless_57 : decode cX5_isHopeless 57 = .ok (.getfield 41, 3) := by decide +kernel
theorem dX5_isHopeless_60 : decode cX5_isHopeless 60 = .ok (.ifCond .ne 10, 3) := by decide +kernel
theorem dX5_isHopeless_63 : decode cX5_isHopeless 63 = .ok (.aload_n 0, 1) := by decide +kernel
theorem dX5_isHopeless_64 : decode cX5_isHopeless 64 = .ok (.getfield 56, 3) := by decide +kernel
theorem dX5_isHopeless_67 : decode cX5_isHopeless 67 = .ok (.ifCond .ne 5, 3) := by decide +kernel
theorem dX5_isHopeless_70 : decode cX5_isHopeless 70 = .ok (.iconst 0, 1) := by decide +kernel
theorem dX5_isHopeless_71 : decode cX5_isHopeless 71 = .ok (.ireturn, 1) := by decide +kernel
theorem dX5_isHopeless_72 : decode cX5_isHopeless 72 = .ok (.iload_n 1, 1) := by decide +kernel
theorem dX5_isHopeless_73 : decode cX5_isHopeless 73 = .ok (.invokestatic 146, 3) := by decide +kernel
theorem dX5_isHopeless_76 : decode cX5_isHopeless 76 = .ok (.istore_n 3, 1) := by decide +kernel
theorem dX5_isHopeless_77 : decode cX5_isHopeless 77 = .ok (.aload_n 0, 1) := by decide +kernel
theorem dX5_isHopeless_78 : decode cX5_isHopeless 78 = .ok (.iconst 0, 1) := by decide +kernel
theorem dX5_isHopeless_79 : decode cX5_isHopeless 79 = .ok (.aload_n 0, 1) := by decide +kernel
theorem dX5_isHopeless_80 : decode cX5_isHopeless 80 = .ok (.getfield 29, 3) := by decide +kernel
theorem dX5_isHopeless_83 : decode cX5_isHopeless 83 = .ok (.getfield 124, 3) := by decide +kernel
theorem dX5_isHopeless_86 : decode cX5_isHopeless 86 = .ok (.iload_n 3, 1) := by decide +kernel
theorem dX5_isHopeless_87 : decode cX5_isHopeless 87 = .ok (.iadd, 1) := by decide +kernel
theorem dX5_isHopeless_88 : decode cX5_isHopeless 88 = .ok (.iload_n 2, 1) := by decide +kernel
theorem dX5_isHopeless_89 : decode cX5_isHopeless 89 = .ok (.iload_n 3, 1) := by decide +kernel
theorem dX5_isHopeless_90 : decode cX5_isHopeless 90 = .ok (.iadd, 1) := by decide +kernel
theorem dX5_isHopeless_91 : decode cX5_isHopeless 91 = .ok (.invokevirtual 151, 3) := by decide +kernel
theorem dX5_isHopeless_94 : decode cX5_isHopeless 94 = .ok (.ifCond .ne 7, 3) := by decide +kernel
theorem dX5_isHopeless_97 : decode cX5_isHopeless 97 = .ok (.iconst 1, 1) := by decide +kernel
theorem dX5_isHopeless_98 : decode cX5_isHopeless 98 = .ok (.goto 4, 3) := by decide +kernel
theorem dX5_isHopeless_101 : decode cX5_isHopeless 101 = .ok (.iconst 0, 1) := by decide +kernel
theorem dX5_isHopeless_102 : decode cX5_isHopeless 102 = .ok (.ireturn, 1) := by decide +kernel
theorem dX5_isBetter_0 : decode cX5_isBetter 0 = .ok (.aload_n 0, 1) := by decide +kernel
theorem dX5_isBetter_1 : decode cX5_isBetter 1 = .ok (.getfield 56, 3) := by decide +kernel
theorem dX5_isBetter_4 : decode cX5_isBetter 4 = .ok (.ifCond .eq 33, 3) := by decide +kernel
theorem dX5_isBetter_7 : decode cX5_isBetter 7 = .ok (.iload_n 2, 1) := by decide +kernel
theorem dX5_isBetter_8 : decode cX5_isBetter 8 = .ok (.aload_n 0, 1) := by decide +kernel
theorem dX5_isBetter_9 : decode cX5_isBetter 9 = .ok (.getfield 15, 3) := by decide +kernel
theorem dX5_isBetter_12 : decode cX5_isBetter 12 = .ok (.iload_n 1, 1) := by decide +kernel
theorem dX5_isBetter_13 : decode cX5_isBetter 13 = .ok (.iaload, 1) := by decide +kernel
theorem dX5_isBetter_14 : decode cX5_isBetter 14 = .ok (.if_icmp .lt 23, 3) := by decide +kernel
theorem dX5_isBetter_17 : decode cX5_isBetter 17 = .ok (.iload_n 2, 1) := by decide +kernel
theorem dX5_isBetter_18 : decode cX5_isBetter 18 = .ok (.aload_n 0, 1) := by decide +kernel
theorem dX5_isBetter_19 : decode cX5_isBetter 19 = .ok (.getfield 15, 3) := by decide +kernel
theorem dX5_isBetter_22 : decode cX5_isBetter 22 = .ok (.iload_n 1, 1) := by decide +kernel
theorem dX5_isBetter_23 : decode cX5_isBetter 23 = .ok (.iaload, 1) := by decide +kernel
theorem dX5_isBetter_24 : decode cX5_isBetter 24 = .ok (.if_icmp .ne 17, 3) := by decide +kernel
theorem dX5_isBetter_27 : decode cX5_isBetter 27 = .ok (.iload_n 3, 1) := by decide +kernel
theorem dX5_isBetter_28 : decode cX5_isBetter 28 = .ok (.aload_n 0, 1) := by decide +kernel
theorem dX5_isBetter_29 : decode cX5_isBetter 29 = .ok (.getfield 18, 3) := by decide +kernel
theorem dX5_isBetter_32 : decode cX5_isBetter 32 = .ok (.iload_n 1, 1) := by decide +kernel
theorem dX5_isBetter_33 : decode cX5_isBetter 33 = .ok (.iaload, 1) := by decide +kernel
theorem dX5_isBetter_34 : decode cX5_isBetter 34 = .ok (.if_icmp .ge 7, 3) := by decide +kernel
theorem dX5_isBetter_37 : decode cX5_isBetter 37 = .ok (.iconst 1, 1) := by decide +kernel
theorem dX5_isBetter_38 : decode cX5_isBetter 38 = .ok (.goto 4, 3) := by decide +kernel
theorem dX5_isBetter_41 : decode cX5_isBetter 41 = .ok (.iconst 0, 1) := by decide +kernel
theorem dX5_isBetter_42 : decode cX5_isBetter 42 = .ok (.ireturn, 1) := by decide +kernel
theorem dX5_take_0 : decode cX5_take 0 = .ok (.aload_n 0, 1) := by decide +kernel
theorem dX5_take_1 : decode cX5_take 1 = .ok (.getfield 53, 3) := by decide +kernel
theorem dX5_take_4 : decode cX5_take 4 = .ok (.aload_n 0, 1) := by decide +kernel
theorem dX5_take_5 : decode cX5_take 5 = .ok (.getfield 49, 3) := by decide +kernel
theorem dX5_take_8 : decode cX5_take 8 = .ok (.iconst (-1), 1) := by decide +kernel
theorem dX5_take_9 : decode cX5_take 9 = .ok (.ixor, 1) := by decide +kernel
theorem dX5_take_10 : decode cX5_take 10 = .ok (.iand, 1) := by decide +kernel
theorem dX5_take_11 : decode cX5_take 11 = .ok (.istore_n 2, 1) := by decide +kernel
theorem dX5_take_12 : decode cX5_take 12 = .ok (.aload_n 0, 1) := by decide +kernel
theorem dX5_take_13 : decode cX5_take 13 = .ok (.iconst 0, 1) := by decide +kernel
theorem dX5_take_14 : decode cX5_take 14 = .ok (.aload_n 0, 1) := by decide +kernel
theorem dX5_take_15 : decode cX5_take 15 = .ok (.getfield 29, 3) := by decide +kernel
theorem dX5_take_18 : decode cX5_take 18 = .ok (.getfield 124, 3) := by decide +kernel
theorem dX5_take_21 : decode cX5_take 21 = .ok (.iload_n 1, 1) := by decide +kernel
theorem dX5_take_22 : decode cX5_take 22 = .ok (.invokevirtual 151, 3) := by decide +kernel
theorem dX5_take_25 : decode cX5_take 25 = .ok (.ifCond .eq 34, 3) := by decide +kernel
theorem dX5_take_28 : decode cX5_take 28 = .ok (.aload_n 0, 1) := by decide +kernel
theorem dX5_take_29 : decode cX5_take 29 = .ok (.iconst 0, 1) := by decide +kernel
theorem dX5_take_30 : decode cX5_take 30 = .ok (.aload_n 0, 1) := by decide +kernel
theorem dX5_take_31 : decode cX5_take 31 = .ok (.getfield 29, 3) := by decide +kernel
theorem dX5_take_34 : decode cX5_take 34 = .ok (.getfield 124, 3) := by decide +kernel
theorem dX5_take_37 : decode cX5_take 37 = .ok (.iload_n 1, 1) := by decide +kernel
theorem dX5_take_38 : decode cX5_take 38 = .ok (.invokevirtual 155, 3) := by decide +kernel
theorem dX5_take_41 : decode cX5_take 41 = .ok (.aload_n 0, 1) := by decide +kernel
theorem dX5_take_42 : decode cX5_take 42 = .ok (.getfield 29, 3) := by decide +kernel
theorem dX5_take_45 : decode cX5_take 45 = .ok (.getfield 39, 3) := by decide +kernel
theorem dX5_take_48 : decode cX5_take 48 = .ok (.iconst 0, 1) := by decide +kernel
theorem dX5_take_49 : decode cX5_take 49 = .ok (.aload_n 0, 1) := by decide +kernel
theorem dX5_take_50 : decode cX5_take 50 = .ok (.getfield 26, 3) := by decide +kernel
theorem dX5_take_53 : decode cX5_take 53 = .ok (.iconst 0, 1) := by decide +kernel
theorem dX5_take_54 : decode cX5_take 54 = .ok (.bipush 8, 2) := by decide +kernel
theorem dX5_take_56 : decode cX5_take 56 = .ok (.invokestatic 159, 3) := by decide +kernel
theorem dX5_take_59 : decode cX5_take 59 = .ok (.aload_n 0, 1) := by decide +kernel
theorem dX5_take_60 : decode cX5_take 60 = .ok (.iconst 1, 1) := by decide +kernel
theorem dX5_take_61 : decode cX5_take 61 = .ok (.aload_n 0, 1) := by decide +kernel
theorem dX5_take_62 : decode cX5_take 62 = .ok (.getfield 29, 3) := by decide +kernel
theorem dX5_take_65 : decode cX5_take 65 = .ok (.getfield 130, 3) := by decide +kernel
theorem dX5_take_68 : decode cX5_take 68 = .ok (.iload_n 1, 1) := by decide +kernel
theorem dX5_take_69 : decode cX5_take 69 = .ok (.invokevirtual 151, 3) := by decide +kernel
theorem dX5_take_72 : decode cX5_take 72 = .ok (.ifCond .eq 16, 3) := by decide +kernel
theorem dX5_take_75 : decode cX5_take 75 = .ok (.aload_n 0, 1) := by decide +kernel
theorem dX5_take_76 : decode cX5_take 76 = .ok (.iconst 1, 1) := by decide +kernel
theorem dX5_take_77 : decode cX5_take 77 = .ok (.aload_n 0, 1) := by decide +kernel
theorem dX5_take_78 : decode cX5_take 78 = .ok (.getfield 29, 3) := by decide +kernel
theorem dX5_take_81 : decode cX5_take 81 = .ok (.getfield 130, 3) := by decide +kernel
theorem dX5_take_84 : decode cX5_take 84 = .ok (.iload_n 1, 1) := by decide +kernel
theorem dX5_take_85 : decode cX5_take 85 = .ok (.invokevirtual 155, 3) := by decide +kernel
theorem dX5_take_88 : decode cX5_take 88 = .ok (.aload_n 0, 1) := by decide +kernel
theorem dX5_take_89 : decode cX5_take 89 = .ok (.iconst 2, 1) := by decide +kernel
theorem dX5_take_90 : decode cX5_take 90 = .ok (.aload_n 0, 1) := by decide +kernel
theorem dX5_take_91 : decode cX5_take 91 = .ok (.getfield 29, 3) := by decide +kernel
theorem dX5_take_94 : decode cX5_take 94 = .ok (.getfield 133, 3) := by decide +kernel
theorem dX5_take_97 : decode cX5_take 97 = .ok (.iload_n 1, 1) := by decide +kernel
theorem dX5_take_98 : decode cX5_take 98 = .ok (.invokevirtual 151, 3) := by decide +kernel
theorem dX5_take_101 : decode cX5_take 101 = .ok (.ifCond .eq 16, 3) := by decide +kernel
theorem dX5_take_104 : decode cX5_take 104 = .ok (.aload_n 0, 1) := by decide +kernel
theorem dX5_take_105 : decode cX5_take 105 = .ok (.iconst 2, 1) := by decide +kernel
theorem dX5_take_106 : decode cX5_take 106 = .ok (.aload_n 0, 1) := by decide +kernel
theorem dX5_take_107 : decode cX5_take 107 = .ok (.getfield 29, 3) := by decide +kernel
theorem dX5_take_110 : decode cX5_take 110 = .ok (.getfield 133, 3) := by decide +kernel
theorem dX5_take_113 : decode cX5_take 113 = .ok (.iload_n 1, 1) := by decide +kernel
theorem dX5_take_114 : decode cX5_take 114 = .ok (.invokevirtual 155, 3) := by decide +kernel
theorem dX5_take_117 : decode cX5_take 117 = .ok (.aload_n 0, 1) := by decide +kernel
theorem dX5_take_118 : decode cX5_take 118 = .ok (.aload_n 0, 1) := by decide +kernel
theorem dX5_take_119 : decode cX5_take 119 = .ok (.getfield 56, 3) := by decide +kernel
theorem dX5_take_122 : decode cX5_take 122 = .ok (.ifCond .ne 7, 3) := by decide +kernel
theorem dX5_take_125 : decode cX5_take 125 = .ok (.iload_n 1, 1) := by decide +kernel
theorem dX5_take_126 : decode cX5_take 126 = .ok (.goto 11, 3) := by decide +kernel
theorem dX5_take_129 : decode cX5_take 129 = .ok (.aload_n 0, 1) := by decide +kernel
theorem dX5_take_130 : decode cX5_take 130 = .ok (.getfield 59, 3) := by decide +kernel
theorem dX5_take_133 : decode cX5_take 133 = .ok (.iload_n 1, 1) := by decide +kernel
theorem dX5_take_134 : decode cX5_take 134 = .ok (.invokestatic 165, 3) := by decide +kernel
theorem dX5_take_137 : decode cX5_take 137 = .ok (.putfield 59, 3) := by decide +kernel
theorem dX5_take_140 : decode cX5_take 140 = .ok (.aload_n 0, 1) := by decide +kernel
theorem dX5_take_141 : decode cX5_take 141 = .ok (.aload_n 0, 1) := by decide +kernel
theorem dX5_take_142 : decode cX5_take 142 = .ok (.getfield 56, 3) := by decide +kernel
theorem dX5_take_145 : decode cX5_take 145 = .ok (.ifCond .ne 7, 3) := by decide +kernel
theorem dX5_take_148 : decode cX5_take 148 = .ok (.iload_n 2, 1) := by decide +kernel
theorem dX5_take_149 : decode cX5_take 149 = .ok (.goto 9, 3) := by decide +kernel
theorem dX5_take_152 : decode cX5_take 152 = .ok (.aload_n 0, 1) := by decide +kernel
theorem dX5_take_153 : decode cX5_take 153 = .ok (.getfield 62, 3) := by decide +kernel
theorem dX5_take_156 : decode cX5_take 156 = .ok (.iload_n 2, 1) := by decide +kernel
theorem dX5_take_157 : decode cX5_take 157 = .ok (.iand, 1) := by decide +kernel
theorem dX5_take_158 : decode cX5_take 158 = .ok (.putfield 62, 3) := by decide +kernel
theorem dX5_take_161 : decode cX5_take 161 = .ok (.aload_n 0, 1) := by decide +kernel
theorem dX5_take_162 : decode cX5_take 162 = .ok (.dup, 1) := by decide +kernel
theorem dX5_take_163 : decode cX5_take 163 = .ok (.getfield 65, 3) := by decide +kernel
theorem dX5_take_166 : decode cX5_take 166 = .ok (.iload_n 2, 1) := by decide +kernel
theorem dX5_take_167 : decode cX5_take 167 = .ok (.ior, 1) := by decide +kernel
theorem dX5_take_168 : decode cX5_take 168 = .ok (.putfield 65, 3) := by decide +kernel
theorem dX5_take_171 : decode cX5_take 171 = .ok (.aload_n 0, 1) := by decide +kernel
theorem dX5_take_172 : decode cX5_take 172 = .ok (.dup, 1) := by decide +kernel
theorem dX5_take_173 : decode cX5_take 173 = .ok (.getfield 56, 3) := by decide +kernel
theorem dX5_take_176 : decode cX5_take 176 = .ok (.iconst 1, 1) := by decide +kernel
theorem dX5_take_177 : decode cX5_take 177 = .ok (.iadd, 1) := by decide +kernel
theorem dX5_take_178 : decode cX5_take 178 = .ok (.putfield 56, 3) := by decide +kernel
theorem dX5_take_181 : decode cX5_take 181 = .ok (.return_, 1) := by decide +kernel
theorem dX5_put_0 : decode cX5_put 0 = .ok (.aload_n 0, 1) := by decide +kernel
theorem dX5_put_1 : decode cX5_put 1 = .ok (.getfield 15, 3) := by decide +kernel
theorem dX5_put_4 : decode cX5_put 4 = .ok (.iload_n 1, 1) := by decide +kernel
theorem dX5_put_5 : decode cX5_put 5 = .ok (.iload_n 2, 1) := by decide +kernel
theorem dX5_put_6 : decode cX5_put 6 = .ok (.iastore, 1) := by decide +kernel
theorem dX5_put_7 : decode cX5_put 7 = .ok (.aload_n 0, 1) := by decide +kernel
theorem dX5_put_8 : decode cX5_put 8 = .ok (.getfield 18, 3) := by decide +kernel
theorem dX5_put_11 : decode cX5_put 11 = .ok (.iload_n 1, 1) := by decide +kernel
theorem dX5_put_12 : decode cX5_put 12 = .ok (.iload_n 3, 1) := by decide +kernel
theorem dX5_put_13 : decode cX5_put 13 = .ok (.iastore, 1) := by decide +kernel
theorem dX5_put_14 : decode cX5_put 14 = .ok (.aload_n 0, 1) := by decide +kernel
theorem dX5_put_15 : decode cX5_put 15 = .ok (.getfield 9, 3) := by decide +kernel
theorem dX5_put_18 : decode cX5_put 18 = .ok (.iconst 0, 1) := by decide +kernel
theorem dX5_put_19 : decode cX5_put 19 = .ok (.aload_n 0, 1) := by decide +kernel
theorem dX5_put_20 : decode cX5_put 20 = .ok (.getfield 23, 3) := by decide +kernel
theorem dX5_put_23 : decode cX5_put 23 = .ok (.iload_n 1, 1) := by decide +kernel
theorem dX5_put_24 : decode cX5_put 24 = .ok (.aaload, 1) := by decide +kernel
theorem dX5_put_25 : decode cX5_put 25 = .ok (.iconst 0, 1) := by decide +kernel
theorem dX5_put_26 : decode cX5_put 26 = .ok (.bipush 8, 2) := by decide +kernel
theorem dX5_put_28 : decode cX5_put 28 = .ok (.invokestatic 159, 3) := by decide +kernel
theorem dX5_put_31 : decode cX5_put 31 = .ok (.return_, 1) := by decide +kernel
theorem dX6_init_0 : decode cX6_init 0 = .ok (.aload_n 0, 1) := by decide +kernel
theorem dX6_init_1 : decode cX6_init 1 = .ok (.invokespecial 3, 3) := by decide +kernel
theorem dX6_init_4 : decode cX6_init 4 = .ok (.aload_n 0, 1) := by decide +kernel
theorem dX6_init_5 : decode cX6_init 5 = .ok (.bipush 8, 2) := by decide +kernel
theorem dX6_init_7 : decode cX6_init 7 = .ok (.newarray .int, 2) := by decide +kernel
theorem dX6_init_9 : decode cX6_init 9 = .ok (.putfield 9, 3) := by decide +kernel
theorem dX6_init_12 : decode cX6_init 12 = .ok (.aload_n 0, 1) := by decide +kernel
theorem dX6_init_13 : decode cX6_init 13 = .ok (.bipush 8, 2) := by decide +kernel
theorem dX6_init_15 : decode cX6_init 15 = .ok (.newarray .int, 2) := by decide +kernel
theorem dX6_init_17 : decode cX6_init 17 = .ok (.putfield 15, 3) := by decide +kernel
theorem dX6_init_20 : decode cX6_init 20 = .ok (.aload_n 0, 1) := by decide +kernel
theorem dX6_init_21 : decode cX6_init 21 = .ok (.sipush 256, 3) := by decide +kernel
theorem dX6_init_24 : decode cX6_init 24 = .ok (.newarray .long, 2) := by decide +kernel
theorem dX6_init_26 : decode cX6_init 26 = .ok (.putfield 18, 3) := by decide +kernel
theorem dX6_init_29 : decode cX6_init 29 = .ok (.aload_n 0, 1) := by decide +kernel
theorem dX6_init_30 : decode cX6_init 30 = .ok (.bipush 8, 2) := by decide +kernel
theorem dX6_init_32 : decode cX6_init 32 = .ok (.newarray .int, 2) := by decide +kernel
theorem dX6_init_34 : decode cX6_init 34 = .ok (.putfield 22, 3) := by decide +kernel
theorem dX6_init_37 : decode cX6_init 37 = .ok (.aload_n 0, 1) := by decide +kernel
theorem dX6_init_38 : decode cX6_init 38 = .ok (.bipush 8, 2) := by decide +kernel
theorem dX6_init_40 : decode cX6_init 40 = .ok (.newarray .int, 2) := by decide +kernel
theorem dX6_init_42 : decode cX6_init 42 = .ok (.putfield 25, 3) := by decide +kernel
theorem dX6_init_45 : decode cX6_init 45 = .ok (.return_, 1) := by decide +kernel
theorem dX6_learn_0 : decode cX6_learn 0 = .ok (.aload_n 0, 1) := by decide +kernel
theorem dX6_learn_1 : decode cX6_learn 1 = .ok (.aload_n 1, 1) := by decide +kernel
theorem dX6_learn_2 : decode cX6_learn 2 = .ok (.getfield 28, 3) := by decide +kernel
theorem dX6_learn_5 : decode cX6_learn 5 = .ok (.bipush 8, 2) := by decide +kernel
theorem dX6_learn_7 : decode cX6_learn 7 = .ok (.invokestatic 34, 3) := by decide +kernel
theorem dX6_learn_10 : decode cX6_learn 10 = .ok (.putfield 40, 3) := by decide +kernel
theorem dX6_learn_13 : decode cX6_learn 13 = .ok (.aload_n 0, 1) := by decide +kernel
theorem dX6_learn_14 : decode cX6_learn 14 = .ok (.iconst 1, 1) := by decide +kernel
theorem dX6_learn_15 : decode cX6_learn 15 = .ok (.aload_n 0, 1) := by decide +kernel
theorem dX6_learn_16 : decode cX6_learn 16 = .ok (.getfield 40, 3) := by decide +kernel
theorem dX6_learn_19 : decode cX6_learn 19 = .ok (.ishl, 1) := by decide +kernel
theorem dX6_learn_20 : decode cX6_learn 20 = .ok (.putfield 41, 3) := by decide +kernel
theorem dX6_learn_23 : decode cX6_learn 23 = .ok (.aload_n 1, 1) := by decide +kernel
theorem dX6_learn_24 : decode cX6_learn 24 = .ok (.getfield 44, 3) := by decide +kernel
theorem dX6_learn_27 : decode cX6_learn 27 = .ok (.bipush 9, 2) := by decide +kernel
theorem dX6_learn_29 : decode cX6_learn 29 = .ok (.aaload, 1) := by decide +kernel
theorem dX6_learn_30 : decode cX6_learn 30 = .ok (.iconst 0, 1) := by decide +kernel
theorem dX6_learn_31 : decode cX6_learn 31 = .ok (.aload_n 0, 1) := by decide +kernel
theorem dX6_learn_32 : decode cX6_learn 32 = .ok (.getfield 9, 3) := by decide +kernel
theorem dX6_learn_35 : decode cX6_learn 35 = .ok (.iconst 0, 1) := by decide +kernel
theorem dX6_learn_36 : decode cX6_learn 36 = .ok (.bipush 8, 2) := by decide +kernel
theorem dX6_learn_38 : decode cX6_learn 38 = .ok (.invokestatic 48, 3) := by decide +kernel
theorem dX6_learn_41 : decode cX6_learn 41 = .ok (.aload_n 1, 1) := by decide +kernel
theorem dX6_learn_42 : decode cX6_learn 42 = .ok (.getfield 44, 3) := by decide +kernel
theorem dX6_learn_45 : decode cX6_learn 45 = .ok (.bipush 10, 2) := by decide +kernel
theorem dX6_learn_47 : decode cX6_learn 47 = .ok (.aaload, 1) := by decide +kernel
theorem dX6_learn_48 : decode cX6_learn 48 = .ok (.iconst 0, 1) := by decide +kernel
theorem dX6_learn_49 : decode cX6_learn 49 = .ok (.aload_n 0, 1) := by decide +kernel
theorem dX6_learn_50 : decode cX6_learn 50 = .ok (.getfield 15, 3) := by decide +kernel
theorem dX6_learn_53 : decode cX6_learn 53 = .ok (.iconst 0, 1) := by decide +kernel
theorem dX6_learn_54 : decode cX6_learn 54 = .ok (.bipush 8, 2) := by decide +kernel
theorem dX6_learn_56 : decode cX6_learn 56 = .ok (.invokestatic 48, 3) := by decide +kernel
theorem dX6_learn_59 : decode cX6_learn 59 = .ok (.aload_n 0, 1) := by decide +kernel
theorem dX6_learn_60 : decode cX6_learn 60 = .ok (.invokevirtual 54, 3) := by decide +kernel
theorem dX6_learn_63 : decode cX6_learn 63 = .ok (.return_, 1) := by decide +kernel
theorem dX6_countOrders_0 : decode cX6_countOrders 0 = .ok (.aload_n 0, 1) := by decide +kernel
theorem dX6_countOrders_1 : decode cX6_countOrders 1 = .ok (.getfield 18, 3) := by decide +kernel
theorem dX6_countOrders_4 : decode cX6_countOrders 4 = .ok (.iconst 0, 1) := by decide +kernel
theorem dX6_countOrders_5 : decode cX6_countOrders 5 = .ok (.lconst 1, 1) := by decide +kernel
theorem dX6_countOrders_6 : decode cX6_countOrders 6 = .ok (.lastore, 1) := by decide +kernel
theorem dX6_countOrders_7 : decode cX6_countOrders 7 = .ok (.iconst 1, 1) := by decide +kernel
theorem dX6_countOrders_8 : decode cX6_countOrders 8 = .ok (.istore_n 1, 1) := by decide +kernel
theorem dX6_countOrders_9 : decode cX6_countOrders 9 = .ok (.iload_n 1, 1) := by decide +kernel
theorem dX6_countOrders_10 : decode cX6_countOrders 10 = .ok (.aload_n 0, 1) := by decide +kernel
theorem dX6_countOrders_11 : decode cX6_countOrders 11 = .ok (.getfield 41, 3) := by decide +kernel
theorem dX6_countOrders_14 : decode cX6_countOrders 14 = .ok (.if_icmp .ge 90, 3) := by decide +kernel
theorem dX6_countOrders_17 : decode cX6_countOrders 17 = .ok (.lconst 0, 1) := by decide +kernel
theorem dX6_countOrders_18 : decode cX6_countOrders 18 = .ok (.lstore_n 2, 1) := by decide +kernel
theorem dX6_countOrders_19 : decode cX6_countOrders 19 = .ok (.iconst 0, 1) := by decide +kernel
theorem dX6_countOrders_20 : decode cX6_countOrders 20 = .ok (.istore 4, 2) := by decide +kernel
theorem dX6_countOrders_22 : decode cX6_countOrders 22 = .ok (.iload 4, 2) := by decide +kernel
theorem dX6_countOrders_24 : decode cX6_countOrders 24 = .ok (.aload_n 0, 1) := by decide +kernel
theorem dX6_countOrders_25 : decode cX6_countOrders 25 = .ok (.getfield 40, 3) := by decide +kernel
theorem dX6_countOrders_28 : decode cX6_countOrders 28 = .ok (.if_icmp .ge 63, 3) := by decide +kernel
theorem dX6_countOrders_31 : decode cX6_countOrders 31 = .ok (.iload_n 1, 1) := by decide +kernel
theorem dX6_countOrders_32 : decode cX6_countOrders 32 = .ok (.iconst 1, 1) := by decide +kernel
theorem dX6_countOrders_33 : decode cX6_countOrders 33 = .ok (.iload 4, 2) := by decide +kernel
theorem dX6_countOrders_35 : decode cX6_countOrders 35 = .ok (.ishl, 1) := by decide +kernel
theorem dX6_countOrders_36 : decode cX6_countOrders 36 = .ok (.iconst (-1), 1) := by decide +kernel
theorem dX6_countOrders_37 : decode cX6_countOrders 37 = .ok (.ixor, 1) := by decide +kernel
theorem dX6_countOrders_38 : decode cX6_countOrders 38 = .ok (.iand, 1) := by decide +kernel
theorem dX6_countOrders_39 : decode cX6_countOrders 39 = .ok (.istore 5, 2) := by decide +kernel
theorem dX6_countOrders_41 : decode cX6_countOrders 41 = .ok (.iload 5, 2) := by decide +kernel
theorem dX6_countOrders_43 : decode cX6_countOrders 43 = .ok (.iload_n 1, 1) := by decide +kernel
theorem dX6_countOrders_44 : decode cX6_countOrders 44 = .ok (.if_icmp .eq 41, 3) := by decide +kernel
theorem dX6_countOrders_47 : decode cX6_countOrders 47 = .ok (.aload_n 0, 1) := by decide +kernel
theorem dX6_countOrders_48 : decode cX6_countOrders 48 = .ok (.getfield 9, 3) := by decide +kernel
theorem dX6_countOrders_51 : decode cX6_countOrders 51 = .ok (.iload 4, 2) := by decide +kernel
theorem dX6_countOrders_53 : decode cX6_countOrders 53 = .ok (.iaload, 1) := by decide +kernel
theorem dX6_countOrders_54 : decode cX6_countOrders 54 = .ok (.iload 5, 2) := by decide +kernel
theorem dX6_countOrders_56 : decode cX6_countOrders 56 = .ok (.iconst (-1), 1) := by decide +kernel
theorem dX6_countOrders_57 : decode cX6_countOrders 57 = .ok (.ixor, 1) := by decide +kernel
theorem dX6_countOrders_58 : decode cX6_countOrders 58 = .ok (.iand, 1) := by decide +kernel
theorem dX6_countOrders_59 : decode cX6_countOrders 59 = .ok (.ifCond .ne 26, 3) := by decide +kernel
theorem dX6_countOrders_62 : decode cX6_countOrders 62 = .ok (.aload_n 0, 1) := by decide +kernel
theorem dX6_countOrders_63 : decode cX6_countOrders 63 = .ok (.getfield 15, 3) := by decide +kernel
theorem dX6_countOrders_66 : decode cX6_countOrders 66 = .ok (.iload 4, 2) := by decide +kernel
theorem dX6_countOrders_68 : decode cX6_countOrders 68 = .ok (.iaload, 1) := by decide +kernel
theorem dX6_countOrders_69 : decode cX6_countOrders 69 = .ok (.iload 5, 2) := by decide +kernel
theorem dX6_countOrders_71 : decode cX6_countOrders 71 = .ok (.iand, 1) := by decide +kernel
theorem dX6_countOrders_72 : decode cX6_countOrders 72 = .ok (.ifCond .ne 13, 3) := by decide +kernel
theorem dX6_countOrders_75 : decode cX6_countOrders 75 = .ok (.lload_n 2, 1) := by decide +kernel
theorem dX6_countOrders_76 : decode cX6_countOrders 76 = .ok (.aload_n 0, 1) := by decide +kernel
theorem dX6_countOrders_77 : decode cX6_countOrders 77 = .ok (.getfield 18, 3) := by decide +kernel
theorem dX6_countOrders_80 : decode cX6_countOrders 80 = .ok (.iload 5, 2) := by decide +kernel
theorem dX6_countOrders_82 : decode cX6_countOrders 82 = .ok (.laload, 1) := by decide +kernel
theorem dX6_countOrders_83 : decode cX6_countOrders 83 = .ok (.ladd, 1) := by decide +kernel
theorem dX6_countOrders_84 : decode cX6_countOrders 84 = .ok (.lstore_n 2, 1) := by decide +kernel
theorem dX6_countOrders_85 : decode cX6_countOrders 85 = .ok (.iinc 4 1, 3) := by decide +kernel
theorem dX6_countOrders_88 : decode cX6_countOrders 88 = .ok (.goto (-66), 3) := by decide +kernel
theorem dX6_countOrders_91 : decode cX6_countOrders 91 = .ok (.aload_n 0, 1) := by decide +kernel
theorem dX6_countOrders_92 : decode cX6_countOrders 92 = .ok (.getfield 18, 3) := by decide +kernel
theorem dX6_countOrders_95 : decode cX6_countOrders 95 = .ok (.iload_n 1, 1) := by decide +kernel
theorem dX6_countOrders_96 : decode cX6_countOrders 96 = .ok (.lload_n 2, 1) := by decide +kernel
theorem dX6_countOrders_97 : decode cX6_countOrders 97 = .ok (.lastore, 1) := by decide +kernel
theorem dX6_countOrders_98 : decode cX6_countOrders 98 = .ok (.iinc 1 1, 3) := by decide +kernel
theorem dX6_countOrders_101 : decode cX6_countOrders 101 = .ok (.goto (-92), 3) := by decide +kernel
theorem dX6_countOrders_104 : decode cX6_countOrders 104 = .ok (.return_, 1) := by decide +kernel
theorem dX6_ordersOf_0 : decode cX6_ordersOf 0 = .ok (.iload_n 1, 1) := by decide +kernel
theorem dX6_ordersOf_1 : decode cX6_ordersOf 1 = .ok (.ifCond .lt 20, 3) := by decide +kernel
theorem dX6_ordersOf_4 : decode cX6_ordersOf 4 = .ok (.iload_n 1, 1) := by decide +kernel
theorem dX6_ordersOf_5 : decode cX6_ordersOf 5 = .ok (.aload_n 0, 1) := by decide +kernel
theorem dX6_ordersOf_6 : decode cX6_ordersOf 6 = .ok (.getfield 41, 3) := by decide +kernel
theorem dX6_ordersOf_9 : decode cX6_ordersOf 9 = .ok (.if_icmp .ge 12, 3) := by decide +kernel
theorem dX6_ordersOf_12 : decode cX6_ordersOf 12 = .ok (.aload_n 0, 1) := by decide +kernel
theorem dX6_ordersOf_13 : decode cX6_ordersOf 13 = .ok (.getfield 18, 3) := by decide +kernel
theorem dX6_ordersOf_16 : decode cX6_ordersOf 16 = .ok (.iload_n 1, 1) := by decide +kernel
theorem dX6_ordersOf_17 : decode cX6_ordersOf 17 = .ok (.laload, 1) := by decide +kernel
theorem dX6_ordersOf_18 : decode cX6_ordersOf 18 = .ok (.goto 4, 3) := by decide +kernel
theorem dX6_ordersOf_21 : decode cX6_ordersOf 21 = .ok (.lconst 0, 1) := by decide +kernel
theorem dX6_ordersOf_22 : decode cX6_ordersOf 22 = .ok (.lreturn, 1) := by decide +kernel
theorem dX6_howMany_0 : decode cX6_howMany 0 = .ok (.iconst 0, 1) := by decide +kernel
theorem dX6_howMany_1 : decode cX6_howMany 1 = .ok (.istore_n 1, 1) := by decide +kernel
theorem dX6_howMany_2 : decode cX6_howMany 2 = .ok (.iconst 0, 1) := by decide +kernel
theorem dX6_howMany_3 : decode cX6_howMany 3 = .ok (.istore_n 2, 1) := by decide +kernel
theorem dX6_howMany_4 : decode cX6_howMany 4 = .ok (.iload_n 2, 1) := by decide +kernel
theorem dX6_howMany_5 : decode cX6_howMany 5 = .ok (.aload_n 0, 1) := by decide +kernel
theorem dX6_howMany_6 : decode cX6_howMany 6 = .ok (.getfield 41, 3) := by decide +kernel
theorem dX6_howMany_9 : decode cX6_howMany 9 = .ok (.if_icmp .ge 23, 3) := by decide +kernel
theorem dX6_howMany_12 : decode cX6_howMany 12 = .ok (.aload_n 0, 1) := by decide +kernel
theorem dX6_howMany_13 : decode cX6_howMany 13 = .ok (.getfield 18, 3) := by decide +kernel
theorem dX6_howMany_16 : decode cX6_howMany 16 = .ok (.iload_n 2, 1) := by decide +kernel
theorem dX6_howMany_17 : decode cX6_howMany 17 = .ok (.laload, 1) := by decide +kernel
theorem dX6_howMany_18 : decode cX6_howMany 18 = .ok (.lconst 0, 1) := by decide +kernel
theorem dX6_howMany_19 : decode cX6_howMany 19 = .ok (.lcmp, 1) := by decide +kernel
theorem dX6_howMany_20 : decode cX6_howMany 20 = .ok (.ifCond .le 6, 3) := by decide +kernel
theorem dX6_howMany_23 : decode cX6_howMany 23 = .ok (.iinc 1 1, 3) := by decide +kernel
theorem dX6_howMany_26 : decode cX6_howMany 26 = .ok (.iinc 2 1, 3) := by decide +kernel
theorem dX6_howMany_29 : decode cX6_howMany 29 = .ok (.goto (-25), 3) := by decide +kernel
theorem dX6_howMany_32 : decode cX6_howMany 32 = .ok (.iload_n 1, 1) := by decide +kernel
theorem dX6_howMany_33 : decode cX6_howMany 33 = .ok (.ireturn, 1) := by decide +kernel
theorem dX6_outsiders_0 : decode cX6_outsiders 0 = .ok (.iconst 0, 1) := by decide +kernel
theorem dX6_outsiders_1 : decode cX6_outsiders 1 = .ok (.istore_n 1, 1) := by decide +kernel
theorem dX6_outsiders_2 : decode cX6_outsiders 2 = .ok (.iconst 0, 1) := by decide +kernel
theorem dX6_outsiders_3 : decode cX6_outsiders 3 = .ok (.istore_n 2, 1) := by decide +kernel
theorem dX6_outsiders_4 : decode cX6_outsiders 4 = .ok (.iload_n 2, 1) := by decide +kernel
theorem dX6_outsiders_5 : decode cX6_outsiders 5 = .ok (.aload_n 0, 1) := by decide +kernel
theorem dX6_outsiders_6 : decode cX6_outsiders 6 = .ok (.getfield 41, 3) := by decide +kernel
theorem dX6_outsiders_9 : decode cX6_outsiders 9 = .ok (.if_icmp .ge 24, 3) := by decide +kernel
theorem dX6_outsiders_12 : decode cX6_outsiders 12 = .ok (.aload_n 0, 1) := by decide +kernel
theorem dX6_outsiders_13 : decode cX6_outsiders 13 = .ok (.getfield 18, 3) := by decide +kernel
theorem dX6_outsiders_16 : decode cX6_outsiders 16 = .ok (.iload_n 2, 1) := by decide +kernel
theorem dX6_outsiders_17 : decode cX6_outsiders 17 = .ok (.laload, 1) := by decide +kernel
theorem dX6_outsiders_18 : decode cX6_outsiders 18 = .ok (.lconst 0, 1) := by decide +kernel
theorem dX6_outsiders_19 : decode cX6_outsiders 19 = .ok (.lcmp, 1) := by decide +kernel
theorem dX6_outsiders_20 : decode cX6_outsiders 20 = .ok (.ifCond .le 7, 3) := by decide +kernel
theorem dX6_outsiders_23 : decode cX6_outsiders 23 = .ok (.iload_n 1, 1) := by decide +kernel
theorem dX6_outsiders_24 : decode cX6_outsiders 24 = .ok (.iload_n 2, 1) := by decide +kernel
theorem dX6_outsiders_25 : decode cX6_outsiders 25 = .ok (.ior, 1) := by decide +kernel
theorem dX6_outsiders_26 : decode cX6_outsiders 26 = .ok (.istore_n 1, 1) := by decide +kernel
theorem dX6_outsiders_27 : decode cX6_outsiders 27 = .ok (.iinc 2 1, 3) := by decide +kernel
theorem dX6_outsiders_30 : decode cX6_outsiders 30 = .ok (.goto (-26), 3) := by decide +kernel
theorem dX6_outsiders_33 : decode cX6_outsiders 33 = .ok (.aload_n 0, 1) := by decide +kernel
theorem dX6_outsiders_34 : decode cX6_outsiders 34 = .ok (.getfield 41, 3) := by decide +kernel
theorem dX6_outsiders_37 : decode cX6_outsiders 37 = .ok (.iconst 1, 1) := by decide +kernel
theorem dX6_outsiders_38 : decode cX6_outsiders 38 = .ok (.isub, 1) := by decide +kernel
theorem dX6_outsiders_39 : decode cX6_outsiders 39 = .ok (.iload_n 1, 1) := by decide +kernel
theorem dX6_outsiders_40 : decode cX6_outsiders 40 = .ok (.iconst (-1), 1) := by decide +kernel
theorem dX6_outsiders_41 : decode cX6_outsiders 41 = .ok (.ixor, 1) := by decide +kernel
theorem dX6_outsiders_42 : decode cX6_outsiders 42 = .ok (.iand, 1) := by decide +kernel
theorem dX6_outsiders_43 : decode cX6_outsiders 43 = .ok (.ireturn, 1) := by decide +kernel
theorem dX6_canBeHad_0 : decode cX6_canBeHad 0 = .ok (.iconst 0, 1) := by decide +kernel
theorem dX6_canBeHad_1 : decode cX6_canBeHad 1 = .ok (.istore_n 2, 1) := by decide +kernel
theorem dX6_canBeHad_2 : decode cX6_canBeHad 2 = .ok (.iload_n 2, 1) := by decide +kernel
theorem dX6_canBeHad_3 : decode cX6_canBeHad 3 = .ok (.aload_n 0, 1) := by decide +kernel
theorem dX6_canBeHad_4 : decode cX6_canBeHad 4 = .ok (.getfield 41, 3) := by decide +kernel
theorem dX6_canBeHad_7 : decode cX6_canBeHad 7 = .ok (.if_icmp .ge 30, 3) := by decide +kernel
theorem dX6_canBeHad_10 : decode cX6_canBeHad 10 = .ok (.aload_n 0, 1) := by decide +kernel
theorem dX6_canBeHad_11 : decode cX6_canBeHad 11 = .ok (.getfield 18, 3) := by decide +kernel
theorem dX6_canBeHad_14 : decode cX6_canBeHad 14 = .ok (.iload_n 2, 1) := by decide +kernel
theorem dX6_canBeHad_15 : decode cX6_canBeHad 15 = .ok (.laload, 1) := by decide +kernel
theorem dX6_canBeHad_16 : decode cX6_canBeHad 16 = .ok (.lconst 0, 1) := by decide +kernel
theorem dX6_canBeHad_17 : decode cX6_canBeHad 17 = .ok (.lcmp, 1) := by decide +kernel
theorem dX6_canBeHad_18 : decode cX6_canBeHad 18 = .ok (.ifCond .le 13, 3) := by decide +kernel
theorem dX6_canBeHad_21 : decode cX6_canBeHad 21 = .ok (.iload_n 1, 1) := by decide +kernel
theorem dX6_canBeHad_22 : decode cX6_canBeHad 22 = .ok (.iload_n 2, 1) := by decide +kernel
theorem dX6_canBeHad_23 : decode cX6_canBeHad 23 = .ok (.iconst (-1), 1) := by decide +kernel
theorem dX6_canBeHad_24 : decode cX6_canBeHad 24 = .ok (.ixor, 1) := by decide +kernel
theorem dX6_canBeHad_25 : decode cX6_canBeHad 25 = .ok (.iand, 1) := by decide +kernel
theorem dX6_canBeHad_26 : decode cX6_canBeHad 26 = .ok (.ifCond .ne 5, 3) := by decide +kernel
theorem dX6_canBeHad_29 : decode cX6_canBeHad 29 = .ok (.iconst 1, 1) := by decide +kernel
theorem dX6_canBeHad_30 : decode cX6_canBeHad 30 = .ok (.ireturn, 1) := by decide +kernel
theorem dX6_canBeHad_31 : decode cX6_canBeHad 31 = .ok (.iinc 2 1, 3) := by decide +kernel
theorem dX6_canBeHad_34 : decode cX6_canBeHad 34 = .ok (.goto (-32), 3) := by decide +kernel
theorem dX6_canBeHad_37 : decode cX6_canBeHad 37 = .ok (.iconst 0, 1) := by decide +kernel
theorem dX6_canBeHad_38 : decode cX6_canBeHad 38 = .ok (.ireturn, 1) := by decide +kernel
theorem dX6_followNeeds_0 : decode cX6_followNeeds 0 = .ok (.aload_n 0, 1) := by decide +kernel
theorem dX6_followNeeds_1 : decode cX6_followNeeds 1 = .ok (.getfield 9, 3) := by decide +kernel
theorem dX6_followNeeds_4 : decode cX6_followNeeds 4 = .ok (.iconst 0, 1) := by decide +kernel
theorem dX6_followNeeds_5 : decode cX6_followNeeds 5 = .ok (.aload_n 0, 1) := by decide +kernel
theorem dX6_followNeeds_6 : decode cX6_followNeeds 6 = .ok (.getfield 22, 3) := by decide +kernel
theorem dX6_followNeeds_9 : decode cX6_followNeeds 9 = .ok (.iconst 0, 1) := by decide +kernel
theorem dX6_followNeeds_10 : decode cX6_followNeeds 10 = .ok (.bipush 8, 2) := by decide +kernel
theorem dX6_followNeeds_12 : decode cX6_followNeeds 12 = .ok (.invokestatic 48, 3) := by decide +kernel
theorem dX6_followNeeds_15 : decode cX6_followNeeds 15 = .ok (.iconst 0, 1) := by decide +kernel
theorem dX6_followNeeds_16 : decode cX6_followNeeds 16 = .ok (.istore_n 1, 1) := by decide +kernel
theorem dX6_followNeeds_17 : decode cX6_followNeeds 17 = .ok (.iload_n 1, 1) := by decide +kernel
theorem dX6_followNeeds_18 : decode cX6_followNeeds 18 = .ok (.aload_n 0, 1) := by decide +kernel
theorem dX6_followNeeds_19 : decode cX6_followNeeds 19 = .ok (.getfield 40, 3) := by decide +kernel
theorem dX6_followNeeds_22 : decode cX6_followNeeds 22 = .ok (.if_icmp .ge 53, 3) := by decide +kernel
theorem dX6_followNeeds_25 : decode cX6_followNeeds 25 = .ok (.iconst 0, 1) := by decide +kernel
theorem dX6_followNeeds_26 : decode cX6_followNeeds 26 = .ok (.istore_n 2, 1) := by decide +kernel
theorem dX6_followNeeds_27 : decode cX6_followNeeds 27 = .ok (.iload_n 2, 1) := by decide +kernel
theorem dX6_followNeeds_28 : decode cX6_followNeeds 28 = .ok (.aload_n 0, 1) := by decide +kernel
theorem dX6_followNeeds_29 : decode cX6_followNeeds 29 = .ok (.getfield 40, 3) := by decide +kernel
theorem dX6_followNeeds_32 : decode cX6_followNeeds 32 = .ok (.if_icmp .ge 37, 3) := by decide +kernel
theorem dX6_followNeeds_35 : decode cX6_followNeeds 35 = .ok (.aload_n 0, 1) := by decide +kernel
theorem dX6_followNeeds_36 : decode cX6_followNeeds 36 = .ok (.getfield 22, 3) := by decide +kernel
theorem dX6_followNeeds_39 : decode cX6_followNeeds 39 = .ok (.iload_n 2, 1) := by decide +kernel
theorem dX6_followNeeds_40 : decode cX6_followNeeds 40 = .ok (.iaload, 1) := by decide +kernel
theorem dX6_followNeeds_41 : decode cX6_followNeeds 41 = .ok (.iload_n 1, 1) := by decide +kernel
theorem dX6_followNeeds_42 : decode cX6_followNeeds 42 = .ok (.invokestatic 57, 3) := by decide +kernel
theorem dX6_followNeeds_45 : decode cX6_followNeeds 45 = .ok (.ifCond .eq 18, 3) := by decide +kernel
theorem dX6_followNeeds_48 : decode cX6_followNeeds 48 = .ok (.aload_n 0, 1) := by decide +kernel
theorem dX6_followNeeds_49 : decode cX6_followNeeds 49 = .ok (.getfield 22, 3) := by decide +kernel
theorem dX6_followNeeds_52 : decode cX6_followNeeds 52 = .ok (.iload_n 2, 1) := by decide +kernel
theorem dX6_followNeeds_53 : decode cX6_followNeeds 53 = .ok (.dup2, 1) := by decide +kernel
theorem dX6_followNeeds_54 : decode cX6_followNeeds 54 = .ok (.iaload, 1) := by decide +kernel
theorem dX6_followNeeds_55 : decode cX6_followNeeds 55 = .ok (.aload_n 0, 1) := by decide +kernel
theorem dX6_followNeeds_56 : decode cX6_followNeeds 56 = .ok (.getfield 22, 3) := by decide +kernel
theorem dX6_followNeeds_59 : decode cX6_followNeeds 59 = .ok (.iload_n 1, 1) := by decide +kernel
theorem dX6_followNeeds_60 : decode cX6_followNeeds 60 = .ok (.iaload, 1) := by decide +kernel
theorem dX6_followNeeds_61 : decode cX6_followNeeds 61 = .ok (.ior, 1) := by decide +kernel
theorem dX6_followNeeds_62 : decode cX6_followNeeds 62 = .ok (.iastore, 1) := by decide +kernel
theorem dX6_followNeeds_63 : decode cX6_followNeeds 63 = .ok (.iinc 2 1, 3) := by decide +kernel
theorem dX6_followNeeds_66 : decode cX6_followNeeds 66 = .ok (.goto (-39), 3) := by decide +kernel
theorem dX6_followNeeds_69 : decode cX6_followNeeds 69 = .ok (.iinc 1 1, 3) := by decide +kernel
theorem dX6_followNeeds_72 : decode cX6_followNeeds 72 = .ok (.goto (-55), 3) := by decide +kernel
theorem dX6_followNeeds_75 : decode cX6_followNeeds 75 = .ok (.return_, 1) := by decide +kernel
theorem dX6_rounds_0 : decode cX6_rounds 0 = .ok (.aload_n 0, 1) := by decide +kernel
theorem dX6_rounds_1 : decode cX6_rounds 1 = .ok (.invokevirtual 61, 3) := by decide +kernel
theorem dX6_rounds_4 : decode cX6_rounds 4 = .ok (.iconst 0, 1) := by decide +kernel
theorem dX6_rounds_5 : decode cX6_rounds 5 = .ok (.istore_n 1, 1) := by decide +kernel
theorem dX6_rounds_6 : decode cX6_rounds 6 = .ok (.iconst 0, 1) := by decide +kernel
theorem dX6_rounds_7 : decode cX6_rounds 7 = .ok (.istore_n 2, 1) := by decide +kernel
theorem dX6_rounds_8 : decode cX6_rounds 8 = .ok (.iload_n 2, 1) := by decide +kernel
theorem dX6_rounds_9 : decode cX6_rounds 9 = .ok (.aload_n 0, 1) := by decide +kernel
theorem dX6_rounds_10 : decode cX6_rounds 10 = .ok (.getfield 40, 3) := by decide +kernel
theorem dX6_rounds_13 : decode cX6_rounds 13 = .ok (.if_icmp .ge 28, 3) := by decide +kernel
theorem dX6_rounds_16 : decode cX6_rounds 16 = .ok (.aload_n 0, 1) := by decide +kernel
theorem dX6_rounds_17 : decode cX6_rounds 17 = .ok (.getfield 22, 3) := by decide +kernel
theorem dX6_rounds_20 : decode cX6_rounds 20 = .ok (.iload_n 2, 1) := by decide +kernel
theorem dX6_rounds_21 : decode cX6_rounds 21 = .ok (.iaload, 1) := by decide +kernel
theorem dX6_rounds_22 : decode cX6_rounds 22 = .ok (.iload_n 2, 1) := by decide +kernel
theorem dX6_rounds_23 : decode cX6_rounds 23 = .ok (.invokestatic 57, 3) := by decide +kernel
theorem dX6_rounds_26 : decode cX6_rounds 26 = .ok (.ifCond .eq 9, 3) := by decide +kernel
theorem dX6_rounds_29 : decode cX6_rounds 29 = .ok (.iload_n 1, 1) := by decide +kernel
theorem dX6_rounds_30 : decode cX6_rounds 30 = .ok (.iconst 1, 1) := by decide +kernel
theorem dX6_rounds_31 : decode cX6_rounds 31 = .ok (.iload_n 2, 1) := by decide +kernel
theorem dX6_rounds_32 : decode cX6_rounds 32 = .ok (.ishl, 1) := by decide +kernel
theorem dX6_rounds_33 : decode cX6_rounds 33 = .ok (.ior, 1) := by decide +kernel
theorem dX6_rounds_34 : decode cX6_rounds 34 = .ok (.istore_n 1, 1) := by decide +kernel
theorem dX6_rounds_35 : decode cX6_rounds 35 = .ok (.iinc 2 1, 3) := by decide +kernel
theorem dX6_rounds_38 : decode cX6_rounds 38 = .ok (.goto (-30), 3) := by decide +kernel
theorem dX6_rounds_41 : decode cX6_rounds 41 = .ok (.iload_n 1, 1) := by decide +kernel
theorem dX6_rounds_42 : decode cX6_rounds 42 = .ok (.ireturn, 1) := by decide +kernel
theorem dX6_longestChain_0 : decode cX6_longestChain 0 = .ok (.aload_n 0, 1) := by decide +kernel
theorem dX6_longestChain_1 : decode cX6_longestChain 1 = .ok (.invokevirtual 64, 3) := by decide +kernel
theorem dX6_longestChain_4 : decode cX6_longestChain 4 = .ok (.istore_n 2, 1) := by decide +kernel
theorem dX6_longestChain_5 : decode cX6_longestChain 5 = .ok (.iload_n 1, 1) := by decide +kernel
theorem dX6_longestChain_6 : decode cX6_longestChain 6 = .ok (.ifCond .lt 26, 3) := by decide +kernel
theorem dX6_longestChain_9 : decode cX6_longestChain 9 = .ok (.iload_n 1, 1) := by decide +kernel
theorem dX6_longestChain_10 : decode cX6_longestChain 10 = .ok (.aload_n 0, 1) := by decide +kernel
theorem dX6_longestChain_11 : decode cX6_longestChain 11 = .ok (.getfield 40, 3) := by decide +kernel
theorem dX6_longestChain_14 : decode cX6_longestChain 14 = .ok (.if_icmp .ge 18, 3) := by decide +kernel
theorem dX6_longestChain_17 : decode cX6_longestChain 17 = .ok (.aload_n 0, 1) := by decide +kernel
theorem dX6_longestChain_18 : decode cX6_longestChain 18 = .ok (.getfield 22, 3) := by decide +kernel
theorem dX6_longestChain_21 : decode cX6_longestChain 21 = .ok (.iload_n 1, 1) := by decide +kernel
theorem dX6_longestChain_22 : decode cX6_longestChain 22 = .ok (.iaload, 1) := by decide +kernel
theorem dX6_longestChain_23 : decode cX6_longestChain 23 = .ok (.iconst 1, 1) := by decide +kernel
theorem dX6_longestChain_24 : decode cX6_longestChain 24 = .ok (.iload_n 1, 1) := by decide +kernel
theorem dX6_longestChain_25 : decode cX6_longestChain 25 = .ok (.ishl, 1) := by decide +kernel
theorem dX6_longestChain_26 : decode cX6_longestChain 26 = .ok (.ior, 1) := by decide +kernel
theorem dX6_longestChain_27 : decode cX6_longestChain 27 = .ok (.iload_n 2, 1) := by decide +kernel
theorem dX6_longestChain_28 : decode cX6_longestChain 28 = .ok (.iand, 1) := by decide +kernel
theorem dX6_longestChain_29 : decode cX6_longestChain 29 = .ok (.ifCond .eq 5, 3) := by decide +kernel
theorem dX6_longestChain_32 : decode cX6_longestChain 32 = .ok (.iconst (-1), 1) := by decide +kernel
theorem dX6_longestChain_33 : decode cX6_longestChain 33 = .ok (.ireturn, 1) := by decide +kernel
theorem dX6_longestChain_34 : decode cX6_longestChain 34 = .ok (.aload_n 0, 1) := by decide +kernel
theorem dX6_longestChain_35 : decode cX6_longestChain 35 = .ok (.getfield 25, 3) := by decide +kernel
theorem dX6_longestChain_38 : decode cX6_longestChain 38 = .ok (.iconst 1, 1) := by decide +kernel
theorem dX6_longestChain_39 : decode cX6_longestChain 39 = .ok (.invokestatic 68, 3) := by decide +kernel
theorem dX6_longestChain_42 : decode cX6_longestChain 42 = .ok (.iconst 1, 1) := by decide +kernel
theorem dX6_longestChain_43 : decode cX6_longestChain 43 = .ok (.istore_n 3, 1) := by decide +kernel
theorem dX6_longestChain_44 : decode cX6_longestChain 44 = .ok (.iload_n 3, 1) := by decide +kernel
theorem dX6_longestChain_45 : decode cX6_longestChain 45 = .ok (.aload_n 0, 1) := by decide +kernel
theorem dX6_longestChain_46 : decode cX6_longestChain 46 = .ok (.getfield 40, 3) := by decide +kernel
theorem dX6_longestChain_49 : decode cX6_longestChain 49 = .ok (.if_icmp .ge 13, 3) := by decide +kernel
theorem dX6_longestChain_52 : decode cX6_longestChain 52 = .ok (.aload_n 0, 1) := by decide +kernel
theorem dX6_longestChain_53 : decode cX6_longestChain 53 = .ok (.invokevirtual 74, 3) := by decide +kernel
theorem dX6_longestChain_56 : decode cX6_longestChain 56 = .ok (.iinc 3 1, 3) := by decide +kernel
theorem dX6_longestChain_59 : decode cX6_longestChain 59 = .ok (.goto (-15), 3) := by decide +kernel
theorem dX6_longestChain_62 : decode cX6_longestChain 62 = .ok (.aload_n 0, 1) := by decide +kernel
theorem dX6_longestChain_63 : decode cX6_longestChain 63 = .ok (.getfield 25, 3) := by decide +kernel
theorem dX6_longestChain_66 : decode cX6_longestChain 66 = .ok (.iload_n 1, 1) := by decide +kernel
theorem dX6_longestChain_67 : decode cX6_longestChain 67 = .ok (.iaload, 1) := by decide +kernel
theorem dX6_longestChain_68 : decode cX6_longestChain 68 = .ok (.ireturn, 1) := by decide +kernel
theorem dX6_lengthenChains_0 : decode cX6_lengthenChains 0 = .ok (.iconst 0, 1) := by decide +kernel
theorem dX6_lengthenChains_1 : decode cX6_lengthenChains 1 = .ok (.istore_n 1, 1) := by decide +kernel
theorem dX6_lengthenChains_2 : decode cX6_lengthenChains 2 = .ok (.iload_n 1, 1) := by decide +kernel
theorem dX6_lengthenChains_3 : decode cX6_lengthenChains 3 = .ok (.aload_n 0, 1) := by decide +kernel
theorem dX6_lengthenChains_4 : decode cX6_lengthenChains 4 = .ok (.getfield 40, 3) := by decide +kernel
theorem dX6_lengthenChains_7 : decode cX6_lengthenChains 7 = .ok (.if_icmp .ge 61, 3) := by decide +kernel
theorem dX6_lengthenChains_10 : decode cX6_lengthenChains 10 = .ok (.iconst 0, 1) := by decide +kernel
theorem dX6_lengthenChains_11 : decode cX6_lengthenChains 11 = .ok (.istore_n 2, 1) := by decide +kernel
theorem dX6_lengthenChains_12 : decode cX6_lengthenChains 12 = .ok (.iload_n 2, 1) := by decide +kernel
theorem dX6_lengthenChains_13 : decode cX6_lengthenChains 13 = .ok (.aload_n 0, 1) := by decide +kernel
theorem dX6_lengthenChains_14 : decode cX6_lengthenChains 14 = .ok (.getfield 40, 3) := by decide +kernel
theorem dX6_lengthenChains_17 : decode cX6_lengthenChains 17 = .ok (.if_icmp .ge 45, 3) := by decide +kernel
theorem dX6_lengthenChains_20 : decode cX6_lengthenChains 20 = .ok (.aload_n 0, 1) := by decide +kernel
theorem dX6_lengthenChains_21 : decode cX6_lengthenChains 21 = .ok (.getfield 9, 3) := by decide +kernel
theorem dX6_lengthenChains_24 : decode cX6_lengthenChains 24 = .ok (.iload_n 1, 1) := by decide +kernel
theorem dX6_lengthenChains_25 : decode cX6_lengthenChains 25 = .ok (.iaload, 1) := by decide +kernel
theorem dX6_lengthenChains_26 : decode cX6_lengthenChains 26 = .ok (.iload_n 2, 1) := by decide +kernel
theorem dX6_lengthenChains_27 : decode cX6_lengthenChains 27 = .ok (.invokestatic 57, 3) := by decide +kernel
theorem dX6_lengthenChains_30 : decode cX6_lengthenChains 30 = .ok (.ifCond .eq 26, 3) := by decide +kernel
theorem dX6_lengthenChains_33 : decode cX6_lengthenChains 33 = .ok (.aload_n 0, 1) := by decide +kernel
theorem dX6_lengthenChains_34 : decode cX6_lengthenChains 34 = .ok (.getfield 25, 3) := by decide +kernel
theorem dX6_lengthenChains_37 : decode cX6_lengthenChains 37 = .ok (.iload_n 1, 1) := by decide +kernel
theorem dX6_lengthenChains_38 : decode cX6_lengthenChains 38 = .ok (.aload_n 0, 1) := by decide +kernel
theorem dX6_lengthenChains_39 : decode cX6_lengthenChains 39 = .ok (.getfield 25, 3) := by decide +kernel
theorem dX6_lengthenChains_42 : decode cX6_lengthenChains 42 = .ok (.iload_n 1, 1) := by decide +kernel
theorem dX6_lengthenChains_43 : decode cX6_lengthenChains 43 = .ok (.iaload, 1) := by decide +kernel
theorem dX6_lengthenChains_44 : decode cX6_lengthenChains 44 = .ok (.aload_n 0, 1) := by decide +kernel
theorem dX6_lengthenChains_45 : decode cX6_lengthenChains 45 = .ok (.getfield 25, 3) := by decide +kernel
theorem dX6_lengthenChains_48 : decode cX6_lengthenChains 48 = .ok (.iload_n 2, 1) := by decide +kernel
theorem dX6_lengthenChains_49 : decode cX6_lengthenChains 49 = .ok (.iaload, 1) := by decide +kernel
theorem dX6_lengthenChains_50 : decode cX6_lengthenChains 50 = .ok (.iconst 1, 1) := by decide +kernel
theorem dX6_lengthenChains_51 : decode cX6_lengthenChains 51 = .ok (.iadd, 1) := by decide +kernel
theorem dX6_lengthenChains_52 : decode cX6_lengthenChains 52 = .ok (.invokestatic 77, 3) := by decide +kernel
theorem dX6_lengthenChains_55 : decode cX6_lengthenChains 55 = .ok (.iastore, 1) := by decide +kernel
theorem dX6_lengthenChains_56 : decode cX6_lengthenChains 56 = .ok (.iinc 2 1, 3) := by decide +kernel
theorem dX6_lengthenChains_59 : decode cX6_lengthenChains 59 = .ok (.goto (-47), 3) := by decide +kernel
theorem dX6_lengthenChains_62 : decode cX6_lengthenChains 62 = .ok (.iinc 1 1, 3) := by decide +kernel
theorem dX6_lengthenChains_65 : decode cX6_lengthenChains 65 = .ok (.goto (-63), 3) := by decide +kernel
theorem dX6_lengthenChains_68 : decode cX6_lengthenChains 68 = .ok (.return_, 1) := by decide +kernel
theorem dX6_firstParting_0 : decode cX6_firstParting 0 = .ok (.aload_n 0, 1) := by decide +kernel
theorem dX6_firstParting_1 : decode cX6_firstParting 1 = .ok (.iload_n 1, 1) := by decide +kernel
theorem dX6_firstParting_2 : decode cX6_firstParting 2 = .ok (.invokevirtual 80, 3) := by decide +kernel
theorem dX6_firstParting_5 : decode cX6_firstParting 5 = .ok (.ifCond .eq 5, 3) := by decide +kernel
theorem dX6_firstParting_8 : decode cX6_firstParting 8 = .ok (.iconst (-1), 1) := by decide +kernel
theorem dX6_firstParting_9 : decode cX6_firstParting 9 = .ok (.ireturn, 1) := by decide +kernel
theorem dX6_firstParting_10 : decode cX6_firstParting 10 = .ok (.aload_n 0, 1) := by decide +kernel
theorem dX6_firstParting_11 : decode cX6_firstParting 11 = .ok (.aload_n 0, 1) := by decide +kernel
theorem dX6_firstParting_12 : decode cX6_firstParting 12 = .ok (.getfield 9, 3) := by decide +kernel
theorem dX6_firstParting_15 : decode cX6_firstParting 15 = .ok (.iload_n 1, 1) := by decide +kernel
theorem dX6_firstParting_16 : decode cX6_firstParting 16 = .ok (.invokevirtual 84, 3) := by decide +kernel
theorem dX6_firstParting_19 : decode cX6_firstParting 19 = .ok (.istore_n 2, 1) := by decide +kernel
theorem dX6_firstParting_20 : decode cX6_firstParting 20 = .ok (.iload_n 2, 1) := by decide +kernel
theorem dX6_firstParting_21 : decode cX6_firstParting 21 = .ok (.iconst (-1), 1) := by decide +kernel
theorem dX6_firstParting_22 : decode cX6_firstParting 22 = .ok (.if_icmp .eq 5, 3) := by decide +kernel
theorem dX6_firstParting_25 : decode cX6_firstParting 25 = .ok (.iload_n 2, 1) := by decide +kernel
theorem dX6_firstParting_26 : decode cX6_firstParting 26 = .ok (.ireturn, 1) := by decide +kernel
theorem dX6_firstParting_27 : decode cX6_firstParting 27 = .ok (.aload_n 0, 1) := by decide +kernel
theorem dX6_firstParting_28 : decode cX6_firstParting 28 = .ok (.aload_n 0, 1) := by decide +kernel
theorem dX6_firstParting_29 : decode cX6_firstParting 29 = .ok (.getfield 15, 3) := by decide +kernel
theorem dX6_firstParting_32 : decode cX6_firstParting 32 = .ok (.iload_n 1, 1) := by decide +kernel
theorem dX6_firstParting_33 : decode cX6_firstParting 33 = .ok (.invokevirtual 84, 3) := by decide +kernel
theorem dX6_firstParting_36 : decode cX6_firstParting 36 = .ok (.istore_n 3, 1) := by decide +kernel
theorem dX6_firstParting_37 : decode cX6_firstParting 37 = .ok (.iload_n 3, 1) := by decide +kernel
theorem dX6_firstParting_38 : decode cX6_firstParting 38 = .ok (.iconst (-1), 1) := by decide +kernel
theorem dX6_firstParting_39 : decode cX6_firstParting 39 = .ok (.if_icmp .ne 7, 3) := by decide +kernel
theorem dX6_firstParting_42 : decode cX6_firstParting 42 = .ok (.iconst (-1), 1) := by decide +kernel
theorem dX6_firstParting_43 : decode cX6_firstParting 43 = .ok (.goto 7, 3) := by decide +kernel
theorem dX6_firstParting_46 : decode cX6_firstParting 46 = .ok (.bipush 100, 2) := by decide +kernel
theorem dX6_firstParting_48 : decode cX6_firstParting 48 = .ok (.iload_n 3, 1) := by decide +kernel
theorem dX6_firstParting_49 : decode cX6_firstParting 49 = .ok (.iadd, 1) := by decide +kernel
theorem dX6_firstParting_50 : decode cX6_firstParting 50 = .ok (.ireturn, 1) := by decide +kernel
theorem dX6_firstPartingOf_0 : decode cX6_firstPartingOf 0 = .ok (.iconst 0, 1) := by decide +kernel
theorem dX6_firstPartingOf_1 : decode cX6_firstPartingOf 1 = .ok (.istore_n 3, 1) := by decide +kernel
theorem dX6_firstPartingOf_2 : decode cX6_firstPartingOf 2 = .ok (.iload_n 3, 1) := by decide +kernel
theorem dX6_firstPartingOf_3 : decode cX6_firstPartingOf 3 = .ok (.aload_n 0, 1) := by decide +kernel
theorem dX6_firstPartingOf_4 : decode cX6_firstPartingOf 4 = .ok (.getfield 40, 3) := by decide +kernel
theorem dX6_firstPartingOf_7 : decode cX6_firstPartingOf 7 = .ok (.if_icmp .ge 58, 3) := by decide +kernel
theorem dX6_firstPartingOf_10 : decode cX6_firstPartingOf 10 = .ok (.iconst 0, 1) := by decide +kernel
theorem dX6_firstPartingOf_11 : decode cX6_firstPartingOf 11 = .ok (.istore 4, 2) := by decide +kernel
theorem dX6_firstPartingOf_13 : decode cX6_firstPartingOf 13 = .ok (.iload 4, 2) := by decide +kernel
theorem dX6_firstPartingOf_15 : decode cX6_firstPartingOf 15 = .ok (.aload_n 0, 1) := by decide +kernel
theorem dX6_firstPartingOf_16 : decode cX6_firstPartingOf 16 = .ok (.getfield 40, 3) := by decide +kernel
theorem dX6_firstPartingOf_19 : decode cX6_firstPartingOf 19 = .ok (.if_icmp .ge 40, 3) := by decide +kernel
theorem dX6_firstPartingOf_22 : decode cX6_firstPartingOf 22 = .ok (.aload_n 1, 1) := by decide +kernel
theorem dX6_firstPartingOf_23 : decode cX6_firstPartingOf 23 = .ok (.iload_n 3, 1) := by decide +kernel
theorem dX6_firstPartingOf_24 : decode cX6_firstPartingOf 24 = .ok (.iaload, 1) := by decide +kernel
theorem dX6_firstPartingOf_25 : decode cX6_firstPartingOf 25 = .ok (.iload 4, 2) := by decide +kernel
theorem dX6_firstPartingOf_27 : decode cX6_firstPartingOf 27 = .ok (.invokestatic 57, 3) := by decide +kernel
theorem dX6_firstPartingOf_30 : decode cX6_firstPartingOf 30 = .ok (.ifCond .eq 23, 3) := by decide +kernel
theorem dX6_firstPartingOf_33 : decode cX6_firstPartingOf 33 = .ok (.aload_n 0, 1) := by decide +kernel
theorem dX6_firstPartingOf_34 : decode cX6_firstPartingOf 34 = .ok (.aload_n 1, 1) := by decide +kernel
theorem dX6_firstPartingOf_35 : decode cX6_firstPartingOf 35 = .ok (.iload_n 3, 1) := by decide +kernel
theorem dX6_firstPartingOf_36 : decode cX6_firstPartingOf 36 = .ok (.iload 4, 2) := by decide +kernel
theorem dX6_firstPartingOf_38 : decode cX6_firstPartingOf 38 = .ok (.iload_n 2, 1) := by decide +kernel
theorem dX6_firstPartingOf_39 : decode cX6_firstPartingOf 39 = .ok (.invokevirtual 88, 3) := by decide +kernel
theorem dX6_firstPartingOf_42 : decode cX6_firstPartingOf 42 = .ok (.ifCond .eq 11, 3) := by decide +kernel
theorem dX6_firstPartingOf_45 : decode cX6_firstPartingOf 45 = .ok (.bipush 10, 2) := by decide +kernel
theorem dX6_firstPartingOf_47 : decode cX6_firstPartingOf 47 = .ok (.iload_n 3, 1) := by decide +kernel
theorem dX6_firstPartingOf_48 : decode cX6_firstPartingOf 48 = .ok (.imul, 1) := by decide +kernel
theorem dX6_firstPartingOf_49 : decode cX6_firstPartingOf 49 = .ok (.iload 4, 2) := by decide +kernel
theorem dX6_firstPartingOf_51 : decode cX6_firstPartingOf 51 = .ok (.iadd, 1) := by decide +kernel
theorem dX6_firstPartingOf_52 : decode cX6_firstPartingOf 52 = .ok (.ireturn, 1) := by decide +kernel
theorem dX6_firstPartingOf_53 : decode cX6_firstPartingOf 53 = .ok (.iinc 4 1, 3) := by decide +kernel
theorem dX6_firstPartingOf_56 : decode cX6_firstPartingOf 56 = .ok (.goto (-43), 3) := by decide +kernel
theorem dX6_firstPartingOf_59 : decode cX6_firstPartingOf 59 = .ok (.iinc 3 1, 3) := by decide +kernel
theorem dX6_firstPartingOf_62 : decode cX6_firstPartingOf 62 = .ok (.goto (-60), 3) := by decide +kernel
theorem dX6_firstPartingOf_65 : decode cX6_firstPartingOf 65 = .ok (.iconst (-1), 1) := by decide +kernel
theorem dX6_firstPartingOf_66 : decode cX6_firstPartingOf 66 = .ok (.ireturn, 1) := by decide +kernel
theorem dX6_isHadWithout_0 : decode cX6_isHadWithout 0 = .ok (.aload_n 1, 1) := by decide +kernel
theorem dX6_isHadWithout_1 : decode cX6_isHadWithout 1 = .ok (.iload_n 2, 1) := by decide +kernel
theorem dX6_isHadWithout_2 : decode cX6_isHadWithout 2 = .ok (.dup2, 1) := by decide +kernel
theorem dX6_isHadWithout_3 : decode cX6_isHadWithout 3 = .ok (.iaload, 1) := by decide +kernel
theorem dX6_isHadWithout_4 : decode cX6_isHadWithout 4 = .ok (.iconst 1, 1) := by decide +kernel
theorem dX6_isHadWithout_5 : decode cX6_isHadWithout 5 = .ok (.iload_n 3, 1) := by decide +kernel
theorem dX6_isHadWithout_6 : decode cX6_isHadWithout 6 = .ok (.ishl, 1) := by decide +kernel
theorem dX6_isHadWithout_7 : decode cX6_isHadWithout 7 = .ok (.ixor, 1) := by decide +kernel
theorem dX6_isHadWithout_8 : decode cX6_isHadWithout 8 = .ok (.iastore, 1) := by decide +kernel
theorem dX6_isHadWithout_9 : decode cX6_isHadWithout 9 = .ok (.aload_n 0, 1) := by decide +kernel
theorem dX6_isHadWithout_10 : decode cX6_isHadWithout 10 = .ok (.invokevirtual 54, 3) := by decide +kernel
theorem dX6_isHadWithout_13 : decode cX6_isHadWithout 13 = .ok (.aload_n 1, 1) := by decide +kernel
theorem dX6_isHadWithout_14 : decode cX6_isHadWithout 14 = .ok (.iload_n 2, 1) := by decide +kernel
theorem dX6_isHadWithout_15 : decode cX6_isHadWithout 15 = .ok (.dup2, 1) := by decide +kernel
theorem dX6_isHadWithout_16 : decode cX6_isHadWithout 16 = .ok (.iaload, 1) := by decide +kernel
theorem dX6_isHadWithout_17 : decode cX6_isHadWithout 17 = .ok (.iconst 1, 1) := by decide +kernel
theorem dX6_isHadWithout_18 : decode cX6_isHadWithout 18 = .ok (.iload_n 3, 1) := by decide +kernel
theorem dX6_isHadWithout_19 : decode cX6_isHadWithout 19 = .ok (.ishl, 1) := by decide +kernel
theorem dX6_isHadWithout_20 : decode cX6_isHadWithout 20 = .ok (.ixor, 1) := by decide +kernel
theorem dX6_isHadWithout_21 : decode cX6_isHadWithout 21 = .ok (.iastore, 1) := by decide +kernel
theorem dX6_isHadWithout_22 : decode cX6_isHadWithout 22 = .ok (.aload_n 0, 1) := by decide +kernel
theorem dX6_isHadWithout_23 : decode cX6_isHadWithout 23 = .ok (.iload 4, 2) := by decide +kernel
theorem dX6_isHadWithout_25 : decode cX6_isHadWithout 25 = .ok (.invokevirtual 80, 3) := by decide +kernel
theorem dX6_isHadWithout_28 : decode cX6_isHadWithout 28 = .ok (.ireturn, 1) := by decide +kernel
theorem dX7_init_0 : decode cX7_init 0 = .ok (.aload_n 0, 1) := by decide +kernel
theorem dX7_init_1 : decode cX7_init 1 = .ok (.invokespecial 3, 3) := by decide +kernel
theorem dX7_init_4 : decode cX7_init 4 = .ok (.aload_n 0, 1) := by decide +kernel
theorem dX7_init_5 : decode cX7_init 5 = .ok (.iconst 4, 1) := by decide +kernel
theorem dX7_init_6 : decode cX7_init 6 = .ok (.bipush 60, 2) := by decide +kernel
theorem dX7_init_8 : decode cX7_init 8 = .ok (.multianewarray 11 2, 4) := by decide +kernel
theorem dX7_init_12 : decode cX7_init 12 = .ok (.putfield 13, 3) := by decide +kernel
theorem dX7_init_15 : decode cX7_init 15 = .ok (.aload_n 0, 1) := by decide +kernel
theorem dX7_init_16 : decode cX7_init 16 = .ok (.iconst 4, 1) := by decide +kernel
theorem dX7_init_17 : decode cX7_init 17 = .ok (.newarray .int, 2) := by decide +kernel
theorem dX7_init_19 : decode cX7_init 19 = .ok (.putfield 16, 3) := by decide +kernel
theorem dX7_init_22 : decode cX7_init 22 = .ok (.aload_n 0, 1) := by decide +kernel
theorem dX7_init_23 : decode cX7_init 23 = .ok (.iconst 4, 1) := by decide +kernel
theorem dX7_init_24 : decode cX7_init 24 = .ok (.newarray .int, 2) := by decide +kernel
theorem dX7_init_26 : decode cX7_init 26 = .ok (.putfield 20, 3) := by decide +kernel
theorem dX7_init_29 : decode cX7_init 29 = .ok (.aload_n 0, 1) := by decide +kernel
theorem dX7_init_30 : decode cX7_init 30 = .ok (.getfield 20, 3) := by decide +kernel
theorem dX7_init_33 : decode cX7_init 33 = .ok (.iconst (-1), 1) := by decide +kernel
theorem dX7_init_34 : decode cX7_init 34 = .ok (.invokestatic 23, 3) := by decide +kernel
theorem dX7_init_37 : decode cX7_init 37 = .ok (.return_, 1) := by decide +kernel
theorem dX7_isSlot_0 : decode cX7_isSlot 0 = .ok (.iload_n 1, 1) := by decide +kernel
theorem dX7_isSlot_1 : decode cX7_isSlot 1 = .ok (.ifCond .lt 12, 3) := by decide +kernel
theorem dX7_isSlot_4 : decode cX7_isSlot 4 = .ok (.iload_n 1, 1) := by decide +kernel
theorem dX7_isSlot_5 : decode cX7_isSlot 5 = .ok (.iconst 4, 1) := by decide +kernel
theorem dX7_isSlot_6 : decode cX7_isSlot 6 = .ok (.if_icmp .ge 7, 3) := by decide +kernel
theorem dX7_isSlot_9 : decode cX7_isSlot 9 = .ok (.iconst 1, 1) := by decide +kernel
theorem dX7_isSlot_10 : decode cX7_isSlot 10 = .ok (.goto 4, 3) := by decide +kernel
theorem dX7_isSlot_13 : decode cX7_isSlot 13 = .ok (.iconst 0, 1) := by decide +kernel
theorem dX7_isSlot_14 : decode cX7_isSlot 14 = .ok (.ireturn, 1) := by decide +kernel
theorem dX7_hasRow_0 : decode cX7_hasRow 0 = .ok (.aload_n 0, 1) := by decide +kernel
theorem dX7_hasRow_1 : decode cX7_hasRow 1 = .ok (.iload_n 1, 1) := by decide +kernel
theorem dX7_hasRow_2 : decode cX7_hasRow 2 = .ok (.invokevirtual 29, 3) := by decide +kernel
theorem dX7_hasRow_5 : decode cX7_hasRow 5 = .ok (.ifCond .eq 17, 3) := by decide +kernel
theorem dX7_hasRow_8 : decode cX7_hasRow 8 = .ok (.aload_n 0, 1) := by decide +kernel
theorem dX7_hasRow_9 : decode cX7_hasRow 9 = .ok (.getfield 20, 3) := by decide +kernel
theorem dX7_hasRow_12 : decode cX7_hasRow 12 = .ok (.iload_n 1, 1) := by decide +kernel
theorem dX7_hasRow_13 : decode cX7_hasRow 13 = .ok (.iaload, 1) := by decide +kernel
theorem dX7_hasRow_14 : decode cX7_hasRow 14 = .ok (.iconst (-1), 1) := by decide +kernel
theorem dX7_hasRow_15 : decode cX7_hasRow 15 = .ok (.if_icmp .eq 7, 3) := by decide +kernel
theorem dX7_hasRow_18 : decode cX7_hasRow 18 = .ok (.iconst 1, 1) := by decide +kernel
theorem dX7_hasRow_19 : decode cX7_hasRow 19 = .ok (.goto 4, 3) := by decide +kernel
theorem dX7_hasRow_22 : decode cX7_hasRow 22 = .ok (.iconst 0, 1) := by decide +kernel
theorem dX7_hasRow_23 : decode cX7_hasRow 23 = .ok (.ireturn, 1) := by decide +kernel
theorem dX7_howMany_0 : decode cX7_howMany 0 = .ok (.iconst 0, 1) := by decide +kernel
theorem dX7_howMany_1 : decode cX7_howMany 1 = .ok (.istore_n 1, 1) := by decide +kernel
theorem dX7_howMany_2 : decode cX7_howMany 2 = .ok (.iconst 0, 1) := by decide +kernel
theorem dX7_howMany_3 : decode cX7_howMany 3 = .ok (.istore_n 2, 1) := by decide +kernel
theorem dX7_howMany_4 : decode cX7_howMany 4 = .ok (.iload_n 2, 1) := by decide +kernel
theorem dX7_howMany_5 : decode cX7_howMany 5 = .ok (.iconst 4, 1) := by decide +kernel
theorem dX7_howMany_6 : decode cX7_howMany 6 = .ok (.if_icmp .ge 20, 3) := by decide +kernel
theorem dX7_howMany_9 : decode cX7_howMany 9 = .ok (.aload_n 0, 1) := by decide +kernel
theorem dX7_howMany_10 : decode cX7_howMany 10 = .ok (.iload_n 2, 1) := by decide +kernel
theorem dX7_howMany_11 : decode cX7_howMany 11 = .ok (.invokevirtual 33, 3) := by decide +kernel
theorem dX7_howMany_14 : decode cX7_howMany 14 = .ok (.ifCond .eq 6, 3) := by decide +kernel
theorem dX7_howMany_17 : decode cX7_howMany 17 = .ok (.iinc 1 1, 3) := by decide +kernel
theorem dX7_howMany_20 : decode cX7_howMany 20 = .ok (.iinc 2 1, 3) := by decide +kernel
theorem dX7_howMany_23 : decode cX7_howMany 23 = .ok (.goto (-19), 3) := by decide +kernel
theorem dX7_howMany_26 : decode cX7_howMany 26 = .ok (.iload_n 1, 1) := by decide +kernel
theorem dX7_howMany_27 : decode cX7_howMany 27 = .ok (.ireturn, 1) := by decide +kernel
theorem dX7_widthOf_0 : decode cX7_widthOf 0 = .ok (.aload_n 0, 1) := by decide +kernel
theorem dX7_widthOf_1 : decode cX7_widthOf 1 = .ok (.iload_n 1, 1) := by decide +kernel
theorem dX7_widthOf_2 : decode cX7_widthOf 2 = .ok (.invokevirtual 29, 3) := by decide +kernel
theorem dX7_widthOf_5 : decode cX7_widthOf 5 = .ok (.ifCond .eq 12, 3) := by decide +kernel
theorem dX7_widthOf_8 : decode cX7_widthOf 8 = .ok (.aload_n 0, 1) := by decide +kernel
theorem dX7_widthOf_9 : decode cX7_widthOf 9 = .ok (.getfield 16, 3) := by decide +kernel
theorem dX7_widthOf_12 : decode cX7_widthOf 12 = .ok (.iload_n 1, 1) := by decide +kernel
theorem dX7_widthOf_13 : decode cX7_widthOf 13 = .ok (.iaload, 1) := by decide +kernel
theorem dX7_widthOf_14 : decode cX7_widthOf 14 = .ok (.goto 4, 3) := by decide +kernel
theorem dX7_widthOf_17 : decode cX7_widthOf 17 = .ok (.iconst (-1), 1) := by decide +kernel
theorem dX7_widthOf_18 : decode cX7_widthOf 18 = .ok (.ireturn, 1) := by decide +kernel
theorem dX7_lengthOf_0 : decode cX7_lengthOf 0 = .ok (.aload_n 0, 1) := by decide +kernel
theorem dX7_lengthOf_1 : decode cX7_lengthOf 1 = .ok (.iload_n 1, 1) := by decide +kernel
theorem dX7_lengthOf_2 : decode cX7_lengthOf 2 = .ok (.invokevirtual 33, 3) := by decide +kernel
theorem dX7_lengthOf_5 : decode cX7_lengthOf 5 = .ok (.ifCond .eq 12, 3) := by decide +kernel
theorem dX7_lengthOf_8 : decode cX7_lengthOf 8 = .ok (.aload_n 0, 1) := by decide +kernel
theorem dX7_lengthOf_9 : decode cX7_lengthOf 9 = .ok (.getfield 20, 3) := by decide +kernel
theorem dX7_lengthOf_12 : decode cX7_lengthOf 12 = .ok (.iload_n 1, 1) := by decide +kernel
theorem dX7_lengthOf_13 : decode cX7_lengthOf 13 = .ok (.iaload, 1) := by decide +kernel
theorem dX7_lengthOf_14 : decode cX7_lengthOf 14 = .ok (.goto 4, 3) := by decide +kernel
theorem dX7_lengthOf_17 : decode cX7_lengthOf 17 = .ok (.iconst 0, 1) := by decide +kernel
theorem dX7_lengthOf_18 : decode cX7_lengthOf 18 = .ok (.ireturn, 1) := by decide +kernel
theorem dX7_lay_0 : decode cX7_lay 0 = .ok (.aload_n 0, 1) := by decide +kernel
theorem dX7_lay_1 : decode cX7_lay 1 = .ok (.iload_n 1, 1) := by decide +kernel
theorem dX7_lay_2 : decode cX7_lay 2 = .ok (.invokevirtual 29, 3) := by decide +kernel
theorem dX7_lay_5 : decode cX7_lay 5 = .ok (.ifCond .eq 37, 3) := by decide +kernel
theorem dX7_lay_8 : decode cX7_lay 8 = .ok (.iload_n 3, 1) := by decide +kernel
theorem dX7_lay_9 : decode cX7_lay 9 = .ok (.ifCond .lt 33, 3) := by decide +kernel
theorem dX7_lay_12 : decode cX7_lay 12 = .ok (.iload_n 3, 1) := by decide +kernel
theorem dX7_lay_13 : decode cX7_lay 13 = .ok (.bipush 60, 2) := by decide +kernel
theorem dX7_lay_15 : decode cX7_lay 15 = .ok (.if_icmp .gt 27, 3) := by decide +kernel
theorem dX7_lay_18 : decode cX7_lay 18 = .ok (.aload_n 0, 1) := by decide +kernel
theorem dX7_lay_19 : decode cX7_lay 19 = .ok (.getfield 16, 3) := by decide +kernel
theorem dX7_lay_22 : decode cX7_lay 22 = .ok (.iload_n 1, 1) := by decide +kernel
theorem dX7_lay_23 : decode cX7_lay 23 = .ok (.iload_n 2, 1) := by decide +kernel
theorem dX7_lay_24 : decode cX7_lay 24 = .ok (.iastore, 1) := by decide +kernel
theorem dX7_lay_25 : decode cX7_lay 25 = .ok (.aload_n 0, 1) := by decide +kernel
theorem dX7_lay_26 : decode cX7_lay 26 = .ok (.getfield 20, 3) := by decide +kernel
theorem dX7_lay_29 : decode cX7_lay 29 = .ok (.iload_n 1, 1) := by decide +kernel
theorem dX7_lay_30 : decode cX7_lay 30 = .ok (.iload_n 3, 1) := by decide +kernel
theorem dX7_lay_31 : decode cX7_lay 31 = .ok (.iastore, 1) := by decide +kernel
theorem dX7_lay_32 : decode cX7_lay 32 = .ok (.aload_n 0, 1) := by decide +kernel
theorem dX7_lay_33 : decode cX7_lay 33 = .ok (.getfield 13, 3) := by decide +kernel
theorem dX7_lay_36 : decode cX7_lay 36 = .ok (.iload_n 1, 1) := by decide +kernel
theorem dX7_lay_37 : decode cX7_lay 37 = .ok (.aaload, 1) := by decide +kernel
theorem dX7_lay_38 : decode cX7_lay 38 = .ok (.lconst 0, 1) := by decide +kernel
theorem dX7_lay_39 : decode cX7_lay 39 = .ok (.invokestatic 36, 3) := by decide +kernel
theorem dX7_lay_42 : decode cX7_lay 42 = .ok (.return_, 1) := by decide +kernel
theorem dX7_set_0 : decode cX7_set 0 = .ok (.iload_n 2, 1) := by decide +kernel
theorem dX7_set_1 : decode cX7_set 1 = .ok (.ifCond .lt 12, 3) := by decide +kernel
theorem dX7_set_4 : decode cX7_set 4 = .ok (.iload_n 2, 1) := by decide +kernel
theorem dX7_set_5 : decode cX7_set 5 = .ok (.aload_n 0, 1) := by decide +kernel
theorem dX7_set_6 : decode cX7_set 6 = .ok (.iload_n 1, 1) := by decide +kernel
theorem dX7_set_7 : decode cX7_set 7 = .ok (.invokevirtual 39, 3) := by decide +kernel
theorem dX7_set_10 : decode cX7_set 10 = .ok (.if_icmp .lt 5, 3) := by decide +kernel
theorem dX7_set_13 : decode cX7_set 13 = .ok (.iconst 0, 1) := by decide +kernel
theorem dX7_set_14 : decode cX7_set 14 = .ok (.ireturn, 1) := by decide +kernel
theorem dX7_set_15 : decode cX7_set 15 = .ok (.aload_n 0, 1) := by decide +kernel
theorem dX7_set_16 : decode cX7_set 16 = .ok (.getfield 13, 3) := by decide +kernel
theorem dX7_set_19 : decode cX7_set 19 = .ok (.iload_n 1, 1) := by decide +kernel
theorem dX7_set_20 : decode cX7_set 20 = .ok (.aaload, 1) := by decide +kernel
theorem dX7_set_21 : decode cX7_set 21 = .ok (.iload_n 2, 1) := by decide +kernel
theorem dX7_set_22 : decode cX7_set 22 = .ok (.lload_n 3, 1) := by decide +kernel
theorem dX7_set_23 : decode cX7_set 23 = .ok (.aload_n 0, 1) := by decide +kernel
theorem dX7_set_24 : decode cX7_set 24 = .ok (.getfield 16, 3) := by decide +kernel
theorem dX7_set_27 : decode cX7_set 27 = .ok (.iload_n 1, 1) := by decide +kernel
theorem dX7_set_28 : decode cX7_set 28 = .ok (.iaload, 1) := by decide +kernel
theorem dX7_set_29 : decode cX7_set 29 = .ok (.invokestatic 43, 3) := by decide +kernel
theorem dX7_set_32 : decode cX7_set 32 = .ok (.lastore, 1) := by decide +kernel
theorem dX7_set_33 : decode cX7_set 33 = .ok (.iconst 1, 1) := by decide +kernel
theorem dX7_set_34 : decode cX7_set 34 = .ok (.ireturn, 1) := by decide +kernel
theorem dX7_cut_0 : decode cX7_cut 0 = .ok (.iload_n 2, 1) := by decide +kernel
theorem dX7_cut_1 : decode cX7_cut 1 = .ok (.tableswitch 41 0 2 #[27, 32, 37], 27) := by decide +kernel
theorem dX7_cut_28 : decode cX7_cut 28 = .ok (.lload_n 0, 1) := by decide +kernel
theorem dX7_cut_29 : decode cX7_cut 29 = .ok (.l2i, 1) := by decide +kernel
theorem dX7_cut_30 : decode cX7_cut 30 = .ok (.i2b, 1) := by decide +kernel
theorem dX7_cut_31 : decode cX7_cut 31 = .ok (.i2l, 1) := by decide +kernel
theorem dX7_cut_32 : decode cX7_cut 32 = .ok (.lreturn, 1) := by decide +kernel
theorem dX7_cut_33 : decode cX7_cut 33 = .ok (.lload_n 0, 1) := by decide +kernel
theorem dX7_cut_34 : decode cX7_cut 34 = .ok (.l2i, 1) := by decide +kernel
theorem dX7_cut_35 : decode cX7_cut 35 = .ok (.i2s, 1) := by decide +kernel
theorem dX7_cut_36 : decode cX7_cut 36 = .ok (.i2l, 1) := by decide +kernel
theorem dX7_cut_37 : decode cX7_cut 37 = .ok (.lreturn, 1) := by decide +kernel
theorem dX7_cut_38 : decode cX7_cut 38 = .ok (.lload_n 0, 1) := by decide +kernel
theorem dX7_cut_39 : decode cX7_cut 39 = .ok (.l2i, 1) := by decide +kernel
theorem dX7_cut_40 : decode cX7_cut 40 = .ok (.i2l, 1) := by decide +kernel
theorem dX7_cut_41 : decode cX7_cut 41 = .ok (.lreturn, 1) := by decide +kernel
theorem dX7_cut_42 : decode cX7_cut 42 = .ok (.lload_n 0, 1) := by decide +kernel
theorem dX7_cut_43 : decode cX7_cut 43 = .ok (.lreturn, 1) := by decide +kernel
theorem dX7_reaches_0 : decode cX7_reaches 0 = .ok (.aload_n 0, 1) := by decide +kernel
theorem dX7_reaches_1 : decode cX7_reaches 1 = .ok (.iload_n 1, 1) := by decide +kernel
theorem dX7_reaches_2 : decode cX7_reaches 2 = .ok (.invokevirtual 39, 3) := by decide +kernel
theorem dX7_reaches_5 : decode cX7_reaches 5 = .ok (.istore 4, 2) := by decide +kernel
theorem dX7_reaches_7 : decode cX7_reaches 7 = .ok (.iload_n 2, 1) := by decide +kernel
theorem dX7_reaches_8 : decode cX7_reaches 8 = .ok (.ifCond .lt 25, 3) := by decide +kernel
theorem dX7_reaches_11 : decode cX7_reaches 11 = .ok (.iload_n 3, 1) := by decide +kernel
theorem dX7_reaches_12 : decode cX7_reaches 12 = .ok (.ifCond .lt 21, 3) := by decide +kernel
theorem dX7_reaches_15 : decode cX7_reaches 15 = .ok (.iload_n 2, 1) := by decide +kernel
theorem dX7_reaches_16 : decode cX7_reaches 16 = .ok (.iload 4, 2) := by decide +kernel
theorem dX7_reaches_18 : decode cX7_reaches 18 = .ok (.if_icmp .gt 15, 3) := by decide +kernel
theorem dX7_reaches_21 : decode cX7_reaches 21 = .ok (.iload_n 3, 1) := by decide +kernel
theorem dX7_reaches_22 : decode cX7_reaches 22 = .ok (.iload 4, 2) := by decide +kernel
theorem dX7_reaches_24 : decode cX7_reaches 24 = .ok (.iload_n 2, 1) := by decide +kernel
theorem dX7_reaches_25 : decode cX7_reaches 25 = .ok (.isub, 1) := by decide +kernel
theorem dX7_reaches_26 : decode cX7_reaches 26 = .ok (.if_icmp .gt 7, 3) := by decide +kernel
theorem dX7_reaches_29 : decode cX7_reaches 29 = .ok (.iconst 1, 1) := by decide +kernel
theorem dX7_reaches_30 : decode cX7_reaches 30 = .ok (.goto 4, 3) := by decide +kernel
theorem dX7_reaches_33 : decode cX7_reaches 33 = .ok (.iconst 0, 1) := by decide +kernel
theorem dX7_reaches_34 : decode cX7_reaches 34 = .ok (.ireturn, 1) := by decide +kernel
theorem dX7_copy_0 : decode cX7_copy 0 = .ok (.aload_n 0, 1) := by decide +kernel
theorem dX7_copy_1 : decode cX7_copy 1 = .ok (.iload_n 1, 1) := by decide +kernel
theorem dX7_copy_2 : decode cX7_copy 2 = .ok (.iload_n 2, 1) := by decide +kernel
theorem dX7_copy_3 : decode cX7_copy 3 = .ok (.iload 5, 2) := by decide +kernel
theorem dX7_copy_5 : decode cX7_copy 5 = .ok (.invokevirtual 47, 3) := by decide +kernel
theorem dX7_copy_8 : decode cX7_copy 8 = .ok (.ifCond .eq 51, 3) := by decide +kernel
theorem dX7_copy_11 : decode cX7_copy 11 = .ok (.aload_n 0, 1) := by decide +kernel
theorem dX7_copy_12 : decode cX7_copy 12 = .ok (.iload_n 3, 1) := by decide +kernel
theorem dX7_copy_13 : decode cX7_copy 13 = .ok (.iload 4, 2) := by decide +kernel
theorem dX7_copy_15 : decode cX7_copy 15 = .ok (.iload 5, 2) := by decide +kernel
theorem dX7_copy_17 : decode cX7_copy 17 = .ok (.invokevirtual 47, 3) := by decide +kernel
theorem dX7_copy_20 : decode cX7_copy 20 = .ok (.ifCond .eq 39, 3) := by decide +kernel
theorem dX7_copy_23 : decode cX7_copy 23 = .ok (.aload_n 0, 1) := by decide +kernel
theorem dX7_copy_24 : decode cX7_copy 24 = .ok (.iload_n 1, 1) := by decide +kernel
theorem dX7_copy_25 : decode cX7_copy 25 = .ok (.invokevirtual 33, 3) := by decide +kernel
theorem dX7_copy_28 : decode cX7_copy 28 = .ok (.ifCond .eq 31, 3) := by decide +kernel
theorem dX7_copy_31 : decode cX7_copy 31 = .ok (.aload_n 0, 1) := by decide +kernel
theorem dX7_copy_32 : decode cX7_copy 32 = .ok (.iload_n 3, 1) := by decide +kernel
theorem dX7_copy_33 : decode cX7_copy 33 = .ok (.invokevirtual 33, 3) := by decide +kernel
theorem dX7_copy_36 : decode cX7_copy 36 = .ok (.ifCond .eq 23, 3) := by decide +kernel
theorem dX7_copy_39 : decode cX7_copy 39 = .ok (.aload_n 0, 1) := by decide +kernel
theorem dX7_copy_40 : decode cX7_copy 40 = .ok (.getfield 13, 3) := by decide +kernel
theorem dX7_copy_43 : decode cX7_copy 43 = .ok (.iload_n 1, 1) := by decide +kernel
theorem dX7_copy_44 : decode cX7_copy 44 = .ok (.aaload, 1) := by decide +kernel
theorem dX7_copy_45 : decode cX7_copy 45 = .ok (.iload_n 2, 1) := by decide +kernel
theorem dX7_copy_46 : decode cX7_copy 46 = .ok (.aload_n 0, 1) := by decide +kernel
theorem dX7_copy_47 : decode cX7_copy 47 = .ok (.getfield 13, 3) := by decide +kernel
theorem dX7_copy_50 : decode cX7_copy 50 = .ok (.iload_n 3, 1) := by decide +kernel
theorem dX7_copy_51 : decode cX7_copy 51 = .ok (.aaload, 1) := by decide +kernel
theorem dX7_copy_52 : decode cX7_copy 52 = .ok (.iload 4, 2) := by decide +kernel
theorem dX7_copy_54 : decode cX7_copy 54 = .ok (.iload 5, 2) := by decide +kernel
theorem dX7_copy_56 : decode cX7_copy 56 = .ok (.invokestatic 51, 3) := by decide +kernel
theorem dX7_copy_59 : decode cX7_copy 59 = .ok (.return_, 1) := by decide +kernel
theorem dX7_areBelow_0 : decode cX7_areBelow 0 = .ok (.iconst 0, 1) := by decide +kernel
theorem dX7_areBelow_1 : decode cX7_areBelow 1 = .ok (.istore_n 3, 1) := by decide +kernel
theorem dX7_areBelow_2 : decode cX7_areBelow 2 = .ok (.iload_n 3, 1) := by decide +kernel
theorem dX7_areBelow_3 : decode cX7_areBelow 3 = .ok (.aload_n 0, 1) := by decide +kernel
theorem dX7_areBelow_4 : decode cX7_areBelow 4 = .ok (.iload_n 1, 1) := by decide +kernel
theorem dX7_areBelow_5 : decode cX7_areBelow 5 = .ok (.invokevirtual 39, 3) := by decide +kernel
theorem dX7_areBelow_8 : decode cX7_areBelow 8 = .ok (.if_icmp .ge 38, 3) := by decide +kernel
theorem dX7_areBelow_11 : decode cX7_areBelow 11 = .ok (.aload_n 0, 1) := by decide +kernel
theorem dX7_areBelow_12 : decode cX7_areBelow 12 = .ok (.getfield 13, 3) := by decide +kernel
theorem dX7_areBelow_15 : decode cX7_areBelow 15 = .ok (.iload_n 1, 1) := by decide +kernel
theorem dX7_areBelow_16 : decode cX7_areBelow 16 = .ok (.aaload, 1) := by decide +kernel
theorem dX7_areBelow_17 : decode cX7_areBelow 17 = .ok (.iload_n 3, 1) := by decide +kernel
theorem dX7_areBelow_18 : decode cX7_areBelow 18 = .ok (.laload, 1) := by decide +kernel
theorem dX7_areBelow_19 : decode cX7_areBelow 19 = .ok (.lconst 0, 1) := by decide +kernel
theorem dX7_areBelow_20 : decode cX7_areBelow 20 = .ok (.lcmp, 1) := by decide +kernel
theorem dX7_areBelow_21 : decode cX7_areBelow 21 = .ok (.ifCond .lt 17, 3) := by decide +kernel
theorem dX7_areBelow_24 : decode cX7_areBelow 24 = .ok (.aload_n 0, 1) := by decide +kernel
theorem dX7_areBelow_25 : decode cX7_areBelow 25 = .ok (.getfield 13, 3) := by decide +kernel
theorem dX7_areBelow_28 : decode cX7_areBelow 28 = .ok (.iload_n 1, 1) := by decide +kernel
theorem dX7_areBelow_29 : decode cX7_areBelow 29 = .ok (.aaload, 1) := by decide +kernel
theorem dX7_areBelow_30 : decode cX7_areBelow 30 = .ok (.iload_n 3, 1) := by decide +kernel
theorem dX7_areBelow_31 : decode cX7_areBelow 31 = .ok (.laload, 1) := by decide +kernel
theorem dX7_areBelow_32 : decode cX7_areBelow 32 = .ok (.iload_n 2, 1) := by decide +kernel
theorem dX7_areBelow_33 : decode cX7_areBelow 33 = .ok (.i2l, 1) := by decide +kernel
theorem dX7_areBelow_34 : decode cX7_areBelow 34 = .ok (.lcmp, 1) := by decide +kernel
theorem dX7_areBelow_35 : decode cX7_areBelow 35 = .ok (.ifCond .lt 5, 3) := by decide +kernel
theorem dX7_areBelow_38 : decode cX7_areBelow 38 = .ok (.iconst 0, 1) := by decide +kernel
theorem dX7_areBelow_39 : decode cX7_areBelow 39 = .ok (.ireturn, 1) := by decide +kernel
theorem dX7_areBelow_40 : decode cX7_areBelow 40 = .ok (.iinc 3 1, 3) := by decide +kernel
theorem dX7_areBelow_43 : decode cX7_areBelow 43 = .ok (.goto (-41), 3) := by decide +kernel
theorem dX7_areBelow_46 : decode cX7_areBelow 46 = .ok (.iconst 1, 1) := by decide +kernel
theorem dX7_areBelow_47 : decode cX7_areBelow 47 = .ok (.ireturn, 1) := by decide +kernel
theorem dX7_officialAt_0 : decode cX7_officialAt 0 = .ok (.iload_n 2, 1) := by decide +kernel
theorem dX7_officialAt_1 : decode cX7_officialAt 1 = .ok (.ifCond .lt 24, 3) := by decide +kernel
theorem dX7_officialAt_4 : decode cX7_officialAt 4 = .ok (.iload_n 2, 1) := by decide +kernel
theorem dX7_officialAt_5 : decode cX7_officialAt 5 = .ok (.aload_n 0, 1) := by decide +kernel
theorem dX7_officialAt_6 : decode cX7_officialAt 6 = .ok (.iload_n 1, 1) := by decide +kernel
theorem dX7_officialAt_7 : decode cX7_officialAt 7 = .ok (.invokevirtual 39, 3) := by decide +kernel
theorem dX7_officialAt_10 : decode cX7_officialAt 10 = .ok (.if_icmp .ge 15, 3) := by decide +kernel
theorem dX7_officialAt_13 : decode cX7_officialAt 13 = .ok (.aload_n 0, 1) := by decide +kernel
theorem dX7_officialAt_14 : decode cX7_officialAt 14 = .ok (.getfield 13, 3) := by decide +kernel
theorem dX7_officialAt_17 : decode cX7_officialAt 17 = .ok (.iload_n 1, 1) := by decide +kernel
theorem dX7_officialAt_18 : decode cX7_officialAt 18 = .ok (.aaload, 1) := by decide +kernel
theorem dX7_officialAt_19 : decode cX7_officialAt 19 = .ok (.iload_n 2, 1) := by decide +kernel
theorem dX7_officialAt_20 : decode cX7_officialAt 20 = .ok (.laload, 1) := by decide +kernel
theorem dX7_officialAt_21 : decode cX7_officialAt 21 = .ok (.l2i, 1) := by decide +kernel
theorem dX7_officialAt_22 : decode cX7_officialAt 22 = .ok (.goto 4, 3) := by decide +kernel
theorem dX7_officialAt_25 : decode cX7_officialAt 25 = .ok (.iconst (-1), 1) := by decide +kernel
theorem dX7_officialAt_26 : decode cX7_officialAt 26 = .ok (.ireturn, 1) := by decide +kernel
theorem dX8_init_0 : decode cX8_init 0 = .ok (.aload_n 0, 1) := by decide +kernel
theorem dX8_init_1 : decode cX8_init 1 = .ok (.invokespecial 3, 3) := by decide +kernel
theorem dX8_init_4 : decode cX8_init 4 = .ok (.aload_n 0, 1) := by decide +kernel
theorem dX8_init_5 : decode cX8_init 5 = .ok (.sipush 1600, 3) := by decide +kernel
theorem dX8_init_8 : decode cX8_init 8 = .ok (.newarray .byte, 2) := by decide +kernel
theorem dX8_init_10 : decode cX8_init 10 = .ok (.putfield 9, 3) := by decide +kernel
theorem dX8_init_13 : decode cX8_init 13 = .ok (.return_, 1) := by decide +kernel
theorem dX8_put_0 : decode cX8_put 0 = .ok (.bipush 24, 2) := by decide +kernel
theorem dX8_put_2 : decode cX8_put 2 = .ok (.istore_n 2, 1) := by decide +kernel
theorem dX8_put_3 : decode cX8_put 3 = .ok (.iload_n 2, 1) := by decide +kernel
theorem dX8_put_4 : decode cX8_put 4 = .ok (.ifCond .lt 44, 3) := by decide +kernel
theorem dX8_put_7 : decode cX8_put 7 = .ok (.aload_n 0, 1) := by decide +kernel
theorem dX8_put_8 : decode cX8_put 8 = .ok (.getfield 15, 3) := by decide +kernel
theorem dX8_put_11 : decode cX8_put 11 = .ok (.aload_n 0, 1) := by decide +kernel
theorem dX8_put_12 : decode cX8_put 12 = .ok (.getfield 9, 3) := by decide +kernel
theorem dX8_put_15 : decode cX8_put 15 = .ok (.arraylength, 1) := by decide +kernel
theorem dX8_put_16 : decode cX8_put 16 = .ok (.if_icmp .ge 26, 3) := by decide +kernel
theorem dX8_put_19 : decode cX8_put 19 = .ok (.aload_n 0, 1) := by decide +kernel
theorem dX8_put_20 : decode cX8_put 20 = .ok (.getfield 9, 3) := by decide +kernel
theorem dX8_put_23 : decode cX8_put 23 = .ok (.aload_n 0, 1) := by decide +kernel
theorem dX8_put_24 : decode cX8_put 24 = .ok (.getfield 15, 3) := by decide +kernel
theorem dX8_put_27 : decode cX8_put 27 = .ok (.iload_n 1, 1) := by decide +kernel
theorem dX8_put_28 : decode cX8_put 28 = .ok (.iload_n 2, 1) := by decide +kernel
theorem dX8_put_29 : decode cX8_put 29 = .ok (.ishr, 1) := by decide +kernel
theorem dX8_put_30 : decode cX8_put 30 = .ok (.i2b, 1) := by decide +kernel
theorem dX8_put_31 : decode cX8_put 31 = .ok (.bastore, 1) := by decide +kernel
theorem dX8_put_32 : decode cX8_put 32 = .ok (.aload_n 0, 1) := by decide +kernel
theorem dX8_put_33 : decode cX8_put 33 = .ok (.dup, 1) := by decide +kernel
theorem dX8_put_34 : decode cX8_put 34 = .ok (.getfield 15, 3) := by decide +kernel
theorem dX8_put_37 : decode cX8_put 37 = .ok (.iconst 1, 1) := by decide +kernel
theorem dX8_put_38 : decode cX8_put 38 = .ok (.iadd, 1) := by decide +kernel
theorem dX8_put_39 : decode cX8_put 39 = .ok (.putfield 15, 3) := by decide +kernel
theorem dX8_put_42 : decode cX8_put 42 = .ok (.iinc 2 (-8), 3) := by decide +kernel
theorem dX8_put_45 : decode cX8_put 45 = .ok (.goto (-42), 3) := by decide +kernel
theorem dX8_put_48 : decode cX8_put 48 = .ok (.return_, 1) := by decide +kernel
theorem dX8_rewind_0 : decode cX8_rewind 0 = .ok (.aload_n 0, 1) := by decide +kernel
theorem dX8_rewind_1 : decode cX8_rewind 1 = .ok (.iconst 0, 1) := by decide +kernel
theorem dX8_rewind_2 : decode cX8_rewind 2 = .ok (.putfield 19, 3) := by decide +kernel
theorem dX8_rewind_5 : decode cX8_rewind 5 = .ok (.aload_n 0, 1) := by decide +kernel
theorem dX8_rewind_6 : decode cX8_rewind 6 = .ok (.invokevirtual 22, 3) := by decide +kernel
theorem dX8_rewind_9 : decode cX8_rewind 9 = .ok (.return_, 1) := by decide +kernel
theorem dX8_advance_0 : decode cX8_advance 0 = .ok (.aload_n 0, 1) := by decide +kernel
theorem dX8_advance_1 : decode cX8_advance 1 = .ok (.aload_n 0, 1) := by decide +kernel
theorem dX8_advance_2 : decode cX8_advance 2 = .ok (.getfield 19, 3) := by decide +kernel
theorem dX8_advance_5 : decode cX8_advance 5 = .ok (.putfield 25, 3) := by decide +kernel
theorem dX8_advance_8 : decode cX8_advance 8 = .ok (.aload_n 0, 1) := by decide +kernel
theorem dX8_advance_9 : decode cX8_advance 9 = .ok (.getfield 25, 3) := by decide +kernel
theorem dX8_advance_12 : decode cX8_advance 12 = .ok (.aload_n 0, 1) := by decide +kernel
theorem dX8_advance_13 : decode cX8_advance 13 = .ok (.getfield 15, 3) := by decide +kernel
theorem dX8_advance_16 : decode cX8_advance 16 = .ok (.if_icmp .ge 44, 3) := by decide +kernel
theorem dX8_advance_19 : decode cX8_advance 19 = .ok (.aload_n 0, 1) := by decide +kernel
theorem dX8_advance_20 : decode cX8_advance 20 = .ok (.getfield 9, 3) := by decide +kernel
theorem dX8_advance_23 : decode cX8_advance 23 = .ok (.aload_n 0, 1) := by decide +kernel
theorem dX8_advance_24 : decode cX8_advance 24 = .ok (.getfield 25, 3) := by decide +kernel
theorem dX8_advance_27 : decode cX8_advance 27 = .ok (.baload, 1) := by decide +kernel
theorem dX8_advance_28 : decode cX8_advance 28 = .ok (.bipush 32, 2) := by decide +kernel
theorem dX8_advance_30 : decode cX8_advance 30 = .ok (.if_icmp .eq 17, 3) := by decide +kernel
theorem dX8_advance_33 : decode cX8_advance 33 = .ok (.aload_n 0, 1) := by decide +kernel
theorem dX8_advance_34 : decode cX8_advance 34 = .ok (.getfield 9, 3) := by decide +kernel
theorem dX8_advance_37 : decode cX8_advance 37 = .ok (.aload_n 0, 1) := by decide +kernel
theorem dX8_advance_38 : decode cX8_advance 38 = .ok (.getfield 25, 3) := by decide +kernel
theorem dX8_advance_41 : decode cX8_advance 41 = .ok (.baload, 1) := by decide +kernel
theorem dX8_advance_42 : decode cX8_advance 42 = .ok (.bipush 10, 2) := by decide +kernel
theorem dX8_advance_44 : decode cX8_advance 44 = .ok (.if_icmp .ne 16, 3) := by decide +kernel
theorem dX8_advance_47 : decode cX8_advance 47 = .ok (.aload_n 0, 1) := by decide +kernel
theorem dX8_advance_48 : decode cX8_advance 48 = .ok (.dup, 1) := by decide +kernel
theorem dX8_advance_49 : decode cX8_advance 49 = .ok (.getfield 25, 3) := by decide +kernel
theorem dX8_advance_52 : decode cX8_advance 52 = .ok (.iconst 1, 1) := by decide +kernel
theorem dX8_advance_53 : decode cX8_advance 53 = .ok (.iadd, 1) := by decide +kernel
theorem dX8_advance_54 : decode cX8_advance 54 = .ok (.putfield 25, 3) := by decide +kernel
theorem dX8_advance_57 : decode cX8_advance 57 = .ok (.goto (-49), 3) := by decide +kernel
theorem dX8_advance_60 : decode cX8_advance 60 = .ok (.aload_n 0, 1) := by decide +kernel
theorem dX8_advance_61 : decode cX8_advance 61 = .ok (.aload_n 0, 1) := by decide +kernel
theorem dX8_advance_62 : decode cX8_advance 62 = .ok (.getfield 25, 3) := by decide +kernel
theorem dX8_advance_65 : decode cX8_advance 65 = .ok (.putfield 19, 3) := by decide +kernel
theorem dX8_advance_68 : decode cX8_advance 68 = .ok (.aload_n 0, 1) := by decide +kernel
theorem dX8_advance_69 : decode cX8_advance 69 = .ok (.iconst 0, 1) := by decide +kernel
theorem dX8_advance_70 : decode cX8_advance 70 = .ok (.putfield 28, 3) := by decide +kernel
theorem dX8_advance_73 : decode cX8_advance 73 = .ok (.aload_n 0, 1) := by decide +kernel
theorem dX8_advance_74 : decode cX8_advance 74 = .ok (.getfield 19, 3) := by decide +kernel
theorem dX8_advance_77 : decode cX8_advance 77 = .ok (.aload_n 0, 1) := by decide +kernel
theorem dX8_advance_78 : decode cX8_advance 78 = .ok (.getfield 15, 3) := by decide +kernel
theorem dX8_advance_81 : decode cX8_advance 81 = .ok (.if_icmp .ge 44, 3) := by decide +kernel
theorem dX8_advance_84 : decode cX8_advance 84 = .ok (.aload_n 0, 1) := by decide +kernel
theorem dX8_advance_85 : decode cX8_advance 85 = .ok (.getfield 9, 3) := by decide +kernel
theorem dX8_advance_88 : decode cX8_advance 88 = .ok (.aload_n 0, 1) := by decide +kernel
theorem dX8_advance_89 : decode cX8_advance 89 = .ok (.getfield 19, 3) := by decide +kernel
theorem dX8_advance_92 : decode cX8_advance 92 = .ok (.baload, 1) := by decide +kernel
theorem dX8_advance_93 : decode cX8_advance 93 = .ok (.bipush 97, 2) := by decide +kernel
theorem dX8_advance_95 : decode cX8_advance 95 = .ok (.if_icmp .lt 30, 3) := by decide +kernel
theorem dX8_advance_98 : decode cX8_advance 98 = .ok (.aload_n 0, 1) := by decide +kernel
theorem dX8_advance_99 : decode cX8_advance 99 = .ok (.getfield 9, 3) := by decide +kernel
theorem dX8_advance_102 : decode cX8_advance 102 = .ok (.aload_n 0, 1) := by decide +kernel
theorem dX8_advance_103 : decode cX8_advance 103 = .ok (.getfield 19, 3) := by decide +kernel
theorem dX8_advance_106 : decode cX8_advance 106 = .ok (.baload, 1) := by decide +kernel
theorem dX8_advance_107 : decode cX8_advance 107 = .ok (.bipush 122, 2) := by decide +kernel
theorem dX8_advance_109 : decode cX8_advance 109 = .ok (.if_icmp .gt 16, 3) := by decide +kernel
theorem dX8_advance_112 : decode cX8_advance 112 = .ok (.aload_n 0, 1) := by decide +kernel
theorem dX8_advance_113 : decode cX8_advance 113 = .ok (.dup, 1) := by decide +kernel
theorem dX8_advance_114 : decode cX8_advance 114 = .ok (.getfield 19, 3) := by decide +kernel
theorem dX8_advance_117 : decode cX8_advance 117 = .ok (.iconst 1, 1) := by decide +kernel
theorem dX8_advance_118 : decode cX8_advance 118 = .ok (.iadd, 1) := by decide +kernel
theorem dX8_advance_119 : decode cX8_advance 119 = .ok (.putfield 19, 3) := by decide +kernel
theorem dX8_advance_122 : decode cX8_advance 122 = .ok (.goto (-49), 3) := by decide +kernel
theorem dX8_advance_125 : decode cX8_advance 125 = .ok (.aload_n 0, 1) := by decide +kernel
theorem dX8_advance_126 : decode cX8_advance 126 = .ok (.getfield 19, 3) := by decide +kernel
theorem dX8_advance_129 : decode cX8_advance 129 = .ok (.aload_n 0, 1) := by decide +kernel
theorem dX8_advance_130 : decode cX8_advance 130 = .ok (.getfield 25, 3) := by decide +kernel
theorem dX8_advance_133 : decode cX8_advance 133 = .ok (.if_icmp .le 9, 3) := by decide +kernel
theorem dX8_advance_136 : decode cX8_advance 136 = .ok (.aload_n 0, 1) := by decide +kernel
theorem dX8_advance_137 : decode cX8_advance 137 = .ok (.iconst 1, 1) := by decide +kernel
theorem dX8_advance_138 : decode cX8_advance 138 = .ok (.putfield 31, 3) := by decide +kernel
theorem dX8_advance_141 : decode cX8_advance 141 = .ok (.return_, 1) := by decide +kernel
theorem dX8_advance_142 : decode cX8_advance 142 = .ok (.aload_n 0, 1) := by decide +kernel
theorem dX8_advance_143 : decode cX8_advance 143 = .ok (.getfield 19, 3) := by decide +kernel
theorem dX8_advance_146 : decode cX8_advance 146 = .ok (.aload_n 0, 1) := by decide +kernel
theorem dX8_advance_147 : decode cX8_advance 147 = .ok (.getfield 15, 3) := by decide +kernel
theorem dX8_advance_150 : decode cX8_advance 150 = .ok (.if_icmp .ge 73, 3) := by decide +kernel
theorem dX8_advance_153 : decode cX8_advance 153 = .ok (.aload_n 0, 1) := by decide +kernel
theorem dX8_advance_154 : decode cX8_advance 154 = .ok (.getfield 9, 3) := by decide +kernel
theorem dX8_advance_157 : decode cX8_advance 157 = .ok (.aload_n 0, 1) := by decide +kernel
theorem dX8_advance_158 : decode cX8_advance 158 = .ok (.getfield 19, 3) := by decide +kernel
theorem dX8_advance_161 : decode cX8_advance 161 = .ok (.baload, 1) := by decide +kernel
theorem dX8_advance_162 : decode cX8_advance 162 = .ok (.bipush 48, 2) := by decide +kernel
theorem dX8_advance_164 : decode cX8_advance 164 = .ok (.if_icmp .lt 59, 3) := by decide +kernel
theorem dX8_advance_167 : decode cX8_advance 167 = .ok (.aload_n 0, 1) := by decide +kernel
theorem dX8_advance_168 : decode cX8_advance 168 = .ok (.getfield 9, 3) := by decide +kernel
theorem dX8_advance_171 : decode cX8_advance 171 = .ok (.aload_n 0, 1) := by decide +kernel
theorem dX8_advance_172 : decode cX8_advance 172 = .ok (.getfield 19, 3) := by decide +kernel
theorem dX8_advance_175 : decode cX8_advance 175 = .ok (.baload, 1) := by decide +kernel
theorem dX8_advance_176 : decode cX8_advance 176 = .ok (.bipush 57, 2) := by decide +kernel
theorem dX8_advance_178 : decode cX8_advance 178 = .ok (.if_icmp .gt 45, 3) := by decide +kernel
theorem dX8_advance_181 : decode cX8_advance 181 = .ok (.aload_n 0, 1) := by decide +kernel
theorem dX8_advance_182 : decode cX8_advance 182 = .ok (.ldc 34, 2) := by decide +kernel
theorem dX8_advance_184 : decode cX8_advance 184 = .ok (.aload_n 0, 1) := by decide +kernel
theorem dX8_advance_185 : decode cX8_advance 185 = .ok (.getfield 28, 3) := by decide +kernel
theorem dX8_advance_188 : decode cX8_advance 188 = .ok (.bipush 10, 2) := by decide +kernel
theorem dX8_advance_190 : decode cX8_advance 190 = .ok (.imul, 1) := by decide +kernel
theorem dX8_advance_191 : decode cX8_advance 191 = .ok (.aload_n 0, 1) := by decide +kernel
theorem dX8_advance_192 : decode cX8_advance 192 = .ok (.getfield 9, 3) := by decide +kernel
theorem dX8_advance_195 : decode cX8_advance 195 = .ok (.aload_n 0, 1) := by decide +kernel
theorem dX8_advance_196 : decode cX8_advance 196 = .ok (.getfield 19, 3) := by decide +kernel
theorem dX8_advance_199 : decode cX8_advance 199 = .ok (.baload, 1) := by decide +kernel
theorem dX8_advance_200 : decode cX8_advance 200 = .ok (.iadd, 1) := by decide +kernel
theorem dX8_advance_201 : decode cX8_advance 201 = .ok (.bipush 48, 2) := by decide +kernel
theorem dX8_advance_203 : decode cX8_advance 203 = .ok (.isub, 1) := by decide +kernel
theorem dX8_advance_204 : decode cX8_advance 204 = .ok (.invokestatic 35, 3) := by decide +kernel
theorem dX8_advance_207 : decode cX8_advance 207 = .ok (.putfield 28, 3) := by decide +kernel
theorem dX8_advance_210 : decode cX8_advance 210 = .ok (.aload_n 0, 1) := by decide +kernel
theorem dX8_advance_211 : decode cX8_advance 211 = .ok (.dup, 1) := by decide +kernel
theorem dX8_advance_212 : decode cX8_advance 212 = .ok (.getfield 19, 3) := by decide +kernel
theorem dX8_advance_215 : decode cX8_advance 215 = .ok (.iconst 1, 1) := by decide +kernel
theorem dX8_advance_216 : decode cX8_advance 216 = .ok (.iadd, 1) := by decide +kernel
theorem dX8_advance_217 : decode cX8_advance 217 = .ok (.putfield 19, 3) := by decide +kernel
theorem dX8_advance_220 : decode cX8_advance 220 = .ok (.goto (-78), 3) := by decide +kernel
theorem dX8_advance_223 : decode cX8_advance 223 = .ok (.aload_n 0, 1) := by decide +kernel
theorem dX8_advance_224 : decode cX8_advance 224 = .ok (.getfield 19, 3) := by decide +kernel
theorem dX8_advance_227 : decode cX8_advance 227 = .ok (.aload_n 0, 1) := by decide +kernel
theorem dX8_advance_228 : decode cX8_advance 228 = .ok (.getfield 25, 3) := by decide +kernel
theorem dX8_advance_231 : decode cX8_advance 231 = .ok (.if_icmp .le 9, 3) := by decide +kernel
theorem dX8_advance_234 : decode cX8_advance 234 = .ok (.aload_n 0, 1) := by decide +kernel
theorem dX8_advance_235 : decode cX8_advance 235 = .ok (.iconst 2, 1) := by decide +kernel
theorem dX8_advance_236 : decode cX8_advance 236 = .ok (.putfield 31, 3) := by decide +kernel
theorem dX8_advance_239 : decode cX8_advance 239 = .ok (.return_, 1) := by decide +kernel
theorem dX8_advance_240 : decode cX8_advance 240 = .ok (.aload_n 0, 1) := by decide +kernel
theorem dX8_advance_241 : decode cX8_advance 241 = .ok (.getfield 25, 3) := by decide +kernel
theorem dX8_advance_244 : decode cX8_advance 244 = .ok (.aload_n 0, 1) := by decide +kernel
theorem dX8_advance_245 : decode cX8_advance 245 = .ok (.getfield 15, 3) := by decide +kernel
theorem dX8_advance_248 : decode cX8_advance 248 = .ok (.if_icmp .lt 9, 3) := by decide +kernel
theorem dX8_advance_251 : decode cX8_advance 251 = .ok (.aload_n 0, 1) := by decide +kernel
theorem dX8_advance_252 : decode cX8_advance 252 = .ok (.iconst 0, 1) := by decide +kernel
theorem dX8_advance_253 : decode cX8_advance 253 = .ok (.putfield 31, 3) := by decide +kernel
theorem dX8_advance_256 : decode cX8_advance 256 = .ok (.return_, 1) := by decide +kernel
theorem dX8_advance_257 : decode cX8_advance 257 = .ok (.aload_n 0, 1) := by decide +kernel
theorem dX8_advance_258 : decode cX8_advance 258 = .ok (.aload_n 0, 1) := by decide +kernel
theorem dX8_advance_259 : decode cX8_advance 259 = .ok (.getfield 9, 3) := by decide +kernel
theorem dX8_advance_262 : decode cX8_advance 262 = .ok (.aload_n 0, 1) := by decide +kernel
theorem dX8_advance_263 : decode cX8_advance 263 = .ok (.getfield 25, 3) := by decide +kernel
theorem dX8_advance_266 : decode cX8_advance 266 = .ok (.baload, 1) := by decide +kernel
theorem dX8_advance_267 : decode cX8_advance 267 = .ok (.bipush 59, 2) := by decide +kernel
theorem dX8_advance_269 : decode cX8_advance 269 = .ok (.if_icmp .ne 7, 3) := by decide +kernel
theorem dX8_advance_272 : decode cX8_advance 272 = .ok (.iconst 3, 1) := by decide +kernel
theorem dX8_advance_273 : decode cX8_advance 273 = .ok (.goto 4, 3) := by decide +kernel
theorem dX8_advance_276 : decode cX8_advance 276 = .ok (.iconst 4, 1) := by decide +kernel
theorem dX8_advance_277 : decode cX8_advance 277 = .ok (.putfield 31, 3) := by decide +kernel
theorem dX8_advance_280 : decode cX8_advance 280 = .ok (.aload_n 0, 1) := by decide +kernel
theorem dX8_advance_281 : decode cX8_advance 281 = .ok (.aload_n 0, 1) := by decide +kernel
theorem dX8_advance_282 : decode cX8_advance 282 = .ok (.getfield 25, 3) := by decide +kernel
theorem dX8_advance_285 : decode cX8_advance 285 = .ok (.iconst 1, 1) := by decide +kernel
theorem dX8_advance_286 : decode cX8_advance 286 = .ok (.iadd, 1) := by decide +kernel
theorem dX8_advance_287 : decode cX8_advance 287 = .ok (.putfield 19, 3) := by decide +kernel
theorem dX8_advance_290 : decode cX8_advance 290 = .ok (.return_, 1) := by decide +kernel
theorem dX8_isWord_0 : decode cX8_isWord 0 = .ok (.aload_n 0, 1) := by decide +kernel
theorem dX8_isWord_1 : decode cX8_isWord 1 = .ok (.getfield 31, 3) := by decide +kernel
theorem dX8_isWord_4 : decode cX8_isWord 4 = .ok (.iconst 1, 1) := by decide +kernel
theorem dX8_isWord_5 : decode cX8_isWord 5 = .ok (.if_icmp .ne 19, 3) := by decide +kernel
theorem dX8_isWord_8 : decode cX8_isWord 8 = .ok (.aload_n 0, 1) := by decide +kernel
theorem dX8_isWord_9 : decode cX8_isWord 9 = .ok (.getfield 19, 3) := by decide +kernel
theorem dX8_isWord_12 : decode cX8_isWord 12 = .ok (.aload_n 0, 1) := by decide +kernel
theorem dX8_isWord_13 : decode cX8_isWord 13 = .ok (.getfield 25, 3) := by decide +kernel
theorem dX8_isWord_16 : decode cX8_isWord 16 = .ok (.isub, 1) := by decide +kernel
theorem dX8_isWord_17 : decode cX8_isWord 17 = .ok (.aload_n 1, 1) := by decide +kernel
theorem dX8_isWord_18 : decode cX8_isWord 18 = .ok (.invokevirtual 41, 3) := by decide +kernel
theorem dX8_isWord_21 : decode cX8_isWord 21 = .ok (.if_icmp .eq 5, 3) := by decide +kernel
theorem dX8_isWord_24 : decode cX8_isWord 24 = .ok (.iconst 0, 1) := by decide +kernel
theorem dX8_isWord_25 : decode cX8_isWord 25 = .ok (.ireturn, 1) := by decide +kernel
theorem dX8_isWord_26 : decode cX8_isWord 26 = .ok (.iconst 0, 1) := by decide +kernel
theorem dX8_isWord_27 : decode cX8_isWord 27 = .ok (.istore_n 2, 1) := by decide +kernel
theorem dX8_isWord_28 : decode cX8_isWord 28 = .ok (.iload_n 2, 1) := by decide +kernel
theorem dX8_isWord_29 : decode cX8_isWord 29 = .ok (.aload_n 1, 1) := by decide +kernel
theorem dX8_isWord_30 : decode cX8_isWord 30 = .ok (.invokevirtual 41, 3) := by decide +kernel
theorem dX8_isWord_33 : decode cX8_isWord 33 = .ok (.if_icmp .ge 43, 3) := by decide +kernel
theorem dX8_isWord_36 : decode cX8_isWord 36 = .ok (.aload_n 0, 1) := by decide +kernel
theorem dX8_isWord_37 : decode cX8_isWord 37 = .ok (.getfield 25, 3) := by decide +kernel
theorem dX8_isWord_40 : decode cX8_isWord 40 = .ok (.iload_n 2, 1) := by decide +kernel
theorem dX8_isWord_41 : decode cX8_isWord 41 = .ok (.iadd, 1) := by decide +kernel
theorem dX8_isWord_42 : decode cX8_isWord 42 = .ok (.aload_n 0, 1) := by decide +kernel
theorem dX8_isWord_43 : decode cX8_isWord 43 = .ok (.getfield 15, 3) := by decide +kernel
theorem dX8_isWord_46 : decode cX8_isWord 46 = .ok (.if_icmp .ge 30, 3) := by decide +kernel
theorem dX8_isWord_49 : decode cX8_isWord 49 = .ok (.aload_n 0, 1) := by decide +kernel
theorem dX8_isWord_50 : decode cX8_isWord 50 = .ok (.getfield 9, 3) := by decide +kernel
theorem dX8_isWord_53 : decode cX8_isWord 53 = .ok (.aload_n 0, 1) := by decide +kernel
theorem dX8_isWord_54 : decode cX8_isWord 54 = .ok (.getfield 25, 3) := by decide +kernel
theorem dX8_isWord_57 : decode cX8_isWord 57 = .ok (.iload_n 2, 1) := by decide +kernel
theorem dX8_isWord_58 : decode cX8_isWord 58 = .ok (.iadd, 1) := by decide +kernel
theorem dX8_isWord_59 : decode cX8_isWord 59 = .ok (.baload, 1) := by decide +kernel
theorem dX8_isWord_60 : decode cX8_isWord 60 = .ok (.aload_n 1, 1) := by decide +kernel
theorem dX8_isWord_61 : decode cX8_isWord 61 = .ok (.iload_n 2, 1) := by decide +kernel
theorem dX8_isWord_62 : decode cX8_isWord 62 = .ok (.invokevirtual 46, 3) := by decide +kernel
theorem dX8_isWord_65 : decode cX8_isWord 65 = .ok (.if_icmp .eq 5, 3) := by decide +kernel
theorem dX8_isWord_68 : decode cX8_isWord 68 = .ok (.iconst 0, 1) := by decide +kernel
theorem dX8_isWord_69 : decode cX8_isWord 69 = .ok (.ireturn, 1) := by decide +kernel
theorem dX8_isWord_70 : decode cX8_isWord 70 = .ok (.iinc 2 1, 3) := by decide +kernel
theorem dX8_isWord_73 : decode cX8_isWord 73 = .ok (.goto (-45), 3) := by decide +kernel
theorem dX8_isWord_76 : decode cX8_isWord 76 = .ok (.iconst 1, 1) := by decide +kernel
theorem dX8_isWord_77 : decode cX8_isWord 77 = .ok (.ireturn, 1) := by decide +kernel
theorem dX9_init_0 : decode cX9_init 0 = .ok (.aload_n 0, 1) := by decide +kernel
theorem dX9_init_1 : decode cX9_init 1 = .ok (.invokespecial 3, 3) := by decide +kernel
theorem dX9_init_4 : decode cX9_init 4 = .ok (.aload_n 0, 1) := by decide +kernel
theorem dX9_init_5 : decode cX9_init 5 = .ok (.bipush 6, 2) := by decide +kernel
theorem dX9_init_7 : decode cX9_init 7 = .ok (.bipush 6, 2) := by decide +kernel
theorem dX9_init_9 : decode cX9_init 9 = .ok (.multianewarray 9 2, 4) := by decide +kernel
theorem dX9_init_13 : decode cX9_init 13 = .ok (.putfield 11, 3) := by decide +kernel
theorem dX9_init_16 : decode cX9_init 16 = .ok (.aload_n 0, 1) := by decide +kernel
theorem dX9_init_17 : decode cX9_init 17 = .ok (.bipush 8, 2) := by decide +kernel
theorem dX9_init_19 : decode cX9_init 19 = .ok (.sipush 400, 3) := by decide +kernel
theorem dX9_init_22 : decode cX9_init 22 = .ok (.multianewarray 9 2, 4) := by decide +kernel
theorem dX9_init_26 : decode cX9_init 26 = .ok (.putfield 16, 3) := by decide +kernel
theorem dX9_init_29 : decode cX9_init 29 = .ok (.return_, 1) := by decide +kernel
theorem dX9_drawUp_0 : decode cX9_drawUp 0 = .ok (.aload_n 0, 1) := by decide +kernel
theorem dX9_drawUp_1 : decode cX9_drawUp 1 = .ok (.aload_n 1, 1) := by decide +kernel
theorem dX9_drawUp_2 : decode cX9_drawUp 2 = .ok (.invokevirtual 19, 3) := by decide +kernel
theorem dX9_drawUp_5 : decode cX9_drawUp 5 = .ok (.aload_n 0, 1) := by decide +kernel
theorem dX9_drawUp_6 : decode cX9_drawUp 6 = .ok (.aload_n 1, 1) := by decide +kernel
theorem dX9_drawUp_7 : decode cX9_drawUp 7 = .ok (.getfield 23, 3) := by decide +kernel
theorem dX9_drawUp_10 : decode cX9_drawUp 10 = .ok (.invokevirtual 29, 3) := by decide +kernel
theorem dX9_drawUp_13 : decode cX9_drawUp 13 = .ok (.iconst 0, 1) := by decide +kernel
theorem dX9_drawUp_14 : decode cX9_drawUp 14 = .ok (.istore_n 2, 1) := by decide +kernel
theorem dX9_drawUp_15 : decode cX9_drawUp 15 = .ok (.iload_n 2, 1) := by decide +kernel
theorem dX9_drawUp_16 : decode cX9_drawUp 16 = .ok (.aload_n 1, 1) := by decide +kernel
theorem dX9_drawUp_17 : decode cX9_drawUp 17 = .ok (.getfield 33, 3) := by decide +kernel
theorem dX9_drawUp_20 : decode cX9_drawUp 20 = .ok (.if_icmp .ge 50, 3) := by decide +kernel
theorem dX9_drawUp_23 : decode cX9_drawUp 23 = .ok (.iconst (-1), 1) := by decide +kernel
theorem dX9_drawUp_24 : decode cX9_drawUp 24 = .ok (.istore_n 3, 1) := by decide +kernel
theorem dX9_drawUp_25 : decode cX9_drawUp 25 = .ok (.sipush 399, 3) := by decide +kernel
theorem dX9_drawUp_28 : decode cX9_drawUp 28 = .ok (.istore 4, 2) := by decide +kernel
theorem dX9_drawUp_30 : decode cX9_drawUp 30 = .ok (.iload 4, 2) := by decide +kernel
theorem dX9_drawUp_32 : decode cX9_drawUp 32 = .ok (.ifCond .lt 32, 3) := by decide +kernel
theorem dX9_drawUp_35 : decode cX9_drawUp 35 = .ok (.aload_n 1, 1) := by decide +kernel
theorem dX9_drawUp_36 : decode cX9_drawUp 36 = .ok (.iload_n 2, 1) := by decide +kernel
theorem dX9_drawUp_37 : decode cX9_drawUp 37 = .ok (.iload 4, 2) := by decide +kernel
theorem dX9_drawUp_39 : decode cX9_drawUp 39 = .ok (.invokevirtual 36, 3) := by decide +kernel
theorem dX9_drawUp_42 : decode cX9_drawUp 42 = .ok (.ifCond .eq 6, 3) := by decide +kernel
theorem dX9_drawUp_45 : decode cX9_drawUp 45 = .ok (.iload 4, 2) := by decide +kernel
theorem dX9_drawUp_47 : decode cX9_drawUp 47 = .ok (.istore_n 3, 1) := by decide +kernel
theorem dX9_drawUp_48 : decode cX9_drawUp 48 = .ok (.aload_n 0, 1) := by decide +kernel
theorem dX9_drawUp_49 : decode cX9_drawUp 49 = .ok (.getfield 16, 3) := by decide +kernel
theorem dX9_drawUp_52 : decode cX9_drawUp 52 = .ok (.iload_n 2, 1) := by decide +kernel
theorem dX9_drawUp_53 : decode cX9_drawUp 53 = .ok (.aaload, 1) := by decide +kernel
theorem dX9_drawUp_54 : decode cX9_drawUp 54 = .ok (.iload 4, 2) := by decide +kernel
theorem dX9_drawUp_56 : decode cX9_drawUp 56 = .ok (.iload_n 3, 1) := by decide +kernel
theorem dX9_drawUp_57 : decode cX9_drawUp 57 = .ok (.iastore, 1) := by decide +kernel
theorem dX9_drawUp_58 : decode cX9_drawUp 58 = .ok (.iinc 4 (-1), 3) := by decide +kernel
theorem dX9_drawUp_61 : decode cX9_drawUp 61 = .ok (.goto (-31), 3) := by decide +kernel
theorem dX9_drawUp_64 : decode cX9_drawUp 64 = .ok (.iinc 2 1, 3) := by decide +kernel
theorem dX9_drawUp_67 : decode cX9_drawUp 67 = .ok (.goto (-52), 3) := by decide +kernel
theorem dX9_drawUp_70 : decode cX9_drawUp 70 = .ok (.return_, 1) := by decide +kernel
theorem dX9_layWays_0 : decode cX9_layWays 0 = .ok (.iconst 0, 1) := by decide +kernel
theorem dX9_layWays_1 : decode cX9_layWays 1 = .ok (.istore_n 2, 1) := by decide +kernel
theorem dX9_layWays_2 : decode cX9_layWays 2 = .ok (.iload_n 2, 1) := by decide +kernel
theorem dX9_layWays_3 : decode cX9_layWays 3 = .ok (.aload_n 1, 1) := by decide +kernel
theorem dX9_layWays_4 : decode cX9_layWays 4 = .ok (.getfield 23, 3) := by decide +kernel
theorem dX9_layWays_7 : decode cX9_layWays 7 = .ok (.if_icmp .ge 65, 3) := by decide +kernel
theorem dX9_layWays_10 : decode cX9_layWays 10 = .ok (.iconst 0, 1) := by decide +kernel
theorem dX9_layWays_11 : decode cX9_layWays 11 = .ok (.istore_n 3, 1) := by decide +kernel
theorem dX9_layWays_12 : decode cX9_layWays 12 = .ok (.iload_n 3, 1) := by decide +kernel
theorem dX9_layWays_13 : decode cX9_layWays 13 = .ok (.aload_n 1, 1) := by decide +kernel
theorem dX9_layWays_14 : decode cX9_layWays 14 = .ok (.getfield 23, 3) := by decide +kernel
theorem dX9_layWays_17 : decode cX9_layWays 17 = .ok (.if_icmp .ge 40, 3) := by decide +kernel
theorem dX9_layWays_20 : decode cX9_layWays 20 = .ok (.aload_n 0, 1) := by decide +kernel
theorem dX9_layWays_21 : decode cX9_layWays 21 = .ok (.getfield 11, 3) := by decide +kernel
theorem dX9_layWays_24 : decode cX9_layWays 24 = .ok (.iload_n 2, 1) := by decide +kernel
theorem dX9_layWays_25 : decode cX9_layWays 25 = .ok (.aaload, 1) := by decide +kernel
theorem dX9_layWays_26 : decode cX9_layWays 26 = .ok (.iload_n 3, 1) := by decide +kernel
theorem dX9_layWays_27 : decode cX9_layWays 27 = .ok (.aload_n 1, 1) := by decide +kernel
theorem dX9_layWays_28 : decode cX9_layWays 28 = .ok (.getfield 40, 3) := by decide +kernel
theorem dX9_layWays_31 : decode cX9_layWays 31 = .ok (.iload_n 2, 1) := by decide +kernel
theorem dX9_layWays_32 : decode cX9_layWays 32 = .ok (.aaload, 1) := by decide +kernel
theorem dX9_layWays_33 : decode cX9_layWays 33 = .ok (.iload_n 3, 1) := by decide +kernel
theorem dX9_layWays_34 : decode cX9_layWays 34 = .ok (.iaload, 1) := by decide +kernel
theorem dX9_layWays_35 : decode cX9_layWays 35 = .ok (.ifCond .le 14, 3) := by decide +kernel
theorem dX9_layWays_38 : decode cX9_layWays 38 = .ok (.aload_n 1, 1) := by decide +kernel
theorem dX9_layWays_39 : decode cX9_layWays 39 = .ok (.getfield 40, 3) := by decide +kernel
theorem dX9_layWays_42 : decode cX9_layWays 42 = .ok (.iload_n 2, 1) := by decide +kernel
theorem dX9_layWays_43 : decode cX9_layWays 43 = .ok (.aaload, 1) := by decide +kernel
theorem dX9_layWays_44 : decode cX9_layWays 44 = .ok (.iload_n 3, 1) := by decide +kernel
theorem dX9_layWays_45 : decode cX9_layWays 45 = .ok (.iaload, 1) := by decide +kernel
theorem dX9_layWays_46 : decode cX9_layWays 46 = .ok (.goto 4, 3) := by decide +kernel
theorem dX9_layWays_49 : decode cX9_layWays 49 = .ok (.iconst (-1), 1) := by decide +kernel
theorem dX9_layWays_50 : decode cX9_layWays 50 = .ok (.iastore, 1) := by decide +kernel
theorem dX9_layWays_51 : decode cX9_layWays 51 = .ok (.iinc 3 1, 3) := by decide +kernel
theorem dX9_layWays_54 : decode cX9_layWays 54 = .ok (.goto (-42), 3) := by decide +kernel
theorem dX9_layWays_57 : decode cX9_layWays 57 = .ok (.aload_n 0, 1) := by decide +kernel
theorem dX9_layWays_58 : decode cX9_layWays 58 = .ok (.getfield 11, 3) := by decide +kernel
theorem dX9_layWays_61 : decode cX9_layWays 61 = .ok (.iload_n 2, 1) := by decide +kernel
theorem dX9_layWays_62 : decode cX9_layWays 62 = .ok (.aaload, 1) := by decide +kernel
theorem dX9_layWays_63 : decode cX9_layWays 63 = .ok (.iload_n 2, 1) := by decide +kernel
theorem dX9_layWays_64 : decode cX9_layWays 64 = .ok (.iconst 0, 1) := by decide +kernel
theorem dX9_layWays_65 : decode cX9_layWays 65 = .ok (.iastore, 1) := by decide +kernel
theorem dX9_layWays_66 : decode cX9_layWays 66 = .ok (.iinc 2 1, 3) := by decide +kernel
theorem dX9_layWays_69 : decode cX9_layWays 69 = .ok (.goto (-67), 3) := by decide +kernel
theorem dX9_layWays_72 : decode cX9_layWays 72 = .ok (.return_, 1) := by decide +kernel
theorem dX9_shortenWalks_0 : decode cX9_shortenWalks 0 = .ok (.iconst 0, 1) := by decide +kernel
theorem dX9_shortenWalks_1 : decode cX9_shortenWalks 1 = .ok (.istore_n 2, 1) := by decide +kernel
theorem dX9_shortenWalks_2 : decode cX9_shortenWalks 2 = .ok (.iload_n 2, 1) := by decide +kernel
theorem dX9_shortenWalks_3 : decode cX9_shortenWalks 3 = .ok (.iload_n 1, 1) := by decide +kernel
theorem dX9_shortenWalks_4 : decode cX9_shortenWalks 4 = .ok (.if_icmp .ge 45, 3) := by decide +kernel
theorem dX9_shortenWalks_7 : decode cX9_shortenWalks 7 = .ok (.iconst 0, 1) := by decide +kernel
theorem dX9_shortenWalks_8 : decode cX9_shortenWalks 8 = .ok (.istore_n 3, 1) := by decide +kernel
theorem dX9_shortenWalks_9 : decode cX9_shortenWalks 9 = .ok (.iload_n 3, 1) := by decide +kernel
theorem dX9_shortenWalks_10 : decode cX9_shortenWalks 10 = .ok (.iload_n 1, 1) := by decide +kernel
theorem dX9_shortenWalks_11 : decode cX9_shortenWalks 11 = .ok (.if_icmp .ge 32, 3) := by decide +kernel
theorem dX9_shortenWalks_14 : decode cX9_shortenWalks 14 = .ok (.iconst 0, 1) := by decide +kernel
theorem dX9_shortenWalks_15 : decode cX9_shortenWalks 15 = .ok (.istore 4, 2) := by decide +kernel
theorem dX9_shortenWalks_17 : decode cX9_shortenWalks 17 = .ok (.iload 4, 2) := by decide +kernel
theorem dX9_shortenWalks_19 : decode cX9_shortenWalks 19 = .ok (.iload_n 1, 1) := by decide +kernel
theorem dX9_shortenWalks_20 : decode cX9_shortenWalks 20 = .ok (.if_icmp .ge 17, 3) := by decide +kernel
theorem dX9_shortenWalks_23 : decode cX9_shortenWalks 23 = .ok (.aload_n 0, 1) := by decide +kernel
theorem dX9_shortenWalks_24 : decode cX9_shortenWalks 24 = .ok (.iload_n 3, 1) := by decide +kernel
theorem dX9_shortenWalks_25 : decode cX9_shortenWalks 25 = .ok (.iload_n 2, 1) := by decide +kernel
theorem dX9_shortenWalks_26 : decode cX9_shortenWalks 26 = .ok (.iload 4, 2) := by decide +kernel
theorem dX9_shortenWalks_28 : decode cX9_shortenWalks 28 = .ok (.invokevirtual 43, 3) := by decide +kernel
theorem dX9_shortenWalks_31 : decode cX9_shortenWalks 31 = .ok (.iinc 4 1, 3) := by decide +kernel
theorem dX9_shortenWalks_34 : decode cX9_shortenWalks 34 = .ok (.goto (-17), 3) := by decide +kernel
theorem dX9_shortenWalks_37 : decode cX9_shortenWalks 37 = .ok (.iinc 3 1, 3) := by decide +kernel
theorem dX9_shortenWalks_40 : decode cX9_shortenWalks 40 = .ok (.goto (-31), 3) := by decide +kernel
theorem dX9_shortenWalks_43 : decode cX9_shortenWalks 43 = .ok (.iinc 2 1, 3) := by decide +kernel
theorem dX9_shortenWalks_46 : decode cX9_shortenWalks 46 = .ok (.goto (-44), 3) := by decide +kernel
theorem dX9_shortenWalks_49 : decode cX9_shortenWalks 49 = .ok (.return_, 1) := by decide +kernel
theorem dX9_shorten_0 : decode cX9_shorten 0 = .ok (.aload_n 0, 1) := by decide +kernel
theorem dX9_shorten_1 : decode cX9_shorten 1 = .ok (.getfield 11, 3) := by decide +kernel
theorem dX9_shorten_4 : decode cX9_shorten 4 = .ok (.iload_n 1, 1) := by decide +kernel
theorem dX9_shorten_5 : decode cX9_shorten 5 = .ok (.aaload, 1) := by decide +kernel
theorem dX9_shorten_6 : decode cX9_shorten 6 = .ok (.iload_n 2, 1) := by decide +kernel
theorem dX9_shorten_7 : decode cX9_shorten 7 = .ok (.iaload, 1) := by decide +kernel
theorem dX9_shorten_8 : decode cX9_shorten 8 = .ok (.iconst (-1), 1) := by decide +kernel
theorem dX9_shorten_9 : decode cX9_shorten 9 = .ok (.if_icmp .eq 15, 3) := by decide +kernel
theorem dX9_shorten_12 : decode cX9_shorten 12 = .ok (.aload_n 0, 1) := by decide +kernel
theorem dX9_shorten_13 : decode cX9_shorten 13 = .ok (.getfield 11, 3) := by decide +kernel
theorem dX9_shorten_16 : decode cX9_shorten 16 = .ok (.iload_n 2, 1) := by decide +kernel
theorem dX9_shorten_17 : decode cX9_shorten 17 = .ok (.aaload, 1) := by decide +kernel
theorem dX9_shorten_18 : decode cX9_shorten 18 = .ok (.iload_n 3, 1) := by decide +kernel
theorem dX9_shorten_19 : decode cX9_shorten 19 = .ok (.iaload, 1) := by decide +kernel
theorem dX9_shorten_20 : decode cX9_shorten 20 = .ok (.iconst (-1), 1) := by decide +kernel
theorem dX9_shorten_21 : decode cX9_shorten 21 = .ok (.if_icmp .ne 4, 3) := by decide +kernel
theorem dX9_shorten_24 : decode cX9_shorten 24 = .ok (.return_, 1) := by decide +kernel
theorem dX9_shorten_25 : decode cX9_shorten 25 = .ok (.aload_n 0, 1) := by decide +kernel
theorem dX9_shorten_26 : decode cX9_shorten 26 = .ok (.getfield 11, 3) := by decide +kernel
theorem dX9_shorten_29 : decode cX9_shorten 29 = .ok (.iload_n 1, 1) := by decide +kernel
theorem dX9_shorten_30 : decode cX9_shorten 30 = .ok (.aaload, 1) := by decide +kernel
theorem dX9_shorten_31 : decode cX9_shorten 31 = .ok (.iload_n 2, 1) := by decide +kernel
theorem dX9_shorten_32 : decode cX9_shorten 32 = .ok (.iaload, 1) := by decide +kernel
theorem dX9_shorten_33 : decode cX9_shorten 33 = .ok (.aload_n 0, 1) := by decide +kernel
theorem dX9_shorten_34 : decode cX9_shorten 34 = .ok (.getfield 11, 3) := by decide +kernel
theorem dX9_shorten_37 : decode cX9_shorten 37 = .ok (.iload_n 2, 1) := by decide +kernel
theorem dX9_shorten_38 : decode cX9_shorten 38 = .ok (.aaload, 1) := by decide +kernel
theorem dX9_shorten_39 : decode cX9_shorten 39 = .ok (.iload_n 3, 1) := by decide +kernel
theorem dX9_shorten_40 : decode cX9_shorten 40 = .ok (.iaload, 1) := by decide +kernel
theorem dX9_shorten_41 : decode cX9_shorten 41 = .ok (.iadd, 1) := by decide +kernel
theorem dX9_shorten_42 : decode cX9_shorten 42 = .ok (.istore 4, 2) := by decide +kernel
theorem dX9_shorten_44 : decode cX9_shorten 44 = .ok (.aload_n 0, 1) := by decide +kernel
theorem dX9_shorten_45 : decode cX9_shorten 45 = .ok (.getfield 11, 3) := by decide +kernel
theorem dX9_shorten_48 : decode cX9_shorten 48 = .ok (.iload_n 1, 1) := by decide +kernel
theorem dX9_shorten_49 : decode cX9_shorten 49 = .ok (.aaload, 1) := by decide +kernel
theorem dX9_shorten_50 : decode cX9_shorten 50 = .ok (.iload_n 3, 1) := by decide +kernel
theorem dX9_shorten_51 : decode cX9_shorten 51 = .ok (.iaload, 1) := by decide +kernel
theorem dX9_shorten_52 : decode cX9_shorten 52 = .ok (.iconst (-1), 1) := by decide +kernel
theorem dX9_shorten_53 : decode cX9_shorten 53 = .ok (.if_icmp .eq 16, 3) := by decide +kernel
theorem dX9_shorten_56 : decode cX9_shorten 56 = .ok (.aload_n 0, 1) := by decide +kernel
theorem dX9_shorten_57 : decode cX9_shorten 57 = .ok (.getfield 11, 3) := by decide +kernel
theorem dX9_shorten_60 : decode cX9_shorten 60 = .ok (.iload_n 1, 1) := by decide +kernel
theorem dX9_shorten_61 : decode cX9_shorten 61 = .ok (.aaload, 1) := by decide +kernel
theorem dX9_shorten_62 : decode cX9_shorten 62 = .ok (.iload_n 3, 1) := by decide +kernel
theorem dX9_shorten_63 : decode cX9_shorten 63 = .ok (.iaload, 1) := by decide +kernel
theorem dX9_shorten_64 : decode cX9_shorten 64 = .ok (.iload 4, 2) := by decide +kernel
theorem dX9_shorten_66 : decode cX9_shorten 66 = .ok (.if_icmp .le 13, 3) := by decide +kernel
theorem dX9_shorten_69 : decode cX9_shorten 69 = .ok (.aload_n 0, 1) := by decide +kernel
theorem dX9_shorten_70 : decode cX9_shorten 70 = .ok (.getfield 11, 3) := by decide +kernel
theorem dX9_shorten_73 : decode cX9_shorten 73 = .ok (.iload_n 1, 1) := by decide +kernel
theorem dX9_shorten_74 : decode cX9_shorten 74 = .ok (.aaload, 1) := by decide +kernel
theorem dX9_shorten_75 : decode cX9_shorten 75 = .ok (.iload_n 3, 1) := by decide +kernel
theorem dX9_shorten_76 : decode cX9_shorten 76 = .ok (.iload 4, 2) := by decide +kernel
theorem dX9_shorten_78 : decode cX9_shorten 78 = .ok (.iastore, 1) := by decide +kernel
theorem dX9_shorten_79 : decode cX9_shorten 79 = .ok (.return_, 1) := by decide +kernel
theorem dX9_hoursBetween_0 : decode cX9_hoursBetween 0 = .ok (.iload_n 1, 1) := by decide +kernel
theorem dX9_hoursBetween_1 : decode cX9_hoursBetween 1 = .ok (.ifCond .lt 19, 3) := by decide +kernel
theorem dX9_hoursBetween_4 : decode cX9_hoursBetween 4 = .ok (.iload_n 1, 1) := by decide +kernel
theorem dX9_hoursBetween_5 : decode cX9_hoursBetween 5 = .ok (.bipush 6, 2) := by decide +kernel
theorem dX9_hoursBetween_7 : decode cX9_hoursBetween 7 = .ok (.if_icmp .ge 13, 3) := by decide +kernel
theorem dX9_hoursBetween_10 : decode cX9_hoursBetween 10 = .ok (.iload_n 2, 1) := by decide +kernel
theorem dX9_hoursBetween_11 : decode cX9_hoursBetween 11 = .ok (.ifCond .lt 9, 3) := by decide +kernel
theorem dX9_hoursBetween_14 : decode cX9_hoursBetween 14 = .ok (.iload_n 2, 1) := by decide +kernel
theorem dX9_hoursBetween_15 : decode cX9_hoursBetween 15 = .ok (.bipush 6, 2) := by decide +kernel
theorem dX9_hoursBetween_17 : decode cX9_hoursBetween 17 = .ok (.if_icmp .lt 5, 3) := by decide +kernel
theorem dX9_hoursBetween_20 : decode cX9_hoursBetween 20 = .ok (.iconst (-1), 1) := by decide +kernel
theorem dX9_hoursBetween_21 : decode cX9_hoursBetween 21 = .ok (.ireturn, 1) := by decide +kernel
theorem dX9_hoursBetween_22 : decode cX9_hoursBetween 22 = .ok (.aload_n 0, 1) := by decide +kernel
theorem dX9_hoursBetween_23 : decode cX9_hoursBetween 23 = .ok (.getfield 11, 3) := by decide +kernel
theorem dX9_hoursBetween_26 : decode cX9_hoursBetween 26 = .ok (.iload_n 1, 1) := by decide +kernel
theorem dX9_hoursBetween_27 : decode cX9_hoursBetween 27 = .ok (.aaload, 1) := by decide +kernel
theorem dX9_hoursBetween_28 : decode cX9_hoursBetween 28 = .ok (.iload_n 2, 1) := by decide +kernel
theorem dX9_hoursBetween_29 : decode cX9_hoursBetween 29 = .ok (.iaload, 1) := by decide +kernel
theorem dX9_hoursBetween_30 : decode cX9_hoursBetween 30 = .ok (.ireturn, 1) := by decide +kernel
theorem dX9_firstOpen_0 : decode cX9_firstOpen 0 = .ok (.iload_n 1, 1) := by decide +kernel
theorem dX9_firstOpen_1 : decode cX9_firstOpen 1 = .ok (.ifCond .lt 20, 3) := by decide +kernel
theorem dX9_firstOpen_4 : decode cX9_firstOpen 4 = .ok (.iload_n 1, 1) := by decide +kernel
theorem dX9_firstOpen_5 : decode cX9_firstOpen 5 = .ok (.bipush 8, 2) := by decide +kernel
theorem dX9_firstOpen_7 : decode cX9_firstOpen 7 = .ok (.if_icmp .ge 14, 3) := by decide +kernel
theorem dX9_firstOpen_10 : decode cX9_firstOpen 10 = .ok (.iload_n 2, 1) := by decide +kernel
theorem dX9_firstOpen_11 : decode cX9_firstOpen 11 = .ok (.ifCond .lt 10, 3) := by decide +kernel
theorem dX9_firstOpen_14 : decode cX9_firstOpen 14 = .ok (.iload_n 2, 1) := by decide +kernel
theorem dX9_firstOpen_15 : decode cX9_firstOpen 15 = .ok (.sipush 400, 3) := by decide +kernel
theorem dX9_firstOpen_18 : decode cX9_firstOpen 18 = .ok (.if_icmp .lt 5, 3) := by decide +kernel
theorem dX9_firstOpen_21 : decode cX9_firstOpen 21 = .ok (.iconst (-1), 1) := by decide +kernel
theorem dX9_firstOpen_22 : decode cX9_firstOpen 22 = .ok (.ireturn, 1) := by decide +kernel
theorem dX9_firstOpen_23 : decode cX9_firstOpen 23 = .ok (.aload_n 0, 1) := by decide +kernel
theorem dX9_firstOpen_24 : decode cX9_firstOpen 24 = .ok (.getfield 16, 3) := by decide +kernel
theorem dX9_firstOpen_27 : decode cX9_firstOpen 27 = .ok (.iload_n 1, 1) := by decide +kernel
theorem dX9_firstOpen_28 : decode cX9_firstOpen 28 = .ok (.aaload, 1) := by decide +kernel
theorem dX9_firstOpen_29 : decode cX9_firstOpen 29 = .ok (.iload_n 2, 1) := by decide +kernel
theorem dX9_firstOpen_30 : decode cX9_firstOpen 30 = .ok (.iaload, 1) := by decide +kernel
theorem dX9_firstOpen_31 : decode cX9_firstOpen 31 = .ok (.ireturn, 1) := by decide +kernel
theorem dX10_init_0 : decode cX10_init 0 = .ok (.aload_n 0, 1) := by decide +kernel
theorem dX10_init_1 : decode cX10_init 1 = .ok (.invokespecial 3, 3) := by decide +kernel
theorem dX10_init_4 : decode cX10_init 4 = .ok (.aload_n 0, 1) := by decide +kernel
theorem dX10_init_5 : decode cX10_init 5 = .ok (.bipush 8, 2) := by decide +kernel
theorem dX10_init_7 : decode cX10_init 7 = .ok (.newarray .int, 2) := by decide +kernel
theorem dX10_init_9 : decode cX10_init 9 = .ok (.putfield 9, 3) := by decide +kernel
theorem dX10_init_12 : decode cX10_init 12 = .ok (.aload_n 0, 1) := by decide +kernel
theorem dX10_init_13 : decode cX10_init 13 = .ok (.aload_n 1, 1) := by decide +kernel
theorem dX10_init_14 : decode cX10_init 14 = .ok (.putfield 15, 3) := by decide +kernel
theorem dX10_init_17 : decode cX10_init 17 = .ok (.aload_n 0, 1) := by decide +kernel
theorem dX10_init_18 : decode cX10_init 18 = .ok (.aload_n 2, 1) := by decide +kernel
theorem dX10_init_19 : decode cX10_init 19 = .ok (.putfield 19, 3) := by decide +kernel
theorem dX10_init_22 : decode cX10_init 22 = .ok (.aload_n 0, 1) := by decide +kernel
theorem dX10_init_23 : decode cX10_init 23 = .ok (.getfield 9, 3) := by decide +kernel
theorem dX10_init_26 : decode cX10_init 26 = .ok (.iconst (-1), 1) := by decide +kernel
theorem dX10_init_27 : decode cX10_init 27 = .ok (.invokestatic 23, 3) := by decide +kernel
theorem dX10_init_30 : decode cX10_init 30 = .ok (.return_, 1) := by decide +kernel
theorem dX10_beginAt_0 : decode cX10_beginAt 0 = .ok (.aload_n 0, 1) := by decide +kernel
theorem dX10_beginAt_1 : decode cX10_beginAt 1 = .ok (.iload_n 1, 1) := by decide +kernel
theorem dX10_beginAt_2 : decode cX10_beginAt 2 = .ok (.putfield 29, 3) := by decide +kernel
theorem dX10_beginAt_5 : decode cX10_beginAt 5 = .ok (.aload_n 0, 1) := by decide +kernel
theorem dX10_beginAt_6 : decode cX10_beginAt 6 = .ok (.aload_n 0, 1) := by decide +kernel
theorem dX10_beginAt_7 : decode cX10_beginAt 7 = .ok (.getfield 15, 3) := by decide +kernel
theorem dX10_beginAt_10 : decode cX10_beginAt 10 = .ok (.getfield 33, 3) := by decide +kernel
theorem dX10_beginAt_13 : decode cX10_beginAt 13 = .ok (.putfield 38, 3) := by decide +kernel
theorem dX10_beginAt_16 : decode cX10_beginAt 16 = .ok (.aload_n 0, 1) := by decide +kernel
theorem dX10_beginAt_17 : decode cX10_beginAt 17 = .ok (.iconst 0, 1) := by decide +kernel
theorem dX10_beginAt_18 : decode cX10_beginAt 18 = .ok (.putfield 41, 3) := by decide +kernel
theorem dX10_beginAt_21 : decode cX10_beginAt 21 = .ok (.aload_n 0, 1) := by decide +kernel
theorem dX10_beginAt_22 : decode cX10_beginAt 22 = .ok (.iconst 0, 1) := by decide +kernel
theorem dX10_beginAt_23 : decode cX10_beginAt 23 = .ok (.putfield 44, 3) := by decide +kernel
theorem dX10_beginAt_26 : decode cX10_beginAt 26 = .ok (.aload_n 0, 1) := by decide +kernel
theorem dX10_beginAt_27 : decode cX10_beginAt 27 = .ok (.getfield 9, 3) := by decide +kernel
theorem dX10_beginAt_30 : decode cX10_beginAt 30 = .ok (.iconst (-1), 1) := by decide +kernel
theorem dX10_beginAt_31 : decode cX10_beginAt 31 = .ok (.invokestatic 23, 3) := by decide +kernel
theorem dX10_beginAt_34 : decode cX10_beginAt 34 = .ok (.return_, 1) := by decide +kernel
theorem dX10_joins_0 : decode cX10_joins 0 = .ok (.aload_n 0, 1) := by decide +kernel
theorem dX10_joins_1 : decode cX10_joins 1 = .ok (.aload_n 1, 1) := by decide +kernel
theorem dX10_joins_2 : decode cX10_joins 2 = .ok (.getfield 29, 3) := by decide +kernel
theorem dX10_joins_5 : decode cX10_joins 5 = .ok (.putfield 29, 3) := by decide +kernel
theorem dX10_joins_8 : decode cX10_joins 8 = .ok (.aload_n 0, 1) := by decide +kernel
theorem dX10_joins_9 : decode cX10_joins 9 = .ok (.aload_n 1, 1) := by decide +kernel
theorem dX10_joins_10 : decode cX10_joins 10 = .ok (.getfield 38, 3) := by decide +kernel
theorem dX10_joins_13 : decode cX10_joins 13 = .ok (.putfield 38, 3) := by decide +kernel
theorem dX10_joins_16 : decode cX10_joins 16 = .ok (.aload_n 0, 1) := by decide +kernel
theorem dX10_joins_17 : decode cX10_joins 17 = .ok (.iconst 0, 1) := by decide +kernel
theorem dX10_joins_18 : decode cX10_joins 18 = .ok (.putfield 41, 3) := by decide +kernel
theorem dX10_joins_21 : decode cX10_joins 21 = .ok (.aload_n 0, 1) := by decide +kernel
theorem dX10_joins_22 : decode cX10_joins 22 = .ok (.iconst 0, 1) := by decide +kernel
theorem dX10_joins_23 : decode cX10_joins 23 = .ok (.putfield 44, 3) := by decide +kernel
theorem dX10_joins_26 : decode cX10_joins 26 = .ok (.aload_n 1, 1) := by decide +kernel
theorem dX10_joins_27 : decode cX10_joins 27 = .ok (.getfield 9, 3) := by decide +kernel
theorem dX10_joins_30 : decode cX10_joins 30 = .ok (.iconst 0, 1) := by decide +kernel
theorem dX10_joins_31 : decode cX10_joins 31 = .ok (.aload_n 0, 1) := by decide +kernel
theorem dX10_joins_32 : decode cX10_joins 32 = .ok (.getfield 9, 3) := by decide +kernel
theorem dX10_joins_35 : decode cX10_joins 35 = .ok (.iconst 0, 1) := by decide +kernel
theorem dX10_joins_36 : decode cX10_joins 36 = .ok (.bipush 8, 2) := by decide +kernel
theorem dX10_joins_38 : decode cX10_joins 38 = .ok (.invokestatic 47, 3) := by decide +kernel
theorem dX10_joins_41 : decode cX10_joins 41 = .ok (.return_, 1) := by decide +kernel
theorem dX10_lastHeld_0 : decode cX10_lastHeld 0 = .ok (.iload_n 1, 1) := by decide +kernel
theorem dX10_lastHeld_1 : decode cX10_lastHeld 1 = .ok (.ifCond .lt 18, 3) := by decide +kernel
theorem dX10_lastHeld_4 : decode cX10_lastHeld 4 = .ok (.iload_n 1, 1) := by decide +kernel
theorem dX10_lastHeld_5 : decode cX10_lastHeld 5 = .ok (.bipush 8, 2) := by decide +kernel
theorem dX10_lastHeld_7 : decode cX10_lastHeld 7 = .ok (.if_icmp .ge 12, 3) := by decide +kernel
theorem dX10_lastHeld_10 : decode cX10_lastHeld 10 = .ok (.aload_n 0, 1) := by decide +kernel
theorem dX10_lastHeld_11 : decode cX10_lastHeld 11 = .ok (.getfield 9, 3) := by decide +kernel
theorem dX10_lastHeld_14 : decode cX10_lastHeld 14 = .ok (.iload_n 1, 1) := by decide +kernel
theorem dX10_lastHeld_15 : decode cX10_lastHeld 15 = .ok (.iaload, 1) := by decide +kernel
theorem dX10_lastHeld_16 : decode cX10_lastHeld 16 = .ok (.goto 4, 3) := by decide +kernel
theorem dX10_lastHeld_19 : decode cX10_lastHeld 19 = .ok (.iconst (-1), 1) := by decide +kernel
theorem dX10_lastHeld_20 : decode cX10_lastHeld 20 = .ok (.ireturn, 1) := by decide +kernel
theorem dX10_holds_0 : decode cX10_holds 0 = .ok (.aload_n 0, 1) := by decide +kernel
theorem dX10_holds_1 : decode cX10_holds 1 = .ok (.iload_n 1, 1) := by decide +kernel
theorem dX10_holds_2 : decode cX10_holds 2 = .ok (.invokevirtual 53, 3) := by decide +kernel
theorem dX10_holds_5 : decode cX10_holds 5 = .ok (.aload_n 0, 1) := by decide +kernel
theorem dX10_holds_6 : decode cX10_holds 6 = .ok (.getfield 29, 3) := by decide +kernel
theorem dX10_holds_9 : decode cX10_holds 9 = .ok (.if_icmp .lt 7, 3) := by decide +kernel
theorem dX10_holds_12 : decode cX10_holds 12 = .ok (.iconst 1, 1) := by decide +kernel
theorem dX10_holds_13 : decode cX10_holds 13 = .ok (.goto 4, 3) := by decide +kernel
theorem dX10_holds_16 : decode cX10_holds 16 = .ok (.iconst 0, 1) := by decide +kernel
theorem dX10_holds_17 : decode cX10_holds 17 = .ok (.ireturn, 1) := by decide +kernel
theorem dX10_holding_0 : decode cX10_holding 0 = .ok (.iconst 0, 1) := by decide +kernel
theorem dX10_holding_1 : decode cX10_holding 1 = .ok (.istore_n 1, 1) := by decide +kernel
theorem dX10_holding_2 : decode cX10_holding 2 = .ok (.iconst 0, 1) := by decide +kernel
theorem dX10_holding_3 : decode cX10_holding 3 = .ok (.istore_n 2, 1) := by decide +kernel
theorem dX10_holding_4 : decode cX10_holding 4 = .ok (.iload_n 2, 1) := by decide +kernel
theorem dX10_holding_5 : decode cX10_holding 5 = .ok (.bipush 8, 2) := by decide +kernel
theorem dX10_holding_7 : decode cX10_holding 7 = .ok (.if_icmp .ge 28, 3) := by decide +kernel
theorem dX10_holding_10 : decode cX10_holding 10 = .ok (.aload_n 0, 1) := by decide +kernel
theorem dX10_holding_11 : decode cX10_holding 11 = .ok (.getfield 9, 3) := by decide +kernel
theorem dX10_holding_14 : decode cX10_holding 14 = .ok (.iload_n 2, 1) := by decide +kernel
theorem dX10_holding_15 : decode cX10_holding 15 = .ok (.iaload, 1) := by decide +kernel
theorem dX10_holding_16 : decode cX10_holding 16 = .ok (.aload_n 0, 1) := by decide +kernel
theorem dX10_holding_17 : decode cX10_holding 17 = .ok (.getfield 29, 3) := by decide +kernel
theorem dX10_holding_20 : decode cX10_holding 20 = .ok (.if_icmp .lt 9, 3) := by decide +kernel
theorem dX10_holding_23 : decode cX10_holding 23 = .ok (.iload_n 1, 1) := by decide +kernel
theorem dX10_holding_24 : decode cX10_holding 24 = .ok (.iconst 1, 1) := by decide +kernel
theorem dX10_holding_25 : decode cX10_holding 25 = .ok (.iload_n 2, 1) := by decide +kernel
theorem dX10_holding_26 : decode cX10_holding 26 = .ok (.ishl, 1) := by decide +kernel
theorem dX10_holding_27 : decode cX10_holding 27 = .ok (.ior, 1) := by decide +kernel
theorem dX10_holding_28 : decode cX10_holding 28 = .ok (.istore_n 1, 1) := by decide +kernel
theorem dX10_holding_29 : decode cX10_holding 29 = .ok (.iinc 2 1, 3) := by decide +kernel
theorem dX10_holding_32 : decode cX10_holding 32 = .ok (.goto (-28), 3) := by decide +kernel
theorem dX10_holding_35 : decode cX10_holding 35 = .ok (.iload_n 1, 1) := by decide +kernel
theorem dX10_holding_36 : decode cX10_holding 36 = .ok (.ireturn, 1) := by decide +kernel
theorem dX10_missing_0 : decode cX10_missing 0 = .ok (.aload_n 0, 1) := by decide +kernel
theorem dX10_missing_1 : decode cX10_missing 1 = .ok (.getfield 15, 3) := by decide +kernel
theorem dX10_missing_4 : decode cX10_missing 4 = .ok (.getfield 57, 3) := by decide +kernel
theorem dX10_missing_7 : decode cX10_missing 7 = .ok (.aload_n 0, 1) := by decide +kernel
theorem dX10_missing_8 : decode cX10_missing 8 = .ok (.invokevirtual 60, 3) := by decide +kernel
theorem dX10_missing_11 : decode cX10_missing 11 = .ok (.iconst (-1), 1) := by decide +kernel
theorem dX10_missing_12 : decode cX10_missing 12 = .ok (.ixor, 1) := by decide +kernel
theorem dX10_missing_13 : decode cX10_missing 13 = .ok (.iand, 1) := by decide +kernel
theorem dX10_missing_14 : decode cX10_missing 14 = .ok (.ireturn, 1) := by decide +kernel
theorem dX10_arrival_0 : decode cX10_arrival 0 = .ok (.aload_n 0, 1) := by decide +kernel
theorem dX10_arrival_1 : decode cX10_arrival 1 = .ok (.getfield 15, 3) := by decide +kernel
theorem dX10_arrival_4 : decode cX10_arrival 4 = .ok (.iload_n 1, 1) := by decide +kernel
theorem dX10_arrival_5 : decode cX10_arrival 5 = .ok (.invokevirtual 64, 3) := by decide +kernel
theorem dX10_arrival_8 : decode cX10_arrival 8 = .ok (.ifCond .ne 5, 3) := by decide +kernel
theorem dX10_arrival_11 : decode cX10_arrival 11 = .ok (.iconst (-1), 1) := by decide +kernel
theorem dX10_arrival_12 : decode cX10_arrival 12 = .ok (.ireturn, 1) := by decide +kernel
theorem dX10_arrival_13 : decode cX10_arrival 13 = .ok (.aload_n 0, 1) := by decide +kernel
theorem dX10_arrival_14 : decode cX10_arrival 14 = .ok (.getfield 19, 3) := by decide +kernel
theorem dX10_arrival_17 : decode cX10_arrival 17 = .ok (.aload_n 0, 1) := by decide +kernel
theorem dX10_arrival_18 : decode cX10_arrival 18 = .ok (.getfield 38, 3) := by decide +kernel
theorem dX10_arrival_21 : decode cX10_arrival 21 = .ok (.aload_n 0, 1) := by decide +kernel
theorem dX10_arrival_22 : decode cX10_arrival 22 = .ok (.getfield 15, 3) := by decide +kernel
theorem dX10_arrival_25 : decode cX10_arrival 25 = .ok (.getfield 68, 3) := by decide +kernel
theorem dX10_arrival_28 : decode cX10_arrival 28 = .ok (.iconst 0, 1) := by decide +kernel
theorem dX10_arrival_29 : decode cX10_arrival 29 = .ok (.aaload, 1) := by decide +kernel
theorem dX10_arrival_30 : decode cX10_arrival 30 = .ok (.iload_n 1, 1) := by decide +kernel
theorem dX10_arrival_31 : decode cX10_arrival 31 = .ok (.iaload, 1) := by decide +kernel
theorem dX10_arrival_32 : decode cX10_arrival 32 = .ok (.invokevirtual 72, 3) := by decide +kernel
theorem dX10_arrival_35 : decode cX10_arrival 35 = .ok (.istore_n 2, 1) := by decide +kernel
theorem dX10_arrival_36 : decode cX10_arrival 36 = .ok (.iload_n 2, 1) := by decide +kernel
theorem dX10_arrival_37 : decode cX10_arrival 37 = .ok (.iconst (-1), 1) := by decide +kernel
theorem dX10_arrival_38 : decode cX10_arrival 38 = .ok (.if_icmp .ne 7, 3) := by decide +kernel
theorem dX10_arrival_41 : decode cX10_arrival 41 = .ok (.iconst (-1), 1) := by decide +kernel
theorem dX10_arrival_42 : decode cX10_arrival 42 = .ok (.goto 9, 3) := by decide +kernel
theorem dX10_arrival_45 : decode cX10_arrival 45 = .ok (.aload_n 0, 1) := by decide +kernel
theorem dX10_arrival_46 : decode cX10_arrival 46 = .ok (.getfield 29, 3) := by decide +kernel
theorem dX10_arrival_49 : decode cX10_arrival 49 = .ok (.iload_n 2, 1) := by decide +kernel
theorem dX10_arrival_50 : decode cX10_arrival 50 = .ok (.iadd, 1) := by decide +kernel
theorem dX10_arrival_51 : decode cX10_arrival 51 = .ok (.ireturn, 1) := by decide +kernel
theorem dX10_unbarred_0 : decode cX10_unbarred 0 = .ok (.iload_n 2, 1) := by decide +kernel
theorem dX10_unbarred_1 : decode cX10_unbarred 1 = .ok (.istore_n 3, 1) := by decide +kernel
theorem dX10_unbarred_2 : decode cX10_unbarred 2 = .ok (.aload_n 0, 1) := by decide +kernel
theorem dX10_unbarred_3 : decode cX10_unbarred 3 = .ok (.getfield 15, 3) := by decide +kernel
theorem dX10_unbarred_6 : decode cX10_unbarred 6 = .ok (.iload_n 1, 1) := by decide +kernel
theorem dX10_unbarred_7 : decode cX10_unbarred 7 = .ok (.invokevirtual 64, 3) := by decide +kernel
theorem dX10_unbarred_10 : decode cX10_unbarred 10 = .ok (.ifCond .eq 18, 3) := by decide +kernel
theorem dX10_unbarred_13 : decode cX10_unbarred 13 = .ok (.aload_n 0, 1) := by decide +kernel
theorem dX10_unbarred_14 : decode cX10_unbarred 14 = .ok (.getfield 15, 3) := by decide +kernel
theorem dX10_unbarred_17 : decode cX10_unbarred 17 = .ok (.getfield 68, 3) := by decide +kernel
theorem dX10_unbarred_20 : decode cX10_unbarred 20 = .ok (.bipush 10, 2) := by decide +kernel
theorem dX10_unbarred_22 : decode cX10_unbarred 22 = .ok (.aaload, 1) := by decide +kernel
theorem dX10_unbarred_23 : decode cX10_unbarred 23 = .ok (.iload_n 1, 1) := by decide +kernel
theorem dX10_unbarred_24 : decode cX10_unbarred 24 = .ok (.iaload, 1) := by decide +kernel
theorem dX10_unbarred_25 : decode cX10_unbarred 25 = .ok (.goto 4, 3) := by decide +kernel
theorem dX10_unbarred_28 : decode cX10_unbarred 28 = .ok (.iconst 0, 1) := by decide +kernel
theorem dX10_unbarred_29 : decode cX10_unbarred 29 = .ok (.istore 4, 2) := by decide +kernel
theorem dX10_unbarred_31 : decode cX10_unbarred 31 = .ok (.iconst 0, 1) := by decide +kernel
theorem dX10_unbarred_32 : decode cX10_unbarred 32 = .ok (.istore 5, 2) := by decide +kernel
theorem dX10_unbarred_34 : decode cX10_unbarred 34 = .ok (.iload 5, 2) := by decide +kernel
theorem dX10_unbarred_36 : decode cX10_unbarred 36 = .ok (.bipush 8, 2) := by decide +kernel
theorem dX10_unbarred_38 : decode cX10_unbarred 38 = .ok (.if_icmp .ge 41, 3) := by decide +kernel
theorem dX10_unbarred_41 : decode cX10_unbarred 41 = .ok (.iload 4, 2) := by decide +kernel
theorem dX10_unbarred_43 : decode cX10_unbarred 43 = .ok (.iload 5, 2) := by decide +kernel
theorem dX10_unbarred_45 : decode cX10_unbarred 45 = .ok (.ishr, 1) := by decide +kernel
theorem dX10_unbarred_46 : decode cX10_unbarred 46 = .ok (.ifCond .eq 33, 3) := by decide +kernel
theorem dX10_unbarred_49 : decode cX10_unbarred 49 = .ok (.iload 4, 2) := by decide +kernel
theorem dX10_unbarred_51 : decode cX10_unbarred 51 = .ok (.iload 5, 2) := by decide +kernel
theorem dX10_unbarred_53 : decode cX10_unbarred 53 = .ok (.invokestatic 78, 3) := by decide +kernel
theorem dX10_unbarred_56 : decode cX10_unbarred 56 = .ok (.ifCond .eq 17, 3) := by decide +kernel
theorem dX10_unbarred_59 : decode cX10_unbarred 59 = .ok (.iload_n 3, 1) := by decide +kernel
theorem dX10_unbarred_60 : decode cX10_unbarred 60 = .ok (.aload_n 0, 1) := by decide +kernel
theorem dX10_unbarred_61 : decode cX10_unbarred 61 = .ok (.getfield 9, 3) := by decide +kernel
theorem dX10_unbarred_64 : decode cX10_unbarred 64 = .ok (.iload 5, 2) := by decide +kernel
theorem dX10_unbarred_66 : decode cX10_unbarred 66 = .ok (.iaload, 1) := by decide +kernel
theorem dX10_unbarred_67 : decode cX10_unbarred 67 = .ok (.iconst 1, 1) := by decide +kernel
theorem dX10_unbarred_68 : decode cX10_unbarred 68 = .ok (.iadd, 1) := by decide +kernel
theorem dX10_unbarred_69 : decode cX10_unbarred 69 = .ok (.invokestatic 82, 3) := by decide +kernel
theorem dX10_unbarred_72 : decode cX10_unbarred 72 = .ok (.istore_n 3, 1) := by decide +kernel
theorem dX10_unbarred_73 : decode cX10_unbarred 73 = .ok (.iinc 5 1, 3) := by decide +kernel
theorem dX10_unbarred_76 : decode cX10_unbarred 76 = .ok (.goto (-42), 3) := by decide +kernel
theorem dX10_unbarred_79 : decode cX10_unbarred 79 = .ok (.iload_n 3, 1) := by decide +kernel
theorem dX10_unbarred_80 : decode cX10_unbarred 80 = .ok (.ireturn, 1) := by decide +kernel
theorem dX10_supported_0 : decode cX10_supported 0 = .ok (.sipush 399, 3) := by decide +kernel
theorem dX10_supported_3 : decode cX10_supported 3 = .ok (.istore_n 2, 1) := by decide +kernel
theorem dX10_supported_4 : decode cX10_supported 4 = .ok (.aload_n 0, 1) := by decide +kernel
theorem dX10_supported_5 : decode cX10_supported 5 = .ok (.getfield 15, 3) := by decide +kernel
theorem dX10_supported_8 : decode cX10_supported 8 = .ok (.iload_n 1, 1) := by decide +kernel
theorem dX10_supported_9 : decode cX10_supported 9 = .ok (.invokevirtual 64, 3) := by decide +kernel
theorem dX10_supported_12 : decode cX10_supported 12 = .ok (.ifCond .eq 18, 3) := by decide +kernel
theorem dX10_supported_15 : decode cX10_supported 15 = .ok (.aload_n 0, 1) := by decide +kernel
theorem dX10_supported_16 : decode cX10_supported 16 = .ok (.getfield 15, 3) := by decide +kernel
theorem dX10_supported_19 : decode cX10_supported 19 = .ok (.getfield 68, 3) := by decide +kernel
theorem dX10_supported_22 : decode cX10_supported 22 = .ok (.bipush 9, 2) := by decide +kernel
theorem dX10_supported_24 : decode cX10_supported 24 = .ok (.aaload, 1) := by decide +kernel
theorem dX10_supported_25 : decode cX10_supported 25 = .ok (.iload_n 1, 1) := by decide +kernel
theorem dX10_supported_26 : decode cX10_supported 26 = .ok (.iaload, 1) := by decide +kernel
theorem dX10_supported_27 : decode cX10_supported 27 = .ok (.goto 4, 3) := by decide +kernel
theorem dX10_supported_30 : decode cX10_supported 30 = .ok (.iconst 0, 1) := by decide +kernel
theorem dX10_supported_31 : decode cX10_supported 31 = .ok (.istore_n 3, 1) := by decide +kernel
theorem dX10_supported_32 : decode cX10_supported 32 = .ok (.iconst 0, 1) := by decide +kernel
theorem dX10_supported_33 : decode cX10_supported 33 = .ok (.istore 4, 2) := by decide +kernel
theorem dX10_supported_35 : decode cX10_supported 35 = .ok (.iload 4, 2) := by decide +kernel
theorem dX10_supported_37 : decode cX10_supported 37 = .ok (.bipush 8, 2) := by decide +kernel
theorem dX10_supported_39 : decode cX10_supported 39 = .ok (.if_icmp .ge 37, 3) := by decide +kernel
theorem dX10_supported_42 : decode cX10_supported 42 = .ok (.iload_n 3, 1) := by decide +kernel
theorem dX10_supported_43 : decode cX10_supported 43 = .ok (.iload 4, 2) := by decide +kernel
theorem dX10_supported_45 : decode cX10_supported 45 = .ok (.ishr, 1) := by decide +kernel
theorem dX10_supported_46 : decode cX10_supported 46 = .ok (.ifCond .eq 30, 3) := by decide +kernel
theorem dX10_supported_49 : decode cX10_supported 49 = .ok (.iload_n 3, 1) := by decide +kernel
theorem dX10_supported_50 : decode cX10_supported 50 = .ok (.iload 4, 2) := by decide +kernel
theorem dX10_supported_52 : decode cX10_supported 52 = .ok (.invokestatic 78, 3) := by decide +kernel
theorem dX10_supported_55 : decode cX10_supported 55 = .ok (.ifCond .eq 15, 3) := by decide +kernel
theorem dX10_supported_58 : decode cX10_supported 58 = .ok (.iload_n 2, 1) := by decide +kernel
theorem dX10_supported_59 : decode cX10_supported 59 = .ok (.aload_n 0, 1) := by decide +kernel
theorem dX10_supported_60 : decode cX10_supported 60 = .ok (.getfield 9, 3) := by decide +kernel
theorem dX10_supported_63 : decode cX10_supported 63 = .ok (.iload 4, 2) := by decide +kernel
theorem dX10_supported_65 : decode cX10_supported 65 = .ok (.iaload, 1) := by decide +kernel
theorem dX10_supported_66 : decode cX10_supported 66 = .ok (.invokestatic 87, 3) := by decide +kernel
theorem dX10_supported_69 : decode cX10_supported 69 = .ok (.istore_n 2, 1) := by decide +kernel
theorem dX10_supported_70 : decode cX10_supported 70 = .ok (.iinc 4 1, 3) := by decide +kernel
theorem dX10_supported_73 : decode cX10_supported 73 = .ok (.goto (-38), 3) := by decide +kernel
theorem dX10_supported_76 : decode cX10_supported 76 = .ok (.iload_n 2, 1) := by decide +kernel
theorem dX10_supported_77 : decode cX10_supported 77 = .ok (.ireturn, 1) := by decide +kernel
theorem dX10_stampHour_0 : decode cX10_stampHour 0 = .ok (.aload_n 0, 1) := by decide +kernel
theorem dX10_stampHour_1 : decode cX10_stampHour 1 = .ok (.iload_n 1, 1) := by decide +kernel
theorem dX10_stampHour_2 : decode cX10_stampHour 2 = .ok (.invokevirtual 90, 3) := by decide +kernel
theorem dX10_stampHour_5 : decode cX10_stampHour 5 = .ok (.istore_n 2, 1) := by decide +kernel
theorem dX10_stampHour_6 : decode cX10_stampHour 6 = .ok (.iload_n 2, 1) := by decide +kernel
theorem dX10_stampHour_7 : decode cX10_stampHour 7 = .ok (.iconst (-1), 1) := by decide +kernel
theorem dX10_stampHour_8 : decode cX10_stampHour 8 = .ok (.if_icmp .eq 11, 3) := by decide +kernel
theorem dX10_stampHour_11 : decode cX10_stampHour 11 = .ok (.aload_n 0, 1) := by decide +kernel
theorem dX10_stampHour_12 : decode cX10_stampHour 12 = .ok (.iload_n 1, 1) := by decide +kernel
theorem dX10_stampHour_13 : decode cX10_stampHour 13 = .ok (.invokevirtual 93, 3) := by decide +kernel
theorem dX10_stampHour_16 : decode cX10_stampHour 16 = .ok (.ifCond .eq 5, 3) := by decide +kernel
theorem dX10_stampHour_19 : decode cX10_stampHour 19 = .ok (.iconst (-1), 1) := by decide +kernel
theorem dX10_stampHour_20 : decode cX10_stampHour 20 = .ok (.ireturn, 1) := by decide +kernel
theorem dX10_stampHour_21 : decode cX10_stampHour 21 = .ok (.aload_n 0, 1) := by decide +kernel
theorem dX10_stampHour_22 : decode cX10_stampHour 22 = .ok (.getfield 19, 3) := by decide +kernel
theorem dX10_stampHour_25 : decode cX10_stampHour 25 = .ok (.iload_n 1, 1) := by decide +kernel
theorem dX10_stampHour_26 : decode cX10_stampHour 26 = .ok (.aload_n 0, 1) := by decide +kernel
theorem dX10_stampHour_27 : decode cX10_stampHour 27 = .ok (.iload_n 1, 1) := by decide +kernel
theorem dX10_stampHour_28 : decode cX10_stampHour 28 = .ok (.iload_n 2, 1) := by decide +kernel
theorem dX10_stampHour_29 : decode cX10_stampHour 29 = .ok (.invokevirtual 96, 3) := by decide +kernel
theorem dX10_stampHour_32 : decode cX10_stampHour 32 = .ok (.invokevirtual 99, 3) := by decide +kernel
theorem dX10_stampHour_35 : decode cX10_stampHour 35 = .ok (.istore_n 3, 1) := by decide +kernel
theorem dX10_stampHour_36 : decode cX10_stampHour 36 = .ok (.iload_n 3, 1) := by decide +kernel
theorem dX10_stampHour_37 : decode cX10_stampHour 37 = .ok (.aload_n 0, 1) := by decide +kernel
theorem dX10_stampHour_38 : decode cX10_stampHour 38 = .ok (.iload_n 1, 1) := by decide +kernel
theorem dX10_stampHour_39 : decode cX10_stampHour 39 = .ok (.invokevirtual 102, 3) := by decide +kernel
theorem dX10_stampHour_42 : decode cX10_stampHour 42 = .ok (.if_icmp .gt 7, 3) := by decide +kernel
theorem dX10_stampHour_45 : decode cX10_stampHour 45 = .ok (.iload_n 3, 1) := by decide +kernel
theorem dX10_stampHour_46 : decode cX10_stampHour 46 = .ok (.goto 4, 3) := by decide +kernel
theorem dX10_stampHour_49 : decode cX10_stampHour 49 = .ok (.iconst (-1), 1) := by decide +kernel
theorem dX10_stampHour_50 : decode cX10_stampHour 50 = .ok (.ireturn, 1) := by decide +kernel
theorem dX10_obstacle_0 : decode cX10_obstacle 0 = .ok (.aload_n 0, 1) := by decide +kernel
theorem dX10_obstacle_1 : decode cX10_obstacle 1 = .ok (.iload_n 1, 1) := by decide +kernel
theorem dX10_obstacle_2 : decode cX10_obstacle 2 = .ok (.invokevirtual 93, 3) := by decide +kernel
theorem dX10_obstacle_5 : decode cX10_obstacle 5 = .ok (.ifCond .eq 5, 3) := by decide +kernel
theorem dX10_obstacle_8 : decode cX10_obstacle 8 = .ok (.iconst 1, 1) := by decide +kernel
theorem dX10_obstacle_9 : decode cX10_obstacle 9 = .ok (.ireturn, 1) := by decide +kernel
theorem dX10_obstacle_10 : decode cX10_obstacle 10 = .ok (.aload_n 0, 1) := by decide +kernel
theorem dX10_obstacle_11 : decode cX10_obstacle 11 = .ok (.iload_n 1, 1) := by decide +kernel
theorem dX10_obstacle_12 : decode cX10_obstacle 12 = .ok (.invokevirtual 90, 3) := by decide +kernel
theorem dX10_obstacle_15 : decode cX10_obstacle 15 = .ok (.istore_n 2, 1) := by decide +kernel
theorem dX10_obstacle_16 : decode cX10_obstacle 16 = .ok (.iload_n 2, 1) := by decide +kernel
theorem dX10_obstacle_17 : decode cX10_obstacle 17 = .ok (.iconst (-1), 1) := by decide +kernel
theorem dX10_obstacle_18 : decode cX10_obstacle 18 = .ok (.if_icmp .ne 5, 3) := by decide +kernel
theorem dX10_obstacle_21 : decode cX10_obstacle 21 = .ok (.iconst 2, 1) := by decide +kernel
theorem dX10_obstacle_22 : decode cX10_obstacle 22 = .ok (.ireturn, 1) := by decide +kernel
theorem dX10_obstacle_23 : decode cX10_obstacle 23 = .ok (.aload_n 0, 1) := by decide +kernel
theorem dX10_obstacle_24 : decode cX10_obstacle 24 = .ok (.getfield 19, 3) := by decide +kernel
theorem dX10_obstacle_27 : decode cX10_obstacle 27 = .ok (.iload_n 1, 1) := by decide +kernel
theorem dX10_obstacle_28 : decode cX10_obstacle 28 = .ok (.iload_n 2, 1) := by decide +kernel
theorem dX10_obstacle_29 : decode cX10_obstacle 29 = .ok (.invokevirtual 99, 3) := by decide +kernel
theorem dX10_obstacle_32 : decode cX10_obstacle 32 = .ok (.istore_n 3, 1) := by decide +kernel
theorem dX10_obstacle_33 : decode cX10_obstacle 33 = .ok (.iload_n 3, 1) := by decide +kernel
theorem dX10_obstacle_34 : decode cX10_obstacle 34 = .ok (.iconst (-1), 1) := by decide +kernel
theorem dX10_obstacle_35 : decode cX10_obstacle 35 = .ok (.if_icmp .ne 5, 3) := by decide +kernel
theorem dX10_obstacle_38 : decode cX10_obstacle 38 = .ok (.iconst 3, 1) := by decide +kernel
theorem dX10_obstacle_39 : decode cX10_obstacle 39 = .ok (.ireturn, 1) := by decide +kernel
theorem dX10_obstacle_40 : decode cX10_obstacle 40 = .ok (.iload_n 3, 1) := by decide +kernel
theorem dX10_obstacle_41 : decode cX10_obstacle 41 = .ok (.aload_n 0, 1) := by decide +kernel
theorem dX10_obstacle_42 : decode cX10_obstacle 42 = .ok (.iload_n 1, 1) := by decide +kernel
theorem dX10_obstacle_43 : decode cX10_obstacle 43 = .ok (.invokevirtual 102, 3) := by decide +kernel
theorem dX10_obstacle_46 : decode cX10_obstacle 46 = .ok (.if_icmp .le 5, 3) := by decide +kernel
theorem dX10_obstacle_49 : decode cX10_obstacle 49 = .ok (.iconst 4, 1) := by decide +kernel
theorem dX10_obstacle_50 : decode cX10_obstacle 50 = .ok (.ireturn, 1) := by decide +kernel
theorem dX10_obstacle_51 : decode cX10_obstacle 51 = .ok (.aload_n 0, 1) := by decide +kernel
theorem dX10_obstacle_52 : decode cX10_obstacle 52 = .ok (.iload_n 1, 1) := by decide +kernel
theorem dX10_obstacle_53 : decode cX10_obstacle 53 = .ok (.invokevirtual 105, 3) := by decide +kernel
theorem dX10_obstacle_56 : decode cX10_obstacle 56 = .ok (.iconst (-1), 1) := by decide +kernel
theorem dX10_obstacle_57 : decode cX10_obstacle 57 = .ok (.if_icmp .ne 7, 3) := by decide +kernel
theorem dX10_obstacle_60 : decode cX10_obstacle 60 = .ok (.iconst 5, 1) := by decide +kernel
theorem dX10_obstacle_61 : decode cX10_obstacle 61 = .ok (.goto 4, 3) := by decide +kernel
theorem dX10_obstacle_64 : decode cX10_obstacle 64 = .ok (.iconst 0, 1) := by decide +kernel
theorem dX10_obstacle_65 : decode cX10_obstacle 65 = .ok (.ireturn, 1) := by decide +kernel
theorem dX10_willing_0 : decode cX10_willing 0 = .ok (.iconst 0, 1) := by decide +kernel
theorem dX10_willing_1 : decode cX10_willing 1 = .ok (.istore_n 1, 1) := by decide +kernel
theorem dX10_willing_2 : decode cX10_willing 2 = .ok (.iconst 0, 1) := by decide +kernel
theorem dX10_willing_3 : decode cX10_willing 3 = .ok (.istore_n 2, 1) := by decide +kernel
theorem dX10_willing_4 : decode cX10_willing 4 = .ok (.iload_n 2, 1) := by decide +kernel
theorem dX10_willing_5 : decode cX10_willing 5 = .ok (.aload_n 0, 1) := by decide +kernel
theorem dX10_willing_6 : decode cX10_willing 6 = .ok (.getfield 15, 3) := by decide +kernel
theorem dX10_willing_9 : decode cX10_willing 9 = .ok (.getfield 108, 3) := by decide +kernel
theorem dX10_willing_12 : decode cX10_willing 12 = .ok (.if_icmp .ge 24, 3) := by decide +kernel
theorem dX10_willing_15 : decode cX10_willing 15 = .ok (.aload_n 0, 1) := by decide +kernel
theorem dX10_willing_16 : decode cX10_willing 16 = .ok (.iload_n 2, 1) := by decide +kernel
theorem dX10_willing_17 : decode cX10_willing 17 = .ok (.invokevirtual 105, 3) := by decide +kernel
theorem dX10_willing_20 : decode cX10_willing 20 = .ok (.iconst (-1), 1) := by decide +kernel
theorem dX10_willing_21 : decode cX10_willing 21 = .ok (.if_icmp .eq 9, 3) := by decide +kernel
theorem dX10_willing_24 : decode cX10_willing 24 = .ok (.iload_n 1, 1) := by decide +kernel
theorem dX10_willing_25 : decode cX10_willing 25 = .ok (.iconst 1, 1) := by decide +kernel
theorem dX10_willing_26 : decode cX10_willing 26 = .ok (.iload_n 2, 1) := by decide +kernel
theorem dX10_willing_27 : decode cX10_willing 27 = .ok (.ishl, 1) := by decide +kernel
theorem dX10_willing_28 : decode cX10_willing 28 = .ok (.ior, 1) := by decide +kernel
theorem dX10_willing_29 : decode cX10_willing 29 = .ok (.istore_n 1, 1) := by decide +kernel
theorem dX10_willing_30 : decode cX10_willing 30 = .ok (.iinc 2 1, 3) := by decide +kernel
theorem dX10_willing_33 : decode cX10_willing 33 = .ok (.goto (-29), 3) := by decide +kernel
theorem dX10_willing_36 : decode cX10_willing 36 = .ok (.iload_n 1, 1) := by decide +kernel
theorem dX10_willing_37 : decode cX10_willing 37 = .ok (.ireturn, 1) := by decide +kernel
theorem dX10_stampIn_0 : decode cX10_stampIn 0 = .ok (.aload_n 0, 1) := by decide +kernel
theorem dX10_stampIn_1 : decode cX10_stampIn 1 = .ok (.getfield 15, 3) := by decide +kernel
theorem dX10_stampIn_4 : decode cX10_stampIn 4 = .ok (.iload_n 1, 1) := by decide +kernel
theorem dX10_stampIn_5 : decode cX10_stampIn 5 = .ok (.invokevirtual 64, 3) := by decide +kernel
theorem dX10_stampIn_8 : decode cX10_stampIn 8 = .ok (.ifCond .eq 8, 3) := by decide +kernel
theorem dX10_stampIn_11 : decode cX10_stampIn 11 = .ok (.iload_n 2, 1) := by decide +kernel
theorem dX10_stampIn_12 : decode cX10_stampIn 12 = .ok (.iconst (-1), 1) := by decide +kernel
theorem dX10_stampIn_13 : decode cX10_stampIn 13 = .ok (.if_icmp .ne 4, 3) := by decide +kernel
theorem dX10_stampIn_16 : decode cX10_stampIn 16 = .ok (.return_, 1) := by decide +kernel
theorem dX10_stampIn_17 : decode cX10_stampIn 17 = .ok (.aload_n 0, 1) := by decide +kernel
theorem dX10_stampIn_18 : decode cX10_stampIn 18 = .ok (.getfield 15, 3) := by decide +kernel
theorem dX10_stampIn_21 : decode cX10_stampIn 21 = .ok (.getfield 68, 3) := by decide +kernel
theorem dX10_stampIn_24 : decode cX10_stampIn 24 = .ok (.iconst 0, 1) := by decide +kernel
theorem dX10_stampIn_25 : decode cX10_stampIn 25 = .ok (.aaload, 1) := by decide +kernel
theorem dX10_stampIn_26 : decode cX10_stampIn 26 = .ok (.iload_n 1, 1) := by decide +kernel
theorem dX10_stampIn_27 : decode cX10_stampIn 27 = .ok (.iaload, 1) := by decide +kernel
theorem dX10_stampIn_28 : decode cX10_stampIn 28 = .ok (.istore_n 3, 1) := by decide +kernel
theorem dX10_stampIn_29 : decode cX10_stampIn 29 = .ok (.aload_n 0, 1) := by decide +kernel
theorem dX10_stampIn_30 : decode cX10_stampIn 30 = .ok (.getfield 15, 3) := by decide +kernel
theorem dX10_stampIn_33 : decode cX10_stampIn 33 = .ok (.getfield 68, 3) := by decide +kernel
theorem dX10_stampIn_36 : decode cX10_stampIn 36 = .ok (.iconst 5, 1) := by decide +kernel
theorem dX10_stampIn_37 : decode cX10_stampIn 37 = .ok (.aaload, 1) := by decide +kernel
theorem dX10_stampIn_38 : decode cX10_stampIn 38 = .ok (.iload_n 1, 1) := by decide +kernel
theorem dX10_stampIn_39 : decode cX10_stampIn 39 = .ok (.iaload, 1) := by decide +kernel
theorem dX10_stampIn_40 : decode cX10_stampIn 40 = .ok (.istore 4, 2) := by decide +kernel
theorem dX10_stampIn_42 : decode cX10_stampIn 42 = .ok (.aload_n 0, 1) := by decide +kernel
theorem dX10_stampIn_43 : decode cX10_stampIn 43 = .ok (.dup, 1) := by decide +kernel
theorem dX10_stampIn_44 : decode cX10_stampIn 44 = .ok (.getfield 41, 3) := by decide +kernel
theorem dX10_stampIn_47 : decode cX10_stampIn 47 = .ok (.aload_n 0, 1) := by decide +kernel
theorem dX10_stampIn_48 : decode cX10_stampIn 48 = .ok (.getfield 19, 3) := by decide +kernel
theorem dX10_stampIn_51 : decode cX10_stampIn 51 = .ok (.aload_n 0, 1) := by decide +kernel
theorem dX10_stampIn_52 : decode cX10_stampIn 52 = .ok (.getfield 38, 3) := by decide +kernel
theorem dX10_stampIn_55 : decode cX10_stampIn 55 = .ok (.iload_n 3, 1) := by decide +kernel
theorem dX10_stampIn_56 : decode cX10_stampIn 56 = .ok (.invokevirtual 72, 3) := by decide +kernel
theorem dX10_stampIn_59 : decode cX10_stampIn 59 = .ok (.iadd, 1) := by decide +kernel
theorem dX10_stampIn_60 : decode cX10_stampIn 60 = .ok (.putfield 41, 3) := by decide +kernel
theorem dX10_stampIn_63 : decode cX10_stampIn 63 = .ok (.aload_n 0, 1) := by decide +kernel
theorem dX10_stampIn_64 : decode cX10_stampIn 64 = .ok (.dup, 1) := by decide +kernel
theorem dX10_stampIn_65 : decode cX10_stampIn 65 = .ok (.getfield 44, 3) := by decide +kernel
theorem dX10_stampIn_68 : decode cX10_stampIn 68 = .ok (.aload_n 0, 1) := by decide +kernel
theorem dX10_stampIn_69 : decode cX10_stampIn 69 = .ok (.getfield 15, 3) := by decide +kernel
theorem dX10_stampIn_72 : decode cX10_stampIn 72 = .ok (.getfield 68, 3) := by decide +kernel
theorem dX10_stampIn_75 : decode cX10_stampIn 75 = .ok (.bipush 6, 2) := by decide +kernel
theorem dX10_stampIn_77 : decode cX10_stampIn 77 = .ok (.aaload, 1) := by decide +kernel
theorem dX10_stampIn_78 : decode cX10_stampIn 78 = .ok (.iload_n 1, 1) := by decide +kernel
theorem dX10_stampIn_79 : decode cX10_stampIn 79 = .ok (.iaload, 1) := by decide +kernel
theorem dX10_stampIn_80 : decode cX10_stampIn 80 = .ok (.iadd, 1) := by decide +kernel
theorem dX10_stampIn_81 : decode cX10_stampIn 81 = .ok (.putfield 44, 3) := by decide +kernel
theorem dX10_stampIn_84 : decode cX10_stampIn 84 = .ok (.aload_n 0, 1) := by decide +kernel
theorem dX10_stampIn_85 : decode cX10_stampIn 85 = .ok (.getfield 9, 3) := by decide +kernel
theorem dX10_stampIn_88 : decode cX10_stampIn 88 = .ok (.iload_n 1, 1) := by decide +kernel
theorem dX10_stampIn_89 : decode cX10_stampIn 89 = .ok (.iload 4, 2) := by decide +kernel
theorem dX10_stampIn_91 : decode cX10_stampIn 91 = .ok (.iconst (-1), 1) := by decide +kernel
theorem dX10_stampIn_92 : decode cX10_stampIn 92 = .ok (.if_icmp .ne 8, 3) := by decide +kernel
theorem dX10_stampIn_95 : decode cX10_stampIn 95 = .ok (.ldc 111, 2) := by decide +kernel
theorem dX10_stampIn_97 : decode cX10_stampIn 97 = .ok (.goto 10, 3) := by decide +kernel
theorem dX10_stampIn_100 : decode cX10_stampIn 100 = .ok (.iload_n 2, 1) := by decide +kernel
theorem dX10_stampIn_101 : decode cX10_stampIn 101 = .ok (.bipush 10, 2) := by decide +kernel
theorem dX10_stampIn_103 : decode cX10_stampIn 103 = .ok (.iload 4, 2) := by decide +kernel
theorem dX10_stampIn_105 : decode cX10_stampIn 105 = .ok (.imul, 1) := by decide +kernel
theorem dX10_stampIn_106 : decode cX10_stampIn 106 = .ok (.iadd, 1) := by decide +kernel
theorem dX10_stampIn_107 : decode cX10_stampIn 107 = .ok (.iastore, 1) := by decide +kernel
theorem dX10_stampIn_108 : decode cX10_stampIn 108 = .ok (.aload_n 0, 1) := by decide +kernel
theorem dX10_stampIn_109 : decode cX10_stampIn 109 = .ok (.iload_n 3, 1) := by decide +kernel
theorem dX10_stampIn_110 : decode cX10_stampIn 110 = .ok (.putfield 38, 3) := by decide +kernel
theorem dX10_stampIn_113 : decode cX10_stampIn 113 = .ok (.aload_n 0, 1) := by decide +kernel
theorem dX10_stampIn_114 : decode cX10_stampIn 114 = .ok (.iload_n 2, 1) := by decide +kernel
theorem dX10_stampIn_115 : decode cX10_stampIn 115 = .ok (.iconst 1, 1) := by decide +kernel
theorem dX10_stampIn_116 : decode cX10_stampIn 116 = .ok (.iadd, 1) := by decide +kernel
theorem dX10_stampIn_117 : decode cX10_stampIn 117 = .ok (.putfield 29, 3) := by decide +kernel
theorem dX10_stampIn_120 : decode cX10_stampIn 120 = .ok (.return_, 1) := by decide +kernel
theorem dJ6_bitCount_0f7a4_0 : decode cJ6_bitCount_0f7a4 0 = .ok (.iload_n 0, 1) := by decide +kernel
theorem dJ6_bitCount_0f7a4_1 : decode cJ6_bitCount_0f7a4 1 = .ok (.iload_n 0, 1) := by decide +kernel
theorem dJ6_bitCount_0f7a4_2 : decode cJ6_bitCount_0f7a4 2 = .ok (.iconst 1, 1) := by decide +kernel
theorem dJ6_bitCount_0f7a4_3 : decode cJ6_bitCount_0f7a4 3 = .ok (.iushr, 1) := by decide +kernel
theorem dJ6_bitCount_0f7a4_4 : decode cJ6_bitCount_0f7a4 4 = .ok (.ldc_w 265, 3) := by decide +kernel
theorem dJ6_bitCount_0f7a4_7 : decode cJ6_bitCount_0f7a4 7 = .ok (.iand, 1) := by decide +kernel
theorem dJ6_bitCount_0f7a4_8 : decode cJ6_bitCount_0f7a4 8 = .ok (.isub, 1) := by decide +kernel
theorem dJ6_bitCount_0f7a4_9 : decode cJ6_bitCount_0f7a4 9 = .ok (.istore_n 0, 1) := by decide +kernel
theorem dJ6_bitCount_0f7a4_10 : decode cJ6_bitCount_0f7a4 10 = .ok (.iload_n 0, 1) := by decide +kernel
theorem dJ6_bitCount_0f7a4_11 : decode cJ6_bitCount_0f7a4 11 = .ok (.ldc_w 266, 3) := by decide +kernel
theorem dJ6_bitCount_0f7a4_14 : decode cJ6_bitCount_0f7a4 14 = .ok (.iand, 1) := by decide +kernel
theorem dJ6_bitCount_0f7a4_15 : decode cJ6_bitCount_0f7a4 15 = .ok (.iload_n 0, 1) := by decide +kernel
theorem dJ6_bitCount_0f7a4_16 : decode cJ6_bitCount_0f7a4 16 = .ok (.iconst 2, 1) := by decide +kernel
theorem dJ6_bitCount_0f7a4_17 : decode cJ6_bitCount_0f7a4 17 = .ok (.iushr, 1) := by decide +kernel
theorem dJ6_bitCount_0f7a4_18 : decode cJ6_bitCount_0f7a4 18 = .ok (.ldc_w 266, 3) := by decide +kernel
theorem dJ6_bitCount_0f7a4_21 : decode cJ6_bitCount_0f7a4 21 = .ok (.iand, 1) := by decide +kernel
theorem dJ6_bitCount_0f7a4_22 : decode cJ6_bitCount_0f7a4 22 = .ok (.iadd, 1) := by decide +kernel
theorem dJ6_bitCount_0f7a4_23 : decode cJ6_bitCount_0f7a4 23 = .ok (.istore_n 0, 1) := by decide +kernel
theorem dJ6_bitCount_0f7a4_24 : decode cJ6_bitCount_0f7a4 24 = .ok (.iload_n 0, 1) := by decide +kernel
theorem dJ6_bitCount_0f7a4_25 : decode cJ6_bitCount_0f7a4 25 = .ok (.iload_n 0, 1) := by decide +kernel
theorem dJ6_bitCount_0f7a4_26 : decode cJ6_bitCount_0f7a4 26 = .ok (.iconst 4, 1) := by decide +kernel
theorem dJ6_bitCount_0f7a4_27 : decode cJ6_bitCount_0f7a4 27 = .ok (.iushr, 1) := by decide +kernel
theorem dJ6_bitCount_0f7a4_28 : decode cJ6_bitCount_0f7a4 28 = .ok (.iadd, 1) := by decide +kernel
theorem dJ6_bitCount_0f7a4_29 : decode cJ6_bitCount_0f7a4 29 = .ok (.ldc_w 267, 3) := by decide +kernel
theorem dJ6_bitCount_0f7a4_32 : decode cJ6_bitCount_0f7a4 32 = .ok (.iand, 1) := by decide +kernel
theorem dJ6_bitCount_0f7a4_33 : decode cJ6_bitCount_0f7a4 33 = .ok (.istore_n 0, 1) := by decide +kernel
theorem dJ6_bitCount_0f7a4_34 : decode cJ6_bitCount_0f7a4 34 = .ok (.iload_n 0, 1) := by decide +kernel
theorem dJ6_bitCount_0f7a4_35 : decode cJ6_bitCount_0f7a4 35 = .ok (.iload_n 0, 1) := by decide +kernel
theorem dJ6_bitCount_0f7a4_36 : decode cJ6_bitCount_0f7a4 36 = .ok (.bipush 8, 2) := by decide +kernel
theorem dJ6_bitCount_0f7a4_38 : decode cJ6_bitCount_0f7a4 38 = .ok (.iushr, 1) := by decide +kernel
theorem dJ6_bitCount_0f7a4_39 : decode cJ6_bitCount_0f7a4 39 = .ok (.iadd, 1) := by decide +kernel
theorem dJ6_bitCount_0f7a4_40 : decode cJ6_bitCount_0f7a4 40 = .ok (.istore_n 0, 1) := by decide +kernel
theorem dJ6_bitCount_0f7a4_41 : decode cJ6_bitCount_0f7a4 41 = .ok (.iload_n 0, 1) := by decide +kernel
theorem dJ6_bitCount_0f7a4_42 : decode cJ6_bitCount_0f7a4 42 = .ok (.iload_n 0, 1) := by decide +kernel
theorem dJ6_bitCount_0f7a4_43 : decode cJ6_bitCount_0f7a4 43 = .ok (.bipush 16, 2) := by decide +kernel
theorem dJ6_bitCount_0f7a4_45 : decode cJ6_bitCount_0f7a4 45 = .ok (.iushr, 1) := by decide +kernel
theorem dJ6_bitCount_0f7a4_46 : decode cJ6_bitCount_0f7a4 46 = .ok (.iadd, 1) := by decide +kernel
theorem dJ6_bitCount_0f7a4_47 : decode cJ6_bitCount_0f7a4 47 = .ok (.istore_n 0, 1) := by decide +kernel
theorem dJ6_bitCount_0f7a4_48 : decode cJ6_bitCount_0f7a4 48 = .ok (.iload_n 0, 1) := by decide +kernel
theorem dJ6_bitCount_0f7a4_49 : decode cJ6_bitCount_0f7a4 49 = .ok (.bipush 63, 2) := by decide +kernel
theorem dJ6_bitCount_0f7a4_51 : decode cJ6_bitCount_0f7a4 51 = .ok (.iand, 1) := by decide +kernel
theorem dJ6_bitCount_0f7a4_52 : decode cJ6_bitCount_0f7a4 52 = .ok (.ireturn, 1) := by decide +kernel
theorem dJ9_max_7cf53_0 : decode cJ9_max_7cf53 0 = .ok (.iload_n 0, 1) := by decide +kernel
theorem dJ9_max_7cf53_1 : decode cJ9_max_7cf53 1 = .ok (.iload_n 1, 1) := by decide +kernel
theorem dJ9_max_7cf53_2 : decode cJ9_max_7cf53 2 = .ok (.if_icmp .lt 7, 3) := by decide +kernel
theorem dJ9_max_7cf53_5 : decode cJ9_max_7cf53 5 = .ok (.iload_n 0, 1) := by decide +kernel
theorem dJ9_max_7cf53_6 : decode cJ9_max_7cf53 6 = .ok (.goto 4, 3) := by decide +kernel
theorem dJ9_max_7cf53_9 : decode cJ9_max_7cf53 9 = .ok (.iload_n 1, 1) := by decide +kernel
theorem dJ9_max_7cf53_10 : decode cJ9_max_7cf53 10 = .ok (.ireturn, 1) := by decide +kernel
theorem dJ9_min_7cf53_0 : decode cJ9_min_7cf53 0 = .ok (.iload_n 0, 1) := by decide +kernel
theorem dJ9_min_7cf53_1 : decode cJ9_min_7cf53 1 = .ok (.iload_n 1, 1) := by decide +kernel
theorem dJ9_min_7cf53_2 : decode cJ9_min_7cf53 2 = .ok (.if_icmp .gt 7, 3) := by decide +kernel
theorem dJ9_min_7cf53_5 : decode cJ9_min_7cf53 5 = .ok (.iload_n 0, 1) := by decide +kernel
theorem dJ9_min_7cf53_6 : decode cJ9_min_7cf53 6 = .ok (.goto 4, 3) := by decide +kernel
theorem dJ9_min_7cf53_9 : decode cJ9_min_7cf53 9 = .ok (.iload_n 1, 1) := by decide +kernel
theorem dJ9_min_7cf53_10 : decode cJ9_min_7cf53 10 = .ok (.ireturn, 1) := by decide +kernel
theorem dJ0_length_8abf5_0 : decode cJ0_length_8abf5 0 = .ok (.aload_n 0, 1) := by decide +kernel
theorem dJ0_length_8abf5_1 : decode cJ0_length_8abf5 1 = .ok (.getfield 9, 3) := by decide +kernel
theorem dJ0_length_8abf5_4 : decode cJ0_length_8abf5 4 = .ok (.arraylength, 1) := by decide +kernel
theorem dJ0_length_8abf5_5 : decode cJ0_length_8abf5 5 = .ok (.aload_n 0, 1) := by decide +kernel
theorem dJ0_length_8abf5_6 : decode cJ0_length_8abf5 6 = .ok (.invokevirtual 335, 3) := by decide +kernel
theorem dJ0_length_8abf5_9 : decode cJ0_length_8abf5 9 = .ok (.ishr, 1) := by decide +kernel
theorem dJ0_length_8abf5_10 : decode cJ0_length_8abf5 10 = .ok (.ireturn, 1) := by decide +kernel
theorem dJ0_charAt_5068e_0 : decode cJ0_charAt_5068e 0 = .ok (.aload_n 0, 1) := by decide +kernel
theorem dJ0_charAt_5068e_1 : decode cJ0_charAt_5068e 1 = .ok (.invokevirtual 492, 3) := by decide +kernel
theorem dJ0_charAt_5068e_4 : decode cJ0_charAt_5068e 4 = .ok (.ifCond .eq 12, 3) := by decide +kernel
theorem dJ0_charAt_5068e_7 : decode cJ0_charAt_5068e 7 = .ok (.aload_n 0, 1) := by decide +kernel
theorem dJ0_charAt_5068e_8 : decode cJ0_charAt_5068e 8 = .ok (.getfield 9, 3) := by decide +kernel
theorem dJ0_charAt_5068e_11 : decode cJ0_charAt_5068e 11 = .ok (.iload_n 1, 1) := by decide +kernel
theorem dJ0_charAt_5068e_12 : decode cJ0_charAt_5068e 12 = .ok (.invokestatic 495, 3) := by decide +kernel
theorem dJ0_charAt_5068e_15 : decode cJ0_charAt_5068e 15 = .ok (.ireturn, 1) := by decide +kernel
theorem dJ0_charAt_5068e_16 : decode cJ0_charAt_5068e 16 = .ok (.aload_n 0, 1) := by decide +kernel
theorem dJ0_charAt_5068e_17 : decode cJ0_charAt_5068e 17 = .ok (.getfield 9, 3) := by decide +kernel
theorem dJ0_charAt_5068e_20 : decode cJ0_charAt_5068e 20 = .ok (.iload_n 1, 1) := by decide +kernel
theorem dJ0_charAt_5068e_21 : decode cJ0_charAt_5068e 21 = .ok (.invokestatic 498, 3) := by decide +kernel
theorem dJ0_charAt_5068e_24 : decode cJ0_charAt_5068e 24 = .ok (.ireturn, 1) := by decide +kernel
theorem dJ0_coder_7d493_0 : decode cJ0_coder_7d493 0 = .ok (.getstatic 38, 3) := by decide +kernel
theorem dJ0_coder_7d493_3 : decode cJ0_coder_7d493 3 = .ok (.ifCond .eq 10, 3) := by decide +kernel
theorem dJ0_coder_7d493_6 : decode cJ0_coder_7d493 6 = .ok (.aload_n 0, 1) := by decide +kernel
theorem dJ0_coder_7d493_7 : decode cJ0_coder_7d493 7 = .ok (.getfield 15, 3) := by decide +kernel
theorem dJ0_coder_7d493_10 : decode cJ0_coder_7d493 10 = .ok (.goto 4, 3) := by decide +kernel
theorem dJ0_coder_7d493_13 : decode cJ0_coder_7d493 13 = .ok (.iconst 1, 1) := by decide +kernel
theorem dJ0_coder_7d493_14 : decode cJ0_coder_7d493 14 = .ok (.ireturn, 1) := by decide +kernel
theorem dJ0_isLatin1_aae02_0 : decode cJ0_isLatin1_aae02 0 = .ok (.getstatic 38, 3) := by decide +kernel
theorem dJ0_isLatin1_aae02_3 : decode cJ0_isLatin1_aae02 3 = .ok (.ifCond .eq 14, 3) := by decide +kernel
theorem dJ0_isLatin1_aae02_6 : decode cJ0_isLatin1_aae02 6 = .ok (.aload_n 0, 1) := by decide +kernel
theorem dJ0_isLatin1_aae02_7 : decode cJ0_isLatin1_aae02 7 = .ok (.getfield 15, 3) := by decide +kernel
theorem dJ0_isLatin1_aae02_10 : decode cJ0_isLatin1_aae02 10 = .ok (.ifCond .ne 7, 3) := by decide +kernel
theorem dJ0_isLatin1_aae02_13 : decode cJ0_isLatin1_aae02 13 = .ok (.iconst 1, 1) := by decide +kernel
theorem dJ0_isLatin1_aae02_14 : decode cJ0_isLatin1_aae02 14 = .ok (.goto 4, 3) := by decide +kernel
theorem dJ0_isLatin1_aae02_17 : decode cJ0_isLatin1_aae02 17 = .ok (.iconst 0, 1) := by decide +kernel
theorem dJ0_isLatin1_aae02_18 : decode cJ0_isLatin1_aae02 18 = .ok (.ireturn, 1) := by decide +kernel
theorem dJ0_checkIndex_df160_0 : decode cJ0_checkIndex_df160 0 = .ok (.iload_n 0, 1) := by decide +kernel
theorem dJ0_checkIndex_df160_1 : decode cJ0_checkIndex_df160 1 = .ok (.iload_n 1, 1) := by decide +kernel
theorem dJ0_checkIndex_df160_2 : decode cJ0_checkIndex_df160 2 = .ok (.getstatic 1053, 3) := by decide +kernel
theorem dJ0_checkIndex_df160_5 : decode cJ0_checkIndex_df160 5 = .ok (.invokestatic 1059, 3) := by decide +kernel
theorem dJ0_checkIndex_df160_8 : decode cJ0_checkIndex_df160 8 = .ok (.pop, 1) := by decide +kernel
theorem dJ0_checkIndex_df160_9 : decode cJ0_checkIndex_df160 9 = .ok (.return_, 1) := by decide +kernel
theorem dJ1_charAt_3b067_0 : decode cJ1_charAt_3b067 0 = .ok (.iload_n 1, 1) := by decide +kernel
theorem dJ1_charAt_3b067_1 : decode cJ1_charAt_3b067 1 = .ok (.aload_n 0, 1) := by decide +kernel
theorem dJ1_charAt_3b067_2 : decode cJ1_charAt_3b067 2 = .ok (.arraylength, 1) := by decide +kernel
theorem dJ1_charAt_3b067_3 : decode cJ1_charAt_3b067 3 = .ok (.invokestatic 9, 3) := by decide +kernel
theorem dJ1_charAt_3b067_6 : decode cJ1_charAt_3b067 6 = .ok (.aload_n 0, 1) := by decide +kernel
theorem dJ1_charAt_3b067_7 : decode cJ1_charAt_3b067 7 = .ok (.iload_n 1, 1) := by decide +kernel
theorem dJ1_charAt_3b067_8 : decode cJ1_charAt_3b067 8 = .ok (.baload, 1) := by decide +kernel
theorem dJ1_charAt_3b067_9 : decode cJ1_charAt_3b067 9 = .ok (.sipush 255, 3) := by decide +kernel
theorem dJ1_charAt_3b067_12 : decode cJ1_charAt_3b067 12 = .ok (.iand, 1) := by decide +kernel
theorem dJ1_charAt_3b067_13 : decode cJ1_charAt_3b067 13 = .ok (.i2c, 1) := by decide +kernel
theorem dJ1_charAt_3b067_14 : decode cJ1_charAt_3b067 14 = .ok (.ireturn, 1) := by decide +kernel
theorem dJ2_getChar_3b067_0 : decode cJ2_getChar_3b067 0 = .ok (.getstatic 44, 3) := by decide +kernel
theorem dJ2_getChar_3b067_3 : decode cJ2_getChar_3b067 3 = .ok (.ifCond .ne 25, 3) := by decide +kernel
theorem dJ2_getChar_3b067_6 : decode cJ2_getChar_3b067 6 = .ok (.iload_n 1, 1) := by decide +kernel
theorem dJ2_getChar_3b067_7 : decode cJ2_getChar_3b067 7 = .ok (.ifCond .lt 11, 3) := by decide +kernel
theorem dJ2_getChar_3b067_10 : decode cJ2_getChar_3b067 10 = .ok (.iload_n 1, 1) := by decide +kernel
theorem dJ2_getChar_3b067_11 : decode cJ2_getChar_3b067 11 = .ok (.aload_n 0, 1) := by decide +kernel
theorem dJ2_getChar_3b067_12 : decode cJ2_getChar_3b067 12 = .ok (.invokestatic 48, 3) := by decide +kernel
theorem dJ2_getChar_3b067_15 : decode cJ2_getChar_3b067 15 = .ok (.if_icmp .lt 13, 3) := by decide +kernel
theorem dJ2_getChar_3b067_18 : decode cJ2_getChar_3b067 18 = .ok (.new 52, 3) := by decide +kernel
theorem dJ2_getChar_3b067_21 : decode cJ2_getChar_3b067 21 = .ok (.dup, 1) := by decide +kernel
theorem dJ2_getChar_3b067_22 : decode cJ2_getChar_3b067 22 = .ok (.ldc 54, 2) := by decide +kernel
theorem dJ2_getChar_3b067_24 : decode cJ2_getChar_3b067 24 = .ok (.invokespecial 56, 3) := by decide +kernel
theorem dJ2_getChar_3b067_27 : decode cJ2_getChar_3b067 27 = .ok (.athrow, 1) := by decide +kernel
theorem dJ2_getChar_3b067_28 : decode cJ2_getChar_3b067 28 = .ok (.iload_n 1, 1) := by decide +kernel
theorem dJ2_getChar_3b067_29 : decode cJ2_getChar_3b067 29 = .ok (.iconst 1, 1) := by decide +kernel
theorem dJ2_getChar_3b067_30 : decode cJ2_getChar_3b067 30 = .ok (.ishl, 1) := by decide +kernel
theorem dJ2_getChar_3b067_31 : decode cJ2_getChar_3b067 31 = .ok (.istore_n 1, 1) := by decide +kernel
theorem dJ2_getChar_3b067_32 : decode cJ2_getChar_3b067 32 = .ok (.aload_n 0, 1) := by decide +kernel
theorem dJ2_getChar_3b067_33 : decode cJ2_getChar_3b067 33 = .ok (.iload_n 1, 1) := by decide +kernel
theorem dJ2_getChar_3b067_34 : decode cJ2_getChar_3b067 34 = .ok (.iinc 1 1, 3) := by decide +kernel
theorem dJ2_getChar_3b067_37 : decode cJ2_getChar_3b067 37 = .ok (.baload, 1) := by decide +kernel
theorem dJ2_getChar_3b067_38 : decode cJ2_getChar_3b067 38 = .ok (.sipush 255, 3) := by decide +kernel
theorem dJ2_getChar_3b067_41 : decode cJ2_getChar_3b067 41 = .ok (.iand, 1) := by decide +kernel
theorem dJ2_getChar_3b067_42 : decode cJ2_getChar_3b067 42 = .ok (.getstatic 59, 3) := by decide +kernel
theorem dJ2_getChar_3b067_45 : decode cJ2_getChar_3b067 45 = .ok (.ishl, 1) := by decide +kernel
theorem dJ2_getChar_3b067_46 : decode cJ2_getChar_3b067 46 = .ok (.aload_n 0, 1) := by decide +kernel
theorem dJ2_getChar_3b067_47 : decode cJ2_getChar_3b067 47 = .ok (.iload_n 1, 1) := by decide +kernel
theorem dJ2_getChar_3b067_48 : decode cJ2_getChar_3b067 48 = .ok (.baload, 1) := by decide +kernel
theorem dJ2_getChar_3b067_49 : decode cJ2_getChar_3b067 49 = .ok (.sipush 255, 3) := by decide +kernel
theorem dJ2_getChar_3b067_52 : decode cJ2_getChar_3b067 52 = .ok (.iand, 1) := by decide +kernel
theorem dJ2_getChar_3b067_53 : decode cJ2_getChar_3b067 53 = .ok (.getstatic 63, 3) := by decide +kernel
theorem dJ2_getChar_3b067_56 : decode cJ2_getChar_3b067 56 = .ok (.ishl, 1) := by decide +kernel
theorem dJ2_getChar_3b067_57 : decode cJ2_getChar_3b067 57 = .ok (.ior, 1) := by decide +kernel
theorem dJ2_getChar_3b067_58 : decode cJ2_getChar_3b067 58 = .ok (.i2c, 1) := by decide +kernel
theorem dJ2_getChar_3b067_59 : decode cJ2_getChar_3b067 59 = .ok (.ireturn, 1) := by decide +kernel
theorem dJ2_length_9d52b_0 : decode cJ2_length_9d52b 0 = .ok (.aload_n 0, 1) := by decide +kernel
theorem dJ2_length_9d52b_1 : decode cJ2_length_9d52b 1 = .ok (.arraylength, 1) := by decide +kernel
theorem dJ2_length_9d52b_2 : decode cJ2_length_9d52b 2 = .ok (.iconst 1, 1) := by decide +kernel
theorem dJ2_length_9d52b_3 : decode cJ2_length_9d52b 3 = .ok (.ishr, 1) := by decide +kernel
theorem dJ2_length_9d52b_4 : decode cJ2_length_9d52b 4 = .ok (.ireturn, 1) := by decide +kernel
theorem dJ2_charAt_3b067_0 : decode cJ2_charAt_3b067 0 = .ok (.iload_n 1, 1) := by decide +kernel
theorem dJ2_charAt_3b067_1 : decode cJ2_charAt_3b067 1 = .ok (.aload_n 0, 1) := by decide +kernel
theorem dJ2_charAt_3b067_2 : decode cJ2_charAt_3b067 2 = .ok (.invokestatic 67, 3) := by decide +kernel
theorem dJ2_charAt_3b067_5 : decode cJ2_charAt_3b067 5 = .ok (.aload_n 0, 1) := by decide +kernel
theorem dJ2_charAt_3b067_6 : decode cJ2_charAt_3b067 6 = .ok (.iload_n 1, 1) := by decide +kernel
theorem dJ2_charAt_3b067_7 : decode cJ2_charAt_3b067 7 = .ok (.invokestatic 71, 3) := by decide +kernel
theorem dJ2_charAt_3b067_10 : decode cJ2_charAt_3b067 10 = .ok (.ireturn, 1) := by decide +kernel
theorem dJ2_checkIndex_2214a_0 : decode cJ2_checkIndex_2214a 0 = .ok (.iload_n 0, 1) := by decide +kernel
theorem dJ2_checkIndex_2214a_1 : decode cJ2_checkIndex_2214a 1 = .ok (.aload_n 1, 1) := by decide +kernel
theorem dJ2_checkIndex_2214a_2 : decode cJ2_checkIndex_2214a 2 = .ok (.invokestatic 48, 3) := by decide +kernel
theorem dJ2_checkIndex_2214a_5 : decode cJ2_checkIndex_2214a 5 = .ok (.invokestatic 414, 3) := by decide +kernel
theorem dJ2_checkIndex_2214a_8 : decode cJ2_checkIndex_2214a 8 = .ok (.return_, 1) := by decide +kernel
theorem dJ7_fill_d0a16_0 : decode cJ7_fill_d0a16 0 = .ok (.iconst 0, 1) := by decide +kernel
theorem dJ7_fill_d0a16_1 : decode cJ7_fill_d0a16 1 = .ok (.istore_n 3, 1) := by decide +kernel
theorem dJ7_fill_d0a16_2 : decode cJ7_fill_d0a16 2 = .ok (.aload_n 0, 1) := by decide +kernel
theorem dJ7_fill_d0a16_3 : decode cJ7_fill_d0a16 3 = .ok (.arraylength, 1) := by decide +kernel
theorem dJ7_fill_d0a16_4 : decode cJ7_fill_d0a16 4 = .ok (.istore 4, 2) := by decide +kernel
theorem dJ7_fill_d0a16_6 : decode cJ7_fill_d0a16 6 = .ok (.iload_n 3, 1) := by decide +kernel
theorem dJ7_fill_d0a16_7 : decode cJ7_fill_d0a16 7 = .ok (.iload 4, 2) := by decide +kernel
theorem dJ7_fill_d0a16_9 : decode cJ7_fill_d0a16 9 = .ok (.if_icmp .ge 13, 3) := by decide +kernel
theorem dJ7_fill_d0a16_12 : decode cJ7_fill_d0a16 12 = .ok (.aload_n 0, 1) := by decide +kernel
theorem dJ7_fill_d0a16_13 : decode cJ7_fill_d0a16 13 = .ok (.iload_n 3, 1) := by decide +kernel
theorem dJ7_fill_d0a16_14 : decode cJ7_fill_d0a16 14 = .ok (.lload_n 1, 1) := by decide +kernel
theorem dJ7_fill_d0a16_15 : decode cJ7_fill_d0a16 15 = .ok (.lastore, 1) := by decide +kernel
theorem dJ7_fill_d0a16_16 : decode cJ7_fill_d0a16 16 = .ok (.iinc 3 1, 3) := by decide +kernel
theorem dJ7_fill_d0a16_19 : decode cJ7_fill_d0a16 19 = .ok (.goto (-13), 3) := by decide +kernel
theorem dJ7_fill_d0a16_22 : decode cJ7_fill_d0a16 22 = .ok (.return_, 1) := by decide +kernel
theorem dJ7_fill_53178_0 : decode cJ7_fill_53178 0 = .ok (.iconst 0, 1) := by decide +kernel
theorem dJ7_fill_53178_1 : decode cJ7_fill_53178 1 = .ok (.istore_n 2, 1) := by decide +kernel
theorem dJ7_fill_53178_2 : decode cJ7_fill_53178 2 = .ok (.aload_n 0, 1) := by decide +kernel
theorem dJ7_fill_53178_3 : decode cJ7_fill_53178 3 = .ok (.arraylength, 1) := by decide +kernel
theorem dJ7_fill_53178_4 : decode cJ7_fill_53178 4 = .ok (.istore_n 3, 1) := by decide +kernel
theorem dJ7_fill_53178_5 : decode cJ7_fill_53178 5 = .ok (.iload_n 2, 1) := by decide +kernel
theorem dJ7_fill_53178_6 : decode cJ7_fill_53178 6 = .ok (.iload_n 3, 1) := by decide +kernel
theorem dJ7_fill_53178_7 : decode cJ7_fill_53178 7 = .ok (.if_icmp .ge 13, 3) := by decide +kernel
theorem dJ7_fill_53178_10 : decode cJ7_fill_53178 10 = .ok (.aload_n 0, 1) := by decide +kernel
theorem dJ7_fill_53178_11 : decode cJ7_fill_53178 11 = .ok (.iload_n 2, 1) := by decide +kernel
theorem dJ7_fill_53178_12 : decode cJ7_fill_53178 12 = .ok (.iload_n 1, 1) := by decide +kernel
theorem dJ7_fill_53178_13 : decode cJ7_fill_53178 13 = .ok (.iastore, 1) := by decide +kernel
theorem dJ7_fill_53178_14 : decode cJ7_fill_53178 14 = .ok (.iinc 2 1, 3) := by decide +kernel
theorem dJ7_fill_53178_17 : decode cJ7_fill_53178 17 = .ok (.goto (-12), 3) := by decide +kernel
theorem dJ7_fill_53178_20 : decode cJ7_fill_53178 20 = .ok (.return_, 1) := by decide +kernel
theorem dJ3_checkIndex_8e157_0 : decode cJ3_checkIndex_8e157 0 = .ok (.iload_n 0, 1) := by decide +kernel
theorem dJ3_checkIndex_8e157_1 : decode cJ3_checkIndex_8e157 1 = .ok (.ifCond .lt 8, 3) := by decide +kernel
theorem dJ3_checkIndex_8e157_4 : decode cJ3_checkIndex_8e157 4 = .ok (.iload_n 0, 1) := by decide +kernel
theorem dJ3_checkIndex_8e157_5 : decode cJ3_checkIndex_8e157 5 = .ok (.iload_n 1, 1) := by decide +kernel
theorem dJ3_checkIndex_8e157_6 : decode cJ3_checkIndex_8e157 6 = .ok (.if_icmp .lt 10, 3) := by decide +kernel
theorem dJ3_checkIndex_8e157_9 : decode cJ3_checkIndex_8e157 9 = .ok (.aload_n 2, 1) := by decide +kernel
theorem dJ3_checkIndex_8e157_10 : decode cJ3_checkIndex_8e157 10 = .ok (.iload_n 0, 1) := by decide +kernel
theorem dJ3_checkIndex_8e157_11 : decode cJ3_checkIndex_8e157 11 = .ok (.iload_n 1, 1) := by decide +kernel
theorem dJ3_checkIndex_8e157_12 : decode cJ3_checkIndex_8e157 12 = .ok (.invokestatic 95, 3) := by decide +kernel
theorem dJ3_checkIndex_8e157_15 : decode cJ3_checkIndex_8e157 15 = .ok (.athrow, 1) := by decide +kernel
theorem dJ3_checkIndex_8e157_16 : decode cJ3_checkIndex_8e157 16 = .ok (.iload_n 0, 1) := by decide +kernel
theorem dJ3_checkIndex_8e157_17 : decode cJ3_checkIndex_8e157 17 = .ok (.ireturn, 1) := by decide +kernel
