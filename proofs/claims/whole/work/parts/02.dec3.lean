-- the decode rows, as printed
theorem dX12_queues_22 : decode cX12_queues 22 = .ok (.iconst 0, 1) := by decide +kernel
theorem dX12_queues_23 : decode cX12_queues 23 = .ok (.istore_n 3, 1) := by decide +kernel
theorem dX12_queues_24 : decode cX12_queues 24 = .ok (.iload_n 3, 1) := by decide +kernel
theorem dX12_queues_25 : decode cX12_queues 25 = .ok (.bipush 8, 2) := by decide +kernel
theorem dX12_queues_27 : decode cX12_queues 27 = .ok (.if_icmp .ge 16, 3) := by decide +kernel
theorem dX12_queues_30 : decode cX12_queues 30 = .ok (.aload_n 0, 1) := by decide +kernel
theorem dX12_queues_31 : decode cX12_queues 31 = .ok (.getfield 83, 3) := by decide +kernel
theorem dX12_queues_34 : decode cX12_queues 34 = .ok (.iload_n 3, 1) := by decide +kernel
theorem dX12_queues_35 : decode cX12_queues 35 = .ok (.iconst 0, 1) := by decide +kernel
theorem dX12_queues_36 : decode cX12_queues 36 = .ok (.iastore, 1) := by decide +kernel
theorem dX12_queues_37 : decode cX12_queues 37 = .ok (.iinc 3 1, 3) := by decide +kernel
theorem dX12_queues_40 : decode cX12_queues 40 = .ok (.goto (-16), 3) := by decide +kernel
theorem dX12_queues_43 : decode cX12_queues 43 = .ok (.aload_n 0, 1) := by decide +kernel
theorem dX12_queues_44 : decode cX12_queues 44 = .ok (.iconst 1, 1) := by decide +kernel
theorem dX12_queues_45 : decode cX12_queues 45 = .ok (.putfield 318, 3) := by decide +kernel
theorem dX12_queues_48 : decode cX12_queues 48 = .ok (.iconst 0, 1) := by decide +kernel
theorem dX12_queues_49 : decode cX12_queues 49 = .ok (.istore_n 3, 1) := by decide +kernel
theorem dX12_queues_50 : decode cX12_queues 50 = .ok (.iload_n 3, 1) := by decide +kernel
theorem dX12_queues_51 : decode cX12_queues 51 = .ok (.iload_n 2, 1) := by decide +kernel
theorem dX12_queues_52 : decode cX12_queues 52 = .ok (.if_icmp .ge 20, 3) := by decide +kernel
theorem dX12_queues_55 : decode cX12_queues 55 = .ok (.aload_n 0, 1) := by decide +kernel
theorem dX12_queues_56 : decode cX12_queues 56 = .ok (.getfield 86, 3) := by decide +kernel
theorem dX12_queues_59 : decode cX12_queues 59 = .ok (.iload_n 3, 1) := by decide +kernel
theorem dX12_queues_60 : decode cX12_queues 60 = .ok (.aload_n 0, 1) := by decide +kernel
theorem dX12_queues_61 : decode cX12_queues 61 = .ok (.iload_n 1, 1) := by decide +kernel
theorem dX12_queues_62 : decode cX12_queues 62 = .ok (.invokevirtual 448, 3) := by decide +kernel
theorem dX12_queues_65 : decode cX12_queues 65 = .ok (.iastore, 1) := by decide +kernel
theorem dX12_queues_66 : decode cX12_queues 66 = .ok (.iinc 3 1, 3) := by decide +kernel
theorem dX12_queues_69 : decode cX12_queues 69 = .ok (.goto (-19), 3) := by decide +kernel
theorem dX12_queues_72 : decode cX12_queues 72 = .ok (.aload_n 0, 1) := by decide +kernel
theorem dX12_queues_73 : decode cX12_queues 73 = .ok (.iconst 0, 1) := by decide +kernel
theorem dX12_queues_74 : decode cX12_queues 74 = .ok (.putfield 318, 3) := by decide +kernel
theorem dX12_queues_77 : decode cX12_queues 77 = .ok (.return_, 1) := by decide +kernel
theorem dX12_lastOf_0 : decode cX12_lastOf 0 = .ok (.iconst 0, 1) := by decide +kernel
theorem dX12_lastOf_1 : decode cX12_lastOf 1 = .ok (.istore_n 2, 1) := by decide +kernel
theorem dX12_lastOf_2 : decode cX12_lastOf 2 = .ok (.iconst 0, 1) := by decide +kernel
theorem dX12_lastOf_3 : decode cX12_lastOf 3 = .ok (.istore_n 3, 1) := by decide +kernel
theorem dX12_lastOf_4 : decode cX12_lastOf 4 = .ok (.iload_n 3, 1) := by decide +kernel
theorem dX12_lastOf_5 : decode cX12_lastOf 5 = .ok (.iload_n 1, 1) := by decide +kernel
theorem dX12_lastOf_6 : decode cX12_lastOf 6 = .ok (.if_icmp .ge 42, 3) := by decide +kernel
theorem dX12_lastOf_9 : decode cX12_lastOf 9 = .ok (.aload_n 0, 1) := by decide +kernel
theorem dX12_lastOf_10 : decode cX12_lastOf 10 = .ok (.getfield 86, 3) := by decide +kernel
theorem dX12_lastOf_13 : decode cX12_lastOf 13 = .ok (.iload_n 3, 1) := by decide +kernel
theorem dX12_lastOf_14 : decode cX12_lastOf 14 = .ok (.iaload, 1) := by decide +kernel
theorem dX12_lastOf_15 : decode cX12_lastOf 15 = .ok (.iconst (-1), 1) := by decide +kernel
theorem dX12_lastOf_16 : decode cX12_lastOf 16 = .ok (.if_icmp .ne 5, 3) := by decide +kernel
theorem dX12_lastOf_19 : decode cX12_lastOf 19 = .ok (.iconst (-1), 1) := by decide +kernel
theorem dX12_lastOf_20 : decode cX12_lastOf 20 = .ok (.ireturn, 1) := by decide +kernel
theorem dX12_lastOf_21 : decode cX12_lastOf 21 = .ok (.aload_n 0, 1) := by decide +kernel
theorem dX12_lastOf_22 : decode cX12_lastOf 22 = .ok (.getfield 86, 3) := by decide +kernel
theorem dX12_lastOf_25 : decode cX12_lastOf 25 = .ok (.iload_n 3, 1) := by decide +kernel
theorem dX12_lastOf_26 : decode cX12_lastOf 26 = .ok (.iaload, 1) := by decide +kernel
theorem dX12_lastOf_27 : decode cX12_lastOf 27 = .ok (.iload_n 2, 1) := by decide +kernel
theorem dX12_lastOf_28 : decode cX12_lastOf 28 = .ok (.if_icmp .le 12, 3) := by decide +kernel
theorem dX12_lastOf_31 : decode cX12_lastOf 31 = .ok (.aload_n 0, 1) := by decide +kernel
theorem dX12_lastOf_32 : decode cX12_lastOf 32 = .ok (.getfield 86, 3) := by decide +kernel
theorem dX12_lastOf_35 : decode cX12_lastOf 35 = .ok (.iload_n 3, 1) := by decide +kernel
theorem dX12_lastOf_36 : decode cX12_lastOf 36 = .ok (.iaload, 1) := by decide +kernel
theorem dX12_lastOf_37 : decode cX12_lastOf 37 = .ok (.goto 4, 3) := by decide +kernel
theorem dX12_lastOf_40 : decode cX12_lastOf 40 = .ok (.iload_n 2, 1) := by decide +kernel
theorem dX12_lastOf_41 : decode cX12_lastOf 41 = .ok (.istore_n 2, 1) := by decide +kernel
theorem dX12_lastOf_42 : decode cX12_lastOf 42 = .ok (.iinc 3 1, 3) := by decide +kernel
theorem dX12_lastOf_45 : decode cX12_lastOf 45 = .ok (.goto (-41), 3) := by decide +kernel
theorem dX12_lastOf_48 : decode cX12_lastOf 48 = .ok (.iload_n 2, 1) := by decide +kernel
theorem dX12_lastOf_49 : decode cX12_lastOf 49 = .ok (.ireturn, 1) := by decide +kernel
theorem dX12_queue_0 : decode cX12_queue 0 = .ok (.aload_n 0, 1) := by decide +kernel
theorem dX12_queue_1 : decode cX12_queue 1 = .ok (.iconst 0, 1) := by decide +kernel
theorem dX12_queue_2 : decode cX12_queue 2 = .ok (.putfield 89, 3) := by decide +kernel
theorem dX12_queue_5 : decode cX12_queue 5 = .ok (.iload_n 2, 1) := by decide +kernel
theorem dX12_queue_6 : decode cX12_queue 6 = .ok (.i2l, 1) := by decide +kernel
theorem dX12_queue_7 : decode cX12_queue 7 = .ok (.lconst 1, 1) := by decide +kernel
theorem dX12_queue_8 : decode cX12_queue 8 = .ok (.ldc2_w 451, 3) := by decide +kernel
theorem dX12_queue_11 : decode cX12_queue 11 = .ok (.invokestatic 94, 3) := by decide +kernel
theorem dX12_queue_14 : decode cX12_queue 14 = .ok (.ifCond .eq 11, 3) := by decide +kernel
theorem dX12_queue_17 : decode cX12_queue 17 = .ok (.aload_n 0, 1) := by decide +kernel
theorem dX12_queue_18 : decode cX12_queue 18 = .ok (.iload_n 1, 1) := by decide +kernel
theorem dX12_queue_19 : decode cX12_queue 19 = .ok (.invokevirtual 442, 3) := by decide +kernel
theorem dX12_queue_22 : decode cX12_queue 22 = .ok (.goto 5, 3) := by decide +kernel
theorem dX12_queue_25 : decode cX12_queue 25 = .ok (.bipush (-2), 2) := by decide +kernel
theorem dX12_queue_27 : decode cX12_queue 27 = .ok (.istore_n 3, 1) := by decide +kernel
theorem dX12_queue_28 : decode cX12_queue 28 = .ok (.iload_n 3, 1) := by decide +kernel
theorem dX12_queue_29 : decode cX12_queue 29 = .ok (.ifCond .eq 5, 3) := by decide +kernel
theorem dX12_queue_32 : decode cX12_queue 32 = .ok (.iload_n 3, 1) := by decide +kernel
theorem dX12_queue_33 : decode cX12_queue 33 = .ok (.ireturn, 1) := by decide +kernel
theorem dX12_queue_34 : decode cX12_queue 34 = .ok (.aload_n 0, 1) := by decide +kernel
theorem dX12_queue_35 : decode cX12_queue 35 = .ok (.iload_n 1, 1) := by decide +kernel
theorem dX12_queue_36 : decode cX12_queue 36 = .ok (.iload_n 2, 1) := by decide +kernel
theorem dX12_queue_37 : decode cX12_queue 37 = .ok (.invokevirtual 453, 3) := by decide +kernel
theorem dX12_queue_40 : decode cX12_queue 40 = .ok (.aload_n 0, 1) := by decide +kernel
theorem dX12_queue_41 : decode cX12_queue 41 = .ok (.iload_n 2, 1) := by decide +kernel
theorem dX12_queue_42 : decode cX12_queue 42 = .ok (.invokevirtual 456, 3) := by decide +kernel
theorem dX12_queue_45 : decode cX12_queue 45 = .ok (.ireturn, 1) := by decide +kernel
theorem dX12_served_0 : decode cX12_served 0 = .ok (.aload_n 0, 1) := by decide +kernel
theorem dX12_served_1 : decode cX12_served 1 = .ok (.iconst 0, 1) := by decide +kernel
theorem dX12_served_2 : decode cX12_served 2 = .ok (.putfield 89, 3) := by decide +kernel
theorem dX12_served_5 : decode cX12_served 5 = .ok (.iload_n 2, 1) := by decide +kernel
theorem dX12_served_6 : decode cX12_served 6 = .ok (.i2l, 1) := by decide +kernel
theorem dX12_served_7 : decode cX12_served 7 = .ok (.lconst 0, 1) := by decide +kernel
theorem dX12_served_8 : decode cX12_served 8 = .ok (.ldc2_w 459, 3) := by decide +kernel
theorem dX12_served_11 : decode cX12_served 11 = .ok (.invokestatic 94, 3) := by decide +kernel
theorem dX12_served_14 : decode cX12_served 14 = .ok (.ifCond .eq 11, 3) := by decide +kernel
theorem dX12_served_17 : decode cX12_served 17 = .ok (.aload_n 0, 1) := by decide +kernel
theorem dX12_served_18 : decode cX12_served 18 = .ok (.iload_n 1, 1) := by decide +kernel
theorem dX12_served_19 : decode cX12_served 19 = .ok (.invokevirtual 442, 3) := by decide +kernel
theorem dX12_served_22 : decode cX12_served 22 = .ok (.goto 5, 3) := by decide +kernel
theorem dX12_served_25 : decode cX12_served 25 = .ok (.bipush (-2), 2) := by decide +kernel
theorem dX12_served_27 : decode cX12_served 27 = .ok (.istore_n 3, 1) := by decide +kernel
theorem dX12_served_28 : decode cX12_served 28 = .ok (.iload_n 3, 1) := by decide +kernel
theorem dX12_served_29 : decode cX12_served 29 = .ok (.ifCond .eq 5, 3) := by decide +kernel
theorem dX12_served_32 : decode cX12_served 32 = .ok (.iload_n 3, 1) := by decide +kernel
theorem dX12_served_33 : decode cX12_served 33 = .ok (.ireturn, 1) := by decide +kernel
theorem dX12_served_34 : decode cX12_served 34 = .ok (.aload_n 0, 1) := by decide +kernel
theorem dX12_served_35 : decode cX12_served 35 = .ok (.iload_n 1, 1) := by decide +kernel
theorem dX12_served_36 : decode cX12_served 36 = .ok (.bipush 9, 2) := by decide +kernel
theorem dX12_served_38 : decode cX12_served 38 = .ok (.invokevirtual 453, 3) := by decide +kernel
theorem dX12_served_41 : decode cX12_served 41 = .ok (.iconst 0, 1) := by decide +kernel
theorem dX12_served_42 : decode cX12_served 42 = .ok (.istore 4, 2) := by decide +kernel
theorem dX12_served_44 : decode cX12_served 44 = .ok (.iconst 0, 1) := by decide +kernel
theorem dX12_served_45 : decode cX12_served 45 = .ok (.istore 5, 2) := by decide +kernel
theorem dX12_served_47 : decode cX12_served 47 = .ok (.iload 5, 2) := by decide +kernel
theorem dX12_served_49 : decode cX12_served 49 = .ok (.bipush 9, 2) := by decide +kernel
theorem dX12_served_51 : decode cX12_served 51 = .ok (.if_icmp .ge 41, 3) := by decide +kernel
theorem dX12_served_54 : decode cX12_served 54 = .ok (.iload 4, 2) := by decide +kernel
theorem dX12_served_56 : decode cX12_served 56 = .ok (.aload_n 0, 1) := by decide +kernel
theorem dX12_served_57 : decode cX12_served 57 = .ok (.getfield 86, 3) := by decide +kernel
theorem dX12_served_60 : decode cX12_served 60 = .ok (.iload 5, 2) := by decide +kernel
theorem dX12_served_62 : decode cX12_served 62 = .ok (.iaload, 1) := by decide +kernel
theorem dX12_served_63 : decode cX12_served 63 = .ok (.iconst (-1), 1) := by decide +kernel
theorem dX12_served_64 : decode cX12_served 64 = .ok (.if_icmp .eq 18, 3) := by decide +kernel
theorem dX12_served_67 : decode cX12_served 67 = .ok (.aload_n 0, 1) := by decide +kernel
theorem dX12_served_68 : decode cX12_served 68 = .ok (.getfield 86, 3) := by decide +kernel
theorem dX12_served_71 : decode cX12_served 71 = .ok (.iload 5, 2) := by decide +kernel
theorem dX12_served_73 : decode cX12_served 73 = .ok (.iaload, 1) := by decide +kernel
theorem dX12_served_74 : decode cX12_served 74 = .ok (.iload_n 2, 1) := by decide +kernel
theorem dX12_served_75 : decode cX12_served 75 = .ok (.if_icmp .gt 7, 3) := by decide +kernel
theorem dX12_served_78 : decode cX12_served 78 = .ok (.iconst 1, 1) := by decide +kernel
theorem dX12_served_79 : decode cX12_served 79 = .ok (.goto 4, 3) := by decide +kernel
theorem dX12_served_82 : decode cX12_served 82 = .ok (.iconst 0, 1) := by decide +kernel
theorem dX12_served_83 : decode cX12_served 83 = .ok (.iadd, 1) := by decide +kernel
theorem dX12_served_84 : decode cX12_served 84 = .ok (.istore 4, 2) := by decide +kernel
theorem dX12_served_86 : decode cX12_served 86 = .ok (.iinc 5 1, 3) := by decide +kernel
theorem dX12_served_89 : decode cX12_served 89 = .ok (.goto (-42), 3) := by decide +kernel
theorem dX12_served_92 : decode cX12_served 92 = .ok (.iload 4, 2) := by decide +kernel
theorem dX12_served_94 : decode cX12_served 94 = .ok (.ireturn, 1) := by decide +kernel
theorem dX12_chair_0 : decode cX12_chair 0 = .ok (.aload_n 0, 1) := by decide +kernel
theorem dX12_chair_1 : decode cX12_chair 1 = .ok (.iconst 0, 1) := by decide +kernel
theorem dX12_chair_2 : decode cX12_chair 2 = .ok (.putfield 89, 3) := by decide +kernel
theorem dX12_chair_5 : decode cX12_chair 5 = .ok (.aload_n 0, 1) := by decide +kernel
theorem dX12_chair_6 : decode cX12_chair 6 = .ok (.iload_n 1, 1) := by decide +kernel
theorem dX12_chair_7 : decode cX12_chair 7 = .ok (.invokevirtual 442, 3) := by decide +kernel
theorem dX12_chair_10 : decode cX12_chair 10 = .ok (.istore_n 2, 1) := by decide +kernel
theorem dX12_chair_11 : decode cX12_chair 11 = .ok (.iload_n 2, 1) := by decide +kernel
theorem dX12_chair_12 : decode cX12_chair 12 = .ok (.ifCond .eq 5, 3) := by decide +kernel
theorem dX12_chair_15 : decode cX12_chair 15 = .ok (.iload_n 2, 1) := by decide +kernel
theorem dX12_chair_16 : decode cX12_chair 16 = .ok (.ireturn, 1) := by decide +kernel
theorem dX12_chair_17 : decode cX12_chair 17 = .ok (.aload_n 0, 1) := by decide +kernel
theorem dX12_chair_18 : decode cX12_chair 18 = .ok (.iload_n 1, 1) := by decide +kernel
theorem dX12_chair_19 : decode cX12_chair 19 = .ok (.bipush 9, 2) := by decide +kernel
theorem dX12_chair_21 : decode cX12_chair 21 = .ok (.invokevirtual 453, 3) := by decide +kernel
theorem dX12_chair_24 : decode cX12_chair 24 = .ok (.aload_n 0, 1) := by decide +kernel
theorem dX12_chair_25 : decode cX12_chair 25 = .ok (.bipush 9, 2) := by decide +kernel
theorem dX12_chair_27 : decode cX12_chair 27 = .ok (.invokevirtual 456, 3) := by decide +kernel
theorem dX12_chair_30 : decode cX12_chair 30 = .ok (.iconst (-1), 1) := by decide +kernel
theorem dX12_chair_31 : decode cX12_chair 31 = .ok (.if_icmp .ne 5, 3) := by decide +kernel
theorem dX12_chair_34 : decode cX12_chair 34 = .ok (.iconst (-1), 1) := by decide +kernel
theorem dX12_chair_35 : decode cX12_chair 35 = .ok (.ireturn, 1) := by decide +kernel
theorem dX12_chair_36 : decode cX12_chair 36 = .ok (.iconst (-1), 1) := by decide +kernel
theorem dX12_chair_37 : decode cX12_chair 37 = .ok (.istore_n 3, 1) := by decide +kernel
theorem dX12_chair_38 : decode cX12_chair 38 = .ok (.iconst 0, 1) := by decide +kernel
theorem dX12_chair_39 : decode cX12_chair 39 = .ok (.istore 4, 2) := by decide +kernel
theorem dX12_chair_41 : decode cX12_chair 41 = .ok (.iload 4, 2) := by decide +kernel
theorem dX12_chair_43 : decode cX12_chair 43 = .ok (.aload_n 0, 1) := by decide +kernel
theorem dX12_chair_44 : decode cX12_chair 44 = .ok (.getfield 34, 3) := by decide +kernel
theorem dX12_chair_47 : decode cX12_chair 47 = .ok (.iconst 3, 1) := by decide +kernel
theorem dX12_chair_48 : decode cX12_chair 48 = .ok (.iaload, 1) := by decide +kernel
theorem dX12_chair_49 : decode cX12_chair 49 = .ok (.if_icmp .ge 85, 3) := by decide +kernel
theorem dX12_chair_52 : decode cX12_chair 52 = .ok (.iconst 0, 1) := by decide +kernel
theorem dX12_chair_53 : decode cX12_chair 53 = .ok (.istore 5, 2) := by decide +kernel
theorem dX12_chair_55 : decode cX12_chair 55 = .ok (.iconst 0, 1) := by decide +kernel
theorem dX12_chair_56 : decode cX12_chair 56 = .ok (.istore 6, 2) := by decide +kernel
theorem dX12_chair_58 : decode cX12_chair 58 = .ok (.iload 6, 2) := by decide +kernel
theorem dX12_chair_60 : decode cX12_chair 60 = .ok (.aload_n 0, 1) := by decide +kernel
theorem dX12_chair_61 : decode cX12_chair 61 = .ok (.getfield 13, 3) := by decide +kernel
theorem dX12_chair_64 : decode cX12_chair 64 = .ok (.iload_n 1, 1) := by decide +kernel
theorem dX12_chair_65 : decode cX12_chair 65 = .ok (.iaload, 1) := by decide +kernel
theorem dX12_chair_66 : decode cX12_chair 66 = .ok (.if_icmp .ge 33, 3) := by decide +kernel
theorem dX12_chair_69 : decode cX12_chair 69 = .ok (.iload 5, 2) := by decide +kernel
theorem dX12_chair_71 : decode cX12_chair 71 = .ok (.ifCond .ne 15, 3) := by decide +kernel
theorem dX12_chair_74 : decode cX12_chair 74 = .ok (.aload_n 0, 1) := by decide +kernel
theorem dX12_chair_75 : decode cX12_chair 75 = .ok (.iload_n 1, 1) := by decide +kernel
theorem dX12_chair_76 : decode cX12_chair 76 = .ok (.iload 6, 2) := by decide +kernel
theorem dX12_chair_78 : decode cX12_chair 78 = .ok (.invokevirtual 445, 3) := by decide +kernel
theorem dX12_chair_81 : decode cX12_chair 81 = .ok (.iload 4, 2) := by decide +kernel
theorem dX12_chair_83 : decode cX12_chair 83 = .ok (.if_icmp .ne 7, 3) := by decide +kernel
theorem dX12_chair_86 : decode cX12_chair 86 = .ok (.iconst 1, 1) := by decide +kernel
theorem dX12_chair_87 : decode cX12_chair 87 = .ok (.goto 4, 3) := by decide +kernel
theorem dX12_chair_90 : decode cX12_chair 90 = .ok (.iconst 0, 1) := by decide +kernel
theorem dX12_chair_91 : decode cX12_chair 91 = .ok (.istore 5, 2) := by decide +kernel
theorem dX12_chair_93 : decode cX12_chair 93 = .ok (.iinc 6 1, 3) := by decide +kernel
theorem dX12_chair_96 : decode cX12_chair 96 = .ok (.goto (-38), 3) := by decide +kernel
theorem dX12_chair_99 : decode cX12_chair 99 = .ok (.iload 5, 2) := by decide +kernel
theorem dX12_chair_101 : decode cX12_chair 101 = .ok (.ifCond .eq 27, 3) := by decide +kernel
theorem dX12_chair_104 : decode cX12_chair 104 = .ok (.iload_n 3, 1) := by decide +kernel
theorem dX12_chair_105 : decode cX12_chair 105 = .ok (.iconst (-1), 1) := by decide +kernel
theorem dX12_chair_106 : decode cX12_chair 106 = .ok (.if_icmp .eq 19, 3) := by decide +kernel
theorem dX12_chair_109 : decode cX12_chair 109 = .ok (.aload_n 0, 1) := by decide +kernel
theorem dX12_chair_110 : decode cX12_chair 110 = .ok (.getfield 83, 3) := by decide +kernel
theorem dX12_chair_113 : decode cX12_chair 113 = .ok (.iload 4, 2) := by decide +kernel
theorem dX12_chair_115 : decode cX12_chair 115 = .ok (.iaload, 1) := by decide +kernel
theorem dX12_chair_116 : decode cX12_chair 116 = .ok (.aload_n 0, 1) := by decide +kernel
theorem dX12_chair_117 : decode cX12_chair 117 = .ok (.getfield 83, 3) := by decide +kernel
theorem dX12_chair_120 : decode cX12_chair 120 = .ok (.iload_n 3, 1) := by decide +kernel
theorem dX12_chair_121 : decode cX12_chair 121 = .ok (.iaload, 1) := by decide +kernel
theorem dX12_chair_122 : decode cX12_chair 122 = .ok (.if_icmp .le 6, 3) := by decide +kernel
theorem dX12_chair_125 : decode cX12_chair 125 = .ok (.iload 4, 2) := by decide +kernel
theorem dX12_chair_127 : decode cX12_chair 127 = .ok (.istore_n 3, 1) := by decide +kernel
theorem dX12_chair_128 : decode cX12_chair 128 = .ok (.iinc 4 1, 3) := by decide +kernel
theorem dX12_chair_131 : decode cX12_chair 131 = .ok (.goto (-90), 3) := by decide +kernel
theorem dX12_chair_134 : decode cX12_chair 134 = .ok (.iload_n 3, 1) := by decide +kernel
theorem dX12_chair_135 : decode cX12_chair 135 = .ok (.ireturn, 1) := by decide +kernel
theorem dX12_draws_0 : decode cX12_draws 0 = .ok (.aload_n 0, 1) := by decide +kernel
theorem dX12_draws_1 : decode cX12_draws 1 = .ok (.invokevirtual 334, 3) := by decide +kernel
theorem dX12_draws_4 : decode cX12_draws 4 = .ok (.lload_n 1, 1) := by decide +kernel
theorem dX12_draws_5 : decode cX12_draws 5 = .ok (.lstore_n 3, 1) := by decide +kernel
theorem dX12_draws_6 : decode cX12_draws 6 = .ok (.aload_n 0, 1) := by decide +kernel
theorem dX12_draws_7 : decode cX12_draws 7 = .ok (.invokevirtual 337, 3) := by decide +kernel
theorem dX12_draws_10 : decode cX12_draws 10 = .ok (.istore 5, 2) := by decide +kernel
theorem dX12_draws_12 : decode cX12_draws 12 = .ok (.aload_n 0, 1) := by decide +kernel
theorem dX12_draws_13 : decode cX12_draws 13 = .ok (.iconst 0, 1) := by decide +kernel
theorem dX12_draws_14 : decode cX12_draws 14 = .ok (.putfield 461, 3) := by decide +kernel
theorem dX12_draws_17 : decode cX12_draws 17 = .ok (.aload_n 0, 1) := by decide +kernel
theorem dX12_draws_18 : decode cX12_draws 18 = .ok (.invokevirtual 345, 3) := by decide +kernel
theorem dX12_draws_21 : decode cX12_draws 21 = .ok (.ifCond .ne 128, 3) := by decide +kernel
theorem dX12_draws_24 : decode cX12_draws 24 = .ok (.aload_n 0, 1) := by decide +kernel
theorem dX12_draws_25 : decode cX12_draws 25 = .ok (.invokevirtual 340, 3) := by decide +kernel
theorem dX12_draws_28 : decode cX12_draws 28 = .ok (.iload 5, 2) := by decide +kernel
theorem dX12_draws_30 : decode cX12_draws 30 = .ok (.iconst (-1), 1) := by decide +kernel
theorem dX12_draws_31 : decode cX12_draws 31 = .ok (.ixor, 1) := by decide +kernel
theorem dX12_draws_32 : decode cX12_draws 32 = .ok (.iand, 1) := by decide +kernel
theorem dX12_draws_33 : decode cX12_draws 33 = .ok (.istore 6, 2) := by decide +kernel
theorem dX12_draws_35 : decode cX12_draws 35 = .ok (.iload 6, 2) := by decide +kernel
theorem dX12_draws_37 : decode cX12_draws 37 = .ok (.ifCond .ne 5, 3) := by decide +kernel
theorem dX12_draws_40 : decode cX12_draws 40 = .ok (.iconst (-1), 1) := by decide +kernel
theorem dX12_draws_41 : decode cX12_draws 41 = .ok (.ireturn, 1) := by decide +kernel
theorem dX12_draws_42 : decode cX12_draws 42 = .ok (.ldc2_w 464, 3) := by decide +kernel
theorem dX12_draws_45 : decode cX12_draws 45 = .ok (.lload_n 3, 1) := by decide +kernel
theorem dX12_draws_46 : decode cX12_draws 46 = .ok (.lmul, 1) := by decide +kernel
theorem dX12_draws_47 : decode cX12_draws 47 = .ok (.ldc2_w 466, 3) := by decide +kernel
theorem dX12_draws_50 : decode cX12_draws 50 = .ok (.ladd, 1) := by decide +kernel
theorem dX12_draws_51 : decode cX12_draws 51 = .ok (.ldc2_w 468, 3) := by decide +kernel
theorem dX12_draws_54 : decode cX12_draws 54 = .ok (.lrem, 1) := by decide +kernel
theorem dX12_draws_55 : decode cX12_draws 55 = .ok (.lstore_n 3, 1) := by decide +kernel
theorem dX12_draws_56 : decode cX12_draws 56 = .ok (.lload_n 3, 1) := by decide +kernel
theorem dX12_draws_57 : decode cX12_draws 57 = .ok (.ldc2_w 470, 3) := by decide +kernel
theorem dX12_draws_60 : decode cX12_draws 60 = .ok (.ldiv, 1) := by decide +kernel
theorem dX12_draws_61 : decode cX12_draws 61 = .ok (.iload 6, 2) := by decide +kernel
theorem dX12_draws_63 : decode cX12_draws 63 = .ok (.invokestatic 426, 3) := by decide +kernel
theorem dX12_draws_66 : decode cX12_draws 66 = .ok (.i2l, 1) := by decide +kernel
theorem dX12_draws_67 : decode cX12_draws 67 = .ok (.lrem, 1) := by decide +kernel
theorem dX12_draws_68 : decode cX12_draws 68 = .ok (.l2i, 1) := by decide +kernel
theorem dX12_draws_69 : decode cX12_draws 69 = .ok (.istore 7, 2) := by decide +kernel
theorem dX12_draws_71 : decode cX12_draws 71 = .ok (.iconst 0, 1) := by decide +kernel
theorem dX12_draws_72 : decode cX12_draws 72 = .ok (.istore 8, 2) := by decide +kernel
theorem dX12_draws_74 : decode cX12_draws 74 = .ok (.iload 7, 2) := by decide +kernel
theorem dX12_draws_76 : decode cX12_draws 76 = .ok (.ifCond .gt 13, 3) := by decide +kernel
theorem dX12_draws_79 : decode cX12_draws 79 = .ok (.iload 6, 2) := by decide +kernel
theorem dX12_draws_81 : decode cX12_draws 81 = .ok (.iload 8, 2) := by decide +kernel
theorem dX12_draws_83 : decode cX12_draws 83 = .ok (.invokestatic 278, 3) := by decide +kernel
theorem dX12_draws_86 : decode cX12_draws 86 = .ok (.ifCond .ne 29, 3) := by decide +kernel
theorem dX12_draws_89 : decode cX12_draws 89 = .ok (.iload 7, 2) := by decide +kernel
theorem dX12_draws_91 : decode cX12_draws 91 = .ok (.iload 6, 2) := by decide +kernel
theorem dX12_draws_93 : decode cX12_draws 93 = .ok (.iload 8, 2) := by decide +kernel
theorem dX12_draws_95 : decode cX12_draws 95 = .ok (.invokestatic 278, 3) := by decide +kernel
theorem dX12_draws_98 : decode cX12_draws 98 = .ok (.ifCond .eq 7, 3) := by decide +kernel
theorem dX12_draws_101 : decode cX12_draws 101 = .ok (.iconst 1, 1) := by decide +kernel
theorem dX12_draws_102 : decode cX12_draws 102 = .ok (.goto 4, 3) := by decide +kernel
theorem dX12_draws_105 : decode cX12_draws 105 = .ok (.iconst 0, 1) := by decide +kernel
theorem dX12_draws_106 : decode cX12_draws 106 = .ok (.isub, 1) := by decide +kernel
theorem dX12_draws_107 : decode cX12_draws 107 = .ok (.istore 7, 2) := by decide +kernel
theorem dX12_draws_109 : decode cX12_draws 109 = .ok (.iinc 8 1, 3) := by decide +kernel
theorem dX12_draws_112 : decode cX12_draws 112 = .ok (.goto (-38), 3) := by decide +kernel
theorem dX12_draws_115 : decode cX12_draws 115 = .ok (.aload_n 0, 1) := by decide +kernel
theorem dX12_draws_116 : decode cX12_draws 116 = .ok (.iload 8, 2) := by decide +kernel
theorem dX12_draws_118 : decode cX12_draws 118 = .ok (.aload_n 0, 1) := by decide +kernel
theorem dX12_draws_119 : decode cX12_draws 119 = .ok (.iload 8, 2) := by decide +kernel
theorem dX12_draws_121 : decode cX12_draws 121 = .ok (.invokevirtual 328, 3) := by decide +kernel
theorem dX12_draws_124 : decode cX12_draws 124 = .ok (.invokevirtual 331, 3) := by decide +kernel
theorem dX12_draws_127 : decode cX12_draws 127 = .ok (.iload 5, 2) := by decide +kernel
theorem dX12_draws_129 : decode cX12_draws 129 = .ok (.iconst 1, 1) := by decide +kernel
theorem dX12_draws_130 : decode cX12_draws 130 = .ok (.iload 8, 2) := by decide +kernel
theorem dX12_draws_132 : decode cX12_draws 132 = .ok (.ishl, 1) := by decide +kernel
theorem dX12_draws_133 : decode cX12_draws 133 = .ok (.ior, 1) := by decide +kernel
theorem dX12_draws_134 : decode cX12_draws 134 = .ok (.istore 5, 2) := by decide +kernel
theorem dX12_draws_136 : decode cX12_draws 136 = .ok (.aload_n 0, 1) := by decide +kernel
theorem dX12_draws_137 : decode cX12_draws 137 = .ok (.dup, 1) := by decide +kernel
theorem dX12_draws_138 : decode cX12_draws 138 = .ok (.getfield 461, 3) := by decide +kernel
theorem dX12_draws_141 : decode cX12_draws 141 = .ok (.iconst 1, 1) := by decide +kernel
theorem dX12_draws_142 : decode cX12_draws 142 = .ok (.iadd, 1) := by decide +kernel
theorem dX12_draws_143 : decode cX12_draws 143 = .ok (.putfield 461, 3) := by decide +kernel
theorem dX12_draws_146 : decode cX12_draws 146 = .ok (.goto (-129), 3) := by decide +kernel
theorem dX12_draws_149 : decode cX12_draws 149 = .ok (.aload_n 0, 1) := by decide +kernel
theorem dX12_draws_150 : decode cX12_draws 150 = .ok (.getfield 300, 3) := by decide +kernel
theorem dX12_draws_153 : decode cX12_draws 153 = .ok (.ireturn, 1) := by decide +kernel
theorem dX12_isSeed_0 : decode cX12_isSeed 0 = .ok (.aload_n 0, 1) := by decide +kernel
theorem dX12_isSeed_1 : decode cX12_isSeed 1 = .ok (.invokevirtual 267, 3) := by decide +kernel
theorem dX12_isSeed_4 : decode cX12_isSeed 4 = .ok (.ifCond .eq 19, 3) := by decide +kernel
theorem dX12_isSeed_7 : decode cX12_isSeed 7 = .ok (.iload_n 1, 1) := by decide +kernel
theorem dX12_isSeed_8 : decode cX12_isSeed 8 = .ok (.i2l, 1) := by decide +kernel
theorem dX12_isSeed_9 : decode cX12_isSeed 9 = .ok (.lconst 0, 1) := by decide +kernel
theorem dX12_isSeed_10 : decode cX12_isSeed 10 = .ok (.ldc2_w 472, 3) := by decide +kernel
theorem dX12_isSeed_13 : decode cX12_isSeed 13 = .ok (.invokestatic 94, 3) := by decide +kernel
theorem dX12_isSeed_16 : decode cX12_isSeed 16 = .ok (.ifCond .eq 7, 3) := by decide +kernel
theorem dX12_isSeed_19 : decode cX12_isSeed 19 = .ok (.iconst 1, 1) := by decide +kernel
theorem dX12_isSeed_20 : decode cX12_isSeed 20 = .ok (.goto 4, 3) := by decide +kernel
theorem dX12_isSeed_23 : decode cX12_isSeed 23 = .ok (.iconst 0, 1) := by decide +kernel
theorem dX12_isSeed_24 : decode cX12_isSeed 24 = .ok (.ireturn, 1) := by decide +kernel
theorem dX12_blind_0 : decode cX12_blind 0 = .ok (.aload_n 0, 1) := by decide +kernel
theorem dX12_blind_1 : decode cX12_blind 1 = .ok (.iconst 0, 1) := by decide +kernel
theorem dX12_blind_2 : decode cX12_blind 2 = .ok (.putfield 89, 3) := by decide +kernel
theorem dX12_blind_5 : decode cX12_blind 5 = .ok (.aload_n 0, 1) := by decide +kernel
theorem dX12_blind_6 : decode cX12_blind 6 = .ok (.iload_n 1, 1) := by decide +kernel
theorem dX12_blind_7 : decode cX12_blind 7 = .ok (.invokevirtual 474, 3) := by decide +kernel
theorem dX12_blind_10 : decode cX12_blind 10 = .ok (.ifCond .eq 12, 3) := by decide +kernel
theorem dX12_blind_13 : decode cX12_blind 13 = .ok (.aload_n 0, 1) := by decide +kernel
theorem dX12_blind_14 : decode cX12_blind 14 = .ok (.iload_n 1, 1) := by decide +kernel
theorem dX12_blind_15 : decode cX12_blind 15 = .ok (.i2l, 1) := by decide +kernel
theorem dX12_blind_16 : decode cX12_blind 16 = .ok (.invokevirtual 477, 3) := by decide +kernel
theorem dX12_blind_19 : decode cX12_blind 19 = .ok (.goto 5, 3) := by decide +kernel
theorem dX12_blind_22 : decode cX12_blind 22 = .ok (.bipush (-2), 2) := by decide +kernel
theorem dX12_blind_24 : decode cX12_blind 24 = .ok (.ireturn, 1) := by decide +kernel
theorem dX12_tries_0 : decode cX12_tries 0 = .ok (.aload_n 0, 1) := by decide +kernel
theorem dX12_tries_1 : decode cX12_tries 1 = .ok (.iconst 0, 1) := by decide +kernel
theorem dX12_tries_2 : decode cX12_tries 2 = .ok (.putfield 89, 3) := by decide +kernel
theorem dX12_tries_5 : decode cX12_tries 5 = .ok (.aload_n 0, 1) := by decide +kernel
theorem dX12_tries_6 : decode cX12_tries 6 = .ok (.iload_n 1, 1) := by decide +kernel
theorem dX12_tries_7 : decode cX12_tries 7 = .ok (.invokevirtual 474, 3) := by decide +kernel
theorem dX12_tries_10 : decode cX12_tries 10 = .ok (.ifCond .ne 6, 3) := by decide +kernel
theorem dX12_tries_13 : decode cX12_tries 13 = .ok (.bipush (-2), 2) := by decide +kernel
theorem dX12_tries_15 : decode cX12_tries 15 = .ok (.ireturn, 1) := by decide +kernel
theorem dX12_tries_16 : decode cX12_tries 16 = .ok (.aload_n 0, 1) := by decide +kernel
theorem dX12_tries_17 : decode cX12_tries 17 = .ok (.iload_n 1, 1) := by decide +kernel
theorem dX12_tries_18 : decode cX12_tries 18 = .ok (.i2l, 1) := by decide +kernel
theorem dX12_tries_19 : decode cX12_tries 19 = .ok (.invokevirtual 477, 3) := by decide +kernel
theorem dX12_tries_22 : decode cX12_tries 22 = .ok (.pop, 1) := by decide +kernel
theorem dX12_tries_23 : decode cX12_tries 23 = .ok (.aload_n 0, 1) := by decide +kernel
theorem dX12_tries_24 : decode cX12_tries 24 = .ok (.getfield 461, 3) := by decide +kernel
theorem dX12_tries_27 : decode cX12_tries 27 = .ok (.ireturn, 1) := by decide +kernel
theorem dX12_luck_0 : decode cX12_luck 0 = .ok (.aload_n 0, 1) := by decide +kernel
theorem dX12_luck_1 : decode cX12_luck 1 = .ok (.iconst 0, 1) := by decide +kernel
theorem dX12_luck_2 : decode cX12_luck 2 = .ok (.putfield 89, 3) := by decide +kernel
theorem dX12_luck_5 : decode cX12_luck 5 = .ok (.aload_n 0, 1) := by decide +kernel
theorem dX12_luck_6 : decode cX12_luck 6 = .ok (.iload_n 1, 1) := by decide +kernel
theorem dX12_luck_7 : decode cX12_luck 7 = .ok (.invokevirtual 474, 3) := by decide +kernel
theorem dX12_luck_10 : decode cX12_luck 10 = .ok (.ifCond .eq 15, 3) := by decide +kernel
theorem dX12_luck_13 : decode cX12_luck 13 = .ok (.iload_n 2, 1) := by decide +kernel
theorem dX12_luck_14 : decode cX12_luck 14 = .ok (.i2l, 1) := by decide +kernel
theorem dX12_luck_15 : decode cX12_luck 15 = .ok (.lconst 1, 1) := by decide +kernel
theorem dX12_luck_16 : decode cX12_luck 16 = .ok (.ldc2_w 481, 3) := by decide +kernel
theorem dX12_luck_19 : decode cX12_luck 19 = .ok (.invokestatic 94, 3) := by decide +kernel
theorem dX12_luck_22 : decode cX12_luck 22 = .ok (.ifCond .ne 6, 3) := by decide +kernel
theorem dX12_luck_25 : decode cX12_luck 25 = .ok (.bipush (-2), 2) := by decide +kernel
theorem dX12_luck_27 : decode cX12_luck 27 = .ok (.ireturn, 1) := by decide +kernel
theorem dX12_luck_28 : decode cX12_luck 28 = .ok (.iconst 0, 1) := by decide +kernel
theorem dX12_luck_29 : decode cX12_luck 29 = .ok (.istore_n 3, 1) := by decide +kernel
theorem dX12_luck_30 : decode cX12_luck 30 = .ok (.iconst 0, 1) := by decide +kernel
theorem dX12_luck_31 : decode cX12_luck 31 = .ok (.istore 4, 2) := by decide +kernel
theorem dX12_luck_33 : decode cX12_luck 33 = .ok (.iload 4, 2) := by decide +kernel
theorem dX12_luck_35 : decode cX12_luck 35 = .ok (.iload_n 2, 1) := by decide +kernel
theorem dX12_luck_36 : decode cX12_luck 36 = .ok (.if_icmp .ge 31, 3) := by decide +kernel
theorem dX12_luck_39 : decode cX12_luck 39 = .ok (.iload_n 3, 1) := by decide +kernel
theorem dX12_luck_40 : decode cX12_luck 40 = .ok (.aload_n 0, 1) := by decide +kernel
theorem dX12_luck_41 : decode cX12_luck 41 = .ok (.iload_n 1, 1) := by decide +kernel
theorem dX12_luck_42 : decode cX12_luck 42 = .ok (.i2l, 1) := by decide +kernel
theorem dX12_luck_43 : decode cX12_luck 43 = .ok (.iload 4, 2) := by decide +kernel
theorem dX12_luck_45 : decode cX12_luck 45 = .ok (.i2l, 1) := by decide +kernel
theorem dX12_luck_46 : decode cX12_luck 46 = .ok (.ladd, 1) := by decide +kernel
theorem dX12_luck_47 : decode cX12_luck 47 = .ok (.invokevirtual 477, 3) := by decide +kernel
theorem dX12_luck_50 : decode cX12_luck 50 = .ok (.iconst (-1), 1) := by decide +kernel
theorem dX12_luck_51 : decode cX12_luck 51 = .ok (.if_icmp .eq 7, 3) := by decide +kernel
theorem dX12_luck_54 : decode cX12_luck 54 = .ok (.iconst 1, 1) := by decide +kernel
theorem dX12_luck_55 : decode cX12_luck 55 = .ok (.goto 4, 3) := by decide +kernel
theorem dX12_luck_58 : decode cX12_luck 58 = .ok (.iconst 0, 1) := by decide +kernel
theorem dX12_luck_59 : decode cX12_luck 59 = .ok (.iadd, 1) := by decide +kernel
theorem dX12_luck_60 : decode cX12_luck 60 = .ok (.istore_n 3, 1) := by decide +kernel
theorem dX12_luck_61 : decode cX12_luck 61 = .ok (.iinc 4 1, 3) := by decide +kernel
theorem dX12_luck_64 : decode cX12_luck 64 = .ok (.goto (-31), 3) := by decide +kernel
theorem dX12_luck_67 : decode cX12_luck 67 = .ok (.iload_n 3, 1) := by decide +kernel
theorem dX12_luck_68 : decode cX12_luck 68 = .ok (.ireturn, 1) := by decide +kernel
theorem dX12_common_0 : decode cX12_common 0 = .ok (.iload_n 1, 1) := by decide +kernel
theorem dX12_common_1 : decode cX12_common 1 = .ok (.ifCond .ne 7, 3) := by decide +kernel
theorem dX12_common_4 : decode cX12_common 4 = .ok (.iload_n 0, 1) := by decide +kernel
theorem dX12_common_5 : decode cX12_common 5 = .ok (.goto 10, 3) := by decide +kernel
theorem dX12_common_8 : decode cX12_common 8 = .ok (.iload_n 1, 1) := by decide +kernel
theorem dX12_common_9 : decode cX12_common 9 = .ok (.iload_n 0, 1) := by decide +kernel
theorem dX12_common_10 : decode cX12_common 10 = .ok (.iload_n 1, 1) := by decide +kernel
theorem dX12_common_11 : decode cX12_common 11 = .ok (.irem, 1) := by decide +kernel
theorem dX12_common_12 : decode cX12_common 12 = .ok (.invokestatic 483, 3) := by decide +kernel
theorem dX12_common_15 : decode cX12_common 15 = .ok (.ireturn, 1) := by decide +kernel
theorem dX12_worth_0 : decode cX12_worth 0 = .ok (.aload_n 0, 1) := by decide +kernel
theorem dX12_worth_1 : decode cX12_worth 1 = .ok (.iconst 0, 1) := by decide +kernel
theorem dX12_worth_2 : decode cX12_worth 2 = .ok (.putfield 89, 3) := by decide +kernel
theorem dX12_worth_5 : decode cX12_worth 5 = .ok (.aload_n 0, 1) := by decide +kernel
theorem dX12_worth_6 : decode cX12_worth 6 = .ok (.iload_n 1, 1) := by decide +kernel
theorem dX12_worth_7 : decode cX12_worth 7 = .ok (.invokevirtual 474, 3) := by decide +kernel
theorem dX12_worth_10 : decode cX12_worth 10 = .ok (.ifCond .eq 25, 3) := by decide +kernel
theorem dX12_worth_13 : decode cX12_worth 13 = .ok (.iload_n 2, 1) := by decide +kernel
theorem dX12_worth_14 : decode cX12_worth 14 = .ok (.i2l, 1) := by decide +kernel
theorem dX12_worth_15 : decode cX12_worth 15 = .ok (.lconst 1, 1) := by decide +kernel
theorem dX12_worth_16 : decode cX12_worth 16 = .ok (.ldc2_w 481, 3) := by decide +kernel
theorem dX12_worth_19 : decode cX12_worth 19 = .ok (.invokestatic 94, 3) := by decide +kernel
theorem dX12_worth_22 : decode cX12_worth 22 = .ok (.ifCond .eq 13, 3) := by decide +kernel
theorem dX12_worth_25 : decode cX12_worth 25 = .ok (.iload_n 3, 1) := by decide +kernel
theorem dX12_worth_26 : decode cX12_worth 26 = .ok (.i2l, 1) := by decide +kernel
theorem dX12_worth_27 : decode cX12_worth 27 = .ok (.lconst 0, 1) := by decide +kernel
theorem dX12_worth_28 : decode cX12_worth 28 = .ok (.lconst 1, 1) := by decide +kernel
theorem dX12_worth_29 : decode cX12_worth 29 = .ok (.invokestatic 94, 3) := by decide +kernel
theorem dX12_worth_32 : decode cX12_worth 32 = .ok (.ifCond .ne 6, 3) := by decide +kernel
theorem dX12_worth_35 : decode cX12_worth 35 = .ok (.bipush (-2), 2) := by decide +kernel
theorem dX12_worth_37 : decode cX12_worth 37 = .ok (.ireturn, 1) := by decide +kernel
theorem dX12_worth_38 : decode cX12_worth 38 = .ok (.aload_n 0, 1) := by decide +kernel
theorem dX12_worth_39 : decode cX12_worth 39 = .ok (.iconst 0, 1) := by decide +kernel
theorem dX12_worth_40 : decode cX12_worth 40 = .ok (.invokevirtual 385, 3) := by decide +kernel
theorem dX12_worth_43 : decode cX12_worth 43 = .ok (.istore 4, 2) := by decide +kernel
theorem dX12_worth_45 : decode cX12_worth 45 = .ok (.iconst 0, 1) := by decide +kernel
theorem dX12_worth_46 : decode cX12_worth 46 = .ok (.istore 5, 2) := by decide +kernel
theorem dX12_worth_48 : decode cX12_worth 48 = .ok (.iconst 0, 1) := by decide +kernel
theorem dX12_worth_49 : decode cX12_worth 49 = .ok (.istore 6, 2) := by decide +kernel
theorem dX12_worth_51 : decode cX12_worth 51 = .ok (.iconst 0, 1) := by decide +kernel
theorem dX12_worth_52 : decode cX12_worth 52 = .ok (.istore 7, 2) := by decide +kernel
theorem dX12_worth_54 : decode cX12_worth 54 = .ok (.iload 7, 2) := by decide +kernel
theorem dX12_worth_56 : decode cX12_worth 56 = .ok (.iload_n 2, 1) := by decide +kernel
theorem dX12_worth_57 : decode cX12_worth 57 = .ok (.if_icmp .ge 43, 3) := by decide +kernel
theorem dX12_worth_60 : decode cX12_worth 60 = .ok (.aload_n 0, 1) := by decide +kernel
theorem dX12_worth_61 : decode cX12_worth 61 = .ok (.iload_n 1, 1) := by decide +kernel
theorem dX12_worth_62 : decode cX12_worth 62 = .ok (.i2l, 1) := by decide +kernel
theorem dX12_worth_63 : decode cX12_worth 63 = .ok (.iload 7, 2) := by decide +kernel
theorem dX12_worth_65 : decode cX12_worth 65 = .ok (.i2l, 1) := by decide +kernel
theorem dX12_worth_66 : decode cX12_worth 66 = .ok (.ladd, 1) := by decide +kernel
theorem dX12_worth_67 : decode cX12_worth 67 = .ok (.invokevirtual 477, 3) := by decide +kernel
theorem dX12_worth_70 : decode cX12_worth 70 = .ok (.istore 8, 2) := by decide +kernel
theorem dX12_worth_72 : decode cX12_worth 72 = .ok (.iload 8, 2) := by decide +kernel
theorem dX12_worth_74 : decode cX12_worth 74 = .ok (.iconst (-1), 1) := by decide +kernel
theorem dX12_worth_75 : decode cX12_worth 75 = .ok (.if_icmp .ne 6, 3) := by decide +kernel
theorem dX12_worth_78 : decode cX12_worth 78 = .ok (.goto 16, 3) := by decide +kernel
theorem dX12_worth_81 : decode cX12_worth 81 = .ok (.iload 5, 2) := by decide +kernel
theorem dX12_worth_83 : decode cX12_worth 83 = .ok (.iload 8, 2) := by decide +kernel
theorem dX12_worth_85 : decode cX12_worth 85 = .ok (.iload 4, 2) := by decide +kernel
theorem dX12_worth_87 : decode cX12_worth 87 = .ok (.isub, 1) := by decide +kernel
theorem dX12_worth_88 : decode cX12_worth 88 = .ok (.iadd, 1) := by decide +kernel
theorem dX12_worth_89 : decode cX12_worth 89 = .ok (.istore 5, 2) := by decide +kernel
theorem dX12_worth_91 : decode cX12_worth 91 = .ok (.iinc 6 1, 3) := by decide +kernel
theorem dX12_worth_94 : decode cX12_worth 94 = .ok (.iinc 7 1, 3) := by decide +kernel
theorem dX12_worth_97 : decode cX12_worth 97 = .ok (.goto (-43), 3) := by decide +kernel
theorem dX12_worth_100 : decode cX12_worth 100 = .ok (.iload 6, 2) := by decide +kernel
theorem dX12_worth_102 : decode cX12_worth 102 = .ok (.ifCond .ne 7, 3) := by decide +kernel
theorem dX12_worth_105 : decode cX12_worth 105 = .ok (.iconst (-1), 1) := by decide +kernel
theorem dX12_worth_106 : decode cX12_worth 106 = .ok (.goto 22, 3) := by decide +kernel
theorem dX12_worth_109 : decode cX12_worth 109 = .ok (.iload_n 3, 1) := by decide +kernel
theorem dX12_worth_110 : decode cX12_worth 110 = .ok (.ifCond .ne 8, 3) := by decide +kernel
theorem dX12_worth_113 : decode cX12_worth 113 = .ok (.iload 5, 2) := by decide +kernel
theorem dX12_worth_115 : decode cX12_worth 115 = .ok (.goto 5, 3) := by decide +kernel
theorem dX12_worth_118 : decode cX12_worth 118 = .ok (.iload 6, 2) := by decide +kernel
theorem dX12_worth_120 : decode cX12_worth 120 = .ok (.iload 5, 2) := by decide +kernel
theorem dX12_worth_122 : decode cX12_worth 122 = .ok (.iload 6, 2) := by decide +kernel
theorem dX12_worth_124 : decode cX12_worth 124 = .ok (.invokestatic 483, 3) := by decide +kernel
theorem dX12_worth_127 : decode cX12_worth 127 = .ok (.idiv, 1) := by decide +kernel
theorem dX12_worth_128 : decode cX12_worth 128 = .ok (.ireturn, 1) := by decide +kernel
theorem dX12_ask_0 : decode cX12_ask 0 = .ok (.aload_n 0, 1) := by decide +kernel
theorem dX12_ask_1 : decode cX12_ask 1 = .ok (.iconst 0, 1) := by decide +kernel
theorem dX12_ask_2 : decode cX12_ask 2 = .ok (.putfield 89, 3) := by decide +kernel
theorem dX12_ask_5 : decode cX12_ask 5 = .ok (.aload_n 0, 1) := by decide +kernel
theorem dX12_ask_6 : decode cX12_ask 6 = .ok (.iload_n 1, 1) := by decide +kernel
theorem dX12_ask_7 : decode cX12_ask 7 = .ok (.i2l, 1) := by decide +kernel
theorem dX12_ask_8 : decode cX12_ask 8 = .ok (.invokevirtual 270, 3) := by decide +kernel
theorem dX12_ask_11 : decode cX12_ask 11 = .ok (.ifCond .eq 38, 3) := by decide +kernel
theorem dX12_ask_14 : decode cX12_ask 14 = .ok (.aload_n 0, 1) := by decide +kernel
theorem dX12_ask_15 : decode cX12_ask 15 = .ok (.iload_n 2, 1) := by decide +kernel
theorem dX12_ask_16 : decode cX12_ask 16 = .ok (.i2l, 1) := by decide +kernel
theorem dX12_ask_17 : decode cX12_ask 17 = .ok (.invokevirtual 270, 3) := by decide +kernel
theorem dX12_ask_20 : decode cX12_ask 20 = .ok (.ifCond .eq 29, 3) := by decide +kernel
theorem dX12_ask_23 : decode cX12_ask 23 = .ok (.iload_n 1, 1) := by decide +kernel
theorem dX12_ask_24 : decode cX12_ask 24 = .ok (.iload_n 2, 1) := by decide +kernel
theorem dX12_ask_25 : decode cX12_ask 25 = .ok (.if_icmp .eq 24, 3) := by decide +kernel
theorem dX12_ask_28 : decode cX12_ask 28 = .ok (.iload_n 3, 1) := by decide +kernel
theorem dX12_ask_29 : decode cX12_ask 29 = .ok (.i2l, 1) := by decide +kernel
theorem dX12_ask_30 : decode cX12_ask 30 = .ok (.lconst 0, 1) := by decide +kernel
theorem dX12_ask_31 : decode cX12_ask 31 = .ok (.lconst 1, 1) := by decide +kernel
theorem dX12_ask_32 : decode cX12_ask 32 = .ok (.invokestatic 94, 3) := by decide +kernel
theorem dX12_ask_35 : decode cX12_ask 35 = .ok (.ifCond .eq 14, 3) := by decide +kernel
theorem dX12_ask_38 : decode cX12_ask 38 = .ok (.iload 4, 2) := by decide +kernel
theorem dX12_ask_40 : decode cX12_ask 40 = .ok (.i2l, 1) := by decide +kernel
theorem dX12_ask_41 : decode cX12_ask 41 = .ok (.lconst 0, 1) := by decide +kernel
theorem dX12_ask_42 : decode cX12_ask 42 = .ok (.lconst 1, 1) := by decide +kernel
theorem dX12_ask_43 : decode cX12_ask 43 = .ok (.invokestatic 94, 3) := by decide +kernel
theorem dX12_ask_46 : decode cX12_ask 46 = .ok (.ifCond .ne 6, 3) := by decide +kernel
theorem dX12_ask_49 : decode cX12_ask 49 = .ok (.bipush (-2), 2) := by decide +kernel
theorem dX12_ask_51 : decode cX12_ask 51 = .ok (.ireturn, 1) := by decide +kernel
theorem dX12_ask_52 : decode cX12_ask 52 = .ok (.aload_n 0, 1) := by decide +kernel
theorem dX12_ask_53 : decode cX12_ask 53 = .ok (.getfield 34, 3) := by decide +kernel
theorem dX12_ask_56 : decode cX12_ask 56 = .ok (.iconst 5, 1) := by decide +kernel
theorem dX12_ask_57 : decode cX12_ask 57 = .ok (.iaload, 1) := by decide +kernel
theorem dX12_ask_58 : decode cX12_ask 58 = .ok (.ifCond .le 6, 3) := by decide +kernel
theorem dX12_ask_61 : decode cX12_ask 61 = .ok (.bipush (-5), 2) := by decide +kernel
theorem dX12_ask_63 : decode cX12_ask 63 = .ok (.ireturn, 1) := by decide +kernel
theorem dX12_ask_64 : decode cX12_ask 64 = .ok (.iload_n 3, 1) := by decide +kernel
theorem dX12_ask_65 : decode cX12_ask 65 = .ok (.ifCond .ne 10, 3) := by decide +kernel
theorem dX12_ask_68 : decode cX12_ask 68 = .ok (.aload_n 0, 1) := by decide +kernel
theorem dX12_ask_69 : decode cX12_ask 69 = .ok (.getfield 40, 3) := by decide +kernel
theorem dX12_ask_72 : decode cX12_ask 72 = .ok (.goto 7, 3) := by decide +kernel
theorem dX12_ask_75 : decode cX12_ask 75 = .ok (.aload_n 0, 1) := by decide +kernel
theorem dX12_ask_76 : decode cX12_ask 76 = .ok (.getfield 43, 3) := by decide +kernel
theorem dX12_ask_79 : decode cX12_ask 79 = .ok (.astore 5, 2) := by decide +kernel
theorem dX12_ask_81 : decode cX12_ask 81 = .ok (.aload 5, 2) := by decide +kernel
theorem dX12_ask_83 : decode cX12_ask 83 = .ok (.iload_n 1, 1) := by decide +kernel
theorem dX12_ask_84 : decode cX12_ask 84 = .ok (.iaload, 1) := by decide +kernel
theorem dX12_ask_85 : decode cX12_ask 85 = .ok (.iload_n 2, 1) := by decide +kernel
theorem dX12_ask_86 : decode cX12_ask 86 = .ok (.ishr, 1) := by decide +kernel
theorem dX12_ask_87 : decode cX12_ask 87 = .ok (.iconst 1, 1) := by decide +kernel
theorem dX12_ask_88 : decode cX12_ask 88 = .ok (.iand, 1) := by decide +kernel
theorem dX12_ask_89 : decode cX12_ask 89 = .ok (.istore 6, 2) := by decide +kernel
theorem dX12_ask_91 : decode cX12_ask 91 = .ok (.aload 5, 2) := by decide +kernel
theorem dX12_ask_93 : decode cX12_ask 93 = .ok (.iload_n 1, 1) := by decide +kernel
theorem dX12_ask_94 : decode cX12_ask 94 = .ok (.iload 4, 2) := by decide +kernel
theorem dX12_ask_96 : decode cX12_ask 96 = .ok (.iconst 1, 1) := by decide +kernel
theorem dX12_ask_97 : decode cX12_ask 97 = .ok (.if_icmp .ne 14, 3) := by decide +kernel
theorem dX12_ask_100 : decode cX12_ask 100 = .ok (.aload 5, 2) := by decide +kernel
theorem dX12_ask_102 : decode cX12_ask 102 = .ok (.iload_n 1, 1) := by decide +kernel
theorem dX12_ask_103 : decode cX12_ask 103 = .ok (.iaload, 1) := by decide +kernel
theorem dX12_ask_104 : decode cX12_ask 104 = .ok (.iconst 1, 1) := by decide +kernel
theorem dX12_ask_105 : decode cX12_ask 105 = .ok (.iload_n 2, 1) := by decide +kernel
theorem dX12_ask_106 : decode cX12_ask 106 = .ok (.ishl, 1) := by decide +kernel
theorem dX12_ask_107 : decode cX12_ask 107 = .ok (.ior, 1) := by decide +kernel
theorem dX12_ask_108 : decode cX12_ask 108 = .ok (.goto 13, 3) := by decide +kernel
theorem dX12_ask_111 : decode cX12_ask 111 = .ok (.aload 5, 2) := by decide +kernel
theorem dX12_ask_113 : decode cX12_ask 113 = .ok (.iload_n 1, 1) := by decide +kernel
theorem dX12_ask_114 : decode cX12_ask 114 = .ok (.iaload, 1) := by decide +kernel
theorem dX12_ask_115 : decode cX12_ask 115 = .ok (.iconst 1, 1) := by decide +kernel
theorem dX12_ask_116 : decode cX12_ask 116 = .ok (.iload_n 2, 1) := by decide +kernel
theorem dX12_ask_117 : decode cX12_ask 117 = .ok (.ishl, 1) := by decide +kernel
theorem dX12_ask_118 : decode cX12_ask 118 = .ok (.iconst (-1), 1) := by decide +kernel
theorem dX12_ask_119 : decode cX12_ask 119 = .ok (.ixor, 1) := by decide +kernel
theorem dX12_ask_120 : decode cX12_ask 120 = .ok (.iand, 1) := by decide +kernel
theorem dX12_ask_121 : decode cX12_ask 121 = .ok (.iastore, 1) := by decide +kernel
theorem dX12_ask_122 : decode cX12_ask 122 = .ok (.iload 6, 2) := by decide +kernel
theorem dX12_ask_124 : decode cX12_ask 124 = .ok (.ireturn, 1) := by decide +kernel
theorem dX12_leave_0 : decode cX12_leave 0 = .ok (.aload_n 0, 1) := by decide +kernel
theorem dX12_leave_1 : decode cX12_leave 1 = .ok (.iconst 0, 1) := by decide +kernel
theorem dX12_leave_2 : decode cX12_leave 2 = .ok (.putfield 89, 3) := by decide +kernel
theorem dX12_leave_5 : decode cX12_leave 5 = .ok (.iload_n 2, 1) := by decide +kernel
theorem dX12_leave_6 : decode cX12_leave 6 = .ok (.iconst (-1), 1) := by decide +kernel
theorem dX12_leave_7 : decode cX12_leave 7 = .ok (.if_icmp .ne 12, 3) := by decide +kernel
theorem dX12_leave_10 : decode cX12_leave 10 = .ok (.iload_n 3, 1) := by decide +kernel
theorem dX12_leave_11 : decode cX12_leave 11 = .ok (.iconst (-1), 1) := by decide +kernel
theorem dX12_leave_12 : decode cX12_leave 12 = .ok (.if_icmp .ne 7, 3) := by decide +kernel
theorem dX12_leave_15 : decode cX12_leave 15 = .ok (.iconst 1, 1) := by decide +kernel
theorem dX12_leave_16 : decode cX12_leave 16 = .ok (.goto 4, 3) := by decide +kernel
theorem dX12_leave_19 : decode cX12_leave 19 = .ok (.iconst 0, 1) := by decide +kernel
theorem dX12_leave_20 : decode cX12_leave 20 = .ok (.istore 4, 2) := by decide +kernel
theorem dX12_leave_22 : decode cX12_leave 22 = .ok (.aload_n 0, 1) := by decide +kernel
theorem dX12_leave_23 : decode cX12_leave 23 = .ok (.iload_n 1, 1) := by decide +kernel
theorem dX12_leave_24 : decode cX12_leave 24 = .ok (.i2l, 1) := by decide +kernel
theorem dX12_leave_25 : decode cX12_leave 25 = .ok (.invokevirtual 270, 3) := by decide +kernel
theorem dX12_leave_28 : decode cX12_leave 28 = .ok (.ifCond .eq 33, 3) := by decide +kernel
theorem dX12_leave_31 : decode cX12_leave 31 = .ok (.iload 4, 2) := by decide +kernel
theorem dX12_leave_33 : decode cX12_leave 33 = .ok (.ifCond .ne 31, 3) := by decide +kernel
theorem dX12_leave_36 : decode cX12_leave 36 = .ok (.iload_n 2, 1) := by decide +kernel
theorem dX12_leave_37 : decode cX12_leave 37 = .ok (.i2l, 1) := by decide +kernel
theorem dX12_leave_38 : decode cX12_leave 38 = .ok (.lconst 0, 1) := by decide +kernel
theorem dX12_leave_39 : decode cX12_leave 39 = .ok (.ldc2_w 486, 3) := by decide +kernel
theorem dX12_leave_42 : decode cX12_leave 42 = .ok (.invokestatic 94, 3) := by decide +kernel
theorem dX12_leave_45 : decode cX12_leave 45 = .ok (.ifCond .eq 16, 3) := by decide +kernel
theorem dX12_leave_48 : decode cX12_leave 48 = .ok (.iload_n 3, 1) := by decide +kernel
theorem dX12_leave_49 : decode cX12_leave 49 = .ok (.i2l, 1) := by decide +kernel
theorem dX12_leave_50 : decode cX12_leave 50 = .ok (.iload_n 2, 1) := by decide +kernel
theorem dX12_leave_51 : decode cX12_leave 51 = .ok (.i2l, 1) := by decide +kernel
theorem dX12_leave_52 : decode cX12_leave 52 = .ok (.ldc2_w 486, 3) := by decide +kernel
theorem dX12_leave_55 : decode cX12_leave 55 = .ok (.invokestatic 94, 3) := by decide +kernel
theorem dX12_leave_58 : decode cX12_leave 58 = .ok (.ifCond .ne 6, 3) := by decide +kernel
theorem dX12_leave_61 : decode cX12_leave 61 = .ok (.bipush (-2), 2) := by decide +kernel
theorem dX12_leave_63 : decode cX12_leave 63 = .ok (.ireturn, 1) := by decide +kernel
theorem dX12_leave_64 : decode cX12_leave 64 = .ok (.aload_n 0, 1) := by decide +kernel
theorem dX12_leave_65 : decode cX12_leave 65 = .ok (.getfield 34, 3) := by decide +kernel
theorem dX12_leave_68 : decode cX12_leave 68 = .ok (.iconst 5, 1) := by decide +kernel
theorem dX12_leave_69 : decode cX12_leave 69 = .ok (.iaload, 1) := by decide +kernel
theorem dX12_leave_70 : decode cX12_leave 70 = .ok (.ifCond .le 6, 3) := by decide +kernel
theorem dX12_leave_73 : decode cX12_leave 73 = .ok (.bipush (-5), 2) := by decide +kernel
theorem dX12_leave_75 : decode cX12_leave 75 = .ok (.ireturn, 1) := by decide +kernel
theorem dX12_leave_76 : decode cX12_leave 76 = .ok (.aload_n 0, 1) := by decide +kernel
theorem dX12_leave_77 : decode cX12_leave 77 = .ok (.getfield 37, 3) := by decide +kernel
theorem dX12_leave_80 : decode cX12_leave 80 = .ok (.bipush 9, 2) := by decide +kernel
theorem dX12_leave_82 : decode cX12_leave 82 = .ok (.iload_n 1, 1) := by decide +kernel
theorem dX12_leave_83 : decode cX12_leave 83 = .ok (.imul, 1) := by decide +kernel
theorem dX12_leave_84 : decode cX12_leave 84 = .ok (.bipush 7, 2) := by decide +kernel
theorem dX12_leave_86 : decode cX12_leave 86 = .ok (.iadd, 1) := by decide +kernel
theorem dX12_leave_87 : decode cX12_leave 87 = .ok (.iload_n 2, 1) := by decide +kernel
theorem dX12_leave_88 : decode cX12_leave 88 = .ok (.iastore, 1) := by decide +kernel
theorem dX12_leave_89 : decode cX12_leave 89 = .ok (.aload_n 0, 1) := by decide +kernel
theorem dX12_leave_90 : decode cX12_leave 90 = .ok (.getfield 37, 3) := by decide +kernel
theorem dX12_leave_93 : decode cX12_leave 93 = .ok (.bipush 9, 2) := by decide +kernel
theorem dX12_leave_95 : decode cX12_leave 95 = .ok (.iload_n 1, 1) := by decide +kernel
theorem dX12_leave_96 : decode cX12_leave 96 = .ok (.imul, 1) := by decide +kernel
theorem dX12_leave_97 : decode cX12_leave 97 = .ok (.bipush 8, 2) := by decide +kernel
theorem dX12_leave_99 : decode cX12_leave 99 = .ok (.iadd, 1) := by decide +kernel
theorem dX12_leave_100 : decode cX12_leave 100 = .ok (.iload_n 3, 1) := by decide +kernel
theorem dX12_leave_101 : decode cX12_leave 101 = .ok (.iastore, 1) := by decide +kernel
theorem dX12_leave_102 : decode cX12_leave 102 = .ok (.iconst 0, 1) := by decide +kernel
theorem dX12_leave_103 : decode cX12_leave 103 = .ok (.ireturn, 1) := by decide +kernel
theorem dX12_wants_0 : decode cX12_wants 0 = .ok (.aload_n 0, 1) := by decide +kernel
theorem dX12_wants_1 : decode cX12_wants 1 = .ok (.iconst 0, 1) := by decide +kernel
theorem dX12_wants_2 : decode cX12_wants 2 = .ok (.putfield 89, 3) := by decide +kernel
theorem dX12_wants_5 : decode cX12_wants 5 = .ok (.aload_n 0, 1) := by decide +kernel
theorem dX12_wants_6 : decode cX12_wants 6 = .ok (.iload_n 1, 1) := by decide +kernel
theorem dX12_wants_7 : decode cX12_wants 7 = .ok (.invokevirtual 409, 3) := by decide +kernel
theorem dX12_wants_10 : decode cX12_wants 10 = .ok (.ifCond .ne 6, 3) := by decide +kernel
theorem dX12_wants_13 : decode cX12_wants 13 = .ok (.bipush (-2), 2) := by decide +kernel
theorem dX12_wants_15 : decode cX12_wants 15 = .ok (.ireturn, 1) := by decide +kernel
theorem dX12_wants_16 : decode cX12_wants 16 = .ok (.aload_n 0, 1) := by decide +kernel
theorem dX12_wants_17 : decode cX12_wants 17 = .ok (.getfield 34, 3) := by decide +kernel
theorem dX12_wants_20 : decode cX12_wants 20 = .ok (.iconst 4, 1) := by decide +kernel
theorem dX12_wants_21 : decode cX12_wants 21 = .ok (.iaload, 1) := by decide +kernel
theorem dX12_wants_22 : decode cX12_wants 22 = .ok (.istore_n 2, 1) := by decide +kernel
theorem dX12_wants_23 : decode cX12_wants 23 = .ok (.aload_n 0, 1) := by decide +kernel
theorem dX12_wants_24 : decode cX12_wants 24 = .ok (.getfield 34, 3) := by decide +kernel
theorem dX12_wants_27 : decode cX12_wants 27 = .ok (.iconst 4, 1) := by decide +kernel
theorem dX12_wants_28 : decode cX12_wants 28 = .ok (.iload_n 1, 1) := by decide +kernel
theorem dX12_wants_29 : decode cX12_wants 29 = .ok (.iastore, 1) := by decide +kernel
theorem dX12_wants_30 : decode cX12_wants 30 = .ok (.iload_n 2, 1) := by decide +kernel
theorem dX12_wants_31 : decode cX12_wants 31 = .ok (.ireturn, 1) := by decide +kernel
theorem dX12_count_0 : decode cX12_count 0 = .ok (.aload_n 0, 1) := by decide +kernel
theorem dX12_count_1 : decode cX12_count 1 = .ok (.iconst 0, 1) := by decide +kernel
theorem dX12_count_2 : decode cX12_count 2 = .ok (.putfield 89, 3) := by decide +kernel
theorem dX12_count_5 : decode cX12_count 5 = .ok (.iconst 0, 1) := by decide +kernel
theorem dX12_count_6 : decode cX12_count 6 = .ok (.istore_n 2, 1) := by decide +kernel
theorem dX12_count_7 : decode cX12_count 7 = .ok (.iload_n 1, 1) := by decide +kernel
theorem dX12_count_8 : decode cX12_count 8 = .ok (.tableswitch 189 0 8 #[52, 59, 66, 98, 130, 137, 142, 149, 156], 52) := by decide +kernel
theorem dX12_count_60 : decode cX12_count 60 = .ok (.aload_n 0, 1) := by decide +kernel
theorem dX12_count_61 : decode cX12_count 61 = .ok (.getfield 34, 3) := by decide +kernel
theorem dX12_count_64 : decode cX12_count 64 = .ok (.iconst 3, 1) := by decide +kernel
theorem dX12_count_65 : decode cX12_count 65 = .ok (.iaload, 1) := by decide +kernel
theorem dX12_count_66 : decode cX12_count 66 = .ok (.ireturn, 1) := by decide +kernel
theorem dX12_count_67 : decode cX12_count 67 = .ok (.aload_n 0, 1) := by decide +kernel
theorem dX12_count_68 : decode cX12_count 68 = .ok (.getfield 34, 3) := by decide +kernel
theorem dX12_count_71 : decode cX12_count 71 = .ok (.iconst 0, 1) := by decide +kernel
theorem dX12_count_72 : decode cX12_count 72 = .ok (.iaload, 1) := by decide +kernel
theorem dX12_count_73 : decode cX12_count 73 = .ok (.ireturn, 1) := by decide +kernel
theorem dX12_count_74 : decode cX12_count 74 = .ok (.iconst 0, 1) := by decide +kernel
theorem dX12_count_75 : decode cX12_count 75 = .ok (.istore_n 3, 1) := by decide +kernel
theorem dX12_count_76 : decode cX12_count 76 = .ok (.iload_n 3, 1) := by decide +kernel
theorem dX12_count_77 : decode cX12_count 77 = .ok (.aload_n 0, 1) := by decide +kernel
theorem dX12_count_78 : decode cX12_count 78 = .ok (.getfield 34, 3) := by decide +kernel
theorem dX12_count_81 : decode cX12_count 81 = .ok (.iconst 3, 1) := by decide +kernel
theorem dX12_count_82 : decode cX12_count 82 = .ok (.iaload, 1) := by decide +kernel
theorem dX12_count_83 : decode cX12_count 83 = .ok (.if_icmp .ge 21, 3) := by decide +kernel
theorem dX12_count_86 : decode cX12_count 86 = .ok (.iload_n 2, 1) := by decide +kernel
theorem dX12_count_87 : decode cX12_count 87 = .ok (.aload_n 0, 1) := by decide +kernel
theorem dX12_count_88 : decode cX12_count 88 = .ok (.getfield 40, 3) := by decide +kernel
theorem dX12_count_91 : decode cX12_count 91 = .ok (.iload_n 3, 1) := by decide +kernel
theorem dX12_count_92 : decode cX12_count 92 = .ok (.iaload, 1) := by decide +kernel
theorem dX12_count_93 : decode cX12_count 93 = .ok (.invokestatic 426, 3) := by decide +kernel
theorem dX12_count_96 : decode cX12_count 96 = .ok (.iadd, 1) := by decide +kernel
theorem dX12_count_97 : decode cX12_count 97 = .ok (.istore_n 2, 1) := by decide +kernel
theorem dX12_count_98 : decode cX12_count 98 = .ok (.iinc 3 1, 3) := by decide +kernel
theorem dX12_count_101 : decode cX12_count 101 = .ok (.goto (-25), 3) := by decide +kernel
theorem dX12_count_104 : decode cX12_count 104 = .ok (.iload_n 2, 1) := by decide +kernel
theorem dX12_count_105 : decode cX12_count 105 = .ok (.ireturn, 1) := by decide +kernel
theorem dX12_count_106 : decode cX12_count 106 = .ok (.iconst 0, 1) := by decide +kernel
theorem dX12_count_107 : decode cX12_count 107 = .ok (.istore_n 3, 1) := by decide +kernel
theorem dX12_count_108 : decode cX12_count 108 = .ok (.iload_n 3, 1) := by decide +kernel
theorem dX12_count_109 : decode cX12_count 109 = .ok (.aload_n 0, 1) := by decide +kernel
theorem dX12_count_110 : decode cX12_count 110 = .ok (.getfield 34, 3) := by decide +kernel
theorem dX12_count_113 : decode cX12_count 113 = .ok (.iconst 3, 1) := by decide +kernel
theorem dX12_count_114 : decode cX12_count 114 = .ok (.iaload, 1) := by decide +kernel
theorem dX12_count_115 : decode cX12_count 115 = .ok (.if_icmp .ge 21, 3) := by decide +kernel
theorem dX12_count_118 : decode cX12_count 118 = .ok (.iload_n 2, 1) := by decide +kernel
theorem dX12_count_119 : decode cX12_count 119 = .ok (.aload_n 0, 1) := by decide +kernel
theorem dX12_count_120 : decode cX12_count 120 = .ok (.getfield 43, 3) := by decide +kernel
theorem dX12_count_123 : decode cX12_count 123 = .ok (.iload_n 3, 1) := by decide +kernel
theorem dX12_count_124 : decode cX12_count 124 = .ok (.iaload, 1) := by decide +kernel
theorem dX12_count_125 : decode cX12_count 125 = .ok (.invokestatic 426, 3) := by decide +kernel
theorem dX12_count_128 : decode cX12_count 128 = .ok (.iadd, 1) := by decide +kernel
theorem dX12_count_129 : decode cX12_count 129 = .ok (.istore_n 2, 1) := by decide +kernel
theorem dX12_count_130 : decode cX12_count 130 = .ok (.iinc 3 1, 3) := by decide +kernel
theorem dX12_count_133 : decode cX12_count 133 = .ok (.goto (-25), 3) := by decide +kernel
theorem dX12_count_136 : decode cX12_count 136 = .ok (.iload_n 2, 1) := by decide +kernel
theorem dX12_count_137 : decode cX12_count 137 = .ok (.ireturn, 1) := by decide +kernel
theorem dX12_count_138 : decode cX12_count 138 = .ok (.aload_n 0, 1) := by decide +kernel
theorem dX12_count_139 : decode cX12_count 139 = .ok (.getfield 31, 3) := by decide +kernel
theorem dX12_count_142 : decode cX12_count 142 = .ok (.iconst 0, 1) := by decide +kernel
theorem dX12_count_143 : decode cX12_count 143 = .ok (.iaload, 1) := by decide +kernel
theorem dX12_count_144 : decode cX12_count 144 = .ok (.ireturn, 1) := by decide +kernel
theorem dX12_count_145 : decode cX12_count 145 = .ok (.aload_n 0, 1) := by decide +kernel
theorem dX12_count_146 : decode cX12_count 146 = .ok (.getfield 106, 3) := by decide +kernel
theorem dX12_count_149 : decode cX12_count 149 = .ok (.ireturn, 1) := by decide +kernel
theorem dX12_count_150 : decode cX12_count 150 = .ok (.aload_n 0, 1) := by decide +kernel
theorem dX12_count_151 : decode cX12_count 151 = .ok (.getfield 34, 3) := by decide +kernel
theorem dX12_count_154 : decode cX12_count 154 = .ok (.iconst 5, 1) := by decide +kernel
theorem dX12_count_155 : decode cX12_count 155 = .ok (.iaload, 1) := by decide +kernel
theorem dX12_count_156 : decode cX12_count 156 = .ok (.ireturn, 1) := by decide +kernel
theorem dX12_count_157 : decode cX12_count 157 = .ok (.aload_n 0, 1) := by decide +kernel
theorem dX12_count_158 : decode cX12_count 158 = .ok (.getfield 34, 3) := by decide +kernel
theorem dX12_count_161 : decode cX12_count 161 = .ok (.iconst 2, 1) := by decide +kernel
theorem dX12_count_162 : decode cX12_count 162 = .ok (.iaload, 1) := by decide +kernel
theorem dX12_count_163 : decode cX12_count 163 = .ok (.ireturn, 1) := by decide +kernel
theorem dX12_count_164 : decode cX12_count 164 = .ok (.iconst 0, 1) := by decide +kernel
theorem dX12_count_165 : decode cX12_count 165 = .ok (.istore_n 3, 1) := by decide +kernel
theorem dX12_count_166 : decode cX12_count 166 = .ok (.iload_n 3, 1) := by decide +kernel
theorem dX12_count_167 : decode cX12_count 167 = .ok (.iconst 4, 1) := by decide +kernel
theorem dX12_count_168 : decode cX12_count 168 = .ok (.if_icmp .ge 27, 3) := by decide +kernel
theorem dX12_count_171 : decode cX12_count 171 = .ok (.iload_n 2, 1) := by decide +kernel
theorem dX12_count_172 : decode cX12_count 172 = .ok (.aload_n 0, 1) := by decide +kernel
theorem dX12_count_173 : decode cX12_count 173 = .ok (.getfield 7, 3) := by decide +kernel
theorem dX12_count_176 : decode cX12_count 176 = .ok (.iload_n 3, 1) := by decide +kernel
theorem dX12_count_177 : decode cX12_count 177 = .ok (.iaload, 1) := by decide +kernel
theorem dX12_count_178 : decode cX12_count 178 = .ok (.iconst (-1), 1) := by decide +kernel
theorem dX12_count_179 : decode cX12_count 179 = .ok (.if_icmp .ne 7, 3) := by decide +kernel
theorem dX12_count_182 : decode cX12_count 182 = .ok (.iconst 0, 1) := by decide +kernel
theorem dX12_count_183 : decode cX12_count 183 = .ok (.goto 4, 3) := by decide +kernel
theorem dX12_count_186 : decode cX12_count 186 = .ok (.iconst 1, 1) := by decide +kernel
theorem dX12_count_187 : decode cX12_count 187 = .ok (.iadd, 1) := by decide +kernel
theorem dX12_count_188 : decode cX12_count 188 = .ok (.istore_n 2, 1) := by decide +kernel
theorem dX12_count_189 : decode cX12_count 189 = .ok (.iinc 3 1, 3) := by decide +kernel
theorem dX12_count_192 : decode cX12_count 192 = .ok (.goto (-26), 3) := by decide +kernel
theorem dX12_count_195 : decode cX12_count 195 = .ok (.iload_n 2, 1) := by decide +kernel
theorem dX12_count_196 : decode cX12_count 196 = .ok (.ireturn, 1) := by decide +kernel
theorem dX12_count_197 : decode cX12_count 197 = .ok (.iconst (-1), 1) := by decide +kernel
theorem dX12_count_198 : decode cX12_count 198 = .ok (.ireturn, 1) := by decide +kernel
theorem dX12_keep_0 : decode cX12_keep 0 = .ok (.aload_n 0, 1) := by decide +kernel
theorem dX12_keep_1 : decode cX12_keep 1 = .ok (.iconst 0, 1) := by decide +kernel
theorem dX12_keep_2 : decode cX12_keep 2 = .ok (.putfield 89, 3) := by decide +kernel
theorem dX12_keep_5 : decode cX12_keep 5 = .ok (.iload_n 1, 1) := by decide +kernel
theorem dX12_keep_6 : decode cX12_keep 6 = .ok (.i2l, 1) := by decide +kernel
theorem dX12_keep_7 : decode cX12_keep 7 = .ok (.lconst 0, 1) := by decide +kernel
theorem dX12_keep_8 : decode cX12_keep 8 = .ok (.ldc2_w 488, 3) := by decide +kernel
theorem dX12_keep_11 : decode cX12_keep 11 = .ok (.invokestatic 94, 3) := by decide +kernel
theorem dX12_keep_14 : decode cX12_keep 14 = .ok (.ifCond .ne 6, 3) := by decide +kernel
theorem dX12_keep_17 : decode cX12_keep 17 = .ok (.bipush (-2), 2) := by decide +kernel
theorem dX12_keep_19 : decode cX12_keep 19 = .ok (.ireturn, 1) := by decide +kernel
theorem dX12_keep_20 : decode cX12_keep 20 = .ok (.aload_n 0, 1) := by decide +kernel
theorem dX12_keep_21 : decode cX12_keep 21 = .ok (.iconst 0, 1) := by decide +kernel
theorem dX12_keep_22 : decode cX12_keep 22 = .ok (.iconst 1, 1) := by decide +kernel
theorem dX12_keep_23 : decode cX12_keep 23 = .ok (.iload_n 1, 1) := by decide +kernel
theorem dX12_keep_24 : decode cX12_keep 24 = .ok (.iadd, 1) := by decide +kernel
theorem dX12_keep_25 : decode cX12_keep 25 = .ok (.invokevirtual 258, 3) := by decide +kernel
theorem dX12_keep_28 : decode cX12_keep 28 = .ok (.aload_n 0, 1) := by decide +kernel
theorem dX12_keep_29 : decode cX12_keep 29 = .ok (.getfield 52, 3) := by decide +kernel
theorem dX12_keep_32 : decode cX12_keep 32 = .ok (.iload_n 1, 1) := by decide +kernel
theorem dX12_keep_33 : decode cX12_keep 33 = .ok (.iconst 1, 1) := by decide +kernel
theorem dX12_keep_34 : decode cX12_keep 34 = .ok (.bastore, 1) := by decide +kernel
theorem dX12_keep_35 : decode cX12_keep 35 = .ok (.iconst 0, 1) := by decide +kernel
theorem dX12_keep_36 : decode cX12_keep 36 = .ok (.ireturn, 1) := by decide +kernel
theorem dX12_back_0 : decode cX12_back 0 = .ok (.aload_n 0, 1) := by decide +kernel
theorem dX12_back_1 : decode cX12_back 1 = .ok (.iconst 0, 1) := by decide +kernel
theorem dX12_back_2 : decode cX12_back 2 = .ok (.putfield 89, 3) := by decide +kernel
theorem dX12_back_5 : decode cX12_back 5 = .ok (.iload_n 1, 1) := by decide +kernel
theorem dX12_back_6 : decode cX12_back 6 = .ok (.i2l, 1) := by decide +kernel
theorem dX12_back_7 : decode cX12_back 7 = .ok (.lconst 0, 1) := by decide +kernel
theorem dX12_back_8 : decode cX12_back 8 = .ok (.ldc2_w 488, 3) := by decide +kernel
theorem dX12_back_11 : decode cX12_back 11 = .ok (.invokestatic 94, 3) := by decide +kernel
theorem dX12_back_14 : decode cX12_back 14 = .ok (.ifCond .ne 6, 3) := by decide +kernel
theorem dX12_back_17 : decode cX12_back 17 = .ok (.bipush (-2), 2) := by decide +kernel
theorem dX12_back_19 : decode cX12_back 19 = .ok (.ireturn, 1) := by decide +kernel
theorem dX12_back_20 : decode cX12_back 20 = .ok (.aload_n 0, 1) := by decide +kernel
theorem dX12_back_21 : decode cX12_back 21 = .ok (.getfield 52, 3) := by decide +kernel
theorem dX12_back_24 : decode cX12_back 24 = .ok (.iload_n 1, 1) := by decide +kernel
theorem dX12_back_25 : decode cX12_back 25 = .ok (.baload, 1) := by decide +kernel
theorem dX12_back_26 : decode cX12_back 26 = .ok (.ifCond .ne 6, 3) := by decide +kernel
theorem dX12_back_29 : decode cX12_back 29 = .ok (.bipush (-6), 2) := by decide +kernel
theorem dX12_back_31 : decode cX12_back 31 = .ok (.ireturn, 1) := by decide +kernel
theorem dX12_back_32 : decode cX12_back 32 = .ok (.aload_n 0, 1) := by decide +kernel
theorem dX12_back_33 : decode cX12_back 33 = .ok (.iconst 1, 1) := by decide +kernel
theorem dX12_back_34 : decode cX12_back 34 = .ok (.iload_n 1, 1) := by decide +kernel
theorem dX12_back_35 : decode cX12_back 35 = .ok (.iadd, 1) := by decide +kernel
theorem dX12_back_36 : decode cX12_back 36 = .ok (.iconst 0, 1) := by decide +kernel
theorem dX12_back_37 : decode cX12_back 37 = .ok (.invokevirtual 258, 3) := by decide +kernel
theorem dX12_back_40 : decode cX12_back 40 = .ok (.iconst 0, 1) := by decide +kernel
theorem dX12_back_41 : decode cX12_back 41 = .ok (.ireturn, 1) := by decide +kernel
theorem dX0_init_0 : decode cX0_init 0 = .ok (.aload_n 0, 1) := by decide +kernel
theorem dX0_init_1 : decode cX0_init 1 = .ok (.invokespecial 3, 3) := by decide +kernel
theorem dX0_init_4 : decode cX0_init 4 = .ok (.aload_n 0, 1) := by decide +kernel
theorem dX0_init_5 : decode cX0_init 5 = .ok (.aload_n 1, 1) := by decide +kernel
theorem dX0_init_6 : decode cX0_init 6 = .ok (.putfield 9, 3) := by decide +kernel
theorem dX0_init_9 : decode cX0_init 9 = .ok (.return_, 1) := by decide +kernel
theorem dX0_goFrom_0 : decode cX0_goFrom 0 = .ok (.aload_n 0, 1) := by decide +kernel
theorem dX0_goFrom_1 : decode cX0_goFrom 1 = .ok (.getfield 9, 3) := by decide +kernel
theorem dX0_goFrom_4 : decode cX0_goFrom 4 = .ok (.aload_n 1, 1) := by decide +kernel
theorem dX0_goFrom_5 : decode cX0_goFrom 5 = .ok (.invokevirtual 15, 3) := by decide +kernel
theorem dX0_goFrom_8 : decode cX0_goFrom 8 = .ok (.aload_n 0, 1) := by decide +kernel
theorem dX0_goFrom_9 : decode cX0_goFrom 9 = .ok (.iload_n 2, 1) := by decide +kernel
theorem dX0_goFrom_10 : decode cX0_goFrom 10 = .ok (.i2l, 1) := by decide +kernel
theorem dX0_goFrom_11 : decode cX0_goFrom 11 = .ok (.putfield 21, 3) := by decide +kernel
theorem dX0_goFrom_14 : decode cX0_goFrom 14 = .ok (.aload_n 0, 1) := by decide +kernel
theorem dX0_goFrom_15 : decode cX0_goFrom 15 = .ok (.iconst 0, 1) := by decide +kernel
theorem dX0_goFrom_16 : decode cX0_goFrom 16 = .ok (.putfield 25, 3) := by decide +kernel
theorem dX0_goFrom_19 : decode cX0_goFrom 19 = .ok (.aload_n 0, 1) := by decide +kernel
theorem dX0_goFrom_20 : decode cX0_goFrom 20 = .ok (.getfield 9, 3) := by decide +kernel
theorem dX0_goFrom_23 : decode cX0_goFrom 23 = .ok (.invokevirtual 29, 3) := by decide +kernel
theorem dX0_goFrom_26 : decode cX0_goFrom 26 = .ok (.istore_n 3, 1) := by decide +kernel
theorem dX0_goFrom_27 : decode cX0_goFrom 27 = .ok (.iconst 0, 1) := by decide +kernel
theorem dX0_goFrom_28 : decode cX0_goFrom 28 = .ok (.istore 4, 2) := by decide +kernel
theorem dX0_goFrom_30 : decode cX0_goFrom 30 = .ok (.iload 4, 2) := by decide +kernel
theorem dX0_goFrom_32 : decode cX0_goFrom 32 = .ok (.bipush 8, 2) := by decide +kernel
theorem dX0_goFrom_34 : decode cX0_goFrom 34 = .ok (.if_icmp .ge 100, 3) := by decide +kernel
theorem dX0_goFrom_37 : decode cX0_goFrom 37 = .ok (.aload_n 0, 1) := by decide +kernel
theorem dX0_goFrom_38 : decode cX0_goFrom 38 = .ok (.getfield 9, 3) := by decide +kernel
theorem dX0_goFrom_41 : decode cX0_goFrom 41 = .ok (.invokevirtual 33, 3) := by decide +kernel
theorem dX0_goFrom_44 : decode cX0_goFrom 44 = .ok (.ifCond .eq 90, 3) := by decide +kernel
theorem dX0_goFrom_47 : decode cX0_goFrom 47 = .ok (.aload_n 0, 1) := by decide +kernel
theorem dX0_goFrom_48 : decode cX0_goFrom 48 = .ok (.getfield 9, 3) := by decide +kernel
theorem dX0_goFrom_51 : decode cX0_goFrom 51 = .ok (.invokevirtual 36, 3) := by decide +kernel
theorem dX0_goFrom_54 : decode cX0_goFrom 54 = .ok (.iload_n 3, 1) := by decide +kernel
theorem dX0_goFrom_55 : decode cX0_goFrom 55 = .ok (.iconst (-1), 1) := by decide +kernel
theorem dX0_goFrom_56 : decode cX0_goFrom 56 = .ok (.ixor, 1) := by decide +kernel
theorem dX0_goFrom_57 : decode cX0_goFrom 57 = .ok (.iand, 1) := by decide +kernel
theorem dX0_goFrom_58 : decode cX0_goFrom 58 = .ok (.istore 5, 2) := by decide +kernel
theorem dX0_goFrom_60 : decode cX0_goFrom 60 = .ok (.iload 5, 2) := by decide +kernel
theorem dX0_goFrom_62 : decode cX0_goFrom 62 = .ok (.ifCond .ne 6, 3) := by decide +kernel
theorem dX0_goFrom_65 : decode cX0_goFrom 65 = .ok (.goto 69, 3) := by decide +kernel
theorem dX0_goFrom_68 : decode cX0_goFrom 68 = .ok (.iload 5, 2) := by decide +kernel
theorem dX0_goFrom_70 : decode cX0_goFrom 70 = .ok (.aload_n 0, 1) := by decide +kernel
theorem dX0_goFrom_71 : decode cX0_goFrom 71 = .ok (.iload 5, 2) := by decide +kernel
theorem dX0_goFrom_73 : decode cX0_goFrom 73 = .ok (.invokestatic 39, 3) := by decide +kernel
theorem dX0_goFrom_76 : decode cX0_goFrom 76 = .ok (.invokevirtual 45, 3) := by decide +kernel
theorem dX0_goFrom_79 : decode cX0_goFrom 79 = .ok (.invokestatic 48, 3) := by decide +kernel
theorem dX0_goFrom_82 : decode cX0_goFrom 82 = .ok (.istore 6, 2) := by decide +kernel
theorem dX0_goFrom_84 : decode cX0_goFrom 84 = .ok (.iload 6, 2) := by decide +kernel
theorem dX0_goFrom_86 : decode cX0_goFrom 86 = .ok (.iconst (-1), 1) := by decide +kernel
theorem dX0_goFrom_87 : decode cX0_goFrom 87 = .ok (.if_icmp .ne 6, 3) := by decide +kernel
theorem dX0_goFrom_90 : decode cX0_goFrom 90 = .ok (.goto 44, 3) := by decide +kernel
theorem dX0_goFrom_93 : decode cX0_goFrom 93 = .ok (.iload_n 3, 1) := by decide +kernel
theorem dX0_goFrom_94 : decode cX0_goFrom 94 = .ok (.iconst 1, 1) := by decide +kernel
theorem dX0_goFrom_95 : decode cX0_goFrom 95 = .ok (.iload 6, 2) := by decide +kernel
theorem dX0_goFrom_97 : decode cX0_goFrom 97 = .ok (.ishl, 1) := by decide +kernel
theorem dX0_goFrom_98 : decode cX0_goFrom 98 = .ok (.ior, 1) := by decide +kernel
theorem dX0_goFrom_99 : decode cX0_goFrom 99 = .ok (.istore_n 3, 1) := by decide +kernel
theorem dX0_goFrom_100 : decode cX0_goFrom 100 = .ok (.aload_n 0, 1) := by decide +kernel
theorem dX0_goFrom_101 : decode cX0_goFrom 101 = .ok (.dup, 1) := by decide +kernel
theorem dX0_goFrom_102 : decode cX0_goFrom 102 = .ok (.getfield 25, 3) := by decide +kernel
theorem dX0_goFrom_105 : decode cX0_goFrom 105 = .ok (.iconst 1, 1) := by decide +kernel
theorem dX0_goFrom_106 : decode cX0_goFrom 106 = .ok (.iadd, 1) := by decide +kernel
theorem dX0_goFrom_107 : decode cX0_goFrom 107 = .ok (.putfield 25, 3) := by decide +kernel
theorem dX0_goFrom_110 : decode cX0_goFrom 110 = .ok (.aload_n 0, 1) := by decide +kernel
theorem dX0_goFrom_111 : decode cX0_goFrom 111 = .ok (.getfield 9, 3) := by decide +kernel
theorem dX0_goFrom_114 : decode cX0_goFrom 114 = .ok (.iload 6, 2) := by decide +kernel
theorem dX0_goFrom_116 : decode cX0_goFrom 116 = .ok (.aload_n 0, 1) := by decide +kernel
theorem dX0_goFrom_117 : decode cX0_goFrom 117 = .ok (.getfield 9, 3) := by decide +kernel
theorem dX0_goFrom_120 : decode cX0_goFrom 120 = .ok (.iload 6, 2) := by decide +kernel
theorem dX0_goFrom_122 : decode cX0_goFrom 122 = .ok (.invokevirtual 52, 3) := by decide +kernel
theorem dX0_goFrom_125 : decode cX0_goFrom 125 = .ok (.invokevirtual 55, 3) := by decide +kernel
theorem dX0_goFrom_128 : decode cX0_goFrom 128 = .ok (.iinc 4 1, 3) := by decide +kernel
theorem dX0_goFrom_131 : decode cX0_goFrom 131 = .ok (.goto (-101), 3) := by decide +kernel
theorem dX0_goFrom_134 : decode cX0_goFrom 134 = .ok (.aload_n 0, 1) := by decide +kernel
theorem dX0_goFrom_135 : decode cX0_goFrom 135 = .ok (.aload_n 0, 1) := by decide +kernel
theorem dX0_goFrom_136 : decode cX0_goFrom 136 = .ok (.getfield 9, 3) := by decide +kernel
theorem dX0_goFrom_139 : decode cX0_goFrom 139 = .ok (.invokevirtual 33, 3) := by decide +kernel
theorem dX0_goFrom_142 : decode cX0_goFrom 142 = .ok (.ifCond .ne 13, 3) := by decide +kernel
theorem dX0_goFrom_145 : decode cX0_goFrom 145 = .ok (.aload_n 0, 1) := by decide +kernel
theorem dX0_goFrom_146 : decode cX0_goFrom 146 = .ok (.getfield 9, 3) := by decide +kernel
theorem dX0_goFrom_149 : decode cX0_goFrom 149 = .ok (.getfield 59, 3) := by decide +kernel
theorem dX0_goFrom_152 : decode cX0_goFrom 152 = .ok (.goto 4, 3) := by decide +kernel
theorem dX0_goFrom_155 : decode cX0_goFrom 155 = .ok (.iconst (-1), 1) := by decide +kernel
theorem dX0_goFrom_156 : decode cX0_goFrom 156 = .ok (.putfield 62, 3) := by decide +kernel
theorem dX0_goFrom_159 : decode cX0_goFrom 159 = .ok (.return_, 1) := by decide +kernel
theorem dX0_draw_0 : decode cX0_draw 0 = .ok (.aload_n 0, 1) := by decide +kernel
theorem dX0_draw_1 : decode cX0_draw 1 = .ok (.ldc2_w 63, 3) := by decide +kernel
theorem dX0_draw_4 : decode cX0_draw 4 = .ok (.aload_n 0, 1) := by decide +kernel
theorem dX0_draw_5 : decode cX0_draw 5 = .ok (.getfield 21, 3) := by decide +kernel
theorem dX0_draw_8 : decode cX0_draw 8 = .ok (.lmul, 1) := by decide +kernel
theorem dX0_draw_9 : decode cX0_draw 9 = .ok (.ldc2_w 65, 3) := by decide +kernel
theorem dX0_draw_12 : decode cX0_draw 12 = .ok (.ladd, 1) := by decide +kernel
theorem dX0_draw_13 : decode cX0_draw 13 = .ok (.ldc2_w 67, 3) := by decide +kernel
theorem dX0_draw_16 : decode cX0_draw 16 = .ok (.lrem, 1) := by decide +kernel
theorem dX0_draw_17 : decode cX0_draw 17 = .ok (.putfield 21, 3) := by decide +kernel
theorem dX0_draw_20 : decode cX0_draw 20 = .ok (.iload_n 1, 1) := by decide +kernel
theorem dX0_draw_21 : decode cX0_draw 21 = .ok (.ifCond .le 18, 3) := by decide +kernel
theorem dX0_draw_24 : decode cX0_draw 24 = .ok (.aload_n 0, 1) := by decide +kernel
theorem dX0_draw_25 : decode cX0_draw 25 = .ok (.getfield 21, 3) := by decide +kernel
theorem dX0_draw_28 : decode cX0_draw 28 = .ok (.ldc2_w 69, 3) := by decide +kernel
theorem dX0_draw_31 : decode cX0_draw 31 = .ok (.ldiv, 1) := by decide +kernel
theorem dX0_draw_32 : decode cX0_draw 32 = .ok (.iload_n 1, 1) := by decide +kernel
theorem dX0_draw_33 : decode cX0_draw 33 = .ok (.i2l, 1) := by decide +kernel
theorem dX0_draw_34 : decode cX0_draw 34 = .ok (.lrem, 1) := by decide +kernel
theorem dX0_draw_35 : decode cX0_draw 35 = .ok (.l2i, 1) := by decide +kernel
theorem dX0_draw_36 : decode cX0_draw 36 = .ok (.goto 4, 3) := by decide +kernel
theorem dX0_draw_39 : decode cX0_draw 39 = .ok (.iconst 0, 1) := by decide +kernel
theorem dX0_draw_40 : decode cX0_draw 40 = .ok (.ireturn, 1) := by decide +kernel
theorem dX0_memberAt_0 : decode cX0_memberAt 0 = .ok (.iload_n 1, 1) := by decide +kernel
theorem dX0_memberAt_1 : decode cX0_memberAt 1 = .ok (.istore_n 2, 1) := by decide +kernel
theorem dX0_memberAt_2 : decode cX0_memberAt 2 = .ok (.iconst 0, 1) := by decide +kernel
theorem dX0_memberAt_3 : decode cX0_memberAt 3 = .ok (.istore_n 3, 1) := by decide +kernel
theorem dX0_memberAt_4 : decode cX0_memberAt 4 = .ok (.iload_n 3, 1) := by decide +kernel
theorem dX0_memberAt_5 : decode cX0_memberAt 5 = .ok (.bipush 8, 2) := by decide +kernel
theorem dX0_memberAt_7 : decode cX0_memberAt 7 = .ok (.if_icmp .ge 26, 3) := by decide +kernel
theorem dX0_memberAt_10 : decode cX0_memberAt 10 = .ok (.iload_n 0, 1) := by decide +kernel
theorem dX0_memberAt_11 : decode cX0_memberAt 11 = .ok (.iload_n 3, 1) := by decide +kernel
theorem dX0_memberAt_12 : decode cX0_memberAt 12 = .ok (.invokestatic 71, 3) := by decide +kernel
theorem dX0_memberAt_15 : decode cX0_memberAt 15 = .ok (.ifCond .eq 12, 3) := by decide +kernel
theorem dX0_memberAt_18 : decode cX0_memberAt 18 = .ok (.iload_n 2, 1) := by decide +kernel
theorem dX0_memberAt_19 : decode cX0_memberAt 19 = .ok (.ifCond .ne 5, 3) := by decide +kernel
theorem dX0_memberAt_22 : decode cX0_memberAt 22 = .ok (.iload_n 3, 1) := by decide +kernel
theorem dX0_memberAt_23 : decode cX0_memberAt 23 = .ok (.ireturn, 1) := by decide +kernel
theorem dX0_memberAt_24 : decode cX0_memberAt 24 = .ok (.iinc 2 (-1), 3) := by decide +kernel
theorem dX0_memberAt_27 : decode cX0_memberAt 27 = .ok (.iinc 3 1, 3) := by decide +kernel
theorem dX0_memberAt_30 : decode cX0_memberAt 30 = .ok (.goto (-26), 3) := by decide +kernel
theorem dX0_memberAt_33 : decode cX0_memberAt 33 = .ok (.iconst (-1), 1) := by decide +kernel
theorem dX0_memberAt_34 : decode cX0_memberAt 34 = .ok (.ireturn, 1) := by decide +kernel
theorem dX1_init_0 : decode cX1_init 0 = .ok (.aload_n 0, 1) := by decide +kernel
theorem dX1_init_1 : decode cX1_init 1 = .ok (.invokespecial 3, 3) := by decide +kernel
theorem dX1_init_4 : decode cX1_init 4 = .ok (.aload_n 0, 1) := by decide +kernel
theorem dX1_init_5 : decode cX1_init 5 = .ok (.sipush 256, 3) := by decide +kernel
theorem dX1_init_8 : decode cX1_init 8 = .ok (.newarray .int, 2) := by decide +kernel
theorem dX1_init_10 : decode cX1_init 10 = .ok (.putfield 9, 3) := by decide +kernel
theorem dX1_init_13 : decode cX1_init 13 = .ok (.aload_n 0, 1) := by decide +kernel
theorem dX1_init_14 : decode cX1_init 14 = .ok (.sipush 256, 3) := by decide +kernel
theorem dX1_init_17 : decode cX1_init 17 = .ok (.newarray .int, 2) := by decide +kernel
theorem dX1_init_19 : decode cX1_init 19 = .ok (.putfield 15, 3) := by decide +kernel
theorem dX1_init_22 : decode cX1_init 22 = .ok (.aload_n 0, 1) := by decide +kernel
theorem dX1_init_23 : decode cX1_init 23 = .ok (.sipush 256, 3) := by decide +kernel
theorem dX1_init_26 : decode cX1_init 26 = .ok (.newarray .int, 2) := by decide +kernel
theorem dX1_init_28 : decode cX1_init 28 = .ok (.putfield 18, 3) := by decide +kernel
theorem dX1_init_31 : decode cX1_init 31 = .ok (.return_, 1) := by decide +kernel
theorem dX1_weigh_0 : decode cX1_weigh 0 = .ok (.iconst 1, 1) := by decide +kernel
theorem dX1_weigh_1 : decode cX1_weigh 1 = .ok (.aload_n 1, 1) := by decide +kernel
theorem dX1_weigh_2 : decode cX1_weigh 2 = .ok (.getfield 21, 3) := by decide +kernel
theorem dX1_weigh_5 : decode cX1_weigh 5 = .ok (.ishl, 1) := by decide +kernel
theorem dX1_weigh_6 : decode cX1_weigh 6 = .ok (.sipush 256, 3) := by decide +kernel
theorem dX1_weigh_9 : decode cX1_weigh 9 = .ok (.invokestatic 27, 3) := by decide +kernel
theorem dX1_weigh_12 : decode cX1_weigh 12 = .ok (.iconst 1, 1) := by decide +kernel
theorem dX1_weigh_13 : decode cX1_weigh 13 = .ok (.isub, 1) := by decide +kernel
theorem dX1_weigh_14 : decode cX1_weigh 14 = .ok (.istore_n 2, 1) := by decide +kernel
theorem dX1_weigh_15 : decode cX1_weigh 15 = .ok (.iload_n 2, 1) := by decide +kernel
theorem dX1_weigh_16 : decode cX1_weigh 16 = .ok (.ifCond .lt 47, 3) := by decide +kernel
theorem dX1_weigh_19 : decode cX1_weigh 19 = .ok (.aload_n 0, 1) := by decide +kernel
theorem dX1_weigh_20 : decode cX1_weigh 20 = .ok (.getfield 9, 3) := by decide +kernel
theorem dX1_weigh_23 : decode cX1_weigh 23 = .ok (.iload_n 2, 1) := by decide +kernel
theorem dX1_weigh_24 : decode cX1_weigh 24 = .ok (.iconst 0, 1) := by decide +kernel
theorem dX1_weigh_25 : decode cX1_weigh 25 = .ok (.iastore, 1) := by decide +kernel
theorem dX1_weigh_26 : decode cX1_weigh 26 = .ok (.aload_n 0, 1) := by decide +kernel
theorem dX1_weigh_27 : decode cX1_weigh 27 = .ok (.getfield 15, 3) := by decide +kernel
theorem dX1_weigh_30 : decode cX1_weigh 30 = .ok (.iload_n 2, 1) := by decide +kernel
theorem dX1_weigh_31 : decode cX1_weigh 31 = .ok (.iconst 0, 1) := by decide +kernel
theorem dX1_weigh_32 : decode cX1_weigh 32 = .ok (.iastore, 1) := by decide +kernel
theorem dX1_weigh_33 : decode cX1_weigh 33 = .ok (.aload_n 0, 1) := by decide +kernel
theorem dX1_weigh_34 : decode cX1_weigh 34 = .ok (.getfield 18, 3) := by decide +kernel
theorem dX1_weigh_37 : decode cX1_weigh 37 = .ok (.iload_n 2, 1) := by decide +kernel
theorem dX1_weigh_38 : decode cX1_weigh 38 = .ok (.iconst (-1), 1) := by decide +kernel
theorem dX1_weigh_39 : decode cX1_weigh 39 = .ok (.iastore, 1) := by decide +kernel
theorem dX1_weigh_40 : decode cX1_weigh 40 = .ok (.aload_n 1, 1) := by decide +kernel
theorem dX1_weigh_41 : decode cX1_weigh 41 = .ok (.getfield 33, 3) := by decide +kernel
theorem dX1_weigh_44 : decode cX1_weigh 44 = .ok (.iload_n 2, 1) := by decide +kernel
theorem dX1_weigh_45 : decode cX1_weigh 45 = .ok (.iconst (-1), 1) := by decide +kernel
theorem dX1_weigh_46 : decode cX1_weigh 46 = .ok (.ixor, 1) := by decide +kernel
theorem dX1_weigh_47 : decode cX1_weigh 47 = .ok (.iand, 1) := by decide +kernel
theorem dX1_weigh_48 : decode cX1_weigh 48 = .ok (.ifCond .eq 9, 3) := by decide +kernel
theorem dX1_weigh_51 : decode cX1_weigh 51 = .ok (.aload_n 0, 1) := by decide +kernel
theorem dX1_weigh_52 : decode cX1_weigh 52 = .ok (.aload_n 1, 1) := by decide +kernel
theorem dX1_weigh_53 : decode cX1_weigh 53 = .ok (.iload_n 2, 1) := by decide +kernel
theorem dX1_weigh_54 : decode cX1_weigh 54 = .ok (.invokevirtual 36, 3) := by decide +kernel
theorem dX1_weigh_57 : decode cX1_weigh 57 = .ok (.iinc 2 (-1), 3) := by decide +kernel
theorem dX1_weigh_60 : decode cX1_weigh 60 = .ok (.goto (-45), 3) := by decide +kernel
theorem dX1_weigh_63 : decode cX1_weigh 63 = .ok (.return_, 1) := by decide +kernel
theorem dX1_pick_0 : decode cX1_pick 0 = .ok (.iconst 0, 1) := by decide +kernel
theorem dX1_pick_1 : decode cX1_pick 1 = .ok (.istore_n 3, 1) := by decide +kernel
theorem dX1_pick_2 : decode cX1_pick 2 = .ok (.iload_n 3, 1) := by decide +kernel
theorem dX1_pick_3 : decode cX1_pick 3 = .ok (.aload_n 1, 1) := by decide +kernel
theorem dX1_pick_4 : decode cX1_pick 4 = .ok (.getfield 21, 3) := by decide +kernel
theorem dX1_pick_7 : decode cX1_pick 7 = .ok (.if_icmp .ge 160, 3) := by decide +kernel
theorem dX1_pick_10 : decode cX1_pick 10 = .ok (.iload_n 2, 1) := by decide +kernel
theorem dX1_pick_11 : decode cX1_pick 11 = .ok (.iconst 1, 1) := by decide +kernel
theorem dX1_pick_12 : decode cX1_pick 12 = .ok (.iload_n 3, 1) := by decide +kernel
theorem dX1_pick_13 : decode cX1_pick 13 = .ok (.ishl, 1) := by decide +kernel
theorem dX1_pick_14 : decode cX1_pick 14 = .ok (.ior, 1) := by decide +kernel
theorem dX1_pick_15 : decode cX1_pick 15 = .ok (.istore 4, 2) := by decide +kernel
theorem dX1_pick_17 : decode cX1_pick 17 = .ok (.iload 4, 2) := by decide +kernel
theorem dX1_pick_19 : decode cX1_pick 19 = .ok (.iload_n 2, 1) := by decide +kernel
theorem dX1_pick_20 : decode cX1_pick 20 = .ok (.if_icmp .eq 141, 3) := by decide +kernel
theorem dX1_pick_23 : decode cX1_pick 23 = .ok (.iload 4, 2) := by decide +kernel
theorem dX1_pick_25 : decode cX1_pick 25 = .ok (.sipush 256, 3) := by decide +kernel
theorem dX1_pick_28 : decode cX1_pick 28 = .ok (.if_icmp .ge 133, 3) := by decide +kernel
theorem dX1_pick_31 : decode cX1_pick 31 = .ok (.aload_n 0, 1) := by decide +kernel
theorem dX1_pick_32 : decode cX1_pick 32 = .ok (.getfield 9, 3) := by decide +kernel
theorem dX1_pick_35 : decode cX1_pick 35 = .ok (.iload 4, 2) := by decide +kernel
theorem dX1_pick_37 : decode cX1_pick 37 = .ok (.iaload, 1) := by decide +kernel
theorem dX1_pick_38 : decode cX1_pick 38 = .ok (.aload_n 1, 1) := by decide +kernel
theorem dX1_pick_39 : decode cX1_pick 39 = .ok (.getfield 40, 3) := by decide +kernel
theorem dX1_pick_42 : decode cX1_pick 42 = .ok (.bipush 9, 2) := by decide +kernel
theorem dX1_pick_44 : decode cX1_pick 44 = .ok (.aaload, 1) := by decide +kernel
theorem dX1_pick_45 : decode cX1_pick 45 = .ok (.iload_n 3, 1) := by decide +kernel
theorem dX1_pick_46 : decode cX1_pick 46 = .ok (.iaload, 1) := by decide +kernel
theorem dX1_pick_47 : decode cX1_pick 47 = .ok (.iload_n 2, 1) := by decide +kernel
theorem dX1_pick_48 : decode cX1_pick 48 = .ok (.iconst (-1), 1) := by decide +kernel
theorem dX1_pick_49 : decode cX1_pick 49 = .ok (.ixor, 1) := by decide +kernel
theorem dX1_pick_50 : decode cX1_pick 50 = .ok (.iand, 1) := by decide +kernel
theorem dX1_pick_51 : decode cX1_pick 51 = .ok (.invokestatic 44, 3) := by decide +kernel
theorem dX1_pick_54 : decode cX1_pick 54 = .ok (.iadd, 1) := by decide +kernel
theorem dX1_pick_55 : decode cX1_pick 55 = .ok (.aload_n 1, 1) := by decide +kernel
theorem dX1_pick_56 : decode cX1_pick 56 = .ok (.getfield 40, 3) := by decide +kernel
theorem dX1_pick_59 : decode cX1_pick 59 = .ok (.bipush 10, 2) := by decide +kernel
theorem dX1_pick_61 : decode cX1_pick 61 = .ok (.aaload, 1) := by decide +kernel
theorem dX1_pick_62 : decode cX1_pick 62 = .ok (.iload_n 3, 1) := by decide +kernel
theorem dX1_pick_63 : decode cX1_pick 63 = .ok (.iaload, 1) := by decide +kernel
theorem dX1_pick_64 : decode cX1_pick 64 = .ok (.iload_n 2, 1) := by decide +kernel
theorem dX1_pick_65 : decode cX1_pick 65 = .ok (.iand, 1) := by decide +kernel
theorem dX1_pick_66 : decode cX1_pick 66 = .ok (.invokestatic 44, 3) := by decide +kernel
theorem dX1_pick_69 : decode cX1_pick 69 = .ok (.iadd, 1) := by decide +kernel
theorem dX1_pick_70 : decode cX1_pick 70 = .ok (.istore 5, 2) := by decide +kernel
theorem dX1_pick_72 : decode cX1_pick 72 = .ok (.aload_n 0, 1) := by decide +kernel
theorem dX1_pick_73 : decode cX1_pick 73 = .ok (.getfield 15, 3) := by decide +kernel
theorem dX1_pick_76 : decode cX1_pick 76 = .ok (.iload 4, 2) := by decide +kernel
theorem dX1_pick_78 : decode cX1_pick 78 = .ok (.iaload, 1) := by decide +kernel
theorem dX1_pick_79 : decode cX1_pick 79 = .ok (.iconst 1, 1) := by decide +kernel
theorem dX1_pick_80 : decode cX1_pick 80 = .ok (.iadd, 1) := by decide +kernel
theorem dX1_pick_81 : decode cX1_pick 81 = .ok (.istore 6, 2) := by decide +kernel
theorem dX1_pick_83 : decode cX1_pick 83 = .ok (.iload 5, 2) := by decide +kernel
theorem dX1_pick_85 : decode cX1_pick 85 = .ok (.aload_n 0, 1) := by decide +kernel
theorem dX1_pick_86 : decode cX1_pick 86 = .ok (.getfield 9, 3) := by decide +kernel
theorem dX1_pick_89 : decode cX1_pick 89 = .ok (.iload_n 2, 1) := by decide +kernel
theorem dX1_pick_90 : decode cX1_pick 90 = .ok (.iaload, 1) := by decide +kernel
theorem dX1_pick_91 : decode cX1_pick 91 = .ok (.if_icmp .lt 25, 3) := by decide +kernel
theorem dX1_pick_94 : decode cX1_pick 94 = .ok (.iload 5, 2) := by decide +kernel
theorem dX1_pick_96 : decode cX1_pick 96 = .ok (.aload_n 0, 1) := by decide +kernel
theorem dX1_pick_97 : decode cX1_pick 97 = .ok (.getfield 9, 3) := by decide +kernel
theorem dX1_pick_100 : decode cX1_pick 100 = .ok (.iload_n 2, 1) := by decide +kernel
theorem dX1_pick_101 : decode cX1_pick 101 = .ok (.iaload, 1) := by decide +kernel
theorem dX1_pick_102 : decode cX1_pick 102 = .ok (.if_icmp .ne 18, 3) := by decide +kernel
theorem dX1_pick_105 : decode cX1_pick 105 = .ok (.iload 6, 2) := by decide +kernel
theorem dX1_pick_107 : decode cX1_pick 107 = .ok (.aload_n 0, 1) := by decide +kernel
theorem dX1_pick_108 : decode cX1_pick 108 = .ok (.getfield 15, 3) := by decide +kernel
theorem dX1_pick_111 : decode cX1_pick 111 = .ok (.iload_n 2, 1) := by decide +kernel
theorem dX1_pick_112 : decode cX1_pick 112 = .ok (.iaload, 1) := by decide +kernel
theorem dX1_pick_113 : decode cX1_pick 113 = .ok (.if_icmp .ge 7, 3) := by decide +kernel
theorem dX1_pick_116 : decode cX1_pick 116 = .ok (.iconst 1, 1) := by decide +kernel
theorem dX1_pick_117 : decode cX1_pick 117 = .ok (.goto 4, 3) := by decide +kernel
theorem dX1_pick_120 : decode cX1_pick 120 = .ok (.iconst 0, 1) := by decide +kernel
theorem dX1_pick_121 : decode cX1_pick 121 = .ok (.istore 7, 2) := by decide +kernel
theorem dX1_pick_123 : decode cX1_pick 123 = .ok (.aload_n 0, 1) := by decide +kernel
theorem dX1_pick_124 : decode cX1_pick 124 = .ok (.getfield 18, 3) := by decide +kernel
theorem dX1_pick_127 : decode cX1_pick 127 = .ok (.iload_n 2, 1) := by decide +kernel
theorem dX1_pick_128 : decode cX1_pick 128 = .ok (.iaload, 1) := by decide +kernel
theorem dX1_pick_129 : decode cX1_pick 129 = .ok (.iconst (-1), 1) := by decide +kernel
theorem dX1_pick_130 : decode cX1_pick 130 = .ok (.if_icmp .eq 8, 3) := by decide +kernel
theorem dX1_pick_133 : decode cX1_pick 133 = .ok (.iload 7, 2) := by decide +kernel
theorem dX1_pick_135 : decode cX1_pick 135 = .ok (.ifCond .eq 26, 3) := by decide +kernel
theorem dX1_pick_138 : decode cX1_pick 138 = .ok (.aload_n 0, 1) := by decide +kernel
theorem dX1_pick_139 : decode cX1_pick 139 = .ok (.getfield 9, 3) := by decide +kernel
theorem dX1_pick_142 : decode cX1_pick 142 = .ok (.iload_n 2, 1) := by decide +kernel
theorem dX1_pick_143 : decode cX1_pick 143 = .ok (.iload 5, 2) := by decide +kernel
theorem dX1_pick_145 : decode cX1_pick 145 = .ok (.iastore, 1) := by decide +kernel
theorem dX1_pick_146 : decode cX1_pick 146 = .ok (.aload_n 0, 1) := by decide +kernel
theorem dX1_pick_147 : decode cX1_pick 147 = .ok (.getfield 15, 3) := by decide +kernel
theorem dX1_pick_150 : decode cX1_pick 150 = .ok (.iload_n 2, 1) := by decide +kernel
theorem dX1_pick_151 : decode cX1_pick 151 = .ok (.iload 6, 2) := by decide +kernel
theorem dX1_pick_153 : decode cX1_pick 153 = .ok (.iastore, 1) := by decide +kernel
theorem dX1_pick_154 : decode cX1_pick 154 = .ok (.aload_n 0, 1) := by decide +kernel
theorem dX1_pick_155 : decode cX1_pick 155 = .ok (.getfield 18, 3) := by decide +kernel
theorem dX1_pick_158 : decode cX1_pick 158 = .ok (.iload_n 2, 1) := by decide +kernel
theorem dX1_pick_159 : decode cX1_pick 159 = .ok (.iload_n 3, 1) := by decide +kernel
theorem dX1_pick_160 : decode cX1_pick 160 = .ok (.iastore, 1) := by decide +kernel
theorem dX1_pick_161 : decode cX1_pick 161 = .ok (.iinc 3 1, 3) := by decide +kernel
theorem dX1_pick_164 : decode cX1_pick 164 = .ok (.goto (-162), 3) := by decide +kernel
theorem dX1_pick_167 : decode cX1_pick 167 = .ok (.return_, 1) := by decide +kernel
theorem dX1_dropped_0 : decode cX1_dropped 0 = .ok (.aload_n 0, 1) := by decide +kernel
theorem dX1_dropped_1 : decode cX1_dropped 1 = .ok (.getfield 9, 3) := by decide +kernel
theorem dX1_dropped_4 : decode cX1_dropped 4 = .ok (.iconst 0, 1) := by decide +kernel
theorem dX1_dropped_5 : decode cX1_dropped 5 = .ok (.iaload, 1) := by decide +kernel
theorem dX1_dropped_6 : decode cX1_dropped 6 = .ok (.ireturn, 1) := by decide +kernel
theorem dX1_officialAt_0 : decode cX1_officialAt 0 = .ok (.iload_n 1, 1) := by decide +kernel
theorem dX1_officialAt_1 : decode cX1_officialAt 1 = .ok (.ifCond .lt 13, 3) := by decide +kernel
theorem dX1_officialAt_4 : decode cX1_officialAt 4 = .ok (.iload_n 1, 1) := by decide +kernel
theorem dX1_officialAt_5 : decode cX1_officialAt 5 = .ok (.aload_n 0, 1) := by decide +kernel
theorem dX1_officialAt_6 : decode cX1_officialAt 6 = .ok (.getfield 15, 3) := by decide +kernel
theorem dX1_officialAt_9 : decode cX1_officialAt 9 = .ok (.iconst 0, 1) := by decide +kernel
theorem dX1_officialAt_10 : decode cX1_officialAt 10 = .ok (.iaload, 1) := by decide +kernel
theorem dX1_officialAt_11 : decode cX1_officialAt 11 = .ok (.if_icmp .lt 5, 3) := by decide +kernel
theorem dX1_officialAt_14 : decode cX1_officialAt 14 = .ok (.iconst (-1), 1) := by decide +kernel
theorem dX1_officialAt_15 : decode cX1_officialAt 15 = .ok (.ireturn, 1) := by decide +kernel
theorem dX1_officialAt_16 : decode cX1_officialAt 16 = .ok (.iconst 0, 1) := by decide +kernel
theorem dX1_officialAt_17 : decode cX1_officialAt 17 = .ok (.istore_n 3, 1) := by decide +kernel
theorem dX1_officialAt_18 : decode cX1_officialAt 18 = .ok (.iconst 0, 1) := by decide +kernel
theorem dX1_officialAt_19 : decode cX1_officialAt 19 = .ok (.istore 4, 2) := by decide +kernel
theorem dX1_officialAt_21 : decode cX1_officialAt 21 = .ok (.iload 4, 2) := by decide +kernel
theorem dX1_officialAt_23 : decode cX1_officialAt 23 = .ok (.iload_n 1, 1) := by decide +kernel
theorem dX1_officialAt_24 : decode cX1_officialAt 24 = .ok (.if_icmp .ge 37, 3) := by decide +kernel
theorem dX1_officialAt_27 : decode cX1_officialAt 27 = .ok (.iload_n 3, 1) := by decide +kernel
theorem dX1_officialAt_28 : decode cX1_officialAt 28 = .ok (.sipush 256, 3) := by decide +kernel
theorem dX1_officialAt_31 : decode cX1_officialAt 31 = .ok (.if_icmp .ge 30, 3) := by decide +kernel
theorem dX1_officialAt_34 : decode cX1_officialAt 34 = .ok (.aload_n 0, 1) := by decide +kernel
theorem dX1_officialAt_35 : decode cX1_officialAt 35 = .ok (.getfield 18, 3) := by decide +kernel
theorem dX1_officialAt_38 : decode cX1_officialAt 38 = .ok (.iload_n 3, 1) := by decide +kernel
theorem dX1_officialAt_39 : decode cX1_officialAt 39 = .ok (.iaload, 1) := by decide +kernel
theorem dX1_officialAt_40 : decode cX1_officialAt 40 = .ok (.iconst (-1), 1) := by decide +kernel
theorem dX1_officialAt_41 : decode cX1_officialAt 41 = .ok (.if_icmp .eq 20, 3) := by decide +kernel
theorem dX1_officialAt_44 : decode cX1_officialAt 44 = .ok (.iload_n 3, 1) := by decide +kernel
theorem dX1_officialAt_45 : decode cX1_officialAt 45 = .ok (.iconst 1, 1) := by decide +kernel
theorem dX1_officialAt_46 : decode cX1_officialAt 46 = .ok (.aload_n 0, 1) := by decide +kernel
theorem dX1_officialAt_47 : decode cX1_officialAt 47 = .ok (.getfield 18, 3) := by decide +kernel
theorem dX1_officialAt_50 : decode cX1_officialAt 50 = .ok (.iload_n 3, 1) := by decide +kernel
theorem dX1_officialAt_51 : decode cX1_officialAt 51 = .ok (.iaload, 1) := by decide +kernel
theorem dX1_officialAt_52 : decode cX1_officialAt 52 = .ok (.ishl, 1) := by decide +kernel
theorem dX1_officialAt_53 : decode cX1_officialAt 53 = .ok (.ior, 1) := by decide +kernel
theorem dX1_officialAt_54 : decode cX1_officialAt 54 = .ok (.istore_n 3, 1) := by decide +kernel
theorem dX1_officialAt_55 : decode cX1_officialAt 55 = .ok (.iinc 4 1, 3) := by decide +kernel
theorem dX1_officialAt_58 : decode cX1_officialAt 58 = .ok (.goto (-37), 3) := by decide +kernel
theorem dX1_officialAt_61 : decode cX1_officialAt 61 = .ok (.iload_n 3, 1) := by decide +kernel
theorem dX1_officialAt_62 : decode cX1_officialAt 62 = .ok (.sipush 256, 3) := by decide +kernel
theorem dX1_officialAt_65 : decode cX1_officialAt 65 = .ok (.if_icmp .ge 12, 3) := by decide +kernel
theorem dX1_officialAt_68 : decode cX1_officialAt 68 = .ok (.aload_n 0, 1) := by decide +kernel
theorem dX1_officialAt_69 : decode cX1_officialAt 69 = .ok (.getfield 18, 3) := by decide +kernel
theorem dX1_officialAt_72 : decode cX1_officialAt 72 = .ok (.iload_n 3, 1) := by decide +kernel
theorem dX1_officialAt_73 : decode cX1_officialAt 73 = .ok (.iaload, 1) := by decide +kernel
theorem dX1_officialAt_74 : decode cX1_officialAt 74 = .ok (.goto 4, 3) := by decide +kernel
theorem dX1_officialAt_77 : decode cX1_officialAt 77 = .ok (.iconst (-1), 1) := by decide +kernel
theorem dX1_officialAt_78 : decode cX1_officialAt 78 = .ok (.ireturn, 1) := by decide +kernel
theorem dX2_init_0 : decode cX2_init 0 = .ok (.aload_n 0, 1) := by decide +kernel
theorem dX2_init_1 : decode cX2_init 1 = .ok (.invokespecial 3, 3) := by decide +kernel
theorem dX2_init_4 : decode cX2_init 4 = .ok (.aload_n 0, 1) := by decide +kernel
theorem dX2_init_5 : decode cX2_init 5 = .ok (.bipush 40, 2) := by decide +kernel
theorem dX2_init_7 : decode cX2_init 7 = .ok (.newarray .int, 2) := by decide +kernel
theorem dX2_init_9 : decode cX2_init 9 = .ok (.putfield 9, 3) := by decide +kernel
theorem dX2_init_12 : decode cX2_init 12 = .ok (.aload_n 0, 1) := by decide +kernel
theorem dX2_init_13 : decode cX2_init 13 = .ok (.bipush 11, 2) := by decide +kernel
theorem dX2_init_15 : decode cX2_init 15 = .ok (.bipush 8, 2) := by decide +kernel
theorem dX2_init_17 : decode cX2_init 17 = .ok (.multianewarray 15 2, 4) := by decide +kernel
theorem dX2_init_21 : decode cX2_init 21 = .ok (.putfield 17, 3) := by decide +kernel
theorem dX2_init_24 : decode cX2_init 24 = .ok (.aload_n 0, 1) := by decide +kernel
theorem dX2_init_25 : decode cX2_init 25 = .ok (.bipush 6, 2) := by decide +kernel
theorem dX2_init_27 : decode cX2_init 27 = .ok (.bipush 6, 2) := by decide +kernel
theorem dX2_init_29 : decode cX2_init 29 = .ok (.multianewarray 15 2, 4) := by decide +kernel
theorem dX2_init_33 : decode cX2_init 33 = .ok (.putfield 20, 3) := by decide +kernel
theorem dX2_init_36 : decode cX2_init 36 = .ok (.return_, 1) := by decide +kernel
theorem dX2_clear_0 : decode cX2_clear 0 = .ok (.aload_n 0, 1) := by decide +kernel
theorem dX2_clear_1 : decode cX2_clear 1 = .ok (.iconst 0, 1) := by decide +kernel
theorem dX2_clear_2 : decode cX2_clear 2 = .ok (.putfield 23, 3) := by decide +kernel
theorem dX2_clear_5 : decode cX2_clear 5 = .ok (.aload_n 0, 1) := by decide +kernel
theorem dX2_clear_6 : decode cX2_clear 6 = .ok (.iconst 0, 1) := by decide +kernel
theorem dX2_clear_7 : decode cX2_clear 7 = .ok (.putfield 27, 3) := by decide +kernel
theorem dX2_clear_10 : decode cX2_clear 10 = .ok (.aload_n 0, 1) := by decide +kernel
theorem dX2_clear_11 : decode cX2_clear 11 = .ok (.iconst 0, 1) := by decide +kernel
theorem dX2_clear_12 : decode cX2_clear 12 = .ok (.putfield 30, 3) := by decide +kernel
theorem dX2_clear_15 : decode cX2_clear 15 = .ok (.aload_n 0, 1) := by decide +kernel
theorem dX2_clear_16 : decode cX2_clear 16 = .ok (.iconst 0, 1) := by decide +kernel
theorem dX2_clear_17 : decode cX2_clear 17 = .ok (.putfield 33, 3) := by decide +kernel
theorem dX2_clear_20 : decode cX2_clear 20 = .ok (.aload_n 0, 1) := by decide +kernel
theorem dX2_clear_21 : decode cX2_clear 21 = .ok (.iconst 0, 1) := by decide +kernel
theorem dX2_clear_22 : decode cX2_clear 22 = .ok (.putfield 36, 3) := by decide +kernel
theorem dX2_clear_25 : decode cX2_clear 25 = .ok (.aload_n 0, 1) := by decide +kernel
theorem dX2_clear_26 : decode cX2_clear 26 = .ok (.iconst 0, 1) := by decide +kernel
theorem dX2_clear_27 : decode cX2_clear 27 = .ok (.putfield 39, 3) := by decide +kernel
theorem dX2_clear_30 : decode cX2_clear 30 = .ok (.aload_n 0, 1) := by decide +kernel
theorem dX2_clear_31 : decode cX2_clear 31 = .ok (.iconst 0, 1) := by decide +kernel
theorem dX2_clear_32 : decode cX2_clear 32 = .ok (.putfield 42, 3) := by decide +kernel
theorem dX2_clear_35 : decode cX2_clear 35 = .ok (.iconst 0, 1) := by decide +kernel
theorem dX2_clear_36 : decode cX2_clear 36 = .ok (.istore_n 1, 1) := by decide +kernel
theorem dX2_clear_37 : decode cX2_clear 37 = .ok (.iload_n 1, 1) := by decide +kernel
theorem dX2_clear_38 : decode cX2_clear 38 = .ok (.bipush 11, 2) := by decide +kernel
theorem dX2_clear_40 : decode cX2_clear 40 = .ok (.if_icmp .ge 19, 3) := by decide +kernel
theorem dX2_clear_43 : decode cX2_clear 43 = .ok (.aload_n 0, 1) := by decide +kernel
theorem dX2_clear_44 : decode cX2_clear 44 = .ok (.getfield 17, 3) := by decide +kernel
theorem dX2_clear_47 : decode cX2_clear 47 = .ok (.iload_n 1, 1) := by decide +kernel
theorem dX2_clear_48 : decode cX2_clear 48 = .ok (.aaload, 1) := by decide +kernel
theorem dX2_clear_49 : decode cX2_clear 49 = .ok (.iconst 0, 1) := by decide +kernel
theorem dX2_clear_50 : decode cX2_clear 50 = .ok (.invokestatic 45, 3) := by decide +kernel
theorem dX2_clear_53 : decode cX2_clear 53 = .ok (.iinc 1 1, 3) := by decide +kernel
theorem dX2_clear_56 : decode cX2_clear 56 = .ok (.goto (-19), 3) := by decide +kernel
theorem dX2_clear_59 : decode cX2_clear 59 = .ok (.iconst 0, 1) := by decide +kernel
theorem dX2_clear_60 : decode cX2_clear 60 = .ok (.istore_n 1, 1) := by decide +kernel
theorem dX2_clear_61 : decode cX2_clear 61 = .ok (.iload_n 1, 1) := by decide +kernel
theorem dX2_clear_62 : decode cX2_clear 62 = .ok (.bipush 6, 2) := by decide +kernel
theorem dX2_clear_64 : decode cX2_clear 64 = .ok (.if_icmp .ge 19, 3) := by decide +kernel
theorem dX2_clear_67 : decode cX2_clear 67 = .ok (.aload_n 0, 1) := by decide +kernel
theorem dX2_clear_68 : decode cX2_clear 68 = .ok (.getfield 20, 3) := by decide +kernel
theorem dX2_clear_71 : decode cX2_clear 71 = .ok (.iload_n 1, 1) := by decide +kernel
theorem dX2_clear_72 : decode cX2_clear 72 = .ok (.aaload, 1) := by decide +kernel
theorem dX2_clear_73 : decode cX2_clear 73 = .ok (.iconst 0, 1) := by decide +kernel
theorem dX2_clear_74 : decode cX2_clear 74 = .ok (.invokestatic 45, 3) := by decide +kernel
theorem dX2_clear_77 : decode cX2_clear 77 = .ok (.iinc 1 1, 3) := by decide +kernel
theorem dX2_clear_80 : decode cX2_clear 80 = .ok (.goto (-19), 3) := by decide +kernel
theorem dX2_clear_83 : decode cX2_clear 83 = .ok (.return_, 1) := by decide +kernel
theorem dX2_copyFrom_0 : decode cX2_copyFrom 0 = .ok (.aload_n 0, 1) := by decide +kernel
theorem dX2_copyFrom_1 : decode cX2_copyFrom 1 = .ok (.aload_n 1, 1) := by decide +kernel
theorem dX2_copyFrom_2 : decode cX2_copyFrom 2 = .ok (.getfield 23, 3) := by decide +kernel
theorem dX2_copyFrom_5 : decode cX2_copyFrom 5 = .ok (.putfield 23, 3) := by decide +kernel
theorem dX2_copyFrom_8 : decode cX2_copyFrom 8 = .ok (.aload_n 0, 1) := by decide +kernel
theorem dX2_copyFrom_9 : decode cX2_copyFrom 9 = .ok (.aload_n 1, 1) := by decide +kernel
theorem dX2_copyFrom_10 : decode cX2_copyFrom 10 = .ok (.getfield 27, 3) := by decide +kernel
theorem dX2_copyFrom_13 : decode cX2_copyFrom 13 = .ok (.putfield 27, 3) := by decide +kernel
theorem dX2_copyFrom_16 : decode cX2_copyFrom 16 = .ok (.aload_n 0, 1) := by decide +kernel
theorem dX2_copyFrom_17 : decode cX2_copyFrom 17 = .ok (.aload_n 1, 1) := by decide +kernel
theorem dX2_copyFrom_18 : decode cX2_copyFrom 18 = .ok (.getfield 30, 3) := by decide +kernel
theorem dX2_copyFrom_21 : decode cX2_copyFrom 21 = .ok (.putfield 30, 3) := by decide +kernel
theorem dX2_copyFrom_24 : decode cX2_copyFrom 24 = .ok (.aload_n 0, 1) := by decide +kernel
theorem dX2_copyFrom_25 : decode cX2_copyFrom 25 = .ok (.aload_n 1, 1) := by decide +kernel
theorem dX2_copyFrom_26 : decode cX2_copyFrom 26 = .ok (.getfield 33, 3) := by decide +kernel
theorem dX2_copyFrom_29 : decode cX2_copyFrom 29 = .ok (.putfield 33, 3) := by decide +kernel
theorem dX2_copyFrom_32 : decode cX2_copyFrom 32 = .ok (.aload_n 0, 1) := by decide +kernel
theorem dX2_copyFrom_33 : decode cX2_copyFrom 33 = .ok (.aload_n 1, 1) := by decide +kernel
theorem dX2_copyFrom_34 : decode cX2_copyFrom 34 = .ok (.getfield 36, 3) := by decide +kernel
theorem dX2_copyFrom_37 : decode cX2_copyFrom 37 = .ok (.putfield 36, 3) := by decide +kernel
theorem dX2_copyFrom_40 : decode cX2_copyFrom 40 = .ok (.aload_n 0, 1) := by decide +kernel
theorem dX2_copyFrom_41 : decode cX2_copyFrom 41 = .ok (.aload_n 1, 1) := by decide +kernel
theorem dX2_copyFrom_42 : decode cX2_copyFrom 42 = .ok (.getfield 39, 3) := by decide +kernel
theorem dX2_copyFrom_45 : decode cX2_copyFrom 45 = .ok (.putfield 39, 3) := by decide +kernel
theorem dX2_copyFrom_48 : decode cX2_copyFrom 48 = .ok (.aload_n 0, 1) := by decide +kernel
theorem dX2_copyFrom_49 : decode cX2_copyFrom 49 = .ok (.aload_n 1, 1) := by decide +kernel
theorem dX2_copyFrom_50 : decode cX2_copyFrom 50 = .ok (.getfield 42, 3) := by decide +kernel
theorem dX2_copyFrom_53 : decode cX2_copyFrom 53 = .ok (.putfield 42, 3) := by decide +kernel
theorem dX2_copyFrom_56 : decode cX2_copyFrom 56 = .ok (.aload_n 1, 1) := by decide +kernel
theorem dX2_copyFrom_57 : decode cX2_copyFrom 57 = .ok (.getfield 9, 3) := by decide +kernel
theorem dX2_copyFrom_60 : decode cX2_copyFrom 60 = .ok (.iconst 0, 1) := by decide +kernel
theorem dX2_copyFrom_61 : decode cX2_copyFrom 61 = .ok (.aload_n 0, 1) := by decide +kernel
theorem dX2_copyFrom_62 : decode cX2_copyFrom 62 = .ok (.getfield 9, 3) := by decide +kernel
theorem dX2_copyFrom_65 : decode cX2_copyFrom 65 = .ok (.iconst 0, 1) := by decide +kernel
theorem dX2_copyFrom_66 : decode cX2_copyFrom 66 = .ok (.bipush 40, 2) := by decide +kernel
theorem dX2_copyFrom_68 : decode cX2_copyFrom 68 = .ok (.invokestatic 51, 3) := by decide +kernel
theorem dX2_copyFrom_71 : decode cX2_copyFrom 71 = .ok (.iconst 0, 1) := by decide +kernel
theorem dX2_copyFrom_72 : decode cX2_copyFrom 72 = .ok (.istore_n 2, 1) := by decide +kernel
theorem dX2_copyFrom_73 : decode cX2_copyFrom 73 = .ok (.iload_n 2, 1) := by decide +kernel
theorem dX2_copyFrom_74 : decode cX2_copyFrom 74 = .ok (.bipush 11, 2) := by decide +kernel
theorem dX2_copyFrom_76 : decode cX2_copyFrom 76 = .ok (.if_icmp .ge 28, 3) := by decide +kernel
theorem dX2_copyFrom_79 : decode cX2_copyFrom 79 = .ok (.aload_n 1, 1) := by decide +kernel
theorem dX2_copyFrom_80 : decode cX2_copyFrom 80 = .ok (.getfield 17, 3) := by decide +kernel
theorem dX2_copyFrom_83 : decode cX2_copyFrom 83 = .ok (.iload_n 2, 1) := by decide +kernel
theorem dX2_copyFrom_84 : decode cX2_copyFrom 84 = .ok (.aaload, 1) := by decide +kernel
theorem dX2_copyFrom_85 : decode cX2_copyFrom 85 = .ok (.iconst 0, 1) := by decide +kernel
theorem dX2_copyFrom_86 : decode cX2_copyFrom 86 = .ok (.aload_n 0, 1) := by decide +kernel
theorem dX2_copyFrom_87 : decode cX2_copyFrom 87 = .ok (.getfield 17, 3) := by decide +kernel
theorem dX2_copyFrom_90 : decode cX2_copyFrom 90 = .ok (.iload_n 2, 1) := by decide +kernel
theorem dX2_copyFrom_91 : decode cX2_copyFrom 91 = .ok (.aaload, 1) := by decide +kernel
theorem dX2_copyFrom_92 : decode cX2_copyFrom 92 = .ok (.iconst 0, 1) := by decide +kernel
theorem dX2_copyFrom_93 : decode cX2_copyFrom 93 = .ok (.bipush 8, 2) := by decide +kernel
theorem dX2_copyFrom_95 : decode cX2_copyFrom 95 = .ok (.invokestatic 51, 3) := by decide +kernel
theorem dX2_copyFrom_98 : decode cX2_copyFrom 98 = .ok (.iinc 2 1, 3) := by decide +kernel
theorem dX2_copyFrom_101 : decode cX2_copyFrom 101 = .ok (.goto (-28), 3) := by decide +kernel
theorem dX2_copyFrom_104 : decode cX2_copyFrom 104 = .ok (.iconst 0, 1) := by decide +kernel
theorem dX2_copyFrom_105 : decode cX2_copyFrom 105 = .ok (.istore_n 2, 1) := by decide +kernel
theorem dX2_copyFrom_106 : decode cX2_copyFrom 106 = .ok (.iload_n 2, 1) := by decide +kernel
theorem dX2_copyFrom_107 : decode cX2_copyFrom 107 = .ok (.bipush 6, 2) := by decide +kernel
theorem dX2_copyFrom_109 : decode cX2_copyFrom 109 = .ok (.if_icmp .ge 28, 3) := by decide +kernel
theorem dX2_copyFrom_112 : decode cX2_copyFrom 112 = .ok (.aload_n 1, 1) := by decide +kernel
theorem dX2_copyFrom_113 : decode cX2_copyFrom 113 = .ok (.getfield 20, 3) := by decide +kernel
theorem dX2_copyFrom_116 : decode cX2_copyFrom 116 = .ok (.iload_n 2, 1) := by decide +kernel
theorem dX2_copyFrom_117 : decode cX2_copyFrom 117 = .ok (.aaload, 1) := by decide +kernel
theorem dX2_copyFrom_118 : decode cX2_copyFrom 118 = .ok (.iconst 0, 1) := by decide +kernel
theorem dX2_copyFrom_119 : decode cX2_copyFrom 119 = .ok (.aload_n 0, 1) := by decide +kernel
theorem dX2_copyFrom_120 : decode cX2_copyFrom 120 = .ok (.getfield 20, 3) := by decide +kernel
theorem dX2_copyFrom_123 : decode cX2_copyFrom 123 = .ok (.iload_n 2, 1) := by decide +kernel
theorem dX2_copyFrom_124 : decode cX2_copyFrom 124 = .ok (.aaload, 1) := by decide +kernel
theorem dX2_copyFrom_125 : decode cX2_copyFrom 125 = .ok (.iconst 0, 1) := by decide +kernel
theorem dX2_copyFrom_126 : decode cX2_copyFrom 126 = .ok (.bipush 6, 2) := by decide +kernel
theorem dX2_copyFrom_128 : decode cX2_copyFrom 128 = .ok (.invokestatic 51, 3) := by decide +kernel
theorem dX2_copyFrom_131 : decode cX2_copyFrom 131 = .ok (.iinc 2 1, 3) := by decide +kernel
theorem dX2_copyFrom_134 : decode cX2_copyFrom 134 = .ok (.goto (-28), 3) := by decide +kernel
theorem dX2_copyFrom_137 : decode cX2_copyFrom 137 = .ok (.return_, 1) := by decide +kernel
theorem dX2_isThere_0 : decode cX2_isThere 0 = .ok (.aload_n 0, 1) := by decide +kernel
theorem dX2_isThere_1 : decode cX2_isThere 1 = .ok (.getfield 23, 3) := by decide +kernel
theorem dX2_isThere_4 : decode cX2_isThere 4 = .ok (.ifCond .le 7, 3) := by decide +kernel
theorem dX2_isThere_7 : decode cX2_isThere 7 = .ok (.iconst 1, 1) := by decide +kernel
theorem dX2_isThere_8 : decode cX2_isThere 8 = .ok (.goto 4, 3) := by decide +kernel
theorem dX2_isThere_11 : decode cX2_isThere 11 = .ok (.iconst 0, 1) := by decide +kernel
theorem dX2_isThere_12 : decode cX2_isThere 12 = .ok (.ireturn, 1) := by decide +kernel
theorem dX2_hasOfficial_0 : decode cX2_hasOfficial 0 = .ok (.iload_n 1, 1) := by decide +kernel
theorem dX2_hasOfficial_1 : decode cX2_hasOfficial 1 = .ok (.ifCond .lt 21, 3) := by decide +kernel
theorem dX2_hasOfficial_4 : decode cX2_hasOfficial 4 = .ok (.iload_n 1, 1) := by decide +kernel
theorem dX2_hasOfficial_5 : decode cX2_hasOfficial 5 = .ok (.aload_n 0, 1) := by decide +kernel
theorem dX2_hasOfficial_6 : decode cX2_hasOfficial 6 = .ok (.getfield 36, 3) := by decide +kernel
theorem dX2_hasOfficial_9 : decode cX2_hasOfficial 9 = .ok (.if_icmp .ge 13, 3) := by decide +kernel
theorem dX2_hasOfficial_12 : decode cX2_hasOfficial 12 = .ok (.iload_n 1, 1) := by decide +kernel
theorem dX2_hasOfficial_13 : decode cX2_hasOfficial 13 = .ok (.bipush 8, 2) := by decide +kernel
theorem dX2_hasOfficial_15 : decode cX2_hasOfficial 15 = .ok (.if_icmp .ge 7, 3) := by decide +kernel
theorem dX2_hasOfficial_18 : decode cX2_hasOfficial 18 = .ok (.iconst 1, 1) := by decide +kernel
theorem dX2_hasOfficial_19 : decode cX2_hasOfficial 19 = .ok (.goto 4, 3) := by decide +kernel
theorem dX2_hasOfficial_22 : decode cX2_hasOfficial 22 = .ok (.iconst 0, 1) := by decide +kernel
theorem dX2_hasOfficial_23 : decode cX2_hasOfficial 23 = .ok (.ireturn, 1) := by decide +kernel
theorem dX2_hasRoom_0 : decode cX2_hasRoom 0 = .ok (.iload_n 1, 1) := by decide +kernel
theorem dX2_hasRoom_1 : decode cX2_hasRoom 1 = .ok (.ifCond .lt 21, 3) := by decide +kernel
theorem dX2_hasRoom_4 : decode cX2_hasRoom 4 = .ok (.iload_n 1, 1) := by decide +kernel
theorem dX2_hasRoom_5 : decode cX2_hasRoom 5 = .ok (.aload_n 0, 1) := by decide +kernel
theorem dX2_hasRoom_6 : decode cX2_hasRoom 6 = .ok (.getfield 27, 3) := by decide +kernel
theorem dX2_hasRoom_9 : decode cX2_hasRoom 9 = .ok (.if_icmp .ge 13, 3) := by decide +kernel
theorem dX2_hasRoom_12 : decode cX2_hasRoom 12 = .ok (.iload_n 1, 1) := by decide +kernel
theorem dX2_hasRoom_13 : decode cX2_hasRoom 13 = .ok (.bipush 6, 2) := by decide +kernel
theorem dX2_hasRoom_15 : decode cX2_hasRoom 15 = .ok (.if_icmp .ge 7, 3) := by decide +kernel
theorem dX2_hasRoom_18 : decode cX2_hasRoom 18 = .ok (.iconst 1, 1) := by decide +kernel
theorem dX2_hasRoom_19 : decode cX2_hasRoom 19 = .ok (.goto 4, 3) := by decide +kernel
theorem dX2_hasRoom_22 : decode cX2_hasRoom 22 = .ok (.iconst 0, 1) := by decide +kernel
theorem dX2_hasRoom_23 : decode cX2_hasRoom 23 = .ok (.ireturn, 1) := by decide +kernel
theorem dX2_hasSet_0 : decode cX2_hasSet 0 = .ok (.aload_n 0, 1) := by decide +kernel
theorem dX2_hasSet_1 : decode cX2_hasSet 1 = .ok (.invokevirtual 57, 3) := by decide +kernel
theorem dX2_hasSet_4 : decode cX2_hasSet 4 = .ok (.ifCond .eq 21, 3) := by decide +kernel
theorem dX2_hasSet_7 : decode cX2_hasSet 7 = .ok (.iload_n 1, 1) := by decide +kernel
theorem dX2_hasSet_8 : decode cX2_hasSet 8 = .ok (.ifCond .lt 17, 3) := by decide +kernel
theorem dX2_hasSet_11 : decode cX2_hasSet 11 = .ok (.iload_n 1, 1) := by decide +kernel
theorem dX2_hasSet_12 : decode cX2_hasSet 12 = .ok (.iconst 1, 1) := by decide +kernel
theorem dX2_hasSet_13 : decode cX2_hasSet 13 = .ok (.aload_n 0, 1) := by decide +kernel
theorem dX2_hasSet_14 : decode cX2_hasSet 14 = .ok (.getfield 36, 3) := by decide +kernel
theorem dX2_hasSet_17 : decode cX2_hasSet 17 = .ok (.ishl, 1) := by decide +kernel
theorem dX2_hasSet_18 : decode cX2_hasSet 18 = .ok (.if_icmp .ge 7, 3) := by decide +kernel
theorem dX2_hasSet_21 : decode cX2_hasSet 21 = .ok (.iconst 1, 1) := by decide +kernel
theorem dX2_hasSet_22 : decode cX2_hasSet 22 = .ok (.goto 4, 3) := by decide +kernel
theorem dX2_hasSet_25 : decode cX2_hasSet 25 = .ok (.iconst 0, 1) := by decide +kernel
theorem dX2_hasSet_26 : decode cX2_hasSet 26 = .ok (.ireturn, 1) := by decide +kernel
theorem dX2_noteMove_0 : decode cX2_noteMove 0 = .ok (.aload_n 0, 1) := by decide +kernel
theorem dX2_noteMove_1 : decode cX2_noteMove 1 = .ok (.getfield 42, 3) := by decide +kernel
theorem dX2_noteMove_4 : decode cX2_noteMove 4 = .ok (.ifCond .lt 12, 3) := by decide +kernel
theorem dX2_noteMove_7 : decode cX2_noteMove 7 = .ok (.aload_n 0, 1) := by decide +kernel
theorem dX2_noteMove_8 : decode cX2_noteMove 8 = .ok (.getfield 42, 3) := by decide +kernel
theorem dX2_noteMove_11 : decode cX2_noteMove 11 = .ok (.bipush 40, 2) := by decide +kernel
theorem dX2_noteMove_13 : decode cX2_noteMove 13 = .ok (.if_icmp .lt 5, 3) := by decide +kernel
theorem dX2_noteMove_16 : decode cX2_noteMove 16 = .ok (.iconst 0, 1) := by decide +kernel
theorem dX2_noteMove_17 : decode cX2_noteMove 17 = .ok (.ireturn, 1) := by decide +kernel
theorem dX2_noteMove_18 : decode cX2_noteMove 18 = .ok (.aload_n 0, 1) := by decide +kernel
theorem dX2_noteMove_19 : decode cX2_noteMove 19 = .ok (.getfield 9, 3) := by decide +kernel
theorem dX2_noteMove_22 : decode cX2_noteMove 22 = .ok (.aload_n 0, 1) := by decide +kernel
theorem dX2_noteMove_23 : decode cX2_noteMove 23 = .ok (.getfield 42, 3) := by decide +kernel
theorem dX2_noteMove_26 : decode cX2_noteMove 26 = .ok (.iload_n 1, 1) := by decide +kernel
theorem dX2_noteMove_27 : decode cX2_noteMove 27 = .ok (.iastore, 1) := by decide +kernel
theorem dX2_noteMove_28 : decode cX2_noteMove 28 = .ok (.aload_n 0, 1) := by decide +kernel
theorem dX2_noteMove_29 : decode cX2_noteMove 29 = .ok (.dup, 1) := by decide +kernel
theorem dX2_noteMove_30 : decode cX2_noteMove 30 = .ok (.getfield 42, 3) := by decide +kernel
theorem dX2_noteMove_33 : decode cX2_noteMove 33 = .ok (.iconst 1, 1) := by decide +kernel
theorem dX2_noteMove_34 : decode cX2_noteMove 34 = .ok (.iadd, 1) := by decide +kernel
theorem dX2_noteMove_35 : decode cX2_noteMove 35 = .ok (.putfield 42, 3) := by decide +kernel
theorem dX2_noteMove_38 : decode cX2_noteMove 38 = .ok (.iconst 1, 1) := by decide +kernel
theorem dX2_noteMove_39 : decode cX2_noteMove 39 = .ok (.ireturn, 1) := by decide +kernel
theorem dX2_isOpen_0 : decode cX2_isOpen 0 = .ok (.aload_n 0, 1) := by decide +kernel
theorem dX2_isOpen_1 : decode cX2_isOpen 1 = .ok (.iload_n 1, 1) := by decide +kernel
theorem dX2_isOpen_2 : decode cX2_isOpen 2 = .ok (.invokevirtual 61, 3) := by decide +kernel
theorem dX2_isOpen_5 : decode cX2_isOpen 5 = .ok (.ifCond .ne 5, 3) := by decide +kernel
theorem dX2_isOpen_8 : decode cX2_isOpen 8 = .ok (.iconst 0, 1) := by decide +kernel
theorem dX2_isOpen_9 : decode cX2_isOpen 9 = .ok (.ireturn, 1) := by decide +kernel
theorem dX2_isOpen_10 : decode cX2_isOpen 10 = .ok (.iload_n 2, 1) := by decide +kernel
theorem dX2_isOpen_11 : decode cX2_isOpen 11 = .ok (.bipush 10, 2) := by decide +kernel
theorem dX2_isOpen_13 : decode cX2_isOpen 13 = .ok (.idiv, 1) := by decide +kernel
theorem dX2_isOpen_14 : decode cX2_isOpen 14 = .ok (.istore_n 3, 1) := by decide +kernel
theorem dX2_isOpen_15 : decode cX2_isOpen 15 = .ok (.iload_n 3, 1) := by decide +kernel
theorem dX2_isOpen_16 : decode cX2_isOpen 16 = .ok (.aload_n 0, 1) := by decide +kernel
theorem dX2_isOpen_17 : decode cX2_isOpen 17 = .ok (.getfield 17, 3) := by decide +kernel
theorem dX2_isOpen_20 : decode cX2_isOpen 20 = .ok (.bipush 7, 2) := by decide +kernel
theorem dX2_isOpen_22 : decode cX2_isOpen 22 = .ok (.aaload, 1) := by decide +kernel
theorem dX2_isOpen_23 : decode cX2_isOpen 23 = .ok (.iload_n 1, 1) := by decide +kernel
theorem dX2_isOpen_24 : decode cX2_isOpen 24 = .ok (.iaload, 1) := by decide +kernel
theorem dX2_isOpen_25 : decode cX2_isOpen 25 = .ok (.if_icmp .lt 20, 3) := by decide +kernel
theorem dX2_isOpen_28 : decode cX2_isOpen 28 = .ok (.iload_n 3, 1) := by decide +kernel
theorem dX2_isOpen_29 : decode cX2_isOpen 29 = .ok (.aload_n 0, 1) := by decide +kernel
theorem dX2_isOpen_30 : decode cX2_isOpen 30 = .ok (.getfield 17, 3) := by decide +kernel
theorem dX2_isOpen_33 : decode cX2_isOpen 33 = .ok (.bipush 8, 2) := by decide +kernel
theorem dX2_isOpen_35 : decode cX2_isOpen 35 = .ok (.aaload, 1) := by decide +kernel
theorem dX2_isOpen_36 : decode cX2_isOpen 36 = .ok (.iload_n 1, 1) := by decide +kernel
theorem dX2_isOpen_37 : decode cX2_isOpen 37 = .ok (.iaload, 1) := by decide +kernel
theorem dX2_isOpen_38 : decode cX2_isOpen 38 = .ok (.if_icmp .gt 7, 3) := by decide +kernel
theorem dX2_isOpen_41 : decode cX2_isOpen 41 = .ok (.iconst 1, 1) := by decide +kernel
theorem dX2_isOpen_42 : decode cX2_isOpen 42 = .ok (.goto 4, 3) := by decide +kernel
theorem dX2_isOpen_45 : decode cX2_isOpen 45 = .ok (.iconst 0, 1) := by decide +kernel
theorem dX2_isOpen_46 : decode cX2_isOpen 46 = .ok (.istore 4, 2) := by decide +kernel
theorem dX2_isOpen_48 : decode cX2_isOpen 48 = .ok (.iload 4, 2) := by decide +kernel
theorem dX2_isOpen_50 : decode cX2_isOpen 50 = .ok (.ifCond .ne 16, 3) := by decide +kernel
theorem dX2_isOpen_53 : decode cX2_isOpen 53 = .ok (.aload_n 0, 1) := by decide +kernel
theorem dX2_isOpen_54 : decode cX2_isOpen 54 = .ok (.iload_n 1, 1) := by decide +kernel
theorem dX2_isOpen_55 : decode cX2_isOpen 55 = .ok (.iload_n 2, 1) := by decide +kernel
theorem dX2_isOpen_56 : decode cX2_isOpen 56 = .ok (.invokevirtual 65, 3) := by decide +kernel
theorem dX2_isOpen_59 : decode cX2_isOpen 59 = .ok (.ifCond .eq 7, 3) := by decide +kernel
theorem dX2_isOpen_62 : decode cX2_isOpen 62 = .ok (.iconst 1, 1) := by decide +kernel
theorem dX2_isOpen_63 : decode cX2_isOpen 63 = .ok (.goto 4, 3) := by decide +kernel
theorem dX2_isOpen_66 : decode cX2_isOpen 66 = .ok (.iconst 0, 1) := by decide +kernel
theorem dX2_isOpen_67 : decode cX2_isOpen 67 = .ok (.ireturn, 1) := by decide +kernel
theorem dX2_isOffered_0 : decode cX2_isOffered 0 = .ok (.aload_n 0, 1) := by decide +kernel
theorem dX2_isOffered_1 : decode cX2_isOffered 1 = .ok (.iload_n 1, 1) := by decide +kernel
theorem dX2_isOffered_2 : decode cX2_isOffered 2 = .ok (.invokevirtual 61, 3) := by decide +kernel
theorem dX2_isOffered_5 : decode cX2_isOffered 5 = .ok (.ifCond .eq 7, 3) := by decide +kernel
theorem dX2_isOffered_8 : decode cX2_isOffered 8 = .ok (.iload_n 2, 1) := by decide +kernel
theorem dX2_isOffered_9 : decode cX2_isOffered 9 = .ok (.ifCond .ge 5, 3) := by decide +kernel
theorem dX2_isOffered_12 : decode cX2_isOffered 12 = .ok (.iconst 0, 1) := by decide +kernel
theorem dX2_isOffered_13 : decode cX2_isOffered 13 = .ok (.ireturn, 1) := by decide +kernel
theorem dX2_isOffered_14 : decode cX2_isOffered 14 = .ok (.iload_n 2, 1) := by decide +kernel
theorem dX2_isOffered_15 : decode cX2_isOffered 15 = .ok (.bipush 10, 2) := by decide +kernel
theorem dX2_isOffered_17 : decode cX2_isOffered 17 = .ok (.irem, 1) := by decide +kernel
theorem dX2_isOffered_18 : decode cX2_isOffered 18 = .ok (.istore_n 3, 1) := by decide +kernel
theorem dX2_isOffered_19 : decode cX2_isOffered 19 = .ok (.aload_n 0, 1) := by decide +kernel
theorem dX2_isOffered_20 : decode cX2_isOffered 20 = .ok (.getfield 17, 3) := by decide +kernel
theorem dX2_isOffered_23 : decode cX2_isOffered 23 = .ok (.iconst 3, 1) := by decide +kernel
theorem dX2_isOffered_24 : decode cX2_isOffered 24 = .ok (.aaload, 1) := by decide +kernel
theorem dX2_isOffered_25 : decode cX2_isOffered 25 = .ok (.iload_n 1, 1) := by decide +kernel
theorem dX2_isOffered_26 : decode cX2_isOffered 26 = .ok (.iaload, 1) := by decide +kernel
theorem dX2_isOffered_27 : decode cX2_isOffered 27 = .ok (.iload_n 2, 1) := by decide +kernel
theorem dX2_isOffered_28 : decode cX2_isOffered 28 = .ok (.bipush 10, 2) := by decide +kernel
theorem dX2_isOffered_30 : decode cX2_isOffered 30 = .ok (.idiv, 1) := by decide +kernel
theorem dX2_isOffered_31 : decode cX2_isOffered 31 = .ok (.iconst 5, 1) := by decide +kernel
theorem dX2_isOffered_32 : decode cX2_isOffered 32 = .ok (.irem, 1) := by decide +kernel
theorem dX2_isOffered_33 : decode cX2_isOffered 33 = .ok (.invokestatic 69, 3) := by decide +kernel
theorem dX2_isOffered_36 : decode cX2_isOffered 36 = .ok (.ifCond .eq 43, 3) := by decide +kernel
theorem dX2_isOffered_39 : decode cX2_isOffered 39 = .ok (.iload_n 3, 1) := by decide +kernel
theorem dX2_isOffered_40 : decode cX2_isOffered 40 = .ok (.aload_n 0, 1) := by decide +kernel
theorem dX2_isOffered_41 : decode cX2_isOffered 41 = .ok (.getfield 17, 3) := by decide +kernel
theorem dX2_isOffered_44 : decode cX2_isOffered 44 = .ok (.iconst 1, 1) := by decide +kernel
theorem dX2_isOffered_45 : decode cX2_isOffered 45 = .ok (.aaload, 1) := by decide +kernel
theorem dX2_isOffered_46 : decode cX2_isOffered 46 = .ok (.iload_n 1, 1) := by decide +kernel
theorem dX2_isOffered_47 : decode cX2_isOffered 47 = .ok (.iaload, 1) := by decide +kernel
theorem dX2_isOffered_48 : decode cX2_isOffered 48 = .ok (.if_icmp .lt 31, 3) := by decide +kernel
theorem dX2_isOffered_51 : decode cX2_isOffered 51 = .ok (.iload_n 3, 1) := by decide +kernel
theorem dX2_isOffered_52 : decode cX2_isOffered 52 = .ok (.aload_n 0, 1) := by decide +kernel
theorem dX2_isOffered_53 : decode cX2_isOffered 53 = .ok (.getfield 17, 3) := by decide +kernel
theorem dX2_isOffered_56 : decode cX2_isOffered 56 = .ok (.iconst 2, 1) := by decide +kernel
theorem dX2_isOffered_57 : decode cX2_isOffered 57 = .ok (.aaload, 1) := by decide +kernel
theorem dX2_isOffered_58 : decode cX2_isOffered 58 = .ok (.iload_n 1, 1) := by decide +kernel
theorem dX2_isOffered_59 : decode cX2_isOffered 59 = .ok (.iaload, 1) := by decide +kernel
theorem dX2_isOffered_60 : decode cX2_isOffered 60 = .ok (.if_icmp .gt 19, 3) := by decide +kernel
theorem dX2_isOffered_63 : decode cX2_isOffered 63 = .ok (.iload_n 3, 1) := by decide +kernel
theorem dX2_isOffered_64 : decode cX2_isOffered 64 = .ok (.aload_n 0, 1) := by decide +kernel
theorem dX2_isOffered_65 : decode cX2_isOffered 65 = .ok (.getfield 17, 3) := by decide +kernel
theorem dX2_isOffered_68 : decode cX2_isOffered 68 = .ok (.iconst 4, 1) := by decide +kernel
theorem dX2_isOffered_69 : decode cX2_isOffered 69 = .ok (.aaload, 1) := by decide +kernel
theorem dX2_isOffered_70 : decode cX2_isOffered 70 = .ok (.iload_n 1, 1) := by decide +kernel
theorem dX2_isOffered_71 : decode cX2_isOffered 71 = .ok (.iaload, 1) := by decide +kernel
theorem dX2_isOffered_72 : decode cX2_isOffered 72 = .ok (.if_icmp .eq 7, 3) := by decide +kernel
theorem dX2_isOffered_75 : decode cX2_isOffered 75 = .ok (.iconst 1, 1) := by decide +kernel
theorem dX2_isOffered_76 : decode cX2_isOffered 76 = .ok (.goto 4, 3) := by decide +kernel
theorem dX2_isOffered_79 : decode cX2_isOffered 79 = .ok (.iconst 0, 1) := by decide +kernel
theorem dX2_isOffered_80 : decode cX2_isOffered 80 = .ok (.ireturn, 1) := by decide +kernel
theorem dX2_mayStamp_0 : decode cX2_mayStamp 0 = .ok (.aload_n 0, 1) := by decide +kernel
theorem dX2_mayStamp_1 : decode cX2_mayStamp 1 = .ok (.iload_n 1, 1) := by decide +kernel
theorem dX2_mayStamp_2 : decode cX2_mayStamp 2 = .ok (.invokevirtual 61, 3) := by decide +kernel
theorem dX2_mayStamp_5 : decode cX2_mayStamp 5 = .ok (.ifCond .eq 45, 3) := by decide +kernel
theorem dX2_mayStamp_8 : decode cX2_mayStamp 8 = .ok (.iload_n 2, 1) := by decide +kernel
theorem dX2_mayStamp_9 : decode cX2_mayStamp 9 = .ok (.iload_n 1, 1) := by decide +kernel
theorem dX2_mayStamp_10 : decode cX2_mayStamp 10 = .ok (.invokestatic 69, 3) := by decide +kernel
theorem dX2_mayStamp_13 : decode cX2_mayStamp 13 = .ok (.ifCond .ne 37, 3) := by decide +kernel
theorem dX2_mayStamp_16 : decode cX2_mayStamp 16 = .ok (.aload_n 0, 1) := by decide +kernel
theorem dX2_mayStamp_17 : decode cX2_mayStamp 17 = .ok (.getfield 17, 3) := by decide +kernel
theorem dX2_mayStamp_20 : decode cX2_mayStamp 20 = .ok (.bipush 9, 2) := by decide +kernel
theorem dX2_mayStamp_22 : decode cX2_mayStamp 22 = .ok (.aaload, 1) := by decide +kernel
theorem dX2_mayStamp_23 : decode cX2_mayStamp 23 = .ok (.iload_n 1, 1) := by decide +kernel
theorem dX2_mayStamp_24 : decode cX2_mayStamp 24 = .ok (.iaload, 1) := by decide +kernel
theorem dX2_mayStamp_25 : decode cX2_mayStamp 25 = .ok (.iload_n 2, 1) := by decide +kernel
theorem dX2_mayStamp_26 : decode cX2_mayStamp 26 = .ok (.iconst (-1), 1) := by decide +kernel
theorem dX2_mayStamp_27 : decode cX2_mayStamp 27 = .ok (.ixor, 1) := by decide +kernel
theorem dX2_mayStamp_28 : decode cX2_mayStamp 28 = .ok (.iand, 1) := by decide +kernel
theorem dX2_mayStamp_29 : decode cX2_mayStamp 29 = .ok (.ifCond .ne 21, 3) := by decide +kernel
theorem dX2_mayStamp_32 : decode cX2_mayStamp 32 = .ok (.aload_n 0, 1) := by decide +kernel
theorem dX2_mayStamp_33 : decode cX2_mayStamp 33 = .ok (.getfield 17, 3) := by decide +kernel
theorem dX2_mayStamp_36 : decode cX2_mayStamp 36 = .ok (.bipush 10, 2) := by decide +kernel
theorem dX2_mayStamp_38 : decode cX2_mayStamp 38 = .ok (.aaload, 1) := by decide +kernel
theorem dX2_mayStamp_39 : decode cX2_mayStamp 39 = .ok (.iload_n 1, 1) := by decide +kernel
theorem dX2_mayStamp_40 : decode cX2_mayStamp 40 = .ok (.iaload, 1) := by decide +kernel
theorem dX2_mayStamp_41 : decode cX2_mayStamp 41 = .ok (.iload_n 2, 1) := by decide +kernel
theorem dX2_mayStamp_42 : decode cX2_mayStamp 42 = .ok (.iand, 1) := by decide +kernel
theorem dX2_mayStamp_43 : decode cX2_mayStamp 43 = .ok (.ifCond .ne 7, 3) := by decide +kernel
theorem dX2_mayStamp_46 : decode cX2_mayStamp 46 = .ok (.iconst 1, 1) := by decide +kernel
theorem dX2_mayStamp_47 : decode cX2_mayStamp 47 = .ok (.goto 4, 3) := by decide +kernel
theorem dX2_mayStamp_50 : decode cX2_mayStamp 50 = .ok (.iconst 0, 1) := by decide +kernel
theorem dX2_mayStamp_51 : decode cX2_mayStamp 51 = .ok (.ireturn, 1) := by decide +kernel
theorem dX2_countAsked_0 : decode cX2_countAsked 0 = .ok (.iconst 0, 1) := by decide +kernel
theorem dX2_countAsked_1 : decode cX2_countAsked 1 = .ok (.istore_n 2, 1) := by decide +kernel
theorem dX2_countAsked_2 : decode cX2_countAsked 2 = .ok (.iconst 0, 1) := by decide +kernel
theorem dX2_countAsked_3 : decode cX2_countAsked 3 = .ok (.istore_n 3, 1) := by decide +kernel
theorem dX2_countAsked_4 : decode cX2_countAsked 4 = .ok (.iload_n 3, 1) := by decide +kernel
theorem dX2_countAsked_5 : decode cX2_countAsked 5 = .ok (.aload_n 0, 1) := by decide +kernel
theorem dX2_countAsked_6 : decode cX2_countAsked 6 = .ok (.getfield 36, 3) := by decide +kernel
theorem dX2_countAsked_9 : decode cX2_countAsked 9 = .ok (.if_icmp .ge 23, 3) := by decide +kernel
theorem dX2_countAsked_12 : decode cX2_countAsked 12 = .ok (.iload_n 2, 1) := by decide +kernel
theorem dX2_countAsked_13 : decode cX2_countAsked 13 = .ok (.aload_n 0, 1) := by decide +kernel
theorem dX2_countAsked_14 : decode cX2_countAsked 14 = .ok (.getfield 17, 3) := by decide +kernel
theorem dX2_countAsked_17 : decode cX2_countAsked 17 = .ok (.iload_n 1, 1) := by decide +kernel
theorem dX2_countAsked_18 : decode cX2_countAsked 18 = .ok (.aaload, 1) := by decide +kernel
theorem dX2_countAsked_19 : decode cX2_countAsked 19 = .ok (.iload_n 3, 1) := by decide +kernel
theorem dX2_countAsked_20 : decode cX2_countAsked 20 = .ok (.iaload, 1) := by decide +kernel
theorem dX2_countAsked_21 : decode cX2_countAsked 21 = .ok (.invokestatic 72, 3) := by decide +kernel
theorem dX2_countAsked_24 : decode cX2_countAsked 24 = .ok (.iadd, 1) := by decide +kernel
theorem dX2_countAsked_25 : decode cX2_countAsked 25 = .ok (.istore_n 2, 1) := by decide +kernel
theorem dX2_countAsked_26 : decode cX2_countAsked 26 = .ok (.iinc 3 1, 3) := by decide +kernel
theorem dX2_countAsked_29 : decode cX2_countAsked 29 = .ok (.goto (-25), 3) := by decide +kernel
theorem dX2_countAsked_32 : decode cX2_countAsked 32 = .ok (.iload_n 2, 1) := by decide +kernel
theorem dX2_countAsked_33 : decode cX2_countAsked 33 = .ok (.ireturn, 1) := by decide +kernel
theorem dX3_init_0 : decode cX3_init 0 = .ok (.aload_n 0, 1) := by decide +kernel
theorem dX3_init_1 : decode cX3_init 1 = .ok (.invokespecial 3, 3) := by decide +kernel
theorem dX3_init_4 : decode cX3_init 4 = .ok (.aload_n 0, 1) := by decide +kernel
theorem dX3_init_5 : decode cX3_init 5 = .ok (.sipush 400, 3) := by decide +kernel
theorem dX3_init_8 : decode cX3_init 8 = .ok (.newarray .int, 2) := by decide +kernel
theorem dX3_init_10 : decode cX3_init 10 = .ok (.putfield 9, 3) := by decide +kernel
theorem dX3_init_13 : decode cX3_init 13 = .ok (.aload_n 0, 1) := by decide +kernel
theorem dX3_init_14 : decode cX3_init 14 = .ok (.bipush 9, 2) := by decide +kernel
theorem dX3_init_16 : decode cX3_init 16 = .ok (.newarray .int, 2) := by decide +kernel
theorem dX3_init_18 : decode cX3_init 18 = .ok (.putfield 15, 3) := by decide +kernel
theorem dX3_init_21 : decode cX3_init 21 = .ok (.aload_n 0, 1) := by decide +kernel
theorem dX3_init_22 : decode cX3_init 22 = .ok (.bipush 8, 2) := by decide +kernel
theorem dX3_init_24 : decode cX3_init 24 = .ok (.newarray .int, 2) := by decide +kernel
theorem dX3_init_26 : decode cX3_init 26 = .ok (.putfield 18, 3) := by decide +kernel
theorem dX3_init_29 : decode cX3_init 29 = .ok (.aload_n 0, 1) := by decide +kernel
theorem dX3_init_30 : decode cX3_init 30 = .ok (.aload_n 1, 1) := by decide +kernel
theorem dX3_init_31 : decode cX3_init 31 = .ok (.putfield 21, 3) := by decide +kernel
theorem dX3_init_34 : decode cX3_init 34 = .ok (.return_, 1) := by decide +kernel
theorem dX3_serve_0 : decode cX3_serve 0 = .ok (.aload_n 0, 1) := by decide +kernel
theorem dX3_serve_1 : decode cX3_serve 1 = .ok (.getfield 9, 3) := by decide +kernel
theorem dX3_serve_4 : decode cX3_serve 4 = .ok (.iconst 0, 1) := by decide +kernel
theorem dX3_serve_5 : decode cX3_serve 5 = .ok (.invokestatic 25, 3) := by decide +kernel
theorem dX3_serve_8 : decode cX3_serve 8 = .ok (.aload_n 0, 1) := by decide +kernel
theorem dX3_serve_9 : decode cX3_serve 9 = .ok (.getfield 18, 3) := by decide +kernel
theorem dX3_serve_12 : decode cX3_serve 12 = .ok (.iconst 0, 1) := by decide +kernel
theorem dX3_serve_13 : decode cX3_serve 13 = .ok (.invokestatic 25, 3) := by decide +kernel
theorem dX3_serve_16 : decode cX3_serve 16 = .ok (.aload_n 0, 1) := by decide +kernel
theorem dX3_serve_17 : decode cX3_serve 17 = .ok (.getfield 15, 3) := by decide +kernel
theorem dX3_serve_20 : decode cX3_serve 20 = .ok (.iconst (-1), 1) := by decide +kernel
theorem dX3_serve_21 : decode cX3_serve 21 = .ok (.invokestatic 25, 3) := by decide +kernel
theorem dX3_serve_24 : decode cX3_serve 24 = .ok (.aload_n 0, 1) := by decide +kernel
theorem dX3_serve_25 : decode cX3_serve 25 = .ok (.iconst 0, 1) := by decide +kernel
theorem dX3_serve_26 : decode cX3_serve 26 = .ok (.putfield 31, 3) := by decide +kernel
theorem dX3_serve_29 : decode cX3_serve 29 = .ok (.iconst 0, 1) := by decide +kernel
theorem dX3_serve_30 : decode cX3_serve 30 = .ok (.istore 4, 2) := by decide +kernel
theorem dX3_serve_32 : decode cX3_serve 32 = .ok (.iload 4, 2) := by decide +kernel
theorem dX3_serve_34 : decode cX3_serve 34 = .ok (.iload_n 3, 1) := by decide +kernel
theorem dX3_serve_35 : decode cX3_serve 35 = .ok (.if_icmp .ge 29, 3) := by decide +kernel
theorem dX3_serve_38 : decode cX3_serve 38 = .ok (.iload 4, 2) := by decide +kernel
theorem dX3_serve_40 : decode cX3_serve 40 = .ok (.bipush 9, 2) := by decide +kernel
theorem dX3_serve_42 : decode cX3_serve 42 = .ok (.if_icmp .ge 22, 3) := by decide +kernel
theorem dX3_serve_45 : decode cX3_serve 45 = .ok (.aload_n 0, 1) := by decide +kernel
theorem dX3_serve_46 : decode cX3_serve 46 = .ok (.getfield 15, 3) := by decide +kernel
theorem dX3_serve_49 : decode cX3_serve 49 = .ok (.iload 4, 2) := by decide +kernel
theorem dX3_serve_51 : decode cX3_serve 51 = .ok (.aload_n 0, 1) := by decide +kernel
theorem dX3_serve_52 : decode cX3_serve 52 = .ok (.aload_n 1, 1) := by decide +kernel
theorem dX3_serve_53 : decode cX3_serve 53 = .ok (.iload_n 2, 1) := by decide +kernel
theorem dX3_serve_54 : decode cX3_serve 54 = .ok (.invokevirtual 35, 3) := by decide +kernel
theorem dX3_serve_57 : decode cX3_serve 57 = .ok (.iastore, 1) := by decide +kernel
theorem dX3_serve_58 : decode cX3_serve 58 = .ok (.iinc 4 1, 3) := by decide +kernel
theorem dX3_serve_61 : decode cX3_serve 61 = .ok (.goto (-29), 3) := by decide +kernel
theorem dX3_serve_64 : decode cX3_serve 64 = .ok (.return_, 1) := by decide +kernel
theorem dX3_goBy_0 : decode cX3_goBy 0 = .ok (.aload_n 0, 1) := by decide +kernel
theorem dX3_goBy_1 : decode cX3_goBy 1 = .ok (.getfield 21, 3) := by decide +kernel
theorem dX3_goBy_4 : decode cX3_goBy 4 = .ok (.aload_n 0, 1) := by decide +kernel
theorem dX3_goBy_5 : decode cX3_goBy 5 = .ok (.getfield 21, 3) := by decide +kernel
theorem dX3_goBy_8 : decode cX3_goBy 8 = .ok (.getfield 39, 3) := by decide +kernel
theorem dX3_goBy_11 : decode cX3_goBy 11 = .ok (.getfield 45, 3) := by decide +kernel
theorem dX3_goBy_14 : decode cX3_goBy 14 = .ok (.invokevirtual 50, 3) := by decide +kernel
theorem dX3_goBy_17 : decode cX3_goBy 17 = .ok (.iconst 0, 1) := by decide +kernel
theorem dX3_goBy_18 : decode cX3_goBy 18 = .ok (.istore_n 3, 1) := by decide +kernel
theorem dX3_goBy_19 : decode cX3_goBy 19 = .ok (.iload_n 3, 1) := by decide +kernel
theorem dX3_goBy_20 : decode cX3_goBy 20 = .ok (.aload_n 1, 1) := by decide +kernel
theorem dX3_goBy_21 : decode cX3_goBy 21 = .ok (.iload_n 2, 1) := by decide +kernel
theorem dX3_goBy_22 : decode cX3_goBy 22 = .ok (.invokevirtual 54, 3) := by decide +kernel
theorem dX3_goBy_25 : decode cX3_goBy 25 = .ok (.if_icmp .ge 24, 3) := by decide +kernel
theorem dX3_goBy_28 : decode cX3_goBy 28 = .ok (.aload_n 0, 1) := by decide +kernel
theorem dX3_goBy_29 : decode cX3_goBy 29 = .ok (.aload_n 1, 1) := by decide +kernel
theorem dX3_goBy_30 : decode cX3_goBy 30 = .ok (.iload_n 2, 1) := by decide +kernel
theorem dX3_goBy_31 : decode cX3_goBy 31 = .ok (.iload_n 3, 1) := by decide +kernel
theorem dX3_goBy_32 : decode cX3_goBy 32 = .ok (.invokevirtual 60, 3) := by decide +kernel
theorem dX3_goBy_35 : decode cX3_goBy 35 = .ok (.invokevirtual 64, 3) := by decide +kernel
theorem dX3_goBy_38 : decode cX3_goBy 38 = .ok (.ifCond .ne 5, 3) := by decide +kernel
theorem dX3_goBy_41 : decode cX3_goBy 41 = .ok (.iconst (-1), 1) := by decide +kernel
theorem dX3_goBy_42 : decode cX3_goBy 42 = .ok (.ireturn, 1) := by decide +kernel
theorem dX3_goBy_43 : decode cX3_goBy 43 = .ok (.iinc 3 1, 3) := by decide +kernel
theorem dX3_goBy_46 : decode cX3_goBy 46 = .ok (.goto (-27), 3) := by decide +kernel
theorem dX3_goBy_49 : decode cX3_goBy 49 = .ok (.aload_n 0, 1) := by decide +kernel
theorem dX3_goBy_50 : decode cX3_goBy 50 = .ok (.getfield 21, 3) := by decide +kernel
theorem dX3_goBy_53 : decode cX3_goBy 53 = .ok (.getfield 68, 3) := by decide +kernel
theorem dX3_goBy_56 : decode cX3_goBy 56 = .ok (.ireturn, 1) := by decide +kernel
theorem dX3_goTo_0 : decode cX3_goTo 0 = .ok (.aload_n 0, 1) := by decide +kernel
theorem dX3_goTo_1 : decode cX3_goTo 1 = .ok (.getfield 21, 3) := by decide +kernel
theorem dX3_goTo_4 : decode cX3_goTo 4 = .ok (.iload_n 1, 1) := by decide +kernel
theorem dX3_goTo_5 : decode cX3_goTo 5 = .ok (.invokevirtual 71, 3) := by decide +kernel
theorem dX3_goTo_8 : decode cX3_goTo 8 = .ok (.istore_n 2, 1) := by decide +kernel
theorem dX3_goTo_9 : decode cX3_goTo 9 = .ok (.iload_n 2, 1) := by decide +kernel
theorem dX3_goTo_10 : decode cX3_goTo 10 = .ok (.iconst (-1), 1) := by decide +kernel
theorem dX3_goTo_11 : decode cX3_goTo 11 = .ok (.if_icmp .eq 14, 3) := by decide +kernel
theorem dX3_goTo_14 : decode cX3_goTo 14 = .ok (.aload_n 0, 1) := by decide +kernel
theorem dX3_goTo_15 : decode cX3_goTo 15 = .ok (.getfield 21, 3) := by decide +kernel
theorem dX3_goTo_18 : decode cX3_goTo 18 = .ok (.iload_n 1, 1) := by decide +kernel
theorem dX3_goTo_19 : decode cX3_goTo 19 = .ok (.invokevirtual 74, 3) := by decide +kernel
theorem dX3_goTo_22 : decode cX3_goTo 22 = .ok (.ifCond .eq 5, 3) := by decide +kernel
theorem dX3_goTo_25 : decode cX3_goTo 25 = .ok (.iconst 0, 1) := by decide +kernel
theorem dX3_goTo_26 : decode cX3_goTo 26 = .ok (.ireturn, 1) := by decide +kernel
theorem dX3_goTo_27 : decode cX3_goTo 27 = .ok (.aload_n 0, 1) := by decide +kernel
theorem dX3_goTo_28 : decode cX3_goTo 28 = .ok (.iload_n 1, 1) := by decide +kernel
theorem dX3_goTo_29 : decode cX3_goTo 29 = .ok (.aload_n 0, 1) := by decide +kernel
theorem dX3_goTo_30 : decode cX3_goTo 30 = .ok (.getfield 21, 3) := by decide +kernel
theorem dX3_goTo_33 : decode cX3_goTo 33 = .ok (.iload_n 1, 1) := by decide +kernel
theorem dX3_goTo_34 : decode cX3_goTo 34 = .ok (.iload_n 2, 1) := by decide +kernel
theorem dX3_goTo_35 : decode cX3_goTo 35 = .ok (.invokevirtual 77, 3) := by decide +kernel
theorem dX3_goTo_38 : decode cX3_goTo 38 = .ok (.invokevirtual 80, 3) := by decide +kernel
theorem dX3_goTo_41 : decode cX3_goTo 41 = .ok (.istore_n 3, 1) := by decide +kernel
theorem dX3_goTo_42 : decode cX3_goTo 42 = .ok (.iload_n 3, 1) := by decide +kernel
theorem dX3_goTo_43 : decode cX3_goTo 43 = .ok (.iconst (-1), 1) := by decide +kernel
theorem dX3_goTo_44 : decode cX3_goTo 44 = .ok (.if_icmp .eq 15, 3) := by decide +kernel
theorem dX3_goTo_47 : decode cX3_goTo 47 = .ok (.iload_n 3, 1) := by decide +kernel
theorem dX3_goTo_48 : decode cX3_goTo 48 = .ok (.aload_n 0, 1) := by decide +kernel
theorem dX3_goTo_49 : decode cX3_goTo 49 = .ok (.getfield 21, 3) := by decide +kernel
theorem dX3_goTo_52 : decode cX3_goTo 52 = .ok (.iload_n 1, 1) := by decide +kernel
theorem dX3_goTo_53 : decode cX3_goTo 53 = .ok (.invokevirtual 83, 3) := by decide +kernel
theorem dX3_goTo_56 : decode cX3_goTo 56 = .ok (.if_icmp .le 5, 3) := by decide +kernel
theorem dX3_goTo_59 : decode cX3_goTo 59 = .ok (.iconst 0, 1) := by decide +kernel
theorem dX3_goTo_60 : decode cX3_goTo 60 = .ok (.ireturn, 1) := by decide +kernel
theorem dX3_goTo_61 : decode cX3_goTo 61 = .ok (.aload_n 0, 1) := by decide +kernel
theorem dX3_goTo_62 : decode cX3_goTo 62 = .ok (.getfield 18, 3) := by decide +kernel
theorem dX3_goTo_65 : decode cX3_goTo 65 = .ok (.iload_n 1, 1) := by decide +kernel
theorem dX3_goTo_66 : decode cX3_goTo 66 = .ok (.dup2, 1) := by decide +kernel
theorem dX3_goTo_67 : decode cX3_goTo 67 = .ok (.iaload, 1) := by decide +kernel
theorem dX3_goTo_68 : decode cX3_goTo 68 = .ok (.iload_n 3, 1) := by decide +kernel
theorem dX3_goTo_69 : decode cX3_goTo 69 = .ok (.iload_n 2, 1) := by decide +kernel
theorem dX3_goTo_70 : decode cX3_goTo 70 = .ok (.isub, 1) := by decide +kernel
theorem dX3_goTo_71 : decode cX3_goTo 71 = .ok (.iadd, 1) := by decide +kernel
theorem dX3_goTo_72 : decode cX3_goTo 72 = .ok (.iastore, 1) := by decide +kernel
theorem dX3_goTo_73 : decode cX3_goTo 73 = .ok (.aload_n 0, 1) := by decide +kernel
theorem dX3_goTo_74 : decode cX3_goTo 74 = .ok (.dup, 1) := by decide +kernel
theorem dX3_goTo_75 : decode cX3_goTo 75 = .ok (.getfield 31, 3) := by decide +kernel
theorem dX3_goTo_78 : decode cX3_goTo 78 = .ok (.iconst 1, 1) := by decide +kernel
theorem dX3_goTo_79 : decode cX3_goTo 79 = .ok (.iload_n 1, 1) := by decide +kernel
theorem dX3_goTo_80 : decode cX3_goTo 80 = .ok (.ishl, 1) := by decide +kernel
theorem dX3_goTo_81 : decode cX3_goTo 81 = .ok (.ior, 1) := by decide +kernel
theorem dX3_goTo_82 : decode cX3_goTo 82 = .ok (.putfield 31, 3) := by decide +kernel
theorem dX3_goTo_85 : decode cX3_goTo 85 = .ok (.aload_n 0, 1) := by decide +kernel
theorem dX3_goTo_86 : decode cX3_goTo 86 = .ok (.getfield 9, 3) := by decide +kernel
theorem dX3_goTo_89 : decode cX3_goTo 89 = .ok (.iload_n 3, 1) := by decide +kernel
theorem dX3_goTo_90 : decode cX3_goTo 90 = .ok (.dup2, 1) := by decide +kernel
theorem dX3_goTo_91 : decode cX3_goTo 91 = .ok (.iaload, 1) := by decide +kernel
theorem dX3_goTo_92 : decode cX3_goTo 92 = .ok (.iconst 1, 1) := by decide +kernel
theorem dX3_goTo_93 : decode cX3_goTo 93 = .ok (.iload_n 1, 1) := by decide +kernel
theorem dX3_goTo_94 : decode cX3_goTo 94 = .ok (.ishl, 1) := by decide +kernel
theorem dX3_goTo_95 : decode cX3_goTo 95 = .ok (.ior, 1) := by decide +kernel
theorem dX3_goTo_96 : decode cX3_goTo 96 = .ok (.iastore, 1) := by decide +kernel
theorem dX3_goTo_97 : decode cX3_goTo 97 = .ok (.aload_n 0, 1) := by decide +kernel
theorem dX3_goTo_98 : decode cX3_goTo 98 = .ok (.getfield 21, 3) := by decide +kernel
theorem dX3_goTo_101 : decode cX3_goTo 101 = .ok (.iload_n 1, 1) := by decide +kernel
theorem dX3_goTo_102 : decode cX3_goTo 102 = .ok (.iload_n 3, 1) := by decide +kernel
theorem dX3_goTo_103 : decode cX3_goTo 103 = .ok (.invokevirtual 86, 3) := by decide +kernel
theorem dX3_goTo_106 : decode cX3_goTo 106 = .ok (.iconst 1, 1) := by decide +kernel
theorem dX3_goTo_107 : decode cX3_goTo 107 = .ok (.ireturn, 1) := by decide +kernel
theorem dX3_firstFree_0 : decode cX3_firstFree 0 = .ok (.aload_n 0, 1) := by decide +kernel
theorem dX3_firstFree_1 : decode cX3_firstFree 1 = .ok (.getfield 21, 3) := by decide +kernel
theorem dX3_firstFree_4 : decode cX3_firstFree 4 = .ok (.getfield 90, 3) := by decide +kernel
theorem dX3_firstFree_7 : decode cX3_firstFree 7 = .ok (.iload_n 1, 1) := by decide +kernel
theorem dX3_firstFree_8 : decode cX3_firstFree 8 = .ok (.iload_n 2, 1) := by decide +kernel
theorem dX3_firstFree_9 : decode cX3_firstFree 9 = .ok (.invokevirtual 94, 3) := by decide +kernel
theorem dX3_firstFree_12 : decode cX3_firstFree 12 = .ok (.istore_n 3, 1) := by decide +kernel
theorem dX3_firstFree_13 : decode cX3_firstFree 13 = .ok (.iconst 0, 1) := by decide +kernel
theorem dX3_firstFree_14 : decode cX3_firstFree 14 = .ok (.istore 4, 2) := by decide +kernel
theorem dX3_firstFree_16 : decode cX3_firstFree 16 = .ok (.iload 4, 2) := by decide +kernel
theorem dX3_firstFree_18 : decode cX3_firstFree 18 = .ok (.sipush 400, 3) := by decide +kernel
theorem dX3_firstFree_21 : decode cX3_firstFree 21 = .ok (.if_icmp .ge 44, 3) := by decide +kernel
theorem dX3_firstFree_24 : decode cX3_firstFree 24 = .ok (.iload_n 3, 1) := by decide +kernel
theorem dX3_firstFree_25 : decode cX3_firstFree 25 = .ok (.invokestatic 99, 3) := by decide +kernel
theorem dX3_firstFree_28 : decode cX3_firstFree 28 = .ok (.ifCond .eq 37, 3) := by decide +kernel
theorem dX3_firstFree_31 : decode cX3_firstFree 31 = .ok (.aload_n 0, 1) := by decide +kernel
theorem dX3_firstFree_32 : decode cX3_firstFree 32 = .ok (.getfield 9, 3) := by decide +kernel
theorem dX3_firstFree_35 : decode cX3_firstFree 35 = .ok (.iload_n 3, 1) := by decide +kernel
theorem dX3_firstFree_36 : decode cX3_firstFree 36 = .ok (.iaload, 1) := by decide +kernel
theorem dX3_firstFree_37 : decode cX3_firstFree 37 = .ok (.iload_n 1, 1) := by decide +kernel
theorem dX3_firstFree_38 : decode cX3_firstFree 38 = .ok (.invokestatic 102, 3) := by decide +kernel
theorem dX3_firstFree_41 : decode cX3_firstFree 41 = .ok (.ifCond .eq 24, 3) := by decide +kernel
theorem dX3_firstFree_44 : decode cX3_firstFree 44 = .ok (.aload_n 0, 1) := by decide +kernel
theorem dX3_firstFree_45 : decode cX3_firstFree 45 = .ok (.getfield 21, 3) := by decide +kernel
theorem dX3_firstFree_48 : decode cX3_firstFree 48 = .ok (.getfield 90, 3) := by decide +kernel
theorem dX3_firstFree_51 : decode cX3_firstFree 51 = .ok (.iload_n 1, 1) := by decide +kernel
theorem dX3_firstFree_52 : decode cX3_firstFree 52 = .ok (.iload_n 3, 1) := by decide +kernel
theorem dX3_firstFree_53 : decode cX3_firstFree 53 = .ok (.iconst 1, 1) := by decide +kernel
theorem dX3_firstFree_54 : decode cX3_firstFree 54 = .ok (.iadd, 1) := by decide +kernel
theorem dX3_firstFree_55 : decode cX3_firstFree 55 = .ok (.invokevirtual 94, 3) := by decide +kernel
theorem dX3_firstFree_58 : decode cX3_firstFree 58 = .ok (.istore_n 3, 1) := by decide +kernel
theorem dX3_firstFree_59 : decode cX3_firstFree 59 = .ok (.iinc 4 1, 3) := by decide +kernel
theorem dX3_firstFree_62 : decode cX3_firstFree 62 = .ok (.goto (-46), 3) := by decide +kernel
theorem dX3_firstFree_65 : decode cX3_firstFree 65 = .ok (.iload_n 3, 1) := by decide +kernel
theorem dX3_firstFree_66 : decode cX3_firstFree 66 = .ok (.ireturn, 1) := by decide +kernel
theorem dX3_lastThrough_0 : decode cX3_lastThrough 0 = .ok (.iconst 0, 1) := by decide +kernel
theorem dX3_lastThrough_1 : decode cX3_lastThrough 1 = .ok (.istore_n 2, 1) := by decide +kernel
theorem dX3_lastThrough_2 : decode cX3_lastThrough 2 = .ok (.iconst 0, 1) := by decide +kernel
theorem dX3_lastThrough_3 : decode cX3_lastThrough 3 = .ok (.istore_n 3, 1) := by decide +kernel
theorem dX3_lastThrough_4 : decode cX3_lastThrough 4 = .ok (.iload_n 3, 1) := by decide +kernel
theorem dX3_lastThrough_5 : decode cX3_lastThrough 5 = .ok (.iload_n 1, 1) := by decide +kernel
theorem dX3_lastThrough_6 : decode cX3_lastThrough 6 = .ok (.if_icmp .ge 38, 3) := by decide +kernel
theorem dX3_lastThrough_9 : decode cX3_lastThrough 9 = .ok (.iload_n 3, 1) := by decide +kernel
theorem dX3_lastThrough_10 : decode cX3_lastThrough 10 = .ok (.bipush 9, 2) := by decide +kernel
theorem dX3_lastThrough_12 : decode cX3_lastThrough 12 = .ok (.if_icmp .ge 32, 3) := by decide +kernel
theorem dX3_lastThrough_15 : decode cX3_lastThrough 15 = .ok (.aload_n 0, 1) := by decide +kernel
theorem dX3_lastThrough_16 : decode cX3_lastThrough 16 = .ok (.getfield 15, 3) := by decide +kernel
theorem dX3_lastThrough_19 : decode cX3_lastThrough 19 = .ok (.iload_n 3, 1) := by decide +kernel
theorem dX3_lastThrough_20 : decode cX3_lastThrough 20 = .ok (.iaload, 1) := by decide +kernel
theorem dX3_lastThrough_21 : decode cX3_lastThrough 21 = .ok (.iconst (-1), 1) := by decide +kernel
theorem dX3_lastThrough_22 : decode cX3_lastThrough 22 = .ok (.if_icmp .ne 5, 3) := by decide +kernel
theorem dX3_lastThrough_25 : decode cX3_lastThrough 25 = .ok (.iconst (-1), 1) := by decide +kernel
theorem dX3_lastThrough_26 : decode cX3_lastThrough 26 = .ok (.ireturn, 1) := by decide +kernel
theorem dX3_lastThrough_27 : decode cX3_lastThrough 27 = .ok (.iload_n 2, 1) := by decide +kernel
theorem dX3_lastThrough_28 : decode cX3_lastThrough 28 = .ok (.aload_n 0, 1) := by decide +kernel
theorem dX3_lastThrough_29 : decode cX3_lastThrough 29 = .ok (.getfield 15, 3) := by decide +kernel
theorem dX3_lastThrough_32 : decode cX3_lastThrough 32 = .ok (.iload_n 3, 1) := by decide +kernel
theorem dX3_lastThrough_33 : decode cX3_lastThrough 33 = .ok (.iaload, 1) := by decide +kernel
theorem dX3_lastThrough_34 : decode cX3_lastThrough 34 = .ok (.invokestatic 106, 3) := by decide +kernel
theorem dX3_lastThrough_37 : decode cX3_lastThrough 37 = .ok (.istore_n 2, 1) := by decide +kernel
theorem dX3_lastThrough_38 : decode cX3_lastThrough 38 = .ok (.iinc 3 1, 3) := by decide +kernel
theorem dX3_lastThrough_41 : decode cX3_lastThrough 41 = .ok (.goto (-37), 3) := by decide +kernel
theorem dX3_lastThrough_44 : decode cX3_lastThrough 44 = .ok (.iload_n 2, 1) := by decide +kernel
theorem dX3_lastThrough_45 : decode cX3_lastThrough 45 = .ok (.ireturn, 1) := by decide +kernel
theorem dX3_throughBy_0 : decode cX3_throughBy 0 = .ok (.iconst 0, 1) := by decide +kernel
theorem dX3_throughBy_1 : decode cX3_throughBy 1 = .ok (.istore_n 2, 1) := by decide +kernel
theorem dX3_throughBy_2 : decode cX3_throughBy 2 = .ok (.iconst 0, 1) := by decide +kernel
theorem dX3_throughBy_3 : decode cX3_throughBy 3 = .ok (.istore_n 3, 1) := by decide +kernel
theorem dX3_throughBy_4 : decode cX3_throughBy 4 = .ok (.iload_n 3, 1) := by decide +kernel
theorem dX3_throughBy_5 : decode cX3_throughBy 5 = .ok (.bipush 9, 2) := by decide +kernel
theorem dX3_throughBy_7 : decode cX3_throughBy 7 = .ok (.if_icmp .ge 32, 3) := by decide +kernel
theorem dX3_throughBy_10 : decode cX3_throughBy 10 = .ok (.aload_n 0, 1) := by decide +kernel
theorem dX3_throughBy_11 : decode cX3_throughBy 11 = .ok (.getfield 15, 3) := by decide +kernel
theorem dX3_throughBy_14 : decode cX3_throughBy 14 = .ok (.iload_n 3, 1) := by decide +kernel
theorem dX3_throughBy_15 : decode cX3_throughBy 15 = .ok (.iaload, 1) := by decide +kernel
theorem dX3_throughBy_16 : decode cX3_throughBy 16 = .ok (.iconst (-1), 1) := by decide +kernel
theorem dX3_throughBy_17 : decode cX3_throughBy 17 = .ok (.if_icmp .eq 16, 3) := by decide +kernel
theorem dX3_throughBy_20 : decode cX3_throughBy 20 = .ok (.aload_n 0, 1) := by decide +kernel
theorem dX3_throughBy_21 : decode cX3_throughBy 21 = .ok (.getfield 15, 3) := by decide +kernel
theorem dX3_throughBy_24 : decode cX3_throughBy 24 = .ok (.iload_n 3, 1) := by decide +kernel
theorem dX3_throughBy_25 : decode cX3_throughBy 25 = .ok (.iaload, 1) := by decide +kernel
theorem dX3_throughBy_26 : decode cX3_throughBy 26 = .ok (.iload_n 1, 1) := by decide +kernel
theorem dX3_throughBy_27 : decode cX3_throughBy 27 = .ok (.if_icmp .gt 6, 3) := by decide +kernel
theorem dX3_throughBy_30 : decode cX3_throughBy 30 = .ok (.iinc 2 1, 3) := by decide +kernel
theorem dX3_throughBy_33 : decode cX3_throughBy 33 = .ok (.iinc 3 1, 3) := by decide +kernel
theorem dX3_throughBy_36 : decode cX3_throughBy 36 = .ok (.goto (-32), 3) := by decide +kernel
theorem dX3_throughBy_39 : decode cX3_throughBy 39 = .ok (.iload_n 2, 1) := by decide +kernel
theorem dX3_throughBy_40 : decode cX3_throughBy 40 = .ok (.ireturn, 1) := by decide +kernel
theorem dX3_longestWaitedAt_0 : decode cX3_longestWaitedAt 0 = .ok (.iconst (-1), 1) := by decide +kernel
theorem dX3_longestWaitedAt_1 : decode cX3_longestWaitedAt 1 = .ok (.istore_n 1, 1) := by decide +kernel
theorem dX3_longestWaitedAt_2 : decode cX3_longestWaitedAt 2 = .ok (.iconst 0, 1) := by decide +kernel
theorem dX3_longestWaitedAt_3 : decode cX3_longestWaitedAt 3 = .ok (.istore_n 2, 1) := by decide +kernel
theorem dX3_longestWaitedAt_4 : decode cX3_longestWaitedAt 4 = .ok (.iload_n 2, 1) := by decide +kernel
theorem dX3_longestWaitedAt_5 : decode cX3_longestWaitedAt 5 = .ok (.bipush 8, 2) := by decide +kernel
theorem dX3_longestWaitedAt_7 : decode cX3_longestWaitedAt 7 = .ok (.if_icmp .ge 42, 3) := by decide +kernel
theorem dX3_longestWaitedAt_10 : decode cX3_longestWaitedAt 10 = .ok (.aload_n 0, 1) := by decide +kernel
theorem dX3_longestWaitedAt_11 : decode cX3_longestWaitedAt 11 = .ok (.getfield 31, 3) := by decide +kernel
theorem dX3_longestWaitedAt_14 : decode cX3_longestWaitedAt 14 = .ok (.iload_n 2, 1) := by decide +kernel
theorem dX3_longestWaitedAt_15 : decode cX3_longestWaitedAt 15 = .ok (.invokestatic 102, 3) := by decide +kernel
theorem dX3_longestWaitedAt_18 : decode cX3_longestWaitedAt 18 = .ok (.ifCond .eq 25, 3) := by decide +kernel
theorem dX3_longestWaitedAt_21 : decode cX3_longestWaitedAt 21 = .ok (.iload_n 1, 1) := by decide +kernel
theorem dX3_longestWaitedAt_22 : decode cX3_longestWaitedAt 22 = .ok (.iconst (-1), 1) := by decide +kernel
theorem dX3_longestWaitedAt_23 : decode cX3_longestWaitedAt 23 = .ok (.if_icmp .eq 18, 3) := by decide +kernel
theorem dX3_longestWaitedAt_26 : decode cX3_longestWaitedAt 26 = .ok (.aload_n 0, 1) := by decide +kernel
theorem dX3_longestWaitedAt_27 : decode cX3_longestWaitedAt 27 = .ok (.getfield 18, 3) := by decide +kernel
theorem dX3_longestWaitedAt_30 : decode cX3_longestWaitedAt 30 = .ok (.iload_n 2, 1) := by decide +kernel
theorem dX3_longestWaitedAt_31 : decode cX3_longestWaitedAt 31 = .ok (.iaload, 1) := by decide +kernel
theorem dX3_longestWaitedAt_32 : decode cX3_longestWaitedAt 32 = .ok (.aload_n 0, 1) := by decide +kernel
theorem dX3_longestWaitedAt_33 : decode cX3_longestWaitedAt 33 = .ok (.getfield 18, 3) := by decide +kernel
theorem dX3_longestWaitedAt_36 : decode cX3_longestWaitedAt 36 = .ok (.iload_n 1, 1) := by decide +kernel
theorem dX3_longestWaitedAt_37 : decode cX3_longestWaitedAt 37 = .ok (.iaload, 1) := by decide +kernel
theorem dX3_longestWaitedAt_38 : decode cX3_longestWaitedAt 38 = .ok (.if_icmp .le 5, 3) := by decide +kernel
theorem dX3_longestWaitedAt_41 : decode cX3_longestWaitedAt 41 = .ok (.iload_n 2, 1) := by decide +kernel
theorem dX3_longestWaitedAt_42 : decode cX3_longestWaitedAt 42 = .ok (.istore_n 1, 1) := by decide +kernel
theorem dX3_longestWaitedAt_43 : decode cX3_longestWaitedAt 43 = .ok (.iinc 2 1, 3) := by decide +kernel
theorem dX3_longestWaitedAt_46 : decode cX3_longestWaitedAt 46 = .ok (.goto (-42), 3) := by decide +kernel
theorem dX3_longestWaitedAt_49 : decode cX3_longestWaitedAt 49 = .ok (.iload_n 1, 1) := by decide +kernel
theorem dX3_longestWaitedAt_50 : decode cX3_longestWaitedAt 50 = .ok (.ireturn, 1) := by decide +kernel
theorem dX4_init_0 : decode cX4_init 0 = .ok (.aload_n 0, 1) := by decide +kernel
theorem dX4_init_1 : decode cX4_init 1 = .ok (.invokespecial 3, 3) := by decide +kernel
theorem dX4_init_4 : decode cX4_init 4 = .ok (.aload_n 0, 1) := by decide +kernel
theorem dX4_init_5 : decode cX4_init 5 = .ok (.new 9, 3) := by decide +kernel
theorem dX4_init_8 : decode cX4_init 8 = .ok (.dup, 1) := by decide +kernel
theorem dX4_init_9 : decode cX4_init 9 = .ok (.invokespecial 11, 3) := by decide +kernel
theorem dX4_init_12 : decode cX4_init 12 = .ok (.putfield 12, 3) := by decide +kernel
theorem dX4_init_15 : decode cX4_init 15 = .ok (.aload_n 0, 1) := by decide +kernel
theorem dX4_init_16 : decode cX4_init 16 = .ok (.iconst (-1), 1) := by decide +kernel
theorem dX4_init_17 : decode cX4_init 17 = .ok (.putfield 18, 3) := by decide +kernel
theorem dX4_init_20 : decode cX4_init 20 = .ok (.aload_n 0, 1) := by decide +kernel
theorem dX4_init_21 : decode cX4_init 21 = .ok (.aload_n 1, 1) := by decide +kernel
theorem dX4_init_22 : decode cX4_init 22 = .ok (.putfield 22, 3) := by decide +kernel
theorem dX4_init_25 : decode cX4_init 25 = .ok (.return_, 1) := by decide +kernel
theorem dX4_readAll_0 : decode cX4_readAll 0 = .ok (.aload_n 0, 1) := by decide +kernel
theorem dX4_readAll_1 : decode cX4_readAll 1 = .ok (.getfield 12, 3) := by decide +kernel
theorem dX4_readAll_4 : decode cX4_readAll 4 = .ok (.invokevirtual 26, 3) := by decide +kernel
theorem dX4_readAll_7 : decode cX4_readAll 7 = .ok (.aload_n 0, 1) := by decide +kernel
theorem dX4_readAll_8 : decode cX4_readAll 8 = .ok (.iconst 0, 1) := by decide +kernel
theorem dX4_readAll_9 : decode cX4_readAll 9 = .ok (.putfield 29, 3) := by decide +kernel
theorem dX4_readAll_12 : decode cX4_readAll 12 = .ok (.aload_n 0, 1) := by decide +kernel
theorem dX4_readAll_13 : decode cX4_readAll 13 = .ok (.iconst (-1), 1) := by decide +kernel
theorem dX4_readAll_14 : decode cX4_readAll 14 = .ok (.putfield 18, 3) := by decide +kernel
theorem dX4_readAll_17 : decode cX4_readAll 17 = .ok (.aload_n 0, 1) := by decide +kernel
theorem dX4_readAll_18 : decode cX4_readAll 18 = .ok (.getfield 22, 3) := by decide +kernel
theorem dX4_readAll_21 : decode cX4_readAll 21 = .ok (.invokevirtual 32, 3) := by decide +kernel
theorem dX4_readAll_24 : decode cX4_readAll 24 = .ok (.iconst 0, 1) := by decide +kernel
theorem dX4_readAll_25 : decode cX4_readAll 25 = .ok (.istore_n 1, 1) := by decide +kernel
theorem dX4_readAll_26 : decode cX4_readAll 26 = .ok (.iload_n 1, 1) := by decide +kernel
theorem dX4_readAll_27 : decode cX4_readAll 27 = .ok (.sipush 1600, 3) := by decide +kernel
theorem dX4_readAll_30 : decode cX4_readAll 30 = .ok (.if_icmp .ge 30, 3) := by decide +kernel
theorem dX4_readAll_33 : decode cX4_readAll 33 = .ok (.aload_n 0, 1) := by decide +kernel
theorem dX4_readAll_34 : decode cX4_readAll 34 = .ok (.getfield 29, 3) := by decide +kernel
theorem dX4_readAll_37 : decode cX4_readAll 37 = .ok (.ifCond .ne 23, 3) := by decide +kernel
theorem dX4_readAll_40 : decode cX4_readAll 40 = .ok (.aload_n 0, 1) := by decide +kernel
theorem dX4_readAll_41 : decode cX4_readAll 41 = .ok (.getfield 22, 3) := by decide +kernel
theorem dX4_readAll_44 : decode cX4_readAll 44 = .ok (.getfield 37, 3) := by decide +kernel
theorem dX4_readAll_47 : decode cX4_readAll 47 = .ok (.ifCond .eq 13, 3) := by decide +kernel
theorem dX4_readAll_50 : decode cX4_readAll 50 = .ok (.aload_n 0, 1) := by decide +kernel
theorem dX4_readAll_51 : decode cX4_readAll 51 = .ok (.invokevirtual 40, 3) := by decide +kernel
theorem dX4_readAll_54 : decode cX4_readAll 54 = .ok (.iinc 1 1, 3) := by decide +kernel
theorem dX4_readAll_57 : decode cX4_readAll 57 = .ok (.goto (-31), 3) := by decide +kernel
theorem dX4_readAll_60 : decode cX4_readAll 60 = .ok (.return_, 1) := by decide +kernel
theorem dX4_readLine_0 : decode cX4_readLine 0 = .ok (.aload_n 0, 1) := by decide +kernel
theorem dX4_readLine_1 : decode cX4_readLine 1 = .ok (.getfield 22, 3) := by decide +kernel
theorem dX4_readLine_4 : decode cX4_readLine 4 = .ok (.ldc 43, 2) := by decide +kernel
theorem dX4_readLine_6 : decode cX4_readLine 6 = .ok (.invokevirtual 45, 3) := by decide +kernel
theorem dX4_readLine_9 : decode cX4_readLine 9 = .ok (.istore_n 1, 1) := by decide +kernel
theorem dX4_readLine_10 : decode cX4_readLine 10 = .ok (.iload_n 1, 1) := by decide +kernel
theorem dX4_readLine_11 : decode cX4_readLine 11 = .ok (.aload_n 0, 1) := by decide +kernel
theorem dX4_readLine_12 : decode cX4_readLine 12 = .ok (.getfield 12, 3) := by decide +kernel
theorem dX4_readLine_15 : decode cX4_readLine 15 = .ok (.getfield 49, 3) := by decide +kernel
theorem dX4_readLine_18 : decode cX4_readLine 18 = .ok (.ifCond .ne 7, 3) := by decide +kernel
theorem dX4_readLine_21 : decode cX4_readLine 21 = .ok (.iconst 1, 1) := by decide +kernel
theorem dX4_readLine_22 : decode cX4_readLine 22 = .ok (.goto 4, 3) := by decide +kernel
theorem dX4_readLine_25 : decode cX4_readLine 25 = .ok (.iconst 0, 1) := by decide +kernel
theorem dX4_readLine_26 : decode cX4_readLine 26 = .ok (.if_icmp .eq 12, 3) := by decide +kernel
theorem dX4_readLine_29 : decode cX4_readLine 29 = .ok (.aload_n 0, 1) := by decide +kernel
theorem dX4_readLine_30 : decode cX4_readLine 30 = .ok (.iconst 1, 1) := by decide +kernel
theorem dX4_readLine_31 : decode cX4_readLine 31 = .ok (.invokevirtual 52, 3) := by decide +kernel
theorem dX4_readLine_34 : decode cX4_readLine 34 = .ok (.pop, 1) := by decide +kernel
theorem dX4_readLine_35 : decode cX4_readLine 35 = .ok (.goto 138, 3) := by decide +kernel
theorem dX4_readLine_38 : decode cX4_readLine 38 = .ok (.iload_n 1, 1) := by decide +kernel
theorem dX4_readLine_39 : decode cX4_readLine 39 = .ok (.ifCond .eq 10, 3) := by decide +kernel
theorem dX4_readLine_42 : decode cX4_readLine 42 = .ok (.aload_n 0, 1) := by decide +kernel
theorem dX4_readLine_43 : decode cX4_readLine 43 = .ok (.invokevirtual 56, 3) := by decide +kernel
theorem dX4_readLine_46 : decode cX4_readLine 46 = .ok (.goto 127, 3) := by decide +kernel
theorem dX4_readLine_49 : decode cX4_readLine 49 = .ok (.aload_n 0, 1) := by decide +kernel
theorem dX4_readLine_50 : decode cX4_readLine 50 = .ok (.getfield 22, 3) := by decide +kernel
theorem dX4_readLine_53 : decode cX4_readLine 53 = .ok (.ldc 59, 2) := by decide +kernel
theorem dX4_readLine_55 : decode cX4_readLine 55 = .ok (.invokevirtual 45, 3) := by decide +kernel
theorem dX4_readLine_58 : decode cX4_readLine 58 = .ok (.ifCond .eq 10, 3) := by decide +kernel
theorem dX4_readLine_61 : decode cX4_readLine 61 = .ok (.aload_n 0, 1) := by decide +kernel
theorem dX4_readLine_62 : decode cX4_readLine 62 = .ok (.invokevirtual 61, 3) := by decide +kernel
theorem dX4_readLine_65 : decode cX4_readLine 65 = .ok (.goto 108, 3) := by decide +kernel
theorem dX4_readLine_68 : decode cX4_readLine 68 = .ok (.aload_n 0, 1) := by decide +kernel
theorem dX4_readLine_69 : decode cX4_readLine 69 = .ok (.getfield 22, 3) := by decide +kernel
theorem dX4_readLine_72 : decode cX4_readLine 72 = .ok (.ldc 64, 2) := by decide +kernel
theorem dX4_readLine_74 : decode cX4_readLine 74 = .ok (.invokevirtual 45, 3) := by decide +kernel
theorem dX4_readLine_77 : decode cX4_readLine 77 = .ok (.ifCond .eq 10, 3) := by decide +kernel
theorem dX4_readLine_80 : decode cX4_readLine 80 = .ok (.aload_n 0, 1) := by decide +kernel
theorem dX4_readLine_81 : decode cX4_readLine 81 = .ok (.invokevirtual 66, 3) := by decide +kernel
theorem dX4_readLine_84 : decode cX4_readLine 84 = .ok (.goto 89, 3) := by decide +kernel
theorem dX4_readLine_87 : decode cX4_readLine 87 = .ok (.aload_n 0, 1) := by decide +kernel
theorem dX4_readLine_88 : decode cX4_readLine 88 = .ok (.getfield 22, 3) := by decide +kernel
theorem dX4_readLine_91 : decode cX4_readLine 91 = .ok (.ldc 69, 2) := by decide +kernel
theorem dX4_readLine_93 : decode cX4_readLine 93 = .ok (.invokevirtual 45, 3) := by decide +kernel
theorem dX4_readLine_96 : decode cX4_readLine 96 = .ok (.ifCond .eq 12, 3) := by decide +kernel
theorem dX4_readLine_99 : decode cX4_readLine 99 = .ok (.aload_n 0, 1) := by decide +kernel
theorem dX4_readLine_100 : decode cX4_readLine 100 = .ok (.bipush 9, 2) := by decide +kernel
theorem dX4_readLine_102 : decode cX4_readLine 102 = .ok (.invokevirtual 71, 3) := by decide +kernel
theorem dX4_readLine_105 : decode cX4_readLine 105 = .ok (.goto 68, 3) := by decide +kernel
theorem dX4_readLine_108 : decode cX4_readLine 108 = .ok (.aload_n 0, 1) := by decide +kernel
theorem dX4_readLine_109 : decode cX4_readLine 109 = .ok (.getfield 22, 3) := by decide +kernel
theorem dX4_readLine_112 : decode cX4_readLine 112 = .ok (.ldc 75, 2) := by decide +kernel
theorem dX4_readLine_114 : decode cX4_readLine 114 = .ok (.invokevirtual 45, 3) := by decide +kernel
theorem dX4_readLine_117 : decode cX4_readLine 117 = .ok (.ifCond .eq 12, 3) := by decide +kernel
theorem dX4_readLine_120 : decode cX4_readLine 120 = .ok (.aload_n 0, 1) := by decide +kernel
theorem dX4_readLine_121 : decode cX4_readLine 121 = .ok (.bipush 10, 2) := by decide +kernel
theorem dX4_readLine_123 : decode cX4_readLine 123 = .ok (.invokevirtual 71, 3) := by decide +kernel
theorem dX4_readLine_126 : decode cX4_readLine 126 = .ok (.goto 47, 3) := by decide +kernel
theorem dX4_readLine_129 : decode cX4_readLine 129 = .ok (.aload_n 0, 1) := by decide +kernel
theorem dX4_readLine_130 : decode cX4_readLine 130 = .ok (.getfield 22, 3) := by decide +kernel
theorem dX4_readLine_133 : decode cX4_readLine 133 = .ok (.ldc 77, 2) := by decide +kernel
theorem dX4_readLine_135 : decode cX4_readLine 135 = .ok (.invokevirtual 45, 3) := by decide +kernel
theorem dX4_readLine_138 : decode cX4_readLine 138 = .ok (.ifCond .eq 10, 3) := by decide +kernel
theorem dX4_readLine_141 : decode cX4_readLine 141 = .ok (.aload_n 0, 1) := by decide +kernel
theorem dX4_readLine_142 : decode cX4_readLine 142 = .ok (.invokevirtual 79, 3) := by decide +kernel
theorem dX4_readLine_145 : decode cX4_readLine 145 = .ok (.goto 28, 3) := by decide +kernel
theorem dX4_readLine_148 : decode cX4_readLine 148 = .ok (.aload_n 0, 1) := by decide +kernel
theorem dX4_readLine_149 : decode cX4_readLine 149 = .ok (.getfield 22, 3) := by decide +kernel
theorem dX4_readLine_152 : decode cX4_readLine 152 = .ok (.ldc 82, 2) := by decide +kernel
theorem dX4_readLine_154 : decode cX4_readLine 154 = .ok (.invokevirtual 45, 3) := by decide +kernel
theorem dX4_readLine_157 : decode cX4_readLine 157 = .ok (.ifCond .eq 10, 3) := by decide +kernel
theorem dX4_readLine_160 : decode cX4_readLine 160 = .ok (.aload_n 0, 1) := by decide +kernel
theorem dX4_readLine_161 : decode cX4_readLine 161 = .ok (.invokevirtual 84, 3) := by decide +kernel
theorem dX4_readLine_164 : decode cX4_readLine 164 = .ok (.goto 9, 3) := by decide +kernel
theorem dX4_readLine_167 : decode cX4_readLine 167 = .ok (.aload_n 0, 1) := by decide +kernel
theorem dX4_readLine_168 : decode cX4_readLine 168 = .ok (.iconst 1, 1) := by decide +kernel
theorem dX4_readLine_169 : decode cX4_readLine 169 = .ok (.invokevirtual 52, 3) := by decide +kernel
theorem dX4_readLine_172 : decode cX4_readLine 172 = .ok (.pop, 1) := by decide +kernel
theorem dX4_readLine_173 : decode cX4_readLine 173 = .ok (.aload_n 0, 1) := by decide +kernel
theorem dX4_readLine_174 : decode cX4_readLine 174 = .ok (.invokevirtual 87, 3) := by decide +kernel
theorem dX4_readLine_177 : decode cX4_readLine 177 = .ok (.return_, 1) := by decide +kernel
theorem dX4_readHead_0 : decode cX4_readHead 0 = .ok (.aload_n 0, 1) := by decide +kernel
theorem dX4_readHead_1 : decode cX4_readHead 1 = .ok (.getfield 22, 3) := by decide +kernel
theorem dX4_readHead_4 : decode cX4_readHead 4 = .ok (.invokevirtual 90, 3) := by decide +kernel
theorem dX4_readHead_7 : decode cX4_readHead 7 = .ok (.aload_n 0, 1) := by decide +kernel
theorem dX4_readHead_8 : decode cX4_readHead 8 = .ok (.getfield 12, 3) := by decide +kernel
theorem dX4_readHead_11 : decode cX4_readHead 11 = .ok (.aload_n 0, 1) := by decide +kernel
theorem dX4_readHead_12 : decode cX4_readHead 12 = .ok (.ldc 93, 2) := by decide +kernel
theorem dX4_readHead_14 : decode cX4_readHead 14 = .ok (.iconst 1, 1) := by decide +kernel
theorem dX4_readHead_15 : decode cX4_readHead 15 = .ok (.bipush 6, 2) := by decide +kernel
theorem dX4_readHead_17 : decode cX4_readHead 17 = .ok (.invokevirtual 95, 3) := by decide +kernel
theorem dX4_readHead_20 : decode cX4_readHead 20 = .ok (.putfield 99, 3) := by decide +kernel
theorem dX4_readHead_23 : decode cX4_readHead 23 = .ok (.aload_n 0, 1) := by decide +kernel
theorem dX4_readHead_24 : decode cX4_readHead 24 = .ok (.getfield 12, 3) := by decide +kernel
theorem dX4_readHead_27 : decode cX4_readHead 27 = .ok (.aload_n 0, 1) := by decide +kernel
theorem dX4_readHead_28 : decode cX4_readHead 28 = .ok (.ldc 101, 2) := by decide +kernel
theorem dX4_readHead_30 : decode cX4_readHead 30 = .ok (.iconst 0, 1) := by decide +kernel
theorem dX4_readHead_31 : decode cX4_readHead 31 = .ok (.aload_n 0, 1) := by decide +kernel
theorem dX4_readHead_32 : decode cX4_readHead 32 = .ok (.getfield 12, 3) := by decide +kernel
theorem dX4_readHead_35 : decode cX4_readHead 35 = .ok (.getfield 99, 3) := by decide +kernel
theorem dX4_readHead_38 : decode cX4_readHead 38 = .ok (.iconst 1, 1) := by decide +kernel
theorem dX4_readHead_39 : decode cX4_readHead 39 = .ok (.isub, 1) := by decide +kernel
theorem dX4_readHead_40 : decode cX4_readHead 40 = .ok (.invokevirtual 95, 3) := by decide +kernel
theorem dX4_readHead_43 : decode cX4_readHead 43 = .ok (.putfield 103, 3) := by decide +kernel
theorem dX4_readHead_46 : decode cX4_readHead 46 = .ok (.aload_n 0, 1) := by decide +kernel
theorem dX4_readHead_47 : decode cX4_readHead 47 = .ok (.getfield 12, 3) := by decide +kernel
theorem dX4_readHead_50 : decode cX4_readHead 50 = .ok (.aload_n 0, 1) := by decide +kernel
theorem dX4_readHead_51 : decode cX4_readHead 51 = .ok (.ldc 106, 2) := by decide +kernel
theorem dX4_readHead_53 : decode cX4_readHead 53 = .ok (.iconst 0, 1) := by decide +kernel
theorem dX4_readHead_54 : decode cX4_readHead 54 = .ok (.sipush 399, 3) := by decide +kernel
theorem dX4_readHead_57 : decode cX4_readHead 57 = .ok (.invokevirtual 95, 3) := by decide +kernel
theorem dX4_readHead_60 : decode cX4_readHead 60 = .ok (.putfield 108, 3) := by decide +kernel
theorem dX4_readHead_63 : decode cX4_readHead 63 = .ok (.return_, 1) := by decide +kernel
theorem dX4_readOfficial_0 : decode cX4_readOfficial 0 = .ok (.aload_n 0, 1) := by decide +kernel
theorem dX4_readOfficial_1 : decode cX4_readOfficial 1 = .ok (.getfield 12, 3) := by decide +kernel
theorem dX4_readOfficial_4 : decode cX4_readOfficial 4 = .ok (.getfield 111, 3) := by decide +kernel
theorem dX4_readOfficial_7 : decode cX4_readOfficial 7 = .ok (.istore_n 1, 1) := by decide +kernel
theorem dX4_readOfficial_8 : decode cX4_readOfficial 8 = .ok (.iload_n 1, 1) := by decide +kernel
theorem dX4_readOfficial_9 : decode cX4_readOfficial 9 = .ok (.bipush 8, 2) := by decide +kernel
theorem dX4_readOfficial_11 : decode cX4_readOfficial 11 = .ok (.if_icmp .lt 10, 3) := by decide +kernel
theorem dX4_readOfficial_14 : decode cX4_readOfficial 14 = .ok (.aload_n 0, 1) := by decide +kernel
theorem dX4_readOfficial_15 : decode cX4_readOfficial 15 = .ok (.iconst 3, 1) := by decide +kernel
theorem dX4_readOfficial_16 : decode cX4_readOfficial 16 = .ok (.invokevirtual 52, 3) := by decide +kernel
theorem dX4_readOfficial_19 : decode cX4_readOfficial 19 = .ok (.pop, 1) := by decide +kernel
theorem dX4_readOfficial_20 : decode cX4_readOfficial 20 = .ok (.return_, 1) := by decide +kernel
theorem dX4_readOfficial_21 : decode cX4_readOfficial 21 = .ok (.aload_n 0, 1) := by decide +kernel
theorem dX4_readOfficial_22 : decode cX4_readOfficial 22 = .ok (.getfield 22, 3) := by decide +kernel
theorem dX4_readOfficial_25 : decode cX4_readOfficial 25 = .ok (.invokevirtual 90, 3) := by decide +kernel
theorem dX4_readOfficial_28 : decode cX4_readOfficial 28 = .ok (.aload_n 0, 1) := by decide +kernel
theorem dX4_readOfficial_29 : decode cX4_readOfficial 29 = .ok (.iconst 0, 1) := by decide +kernel
theorem dX4_readOfficial_30 : decode cX4_readOfficial 30 = .ok (.aload_n 0, 1) := by decide +kernel
theorem dX4_readOfficial_31 : decode cX4_readOfficial 31 = .ok (.ldc 114, 2) := by decide +kernel
theorem dX4_readOfficial_33 : decode cX4_readOfficial 33 = .ok (.iconst 0, 1) := by decide +kernel
theorem dX4_readOfficial_34 : decode cX4_readOfficial 34 = .ok (.aload_n 0, 1) := by decide +kernel
theorem dX4_readOfficial_35 : decode cX4_readOfficial 35 = .ok (.getfield 12, 3) := by decide +kernel
theorem dX4_readOfficial_38 : decode cX4_readOfficial 38 = .ok (.getfield 99, 3) := by decide +kernel
theorem dX4_readOfficial_41 : decode cX4_readOfficial 41 = .ok (.iconst 1, 1) := by decide +kernel
theorem dX4_readOfficial_42 : decode cX4_readOfficial 42 = .ok (.isub, 1) := by decide +kernel
theorem dX4_readOfficial_43 : decode cX4_readOfficial 43 = .ok (.invokevirtual 95, 3) := by decide +kernel
theorem dX4_readOfficial_46 : decode cX4_readOfficial 46 = .ok (.invokevirtual 116, 3) := by decide +kernel
theorem dX4_readOfficial_49 : decode cX4_readOfficial 49 = .ok (.aload_n 0, 1) := by decide +kernel
theorem dX4_readOfficial_50 : decode cX4_readOfficial 50 = .ok (.ldc 120, 2) := by decide +kernel
theorem dX4_readOfficial_52 : decode cX4_readOfficial 52 = .ok (.iconst 0, 1) := by decide +kernel
theorem dX4_readOfficial_53 : decode cX4_readOfficial 53 = .ok (.bipush 9, 2) := by decide +kernel
theorem dX4_readOfficial_55 : decode cX4_readOfficial 55 = .ok (.invokevirtual 95, 3) := by decide +kernel
theorem dX4_readOfficial_58 : decode cX4_readOfficial 58 = .ok (.istore_n 2, 1) := by decide +kernel
theorem dX4_readOfficial_59 : decode cX4_readOfficial 59 = .ok (.aload_n 0, 1) := by decide +kernel
theorem dX4_readOfficial_60 : decode cX4_readOfficial 60 = .ok (.iconst 1, 1) := by decide +kernel
theorem dX4_readOfficial_61 : decode cX4_readOfficial 61 = .ok (.iload_n 2, 1) := by decide +kernel
theorem dX4_readOfficial_62 : decode cX4_readOfficial 62 = .ok (.invokevirtual 116, 3) := by decide +kernel
theorem dX4_readOfficial_65 : decode cX4_readOfficial 65 = .ok (.aload_n 0, 1) := by decide +kernel
theorem dX4_readOfficial_66 : decode cX4_readOfficial 66 = .ok (.iconst 2, 1) := by decide +kernel
theorem dX4_readOfficial_67 : decode cX4_readOfficial 67 = .ok (.aload_n 0, 1) := by decide +kernel
theorem dX4_readOfficial_68 : decode cX4_readOfficial 68 = .ok (.ldc 122, 2) := by decide +kernel
theorem dX4_readOfficial_70 : decode cX4_readOfficial 70 = .ok (.iload_n 2, 1) := by decide +kernel
theorem dX4_readOfficial_71 : decode cX4_readOfficial 71 = .ok (.bipush 9, 2) := by decide +kernel
theorem dX4_readOfficial_73 : decode cX4_readOfficial 73 = .ok (.invokevirtual 95, 3) := by decide +kernel
theorem dX4_readOfficial_76 : decode cX4_readOfficial 76 = .ok (.invokevirtual 116, 3) := by decide +kernel
theorem dX4_readOfficial_79 : decode cX4_readOfficial 79 = .ok (.aload_n 0, 1) := by decide +kernel
theorem dX4_readOfficial_80 : decode cX4_readOfficial 80 = .ok (.iconst 3, 1) := by decide +kernel
theorem dX4_readOfficial_81 : decode cX4_readOfficial 81 = .ok (.aload_n 0, 1) := by decide +kernel
theorem dX4_readOfficial_82 : decode cX4_readOfficial 82 = .ok (.ldc 124, 2) := by decide +kernel
theorem dX4_readOfficial_84 : decode cX4_readOfficial 84 = .ok (.iconst 1, 1) := by decide +kernel
theorem dX4_readOfficial_85 : decode cX4_readOfficial 85 = .ok (.bipush 31, 2) := by decide +kernel
theorem dX4_readOfficial_87 : decode cX4_readOfficial 87 = .ok (.invokevirtual 95, 3) := by decide +kernel
theorem dX4_readOfficial_90 : decode cX4_readOfficial 90 = .ok (.invokevirtual 116, 3) := by decide +kernel
theorem dX4_readOfficial_93 : decode cX4_readOfficial 93 = .ok (.aload_n 0, 1) := by decide +kernel
theorem dX4_readOfficial_94 : decode cX4_readOfficial 94 = .ok (.iconst 4, 1) := by decide +kernel
theorem dX4_readOfficial_95 : decode cX4_readOfficial 95 = .ok (.iconst (-1), 1) := by decide +kernel
theorem dX4_readOfficial_96 : decode cX4_readOfficial 96 = .ok (.invokevirtual 116, 3) := by decide +kernel
theorem dX4_readOfficial_99 : decode cX4_readOfficial 99 = .ok (.aload_n 0, 1) := by decide +kernel
theorem dX4_readOfficial_100 : decode cX4_readOfficial 100 = .ok (.iconst 5, 1) := by decide +kernel
theorem dX4_readOfficial_101 : decode cX4_readOfficial 101 = .ok (.iconst (-1), 1) := by decide +kernel
theorem dX4_readOfficial_102 : decode cX4_readOfficial 102 = .ok (.invokevirtual 116, 3) := by decide +kernel
theorem dX4_readOfficial_105 : decode cX4_readOfficial 105 = .ok (.aload_n 0, 1) := by decide +kernel
theorem dX4_readOfficial_106 : decode cX4_readOfficial 106 = .ok (.bipush 6, 2) := by decide +kernel
theorem dX4_readOfficial_108 : decode cX4_readOfficial 108 = .ok (.iconst (-1), 1) := by decide +kernel
theorem dX4_readOfficial_109 : decode cX4_readOfficial 109 = .ok (.invokevirtual 116, 3) := by decide +kernel
theorem dX4_readOfficial_112 : decode cX4_readOfficial 112 = .ok (.aload_n 0, 1) := by decide +kernel
theorem dX4_readOfficial_113 : decode cX4_readOfficial 113 = .ok (.bipush 7, 2) := by decide +kernel
theorem dX4_readOfficial_115 : decode cX4_readOfficial 115 = .ok (.iconst (-1), 1) := by decide +kernel
theorem dX4_readOfficial_116 : decode cX4_readOfficial 116 = .ok (.invokevirtual 116, 3) := by decide +kernel
theorem dX4_readOfficial_119 : decode cX4_readOfficial 119 = .ok (.aload_n 0, 1) := by decide +kernel
theorem dX4_readOfficial_120 : decode cX4_readOfficial 120 = .ok (.bipush 8, 2) := by decide +kernel
theorem dX4_readOfficial_122 : decode cX4_readOfficial 122 = .ok (.iconst (-1), 1) := by decide +kernel
theorem dX4_readOfficial_123 : decode cX4_readOfficial 123 = .ok (.invokevirtual 116, 3) := by decide +kernel
theorem dX4_readOfficial_126 : decode cX4_readOfficial 126 = .ok (.iconst 0, 1) := by decide +kernel
theorem dX4_readOfficial_127 : decode cX4_readOfficial 127 = .ok (.istore_n 3, 1) := by decide +kernel
theorem dX4_readOfficial_128 : decode cX4_readOfficial 128 = .ok (.iload_n 3, 1) := by decide +kernel
theorem dX4_readOfficial_129 : decode cX4_readOfficial 129 = .ok (.iconst 3, 1) := by decide +kernel
theorem dX4_readOfficial_130 : decode cX4_readOfficial 130 = .ok (.if_icmp .ge 40, 3) := by decide +kernel
theorem dX4_readOfficial_133 : decode cX4_readOfficial 133 = .ok (.aload_n 0, 1) := by decide +kernel
theorem dX4_readOfficial_134 : decode cX4_readOfficial 134 = .ok (.ldc 126, 2) := by decide +kernel
theorem dX4_readOfficial_136 : decode cX4_readOfficial 136 = .ok (.iconst 4, 1) := by decide +kernel
theorem dX4_readOfficial_137 : decode cX4_readOfficial 137 = .ok (.iconst 0, 1) := by decide +kernel
theorem dX4_readOfficial_138 : decode cX4_readOfficial 138 = .ok (.bipush 9, 2) := by decide +kernel
theorem dX4_readOfficial_140 : decode cX4_readOfficial 140 = .ok (.invokevirtual 128, 3) := by decide +kernel
theorem dX4_readOfficial_143 : decode cX4_readOfficial 143 = .ok (.aload_n 0, 1) := by decide +kernel
theorem dX4_readOfficial_144 : decode cX4_readOfficial 144 = .ok (.ldc 132, 2) := by decide +kernel
theorem dX4_readOfficial_146 : decode cX4_readOfficial 146 = .ok (.iconst 5, 1) := by decide +kernel
theorem dX4_readOfficial_147 : decode cX4_readOfficial 147 = .ok (.iconst 1, 1) := by decide +kernel
theorem dX4_readOfficial_148 : decode cX4_readOfficial 148 = .ok (.bipush 20, 2) := by decide +kernel
theorem dX4_readOfficial_150 : decode cX4_readOfficial 150 = .ok (.invokevirtual 128, 3) := by decide +kernel
theorem dX4_readOfficial_153 : decode cX4_readOfficial 153 = .ok (.aload_n 0, 1) := by decide +kernel
theorem dX4_readOfficial_154 : decode cX4_readOfficial 154 = .ok (.ldc 134, 2) := by decide +kernel
theorem dX4_readOfficial_156 : decode cX4_readOfficial 156 = .ok (.bipush 6, 2) := by decide +kernel
theorem dX4_readOfficial_158 : decode cX4_readOfficial 158 = .ok (.iconst 0, 1) := by decide +kernel
theorem dX4_readOfficial_159 : decode cX4_readOfficial 159 = .ok (.bipush 99, 2) := by decide +kernel
theorem dX4_readOfficial_161 : decode cX4_readOfficial 161 = .ok (.invokevirtual 128, 3) := by decide +kernel
theorem dX4_readOfficial_164 : decode cX4_readOfficial 164 = .ok (.iinc 3 1, 3) := by decide +kernel
theorem dX4_readOfficial_167 : decode cX4_readOfficial 167 = .ok (.goto (-39), 3) := by decide +kernel
theorem dX4_readOfficial_170 : decode cX4_readOfficial 170 = .ok (.aload_n 0, 1) := by decide +kernel
theorem dX4_readOfficial_171 : decode cX4_readOfficial 171 = .ok (.getfield 12, 3) := by decide +kernel
theorem dX4_readOfficial_174 : decode cX4_readOfficial 174 = .ok (.getfield 136, 3) := by decide +kernel
theorem dX4_readOfficial_177 : decode cX4_readOfficial 177 = .ok (.bipush 6, 2) := by decide +kernel
theorem dX4_readOfficial_179 : decode cX4_readOfficial 179 = .ok (.aaload, 1) := by decide +kernel
theorem dX4_readOfficial_180 : decode cX4_readOfficial 180 = .ok (.iload_n 1, 1) := by decide +kernel
theorem dX4_readOfficial_181 : decode cX4_readOfficial 181 = .ok (.iaload, 1) := by decide +kernel
theorem dX4_readOfficial_182 : decode cX4_readOfficial 182 = .ok (.iconst (-1), 1) := by decide +kernel
theorem dX4_readOfficial_183 : decode cX4_readOfficial 183 = .ok (.if_icmp .ne 10, 3) := by decide +kernel
theorem dX4_readOfficial_186 : decode cX4_readOfficial 186 = .ok (.aload_n 0, 1) := by decide +kernel
theorem dX4_readOfficial_187 : decode cX4_readOfficial 187 = .ok (.bipush 6, 2) := by decide +kernel
theorem dX4_readOfficial_189 : decode cX4_readOfficial 189 = .ok (.iconst 0, 1) := by decide +kernel
theorem dX4_readOfficial_190 : decode cX4_readOfficial 190 = .ok (.invokevirtual 116, 3) := by decide +kernel
theorem dX4_readOfficial_193 : decode cX4_readOfficial 193 = .ok (.aload_n 0, 1) := by decide +kernel
theorem dX4_readOfficial_194 : decode cX4_readOfficial 194 = .ok (.getfield 12, 3) := by decide +kernel
theorem dX4_readOfficial_197 : decode cX4_readOfficial 197 = .ok (.dup, 1) := by decide +kernel
theorem dX4_readOfficial_198 : decode cX4_readOfficial 198 = .ok (.getfield 111, 3) := by decide +kernel
theorem dX4_readOfficial_201 : decode cX4_readOfficial 201 = .ok (.iconst 1, 1) := by decide +kernel
theorem dX4_readOfficial_202 : decode cX4_readOfficial 202 = .ok (.iadd, 1) := by decide +kernel
theorem dX4_readOfficial_203 : decode cX4_readOfficial 203 = .ok (.putfield 111, 3) := by decide +kernel
theorem dX4_readOfficial_206 : decode cX4_readOfficial 206 = .ok (.return_, 1) := by decide +kernel
theorem dX4_readMark_0 : decode cX4_readMark 0 = .ok (.aload_n 0, 1) := by decide +kernel
theorem dX4_readMark_1 : decode cX4_readMark 1 = .ok (.getfield 12, 3) := by decide +kernel
theorem dX4_readMark_4 : decode cX4_readMark 4 = .ok (.getfield 111, 3) := by decide +kernel
theorem dX4_readMark_7 : decode cX4_readMark 7 = .ok (.istore 5, 2) := by decide +kernel
theorem dX4_readMark_9 : decode cX4_readMark 9 = .ok (.aload_n 0, 1) := by decide +kernel
theorem dX4_readMark_10 : decode cX4_readMark 10 = .ok (.getfield 29, 3) := by decide +kernel
theorem dX4_readMark_13 : decode cX4_readMark 13 = .ok (.ifCond .ne 56, 3) := by decide +kernel
theorem dX4_readMark_16 : decode cX4_readMark 16 = .ok (.iload 5, 2) := by decide +kernel
theorem dX4_readMark_18 : decode cX4_readMark 18 = .ok (.bipush 8, 2) := by decide +kernel
theorem dX4_readMark_20 : decode cX4_readMark 20 = .ok (.if_icmp .ge 49, 3) := by decide +kernel
theorem dX4_readMark_23 : decode cX4_readMark 23 = .ok (.aload_n 0, 1) := by decide +kernel
theorem dX4_readMark_24 : decode cX4_readMark 24 = .ok (.getfield 12, 3) := by decide +kernel
theorem dX4_readMark_27 : decode cX4_readMark 27 = .ok (.getfield 136, 3) := by decide +kernel
theorem dX4_readMark_30 : decode cX4_readMark 30 = .ok (.iload_n 2, 1) := by decide +kernel
theorem dX4_readMark_31 : decode cX4_readMark 31 = .ok (.aaload, 1) := by decide +kernel
theorem dX4_readMark_32 : decode cX4_readMark 32 = .ok (.iload 5, 2) := by decide +kernel
theorem dX4_readMark_34 : decode cX4_readMark 34 = .ok (.iaload, 1) := by decide +kernel
theorem dX4_readMark_35 : decode cX4_readMark 35 = .ok (.iconst (-1), 1) := by decide +kernel
theorem dX4_readMark_36 : decode cX4_readMark 36 = .ok (.if_icmp .ne 33, 3) := by decide +kernel
theorem dX4_readMark_39 : decode cX4_readMark 39 = .ok (.aload_n 0, 1) := by decide +kernel
theorem dX4_readMark_40 : decode cX4_readMark 40 = .ok (.getfield 22, 3) := by decide +kernel
theorem dX4_readMark_43 : decode cX4_readMark 43 = .ok (.aload_n 1, 1) := by decide +kernel
theorem dX4_readMark_44 : decode cX4_readMark 44 = .ok (.invokevirtual 45, 3) := by decide +kernel
theorem dX4_readMark_47 : decode cX4_readMark 47 = .ok (.ifCond .eq 22, 3) := by decide +kernel
theorem dX4_readMark_50 : decode cX4_readMark 50 = .ok (.aload_n 0, 1) := by decide +kernel
theorem dX4_readMark_51 : decode cX4_readMark 51 = .ok (.getfield 22, 3) := by decide +kernel
theorem dX4_readMark_54 : decode cX4_readMark 54 = .ok (.invokevirtual 90, 3) := by decide +kernel
theorem dX4_readMark_57 : decode cX4_readMark 57 = .ok (.aload_n 0, 1) := by decide +kernel
theorem dX4_readMark_58 : decode cX4_readMark 58 = .ok (.iload_n 2, 1) := by decide +kernel
theorem dX4_readMark_59 : decode cX4_readMark 59 = .ok (.aload_n 0, 1) := by decide +kernel
theorem dX4_readMark_60 : decode cX4_readMark 60 = .ok (.iload_n 3, 1) := by decide +kernel
theorem dX4_readMark_61 : decode cX4_readMark 61 = .ok (.iload 4, 2) := by decide +kernel
theorem dX4_readMark_63 : decode cX4_readMark 63 = .ok (.invokevirtual 140, 3) := by decide +kernel
theorem dX4_readMark_66 : decode cX4_readMark 66 = .ok (.invokevirtual 116, 3) := by decide +kernel
theorem dX4_readMark_69 : decode cX4_readMark 69 = .ok (.return_, 1) := by decide +kernel
theorem dX4_tell_0 : decode cX4_tell 0 = .ok (.aload_n 0, 1) := by decide +kernel
theorem dX4_tell_1 : decode cX4_tell 1 = .ok (.getfield 12, 3) := by decide +kernel
theorem dX4_tell_4 : decode cX4_tell 4 = .ok (.getfield 111, 3) := by decide +kernel
theorem dX4_tell_7 : decode cX4_tell 7 = .ok (.bipush 8, 2) := by decide +kernel
theorem dX4_tell_9 : decode cX4_tell 9 = .ok (.if_icmp .ge 21, 3) := by decide +kernel
theorem dX4_tell_12 : decode cX4_tell 12 = .ok (.aload_n 0, 1) := by decide +kernel
theorem dX4_tell_13 : decode cX4_tell 13 = .ok (.getfield 12, 3) := by decide +kernel
theorem dX4_tell_16 : decode cX4_tell 16 = .ok (.getfield 136, 3) := by decide +kernel
theorem dX4_tell_19 : decode cX4_tell 19 = .ok (.iload_n 1, 1) := by decide +kernel
theorem dX4_tell_20 : decode cX4_tell 20 = .ok (.aaload, 1) := by decide +kernel
theorem dX4_tell_21 : decode cX4_tell 21 = .ok (.aload_n 0, 1) := by decide +kernel
theorem dX4_tell_22 : decode cX4_tell 22 = .ok (.getfield 12, 3) := by decide +kernel
theorem dX4_tell_25 : decode cX4_tell 25 = .ok (.getfield 111, 3) := by decide +kernel
theorem dX4_tell_28 : decode cX4_tell 28 = .ok (.iload_n 2, 1) := by decide +kernel
theorem dX4_tell_29 : decode cX4_tell 29 = .ok (.iastore, 1) := by decide +kernel
theorem dX4_tell_30 : decode cX4_tell 30 = .ok (.return_, 1) := by decide +kernel
theorem dX4_readWay_0 : decode cX4_readWay 0 = .ok (.aload_n 0, 1) := by decide +kernel
theorem dX4_readWay_1 : decode cX4_readWay 1 = .ok (.getfield 22, 3) := by decide +kernel
theorem dX4_readWay_4 : decode cX4_readWay 4 = .ok (.invokevirtual 90, 3) := by decide +kernel
theorem dX4_readWay_7 : decode cX4_readWay 7 = .ok (.aload_n 0, 1) := by decide +kernel
theorem dX4_readWay_8 : decode cX4_readWay 8 = .ok (.iconst 0, 1) := by decide +kernel
theorem dX4_readWay_9 : decode cX4_readWay 9 = .ok (.aload_n 0, 1) := by decide +kernel
theorem dX4_readWay_10 : decode cX4_readWay 10 = .ok (.getfield 12, 3) := by decide +kernel
theorem dX4_readWay_13 : decode cX4_readWay 13 = .ok (.getfield 99, 3) := by decide +kernel
theorem dX4_readWay_16 : decode cX4_readWay 16 = .ok (.iconst 1, 1) := by decide +kernel
theorem dX4_readWay_17 : decode cX4_readWay 17 = .ok (.isub, 1) := by decide +kernel
theorem dX4_readWay_18 : decode cX4_readWay 18 = .ok (.invokevirtual 140, 3) := by decide +kernel
theorem dX4_readWay_21 : decode cX4_readWay 21 = .ok (.istore_n 1, 1) := by decide +kernel
theorem dX4_readWay_22 : decode cX4_readWay 22 = .ok (.aload_n 0, 1) := by decide +kernel
theorem dX4_readWay_23 : decode cX4_readWay 23 = .ok (.iconst 1, 1) := by decide +kernel
theorem dX4_readWay_24 : decode cX4_readWay 24 = .ok (.iload_n 1, 1) := by decide +kernel
theorem dX4_readWay_25 : decode cX4_readWay 25 = .ok (.ishl, 1) := by decide +kernel
theorem dX4_readWay_26 : decode cX4_readWay 26 = .ok (.aload_n 0, 1) := by decide +kernel
theorem dX4_readWay_27 : decode cX4_readWay 27 = .ok (.getfield 12, 3) := by decide +kernel
theorem dX4_readWay_30 : decode cX4_readWay 30 = .ok (.getfield 99, 3) := by decide +kernel
theorem dX4_readWay_33 : decode cX4_readWay 33 = .ok (.iconst 1, 1) := by decide +kernel
theorem dX4_readWay_34 : decode cX4_readWay 34 = .ok (.isub, 1) := by decide +kernel
theorem dX4_readWay_35 : decode cX4_readWay 35 = .ok (.invokevirtual 144, 3) := by decide +kernel
theorem dX4_readWay_38 : decode cX4_readWay 38 = .ok (.istore_n 2, 1) := by decide +kernel
theorem dX4_readWay_39 : decode cX4_readWay 39 = .ok (.aload_n 0, 1) := by decide +kernel
theorem dX4_readWay_40 : decode cX4_readWay 40 = .ok (.iconst 1, 1) := by decide +kernel
theorem dX4_readWay_41 : decode cX4_readWay 41 = .ok (.bipush 9, 2) := by decide +kernel
theorem dX4_readWay_43 : decode cX4_readWay 43 = .ok (.invokevirtual 140, 3) := by decide +kernel
theorem dX4_readWay_46 : decode cX4_readWay 46 = .ok (.istore_n 3, 1) := by decide +kernel
theorem dX4_readWay_47 : decode cX4_readWay 47 = .ok (.aload_n 0, 1) := by decide +kernel
theorem dX4_readWay_48 : decode cX4_readWay 48 = .ok (.getfield 29, 3) := by decide +kernel
theorem dX4_readWay_51 : decode cX4_readWay 51 = .ok (.ifCond .ne 27, 3) := by decide +kernel
theorem dX4_readWay_54 : decode cX4_readWay 54 = .ok (.aload_n 0, 1) := by decide +kernel
theorem dX4_readWay_55 : decode cX4_readWay 55 = .ok (.getfield 12, 3) := by decide +kernel
theorem dX4_readWay_58 : decode cX4_readWay 58 = .ok (.getfield 147, 3) := by decide +kernel
theorem dX4_readWay_61 : decode cX4_readWay 61 = .ok (.iload_n 1, 1) := by decide +kernel
theorem dX4_readWay_62 : decode cX4_readWay 62 = .ok (.aaload, 1) := by decide +kernel
theorem dX4_readWay_63 : decode cX4_readWay 63 = .ok (.iload_n 2, 1) := by decide +kernel
theorem dX4_readWay_64 : decode cX4_readWay 64 = .ok (.iload_n 3, 1) := by decide +kernel
theorem dX4_readWay_65 : decode cX4_readWay 65 = .ok (.iastore, 1) := by decide +kernel
theorem dX4_readWay_66 : decode cX4_readWay 66 = .ok (.aload_n 0, 1) := by decide +kernel
theorem dX4_readWay_67 : decode cX4_readWay 67 = .ok (.getfield 12, 3) := by decide +kernel
theorem dX4_readWay_70 : decode cX4_readWay 70 = .ok (.getfield 147, 3) := by decide +kernel
theorem dX4_readWay_73 : decode cX4_readWay 73 = .ok (.iload_n 2, 1) := by decide +kernel
theorem dX4_readWay_74 : decode cX4_readWay 74 = .ok (.aaload, 1) := by decide +kernel
theorem dX4_readWay_75 : decode cX4_readWay 75 = .ok (.iload_n 1, 1) := by decide +kernel
theorem dX4_readWay_76 : decode cX4_readWay 76 = .ok (.iload_n 3, 1) := by decide +kernel
theorem dX4_readWay_77 : decode cX4_readWay 77 = .ok (.iastore, 1) := by decide +kernel
theorem dX4_readWay_78 : decode cX4_readWay 78 = .ok (.return_, 1) := by decide +kernel
theorem dX4_readAsking_0 : decode cX4_readAsking 0 = .ok (.aload_n 0, 1) := by decide +kernel
theorem dX4_readAsking_1 : decode cX4_readAsking 1 = .ok (.getfield 22, 3) := by decide +kernel
theorem dX4_readAsking_4 : decode cX4_readAsking 4 = .ok (.invokevirtual 90, 3) := by decide +kernel
theorem dX4_readAsking_7 : decode cX4_readAsking 7 = .ok (.aload_n 0, 1) := by decide +kernel
theorem dX4_readAsking_8 : decode cX4_readAsking 8 = .ok (.iconst 0, 1) := by decide +kernel
theorem dX4_readAsking_9 : decode cX4_readAsking 9 = .ok (.aload_n 0, 1) := by decide +kernel
theorem dX4_readAsking_10 : decode cX4_readAsking 10 = .ok (.getfield 12, 3) := by decide +kernel
theorem dX4_readAsking_13 : decode cX4_readAsking 13 = .ok (.getfield 111, 3) := by decide +kernel
theorem dX4_readAsking_16 : decode cX4_readAsking 16 = .ok (.iconst 1, 1) := by decide +kernel
theorem dX4_readAsking_17 : decode cX4_readAsking 17 = .ok (.isub, 1) := by decide +kernel
theorem dX4_readAsking_18 : decode cX4_readAsking 18 = .ok (.invokevirtual 140, 3) := by decide +kernel
theorem dX4_readAsking_21 : decode cX4_readAsking 21 = .ok (.istore_n 2, 1) := by decide +kernel
theorem dX4_readAsking_22 : decode cX4_readAsking 22 = .ok (.aload_n 0, 1) := by decide +kernel
theorem dX4_readAsking_23 : decode cX4_readAsking 23 = .ok (.iconst 1, 1) := by decide +kernel
theorem dX4_readAsking_24 : decode cX4_readAsking 24 = .ok (.iload_n 2, 1) := by decide +kernel
theorem dX4_readAsking_25 : decode cX4_readAsking 25 = .ok (.ishl, 1) := by decide +kernel
theorem dX4_readAsking_26 : decode cX4_readAsking 26 = .ok (.aload_n 0, 1) := by decide +kernel
theorem dX4_readAsking_27 : decode cX4_readAsking 27 = .ok (.getfield 12, 3) := by decide +kernel
theorem dX4_readAsking_30 : decode cX4_readAsking 30 = .ok (.getfield 136, 3) := by decide +kernel
theorem dX4_readAsking_33 : decode cX4_readAsking 33 = .ok (.iload_n 1, 1) := by decide +kernel
theorem dX4_readAsking_34 : decode cX4_readAsking 34 = .ok (.aaload, 1) := by decide +kernel
theorem dX4_readAsking_35 : decode cX4_readAsking 35 = .ok (.iload_n 2, 1) := by decide +kernel
theorem dX4_readAsking_36 : decode cX4_readAsking 36 = .ok (.iaload, 1) := by decide +kernel
theorem dX4_readAsking_37 : decode cX4_readAsking 37 = .ok (.ior, 1) := by decide +kernel
theorem dX4_readAsking_38 : decode cX4_readAsking 38 = .ok (.aload_n 0, 1) := by decide +kernel
theorem dX4_readAsking_39 : decode cX4_readAsking 39 = .ok (.getfield 12, 3) := by decide +kernel
theorem dX4_readAsking_42 : decode cX4_readAsking 42 = .ok (.getfield 111, 3) := by decide +kernel
theorem dX4_readAsking_45 : decode cX4_readAsking 45 = .ok (.iconst 1, 1) := by decide +kernel
theorem dX4_readAsking_46 : decode cX4_readAsking 46 = .ok (.isub, 1) := by decide +kernel
theorem dX4_readAsking_47 : decode cX4_readAsking 47 = .ok (.invokevirtual 144, 3) := by decide +kernel
theorem dX4_readAsking_50 : decode cX4_readAsking 50 = .ok (.istore_n 3, 1) := by decide +kernel
theorem dX4_readAsking_51 : decode cX4_readAsking 51 = .ok (.aload_n 0, 1) := by decide +kernel
theorem dX4_readAsking_52 : decode cX4_readAsking 52 = .ok (.getfield 29, 3) := by decide +kernel
theorem dX4_readAsking_55 : decode cX4_readAsking 55 = .ok (.ifCond .ne 20, 3) := by decide +kernel
theorem dX4_readAsking_58 : decode cX4_readAsking 58 = .ok (.aload_n 0, 1) := by decide +kernel
theorem dX4_readAsking_59 : decode cX4_readAsking 59 = .ok (.getfield 12, 3) := by decide +kernel
theorem dX4_readAsking_62 : decode cX4_readAsking 62 = .ok (.getfield 136, 3) := by decide +kernel
theorem dX4_readAsking_65 : decode cX4_readAsking 65 = .ok (.iload_n 1, 1) := by decide +kernel
theorem dX4_readAsking_66 : decode cX4_readAsking 66 = .ok (.aaload, 1) := by decide +kernel
theorem dX4_readAsking_67 : decode cX4_readAsking 67 = .ok (.iload_n 2, 1) := by decide +kernel
theorem dX4_readAsking_68 : decode cX4_readAsking 68 = .ok (.dup2, 1) := by decide +kernel
theorem dX4_readAsking_69 : decode cX4_readAsking 69 = .ok (.iaload, 1) := by decide +kernel
theorem dX4_readAsking_70 : decode cX4_readAsking 70 = .ok (.iconst 1, 1) := by decide +kernel
theorem dX4_readAsking_71 : decode cX4_readAsking 71 = .ok (.iload_n 3, 1) := by decide +kernel
theorem dX4_readAsking_72 : decode cX4_readAsking 72 = .ok (.ishl, 1) := by decide +kernel
theorem dX4_readAsking_73 : decode cX4_readAsking 73 = .ok (.ior, 1) := by decide +kernel
theorem dX4_readAsking_74 : decode cX4_readAsking 74 = .ok (.iastore, 1) := by decide +kernel
theorem dX4_readAsking_75 : decode cX4_readAsking 75 = .ok (.return_, 1) := by decide +kernel
theorem dX4_readLeave_0 : decode cX4_readLeave 0 = .ok (.aload_n 0, 1) := by decide +kernel
theorem dX4_readLeave_1 : decode cX4_readLeave 1 = .ok (.getfield 22, 3) := by decide +kernel
theorem dX4_readLeave_4 : decode cX4_readLeave 4 = .ok (.invokevirtual 90, 3) := by decide +kernel
theorem dX4_readLeave_7 : decode cX4_readLeave 7 = .ok (.aload_n 0, 1) := by decide +kernel
theorem dX4_readLeave_8 : decode cX4_readLeave 8 = .ok (.iconst 0, 1) := by decide +kernel
theorem dX4_readLeave_9 : decode cX4_readLeave 9 = .ok (.aload_n 0, 1) := by decide +kernel
theorem dX4_readLeave_10 : decode cX4_readLeave 10 = .ok (.getfield 12, 3) := by decide +kernel
theorem dX4_readLeave_13 : decode cX4_readLeave 13 = .ok (.getfield 111, 3) := by decide +kernel
theorem dX4_readLeave_16 : decode cX4_readLeave 16 = .ok (.iconst 1, 1) := by decide +kernel
theorem dX4_readLeave_17 : decode cX4_readLeave 17 = .ok (.isub, 1) := by decide +kernel
theorem dX4_readLeave_18 : decode cX4_readLeave 18 = .ok (.invokevirtual 140, 3) := by decide +kernel
theorem dX4_readLeave_21 : decode cX4_readLeave 21 = .ok (.istore_n 1, 1) := by decide +kernel
theorem dX4_readLeave_22 : decode cX4_readLeave 22 = .ok (.aload_n 0, 1) := by decide +kernel
theorem dX4_readLeave_23 : decode cX4_readLeave 23 = .ok (.ldc 120, 2) := by decide +kernel
theorem dX4_readLeave_25 : decode cX4_readLeave 25 = .ok (.iconst 0, 1) := by decide +kernel
theorem dX4_readLeave_26 : decode cX4_readLeave 26 = .ok (.bipush 39, 2) := by decide +kernel
theorem dX4_readLeave_28 : decode cX4_readLeave 28 = .ok (.invokevirtual 95, 3) := by decide +kernel
theorem dX4_readLeave_31 : decode cX4_readLeave 31 = .ok (.istore_n 2, 1) := by decide +kernel
theorem dX4_readLeave_32 : decode cX4_readLeave 32 = .ok (.aload_n 0, 1) := by decide +kernel
theorem dX4_readLeave_33 : decode cX4_readLeave 33 = .ok (.ldc 122, 2) := by decide +kernel
theorem dX4_readLeave_35 : decode cX4_readLeave 35 = .ok (.iload_n 2, 1) := by decide +kernel
theorem dX4_readLeave_36 : decode cX4_readLeave 36 = .ok (.bipush 39, 2) := by decide +kernel
theorem dX4_readLeave_38 : decode cX4_readLeave 38 = .ok (.invokevirtual 95, 3) := by decide +kernel
theorem dX4_readLeave_41 : decode cX4_readLeave 41 = .ok (.istore_n 3, 1) := by decide +kernel
theorem dX4_readLeave_42 : decode cX4_readLeave 42 = .ok (.aload_n 0, 1) := by decide +kernel
theorem dX4_readLeave_43 : decode cX4_readLeave 43 = .ok (.getfield 29, 3) := by decide +kernel
theorem dX4_readLeave_46 : decode cX4_readLeave 46 = .ok (.ifCond .ne 29, 3) := by decide +kernel
theorem dX4_readLeave_49 : decode cX4_readLeave 49 = .ok (.aload_n 0, 1) := by decide +kernel
theorem dX4_readLeave_50 : decode cX4_readLeave 50 = .ok (.getfield 12, 3) := by decide +kernel
theorem dX4_readLeave_53 : decode cX4_readLeave 53 = .ok (.getfield 136, 3) := by decide +kernel
theorem dX4_readLeave_56 : decode cX4_readLeave 56 = .ok (.bipush 7, 2) := by decide +kernel
theorem dX4_readLeave_58 : decode cX4_readLeave 58 = .ok (.aaload, 1) := by decide +kernel
theorem dX4_readLeave_59 : decode cX4_readLeave 59 = .ok (.iload_n 1, 1) := by decide +kernel
theorem dX4_readLeave_60 : decode cX4_readLeave 60 = .ok (.iload_n 2, 1) := by decide +kernel
theorem dX4_readLeave_61 : decode cX4_readLeave 61 = .ok (.iastore, 1) := by decide +kernel
theorem dX4_readLeave_62 : decode cX4_readLeave 62 = .ok (.aload_n 0, 1) := by decide +kernel
theorem dX4_readLeave_63 : decode cX4_readLeave 63 = .ok (.getfield 12, 3) := by decide +kernel
theorem dX4_readLeave_66 : decode cX4_readLeave 66 = .ok (.getfield 136, 3) := by decide +kernel
theorem dX4_readLeave_69 : decode cX4_readLeave 69 = .ok (.bipush 8, 2) := by decide +kernel
theorem dX4_readLeave_71 : decode cX4_readLeave 71 = .ok (.aaload, 1) := by decide +kernel
theorem dX4_readLeave_72 : decode cX4_readLeave 72 = .ok (.iload_n 1, 1) := by decide +kernel
theorem dX4_readLeave_73 : decode cX4_readLeave 73 = .ok (.iload_n 3, 1) := by decide +kernel
theorem dX4_readLeave_74 : decode cX4_readLeave 74 = .ok (.iastore, 1) := by decide +kernel
theorem dX4_readLeave_75 : decode cX4_readLeave 75 = .ok (.return_, 1) := by decide +kernel
theorem dX4_readPermit_0 : decode cX4_readPermit 0 = .ok (.aload_n 0, 1) := by decide +kernel
theorem dX4_readPermit_1 : decode cX4_readPermit 1 = .ok (.getfield 22, 3) := by decide +kernel
theorem dX4_readPermit_4 : decode cX4_readPermit 4 = .ok (.invokevirtual 90, 3) := by decide +kernel
theorem dX4_readPermit_7 : decode cX4_readPermit 7 = .ok (.iconst 1, 1) := by decide +kernel
theorem dX4_readPermit_8 : decode cX4_readPermit 8 = .ok (.aload_n 0, 1) := by decide +kernel
theorem dX4_readPermit_9 : decode cX4_readPermit 9 = .ok (.iconst 0, 1) := by decide +kernel
theorem dX4_readPermit_10 : decode cX4_readPermit 10 = .ok (.aload_n 0, 1) := by decide +kernel
theorem dX4_readPermit_11 : decode cX4_readPermit 11 = .ok (.getfield 12, 3) := by decide +kernel
theorem dX4_readPermit_14 : decode cX4_readPermit 14 = .ok (.getfield 111, 3) := by decide +kernel
theorem dX4_readPermit_17 : decode cX4_readPermit 17 = .ok (.iconst 1, 1) := by decide +kernel
theorem dX4_readPermit_18 : decode cX4_readPermit 18 = .ok (.isub, 1) := by decide +kernel
theorem dX4_readPermit_19 : decode cX4_readPermit 19 = .ok (.invokevirtual 140, 3) := by decide +kernel
theorem dX4_readPermit_22 : decode cX4_readPermit 22 = .ok (.ishl, 1) := by decide +kernel
theorem dX4_readPermit_23 : decode cX4_readPermit 23 = .ok (.istore_n 1, 1) := by decide +kernel
theorem dX4_readPermit_24 : decode cX4_readPermit 24 = .ok (.iconst 0, 1) := by decide +kernel
theorem dX4_readPermit_25 : decode cX4_readPermit 25 = .ok (.istore_n 2, 1) := by decide +kernel
theorem dX4_readPermit_26 : decode cX4_readPermit 26 = .ok (.iload_n 2, 1) := by decide +kernel
theorem dX4_readPermit_27 : decode cX4_readPermit 27 = .ok (.sipush 1600, 3) := by decide +kernel
theorem dX4_readPermit_30 : decode cX4_readPermit 30 = .ok (.if_icmp .ge 46, 3) := by decide +kernel
theorem dX4_readPermit_33 : decode cX4_readPermit 33 = .ok (.aload_n 0, 1) := by decide +kernel
theorem dX4_readPermit_34 : decode cX4_readPermit 34 = .ok (.getfield 29, 3) := by decide +kernel
theorem dX4_readPermit_37 : decode cX4_readPermit 37 = .ok (.ifCond .ne 39, 3) := by decide +kernel
theorem dX4_readPermit_40 : decode cX4_readPermit 40 = .ok (.aload_n 0, 1) := by decide +kernel
theorem dX4_readPermit_41 : decode cX4_readPermit 41 = .ok (.getfield 22, 3) := by decide +kernel
theorem dX4_readPermit_44 : decode cX4_readPermit 44 = .ok (.getfield 37, 3) := by decide +kernel
theorem dX4_readPermit_47 : decode cX4_readPermit 47 = .ok (.iconst 2, 1) := by decide +kernel
theorem dX4_readPermit_48 : decode cX4_readPermit 48 = .ok (.if_icmp .ne 28, 3) := by decide +kernel
theorem dX4_readPermit_51 : decode cX4_readPermit 51 = .ok (.iload_n 1, 1) := by decide +kernel
theorem dX4_readPermit_52 : decode cX4_readPermit 52 = .ok (.iconst 1, 1) := by decide +kernel
theorem dX4_readPermit_53 : decode cX4_readPermit 53 = .ok (.aload_n 0, 1) := by decide +kernel
theorem dX4_readPermit_54 : decode cX4_readPermit 54 = .ok (.iconst 0, 1) := by decide +kernel
theorem dX4_readPermit_55 : decode cX4_readPermit 55 = .ok (.aload_n 0, 1) := by decide +kernel
theorem dX4_readPermit_56 : decode cX4_readPermit 56 = .ok (.getfield 12, 3) := by decide +kernel
theorem dX4_readPermit_59 : decode cX4_readPermit 59 = .ok (.getfield 111, 3) := by decide +kernel
theorem dX4_readPermit_62 : decode cX4_readPermit 62 = .ok (.iconst 1, 1) := by decide +kernel
theorem dX4_readPermit_63 : decode cX4_readPermit 63 = .ok (.isub, 1) := by decide +kernel
theorem dX4_readPermit_64 : decode cX4_readPermit 64 = .ok (.invokevirtual 140, 3) := by decide +kernel
theorem dX4_readPermit_67 : decode cX4_readPermit 67 = .ok (.ishl, 1) := by decide +kernel
theorem dX4_readPermit_68 : decode cX4_readPermit 68 = .ok (.ior, 1) := by decide +kernel
theorem dX4_readPermit_69 : decode cX4_readPermit 69 = .ok (.istore_n 1, 1) := by decide +kernel
theorem dX4_readPermit_70 : decode cX4_readPermit 70 = .ok (.iinc 2 1, 3) := by decide +kernel
theorem dX4_readPermit_73 : decode cX4_readPermit 73 = .ok (.goto (-47), 3) := by decide +kernel
theorem dX4_readPermit_76 : decode cX4_readPermit 76 = .ok (.aload_n 0, 1) := by decide +kernel
theorem dX4_readPermit_77 : decode cX4_readPermit 77 = .ok (.getfield 12, 3) := by decide +kernel
theorem dX4_readPermit_80 : decode cX4_readPermit 80 = .ok (.iload_n 1, 1) := by decide +kernel
theorem dX4_readPermit_81 : decode cX4_readPermit 81 = .ok (.putfield 150, 3) := by decide +kernel
theorem dX4_readPermit_84 : decode cX4_readPermit 84 = .ok (.return_, 1) := by decide +kernel
theorem dX4_takeSign_0 : decode cX4_takeSign 0 = .ok (.aload_n 0, 1) := by decide +kernel
theorem dX4_takeSign_1 : decode cX4_takeSign 1 = .ok (.getfield 29, 3) := by decide +kernel
theorem dX4_takeSign_4 : decode cX4_takeSign 4 = .ok (.ifCond .eq 4, 3) := by decide +kernel
theorem dX4_takeSign_7 : decode cX4_takeSign 7 = .ok (.return_, 1) := by decide +kernel
theorem dX4_takeSign_8 : decode cX4_takeSign 8 = .ok (.aload_n 0, 1) := by decide +kernel
theorem dX4_takeSign_9 : decode cX4_takeSign 9 = .ok (.getfield 22, 3) := by decide +kernel
theorem dX4_takeSign_12 : decode cX4_takeSign 12 = .ok (.getfield 37, 3) := by decide +kernel
theorem dX4_takeSign_15 : decode cX4_takeSign 15 = .ok (.iconst 3, 1) := by decide +kernel
theorem dX4_takeSign_16 : decode cX4_takeSign 16 = .ok (.if_icmp .eq 10, 3) := by decide +kernel
theorem dX4_takeSign_19 : decode cX4_takeSign 19 = .ok (.aload_n 0, 1) := by decide +kernel
theorem dX4_takeSign_20 : decode cX4_takeSign 20 = .ok (.iconst 1, 1) := by decide +kernel
theorem dX4_takeSign_21 : decode cX4_takeSign 21 = .ok (.invokevirtual 52, 3) := by decide +kernel
theorem dX4_takeSign_24 : decode cX4_takeSign 24 = .ok (.pop, 1) := by decide +kernel
theorem dX4_takeSign_25 : decode cX4_takeSign 25 = .ok (.return_, 1) := by decide +kernel
theorem dX4_takeSign_26 : decode cX4_takeSign 26 = .ok (.aload_n 0, 1) := by decide +kernel
theorem dX4_takeSign_27 : decode cX4_takeSign 27 = .ok (.getfield 22, 3) := by decide +kernel
theorem dX4_takeSign_30 : decode cX4_takeSign 30 = .ok (.invokevirtual 90, 3) := by decide +kernel
theorem dX4_takeSign_33 : decode cX4_takeSign 33 = .ok (.aload_n 0, 1) := by decide +kernel
theorem dX4_takeSign_34 : decode cX4_takeSign 34 = .ok (.getfield 12, 3) := by decide +kernel
theorem dX4_takeSign_37 : decode cX4_takeSign 37 = .ok (.dup, 1) := by decide +kernel
theorem dX4_takeSign_38 : decode cX4_takeSign 38 = .ok (.getfield 49, 3) := by decide +kernel
theorem dX4_takeSign_41 : decode cX4_takeSign 41 = .ok (.iconst 1, 1) := by decide +kernel
theorem dX4_takeSign_42 : decode cX4_takeSign 42 = .ok (.iadd, 1) := by decide +kernel
theorem dX4_takeSign_43 : decode cX4_takeSign 43 = .ok (.putfield 49, 3) := by decide +kernel
theorem dX4_takeSign_46 : decode cX4_takeSign 46 = .ok (.return_, 1) := by decide +kernel
theorem dX4_takeAfter_0 : decode cX4_takeAfter 0 = .ok (.aload_n 0, 1) := by decide +kernel
theorem dX4_takeAfter_1 : decode cX4_takeAfter 1 = .ok (.getfield 29, 3) := by decide +kernel
theorem dX4_takeAfter_4 : decode cX4_takeAfter 4 = .ok (.ifCond .eq 5, 3) := by decide +kernel
theorem dX4_takeAfter_7 : decode cX4_takeAfter 7 = .ok (.iconst 0, 1) := by decide +kernel
theorem dX4_takeAfter_8 : decode cX4_takeAfter 8 = .ok (.ireturn, 1) := by decide +kernel
theorem dX4_takeAfter_9 : decode cX4_takeAfter 9 = .ok (.aload_n 0, 1) := by decide +kernel
theorem dX4_takeAfter_10 : decode cX4_takeAfter 10 = .ok (.getfield 22, 3) := by decide +kernel
theorem dX4_takeAfter_13 : decode cX4_takeAfter 13 = .ok (.aload_n 1, 1) := by decide +kernel
theorem dX4_takeAfter_14 : decode cX4_takeAfter 14 = .ok (.invokevirtual 45, 3) := by decide +kernel
theorem dX4_takeAfter_17 : decode cX4_takeAfter 17 = .ok (.ifCond .ne 9, 3) := by decide +kernel
theorem dX4_takeAfter_20 : decode cX4_takeAfter 20 = .ok (.aload_n 0, 1) := by decide +kernel
theorem dX4_takeAfter_21 : decode cX4_takeAfter 21 = .ok (.iconst 1, 1) := by decide +kernel
theorem dX4_takeAfter_22 : decode cX4_takeAfter 22 = .ok (.invokevirtual 52, 3) := by decide +kernel
theorem dX4_takeAfter_25 : decode cX4_takeAfter 25 = .ok (.ireturn, 1) := by decide +kernel
theorem dX4_takeAfter_26 : decode cX4_takeAfter 26 = .ok (.aload_n 0, 1) := by decide +kernel
theorem dX4_takeAfter_27 : decode cX4_takeAfter 27 = .ok (.getfield 22, 3) := by decide +kernel
theorem dX4_takeAfter_30 : decode cX4_takeAfter 30 = .ok (.invokevirtual 90, 3) := by decide +kernel
theorem dX4_takeAfter_33 : decode cX4_takeAfter 33 = .ok (.aload_n 0, 1) := by decide +kernel
theorem dX4_takeAfter_34 : decode cX4_takeAfter 34 = .ok (.iload_n 2, 1) := by decide +kernel
theorem dX4_takeAfter_35 : decode cX4_takeAfter 35 = .ok (.iload_n 3, 1) := by decide +kernel
theorem dX4_takeAfter_36 : decode cX4_takeAfter 36 = .ok (.invokevirtual 140, 3) := by decide +kernel
theorem dX4_takeAfter_39 : decode cX4_takeAfter 39 = .ok (.ireturn, 1) := by decide +kernel
theorem dX4_takeNumberBut_0 : decode cX4_takeNumberBut 0 = .ok (.aload_n 0, 1) := by decide +kernel
theorem dX4_takeNumberBut_1 : decode cX4_takeNumberBut 1 = .ok (.getfield 22, 3) := by decide +kernel
theorem dX4_takeNumberBut_4 : decode cX4_takeNumberBut 4 = .ok (.getfield 37, 3) := by decide +kernel
theorem dX4_takeNumberBut_7 : decode cX4_takeNumberBut 7 = .ok (.iconst 2, 1) := by decide +kernel
theorem dX4_takeNumberBut_8 : decode cX4_takeNumberBut 8 = .ok (.if_icmp .ne 18, 3) := by decide +kernel
theorem dX4_takeNumberBut_11 : decode cX4_takeNumberBut 11 = .ok (.aload_n 0, 1) := by decide +kernel
theorem dX4_takeNumberBut_12 : decode cX4_takeNumberBut 12 = .ok (.getfield 22, 3) := by decide +kernel
theorem dX4_takeNumberBut_15 : decode cX4_takeNumberBut 15 = .ok (.getfield 152, 3) := by decide +kernel
theorem dX4_takeNumberBut_18 : decode cX4_takeNumberBut 18 = .ok (.iload_n 2, 1) := by decide +kernel
theorem dX4_takeNumberBut_19 : decode cX4_takeNumberBut 19 = .ok (.if_icmp .gt 7, 3) := by decide +kernel
theorem dX4_takeNumberBut_22 : decode cX4_takeNumberBut 22 = .ok (.iconst 1, 1) := by decide +kernel
theorem dX4_takeNumberBut_23 : decode cX4_takeNumberBut 23 = .ok (.goto 4, 3) := by decide +kernel
theorem dX4_takeNumberBut_26 : decode cX4_takeNumberBut 26 = .ok (.iconst 0, 1) := by decide +kernel
theorem dX4_takeNumberBut_27 : decode cX4_takeNumberBut 27 = .ok (.istore_n 3, 1) := by decide +kernel
theorem dX4_takeNumberBut_28 : decode cX4_takeNumberBut 28 = .ok (.aload_n 0, 1) := by decide +kernel
theorem dX4_takeNumberBut_29 : decode cX4_takeNumberBut 29 = .ok (.getfield 29, 3) := by decide +kernel
theorem dX4_takeNumberBut_32 : decode cX4_takeNumberBut 32 = .ok (.ifCond .ne 27, 3) := by decide +kernel
theorem dX4_takeNumberBut_35 : decode cX4_takeNumberBut 35 = .ok (.iload_n 3, 1) := by decide +kernel
theorem dX4_takeNumberBut_36 : decode cX4_takeNumberBut 36 = .ok (.ifCond .eq 23, 3) := by decide +kernel
theorem dX4_takeNumberBut_39 : decode cX4_takeNumberBut 39 = .ok (.iload_n 1, 1) := by decide +kernel
theorem dX4_takeNumberBut_40 : decode cX4_takeNumberBut 40 = .ok (.aload_n 0, 1) := by decide +kernel
theorem dX4_takeNumberBut_41 : decode cX4_takeNumberBut 41 = .ok (.getfield 22, 3) := by decide +kernel
theorem dX4_takeNumberBut_44 : decode cX4_takeNumberBut 44 = .ok (.getfield 152, 3) := by decide +kernel
theorem dX4_takeNumberBut_47 : decode cX4_takeNumberBut 47 = .ok (.invokestatic 155, 3) := by decide +kernel
theorem dX4_takeNumberBut_50 : decode cX4_takeNumberBut 50 = .ok (.ifCond .eq 9, 3) := by decide +kernel
theorem dX4_takeNumberBut_53 : decode cX4_takeNumberBut 53 = .ok (.aload_n 0, 1) := by decide +kernel
theorem dX4_takeNumberBut_54 : decode cX4_takeNumberBut 54 = .ok (.iconst 2, 1) := by decide +kernel
theorem dX4_takeNumberBut_55 : decode cX4_takeNumberBut 55 = .ok (.invokevirtual 52, 3) := by decide +kernel
theorem dX4_takeNumberBut_58 : decode cX4_takeNumberBut 58 = .ok (.ireturn, 1) := by decide +kernel
theorem dX4_takeNumberBut_59 : decode cX4_takeNumberBut 59 = .ok (.aload_n 0, 1) := by decide +kernel
theorem dX4_takeNumberBut_60 : decode cX4_takeNumberBut 60 = .ok (.iconst 0, 1) := by decide +kernel
theorem dX4_takeNumberBut_61 : decode cX4_takeNumberBut 61 = .ok (.iload_n 2, 1) := by decide +kernel
theorem dX4_takeNumberBut_62 : decode cX4_takeNumberBut 62 = .ok (.invokevirtual 140, 3) := by decide +kernel
theorem dX4_takeNumberBut_65 : decode cX4_takeNumberBut 65 = .ok (.ireturn, 1) := by decide +kernel
theorem dX4_takeNumber_0 : decode cX4_takeNumber 0 = .ok (.aload_n 0, 1) := by decide +kernel
theorem dX4_takeNumber_1 : decode cX4_takeNumber 1 = .ok (.getfield 29, 3) := by decide +kernel
theorem dX4_takeNumber_4 : decode cX4_takeNumber 4 = .ok (.ifCond .eq 5, 3) := by decide +kernel
theorem dX4_takeNumber_7 : decode cX4_takeNumber 7 = .ok (.iconst 0, 1) := by decide +kernel
theorem dX4_takeNumber_8 : decode cX4_takeNumber 8 = .ok (.ireturn, 1) := by decide +kernel
theorem dX4_takeNumber_9 : decode cX4_takeNumber 9 = .ok (.aload_n 0, 1) := by decide +kernel
theorem dX4_takeNumber_10 : decode cX4_takeNumber 10 = .ok (.getfield 22, 3) := by decide +kernel
theorem dX4_takeNumber_13 : decode cX4_takeNumber 13 = .ok (.getfield 37, 3) := by decide +kernel
theorem dX4_takeNumber_16 : decode cX4_takeNumber 16 = .ok (.iconst 2, 1) := by decide +kernel
theorem dX4_takeNumber_17 : decode cX4_takeNumber 17 = .ok (.if_icmp .eq 9, 3) := by decide +kernel
theorem dX4_takeNumber_20 : decode cX4_takeNumber 20 = .ok (.aload_n 0, 1) := by decide +kernel
theorem dX4_takeNumber_21 : decode cX4_takeNumber 21 = .ok (.iconst 1, 1) := by decide +kernel
