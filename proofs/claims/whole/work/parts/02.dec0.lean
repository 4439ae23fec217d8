-- the decode rows, as printed
theorem dX0_init_0 : decode cX0_init 0 = .ok (.aload_n 0, 1) := by decide +kernel
theorem dX0_init_1 : decode cX0_init 1 = .ok (.invokespecial 3, 3) := by decide +kernel
theorem dX0_init_4 : decode cX0_init 4 = .ok (.aload_n 0, 1) := by decide +kernel
theorem dX0_init_5 : decode cX0_init 5 = .ok (.aload_n 1, 1) := by decide +kernel
theorem dX0_init_6 : decode cX0_init 6 = .ok (.putfield 9, 3) := by decide +kernel
theorem dX0_init_9 : decode cX0_init 9 = .ok (.return_, 1) := by decide +kernel
theorem dX0_goFrom_0 : decode cX0_goFrom 0 = .ok (.aload_n 0, 1) := by decide +kernel
theorem dX0_goFrom_1 : decode cX0_goFrom 1 = .ok (.getfield 9, 3) := by decide +kernel
theorem dX0_goFrom_4 : decode cX0_goFrom 4 = .ok (.aload_n 1, 1) := by decide +kernel
theorem dX0_goFrom_5 : decode cX0_goFrom 5 = .ok (.invokevirtual 15, 3) := by decide +kernel
theorem dX0_goFrom_8 : decode cX0_goFrom 8 = .ok (.aload_n 0, 1) := by decide +kernel
theorem dX0_goFrom_9 : decode cX0_goFrom 9 = .ok (.iload_n 2, 1) := by decide +kernel
theorem dX0_goFrom_10 : decode cX0_goFrom 10 = .ok (.i2l, 1) := by decide +kernel
theorem dX0_goFrom_11 : decode cX0_goFrom 11 = .ok (.putfield 21, 3) := by decide +kernel
theorem dX0_goFrom_14 : decode cX0_goFrom 14 = .ok (.aload_n 0, 1) := by decide +kernel
theorem dX0_goFrom_15 : decode cX0_goFrom 15 = .ok (.iconst 0, 1) := by decide +kernel
theorem dX0_goFrom_16 : decode cX0_goFrom 16 = .ok (.putfield 25, 3) := by decide +kernel
theorem dX0_goFrom_19 : decode cX0_goFrom 19 = .ok (.aload_n 0, 1) := by decide +kernel
theorem dX0_goFrom_20 : decode cX0_goFrom 20 = .ok (.getfield 9, 3) := by decide +kernel
theorem dX0_goFrom_23 : decode cX0_goFrom 23 = .ok (.invokevirtual 29, 3) := by decide +kernel
theorem dX0_goFrom_26 : decode cX0_goFrom 26 = .ok (.istore_n 3, 1) := by decide +kernel
theorem dX0_goFrom_27 : decode cX0_goFrom 27 = .ok (.iconst 0, 1) := by decide +kernel
theorem dX0_goFrom_28 : decode cX0_goFrom 28 = .ok (.istore 4, 2) := by decide +kernel
theorem dX0_goFrom_30 : decode cX0_goFrom 30 = .ok (.iload 4, 2) := by decide +kernel
theorem dX0_goFrom_32 : decode cX0_goFrom 32 = .ok (.bipush 8, 2) := by decide +kernel
theorem dX0_goFrom_34 : decode cX0_goFrom 34 = .ok (.if_icmp .ge 100, 3) := by decide +kernel
theorem dX0_goFrom_37 : decode cX0_goFrom 37 = .ok (.aload_n 0, 1) := by decide +kernel
theorem dX0_goFrom_38 : decode cX0_goFrom 38 = .ok (.getfield 9, 3) := by decide +kernel
theorem dX0_goFrom_41 : decode cX0_goFrom 41 = .ok (.invokevirtual 33, 3) := by decide +kernel
theorem dX0_goFrom_44 : decode cX0_goFrom 44 = .ok (.ifCond .eq 90, 3) := by decide +kernel
theorem dX0_goFrom_47 : decode cX0_goFrom 47 = .ok (.aload_n 0, 1) := by decide +kernel
theorem dX0_goFrom_48 : decode cX0_goFrom 48 = .ok (.getfield 9, 3) := by decide +kernel
theorem dX0_goFrom_51 : decode cX0_goFrom 51 = .ok (.invokevirtual 36, 3) := by decide +kernel
theorem dX0_goFrom_54 : decode cX0_goFrom 54 = .ok (.iload_n 3, 1) := by decide +kernel
theorem dX0_goFrom_55 : decode cX0_goFrom 55 = .ok (.iconst (-1), 1) := by decide +kernel
theorem dX0_goFrom_56 : decode cX0_goFrom 56 = .ok (.ixor, 1) := by decide +kernel
theorem dX0_goFrom_57 : decode cX0_goFrom 57 = .ok (.iand, 1) := by decide +kernel
theorem dX0_goFrom_58 : decode cX0_goFrom 58 = .ok (.istore 5, 2) := by decide +kernel
theorem dX0_goFrom_60 : decode cX0_goFrom 60 = .ok (.iload 5, 2) := by decide +kernel
theorem dX0_goFrom_62 : decode cX0_goFrom 62 = .ok (.ifCond .ne 6, 3) := by decide +kernel
theorem dX0_goFrom_65 : decode cX0_goFrom 65 = .ok (.goto 69, 3) := by decide +kernel
theorem dX0_goFrom_68 : decode cX0_goFrom 68 = .ok (.iload 5, 2) := by decide +kernel
theorem dX0_goFrom_70 : decode cX0_goFrom 70 = .ok (.aload_n 0, 1) := by decide +kernel
theorem dX0_goFrom_71 : decode cX0_goFrom 71 = .ok (.iload 5, 2) := by decide +kernel
theorem dX0_goFrom_73 : decode cX0_goFrom 73 = .ok (.invokestatic 39, 3) := by decide +kernel
theorem dX0_goFrom_76 : decode cX0_goFrom 76 = .ok (.invokevirtual 45, 3) := by decide +kernel
theorem dX0_goFrom_79 : decode cX0_goFrom 79 = .ok (.invokestatic 48, 3) := by decide +kernel
theorem dX0_goFrom_82 : decode cX0_goFrom 82 = .ok (.istore 6, 2) := by decide +kernel
theorem dX0_goFrom_84 : decode cX0_goFrom 84 = .ok (.iload 6, 2) := by decide +kernel
theorem dX0_goFrom_86 : decode cX0_goFrom 86 = .ok (.iconst (-1), 1) := by decide +kernel
theorem dX0_goFrom_87 : decode cX0_goFrom 87 = .ok (.if_icmp .ne 6, 3) := by decide +kernel
theorem dX0_goFrom_90 : decode cX0_goFrom 90 = .ok (.goto 44, 3) := by decide +kernel
theorem dX0_goFrom_93 : decode cX0_goFrom 93 = .ok (.iload_n 3, 1) := by decide +kernel
theorem dX0_goFrom_94 : decode cX0_goFrom 94 = .ok (.iconst 1, 1) := by decide +kernel
theorem dX0_goFrom_95 : decode cX0_goFrom 95 = .ok (.iload 6, 2) := by decide +kernel
theorem dX0_goFrom_97 : decode cX0_goFrom 97 = .ok (.ishl, 1) := by decide +kernel
theorem dX0_goFrom_98 : decode cX0_goFrom 98 = .ok (.ior, 1) := by decide +kernel
theorem dX0_goFrom_99 : decode cX0_goFrom 99 = .ok (.istore_n 3, 1) := by decide +kernel
theorem dX0_goFrom_100 : decode cX0_goFrom 100 = .ok (.aload_n 0, 1) := by decide +kernel
theorem dX0_goFrom_101 : decode cX0_goFrom 101 = .ok (.dup, 1) := by decide +kernel
theorem dX0_goFrom_102 : decode cX0_goFrom 102 = .ok (.getfield 25, 3) := by decide +kernel
theorem dX0_goFrom_105 : decode cX0_goFrom 105 = .ok (.iconst 1, 1) := by decide +kernel
theorem dX0_goFrom_106 : decode cX0_goFrom 106 = .ok (.iadd, 1) := by decide +kernel
theorem dX0_goFrom_107 : decode cX0_goFrom 107 = .ok (.putfield 25, 3) := by decide +kernel
theorem dX0_goFrom_110 : decode cX0_goFrom 110 = .ok (.aload_n 0, 1) := by decide +kernel
theorem dX0_goFrom_111 : decode cX0_goFrom 111 = .ok (.getfield 9, 3) := by decide +kernel
theorem dX0_goFrom_114 : decode cX0_goFrom 114 = .ok (.iload 6, 2) := by decide +kernel
theorem dX0_goFrom_116 : decode cX0_goFrom 116 = .ok (.aload_n 0, 1) := by decide +kernel
theorem dX0_goFrom_117 : decode cX0_goFrom 117 = .ok (.getfield 9, 3) := by decide +kernel
theorem dX0_goFrom_120 : decode cX0_goFrom 120 = .ok (.iload 6, 2) := by decide +kernel
theorem dX0_goFrom_122 : decode cX0_goFrom 122 = .ok (.invokevirtual 52, 3) := by decide +kernel
theorem dX0_goFrom_125 : decode cX0_goFrom 125 = .ok (.invokevirtual 55, 3) := by decide +kernel
theorem dX0_goFrom_128 : decode cX0_goFrom 128 = .ok (.iinc 4 1, 3) := by decide +kernel
theorem dX0_goFrom_131 : decode cX0_goFrom 131 = .ok (.goto (-101), 3) := by decide +kernel
theorem dX0_goFrom_134 : decode cX0_goFrom 134 = .ok (.aload_n 0, 1) := by decide +kernel
theorem dX0_goFrom_135 : decode cX0_goFrom 135 = .ok (.aload_n 0, 1) := by decide +kernel
theorem dX0_goFrom_136 : decode cX0_goFrom 136 = .ok (.getfield 9, 3) := by decide +kernel
theorem dX0_goFrom_139 : decode cX0_goFrom 139 = .ok (.invokevirtual 33, 3) := by decide +kernel
theorem dX0_goFrom_142 : decode cX0_goFrom 142 = .ok (.ifCond .ne 13, 3) := by decide +kernel
theorem dX0_goFrom_145 : decode cX0_goFrom 145 = .ok (.aload_n 0, 1) := by decide +kernel
theorem dX0_goFrom_146 : decode cX0_goFrom 146 = .ok (.getfield 9, 3) := by decide +kernel
theorem dX0_goFrom_149 : decode cX0_goFrom 149 = .ok (.getfield 59, 3) := by decide +kernel
theorem dX0_goFrom_152 : decode cX0_goFrom 152 = .ok (.goto 4, 3) := by decide +kernel
theorem dX0_goFrom_155 : decode cX0_goFrom 155 = .ok (.iconst (-1), 1) := by decide +kernel
theorem dX0_goFrom_156 : decode cX0_goFrom 156 = .ok (.putfield 62, 3) := by decide +kernel
theorem dX0_goFrom_159 : decode cX0_goFrom 159 = .ok (.return_, 1) := by decide +kernel
theorem dX0_draw_0 : decode cX0_draw 0 = .ok (.aload_n 0, 1) := by decide +kernel
theorem dX0_draw_1 : decode cX0_draw 1 = .ok (.ldc2_w 63, 3) := by decide +kernel
theorem dX0_draw_4 : decode cX0_draw 4 = .ok (.aload_n 0, 1) := by decide +kernel
theorem dX0_draw_5 : decode cX0_draw 5 = .ok (.getfield 21, 3) := by decide +kernel
theorem dX0_draw_8 : decode cX0_draw 8 = .ok (.lmul, 1) := by decide +kernel
theorem dX0_draw_9 : decode cX0_draw 9 = .ok (.ldc2_w 65, 3) := by decide +kernel
theorem dX0_draw_12 : decode cX0_draw 12 = .ok (.ladd, 1) := by decide +kernel
theorem dX0_draw_13 : decode cX0_draw 13 = .ok (.ldc2_w 67, 3) := by decide +kernel
theorem dX0_draw_16 : decode cX0_draw 16 = .ok (.lrem, 1) := by decide +kernel
theorem dX0_draw_17 : decode cX0_draw 17 = .ok (.putfield 21, 3) := by decide +kernel
theorem dX0_draw_20 : decode cX0_draw 20 = .ok (.iload_n 1, 1) := by decide +kernel
theorem dX0_draw_21 : decode cX0_draw 21 = .ok (.ifCond .le 18, 3) := by decide +kernel
theorem dX0_draw_24 : decode cX0_draw 24 = .ok (.aload_n 0, 1) := by decide +kernel
theorem dX0_draw_25 : decode cX0_draw 25 = .ok (.getfield 21, 3) := by decide +kernel
theorem dX0_draw_28 : decode cX0_draw 28 = .ok (.ldc2_w 69, 3) := by decide +kernel
theorem dX0_draw_31 : decode cX0_draw 31 = .ok (.ldiv, 1) := by decide +kernel
theorem dX0_draw_32 : decode cX0_draw 32 = .ok (.iload_n 1, 1) := by decide +kernel
theorem dX0_draw_33 : decode cX0_draw 33 = .ok (.i2l, 1) := by decide +kernel
theorem dX0_draw_34 : decode cX0_draw 34 = .ok (.lrem, 1) := by decide +kernel
theorem dX0_draw_35 : decode cX0_draw 35 = .ok (.l2i, 1) := by decide +kernel
theorem dX0_draw_36 : decode cX0_draw 36 = .ok (.goto 4, 3) := by decide +kernel
theorem dX0_draw_39 : decode cX0_draw 39 = .ok (.iconst 0, 1) := by decide +kernel
theorem dX0_draw_40 : decode cX0_draw 40 = .ok (.ireturn, 1) := by decide +kernel
theorem dX0_memberAt_0 : decode cX0_memberAt 0 = .ok (.iload_n 1, 1) := by decide +kernel
theorem dX0_memberAt_1 : decode cX0_memberAt 1 = .ok (.istore_n 2, 1) := by decide +kernel
theorem dX0_memberAt_2 : decode cX0_memberAt 2 = .ok (.iconst 0, 1) := by decide +kernel
theorem dX0_memberAt_3 : decode cX0_memberAt 3 = .ok (.istore_n 3, 1) := by decide +kernel
theorem dX0_memberAt_4 : decode cX0_memberAt 4 = .ok (.iload_n 3, 1) := by decide +kernel
theorem dX0_memberAt_5 : decode cX0_memberAt 5 = .ok (.bipush 8, 2) := by decide +kernel
theorem dX0_memberAt_7 : decode cX0_memberAt 7 = .ok (.if_icmp .ge 26, 3) := by decide +kernel
theorem dX0_memberAt_10 : decode cX0_memberAt 10 = .ok (.iload_n 0, 1) := by decide +kernel
theorem dX0_memberAt_11 : decode cX0_memberAt 11 = .ok (.iload_n 3, 1) := by decide +kernel
theorem dX0_memberAt_12 : decode cX0_memberAt 12 = .ok (.invokestatic 71, 3) := by decide +kernel
theorem dX0_memberAt_15 : decode cX0_memberAt 15 = .ok (.ifCond .eq 12, 3) := by decide +kernel
theorem dX0_memberAt_18 : decode cX0_memberAt 18 = .ok (.iload_n 2, 1) := by decide +kernel
theorem dX0_memberAt_19 : decode cX0_memberAt 19 = .ok (.ifCond .ne 5, 3) := by decide +kernel
theorem dX0_memberAt_22 : decode cX0_memberAt 22 = .ok (.iload_n 3, 1) := by decide +kernel
theorem dX0_memberAt_23 : decode cX0_memberAt 23 = .ok (.ireturn, 1) := by decide +kernel
theorem dX0_memberAt_24 : decode cX0_memberAt 24 = .ok (.iinc 2 (-1), 3) := by decide +kernel
theorem dX0_memberAt_27 : decode cX0_memberAt 27 = .ok (.iinc 3 1, 3) := by decide +kernel
theorem dX0_memberAt_30 : decode cX0_memberAt 30 = .ok (.goto (-26), 3) := by decide +kernel
theorem dX0_memberAt_33 : decode cX0_memberAt 33 = .ok (.iconst (-1), 1) := by decide +kernel
theorem dX0_memberAt_34 : decode cX0_memberAt 34 = .ok (.ireturn, 1) := by decide +kernel
theorem dX1_init_0 : decode cX1_init 0 = .ok (.aload_n 0, 1) := by decide +kernel
theorem dX1_init_1 : decode cX1_init 1 = .ok (.invokespecial 3, 3) := by decide +kernel
theorem dX1_init_4 : decode cX1_init 4 = .ok (.aload_n 0, 1) := by decide +kernel
theorem dX1_init_5 : decode cX1_init 5 = .ok (.sipush 256, 3) := by decide +kernel
theorem dX1_init_8 : decode cX1_init 8 = .ok (.newarray .int, 2) := by decide +kernel
theorem dX1_init_10 : decode cX1_init 10 = .ok (.putfield 9, 3) := by decide +kernel
theorem dX1_init_13 : decode cX1_init 13 = .ok (.aload_n 0, 1) := by decide +kernel
theorem dX1_init_14 : decode cX1_init 14 = .ok (.sipush 256, 3) := by decide +kernel
theorem dX1_init_17 : decode cX1_init 17 = .ok (.newarray .int, 2) := by decide +kernel
theorem dX1_init_19 : decode cX1_init 19 = .ok (.putfield 15, 3) := by decide +kernel
theorem dX1_init_22 : decode cX1_init 22 = .ok (.aload_n 0, 1) := by decide +kernel
theorem dX1_init_23 : decode cX1_init 23 = .ok (.sipush 256, 3) := by decide +kernel
theorem dX1_init_26 : decode cX1_init 26 = .ok (.newarray .int, 2) := by decide +kernel
theorem dX1_init_28 : decode cX1_init 28 = .ok (.putfield 18, 3) := by decide +kernel
theorem dX1_init_31 : decode cX1_init 31 = .ok (.return_, 1) := by decide +kernel
theorem dX1_weigh_0 : decode cX1_weigh 0 = .ok (.iconst 1, 1) := by decide +kernel
theorem dX1_weigh_1 : decode cX1_weigh 1 = .ok (.aload_n 1, 1) := by decide +kernel
theorem dX1_weigh_2 : decode cX1_weigh 2 = .ok (.getfield 21, 3) := by decide +kernel
theorem dX1_weigh_5 : decode cX1_weigh 5 = .ok (.ishl, 1) := by decide +kernel
theorem dX1_weigh_6 : decode cX1_weigh 6 = .ok (.sipush 256, 3) := by decide +kernel
theorem dX1_weigh_9 : decode cX1_weigh 9 = .ok (.invokestatic 27, 3) := by decide +kernel
theorem dX1_weigh_12 : decode cX1_weigh 12 = .ok (.iconst 1, 1) := by decide +kernel
theorem dX1_weigh_13 : decode cX1_weigh 13 = .ok (.isub, 1) := by decide +kernel
theorem dX1_weigh_14 : decode cX1_weigh 14 = .ok (.istore_n 2, 1) := by decide +kernel
theorem dX1_weigh_15 : decode cX1_weigh 15 = .ok (.iload_n 2, 1) := by decide +kernel
theorem dX1_weigh_16 : decode cX1_weigh 16 = .ok (.ifCond .lt 47, 3) := by decide +kernel
theorem dX1_weigh_19 : decode cX1_weigh 19 = .ok (.aload_n 0, 1) := by decide +kernel
theorem dX1_weigh_20 : decode cX1_weigh 20 = .ok (.getfield 9, 3) := by decide +kernel
theorem dX1_weigh_23 : decode cX1_weigh 23 = .ok (.iload_n 2, 1) := by decide +kernel
theorem dX1_weigh_24 : decode cX1_weigh 24 = .ok (.iconst 0, 1) := by decide +kernel
theorem dX1_weigh_25 : decode cX1_weigh 25 = .ok (.iastore, 1) := by decide +kernel
theorem dX1_weigh_26 : decode cX1_weigh 26 = .ok (.aload_n 0, 1) := by decide +kernel
theorem dX1_weigh_27 : decode cX1_weigh 27 = .ok (.getfield 15, 3) := by decide +kernel
theorem dX1_weigh_30 : decode cX1_weigh 30 = .ok (.iload_n 2, 1) := by decide +kernel
theorem dX1_weigh_31 : decode cX1_weigh 31 = .ok (.iconst 0, 1) := by decide +kernel
theorem dX1_weigh_32 : decode cX1_weigh 32 = .ok (.iastore, 1) := by decide +kernel
theorem dX1_weigh_33 : decode cX1_weigh 33 = .ok (.aload_n 0, 1) := by decide +kernel
theorem dX1_weigh_34 : decode cX1_weigh 34 = .ok (.getfield 18, 3) := by decide +kernel
theorem dX1_weigh_37 : decode cX1_weigh 37 = .ok (.iload_n 2, 1) := by decide +kernel
theorem dX1_weigh_38 : decode cX1_weigh 38 = .ok (.iconst (-1), 1) := by decide +kernel
theorem dX1_weigh_39 : decode cX1_weigh 39 = .ok (.iastore, 1) := by decide +kernel
theorem dX1_weigh_40 : decode cX1_weigh 40 = .ok (.aload_n 1, 1) := by decide +kernel
theorem dX1_weigh_41 : decode cX1_weigh 41 = .ok (.getfield 33, 3) := by decide +kernel
theorem dX1_weigh_44 : decode cX1_weigh 44 = .ok (.iload_n 2, 1) := by decide +kernel
theorem dX1_weigh_45 : decode cX1_weigh 45 = .ok (.iconst (-1), 1) := by decide +kernel
theorem dX1_weigh_46 : decode cX1_weigh 46 = .ok (.ixor, 1) := by decide +kernel
theorem dX1_weigh_47 : decode cX1_weigh 47 = .ok (.iand, 1) := by decide +kernel
theorem dX1_weigh_48 : decode cX1_weigh 48 = .ok (.ifCond .eq 9, 3) := by decide +kernel
theorem dX1_weigh_51 : decode cX1_weigh 51 = .ok (.aload_n 0, 1) := by decide +kernel
theorem dX1_weigh_52 : decode cX1_weigh 52 = .ok (.aload_n 1, 1) := by decide +kernel
theorem dX1_weigh_53 : decode cX1_weigh 53 = .ok (.iload_n 2, 1) := by decide +kernel
theorem dX1_weigh_54 : decode cX1_weigh 54 = .ok (.invokevirtual 36, 3) := by decide +kernel
theorem dX1_weigh_57 : decode cX1_weigh 57 = .ok (.iinc 2 (-1), 3) := by decide +kernel
theorem dX1_weigh_60 : decode cX1_weigh 60 = .ok (.goto (-45), 3) := by decide +kernel
theorem dX1_weigh_63 : decode cX1_weigh 63 = .ok (.return_, 1) := by decide +kernel
theorem dX1_pick_0 : decode cX1_pick 0 = .ok (.iconst 0, 1) := by decide +kernel
theorem dX1_pick_1 : decode cX1_pick 1 = .ok (.istore_n 3, 1) := by decide +kernel
theorem dX1_pick_2 : decode cX1_pick 2 = .ok (.iload_n 3, 1) := by decide +kernel
theorem dX1_pick_3 : decode cX1_pick 3 = .ok (.aload_n 1, 1) := by decide +kernel
theorem dX1_pick_4 : decode cX1_pick 4 = .ok (.getfield 21, 3) := by decide +kernel
theorem dX1_pick_7 : decode cX1_pick 7 = .ok (.if_icmp .ge 160, 3) := by decide +kernel
theorem dX1_pick_10 : decode cX1_pick 10 = .ok (.iload_n 2, 1) := by decide +kernel
theorem dX1_pick_11 : decode cX1_pick 11 = .ok (.iconst 1, 1) := by decide +kernel
theorem dX1_pick_12 : decode cX1_pick 12 = .ok (.iload_n 3, 1) := by decide +kernel
theorem dX1_pick_13 : decode cX1_pick 13 = .ok (.ishl, 1) := by decide +kernel
theorem dX1_pick_14 : decode cX1_pick 14 = .ok (.ior, 1) := by decide +kernel
theorem dX1_pick_15 : decode cX1_pick 15 = .ok (.istore 4, 2) := by decide +kernel
theorem dX1_pick_17 : decode cX1_pick 17 = .ok (.iload 4, 2) := by decide +kernel
theorem dX1_pick_19 : decode cX1_pick 19 = .ok (.iload_n 2, 1) := by decide +kernel
theorem dX1_pick_20 : decode cX1_pick 20 = .ok (.if_icmp .eq 141, 3) := by decide +kernel
theorem dX1_pick_23 : decode cX1_pick 23 = .ok (.iload 4, 2) := by decide +kernel
theorem dX1_pick_25 : decode cX1_pick 25 = .ok (.sipush 256, 3) := by decide +kernel
theorem dX1_pick_28 : decode cX1_pick 28 = .ok (.if_icmp .ge 133, 3) := by decide +kernel
theorem dX1_pick_31 : decode cX1_pick 31 = .ok (.aload_n 0, 1) := by decide +kernel
theorem dX1_pick_32 : decode cX1_pick 32 = .ok (.getfield 9, 3) := by decide +kernel
theorem dX1_pick_35 : decode cX1_pick 35 = .ok (.iload 4, 2) := by decide +kernel
theorem dX1_pick_37 : decode cX1_pick 37 = .ok (.iaload, 1) := by decide +kernel
theorem dX1_pick_38 : decode cX1_pick 38 = .ok (.aload_n 1, 1) := by decide +kernel
theorem dX1_pick_39 : decode cX1_pick 39 = .ok (.getfield 40, 3) := by decide +kernel
theorem dX1_pick_42 : decode cX1_pick 42 = .ok (.bipush 9, 2) := by decide +kernel
theorem dX1_pick_44 : decode cX1_pick 44 = .ok (.aaload, 1) := by decide +kernel
theorem dX1_pick_45 : decode cX1_pick 45 = .ok (.iload_n 3, 1) := by decide +kernel
theorem dX1_pick_46 : decode cX1_pick 46 = .ok (.iaload, 1) := by decide +kernel
theorem dX1_pick_47 : decode cX1_pick 47 = .ok (.iload_n 2, 1) := by decide +kernel
theorem dX1_pick_48 : decode cX1_pick 48 = .ok (.iconst (-1), 1) := by decide +kernel
theorem dX1_pick_49 : decode cX1_pick 49 = .ok (.ixor, 1) := by decide +kernel
theorem dX1_pick_50 : decode cX1_pick 50 = .ok (.iand, 1) := by decide +kernel
theorem dX1_pick_51 : decode cX1_pick 51 = .ok (.invokestatic 44, 3) := by decide +kernel
theorem dX1_pick_54 : decode cX1_pick 54 = .ok (.iadd, 1) := by decide +kernel
theorem dX1_pick_55 : decode cX1_pick 55 = .ok (.aload_n 1, 1) := by decide +kernel
theorem dX1_pick_56 : decode cX1_pick 56 = .ok (.getfield 40, 3) := by decide +kernel
theorem dX1_pick_59 : decode cX1_pick 59 = .ok (.bipush 10, 2) := by decide +kernel
theorem dX1_pick_61 : decode cX1_pick 61 = .ok (.aaload, 1) := by decide +kernel
theorem dX1_pick_62 : decode cX1_pick 62 = .ok (.iload_n 3, 1) := by decide +kernel
theorem dX1_pick_63 : decode cX1_pick 63 = .ok (.iaload, 1) := by decide +kernel
theorem dX1_pick_64 : decode cX1_pick 64 = .ok (.iload_n 2, 1) := by decide +kernel
theorem dX1_pick_65 : decode cX1_pick 65 = .ok (.iand, 1) := by decide +kernel
theorem dX1_pick_66 : decode cX1_pick 66 = .ok (.invokestatic 44, 3) := by decide +kernel
theorem dX1_pick_69 : decode cX1_pick 69 = .ok (.iadd, 1) := by decide +kernel
theorem dX1_pick_70 : decode cX1_pick 70 = .ok (.istore 5, 2) := by decide +kernel
theorem dX1_pick_72 : decode cX1_pick 72 = .ok (.aload_n 0, 1) := by decide +kernel
theorem dX1_pick_73 : decode cX1_pick 73 = .ok (.getfield 15, 3) := by decide +kernel
theorem dX1_pick_76 : decode cX1_pick 76 = .ok (.iload 4, 2) := by decide +kernel
theorem dX1_pick_78 : decode cX1_pick 78 = .ok (.iaload, 1) := by decide +kernel
theorem dX1_pick_79 : decode cX1_pick 79 = .ok (.iconst 1, 1) := by decide +kernel
theorem dX1_pick_80 : decode cX1_pick 80 = .ok (.iadd, 1) := by decide +kernel
theorem dX1_pick_81 : decode cX1_pick 81 = .ok (.istore 6, 2) := by decide +kernel
theorem dX1_pick_83 : decode cX1_pick 83 = .ok (.iload 5, 2) := by decide +kernel
theorem dX1_pick_85 : decode cX1_pick 85 = .ok (.aload_n 0, 1) := by decide +kernel
theorem dX1_pick_86 : decode cX1_pick 86 = .ok (.getfield 9, 3) := by decide +kernel
theorem dX1_pick_89 : decode cX1_pick 89 = .ok (.iload_n 2, 1) := by decide +kernel
theorem dX1_pick_90 : decode cX1_pick 90 = .ok (.iaload, 1) := by decide +kernel
theorem dX1_pick_91 : decode cX1_pick 91 = .ok (.if_icmp .lt 25, 3) := by decide +kernel
theorem dX1_pick_94 : decode cX1_pick 94 = .ok (.iload 5, 2) := by decide +kernel
theorem dX1_pick_96 : decode cX1_pick 96 = .ok (.aload_n 0, 1) := by decide +kernel
theorem dX1_pick_97 : decode cX1_pick 97 = .ok (.getfield 9, 3) := by decide +kernel
theorem dX1_pick_100 : decode cX1_pick 100 = .ok (.iload_n 2, 1) := by decide +kernel
theorem dX1_pick_101 : decode cX1_pick 101 = .ok (.iaload, 1) := by decide +kernel
theorem dX1_pick_102 : decode cX1_pick 102 = .ok (.if_icmp .ne 18, 3) := by decide +kernel
theorem dX1_pick_105 : decode cX1_pick 105 = .ok (.iload 6, 2) := by decide +kernel
theorem dX1_pick_107 : decode cX1_pick 107 = .ok (.aload_n 0, 1) := by decide +kernel
theorem dX1_pick_108 : decode cX1_pick 108 = .ok (.getfield 15, 3) := by decide +kernel
theorem dX1_pick_111 : decode cX1_pick 111 = .ok (.iload_n 2, 1) := by decide +kernel
theorem dX1_pick_112 : decode cX1_pick 112 = .ok (.iaload, 1) := by decide +kernel
theorem dX1_pick_113 : decode cX1_pick 113 = .ok (.if_icmp .ge 7, 3) := by decide +kernel
theorem dX1_pick_116 : decode cX1_pick 116 = .ok (.iconst 1, 1) := by decide +kernel
theorem dX1_pick_117 : decode cX1_pick 117 = .ok (.goto 4, 3) := by decide +kernel
theorem dX1_pick_120 : decode cX1_pick 120 = .ok (.iconst 0, 1) := by decide +kernel
theorem dX1_pick_121 : decode cX1_pick 121 = .ok (.istore 7, 2) := by decide +kernel
theorem dX1_pick_123 : decode cX1_pick 123 = .ok (.aload_n 0, 1) := by decide +kernel
theorem dX1_pick_124 : decode cX1_pick 124 = .ok (.getfield 18, 3) := by decide +kernel
theorem dX1_pick_127 : decode cX1_pick 127 = .ok (.iload_n 2, 1) := by decide +kernel
theorem dX1_pick_128 : decode cX1_pick 128 = .ok (.iaload, 1) := by decide +kernel
theorem dX1_pick_129 : decode cX1_pick 129 = .ok (.iconst (-1), 1) := by decide +kernel
theorem dX1_pick_130 : decode cX1_pick 130 = .ok (.if_icmp .eq 8, 3) := by decide +kernel
theorem dX1_pick_133 : decode cX1_pick 133 = .ok (.iload 7, 2) := by decide +kernel
theorem dX1_pick_135 : decode cX1_pick 135 = .ok (.ifCond .eq 26, 3) := by decide +kernel
theorem dX1_pick_138 : decode cX1_pick 138 = .ok (.aload_n 0, 1) := by decide +kernel
theorem dX1_pick_139 : decode cX1_pick 139 = .ok (.getfield 9, 3) := by decide +kernel
theorem dX1_pick_142 : decode cX1_pick 142 = .ok (.iload_n 2, 1) := by decide +kernel
theorem dX1_pick_143 : decode cX1_pick 143 = .ok (.iload 5, 2) := by decide +kernel
theorem dX1_pick_145 : decode cX1_pick 145 = .ok (.iastore, 1) := by decide +kernel
theorem dX1_pick_146 : decode cX1_pick 146 = .ok (.aload_n 0, 1) := by decide +kernel
theorem dX1_pick_147 : decode cX1_pick 147 = .ok (.getfield 15, 3) := by decide +kernel
theorem dX1_pick_150 : decode cX1_pick 150 = .ok (.iload_n 2, 1) := by decide +kernel
theorem dX1_pick_151 : decode cX1_pick 151 = .ok (.iload 6, 2) := by decide +kernel
theorem dX1_pick_153 : decode cX1_pick 153 = .ok (.iastore, 1) := by decide +kernel
theorem dX1_pick_154 : decode cX1_pick 154 = .ok (.aload_n 0, 1) := by decide +kernel
theorem dX1_pick_155 : decode cX1_pick 155 = .ok (.getfield 18, 3) := by decide +kernel
theorem dX1_pick_158 : decode cX1_pick 158 = .ok (.iload_n 2, 1) := by decide +kernel
theorem dX1_pick_159 : decode cX1_pick 159 = .ok (.iload_n 3, 1) := by decide +kernel
theorem dX1_pick_160 : decode cX1_pick 160 = .ok (.iastore, 1) := by decide +kernel
theorem dX1_pick_161 : decode cX1_pick 161 = .ok (.iinc 3 1, 3) := by decide +kernel
theorem dX1_pick_164 : decode cX1_pick 164 = .ok (.goto (-162), 3) := by decide +kernel
theorem dX1_pick_167 : decode cX1_pick 167 = .ok (.return_, 1) := by decide +kernel
theorem dX1_dropped_0 : decode cX1_dropped 0 = .ok (.aload_n 0, 1) := by decide +kernel
theorem dX1_dropped_1 : decode cX1_dropped 1 = .ok (.getfield 9, 3) := by decide +kernel
theorem dX1_dropped_4 : decode cX1_dropped 4 = .ok (.iconst 0, 1) := by decide +kernel
theorem dX1_dropped_5 : decode cX1_dropped 5 = .ok (.iaload, 1) := by decide +kernel
theorem dX1_dropped_6 : decode cX1_dropped 6 = .ok (.ireturn, 1) := by decide +kernel
theorem dX1_officialAt_0 : decode cX1_officialAt 0 = .ok (.iload_n 1, 1) := by decide +kernel
theorem dX1_officialAt_1 : decode cX1_officialAt 1 = .ok (.ifCond .lt 13, 3) := by decide +kernel
theorem dX1_officialAt_4 : decode cX1_officialAt 4 = .ok (.iload_n 1, 1) := by decide +kernel
theorem dX1_officialAt_5 : decode cX1_officialAt 5 = .ok (.aload_n 0, 1) := by decide +kernel
theorem dX1_officialAt_6 : decode cX1_officialAt 6 = .ok (.getfield 15, 3) := by decide +kernel
theorem dX1_officialAt_9 : decode cX1_officialAt 9 = .ok (.iconst 0, 1) := by decide +kernel
theorem dX1_officialAt_10 : decode cX1_officialAt 10 = .ok (.iaload, 1) := by decide +kernel
theorem dX1_officialAt_11 : decode cX1_officialAt 11 = .ok (.if_icmp .lt 5, 3) := by decide +kernel
theorem dX1_officialAt_14 : decode cX1_officialAt 14 = .ok (.iconst (-1), 1) := by decide +kernel
theorem dX1_officialAt_15 : decode cX1_officialAt 15 = .ok (.ireturn, 1) := by decide +kernel
theorem dX1_officialAt_16 : decode cX1_officialAt 16 = .ok (.iconst 0, 1) := by decide +kernel
theorem dX1_officialAt_17 : decode cX1_officialAt 17 = .ok (.istore_n 2, 1) := by decide +kernel
theorem dX1_officialAt_18 : decode cX1_officialAt 18 = .ok (.iconst 0, 1) := by decide +kernel
theorem dX1_officialAt_19 : decode cX1_officialAt 19 = .ok (.istore_n 3, 1) := by decide +kernel
theorem dX1_officialAt_20 : decode cX1_officialAt 20 = .ok (.iload_n 3, 1) := by decide +kernel
theorem dX1_officialAt_21 : decode cX1_officialAt 21 = .ok (.iload_n 1, 1) := by decide +kernel
theorem dX1_officialAt_22 : decode cX1_officialAt 22 = .ok (.if_icmp .ge 37, 3) := by decide +kernel
theorem dX1_officialAt_25 : decode cX1_officialAt 25 = .ok (.iload_n 2, 1) := by decide +kernel
theorem dX1_officialAt_26 : decode cX1_officialAt 26 = .ok (.sipush 256, 3) := by decide +kernel
theorem dX1_officialAt_29 : decode cX1_officialAt 29 = .ok (.if_icmp .ge 30, 3) := by decide +kernel
theorem dX1_officialAt_32 : decode cX1_officialAt 32 = .ok (.aload_n 0, 1) := by decide +kernel
theorem dX1_officialAt_33 : decode cX1_officialAt 33 = .ok (.getfield 18, 3) := by decide +kernel
theorem dX1_officialAt_36 : decode cX1_officialAt 36 = .ok (.iload_n 2, 1) := by decide +kernel
theorem dX1_officialAt_37 : decode cX1_officialAt 37 = .ok (.iaload, 1) := by decide +kernel
theorem dX1_officialAt_38 : decode cX1_officialAt 38 = .ok (.iconst (-1), 1) := by decide +kernel
theorem dX1_officialAt_39 : decode cX1_officialAt 39 = .ok (.if_icmp .eq 20, 3) := by decide +kernel
theorem dX1_officialAt_42 : decode cX1_officialAt 42 = .ok (.iload_n 2, 1) := by decide +kernel
theorem dX1_officialAt_43 : decode cX1_officialAt 43 = .ok (.iconst 1, 1) := by decide +kernel
theorem dX1_officialAt_44 : decode cX1_officialAt 44 = .ok (.aload_n 0, 1) := by decide +kernel
theorem dX1_officialAt_45 : decode cX1_officialAt 45 = .ok (.getfield 18, 3) := by decide +kernel
theorem dX1_officialAt_48 : decode cX1_officialAt 48 = .ok (.iload_n 2, 1) := by decide +kernel
theorem dX1_officialAt_49 : decode cX1_officialAt 49 = .ok (.iaload, 1) := by decide +kernel
theorem dX1_officialAt_50 : decode cX1_officialAt 50 = .ok (.ishl, 1) := by decide +kernel
theorem dX1_officialAt_51 : decode cX1_officialAt 51 = .ok (.ior, 1) := by decide +kernel
theorem dX1_officialAt_52 : decode cX1_officialAt 52 = .ok (.istore_n 2, 1) := by decide +kernel
theorem dX1_officialAt_53 : decode cX1_officialAt 53 = .ok (.iinc 3 1, 3) := by decide +kernel
theorem dX1_officialAt_56 : decode cX1_officialAt 56 = .ok (.goto (-36), 3) := by decide +kernel
theorem dX1_officialAt_59 : decode cX1_officialAt 59 = .ok (.iload_n 2, 1) := by decide +kernel
theorem dX1_officialAt_60 : decode cX1_officialAt 60 = .ok (.sipush 256, 3) := by decide +kernel
theorem dX1_officialAt_63 : decode cX1_officialAt 63 = .ok (.if_icmp .ge 12, 3) := by decide +kernel
theorem dX1_officialAt_66 : decode cX1_officialAt 66 = .ok (.aload_n 0, 1) := by decide +kernel
theorem dX1_officialAt_67 : decode cX1_officialAt 67 = .ok (.getfield 18, 3) := by decide +kernel
theorem dX1_officialAt_70 : decode cX1_officialAt 70 = .ok (.iload_n 2, 1) := by decide +kernel
theorem dX1_officialAt_71 : decode cX1_officialAt 71 = .ok (.iaload, 1) := by decide +kernel
theorem dX1_officialAt_72 : decode cX1_officialAt 72 = .ok (.goto 4, 3) := by decide +kernel
theorem dX1_officialAt_75 : decode cX1_officialAt 75 = .ok (.iconst (-1), 1) := by decide +kernel
theorem dX1_officialAt_76 : decode cX1_officialAt 76 = .ok (.ireturn, 1) := by decide +kernel
theorem dX2_init_0 : decode cX2_init 0 = .ok (.aload_n 0, 1) := by decide +kernel
theorem dX2_init_1 : decode cX2_init 1 = .ok (.invokespecial 3, 3) := by decide +kernel
theorem dX2_init_4 : decode cX2_init 4 = .ok (.aload_n 0, 1) := by decide +kernel
theorem dX2_init_5 : decode cX2_init 5 = .ok (.bipush 40, 2) := by decide +kernel
theorem dX2_init_7 : decode cX2_init 7 = .ok (.newarray .int, 2) := by decide +kernel
theorem dX2_init_9 : decode cX2_init 9 = .ok (.putfield 9, 3) := by decide +kernel
theorem dX2_init_12 : decode cX2_init 12 = .ok (.aload_n 0, 1) := by decide +kernel
theorem dX2_init_13 : decode cX2_init 13 = .ok (.bipush 11, 2) := by decide +kernel
theorem dX2_init_15 : decode cX2_init 15 = .ok (.bipush 8, 2) := by decide +kernel
theorem dX2_init_17 : decode cX2_init 17 = .ok (.multianewarray 15 2, 4) := by decide +kernel
theorem dX2_init_21 : decode cX2_init 21 = .ok (.putfield 17, 3) := by decide +kernel
theorem dX2_init_24 : decode cX2_init 24 = .ok (.aload_n 0, 1) := by decide +kernel
theorem dX2_init_25 : decode cX2_init 25 = .ok (.bipush 6, 2) := by decide +kernel
theorem dX2_init_27 : decode cX2_init 27 = .ok (.bipush 6, 2) := by decide +kernel
theorem dX2_init_29 : decode cX2_init 29 = .ok (.multianewarray 15 2, 4) := by decide +kernel
theorem dX2_init_33 : decode cX2_init 33 = .ok (.putfield 20, 3) := by decide +kernel
theorem dX2_init_36 : decode cX2_init 36 = .ok (.return_, 1) := by decide +kernel
theorem dX2_clear_0 : decode cX2_clear 0 = .ok (.aload_n 0, 1) := by decide +kernel
theorem dX2_clear_1 : decode cX2_clear 1 = .ok (.iconst 0, 1) := by decide +kernel
theorem dX2_clear_2 : decode cX2_clear 2 = .ok (.putfield 23, 3) := by decide +kernel
theorem dX2_clear_5 : decode cX2_clear 5 = .ok (.aload_n 0, 1) := by decide +kernel
theorem dX2_clear_6 : decode cX2_clear 6 = .ok (.iconst 0, 1) := by decide +kernel
theorem dX2_clear_7 : decode cX2_clear 7 = .ok (.putfield 27, 3) := by decide +kernel
theorem dX2_clear_10 : decode cX2_clear 10 = .ok (.aload_n 0, 1) := by decide +kernel
theorem dX2_clear_11 : decode cX2_clear 11 = .ok (.iconst 0, 1) := by decide +kernel
theorem dX2_clear_12 : decode cX2_clear 12 = .ok (.putfield 30, 3) := by decide +kernel
theorem dX2_clear_15 : decode cX2_clear 15 = .ok (.aload_n 0, 1) := by decide +kernel
theorem dX2_clear_16 : decode cX2_clear 16 = .ok (.iconst 0, 1) := by decide +kernel
theorem dX2_clear_17 : decode cX2_clear 17 = .ok (.putfield 33, 3) := by decide +kernel
theorem dX2_clear_20 : decode cX2_clear 20 = .ok (.aload_n 0, 1) := by decide +kernel
theorem dX2_clear_21 : decode cX2_clear 21 = .ok (.iconst 0, 1) := by decide +kernel
theorem dX2_clear_22 : decode cX2_clear 22 = .ok (.putfield 36, 3) := by decide +kernel
theorem dX2_clear_25 : decode cX2_clear 25 = .ok (.aload_n 0, 1) := by decide +kernel
theorem dX2_clear_26 : decode cX2_clear 26 = .ok (.iconst 0, 1) := by decide +kernel
theorem dX2_clear_27 : decode cX2_clear 27 = .ok (.putfield 39, 3) := by decide +kernel
theorem dX2_clear_30 : decode cX2_clear 30 = .ok (.aload_n 0, 1) := by decide +kernel
theorem dX2_clear_31 : decode cX2_clear 31 = .ok (.iconst 0, 1) := by decide +kernel
theorem dX2_clear_32 : decode cX2_clear 32 = .ok (.putfield 42, 3) := by decide +kernel
theorem dX2_clear_35 : decode cX2_clear 35 = .ok (.iconst 0, 1) := by decide +kernel
theorem dX2_clear_36 : decode cX2_clear 36 = .ok (.istore_n 1, 1) := by decide +kernel
theorem dX2_clear_37 : decode cX2_clear 37 = .ok (.iload_n 1, 1) := by decide +kernel
theorem dX2_clear_38 : decode cX2_clear 38 = .ok (.bipush 11, 2) := by decide +kernel
theorem dX2_clear_40 : decode cX2_clear 40 = .ok (.if_icmp .ge 19, 3) := by decide +kernel
theorem dX2_clear_43 : decode cX2_clear 43 = .ok (.aload_n 0, 1) := by decide +kernel
theorem dX2_clear_44 : decode cX2_clear 44 = .ok (.getfield 17, 3) := by decide +kernel
theorem dX2_clear_47 : decode cX2_clear 47 = .ok (.iload_n 1, 1) := by decide +kernel
theorem dX2_clear_48 : decode cX2_clear 48 = .ok (.aaload, 1) := by decide +kernel
theorem dX2_clear_49 : decode cX2_clear 49 = .ok (.iconst 0, 1) := by decide +kernel
theorem dX2_clear_50 : decode cX2_clear 50 = .ok (.invokestatic 45, 3) := by decide +kernel
theorem dX2_clear_53 : decode cX2_clear 53 = .ok (.iinc 1 1, 3) := by decide +kernel
theorem dX2_clear_56 : decode cX2_clear 56 = .ok (.goto (-19), 3) := by decide +kernel
theorem dX2_clear_59 : decode cX2_clear 59 = .ok (.iconst 0, 1) := by decide +kernel
theorem dX2_clear_60 : decode cX2_clear 60 = .ok (.istore_n 1, 1) := by decide +kernel
theorem dX2_clear_61 : decode cX2_clear 61 = .ok (.iload_n 1, 1) := by decide +kernel
theorem dX2_clear_62 : decode cX2_clear 62 = .ok (.bipush 6, 2) := by decide +kernel
theorem dX2_clear_64 : decode cX2_clear 64 = .ok (.if_icmp .ge 19, 3) := by decide +kernel
theorem dX2_clear_67 : decode cX2_clear 67 = .ok (.aload_n 0, 1) := by decide +kernel
theorem dX2_clear_68 : decode cX2_clear 68 = .ok (.getfield 20, 3) := by decide +kernel
theorem dX2_clear_71 : decode cX2_clear 71 = .ok (.iload_n 1, 1) := by decide +kernel
theorem dX2_clear_72 : decode cX2_clear 72 = .ok (.aaload, 1) := by decide +kernel
theorem dX2_clear_73 : decode cX2_clear 73 = .ok (.iconst 0, 1) := by decide +kernel
theorem dX2_clear_74 : decode cX2_clear 74 = .ok (.invokestatic 45, 3) := by decide +kernel
theorem dX2_clear_77 : decode cX2_clear 77 = .ok (.iinc 1 1, 3) := by decide +kernel
theorem dX2_clear_80 : decode cX2_clear 80 = .ok (.goto (-19), 3) := by decide +kernel
theorem dX2_clear_83 : decode cX2_clear 83 = .ok (.return_, 1) := by decide +kernel
theorem dX2_copyFrom_0 : decode cX2_copyFrom 0 = .ok (.aload_n 0, 1) := by decide +kernel
theorem dX2_copyFrom_1 : decode cX2_copyFrom 1 = .ok (.aload_n 1, 1) := by decide +kernel
theorem dX2_copyFrom_2 : decode cX2_copyFrom 2 = .ok (.getfield 23, 3) := by decide +kernel
theorem dX2_copyFrom_5 : decode cX2_copyFrom 5 = .ok (.putfield 23, 3) := by decide +kernel
theorem dX2_copyFrom_8 : decode cX2_copyFrom 8 = .ok (.aload_n 0, 1) := by decide +kernel
theorem dX2_copyFrom_9 : decode cX2_copyFrom 9 = .ok (.aload_n 1, 1) := by decide +kernel
theorem dX2_copyFrom_10 : decode cX2_copyFrom 10 = .ok (.getfield 27, 3) := by decide +kernel
theorem dX2_copyFrom_13 : decode cX2_copyFrom 13 = .ok (.putfield 27, 3) := by decide +kernel
theorem dX2_copyFrom_16 : decode cX2_copyFrom 16 = .ok (.aload_n 0, 1) := by decide +kernel
theorem dX2_copyFrom_17 : decode cX2_copyFrom 17 = .ok (.aload_n 1, 1) := by decide +kernel
theorem dX2_copyFrom_18 : decode cX2_copyFrom 18 = .ok (.getfield 30, 3) := by decide +kernel
theorem dX2_copyFrom_21 : decode cX2_copyFrom 21 = .ok (.putfield 30, 3) := by decide +kernel
theorem dX2_copyFrom_24 : decode cX2_copyFrom 24 = .ok (.aload_n 0, 1) := by decide +kernel
theorem dX2_copyFrom_25 : decode cX2_copyFrom 25 = .ok (.aload_n 1, 1) := by decide +kernel
theorem dX2_copyFrom_26 : decode cX2_copyFrom 26 = .ok (.getfield 33, 3) := by decide +kernel
theorem dX2_copyFrom_29 : decode cX2_copyFrom 29 = .ok (.putfield 33, 3) := by decide +kernel
theorem dX2_copyFrom_32 : decode cX2_copyFrom 32 = .ok (.aload_n 0, 1) := by decide +kernel
theorem dX2_copyFrom_33 : decode cX2_copyFrom 33 = .ok (.aload_n 1, 1) := by decide +kernel
theorem dX2_copyFrom_34 : decode cX2_copyFrom 34 = .ok (.getfield 36, 3) := by decide +kernel
theorem dX2_copyFrom_37 : decode cX2_copyFrom 37 = .ok (.putfield 36, 3) := by decide +kernel
theorem dX2_copyFrom_40 : decode cX2_copyFrom 40 = .ok (.aload_n 0, 1) := by decide +kernel
theorem dX2_copyFrom_41 : decode cX2_copyFrom 41 = .ok (.aload_n 1, 1) := by decide +kernel
theorem dX2_copyFrom_42 : decode cX2_copyFrom 42 = .ok (.getfield 39, 3) := by decide +kernel
theorem dX2_copyFrom_45 : decode cX2_copyFrom 45 = .ok (.putfield 39, 3) := by decide +kernel
theorem dX2_copyFrom_48 : decode cX2_copyFrom 48 = .ok (.aload_n 0, 1) := by decide +kernel
theorem dX2_copyFrom_49 : decode cX2_copyFrom 49 = .ok (.aload_n 1, 1) := by decide +kernel
theorem dX2_copyFrom_50 : decode cX2_copyFrom 50 = .ok (.getfield 42, 3) := by decide +kernel
theorem dX2_copyFrom_53 : decode cX2_copyFrom 53 = .ok (.putfield 42, 3) := by decide +kernel
theorem dX2_copyFrom_56 : decode cX2_copyFrom 56 = .ok (.aload_n 1, 1) := by decide +kernel
theorem dX2_copyFrom_57 : decode cX2_copyFrom 57 = .ok (.getfield 9, 3) := by decide +kernel
theorem dX2_copyFrom_60 : decode cX2_copyFrom 60 = .ok (.iconst 0, 1) := by decide +kernel
theorem dX2_copyFrom_61 : decode cX2_copyFrom 61 = .ok (.aload_n 0, 1) := by decide +kernel
theorem dX2_copyFrom_62 : decode cX2_copyFrom 62 = .ok (.getfield 9, 3) := by decide +kernel
theorem dX2_copyFrom_65 : decode cX2_copyFrom 65 = .ok (.iconst 0, 1) := by decide +kernel
theorem dX2_copyFrom_66 : decode cX2_copyFrom 66 = .ok (.bipush 40, 2) := by decide +kernel
theorem dX2_copyFrom_68 : decode cX2_copyFrom 68 = .ok (.invokestatic 51, 3) := by decide +kernel
theorem dX2_copyFrom_71 : decode cX2_copyFrom 71 = .ok (.iconst 0, 1) := by decide +kernel
theorem dX2_copyFrom_72 : decode cX2_copyFrom 72 = .ok (.istore_n 2, 1) := by decide +kernel
theorem dX2_copyFrom_73 : decode cX2_copyFrom 73 = .ok (.iload_n 2, 1) := by decide +kernel
theorem dX2_copyFrom_74 : decode cX2_copyFrom 74 = .ok (.bipush 11, 2) := by decide +kernel
theorem dX2_copyFrom_76 : decode cX2_copyFrom 76 = .ok (.if_icmp .ge 28, 3) := by decide +kernel
theorem dX2_copyFrom_79 : decode cX2_copyFrom 79 = .ok (.aload_n 1, 1) := by decide +kernel
theorem dX2_copyFrom_80 : decode cX2_copyFrom 80 = .ok (.getfield 17, 3) := by decide +kernel
theorem dX2_copyFrom_83 : decode cX2_copyFrom 83 = .ok (.iload_n 2, 1) := by decide +kernel
theorem dX2_copyFrom_84 : decode cX2_copyFrom 84 = .ok (.aaload, 1) := by decide +kernel
theorem dX2_copyFrom_85 : decode cX2_copyFrom 85 = .ok (.iconst 0, 1) := by decide +kernel
theorem dX2_copyFrom_86 : decode cX2_copyFrom 86 = .ok (.aload_n 0, 1) := by decide +kernel
theorem dX2_copyFrom_87 : decode cX2_copyFrom 87 = .ok (.getfield 17, 3) := by decide +kernel
theorem dX2_copyFrom_90 : decode cX2_copyFrom 90 = .ok (.iload_n 2, 1) := by decide +kernel
theorem dX2_copyFrom_91 : decode cX2_copyFrom 91 = .ok (.aaload, 1) := by decide +kernel
theorem dX2_copyFrom_92 : decode cX2_copyFrom 92 = .ok (.iconst 0, 1) := by decide +kernel
theorem dX2_copyFrom_93 : decode cX2_copyFrom 93 = .ok (.bipush 8, 2) := by decide +kernel
theorem dX2_copyFrom_95 : decode cX2_copyFrom 95 = .ok (.invokestatic 51, 3) := by decide +kernel
theorem dX2_copyFrom_98 : decode cX2_copyFrom 98 = .ok (.iinc 2 1, 3) := by decide +kernel
theorem dX2_copyFrom_101 : decode cX2_copyFrom 101 = .ok (.goto (-28), 3) := by decide +kernel
theorem dX2_copyFrom_104 : decode cX2_copyFrom 104 = .ok (.iconst 0, 1) := by decide +kernel
theorem dX2_copyFrom_105 : decode cX2_copyFrom 105 = .ok (.istore_n 2, 1) := by decide +kernel
theorem dX2_copyFrom_106 : decode cX2_copyFrom 106 = .ok (.iload_n 2, 1) := by decide +kernel
theorem dX2_copyFrom_107 : decode cX2_copyFrom 107 = .ok (.bipush 6, 2) := by decide +kernel
theorem dX2_copyFrom_109 : decode cX2_copyFrom 109 = .ok (.if_icmp .ge 28, 3) := by decide +kernel
theorem dX2_copyFrom_112 : decode cX2_copyFrom 112 = .ok (.aload_n 1, 1) := by decide +kernel
theorem dX2_copyFrom_113 : decode cX2_copyFrom 113 = .ok (.getfield 20, 3) := by decide +kernel
theorem dX2_copyFrom_116 : decode cX2_copyFrom 116 = .ok (.iload_n 2, 1) := by decide +kernel
theorem dX2_copyFrom_117 : decode cX2_copyFrom 117 = .ok (.aaload, 1) := by decide +kernel
theorem dX2_copyFrom_118 : decode cX2_copyFrom 118 = .ok (.iconst 0, 1) := by decide +kernel
theorem dX2_copyFrom_119 : decode cX2_copyFrom 119 = .ok (.aload_n 0, 1) := by decide +kernel
theorem dX2_copyFrom_120 : decode cX2_copyFrom 120 = .ok (.getfield 20, 3) := by decide +kernel
theorem dX2_copyFrom_123 : decode cX2_copyFrom 123 = .ok (.iload_n 2, 1) := by decide +kernel
theorem dX2_copyFrom_124 : decode cX2_copyFrom 124 = .ok (.aaload, 1) := by decide +kernel
theorem dX2_copyFrom_125 : decode cX2_copyFrom 125 = .ok (.iconst 0, 1) := by decide +kernel
theorem dX2_copyFrom_126 : decode cX2_copyFrom 126 = .ok (.bipush 6, 2) := by decide +kernel
theorem dX2_copyFrom_128 : decode cX2_copyFrom 128 = .ok (.invokestatic 51, 3) := by decide +kernel
theorem dX2_copyFrom_131 : decode cX2_copyFrom 131 = .ok (.iinc 2 1, 3) := by decide +kernel
theorem dX2_copyFrom_134 : decode cX2_copyFrom 134 = .ok (.goto (-28), 3) := by decide +kernel
theorem dX2_copyFrom_137 : decode cX2_copyFrom 137 = .ok (.return_, 1) := by decide +kernel
theorem dX2_isThere_0 : decode cX2_isThere 0 = .ok (.aload_n 0, 1) := by decide +kernel
theorem dX2_isThere_1 : decode cX2_isThere 1 = .ok (.getfield 23, 3) := by decide +kernel
theorem dX2_isThere_4 : decode cX2_isThere 4 = .ok (.ifCond .le 7, 3) := by decide +kernel
theorem dX2_isThere_7 : decode cX2_isThere 7 = .ok (.iconst 1, 1) := by decide +kernel
theorem dX2_isThere_8 : decode cX2_isThere 8 = .ok (.goto 4, 3) := by decide +kernel
theorem dX2_isThere_11 : decode cX2_isThere 11 = .ok (.iconst 0, 1) := by decide +kernel
theorem dX2_isThere_12 : decode cX2_isThere 12 = .ok (.ireturn, 1) := by decide +kernel
theorem dX2_hasOfficial_0 : decode cX2_hasOfficial 0 = .ok (.iload_n 1, 1) := by decide +kernel
theorem dX2_hasOfficial_1 : decode cX2_hasOfficial 1 = .ok (.ifCond .lt 21, 3) := by decide +kernel
theorem dX2_hasOfficial_4 : decode cX2_hasOfficial 4 = .ok (.iload_n 1, 1) := by decide +kernel
theorem dX2_hasOfficial_5 : decode cX2_hasOfficial 5 = .ok (.aload_n 0, 1) := by decide +kernel
theorem dX2_hasOfficial_6 : decode cX2_hasOfficial 6 = .ok (.getfield 36, 3) := by decide +kernel
theorem dX2_hasOfficial_9 : decode cX2_hasOfficial 9 = .ok (.if_icmp .ge 13, 3) := by decide +kernel
theorem dX2_hasOfficial_12 : decode cX2_hasOfficial 12 = .ok (.iload_n 1, 1) := by decide +kernel
theorem dX2_hasOfficial_13 : decode cX2_hasOfficial 13 = .ok (.bipush 8, 2) := by decide +kernel
theorem dX2_hasOfficial_15 : decode cX2_hasOfficial 15 = .ok (.if_icmp .ge 7, 3) := by decide +kernel
theorem dX2_hasOfficial_18 : decode cX2_hasOfficial 18 = .ok (.iconst 1, 1) := by decide +kernel
theorem dX2_hasOfficial_19 : decode cX2_hasOfficial 19 = .ok (.goto 4, 3) := by decide +kernel
theorem dX2_hasOfficial_22 : decode cX2_hasOfficial 22 = .ok (.iconst 0, 1) := by decide +kernel
theorem dX2_hasOfficial_23 : decode cX2_hasOfficial 23 = .ok (.ireturn, 1) := by decide +kernel
theorem dX2_hasRoom_0 : decode cX2_hasRoom 0 = .ok (.iload_n 1, 1) := by decide +kernel
theorem dX2_hasRoom_1 : decode cX2_hasRoom 1 = .ok (.ifCond .lt 21, 3) := by decide +kernel
theorem dX2_hasRoom_4 : decode cX2_hasRoom 4 = .ok (.iload_n 1, 1) := by decide +kernel
theorem dX2_hasRoom_5 : decode cX2_hasRoom 5 = .ok (.aload_n 0, 1) := by decide +kernel
theorem dX2_hasRoom_6 : decode cX2_hasRoom 6 = .ok (.getfield 27, 3) := by decide +kernel
theorem dX2_hasRoom_9 : decode cX2_hasRoom 9 = .ok (.if_icmp .ge 13, 3) := by decide +kernel
theorem dX2_hasRoom_12 : decode cX2_hasRoom 12 = .ok (.iload_n 1, 1) := by decide +kernel
theorem dX2_hasRoom_13 : decode cX2_hasRoom 13 = .ok (.bipush 6, 2) := by decide +kernel
theorem dX2_hasRoom_15 : decode cX2_hasRoom 15 = .ok (.if_icmp .ge 7, 3) := by decide +kernel
theorem dX2_hasRoom_18 : decode cX2_hasRoom 18 = .ok (.iconst 1, 1) := by decide +kernel
theorem dX2_hasRoom_19 : decode cX2_hasRoom 19 = .ok (.goto 4, 3) := by decide +kernel
theorem dX2_hasRoom_22 : decode cX2_hasRoom 22 = .ok (.iconst 0, 1) := by decide +kernel
theorem dX2_hasRoom_23 : decode cX2_hasRoom 23 = .ok (.ireturn, 1) := by decide +kernel
theorem dX2_hasSet_0 : decode cX2_hasSet 0 = .ok (.aload_n 0, 1) := by decide +kernel
theorem dX2_hasSet_1 : decode cX2_hasSet 1 = .ok (.invokevirtual 57, 3) := by decide +kernel
theorem dX2_hasSet_4 : decode cX2_hasSet 4 = .ok (.ifCond .eq 21, 3) := by decide +kernel
theorem dX2_hasSet_7 : decode cX2_hasSet 7 = .ok (.iload_n 1, 1) := by decide +kernel
theorem dX2_hasSet_8 : decode cX2_hasSet 8 = .ok (.ifCond .lt 17, 3) := by decide +kernel
theorem dX2_hasSet_11 : decode cX2_hasSet 11 = .ok (.iload_n 1, 1) := by decide +kernel
theorem dX2_hasSet_12 : decode cX2_hasSet 12 = .ok (.iconst 1, 1) := by decide +kernel
theorem dX2_hasSet_13 : decode cX2_hasSet 13 = .ok (.aload_n 0, 1) := by decide +kernel
theorem dX2_hasSet_14 : decode cX2_hasSet 14 = .ok (.getfield 36, 3) := by decide +kernel
theorem dX2_hasSet_17 : decode cX2_hasSet 17 = .ok (.ishl, 1) := by decide +kernel
theorem dX2_hasSet_18 : decode cX2_hasSet 18 = .ok (.if_icmp .ge 7, 3) := by decide +kernel
theorem dX2_hasSet_21 : decode cX2_hasSet 21 = .ok (.iconst 1, 1) := by decide +kernel
theorem dX2_hasSet_22 : decode cX2_hasSet 22 = .ok (.goto 4, 3) := by decide +kernel
theorem dX2_hasSet_25 : decode cX2_hasSet 25 = .ok (.iconst 0, 1) := by decide +kernel
theorem dX2_hasSet_26 : decode cX2_hasSet 26 = .ok (.ireturn, 1) := by decide +kernel
theorem dX2_noteMove_0 : decode cX2_noteMove 0 = .ok (.aload_n 0, 1) := by decide +kernel
theorem dX2_noteMove_1 : decode cX2_noteMove 1 = .ok (.getfield 42, 3) := by decide +kernel
theorem dX2_noteMove_4 : decode cX2_noteMove 4 = .ok (.ifCond .lt 12, 3) := by decide +kernel
theorem dX2_noteMove_7 : decode cX2_noteMove 7 = .ok (.aload_n 0, 1) := by decide +kernel
theorem dX2_noteMove_8 : decode cX2_noteMove 8 = .ok (.getfield 42, 3) := by decide +kernel
theorem dX2_noteMove_11 : decode cX2_noteMove 11 = .ok (.bipush 40, 2) := by decide +kernel
theorem dX2_noteMove_13 : decode cX2_noteMove 13 = .ok (.if_icmp .lt 5, 3) := by decide +kernel
theorem dX2_noteMove_16 : decode cX2_noteMove 16 = .ok (.iconst 0, 1) := by decide +kernel
theorem dX2_noteMove_17 : decode cX2_noteMove 17 = .ok (.ireturn, 1) := by decide +kernel
theorem dX2_noteMove_18 : decode cX2_noteMove 18 = .ok (.aload_n 0, 1) := by decide +kernel
theorem dX2_noteMove_19 : decode cX2_noteMove 19 = .ok (.getfield 9, 3) := by decide +kernel
theorem dX2_noteMove_22 : decode cX2_noteMove 22 = .ok (.aload_n 0, 1) := by decide +kernel
theorem dX2_noteMove_23 : decode cX2_noteMove 23 = .ok (.getfield 42, 3) := by decide +kernel
theorem dX2_noteMove_26 : decode cX2_noteMove 26 = .ok (.iload_n 1, 1) := by decide +kernel
theorem dX2_noteMove_27 : decode cX2_noteMove 27 = .ok (.iastore, 1) := by decide +kernel
theorem dX2_noteMove_28 : decode cX2_noteMove 28 = .ok (.aload_n 0, 1) := by decide +kernel
theorem dX2_noteMove_29 : decode cX2_noteMove 29 = .ok (.dup, 1) := by decide +kernel
theorem dX2_noteMove_30 : decode cX2_noteMove 30 = .ok (.getfield 42, 3) := by decide +kernel
theorem dX2_noteMove_33 : decode cX2_noteMove 33 = .ok (.iconst 1, 1) := by decide +kernel
theorem dX2_noteMove_34 : decode cX2_noteMove 34 = .ok (.iadd, 1) := by decide +kernel
theorem dX2_noteMove_35 : decode cX2_noteMove 35 = .ok (.putfield 42, 3) := by decide +kernel
theorem dX2_noteMove_38 : decode cX2_noteMove 38 = .ok (.iconst 1, 1) := by decide +kernel
theorem dX2_noteMove_39 : decode cX2_noteMove 39 = .ok (.ireturn, 1) := by decide +kernel
theorem dX2_isOpen_0 : decode cX2_isOpen 0 = .ok (.aload_n 0, 1) := by decide +kernel
theorem dX2_isOpen_1 : decode cX2_isOpen 1 = .ok (.iload_n 1, 1) := by decide +kernel
theorem dX2_isOpen_2 : decode cX2_isOpen 2 = .ok (.invokevirtual 61, 3) := by decide +kernel
theorem dX2_isOpen_5 : decode cX2_isOpen 5 = .ok (.ifCond .ne 5, 3) := by decide +kernel
theorem dX2_isOpen_8 : decode cX2_isOpen 8 = .ok (.iconst 0, 1) := by decide +kernel
theorem dX2_isOpen_9 : decode cX2_isOpen 9 = .ok (.ireturn, 1) := by decide +kernel
theorem dX2_isOpen_10 : decode cX2_isOpen 10 = .ok (.iload_n 2, 1) := by decide +kernel
theorem dX2_isOpen_11 : decode cX2_isOpen 11 = .ok (.bipush 10, 2) := by decide +kernel
theorem dX2_isOpen_13 : decode cX2_isOpen 13 = .ok (.idiv, 1) := by decide +kernel
theorem dX2_isOpen_14 : decode cX2_isOpen 14 = .ok (.istore_n 3, 1) := by decide +kernel
theorem dX2_isOpen_15 : decode cX2_isOpen 15 = .ok (.iload_n 3, 1) := by decide +kernel
theorem dX2_isOpen_16 : decode cX2_isOpen 16 = .ok (.aload_n 0, 1) := by decide +kernel
theorem dX2_isOpen_17 : decode cX2_isOpen 17 = .ok (.getfield 17, 3) := by decide +kernel
theorem dX2_isOpen_20 : decode cX2_isOpen 20 = .ok (.bipush 7, 2) := by decide +kernel
theorem dX2_isOpen_22 : decode cX2_isOpen 22 = .ok (.aaload, 1) := by decide +kernel
theorem dX2_isOpen_23 : decode cX2_isOpen 23 = .ok (.iload_n 1, 1) := by decide +kernel
theorem dX2_isOpen_24 : decode cX2_isOpen 24 = .ok (.iaload, 1) := by decide +kernel
theorem dX2_isOpen_25 : decode cX2_isOpen 25 = .ok (.if_icmp .lt 20, 3) := by decide +kernel
theorem dX2_isOpen_28 : decode cX2_isOpen 28 = .ok (.iload_n 3, 1) := by decide +kernel
theorem dX2_isOpen_29 : decode cX2_isOpen 29 = .ok (.aload_n 0, 1) := by decide +kernel
theorem dX2_isOpen_30 : decode cX2_isOpen 30 = .ok (.getfield 17, 3) := by decide +kernel
theorem dX2_isOpen_33 : decode cX2_isOpen 33 = .ok (.bipush 8, 2) := by decide +kernel
theorem dX2_isOpen_35 : decode cX2_isOpen 35 = .ok (.aaload, 1) := by decide +kernel
theorem dX2_isOpen_36 : decode cX2_isOpen 36 = .ok (.iload_n 1, 1) := by decide +kernel
theorem dX2_isOpen_37 : decode cX2_isOpen 37 = .ok (.iaload, 1) := by decide +kernel
theorem dX2_isOpen_38 : decode cX2_isOpen 38 = .ok (.if_icmp .gt 7, 3) := by decide +kernel
theorem dX2_isOpen_41 : decode cX2_isOpen 41 = .ok (.iconst 1, 1) := by decide +kernel
theorem dX2_isOpen_42 : decode cX2_isOpen 42 = .ok (.goto 4, 3) := by decide +kernel
theorem dX2_isOpen_45 : decode cX2_isOpen 45 = .ok (.iconst 0, 1) := by decide +kernel
theorem dX2_isOpen_46 : decode cX2_isOpen 46 = .ok (.istore 4, 2) := by decide +kernel
theorem dX2_isOpen_48 : decode cX2_isOpen 48 = .ok (.iload 4, 2) := by decide +kernel
theorem dX2_isOpen_50 : decode cX2_isOpen 50 = .ok (.ifCond .ne 16, 3) := by decide +kernel
theorem dX2_isOpen_53 : decode cX2_isOpen 53 = .ok (.aload_n 0, 1) := by decide +kernel
theorem dX2_isOpen_54 : decode cX2_isOpen 54 = .ok (.iload_n 1, 1) := by decide +kernel
theorem dX2_isOpen_55 : decode cX2_isOpen 55 = .ok (.iload_n 2, 1) := by decide +kernel
theorem dX2_isOpen_56 : decode cX2_isOpen 56 = .ok (.invokevirtual 65, 3) := by decide +kernel
theorem dX2_isOpen_59 : decode cX2_isOpen 59 = .ok (.ifCond .eq 7, 3) := by decide +kernel
theorem dX2_isOpen_62 : decode cX2_isOpen 62 = .ok (.iconst 1, 1) := by decide +kernel
theorem dX2_isOpen_63 : decode cX2_isOpen 63 = .ok (.goto 4, 3) := by decide +kernel
theorem dX2_isOpen_66 : decode cX2_isOpen 66 = .ok (.iconst 0, 1) := by decide +kernel
theorem dX2_isOpen_67 : decode cX2_isOpen 67 = .ok (.ireturn, 1) := by decide +kernel
theorem dX2_isOffered_0 : decode cX2_isOffered 0 = .ok (.aload_n 0, 1) := by decide +kernel
theorem dX2_isOffered_1 : decode cX2_isOffered 1 = .ok (.iload_n 1, 1) := by decide +kernel
theorem dX2_isOffered_2 : decode cX2_isOffered 2 = .ok (.invokevirtual 61, 3) := by decide +kernel
theorem dX2_isOffered_5 : decode cX2_isOffered 5 = .ok (.ifCond .eq 7, 3) := by decide +kernel
theorem dX2_isOffered_8 : decode cX2_isOffered 8 = .ok (.iload_n 2, 1) := by decide +kernel
theorem dX2_isOffered_9 : decode cX2_isOffered 9 = .ok (.ifCond .ge 5, 3) := by decide +kernel
theorem dX2_isOffered_12 : decode cX2_isOffered 12 = .ok (.iconst 0, 1) := by decide +kernel
theorem dX2_isOffered_13 : decode cX2_isOffered 13 = .ok (.ireturn, 1) := by decide +kernel
theorem dX2_isOffered_14 : decode cX2_isOffered 14 = .ok (.iload_n 2, 1) := by decide +kernel
theorem dX2_isOffered_15 : decode cX2_isOffered 15 = .ok (.bipush 10, 2) := by decide +kernel
theorem dX2_isOffered_17 : decode cX2_isOffered 17 = .ok (.irem, 1) := by decide +kernel
theorem dX2_isOffered_18 : decode cX2_isOffered 18 = .ok (.istore_n 3, 1) := by decide +kernel
theorem dX2_isOffered_19 : decode cX2_isOffered 19 = .ok (.aload_n 0, 1) := by decide +kernel
theorem dX2_isOffered_20 : decode cX2_isOffered 20 = .ok (.getfield 17, 3) := by decide +kernel
theorem dX2_isOffered_23 : decode cX2_isOffered 23 = .ok (.iconst 3, 1) := by decide +kernel
theorem dX2_isOffered_24 : decode cX2_isOffered 24 = .ok (.aaload, 1) := by decide +kernel
theorem dX2_isOffered_25 : decode cX2_isOffered 25 = .ok (.iload_n 1, 1) := by decide +kernel
theorem dX2_isOffered_26 : decode cX2_isOffered 26 = .ok (.iaload, 1) := by decide +kernel
theorem dX2_isOffered_27 : decode cX2_isOffered 27 = .ok (.iload_n 2, 1) := by decide +kernel
theorem dX2_isOffered_28 : decode cX2_isOffered 28 = .ok (.bipush 10, 2) := by decide +kernel
theorem dX2_isOffered_30 : decode cX2_isOffered 30 = .ok (.idiv, 1) := by decide +kernel
theorem dX2_isOffered_31 : decode cX2_isOffered 31 = .ok (.iconst 5, 1) := by decide +kernel
theorem dX2_isOffered_32 : decode cX2_isOffered 32 = .ok (.irem, 1) := by decide +kernel
theorem dX2_isOffered_33 : decode cX2_isOffered 33 = .ok (.invokestatic 69, 3) := by decide +kernel
theorem dX2_isOffered_36 : decode cX2_isOffered 36 = .ok (.ifCond .eq 43, 3) := by decide +kernel
theorem dX2_isOffered_39 : decode cX2_isOffered 39 = .ok (.iload_n 3, 1) := by decide +kernel
theorem dX2_isOffered_40 : decode cX2_isOffered 40 = .ok (.aload_n 0, 1) := by decide +kernel
theorem dX2_isOffered_41 : decode cX2_isOffered 41 = .ok (.getfield 17, 3) := by decide +kernel
theorem dX2_isOffered_44 : decode cX2_isOffered 44 = .ok (.iconst 1, 1) := by decide +kernel
theorem dX2_isOffered_45 : decode cX2_isOffered 45 = .ok (.aaload, 1) := by decide +kernel
theorem dX2_isOffered_46 : decode cX2_isOffered 46 = .ok (.iload_n 1, 1) := by decide +kernel
theorem dX2_isOffered_47 : decode cX2_isOffered 47 = .ok (.iaload, 1) := by decide +kernel
theorem dX2_isOffered_48 : decode cX2_isOffered 48 = .ok (.if_icmp .lt 31, 3) := by decide +kernel
theorem dX2_isOffered_51 : decode cX2_isOffered 51 = .ok (.iload_n 3, 1) := by decide +kernel
theorem dX2_isOffered_52 : decode cX2_isOffered 52 = .ok (.aload_n 0, 1) := by decide +kernel
theorem dX2_isOffered_53 : decode cX2_isOffered 53 = .ok (.getfield 17, 3) := by decide +kernel
theorem dX2_isOffered_56 : decode cX2_isOffered 56 = .ok (.iconst 2, 1) := by decide +kernel
theorem dX2_isOffered_57 : decode cX2_isOffered 57 = .ok (.aaload, 1) := by decide +kernel
theorem dX2_isOffered_58 : decode cX2_isOffered 58 = .ok (.iload_n 1, 1) := by decide +kernel
theorem dX2_isOffered_59 : decode cX2_isOffered 59 = .ok (.iaload, 1) := by decide +kernel
theorem dX2_isOffered_60 : decode cX2_isOffered 60 = .ok (.if_icmp .gt 19, 3) := by decide +kernel
theorem dX2_isOffered_63 : decode cX2_isOffered 63 = .ok (.iload_n 3, 1) := by decide +kernel
theorem dX2_isOffered_64 : decode cX2_isOffered 64 = .ok (.aload_n 0, 1) := by decide +kernel
theorem dX2_isOffered_65 : decode cX2_isOffered 65 = .ok (.getfield 17, 3) := by decide +kernel
theorem dX2_isOffered_68 : decode cX2_isOffered 68 = .ok (.iconst 4, 1) := by decide +kernel
theorem dX2_isOffered_69 : decode cX2_isOffered 69 = .ok (.aaload, 1) := by decide +kernel
theorem dX2_isOffered_70 : decode cX2_isOffered 70 = .ok (.iload_n 1, 1) := by decide +kernel
theorem dX2_isOffered_71 : decode cX2_isOffered 71 = .ok (.iaload, 1) := by decide +kernel
theorem dX2_isOffered_72 : decode cX2_isOffered 72 = .ok (.if_icmp .eq 7, 3) := by decide +kernel
theorem dX2_isOffered_75 : decode cX2_isOffered 75 = .ok (.iconst 1, 1) := by decide +kernel
theorem dX2_isOffered_76 : decode cX2_isOffered 76 = .ok (.goto 4, 3) := by decide +kernel
theorem dX2_isOffered_79 : decode cX2_isOffered 79 = .ok (.iconst 0, 1) := by decide +kernel
theorem dX2_isOffered_80 : decode cX2_isOffered 80 = .ok (.ireturn, 1) := by decide +kernel
theorem dX2_mayStamp_0 : decode cX2_mayStamp 0 = .ok (.aload_n 0, 1) := by decide +kernel
theorem dX2_mayStamp_1 : decode cX2_mayStamp 1 = .ok (.iload_n 1, 1) := by decide +kernel
theorem dX2_mayStamp_2 : decode cX2_mayStamp 2 = .ok (.invokevirtual 61, 3) := by decide +kernel
theorem dX2_mayStamp_5 : decode cX2_mayStamp 5 = .ok (.ifCond .eq 45, 3) := by decide +kernel
theorem dX2_mayStamp_8 : decode cX2_mayStamp 8 = .ok (.iload_n 2, 1) := by decide +kernel
theorem dX2_mayStamp_9 : decode cX2_mayStamp 9 = .ok (.iload_n 1, 1) := by decide +kernel
theorem dX2_mayStamp_10 : decode cX2_mayStamp 10 = .ok (.invokestatic 69, 3) := by decide +kernel
theorem dX2_mayStamp_13 : decode cX2_mayStamp 13 = .ok (.ifCond .ne 37, 3) := by decide +kernel
theorem dX2_mayStamp_16 : decode cX2_mayStamp 16 = .ok (.aload_n 0, 1) := by decide +kernel
theorem dX2_mayStamp_17 : decode cX2_mayStamp 17 = .ok (.getfield 17, 3) := by decide +kernel
theorem dX2_mayStamp_20 : decode cX2_mayStamp 20 = .ok (.bipush 9, 2) := by decide +kernel
theorem dX2_mayStamp_22 : decode cX2_mayStamp 22 = .ok (.aaload, 1) := by decide +kernel
theorem dX2_mayStamp_23 : decode cX2_mayStamp 23 = .ok (.iload_n 1, 1) := by decide +kernel
theorem dX2_mayStamp_24 : decode cX2_mayStamp 24 = .ok (.iaload, 1) := by decide +kernel
theorem dX2_mayStamp_25 : decode cX2_mayStamp 25 = .ok (.iload_n 2, 1) := by decide +kernel
theorem dX2_mayStamp_26 : decode cX2_mayStamp 26 = .ok (.iconst (-1), 1) := by decide +kernel
theorem dX2_mayStamp_27 : decode cX2_mayStamp 27 = .ok (.ixor, 1) := by decide +kernel
theorem dX2_mayStamp_28 : decode cX2_mayStamp 28 = .ok (.iand, 1) := by decide +kernel
theorem dX2_mayStamp_29 : decode cX2_mayStamp 29 = .ok (.ifCond .ne 21, 3) := by decide +kernel
theorem dX2_mayStamp_32 : decode cX2_mayStamp 32 = .ok (.aload_n 0, 1) := by decide +kernel
theorem dX2_mayStamp_33 : decode cX2_mayStamp 33 = .ok (.getfield 17, 3) := by decide +kernel
theorem dX2_mayStamp_36 : decode cX2_mayStamp 36 = .ok (.bipush 10, 2) := by decide +kernel
theorem dX2_mayStamp_38 : decode cX2_mayStamp 38 = .ok (.aaload, 1) := by decide +kernel
theorem dX2_mayStamp_39 : decode cX2_mayStamp 39 = .ok (.iload_n 1, 1) := by decide +kernel
theorem dX2_mayStamp_40 : decode cX2_mayStamp 40 = .ok (.iaload, 1) := by decide +kernel
theorem dX2_mayStamp_41 : decode cX2_mayStamp 41 = .ok (.iload_n 2, 1) := by decide +kernel
theorem dX2_mayStamp_42 : decode cX2_mayStamp 42 = .ok (.iand, 1) := by decide +kernel
theorem dX2_mayStamp_43 : decode cX2_mayStamp 43 = .ok (.ifCond .ne 7, 3) := by decide +kernel
theorem dX2_mayStamp_46 : decode cX2_mayStamp 46 = .ok (.iconst 1, 1) := by decide +kernel
theorem dX2_mayStamp_47 : decode cX2_mayStamp 47 = .ok (.goto 4, 3) := by decide +kernel
theorem dX2_mayStamp_50 : decode cX2_mayStamp 50 = .ok (.iconst 0, 1) := by decide +kernel
theorem dX2_mayStamp_51 : decode cX2_mayStamp 51 = .ok (.ireturn, 1) := by decide +kernel
theorem dX2_countAsked_0 : decode cX2_countAsked 0 = .ok (.iconst 0, 1) := by decide +kernel
theorem dX2_countAsked_1 : decode cX2_countAsked 1 = .ok (.istore_n 2, 1) := by decide +kernel
theorem dX2_countAsked_2 : decode cX2_countAsked 2 = .ok (.iconst 0, 1) := by decide +kernel
theorem dX2_countAsked_3 : decode cX2_countAsked 3 = .ok (.istore_n 3, 1) := by decide +kernel
theorem dX2_countAsked_4 : decode cX2_countAsked 4 = .ok (.iload_n 3, 1) := by decide +kernel
theorem dX2_countAsked_5 : decode cX2_countAsked 5 = .ok (.aload_n 0, 1) := by decide +kernel
theorem dX2_countAsked_6 : decode cX2_countAsked 6 = .ok (.getfield 36, 3) := by decide +kernel
theorem dX2_countAsked_9 : decode cX2_countAsked 9 = .ok (.if_icmp .ge 23, 3) := by decide +kernel
theorem dX2_countAsked_12 : decode cX2_countAsked 12 = .ok (.iload_n 2, 1) := by decide +kernel
theorem dX2_countAsked_13 : decode cX2_countAsked 13 = .ok (.aload_n 0, 1) := by decide +kernel
theorem dX2_countAsked_14 : decode cX2_countAsked 14 = .ok (.getfield 17, 3) := by decide +kernel
theorem dX2_countAsked_17 : decode cX2_countAsked 17 = .ok (.iload_n 1, 1) := by decide +kernel
theorem dX2_countAsked_18 : decode cX2_countAsked 18 = .ok (.aaload, 1) := by decide +kernel
theorem dX2_countAsked_19 : decode cX2_countAsked 19 = .ok (.iload_n 3, 1) := by decide +kernel
theorem dX2_countAsked_20 : decode cX2_countAsked 20 = .ok (.iaload, 1) := by decide +kernel
theorem dX2_countAsked_21 : decode cX2_countAsked 21 = .ok (.invokestatic 72, 3) := by decide +kernel
theorem dX2_countAsked_24 : decode cX2_countAsked 24 = .ok (.iadd, 1) := by decide +kernel
theorem dX2_countAsked_25 : decode cX2_countAsked 25 = .ok (.istore_n 2, 1) := by decide +kernel
theorem dX2_countAsked_26 : decode cX2_countAsked 26 = .ok (.iinc 3 1, 3) := by decide +kernel
theorem dX2_countAsked_29 : decode cX2_countAsked 29 = .ok (.goto (-25), 3) := by decide +kernel
theorem dX2_countAsked_32 : decode cX2_countAsked 32 = .ok (.iload_n 2, 1) := by decide +kernel
theorem dX2_countAsked_33 : decode cX2_countAsked 33 = .ok (.ireturn, 1) := by decide +kernel
theorem dX3_init_0 : decode cX3_init 0 = .ok (.aload_n 0, 1) := by decide +kernel
theorem dX3_init_1 : decode cX3_init 1 = .ok (.invokespecial 3, 3) := by decide +kernel
theorem dX3_init_4 : decode cX3_init 4 = .ok (.aload_n 0, 1) := by decide +kernel
theorem dX3_init_5 : decode cX3_init 5 = .ok (.sipush 400, 3) := by decide +kernel
theorem dX3_init_8 : decode cX3_init 8 = .ok (.newarray .int, 2) := by decide +kernel
theorem dX3_init_10 : decode cX3_init 10 = .ok (.putfield 9, 3) := by decide +kernel
theorem dX3_init_13 : decode cX3_init 13 = .ok (.aload_n 0, 1) := by decide +kernel
theorem dX3_init_14 : decode cX3_init 14 = .ok (.bipush 9, 2) := by decide +kernel
theorem dX3_init_16 : decode cX3_init 16 = .ok (.newarray .int, 2) := by decide +kernel
theorem dX3_init_18 : decode cX3_init 18 = .ok (.putfield 15, 3) := by decide +kernel
theorem dX3_init_21 : decode cX3_init 21 = .ok (.aload_n 0, 1) := by decide +kernel
theorem dX3_init_22 : decode cX3_init 22 = .ok (.bipush 8, 2) := by decide +kernel
theorem dX3_init_24 : decode cX3_init 24 = .ok (.newarray .int, 2) := by decide +kernel
theorem dX3_init_26 : decode cX3_init 26 = .ok (.putfield 18, 3) := by decide +kernel
theorem dX3_init_29 : decode cX3_init 29 = .ok (.aload_n 0, 1) := by decide +kernel
theorem dX3_init_30 : decode cX3_init 30 = .ok (.aload_n 1, 1) := by decide +kernel
theorem dX3_init_31 : decode cX3_init 31 = .ok (.putfield 21, 3) := by decide +kernel
theorem dX3_init_34 : decode cX3_init 34 = .ok (.return_, 1) := by decide +kernel
theorem dX3_serve_0 : decode cX3_serve 0 = .ok (.aload_n 0, 1) := by decide +kernel
theorem dX3_serve_1 : decode cX3_serve 1 = .ok (.getfield 9, 3) := by decide +kernel
theorem dX3_serve_4 : decode cX3_serve 4 = .ok (.iconst 0, 1) := by decide +kernel
theorem dX3_serve_5 : decode cX3_serve 5 = .ok (.invokestatic 25, 3) := by decide +kernel
theorem dX3_serve_8 : decode cX3_serve 8 = .ok (.aload_n 0, 1) := by decide +kernel
theorem dX3_serve_9 : decode cX3_serve 9 = .ok (.getfield 18, 3) := by decide +kernel
theorem dX3_serve_12 : decode cX3_serve 12 = .ok (.iconst 0, 1) := by decide +kernel
theorem dX3_serve_13 : decode cX3_serve 13 = .ok (.invokestatic 25, 3) := by decide +kernel
theorem dX3_serve_16 : decode cX3_serve 16 = .ok (.aload_n 0, 1) := by decide +kernel
theorem dX3_serve_17 : decode cX3_serve 17 = .ok (.getfield 15, 3) := by decide +kernel
theorem dX3_serve_20 : decode cX3_serve 20 = .ok (.iconst (-1), 1) := by decide +kernel
theorem dX3_serve_21 : decode cX3_serve 21 = .ok (.invokestatic 25, 3) := by decide +kernel
theorem dX3_serve_24 : decode cX3_serve 24 = .ok (.aload_n 0, 1) := by decide +kernel
theorem dX3_serve_25 : decode cX3_serve 25 = .ok (.iconst 0, 1) := by decide +kernel
theorem dX3_serve_26 : decode cX3_serve 26 = .ok (.putfield 31, 3) := by decide +kernel
theorem dX3_serve_29 : decode cX3_serve 29 = .ok (.iconst 0, 1) := by decide +kernel
theorem dX3_serve_30 : decode cX3_serve 30 = .ok (.istore 4, 2) := by decide +kernel
theorem dX3_serve_32 : decode cX3_serve 32 = .ok (.iload 4, 2) := by decide +kernel
theorem dX3_serve_34 : decode cX3_serve 34 = .ok (.iload_n 3, 1) := by decide +kernel
theorem dX3_serve_35 : decode cX3_serve 35 = .ok (.if_icmp .ge 29, 3) := by decide +kernel
theorem dX3_serve_38 : decode cX3_serve 38 = .ok (.iload 4, 2) := by decide +kernel
theorem dX3_serve_40 : decode cX3_serve 40 = .ok (.bipush 9, 2) := by decide +kernel
theorem dX3_serve_42 : decode cX3_serve 42 = .ok (.if_icmp .ge 22, 3) := by decide +kernel
theorem dX3_serve_45 : decode cX3_serve 45 = .ok (.aload_n 0, 1) := by decide +kernel
theorem dX3_serve_46 : decode cX3_serve 46 = .ok (.getfield 15, 3) := by decide +kernel
theorem dX3_serve_49 : decode cX3_serve 49 = .ok (.iload 4, 2) := by decide +kernel
theorem dX3_serve_51 : decode cX3_serve 51 = .ok (.aload_n 0, 1) := by decide +kernel
theorem dX3_serve_52 : decode cX3_serve 52 = .ok (.aload_n 1, 1) := by decide +kernel
theorem dX3_serve_53 : decode cX3_serve 53 = .ok (.iload_n 2, 1) := by decide +kernel
theorem dX3_serve_54 : decode cX3_serve 54 = .ok (.invokevirtual 35, 3) := by decide +kernel
theorem dX3_serve_57 : decode cX3_serve 57 = .ok (.iastore, 1) := by decide +kernel
theorem dX3_serve_58 : decode cX3_serve 58 = .ok (.iinc 4 1, 3) := by decide +kernel
theorem dX3_serve_61 : decode cX3_serve 61 = .ok (.goto (-29), 3) := by decide +kernel
theorem dX3_serve_64 : decode cX3_serve 64 = .ok (.return_, 1) := by decide +kernel
theorem dX3_goBy_0 : decode cX3_goBy 0 = .ok (.aload_n 0, 1) := by decide +kernel
theorem dX3_goBy_1 : decode cX3_goBy 1 = .ok (.getfield 21, 3) := by decide +kernel
theorem dX3_goBy_4 : decode cX3_goBy 4 = .ok (.aload_n 0, 1) := by decide +kernel
theorem dX3_goBy_5 : decode cX3_goBy 5 = .ok (.getfield 21, 3) := by decide +kernel
theorem dX3_goBy_8 : decode cX3_goBy 8 = .ok (.getfield 39, 3) := by decide +kernel
theorem dX3_goBy_11 : decode cX3_goBy 11 = .ok (.getfield 45, 3) := by decide +kernel
theorem dX3_goBy_14 : decode cX3_goBy 14 = .ok (.invokevirtual 50, 3) := by decide +kernel
theorem dX3_goBy_17 : decode cX3_goBy 17 = .ok (.iconst 0, 1) := by decide +kernel
theorem dX3_goBy_18 : decode cX3_goBy 18 = .ok (.istore_n 3, 1) := by decide +kernel
theorem dX3_goBy_19 : decode cX3_goBy 19 = .ok (.iload_n 3, 1) := by decide +kernel
theorem dX3_goBy_20 : decode cX3_goBy 20 = .ok (.aload_n 1, 1) := by decide +kernel
theorem dX3_goBy_21 : decode cX3_goBy 21 = .ok (.iload_n 2, 1) := by decide +kernel
theorem dX3_goBy_22 : decode cX3_goBy 22 = .ok (.invokevirtual 54, 3) := by decide +kernel
theorem dX3_goBy_25 : decode cX3_goBy 25 = .ok (.if_icmp .ge 24, 3) := by decide +kernel
theorem dX3_goBy_28 : decode cX3_goBy 28 = .ok (.aload_n 0, 1) := by decide +kernel
theorem dX3_goBy_29 : decode cX3_goBy 29 = .ok (.aload_n 1, 1) := by decide +kernel
theorem dX3_goBy_30 : decode cX3_goBy 30 = .ok (.iload_n 2, 1) := by decide +kernel
theorem dX3_goBy_31 : decode cX3_goBy 31 = .ok (.iload_n 3, 1) := by decide +kernel
theorem dX3_goBy_32 : decode cX3_goBy 32 = .ok (.invokevirtual 60, 3) := by decide +kernel
theorem dX3_goBy_35 : decode cX3_goBy 35 = .ok (.invokevirtual 64, 3) := by decide +kernel
theorem dX3_goBy_38 : decode cX3_goBy 38 = .ok (.ifCond .ne 5, 3) := by decide +kernel
theorem dX3_goBy_41 : decode cX3_goBy 41 = .ok (.iconst (-1), 1) := by decide +kernel
theorem dX3_goBy_42 : decode cX3_goBy 42 = .ok (.ireturn, 1) := by decide +kernel
theorem dX3_goBy_43 : decode cX3_goBy 43 = .ok (.iinc 3 1, 3) := by decide +kernel
theorem dX3_goBy_46 : decode cX3_goBy 46 = .ok (.goto (-27), 3) := by decide +kernel
theorem dX3_goBy_49 : decode cX3_goBy 49 = .ok (.aload_n 0, 1) := by decide +kernel
theorem dX3_goBy_50 : decode cX3_goBy 50 = .ok (.getfield 21, 3) := by decide +kernel
theorem dX3_goBy_53 : decode cX3_goBy 53 = .ok (.getfield 68, 3) := by decide +kernel
theorem dX3_goBy_56 : decode cX3_goBy 56 = .ok (.ireturn, 1) := by decide +kernel
theorem dX3_goTo_0 : decode cX3_goTo 0 = .ok (.aload_n 0, 1) := by decide +kernel
theorem dX3_goTo_1 : decode cX3_goTo 1 = .ok (.getfield 21, 3) := by decide +kernel
theorem dX3_goTo_4 : decode cX3_goTo 4 = .ok (.iload_n 1, 1) := by decide +kernel
theorem dX3_goTo_5 : decode cX3_goTo 5 = .ok (.invokevirtual 71, 3) := by decide +kernel
theorem dX3_goTo_8 : decode cX3_goTo 8 = .ok (.istore_n 2, 1) := by decide +kernel
theorem dX3_goTo_9 : decode cX3_goTo 9 = .ok (.iload_n 2, 1) := by decide +kernel
theorem dX3_goTo_10 : decode cX3_goTo 10 = .ok (.iconst (-1), 1) := by decide +kernel
theorem dX3_goTo_11 : decode cX3_goTo 11 = .ok (.if_icmp .eq 14, 3) := by decide +kernel
theorem dX3_goTo_14 : decode cX3_goTo 14 = .ok (.aload_n 0, 1) := by decide +kernel
theorem dX3_goTo_15 : decode cX3_goTo 15 = .ok (.getfield 21, 3) := by decide +kernel
theorem dX3_goTo_18 : decode cX3_goTo 18 = .ok (.iload_n 1, 1) := by decide +kernel
theorem dX3_goTo_19 : decode cX3_goTo 19 = .ok (.invokevirtual 74, 3) := by decide +kernel
theorem dX3_goTo_22 : decode cX3_goTo 22 = .ok (.ifCond .eq 5, 3) := by decide +kernel
theorem dX3_goTo_25 : decode cX3_goTo 25 = .ok (.iconst 0, 1) := by decide +kernel
theorem dX3_goTo_26 : decode cX3_goTo 26 = .ok (.ireturn, 1) := by decide +kernel
theorem dX3_goTo_27 : decode cX3_goTo 27 = .ok (.aload_n 0, 1) := by decide +kernel
theorem dX3_goTo_28 : decode cX3_goTo 28 = .ok (.iload_n 1, 1) := by decide +kernel
theorem dX3_goTo_29 : decode cX3_goTo 29 = .ok (.aload_n 0, 1) := by decide +kernel
theorem dX3_goTo_30 : decode cX3_goTo 30 = .ok (.getfield 21, 3) := by decide +kernel
theorem dX3_goTo_33 : decode cX3_goTo 33 = .ok (.iload_n 1, 1) := by decide +kernel
theorem dX3_goTo_34 : decode cX3_goTo 34 = .ok (.iload_n 2, 1) := by decide +kernel
theorem dX3_goTo_35 : decode cX3_goTo 35 = .ok (.invokevirtual 77, 3) := by decide +kernel
theorem dX3_goTo_38 : decode cX3_goTo 38 = .ok (.invokevirtual 80, 3) := by decide +kernel
theorem dX3_goTo_41 : decode cX3_goTo 41 = .ok (.istore_n 3, 1) := by decide +kernel
theorem dX3_goTo_42 : decode cX3_goTo 42 = .ok (.iload_n 3, 1) := by decide +kernel
theorem dX3_goTo_43 : decode cX3_goTo 43 = .ok (.iconst (-1), 1) := by decide +kernel
theorem dX3_goTo_44 : decode cX3_goTo 44 = .ok (.if_icmp .eq 15, 3) := by decide +kernel
theorem dX3_goTo_47 : decode cX3_goTo 47 = .ok (.iload_n 3, 1) := by decide +kernel
theorem dX3_goTo_48 : decode cX3_goTo 48 = .ok (.aload_n 0, 1) := by decide +kernel
theorem dX3_goTo_49 : decode cX3_goTo 49 = .ok (.getfield 21, 3) := by decide +kernel
theorem dX3_goTo_52 : decode cX3_goTo 52 = .ok (.iload_n 1, 1) := by decide +kernel
theorem dX3_goTo_53 : decode cX3_goTo 53 = .ok (.invokevirtual 83, 3) := by decide +kernel
theorem dX3_goTo_56 : decode cX3_goTo 56 = .ok (.if_icmp .le 5, 3) := by decide +kernel
theorem dX3_goTo_59 : decode cX3_goTo 59 = .ok (.iconst 0, 1) := by decide +kernel
theorem dX3_goTo_60 : decode cX3_goTo 60 = .ok (.ireturn, 1) := by decide +kernel
theorem dX3_goTo_61 : decode cX3_goTo 61 = .ok (.aload_n 0, 1) := by decide +kernel
theorem dX3_goTo_62 : decode cX3_goTo 62 = .ok (.getfield 18, 3) := by decide +kernel
theorem dX3_goTo_65 : decode cX3_goTo 65 = .ok (.iload_n 1, 1) := by decide +kernel
theorem dX3_goTo_66 : decode cX3_goTo 66 = .ok (.dup2, 1) := by decide +kernel
theorem dX3_goTo_67 : decode cX3_goTo 67 = .ok (.iaload, 1) := by decide +kernel
theorem dX3_goTo_68 : decode cX3_goTo 68 = .ok (.iload_n 3, 1) := by decide +kernel
theorem dX3_goTo_69 : decode cX3_goTo 69 = .ok (.iload_n 2, 1) := by decide +kernel
theorem dX3_goTo_70 : decode cX3_goTo 70 = .ok (.isub, 1) := by decide +kernel
theorem dX3_goTo_71 : decode cX3_goTo 71 = .ok (.iadd, 1) := by decide +kernel
theorem dX3_goTo_72 : decode cX3_goTo 72 = .ok (.iastore, 1) := by decide +kernel
theorem dX3_goTo_73 : decode cX3_goTo 73 = .ok (.aload_n 0, 1) := by decide +kernel
theorem dX3_goTo_74 : decode cX3_goTo 74 = .ok (.dup, 1) := by decide +kernel
theorem dX3_goTo_75 : decode cX3_goTo 75 = .ok (.getfield 31, 3) := by decide +kernel
theorem dX3_goTo_78 : decode cX3_goTo 78 = .ok (.iconst 1, 1) := by decide +kernel
theorem dX3_goTo_79 : decode cX3_goTo 79 = .ok (.iload_n 1, 1) := by decide +kernel
theorem dX3_goTo_80 : decode cX3_goTo 80 = .ok (.ishl, 1) := by decide +kernel
theorem dX3_goTo_81 : decode cX3_goTo 81 = .ok (.ior, 1) := by decide +kernel
theorem dX3_goTo_82 : decode cX3_goTo 82 = .ok (.putfield 31, 3) := by decide +kernel
theorem dX3_goTo_85 : decode cX3_goTo 85 = .ok (.aload_n 0, 1) := by decide +kernel
theorem dX3_goTo_86 : decode cX3_goTo 86 = .ok (.getfield 9, 3) := by decide +kernel
theorem dX3_goTo_89 : decode cX3_goTo 89 = .ok (.iload_n 3, 1) := by decide +kernel
theorem dX3_goTo_90 : decode cX3_goTo 90 = .ok (.dup2, 1) := by decide +kernel
theorem dX3_goTo_91 : decode cX3_goTo 91 = .ok (.iaload, 1) := by decide +kernel
theorem dX3_goTo_92 : decode cX3_goTo 92 = .ok (.iconst 1, 1) := by decide +kernel
theorem dX3_goTo_93 : decode cX3_goTo 93 = .ok (.iload_n 1, 1) := by decide +kernel
theorem dX3_goTo_94 : decode cX3_goTo 94 = .ok (.ishl, 1) := by decide +kernel
theorem dX3_goTo_95 : decode cX3_goTo 95 = .ok (.ior, 1) := by decide +kernel
theorem dX3_goTo_96 : decode cX3_goTo 96 = .ok (.iastore, 1) := by decide +kernel
theorem dX3_goTo_97 : decode cX3_goTo 97 = .ok (.aload_n 0, 1) := by decide +kernel
theorem dX3_goTo_98 : decode cX3_goTo 98 = .ok (.getfield 21, 3) := by decide +kernel
theorem dX3_goTo_101 : decode cX3_goTo 101 = .ok (.iload_n 1, 1) := by decide +kernel
theorem dX3_goTo_102 : decode cX3_goTo 102 = .ok (.iload_n 3, 1) := by decide +kernel
theorem dX3_goTo_103 : decode cX3_goTo 103 = .ok (.invokevirtual 86, 3) := by decide +kernel
theorem dX3_goTo_106 : decode cX3_goTo 106 = .ok (.iconst 1, 1) := by decide +kernel
theorem dX3_goTo_107 : decode cX3_goTo 107 = .ok (.ireturn, 1) := by decide +kernel
theorem dX3_firstFree_0 : decode cX3_firstFree 0 = .ok (.aload_n 0, 1) := by decide +kernel
theorem dX3_firstFree_1 : decode cX3_firstFree 1 = .ok (.getfield 21, 3) := by decide +kernel
theorem dX3_firstFree_4 : decode cX3_firstFree 4 = .ok (.getfield 90, 3) := by decide +kernel
theorem dX3_firstFree_7 : decode cX3_firstFree 7 = .ok (.iload_n 1, 1) := by decide +kernel
theorem dX3_firstFree_8 : decode cX3_firstFree 8 = .ok (.iload_n 2, 1) := by decide +kernel
theorem dX3_firstFree_9 : decode cX3_firstFree 9 = .ok (.invokevirtual 94, 3) := by decide +kernel
theorem dX3_firstFree_12 : decode cX3_firstFree 12 = .ok (.istore_n 3, 1) := by decide +kernel
theorem dX3_firstFree_13 : decode cX3_firstFree 13 = .ok (.iconst 0, 1) := by decide +kernel
theorem dX3_firstFree_14 : decode cX3_firstFree 14 = .ok (.istore 4, 2) := by decide +kernel
theorem dX3_firstFree_16 : decode cX3_firstFree 16 = .ok (.iload 4, 2) := by decide +kernel
theorem dX3_firstFree_18 : decode cX3_firstFree 18 = .ok (.sipush 400, 3) := by decide +kernel
theorem dX3_firstFree_21 : decode cX3_firstFree 21 = .ok (.if_icmp .ge 44, 3) := by decide +kernel
theorem dX3_firstFree_24 : decode cX3_firstFree 24 = .ok (.iload_n 3, 1) := by decide +kernel
theorem dX3_firstFree_25 : decode cX3_firstFree 25 = .ok (.invokestatic 99, 3) := by decide +kernel
theorem dX3_firstFree_28 : decode cX3_firstFree 28 = .ok (.ifCond .eq 37, 3) := by decide +kernel
theorem dX3_firstFree_31 : decode cX3_firstFree 31 = .ok (.aload_n 0, 1) := by decide +kernel
theorem dX3_firstFree_32 : decode cX3_firstFree 32 = .ok (.getfield 9, 3) := by decide +kernel
theorem dX3_firstFree_35 : decode cX3_firstFree 35 = .ok (.iload_n 3, 1) := by decide +kernel
theorem dX3_firstFree_36 : decode cX3_firstFree 36 = .ok (.iaload, 1) := by decide +kernel
theorem dX3_firstFree_37 : decode cX3_firstFree 37 = .ok (.iload_n 1, 1) := by decide +kernel
theorem dX3_firstFree_38 : decode cX3_firstFree 38 = .ok (.invokestatic 102, 3) := by decide +kernel
theorem dX3_firstFree_41 : decode cX3_firstFree 41 = .ok (.ifCond .eq 24, 3) := by decide +kernel
theorem dX3_firstFree_44 : decode cX3_firstFree 44 = .ok (.aload_n 0, 1) := by decide +kernel
theorem dX3_firstFree_45 : decode cX3_firstFree 45 = .ok (.getfield 21, 3) := by decide +kernel
theorem dX3_firstFree_48 : decode cX3_firstFree 48 = .ok (.getfield 90, 3) := by decide +kernel
theorem dX3_firstFree_51 : decode cX3_firstFree 51 = .ok (.iload_n 1, 1) := by decide +kernel
theorem dX3_firstFree_52 : decode cX3_firstFree 52 = .ok (.iload_n 3, 1) := by decide +kernel
theorem dX3_firstFree_53 : decode cX3_firstFree 53 = .ok (.iconst 1, 1) := by decide +kernel
theorem dX3_firstFree_54 : decode cX3_firstFree 54 = .ok (.iadd, 1) := by decide +kernel
theorem dX3_firstFree_55 : decode cX3_firstFree 55 = .ok (.invokevirtual 94, 3) := by decide +kernel
theorem dX3_firstFree_58 : decode cX3_firstFree 58 = .ok (.istore_n 3, 1) := by decide +kernel
theorem dX3_firstFree_59 : decode cX3_firstFree 59 = .ok (.iinc 4 1, 3) := by decide +kernel
theorem dX3_firstFree_62 : decode cX3_firstFree 62 = .ok (.goto (-46), 3) := by decide +kernel
theorem dX3_firstFree_65 : decode cX3_firstFree 65 = .ok (.iload_n 3, 1) := by decide +kernel
theorem dX3_firstFree_66 : decode cX3_firstFree 66 = .ok (.ireturn, 1) := by decide +kernel
theorem dX3_lastThrough_0 : decode cX3_lastThrough 0 = .ok (.iconst 0, 1) := by decide +kernel
theorem dX3_lastThrough_1 : decode cX3_lastThrough 1 = .ok (.istore_n 2, 1) := by decide +kernel
theorem dX3_lastThrough_2 : decode cX3_lastThrough 2 = .ok (.iconst 0, 1) := by decide +kernel
theorem dX3_lastThrough_3 : decode cX3_lastThrough 3 = .ok (.istore_n 3, 1) := by decide +kernel
theorem dX3_lastThrough_4 : decode cX3_lastThrough 4 = .ok (.iload_n 3, 1) := by decide +kernel
theorem dX3_lastThrough_5 : decode cX3_lastThrough 5 = .ok (.iload_n 1, 1) := by decide +kernel
theorem dX3_lastThrough_6 : decode cX3_lastThrough 6 = .ok (.if_icmp .ge 38, 3) := by decide +kernel
theorem dX3_lastThrough_9 : decode cX3_lastThrough 9 = .ok (.iload_n 3, 1) := by decide +kernel
theorem dX3_lastThrough_10 : decode cX3_lastThrough 10 = .ok (.bipush 9, 2) := by decide +kernel
theorem dX3_lastThrough_12 : decode cX3_lastThrough 12 = .ok (.if_icmp .ge 32, 3) := by decide +kernel
theorem dX3_lastThrough_15 : decode cX3_lastThrough 15 = .ok (.aload_n 0, 1) := by decide +kernel
theorem dX3_lastThrough_16 : decode cX3_lastThrough 16 = .ok (.getfield 15, 3) := by decide +kernel
theorem dX3_lastThrough_19 : decode cX3_lastThrough 19 = .ok (.iload_n 3, 1) := by decide +kernel
theorem dX3_lastThrough_20 : decode cX3_lastThrough 20 = .ok (.iaload, 1) := by decide +kernel
theorem dX3_lastThrough_21 : decode cX3_lastThrough 21 = .ok (.iconst (-1), 1) := by decide +kernel
theorem dX3_lastThrough_22 : decode cX3_lastThrough 22 = .ok (.if_icmp .ne 5, 3) := by decide +kernel
theorem dX3_lastThrough_25 : decode cX3_lastThrough 25 = .ok (.iconst (-1), 1) := by decide +kernel
theorem dX3_lastThrough_26 : decode cX3_lastThrough 26 = .ok (.ireturn, 1) := by decide +kernel
theorem dX3_lastThrough_27 : decode cX3_lastThrough 27 = .ok (.iload_n 2, 1) := by decide +kernel
theorem dX3_lastThrough_28 : decode cX3_lastThrough 28 = .ok (.aload_n 0, 1) := by decide +kernel
theorem dX3_lastThrough_29 : decode cX3_lastThrough 29 = .ok (.getfield 15, 3) := by decide +kernel
theorem dX3_lastThrough_32 : decode cX3_lastThrough 32 = .ok (.iload_n 3, 1) := by decide +kernel
theorem dX3_lastThrough_33 : decode cX3_lastThrough 33 = .ok (.iaload, 1) := by decide +kernel
theorem dX3_lastThrough_34 : decode cX3_lastThrough 34 = .ok (.invokestatic 106, 3) := by decide +kernel
theorem dX3_lastThrough_37 : decode cX3_lastThrough 37 = .ok (.istore_n 2, 1) := by decide +kernel
theorem dX3_lastThrough_38 : decode cX3_lastThrough 38 = .ok (.iinc 3 1, 3) := by decide +kernel
theorem dX3_lastThrough_41 : decode cX3_lastThrough 41 = .ok (.goto (-37), 3) := by decide +kernel
theorem dX3_lastThrough_44 : decode cX3_lastThrough 44 = .ok (.iload_n 2, 1) := by decide +kernel
theorem dX3_lastThrough_45 : decode cX3_lastThrough 45 = .ok (.ireturn, 1) := by decide +kernel
theorem dX3_throughBy_0 : decode cX3_throughBy 0 = .ok (.iconst 0, 1) := by decide +kernel
theorem dX3_throughBy_1 : decode cX3_throughBy 1 = .ok (.istore_n 2, 1) := by decide +kernel
theorem dX3_throughBy_2 : decode cX3_throughBy 2 = .ok (.iconst 0, 1) := by decide +kernel
theorem dX3_throughBy_3 : decode cX3_throughBy 3 = .ok (.istore_n 3, 1) := by decide +kernel
theorem dX3_throughBy_4 : decode cX3_throughBy 4 = .ok (.iload_n 3, 1) := by decide +kernel
theorem dX3_throughBy_5 : decode cX3_throughBy 5 = .ok (.bipush 9, 2) := by decide +kernel
theorem dX3_throughBy_7 : decode cX3_throughBy 7 = .ok (.if_icmp .ge 32, 3) := by decide +kernel
theorem dX3_throughBy_10 : decode cX3_throughBy 10 = .ok (.aload_n 0, 1) := by decide +kernel
theorem dX3_throughBy_11 : decode cX3_throughBy 11 = .ok (.getfield 15, 3) := by decide +kernel
theorem dX3_throughBy_14 : decode cX3_throughBy 14 = .ok (.iload_n 3, 1) := by decide +kernel
theorem dX3_throughBy_15 : decode cX3_throughBy 15 = .ok (.iaload, 1) := by decide +kernel
theorem dX3_throughBy_16 : decode cX3_throughBy 16 = .ok (.iconst (-1), 1) := by decide +kernel
theorem dX3_throughBy_17 : decode cX3_throughBy 17 = .ok (.if_icmp .eq 16, 3) := by decide +kernel
theorem dX3_throughBy_20 : decode cX3_throughBy 20 = .ok (.aload_n 0, 1) := by decide +kernel
theorem dX3_throughBy_21 : decode cX3_throughBy 21 = .ok (.getfield 15, 3) := by decide +kernel
theorem dX3_throughBy_24 : decode cX3_throughBy 24 = .ok (.iload_n 3, 1) := by decide +kernel
theorem dX3_throughBy_25 : decode cX3_throughBy 25 = .ok (.iaload, 1) := by decide +kernel
theorem dX3_throughBy_26 : decode cX3_throughBy 26 = .ok (.iload_n 1, 1) := by decide +kernel
theorem dX3_throughBy_27 : decode cX3_throughBy 27 = .ok (.if_icmp .gt 6, 3) := by decide +kernel
theorem dX3_throughBy_30 : decode cX3_throughBy 30 = .ok (.iinc 2 1, 3) := by decide +kernel
theorem dX3_throughBy_33 : decode cX3_throughBy 33 = .ok (.iinc 3 1, 3) := by decide +kernel
theorem dX3_throughBy_36 : decode cX3_throughBy 36 = .ok (.goto (-32), 3) := by decide +kernel
theorem dX3_throughBy_39 : decode cX3_throughBy 39 = .ok (.iload_n 2, 1) := by decide +kernel
theorem dX3_throughBy_40 : decode cX3_throughBy 40 = .ok (.ireturn, 1) := by decide +kernel
theorem dX3_longestWaitedAt_0 : decode cX3_longestWaitedAt 0 = .ok (.iconst (-1), 1) := by decide +kernel
theorem dX3_longestWaitedAt_1 : decode cX3_longestWaitedAt 1 = .ok (.istore_n 1, 1) := by decide +kernel
theorem dX3_longestWaitedAt_2 : decode cX3_longestWaitedAt 2 = .ok (.iconst 0, 1) := by decide +kernel
theorem dX3_longestWaitedAt_3 : decode cX3_longestWaitedAt 3 = .ok (.istore_n 2, 1) := by decide +kernel
theorem dX3_longestWaitedAt_4 : decode cX3_longestWaitedAt 4 = .ok (.iload_n 2, 1) := by decide +kernel
theorem dX3_longestWaitedAt_5 : decode cX3_longestWaitedAt 5 = .ok (.bipush 8, 2) := by decide +kernel
theorem dX3_longestWaitedAt_7 : decode cX3_longestWaitedAt 7 = .ok (.if_icmp .ge 42, 3) := by decide +kernel
theorem dX3_longestWaitedAt_10 : decode cX3_longestWaitedAt 10 = .ok (.aload_n 0, 1) := by decide +kernel
theorem dX3_longestWaitedAt_11 : decode cX3_longestWaitedAt 11 = .ok (.getfield 31, 3) := by decide +kernel
theorem dX3_longestWaitedAt_14 : decode cX3_longestWaitedAt 14 = .ok (.iload_n 2, 1) := by decide +kernel
theorem dX3_longestWaitedAt_15 : decode cX3_longestWaitedAt 15 = .ok (.invokestatic 102, 3) := by decide +kernel
theorem dX3_longestWaitedAt_18 : decode cX3_longestWaitedAt 18 = .ok (.ifCond .eq 25, 3) := by decide +kernel
theorem dX3_longestWaitedAt_21 : decode cX3_longestWaitedAt 21 = .ok (.iload_n 1, 1) := by decide +kernel
theorem dX3_longestWaitedAt_22 : decode cX3_longestWaitedAt 22 = .ok (.iconst (-1), 1) := by decide +kernel
theorem dX3_longestWaitedAt_23 : decode cX3_longestWaitedAt 23 = .ok (.if_icmp .eq 18, 3) := by decide +kernel
theorem dX3_longestWaitedAt_26 : decode cX3_longestWaitedAt 26 = .ok (.aload_n 0, 1) := by decide +kernel
theorem dX3_longestWaitedAt_27 : decode cX3_longestWaitedAt 27 = .ok (.getfield 18, 3) := by decide +kernel
theorem dX3_longestWaitedAt_30 : decode cX3_longestWaitedAt 30 = .ok (.iload_n 2, 1) := by decide +kernel
theorem dX3_longestWaitedAt_31 : decode cX3_longestWaitedAt 31 = .ok (.iaload, 1) := by decide +kernel
theorem dX3_longestWaitedAt_32 : decode cX3_longestWaitedAt 32 = .ok (.aload_n 0, 1) := by decide +kernel
theorem dX3_longestWaitedAt_33 : decode cX3_longestWaitedAt 33 = .ok (.getfield 18, 3) := by decide +kernel
theorem dX3_longestWaitedAt_36 : decode cX3_longestWaitedAt 36 = .ok (.iload_n 1, 1) := by decide +kernel
theorem dX3_longestWaitedAt_37 : decode cX3_longestWaitedAt 37 = .ok (.iaload, 1) := by decide +kernel
theorem dX3_longestWaitedAt_38 : decode cX3_longestWaitedAt 38 = .ok (.if_icmp .le 5, 3) := by decide +kernel
theorem dX3_longestWaitedAt_41 : decode cX3_longestWaitedAt 41 = .ok (.iload_n 2, 1) := by decide +kernel
theorem dX3_longestWaitedAt_42 : decode cX3_longestWaitedAt 42 = .ok (.istore_n 1, 1) := by decide +kernel
theorem dX3_longestWaitedAt_43 : decode cX3_longestWaitedAt 43 = .ok (.iinc 2 1, 3) := by decide +kernel
theorem dX3_longestWaitedAt_46 : decode cX3_longestWaitedAt 46 = .ok (.goto (-42), 3) := by decide +kernel
theorem dX3_longestWaitedAt_49 : decode cX3_longestWaitedAt 49 = .ok (.iload_n 1, 1) := by decide +kernel
theorem dX3_longestWaitedAt_50 : decode cX3_longestWaitedAt 50 = .ok (.ireturn, 1) := by decide +kernel
theorem dX4_init_0 : decode cX4_init 0 = .ok (.aload_n 0, 1) := by decide +kernel
theorem dX4_init_1 : decode cX4_init 1 = .ok (.invokespecial 3, 3) := by decide +kernel
theorem dX4_init_4 : decode cX4_init 4 = .ok (.aload_n 0, 1) := by decide +kernel
theorem dX4_init_5 : decode cX4_init 5 = .ok (.new 9, 3) := by decide +kernel
theorem dX4_init_8 : decode cX4_init 8 = .ok (.dup, 1) := by decide +kernel
theorem dX4_init_9 : decode cX4_init 9 = .ok (.invokespecial 11, 3) := by decide +kernel
theorem dX4_init_12 : decode cX4_init 12 = .ok (.putfield 12, 3) := by decide +kernel
theorem dX4_init_15 : decode cX4_init 15 = .ok (.aload_n 0, 1) := by decide +kernel
theorem dX4_init_16 : decode cX4_init 16 = .ok (.iconst (-1), 1) := by decide +kernel
theorem dX4_init_17 : decode cX4_init 17 = .ok (.putfield 18, 3) := by decide +kernel
theorem dX4_init_20 : decode cX4_init 20 = .ok (.aload_n 0, 1) := by decide +kernel
theorem dX4_init_21 : decode cX4_init 21 = .ok (.aload_n 1, 1) := by decide +kernel
theorem dX4_init_22 : decode cX4_init 22 = .ok (.putfield 22, 3) := by decide +kernel
theorem dX4_init_25 : decode cX4_init 25 = .ok (.return_, 1) := by decide +kernel
theorem dX4_readAll_0 : decode cX4_readAll 0 = .ok (.aload_n 0, 1) := by decide +kernel
theorem dX4_readAll_1 : decode cX4_readAll 1 = .ok (.getfield 12, 3) := by decide +kernel
theorem dX4_readAll_4 : decode cX4_readAll 4 = .ok (.invokevirtual 26, 3) := by decide +kernel
theorem dX4_readAll_7 : decode cX4_readAll 7 = .ok (.aload_n 0, 1) := by decide +kernel
theorem dX4_readAll_8 : decode cX4_readAll 8 = .ok (.iconst 0, 1) := by decide +kernel
theorem dX4_readAll_9 : decode cX4_readAll 9 = .ok (.putfield 29, 3) := by decide +kernel
theorem dX4_readAll_12 : decode cX4_readAll 12 = .ok (.aload_n 0, 1) := by decide +kernel
theorem dX4_readAll_13 : decode cX4_readAll 13 = .ok (.iconst (-1), 1) := by decide +kernel
theorem dX4_readAll_14 : decode cX4_readAll 14 = .ok (.putfield 18, 3) := by decide +kernel
theorem dX4_readAll_17 : decode cX4_readAll 17 = .ok (.aload_n 0, 1) := by decide +kernel
theorem dX4_readAll_18 : decode cX4_readAll 18 = .ok (.getfield 22, 3) := by decide +kernel
theorem dX4_readAll_21 : decode cX4_readAll 21 = .ok (.invokevirtual 32, 3) := by decide +kernel
theorem dX4_readAll_24 : decode cX4_readAll 24 = .ok (.iconst 0, 1) := by decide +kernel
theorem dX4_readAll_25 : decode cX4_readAll 25 = .ok (.istore_n 1, 1) := by decide +kernel
theorem dX4_readAll_26 : decode cX4_readAll 26 = .ok (.iload_n 1, 1) := by decide +kernel
theorem dX4_readAll_27 : decode cX4_readAll 27 = .ok (.sipush 1600, 3) := by decide +kernel
theorem dX4_readAll_30 : decode cX4_readAll 30 = .ok (.if_icmp .ge 30, 3) := by decide +kernel
theorem dX4_readAll_33 : decode cX4_readAll 33 = .ok (.aload_n 0, 1) := by decide +kernel
theorem dX4_readAll_34 : decode cX4_readAll 34 = .ok (.getfield 29, 3) := by decide +kernel
theorem dX4_readAll_37 : decode cX4_readAll 37 = .ok (.ifCond .ne 23, 3) := by decide +kernel
theorem dX4_readAll_40 : decode cX4_readAll 40 = .ok (.aload_n 0, 1) := by decide +kernel
theorem dX4_readAll_41 : decode cX4_readAll 41 = .ok (.getfield 22, 3) := by decide +kernel
theorem dX4_readAll_44 : decode cX4_readAll 44 = .ok (.getfield 37, 3) := by decide +kernel
theorem dX4_readAll_47 : decode cX4_readAll 47 = .ok (.ifCond .eq 13, 3) := by decide +kernel
theorem dX4_readAll_50 : decode cX4_readAll 50 = .ok (.aload_n 0, 1) := by decide +kernel
theorem dX4_readAll_51 : decode cX4_readAll 51 = .ok (.invokevirtual 40, 3) := by decide +kernel
theorem dX4_readAll_54 : decode cX4_readAll 54 = .ok (.iinc 1 1, 3) := by decide +kernel
theorem dX4_readAll_57 : decode cX4_readAll 57 = .ok (.goto (-31), 3) := by decide +kernel
theorem dX4_readAll_60 : decode cX4_readAll 60 = .ok (.return_, 1) := by decide +kernel
theorem dX4_readLine_0 : decode cX4_readLine 0 = .ok (.aload_n 0, 1) := by decide +kernel
theorem dX4_readLine_1 : decode cX4_readLine 1 = .ok (.getfield 22, 3) := by decide +kernel
theorem dX4_readLine_4 : decode cX4_readLine 4 = .ok (.ldc 43, 2) := by decide +kernel
theorem dX4_readLine_6 : decode cX4_readLine 6 = .ok (.invokevirtual 45, 3) := by decide +kernel
theorem dX4_readLine_9 : decode cX4_readLine 9 = .ok (.istore_n 1, 1) := by decide +kernel
theorem dX4_readLine_10 : decode cX4_readLine 10 = .ok (.iload_n 1, 1) := by decide +kernel
theorem dX4_readLine_11 : decode cX4_readLine 11 = .ok (.aload_n 0, 1) := by decide +kernel
theorem dX4_readLine_12 : decode cX4_readLine 12 = .ok (.getfield 12, 3) := by decide +kernel
theorem dX4_readLine_15 : decode cX4_readLine 15 = .ok (.getfield 49, 3) := by decide +kernel
theorem dX4_readLine_18 : decode cX4_readLine 18 = .ok (.ifCond .ne 7, 3) := by decide +kernel
theorem dX4_readLine_21 : decode cX4_readLine 21 = .ok (.iconst 1, 1) := by decide +kernel
theorem dX4_readLine_22 : decode cX4_readLine 22 = .ok (.goto 4, 3) := by decide +kernel
theorem dX4_readLine_25 : decode cX4_readLine 25 = .ok (.iconst 0, 1) := by decide +kernel
theorem dX4_readLine_26 : decode cX4_readLine 26 = .ok (.if_icmp .eq 12, 3) := by decide +kernel
theorem dX4_readLine_29 : decode cX4_readLine 29 = .ok (.aload_n 0, 1) := by decide +kernel
theorem dX4_readLine_30 : decode cX4_readLine 30 = .ok (.iconst 1, 1) := by decide +kernel
theorem dX4_readLine_31 : decode cX4_readLine 31 = .ok (.invokevirtual 52, 3) := by decide +kernel
theorem dX4_readLine_34 : decode cX4_readLine 34 = .ok (.pop, 1) := by decide +kernel
theorem dX4_readLine_35 : decode cX4_readLine 35 = .ok (.goto 138, 3) := by decide +kernel
theorem dX4_readLine_38 : decode cX4_readLine 38 = .ok (.iload_n 1, 1) := by decide +kernel
theorem dX4_readLine_39 : decode cX4_readLine 39 = .ok (.ifCond .eq 10, 3) := by decide +kernel
theorem dX4_readLine_42 : decode cX4_readLine 42 = .ok (.aload_n 0, 1) := by decide +kernel
theorem dX4_readLine_43 : decode cX4_readLine 43 = .ok (.invokevirtual 56, 3) := by decide +kernel
theorem dX4_readLine_46 : decode cX4_readLine 46 = .ok (.goto 127, 3) := by decide +kernel
theorem dX4_readLine_49 : decode cX4_readLine 49 = .ok (.aload_n 0, 1) := by decide +kernel
theorem dX4_readLine_50 : decode cX4_readLine 50 = .ok (.getfield 22, 3) := by decide +kernel
theorem dX4_readLine_53 : decode cX4_readLine 53 = .ok (.ldc 59, 2) := by decide +kernel
theorem dX4_readLine_55 : decode cX4_readLine 55 = .ok (.invokevirtual 45, 3) := by decide +kernel
theorem dX4_readLine_58 : decode cX4_readLine 58 = .ok (.ifCond .eq 10, 3) := by decide +kernel
theorem dX4_readLine_61 : decode cX4_readLine 61 = .ok (.aload_n 0, 1) := by decide +kernel
theorem dX4_readLine_62 : decode cX4_readLine 62 = .ok (.invokevirtual 61, 3) := by decide +kernel
theorem dX4_readLine_65 : decode cX4_readLine 65 = .ok (.goto 108, 3) := by decide +kernel
theorem dX4_readLine_68 : decode cX4_readLine 68 = .ok (.aload_n 0, 1) := by decide +kernel
theorem dX4_readLine_69 : decode cX4_readLine 69 = .ok (.getfield 22, 3) := by decide +kernel
theorem dX4_readLine_72 : decode cX4_readLine 72 = .ok (.ldc 64, 2) := by decide +kernel
theorem dX4_readLine_74 : decode cX4_readLine 74 = .ok (.invokevirtual 45, 3) := by decide +kernel
theorem dX4_readLine_77 : decode cX4_readLine 77 = .ok (.ifCond .eq 10, 3) := by decide +kernel
theorem dX4_readLine_80 : decode cX4_readLine 80 = .ok (.aload_n 0, 1) := by decide +kernel
theorem dX4_readLine_81 : decode cX4_readLine 81 = .ok (.invokevirtual 66, 3) := by decide +kernel
theorem dX4_readLine_84 : decode cX4_readLine 84 = .ok (.goto 89, 3) := by decide +kernel
theorem dX4_readLine_87 : decode cX4_readLine 87 = .ok (.aload_n 0, 1) := by decide +kernel
theorem dX4_readLine_88 : decode cX4_readLine 88 = .ok (.getfield 22, 3) := by decide +kernel
theorem dX4_readLine_91 : decode cX4_readLine 91 = .ok (.ldc 69, 2) := by decide +kernel
theorem dX4_readLine_93 : decode cX4_readLine 93 = .ok (.invokevirtual 45, 3) := by decide +kernel
theorem dX4_readLine_96 : decode cX4_readLine 96 = .ok (.ifCond .eq 12, 3) := by decide +kernel
theorem dX4_readLine_99 : decode cX4_readLine 99 = .ok (.aload_n 0, 1) := by decide +kernel
theorem dX4_readLine_100 : decode cX4_readLine 100 = .ok (.bipush 9, 2) := by decide +kernel
theorem dX4_readLine_102 : decode cX4_readLine 102 = .ok (.invokevirtual 71, 3) := by decide +kernel
theorem dX4_readLine_105 : decode cX4_readLine 105 = .ok (.goto 68, 3) := by decide +kernel
theorem dX4_readLine_108 : decode cX4_readLine 108 = .ok (.aload_n 0, 1) := by decide +kernel
theorem dX4_readLine_109 : decode cX4_readLine 109 = .ok (.getfield 22, 3) := by decide +kernel
theorem dX4_readLine_112 : decode cX4_readLine 112 = .ok (.ldc 75, 2) := by decide +kernel
theorem dX4_readLine_114 : decode cX4_readLine 114 = .ok (.invokevirtual 45, 3) := by decide +kernel
theorem dX4_readLine_117 : decode cX4_readLine 117 = .ok (.ifCond .eq 12, 3) := by decide +kernel
theorem dX4_readLine_120 : decode cX4_readLine 120 = .ok (.aload_n 0, 1) := by decide +kernel
theorem dX4_readLine_121 : decode cX4_readLine 121 = .ok (.bipush 10, 2) := by decide +kernel
theorem dX4_readLine_123 : decode cX4_readLine 123 = .ok (.invokevirtual 71, 3) := by decide +kernel
theorem dX4_readLine_126 : decode cX4_readLine 126 = .ok (.goto 47, 3) := by decide +kernel
theorem dX4_readLine_129 : decode cX4_readLine 129 = .ok (.aload_n 0, 1) := by decide +kernel
theorem dX4_readLine_130 : decode cX4_readLine 130 = .ok (.getfield 22, 3) := by decide +kernel
theorem dX4_readLine_133 : decode cX4_readLine 133 = .ok (.ldc 77, 2) := by decide +kernel
theorem dX4_readLine_135 : decode cX4_readLine 135 = .ok (.invokevirtual 45, 3) := by decide +kernel
theorem dX4_readLine_138 : decode cX4_readLine 138 = .ok (.ifCond .eq 10, 3) := by decide +kernel
theorem dX4_readLine_141 : decode cX4_readLine 141 = .ok (.aload_n 0, 1) := by decide +kernel
theorem dX4_readLine_142 : decode cX4_readLine 142 = .ok (.invokevirtual 79, 3) := by decide +kernel
theorem dX4_readLine_145 : decode cX4_readLine 145 = .ok (.goto 28, 3) := by decide +kernel
theorem dX4_readLine_148 : decode cX4_readLine 148 = .ok (.aload_n 0, 1) := by decide +kernel
theorem dX4_readLine_149 : decode cX4_readLine 149 = .ok (.getfield 22, 3) := by decide +kernel
theorem dX4_readLine_152 : decode cX4_readLine 152 = .ok (.ldc 82, 2) := by decide +kernel
theorem dX4_readLine_154 : decode cX4_readLine 154 = .ok (.invokevirtual 45, 3) := by decide +kernel
theorem dX4_readLine_157 : decode cX4_readLine 157 = .ok (.ifCond .eq 10, 3) := by decide +kernel
theorem dX4_readLine_160 : decode cX4_readLine 160 = .ok (.aload_n 0, 1) := by decide +kernel
theorem dX4_readLine_161 : decode cX4_readLine 161 = .ok (.invokevirtual 84, 3) := by decide +kernel
theorem dX4_readLine_164 : decode cX4_readLine 164 = .ok (.goto 9, 3) := by decide +kernel
theorem dX4_readLine_167 : decode cX4_readLine 167 = .ok (.aload_n 0, 1) := by decide +kernel
theorem dX4_readLine_168 : decode cX4_readLine 168 = .ok (.iconst 1, 1) := by decide +kernel
theorem dX4_readLine_169 : decode cX4_readLine 169 = .ok (.invokevirtual 52, 3) := by decide +kernel
theorem dX4_readLine_172 : decode cX4_readLine 172 = .ok (.pop, 1) := by decide +kernel
theorem dX4_readLine_173 : decode cX4_readLine 173 = .ok (.aload_n 0, 1) := by decide +kernel
theorem dX4_readLine_174 : decode cX4_readLine 174 = .ok (.invokevirtual 87, 3) := by decide +kernel
theorem dX4_readLine_177 : decode cX4_readLine 177 = .ok (.return_, 1) := by decide +kernel
theorem dX4_readHead_0 : decode cX4_readHead 0 = .ok (.aload_n 0, 1) := by decide +kernel
theorem dX4_readHead_1 : decode cX4_readHead 1 = .ok (.getfield 22, 3) := by decide +kernel
theorem dX4_readHead_4 : decode cX4_readHead 4 = .ok (.invokevirtual 90, 3) := by decide +kernel
theorem dX4_readHead_7 : decode cX4_readHead 7 = .ok (.aload_n 0, 1) := by decide +kernel
theorem dX4_readHead_8 : decode cX4_readHead 8 = .ok (.getfield 12, 3) := by decide +kernel
theorem dX4_readHead_11 : decode cX4_readHead 11 = .ok (.aload_n 0, 1) := by decide +kernel
theorem dX4_readHead_12 : decode cX4_readHead 12 = .ok (.ldc 93, 2) := by decide +kernel
theorem dX4_readHead_14 : decode cX4_readHead 14 = .ok (.iconst 1, 1) := by decide +kernel
theorem dX4_readHead_15 : decode cX4_readHead 15 = .ok (.bipush 6, 2) := by decide +kernel
theorem dX4_readHead_17 : decode cX4_readHead 17 = .ok (.invokevirtual 95, 3) := by decide +kernel
theorem dX4_readHead_20 : decode cX4_readHead 20 = .ok (.putfield 99, 3) := by decide +kernel
theorem dX4_readHead_23 : decode cX4_readHead 23 = .ok (.aload_n 0, 1) := by decide +kernel
theorem dX4_readHead_24 : decode cX4_readHead 24 = .ok (.getfield 12, 3) := by decide +kernel
theorem dX4_readHead_27 : decode cX4_readHead 27 = .ok (.aload_n 0, 1) := by decide +kernel
theorem dX4_readHead_28 : decode cX4_readHead 28 = .ok (.ldc 101, 2) := by decide +kernel
theorem dX4_readHead_30 : decode cX4_readHead 30 = .ok (.iconst 0, 1) := by decide +kernel
theorem dX4_readHead_31 : decode cX4_readHead 31 = .ok (.aload_n 0, 1) := by decide +kernel
theorem dX4_readHead_32 : decode cX4_readHead 32 = .ok (.getfield 12, 3) := by decide +kernel
theorem dX4_readHead_35 : decode cX4_readHead 35 = .ok (.getfield 99, 3) := by decide +kernel
theorem dX4_readHead_38 : decode cX4_readHead 38 = .ok (.iconst 1, 1) := by decide +kernel
theorem dX4_readHead_39 : decode cX4_readHead 39 = .ok (.isub, 1) := by decide +kernel
theorem dX4_readHead_40 : decode cX4_readHead 40 = .ok (.invokevirtual 95, 3) := by decide +kernel
theorem dX4_readHead_43 : decode cX4_readHead 43 = .ok (.putfield 103, 3) := by decide +kernel
theorem dX4_readHead_46 : decode cX4_readHead 46 = .ok (.aload_n 0, 1) := by decide +kernel
theorem dX4_readHead_47 : decode cX4_readHead 47 = .ok (.getfield 12, 3) := by decide +kernel
theorem dX4_readHead_50 : decode cX4_readHead 50 = .ok (.aload_n 0, 1) := by decide +kernel
theorem dX4_readHead_51 : decode cX4_readHead 51 = .ok (.ldc 106, 2) := by decide +kernel
theorem dX4_readHead_53 : decode cX4_readHead 53 = .ok (.iconst 0, 1) := by decide +kernel
theorem dX4_readHead_54 : decode cX4_readHead 54 = .ok (.sipush 399, 3) := by decide +kernel
theorem dX4_readHead_57 : decode cX4_readHead 57 = .ok (.invokevirtual 95, 3) := by decide +kernel
theorem dX4_readHead_60 : decode cX4_readHead 60 = .ok (.putfield 108, 3) := by decide +kernel
theorem dX4_readHead_63 : decode cX4_readHead 63 = .ok (.return_, 1) := by decide +kernel
theorem dX4_readOfficial_0 : decode cX4_readOfficial 0 = .ok (.aload_n 0, 1) := by decide +kernel
theorem dX4_readOfficial_1 : decode cX4_readOfficial 1 = .ok (.getfield 12, 3) := by decide +kernel
theorem dX4_readOfficial_4 : decode cX4_readOfficial 4 = .ok (.getfield 111, 3) := by decide +kernel
theorem dX4_readOfficial_7 : decode cX4_readOfficial 7 = .ok (.istore_n 1, 1) := by decide +kernel
theorem dX4_readOfficial_8 : decode cX4_readOfficial 8 = .ok (.iload_n 1, 1) := by decide +kernel
theorem dX4_readOfficial_9 : decode cX4_readOfficial 9 = .ok (.bipush 8, 2) := by decide +kernel
theorem dX4_readOfficial_11 : decode cX4_readOfficial 11 = .ok (.if_icmp .lt 10, 3) := by decide +kernel
theorem dX4_readOfficial_14 : decode cX4_readOfficial 14 = .ok (.aload_n 0, 1) := by decide +kernel
theorem dX4_readOfficial_15 : decode cX4_readOfficial 15 = .ok (.iconst 3, 1) := by decide +kernel
theorem dX4_readOfficial_16 : decode cX4_readOfficial 16 = .ok (.invokevirtual 52, 3) := by decide +kernel
theorem dX4_readOfficial_19 : decode cX4_readOfficial 19 = .ok (.pop, 1) := by decide +kernel
theorem dX4_readOfficial_20 : decode cX4_readOfficial 20 = .ok (.return_, 1) := by decide +kernel
theorem dX4_readOfficial_21 : decode cX4_readOfficial 21 = .ok (.aload_n 0, 1) := by decide +kernel
theorem dX4_readOfficial_22 : decode cX4_readOfficial 22 = .ok (.getfield 22, 3) := by decide +kernel
theorem dX4_readOfficial_25 : decode cX4_readOfficial 25 = .ok (.invokevirtual 90, 3) := by decide +kernel
theorem dX4_readOfficial_28 : decode cX4_readOfficial 28 = .ok (.aload_n 0, 1) := by decide +kernel
theorem dX4_readOfficial_29 : decode cX4_readOfficial 29 = .ok (.iconst 0, 1) := by decide +kernel
theorem dX4_readOfficial_30 : decode cX4_readOfficial 30 = .ok (.aload_n 0, 1) := by decide +kernel
theorem dX4_readOfficial_31 : decode cX4_readOfficial 31 = .ok (.ldc 114, 2) := by decide +kernel
theorem dX4_readOfficial_33 : decode cX4_readOfficial 33 = .ok (.iconst 0, 1) := by decide +kernel
theorem dX4_readOfficial_34 : decode cX4_readOfficial 34 = .ok (.aload_n 0, 1) := by decide +kernel
theorem dX4_readOfficial_35 : decode cX4_readOfficial 35 = .ok (.getfield 12, 3) := by decide +kernel
theorem dX4_readOfficial_38 : decode cX4_readOfficial 38 = .ok (.getfield 99, 3) := by decide +kernel
theorem dX4_readOfficial_41 : decode cX4_readOfficial 41 = .ok (.iconst 1, 1) := by decide +kernel
theorem dX4_readOfficial_42 : decode cX4_readOfficial 42 = .ok (.isub, 1) := by decide +kernel
theorem dX4_readOfficial_43 : decode cX4_readOfficial 43 = .ok (.invokevirtual 95, 3) := by decide +kernel
theorem dX4_readOfficial_46 : decode cX4_readOfficial 46 = .ok (.invokevirtual 116, 3) := by decide +kernel
theorem dX4_readOfficial_49 : decode cX4_readOfficial 49 = .ok (.aload_n 0, 1) := by decide +kernel
theorem dX4_readOfficial_50 : decode cX4_readOfficial 50 = .ok (.ldc 120, 2) := by decide +kernel
theorem dX4_readOfficial_52 : decode cX4_readOfficial 52 = .ok (.iconst 0, 1) := by decide +kernel
theorem dX4_readOfficial_53 : decode cX4_readOfficial 53 = .ok (.bipush 9, 2) := by decide +kernel
theorem dX4_readOfficial_55 : decode cX4_readOfficial 55 = .ok (.invokevirtual 95, 3) := by decide +kernel
theorem dX4_readOfficial_58 : decode cX4_readOfficial 58 = .ok (.istore_n 2, 1) := by decide +kernel
theorem dX4_readOfficial_59 : decode cX4_readOfficial 59 = .ok (.aload_n 0, 1) := by decide +kernel
theorem dX4_readOfficial_60 : decode cX4_readOfficial 60 = .ok (.iconst 1, 1) := by decide +kernel
theorem dX4_readOfficial_61 : decode cX4_readOfficial 61 = .ok (.iload_n 2, 1) := by decide +kernel
theorem dX4_readOfficial_62 : decode cX4_readOfficial 62 = .ok (.invokevirtual 116, 3) := by decide +kernel
theorem dX4_readOfficial_65 : decode cX4_readOfficial 65 = .ok (.aload_n 0, 1) := by decide +kernel
theorem dX4_readOfficial_66 : decode cX4_readOfficial 66 = .ok (.iconst 2, 1) := by decide +kernel
theorem dX4_readOfficial_67 : decode cX4_readOfficial 67 = .ok (.aload_n 0, 1) := by decide +kernel
theorem dX4_readOfficial_68 : decode cX4_readOfficial 68 = .ok (.ldc 122, 2) := by decide +kernel
theorem dX4_readOfficial_70 : decode cX4_readOfficial 70 = .ok (.iload_n 2, 1) := by decide +kernel
theorem dX4_readOfficial_71 : decode cX4_readOfficial 71 = .ok (.bipush 9, 2) := by decide +kernel
theorem dX4_readOfficial_73 : decode cX4_readOfficial 73 = .ok (.invokevirtual 95, 3) := by decide +kernel
theorem dX4_readOfficial_76 : decode cX4_readOfficial 76 = .ok (.invokevirtual 116, 3) := by decide +kernel
theorem dX4_readOfficial_79 : decode cX4_readOfficial 79 = .ok (.aload_n 0, 1) := by decide +kernel
theorem dX4_readOfficial_80 : decode cX4_readOfficial 80 = .ok (.iconst 3, 1) := by decide +kernel
theorem dX4_readOfficial_81 : decode cX4_readOfficial 81 = .ok (.aload_n 0, 1) := by decide +kernel
theorem dX4_readOfficial_82 : decode cX4_readOfficial 82 = .ok (.ldc 124, 2) := by decide +kernel
theorem dX4_readOfficial_84 : decode cX4_readOfficial 84 = .ok (.iconst 1, 1) := by decide +kernel
theorem dX4_readOfficial_85 : decode cX4_readOfficial 85 = .ok (.bipush 31, 2) := by decide +kernel
theorem dX4_readOfficial_87 : decode cX4_readOfficial 87 = .ok (.invokevirtual 95, 3) := by decide +kernel
theorem dX4_readOfficial_90 : decode cX4_readOfficial 90 = .ok (.invokevirtual 116, 3) := by decide +kernel
theorem dX4_readOfficial_93 : decode cX4_readOfficial 93 = .ok (.aload_n 0, 1) := by decide +kernel
theorem dX4_readOfficial_94 : decode cX4_readOfficial 94 = .ok (.iconst 4, 1) := by decide +kernel
theorem dX4_readOfficial_95 : decode cX4_readOfficial 95 = .ok (.iconst (-1), 1) := by decide +kernel
theorem dX4_readOfficial_96 : decode cX4_readOfficial 96 = .ok (.invokevirtual 116, 3) := by decide +kernel
theorem dX4_readOfficial_99 : decode cX4_readOfficial 99 = .ok (.aload_n 0, 1) := by decide +kernel
theorem dX4_readOfficial_100 : decode cX4_readOfficial 100 = .ok (.iconst 5, 1) := by decide +kernel
theorem dX4_readOfficial_101 : decode cX4_readOfficial 101 = .ok (.iconst (-1), 1) := by decide +kernel
theorem dX4_readOfficial_102 : decode cX4_readOfficial 102 = .ok (.invokevirtual 116, 3) := by decide +kernel
theorem dX4_readOfficial_105 : decode cX4_readOfficial 105 = .ok (.aload_n 0, 1) := by decide +kernel
theorem dX4_readOfficial_106 : decode cX4_readOfficial 106 = .ok (.bipush 6, 2) := by decide +kernel
theorem dX4_readOfficial_108 : decode cX4_readOfficial 108 = .ok (.iconst (-1), 1) := by decide +kernel
theorem dX4_readOfficial_109 : decode cX4_readOfficial 109 = .ok (.invokevirtual 116, 3) := by decide +kernel
theorem dX4_readOfficial_112 : decode cX4_readOfficial 112 = .ok (.aload_n 0, 1) := by decide +kernel
theorem dX4_readOfficial_113 : decode cX4_readOfficial 113 = .ok (.bipush 7, 2) := by decide +kernel
theorem dX4_readOfficial_115 : decode cX4_readOfficial 115 = .ok (.iconst (-1), 1) := by decide +kernel
theorem dX4_readOfficial_116 : decode cX4_readOfficial 116 = .ok (.invokevirtual 116, 3) := by decide +kernel
theorem dX4_readOfficial_119 : decode cX4_readOfficial 119 = .ok (.aload_n 0, 1) := by decide +kernel
theorem dX4_readOfficial_120 : decode cX4_readOfficial 120 = .ok (.bipush 8, 2) := by decide +kernel
theorem dX4_readOfficial_122 : decode cX4_readOfficial 122 = .ok (.iconst (-1), 1) := by decide +kernel
theorem dX4_readOfficial_123 : decode cX4_readOfficial 123 = .ok (.invokevirtual 116, 3) := by decide +kernel
theorem dX4_readOfficial_126 : decode cX4_readOfficial 126 = .ok (.iconst 0, 1) := by decide +kernel
theorem dX4_readOfficial_127 : decode cX4_readOfficial 127 = .ok (.istore_n 3, 1) := by decide +kernel
theorem dX4_readOfficial_128 : decode cX4_readOfficial 128 = .ok (.iload_n 3, 1) := by decide +kernel
theorem dX4_readOfficial_129 : decode cX4_readOfficial 129 = .ok (.iconst 3, 1) := by decide +kernel
theorem dX4_readOfficial_130 : decode cX4_readOfficial 130 = .ok (.if_icmp .ge 40, 3) := by decide +kernel
theorem dX4_readOfficial_133 : decode cX4_readOfficial 133 = .ok (.aload_n 0, 1) := by decide +kernel
theorem dX4_readOfficial_134 : decode cX4_readOfficial 134 = .ok (.ldc 126, 2) := by decide +kernel
theorem dX4_readOfficial_136 : decode cX4_readOfficial 136 = .ok (.iconst 4, 1) := by decide +kernel
theorem dX4_readOfficial_137 : decode cX4_readOfficial 137 = .ok (.iconst 0, 1) := by decide +kernel
theorem dX4_readOfficial_138 : decode cX4_readOfficial 138 = .ok (.bipush 9, 2) := by decide +kernel
theorem dX4_readOfficial_140 : decode cX4_readOfficial 140 = .ok (.invokevirtual 128, 3) := by decide +kernel
theorem dX4_readOfficial_143 : decode cX4_readOfficial 143 = .ok (.aload_n 0, 1) := by decide +kernel
theorem dX4_readOfficial_144 : decode cX4_readOfficial 144 = .ok (.ldc 132, 2) := by decide +kernel
theorem dX4_readOfficial_146 : decode cX4_readOfficial 146 = .ok (.iconst 5, 1) := by decide +kernel
theorem dX4_readOfficial_147 : decode cX4_readOfficial 147 = .ok (.iconst 1, 1) := by decide +kernel
theorem dX4_readOfficial_148 : decode cX4_readOfficial 148 = .ok (.bipush 20, 2) := by decide +kernel
theorem dX4_readOfficial_150 : decode cX4_readOfficial 150 = .ok (.invokevirtual 128, 3) := by decide +kernel
theorem dX4_readOfficial_153 : decode cX4_readOfficial 153 = .ok (.aload_n 0, 1) := by decide +kernel
theorem dX4_readOfficial_154 : decode cX4_readOfficial 154 = .ok (.ldc 134, 2) := by decide +kernel
theorem dX4_readOfficial_156 : decode cX4_readOfficial 156 = .ok (.bipush 6, 2) := by decide +kernel
theorem dX4_readOfficial_158 : decode cX4_readOfficial 158 = .ok (.iconst 0, 1) := by decide +kernel
theorem dX4_readOfficial_159 : decode cX4_readOfficial 159 = .ok (.bipush 99, 2) := by decide +kernel
theorem dX4_readOfficial_161 : decode cX4_readOfficial 161 = .ok (.invokevirtual 128, 3) := by decide +kernel
theorem dX4_readOfficial_164 : decode cX4_readOfficial 164 = .ok (.iinc 3 1, 3) := by decide +kernel
theorem dX4_readOfficial_167 : decode cX4_readOfficial 167 = .ok (.goto (-39), 3) := by decide +kernel
theorem dX4_readOfficial_170 : decode cX4_readOfficial 170 = .ok (.aload_n 0, 1) := by decide +kernel
theorem dX4_readOfficial_171 : decode cX4_readOfficial 171 = .ok (.getfield 12, 3) := by decide +kernel
theorem dX4_readOfficial_174 : decode cX4_readOfficial 174 = .ok (.getfield 136, 3) := by decide +kernel
theorem dX4_readOfficial_177 : decode cX4_readOfficial 177 = .ok (.bipush 6, 2) := by decide +kernel
theorem dX4_readOfficial_179 : decode cX4_readOfficial 179 = .ok (.aaload, 1) := by decide +kernel
theorem dX4_readOfficial_180 : decode cX4_readOfficial 180 = .ok (.iload_n 1, 1) := by decide +kernel
theorem dX4_readOfficial_181 : decode cX4_readOfficial 181 = .ok (.iaload, 1) := by decide +kernel
theorem dX4_readOfficial_182 : decode cX4_readOfficial 182 = .ok (.iconst (-1), 1) := by decide +kernel
theorem dX4_readOfficial_183 : decode cX4_readOfficial 183 = .ok (.if_icmp .ne 10, 3) := by decide +kernel
theorem dX4_readOfficial_186 : decode cX4_readOfficial 186 = .ok (.aload_n 0, 1) := by decide +kernel
theorem dX4_readOfficial_187 : decode cX4_readOfficial 187 = .ok (.bipush 6, 2) := by decide +kernel
theorem dX4_readOfficial_189 : decode cX4_readOfficial 189 = .ok (.iconst 0, 1) := by decide +kernel
theorem dX4_readOfficial_190 : decode cX4_readOfficial 190 = .ok (.invokevirtual 116, 3) := by decide +kernel
theorem dX4_readOfficial_193 : decode cX4_readOfficial 193 = .ok (.aload_n 0, 1) := by decide +kernel
theorem dX4_readOfficial_194 : decode cX4_readOfficial 194 = .ok (.getfield 12, 3) := by decide +kernel
theorem dX4_readOfficial_197 : decode cX4_readOfficial 197 = .ok (.dup, 1) := by decide +kernel
theorem dX4_readOfficial_198 : decode cX4_readOfficial 198 = .ok (.getfield 111, 3) := by decide +kernel
theorem dX4_readOfficial_201 : decode cX4_readOfficial 201 = .ok (.iconst 1, 1) := by decide +kernel
theorem dX4_readOfficial_202 : decode cX4_readOfficial 202 = .ok (.iadd, 1) := by decide +kernel
theorem dX4_readOfficial_203 : decode cX4_readOfficial 203 = .ok (.putfield 111, 3) := by decide +kernel
theorem dX4_readOfficial_206 : decode cX4_readOfficial 206 = .ok (.return_, 1) := by decide +kernel
theorem dX4_readMark_0 : decode cX4_readMark 0 = .ok (.aload_n 0, 1) := by decide +kernel
theorem dX4_readMark_1 : decode cX4_readMark 1 = .ok (.getfield 12, 3) := by decide +kernel
theorem dX4_readMark_4 : decode cX4_readMark 4 = .ok (.getfield 111, 3) := by decide +kernel
theorem dX4_readMark_7 : decode cX4_readMark 7 = .ok (.istore 5, 2) := by decide +kernel
theorem dX4_readMark_9 : decode cX4_readMark 9 = .ok (.aload_n 0, 1) := by decide +kernel
theorem dX4_readMark_10 : decode cX4_readMark 10 = .ok (.getfield 29, 3) := by decide +kernel
theorem dX4_readMark_13 : decode cX4_readMark 13 = .ok (.ifCond .ne 56, 3) := by decide +kernel
theorem dX4_readMark_16 : decode cX4_readMark 16 = .ok (.iload 5, 2) := by decide +kernel
theorem dX4_readMark_18 : decode cX4_readMark 18 = .ok (.bipush 8, 2) := by decide +kernel
theorem dX4_readMark_20 : decode cX4_readMark 20 = .ok (.if_icmp .ge 49, 3) := by decide +kernel
theorem dX4_readMark_23 : decode cX4_readMark 23 = .ok (.aload_n 0, 1) := by decide +kernel
theorem dX4_readMark_24 : decode cX4_readMark 24 = .ok (.getfield 12, 3) := by decide +kernel
theorem dX4_readMark_27 : decode cX4_readMark 27 = .ok (.getfield 136, 3) := by decide +kernel
theorem dX4_readMark_30 : decode cX4_readMark 30 = .ok (.iload_n 2, 1) := by decide +kernel
theorem dX4_readMark_31 : decode cX4_readMark 31 = .ok (.aaload, 1) := by decide +kernel
theorem dX4_readMark_32 : decode cX4_readMark 32 = .ok (.iload 5, 2) := by decide +kernel
theorem dX4_readMark_34 : decode cX4_readMark 34 = .ok (.iaload, 1) := by decide +kernel
theorem dX4_readMark_35 : decode cX4_readMark 35 = .ok (.iconst (-1), 1) := by decide +kernel
theorem dX4_readMark_36 : decode cX4_readMark 36 = .ok (.if_icmp .ne 33, 3) := by decide +kernel
theorem dX4_readMark_39 : decode cX4_readMark 39 = .ok (.aload_n 0, 1) := by decide +kernel
theorem dX4_readMark_40 : decode cX4_readMark 40 = .ok (.getfield 22, 3) := by decide +kernel
theorem dX4_readMark_43 : decode cX4_readMark 43 = .ok (.aload_n 1, 1) := by decide +kernel
theorem dX4_readMark_44 : decode cX4_readMark 44 = .ok (.invokevirtual 45, 3) := by decide +kernel
theorem dX4_readMark_47 : decode cX4_readMark 47 = .ok (.ifCond .eq 22, 3) := by decide +kernel
theorem dX4_readMark_50 : decode cX4_readMark 50 = .ok (.aload_n 0, 1) := by decide +kernel
theorem dX4_readMark_51 : decode cX4_readMark 51 = .ok (.getfield 22, 3) := by decide +kernel
theorem dX4_readMark_54 : decode cX4_readMark 54 = .ok (.invokevirtual 90, 3) := by decide +kernel
theorem dX4_readMark_57 : decode cX4_readMark 57 = .ok (.aload_n 0, 1) := by decide +kernel
theorem dX4_readMark_58 : decode cX4_readMark 58 = .ok (.iload_n 2, 1) := by decide +kernel
theorem dX4_readMark_59 : decode cX4_readMark 59 = .ok (.aload_n 0, 1) := by decide +kernel
theorem dX4_readMark_60 : decode cX4_readMark 60 = .ok (.iload_n 3, 1) := by decide +kernel
theorem dX4_readMark_61 : decode cX4_readMark 61 = .ok (.iload 4, 2) := by decide +kernel
theorem dX4_readMark_63 : decode cX4_readMark 63 = .ok (.invokevirtual 140, 3) := by decide +kernel
theorem dX4_readMark_66 : decode cX4_readMark 66 = .ok (.invokevirtual 116, 3) := by decide +kernel
theorem dX4_readMark_69 : decode cX4_readMark 69 = .ok (.return_, 1) := by decide +kernel
theorem dX4_tell_0 : decode cX4_tell 0 = .ok (.aload_n 0, 1) := by decide +kernel
theorem dX4_tell_1 : decode cX4_tell 1 = .ok (.getfield 12, 3) := by decide +kernel
theorem dX4_tell_4 : decode cX4_tell 4 = .ok (.getfield 111, 3) := by decide +kernel
theorem dX4_tell_7 : decode cX4_tell 7 = .ok (.bipush 8, 2) := by decide +kernel
theorem dX4_tell_9 : decode cX4_tell 9 = .ok (.if_icmp .ge 21, 3) := by decide +kernel
theorem dX4_tell_12 : decode cX4_tell 12 = .ok (.aload_n 0, 1) := by decide +kernel
theorem dX4_tell_13 : decode cX4_tell 13 = .ok (.getfield 12, 3) := by decide +kernel
theorem dX4_tell_16 : decode cX4_tell 16 = .ok (.getfield 136, 3) := by decide +kernel
theorem dX4_tell_19 : decode cX4_tell 19 = .ok (.iload_n 1, 1) := by decide +kernel
theorem dX4_tell_20 : decode cX4_tell 20 = .ok (.aaload, 1) := by decide +kernel
theorem dX4_tell_21 : decode cX4_tell 21 = .ok (.aload_n 0, 1) := by decide +kernel
theorem dX4_tell_22 : decode cX4_tell 22 = .ok (.getfield 12, 3) := by decide +kernel
theorem dX4_tell_25 : decode cX4_tell 25 = .ok (.getfield 111, 3) := by decide +kernel
theorem dX4_tell_28 : decode cX4_tell 28 = .ok (.iload_n 2, 1) := by decide +kernel
theorem dX4_tell_29 : decode cX4_tell 29 = .ok (.iastore, 1) := by decide +kernel
theorem dX4_tell_30 : decode cX4_tell 30 = .ok (.return_, 1) := by decide +kernel
theorem dX4_readWay_0 : decode cX4_readWay 0 = .ok (.aload_n 0, 1) := by decide +kernel
theorem dX4_readWay_1 : decode cX4_readWay 1 = .ok (.getfield 22, 3) := by decide +kernel
theorem dX4_readWay_4 : decode cX4_readWay 4 = .ok (.invokevirtual 90, 3) := by decide +kernel
theorem dX4_readWay_7 : decode cX4_readWay 7 = .ok (.aload_n 0, 1) := by decide +kernel
theorem dX4_readWay_8 : decode cX4_readWay 8 = .ok (.iconst 0, 1) := by decide +kernel
theorem dX4_readWay_9 : decode cX4_readWay 9 = .ok (.aload_n 0, 1) := by decide +kernel
theorem dX4_readWay_10 : decode cX4_readWay 10 = .ok (.getfield 12, 3) := by decide +kernel
theorem dX4_readWay_13 : decode cX4_readWay 13 = .ok (.getfield 99, 3) := by decide +kernel
theorem dX4_readWay_16 : decode cX4_readWay 16 = .ok (.iconst 1, 1) := by decide +kernel
theorem dX4_readWay_17 : decode cX4_readWay 17 = .ok (.isub, 1) := by decide +kernel
theorem dX4_readWay_18 : decode cX4_readWay 18 = .ok (.invokevirtual 140, 3) := by decide +kernel
theorem dX4_readWay_21 : decode cX4_readWay 21 = .ok (.istore_n 1, 1) := by decide +kernel
theorem dX4_readWay_22 : decode cX4_readWay 22 = .ok (.aload_n 0, 1) := by decide +kernel
theorem dX4_readWay_23 : decode cX4_readWay 23 = .ok (.iconst 1, 1) := by decide +kernel
theorem dX4_readWay_24 : decode cX4_readWay 24 = .ok (.iload_n 1, 1) := by decide +kernel
theorem dX4_readWay_25 : decode cX4_readWay 25 = .ok (.ishl, 1) := by decide +kernel
theorem dX4_readWay_26 : decode cX4_readWay 26 = .ok (.aload_n 0, 1) := by decide +kernel
theorem dX4_readWay_27 : decode cX4_readWay 27 = .ok (.getfield 12, 3) := by decide +kernel
theorem dX4_readWay_30 : decode cX4_readWay 30 = .ok (.getfield 99, 3) := by decide +kernel
theorem dX4_readWay_33 : decode cX4_readWay 33 = .ok (.iconst 1, 1) := by decide +kernel
theorem dX4_readWay_34 : decode cX4_readWay 34 = .ok (.isub, 1) := by decide +kernel
theorem dX4_readWay_35 : decode cX4_readWay 35 = .ok (.invokevirtual 144, 3) := by decide +kernel
theorem dX4_readWay_38 : decode cX4_readWay 38 = .ok (.istore_n 2, 1) := by decide +kernel
theorem dX4_readWay_39 : decode cX4_readWay 39 = .ok (.aload_n 0, 1) := by decide +kernel
theorem dX4_readWay_40 : decode cX4_readWay 40 = .ok (.iconst 1, 1) := by decide +kernel
theorem dX4_readWay_41 : decode cX4_readWay 41 = .ok (.bipush 9, 2) := by decide +kernel
theorem dX4_readWay_43 : decode cX4_readWay 43 = .ok (.invokevirtual 140, 3) := by decide +kernel
theorem dX4_readWay_46 : decode cX4_readWay 46 = .ok (.istore_n 3, 1) := by decide +kernel
theorem dX4_readWay_47 : decode cX4_readWay 47 = .ok (.aload_n 0, 1) := by decide +kernel
theorem dX4_readWay_48 : decode cX4_readWay 48 = .ok (.getfield 29, 3) := by decide +kernel
theorem dX4_readWay_51 : decode cX4_readWay 51 = .ok (.ifCond .ne 27, 3) := by decide +kernel
theorem dX4_readWay_54 : decode cX4_readWay 54 = .ok (.aload_n 0, 1) := by decide +kernel
theorem dX4_readWay_55 : decode cX4_readWay 55 = .ok (.getfield 12, 3) := by decide +kernel
theorem dX4_readWay_58 : decode cX4_readWay 58 = .ok (.getfield 147, 3) := by decide +kernel
theorem dX4_readWay_61 : decode cX4_readWay 61 = .ok (.iload_n 1, 1) := by decide +kernel
theorem dX4_readWay_62 : decode cX4_readWay 62 = .ok (.aaload, 1) := by decide +kernel
theorem dX4_readWay_63 : decode cX4_readWay 63 = .ok (.iload_n 2, 1) := by decide +kernel
theorem dX4_readWay_64 : decode cX4_readWay 64 = .ok (.iload_n 3, 1) := by decide +kernel
theorem dX4_readWay_65 : decode cX4_readWay 65 = .ok (.iastore, 1) := by decide +kernel
theorem dX4_readWay_66 : decode cX4_readWay 66 = .ok (.aload_n 0, 1) := by decide +kernel
theorem dX4_readWay_67 : decode cX4_readWay 67 = .ok (.getfield 12, 3) := by decide +kernel
theorem dX4_readWay_70 : decode cX4_readWay 70 = .ok (.getfield 147, 3) := by decide +kernel
theorem dX4_readWay_73 : decode cX4_readWay 73 = .ok (.iload_n 2, 1) := by decide +kernel
theorem dX4_readWay_74 : decode cX4_readWay 74 = .ok (.aaload, 1) := by decide +kernel
theorem dX4_readWay_75 : decode cX4_readWay 75 = .ok (.iload_n 1, 1) := by decide +kernel
theorem dX4_readWay_76 : decode cX4_readWay 76 = .ok (.iload_n 3, 1) := by decide +kernel
theorem dX4_readWay_77 : decode cX4_readWay 77 = .ok (.iastore, 1) := by decide +kernel
theorem dX4_readWay_78 : decode cX4_readWay 78 = .ok (.return_, 1) := by decide +kernel
theorem dX4_readAsking_0 : decode cX4_readAsking 0 = .ok (.aload_n 0, 1) := by decide +kernel
theorem dX4_readAsking_1 : decode cX4_readAsking 1 = .ok (.getfield 22, 3) := by decide +kernel
theorem dX4_readAsking_4 : decode cX4_readAsking 4 = .ok (.invokevirtual 90, 3) := by decide +kernel
theorem dX4_readAsking_7 : decode cX4_readAsking 7 = .ok (.aload_n 0, 1) := by decide +kernel
theorem dX4_readAsking_8 : decode cX4_readAsking 8 = .ok (.iconst 0, 1) := by decide +kernel
theorem dX4_readAsking_9 : decode cX4_readAsking 9 = .ok (.aload_n 0, 1) := by decide +kernel
theorem dX4_readAsking_10 : decode cX4_readAsking 10 = .ok (.getfield 12, 3) := by decide +kernel
theorem dX4_readAsking_13 : decode cX4_readAsking 13 = .ok (.getfield 111, 3) := by decide +kernel
theorem dX4_readAsking_16 : decode cX4_readAsking 16 = .ok (.iconst 1, 1) := by decide +kernel
theorem dX4_readAsking_17 : decode cX4_readAsking 17 = .ok (.isub, 1) := by decide +kernel
theorem dX4_readAsking_18 : decode cX4_readAsking 18 = .ok (.invokevirtual 140, 3) := by decide +kernel
theorem dX4_readAsking_21 : decode cX4_readAsking 21 = .ok (.istore_n 2, 1) := by decide +kernel
theorem dX4_readAsking_22 : decode cX4_readAsking 22 = .ok (.aload_n 0, 1) := by decide +kernel
theorem dX4_readAsking_23 : decode cX4_readAsking 23 = .ok (.iconst 1, 1) := by decide +kernel
theorem dX4_readAsking_24 : decode cX4_readAsking 24 = .ok (.iload_n 2, 1) := by decide +kernel
theorem dX4_readAsking_25 : decode cX4_readAsking 25 = .ok (.ishl, 1) := by decide +kernel
theorem dX4_readAsking_26 : decode cX4_readAsking 26 = .ok (.aload_n 0, 1) := by decide +kernel
theorem dX4_readAsking_27 : decode cX4_readAsking 27 = .ok (.getfield 12, 3) := by decide +kernel
theorem dX4_readAsking_30 : decode cX4_readAsking 30 = .ok (.getfield 136, 3) := by decide +kernel
theorem dX4_readAsking_33 : decode cX4_readAsking 33 = .ok (.iload_n 1, 1) := by decide +kernel
theorem dX4_readAsking_34 : decode cX4_readAsking 34 = .ok (.aaload, 1) := by decide +kernel
theorem dX4_readAsking_35 : decode cX4_readAsking 35 = .ok (.iload_n 2, 1) := by decide +kernel
theorem dX4_readAsking_36 : decode cX4_readAsking 36 = .ok (.iaload, 1) := by decide +kernel
theorem dX4_readAsking_37 : decode cX4_readAsking 37 = .ok (.ior, 1) := by decide +kernel
theorem dX4_readAsking_38 : decode cX4_readAsking 38 = .ok (.aload_n 0, 1) := by decide +kernel
theorem dX4_readAsking_39 : decode cX4_readAsking 39 = .ok (.getfield 12, 3) := by decide +kernel
theorem dX4_readAsking_42 : decode cX4_readAsking 42 = .ok (.getfield 111, 3) := by decide +kernel
theorem dX4_readAsking_45 : decode cX4_readAsking 45 = .ok (.iconst 1, 1) := by decide +kernel
theorem dX4_readAsking_46 : decode cX4_readAsking 46 = .ok (.isub, 1) := by decide +kernel
theorem dX4_readAsking_47 : decode cX4_readAsking 47 = .ok (.invokevirtual 144, 3) := by decide +kernel
theorem dX4_readAsking_50 : decode cX4_readAsking 50 = .ok (.istore_n 3, 1) := by decide +kernel
theorem dX4_readAsking_51 : decode cX4_readAsking 51 = .ok (.aload_n 0, 1) := by decide +kernel
theorem dX4_readAsking_52 : decode cX4_readAsking 52 = .ok (.getfield 29, 3) := by decide +kernel
theorem dX4_readAsking_55 : decode cX4_readAsking 55 = .ok (.ifCond .ne 20, 3) := by decide +kernel
theorem dX4_readAsking_58 : decode cX4_readAsking 58 = .ok (.aload_n 0, 1) := by decide +kernel
theorem dX4_readAsking_59 : decode cX4_readAsking 59 = .ok (.getfield 12, 3) := by decide +kernel
theorem dX4_readAsking_62 : decode cX4_readAsking 62 = .ok (.getfield 136, 3) := by decide +kernel
theorem dX4_readAsking_65 : decode cX4_readAsking 65 = .ok (.iload_n 1, 1) := by decide +kernel
theorem dX4_readAsking_66 : decode cX4_readAsking 66 = .ok (.aaload, 1) := by decide +kernel
theorem dX4_readAsking_67 : decode cX4_readAsking 67 = .ok (.iload_n 2, 1) := by decide +kernel
theorem dX4_readAsking_68 : decode cX4_readAsking 68 = .ok (.dup2, 1) := by decide +kernel
theorem dX4_readAsking_69 : decode cX4_readAsking 69 = .ok (.iaload, 1) := by decide +kernel
theorem dX4_readAsking_70 : decode cX4_readAsking 70 = .ok (.iconst 1, 1) := by decide +kernel
theorem dX4_readAsking_71 : decode cX4_readAsking 71 = .ok (.iload_n 3, 1) := by decide +kernel
theorem dX4_readAsking_72 : decode cX4_readAsking 72 = .ok (.ishl, 1) := by decide +kernel
theorem dX4_readAsking_73 : decode cX4_readAsking 73 = .ok (.ior, 1) := by decide +kernel
theorem dX4_readAsking_74 : decode cX4_readAsking 74 = .ok (.iastore, 1) := by decide +kernel
theorem dX4_readAsking_75 : decode cX4_readAsking 75 = .ok (.return_, 1) := by decide +kernel
theorem dX4_readLeave_0 : decode cX4_readLeave 0 = .ok (.aload_n 0, 1) := by decide +kernel
theorem dX4_readLeave_1 : decode cX4_readLeave 1 = .ok (.getfield 22, 3) := by decide +kernel
theorem dX4_readLeave_4 : decode cX4_readLeave 4 = .ok (.invokevirtual 90, 3) := by decide +kernel
theorem dX4_readLeave_7 : decode cX4_readLeave 7 = .ok (.aload_n 0, 1) := by decide +kernel
theorem dX4_readLeave_8 : decode cX4_readLeave 8 = .ok (.iconst 0, 1) := by decide +kernel
theorem dX4_readLeave_9 : decode cX4_readLeave 9 = .ok (.aload_n 0, 1) := by decide +kernel
theorem dX4_readLeave_10 : decode cX4_readLeave 10 = .ok (.getfield 12, 3) := by decide +kernel
theorem dX4_readLeave_13 : decode cX4_readLeave 13 = .ok (.getfield 111, 3) := by decide +kernel
theorem dX4_readLeave_16 : decode cX4_readLeave 16 = .ok (.iconst 1, 1) := by decide +kernel
theorem dX4_readLeave_17 : decode cX4_readLeave 17 = .ok (.isub, 1) := by decide +kernel
theorem dX4_readLeave_18 : decode cX4_readLeave 18 = .ok (.invokevirtual 140, 3) := by decide +kernel
theorem dX4_readLeave_21 : decode cX4_readLeave 21 = .ok (.istore_n 1, 1) := by decide +kernel
theorem dX4_readLeave_22 : decode cX4_readLeave 22 = .ok (.aload_n 0, 1) := by decide +kernel
theorem dX4_readLeave_23 : decode cX4_readLeave 23 = .ok (.ldc 120, 2) := by decide +kernel
theorem dX4_readLeave_25 : decode cX4_readLeave 25 = .ok (.iconst 0, 1) := by decide +kernel
theorem dX4_readLeave_26 : decode cX4_readLeave 26 = .ok (.bipush 39, 2) := by decide +kernel
theorem dX4_readLeave_28 : decode cX4_readLeave 28 = .ok (.invokevirtual 95, 3) := by decide +kernel
theorem dX4_readLeave_31 : decode cX4_readLeave 31 = .ok (.istore_n 2, 1) := by decide +kernel
theorem dX4_readLeave_32 : decode cX4_readLeave 32 = .ok (.aload_n 0, 1) := by decide +kernel
theorem dX4_readLeave_33 : decode cX4_readLeave 33 = .ok (.ldc 122, 2) := by decide +kernel
theorem dX4_readLeave_35 : decode cX4_readLeave 35 = .ok (.iload_n 2, 1) := by decide +kernel
theorem dX4_readLeave_36 : decode cX4_readLeave 36 = .ok (.bipush 39, 2) := by decide +kernel
theorem dX4_readLeave_38 : decode cX4_readLeave 38 = .ok (.invokevirtual 95, 3) := by decide +kernel
theorem dX4_readLeave_41 : decode cX4_readLeave 41 = .ok (.istore_n 3, 1) := by decide +kernel
theorem dX4_readLeave_42 : decode cX4_readLeave 42 = .ok (.aload_n 0, 1) := by decide +kernel
theorem dX4_readLeave_43 : decode cX4_readLeave 43 = .ok (.getfield 29, 3) := by decide +kernel
theorem dX4_readLeave_46 : decode cX4_readLeave 46 = .ok (.ifCond .ne 29, 3) := by decide +kernel
theorem dX4_readLeave_49 : decode cX4_readLeave 49 = .ok (.aload_n 0, 1) := by decide +kernel
theorem dX4_readLeave_50 : decode cX4_readLeave 50 = .ok (.getfield 12, 3) := by decide +kernel
theorem dX4_readLeave_53 : decode cX4_readLeave 53 = .ok (.getfield 136, 3) := by decide +kernel
theorem dX4_readLeave_56 : decode cX4_readLeave 56 = .ok (.bipush 7, 2) := by decide +kernel
theorem dX4_readLeave_58 : decode cX4_readLeave 58 = .ok (.aaload, 1) := by decide +kernel
theorem dX4_readLeave_59 : decode cX4_readLeave 59 = .ok (.iload_n 1, 1) := by decide +kernel
theorem dX4_readLeave_60 : decode cX4_readLeave 60 = .ok (.iload_n 2, 1) := by decide +kernel
theorem dX4_readLeave_61 : decode cX4_readLeave 61 = .ok (.iastore, 1) := by decide +kernel
theorem dX4_readLeave_62 : decode cX4_readLeave 62 = .ok (.aload_n 0, 1) := by decide +kernel
theorem dX4_readLeave_63 : decode cX4_readLeave 63 = .ok (.getfield 12, 3) := by decide +kernel
theorem dX4_readLeave_66 : decode cX4_readLeave 66 = .ok (.getfield 136, 3) := by decide +kernel
theorem dX4_readLeave_69 : decode cX4_readLeave 69 = .ok (.bipush 8, 2) := by decide +kernel
theorem dX4_readLeave_71 : decode cX4_readLeave 71 = .ok (.aaload, 1) := by decide +kernel
theorem dX4_readLeave_72 : decode cX4_readLeave 72 = .ok (.iload_n 1, 1) := by decide +kernel
theorem dX4_readLeave_73 : decode cX4_readLeave 73 = .ok (.iload_n 3, 1) := by decide +kernel
theorem dX4_readLeave_74 : decode cX4_readLeave 74 = .ok (.iastore, 1) := by decide +kernel
theorem dX4_readLeave_75 : decode cX4_readLeave 75 = .ok (.return_, 1) := by decide +kernel
theorem dX4_readPermit_0 : decode cX4_readPermit 0 = .ok (.aload_n 0, 1) := by decide +kernel
theorem dX4_readPermit_1 : decode cX4_readPermit 1 = .ok (.getfield 22, 3) := by decide +kernel
theorem dX4_readPermit_4 : decode cX4_readPermit 4 = .ok (.invokevirtual 90, 3) := by decide +kernel
theorem dX4_readPermit_7 : decode cX4_readPermit 7 = .ok (.iconst 1, 1) := by decide +kernel
theorem dX4_readPermit_8 : decode cX4_readPermit 8 = .ok (.aload_n 0, 1) := by decide +kernel
theorem dX4_readPermit_9 : decode cX4_readPermit 9 = .ok (.iconst 0, 1) := by decide +kernel
theorem dX4_readPermit_10 : decode cX4_readPermit 10 = .ok (.aload_n 0, 1) := by decide +kernel
theorem dX4_readPermit_11 : decode cX4_readPermit 11 = .ok (.getfield 12, 3) := by decide +kernel
theorem dX4_readPermit_14 : decode cX4_readPermit 14 = .ok (.getfield 111, 3) := by decide +kernel
theorem dX4_readPermit_17 : decode cX4_readPermit 17 = .ok (.iconst 1, 1) := by decide +kernel
theorem dX4_readPermit_18 : decode cX4_readPermit 18 = .ok (.isub, 1) := by decide +kernel
theorem dX4_readPermit_19 : decode cX4_readPermit 19 = .ok (.invokevirtual 140, 3) := by decide +kernel
theorem dX4_readPermit_22 : decode cX4_readPermit 22 = .ok (.ishl, 1) := by decide +kernel
theorem dX4_readPermit_23 : decode cX4_readPermit 23 = .ok (.istore_n 1, 1) := by decide +kernel
theorem dX4_readPermit_24 : decode cX4_readPermit 24 = .ok (.iconst 0, 1) := by decide +kernel
theorem dX4_readPermit_25 : decode cX4_readPermit 25 = .ok (.istore_n 2, 1) := by decide +kernel
theorem dX4_readPermit_26 : decode cX4_readPermit 26 = .ok (.iload_n 2, 1) := by decide +kernel
theorem dX4_readPermit_27 : decode cX4_readPermit 27 = .ok (.sipush 1600, 3) := by decide +kernel
theorem dX4_readPermit_30 : decode cX4_readPermit 30 = .ok (.if_icmp .ge 46, 3) := by decide +kernel
theorem dX4_readPermit_33 : decode cX4_readPermit 33 = .ok (.aload_n 0, 1) := by decide +kernel
theorem dX4_readPermit_34 : decode cX4_readPermit 34 = .ok (.getfield 29, 3) := by decide +kernel
theorem dX4_readPermit_37 : decode cX4_readPermit 37 = .ok (.ifCond .ne 39, 3) := by decide +kernel
theorem dX4_readPermit_40 : decode cX4_readPermit 40 = .ok (.aload_n 0, 1) := by decide +kernel
theorem dX4_readPermit_41 : decode cX4_readPermit 41 = .ok (.getfield 22, 3) := by decide +kernel
theorem dX4_readPermit_44 : decode cX4_readPermit 44 = .ok (.getfield 37, 3) := by decide +kernel
theorem dX4_readPermit_47 : decode cX4_readPermit 47 = .ok (.iconst 2, 1) := by decide +kernel
theorem dX4_readPermit_48 : decode cX4_readPermit 48 = .ok (.if_icmp .ne 28, 3) := by decide +kernel
theorem dX4_readPermit_51 : decode cX4_readPermit 51 = .ok (.iload_n 1, 1) := by decide +kernel
theorem dX4_readPermit_52 : decode cX4_readPermit 52 = .ok (.iconst 1, 1) := by decide +kernel
theorem dX4_readPermit_53 : decode cX4_readPermit 53 = .ok (.aload_n 0, 1) := by decide +kernel
theorem dX4_readPermit_54 : decode cX4_readPermit 54 = .ok (.iconst 0, 1) := by decide +kernel
theorem dX4_readPermit_55 : decode cX4_readPermit 55 = .ok (.aload_n 0, 1) := by decide +kernel
theorem dX4_readPermit_56 : decode cX4_readPermit 56 = .ok (.getfield 12, 3) := by decide +kernel
theorem dX4_readPermit_59 : decode cX4_readPermit 59 = .ok (.getfield 111, 3) := by decide +kernel
theorem dX4_readPermit_62 : decode cX4_readPermit 62 = .ok (.iconst 1, 1) := by decide +kernel
theorem dX4_readPermit_63 : decode cX4_readPermit 63 = .ok (.isub, 1) := by decide +kernel
theorem dX4_readPermit_64 : decode cX4_readPermit 64 = .ok (.invokevirtual 140, 3) := by decide +kernel
theorem dX4_readPermit_67 : decode cX4_readPermit 67 = .ok (.ishl, 1) := by decide +kernel
theorem dX4_readPermit_68 : decode cX4_readPermit 68 = .ok (.ior, 1) := by decide +kernel
theorem dX4_readPermit_69 : decode cX4_readPermit 69 = .ok (.istore_n 1, 1) := by decide +kernel
theorem dX4_readPermit_70 : decode cX4_readPermit 70 = .ok (.iinc 2 1, 3) := by decide +kernel
theorem dX4_readPermit_73 : decode cX4_readPermit 73 = .ok (.goto (-47), 3) := by decide +kernel
theorem dX4_readPermit_76 : decode cX4_readPermit 76 = .ok (.aload_n 0, 1) := by decide +kernel
theorem dX4_readPermit_77 : decode cX4_readPermit 77 = .ok (.getfield 12, 3) := by decide +kernel
theorem dX4_readPermit_80 : decode cX4_readPermit 80 = .ok (.iload_n 1, 1) := by decide +kernel
theorem dX4_readPermit_81 : decode cX4_readPermit 81 = .ok (.putfield 150, 3) := by decide +kernel
theorem dX4_readPermit_84 : decode cX4_readPermit 84 = .ok (.return_, 1) := by decide +kernel
theorem dX4_takeSign_0 : decode cX4_takeSign 0 = .ok (.aload_n 0, 1) := by decide +kernel
theorem dX4_takeSign_1 : decode cX4_takeSign 1 = .ok (.getfield 29, 3) := by decide +kernel
theorem dX4_takeSign_4 : decode cX4_takeSign 4 = .ok (.ifCond .eq 4, 3) := by decide +kernel
theorem dX4_takeSign_7 : decode cX4_takeSign 7 = .ok (.return_, 1) := by decide +kernel
theorem dX4_takeSign_8 : decode cX4_takeSign 8 = .ok (.aload_n 0, 1) := by decide +kernel
theorem dX4_takeSign_9 : decode cX4_takeSign 9 = .ok (.getfield 22, 3) := by decide +kernel
theorem dX4_takeSign_12 : decode cX4_takeSign 12 = .ok (.getfield 37, 3) := by decide +kernel
theorem dX4_takeSign_15 : decode cX4_takeSign 15 = .ok (.iconst 3, 1) := by decide +kernel
theorem dX4_takeSign_16 : decode cX4_takeSign 16 = .ok (.if_icmp .eq 10, 3) := by decide +kernel
theorem dX4_takeSign_19 : decode cX4_takeSign 19 = .ok (.aload_n 0, 1) := by decide +kernel
theorem dX4_takeSign_20 : decode cX4_takeSign 20 = .ok (.iconst 1, 1) := by decide +kernel
theorem dX4_takeSign_21 : decode cX4_takeSign 21 = .ok (.invokevirtual 52, 3) := by decide +kernel
theorem dX4_takeSign_24 : decode cX4_takeSign 24 = .ok (.pop, 1) := by decide +kernel
theorem dX4_takeSign_25 : decode cX4_takeSign 25 = .ok (.return_, 1) := by decide +kernel
theorem dX4_takeSign_26 : decode cX4_takeSign 26 = .ok (.aload_n 0, 1) := by decide +kernel
theorem dX4_takeSign_27 : decode cX4_takeSign 27 = .ok (.getfield 22, 3) := by decide +kernel
theorem dX4_takeSign_30 : decode cX4_takeSign 30 = .ok (.invokevirtual 90, 3) := by decide +kernel
theorem dX4_takeSign_33 : decode cX4_takeSign 33 = .ok (.aload_n 0, 1) := by decide +kernel
theorem dX4_takeSign_34 : decode cX4_takeSign 34 = .ok (.getfield 12, 3) := by decide +kernel
theorem dX4_takeSign_37 : decode cX4_takeSign 37 = .ok (.dup, 1) := by decide +kernel
theorem dX4_takeSign_38 : decode cX4_takeSign 38 = .ok (.getfield 49, 3) := by decide +kernel
theorem dX4_takeSign_41 : decode cX4_takeSign 41 = .ok (.iconst 1, 1) := by decide +kernel
theorem dX4_takeSign_42 : decode cX4_takeSign 42 = .ok (.iadd, 1) := by decide +kernel
theorem dX4_takeSign_43 : decode cX4_takeSign 43 = .ok (.putfield 49, 3) := by decide +kernel
theorem dX4_takeSign_46 : decode cX4_takeSign 46 = .ok (.return_, 1) := by decide +kernel
theorem dX4_takeAfter_0 : decode cX4_takeAfter 0 = .ok (.aload_n 0, 1) := by decide +kernel
theorem dX4_takeAfter_1 : decode cX4_takeAfter 1 = .ok (.getfield 29, 3) := by decide +kernel
theorem dX4_takeAfter_4 : decode cX4_takeAfter 4 = .ok (.ifCond .eq 5, 3) := by decide +kernel
theorem dX4_takeAfter_7 : decode cX4_takeAfter 7 = .ok (.iconst 0, 1) := by decide +kernel
theorem dX4_takeAfter_8 : decode cX4_takeAfter 8 = .ok (.ireturn, 1) := by decide +kernel
theorem dX4_takeAfter_9 : decode cX4_takeAfter 9 = .ok (.aload_n 0, 1) := by decide +kernel
theorem dX4_takeAfter_10 : decode cX4_takeAfter 10 = .ok (.getfield 22, 3) := by decide +kernel
theorem dX4_takeAfter_13 : decode cX4_takeAfter 13 = .ok (.aload_n 1, 1) := by decide +kernel
theorem dX4_takeAfter_14 : decode cX4_takeAfter 14 = .ok (.invokevirtual 45, 3) := by decide +kernel
theorem dX4_takeAfter_17 : decode cX4_takeAfter 17 = .ok (.ifCond .ne 9, 3) := by decide +kernel
theorem dX4_takeAfter_20 : decode cX4_takeAfter 20 = .ok (.aload_n 0, 1) := by decide +kernel
theorem dX4_takeAfter_21 : decode cX4_takeAfter 21 = .ok (.iconst 1, 1) := by decide +kernel
theorem dX4_takeAfter_22 : decode cX4_takeAfter 22 = .ok (.invokevirtual 52, 3) := by decide +kernel
theorem dX4_takeAfter_25 : decode cX4_takeAfter 25 = .ok (.ireturn, 1) := by decide +kernel
theorem dX4_takeAfter_26 : decode cX4_takeAfter 26 = .ok (.aload_n 0, 1) := by decide +kernel
theorem dX4_takeAfter_27 : decode cX4_takeAfter 27 = .ok (.getfield 22, 3) := by decide +kernel
theorem dX4_takeAfter_30 : decode cX4_takeAfter 30 = .ok (.invokevirtual 90, 3) := by decide +kernel
theorem dX4_takeAfter_33 : decode cX4_takeAfter 33 = .ok (.aload_n 0, 1) := by decide +kernel
theorem dX4_takeAfter_34 : decode cX4_takeAfter 34 = .ok (.iload_n 2, 1) := by decide +kernel
theorem dX4_takeAfter_35 : decode cX4_takeAfter 35 = .ok (.iload_n 3, 1) := by decide +kernel
theorem dX4_takeAfter_36 : decode cX4_takeAfter 36 = .ok (.invokevirtual 140, 3) := by decide +kernel
theorem dX4_takeAfter_39 : decode cX4_takeAfter 39 = .ok (.ireturn, 1) := by decide +kernel
theorem dX4_takeNumberBut_0 : decode cX4_takeNumberBut 0 = .ok (.aload_n 0, 1) := by decide +kernel
theorem dX4_takeNumberBut_1 : decode cX4_takeNumberBut 1 = .ok (.getfield 22, 3) := by decide +kernel
theorem dX4_takeNumberBut_4 : decode cX4_takeNumberBut 4 = .ok (.getfield 37, 3) := by decide +kernel
theorem dX4_takeNumberBut_7 : decode cX4_takeNumberBut 7 = .ok (.iconst 2, 1) := by decide +kernel
theorem dX4_takeNumberBut_8 : decode cX4_takeNumberBut 8 = .ok (.if_icmp .ne 18, 3) := by decide +kernel
theorem dX4_takeNumberBut_11 : decode cX4_takeNumberBut 11 = .ok (.aload_n 0, 1) := by decide +kernel
theorem dX4_takeNumberBut_12 : decode cX4_takeNumberBut 12 = .ok (.getfield 22, 3) := by decide +kernel
theorem dX4_takeNumberBut_15 : decode cX4_takeNumberBut 15 = .ok (.getfield 152, 3) := by decide +kernel
theorem dX4_takeNumberBut_18 : decode cX4_takeNumberBut 18 = .ok (.iload_n 2, 1) := by decide +kernel
theorem dX4_takeNumberBut_19 : decode cX4_takeNumberBut 19 = .ok (.if_icmp .gt 7, 3) := by decide +kernel
theorem dX4_takeNumberBut_22 : decode cX4_takeNumberBut 22 = .ok (.iconst 1, 1) := by decide +kernel
theorem dX4_takeNumberBut_23 : decode cX4_takeNumberBut 23 = .ok (.goto 4, 3) := by decide +kernel
theorem dX4_takeNumberBut_26 : decode cX4_takeNumberBut 26 = .ok (.iconst 0, 1) := by decide +kernel
theorem dX4_takeNumberBut_27 : decode cX4_takeNumberBut 27 = .ok (.istore_n 3, 1) := by decide +kernel
theorem dX4_takeNumberBut_28 : decode cX4_takeNumberBut 28 = .ok (.aload_n 0, 1) := by decide +kernel
theorem dX4_takeNumberBut_29 : decode cX4_takeNumberBut 29 = .ok (.getfield 29, 3) := by decide +kernel
theorem dX4_takeNumberBut_32 : decode cX4_takeNumberBut 32 = .ok (.ifCond .ne 27, 3) := by decide +kernel
theorem dX4_takeNumberBut_35 : decode cX4_takeNumberBut 35 = .ok (.iload_n 3, 1) := by decide +kernel
theorem dX4_takeNumberBut_36 : decode cX4_takeNumberBut 36 = .ok (.ifCond .eq 23, 3) := by decide +kernel
theorem dX4_takeNumberBut_39 : decode cX4_takeNumberBut 39 = .ok (.iload_n 1, 1) := by decide +kernel
theorem dX4_takeNumberBut_40 : decode cX4_takeNumberBut 40 = .ok (.aload_n 0, 1) := by decide +kernel
theorem dX4_takeNumberBut_41 : decode cX4_takeNumberBut 41 = .ok (.getfield 22, 3) := by decide +kernel
theorem dX4_takeNumberBut_44 : decode cX4_takeNumberBut 44 = .ok (.getfield 152, 3) := by decide +kernel
theorem dX4_takeNumberBut_47 : decode cX4_takeNumberBut 47 = .ok (.invokestatic 155, 3) := by decide +kernel
theorem dX4_takeNumberBut_50 : decode cX4_takeNumberBut 50 = .ok (.ifCond .eq 9, 3) := by decide +kernel
theorem dX4_takeNumberBut_53 : decode cX4_takeNumberBut 53 = .ok (.aload_n 0, 1) := by decide +kernel
theorem dX4_takeNumberBut_54 : decode cX4_takeNumberBut 54 = .ok (.iconst 2, 1) := by decide +kernel
theorem dX4_takeNumberBut_55 : decode cX4_takeNumberBut 55 = .ok (.invokevirtual 52, 3) := by decide +kernel
theorem dX4_takeNumberBut_58 : decode cX4_takeNumberBut 58 = .ok (.ireturn, 1) := by decide +kernel
theorem dX4_takeNumberBut_59 : decode cX4_takeNumberBut 59 = .ok (.aload_n 0, 1) := by decide +kernel
theorem dX4_takeNumberBut_60 : decode cX4_takeNumberBut 60 = .ok (.iconst 0, 1) := by decide +kernel
theorem dX4_takeNumberBut_61 : decode cX4_takeNumberBut 61 = .ok (.iload_n 2, 1) := by decide +kernel
theorem dX4_takeNumberBut_62 : decode cX4_takeNumberBut 62 = .ok (.invokevirtual 140, 3) := by decide +kernel
theorem dX4_takeNumberBut_65 : decode cX4_takeNumberBut 65 = .ok (.ireturn, 1) := by decide +kernel
theorem dX4_takeNumber_0 : decode cX4_takeNumber 0 = .ok (.aload_n 0, 1) := by decide +kernel
theorem dX4_takeNumber_1 : decode cX4_takeNumber 1 = .ok (.getfield 29, 3) := by decide +kernel
theorem dX4_takeNumber_4 : decode cX4_takeNumber 4 = .ok (.ifCond .eq 5, 3) := by decide +kernel
theorem dX4_takeNumber_7 : decode cX4_takeNumber 7 = .ok (.iconst 0, 1) := by decide +kernel
theorem dX4_takeNumber_8 : decode cX4_takeNumber 8 = .ok (.ireturn, 1) := by decide +kernel
theorem dX4_takeNumber_9 : decode cX4_takeNumber 9 = .ok (.aload_n 0, 1) := by decide +kernel
theorem dX4_takeNumber_10 : decode cX4_takeNumber 10 = .ok (.getfield 22, 3) := by decide +kernel
theorem dX4_takeNumber_13 : decode cX4_takeNumber 13 = .ok (.getfield 37, 3) := by decide +kernel
theorem dX4_takeNumber_16 : decode cX4_takeNumber 16 = .ok (.iconst 2, 1) := by decide +kernel
theorem dX4_takeNumber_17 : decode cX4_takeNumber 17 = .ok (.if_icmp .eq 9, 3) := by decide +kernel
theorem dX4_takeNumber_20 : decode cX4_takeNumber 20 = .ok (.aload_n 0, 1) := by decide +kernel
theorem dX4_takeNumber_21 : decode cX4_takeNumber 21 = .ok (.iconst 1, 1) := by decide +kernel
theorem dX4_takeNumber_22 : decode cX4_takeNumber 22 = .ok (.invokevirtual 52, 3) := by decide +kernel
theorem dX4_takeNumber_25 : decode cX4_takeNumber 25 = .ok (.ireturn, 1) := by decide +kernel
theorem dX4_takeNumber_26 : decode cX4_takeNumber 26 = .ok (.aload_n 0, 1) := by decide +kernel
theorem dX4_takeNumber_27 : decode cX4_takeNumber 27 = .ok (.getfield 22, 3) := by decide +kernel
theorem dX4_takeNumber_30 : decode cX4_takeNumber 30 = .ok (.getfield 152, 3) := by decide +kernel
theorem dX4_takeNumber_33 : decode cX4_takeNumber 33 = .ok (.iload_n 1, 1) := by decide +kernel
theorem dX4_takeNumber_34 : decode cX4_takeNumber 34 = .ok (.if_icmp .lt 14, 3) := by decide +kernel
theorem dX4_takeNumber_37 : decode cX4_takeNumber 37 = .ok (.aload_n 0, 1) := by decide +kernel
theorem dX4_takeNumber_38 : decode cX4_takeNumber 38 = .ok (.getfield 22, 3) := by decide +kernel
theorem dX4_takeNumber_41 : decode cX4_takeNumber 41 = .ok (.getfield 152, 3) := by decide +kernel
theorem dX4_takeNumber_44 : decode cX4_takeNumber 44 = .ok (.iload_n 2, 1) := by decide +kernel
theorem dX4_takeNumber_45 : decode cX4_takeNumber 45 = .ok (.if_icmp .le 9, 3) := by decide +kernel
theorem dX4_takeNumber_48 : decode cX4_takeNumber 48 = .ok (.aload_n 0, 1) := by decide +kernel
theorem dX4_takeNumber_49 : decode cX4_takeNumber 49 = .ok (.iconst 2, 1) := by decide +kernel
theorem dX4_takeNumber_50 : decode cX4_takeNumber 50 = .ok (.invokevirtual 52, 3) := by decide +kernel
theorem dX4_takeNumber_53 : decode cX4_takeNumber 53 = .ok (.ireturn, 1) := by decide +kernel
theorem dX4_takeNumber_54 : decode cX4_takeNumber 54 = .ok (.aload_n 0, 1) := by decide +kernel
theorem dX4_takeNumber_55 : decode cX4_takeNumber 55 = .ok (.getfield 22, 3) := by decide +kernel
theorem dX4_takeNumber_58 : decode cX4_takeNumber 58 = .ok (.getfield 152, 3) := by decide +kernel
theorem dX4_takeNumber_61 : decode cX4_takeNumber 61 = .ok (.istore_n 3, 1) := by decide +kernel
theorem dX4_takeNumber_62 : decode cX4_takeNumber 62 = .ok (.aload_n 0, 1) := by decide +kernel
theorem dX4_takeNumber_63 : decode cX4_takeNumber 63 = .ok (.getfield 22, 3) := by decide +kernel
theorem dX4_takeNumber_66 : decode cX4_takeNumber 66 = .ok (.invokevirtual 90, 3) := by decide +kernel
theorem dX4_takeNumber_69 : decode cX4_takeNumber 69 = .ok (.iload_n 3, 1) := by decide +kernel
theorem dX4_takeNumber_70 : decode cX4_takeNumber 70 = .ok (.ireturn, 1) := by decide +kernel
theorem dX4_blame_0 : decode cX4_blame 0 = .ok (.aload_n 0, 1) := by decide +kernel
theorem dX4_blame_1 : decode cX4_blame 1 = .ok (.iload_n 1, 1) := by decide +kernel
theorem dX4_blame_2 : decode cX4_blame 2 = .ok (.putfield 29, 3) := by decide +kernel
theorem dX4_blame_5 : decode cX4_blame 5 = .ok (.aload_n 0, 1) := by decide +kernel
theorem dX4_blame_6 : decode cX4_blame 6 = .ok (.aload_n 0, 1) := by decide +kernel
theorem dX4_blame_7 : decode cX4_blame 7 = .ok (.getfield 22, 3) := by decide +kernel
theorem dX4_blame_10 : decode cX4_blame 10 = .ok (.getfield 159, 3) := by decide +kernel
theorem dX4_blame_13 : decode cX4_blame 13 = .ok (.putfield 18, 3) := by decide +kernel
theorem dX4_blame_16 : decode cX4_blame 16 = .ok (.iconst 0, 1) := by decide +kernel
theorem dX4_blame_17 : decode cX4_blame 17 = .ok (.ireturn, 1) := by decide +kernel
theorem dX5_init_0 : decode cX5_init 0 = .ok (.aload_n 0, 1) := by decide +kernel
theorem dX5_init_1 : decode cX5_init 1 = .ok (.invokespecial 3, 3) := by decide +kernel
theorem dX5_init_4 : decode cX5_init 4 = .ok (.aload_n 0, 1) := by decide +kernel
theorem dX5_init_5 : decode cX5_init 5 = .ok (.bipush 8, 2) := by decide +kernel
theorem dX5_init_7 : decode cX5_init 7 = .ok (.newarray .int, 2) := by decide +kernel
theorem dX5_init_9 : decode cX5_init 9 = .ok (.putfield 9, 3) := by decide +kernel
theorem dX5_init_12 : decode cX5_init 12 = .ok (.aload_n 0, 1) := by decide +kernel
theorem dX5_init_13 : decode cX5_init 13 = .ok (.iconst 3, 1) := by decide +kernel
theorem dX5_init_14 : decode cX5_init 14 = .ok (.newarray .int, 2) := by decide +kernel
theorem dX5_init_16 : decode cX5_init 16 = .ok (.putfield 15, 3) := by decide +kernel
theorem dX5_init_19 : decode cX5_init 19 = .ok (.aload_n 0, 1) := by decide +kernel
theorem dX5_init_20 : decode cX5_init 20 = .ok (.iconst 3, 1) := by decide +kernel
theorem dX5_init_21 : decode cX5_init 21 = .ok (.newarray .int, 2) := by decide +kernel
theorem dX5_init_23 : decode cX5_init 23 = .ok (.putfield 18, 3) := by decide +kernel
theorem dX5_init_26 : decode cX5_init 26 = .ok (.aload_n 0, 1) := by decide +kernel
theorem dX5_init_27 : decode cX5_init 27 = .ok (.iconst 3, 1) := by decide +kernel
theorem dX5_init_28 : decode cX5_init 28 = .ok (.bipush 8, 2) := by decide +kernel
theorem dX5_init_30 : decode cX5_init 30 = .ok (.multianewarray 21 2, 4) := by decide +kernel
theorem dX5_init_34 : decode cX5_init 34 = .ok (.putfield 23, 3) := by decide +kernel
theorem dX5_init_37 : decode cX5_init 37 = .ok (.aload_n 0, 1) := by decide +kernel
theorem dX5_init_38 : decode cX5_init 38 = .ok (.bipush 8, 2) := by decide +kernel
theorem dX5_init_40 : decode cX5_init 40 = .ok (.newarray .int, 2) := by decide +kernel
theorem dX5_init_42 : decode cX5_init 42 = .ok (.putfield 26, 3) := by decide +kernel
theorem dX5_init_45 : decode cX5_init 45 = .ok (.aload_n 0, 1) := by decide +kernel
theorem dX5_init_46 : decode cX5_init 46 = .ok (.aload_n 1, 1) := by decide +kernel
theorem dX5_init_47 : decode cX5_init 47 = .ok (.putfield 29, 3) := by decide +kernel
theorem dX5_init_50 : decode cX5_init 50 = .ok (.return_, 1) := by decide +kernel
theorem dX5_search_0 : decode cX5_search 0 = .ok (.aload_n 0, 1) := by decide +kernel
theorem dX5_search_1 : decode cX5_search 1 = .ok (.getfield 29, 3) := by decide +kernel
theorem dX5_search_4 : decode cX5_search 4 = .ok (.aload_n 1, 1) := by decide +kernel
theorem dX5_search_5 : decode cX5_search 5 = .ok (.invokevirtual 33, 3) := by decide +kernel
theorem dX5_search_8 : decode cX5_search 8 = .ok (.iload_n 2, 1) := by decide +kernel
theorem dX5_search_9 : decode cX5_search 9 = .ok (.ifCond .lt 20, 3) := by decide +kernel
theorem dX5_search_12 : decode cX5_search 12 = .ok (.iload_n 2, 1) := by decide +kernel
theorem dX5_search_13 : decode cX5_search 13 = .ok (.bipush 8, 2) := by decide +kernel
theorem dX5_search_15 : decode cX5_search 15 = .ok (.if_icmp .ge 14, 3) := by decide +kernel
theorem dX5_search_18 : decode cX5_search 18 = .ok (.aload_n 0, 1) := by decide +kernel
theorem dX5_search_19 : decode cX5_search 19 = .ok (.getfield 29, 3) := by decide +kernel
theorem dX5_search_22 : decode cX5_search 22 = .ok (.getfield 39, 3) := by decide +kernel
theorem dX5_search_25 : decode cX5_search 25 = .ok (.iload_n 2, 1) := by decide +kernel
theorem dX5_search_26 : decode cX5_search 26 = .ok (.ldc 40, 2) := by decide +kernel
theorem dX5_search_28 : decode cX5_search 28 = .ok (.iastore, 1) := by decide +kernel
theorem dX5_search_29 : decode cX5_search 29 = .ok (.aload_n 0, 1) := by decide +kernel
theorem dX5_search_30 : decode cX5_search 30 = .ok (.iload_n 3, 1) := by decide +kernel
theorem dX5_search_31 : decode cX5_search 31 = .ok (.putfield 41, 3) := by decide +kernel
theorem dX5_search_34 : decode cX5_search 34 = .ok (.aload_n 0, 1) := by decide +kernel
theorem dX5_search_35 : decode cX5_search 35 = .ok (.aload_n 0, 1) := by decide +kernel
theorem dX5_search_36 : decode cX5_search 36 = .ok (.getfield 29, 3) := by decide +kernel
theorem dX5_search_39 : decode cX5_search 39 = .ok (.invokevirtual 45, 3) := by decide +kernel
theorem dX5_search_42 : decode cX5_search 42 = .ok (.putfield 49, 3) := by decide +kernel
theorem dX5_search_45 : decode cX5_search 45 = .ok (.aload_n 0, 1) := by decide +kernel
theorem dX5_search_46 : decode cX5_search 46 = .ok (.aload_n 0, 1) := by decide +kernel
theorem dX5_search_47 : decode cX5_search 47 = .ok (.getfield 49, 3) := by decide +kernel
theorem dX5_search_50 : decode cX5_search 50 = .ok (.putfield 53, 3) := by decide +kernel
theorem dX5_search_53 : decode cX5_search 53 = .ok (.aload_n 0, 1) := by decide +kernel
theorem dX5_search_54 : decode cX5_search 54 = .ok (.iconst 0, 1) := by decide +kernel
theorem dX5_search_55 : decode cX5_search 55 = .ok (.putfield 56, 3) := by decide +kernel
theorem dX5_search_58 : decode cX5_search 58 = .ok (.aload_n 0, 1) := by decide +kernel
theorem dX5_search_59 : decode cX5_search 59 = .ok (.iconst (-1), 1) := by decide +kernel
theorem dX5_search_60 : decode cX5_search 60 = .ok (.putfield 59, 3) := by decide +kernel
theorem dX5_search_63 : decode cX5_search 63 = .ok (.aload_n 0, 1) := by decide +kernel
theorem dX5_search_64 : decode cX5_search 64 = .ok (.iconst 0, 1) := by decide +kernel
theorem dX5_search_65 : decode cX5_search 65 = .ok (.putfield 62, 3) := by decide +kernel
theorem dX5_search_68 : decode cX5_search 68 = .ok (.aload_n 0, 1) := by decide +kernel
theorem dX5_search_69 : decode cX5_search 69 = .ok (.iconst 0, 1) := by decide +kernel
theorem dX5_search_70 : decode cX5_search 70 = .ok (.putfield 65, 3) := by decide +kernel
theorem dX5_search_73 : decode cX5_search 73 = .ok (.aload_n 0, 1) := by decide +kernel
theorem dX5_search_74 : decode cX5_search 74 = .ok (.getfield 29, 3) := by decide +kernel
theorem dX5_search_77 : decode cX5_search 77 = .ok (.getfield 68, 3) := by decide +kernel
theorem dX5_search_80 : decode cX5_search 80 = .ok (.getfield 72, 3) := by decide +kernel
theorem dX5_search_83 : decode cX5_search 83 = .ok (.aload_n 0, 1) := by decide +kernel
theorem dX5_search_84 : decode cX5_search 84 = .ok (.invokevirtual 77, 3) := by decide +kernel
theorem dX5_search_87 : decode cX5_search 87 = .ok (.iconst (-1), 1) := by decide +kernel
theorem dX5_search_88 : decode cX5_search 88 = .ok (.ixor, 1) := by decide +kernel
theorem dX5_search_89 : decode cX5_search 89 = .ok (.iand, 1) := by decide +kernel
theorem dX5_search_90 : decode cX5_search 90 = .ok (.ifCond .ne 8, 3) := by decide +kernel
theorem dX5_search_93 : decode cX5_search 93 = .ok (.aload_n 0, 1) := by decide +kernel
theorem dX5_search_94 : decode cX5_search 94 = .ok (.iconst 0, 1) := by decide +kernel
theorem dX5_search_95 : decode cX5_search 95 = .ok (.invokestatic 80, 3) := by decide +kernel
theorem dX5_search_98 : decode cX5_search 98 = .ok (.aload_n 0, 1) := by decide +kernel
theorem dX5_search_99 : decode cX5_search 99 = .ok (.iconst 1, 1) := by decide +kernel
theorem dX5_search_100 : decode cX5_search 100 = .ok (.putfield 84, 3) := by decide +kernel
theorem dX5_search_103 : decode cX5_search 103 = .ok (.return_, 1) := by decide +kernel
theorem dX5_best_0 : decode cX5_best 0 = .ok (.aload_n 0, 1) := by decide +kernel
theorem dX5_best_1 : decode cX5_best 1 = .ok (.getfield 56, 3) := by decide +kernel
theorem dX5_best_4 : decode cX5_best 4 = .ok (.ifCond .le 12, 3) := by decide +kernel
theorem dX5_best_7 : decode cX5_best 7 = .ok (.aload_n 0, 1) := by decide +kernel
theorem dX5_best_8 : decode cX5_best 8 = .ok (.getfield 15, 3) := by decide +kernel
theorem dX5_best_11 : decode cX5_best 11 = .ok (.iload_n 1, 1) := by decide +kernel
theorem dX5_best_12 : decode cX5_best 12 = .ok (.iaload, 1) := by decide +kernel
theorem dX5_best_13 : decode cX5_best 13 = .ok (.goto 4, 3) := by decide +kernel
theorem dX5_best_16 : decode cX5_best 16 = .ok (.iconst (-1), 1) := by decide +kernel
theorem dX5_best_17 : decode cX5_best 17 = .ok (.ireturn, 1) := by decide +kernel
theorem dX5_officialAt_0 : decode cX5_officialAt 0 = .ok (.aload_n 0, 1) := by decide +kernel
theorem dX5_officialAt_1 : decode cX5_officialAt 1 = .ok (.getfield 56, 3) := by decide +kernel
theorem dX5_officialAt_4 : decode cX5_officialAt 4 = .ok (.ifCond .le 28, 3) := by decide +kernel
theorem dX5_officialAt_7 : decode cX5_officialAt 7 = .ok (.iload_n 2, 1) := by decide +kernel
theorem dX5_officialAt_8 : decode cX5_officialAt 8 = .ok (.ifCond .lt 24, 3) := by decide +kernel
theorem dX5_officialAt_11 : decode cX5_officialAt 11 = .ok (.iload_n 2, 1) := by decide +kernel
theorem dX5_officialAt_12 : decode cX5_officialAt 12 = .ok (.aload_n 0, 1) := by decide +kernel
theorem dX5_officialAt_13 : decode cX5_officialAt 13 = .ok (.getfield 18, 3) := by decide +kernel
theorem dX5_officialAt_16 : decode cX5_officialAt 16 = .ok (.iload_n 1, 1) := by decide +kernel
theorem dX5_officialAt_17 : decode cX5_officialAt 17 = .ok (.iaload, 1) := by decide +kernel
theorem dX5_officialAt_18 : decode cX5_officialAt 18 = .ok (.if_icmp .ge 14, 3) := by decide +kernel
theorem dX5_officialAt_21 : decode cX5_officialAt 21 = .ok (.aload_n 0, 1) := by decide +kernel
theorem dX5_officialAt_22 : decode cX5_officialAt 22 = .ok (.getfield 23, 3) := by decide +kernel
theorem dX5_officialAt_25 : decode cX5_officialAt 25 = .ok (.iload_n 1, 1) := by decide +kernel
theorem dX5_officialAt_26 : decode cX5_officialAt 26 = .ok (.aaload, 1) := by decide +kernel
theorem dX5_officialAt_27 : decode cX5_officialAt 27 = .ok (.iload_n 2, 1) := by decide +kernel
theorem dX5_officialAt_28 : decode cX5_officialAt 28 = .ok (.iaload, 1) := by decide +kernel
theorem dX5_officialAt_29 : decode cX5_officialAt 29 = .ok (.goto 4, 3) := by decide +kernel
theorem dX5_officialAt_32 : decode cX5_officialAt 32 = .ok (.iconst (-1), 1) := by decide +kernel
theorem dX5_officialAt_33 : decode cX5_officialAt 33 = .ok (.ireturn, 1) := by decide +kernel
theorem dX5_officialsOf_0 : decode cX5_officialsOf 0 = .ok (.aload_n 0, 1) := by decide +kernel
theorem dX5_officialsOf_1 : decode cX5_officialsOf 1 = .ok (.getfield 56, 3) := by decide +kernel
theorem dX5_officialsOf_4 : decode cX5_officialsOf 4 = .ok (.ifCond .ne 5, 3) := by decide +kernel
theorem dX5_officialsOf_7 : decode cX5_officialsOf 7 = .ok (.iconst (-1), 1) := by decide +kernel
theorem dX5_officialsOf_8 : decode cX5_officialsOf 8 = .ok (.ireturn, 1) := by decide +kernel
theorem dX5_officialsOf_9 : decode cX5_officialsOf 9 = .ok (.iconst 0, 1) := by decide +kernel
theorem dX5_officialsOf_10 : decode cX5_officialsOf 10 = .ok (.istore_n 2, 1) := by decide +kernel
theorem dX5_officialsOf_11 : decode cX5_officialsOf 11 = .ok (.iconst 0, 1) := by decide +kernel
theorem dX5_officialsOf_12 : decode cX5_officialsOf 12 = .ok (.istore_n 3, 1) := by decide +kernel
theorem dX5_officialsOf_13 : decode cX5_officialsOf 13 = .ok (.iload_n 3, 1) := by decide +kernel
theorem dX5_officialsOf_14 : decode cX5_officialsOf 14 = .ok (.aload_n 0, 1) := by decide +kernel
theorem dX5_officialsOf_15 : decode cX5_officialsOf 15 = .ok (.getfield 18, 3) := by decide +kernel
theorem dX5_officialsOf_18 : decode cX5_officialsOf 18 = .ok (.iload_n 1, 1) := by decide +kernel
theorem dX5_officialsOf_19 : decode cX5_officialsOf 19 = .ok (.iaload, 1) := by decide +kernel
theorem dX5_officialsOf_20 : decode cX5_officialsOf 20 = .ok (.if_icmp .ge 22, 3) := by decide +kernel
theorem dX5_officialsOf_23 : decode cX5_officialsOf 23 = .ok (.iload_n 2, 1) := by decide +kernel
theorem dX5_officialsOf_24 : decode cX5_officialsOf 24 = .ok (.iconst 1, 1) := by decide +kernel
theorem dX5_officialsOf_25 : decode cX5_officialsOf 25 = .ok (.aload_n 0, 1) := by decide +kernel
theorem dX5_officialsOf_26 : decode cX5_officialsOf 26 = .ok (.getfield 23, 3) := by decide +kernel
theorem dX5_officialsOf_29 : decode cX5_officialsOf 29 = .ok (.iload_n 1, 1) := by decide +kernel
theorem dX5_officialsOf_30 : decode cX5_officialsOf 30 = .ok (.aaload, 1) := by decide +kernel
theorem dX5_officialsOf_31 : decode cX5_officialsOf 31 = .ok (.iload_n 3, 1) := by decide +kernel
theorem dX5_officialsOf_32 : decode cX5_officialsOf 32 = .ok (.iaload, 1) := by decide +kernel
theorem dX5_officialsOf_33 : decode cX5_officialsOf 33 = .ok (.ishl, 1) := by decide +kernel
theorem dX5_officialsOf_34 : decode cX5_officialsOf 34 = .ok (.ior, 1) := by decide +kernel
theorem dX5_officialsOf_35 : decode cX5_officialsOf 35 = .ok (.istore_n 2, 1) := by decide +kernel
theorem dX5_officialsOf_36 : decode cX5_officialsOf 36 = .ok (.iinc 3 1, 3) := by decide +kernel
theorem dX5_officialsOf_39 : decode cX5_officialsOf 39 = .ok (.goto (-26), 3) := by decide +kernel
theorem dX5_officialsOf_42 : decode cX5_officialsOf 42 = .ok (.iload_n 2, 1) := by decide +kernel
theorem dX5_officialsOf_43 : decode cX5_officialsOf 43 = .ok (.ireturn, 1) := by decide +kernel
theorem dX5_spareHours_0 : decode cX5_spareHours 0 = .ok (.aload_n 0, 1) := by decide +kernel
theorem dX5_spareHours_1 : decode cX5_spareHours 1 = .ok (.getfield 56, 3) := by decide +kernel
theorem dX5_spareHours_4 : decode cX5_spareHours 4 = .ok (.ifCond .eq 25, 3) := by decide +kernel
theorem dX5_spareHours_7 : decode cX5_spareHours 7 = .ok (.iload_n 1, 1) := by decide +kernel
theorem dX5_spareHours_8 : decode cX5_spareHours 8 = .ok (.ifCond .lt 21, 3) := by decide +kernel
theorem dX5_spareHours_11 : decode cX5_spareHours 11 = .ok (.iload_n 1, 1) := by decide +kernel
theorem dX5_spareHours_12 : decode cX5_spareHours 12 = .ok (.bipush 8, 2) := by decide +kernel
theorem dX5_spareHours_14 : decode cX5_spareHours 14 = .ok (.if_icmp .ge 15, 3) := by decide +kernel
theorem dX5_spareHours_17 : decode cX5_spareHours 17 = .ok (.aload_n 0, 1) := by decide +kernel
theorem dX5_spareHours_18 : decode cX5_spareHours 18 = .ok (.iconst 0, 1) := by decide +kernel
theorem dX5_spareHours_19 : decode cX5_spareHours 19 = .ok (.invokevirtual 87, 3) := by decide +kernel
theorem dX5_spareHours_22 : decode cX5_spareHours 22 = .ok (.iload_n 1, 1) := by decide +kernel
theorem dX5_spareHours_23 : decode cX5_spareHours 23 = .ok (.invokestatic 91, 3) := by decide +kernel
theorem dX5_spareHours_26 : decode cX5_spareHours 26 = .ok (.ifCond .ne 5, 3) := by decide +kernel
theorem dX5_spareHours_29 : decode cX5_spareHours 29 = .ok (.iconst (-1), 1) := by decide +kernel
theorem dX5_spareHours_30 : decode cX5_spareHours 30 = .ok (.ireturn, 1) := by decide +kernel
theorem dX5_spareHours_31 : decode cX5_spareHours 31 = .ok (.aload_n 0, 1) := by decide +kernel
theorem dX5_spareHours_32 : decode cX5_spareHours 32 = .ok (.getfield 26, 3) := by decide +kernel
theorem dX5_spareHours_35 : decode cX5_spareHours 35 = .ok (.iload_n 1, 1) := by decide +kernel
theorem dX5_spareHours_36 : decode cX5_spareHours 36 = .ok (.iaload, 1) := by decide +kernel
theorem dX5_spareHours_37 : decode cX5_spareHours 37 = .ok (.istore_n 2, 1) := by decide +kernel
theorem dX5_spareHours_38 : decode cX5_spareHours 38 = .ok (.iload_n 2, 1) := by decide +kernel
theorem dX5_spareHours_39 : decode cX5_spareHours 39 = .ok (.ldc 40, 2) := by decide +kernel
theorem dX5_spareHours_41 : decode cX5_spareHours 41 = .ok (.if_icmp .eq 13, 3) := by decide +kernel
theorem dX5_spareHours_44 : decode cX5_spareHours 44 = .ok (.iload_n 2, 1) := by decide +kernel
theorem dX5_spareHours_45 : decode cX5_spareHours 45 = .ok (.aload_n 0, 1) := by decide +kernel
theorem dX5_spareHours_46 : decode cX5_spareHours 46 = .ok (.getfield 15, 3) := by decide +kernel
theorem dX5_spareHours_49 : decode cX5_spareHours 49 = .ok (.iconst 0, 1) := by decide +kernel
theorem dX5_spareHours_50 : decode cX5_spareHours 50 = .ok (.iaload, 1) := by decide +kernel
theorem dX5_spareHours_51 : decode cX5_spareHours 51 = .ok (.if_icmp .ge 7, 3) := by decide +kernel
theorem dX5_spareHours_54 : decode cX5_spareHours 54 = .ok (.iconst (-1), 1) := by decide +kernel
theorem dX5_spareHours_55 : decode cX5_spareHours 55 = .ok (.goto 11, 3) := by decide +kernel
theorem dX5_spareHours_58 : decode cX5_spareHours 58 = .ok (.iload_n 2, 1) := by decide +kernel
theorem dX5_spareHours_59 : decode cX5_spareHours 59 = .ok (.aload_n 0, 1) := by decide +kernel
theorem dX5_spareHours_60 : decode cX5_spareHours 60 = .ok (.getfield 15, 3) := by decide +kernel
theorem dX5_spareHours_63 : decode cX5_spareHours 63 = .ok (.iconst 0, 1) := by decide +kernel
theorem dX5_spareHours_64 : decode cX5_spareHours 64 = .ok (.iaload, 1) := by decide +kernel
theorem dX5_spareHours_65 : decode cX5_spareHours 65 = .ok (.isub, 1) := by decide +kernel
theorem dX5_spareHours_66 : decode cX5_spareHours 66 = .ok (.ireturn, 1) := by decide +kernel
theorem dX5_obtainable_0 : decode cX5_obtainable 0 = .ok (.aload_n 0, 1) := by decide +kernel
theorem dX5_obtainable_1 : decode cX5_obtainable 1 = .ok (.getfield 49, 3) := by decide +kernel
theorem dX5_obtainable_4 : decode cX5_obtainable 4 = .ok (.istore_n 1, 1) := by decide +kernel
theorem dX5_obtainable_5 : decode cX5_obtainable 5 = .ok (.iconst 0, 1) := by decide +kernel
theorem dX5_obtainable_6 : decode cX5_obtainable 6 = .ok (.istore_n 2, 1) := by decide +kernel
theorem dX5_obtainable_7 : decode cX5_obtainable 7 = .ok (.iload_n 2, 1) := by decide +kernel
theorem dX5_obtainable_8 : decode cX5_obtainable 8 = .ok (.bipush 8, 2) := by decide +kernel
theorem dX5_obtainable_10 : decode cX5_obtainable 10 = .ok (.if_icmp .ge 104, 3) := by decide +kernel
theorem dX5_obtainable_13 : decode cX5_obtainable 13 = .ok (.iconst 0, 1) := by decide +kernel
theorem dX5_obtainable_14 : decode cX5_obtainable 14 = .ok (.istore_n 3, 1) := by decide +kernel
theorem dX5_obtainable_15 : decode cX5_obtainable 15 = .ok (.iload_n 3, 1) := by decide +kernel
theorem dX5_obtainable_16 : decode cX5_obtainable 16 = .ok (.aload_n 0, 1) := by decide +kernel
theorem dX5_obtainable_17 : decode cX5_obtainable 17 = .ok (.getfield 29, 3) := by decide +kernel
theorem dX5_obtainable_20 : decode cX5_obtainable 20 = .ok (.getfield 68, 3) := by decide +kernel
theorem dX5_obtainable_23 : decode cX5_obtainable 23 = .ok (.getfield 95, 3) := by decide +kernel
theorem dX5_obtainable_26 : decode cX5_obtainable 26 = .ok (.if_icmp .ge 82, 3) := by decide +kernel
theorem dX5_obtainable_29 : decode cX5_obtainable 29 = .ok (.aload_n 0, 1) := by decide +kernel
theorem dX5_obtainable_30 : decode cX5_obtainable 30 = .ok (.getfield 29, 3) := by decide +kernel
theorem dX5_obtainable_33 : decode cX5_obtainable 33 = .ok (.iload_n 3, 1) := by decide +kernel
theorem dX5_obtainable_34 : decode cX5_obtainable 34 = .ok (.invokevirtual 98, 3) := by decide +kernel
theorem dX5_obtainable_37 : decode cX5_obtainable 37 = .ok (.istore 4, 2) := by decide +kernel
theorem dX5_obtainable_39 : decode cX5_obtainable 39 = .ok (.iload 4, 2) := by decide +kernel
theorem dX5_obtainable_41 : decode cX5_obtainable 41 = .ok (.iconst (-1), 1) := by decide +kernel
theorem dX5_obtainable_42 : decode cX5_obtainable 42 = .ok (.if_icmp .eq 24, 3) := by decide +kernel
theorem dX5_obtainable_45 : decode cX5_obtainable 45 = .ok (.aload_n 0, 1) := by decide +kernel
theorem dX5_obtainable_46 : decode cX5_obtainable 46 = .ok (.getfield 29, 3) := by decide +kernel
theorem dX5_obtainable_49 : decode cX5_obtainable 49 = .ok (.getfield 101, 3) := by decide +kernel
theorem dX5_obtainable_52 : decode cX5_obtainable 52 = .ok (.iload_n 3, 1) := by decide +kernel
theorem dX5_obtainable_53 : decode cX5_obtainable 53 = .ok (.iload 4, 2) := by decide +kernel
theorem dX5_obtainable_55 : decode cX5_obtainable 55 = .ok (.invokevirtual 105, 3) := by decide +kernel
theorem dX5_obtainable_58 : decode cX5_obtainable 58 = .ok (.iconst (-1), 1) := by decide +kernel
theorem dX5_obtainable_59 : decode cX5_obtainable 59 = .ok (.if_icmp .eq 7, 3) := by decide +kernel
theorem dX5_obtainable_62 : decode cX5_obtainable 62 = .ok (.iconst 1, 1) := by decide +kernel
theorem dX5_obtainable_63 : decode cX5_obtainable 63 = .ok (.goto 4, 3) := by decide +kernel
theorem dX5_obtainable_66 : decode cX5_obtainable 66 = .ok (.iconst 0, 1) := by decide +kernel
theorem dX5_obtainable_67 : decode cX5_obtainable 67 = .ok (.istore 5, 2) := by decide +kernel
theorem dX5_obtainable_69 : decode cX5_obtainable 69 = .ok (.iload 5, 2) := by decide +kernel
theorem dX5_obtainable_71 : decode cX5_obtainable 71 = .ok (.ifCond .eq 31, 3) := by decide +kernel
theorem dX5_obtainable_74 : decode cX5_obtainable 74 = .ok (.aload_n 0, 1) := by decide +kernel
theorem dX5_obtainable_75 : decode cX5_obtainable 75 = .ok (.getfield 29, 3) := by decide +kernel
theorem dX5_obtainable_78 : decode cX5_obtainable 78 = .ok (.getfield 68, 3) := by decide +kernel
theorem dX5_obtainable_81 : decode cX5_obtainable 81 = .ok (.getfield 111, 3) := by decide +kernel
theorem dX5_obtainable_84 : decode cX5_obtainable 84 = .ok (.bipush 9, 2) := by decide +kernel
theorem dX5_obtainable_86 : decode cX5_obtainable 86 = .ok (.aaload, 1) := by decide +kernel
theorem dX5_obtainable_87 : decode cX5_obtainable 87 = .ok (.iload_n 3, 1) := by decide +kernel
theorem dX5_obtainable_88 : decode cX5_obtainable 88 = .ok (.iaload, 1) := by decide +kernel
theorem dX5_obtainable_89 : decode cX5_obtainable 89 = .ok (.iload_n 1, 1) := by decide +kernel
theorem dX5_obtainable_90 : decode cX5_obtainable 90 = .ok (.iconst (-1), 1) := by decide +kernel
theorem dX5_obtainable_91 : decode cX5_obtainable 91 = .ok (.ixor, 1) := by decide +kernel
theorem dX5_obtainable_92 : decode cX5_obtainable 92 = .ok (.iand, 1) := by decide +kernel
theorem dX5_obtainable_93 : decode cX5_obtainable 93 = .ok (.ifCond .ne 9, 3) := by decide +kernel
theorem dX5_obtainable_96 : decode cX5_obtainable 96 = .ok (.iload_n 1, 1) := by decide +kernel
theorem dX5_obtainable_97 : decode cX5_obtainable 97 = .ok (.iconst 1, 1) := by decide +kernel
theorem dX5_obtainable_98 : decode cX5_obtainable 98 = .ok (.iload_n 3, 1) := by decide +kernel
theorem dX5_obtainable_99 : decode cX5_obtainable 99 = .ok (.ishl, 1) := by decide +kernel
theorem dX5_obtainable_100 : decode cX5_obtainable 100 = .ok (.ior, 1) := by decide +kernel
theorem dX5_obtainable_101 : decode cX5_obtainable 101 = .ok (.istore_n 1, 1) := by decide +kernel
theorem dX5_obtainable_102 : decode cX5_obtainable 102 = .ok (.iinc 3 1, 3) := by decide +kernel
theorem dX5_obtainable_105 : decode cX5_obtainable 105 = .ok (.goto (-90), 3) := by decide +kernel
theorem dX5_obtainable_108 : decode cX5_obtainable 108 = .ok (.iinc 2 1, 3) := by decide +kernel
theorem dX5_obtainable_111 : decode cX5_obtainable 111 = .ok (.goto (-104), 3) := by decide +kernel
theorem dX5_obtainable_114 : decode cX5_obtainable 114 = .ok (.iload_n 1, 1) := by decide +kernel
theorem dX5_obtainable_115 : decode cX5_obtainable 115 = .ok (.ireturn, 1) := by decide +kernel
theorem dX5_follow_0 : decode cX5_follow 0 = .ok (.aload_n 0, 1) := by decide +kernel
theorem dX5_follow_1 : decode cX5_follow 1 = .ok (.getfield 29, 3) := by decide +kernel
theorem dX5_follow_4 : decode cX5_follow 4 = .ok (.astore_n 2, 1) := by decide +kernel
theorem dX5_follow_5 : decode cX5_follow 5 = .ok (.aload_n 2, 1) := by decide +kernel
theorem dX5_follow_6 : decode cX5_follow 6 = .ok (.invokevirtual 114, 3) := by decide +kernel
theorem dX5_follow_9 : decode cX5_follow 9 = .ok (.istore_n 3, 1) := by decide +kernel
theorem dX5_follow_10 : decode cX5_follow 10 = .ok (.iload_n 3, 1) := by decide +kernel
theorem dX5_follow_11 : decode cX5_follow 11 = .ok (.ifCond .ne 9, 3) := by decide +kernel
theorem dX5_follow_14 : decode cX5_follow 14 = .ok (.aload_n 0, 1) := by decide +kernel
theorem dX5_follow_15 : decode cX5_follow 15 = .ok (.iload_n 1, 1) := by decide +kernel
theorem dX5_follow_16 : decode cX5_follow 16 = .ok (.invokevirtual 117, 3) := by decide +kernel
theorem dX5_follow_19 : decode cX5_follow 19 = .ok (.return_, 1) := by decide +kernel
theorem dX5_follow_20 : decode cX5_follow 20 = .ok (.iload_n 1, 1) := by decide +kernel
theorem dX5_follow_21 : decode cX5_follow 21 = .ok (.bipush 8, 2) := by decide +kernel
theorem dX5_follow_23 : decode cX5_follow 23 = .ok (.if_icmp .ge 12, 3) := by decide +kernel
theorem dX5_follow_26 : decode cX5_follow 26 = .ok (.aload_n 0, 1) := by decide +kernel
theorem dX5_follow_27 : decode cX5_follow 27 = .ok (.iload_n 3, 1) := by decide +kernel
theorem dX5_follow_28 : decode cX5_follow 28 = .ok (.iload_n 1, 1) := by decide +kernel
theorem dX5_follow_29 : decode cX5_follow 29 = .ok (.invokevirtual 121, 3) := by decide +kernel
theorem dX5_follow_32 : decode cX5_follow 32 = .ok (.ifCond .eq 4, 3) := by decide +kernel
theorem dX5_follow_35 : decode cX5_follow 35 = .ok (.return_, 1) := by decide +kernel
theorem dX5_follow_36 : decode cX5_follow 36 = .ok (.aload_n 2, 1) := by decide +kernel
theorem dX5_follow_37 : decode cX5_follow 37 = .ok (.getfield 124, 3) := by decide +kernel
theorem dX5_follow_40 : decode cX5_follow 40 = .ok (.istore 4, 2) := by decide +kernel
theorem dX5_follow_42 : decode cX5_follow 42 = .ok (.aload_n 2, 1) := by decide +kernel
theorem dX5_follow_43 : decode cX5_follow 43 = .ok (.getfield 127, 3) := by decide +kernel
theorem dX5_follow_46 : decode cX5_follow 46 = .ok (.istore 5, 2) := by decide +kernel
theorem dX5_follow_48 : decode cX5_follow 48 = .ok (.aload_n 2, 1) := by decide +kernel
theorem dX5_follow_49 : decode cX5_follow 49 = .ok (.getfield 130, 3) := by decide +kernel
theorem dX5_follow_52 : decode cX5_follow 52 = .ok (.istore 6, 2) := by decide +kernel
theorem dX5_follow_54 : decode cX5_follow 54 = .ok (.aload_n 2, 1) := by decide +kernel
theorem dX5_follow_55 : decode cX5_follow 55 = .ok (.getfield 133, 3) := by decide +kernel
theorem dX5_follow_58 : decode cX5_follow 58 = .ok (.istore 7, 2) := by decide +kernel
theorem dX5_follow_60 : decode cX5_follow 60 = .ok (.iconst 0, 1) := by decide +kernel
theorem dX5_follow_61 : decode cX5_follow 61 = .ok (.istore 8, 2) := by decide +kernel
theorem dX5_follow_63 : decode cX5_follow 63 = .ok (.iload 8, 2) := by decide +kernel
theorem dX5_follow_65 : decode cX5_follow 65 = .ok (.aload_n 2, 1) := by decide +kernel
theorem dX5_follow_66 : decode cX5_follow 66 = .ok (.getfield 68, 3) := by decide +kernel
theorem dX5_follow_69 : decode cX5_follow 69 = .ok (.getfield 95, 3) := by decide +kernel
theorem dX5_follow_72 : decode cX5_follow 72 = .ok (.if_icmp .ge 139, 3) := by decide +kernel
theorem dX5_follow_75 : decode cX5_follow 75 = .ok (.iload 8, 2) := by decide +kernel
theorem dX5_follow_77 : decode cX5_follow 77 = .ok (.bipush 8, 2) := by decide +kernel
theorem dX5_follow_79 : decode cX5_follow 79 = .ok (.if_icmp .ge 132, 3) := by decide +kernel
theorem dX5_follow_82 : decode cX5_follow 82 = .ok (.aload_n 0, 1) := by decide +kernel
theorem dX5_follow_83 : decode cX5_follow 83 = .ok (.getfield 53, 3) := by decide +kernel
theorem dX5_follow_86 : decode cX5_follow 86 = .ok (.iload 8, 2) := by decide +kernel
theorem dX5_follow_88 : decode cX5_follow 88 = .ok (.invokestatic 91, 3) := by decide +kernel
theorem dX5_follow_91 : decode cX5_follow 91 = .ok (.ifCond .eq 7, 3) := by decide +kernel
theorem dX5_follow_94 : decode cX5_follow 94 = .ok (.iconst (-1), 1) := by decide +kernel
theorem dX5_follow_95 : decode cX5_follow 95 = .ok (.goto 9, 3) := by decide +kernel
theorem dX5_follow_98 : decode cX5_follow 98 = .ok (.aload_n 2, 1) := by decide +kernel
theorem dX5_follow_99 : decode cX5_follow 99 = .ok (.iload 8, 2) := by decide +kernel
theorem dX5_follow_101 : decode cX5_follow 101 = .ok (.invokevirtual 136, 3) := by decide +kernel
theorem dX5_follow_104 : decode cX5_follow 104 = .ok (.istore 9, 2) := by decide +kernel
theorem dX5_follow_106 : decode cX5_follow 106 = .ok (.iload 9, 2) := by decide +kernel
theorem dX5_follow_108 : decode cX5_follow 108 = .ok (.iconst (-1), 1) := by decide +kernel
theorem dX5_follow_109 : decode cX5_follow 109 = .ok (.if_icmp .eq 96, 3) := by decide +kernel
theorem dX5_follow_112 : decode cX5_follow 112 = .ok (.aload_n 2, 1) := by decide +kernel
theorem dX5_follow_113 : decode cX5_follow 113 = .ok (.getfield 39, 3) := by decide +kernel
theorem dX5_follow_116 : decode cX5_follow 116 = .ok (.iload 8, 2) := by decide +kernel
theorem dX5_follow_118 : decode cX5_follow 118 = .ok (.iaload, 1) := by decide +kernel
theorem dX5_follow_119 : decode cX5_follow 119 = .ok (.istore 10, 2) := by decide +kernel
theorem dX5_follow_121 : decode cX5_follow 121 = .ok (.aload_n 0, 1) := by decide +kernel
theorem dX5_follow_122 : decode cX5_follow 122 = .ok (.getfield 9, 3) := by decide +kernel
theorem dX5_follow_125 : decode cX5_follow 125 = .ok (.iload_n 1, 1) := by decide +kernel
theorem dX5_follow_126 : decode cX5_follow 126 = .ok (.iload 8, 2) := by decide +kernel
theorem dX5_follow_128 : decode cX5_follow 128 = .ok (.iastore, 1) := by decide +kernel
theorem dX5_follow_129 : decode cX5_follow 129 = .ok (.aload_n 0, 1) := by decide +kernel
theorem dX5_follow_130 : decode cX5_follow 130 = .ok (.dup, 1) := by decide +kernel
theorem dX5_follow_131 : decode cX5_follow 131 = .ok (.getfield 53, 3) := by decide +kernel
theorem dX5_follow_134 : decode cX5_follow 134 = .ok (.iconst 1, 1) := by decide +kernel
theorem dX5_follow_135 : decode cX5_follow 135 = .ok (.iload 8, 2) := by decide +kernel
theorem dX5_follow_137 : decode cX5_follow 137 = .ok (.ishl, 1) := by decide +kernel
theorem dX5_follow_138 : decode cX5_follow 138 = .ok (.ior, 1) := by decide +kernel
theorem dX5_follow_139 : decode cX5_follow 139 = .ok (.putfield 53, 3) := by decide +kernel
theorem dX5_follow_142 : decode cX5_follow 142 = .ok (.aload_n 2, 1) := by decide +kernel
theorem dX5_follow_143 : decode cX5_follow 143 = .ok (.iload 8, 2) := by decide +kernel
theorem dX5_follow_145 : decode cX5_follow 145 = .ok (.iload 9, 2) := by decide +kernel
theorem dX5_follow_147 : decode cX5_follow 147 = .ok (.invokevirtual 139, 3) := by decide +kernel
theorem dX5_follow_150 : decode cX5_follow 150 = .ok (.aload_n 0, 1) := by decide +kernel
theorem dX5_follow_151 : decode cX5_follow 151 = .ok (.iload_n 1, 1) := by decide +kernel
theorem dX5_follow_152 : decode cX5_follow 152 = .ok (.iconst 1, 1) := by decide +kernel
theorem dX5_follow_153 : decode cX5_follow 153 = .ok (.iadd, 1) := by decide +kernel
theorem dX5_follow_154 : decode cX5_follow 154 = .ok (.invokestatic 80, 3) := by decide +kernel
theorem dX5_follow_157 : decode cX5_follow 157 = .ok (.aload_n 2, 1) := by decide +kernel
theorem dX5_follow_158 : decode cX5_follow 158 = .ok (.getfield 39, 3) := by decide +kernel
theorem dX5_follow_161 : decode cX5_follow 161 = .ok (.iload 8, 2) := by decide +kernel
theorem dX5_follow_163 : decode cX5_follow 163 = .ok (.iload 10, 2) := by decide +kernel
theorem dX5_follow_165 : decode cX5_follow 165 = .ok (.iastore, 1) := by decide +kernel
theorem dX5_follow_166 : decode cX5_follow 166 = .ok (.aload_n 2, 1) := by decide +kernel
theorem dX5_follow_167 : decode cX5_follow 167 = .ok (.iload 4, 2) := by decide +kernel
theorem dX5_follow_169 : decode cX5_follow 169 = .ok (.putfield 124, 3) := by decide +kernel
theorem dX5_follow_172 : decode cX5_follow 172 = .ok (.aload_n 2, 1) := by decide +kernel
theorem dX5_follow_173 : decode cX5_follow 173 = .ok (.iload 5, 2) := by decide +kernel
theorem dX5_follow_175 : decode cX5_follow 175 = .ok (.putfield 127, 3) := by decide +kernel
theorem dX5_follow_178 : decode cX5_follow 178 = .ok (.aload_n 2, 1) := by decide +kernel
theorem dX5_follow_179 : decode cX5_follow 179 = .ok (.iload 6, 2) := by decide +kernel
theorem dX5_follow_181 : decode cX5_follow 181 = .ok (.putfield 130, 3) := by decide +kernel
theorem dX5_follow_184 : decode cX5_follow 184 = .ok (.aload_n 2, 1) := by decide +kernel
theorem dX5_follow_185 : decode cX5_follow 185 = .ok (.iload 7, 2) := by decide +kernel
theorem dX5_follow_187 : decode cX5_follow 187 = .ok (.putfield 133, 3) := by decide +kernel
theorem dX5_follow_190 : decode cX5_follow 190 = .ok (.aload_n 0, 1) := by decide +kernel
theorem dX5_follow_191 : decode cX5_follow 191 = .ok (.dup, 1) := by decide +kernel
theorem dX5_follow_192 : decode cX5_follow 192 = .ok (.getfield 53, 3) := by decide +kernel
theorem dX5_follow_195 : decode cX5_follow 195 = .ok (.iconst 1, 1) := by decide +kernel
theorem dX5_follow_196 : decode cX5_follow 196 = .ok (.iload 8, 2) := by decide +kernel
theorem dX5_follow_198 : decode cX5_follow 198 = .ok (.ishl, 1) := by decide +kernel
theorem dX5_follow_199 : decode cX5_follow 199 = .ok (.iconst (-1), 1) := by decide +kernel
theorem dX5_follow_200 : decode cX5_follow 200 = .ok (.ixor, 1) := by decide +kernel
theorem dX5_follow_201 : decode cX5_follow 201 = .ok (.iand, 1) := by decide +kernel
theorem dX5_follow_202 : decode cX5_follow 202 = .ok (.putfield 53, 3) := by decide +kernel
theorem dX5_follow_205 : decode cX5_follow 205 = .ok (.iinc 8 1, 3) := by decide +kernel
theorem dX5_follow_208 : decode cX5_follow 208 = .ok (.goto (-145), 3) := by decide +kernel
theorem dX5_follow_211 : decode cX5_follow 211 = .ok (.return_, 1) := by decide +kernel
theorem dX5_isHopeless_0 : decode cX5_isHopeless 0 = .ok (.iload_n 1, 1) := by decide +kernel
theorem dX5_isHopeless_1 : decode cX5_isHopeless 1 = .ok (.aload_n 0, 1) := by decide +kernel
theorem dX5_isHopeless_2 : decode cX5_isHopeless 2 = .ok (.getfield 53, 3) := by decide +kernel
theorem dX5_isHopeless_5 : decode cX5_isHopeless 5 = .ok (.iand, 1) := by decide +kernel
theorem dX5_isHopeless_6 : decode cX5_isHopeless 6 = .ok (.ifCond .eq 5, 3) := by decide +kernel
theorem dX5_isHopeless_9 : decode cX5_isHopeless 9 = .ok (.iconst 1, 1) := by decide +kernel
theorem dX5_isHopeless_10 : decode cX5_isHopeless 10 = .ok (.ireturn, 1) := by decide +kernel
theorem dX5_isHopeless_11 : decode cX5_isHopeless 11 = .ok (.iconst 0, 1) := by decide +kernel
theorem dX5_isHopeless_12 : decode cX5_isHopeless 12 = .ok (.istore_n 3, 1) := by decide +kernel
theorem dX5_isHopeless_13 : decode cX5_isHopeless 13 = .ok (.iload_n 3, 1) := by decide +kernel
theorem dX5_isHopeless_14 : decode cX5_isHopeless 14 = .ok (.bipush 8, 2) := by decide +kernel
theorem dX5_isHopeless_16 : decode cX5_isHopeless 16 = .ok (.if_icmp .ge 40, 3) := by decide +kernel
theorem dX5_isHopeless_19 : decode cX5_isHopeless 19 = .ok (.iload_n 1, 1) := by decide +kernel
theorem dX5_isHopeless_20 : decode cX5_isHopeless 20 = .ok (.iload_n 3, 1) := by decide +kernel
theorem dX5_isHopeless_21 : decode cX5_isHopeless 21 = .ok (.invokestatic 91, 3) := by decide +kernel
theorem dX5_isHopeless_24 : decode cX5_isHopeless 24 = .ok (.ifCond .eq 26, 3) := by decide +kernel
theorem dX5_isHopeless_27 : decode cX5_isHopeless 27 = .ok (.aload_n 0, 1) := by decide +kernel
theorem dX5_isHopeless_28 : decode cX5_isHopeless 28 = .ok (.getfield 29, 3) := by decide +kernel
theorem dX5_isHopeless_31 : decode cX5_isHopeless 31 = .ok (.iload_n 3, 1) := by decide +kernel
theorem dX5_isHopeless_32 : decode cX5_isHopeless 32 = .ok (.aload_n 0, 1) := by decide +kernel
theorem dX5_isHopeless_33 : decode cX5_isHopeless 33 = .ok (.getfield 29, 3) := by decide +kernel
theorem dX5_isHopeless_36 : decode cX5_isHopeless 36 = .ok (.getfield 124, 3) := by decide +kernel
theorem dX5_isHopeless_39 : decode cX5_isHopeless 39 = .ok (.invokevirtual 143, 3) := by decide +kernel
theorem dX5_isHopeless_42 : decode cX5_isHopeless 42 = .ok (.sipush 400, 3) := by decide +kernel
theorem dX5_isHopeless_45 : decode cX5_isHopeless 45 = .ok (.if_icmp .lt 5, 3) := by decide +kernel
theorem dX5_isHopeless_48 : decode cX5_isHopeless 48 = .ok (.iconst 1, 1) := by decide +kernel
theorem dX5_isHopeless_49 : decode cX5_isHopeless 49 = .ok (.ireturn, 1) := by decide +kernel
theorem dX5_isHopeless_50 : decode cX5_isHopeless 50 = .ok (.iinc 3 1, 3) := by decide +kernel
theorem dX5_isHopeless_53 : decode cX5_isHopeless 53 = .ok (.goto (-40), 3) := by decide +kernel
theorem dX5_isHopeless_56 : decode cX5_isHopeless 56 = .ok (.aload_n 0, 1) := by decide +kernel
theorem dX5_isHopeless_57 : decode cX5_isHopeless 57 = .ok (.getfield 41, 3) := by decide +kernel
theorem dX5_isHopeless_60 : decode cX5_isHopeless 60 = .ok (.ifCond .ne 10, 3) := by decide +kernel
theorem dX5_isHopeless_63 : decode cX5_isHopeless 63 = .ok (.aload_n 0, 1) := by decide +kernel
theorem dX5_isHopeless_64 : decode cX5_isHopeless 64 = .ok (.getfield 56, 3) := by decide +kernel
theorem dX5_isHopeless_67 : decode cX5_isHopeless 67 = .ok (.ifCond .ne 5, 3) := by decide +kernel
theorem dX5_isHopeless_70 : decode cX5_isHopeless 70 = .ok (.iconst 0, 1) := by decide +kernel
theorem dX5_isHopeless_71 : decode cX5_isHopeless 71 = .ok (.ireturn, 1) := by decide +kernel
theorem dX5_isHopeless_72 : decode cX5_isHopeless 72 = .ok (.iload_n 1, 1) := by decide +kernel
theorem dX5_isHopeless_73 : decode cX5_isHopeless 73 = .ok (.invokestatic 146, 3) := by decide +kernel
theorem dX5_isHopeless_76 : decode cX5_isHopeless 76 = .ok (.istore_n 3, 1) := by decide +kernel
theorem dX5_isHopeless_77 : decode cX5_isHopeless 77 = .ok (.aload_n 0, 1) := by decide +kernel
theorem dX5_isHopeless_78 : decode cX5_isHopeless 78 = .ok (.iconst 0, 1) := by decide +kernel
theorem dX5_isHopeless_79 : decode cX5_isHopeless 79 = .ok (.aload_n 0, 1) := by decide +kernel
theorem dX5_isHopeless_80 : decode cX5_isHopeless 80 = .ok (.getfield 29, 3) := by decide +kernel
theorem dX5_isHopeless_83 : decode cX5_isHopeless 83 = .ok (.getfield 124, 3) := by decide +kernel
theorem dX5_isHopeless_86 : decode cX5_isHopeless 86 = .ok (.iload_n 3, 1) := by decide +kernel
theorem dX5_isHopeless_87 : decode cX5_isHopeless 87 = .ok (.iadd, 1) := by decide +kernel
theorem dX5_isHopeless_88 : decode cX5_isHopeless 88 = .ok (.iload_n 2, 1) := by decide +kernel
theorem dX5_isHopeless_89 : decode cX5_isHopeless 89 = .ok (.iload_n 3, 1) := by decide +kernel
theorem dX5_isHopeless_90 : decode cX5_isHopeless 90 = .ok (.iadd, 1) := by decide +kernel
theorem dX5_isHopeless_91 : decode cX5_isHopeless 91 = .ok (.invokevirtual 151, 3) := by decide +kernel
theorem dX5_isHopeless_94 : decode cX5_isHopeless 94 = .ok (.ifCond .ne 7, 3) := by decide +kernel
theorem dX5_isHopeless_97 : decode cX5_isHopeless 97 = .ok (.iconst 1, 1) := by decide +kernel
theorem dX5_isHopeless_98 : decode cX5_isHopeless 98 = .ok (.goto 4, 3) := by decide +kernel
theorem dX5_isHopeless_101 : decode cX5_isHopeless 101 = .ok (.iconst 0, 1) := by decide +kernel
theorem dX5_isHopeless_102 : decode cX5_isHopeless 102 = .ok (.ireturn, 1) := by decide +kernel
theorem dX5_isBetter_0 : decode cX5_isBetter 0 = .ok (.aload_n 0, 1) := by decide +kernel
theorem dX5_isBetter_1 : decode cX5_isBetter 1 = .ok (.getfield 56, 3) := by decide +kernel
theorem dX5_isBetter_4 : decode cX5_isBetter 4 = .ok (.ifCond .eq 33, 3) := by decide +kernel
theorem dX5_isBetter_7 : decode cX5_isBetter 7 = .ok (.iload_n 2, 1) := by decide +kernel
theorem dX5_isBetter_8 : decode cX5_isBetter 8 = .ok (.aload_n 0, 1) := by decide +kernel
theorem dX5_isBetter_9 : decode cX5_isBetter 9 = .ok (.getfield 15, 3) := by decide +kernel
theorem dX5_isBetter_12 : decode cX5_isBetter 12 = .ok (.iload_n 1, 1) := by decide +kernel
theorem dX5_isBetter_13 : decode cX5_isBetter 13 = .ok (.iaload, 1) := by decide +kernel
theorem dX5_isBetter_14 : decode cX5_isBetter 14 = .ok (.if_icmp .lt 23, 3) := by decide +kernel
theorem dX5_isBetter_17 : decode cX5_isBetter 17 = .ok (.iload_n 2, 1) := by decide +kernel
theorem dX5_isBetter_18 : decode cX5_isBetter 18 = .ok (.aload_n 0, 1) := by decide +kernel
theorem dX5_isBetter_19 : decode cX5_isBetter 19 = .ok (.getfield 15, 3) := by decide +kernel
theorem dX5_isBetter_22 : decode cX5_isBetter 22 = .ok (.iload_n 1, 1) := by decide +kernel
theorem dX5_isBetter_23 : decode cX5_isBetter 23 = .ok (.iaload, 1) := by decide +kernel
theorem dX5_isBetter_24 : decode cX5_isBetter 24 = .ok (.if_icmp .ne 17, 3) := by decide +kernel
theorem dX5_isBetter_27 : decode cX5_isBetter 27 = .ok (.iload_n 3, 1) := by decide +kernel
theorem dX5_isBetter_28 : decode cX5_isBetter 28 = .ok (.aload_n 0, 1) := by decide +kernel
theorem dX5_isBetter_29 : decode cX5_isBetter 29 = .ok (.getfield 18, 3) := by decide +kernel
theorem dX5_isBetter_32 : decode cX5_isBetter 32 = .ok (.iload_n 1, 1) := by decide +kernel
theorem dX5_isBetter_33 : decode cX5_isBetter 33 = .ok (.iaload, 1) := by decide +kernel
theorem dX5_isBetter_34 : decode cX5_isBetter 34 = .ok (.if_icmp .ge 7, 3) := by decide +kernel
theorem dX5_isBetter_37 : decode cX5_isBetter 37 = .ok (.iconst 1, 1) := by decide +kernel
theorem dX5_isBetter_38 : decode cX5_isBetter 38 = .ok (.goto 4, 3) := by decide +kernel
theorem dX5_isBetter_41 : decode cX5_isBetter 41 = .ok (.iconst 0, 1) := by decide +kernel
theorem dX5_isBetter_42 : decode cX5_isBetter 42 = .ok (.ireturn, 1) := by decide +kernel
theorem dX5_take_0 : decode cX5_take 0 = .ok (.aload_n 0, 1) := by decide +kernel
theorem dX5_take_1 : decode cX5_take 1 = .ok (.getfield 53, 3) := by decide +kernel
theorem dX5_take_4 : decode cX5_take 4 = .ok (.aload_n 0, 1) := by decide +kernel
theorem dX5_take_5 : decode cX5_take 5 = .ok (.getfield 49, 3) := by decide +kernel
theorem dX5_take_8 : decode cX5_take 8 = .ok (.iconst (-1), 1) := by decide +kernel
theorem dX5_take_9 : decode cX5_take 9 = .ok (.ixor, 1) := by decide +kernel
theorem dX5_take_10 : decode cX5_take 10 = .ok (.iand, 1) := by decide +kernel
theorem dX5_take_11 : decode cX5_take 11 = .ok (.istore_n 2, 1) := by decide +kernel
theorem dX5_take_12 : decode cX5_take 12 = .ok (.aload_n 0, 1) := by decide +kernel
theorem dX5_take_13 : decode cX5_take 13 = .ok (.iconst 0, 1) := by decide +kernel
theorem dX5_take_14 : decode cX5_take 14 = .ok (.aload_n 0, 1) := by decide +kernel
theorem dX5_take_15 : decode cX5_take 15 = .ok (.getfield 29, 3) := by decide +kernel
theorem dX5_take_18 : decode cX5_take 18 = .ok (.getfield 124, 3) := by decide +kernel
theorem dX5_take_21 : decode cX5_take 21 = .ok (.iload_n 1, 1) := by decide +kernel
theorem dX5_take_22 : decode cX5_take 22 = .ok (.invokevirtual 151, 3) := by decide +kernel
theorem dX5_take_25 : decode cX5_take 25 = .ok (.ifCond .eq 34, 3) := by decide +kernel
theorem dX5_take_28 : decode cX5_take 28 = .ok (.aload_n 0, 1) := by decide +kernel
theorem dX5_take_29 : decode cX5_take 29 = .ok (.iconst 0, 1) := by decide +kernel
theorem dX5_take_30 : decode cX5_take 30 = .ok (.aload_n 0, 1) := by decide +kernel
theorem dX5_take_31 : decode cX5_take 31 = .ok (.getfield 29, 3) := by decide +kernel
theorem dX5_take_34 : decode cX5_take 34 = .ok (.getfield 124, 3) := by decide +kernel
theorem dX5_take_37 : decode cX5_take 37 = .ok (.iload_n 1, 1) := by decide +kernel
theorem dX5_take_38 : decode cX5_take 38 = .ok (.invokevirtual 155, 3) := by decide +kernel
theorem dX5_take_41 : decode cX5_take 41 = .ok (.aload_n 0, 1) := by decide +kernel
theorem dX5_take_42 : decode cX5_take 42 = .ok (.getfield 29, 3) := by decide +kernel
theorem dX5_take_45 : decode cX5_take 45 = .ok (.getfield 39, 3) := by decide +kernel
theorem dX5_take_48 : decode cX5_take 48 = .ok (.iconst 0, 1) := by decide +kernel
theorem dX5_take_49 : decode cX5_take 49 = .ok (.aload_n 0, 1) := by decide +kernel
theorem dX5_take_50 : decode cX5_take 50 = .ok (.getfield 26, 3) := by decide +kernel
theorem dX5_take_53 : decode cX5_take 53 = .ok (.iconst 0, 1) := by decide +kernel
theorem dX5_take_54 : decode cX5_take 54 = .ok (.bipush 8, 2) := by decide +kernel
theorem dX5_take_56 : decode cX5_take 56 = .ok (.invokestatic 159, 3) := by decide +kernel
theorem dX5_take_59 : decode cX5_take 59 = .ok (.aload_n 0, 1) := by decide +kernel
theorem dX5_take_60 : decode cX5_take 60 = .ok (.iconst 1, 1) := by decide +kernel
theorem dX5_take_61 : decode cX5_take 61 = .ok (.aload_n 0, 1) := by decide +kernel
theorem dX5_take_62 : decode cX5_take 62 = .ok (.getfield 29, 3) := by decide +kernel
theorem dX5_take_65 : decode cX5_take 65 = .ok (.getfield 130, 3) := by decide +kernel
theorem dX5_take_68 : decode cX5_take 68 = .ok (.iload_n 1, 1) := by decide +kernel
theorem dX5_take_69 : decode cX5_take 69 = .ok (.invokevirtual 151, 3) := by decide +kernel
theorem dX5_take_72 : decode cX5_take 72 = .ok (.ifCond .eq 16, 3) := by decide +kernel
theorem dX5_take_75 : decode cX5_take 75 = .ok (.aload_n 0, 1) := by decide +kernel
theorem dX5_take_76 : decode cX5_take 76 = .ok (.iconst 1, 1) := by decide +kernel
theorem dX5_take_77 : decode cX5_take 77 = .ok (.aload_n 0, 1) := by decide +kernel
theorem dX5_take_78 : decode cX5_take 78 = .ok (.getfield 29, 3) := by decide +kernel
theorem dX5_take_81 : decode cX5_take 81 = .ok (.getfield 130, 3) := by decide +kernel
theorem dX5_take_84 : decode cX5_take 84 = .ok (.iload_n 1, 1) := by decide +kernel
theorem dX5_take_85 : decode cX5_take 85 = .ok (.invokevirtual 155, 3) := by decide +kernel
theorem dX5_take_88 : decode cX5_take 88 = .ok (.aload_n 0, 1) := by decide +kernel
theorem dX5_take_89 : decode cX5_take 89 = .ok (.iconst 2, 1) := by decide +kernel
theorem dX5_take_90 : decode cX5_take 90 = .ok (.aload_n 0, 1) := by decide +kernel
theorem dX5_take_91 : decode cX5_take 91 = .ok (.getfield 29, 3) := by decide +kernel
theorem dX5_take_94 : decode cX5_take 94 = .ok (.getfield 133, 3) := by decide +kernel
theorem dX5_take_97 : decode cX5_take 97 = .ok (.iload_n 1, 1) := by decide +kernel
theorem dX5_take_98 : decode cX5_take 98 = .ok (.invokevirtual 151, 3) := by decide +kernel
theorem dX5_take_101 : decode cX5_take 101 = .ok (.ifCond .eq 16, 3) := by decide +kernel
theorem dX5_take_104 : decode cX5_take 104 = .ok (.aload_n 0, 1) := by decide +kernel
theorem dX5_take_105 : decode cX5_take 105 = .ok (.iconst 2, 1) := by decide +kernel
theorem dX5_take_106 : decode cX5_take 106 = .ok (.aload_n 0, 1) := by decide +kernel
theorem dX5_take_107 : decode cX5_take 107 = .ok (.getfield 29, 3) := by decide +kernel
theorem dX5_take_110 : decode cX5_take 110 = .ok (.getfield 133, 3) := by decide +kernel
theorem dX5_take_113 : decode cX5_take 113 = .ok (.iload_n 1, 1) := by decide +kernel
theorem dX5_take_114 : decode cX5_take 114 = .ok (.invokevirtual 155, 3) := by decide +kernel
theorem dX5_take_117 : decode cX5_take 117 = .ok (.aload_n 0, 1) := by decide +kernel
theorem dX5_take_118 : decode cX5_take 118 = .ok (.aload_n 0, 1) := by decide +kernel
theorem dX5_take_119 : decode cX5_take 119 = .ok (.getfield 56, 3) := by decide +kernel
theorem dX5_take_122 : decode cX5_take 122 = .ok (.ifCond .ne 7, 3) := by decide +kernel
theorem dX5_take_125 : decode cX5_take 125 = .ok (.iload_n 1, 1) := by decide +kernel
theorem dX5_take_126 : decode cX5_take 126 = .ok (.goto 11, 3) := by decide +kernel
theorem dX5_take_129 : decode cX5_take 129 = .ok (.aload_n 0, 1) := by decide +kernel
theorem dX5_take_130 : decode cX5_take 130 = .ok (.getfield 59, 3) := by decide +kernel
theorem dX5_take_133 : decode cX5_take 133 = .ok (.iload_n 1, 1) := by decide +kernel
theorem dX5_take_134 : decode cX5_take 134 = .ok (.invokestatic 165, 3) := by decide +kernel
theorem dX5_take_137 : decode cX5_take 137 = .ok (.putfield 59, 3) := by decide +kernel
theorem dX5_take_140 : decode cX5_take 140 = .ok (.aload_n 0, 1) := by decide +kernel
theorem dX5_take_141 : decode cX5_take 141 = .ok (.aload_n 0, 1) := by decide +kernel
theorem dX5_take_142 : decode cX5_take 142 = .ok (.getfield 56, 3) := by decide +kernel
theorem dX5_take_145 : decode cX5_take 145 = .ok (.ifCond .ne 7, 3) := by decide +kernel
theorem dX5_take_148 : decode cX5_take 148 = .ok (.iload_n 2, 1) := by decide +kernel
theorem dX5_take_149 : decode cX5_take 149 = .ok (.goto 9, 3) := by decide +kernel
theorem dX5_take_152 : decode cX5_take 152 = .ok (.aload_n 0, 1) := by decide +kernel
theorem dX5_take_153 : decode cX5_take 153 = .ok (.getfield 62, 3) := by decide +kernel
theorem dX5_take_156 : decode cX5_take 156 = .ok (.iload_n 2, 1) := by decide +kernel
theorem dX5_take_157 : decode cX5_take 157 = .ok (.iand, 1) := by decide +kernel
theorem dX5_take_158 : decode cX5_take 158 = .ok (.putfield 62, 3) := by decide +kernel
theorem dX5_take_161 : decode cX5_take 161 = .ok (.aload_n 0, 1) := by decide +kernel
theorem dX5_take_162 : decode cX5_take 162 = .ok (.dup, 1) := by decide +kernel
theorem dX5_take_163 : decode cX5_take 163 = .ok (.getfield 65, 3) := by decide +kernel
theorem dX5_take_166 : decode cX5_take 166 = .ok (.iload_n 2, 1) := by decide +kernel
theorem dX5_take_167 : decode cX5_take 167 = .ok (.ior, 1) := by decide +kernel
theorem dX5_take_168 : decode cX5_take 168 = .ok (.putfield 65, 3) := by decide +kernel
theorem dX5_take_171 : decode cX5_take 171 = .ok (.aload_n 0, 1) := by decide +kernel
theorem dX5_take_172 : decode cX5_take 172 = .ok (.dup, 1) := by decide +kernel
theorem dX5_take_173 : decode cX5_take 173 = .ok (.getfield 56, 3) := by decide +kernel
theorem dX5_take_176 : decode cX5_take 176 = .ok (.iconst 1, 1) := by decide +kernel
theorem dX5_take_177 : decode cX5_take 177 = .ok (.iadd, 1) := by decide +kernel
theorem dX5_take_178 : decode cX5_take 178 = .ok (.putfield 56, 3) := by decide +kernel
theorem dX5_take_181 : decode cX5_take 181 = .ok (.return_, 1) := by decide +kernel
theorem dX5_put_0 : decode cX5_put 0 = .ok (.aload_n 0, 1) := by decide +kernel
theorem dX5_put_1 : decode cX5_put 1 = .ok (.getfield 15, 3) := by decide +kernel
theorem dX5_put_4 : decode cX5_put 4 = .ok (.iload_n 1, 1) := by decide +kernel
theorem dX5_put_5 : decode cX5_put 5 = .ok (.iload_n 2, 1) := by decide +kernel
theorem dX5_put_6 : decode cX5_put 6 = .ok (.iastore, 1) := by decide +kernel
theorem dX5_put_7 : decode cX5_put 7 = .ok (.aload_n 0, 1) := by decide +kernel
theorem dX5_put_8 : decode cX5_put 8 = .ok (.getfield 18, 3) := by decide +kernel
theorem dX5_put_11 : decode cX5_put 11 = .ok (.iload_n 1, 1) := by decide +kernel
theorem dX5_put_12 : decode cX5_put 12 = .ok (.iload_n 3, 1) := by decide +kernel
theorem dX5_put_13 : decode cX5_put 13 = .ok (.iastore, 1) := by decide +kernel
theorem dX5_put_14 : decode cX5_put 14 = .ok (.aload_n 0, 1) := by decide +kernel
theorem dX5_put_15 : decode cX5_put 15 = .ok (.getfield 9, 3) := by decide +kernel
theorem dX5_put_18 : decode cX5_put 18 = .ok (.iconst 0, 1) := by decide +kernel
theorem dX5_put_19 : decode cX5_put 19 = .ok (.aload_n 0, 1) := by decide +kernel
theorem dX5_put_20 : decode cX5_put 20 = .ok (.getfield 23, 3) := by decide +kernel
theorem dX5_put_23 : decode cX5_put 23 = .ok (.iload_n 1, 1) := by decide +kernel
theorem dX5_put_24 : decode cX5_put 24 = .ok (.aaload, 1) := by decide +kernel
theorem dX5_put_25 : decode cX5_put 25 = .ok (.iconst 0, 1) := by decide +kernel
theorem dX5_put_26 : decode cX5_put 26 = .ok (.bipush 8, 2) := by decide +kernel
theorem dX5_put_28 : decode cX5_put 28 = .ok (.invokestatic 159, 3) := by decide +kernel
theorem dX5_put_31 : decode cX5_put 31 = .ok (.return_, 1) := by decide +kernel
theorem dX6_init_0 : decode cX6_init 0 = .ok (.aload_n 0, 1) := by decide +kernel
theorem dX6_init_1 : decode cX6_init 1 = .ok (.invokespecial 3, 3) := by decide +kernel
theorem dX6_init_4 : decode cX6_init 4 = .ok (.aload_n 0, 1) := by decide +kernel
theorem dX6_init_5 : decode cX6_init 5 = .ok (.bipush 8, 2) := by decide +kernel
theorem dX6_init_7 : decode cX6_init 7 = .ok (.newarray .int, 2) := by decide +kernel
theorem dX6_init_9 : decode cX6_init 9 = .ok (.putfield 9, 3) := by decide +kernel
theorem dX6_init_12 : decode cX6_init 12 = .ok (.aload_n 0, 1) := by decide +kernel
theorem dX6_init_13 : decode cX6_init 13 = .ok (.bipush 8, 2) := by decide +kernel
theorem dX6_init_15 : decode cX6_init 15 = .ok (.newarray .int, 2) := by decide +kernel
theorem dX6_init_17 : decode cX6_init 17 = .ok (.putfield 15, 3) := by decide +kernel
theorem dX6_init_20 : decode cX6_init 20 = .ok (.aload_n 0, 1) := by decide +kernel
theorem dX6_init_21 : decode cX6_init 21 = .ok (.sipush 256, 3) := by decide +kernel
theorem dX6_init_24 : decode cX6_init 24 = .ok (.newarray .long, 2) := by decide +kernel
theorem dX6_init_26 : decode cX6_init 26 = .ok (.putfield 18, 3) := by decide +kernel
theorem dX6_init_29 : decode cX6_init 29 = .ok (.aload_n 0, 1) := by decide +kernel
theorem dX6_init_30 : decode cX6_init 30 = .ok (.bipush 8, 2) := by decide +kernel
theorem dX6_init_32 : decode cX6_init 32 = .ok (.newarray .int, 2) := by decide +kernel
theorem dX6_init_34 : decode cX6_init 34 = .ok (.putfield 22, 3) := by decide +kernel
theorem dX6_init_37 : decode cX6_init 37 = .ok (.aload_n 0, 1) := by decide +kernel
theorem dX6_init_38 : decode cX6_init 38 = .ok (.bipush 8, 2) := by decide +kernel
theorem dX6_init_40 : decode cX6_init 40 = .ok (.newarray .int, 2) := by decide +kernel
theorem dX6_init_42 : decode cX6_init 42 = .ok (.putfield 25, 3) := by decide +kernel
theorem dX6_init_45 : decode cX6_init 45 = .ok (.return_, 1) := by decide +kernel
theorem dX6_learn_0 : decode cX6_learn 0 = .ok (.aload_n 0, 1) := by decide +kernel
theorem dX6_learn_1 : decode cX6_learn 1 = .ok (.aload_n 1, 1) := by decide +kernel
theorem dX6_learn_2 : decode cX6_learn 2 = .ok (.getfield 28, 3) := by decide +kernel
theorem dX6_learn_5 : decode cX6_learn 5 = .ok (.bipush 8, 2) := by decide +kernel
theorem dX6_learn_7 : decode cX6_learn 7 = .ok (.invokestatic 34, 3) := by decide +kernel
theorem dX6_learn_10 : decode cX6_learn 10 = .ok (.putfield 40, 3) := by decide +kernel
theorem dX6_learn_13 : decode cX6_learn 13 = .ok (.aload_n 0, 1) := by decide +kernel
theorem dX6_learn_14 : decode cX6_learn 14 = .ok (.iconst 1, 1) := by decide +kernel
theorem dX6_learn_15 : decode cX6_learn 15 = .ok (.aload_n 0, 1) := by decide +kernel
theorem dX6_learn_16 : decode cX6_learn 16 = .ok (.getfield 40, 3) := by decide +kernel
theorem dX6_learn_19 : decode cX6_learn 19 = .ok (.ishl, 1) := by decide +kernel
theorem dX6_learn_20 : decode cX6_learn 20 = .ok (.putfield 41, 3) := by decide +kernel
theorem dX6_learn_23 : decode cX6_learn 23 = .ok (.aload_n 1, 1) := by decide +kernel
theorem dX6_learn_24 : decode cX6_learn 24 = .ok (.getfield 44, 3) := by decide +kernel
theorem dX6_learn_27 : decode cX6_learn 27 = .ok (.bipush 9, 2) := by decide +kernel
theorem dX6_learn_29 : decode cX6_learn 29 = .ok (.aaload, 1) := by decide +kernel
theorem dX6_learn_30 : decode cX6_learn 30 = .ok (.iconst 0, 1) := by decide +kernel
theorem dX6_learn_31 : decode cX6_learn 31 = .ok (.aload_n 0, 1) := by decide +kernel
theorem dX6_learn_32 : decode cX6_learn 32 = .ok (.getfield 9, 3) := by decide +kernel
theorem dX6_learn_35 : decode cX6_learn 35 = .ok (.iconst 0, 1) := by decide +kernel
theorem dX6_learn_36 : decode cX6_learn 36 = .ok (.bipush 8, 2) := by decide +kernel
theorem dX6_learn_38 : decode cX6_learn 38 = .ok (.invokestatic 48, 3) := by decide +kernel
theorem dX6_learn_41 : decode cX6_learn 41 = .ok (.aload_n 1, 1) := by decide +kernel
theorem dX6_learn_42 : decode cX6_learn 42 = .ok (.getfield 44, 3) := by decide +kernel
theorem dX6_learn_45 : decode cX6_learn 45 = .ok (.bipush 10, 2) := by decide +kernel
theorem dX6_learn_47 : decode cX6_learn 47 = .ok (.aaload, 1) := by decide +kernel
theorem dX6_learn_48 : decode cX6_learn 48 = .ok (.iconst 0, 1) := by decide +kernel
theorem dX6_learn_49 : decode cX6_learn 49 = .ok (.aload_n 0, 1) := by decide +kernel
theorem dX6_learn_50 : decode cX6_learn 50 = .ok (.getfield 15, 3) := by decide +kernel
theorem dX6_learn_53 : decode cX6_learn 53 = .ok (.iconst 0, 1) := by decide +kernel
theorem dX6_learn_54 : decode cX6_learn 54 = .ok (.bipush 8, 2) := by decide +kernel
theorem dX6_learn_56 : decode cX6_learn 56 = .ok (.invokestatic 48, 3) := by decide +kernel
theorem dX6_learn_59 : decode cX6_learn 59 = .ok (.aload_n 0, 1) := by decide +kernel
theorem dX6_learn_60 : decode cX6_learn 60 = .ok (.invokevirtual 54, 3) := by decide +kernel
theorem dX6_learn_63 : decode cX6_learn 63 = .ok (.return_, 1) := by decide +kernel
theorem dX6_countOrders_0 : decode cX6_countOrders 0 = .ok (.aload_n 0, 1) := by decide +kernel
theorem dX6_countOrders_1 : decode cX6_countOrders 1 = .ok (.getfield 18, 3) := by decide +kernel
theorem dX6_countOrders_4 : decode cX6_countOrders 4 = .ok (.iconst 0, 1) := by decide +kernel
theorem dX6_countOrders_5 : decode cX6_countOrders 5 = .ok (.lconst 1, 1) := by decide +kernel
theorem dX6_countOrders_6 : decode cX6_countOrders 6 = .ok (.lastore, 1) := by decide +kernel
theorem dX6_countOrders_7 : decode cX6_countOrders 7 = .ok (.iconst 1, 1) := by decide +kernel
theorem dX6_countOrders_8 : decode cX6_countOrders 8 = .ok (.istore_n 1, 1) := by decide +kernel
theorem dX6_countOrders_9 : decode cX6_countOrders 9 = .ok (.iload_n 1, 1) := by decide +kernel
theorem dX6_countOrders_10 : decode cX6_countOrders 10 = .ok (.aload_n 0, 1) := by decide +kernel
theorem dX6_countOrders_11 : decode cX6_countOrders 11 = .ok (.getfield 41, 3) := by decide +kernel
theorem dX6_countOrders_14 : decode cX6_countOrders 14 = .ok (.if_icmp .ge 90, 3) := by decide +kernel
theorem dX6_countOrders_17 : decode cX6_countOrders 17 = .ok (.lconst 0, 1) := by decide +kernel
theorem dX6_countOrders_18 : decode cX6_countOrders 18 = .ok (.lstore_n 2, 1) := by decide +kernel
theorem dX6_countOrders_19 : decode cX6_countOrders 19 = .ok (.iconst 0, 1) := by decide +kernel
theorem dX6_countOrders_20 : decode cX6_countOrders 20 = .ok (.istore 4, 2) := by decide +kernel
theorem dX6_countOrders_22 : decode cX6_countOrders 22 = .ok (.iload 4, 2) := by decide +kernel
theorem dX6_countOrders_24 : decode cX6_countOrders 24 = .ok (.aload_n 0, 1) := by decide +kernel
theorem dX6_countOrders_25 : decode cX6_countOrders 25 = .ok (.getfield 40, 3) := by decide +kernel
theorem dX6_countOrders_28 : decode cX6_countOrders 28 = .ok (.if_icmp .ge 63, 3) := by decide +kernel
theorem dX6_countOrders_31 : decode cX6_countOrders 31 = .ok (.iload_n 1, 1) := by decide +kernel
theorem dX6_countOrders_32 : decode cX6_countOrders 32 = .ok (.iconst 1, 1) := by decide +kernel
theorem dX6_countOrders_33 : decode cX6_countOrders 33 = .ok (.iload 4, 2) := by decide +kernel
theorem dX6_countOrders_35 : decode cX6_countOrders 35 = .ok (.ishl, 1) := by decide +kernel
theorem dX6_countOrders_36 : decode cX6_countOrders 36 = .ok (.iconst (-1), 1) := by decide +kernel
theorem dX6_countOrders_37 : decode cX6_countOrders 37 = .ok (.ixor, 1) := by decide +kernel
theorem dX6_countOrders_38 : decode cX6_countOrders 38 = .ok (.iand, 1) := by decide +kernel
theorem dX6_countOrders_39 : decode cX6_countOrders 39 = .ok (.istore 5, 2) := by decide +kernel
theorem dX6_countOrders_41 : decode cX6_countOrders 41 = .ok (.iload 5, 2) := by decide +kernel
theorem dX6_countOrders_43 : decode cX6_countOrders 43 = .ok (.iload_n 1, 1) := by decide +kernel
theorem dX6_countOrders_44 : decode cX6_countOrders 44 = .ok (.if_icmp .eq 41, 3) := by decide +kernel
theorem dX6_countOrders_47 : decode cX6_countOrders 47 = .ok (.aload_n 0, 1) := by decide +kernel
theorem dX6_countOrders_48 : decode cX6_countOrders 48 = .ok (.getfield 9, 3) := by decide +kernel
theorem dX6_countOrders_51 : decode cX6_countOrders 51 = .ok (.iload 4, 2) := by decide +kernel
theorem dX6_countOrders_53 : decode cX6_countOrders 53 = .ok (.iaload, 1) := by decide +kernel
theorem dX6_countOrders_54 : decode cX6_countOrders 54 = .ok (.iload 5, 2) := by decide +kernel
theorem dX6_countOrders_56 : decode cX6_countOrders 56 = .ok (.iconst (-1), 1) := by decide +kernel
theorem dX6_countOrders_57 : decode cX6_countOrders 57 = .ok (.ixor, 1) := by decide +kernel
theorem dX6_countOrders_58 : decode cX6_countOrders 58 = .ok (.iand, 1) := by decide +kernel
theorem dX6_countOrders_59 : decode cX6_countOrders 59 = .ok (.ifCond .ne 26, 3) := by decide +kernel
theorem dX6_countOrders_62 : decode cX6_countOrders 62 = .ok (.aload_n 0, 1) := by decide +kernel
theorem dX6_countOrders_63 : decode cX6_countOrders 63 = .ok (.getfield 15, 3) := by decide +kernel
theorem dX6_countOrders_66 : decode cX6_countOrders 66 = .ok (.iload 4, 2) := by decide +kernel
theorem dX6_countOrders_68 : decode cX6_countOrders 68 = .ok (.iaload, 1) := by decide +kernel
theorem dX6_countOrders_69 : decode cX6_countOrders 69 = .ok (.iload 5, 2) := by decide +kernel
theorem dX6_countOrders_71 : decode cX6_countOrders 71 = .ok (.iand, 1) := by decide +kernel
theorem dX6_countOrders_72 : decode cX6_countOrders 72 = .ok (.ifCond .ne 13, 3) := by decide +kernel
theorem dX6_countOrders_75 : decode cX6_countOrders 75 = .ok (.lload_n 2, 1) := by decide +kernel
theorem dX6_countOrders_76 : decode cX6_countOrders 76 = .ok (.aload_n 0, 1) := by decide +kernel
theorem dX6_countOrders_77 : decode cX6_countOrders 77 = .ok (.getfield 18, 3) := by decide +kernel
theorem dX6_countOrders_80 : decode cX6_countOrders 80 = .ok (.iload 5, 2) := by decide +kernel
theorem dX6_countOrders_82 : decode cX6_countOrders 82 = .ok (.laload, 1) := by decide +kernel
theorem dX6_countOrders_83 : decode cX6_countOrders 83 = .ok (.ladd, 1) := by decide +kernel
theorem dX6_countOrders_84 : decode cX6_countOrders 84 = .ok (.lstore_n 2, 1) := by decide +kernel
theorem dX6_countOrders_85 : decode cX6_countOrders 85 = .ok (.iinc 4 1, 3) := by decide +kernel
theorem dX6_countOrders_88 : decode cX6_countOrders 88 = .ok (.goto (-66), 3) := by decide +kernel
theorem dX6_countOrders_91 : decode cX6_countOrders 91 = .ok (.aload_n 0, 1) := by decide +kernel
theorem dX6_countOrders_92 : decode cX6_countOrders 92 = .ok (.getfield 18, 3) := by decide +kernel
theorem dX6_countOrders_95 : decode cX6_countOrders 95 = .ok (.iload_n 1, 1) := by decide +kernel
theorem dX6_countOrders_96 : decode cX6_countOrders 96 = .ok (.lload_n 2, 1) := by decide +kernel
theorem dX6_countOrders_97 : decode cX6_countOrders 97 = .ok (.lastore, 1) := by decide +kernel
theorem dX6_countOrders_98 : decode cX6_countOrders 98 = .ok (.iinc 1 1, 3) := by decide +kernel
theorem dX6_countOrders_101 : decode cX6_countOrders 101 = .ok (.goto (-92), 3) := by decide +kernel
theorem dX6_countOrders_104 : decode cX6_countOrders 104 = .ok (.return_, 1) := by decide +kernel
theorem dX6_ordersOf_0 : decode cX6_ordersOf 0 = .ok (.iload_n 1, 1) := by decide +kernel
theorem dX6_ordersOf_1 : decode cX6_ordersOf 1 = .ok (.ifCond .lt 20, 3) := by decide +kernel
theorem dX6_ordersOf_4 : decode cX6_ordersOf 4 = .ok (.iload_n 1, 1) := by decide +kernel
theorem dX6_ordersOf_5 : decode cX6_ordersOf 5 = .ok (.aload_n 0, 1) := by decide +kernel
theorem dX6_ordersOf_6 : decode cX6_ordersOf 6 = .ok (.getfield 41, 3) := by decide +kernel
theorem dX6_ordersOf_9 : decode cX6_ordersOf 9 = .ok (.if_icmp .ge 12, 3) := by decide +kernel
theorem dX6_ordersOf_12 : decode cX6_ordersOf 12 = .ok (.aload_n 0, 1) := by decide +kernel
theorem dX6_ordersOf_13 : decode cX6_ordersOf 13 = .ok (.getfield 18, 3) := by decide +kernel
theorem dX6_ordersOf_16 : decode cX6_ordersOf 16 = .ok (.iload_n 1, 1) := by decide +kernel
theorem dX6_ordersOf_17 : decode cX6_ordersOf 17 = .ok (.laload, 1) := by decide +kernel
theorem dX6_ordersOf_18 : decode cX6_ordersOf 18 = .ok (.goto 4, 3) := by decide +kernel
theorem dX6_ordersOf_21 : decode cX6_ordersOf 21 = .ok (.lconst 0, 1) := by decide +kernel
theorem dX6_ordersOf_22 : decode cX6_ordersOf 22 = .ok (.lreturn, 1) := by decide +kernel
theorem dX6_howMany_0 : decode cX6_howMany 0 = .ok (.iconst 0, 1) := by decide +kernel
theorem dX6_howMany_1 : decode cX6_howMany 1 = .ok (.istore_n 1, 1) := by decide +kernel
theorem dX6_howMany_2 : decode cX6_howMany 2 = .ok (.iconst 0, 1) := by decide +kernel
theorem dX6_howMany_3 : decode cX6_howMany 3 = .ok (.istore_n 2, 1) := by decide +kernel
theorem dX6_howMany_4 : decode cX6_howMany 4 = .ok (.iload_n 2, 1) := by decide +kernel
theorem dX6_howMany_5 : decode cX6_howMany 5 = .ok (.aload_n 0, 1) := by decide +kernel
theorem dX6_howMany_6 : decode cX6_howMany 6 = .ok (.getfield 41, 3) := by decide +kernel
theorem dX6_howMany_9 : decode cX6_howMany 9 = .ok (.if_icmp .ge 23, 3) := by decide +kernel
theorem dX6_howMany_12 : decode cX6_howMany 12 = .ok (.aload_n 0, 1) := by decide +kernel
theorem dX6_howMany_13 : decode cX6_howMany 13 = .ok (.getfield 18, 3) := by decide +kernel
theorem dX6_howMany_16 : decode cX6_howMany 16 = .ok (.iload_n 2, 1) := by decide +kernel
theorem dX6_howMany_17 : decode cX6_howMany 17 = .ok (.laload, 1) := by decide +kernel
theorem dX6_howMany_18 : decode cX6_howMany 18 = .ok (.lconst 0, 1) := by decide +kernel
theorem dX6_howMany_19 : decode cX6_howMany 19 = .ok (.lcmp, 1) := by decide +kernel
theorem dX6_howMany_20 : decode cX6_howMany 20 = .ok (.ifCond .le 6, 3) := by decide +kernel
theorem dX6_howMany_23 : decode cX6_howMany 23 = .ok (.iinc 1 1, 3) := by decide +kernel
theorem dX6_howMany_26 : decode cX6_howMany 26 = .ok (.iinc 2 1, 3) := by decide +kernel
theorem dX6_howMany_29 : decode cX6_howMany 29 = .ok (.goto (-25), 3) := by decide +kernel
theorem dX6_howMany_32 : decode cX6_howMany 32 = .ok (.iload_n 1, 1) := by decide +kernel
theorem dX6_howMany_33 : decode cX6_howMany 33 = .ok (.ireturn, 1) := by decide +kernel
theorem dX6_outsiders_0 : decode cX6_outsiders 0 = .ok (.iconst 0, 1) := by decide +kernel
theorem dX6_outsiders_1 : decode cX6_outsiders 1 = .ok (.istore_n 1, 1) := by decide +kernel
theorem dX6_outsiders_2 : decode cX6_outsiders 2 = .ok (.iconst 0, 1) := by decide +kernel
theorem dX6_outsiders_3 : decode cX6_outsiders 3 = .ok (.istore_n 2, 1) := by decide +kernel
theorem dX6_outsiders_4 : decode cX6_outsiders 4 = .ok (.iload_n 2, 1) := by decide +kernel
theorem dX6_outsiders_5 : decode cX6_outsiders 5 = .ok (.aload_n 0, 1) := by decide +kernel
theorem dX6_outsiders_6 : decode cX6_outsiders 6 = .ok (.getfield 41, 3) := by decide +kernel
theorem dX6_outsiders_9 : decode cX6_outsiders 9 = .ok (.if_icmp .ge 24, 3) := by decide +kernel
theorem dX6_outsiders_12 : decode cX6_outsiders 12 = .ok (.aload_n 0, 1) := by decide +kernel
theorem dX6_outsiders_13 : decode cX6_outsiders 13 = .ok (.getfield 18, 3) := by decide +kernel
theorem dX6_outsiders_16 : decode cX6_outsiders 16 = .ok (.iload_n 2, 1) := by decide +kernel
theorem dX6_outsiders_17 : decode cX6_outsiders 17 = .ok (.laload, 1) := by decide +kernel
theorem dX6_outsiders_18 : decode cX6_outsiders 18 = .ok (.lconst 0, 1) := by decide +kernel
theorem dX6_outsiders_19 : decode cX6_outsiders 19 = .ok (.lcmp, 1) := by decide +kernel
theorem dX6_outsiders_20 : decode cX6_outsiders 20 = .ok (.ifCond .le 7, 3) := by decide +kernel
theorem dX6_outsiders_23 : decode cX6_outsiders 23 = .ok (.iload_n 1, 1) := by decide +kernel
theorem dX6_outsiders_24 : decode cX6_outsiders 24 = .ok (.iload_n 2, 1) := by decide +kernel
theorem dX6_outsiders_25 : decode cX6_outsiders 25 = .ok (.ior, 1) := by decide +kernel
theorem dX6_outsiders_26 : decode cX6_outsiders 26 = .ok (.istore_n 1, 1) := by decide +kernel
theorem dX6_outsiders_27 : decode cX6_outsiders 27 = .ok (.iinc 2 1, 3) := by decide +kernel
theorem dX6_outsiders_30 : decode cX6_outsiders 30 = .ok (.goto (-26), 3) := by decide +kernel
theorem dX6_outsiders_33 : decode cX6_outsiders 33 = .ok (.aload_n 0, 1) := by decide +kernel
theorem dX6_outsiders_34 : decode cX6_outsiders 34 = .ok (.getfield 41, 3) := by decide +kernel
theorem dX6_outsiders_37 : decode cX6_outsiders 37 = .ok (.iconst 1, 1) := by decide +kernel
theorem dX6_outsiders_38 : decode cX6_outsiders 38 = .ok (.isub, 1) := by decide +kernel
theorem dX6_outsiders_39 : decode cX6_outsiders 39 = .ok (.iload_n 1, 1) := by decide +kernel
theorem dX6_outsiders_40 : decode cX6_outsiders 40 = .ok (.iconst (-1), 1) := by decide +kernel
theorem dX6_outsiders_41 : decode cX6_outsiders 41 = .ok (.ixor, 1) := by decide +kernel
theorem dX6_outsiders_42 : decode cX6_outsiders 42 = .ok (.iand, 1) := by decide +kernel
theorem dX6_outsiders_43 : decode cX6_outsiders 43 = .ok (.ireturn, 1) := by decide +kernel
theorem dX6_canBeHad_0 : decode cX6_canBeHad 0 = .ok (.iconst 0, 1) := by decide +kernel
theorem dX6_canBeHad_1 : decode cX6_canBeHad 1 = .ok (.istore_n 2, 1) := by decide +kernel
theorem dX6_canBeHad_2 : decode cX6_canBeHad 2 = .ok (.iload_n 2, 1) := by decide +kernel
theorem dX6_canBeHad_3 : decode cX6_canBeHad 3 = .ok (.aload_n 0, 1) := by decide +kernel
theorem dX6_canBeHad_4 : decode cX6_canBeHad 4 = .ok (.getfield 41, 3) := by decide +kernel
theorem dX6_canBeHad_7 : decode cX6_canBeHad 7 = .ok (.if_icmp .ge 30, 3) := by decide +kernel
theorem dX6_canBeHad_10 : decode cX6_canBeHad 10 = .ok (.aload_n 0, 1) := by decide +kernel
theorem dX6_canBeHad_11 : decode cX6_canBeHad 11 = .ok (.getfield 18, 3) := by decide +kernel
theorem dX6_canBeHad_14 : decode cX6_canBeHad 14 = .ok (.iload_n 2, 1) := by decide +kernel
theorem dX6_canBeHad_15 : decode cX6_canBeHad 15 = .ok (.laload, 1) := by decide +kernel
theorem dX6_canBeHad_16 : decode cX6_canBeHad 16 = .ok (.lconst 0, 1) := by decide +kernel
theorem dX6_canBeHad_17 : decode cX6_canBeHad 17 = .ok (.lcmp, 1) := by decide +kernel
theorem dX6_canBeHad_18 : decode cX6_canBeHad 18 = .ok (.ifCond .le 13, 3) := by decide +kernel
theorem dX6_canBeHad_21 : decode cX6_canBeHad 21 = .ok (.iload_n 1, 1) := by decide +kernel
theorem dX6_canBeHad_22 : decode cX6_canBeHad 22 = .ok (.iload_n 2, 1) := by decide +kernel
theorem dX6_canBeHad_23 : decode cX6_canBeHad 23 = .ok (.iconst (-1), 1) := by decide +kernel
theorem dX6_canBeHad_24 : decode cX6_canBeHad 24 = .ok (.ixor, 1) := by decide +kernel
theorem dX6_canBeHad_25 : decode cX6_canBeHad 25 = .ok (.iand, 1) := by decide +kernel
theorem dX6_canBeHad_26 : decode cX6_canBeHad 26 = .ok (.ifCond .ne 5, 3) := by decide +kernel
theorem dX6_canBeHad_29 : decode cX6_canBeHad 29 = .ok (.iconst 1, 1) := by decide +kernel
theorem dX6_canBeHad_30 : decode cX6_canBeHad 30 = .ok (.ireturn, 1) := by decide +kernel
theorem dX6_canBeHad_31 : decode cX6_canBeHad 31 = .ok (.iinc 2 1, 3) := by decide +kernel
theorem dX6_canBeHad_34 : decode cX6_canBeHad 34 = .ok (.goto (-32), 3) := by decide +kernel
theorem dX6_canBeHad_37 : decode cX6_canBeHad 37 = .ok (.iconst 0, 1) := by decide +kernel
theorem dX6_canBeHad_38 : decode cX6_canBeHad 38 = .ok (.ireturn, 1) := by decide +kernel
theorem dX6_followNeeds_0 : decode cX6_followNeeds 0 = .ok (.aload_n 0, 1) := by decide +kernel
theorem dX6_followNeeds_1 : decode cX6_followNeeds 1 = .ok (.getfield 9, 3) := by decide +kernel
theorem dX6_followNeeds_4 : decode cX6_followNeeds 4 = .ok (.iconst 0, 1) := by decide +kernel
theorem dX6_followNeeds_5 : decode cX6_followNeeds 5 = .ok (.aload_n 0, 1) := by decide +kernel
theorem dX6_followNeeds_6 : decode cX6_followNeeds 6 = .ok (.getfield 22, 3) := by decide +kernel
theorem dX6_followNeeds_9 : decode cX6_followNeeds 9 = .ok (.iconst 0, 1) := by decide +kernel
theorem dX6_followNeeds_10 : decode cX6_followNeeds 10 = .ok (.bipush 8, 2) := by decide +kernel
theorem dX6_followNeeds_12 : decode cX6_followNeeds 12 = .ok (.invokestatic 48, 3) := by decide +kernel
theorem dX6_followNeeds_15 : decode cX6_followNeeds 15 = .ok (.iconst 0, 1) := by decide +kernel
theorem dX6_followNeeds_16 : decode cX6_followNeeds 16 = .ok (.istore_n 1, 1) := by decide +kernel
theorem dX6_followNeeds_17 : decode cX6_followNeeds 17 = .ok (.iload_n 1, 1) := by decide +kernel
theorem dX6_followNeeds_18 : decode cX6_followNeeds 18 = .ok (.aload_n 0, 1) := by decide +kernel
theorem dX6_followNeeds_19 : decode cX6_followNeeds 19 = .ok (.getfield 40, 3) := by decide +kernel
theorem dX6_followNeeds_22 : decode cX6_followNeeds 22 = .ok (.if_icmp .ge 53, 3) := by decide +kernel
theorem dX6_followNeeds_25 : decode cX6_followNeeds 25 = .ok (.iconst 0, 1) := by decide +kernel
theorem dX6_followNeeds_26 : decode cX6_followNeeds 26 = .ok (.istore_n 2, 1) := by decide +kernel
theorem dX6_followNeeds_27 : decode cX6_followNeeds 27 = .ok (.iload_n 2, 1) := by decide +kernel
theorem dX6_followNeeds_28 : decode cX6_followNeeds 28 = .ok (.aload_n 0, 1) := by decide +kernel
theorem dX6_followNeeds_29 : decode cX6_followNeeds 29 = .ok (.getfield 40, 3) := by decide +kernel
theorem dX6_followNeeds_32 : decode cX6_followNeeds 32 = .ok (.if_icmp .ge 37, 3) := by decide +kernel
theorem dX6_followNeeds_35 : decode cX6_followNeeds 35 = .ok (.aload_n 0, 1) := by decide +kernel
theorem dX6_followNeeds_36 : decode cX6_followNeeds 36 = .ok (.getfield 22, 3) := by decide +kernel
theorem dX6_followNeeds_39 : decode cX6_followNeeds 39 = .ok (.iload_n 2, 1) := by decide +kernel
theorem dX6_followNeeds_40 : decode cX6_followNeeds 40 = .ok (.iaload, 1) := by decide +kernel
theorem dX6_followNeeds_41 : decode cX6_followNeeds 41 = .ok (.iload_n 1, 1) := by decide +kernel
theorem dX6_followNeeds_42 : decode cX6_followNeeds 42 = .ok (.invokestatic 57, 3) := by decide +kernel
theorem dX6_followNeeds_45 : decode cX6_followNeeds 45 = .ok (.ifCond .eq 18, 3) := by decide +kernel
theorem dX6_followNeeds_48 : decode cX6_followNeeds 48 = .ok (.aload_n 0, 1) := by decide +kernel
theorem dX6_followNeeds_49 : decode cX6_followNeeds 49 = .ok (.getfield 22, 3) := by decide +kernel
theorem dX6_followNeeds_52 : decode cX6_followNeeds 52 = .ok (.iload_n 2, 1) := by decide +kernel
theorem dX6_followNeeds_53 : decode cX6_followNeeds 53 = .ok (.dup2, 1) := by decide +kernel
theorem dX6_followNeeds_54 : decode cX6_followNeeds 54 = .ok (.iaload, 1) := by decide +kernel
theorem dX6_followNeeds_55 : decode cX6_followNeeds 55 = .ok (.aload_n 0, 1) := by decide +kernel
theorem dX6_followNeeds_56 : decode cX6_followNeeds 56 = .ok (.getfield 22, 3) := by decide +kernel
theorem dX6_followNeeds_59 : decode cX6_followNeeds 59 = .ok (.iload_n 1, 1) := by decide +kernel
theorem dX6_followNeeds_60 : decode cX6_followNeeds 60 = .ok (.iaload, 1) := by decide +kernel
theorem dX6_followNeeds_61 : decode cX6_followNeeds 61 = .ok (.ior, 1) := by decide +kernel
theorem dX6_followNeeds_62 : decode cX6_followNeeds 62 = .ok (.iastore, 1) := by decide +kernel
theorem dX6_followNeeds_63 : decode cX6_followNeeds 63 = .ok (.iinc 2 1, 3) := by decide +kernel
theorem dX6_followNeeds_66 : decode cX6_followNeeds 66 = .ok (.goto (-39), 3) := by decide +kernel
theorem dX6_followNeeds_69 : decode cX6_followNeeds 69 = .ok (.iinc 1 1, 3) := by decide +kernel
theorem dX6_followNeeds_72 : decode cX6_followNeeds 72 = .ok (.goto (-55), 3) := by decide +kernel
theorem dX6_followNeeds_75 : decode cX6_followNeeds 75 = .ok (.return_, 1) := by decide +kernel
theorem dX6_rounds_0 : decode cX6_rounds 0 = .ok (.aload_n 0, 1) := by decide +kernel
theorem dX6_rounds_1 : decode cX6_rounds 1 = .ok (.invokevirtual 61, 3) := by decide +kernel
theorem dX6_rounds_4 : decode cX6_rounds 4 = .ok (.iconst 0, 1) := by decide +kernel
theorem dX6_rounds_5 : decode cX6_rounds 5 = .ok (.istore_n 1, 1) := by decide +kernel
theorem dX6_rounds_6 : decode cX6_rounds 6 = .ok (.iconst 0, 1) := by decide +kernel
theorem dX6_rounds_7 : decode cX6_rounds 7 = .ok (.istore_n 2, 1) := by decide +kernel
theorem dX6_rounds_8 : decode cX6_rounds 8 = .ok (.iload_n 2, 1) := by decide +kernel
theorem dX6_rounds_9 : decode cX6_rounds 9 = .ok (.aload_n 0, 1) := by decide +kernel
theorem dX6_rounds_10 : decode cX6_rounds 10 = .ok (.getfield 40, 3) := by decide +kernel
theorem dX6_rounds_13 : decode cX6_rounds 13 = .ok (.if_icmp .ge 28, 3) := by decide +kernel
theorem dX6_rounds_16 : decode cX6_rounds 16 = .ok (.aload_n 0, 1) := by decide +kernel
theorem dX6_rounds_17 : decode cX6_rounds 17 = .ok (.getfield 22, 3) := by decide +kernel
theorem dX6_rounds_20 : decode cX6_rounds 20 = .ok (.iload_n 2, 1) := by decide +kernel
theorem dX6_rounds_21 : decode cX6_rounds 21 = .ok (.iaload, 1) := by decide +kernel
theorem dX6_rounds_22 : decode cX6_rounds 22 = .ok (.iload_n 2, 1) := by decide +kernel
theorem dX6_rounds_23 : decode cX6_rounds 23 = .ok (.invokestatic 57, 3) := by decide +kernel
theorem dX6_rounds_26 : decode cX6_rounds 26 = .ok (.ifCond .eq 9, 3) := by decide +kernel
theorem dX6_rounds_29 : decode cX6_rounds 29 = .ok (.iload_n 1, 1) := by decide +kernel
theorem dX6_rounds_30 : decode cX6_rounds 30 = .ok (.iconst 1, 1) := by decide +kernel
theorem dX6_rounds_31 : decode cX6_rounds 31 = .ok (.iload_n 2, 1) := by decide +kernel
theorem dX6_rounds_32 : decode cX6_rounds 32 = .ok (.ishl, 1) := by decide +kernel
theorem dX6_rounds_33 : decode cX6_rounds 33 = .ok (.ior, 1) := by decide +kernel
theorem dX6_rounds_34 : decode cX6_rounds 34 = .ok (.istore_n 1, 1) := by decide +kernel
theorem dX6_rounds_35 : decode cX6_rounds 35 = .ok (.iinc 2 1, 3) := by decide +kernel
theorem dX6_rounds_38 : decode cX6_rounds 38 = .ok (.goto (-30), 3) := by decide +kernel
theorem dX6_rounds_41 : decode cX6_rounds 41 = .ok (.iload_n 1, 1) := by decide +kernel
theorem dX6_rounds_42 : decode cX6_rounds 42 = .ok (.ireturn, 1) := by decide +kernel
theorem dX6_longestChain_0 : decode cX6_longestChain 0 = .ok (.aload_n 0, 1) := by decide +kernel
theorem dX6_longestChain_1 : decode cX6_longestChain 1 = .ok (.invokevirtual 64, 3) := by decide +kernel
theorem dX6_longestChain_4 : decode cX6_longestChain 4 = .ok (.istore_n 2, 1) := by decide +kernel
theorem dX6_longestChain_5 : decode cX6_longestChain 5 = .ok (.iload_n 1, 1) := by decide +kernel
theorem dX6_longestChain_6 : decode cX6_longestChain 6 = .ok (.ifCond .lt 26, 3) := by decide +kernel
theorem dX6_longestChain_9 : decode cX6_longestChain 9 = .ok (.iload_n 1, 1) := by decide +kernel
theorem dX6_longestChain_10 : decode cX6_longestChain 10 = .ok (.aload_n 0, 1) := by decide +kernel
theorem dX6_longestChain_11 : decode cX6_longestChain 11 = .ok (.getfield 40, 3) := by decide +kernel
theorem dX6_longestChain_14 : decode cX6_longestChain 14 = .ok (.if_icmp .ge 18, 3) := by decide +kernel
theorem dX6_longestChain_17 : decode cX6_longestChain 17 = .ok (.aload_n 0, 1) := by decide +kernel
theorem dX6_longestChain_18 : decode cX6_longestChain 18 = .ok (.getfield 22, 3) := by decide +kernel
theorem dX6_longestChain_21 : decode cX6_longestChain 21 = .ok (.iload_n 1, 1) := by decide +kernel
theorem dX6_longestChain_22 : decode cX6_longestChain 22 = .ok (.iaload, 1) := by decide +kernel
theorem dX6_longestChain_23 : decode cX6_longestChain 23 = .ok (.iconst 1, 1) := by decide +kernel
theorem dX6_longestChain_24 : decode cX6_longestChain 24 = .ok (.iload_n 1, 1) := by decide +kernel
theorem dX6_longestChain_25 : decode cX6_longestChain 25 = .ok (.ishl, 1) := by decide +kernel
theorem dX6_longestChain_26 : decode cX6_longestChain 26 = .ok (.ior, 1) := by decide +kernel
theorem dX6_longestChain_27 : decode cX6_longestChain 27 = .ok (.iload_n 2, 1) := by decide +kernel
theorem dX6_longestChain_28 : decode cX6_longestChain 28 = .ok (.iand, 1) := by decide +kernel
theorem dX6_longestChain_29 : decode cX6_longestChain 29 = .ok (.ifCond .eq 5, 3) := by decide +kernel
theorem dX6_longestChain_32 : decode cX6_longestChain 32 = .ok (.iconst (-1), 1) := by decide +kernel
theorem dX6_longestChain_33 : decode cX6_longestChain 33 = .ok (.ireturn, 1) := by decide +kernel
theorem dX6_longestChain_34 : decode cX6_longestChain 34 = .ok (.aload_n 0, 1) := by decide +kernel
theorem dX6_longestChain_35 : decode cX6_longestChain 35 = .ok (.getfield 25, 3) := by decide +kernel
theorem dX6_longestChain_38 : decode cX6_longestChain 38 = .ok (.iconst 1, 1) := by decide +kernel
theorem dX6_longestChain_39 : decode cX6_longestChain 39 = .ok (.invokestatic 68, 3) := by decide +kernel
theorem dX6_longestChain_42 : decode cX6_longestChain 42 = .ok (.iconst 1, 1) := by decide +kernel
theorem dX6_longestChain_43 : decode cX6_longestChain 43 = .ok (.istore_n 3, 1) := by decide +kernel
theorem dX6_longestChain_44 : decode cX6_longestChain 44 = .ok (.iload_n 3, 1) := by decide +kernel
theorem dX6_longestChain_45 : decode cX6_longestChain 45 = .ok (.aload_n 0, 1) := by decide +kernel
theorem dX6_longestChain_46 : decode cX6_longestChain 46 = .ok (.getfield 40, 3) := by decide +kernel
theorem dX6_longestChain_49 : decode cX6_longestChain 49 = .ok (.if_icmp .ge 13, 3) := by decide +kernel
theorem dX6_longestChain_52 : decode cX6_longestChain 52 = .ok (.aload_n 0, 1) := by decide +kernel
theorem dX6_longestChain_53 : decode cX6_longestChain 53 = .ok (.invokevirtual 74, 3) := by decide +kernel
theorem dX6_longestChain_56 : decode cX6_longestChain 56 = .ok (.iinc 3 1, 3) := by decide +kernel
theorem dX6_longestChain_59 : decode cX6_longestChain 59 = .ok (.goto (-15), 3) := by decide +kernel
theorem dX6_longestChain_62 : decode cX6_longestChain 62 = .ok (.aload_n 0, 1) := by decide +kernel
theorem dX6_longestChain_63 : decode cX6_longestChain 63 = .ok (.getfield 25, 3) := by decide +kernel
theorem dX6_longestChain_66 : decode cX6_longestChain 66 = .ok (.iload_n 1, 1) := by decide +kernel
theorem dX6_longestChain_67 : decode cX6_longestChain 67 = .ok (.iaload, 1) := by decide +kernel
theorem dX6_longestChain_68 : decode cX6_longestChain 68 = .ok (.ireturn, 1) := by decide +kernel
theorem dX6_lengthenChains_0 : decode cX6_lengthenChains 0 = .ok (.iconst 0, 1) := by decide +kernel
theorem dX6_lengthenChains_1 : decode cX6_lengthenChains 1 = .ok (.istore_n 1, 1) := by decide +kernel
theorem dX6_lengthenChains_2 : decode cX6_lengthenChains 2 = .ok (.iload_n 1, 1) := by decide +kernel
theorem dX6_lengthenChains_3 : decode cX6_lengthenChains 3 = .ok (.aload_n 0, 1) := by decide +kernel
theorem dX6_lengthenChains_4 : decode cX6_lengthenChains 4 = .ok (.getfield 40, 3) := by decide +kernel
theorem dX6_lengthenChains_7 : decode cX6_lengthenChains 7 = .ok (.if_icmp .ge 61, 3) := by decide +kernel
theorem dX6_lengthenChains_10 : decode cX6_lengthenChains 10 = .ok (.iconst 0, 1) := by decide +kernel
theorem dX6_lengthenChains_11 : decode cX6_lengthenChains 11 = .ok (.istore_n 2, 1) := by decide +kernel
theorem dX6_lengthenChains_12 : decode cX6_lengthenChains 12 = .ok (.iload_n 2, 1) := by decide +kernel
theorem dX6_lengthenChains_13 : decode cX6_lengthenChains 13 = .ok (.aload_n 0, 1) := by decide +kernel
theorem dX6_lengthenChains_14 : decode cX6_lengthenChains 14 = .ok (.getfield 40, 3) := by decide +kernel
theorem dX6_lengthenChains_17 : decode cX6_lengthenChains 17 = .ok (.if_icmp .ge 45, 3) := by decide +kernel
theorem dX6_lengthenChains_20 : decode cX6_lengthenChains 20 = .ok (.aload_n 0, 1) := by decide +kernel
theorem dX6_lengthenChains_21 : decode cX6_lengthenChains 21 = .ok (.getfield 9, 3) := by decide +kernel
theorem dX6_lengthenChains_24 : decode cX6_lengthenChains 24 = .ok (.iload_n 1, 1) := by decide +kernel
theorem dX6_lengthenChains_25 : decode cX6_lengthenChains 25 = .ok (.iaload, 1) := by decide +kernel
theorem dX6_lengthenChains_26 : decode cX6_lengthenChains 26 = .ok (.iload_n 2, 1) := by decide +kernel
theorem dX6_lengthenChains_27 : decode cX6_lengthenChains 27 = .ok (.invokestatic 57, 3) := by decide +kernel
theorem dX6_lengthenChains_30 : decode cX6_lengthenChains 30 = .ok (.ifCond .eq 26, 3) := by decide +kernel
theorem dX6_lengthenChains_33 : decode cX6_lengthenChains 33 = .ok (.aload_n 0, 1) := by decide +kernel
theorem dX6_lengthenChains_34 : decode cX6_lengthenChains 34 = .ok (.getfield 25, 3) := by decide +kernel
theorem dX6_lengthenChains_37 : decode cX6_lengthenChains 37 = .ok (.iload_n 1, 1) := by decide +kernel
theorem dX6_lengthenChains_38 : decode cX6_lengthenChains 38 = .ok (.aload_n 0, 1) := by decide +kernel
theorem dX6_lengthenChains_39 : decode cX6_lengthenChains 39 = .ok (.getfield 25, 3) := by decide +kernel
theorem dX6_lengthenChains_42 : decode cX6_lengthenChains 42 = .ok (.iload_n 1, 1) := by decide +kernel
theorem dX6_lengthenChains_43 : decode cX6_lengthenChains 43 = .ok (.iaload, 1) := by decide +kernel
theorem dX6_lengthenChains_44 : decode cX6_lengthenChains 44 = .ok (.aload_n 0, 1) := by decide +kernel
theorem dX6_lengthenChains_45 : decode cX6_lengthenChains 45 = .ok (.getfield 25, 3) := by decide +kernel
theorem dX6_lengthenChains_48 : decode cX6_lengthenChains 48 = .ok (.iload_n 2, 1) := by decide +kernel
theorem dX6_lengthenChains_49 : decode cX6_lengthenChains 49 = .ok (.iaload, 1) := by decide +kernel
theorem dX6_lengthenChains_50 : decode cX6_lengthenChains 50 = .ok (.iconst 1, 1) := by decide +kernel
theorem dX6_lengthenChains_51 : decode cX6_lengthenChains 51 = .ok (.iadd, 1) := by decide +kernel
theorem dX6_lengthenChains_52 : decode cX6_lengthenChains 52 = .ok (.invokestatic 77, 3) := by decide +kernel
theorem dX6_lengthenChains_55 : decode cX6_lengthenChains 55 = .ok (.iastore, 1) := by decide +kernel
theorem dX6_lengthenChains_56 : decode cX6_lengthenChains 56 = .ok (.iinc 2 1, 3) := by decide +kernel
theorem dX6_lengthenChains_59 : decode cX6_lengthenChains 59 = .ok (.goto (-47), 3) := by decide +kernel
theorem dX6_lengthenChains_62 : decode cX6_lengthenChains 62 = .ok (.iinc 1 1, 3) := by decide +kernel
theorem dX6_lengthenChains_65 : decode cX6_lengthenChains 65 = .ok (.goto (-63), 3) := by decide +kernel
theorem dX6_lengthenChains_68 : decode cX6_lengthenChains 68 = .ok (.return_, 1) := by decide +kernel
theorem dX6_firstParting_0 : decode cX6_firstParting 0 = .ok (.aload_n 0, 1) := by decide +kernel
theorem dX6_firstParting_1 : decode cX6_firstParting 1 = .ok (.iload_n 1, 1) := by decide +kernel
theorem dX6_firstParting_2 : decode cX6_firstParting 2 = .ok (.invokevirtual 80, 3) := by decide +kernel
theorem dX6_firstParting_5 : decode cX6_firstParting 5 = .ok (.ifCond .eq 5, 3) := by decide +kernel
theorem dX6_firstParting_8 : decode cX6_firstParting 8 = .ok (.iconst (-1), 1) := by decide +kernel
theorem dX6_firstParting_9 : decode cX6_firstParting 9 = .ok (.ireturn, 1) := by decide +kernel
theorem dX6_firstParting_10 : decode cX6_firstParting 10 = .ok (.aload_n 0, 1) := by decide +kernel
theorem dX6_firstParting_11 : decode cX6_firstParting 11 = .ok (.aload_n 0, 1) := by decide +kernel
theorem dX6_firstParting_12 : decode cX6_firstParting 12 = .ok (.getfield 9, 3) := by decide +kernel
theorem dX6_firstParting_15 : decode cX6_firstParting 15 = .ok (.iload_n 1, 1) := by decide +kernel
theorem dX6_firstParting_16 : decode cX6_firstParting 16 = .ok (.invokevirtual 84, 3) := by decide +kernel
theorem dX6_firstParting_19 : decode cX6_firstParting 19 = .ok (.istore_n 2, 1) := by decide +kernel
theorem dX6_firstParting_20 : decode cX6_firstParting 20 = .ok (.iload_n 2, 1) := by decide +kernel
theorem dX6_firstParting_21 : decode cX6_firstParting 21 = .ok (.iconst (-1), 1) := by decide +kernel
theorem dX6_firstParting_22 : decode cX6_firstParting 22 = .ok (.if_icmp .eq 5, 3) := by decide +kernel
theorem dX6_firstParting_25 : decode cX6_firstParting 25 = .ok (.iload_n 2, 1) := by decide +kernel
theorem dX6_firstParting_26 : decode cX6_firstParting 26 = .ok (.ireturn, 1) := by decide +kernel
theorem dX6_firstParting_27 : decode cX6_firstParting 27 = .ok (.aload_n 0, 1) := by decide +kernel
theorem dX6_firstParting_28 : decode cX6_firstParting 28 = .ok (.aload_n 0, 1) := by decide +kernel
theorem dX6_firstParting_29 : decode cX6_firstParting 29 = .ok (.getfield 15, 3) := by decide +kernel
theorem dX6_firstParting_32 : decode cX6_firstParting 32 = .ok (.iload_n 1, 1) := by decide +kernel
theorem dX6_firstParting_33 : decode cX6_firstParting 33 = .ok (.invokevirtual 84, 3) := by decide +kernel
theorem dX6_firstParting_36 : decode cX6_firstParting 36 = .ok (.istore_n 3, 1) := by decide +kernel
theorem dX6_firstParting_37 : decode cX6_firstParting 37 = .ok (.iload_n 3, 1) := by decide +kernel
theorem dX6_firstParting_38 : decode cX6_firstParting 38 = .ok (.iconst (-1), 1) := by decide +kernel
theorem dX6_firstParting_39 : decode cX6_firstParting 39 = .ok (.if_icmp .ne 7, 3) := by decide +kernel
theorem dX6_firstParting_42 : decode cX6_firstParting 42 = .ok (.iconst (-1), 1) := by decide +kernel
theorem dX6_firstParting_43 : decode cX6_firstParting 43 = .ok (.goto 7, 3) := by decide +kernel
theorem dX6_firstParting_46 : decode cX6_firstParting 46 = .ok (.bipush 100, 2) := by decide +kernel
theorem dX6_firstParting_48 : decode cX6_firstParting 48 = .ok (.iload_n 3, 1) := by decide +kernel
theorem dX6_firstParting_49 : decode cX6_firstParting 49 = .ok (.iadd, 1) := by decide +kernel
theorem dX6_firstParting_50 : decode cX6_firstParting 50 = .ok (.ireturn, 1) := by decide +kernel
theorem dX6_firstPartingOf_0 : decode cX6_firstPartingOf 0 = .ok (.iconst 0, 1) := by decide +kernel
theorem dX6_firstPartingOf_1 : decode cX6_firstPartingOf 1 = .ok (.istore_n 3, 1) := by decide +kernel
theorem dX6_firstPartingOf_2 : decode cX6_firstPartingOf 2 = .ok (.iload_n 3, 1) := by decide +kernel
theorem dX6_firstPartingOf_3 : decode cX6_firstPartingOf 3 = .ok (.aload_n 0, 1) := by decide +kernel
theorem dX6_firstPartingOf_4 : decode cX6_firstPartingOf 4 = .ok (.getfield 40, 3) := by decide +kernel
theorem dX6_firstPartingOf_7 : decode cX6_firstPartingOf 7 = .ok (.if_icmp .ge 58, 3) := by decide +kernel
theorem dX6_firstPartingOf_10 : decode cX6_firstPartingOf 10 = .ok (.iconst 0, 1) := by decide +kernel
theorem dX6_firstPartingOf_11 : decode cX6_firstPartingOf 11 = .ok (.istore 4, 2) := by decide +kernel
theorem dX6_firstPartingOf_13 : decode cX6_firstPartingOf 13 = .ok (.iload 4, 2) := by decide +kernel
theorem dX6_firstPartingOf_15 : decode cX6_firstPartingOf 15 = .ok (.aload_n 0, 1) := by decide +kernel
theorem dX6_firstPartingOf_16 : decode cX6_firstPartingOf 16 = .ok (.getfield 40, 3) := by decide +kernel
theorem dX6_firstPartingOf_19 : decode cX6_firstPartingOf 19 = .ok (.if_icmp .ge 40, 3) := by decide +kernel
theorem dX6_firstPartingOf_22 : decode cX6_firstPartingOf 22 = .ok (.aload_n 1, 1) := by decide +kernel
theorem dX6_firstPartingOf_23 : decode cX6_firstPartingOf 23 = .ok (.iload_n 3, 1) := by decide +kernel
theorem dX6_firstPartingOf_24 : decode cX6_firstPartingOf 24 = .ok (.iaload, 1) := by decide +kernel
theorem dX6_firstPartingOf_25 : decode cX6_firstPartingOf 25 = .ok (.iload 4, 2) := by decide +kernel
theorem dX6_firstPartingOf_27 : decode cX6_firstPartingOf 27 = .ok (.invokestatic 57, 3) := by decide +kernel
theorem dX6_firstPartingOf_30 : decode cX6_firstPartingOf 30 = .ok (.ifCond .eq 23, 3) := by decide +kernel
theorem dX6_firstPartingOf_33 : decode cX6_firstPartingOf 33 = .ok (.aload_n 0, 1) := by decide +kernel
theorem dX6_firstPartingOf_34 : decode cX6_firstPartingOf 34 = .ok (.aload_n 1, 1) := by decide +kernel
theorem dX6_firstPartingOf_35 : decode cX6_firstPartingOf 35 = .ok (.iload_n 3, 1) := by decide +kernel
theorem dX6_firstPartingOf_36 : decode cX6_firstPartingOf 36 = .ok (.iload 4, 2) := by decide +kernel
theorem dX6_firstPartingOf_38 : decode cX6_firstPartingOf 38 = .ok (.iload_n 2, 1) := by decide +kernel
theorem dX6_firstPartingOf_39 : decode cX6_firstPartingOf 39 = .ok (.invokevirtual 88, 3) := by decide +kernel
theorem dX6_firstPartingOf_42 : decode cX6_firstPartingOf 42 = .ok (.ifCond .eq 11, 3) := by decide +kernel
theorem dX6_firstPartingOf_45 : decode cX6_firstPartingOf 45 = .ok (.bipush 10, 2) := by decide +kernel
theorem dX6_firstPartingOf_47 : decode cX6_firstPartingOf 47 = .ok (.iload_n 3, 1) := by decide +kernel
theorem dX6_firstPartingOf_48 : decode cX6_firstPartingOf 48 = .ok (.imul, 1) := by decide +kernel
theorem dX6_firstPartingOf_49 : decode cX6_firstPartingOf 49 = .ok (.iload 4, 2) := by decide +kernel
theorem dX6_firstPartingOf_51 : decode cX6_firstPartingOf 51 = .ok (.iadd, 1) := by decide +kernel
theorem dX6_firstPartingOf_52 : decode cX6_firstPartingOf 52 = .ok (.ireturn, 1) := by decide +kernel
theorem dX6_firstPartingOf_53 : decode cX6_firstPartingOf 53 = .ok (.iinc 4 1, 3) := by decide +kernel
theorem dX6_firstPartingOf_56 : decode cX6_firstPartingOf 56 = .ok (.goto (-43), 3) := by decide +kernel
theorem dX6_firstPartingOf_59 : decode cX6_firstPartingOf 59 = .ok (.iinc 3 1, 3) := by decide +kernel
theorem dX6_firstPartingOf_62 : decode cX6_firstPartingOf 62 = .ok (.goto (-60), 3) := by decide +kernel
theorem dX6_firstPartingOf_65 : decode cX6_firstPartingOf 65 = .ok (.iconst (-1), 1) := by decide +kernel
theorem dX6_firstPartingOf_66 : decode cX6_firstPartingOf 66 = .ok (.ireturn, 1) := by decide +kernel
theorem dX6_isHadWithout_0 : decode cX6_isHadWithout 0 = .ok (.aload_n 1, 1) := by decide +kernel
theorem dX6_isHadWithout_1 : decode cX6_isHadWithout 1 = .ok (.iload_n 2, 1) := by decide +kernel
theorem dX6_isHadWithout_2 : decode cX6_isHadWithout 2 = .ok (.dup2, 1) := by decide +kernel
theorem dX6_isHadWithout_3 : decode cX6_isHadWithout 3 = .ok (.iaload, 1) := by decide +kernel
theorem dX6_isHadWithout_4 : decode cX6_isHadWithout 4 = .ok (.iconst 1, 1) := by decide +kernel
theorem dX6_isHadWithout_5 : decode cX6_isHadWithout 5 = .ok (.iload_n 3, 1) := by decide +kernel
theorem dX6_isHadWithout_6 : decode cX6_isHadWithout 6 = .ok (.ishl, 1) := by decide +kernel
theorem dX6_isHadWithout_7 : decode cX6_isHadWithout 7 = .ok (.ixor, 1) := by decide +kernel
theorem dX6_isHadWithout_8 : decode cX6_isHadWithout 8 = .ok (.iastore, 1) := by decide +kernel
theorem dX6_isHadWithout_9 : decode cX6_isHadWithout 9 = .ok (.aload_n 0, 1) := by decide +kernel
theorem dX6_isHadWithout_10 : decode cX6_isHadWithout 10 = .ok (.invokevirtual 54, 3) := by decide +kernel
theorem dX6_isHadWithout_13 : decode cX6_isHadWithout 13 = .ok (.aload_n 1, 1) := by decide +kernel
theorem dX6_isHadWithout_14 : decode cX6_isHadWithout 14 = .ok (.iload_n 2, 1) := by decide +kernel
theorem dX6_isHadWithout_15 : decode cX6_isHadWithout 15 = .ok (.dup2, 1) := by decide +kernel
theorem dX6_isHadWithout_16 : decode cX6_isHadWithout 16 = .ok (.iaload, 1) := by decide +kernel
theorem dX6_isHadWithout_17 : decode cX6_isHadWithout 17 = .ok (.iconst 1, 1) := by decide +kernel
theorem dX6_isHadWithout_18 : decode cX6_isHadWithout 18 = .ok (.iload_n 3, 1) := by decide +kernel
theorem dX6_isHadWithout_19 : decode cX6_isHadWithout 19 = .ok (.ishl, 1) := by decide +kernel
theorem dX6_isHadWithout_20 : decode cX6_isHadWithout 20 = .ok (.ixor, 1) := by decide +kernel
theorem dX6_isHadWithout_21 : decode cX6_isHadWithout 21 = .ok (.iastore, 1) := by decide +kernel
theorem dX6_isHadWithout_22 : decode cX6_isHadWithout 22 = .ok (.aload_n 0, 1) := by decide +kernel
theorem dX6_isHadWithout_23 : decode cX6_isHadWithout 23 = .ok (.iload 4, 2) := by decide +kernel
theorem dX6_isHadWithout_25 : decode cX6_isHadWithout 25 = .ok (.invokevirtual 80, 3) := by decide +kernel
theorem dX6_isHadWithout_28 : decode cX6_isHadWithout 28 = .ok (.ireturn, 1) := by decide +kernel
theorem dX7_init_0 : decode cX7_init 0 = .ok (.aload_n 0, 1) := by decide +kernel
theorem dX7_init_1 : decode cX7_init 1 = .ok (.invokespecial 3, 3) := by decide +kernel
theorem dX7_init_4 : decode cX7_init 4 = .ok (.aload_n 0, 1) := by decide +kernel
theorem dX7_init_5 : decode cX7_init 5 = .ok (.iconst 4, 1) := by decide +kernel
theorem dX7_init_6 : decode cX7_init 6 = .ok (.bipush 60, 2) := by decide +kernel
theorem dX7_init_8 : decode cX7_init 8 = .ok (.multianewarray 11 2, 4) := by decide +kernel
theorem dX7_init_12 : decode cX7_init 12 = .ok (.putfield 13, 3) := by decide +kernel
theorem dX7_init_15 : decode cX7_init 15 = .ok (.aload_n 0, 1) := by decide +kernel
theorem dX7_init_16 : decode cX7_init 16 = .ok (.iconst 4, 1) := by decide +kernel
theorem dX7_init_17 : decode cX7_init 17 = .ok (.newarray .int, 2) := by decide +kernel
theorem dX7_init_19 : decode cX7_init 19 = .ok (.putfield 16, 3) := by decide +kernel
theorem dX7_init_22 : decode cX7_init 22 = .ok (.aload_n 0, 1) := by decide +kernel
theorem dX7_init_23 : decode cX7_init 23 = .ok (.iconst 4, 1) := by decide +kernel
theorem dX7_init_24 : decode cX7_init 24 = .ok (.newarray .int, 2) := by decide +kernel
theorem dX7_init_26 : decode cX7_init 26 = .ok (.putfield 20, 3) := by decide +kernel
theorem dX7_init_29 : decode cX7_init 29 = .ok (.aload_n 0, 1) := by decide +kernel
theorem dX7_init_30 : decode cX7_init 30 = .ok (.getfield 20, 3) := by decide +kernel
theorem dX7_init_33 : decode cX7_init 33 = .ok (.iconst (-1), 1) := by decide +kernel
theorem dX7_init_34 : decode cX7_init 34 = .ok (.invokestatic 23, 3) := by decide +kernel
theorem dX7_init_37 : decode cX7_init 37 = .ok (.return_, 1) := by decide +kernel
theorem dX7_isSlot_0 : decode cX7_isSlot 0 = .ok (.iload_n 1, 1) := by decide +kernel
theorem dX7_isSlot_1 : decode cX7_isSlot 1 = .ok (.ifCond .lt 12, 3) := by decide +kernel
theorem dX7_isSlot_4 : decode cX7_isSlot 4 = .ok (.iload_n 1, 1) := by decide +kernel
theorem dX7_isSlot_5 : decode cX7_isSlot 5 = .ok (.iconst 4, 1) := by decide +kernel
theorem dX7_isSlot_6 : decode cX7_isSlot 6 = .ok (.if_icmp .ge 7, 3) := by decide +kernel
theorem dX7_isSlot_9 : decode cX7_isSlot 9 = .ok (.iconst 1, 1) := by decide +kernel
theorem dX7_isSlot_10 : decode cX7_isSlot 10 = .ok (.goto 4, 3) := by decide +kernel
theorem dX7_isSlot_13 : decode cX7_isSlot 13 = .ok (.iconst 0, 1) := by decide +kernel
theorem dX7_isSlot_14 : decode cX7_isSlot 14 = .ok (.ireturn, 1) := by decide +kernel
theorem dX7_hasRow_0 : decode cX7_hasRow 0 = .ok (.aload_n 0, 1) := by decide +kernel
theorem dX7_hasRow_1 : decode cX7_hasRow 1 = .ok (.iload_n 1, 1) := by decide +kernel
theorem dX7_hasRow_2 : decode cX7_hasRow 2 = .ok (.invokevirtual 29, 3) := by decide +kernel
theorem dX7_hasRow_5 : decode cX7_hasRow 5 = .ok (.ifCond .eq 17, 3) := by decide +kernel
theorem dX7_hasRow_8 : decode cX7_hasRow 8 = .ok (.aload_n 0, 1) := by decide +kernel
theorem dX7_hasRow_9 : decode cX7_hasRow 9 = .ok (.getfield 20, 3) := by decide +kernel
theorem dX7_hasRow_12 : decode cX7_hasRow 12 = .ok (.iload_n 1, 1) := by decide +kernel
theorem dX7_hasRow_13 : decode cX7_hasRow 13 = .ok (.iaload, 1) := by decide +kernel
theorem dX7_hasRow_14 : decode cX7_hasRow 14 = .ok (.iconst (-1), 1) := by decide +kernel
theorem dX7_hasRow_15 : decode cX7_hasRow 15 = .ok (.if_icmp .eq 7, 3) := by decide +kernel
theorem dX7_hasRow_18 : decode cX7_hasRow 18 = .ok (.iconst 1, 1) := by decide +kernel
theorem dX7_hasRow_19 : decode cX7_hasRow 19 = .ok (.goto 4, 3) := by decide +kernel
theorem dX7_hasRow_22 : decode cX7_hasRow 22 = .ok (.iconst 0, 1) := by decide +kernel
theorem dX7_hasRow_23 : decode cX7_hasRow 23 = .ok (.ireturn, 1) := by decide +kernel
theorem dX7_howMany_0 : decode cX7_howMany 0 = .ok (.iconst 0, 1) := by decide +kernel
theorem dX7_howMany_1 : decode cX7_howMany 1 = .ok (.istore_n 1, 1) := by decide +kernel
theorem dX7_howMany_2 : decode cX7_howMany 2 = .ok (.iconst 0, 1) := by decide +kernel
theorem dX7_howMany_3 : decode cX7_howMany 3 = .ok (.istore_n 2, 1) := by decide +kernel
theorem dX7_howMany_4 : decode cX7_howMany 4 = .ok (.iload_n 2, 1) := by decide +kernel
theorem dX7_howMany_5 : decode cX7_howMany 5 = .ok (.iconst 4, 1) := by decide +kernel
theorem dX7_howMany_6 : decode cX7_howMany 6 = .ok (.if_icmp .ge 20, 3) := by decide +kernel
theorem dX7_howMany_9 : decode cX7_howMany 9 = .ok (.aload_n 0, 1) := by decide +kernel
theorem dX7_howMany_10 : decode cX7_howMany 10 = .ok (.iload_n 2, 1) := by decide +kernel
theorem dX7_howMany_11 : decode cX7_howMany 11 = .ok (.invokevirtual 33, 3) := by decide +kernel
theorem dX7_howMany_14 : decode cX7_howMany 14 = .ok (.ifCond .eq 6, 3) := by decide +kernel
theorem dX7_howMany_17 : decode cX7_howMany 17 = .ok (.iinc 1 1, 3) := by decide +kernel
theorem dX7_howMany_20 : decode cX7_howMany 20 = .ok (.iinc 2 1, 3) := by decide +kernel
theorem dX7_howMany_23 : decode cX7_howMany 23 = .ok (.goto (-19), 3) := by decide +kernel
theorem dX7_howMany_26 : decode cX7_howMany 26 = .ok (.iload_n 1, 1) := by decide +kernel
theorem dX7_howMany_27 : decode cX7_howMany 27 = .ok (.ireturn, 1) := by decide +kernel
theorem dX7_widthOf_0 : decode cX7_widthOf 0 = .ok (.aload_n 0, 1) := by decide +kernel
theorem dX7_widthOf_1 : decode cX7_widthOf 1 = .ok (.iload_n 1, 1) := by decide +kernel
theorem dX7_widthOf_2 : decode cX7_widthOf 2 = .ok (.invokevirtual 29, 3) := by decide +kernel
theorem dX7_widthOf_5 : decode cX7_widthOf 5 = .ok (.ifCond .eq 12, 3) := by decide +kernel
theorem dX7_widthOf_8 : decode cX7_widthOf 8 = .ok (.aload_n 0, 1) := by decide +kernel
theorem dX7_widthOf_9 : decode cX7_widthOf 9 = .ok (.getfield 16, 3) := by decide +kernel
theorem dX7_widthOf_12 : decode cX7_widthOf 12 = .ok (.iload_n 1, 1) := by decide +kernel
theorem dX7_widthOf_13 : decode cX7_widthOf 13 = .ok (.iaload, 1) := by decide +kernel
theorem dX7_widthOf_14 : decode cX7_widthOf 14 = .ok (.goto 4, 3) := by decide +kernel
theorem dX7_widthOf_17 : decode cX7_widthOf 17 = .ok (.iconst (-1), 1) := by decide +kernel
theorem dX7_widthOf_18 : decode cX7_widthOf 18 = .ok (.ireturn, 1) := by decide +kernel
theorem dX7_lengthOf_0 : decode cX7_lengthOf 0 = .ok (.aload_n 0, 1) := by decide +kernel
theorem dX7_lengthOf_1 : decode cX7_lengthOf 1 = .ok (.iload_n 1, 1) := by decide +kernel
theorem dX7_lengthOf_2 : decode cX7_lengthOf 2 = .ok (.invokevirtual 33, 3) := by decide +kernel
theorem dX7_lengthOf_5 : decode cX7_lengthOf 5 = .ok (.ifCond .eq 12, 3) := by decide +kernel
theorem dX7_lengthOf_8 : decode cX7_lengthOf 8 = .ok (.aload_n 0, 1) := by decide +kernel
theorem dX7_lengthOf_9 : decode cX7_lengthOf 9 = .ok (.getfield 20, 3) := by decide +kernel
theorem dX7_lengthOf_12 : decode cX7_lengthOf 12 = .ok (.iload_n 1, 1) := by decide +kernel
theorem dX7_lengthOf_13 : decode cX7_lengthOf 13 = .ok (.iaload, 1) := by decide +kernel
theorem dX7_lengthOf_14 : decode cX7_lengthOf 14 = .ok (.goto 4, 3) := by decide +kernel
theorem dX7_lengthOf_17 : decode cX7_lengthOf 17 = .ok (.iconst 0, 1) := by decide +kernel
theorem dX7_lengthOf_18 : decode cX7_lengthOf 18 = .ok (.ireturn, 1) := by decide +kernel
theorem dX7_lay_0 : decode cX7_lay 0 = .ok (.aload_n 0, 1) := by decide +kernel
theorem dX7_lay_1 : decode cX7_lay 1 = .ok (.iload_n 1, 1) := by decide +kernel
theorem dX7_lay_2 : decode cX7_lay 2 = .ok (.invokevirtual 29, 3) := by decide +kernel
theorem dX7_lay_5 : decode cX7_lay 5 = .ok (.ifCond .eq 37, 3) := by decide +kernel
theorem dX7_lay_8 : decode cX7_lay 8 = .ok (.iload_n 3, 1) := by decide +kernel
theorem dX7_lay_9 : decode cX7_lay 9 = .ok (.ifCond .lt 33, 3) := by decide +kernel
theorem dX7_lay_12 : decode cX7_lay 12 = .ok (.iload_n 3, 1) := by decide +kernel
theorem dX7_lay_13 : decode cX7_lay 13 = .ok (.bipush 60, 2) := by decide +kernel
theorem dX7_lay_15 : decode cX7_lay 15 = .ok (.if_icmp .gt 27, 3) := by decide +kernel
theorem dX7_lay_18 : decode cX7_lay 18 = .ok (.aload_n 0, 1) := by decide +kernel
theorem dX7_lay_19 : decode cX7_lay 19 = .ok (.getfield 16, 3) := by decide +kernel
theorem dX7_lay_22 : decode cX7_lay 22 = .ok (.iload_n 1, 1) := by decide +kernel
theorem dX7_lay_23 : decode cX7_lay 23 = .ok (.iload_n 2, 1) := by decide +kernel
theorem dX7_lay_24 : decode cX7_lay 24 = .ok (.iastore, 1) := by decide +kernel
theorem dX7_lay_25 : decode cX7_lay 25 = .ok (.aload_n 0, 1) := by decide +kernel
theorem dX7_lay_26 : decode cX7_lay 26 = .ok (.getfield 20, 3) := by decide +kernel
theorem dX7_lay_29 : decode cX7_lay 29 = .ok (.iload_n 1, 1) := by decide +kernel
theorem dX7_lay_30 : decode cX7_lay 30 = .ok (.iload_n 3, 1) := by decide +kernel
theorem dX7_lay_31 : decode cX7_lay 31 = .ok (.iastore, 1) := by decide +kernel
theorem dX7_lay_32 : decode cX7_lay 32 = .ok (.aload_n 0, 1) := by decide +kernel
theorem dX7_lay_33 : decode cX7_lay 33 = .ok (.getfield 13, 3) := by decide +kernel
theorem dX7_lay_36 : decode cX7_lay 36 = .ok (.iload_n 1, 1) := by decide +kernel
theorem dX7_lay_37 : decode cX7_lay 37 = .ok (.aaload, 1) := by decide +kernel
theorem dX7_lay_38 : decode cX7_lay 38 = .ok (.lconst 0, 1) := by decide +kernel
theorem dX7_lay_39 : decode cX7_lay 39 = .ok (.invokestatic 36, 3) := by decide +kernel
theorem dX7_lay_42 : decode cX7_lay 42 = .ok (.return_, 1) := by decide +kernel
theorem dX7_set_0 : decode cX7_set 0 = .ok (.iload_n 2, 1) := by decide +kernel
theorem dX7_set_1 : decode cX7_set 1 = .ok (.ifCond .lt 12, 3) := by decide +kernel
theorem dX7_set_4 : decode cX7_set 4 = .ok (.iload_n 2, 1) := by decide +kernel
theorem dX7_set_5 : decode cX7_set 5 = .ok (.aload_n 0, 1) := by decide +kernel
theorem dX7_set_6 : decode cX7_set 6 = .ok (.iload_n 1, 1) := by decide +kernel
theorem dX7_set_7 : decode cX7_set 7 = .ok (.invokevirtual 39, 3) := by decide +kernel
theorem dX7_set_10 : decode cX7_set 10 = .ok (.if_icmp .lt 5, 3) := by decide +kernel
theorem dX7_set_13 : decode cX7_set 13 = .ok (.iconst 0, 1) := by decide +kernel
theorem dX7_set_14 : decode cX7_set 14 = .ok (.ireturn, 1) := by decide +kernel
theorem dX7_set_15 : decode cX7_set 15 = .ok (.aload_n 0, 1) := by decide +kernel
theorem dX7_set_16 : decode cX7_set 16 = .ok (.getfield 13, 3) := by decide +kernel
theorem dX7_set_19 : decode cX7_set 19 = .ok (.iload_n 1, 1) := by decide +kernel
theorem dX7_set_20 : decode cX7_set 20 = .ok (.aaload, 1) := by decide +kernel
theorem dX7_set_21 : decode cX7_set 21 = .ok (.iload_n 2, 1) := by decide +kernel
theorem dX7_set_22 : decode cX7_set 22 = .ok (.lload_n 3, 1) := by decide +kernel
theorem dX7_set_23 : decode cX7_set 23 = .ok (.aload_n 0, 1) := by decide +kernel
theorem dX7_set_24 : decode cX7_set 24 = .ok (.getfield 16, 3) := by decide +kernel
theorem dX7_set_27 : decode cX7_set 27 = .ok (.iload_n 1, 1) := by decide +kernel
theorem dX7_set_28 : decode cX7_set 28 = .ok (.iaload, 1) := by decide +kernel
theorem dX7_set_29 : decode cX7_set 29 = .ok (.invokestatic 43, 3) := by decide +kernel
theorem dX7_set_32 : decode cX7_set 32 = .ok (.lastore, 1) := by decide +kernel
theorem dX7_set_33 : decode cX7_set 33 = .ok (.iconst 1, 1) := by decide +kernel
theorem dX7_set_34 : decode cX7_set 34 = .ok (.ireturn, 1) := by decide +kernel
theorem dX7_cut_0 : decode cX7_cut 0 = .ok (.iload_n 2, 1) := by decide +kernel
theorem dX7_cut_1 : decode cX7_cut 1 = .ok (.tableswitch 41 0 2 #[27, 32, 37], 27) := by decide +kernel
theorem dX7_cut_28 : decode cX7_cut 28 = .ok (.lload_n 0, 1) := by decide +kernel
theorem dX7_cut_29 : decode cX7_cut 29 = .ok (.l2i, 1) := by decide +kernel
theorem dX7_cut_30 : decode cX7_cut 30 = .ok (.i2b, 1) := by decide +kernel
theorem dX7_cut_31 : decode cX7_cut 31 = .ok (.i2l, 1) := by decide +kernel
theorem dX7_cut_32 : decode cX7_cut 32 = .ok (.lreturn, 1) := by decide +kernel
theorem dX7_cut_33 : decode cX7_cut 33 = .ok (.lload_n 0, 1) := by decide +kernel
theorem dX7_cut_34 : decode cX7_cut 34 = .ok (.l2i, 1) := by decide +kernel
theorem dX7_cut_35 : decode cX7_cut 35 = .ok (.i2s, 1) := by decide +kernel
theorem dX7_cut_36 : decode cX7_cut 36 = .ok (.i2l, 1) := by decide +kernel
theorem dX7_cut_37 : decode cX7_cut 37 = .ok (.lreturn, 1) := by decide +kernel
theorem dX7_cut_38 : decode cX7_cut 38 = .ok (.lload_n 0, 1) := by decide +kernel
theorem dX7_cut_39 : decode cX7_cut 39 = .ok (.l2i, 1) := by decide +kernel
theorem dX7_cut_40 : decode cX7_cut 40 = .ok (.i2l, 1) := by decide +kernel
theorem dX7_cut_41 : decode cX7_cut 41 = .ok (.lreturn, 1) := by decide +kernel
theorem dX7_cut_42 : decode cX7_cut 42 = .ok (.lload_n 0, 1) := by decide +kernel
theorem dX7_cut_43 : decode cX7_cut 43 = .ok (.lreturn, 1) := by decide +kernel
theorem dX7_reaches_0 : decode cX7_reaches 0 = .ok (.aload_n 0, 1) := by decide +kernel
theorem dX7_reaches_1 : decode cX7_reaches 1 = .ok (.iload_n 1, 1) := by decide +kernel
theorem dX7_reaches_2 : decode cX7_reaches 2 = .ok (.invokevirtual 39, 3) := by decide +kernel
theorem dX7_reaches_5 : decode cX7_reaches 5 = .ok (.istore 4, 2) := by decide +kernel
theorem dX7_reaches_7 : decode cX7_reaches 7 = .ok (.iload_n 2, 1) := by decide +kernel
theorem dX7_reaches_8 : decode cX7_reaches 8 = .ok (.ifCond .lt 25, 3) := by decide +kernel
theorem dX7_reaches_11 : decode cX7_reaches 11 = .ok (.iload_n 3, 1) := by decide +kernel
theorem dX7_reaches_12 : decode cX7_reaches 12 = .ok (.ifCond .lt 21, 3) := by decide +kernel
theorem dX7_reaches_15 : decode cX7_reaches 15 = .ok (.iload_n 2, 1) := by decide +kernel
theorem dX7_reaches_16 : decode cX7_reaches 16 = .ok (.iload 4, 2) := by decide +kernel
theorem dX7_reaches_18 : decode cX7_reaches 18 = .ok (.if_icmp .gt 15, 3) := by decide +kernel
theorem dX7_reaches_21 : decode cX7_reaches 21 = .ok (.iload_n 3, 1) := by decide +kernel
theorem dX7_reaches_22 : decode cX7_reaches 22 = .ok (.iload 4, 2) := by decide +kernel
theorem dX7_reaches_24 : decode cX7_reaches 24 = .ok (.iload_n 2, 1) := by decide +kernel
theorem dX7_reaches_25 : decode cX7_reaches 25 = .ok (.isub, 1) := by decide +kernel
theorem dX7_reaches_26 : decode cX7_reaches 26 = .ok (.if_icmp .gt 7, 3) := by decide +kernel
theorem dX7_reaches_29 : decode cX7_reaches 29 = .ok (.iconst 1, 1) := by decide +kernel
theorem dX7_reaches_30 : decode cX7_reaches 30 = .ok (.goto 4, 3) := by decide +kernel
theorem dX7_reaches_33 : decode cX7_reaches 33 = .ok (.iconst 0, 1) := by decide +kernel
theorem dX7_reaches_34 : decode cX7_reaches 34 = .ok (.ireturn, 1) := by decide +kernel
theorem dX7_copy_0 : decode cX7_copy 0 = .ok (.aload_n 0, 1) := by decide +kernel
theorem dX7_copy_1 : decode cX7_copy 1 = .ok (.iload_n 1, 1) := by decide +kernel
theorem dX7_copy_2 : decode cX7_copy 2 = .ok (.iload_n 2, 1) := by decide +kernel
theorem dX7_copy_3 : decode cX7_copy 3 = .ok (.iload 5, 2) := by decide +kernel
theorem dX7_copy_5 : decode cX7_copy 5 = .ok (.invokevirtual 47, 3) := by decide +kernel
theorem dX7_copy_8 : decode cX7_copy 8 = .ok (.ifCond .eq 51, 3) := by decide +kernel
theorem dX7_copy_11 : decode cX7_copy 11 = .ok (.aload_n 0, 1) := by decide +kernel
theorem dX7_copy_12 : decode cX7_copy 12 = .ok (.iload_n 3, 1) := by decide +kernel
theorem dX7_copy_13 : decode cX7_copy 13 = .ok (.iload 4, 2) := by decide +kernel
theorem dX7_copy_15 : decode cX7_copy 15 = .ok (.iload 5, 2) := by decide +kernel
theorem dX7_copy_17 : decode cX7_copy 17 = .ok (.invokevirtual 47, 3) := by decide +kernel
theorem dX7_copy_20 : decode cX7_copy 20 = .ok (.ifCond .eq 39, 3) := by decide +kernel
theorem dX7_copy_23 : decode cX7_copy 23 = .ok (.aload_n 0, 1) := by decide +kernel
theorem dX7_copy_24 : decode cX7_copy 24 = .ok (.iload_n 1, 1) := by decide +kernel
theorem dX7_copy_25 : decode cX7_copy 25 = .ok (.invokevirtual 33, 3) := by decide +kernel
theorem dX7_copy_28 : decode cX7_copy 28 = .ok (.ifCond .eq 31, 3) := by decide +kernel
theorem dX7_copy_31 : decode cX7_copy 31 = .ok (.aload_n 0, 1) := by decide +kernel
theorem dX7_copy_32 : decode cX7_copy 32 = .ok (.iload_n 3, 1) := by decide +kernel
theorem dX7_copy_33 : decode cX7_copy 33 = .ok (.invokevirtual 33, 3) := by decide +kernel
theorem dX7_copy_36 : decode cX7_copy 36 = .ok (.ifCond .eq 23, 3) := by decide +kernel
theorem dX7_copy_39 : decode cX7_copy 39 = .ok (.aload_n 0, 1) := by decide +kernel
theorem dX7_copy_40 : decode cX7_copy 40 = .ok (.getfield 13, 3) := by decide +kernel
theorem dX7_copy_43 : decode cX7_copy 43 = .ok (.iload_n 1, 1) := by decide +kernel
theorem dX7_copy_44 : decode cX7_copy 44 = .ok (.aaload, 1) := by decide +kernel
theorem dX7_copy_45 : decode cX7_copy 45 = .ok (.iload_n 2, 1) := by decide +kernel
theorem dX7_copy_46 : decode cX7_copy 46 = .ok (.aload_n 0, 1) := by decide +kernel
theorem dX7_copy_47 : decode cX7_copy 47 = .ok (.getfield 13, 3) := by decide +kernel
theorem dX7_copy_50 : decode cX7_copy 50 = .ok (.iload_n 3, 1) := by decide +kernel
theorem dX7_copy_51 : decode cX7_copy 51 = .ok (.aaload, 1) := by decide +kernel
theorem dX7_copy_52 : decode cX7_copy 52 = .ok (.iload 4, 2) := by decide +kernel
theorem dX7_copy_54 : decode cX7_copy 54 = .ok (.iload 5, 2) := by decide +kernel
theorem dX7_copy_56 : decode cX7_copy 56 = .ok (.invokestatic 51, 3) := by decide +kernel
theorem dX7_copy_59 : decode cX7_copy 59 = .ok (.return_, 1) := by decide +kernel
theorem dX7_areBelow_0 : decode cX7_areBelow 0 = .ok (.iconst 0, 1) := by decide +kernel
theorem dX7_areBelow_1 : decode cX7_areBelow 1 = .ok (.istore_n 3, 1) := by decide +kernel
theorem dX7_areBelow_2 : decode cX7_areBelow 2 = .ok (.iload_n 3, 1) := by decide +kernel
theorem dX7_areBelow_3 : decode cX7_areBelow 3 = .ok (.aload_n 0, 1) := by decide +kernel
theorem dX7_areBelow_4 : decode cX7_areBelow 4 = .ok (.iload_n 1, 1) := by decide +kernel
theorem dX7_areBelow_5 : decode cX7_areBelow 5 = .ok (.invokevirtual 39, 3) := by decide +kernel
theorem dX7_areBelow_8 : decode cX7_areBelow 8 = .ok (.if_icmp .ge 38, 3) := by decide +kernel
theorem dX7_areBelow_11 : decode cX7_areBelow 11 = .ok (.aload_n 0, 1) := by decide +kernel
theorem dX7_areBelow_12 : decode cX7_areBelow 12 = .ok (.getfield 13, 3) := by decide +kernel
theorem dX7_areBelow_15 : decode cX7_areBelow 15 = .ok (.iload_n 1, 1) := by decide +kernel
theorem dX7_areBelow_16 : decode cX7_areBelow 16 = .ok (.aaload, 1) := by decide +kernel
theorem dX7_areBelow_17 : decode cX7_areBelow 17 = .ok (.iload_n 3, 1) := by decide +kernel
theorem dX7_areBelow_18 : decode cX7_areBelow 18 = .ok (.laload, 1) := by decide +kernel
theorem dX7_areBelow_19 : decode cX7_areBelow 19 = .ok (.lconst 0, 1) := by decide +kernel
theorem dX7_areBelow_20 : decode cX7_areBelow 20 = .ok (.lcmp, 1) := by decide +kernel
theorem dX7_areBelow_21 : decode cX7_areBelow 21 = .ok (.ifCond .lt 17, 3) := by decide +kernel
theorem dX7_areBelow_24 : decode cX7_areBelow 24 = .ok (.aload_n 0, 1) := by decide +kernel
theorem dX7_areBelow_25 : decode cX7_areBelow 25 = .ok (.getfield 13, 3) := by decide +kernel
theorem dX7_areBelow_28 : decode cX7_areBelow 28 = .ok (.iload_n 1, 1) := by decide +kernel
theorem dX7_areBelow_29 : decode cX7_areBelow 29 = .ok (.aaload, 1) := by decide +kernel
theorem dX7_areBelow_30 : decode cX7_areBelow 30 = .ok (.iload_n 3, 1) := by decide +kernel
theorem dX7_areBelow_31 : decode cX7_areBelow 31 = .ok (.laload, 1) := by decide +kernel
theorem dX7_areBelow_32 : decode cX7_areBelow 32 = .ok (.iload_n 2, 1) := by decide +kernel
theorem dX7_areBelow_33 : decode cX7_areBelow 33 = .ok (.i2l, 1) := by decide +kernel
theorem dX7_areBelow_34 : decode cX7_areBelow 34 = .ok (.lcmp, 1) := by decide +kernel
theorem dX7_areBelow_35 : decode cX7_areBelow 35 = .ok (.ifCond .lt 5, 3) := by decide +kernel
theorem dX7_areBelow_38 : decode cX7_areBelow 38 = .ok (.iconst 0, 1) := by decide +kernel
theorem dX7_areBelow_39 : decode cX7_areBelow 39 = .ok (.ireturn, 1) := by decide +kernel
theorem dX7_areBelow_40 : decode cX7_areBelow 40 = .ok (.iinc 3 1, 3) := by decide +kernel
theorem dX7_areBelow_43 : decode cX7_areBelow 43 = .ok (.goto (-41), 3) := by decide +kernel
theorem dX7_areBelow_46 : decode cX7_areBelow 46 = .ok (.iconst 1, 1) := by decide +kernel
theorem dX7_areBelow_47 : decode cX7_areBelow 47 = .ok (.ireturn, 1) := by decide +kernel
theorem dX7_officialAt_0 : decode cX7_officialAt 0 = .ok (.iload_n 2, 1) := by decide +kernel
theorem dX7_officialAt_1 : decode cX7_officialAt 1 = .ok (.ifCond .lt 24, 3) := by decide +kernel
theorem dX7_officialAt_4 : decode cX7_officialAt 4 = .ok (.iload_n 2, 1) := by decide +kernel
theorem dX7_officialAt_5 : decode cX7_officialAt 5 = .ok (.aload_n 0, 1) := by decide +kernel
theorem dX7_officialAt_6 : decode cX7_officialAt 6 = .ok (.iload_n 1, 1) := by decide +kernel
theorem dX7_officialAt_7 : decode cX7_officialAt 7 = .ok (.invokevirtual 39, 3) := by decide +kernel
theorem dX7_officialAt_10 : decode cX7_officialAt 10 = .ok (.if_icmp .ge 15, 3) := by decide +kernel
theorem dX7_officialAt_13 : decode cX7_officialAt 13 = .ok (.aload_n 0, 1) := by decide +kernel
theorem dX7_officialAt_14 : decode cX7_officialAt 14 = .ok (.getfield 13, 3) := by decide +kernel
theorem dX7_officialAt_17 : decode cX7_officialAt 17 = .ok (.iload_n 1, 1) := by decide +kernel
theorem dX7_officialAt_18 : decode cX7_officialAt 18 = .ok (.aaload, 1) := by decide +kernel
theorem dX7_officialAt_19 : decode cX7_officialAt 19 = .ok (.iload_n 2, 1) := by decide +kernel
theorem dX7_officialAt_20 : decode cX7_officialAt 20 = .ok (.laload, 1) := by decide +kernel
theorem dX7_officialAt_21 : decode cX7_officialAt 21 = .ok (.l2i, 1) := by decide +kernel
theorem dX7_officialAt_22 : decode cX7_officialAt 22 = .ok (.goto 4, 3) := by decide +kernel
theorem dX7_officialAt_25 : decode cX7_officialAt 25 = .ok (.iconst (-1), 1) := by decide +kernel
theorem dX7_officialAt_26 : decode cX7_officialAt 26 = .ok (.ireturn, 1) := by decide +kernel
theorem dX8_init_0 : decode cX8_init 0 = .ok (.aload_n 0, 1) := by decide +kernel
theorem dX8_init_1 : decode cX8_init 1 = .ok (.invokespecial 3, 3) := by decide +kernel
theorem dX8_init_4 : decode cX8_init 4 = .ok (.aload_n 0, 1) := by decide +kernel
theorem dX8_init_5 : decode cX8_init 5 = .ok (.sipush 1600, 3) := by decide +kernel
theorem dX8_init_8 : decode cX8_init 8 = .ok (.newarray .byte, 2) := by decide +kernel
theorem dX8_init_10 : decode cX8_init 10 = .ok (.putfield 9, 3) := by decide +kernel
theorem dX8_init_13 : decode cX8_init 13 = .ok (.return_, 1) := by decide +kernel
theorem dX8_put_0 : decode cX8_put 0 = .ok (.bipush 24, 2) := by decide +kernel
theorem dX8_put_2 : decode cX8_put 2 = .ok (.istore_n 2, 1) := by decide +kernel
theorem dX8_put_3 : decode cX8_put 3 = .ok (.iload_n 2, 1) := by decide +kernel
theorem dX8_put_4 : decode cX8_put 4 = .ok (.ifCond .lt 44, 3) := by decide +kernel
theorem dX8_put_7 : decode cX8_put 7 = .ok (.aload_n 0, 1) := by decide +kernel
theorem dX8_put_8 : decode cX8_put 8 = .ok (.getfield 15, 3) := by decide +kernel
theorem dX8_put_11 : decode cX8_put 11 = .ok (.aload_n 0, 1) := by decide +kernel
theorem dX8_put_12 : decode cX8_put 12 = .ok (.getfield 9, 3) := by decide +kernel
theorem dX8_put_15 : decode cX8_put 15 = .ok (.arraylength, 1) := by decide +kernel
theorem dX8_put_16 : decode cX8_put 16 = .ok (.if_icmp .ge 26, 3) := by decide +kernel
theorem dX8_put_19 : decode cX8_put 19 = .ok (.aload_n 0, 1) := by decide +kernel
theorem dX8_put_20 : decode cX8_put 20 = .ok (.getfield 9, 3) := by decide +kernel
theorem dX8_put_23 : decode cX8_put 23 = .ok (.aload_n 0, 1) := by decide +kernel
theorem dX8_put_24 : decode cX8_put 24 = .ok (.getfield 15, 3) := by decide +kernel
theorem dX8_put_27 : decode cX8_put 27 = .ok (.iload_n 1, 1) := by decide +kernel
theorem dX8_put_28 : decode cX8_put 28 = .ok (.iload_n 2, 1) := by decide +kernel
theorem dX8_put_29 : decode cX8_put 29 = .ok (.ishr, 1) := by decide +kernel
theorem dX8_put_30 : decode cX8_put 30 = .ok (.i2b, 1) := by decide +kernel
theorem dX8_put_31 : decode cX8_put 31 = .ok (.bastore, 1) := by decide +kernel
theorem dX8_put_32 : decode cX8_put 32 = .ok (.aload_n 0, 1) := by decide +kernel
theorem dX8_put_33 : decode cX8_put 33 = .ok (.dup, 1) := by decide +kernel
theorem dX8_put_34 : decode cX8_put 34 = .ok (.getfield 15, 3) := by decide +kernel
theorem dX8_put_37 : decode cX8_put 37 = .ok (.iconst 1, 1) := by decide +kernel
theorem dX8_put_38 : decode cX8_put 38 = .ok (.iadd, 1) := by decide +kernel
theorem dX8_put_39 : decode cX8_put 39 = .ok (.putfield 15, 3) := by decide +kernel
theorem dX8_put_42 : decode cX8_put 42 = .ok (.iinc 2 (-8), 3) := by decide +kernel
theorem dX8_put_45 : decode cX8_put 45 = .ok (.goto (-42), 3) := by decide +kernel
theorem dX8_put_48 : decode cX8_put 48 = .ok (.return_, 1) := by decide +kernel
theorem dX8_rewind_0 : decode cX8_rewind 0 = .ok (.aload_n 0, 1) := by decide +kernel
theorem dX8_rewind_1 : decode cX8_rewind 1 = .ok (.iconst 0, 1) := by decide +kernel
theorem dX8_rewind_2 : decode cX8_rewind 2 = .ok (.putfield 19, 3) := by decide +kernel
theorem dX8_rewind_5 : decode cX8_rewind 5 = .ok (.aload_n 0, 1) := by decide +kernel
theorem dX8_rewind_6 : decode cX8_rewind 6 = .ok (.invokevirtual 22, 3) := by decide +kernel
theorem dX8_rewind_9 : decode cX8_rewind 9 = .ok (.return_, 1) := by decide +kernel
theorem dX8_advance_0 : decode cX8_advance 0 = .ok (.aload_n 0, 1) := by decide +kernel
theorem dX8_advance_1 : decode cX8_advance 1 = .ok (.aload_n 0, 1) := by decide +kernel
theorem dX8_advance_2 : decode cX8_advance 2 = .ok (.getfield 19, 3) := by decide +kernel
theorem dX8_advance_5 : decode cX8_advance 5 = .ok (.putfield 25, 3) := by decide +kernel
theorem dX8_advance_8 : decode cX8_advance 8 = .ok (.aload_n 0, 1) := by decide +kernel
theorem dX8_advance_9 : decode cX8_advance 9 = .ok (.getfield 25, 3) := by decide +kernel
theorem dX8_advance_12 : decode cX8_advance 12 = .ok (.aload_n 0, 1) := by decide +kernel
theorem dX8_advance_13 : decode cX8_advance 13 = .ok (.getfield 15, 3) := by decide +kernel
theorem dX8_advance_16 : decode cX8_advance 16 = .ok (.if_icmp .ge 44, 3) := by decide +kernel
theorem dX8_advance_19 : decode cX8_advance 19 = .ok (.aload_n 0, 1) := by decide +kernel
theorem dX8_advance_20 : decode cX8_advance 20 = .ok (.getfield 9, 3) := by decide +kernel
theorem dX8_advance_23 : decode cX8_advance 23 = .ok (.aload_n 0, 1) := by decide +kernel
theorem dX8_advance_24 : decode cX8_advance 24 = .ok (.getfield 25, 3) := by decide +kernel
theorem dX8_advance_27 : decode cX8_advance 27 = .ok (.baload, 1) := by decide +kernel
theorem dX8_advance_28 : decode cX8_advance 28 = .ok (.bipush 32, 2) := by decide +kernel
theorem dX8_advance_30 : decode cX8_advance 30 = .ok (.if_icmp .eq 17, 3) := by decide +kernel
theorem dX8_advance_33 : decode cX8_advance 33 = .ok (.aload_n 0, 1) := by decide +kernel
theorem dX8_advance_34 : decode cX8_advance 34 = .ok (.getfield 9, 3) := by decide +kernel
theorem dX8_advance_37 : decode cX8_advance 37 = .ok (.aload_n 0, 1) := by decide +kernel
theorem dX8_advance_38 : decode cX8_advance 38 = .ok (.getfield 25, 3) := by decide +kernel
theorem dX8_advance_41 : decode cX8_advance 41 = .ok (.baload, 1) := by decide +kernel
theorem dX8_advance_42 : decode cX8_advance 42 = .ok (.bipush 10, 2) := by decide +kernel
theorem dX8_advance_44 : decode cX8_advance 44 = .ok (.if_icmp .ne 16, 3) := by decide +kernel
theorem dX8_advance_47 : decode cX8_advance 47 = .ok (.aload_n 0, 1) := by decide +kernel
theorem dX8_advance_48 : decode cX8_advance 48 = .ok (.dup, 1) := by decide +kernel
theorem dX8_advance_49 : decode cX8_advance 49 = .ok (.getfield 25, 3) := by decide +kernel
theorem dX8_advance_52 : decode cX8_advance 52 = .ok (.iconst 1, 1) := by decide +kernel
theorem dX8_advance_53 : decode cX8_advance 53 = .ok (.iadd, 1) := by decide +kernel
theorem dX8_advance_54 : decode cX8_advance 54 = .ok (.putfield 25, 3) := by decide +kernel
theorem dX8_advance_57 : decode cX8_advance 57 = .ok (.goto (-49), 3) := by decide +kernel
theorem dX8_advance_60 : decode cX8_advance 60 = .ok (.aload_n 0, 1) := by decide +kernel
theorem dX8_advance_61 : decode cX8_advance 61 = .ok (.aload_n 0, 1) := by decide +kernel
theorem dX8_advance_62 : decode cX8_advance 62 = .ok (.getfield 25, 3) := by decide +kernel
theorem dX8_advance_65 : decode cX8_advance 65 = .ok (.putfield 19, 3) := by decide +kernel
theorem dX8_advance_68 : decode cX8_advance 68 = .ok (.aload_n 0, 1) := by decide +kernel
theorem dX8_advance_69 : decode cX8_advance 69 = .ok (.iconst 0, 1) := by decide +kernel
theorem dX8_advance_70 : decode cX8_advance 70 = .ok (.putfield 28, 3) := by decide +kernel
theorem dX8_advance_73 : decode cX8_advance 73 = .ok (.aload_n 0, 1) := by decide +kernel
theorem dX8_advance_74 : decode cX8_advance 74 = .ok (.getfield 19, 3) := by decide +kernel
theorem dX8_advance_77 : decode cX8_advance 77 = .ok (.aload_n 0, 1) := by decide +kernel
theorem dX8_advance_78 : decode cX8_advance 78 = .ok (.getfield 15, 3) := by decide +kernel
theorem dX8_advance_81 : decode cX8_advance 81 = .ok (.if_icmp .ge 44, 3) := by decide +kernel
theorem dX8_advance_84 : decode cX8_advance 84 = .ok (.aload_n 0, 1) := by decide +kernel
theorem dX8_advance_85 : decode cX8_advance 85 = .ok (.getfield 9, 3) := by decide +kernel
theorem dX8_advance_88 : decode cX8_advance 88 = .ok (.aload_n 0, 1) := by decide +kernel
theorem dX8_advance_89 : decode cX8_advance 89 = .ok (.getfield 19, 3) := by decide +kernel
theorem dX8_advance_92 : decode cX8_advance 92 = .ok (.baload, 1) := by decide +kernel
theorem dX8_advance_93 : decode cX8_advance 93 = .ok (.bipush 97, 2) := by decide +kernel
theorem dX8_advance_95 : decode cX8_advance 95 = .ok (.if_icmp .lt 30, 3) := by decide +kernel
theorem dX8_advance_98 : decode cX8_advance 98 = .ok (.aload_n 0, 1) := by decide +kernel
theorem dX8_advance_99 : decode cX8_advance 99 = .ok (.getfield 9, 3) := by decide +kernel
theorem dX8_advance_102 : decode cX8_advance 102 = .ok (.aload_n 0, 1) := by decide +kernel
theorem dX8_advance_103 : decode cX8_advance 103 = .ok (.getfield 19, 3) := by decide +kernel
theorem dX8_advance_106 : decode cX8_advance 106 = .ok (.baload, 1) := by decide +kernel
theorem dX8_advance_107 : decode cX8_advance 107 = .ok (.bipush 122, 2) := by decide +kernel
theorem dX8_advance_109 : decode cX8_advance 109 = .ok (.if_icmp .gt 16, 3) := by decide +kernel
theorem dX8_advance_112 : decode cX8_advance 112 = .ok (.aload_n 0, 1) := by decide +kernel
theorem dX8_advance_113 : decode cX8_advance 113 = .ok (.dup, 1) := by decide +kernel
theorem dX8_advance_114 : decode cX8_advance 114 = .ok (.getfield 19, 3) := by decide +kernel
theorem dX8_advance_117 : decode cX8_advance 117 = .ok (.iconst 1, 1) := by decide +kernel
theorem dX8_advance_118 : decode cX8_advance 118 = .ok (.iadd, 1) := by decide +kernel
theorem dX8_advance_119 : decode cX8_advance 119 = .ok (.putfield 19, 3) := by decide +kernel
theorem dX8_advance_122 : decode cX8_advance 122 = .ok (.goto (-49), 3) := by decide +kernel
theorem dX8_advance_125 : decode cX8_advance 125 = .ok (.aload_n 0, 1) := by decide +kernel
theorem dX8_advance_126 : decode cX8_advance 126 = .ok (.getfield 19, 3) := by decide +kernel
theorem dX8_advance_129 : decode cX8_advance 129 = .ok (.aload_n 0, 1) := by decide +kernel
theorem dX8_advance_130 : decode cX8_advance 130 = .ok (.getfield 25, 3) := by decide +kernel
theorem dX8_advance_133 : decode cX8_advance 133 = .ok (.if_icmp .le 9, 3) := by decide +kernel
theorem dX8_advance_136 : decode cX8_advance 136 = .ok (.aload_n 0, 1) := by decide +kernel
theorem dX8_advance_137 : decode cX8_advance 137 = .ok (.iconst 1, 1) := by decide +kernel
theorem dX8_advance_138 : decode cX8_advance 138 = .ok (.putfield 31, 3) := by decide +kernel
theorem dX8_advance_141 : decode cX8_advance 141 = .ok (.return_, 1) := by decide +kernel
theorem dX8_advance_142 : decode cX8_advance 142 = .ok (.aload_n 0, 1) := by decide +kernel
theorem dX8_advance_143 : decode cX8_advance 143 = .ok (.getfield 19, 3) := by decide +kernel
theorem dX8_advance_146 : decode cX8_advance 146 = .ok (.aload_n 0, 1) := by decide +kernel
theorem dX8_advance_147 : decode cX8_advance 147 = .ok (.getfield 15, 3) := by decide +kernel
theorem dX8_advance_150 : decode cX8_advance 150 = .ok (.if_icmp .ge 73, 3) := by decide +kernel
theorem dX8_advance_153 : decode cX8_advance 153 = .ok (.aload_n 0, 1) := by decide +kernel
theorem dX8_advance_154 : decode cX8_advance 154 = .ok (.getfield 9, 3) := by decide +kernel
theorem dX8_advance_157 : decode cX8_advance 157 = .ok (.aload_n 0, 1) := by decide +kernel
theorem dX8_advance_158 : decode cX8_advance 158 = .ok (.getfield 19, 3) := by decide +kernel
theorem dX8_advance_161 : decode cX8_advance 161 = .ok (.baload, 1) := by decide +kernel
theorem dX8_advance_162 : decode cX8_advance 162 = .ok (.bipush 48, 2) := by decide +kernel
theorem dX8_advance_164 : decode cX8_advance 164 = .ok (.if_icmp .lt 59, 3) := by decide +kernel
theorem dX8_advance_167 : decode cX8_advance 167 = .ok (.aload_n 0, 1) := by decide +kernel
theorem dX8_advance_168 : decode cX8_advance 168 = .ok (.getfield 9, 3) := by decide +kernel
theorem dX8_advance_171 : decode cX8_advance 171 = .ok (.aload_n 0, 1) := by decide +kernel
theorem dX8_advance_172 : decode cX8_advance 172 = .ok (.getfield 19, 3) := by decide +kernel
theorem dX8_advance_175 : decode cX8_advance 175 = .ok (.baload, 1) := by decide +kernel
theorem dX8_advance_176 : decode cX8_advance 176 = .ok (.bipush 57, 2) := by decide +kernel
theorem dX8_advance_178 : decode cX8_advance 178 = .ok (.if_icmp .gt 45, 3) := by decide +kernel
theorem dX8_advance_181 : decode cX8_advance 181 = .ok (.aload_n 0, 1) := by decide +kernel
theorem dX8_advance_182 : decode cX8_advance 182 = .ok (.ldc 34, 2) := by decide +kernel
theorem dX8_advance_184 : decode cX8_advance 184 = .ok (.aload_n 0, 1) := by decide +kernel
theorem dX8_advance_185 : decode cX8_advance 185 = .ok (.getfield 28, 3) := by decide +kernel
theorem dX8_advance_188 : decode cX8_advance 188 = .ok (.bipush 10, 2) := by decide +kernel
theorem dX8_advance_190 : decode cX8_advance 190 = .ok (.imul, 1) := by decide +kernel
theorem dX8_advance_191 : decode cX8_advance 191 = .ok (.aload_n 0, 1) := by decide +kernel
theorem dX8_advance_192 : decode cX8_advance 192 = .ok (.getfield 9, 3) := by decide +kernel
theorem dX8_advance_195 : decode cX8_advance 195 = .ok (.aload_n 0, 1) := by decide +kernel
theorem dX8_advance_196 : decode cX8_advance 196 = .ok (.getfield 19, 3) := by decide +kernel
theorem dX8_advance_199 : decode cX8_advance 199 = .ok (.baload, 1) := by decide +kernel
theorem dX8_advance_200 : decode cX8_advance 200 = .ok (.iadd, 1) := by decide +kernel
theorem dX8_advance_201 : decode cX8_advance 201 = .ok (.bipush 48, 2) := by decide +kernel
theorem dX8_advance_203 : decode cX8_advance 203 = .ok (.isub, 1) := by decide +kernel
theorem dX8_advance_204 : decode cX8_advance 204 = .ok (.invokestatic 35, 3) := by decide +kernel
theorem dX8_advance_207 : decode cX8_advance 207 = .ok (.putfield 28, 3) := by decide +kernel
theorem dX8_advance_210 : decode cX8_advance 210 = .ok (.aload_n 0, 1) := by decide +kernel
theorem dX8_advance_211 : decode cX8_advance 211 = .ok (.dup, 1) := by decide +kernel
theorem dX8_advance_212 : decode cX8_advance 212 = .ok (.getfield 19, 3) := by decide +kernel
theorem dX8_advance_215 : decode cX8_advance 215 = .ok (.iconst 1, 1) := by decide +kernel
theorem dX8_advance_216 : decode cX8_advance 216 = .ok (.iadd, 1) := by decide +kernel
theorem dX8_advance_217 : decode cX8_advance 217 = .ok (.putfield 19, 3) := by decide +kernel
theorem dX8_advance_220 : decode cX8_advance 220 = .ok (.goto (-78), 3) := by decide +kernel
theorem dX8_advance_223 : decode cX8_advance 223 = .ok (.aload_n 0, 1) := by decide +kernel
theorem dX8_advance_224 : decode cX8_advance 224 = .ok (.getfield 19, 3) := by decide +kernel
theorem dX8_advance_227 : decode cX8_advance 227 = .ok (.aload_n 0, 1) := by decide +kernel
theorem dX8_advance_228 : decode cX8_advance 228 = .ok (.getfield 25, 3) := by decide +kernel
theorem dX8_advance_231 : decode cX8_advance 231 = .ok (.if_icmp .le 9, 3) := by decide +kernel
theorem dX8_advance_234 : decode cX8_advance 234 = .ok (.aload_n 0, 1) := by decide +kernel
theorem dX8_advance_235 : decode cX8_advance 235 = .ok (.iconst 2, 1) := by decide +kernel
theorem dX8_advance_236 : decode cX8_advance 236 = .ok (.putfield 31, 3) := by decide +kernel
theorem dX8_advance_239 : decode cX8_advance 239 = .ok (.return_, 1) := by decide +kernel
theorem dX8_advance_240 : decode cX8_advance 240 = .ok (.aload_n 0, 1) := by decide +kernel
theorem dX8_advance_241 : decode cX8_advance 241 = .ok (.getfield 25, 3) := by decide +kernel
theorem dX8_advance_244 : decode cX8_advance 244 = .ok (.aload_n 0, 1) := by decide +kernel
theorem dX8_advance_245 : decode cX8_advance 245 = .ok (.getfield 15, 3) := by decide +kernel
theorem dX8_advance_248 : decode cX8_advance 248 = .ok (.if_icmp .lt 9, 3) := by decide +kernel
theorem dX8_advance_251 : decode cX8_advance 251 = .ok (.aload_n 0, 1) := by decide +kernel
theorem dX8_advance_252 : decode cX8_advance 252 = .ok (.iconst 0, 1) := by decide +kernel
theorem dX8_advance_253 : decode cX8_advance 253 = .ok (.putfield 31, 3) := by decide +kernel
theorem dX8_advance_256 : decode cX8_advance 256 = .ok (.return_, 1) := by decide +kernel
theorem dX8_advance_257 : decode cX8_advance 257 = .ok (.aload_n 0, 1) := by decide +kernel
theorem dX8_advance_258 : decode cX8_advance 258 = .ok (.aload_n 0, 1) := by decide +kernel
theorem dX8_advance_259 : decode cX8_advance 259 = .ok (.getfield 9, 3) := by decide +kernel
theorem dX8_advance_262 : decode cX8_advance 262 = .ok (.aload_n 0, 1) := by decide +kernel
theorem dX8_advance_263 : decode cX8_advance 263 = .ok (.getfield 25, 3) := by decide +kernel
theorem dX8_advance_266 : decode cX8_advance 266 = .ok (.baload, 1) := by decide +kernel
theorem dX8_advance_267 : decode cX8_advance 267 = .ok (.bipush 59, 2) := by decide +kernel
theorem dX8_advance_269 : decode cX8_advance 269 = .ok (.if_icmp .ne 7, 3) := by decide +kernel
theorem dX8_advance_272 : decode cX8_advance 272 = .ok (.iconst 3, 1) := by decide +kernel
theorem dX8_advance_273 : decode cX8_advance 273 = .ok (.goto 4, 3) := by decide +kernel
theorem dX8_advance_276 : decode cX8_advance 276 = .ok (.iconst 4, 1) := by decide +kernel
theorem dX8_advance_277 : decode cX8_advance 277 = .ok (.putfield 31, 3) := by decide +kernel
theorem dX8_advance_280 : decode cX8_advance 280 = .ok (.aload_n 0, 1) := by decide +kernel
theorem dX8_advance_281 : decode cX8_advance 281 = .ok (.aload_n 0, 1) := by decide +kernel
theorem dX8_advance_282 : decode cX8_advance 282 = .ok (.getfield 25, 3) := by decide +kernel
theorem dX8_advance_285 : decode cX8_advance 285 = .ok (.iconst 1, 1) := by decide +kernel
theorem dX8_advance_286 : decode cX8_advance 286 = .ok (.iadd, 1) := by decide +kernel
theorem dX8_advance_287 : decode cX8_advance 287 = .ok (.putfield 19, 3) := by decide +kernel
theorem dX8_advance_290 : decode cX8_advance 290 = .ok (.return_, 1) := by decide +kernel
theorem dX8_isWord_0 : decode cX8_isWord 0 = .ok (.aload_n 0, 1) := by decide +kernel
theorem dX8_isWord_1 : decode cX8_isWord 1 = .ok (.getfield 31, 3) := by decide +kernel
theorem dX8_isWord_4 : decode cX8_isWord 4 = .ok (.iconst 1, 1) := by decide +kernel
theorem dX8_isWord_5 : decode cX8_isWord 5 = .ok (.if_icmp .ne 19, 3) := by decide +kernel
theorem dX8_isWord_8 : decode cX8_isWord 8 = .ok (.aload_n 0, 1) := by decide +kernel
theorem dX8_isWord_9 : decode cX8_isWord 9 = .ok (.getfield 19, 3) := by decide +kernel
theorem dX8_isWord_12 : decode cX8_isWord 12 = .ok (.aload_n 0, 1) := by decide +kernel
theorem dX8_isWord_13 : decode cX8_isWord 13 = .ok (.getfield 25, 3) := by decide +kernel
theorem dX8_isWord_16 : decode cX8_isWord 16 = .ok (.isub, 1) := by decide +kernel
theorem dX8_isWord_17 : decode cX8_isWord 17 = .ok (.aload_n 1, 1) := by decide +kernel
theorem dX8_isWord_18 : decode cX8_isWord 18 = .ok (.invokevirtual 41, 3) := by decide +kernel
theorem dX8_isWord_21 : decode cX8_isWord 21 = .ok (.if_icmp .eq 5, 3) := by decide +kernel
theorem dX8_isWord_24 : decode cX8_isWord 24 = .ok (.iconst 0, 1) := by decide +kernel
theorem dX8_isWord_25 : decode cX8_isWord 25 = .ok (.ireturn, 1) := by decide +kernel
theorem dX8_isWord_26 : decode cX8_isWord 26 = .ok (.iconst 0, 1) := by decide +kernel
theorem dX8_isWord_27 : decode cX8_isWord 27 = .ok (.istore_n 2, 1) := by decide +kernel
theorem dX8_isWord_28 : decode cX8_isWord 28 = .ok (.iload_n 2, 1) := by decide +kernel
theorem dX8_isWord_29 : decode cX8_isWord 29 = .ok (.aload_n 1, 1) := by decide +kernel
theorem dX8_isWord_30 : decode cX8_isWord 30 = .ok (.invokevirtual 41, 3) := by decide +kernel
theorem dX8_isWord_33 : decode cX8_isWord 33 = .ok (.if_icmp .ge 43, 3) := by decide +kernel
theorem dX8_isWord_36 : decode cX8_isWord 36 = .ok (.aload_n 0, 1) := by decide +kernel
theorem dX8_isWord_37 : decode cX8_isWord 37 = .ok (.getfield 25, 3) := by decide +kernel
theorem dX8_isWord_40 : decode cX8_isWord 40 = .ok (.iload_n 2, 1) := by decide +kernel
theorem dX8_isWord_41 : decode cX8_isWord 41 = .ok (.iadd, 1) := by decide +kernel
theorem dX8_isWord_42 : decode cX8_isWord 42 = .ok (.aload_n 0, 1) := by decide +kernel
theorem dX8_isWord_43 : decode cX8_isWord 43 = .ok (.getfield 15, 3) := by decide +kernel
theorem dX8_isWord_46 : decode cX8_isWord 46 = .ok (.if_icmp .ge 30, 3) := by decide +kernel
theorem dX8_isWord_49 : decode cX8_isWord 49 = .ok (.aload_n 0, 1) := by decide +kernel
theorem dX8_isWord_50 : decode cX8_isWord 50 = .ok (.getfield 9, 3) := by decide +kernel
theorem dX8_isWord_53 : decode cX8_isWord 53 = .ok (.aload_n 0, 1) := by decide +kernel
theorem dX8_isWord_54 : decode cX8_isWord 54 = .ok (.getfield 25, 3) := by decide +kernel
theorem dX8_isWord_57 : decode cX8_isWord 57 = .ok (.iload_n 2, 1) := by decide +kernel
theorem dX8_isWord_58 : decode cX8_isWord 58 = .ok (.iadd, 1) := by decide +kernel
theorem dX8_isWord_59 : decode cX8_isWord 59 = .ok (.baload, 1) := by decide +kernel
theorem dX8_isWord_60 : decode cX8_isWord 60 = .ok (.aload_n 1, 1) := by decide +kernel
theorem dX8_isWord_61 : decode cX8_isWord 61 = .ok (.iload_n 2, 1) := by decide +kernel
theorem dX8_isWord_62 : decode cX8_isWord 62 = .ok (.invokevirtual 46, 3) := by decide +kernel
theorem dX8_isWord_65 : decode cX8_isWord 65 = .ok (.if_icmp .eq 5, 3) := by decide +kernel
theorem dX8_isWord_68 : decode cX8_isWord 68 = .ok (.iconst 0, 1) := by decide +kernel
theorem dX8_isWord_69 : decode cX8_isWord 69 = .ok (.ireturn, 1) := by decide +kernel
theorem dX8_isWord_70 : decode cX8_isWord 70 = .ok (.iinc 2 1, 3) := by decide +kernel
theorem dX8_isWord_73 : decode cX8_isWord 73 = .ok (.goto (-45), 3) := by decide +kernel
theorem dX8_isWord_76 : decode cX8_isWord 76 = .ok (.iconst 1, 1) := by decide +kernel
