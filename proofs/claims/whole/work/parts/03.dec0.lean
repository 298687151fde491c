theorem dX0_init_0 : decode cX0_init 0 = .ok (.aload_n 0, 1) := by decide +kernel
theorem dX0_init_1 : decode cX0_init 1 = .ok (.invokespecial 1, 3) := by decide +kernel
theorem dX0_init_4 : decode cX0_init 4 = .ok (.aload_n 0, 1) := by decide +kernel
theorem dX0_init_5 : decode cX0_init 5 = .ok (.bipush 7, 2) := by decide +kernel
theorem dX0_init_7 : decode cX0_init 7 = .ok (.newarray .int, 2) := by decide +kernel
theorem dX0_init_9 : decode cX0_init 9 = .ok (.putfield 9, 3) := by decide +kernel
theorem dX0_init_12 : decode cX0_init 12 = .ok (.aload_n 0, 1) := by decide +kernel
theorem dX0_init_13 : decode cX0_init 13 = .ok (.bipush 32, 2) := by decide +kernel
theorem dX0_init_15 : decode cX0_init 15 = .ok (.newarray .int, 2) := by decide +kernel
theorem dX0_init_17 : decode cX0_init 17 = .ok (.putfield 13, 3) := by decide +kernel
theorem dX0_init_20 : decode cX0_init 20 = .ok (.return_, 1) := by decide +kernel
theorem dX0_reckon_0 : decode cX0_reckon 0 = .ok (.iconst 0, 1) := by decide +kernel
theorem dX0_reckon_1 : decode cX0_reckon 1 = .ok (.istore_n 2, 1) := by decide +kernel
theorem dX0_reckon_2 : decode cX0_reckon 2 = .ok (.iconst 0, 1) := by decide +kernel
theorem dX0_reckon_3 : decode cX0_reckon 3 = .ok (.istore_n 3, 1) := by decide +kernel
theorem dX0_reckon_4 : decode cX0_reckon 4 = .ok (.iload_n 3, 1) := by decide +kernel
theorem dX0_reckon_5 : decode cX0_reckon 5 = .ok (.aload_n 1, 1) := by decide +kernel
theorem dX0_reckon_6 : decode cX0_reckon 6 = .ok (.getfield 16, 3) := by decide +kernel
theorem dX0_reckon_9 : decode cX0_reckon 9 = .ok (.if_icmp .ge 133, 3) := by decide +kernel
theorem dX0_reckon_12 : decode cX0_reckon 12 = .ok (.aload_n 1, 1) := by decide +kernel
theorem dX0_reckon_13 : decode cX0_reckon 13 = .ok (.getfield 22, 3) := by decide +kernel
theorem dX0_reckon_16 : decode cX0_reckon 16 = .ok (.iload_n 3, 1) := by decide +kernel
theorem dX0_reckon_17 : decode cX0_reckon 17 = .ok (.iaload, 1) := by decide +kernel
theorem dX0_reckon_18 : decode cX0_reckon 18 = .ok (.istore 4, 2) := by decide +kernel
theorem dX0_reckon_20 : decode cX0_reckon 20 = .ok (.iload 4, 2) := by decide +kernel
theorem dX0_reckon_22 : decode cX0_reckon 22 = .ok (.bipush (-7), 2) := by decide +kernel
theorem dX0_reckon_24 : decode cX0_reckon 24 = .ok (.if_icmp .lt 40, 3) := by decide +kernel
theorem dX0_reckon_27 : decode cX0_reckon 27 = .ok (.iload_n 2, 1) := by decide +kernel
theorem dX0_reckon_28 : decode cX0_reckon 28 = .ok (.bipush 32, 2) := by decide +kernel
theorem dX0_reckon_30 : decode cX0_reckon 30 = .ok (.if_icmp .ge 106, 3) := by decide +kernel
theorem dX0_reckon_33 : decode cX0_reckon 33 = .ok (.aload_n 0, 1) := by decide +kernel
theorem dX0_reckon_34 : decode cX0_reckon 34 = .ok (.getfield 13, 3) := by decide +kernel
theorem dX0_reckon_37 : decode cX0_reckon 37 = .ok (.iload_n 2, 1) := by decide +kernel
theorem dX0_reckon_38 : decode cX0_reckon 38 = .ok (.iload 4, 2) := by decide +kernel
theorem dX0_reckon_40 : decode cX0_reckon 40 = .ok (.ifCond .lt 8, 3) := by decide +kernel
theorem dX0_reckon_43 : decode cX0_reckon 43 = .ok (.iload 4, 2) := by decide +kernel
theorem dX0_reckon_45 : decode cX0_reckon 45 = .ok (.goto 12, 3) := by decide +kernel
theorem dX0_reckon_48 : decode cX0_reckon 48 = .ok (.aload_n 0, 1) := by decide +kernel
theorem dX0_reckon_49 : decode cX0_reckon 49 = .ok (.getfield 9, 3) := by decide +kernel
theorem dX0_reckon_52 : decode cX0_reckon 52 = .ok (.iconst (-1), 1) := by decide +kernel
theorem dX0_reckon_53 : decode cX0_reckon 53 = .ok (.iload 4, 2) := by decide +kernel
theorem dX0_reckon_55 : decode cX0_reckon 55 = .ok (.isub, 1) := by decide +kernel
theorem dX0_reckon_56 : decode cX0_reckon 56 = .ok (.iaload, 1) := by decide +kernel
theorem dX0_reckon_57 : decode cX0_reckon 57 = .ok (.iastore, 1) := by decide +kernel
theorem dX0_reckon_58 : decode cX0_reckon 58 = .ok (.iinc 2 1, 3) := by decide +kernel
theorem dX0_reckon_61 : decode cX0_reckon 61 = .ok (.goto 75, 3) := by decide +kernel
theorem dX0_reckon_64 : decode cX0_reckon 64 = .ok (.iload 4, 2) := by decide +kernel
theorem dX0_reckon_66 : decode cX0_reckon 66 = .ok (.bipush (-14), 2) := by decide +kernel
theorem dX0_reckon_68 : decode cX0_reckon 68 = .ok (.if_icmp .ne 28, 3) := by decide +kernel
theorem dX0_reckon_71 : decode cX0_reckon 71 = .ok (.iload_n 2, 1) := by decide +kernel
theorem dX0_reckon_72 : decode cX0_reckon 72 = .ok (.ifCond .le 64, 3) := by decide +kernel
theorem dX0_reckon_75 : decode cX0_reckon 75 = .ok (.aload_n 0, 1) := by decide +kernel
theorem dX0_reckon_76 : decode cX0_reckon 76 = .ok (.getfield 13, 3) := by decide +kernel
theorem dX0_reckon_79 : decode cX0_reckon 79 = .ok (.iload_n 2, 1) := by decide +kernel
theorem dX0_reckon_80 : decode cX0_reckon 80 = .ok (.iconst 1, 1) := by decide +kernel
theorem dX0_reckon_81 : decode cX0_reckon 81 = .ok (.isub, 1) := by decide +kernel
theorem dX0_reckon_82 : decode cX0_reckon 82 = .ok (.iconst 1, 1) := by decide +kernel
theorem dX0_reckon_83 : decode cX0_reckon 83 = .ok (.aload_n 0, 1) := by decide +kernel
theorem dX0_reckon_84 : decode cX0_reckon 84 = .ok (.getfield 13, 3) := by decide +kernel
theorem dX0_reckon_87 : decode cX0_reckon 87 = .ok (.iload_n 2, 1) := by decide +kernel
theorem dX0_reckon_88 : decode cX0_reckon 88 = .ok (.iconst 1, 1) := by decide +kernel
theorem dX0_reckon_89 : decode cX0_reckon 89 = .ok (.isub, 1) := by decide +kernel
theorem dX0_reckon_90 : decode cX0_reckon 90 = .ok (.iaload, 1) := by decide +kernel
theorem dX0_reckon_91 : decode cX0_reckon 91 = .ok (.isub, 1) := by decide +kernel
theorem dX0_reckon_92 : decode cX0_reckon 92 = .ok (.iastore, 1) := by decide +kernel
theorem dX0_reckon_93 : decode cX0_reckon 93 = .ok (.goto 43, 3) := by decide +kernel
theorem dX0_reckon_96 : decode cX0_reckon 96 = .ok (.iload_n 2, 1) := by decide +kernel
theorem dX0_reckon_97 : decode cX0_reckon 97 = .ok (.iconst 1, 1) := by decide +kernel
theorem dX0_reckon_98 : decode cX0_reckon 98 = .ok (.if_icmp .le 38, 3) := by decide +kernel
theorem dX0_reckon_101 : decode cX0_reckon 101 = .ok (.iinc 2 (-1), 3) := by decide +kernel
theorem dX0_reckon_104 : decode cX0_reckon 104 = .ok (.aload_n 0, 1) := by decide +kernel
theorem dX0_reckon_105 : decode cX0_reckon 105 = .ok (.getfield 13, 3) := by decide +kernel
theorem dX0_reckon_108 : decode cX0_reckon 108 = .ok (.iload_n 2, 1) := by decide +kernel
theorem dX0_reckon_109 : decode cX0_reckon 109 = .ok (.iconst 1, 1) := by decide +kernel
theorem dX0_reckon_110 : decode cX0_reckon 110 = .ok (.isub, 1) := by decide +kernel
theorem dX0_reckon_111 : decode cX0_reckon 111 = .ok (.iload 4, 2) := by decide +kernel
theorem dX0_reckon_113 : decode cX0_reckon 113 = .ok (.aload_n 0, 1) := by decide +kernel
theorem dX0_reckon_114 : decode cX0_reckon 114 = .ok (.getfield 13, 3) := by decide +kernel
theorem dX0_reckon_117 : decode cX0_reckon 117 = .ok (.iload_n 2, 1) := by decide +kernel
theorem dX0_reckon_118 : decode cX0_reckon 118 = .ok (.iconst 1, 1) := by decide +kernel
theorem dX0_reckon_119 : decode cX0_reckon 119 = .ok (.isub, 1) := by decide +kernel
theorem dX0_reckon_120 : decode cX0_reckon 120 = .ok (.iaload, 1) := by decide +kernel
theorem dX0_reckon_121 : decode cX0_reckon 121 = .ok (.i2l, 1) := by decide +kernel
theorem dX0_reckon_122 : decode cX0_reckon 122 = .ok (.aload_n 0, 1) := by decide +kernel
theorem dX0_reckon_123 : decode cX0_reckon 123 = .ok (.getfield 13, 3) := by decide +kernel
theorem dX0_reckon_126 : decode cX0_reckon 126 = .ok (.iload_n 2, 1) := by decide +kernel
theorem dX0_reckon_127 : decode cX0_reckon 127 = .ok (.iaload, 1) := by decide +kernel
theorem dX0_reckon_128 : decode cX0_reckon 128 = .ok (.i2l, 1) := by decide +kernel
theorem dX0_reckon_129 : decode cX0_reckon 129 = .ok (.invokestatic 25, 3) := by decide +kernel
theorem dX0_reckon_132 : decode cX0_reckon 132 = .ok (.invokestatic 29, 3) := by decide +kernel
theorem dX0_reckon_135 : decode cX0_reckon 135 = .ok (.iastore, 1) := by decide +kernel
theorem dX0_reckon_136 : decode cX0_reckon 136 = .ok (.iinc 3 1, 3) := by decide +kernel
theorem dX0_reckon_139 : decode cX0_reckon 139 = .ok (.goto (-135), 3) := by decide +kernel
theorem dX0_reckon_142 : decode cX0_reckon 142 = .ok (.aload_n 0, 1) := by decide +kernel
theorem dX0_reckon_143 : decode cX0_reckon 143 = .ok (.getfield 13, 3) := by decide +kernel
theorem dX0_reckon_146 : decode cX0_reckon 146 = .ok (.iconst 0, 1) := by decide +kernel
theorem dX0_reckon_147 : decode cX0_reckon 147 = .ok (.iaload, 1) := by decide +kernel
theorem dX0_reckon_148 : decode cX0_reckon 148 = .ok (.ireturn, 1) := by decide +kernel
theorem dX0_join_0 : decode cX0_join 0 = .ok (.iload_n 0, 1) := by decide +kernel
theorem dX0_join_1 : decode cX0_join 1 = .ok (.tableswitch 99 (-15) (-8) #[95, 99, 83, 71, 59, 55, 51, 47], 47) := by decide +kernel
theorem dX0_join_48 : decode cX0_join 48 = .ok (.lload_n 1, 1) := by decide +kernel
theorem dX0_join_49 : decode cX0_join 49 = .ok (.lload_n 3, 1) := by decide +kernel
theorem dX0_join_50 : decode cX0_join 50 = .ok (.ladd, 1) := by decide +kernel
theorem dX0_join_51 : decode cX0_join 51 = .ok (.lreturn, 1) := by decide +kernel
theorem dX0_join_52 : decode cX0_join 52 = .ok (.lload_n 1, 1) := by decide +kernel
theorem dX0_join_53 : decode cX0_join 53 = .ok (.lload_n 3, 1) := by decide +kernel
theorem dX0_join_54 : decode cX0_join 54 = .ok (.lsub, 1) := by decide +kernel
theorem dX0_join_55 : decode cX0_join 55 = .ok (.lreturn, 1) := by decide +kernel
theorem dX0_join_56 : decode cX0_join 56 = .ok (.lload_n 1, 1) := by decide +kernel
theorem dX0_join_57 : decode cX0_join 57 = .ok (.lload_n 3, 1) := by decide +kernel
theorem dX0_join_58 : decode cX0_join 58 = .ok (.lmul, 1) := by decide +kernel
theorem dX0_join_59 : decode cX0_join 59 = .ok (.lreturn, 1) := by decide +kernel
theorem dX0_join_60 : decode cX0_join 60 = .ok (.lload_n 1, 1) := by decide +kernel
theorem dX0_join_61 : decode cX0_join 61 = .ok (.lload_n 3, 1) := by decide +kernel
theorem dX0_join_62 : decode cX0_join 62 = .ok (.lcmp, 1) := by decide +kernel
theorem dX0_join_63 : decode cX0_join 63 = .ok (.ifCond .ne 7, 3) := by decide +kernel
theorem dX0_join_66 : decode cX0_join 66 = .ok (.lconst 1, 1) := by decide +kernel
theorem dX0_join_67 : decode cX0_join 67 = .ok (.goto 4, 3) := by decide +kernel
theorem dX0_join_70 : decode cX0_join 70 = .ok (.lconst 0, 1) := by decide +kernel
theorem dX0_join_71 : decode cX0_join 71 = .ok (.lreturn, 1) := by decide +kernel
theorem dX0_join_72 : decode cX0_join 72 = .ok (.lload_n 1, 1) := by decide +kernel
theorem dX0_join_73 : decode cX0_join 73 = .ok (.lload_n 3, 1) := by decide +kernel
theorem dX0_join_74 : decode cX0_join 74 = .ok (.lcmp, 1) := by decide +kernel
theorem dX0_join_75 : decode cX0_join 75 = .ok (.ifCond .ge 7, 3) := by decide +kernel
theorem dX0_join_78 : decode cX0_join 78 = .ok (.lconst 1, 1) := by decide +kernel
theorem dX0_join_79 : decode cX0_join 79 = .ok (.goto 4, 3) := by decide +kernel
theorem dX0_join_82 : decode cX0_join 82 = .ok (.lconst 0, 1) := by decide +kernel
theorem dX0_join_83 : decode cX0_join 83 = .ok (.lreturn, 1) := by decide +kernel
theorem dX0_join_84 : decode cX0_join 84 = .ok (.lload_n 1, 1) := by decide +kernel
theorem dX0_join_85 : decode cX0_join 85 = .ok (.lload_n 3, 1) := by decide +kernel
theorem dX0_join_86 : decode cX0_join 86 = .ok (.lcmp, 1) := by decide +kernel
theorem dX0_join_87 : decode cX0_join 87 = .ok (.ifCond .le 7, 3) := by decide +kernel
theorem dX0_join_90 : decode cX0_join 90 = .ok (.lconst 1, 1) := by decide +kernel
theorem dX0_join_91 : decode cX0_join 91 = .ok (.goto 4, 3) := by decide +kernel
theorem dX0_join_94 : decode cX0_join 94 = .ok (.lconst 0, 1) := by decide +kernel
theorem dX0_join_95 : decode cX0_join 95 = .ok (.lreturn, 1) := by decide +kernel
theorem dX0_join_96 : decode cX0_join 96 = .ok (.lload_n 1, 1) := by decide +kernel
theorem dX0_join_97 : decode cX0_join 97 = .ok (.lload_n 3, 1) := by decide +kernel
theorem dX0_join_98 : decode cX0_join 98 = .ok (.land, 1) := by decide +kernel
theorem dX0_join_99 : decode cX0_join 99 = .ok (.lreturn, 1) := by decide +kernel
theorem dX0_join_100 : decode cX0_join 100 = .ok (.lload_n 1, 1) := by decide +kernel
theorem dX0_join_101 : decode cX0_join 101 = .ok (.lload_n 3, 1) := by decide +kernel
theorem dX0_join_102 : decode cX0_join 102 = .ok (.lor, 1) := by decide +kernel
theorem dX0_join_103 : decode cX0_join 103 = .ok (.lreturn, 1) := by decide +kernel
theorem dX0_keepWithin_0 : decode cX0_keepWithin 0 = .ok (.lload_n 0, 1) := by decide +kernel
theorem dX0_keepWithin_1 : decode cX0_keepWithin 1 = .ok (.ldc2_w 33, 3) := by decide +kernel
theorem dX0_keepWithin_4 : decode cX0_keepWithin 4 = .ok (.lcmp, 1) := by decide +kernel
theorem dX0_keepWithin_5 : decode cX0_keepWithin 5 = .ok (.ifCond .le 8, 3) := by decide +kernel
theorem dX0_keepWithin_8 : decode cX0_keepWithin 8 = .ok (.ldc 35, 2) := by decide +kernel
theorem dX0_keepWithin_10 : decode cX0_keepWithin 10 = .ok (.goto 18, 3) := by decide +kernel
theorem dX0_keepWithin_13 : decode cX0_keepWithin 13 = .ok (.lload_n 0, 1) := by decide +kernel
theorem dX0_keepWithin_14 : decode cX0_keepWithin 14 = .ok (.ldc2_w 36, 3) := by decide +kernel
theorem dX0_keepWithin_17 : decode cX0_keepWithin 17 = .ok (.lcmp, 1) := by decide +kernel
theorem dX0_keepWithin_18 : decode cX0_keepWithin 18 = .ok (.ifCond .ge 8, 3) := by decide +kernel
theorem dX0_keepWithin_21 : decode cX0_keepWithin 21 = .ok (.ldc 38, 2) := by decide +kernel
theorem dX0_keepWithin_23 : decode cX0_keepWithin 23 = .ok (.goto 5, 3) := by decide +kernel
theorem dX0_keepWithin_26 : decode cX0_keepWithin 26 = .ok (.lload_n 0, 1) := by decide +kernel
theorem dX0_keepWithin_27 : decode cX0_keepWithin 27 = .ok (.l2i, 1) := by decide +kernel
theorem dX0_keepWithin_28 : decode cX0_keepWithin 28 = .ok (.ireturn, 1) := by decide +kernel
theorem dX1_init_0 : decode cX1_init 0 = .ok (.aload_n 0, 1) := by decide +kernel
theorem dX1_init_1 : decode cX1_init 1 = .ok (.invokespecial 3, 3) := by decide +kernel
theorem dX1_init_4 : decode cX1_init 4 = .ok (.aload_n 0, 1) := by decide +kernel
theorem dX1_init_5 : decode cX1_init 5 = .ok (.bipush 14, 2) := by decide +kernel
theorem dX1_init_7 : decode cX1_init 7 = .ok (.newarray .int, 2) := by decide +kernel
theorem dX1_init_9 : decode cX1_init 9 = .ok (.putfield 9, 3) := by decide +kernel
theorem dX1_init_12 : decode cX1_init 12 = .ok (.aload_n 0, 1) := by decide +kernel
theorem dX1_init_13 : decode cX1_init 13 = .ok (.bipush 14, 2) := by decide +kernel
theorem dX1_init_15 : decode cX1_init 15 = .ok (.newarray .int, 2) := by decide +kernel
theorem dX1_init_17 : decode cX1_init 17 = .ok (.putfield 15, 3) := by decide +kernel
theorem dX1_init_20 : decode cX1_init 20 = .ok (.aload_n 0, 1) := by decide +kernel
theorem dX1_init_21 : decode cX1_init 21 = .ok (.aload_n 1, 1) := by decide +kernel
theorem dX1_init_22 : decode cX1_init 22 = .ok (.putfield 18, 3) := by decide +kernel
theorem dX1_init_25 : decode cX1_init 25 = .ok (.return_, 1) := by decide +kernel
theorem dX1_fewest_0 : decode cX1_fewest 0 = .ok (.aload_n 0, 1) := by decide +kernel
theorem dX1_fewest_1 : decode cX1_fewest 1 = .ok (.iload_n 1, 1) := by decide +kernel
theorem dX1_fewest_2 : decode cX1_fewest 2 = .ok (.putfield 22, 3) := by decide +kernel
theorem dX1_fewest_5 : decode cX1_fewest 5 = .ok (.aload_n 0, 1) := by decide +kernel
theorem dX1_fewest_6 : decode cX1_fewest 6 = .ok (.iload_n 2, 1) := by decide +kernel
theorem dX1_fewest_7 : decode cX1_fewest 7 = .ok (.putfield 26, 3) := by decide +kernel
theorem dX1_fewest_10 : decode cX1_fewest 10 = .ok (.aload_n 0, 1) := by decide +kernel
theorem dX1_fewest_11 : decode cX1_fewest 11 = .ok (.iconst 1, 1) := by decide +kernel
theorem dX1_fewest_12 : decode cX1_fewest 12 = .ok (.aload_n 0, 1) := by decide +kernel
theorem dX1_fewest_13 : decode cX1_fewest 13 = .ok (.getfield 18, 3) := by decide +kernel
theorem dX1_fewest_16 : decode cX1_fewest 16 = .ok (.getfield 29, 3) := by decide +kernel
theorem dX1_fewest_19 : decode cX1_fewest 19 = .ok (.getfield 35, 3) := by decide +kernel
theorem dX1_fewest_22 : decode cX1_fewest 22 = .ok (.ishl, 1) := by decide +kernel
theorem dX1_fewest_23 : decode cX1_fewest 23 = .ok (.iconst 1, 1) := by decide +kernel
theorem dX1_fewest_24 : decode cX1_fewest 24 = .ok (.isub, 1) := by decide +kernel
theorem dX1_fewest_25 : decode cX1_fewest 25 = .ok (.aload_n 0, 1) := by decide +kernel
theorem dX1_fewest_26 : decode cX1_fewest 26 = .ok (.getfield 18, 3) := by decide +kernel
theorem dX1_fewest_29 : decode cX1_fewest 29 = .ok (.getfield 40, 3) := by decide +kernel
theorem dX1_fewest_32 : decode cX1_fewest 32 = .ok (.getfield 44, 3) := by decide +kernel
theorem dX1_fewest_35 : decode cX1_fewest 35 = .ok (.aload_n 0, 1) := by decide +kernel
theorem dX1_fewest_36 : decode cX1_fewest 36 = .ok (.getfield 22, 3) := by decide +kernel
theorem dX1_fewest_39 : decode cX1_fewest 39 = .ok (.iaload, 1) := by decide +kernel
theorem dX1_fewest_40 : decode cX1_fewest 40 = .ok (.iconst (-1), 1) := by decide +kernel
theorem dX1_fewest_41 : decode cX1_fewest 41 = .ok (.ixor, 1) := by decide +kernel
theorem dX1_fewest_42 : decode cX1_fewest 42 = .ok (.iand, 1) := by decide +kernel
theorem dX1_fewest_43 : decode cX1_fewest 43 = .ok (.putfield 49, 3) := by decide +kernel
theorem dX1_fewest_46 : decode cX1_fewest 46 = .ok (.iconst 0, 1) := by decide +kernel
theorem dX1_fewest_47 : decode cX1_fewest 47 = .ok (.istore_n 3, 1) := by decide +kernel
theorem dX1_fewest_48 : decode cX1_fewest 48 = .ok (.iload_n 3, 1) := by decide +kernel
theorem dX1_fewest_49 : decode cX1_fewest 49 = .ok (.bipush 14, 2) := by decide +kernel
theorem dX1_fewest_51 : decode cX1_fewest 51 = .ok (.if_icmp .ge 31, 3) := by decide +kernel
theorem dX1_fewest_54 : decode cX1_fewest 54 = .ok (.aload_n 0, 1) := by decide +kernel
theorem dX1_fewest_55 : decode cX1_fewest 55 = .ok (.getfield 9, 3) := by decide +kernel
theorem dX1_fewest_58 : decode cX1_fewest 58 = .ok (.iload_n 3, 1) := by decide +kernel
theorem dX1_fewest_59 : decode cX1_fewest 59 = .ok (.aload_n 0, 1) := by decide +kernel
theorem dX1_fewest_60 : decode cX1_fewest 60 = .ok (.iload_n 3, 1) := by decide +kernel
theorem dX1_fewest_61 : decode cX1_fewest 61 = .ok (.invokevirtual 52, 3) := by decide +kernel
theorem dX1_fewest_64 : decode cX1_fewest 64 = .ok (.iastore, 1) := by decide +kernel
theorem dX1_fewest_65 : decode cX1_fewest 65 = .ok (.aload_n 0, 1) := by decide +kernel
theorem dX1_fewest_66 : decode cX1_fewest 66 = .ok (.getfield 15, 3) := by decide +kernel
theorem dX1_fewest_69 : decode cX1_fewest 69 = .ok (.iload_n 3, 1) := by decide +kernel
theorem dX1_fewest_70 : decode cX1_fewest 70 = .ok (.aload_n 0, 1) := by decide +kernel
theorem dX1_fewest_71 : decode cX1_fewest 71 = .ok (.iload_n 3, 1) := by decide +kernel
theorem dX1_fewest_72 : decode cX1_fewest 72 = .ok (.invokevirtual 56, 3) := by decide +kernel
theorem dX1_fewest_75 : decode cX1_fewest 75 = .ok (.iastore, 1) := by decide +kernel
theorem dX1_fewest_76 : decode cX1_fewest 76 = .ok (.iinc 3 1, 3) := by decide +kernel
theorem dX1_fewest_79 : decode cX1_fewest 79 = .ok (.goto (-31), 3) := by decide +kernel
theorem dX1_fewest_82 : decode cX1_fewest 82 = .ok (.aload_n 0, 1) := by decide +kernel
theorem dX1_fewest_83 : decode cX1_fewest 83 = .ok (.getfield 49, 3) := by decide +kernel
theorem dX1_fewest_86 : decode cX1_fewest 86 = .ok (.invokestatic 59, 3) := by decide +kernel
theorem dX1_fewest_89 : decode cX1_fewest 89 = .ok (.istore_n 3, 1) := by decide +kernel
theorem dX1_fewest_90 : decode cX1_fewest 90 = .ok (.iconst 0, 1) := by decide +kernel
theorem dX1_fewest_91 : decode cX1_fewest 91 = .ok (.istore 4, 2) := by decide +kernel
theorem dX1_fewest_93 : decode cX1_fewest 93 = .ok (.iload 4, 2) := by decide +kernel
theorem dX1_fewest_95 : decode cX1_fewest 95 = .ok (.iload_n 3, 1) := by decide +kernel
theorem dX1_fewest_96 : decode cX1_fewest 96 = .ok (.if_icmp .gt 25, 3) := by decide +kernel
theorem dX1_fewest_99 : decode cX1_fewest 99 = .ok (.aload_n 0, 1) := by decide +kernel
theorem dX1_fewest_100 : decode cX1_fewest 100 = .ok (.bipush 13, 2) := by decide +kernel
theorem dX1_fewest_102 : decode cX1_fewest 102 = .ok (.iload 4, 2) := by decide +kernel
theorem dX1_fewest_104 : decode cX1_fewest 104 = .ok (.iconst 0, 1) := by decide +kernel
theorem dX1_fewest_105 : decode cX1_fewest 105 = .ok (.iconst 0, 1) := by decide +kernel
theorem dX1_fewest_106 : decode cX1_fewest 106 = .ok (.invokevirtual 64, 3) := by decide +kernel
theorem dX1_fewest_109 : decode cX1_fewest 109 = .ok (.ifCond .eq 6, 3) := by decide +kernel
theorem dX1_fewest_112 : decode cX1_fewest 112 = .ok (.iload 4, 2) := by decide +kernel
theorem dX1_fewest_114 : decode cX1_fewest 114 = .ok (.ireturn, 1) := by decide +kernel
theorem dX1_fewest_115 : decode cX1_fewest 115 = .ok (.iinc 4 1, 3) := by decide +kernel
theorem dX1_fewest_118 : decode cX1_fewest 118 = .ok (.goto (-25), 3) := by decide +kernel
theorem dX1_fewest_121 : decode cX1_fewest 121 = .ok (.iconst (-1), 1) := by decide +kernel
theorem dX1_fewest_122 : decode cX1_fewest 122 = .ok (.ireturn, 1) := by decide +kernel
theorem dX1_findAlike_0 : decode cX1_findAlike 0 = .ok (.iconst 0, 1) := by decide +kernel
theorem dX1_findAlike_1 : decode cX1_findAlike 1 = .ok (.istore_n 2, 1) := by decide +kernel
theorem dX1_findAlike_2 : decode cX1_findAlike 2 = .ok (.iconst 0, 1) := by decide +kernel
theorem dX1_findAlike_3 : decode cX1_findAlike 3 = .ok (.istore_n 3, 1) := by decide +kernel
theorem dX1_findAlike_4 : decode cX1_findAlike 4 = .ok (.iload_n 3, 1) := by decide +kernel
theorem dX1_findAlike_5 : decode cX1_findAlike 5 = .ok (.iload_n 1, 1) := by decide +kernel
theorem dX1_findAlike_6 : decode cX1_findAlike 6 = .ok (.if_icmp .ge 41, 3) := by decide +kernel
theorem dX1_findAlike_9 : decode cX1_findAlike 9 = .ok (.aload_n 0, 1) := by decide +kernel
theorem dX1_findAlike_10 : decode cX1_findAlike 10 = .ok (.getfield 49, 3) := by decide +kernel
theorem dX1_findAlike_13 : decode cX1_findAlike 13 = .ok (.iconst 1, 1) := by decide +kernel
theorem dX1_findAlike_14 : decode cX1_findAlike 14 = .ok (.iload_n 3, 1) := by decide +kernel
theorem dX1_findAlike_15 : decode cX1_findAlike 15 = .ok (.ishl, 1) := by decide +kernel
theorem dX1_findAlike_16 : decode cX1_findAlike 16 = .ok (.iand, 1) := by decide +kernel
theorem dX1_findAlike_17 : decode cX1_findAlike 17 = .ok (.ifCond .eq 24, 3) := by decide +kernel
theorem dX1_findAlike_20 : decode cX1_findAlike 20 = .ok (.aload_n 0, 1) := by decide +kernel
theorem dX1_findAlike_21 : decode cX1_findAlike 21 = .ok (.getfield 9, 3) := by decide +kernel
theorem dX1_findAlike_24 : decode cX1_findAlike 24 = .ok (.iload_n 3, 1) := by decide +kernel
theorem dX1_findAlike_25 : decode cX1_findAlike 25 = .ok (.iaload, 1) := by decide +kernel
theorem dX1_findAlike_26 : decode cX1_findAlike 26 = .ok (.aload_n 0, 1) := by decide +kernel
theorem dX1_findAlike_27 : decode cX1_findAlike 27 = .ok (.getfield 9, 3) := by decide +kernel
theorem dX1_findAlike_30 : decode cX1_findAlike 30 = .ok (.iload_n 1, 1) := by decide +kernel
theorem dX1_findAlike_31 : decode cX1_findAlike 31 = .ok (.iaload, 1) := by decide +kernel
theorem dX1_findAlike_32 : decode cX1_findAlike 32 = .ok (.if_icmp .ne 9, 3) := by decide +kernel
theorem dX1_findAlike_35 : decode cX1_findAlike 35 = .ok (.iload_n 2, 1) := by decide +kernel
theorem dX1_findAlike_36 : decode cX1_findAlike 36 = .ok (.iconst 1, 1) := by decide +kernel
theorem dX1_findAlike_37 : decode cX1_findAlike 37 = .ok (.iload_n 3, 1) := by decide +kernel
theorem dX1_findAlike_38 : decode cX1_findAlike 38 = .ok (.ishl, 1) := by decide +kernel
theorem dX1_findAlike_39 : decode cX1_findAlike 39 = .ok (.ior, 1) := by decide +kernel
theorem dX1_findAlike_40 : decode cX1_findAlike 40 = .ok (.istore_n 2, 1) := by decide +kernel
theorem dX1_findAlike_41 : decode cX1_findAlike 41 = .ok (.iinc 3 1, 3) := by decide +kernel
theorem dX1_findAlike_44 : decode cX1_findAlike 44 = .ok (.goto (-40), 3) := by decide +kernel
theorem dX1_findAlike_47 : decode cX1_findAlike 47 = .ok (.iload_n 2, 1) := by decide +kernel
theorem dX1_findAlike_48 : decode cX1_findAlike 48 = .ok (.ireturn, 1) := by decide +kernel
theorem dX1_effect_0 : decode cX1_effect 0 = .ok (.aload_n 0, 1) := by decide +kernel
theorem dX1_effect_1 : decode cX1_effect 1 = .ok (.getfield 18, 3) := by decide +kernel
theorem dX1_effect_4 : decode cX1_effect 4 = .ok (.aload_n 0, 1) := by decide +kernel
theorem dX1_effect_5 : decode cX1_effect 5 = .ok (.getfield 22, 3) := by decide +kernel
theorem dX1_effect_8 : decode cX1_effect 8 = .ok (.aload_n 0, 1) := by decide +kernel
theorem dX1_effect_9 : decode cX1_effect 9 = .ok (.getfield 26, 3) := by decide +kernel
theorem dX1_effect_12 : decode cX1_effect 12 = .ok (.aload_n 0, 1) := by decide +kernel
theorem dX1_effect_13 : decode cX1_effect 13 = .ok (.getfield 18, 3) := by decide +kernel
theorem dX1_effect_16 : decode cX1_effect 16 = .ok (.getfield 40, 3) := by decide +kernel
theorem dX1_effect_19 : decode cX1_effect 19 = .ok (.getfield 44, 3) := by decide +kernel
theorem dX1_effect_22 : decode cX1_effect 22 = .ok (.aload_n 0, 1) := by decide +kernel
theorem dX1_effect_23 : decode cX1_effect 23 = .ok (.getfield 22, 3) := by decide +kernel
theorem dX1_effect_26 : decode cX1_effect 26 = .ok (.iaload, 1) := by decide +kernel
theorem dX1_effect_27 : decode cX1_effect 27 = .ok (.iconst 1, 1) := by decide +kernel
theorem dX1_effect_28 : decode cX1_effect 28 = .ok (.iload_n 1, 1) := by decide +kernel
theorem dX1_effect_29 : decode cX1_effect 29 = .ok (.ishl, 1) := by decide +kernel
theorem dX1_effect_30 : decode cX1_effect 30 = .ok (.ior, 1) := by decide +kernel
theorem dX1_effect_31 : decode cX1_effect 31 = .ok (.aload_n 0, 1) := by decide +kernel
theorem dX1_effect_32 : decode cX1_effect 32 = .ok (.getfield 18, 3) := by decide +kernel
theorem dX1_effect_35 : decode cX1_effect 35 = .ok (.getfield 40, 3) := by decide +kernel
theorem dX1_effect_38 : decode cX1_effect 38 = .ok (.getfield 44, 3) := by decide +kernel
theorem dX1_effect_41 : decode cX1_effect 41 = .ok (.aload_n 0, 1) := by decide +kernel
theorem dX1_effect_42 : decode cX1_effect 42 = .ok (.getfield 26, 3) := by decide +kernel
theorem dX1_effect_45 : decode cX1_effect 45 = .ok (.iaload, 1) := by decide +kernel
theorem dX1_effect_46 : decode cX1_effect 46 = .ok (.invokevirtual 68, 3) := by decide +kernel
theorem dX1_effect_49 : decode cX1_effect 49 = .ok (.aload_n 0, 1) := by decide +kernel
theorem dX1_effect_50 : decode cX1_effect 50 = .ok (.getfield 18, 3) := by decide +kernel
theorem dX1_effect_53 : decode cX1_effect 53 = .ok (.getfield 72, 3) := by decide +kernel
theorem dX1_effect_56 : decode cX1_effect 56 = .ok (.getfield 76, 3) := by decide +kernel
theorem dX1_effect_59 : decode cX1_effect 59 = .ok (.astore_n 2, 1) := by decide +kernel
theorem dX1_effect_60 : decode cX1_effect 60 = .ok (.bipush 64, 2) := by decide +kernel
theorem dX1_effect_62 : decode cX1_effect 62 = .ok (.aload_n 2, 1) := by decide +kernel
theorem dX1_effect_63 : decode cX1_effect 63 = .ok (.iconst 1, 1) := by decide +kernel
theorem dX1_effect_64 : decode cX1_effect 64 = .ok (.iaload, 1) := by decide +kernel
theorem dX1_effect_65 : decode cX1_effect 65 = .ok (.imul, 1) := by decide +kernel
theorem dX1_effect_66 : decode cX1_effect 66 = .ok (.aload_n 2, 1) := by decide +kernel
theorem dX1_effect_67 : decode cX1_effect 67 = .ok (.iconst 2, 1) := by decide +kernel
theorem dX1_effect_68 : decode cX1_effect 68 = .ok (.iaload, 1) := by decide +kernel
theorem dX1_effect_69 : decode cX1_effect 69 = .ok (.iadd, 1) := by decide +kernel
theorem dX1_effect_70 : decode cX1_effect 70 = .ok (.ireturn, 1) := by decide +kernel
theorem dX1_seek_0 : decode cX1_seek 0 = .ok (.iload 4, 2) := by decide +kernel
theorem dX1_seek_2 : decode cX1_seek 2 = .ok (.iload_n 3, 1) := by decide +kernel
theorem dX1_seek_3 : decode cX1_seek 3 = .ok (.iconst (-1), 1) := by decide +kernel
theorem dX1_seek_4 : decode cX1_seek 4 = .ok (.ixor, 1) := by decide +kernel
theorem dX1_seek_5 : decode cX1_seek 5 = .ok (.iand, 1) := by decide +kernel
theorem dX1_seek_6 : decode cX1_seek 6 = .ok (.invokestatic 59, 3) := by decide +kernel
theorem dX1_seek_9 : decode cX1_seek 9 = .ok (.istore 5, 2) := by decide +kernel
theorem dX1_seek_11 : decode cX1_seek 11 = .ok (.iload_n 2, 1) := by decide +kernel
theorem dX1_seek_12 : decode cX1_seek 12 = .ok (.ifCond .ne 22, 3) := by decide +kernel
theorem dX1_seek_15 : decode cX1_seek 15 = .ok (.iload 5, 2) := by decide +kernel
theorem dX1_seek_17 : decode cX1_seek 17 = .ok (.ifCond .ne 15, 3) := by decide +kernel
theorem dX1_seek_20 : decode cX1_seek 20 = .ok (.aload_n 0, 1) := by decide +kernel
theorem dX1_seek_21 : decode cX1_seek 21 = .ok (.iload_n 3, 1) := by decide +kernel
theorem dX1_seek_22 : decode cX1_seek 22 = .ok (.invokevirtual 81, 3) := by decide +kernel
theorem dX1_seek_25 : decode cX1_seek 25 = .ok (.ifCond .eq 7, 3) := by decide +kernel
theorem dX1_seek_28 : decode cX1_seek 28 = .ok (.iconst 1, 1) := by decide +kernel
theorem dX1_seek_29 : decode cX1_seek 29 = .ok (.goto 4, 3) := by decide +kernel
theorem dX1_seek_32 : decode cX1_seek 32 = .ok (.iconst 0, 1) := by decide +kernel
theorem dX1_seek_33 : decode cX1_seek 33 = .ok (.ireturn, 1) := by decide +kernel
theorem dX1_seek_34 : decode cX1_seek 34 = .ok (.iload_n 1, 1) := by decide +kernel
theorem dX1_seek_35 : decode cX1_seek 35 = .ok (.ifCond .lt 26, 3) := by decide +kernel
theorem dX1_seek_38 : decode cX1_seek 38 = .ok (.iload 5, 2) := by decide +kernel
theorem dX1_seek_40 : decode cX1_seek 40 = .ok (.iload_n 2, 1) := by decide +kernel
theorem dX1_seek_41 : decode cX1_seek 41 = .ok (.if_icmp .gt 20, 3) := by decide +kernel
theorem dX1_seek_44 : decode cX1_seek 44 = .ok (.aload_n 0, 1) := by decide +kernel
theorem dX1_seek_45 : decode cX1_seek 45 = .ok (.getfield 49, 3) := by decide +kernel
theorem dX1_seek_48 : decode cX1_seek 48 = .ok (.iconst 2, 1) := by decide +kernel
theorem dX1_seek_49 : decode cX1_seek 49 = .ok (.iload_n 1, 1) := by decide +kernel
theorem dX1_seek_50 : decode cX1_seek 50 = .ok (.ishl, 1) := by decide +kernel
theorem dX1_seek_51 : decode cX1_seek 51 = .ok (.iconst 1, 1) := by decide +kernel
theorem dX1_seek_52 : decode cX1_seek 52 = .ok (.isub, 1) := by decide +kernel
theorem dX1_seek_53 : decode cX1_seek 53 = .ok (.iand, 1) := by decide +kernel
theorem dX1_seek_54 : decode cX1_seek 54 = .ok (.invokestatic 59, 3) := by decide +kernel
theorem dX1_seek_57 : decode cX1_seek 57 = .ok (.iload_n 2, 1) := by decide +kernel
theorem dX1_seek_58 : decode cX1_seek 58 = .ok (.if_icmp .ge 5, 3) := by decide +kernel
theorem dX1_seek_61 : decode cX1_seek 61 = .ok (.iconst 0, 1) := by decide +kernel
theorem dX1_seek_62 : decode cX1_seek 62 = .ok (.ireturn, 1) := by decide +kernel
theorem dX1_seek_63 : decode cX1_seek 63 = .ok (.iconst 1, 1) := by decide +kernel
theorem dX1_seek_64 : decode cX1_seek 64 = .ok (.iload_n 1, 1) := by decide +kernel
theorem dX1_seek_65 : decode cX1_seek 65 = .ok (.ishl, 1) := by decide +kernel
theorem dX1_seek_66 : decode cX1_seek 66 = .ok (.istore 6, 2) := by decide +kernel
theorem dX1_seek_68 : decode cX1_seek 68 = .ok (.iload 4, 2) := by decide +kernel
theorem dX1_seek_70 : decode cX1_seek 70 = .ok (.iload 6, 2) := by decide +kernel
theorem dX1_seek_72 : decode cX1_seek 72 = .ok (.iand, 1) := by decide +kernel
theorem dX1_seek_73 : decode cX1_seek 73 = .ok (.ifCond .ne 19, 3) := by decide +kernel
theorem dX1_seek_76 : decode cX1_seek 76 = .ok (.aload_n 0, 1) := by decide +kernel
theorem dX1_seek_77 : decode cX1_seek 77 = .ok (.iload_n 1, 1) := by decide +kernel
theorem dX1_seek_78 : decode cX1_seek 78 = .ok (.iconst 1, 1) := by decide +kernel
theorem dX1_seek_79 : decode cX1_seek 79 = .ok (.isub, 1) := by decide +kernel
theorem dX1_seek_80 : decode cX1_seek 80 = .ok (.iload_n 2, 1) := by decide +kernel
theorem dX1_seek_81 : decode cX1_seek 81 = .ok (.iload_n 3, 1) := by decide +kernel
theorem dX1_seek_82 : decode cX1_seek 82 = .ok (.iload 4, 2) := by decide +kernel
theorem dX1_seek_84 : decode cX1_seek 84 = .ok (.invokevirtual 64, 3) := by decide +kernel
theorem dX1_seek_87 : decode cX1_seek 87 = .ok (.ifCond .eq 5, 3) := by decide +kernel
theorem dX1_seek_90 : decode cX1_seek 90 = .ok (.iconst 1, 1) := by decide +kernel
theorem dX1_seek_91 : decode cX1_seek 91 = .ok (.ireturn, 1) := by decide +kernel
theorem dX1_seek_92 : decode cX1_seek 92 = .ok (.aload_n 0, 1) := by decide +kernel
theorem dX1_seek_93 : decode cX1_seek 93 = .ok (.getfield 49, 3) := by decide +kernel
theorem dX1_seek_96 : decode cX1_seek 96 = .ok (.iload 6, 2) := by decide +kernel
theorem dX1_seek_98 : decode cX1_seek 98 = .ok (.iand, 1) := by decide +kernel
theorem dX1_seek_99 : decode cX1_seek 99 = .ok (.ifCond .eq 33, 3) := by decide +kernel
theorem dX1_seek_102 : decode cX1_seek 102 = .ok (.aload_n 0, 1) := by decide +kernel
theorem dX1_seek_103 : decode cX1_seek 103 = .ok (.iload_n 1, 1) := by decide +kernel
theorem dX1_seek_104 : decode cX1_seek 104 = .ok (.iconst 1, 1) := by decide +kernel
theorem dX1_seek_105 : decode cX1_seek 105 = .ok (.isub, 1) := by decide +kernel
theorem dX1_seek_106 : decode cX1_seek 106 = .ok (.iload_n 2, 1) := by decide +kernel
theorem dX1_seek_107 : decode cX1_seek 107 = .ok (.iconst 1, 1) := by decide +kernel
theorem dX1_seek_108 : decode cX1_seek 108 = .ok (.isub, 1) := by decide +kernel
theorem dX1_seek_109 : decode cX1_seek 109 = .ok (.iload_n 3, 1) := by decide +kernel
theorem dX1_seek_110 : decode cX1_seek 110 = .ok (.iload 6, 2) := by decide +kernel
theorem dX1_seek_112 : decode cX1_seek 112 = .ok (.ior, 1) := by decide +kernel
theorem dX1_seek_113 : decode cX1_seek 113 = .ok (.iload 4, 2) := by decide +kernel
theorem dX1_seek_115 : decode cX1_seek 115 = .ok (.aload_n 0, 1) := by decide +kernel
theorem dX1_seek_116 : decode cX1_seek 116 = .ok (.getfield 15, 3) := by decide +kernel
theorem dX1_seek_119 : decode cX1_seek 119 = .ok (.iload_n 1, 1) := by decide +kernel
theorem dX1_seek_120 : decode cX1_seek 120 = .ok (.iaload, 1) := by decide +kernel
theorem dX1_seek_121 : decode cX1_seek 121 = .ok (.ior, 1) := by decide +kernel
theorem dX1_seek_122 : decode cX1_seek 122 = .ok (.invokevirtual 64, 3) := by decide +kernel
theorem dX1_seek_125 : decode cX1_seek 125 = .ok (.ifCond .eq 7, 3) := by decide +kernel
theorem dX1_seek_128 : decode cX1_seek 128 = .ok (.iconst 1, 1) := by decide +kernel
theorem dX1_seek_129 : decode cX1_seek 129 = .ok (.goto 4, 3) := by decide +kernel
theorem dX1_seek_132 : decode cX1_seek 132 = .ok (.iconst 0, 1) := by decide +kernel
theorem dX1_seek_133 : decode cX1_seek 133 = .ok (.ireturn, 1) := by decide +kernel
theorem dX1_reachesBar_0 : decode cX1_reachesBar 0 = .ok (.aload_n 0, 1) := by decide +kernel
theorem dX1_reachesBar_1 : decode cX1_reachesBar 1 = .ok (.iload_n 1, 1) := by decide +kernel
theorem dX1_reachesBar_2 : decode cX1_reachesBar 2 = .ok (.putfield 85, 3) := by decide +kernel
theorem dX1_reachesBar_5 : decode cX1_reachesBar 5 = .ok (.aload_n 0, 1) := by decide +kernel
theorem dX1_reachesBar_6 : decode cX1_reachesBar 6 = .ok (.getfield 18, 3) := by decide +kernel
theorem dX1_reachesBar_9 : decode cX1_reachesBar 9 = .ok (.getfield 40, 3) := by decide +kernel
theorem dX1_reachesBar_12 : decode cX1_reachesBar 12 = .ok (.astore_n 2, 1) := by decide +kernel
theorem dX1_reachesBar_13 : decode cX1_reachesBar 13 = .ok (.aload_n 0, 1) := by decide +kernel
theorem dX1_reachesBar_14 : decode cX1_reachesBar 14 = .ok (.getfield 18, 3) := by decide +kernel
theorem dX1_reachesBar_17 : decode cX1_reachesBar 17 = .ok (.aload_n 0, 1) := by decide +kernel
theorem dX1_reachesBar_18 : decode cX1_reachesBar 18 = .ok (.getfield 22, 3) := by decide +kernel
theorem dX1_reachesBar_21 : decode cX1_reachesBar 21 = .ok (.aload_n 0, 1) := by decide +kernel
theorem dX1_reachesBar_22 : decode cX1_reachesBar 22 = .ok (.getfield 26, 3) := by decide +kernel
theorem dX1_reachesBar_25 : decode cX1_reachesBar 25 = .ok (.aload_n 2, 1) := by decide +kernel
theorem dX1_reachesBar_26 : decode cX1_reachesBar 26 = .ok (.getfield 44, 3) := by decide +kernel
theorem dX1_reachesBar_29 : decode cX1_reachesBar 29 = .ok (.aload_n 0, 1) := by decide +kernel
theorem dX1_reachesBar_30 : decode cX1_reachesBar 30 = .ok (.getfield 22, 3) := by decide +kernel
theorem dX1_reachesBar_33 : decode cX1_reachesBar 33 = .ok (.iaload, 1) := by decide +kernel
theorem dX1_reachesBar_34 : decode cX1_reachesBar 34 = .ok (.iload_n 1, 1) := by decide +kernel
theorem dX1_reachesBar_35 : decode cX1_reachesBar 35 = .ok (.ior, 1) := by decide +kernel
theorem dX1_reachesBar_36 : decode cX1_reachesBar 36 = .ok (.aload_n 2, 1) := by decide +kernel
theorem dX1_reachesBar_37 : decode cX1_reachesBar 37 = .ok (.getfield 44, 3) := by decide +kernel
theorem dX1_reachesBar_40 : decode cX1_reachesBar 40 = .ok (.aload_n 0, 1) := by decide +kernel
theorem dX1_reachesBar_41 : decode cX1_reachesBar 41 = .ok (.getfield 26, 3) := by decide +kernel
theorem dX1_reachesBar_44 : decode cX1_reachesBar 44 = .ok (.iaload, 1) := by decide +kernel
theorem dX1_reachesBar_45 : decode cX1_reachesBar 45 = .ok (.invokevirtual 88, 3) := by decide +kernel
theorem dX1_reachesBar_48 : decode cX1_reachesBar 48 = .ok (.aload_n 0, 1) := by decide +kernel
theorem dX1_reachesBar_49 : decode cX1_reachesBar 49 = .ok (.getfield 18, 3) := by decide +kernel
theorem dX1_reachesBar_52 : decode cX1_reachesBar 52 = .ok (.getfield 29, 3) := by decide +kernel
theorem dX1_reachesBar_55 : decode cX1_reachesBar 55 = .ok (.getfield 92, 3) := by decide +kernel
theorem dX1_reachesBar_58 : decode cX1_reachesBar 58 = .ok (.if_icmp .lt 7, 3) := by decide +kernel
theorem dX1_reachesBar_61 : decode cX1_reachesBar 61 = .ok (.iconst 1, 1) := by decide +kernel
theorem dX1_reachesBar_62 : decode cX1_reachesBar 62 = .ok (.goto 4, 3) := by decide +kernel
theorem dX1_reachesBar_65 : decode cX1_reachesBar 65 = .ok (.iconst 0, 1) := by decide +kernel
theorem dX1_reachesBar_66 : decode cX1_reachesBar 66 = .ok (.ireturn, 1) := by decide +kernel
theorem dX2_init_0 : decode cX2_init 0 = .ok (.aload_n 0, 1) := by decide +kernel
theorem dX2_init_1 : decode cX2_init 1 = .ok (.invokespecial 3, 3) := by decide +kernel
theorem dX2_init_4 : decode cX2_init 4 = .ok (.aload_n 0, 1) := by decide +kernel
theorem dX2_init_5 : decode cX2_init 5 = .ok (.bipush 8, 2) := by decide +kernel
theorem dX2_init_7 : decode cX2_init 7 = .ok (.anewarray 9, 3) := by decide +kernel
theorem dX2_init_10 : decode cX2_init 10 = .ok (.putfield 11, 3) := by decide +kernel
theorem dX2_init_13 : decode cX2_init 13 = .ok (.iconst 0, 1) := by decide +kernel
theorem dX2_init_14 : decode cX2_init 14 = .ok (.istore_n 1, 1) := by decide +kernel
theorem dX2_init_15 : decode cX2_init 15 = .ok (.iload_n 1, 1) := by decide +kernel
theorem dX2_init_16 : decode cX2_init 16 = .ok (.bipush 8, 2) := by decide +kernel
theorem dX2_init_18 : decode cX2_init 18 = .ok (.if_icmp .ge 22, 3) := by decide +kernel
theorem dX2_init_21 : decode cX2_init 21 = .ok (.aload_n 0, 1) := by decide +kernel
theorem dX2_init_22 : decode cX2_init 22 = .ok (.getfield 11, 3) := by decide +kernel
theorem dX2_init_25 : decode cX2_init 25 = .ok (.iload_n 1, 1) := by decide +kernel
theorem dX2_init_26 : decode cX2_init 26 = .ok (.new 9, 3) := by decide +kernel
theorem dX2_init_29 : decode cX2_init 29 = .ok (.dup, 1) := by decide +kernel
theorem dX2_init_30 : decode cX2_init 30 = .ok (.invokespecial 17, 3) := by decide +kernel
theorem dX2_init_33 : decode cX2_init 33 = .ok (.aastore, 1) := by decide +kernel
theorem dX2_init_34 : decode cX2_init 34 = .ok (.iinc 1 1, 3) := by decide +kernel
theorem dX2_init_37 : decode cX2_init 37 = .ok (.goto (-22), 3) := by decide +kernel
theorem dX2_init_40 : decode cX2_init 40 = .ok (.return_, 1) := by decide +kernel
theorem dX2_keep_0 : decode cX2_keep 0 = .ok (.aload_n 0, 1) := by decide +kernel
theorem dX2_keep_1 : decode cX2_keep 1 = .ok (.getfield 18, 3) := by decide +kernel
theorem dX2_keep_4 : decode cX2_keep 4 = .ok (.bipush 8, 2) := by decide +kernel
theorem dX2_keep_6 : decode cX2_keep 6 = .ok (.if_icmp .ne 26, 3) := by decide +kernel
theorem dX2_keep_9 : decode cX2_keep 9 = .ok (.aload_n 0, 1) := by decide +kernel
theorem dX2_keep_10 : decode cX2_keep 10 = .ok (.aload_n 0, 1) := by decide +kernel
theorem dX2_keep_11 : decode cX2_keep 11 = .ok (.getfield 22, 3) := by decide +kernel
theorem dX2_keep_14 : decode cX2_keep 14 = .ok (.iconst 1, 1) := by decide +kernel
theorem dX2_keep_15 : decode cX2_keep 15 = .ok (.iadd, 1) := by decide +kernel
theorem dX2_keep_16 : decode cX2_keep 16 = .ok (.bipush 8, 2) := by decide +kernel
theorem dX2_keep_18 : decode cX2_keep 18 = .ok (.irem, 1) := by decide +kernel
theorem dX2_keep_19 : decode cX2_keep 19 = .ok (.putfield 22, 3) := by decide +kernel
theorem dX2_keep_22 : decode cX2_keep 22 = .ok (.aload_n 0, 1) := by decide +kernel
theorem dX2_keep_23 : decode cX2_keep 23 = .ok (.dup, 1) := by decide +kernel
theorem dX2_keep_24 : decode cX2_keep 24 = .ok (.getfield 18, 3) := by decide +kernel
theorem dX2_keep_27 : decode cX2_keep 27 = .ok (.iconst 1, 1) := by decide +kernel
theorem dX2_keep_28 : decode cX2_keep 28 = .ok (.isub, 1) := by decide +kernel
theorem dX2_keep_29 : decode cX2_keep 29 = .ok (.putfield 18, 3) := by decide +kernel
theorem dX2_keep_32 : decode cX2_keep 32 = .ok (.aload_n 0, 1) := by decide +kernel
theorem dX2_keep_33 : decode cX2_keep 33 = .ok (.getfield 11, 3) := by decide +kernel
theorem dX2_keep_36 : decode cX2_keep 36 = .ok (.aload_n 0, 1) := by decide +kernel
theorem dX2_keep_37 : decode cX2_keep 37 = .ok (.getfield 22, 3) := by decide +kernel
theorem dX2_keep_40 : decode cX2_keep 40 = .ok (.aload_n 0, 1) := by decide +kernel
theorem dX2_keep_41 : decode cX2_keep 41 = .ok (.getfield 18, 3) := by decide +kernel
theorem dX2_keep_44 : decode cX2_keep 44 = .ok (.iadd, 1) := by decide +kernel
theorem dX2_keep_45 : decode cX2_keep 45 = .ok (.bipush 8, 2) := by decide +kernel
theorem dX2_keep_47 : decode cX2_keep 47 = .ok (.irem, 1) := by decide +kernel
theorem dX2_keep_48 : decode cX2_keep 48 = .ok (.aaload, 1) := by decide +kernel
theorem dX2_keep_49 : decode cX2_keep 49 = .ok (.aload_n 1, 1) := by decide +kernel
theorem dX2_keep_50 : decode cX2_keep 50 = .ok (.invokevirtual 25, 3) := by decide +kernel
theorem dX2_keep_53 : decode cX2_keep 53 = .ok (.aload_n 0, 1) := by decide +kernel
theorem dX2_keep_54 : decode cX2_keep 54 = .ok (.dup, 1) := by decide +kernel
theorem dX2_keep_55 : decode cX2_keep 55 = .ok (.getfield 18, 3) := by decide +kernel
theorem dX2_keep_58 : decode cX2_keep 58 = .ok (.iconst 1, 1) := by decide +kernel
theorem dX2_keep_59 : decode cX2_keep 59 = .ok (.iadd, 1) := by decide +kernel
theorem dX2_keep_60 : decode cX2_keep 60 = .ok (.putfield 18, 3) := by decide +kernel
theorem dX2_keep_63 : decode cX2_keep 63 = .ok (.return_, 1) := by decide +kernel
theorem dX2_bringBack_0 : decode cX2_bringBack 0 = .ok (.iload_n 1, 1) := by decide +kernel
theorem dX2_bringBack_1 : decode cX2_bringBack 1 = .ok (.ifCond .le 42, 3) := by decide +kernel
theorem dX2_bringBack_4 : decode cX2_bringBack 4 = .ok (.iload_n 1, 1) := by decide +kernel
theorem dX2_bringBack_5 : decode cX2_bringBack 5 = .ok (.aload_n 0, 1) := by decide +kernel
theorem dX2_bringBack_6 : decode cX2_bringBack 6 = .ok (.getfield 18, 3) := by decide +kernel
theorem dX2_bringBack_9 : decode cX2_bringBack 9 = .ok (.if_icmp .gt 34, 3) := by decide +kernel
theorem dX2_bringBack_12 : decode cX2_bringBack 12 = .ok (.aload_n 0, 1) := by decide +kernel
theorem dX2_bringBack_13 : decode cX2_bringBack 13 = .ok (.dup, 1) := by decide +kernel
theorem dX2_bringBack_14 : decode cX2_bringBack 14 = .ok (.getfield 18, 3) := by decide +kernel
theorem dX2_bringBack_17 : decode cX2_bringBack 17 = .ok (.iload_n 1, 1) := by decide +kernel
theorem dX2_bringBack_18 : decode cX2_bringBack 18 = .ok (.isub, 1) := by decide +kernel
theorem dX2_bringBack_19 : decode cX2_bringBack 19 = .ok (.putfield 18, 3) := by decide +kernel
theorem dX2_bringBack_22 : decode cX2_bringBack 22 = .ok (.aload_n 2, 1) := by decide +kernel
theorem dX2_bringBack_23 : decode cX2_bringBack 23 = .ok (.aload_n 0, 1) := by decide +kernel
theorem dX2_bringBack_24 : decode cX2_bringBack 24 = .ok (.getfield 11, 3) := by decide +kernel
theorem dX2_bringBack_27 : decode cX2_bringBack 27 = .ok (.aload_n 0, 1) := by decide +kernel
theorem dX2_bringBack_28 : decode cX2_bringBack 28 = .ok (.getfield 22, 3) := by decide +kernel
theorem dX2_bringBack_31 : decode cX2_bringBack 31 = .ok (.aload_n 0, 1) := by decide +kernel
theorem dX2_bringBack_32 : decode cX2_bringBack 32 = .ok (.getfield 18, 3) := by decide +kernel
theorem dX2_bringBack_35 : decode cX2_bringBack 35 = .ok (.iadd, 1) := by decide +kernel
theorem dX2_bringBack_36 : decode cX2_bringBack 36 = .ok (.bipush 8, 2) := by decide +kernel
theorem dX2_bringBack_38 : decode cX2_bringBack 38 = .ok (.irem, 1) := by decide +kernel
theorem dX2_bringBack_39 : decode cX2_bringBack 39 = .ok (.aaload, 1) := by decide +kernel
theorem dX2_bringBack_40 : decode cX2_bringBack 40 = .ok (.invokevirtual 25, 3) := by decide +kernel
theorem dX2_bringBack_43 : decode cX2_bringBack 43 = .ok (.return_, 1) := by decide +kernel
theorem dX2_forget_0 : decode cX2_forget 0 = .ok (.aload_n 0, 1) := by decide +kernel
theorem dX2_forget_1 : decode cX2_forget 1 = .ok (.iconst 0, 1) := by decide +kernel
theorem dX2_forget_2 : decode cX2_forget 2 = .ok (.putfield 18, 3) := by decide +kernel
theorem dX2_forget_5 : decode cX2_forget 5 = .ok (.return_, 1) := by decide +kernel
theorem dX3_init_0 : decode cX3_init 0 = .ok (.aload_n 0, 1) := by decide +kernel
theorem dX3_init_1 : decode cX3_init 1 = .ok (.invokespecial 1, 3) := by decide +kernel
theorem dX3_init_4 : decode cX3_init 4 = .ok (.aload_n 0, 1) := by decide +kernel
theorem dX3_init_5 : decode cX3_init 5 = .ok (.new 7, 3) := by decide +kernel
theorem dX3_init_8 : decode cX3_init 8 = .ok (.dup, 1) := by decide +kernel
theorem dX3_init_9 : decode cX3_init 9 = .ok (.invokespecial 9, 3) := by decide +kernel
theorem dX3_init_12 : decode cX3_init 12 = .ok (.putfield 10, 3) := by decide +kernel
theorem dX3_init_15 : decode cX3_init 15 = .ok (.aload_n 0, 1) := by decide +kernel
theorem dX3_init_16 : decode cX3_init 16 = .ok (.new 16, 3) := by decide +kernel
theorem dX3_init_19 : decode cX3_init 19 = .ok (.dup, 1) := by decide +kernel
theorem dX3_init_20 : decode cX3_init 20 = .ok (.invokespecial 18, 3) := by decide +kernel
theorem dX3_init_23 : decode cX3_init 23 = .ok (.putfield 19, 3) := by decide +kernel
theorem dX3_init_26 : decode cX3_init 26 = .ok (.return_, 1) := by decide +kernel
theorem dX4_init_0 : decode cX4_init 0 = .ok (.aload_n 0, 1) := by decide +kernel
theorem dX4_init_1 : decode cX4_init 1 = .ok (.invokespecial 3, 3) := by decide +kernel
theorem dX4_init_4 : decode cX4_init 4 = .ok (.aload_n 0, 1) := by decide +kernel
theorem dX4_init_5 : decode cX4_init 5 = .ok (.sipush 900, 3) := by decide +kernel
theorem dX4_init_8 : decode cX4_init 8 = .ok (.newarray .int, 2) := by decide +kernel
theorem dX4_init_10 : decode cX4_init 10 = .ok (.putfield 9, 3) := by decide +kernel
theorem dX4_init_13 : decode cX4_init 13 = .ok (.return_, 1) := by decide +kernel
theorem dX4_ofTerm_0 : decode cX4_ofTerm 0 = .ok (.iconst (-1), 1) := by decide +kernel
theorem dX4_ofTerm_1 : decode cX4_ofTerm 1 = .ok (.iload_n 0, 1) := by decide +kernel
theorem dX4_ofTerm_2 : decode cX4_ofTerm 2 = .ok (.isub, 1) := by decide +kernel
theorem dX4_ofTerm_3 : decode cX4_ofTerm 3 = .ok (.ireturn, 1) := by decide +kernel
theorem dX4_add_0 : decode cX4_add 0 = .ok (.aload_n 0, 1) := by decide +kernel
theorem dX4_add_1 : decode cX4_add 1 = .ok (.getfield 15, 3) := by decide +kernel
theorem dX4_add_4 : decode cX4_add 4 = .ok (.sipush 900, 3) := by decide +kernel
theorem dX4_add_7 : decode cX4_add 7 = .ok (.if_icmp .ge 23, 3) := by decide +kernel
theorem dX4_add_10 : decode cX4_add 10 = .ok (.aload_n 0, 1) := by decide +kernel
theorem dX4_add_11 : decode cX4_add 11 = .ok (.getfield 9, 3) := by decide +kernel
theorem dX4_add_14 : decode cX4_add 14 = .ok (.aload_n 0, 1) := by decide +kernel
theorem dX4_add_15 : decode cX4_add 15 = .ok (.getfield 15, 3) := by decide +kernel
theorem dX4_add_18 : decode cX4_add 18 = .ok (.iload_n 1, 1) := by decide +kernel
theorem dX4_add_19 : decode cX4_add 19 = .ok (.iastore, 1) := by decide +kernel
theorem dX4_add_20 : decode cX4_add 20 = .ok (.aload_n 0, 1) := by decide +kernel
theorem dX4_add_21 : decode cX4_add 21 = .ok (.dup, 1) := by decide +kernel
theorem dX4_add_22 : decode cX4_add 22 = .ok (.getfield 15, 3) := by decide +kernel
theorem dX4_add_25 : decode cX4_add 25 = .ok (.iconst 1, 1) := by decide +kernel
theorem dX4_add_26 : decode cX4_add 26 = .ok (.iadd, 1) := by decide +kernel
theorem dX4_add_27 : decode cX4_add 27 = .ok (.putfield 15, 3) := by decide +kernel
theorem dX4_add_30 : decode cX4_add 30 = .ok (.return_, 1) := by decide +kernel
theorem dX4_become_0 : decode cX4_become 0 = .ok (.aload_n 0, 1) := by decide +kernel
theorem dX4_become_1 : decode cX4_become 1 = .ok (.aload_n 1, 1) := by decide +kernel
theorem dX4_become_2 : decode cX4_become 2 = .ok (.getfield 15, 3) := by decide +kernel
theorem dX4_become_5 : decode cX4_become 5 = .ok (.putfield 15, 3) := by decide +kernel
theorem dX4_become_8 : decode cX4_become 8 = .ok (.aload_n 1, 1) := by decide +kernel
theorem dX4_become_9 : decode cX4_become 9 = .ok (.getfield 9, 3) := by decide +kernel
theorem dX4_become_12 : decode cX4_become 12 = .ok (.iconst 0, 1) := by decide +kernel
theorem dX4_become_13 : decode cX4_become 13 = .ok (.aload_n 0, 1) := by decide +kernel
theorem dX4_become_14 : decode cX4_become 14 = .ok (.getfield 9, 3) := by decide +kernel
theorem dX4_become_17 : decode cX4_become 17 = .ok (.iconst 0, 1) := by decide +kernel
theorem dX4_become_18 : decode cX4_become 18 = .ok (.aload_n 1, 1) := by decide +kernel
theorem dX4_become_19 : decode cX4_become 19 = .ok (.getfield 15, 3) := by decide +kernel
theorem dX4_become_22 : decode cX4_become 22 = .ok (.invokestatic 19, 3) := by decide +kernel
theorem dX4_become_25 : decode cX4_become 25 = .ok (.return_, 1) := by decide +kernel
theorem dX5_init_0 : decode cX5_init 0 = .ok (.aload_n 0, 1) := by decide +kernel
theorem dX5_init_1 : decode cX5_init 1 = .ok (.invokespecial 3, 3) := by decide +kernel
theorem dX5_init_4 : decode cX5_init 4 = .ok (.aload_n 0, 1) := by decide +kernel
theorem dX5_init_5 : decode cX5_init 5 = .ok (.bipush 8, 2) := by decide +kernel
theorem dX5_init_7 : decode cX5_init 7 = .ok (.newarray .int, 2) := by decide +kernel
theorem dX5_init_9 : decode cX5_init 9 = .ok (.putfield 9, 3) := by decide +kernel
theorem dX5_init_12 : decode cX5_init 12 = .ok (.aload_n 0, 1) := by decide +kernel
theorem dX5_init_13 : decode cX5_init 13 = .ok (.bipush 8, 2) := by decide +kernel
theorem dX5_init_15 : decode cX5_init 15 = .ok (.newarray .int, 2) := by decide +kernel
theorem dX5_init_17 : decode cX5_init 17 = .ok (.putfield 15, 3) := by decide +kernel
theorem dX5_init_20 : decode cX5_init 20 = .ok (.aload_n 0, 1) := by decide +kernel
theorem dX5_init_21 : decode cX5_init 21 = .ok (.bipush 8, 2) := by decide +kernel
theorem dX5_init_23 : decode cX5_init 23 = .ok (.newarray .int, 2) := by decide +kernel
theorem dX5_init_25 : decode cX5_init 25 = .ok (.putfield 18, 3) := by decide +kernel
theorem dX5_init_28 : decode cX5_init 28 = .ok (.aload_n 0, 1) := by decide +kernel
theorem dX5_init_29 : decode cX5_init 29 = .ok (.bipush 14, 2) := by decide +kernel
theorem dX5_init_31 : decode cX5_init 31 = .ok (.newarray .int, 2) := by decide +kernel
theorem dX5_init_33 : decode cX5_init 33 = .ok (.putfield 21, 3) := by decide +kernel
theorem dX5_init_36 : decode cX5_init 36 = .ok (.aload_n 0, 1) := by decide +kernel
theorem dX5_init_37 : decode cX5_init 37 = .ok (.bipush 112, 2) := by decide +kernel
theorem dX5_init_39 : decode cX5_init 39 = .ok (.newarray .int, 2) := by decide +kernel
theorem dX5_init_41 : decode cX5_init 41 = .ok (.putfield 24, 3) := by decide +kernel
theorem dX5_init_44 : decode cX5_init 44 = .ok (.iconst 0, 1) := by decide +kernel
theorem dX5_init_45 : decode cX5_init 45 = .ok (.istore_n 1, 1) := by decide +kernel
theorem dX5_init_46 : decode cX5_init 46 = .ok (.iload_n 1, 1) := by decide +kernel
theorem dX5_init_47 : decode cX5_init 47 = .ok (.bipush 8, 2) := by decide +kernel
theorem dX5_init_49 : decode cX5_init 49 = .ok (.if_icmp .ge 16, 3) := by decide +kernel
theorem dX5_init_52 : decode cX5_init 52 = .ok (.aload_n 0, 1) := by decide +kernel
theorem dX5_init_53 : decode cX5_init 53 = .ok (.getfield 15, 3) := by decide +kernel
theorem dX5_init_56 : decode cX5_init 56 = .ok (.iload_n 1, 1) := by decide +kernel
theorem dX5_init_57 : decode cX5_init 57 = .ok (.iconst (-1), 1) := by decide +kernel
theorem dX5_init_58 : decode cX5_init 58 = .ok (.iastore, 1) := by decide +kernel
theorem dX5_init_59 : decode cX5_init 59 = .ok (.iinc 1 1, 3) := by decide +kernel
theorem dX5_init_62 : decode cX5_init 62 = .ok (.goto (-16), 3) := by decide +kernel
theorem dX5_init_65 : decode cX5_init 65 = .ok (.return_, 1) := by decide +kernel
theorem dX5_clear_0 : decode cX5_clear 0 = .ok (.aload_n 0, 1) := by decide +kernel
theorem dX5_clear_1 : decode cX5_clear 1 = .ok (.iconst 0, 1) := by decide +kernel
theorem dX5_clear_2 : decode cX5_clear 2 = .ok (.putfield 27, 3) := by decide +kernel
theorem dX5_clear_5 : decode cX5_clear 5 = .ok (.iconst 0, 1) := by decide +kernel
theorem dX5_clear_6 : decode cX5_clear 6 = .ok (.istore_n 1, 1) := by decide +kernel
theorem dX5_clear_7 : decode cX5_clear 7 = .ok (.iload_n 1, 1) := by decide +kernel
theorem dX5_clear_8 : decode cX5_clear 8 = .ok (.bipush 8, 2) := by decide +kernel
theorem dX5_clear_10 : decode cX5_clear 10 = .ok (.if_icmp .ge 30, 3) := by decide +kernel
theorem dX5_clear_13 : decode cX5_clear 13 = .ok (.aload_n 0, 1) := by decide +kernel
theorem dX5_clear_14 : decode cX5_clear 14 = .ok (.getfield 9, 3) := by decide +kernel
theorem dX5_clear_17 : decode cX5_clear 17 = .ok (.iload_n 1, 1) := by decide +kernel
theorem dX5_clear_18 : decode cX5_clear 18 = .ok (.iconst 0, 1) := by decide +kernel
theorem dX5_clear_19 : decode cX5_clear 19 = .ok (.iastore, 1) := by decide +kernel
theorem dX5_clear_20 : decode cX5_clear 20 = .ok (.aload_n 0, 1) := by decide +kernel
theorem dX5_clear_21 : decode cX5_clear 21 = .ok (.getfield 15, 3) := by decide +kernel
theorem dX5_clear_24 : decode cX5_clear 24 = .ok (.iload_n 1, 1) := by decide +kernel
theorem dX5_clear_25 : decode cX5_clear 25 = .ok (.iconst (-1), 1) := by decide +kernel
theorem dX5_clear_26 : decode cX5_clear 26 = .ok (.iastore, 1) := by decide +kernel
theorem dX5_clear_27 : decode cX5_clear 27 = .ok (.aload_n 0, 1) := by decide +kernel
theorem dX5_clear_28 : decode cX5_clear 28 = .ok (.getfield 18, 3) := by decide +kernel
theorem dX5_clear_31 : decode cX5_clear 31 = .ok (.iload_n 1, 1) := by decide +kernel
theorem dX5_clear_32 : decode cX5_clear 32 = .ok (.iconst 0, 1) := by decide +kernel
theorem dX5_clear_33 : decode cX5_clear 33 = .ok (.iastore, 1) := by decide +kernel
theorem dX5_clear_34 : decode cX5_clear 34 = .ok (.iinc 1 1, 3) := by decide +kernel
theorem dX5_clear_37 : decode cX5_clear 37 = .ok (.goto (-30), 3) := by decide +kernel
theorem dX5_clear_40 : decode cX5_clear 40 = .ok (.iconst 0, 1) := by decide +kernel
theorem dX5_clear_41 : decode cX5_clear 41 = .ok (.istore_n 1, 1) := by decide +kernel
theorem dX5_clear_42 : decode cX5_clear 42 = .ok (.iload_n 1, 1) := by decide +kernel
theorem dX5_clear_43 : decode cX5_clear 43 = .ok (.bipush 14, 2) := by decide +kernel
theorem dX5_clear_45 : decode cX5_clear 45 = .ok (.if_icmp .ge 16, 3) := by decide +kernel
theorem dX5_clear_48 : decode cX5_clear 48 = .ok (.aload_n 0, 1) := by decide +kernel
theorem dX5_clear_49 : decode cX5_clear 49 = .ok (.getfield 21, 3) := by decide +kernel
theorem dX5_clear_52 : decode cX5_clear 52 = .ok (.iload_n 1, 1) := by decide +kernel
theorem dX5_clear_53 : decode cX5_clear 53 = .ok (.iconst 0, 1) := by decide +kernel
theorem dX5_clear_54 : decode cX5_clear 54 = .ok (.iastore, 1) := by decide +kernel
theorem dX5_clear_55 : decode cX5_clear 55 = .ok (.iinc 1 1, 3) := by decide +kernel
theorem dX5_clear_58 : decode cX5_clear 58 = .ok (.goto (-16), 3) := by decide +kernel
theorem dX5_clear_61 : decode cX5_clear 61 = .ok (.return_, 1) := by decide +kernel
theorem dX5_become_0 : decode cX5_become 0 = .ok (.aload_n 0, 1) := by decide +kernel
theorem dX5_become_1 : decode cX5_become 1 = .ok (.aload_n 1, 1) := by decide +kernel
theorem dX5_become_2 : decode cX5_become 2 = .ok (.getfield 27, 3) := by decide +kernel
theorem dX5_become_5 : decode cX5_become 5 = .ok (.putfield 27, 3) := by decide +kernel
theorem dX5_become_8 : decode cX5_become 8 = .ok (.aload_n 1, 1) := by decide +kernel
theorem dX5_become_9 : decode cX5_become 9 = .ok (.getfield 9, 3) := by decide +kernel
theorem dX5_become_12 : decode cX5_become 12 = .ok (.iconst 0, 1) := by decide +kernel
theorem dX5_become_13 : decode cX5_become 13 = .ok (.aload_n 0, 1) := by decide +kernel
theorem dX5_become_14 : decode cX5_become 14 = .ok (.getfield 9, 3) := by decide +kernel
theorem dX5_become_17 : decode cX5_become 17 = .ok (.iconst 0, 1) := by decide +kernel
theorem dX5_become_18 : decode cX5_become 18 = .ok (.bipush 8, 2) := by decide +kernel
theorem dX5_become_20 : decode cX5_become 20 = .ok (.invokestatic 31, 3) := by decide +kernel
theorem dX5_become_23 : decode cX5_become 23 = .ok (.aload_n 1, 1) := by decide +kernel
theorem dX5_become_24 : decode cX5_become 24 = .ok (.getfield 15, 3) := by decide +kernel
theorem dX5_become_27 : decode cX5_become 27 = .ok (.iconst 0, 1) := by decide +kernel
theorem dX5_become_28 : decode cX5_become 28 = .ok (.aload_n 0, 1) := by decide +kernel
theorem dX5_become_29 : decode cX5_become 29 = .ok (.getfield 15, 3) := by decide +kernel
theorem dX5_become_32 : decode cX5_become 32 = .ok (.iconst 0, 1) := by decide +kernel
theorem dX5_become_33 : decode cX5_become 33 = .ok (.bipush 8, 2) := by decide +kernel
theorem dX5_become_35 : decode cX5_become 35 = .ok (.invokestatic 31, 3) := by decide +kernel
theorem dX5_become_38 : decode cX5_become 38 = .ok (.aload_n 1, 1) := by decide +kernel
theorem dX5_become_39 : decode cX5_become 39 = .ok (.getfield 18, 3) := by decide +kernel
theorem dX5_become_42 : decode cX5_become 42 = .ok (.iconst 0, 1) := by decide +kernel
theorem dX5_become_43 : decode cX5_become 43 = .ok (.aload_n 0, 1) := by decide +kernel
theorem dX5_become_44 : decode cX5_become 44 = .ok (.getfield 18, 3) := by decide +kernel
theorem dX5_become_47 : decode cX5_become 47 = .ok (.iconst 0, 1) := by decide +kernel
theorem dX5_become_48 : decode cX5_become 48 = .ok (.bipush 8, 2) := by decide +kernel
theorem dX5_become_50 : decode cX5_become 50 = .ok (.invokestatic 31, 3) := by decide +kernel
theorem dX5_become_53 : decode cX5_become 53 = .ok (.aload_n 1, 1) := by decide +kernel
theorem dX5_become_54 : decode cX5_become 54 = .ok (.getfield 21, 3) := by decide +kernel
theorem dX5_become_57 : decode cX5_become 57 = .ok (.iconst 0, 1) := by decide +kernel
theorem dX5_become_58 : decode cX5_become 58 = .ok (.aload_n 0, 1) := by decide +kernel
theorem dX5_become_59 : decode cX5_become 59 = .ok (.getfield 21, 3) := by decide +kernel
theorem dX5_become_62 : decode cX5_become 62 = .ok (.iconst 0, 1) := by decide +kernel
theorem dX5_become_63 : decode cX5_become 63 = .ok (.bipush 14, 2) := by decide +kernel
theorem dX5_become_65 : decode cX5_become 65 = .ok (.invokestatic 31, 3) := by decide +kernel
theorem dX5_become_68 : decode cX5_become 68 = .ok (.aload_n 1, 1) := by decide +kernel
theorem dX5_become_69 : decode cX5_become 69 = .ok (.getfield 24, 3) := by decide +kernel
theorem dX5_become_72 : decode cX5_become 72 = .ok (.iconst 0, 1) := by decide +kernel
theorem dX5_become_73 : decode cX5_become 73 = .ok (.aload_n 0, 1) := by decide +kernel
theorem dX5_become_74 : decode cX5_become 74 = .ok (.getfield 24, 3) := by decide +kernel
theorem dX5_become_77 : decode cX5_become 77 = .ok (.iconst 0, 1) := by decide +kernel
theorem dX5_become_78 : decode cX5_become 78 = .ok (.bipush 112, 2) := by decide +kernel
theorem dX5_become_80 : decode cX5_become 80 = .ok (.invokestatic 31, 3) := by decide +kernel
theorem dX5_become_83 : decode cX5_become 83 = .ok (.return_, 1) := by decide +kernel
theorem dX5_has_0 : decode cX5_has 0 = .ok (.aload_n 0, 1) := by decide +kernel
theorem dX5_has_1 : decode cX5_has 1 = .ok (.getfield 18, 3) := by decide +kernel
theorem dX5_has_4 : decode cX5_has 4 = .ok (.iload_n 1, 1) := by decide +kernel
theorem dX5_has_5 : decode cX5_has 5 = .ok (.iaload, 1) := by decide +kernel
theorem dX5_has_6 : decode cX5_has 6 = .ok (.iconst 1, 1) := by decide +kernel
theorem dX5_has_7 : decode cX5_has 7 = .ok (.iload_n 2, 1) := by decide +kernel
theorem dX5_has_8 : decode cX5_has 8 = .ok (.ishl, 1) := by decide +kernel
theorem dX5_has_9 : decode cX5_has 9 = .ok (.iand, 1) := by decide +kernel
theorem dX5_has_10 : decode cX5_has 10 = .ok (.ifCond .eq 7, 3) := by decide +kernel
theorem dX5_has_13 : decode cX5_has 13 = .ok (.iconst 1, 1) := by decide +kernel
theorem dX5_has_14 : decode cX5_has 14 = .ok (.goto 4, 3) := by decide +kernel
theorem dX5_has_17 : decode cX5_has 17 = .ok (.iconst 0, 1) := by decide +kernel
theorem dX5_has_18 : decode cX5_has 18 = .ok (.ireturn, 1) := by decide +kernel
theorem dX5_adopt_0 : decode cX5_adopt 0 = .ok (.aload_n 0, 1) := by decide +kernel
theorem dX5_adopt_1 : decode cX5_adopt 1 = .ok (.getfield 18, 3) := by decide +kernel
theorem dX5_adopt_4 : decode cX5_adopt 4 = .ok (.iload_n 1, 1) := by decide +kernel
theorem dX5_adopt_5 : decode cX5_adopt 5 = .ok (.dup2, 1) := by decide +kernel
theorem dX5_adopt_6 : decode cX5_adopt 6 = .ok (.iaload, 1) := by decide +kernel
theorem dX5_adopt_7 : decode cX5_adopt 7 = .ok (.iconst 1, 1) := by decide +kernel
theorem dX5_adopt_8 : decode cX5_adopt 8 = .ok (.iload_n 2, 1) := by decide +kernel
theorem dX5_adopt_9 : decode cX5_adopt 9 = .ok (.ishl, 1) := by decide +kernel
theorem dX5_adopt_10 : decode cX5_adopt 10 = .ok (.ior, 1) := by decide +kernel
theorem dX5_adopt_11 : decode cX5_adopt 11 = .ok (.iastore, 1) := by decide +kernel
theorem dX5_adopt_12 : decode cX5_adopt 12 = .ok (.aload_n 0, 1) := by decide +kernel
theorem dX5_adopt_13 : decode cX5_adopt 13 = .ok (.getfield 21, 3) := by decide +kernel
theorem dX5_adopt_16 : decode cX5_adopt 16 = .ok (.iload_n 2, 1) := by decide +kernel
theorem dX5_adopt_17 : decode cX5_adopt 17 = .ok (.dup2, 1) := by decide +kernel
theorem dX5_adopt_18 : decode cX5_adopt 18 = .ok (.iaload, 1) := by decide +kernel
theorem dX5_adopt_19 : decode cX5_adopt 19 = .ok (.iconst 1, 1) := by decide +kernel
theorem dX5_adopt_20 : decode cX5_adopt 20 = .ok (.iload_n 1, 1) := by decide +kernel
theorem dX5_adopt_21 : decode cX5_adopt 21 = .ok (.ishl, 1) := by decide +kernel
theorem dX5_adopt_22 : decode cX5_adopt 22 = .ok (.ior, 1) := by decide +kernel
theorem dX5_adopt_23 : decode cX5_adopt 23 = .ok (.iastore, 1) := by decide +kernel
theorem dX5_adopt_24 : decode cX5_adopt 24 = .ok (.aload_n 0, 1) := by decide +kernel
theorem dX5_adopt_25 : decode cX5_adopt 25 = .ok (.getfield 24, 3) := by decide +kernel
theorem dX5_adopt_28 : decode cX5_adopt 28 = .ok (.iload_n 1, 1) := by decide +kernel
theorem dX5_adopt_29 : decode cX5_adopt 29 = .ok (.bipush 14, 2) := by decide +kernel
theorem dX5_adopt_31 : decode cX5_adopt 31 = .ok (.imul, 1) := by decide +kernel
theorem dX5_adopt_32 : decode cX5_adopt 32 = .ok (.iload_n 2, 1) := by decide +kernel
theorem dX5_adopt_33 : decode cX5_adopt 33 = .ok (.iadd, 1) := by decide +kernel
theorem dX5_adopt_34 : decode cX5_adopt 34 = .ok (.iload_n 3, 1) := by decide +kernel
theorem dX5_adopt_35 : decode cX5_adopt 35 = .ok (.iastore, 1) := by decide +kernel
theorem dX5_adopt_36 : decode cX5_adopt 36 = .ok (.return_, 1) := by decide +kernel
theorem dX5_drop_0 : decode cX5_drop 0 = .ok (.aload_n 0, 1) := by decide +kernel
theorem dX5_drop_1 : decode cX5_drop 1 = .ok (.getfield 18, 3) := by decide +kernel
theorem dX5_drop_4 : decode cX5_drop 4 = .ok (.iload_n 1, 1) := by decide +kernel
theorem dX5_drop_5 : decode cX5_drop 5 = .ok (.dup2, 1) := by decide +kernel
theorem dX5_drop_6 : decode cX5_drop 6 = .ok (.iaload, 1) := by decide +kernel
theorem dX5_drop_7 : decode cX5_drop 7 = .ok (.iconst 1, 1) := by decide +kernel
theorem dX5_drop_8 : decode cX5_drop 8 = .ok (.iload_n 2, 1) := by decide +kernel
theorem dX5_drop_9 : decode cX5_drop 9 = .ok (.ishl, 1) := by decide +kernel
theorem dX5_drop_10 : decode cX5_drop 10 = .ok (.iconst (-1), 1) := by decide +kernel
theorem dX5_drop_11 : decode cX5_drop 11 = .ok (.ixor, 1) := by decide +kernel
theorem dX5_drop_12 : decode cX5_drop 12 = .ok (.iand, 1) := by decide +kernel
theorem dX5_drop_13 : decode cX5_drop 13 = .ok (.iastore, 1) := by decide +kernel
theorem dX5_drop_14 : decode cX5_drop 14 = .ok (.aload_n 0, 1) := by decide +kernel
theorem dX5_drop_15 : decode cX5_drop 15 = .ok (.getfield 21, 3) := by decide +kernel
theorem dX5_drop_18 : decode cX5_drop 18 = .ok (.iload_n 2, 1) := by decide +kernel
theorem dX5_drop_19 : decode cX5_drop 19 = .ok (.dup2, 1) := by decide +kernel
theorem dX5_drop_20 : decode cX5_drop 20 = .ok (.iaload, 1) := by decide +kernel
theorem dX5_drop_21 : decode cX5_drop 21 = .ok (.iconst 1, 1) := by decide +kernel
theorem dX5_drop_22 : decode cX5_drop 22 = .ok (.iload_n 1, 1) := by decide +kernel
theorem dX5_drop_23 : decode cX5_drop 23 = .ok (.ishl, 1) := by decide +kernel
theorem dX5_drop_24 : decode cX5_drop 24 = .ok (.iconst (-1), 1) := by decide +kernel
theorem dX5_drop_25 : decode cX5_drop 25 = .ok (.ixor, 1) := by decide +kernel
theorem dX5_drop_26 : decode cX5_drop 26 = .ok (.iand, 1) := by decide +kernel
theorem dX5_drop_27 : decode cX5_drop 27 = .ok (.iastore, 1) := by decide +kernel
theorem dX5_drop_28 : decode cX5_drop 28 = .ok (.return_, 1) := by decide +kernel
theorem dX5_copyList_0 : decode cX5_copyList 0 = .ok (.iconst 0, 1) := by decide +kernel
theorem dX5_copyList_1 : decode cX5_copyList 1 = .ok (.istore_n 3, 1) := by decide +kernel
theorem dX5_copyList_2 : decode cX5_copyList 2 = .ok (.iload_n 3, 1) := by decide +kernel
theorem dX5_copyList_3 : decode cX5_copyList 3 = .ok (.bipush 14, 2) := by decide +kernel
theorem dX5_copyList_5 : decode cX5_copyList 5 = .ok (.if_icmp .ge 44, 3) := by decide +kernel
theorem dX5_copyList_8 : decode cX5_copyList 8 = .ok (.aload_n 0, 1) := by decide +kernel
theorem dX5_copyList_9 : decode cX5_copyList 9 = .ok (.iload_n 2, 1) := by decide +kernel
theorem dX5_copyList_10 : decode cX5_copyList 10 = .ok (.iload_n 3, 1) := by decide +kernel
theorem dX5_copyList_11 : decode cX5_copyList 11 = .ok (.invokevirtual 37, 3) := by decide +kernel
theorem dX5_copyList_14 : decode cX5_copyList 14 = .ok (.ifCond .eq 23, 3) := by decide +kernel
theorem dX5_copyList_17 : decode cX5_copyList 17 = .ok (.aload_n 0, 1) := by decide +kernel
theorem dX5_copyList_18 : decode cX5_copyList 18 = .ok (.iload_n 1, 1) := by decide +kernel
theorem dX5_copyList_19 : decode cX5_copyList 19 = .ok (.iload_n 3, 1) := by decide +kernel
theorem dX5_copyList_20 : decode cX5_copyList 20 = .ok (.aload_n 0, 1) := by decide +kernel
theorem dX5_copyList_21 : decode cX5_copyList 21 = .ok (.getfield 24, 3) := by decide +kernel
theorem dX5_copyList_24 : decode cX5_copyList 24 = .ok (.iload_n 2, 1) := by decide +kernel
theorem dX5_copyList_25 : decode cX5_copyList 25 = .ok (.bipush 14, 2) := by decide +kernel
theorem dX5_copyList_27 : decode cX5_copyList 27 = .ok (.imul, 1) := by decide +kernel
theorem dX5_copyList_28 : decode cX5_copyList 28 = .ok (.iload_n 3, 1) := by decide +kernel
theorem dX5_copyList_29 : decode cX5_copyList 29 = .ok (.iadd, 1) := by decide +kernel
theorem dX5_copyList_30 : decode cX5_copyList 30 = .ok (.iaload, 1) := by decide +kernel
theorem dX5_copyList_31 : decode cX5_copyList 31 = .ok (.invokevirtual 41, 3) := by decide +kernel
theorem dX5_copyList_34 : decode cX5_copyList 34 = .ok (.goto 9, 3) := by decide +kernel
theorem dX5_copyList_37 : decode cX5_copyList 37 = .ok (.aload_n 0, 1) := by decide +kernel
theorem dX5_copyList_38 : decode cX5_copyList 38 = .ok (.iload_n 1, 1) := by decide +kernel
theorem dX5_copyList_39 : decode cX5_copyList 39 = .ok (.iload_n 3, 1) := by decide +kernel
theorem dX5_copyList_40 : decode cX5_copyList 40 = .ok (.invokevirtual 45, 3) := by decide +kernel
theorem dX5_copyList_43 : decode cX5_copyList 43 = .ok (.iinc 3 1, 3) := by decide +kernel
theorem dX5_copyList_46 : decode cX5_copyList 46 = .ok (.goto (-44), 3) := by decide +kernel
theorem dX5_copyList_49 : decode cX5_copyList 49 = .ok (.return_, 1) := by decide +kernel
theorem dX5_marry_0 : decode cX5_marry 0 = .ok (.aload_n 0, 1) := by decide +kernel
theorem dX5_marry_1 : decode cX5_marry 1 = .ok (.getfield 15, 3) := by decide +kernel
theorem dX5_marry_4 : decode cX5_marry 4 = .ok (.iload_n 1, 1) := by decide +kernel
theorem dX5_marry_5 : decode cX5_marry 5 = .ok (.iload_n 2, 1) := by decide +kernel
theorem dX5_marry_6 : decode cX5_marry 6 = .ok (.iastore, 1) := by decide +kernel
theorem dX5_marry_7 : decode cX5_marry 7 = .ok (.aload_n 0, 1) := by decide +kernel
theorem dX5_marry_8 : decode cX5_marry 8 = .ok (.getfield 15, 3) := by decide +kernel
theorem dX5_marry_11 : decode cX5_marry 11 = .ok (.iload_n 2, 1) := by decide +kernel
theorem dX5_marry_12 : decode cX5_marry 12 = .ok (.iload_n 1, 1) := by decide +kernel
theorem dX5_marry_13 : decode cX5_marry 13 = .ok (.iastore, 1) := by decide +kernel
theorem dX5_marry_14 : decode cX5_marry 14 = .ok (.return_, 1) := by decide +kernel
theorem dX5_split_0 : decode cX5_split 0 = .ok (.aload_n 0, 1) := by decide +kernel
theorem dX5_split_1 : decode cX5_split 1 = .ok (.getfield 15, 3) := by decide +kernel
theorem dX5_split_4 : decode cX5_split 4 = .ok (.iload_n 1, 1) := by decide +kernel
theorem dX5_split_5 : decode cX5_split 5 = .ok (.iaload, 1) := by decide +kernel
theorem dX5_split_6 : decode cX5_split 6 = .ok (.istore_n 2, 1) := by decide +kernel
theorem dX5_split_7 : decode cX5_split 7 = .ok (.aload_n 0, 1) := by decide +kernel
theorem dX5_split_8 : decode cX5_split 8 = .ok (.getfield 15, 3) := by decide +kernel
theorem dX5_split_11 : decode cX5_split 11 = .ok (.iload_n 1, 1) := by decide +kernel
theorem dX5_split_12 : decode cX5_split 12 = .ok (.iconst (-1), 1) := by decide +kernel
theorem dX5_split_13 : decode cX5_split 13 = .ok (.iastore, 1) := by decide +kernel
theorem dX5_split_14 : decode cX5_split 14 = .ok (.iload_n 2, 1) := by decide +kernel
theorem dX5_split_15 : decode cX5_split 15 = .ok (.ifCond .lt 16, 3) := by decide +kernel
theorem dX5_split_18 : decode cX5_split 18 = .ok (.iload_n 2, 1) := by decide +kernel
theorem dX5_split_19 : decode cX5_split 19 = .ok (.bipush 8, 2) := by decide +kernel
theorem dX5_split_21 : decode cX5_split 21 = .ok (.if_icmp .ge 10, 3) := by decide +kernel
theorem dX5_split_24 : decode cX5_split 24 = .ok (.aload_n 0, 1) := by decide +kernel
theorem dX5_split_25 : decode cX5_split 25 = .ok (.getfield 15, 3) := by decide +kernel
theorem dX5_split_28 : decode cX5_split 28 = .ok (.iload_n 2, 1) := by decide +kernel
theorem dX5_split_29 : decode cX5_split 29 = .ok (.iconst (-1), 1) := by decide +kernel
theorem dX5_split_30 : decode cX5_split 30 = .ok (.iastore, 1) := by decide +kernel
theorem dX5_split_31 : decode cX5_split 31 = .ok (.return_, 1) := by decide +kernel
theorem dX6_init_0 : decode cX6_init 0 = .ok (.aload_n 0, 1) := by decide +kernel
theorem dX6_init_1 : decode cX6_init 1 = .ok (.invokespecial 3, 3) := by decide +kernel
theorem dX6_init_4 : decode cX6_init 4 = .ok (.aload_n 0, 1) := by decide +kernel
theorem dX6_init_5 : decode cX6_init 5 = .ok (.bipush 64, 2) := by decide +kernel
theorem dX6_init_7 : decode cX6_init 7 = .ok (.newarray .boolean, 2) := by decide +kernel
theorem dX6_init_9 : decode cX6_init 9 = .ok (.putfield 9, 3) := by decide +kernel
theorem dX6_init_12 : decode cX6_init 12 = .ok (.aload_n 0, 1) := by decide +kernel
theorem dX6_init_13 : decode cX6_init 13 = .ok (.bipush 64, 2) := by decide +kernel
theorem dX6_init_15 : decode cX6_init 15 = .ok (.newarray .int, 2) := by decide +kernel
theorem dX6_init_17 : decode cX6_init 17 = .ok (.putfield 15, 3) := by decide +kernel
theorem dX6_init_20 : decode cX6_init 20 = .ok (.aload_n 0, 1) := by decide +kernel
theorem dX6_init_21 : decode cX6_init 21 = .ok (.sipush 256, 3) := by decide +kernel
theorem dX6_init_24 : decode cX6_init 24 = .ok (.newarray .int, 2) := by decide +kernel
theorem dX6_init_26 : decode cX6_init 26 = .ok (.putfield 19, 3) := by decide +kernel
theorem dX6_init_29 : decode cX6_init 29 = .ok (.aload_n 0, 1) := by decide +kernel
theorem dX6_init_30 : decode cX6_init 30 = .ok (.sipush 256, 3) := by decide +kernel
theorem dX6_init_33 : decode cX6_init 33 = .ok (.newarray .int, 2) := by decide +kernel
theorem dX6_init_35 : decode cX6_init 35 = .ok (.putfield 22, 3) := by decide +kernel
theorem dX6_init_38 : decode cX6_init 38 = .ok (.aload_n 0, 1) := by decide +kernel
theorem dX6_init_39 : decode cX6_init 39 = .ok (.bipush 8, 2) := by decide +kernel
theorem dX6_init_41 : decode cX6_init 41 = .ok (.newarray .int, 2) := by decide +kernel
theorem dX6_init_43 : decode cX6_init 43 = .ok (.putfield 25, 3) := by decide +kernel
theorem dX6_init_46 : decode cX6_init 46 = .ok (.return_, 1) := by decide +kernel
theorem dX6_survey_0 : decode cX6_survey 0 = .ok (.aload_n 0, 1) := by decide +kernel
theorem dX6_survey_1 : decode cX6_survey 1 = .ok (.aload_n 1, 1) := by decide +kernel
theorem dX6_survey_2 : decode cX6_survey 2 = .ok (.getfield 28, 3) := by decide +kernel
theorem dX6_survey_5 : decode cX6_survey 5 = .ok (.getfield 34, 3) := by decide +kernel
theorem dX6_survey_8 : decode cX6_survey 8 = .ok (.putfield 40, 3) := by decide +kernel
theorem dX6_survey_11 : decode cX6_survey 11 = .ok (.iconst 0, 1) := by decide +kernel
theorem dX6_survey_12 : decode cX6_survey 12 = .ok (.istore_n 2, 1) := by decide +kernel
theorem dX6_survey_13 : decode cX6_survey 13 = .ok (.iload_n 2, 1) := by decide +kernel
theorem dX6_survey_14 : decode cX6_survey 14 = .ok (.aload_n 0, 1) := by decide +kernel
theorem dX6_survey_15 : decode cX6_survey 15 = .ok (.getfield 40, 3) := by decide +kernel
theorem dX6_survey_18 : decode cX6_survey 18 = .ok (.if_icmp .ge 95, 3) := by decide +kernel
theorem dX6_survey_21 : decode cX6_survey 21 = .ok (.iload_n 2, 1) := by decide +kernel
theorem dX6_survey_22 : decode cX6_survey 22 = .ok (.iconst 1, 1) := by decide +kernel
theorem dX6_survey_23 : decode cX6_survey 23 = .ok (.iadd, 1) := by decide +kernel
theorem dX6_survey_24 : decode cX6_survey 24 = .ok (.istore_n 3, 1) := by decide +kernel
theorem dX6_survey_25 : decode cX6_survey 25 = .ok (.iload_n 3, 1) := by decide +kernel
theorem dX6_survey_26 : decode cX6_survey 26 = .ok (.aload_n 0, 1) := by decide +kernel
theorem dX6_survey_27 : decode cX6_survey 27 = .ok (.getfield 40, 3) := by decide +kernel
theorem dX6_survey_30 : decode cX6_survey 30 = .ok (.if_icmp .ge 77, 3) := by decide +kernel
theorem dX6_survey_33 : decode cX6_survey 33 = .ok (.aload_n 1, 1) := by decide +kernel
theorem dX6_survey_34 : decode cX6_survey 34 = .ok (.iload_n 2, 1) := by decide +kernel
theorem dX6_survey_35 : decode cX6_survey 35 = .ok (.iload_n 3, 1) := by decide +kernel
theorem dX6_survey_36 : decode cX6_survey 36 = .ok (.invokevirtual 41, 3) := by decide +kernel
theorem dX6_survey_39 : decode cX6_survey 39 = .ok (.istore 4, 2) := by decide +kernel
theorem dX6_survey_41 : decode cX6_survey 41 = .ok (.aload_n 1, 1) := by decide +kernel
theorem dX6_survey_42 : decode cX6_survey 42 = .ok (.iload_n 2, 1) := by decide +kernel
theorem dX6_survey_43 : decode cX6_survey 43 = .ok (.iload_n 3, 1) := by decide +kernel
theorem dX6_survey_44 : decode cX6_survey 44 = .ok (.invokevirtual 45, 3) := by decide +kernel
theorem dX6_survey_47 : decode cX6_survey 47 = .ok (.istore 5, 2) := by decide +kernel
theorem dX6_survey_49 : decode cX6_survey 49 = .ok (.aload_n 0, 1) := by decide +kernel
theorem dX6_survey_50 : decode cX6_survey 50 = .ok (.getfield 15, 3) := by decide +kernel
theorem dX6_survey_53 : decode cX6_survey 53 = .ok (.iload_n 2, 1) := by decide +kernel
theorem dX6_survey_54 : decode cX6_survey 54 = .ok (.bipush 8, 2) := by decide +kernel
theorem dX6_survey_56 : decode cX6_survey 56 = .ok (.imul, 1) := by decide +kernel
theorem dX6_survey_57 : decode cX6_survey 57 = .ok (.iload_n 3, 1) := by decide +kernel
theorem dX6_survey_58 : decode cX6_survey 58 = .ok (.iadd, 1) := by decide +kernel
theorem dX6_survey_59 : decode cX6_survey 59 = .ok (.iload 4, 2) := by decide +kernel
theorem dX6_survey_61 : decode cX6_survey 61 = .ok (.iastore, 1) := by decide +kernel
theorem dX6_survey_62 : decode cX6_survey 62 = .ok (.aload_n 0, 1) := by decide +kernel
theorem dX6_survey_63 : decode cX6_survey 63 = .ok (.getfield 15, 3) := by decide +kernel
theorem dX6_survey_66 : decode cX6_survey 66 = .ok (.iload_n 3, 1) := by decide +kernel
theorem dX6_survey_67 : decode cX6_survey 67 = .ok (.bipush 8, 2) := by decide +kernel
theorem dX6_survey_69 : decode cX6_survey 69 = .ok (.imul, 1) := by decide +kernel
theorem dX6_survey_70 : decode cX6_survey 70 = .ok (.iload_n 2, 1) := by decide +kernel
theorem dX6_survey_71 : decode cX6_survey 71 = .ok (.iadd, 1) := by decide +kernel
theorem dX6_survey_72 : decode cX6_survey 72 = .ok (.iload 4, 2) := by decide +kernel
theorem dX6_survey_74 : decode cX6_survey 74 = .ok (.iastore, 1) := by decide +kernel
theorem dX6_survey_75 : decode cX6_survey 75 = .ok (.aload_n 0, 1) := by decide +kernel
theorem dX6_survey_76 : decode cX6_survey 76 = .ok (.getfield 9, 3) := by decide +kernel
theorem dX6_survey_79 : decode cX6_survey 79 = .ok (.iload_n 2, 1) := by decide +kernel
theorem dX6_survey_80 : decode cX6_survey 80 = .ok (.bipush 8, 2) := by decide +kernel
theorem dX6_survey_82 : decode cX6_survey 82 = .ok (.imul, 1) := by decide +kernel
theorem dX6_survey_83 : decode cX6_survey 83 = .ok (.iload_n 3, 1) := by decide +kernel
theorem dX6_survey_84 : decode cX6_survey 84 = .ok (.iadd, 1) := by decide +kernel
theorem dX6_survey_85 : decode cX6_survey 85 = .ok (.iload 5, 2) := by decide +kernel
theorem dX6_survey_87 : decode cX6_survey 87 = .ok (.bastore, 1) := by decide +kernel
theorem dX6_survey_88 : decode cX6_survey 88 = .ok (.aload_n 0, 1) := by decide +kernel
theorem dX6_survey_89 : decode cX6_survey 89 = .ok (.getfield 9, 3) := by decide +kernel
theorem dX6_survey_92 : decode cX6_survey 92 = .ok (.iload_n 3, 1) := by decide +kernel
theorem dX6_survey_93 : decode cX6_survey 93 = .ok (.bipush 8, 2) := by decide +kernel
theorem dX6_survey_95 : decode cX6_survey 95 = .ok (.imul, 1) := by decide +kernel
theorem dX6_survey_96 : decode cX6_survey 96 = .ok (.iload_n 2, 1) := by decide +kernel
theorem dX6_survey_97 : decode cX6_survey 97 = .ok (.iadd, 1) := by decide +kernel
theorem dX6_survey_98 : decode cX6_survey 98 = .ok (.iload 5, 2) := by decide +kernel
theorem dX6_survey_100 : decode cX6_survey 100 = .ok (.bastore, 1) := by decide +kernel
theorem dX6_survey_101 : decode cX6_survey 101 = .ok (.iinc 3 1, 3) := by decide +kernel
theorem dX6_survey_104 : decode cX6_survey 104 = .ok (.goto (-79), 3) := by decide +kernel
theorem dX6_survey_107 : decode cX6_survey 107 = .ok (.iinc 2 1, 3) := by decide +kernel
theorem dX6_survey_110 : decode cX6_survey 110 = .ok (.goto (-97), 3) := by decide +kernel
theorem dX6_survey_113 : decode cX6_survey 113 = .ok (.return_, 1) := by decide +kernel
theorem dX6_isOpen_0 : decode cX6_isOpen 0 = .ok (.aload_n 0, 1) := by decide +kernel
theorem dX6_isOpen_1 : decode cX6_isOpen 1 = .ok (.getfield 9, 3) := by decide +kernel
theorem dX6_isOpen_4 : decode cX6_isOpen 4 = .ok (.iload_n 1, 1) := by decide +kernel
theorem dX6_isOpen_5 : decode cX6_isOpen 5 = .ok (.bipush 8, 2) := by decide +kernel
theorem dX6_isOpen_7 : decode cX6_isOpen 7 = .ok (.imul, 1) := by decide +kernel
theorem dX6_isOpen_8 : decode cX6_isOpen 8 = .ok (.iload_n 2, 1) := by decide +kernel
theorem dX6_isOpen_9 : decode cX6_isOpen 9 = .ok (.iadd, 1) := by decide +kernel
theorem dX6_isOpen_10 : decode cX6_isOpen 10 = .ok (.baload, 1) := by decide +kernel
theorem dX6_isOpen_11 : decode cX6_isOpen 11 = .ok (.ireturn, 1) := by decide +kernel
theorem dX6_close_0 : decode cX6_close 0 = .ok (.aload_n 0, 1) := by decide +kernel
theorem dX6_close_1 : decode cX6_close 1 = .ok (.getfield 9, 3) := by decide +kernel
theorem dX6_close_4 : decode cX6_close 4 = .ok (.iload_n 1, 1) := by decide +kernel
theorem dX6_close_5 : decode cX6_close 5 = .ok (.bipush 8, 2) := by decide +kernel
theorem dX6_close_7 : decode cX6_close 7 = .ok (.imul, 1) := by decide +kernel
theorem dX6_close_8 : decode cX6_close 8 = .ok (.iload_n 2, 1) := by decide +kernel
theorem dX6_close_9 : decode cX6_close 9 = .ok (.iadd, 1) := by decide +kernel
theorem dX6_close_10 : decode cX6_close 10 = .ok (.iconst 0, 1) := by decide +kernel
theorem dX6_close_11 : decode cX6_close 11 = .ok (.bastore, 1) := by decide +kernel
theorem dX6_close_12 : decode cX6_close 12 = .ok (.aload_n 0, 1) := by decide +kernel
theorem dX6_close_13 : decode cX6_close 13 = .ok (.getfield 9, 3) := by decide +kernel
theorem dX6_close_16 : decode cX6_close 16 = .ok (.iload_n 2, 1) := by decide +kernel
theorem dX6_close_17 : decode cX6_close 17 = .ok (.bipush 8, 2) := by decide +kernel
theorem dX6_close_19 : decode cX6_close 19 = .ok (.imul, 1) := by decide +kernel
theorem dX6_close_20 : decode cX6_close 20 = .ok (.iload_n 1, 1) := by decide +kernel
theorem dX6_close_21 : decode cX6_close 21 = .ok (.iadd, 1) := by decide +kernel
theorem dX6_close_22 : decode cX6_close 22 = .ok (.iconst 0, 1) := by decide +kernel
theorem dX6_close_23 : decode cX6_close 23 = .ok (.bastore, 1) := by decide +kernel
theorem dX6_close_24 : decode cX6_close 24 = .ok (.return_, 1) := by decide +kernel
theorem dX6_solve_0 : decode cX6_solve 0 = .ok (.aload_n 0, 1) := by decide +kernel
theorem dX6_solve_1 : decode cX6_solve 1 = .ok (.getfield 19, 3) := by decide +kernel
theorem dX6_solve_4 : decode cX6_solve 4 = .ok (.iconst 0, 1) := by decide +kernel
theorem dX6_solve_5 : decode cX6_solve 5 = .ok (.iconst 0, 1) := by decide +kernel
theorem dX6_solve_6 : decode cX6_solve 6 = .ok (.iastore, 1) := by decide +kernel
theorem dX6_solve_7 : decode cX6_solve 7 = .ok (.aload_n 0, 1) := by decide +kernel
theorem dX6_solve_8 : decode cX6_solve 8 = .ok (.getfield 22, 3) := by decide +kernel
theorem dX6_solve_11 : decode cX6_solve 11 = .ok (.iconst 0, 1) := by decide +kernel
theorem dX6_solve_12 : decode cX6_solve 12 = .ok (.iconst (-1), 1) := by decide +kernel
theorem dX6_solve_13 : decode cX6_solve 13 = .ok (.iastore, 1) := by decide +kernel
theorem dX6_solve_14 : decode cX6_solve 14 = .ok (.iconst 1, 1) := by decide +kernel
theorem dX6_solve_15 : decode cX6_solve 15 = .ok (.aload_n 0, 1) := by decide +kernel
theorem dX6_solve_16 : decode cX6_solve 16 = .ok (.getfield 40, 3) := by decide +kernel
theorem dX6_solve_19 : decode cX6_solve 19 = .ok (.ishl, 1) := by decide +kernel
theorem dX6_solve_20 : decode cX6_solve 20 = .ok (.istore_n 1, 1) := by decide +kernel
theorem dX6_solve_21 : decode cX6_solve 21 = .ok (.iconst 1, 1) := by decide +kernel
theorem dX6_solve_22 : decode cX6_solve 22 = .ok (.istore_n 2, 1) := by decide +kernel
theorem dX6_solve_23 : decode cX6_solve 23 = .ok (.iload_n 2, 1) := by decide +kernel
theorem dX6_solve_24 : decode cX6_solve 24 = .ok (.iload_n 1, 1) := by decide +kernel
theorem dX6_solve_25 : decode cX6_solve 25 = .ok (.if_icmp .ge 14, 3) := by decide +kernel
theorem dX6_solve_28 : decode cX6_solve 28 = .ok (.aload_n 0, 1) := by decide +kernel
theorem dX6_solve_29 : decode cX6_solve 29 = .ok (.iload_n 2, 1) := by decide +kernel
theorem dX6_solve_30 : decode cX6_solve 30 = .ok (.invokevirtual 49, 3) := by decide +kernel
theorem dX6_solve_33 : decode cX6_solve 33 = .ok (.iinc 2 1, 3) := by decide +kernel
theorem dX6_solve_36 : decode cX6_solve 36 = .ok (.goto (-13), 3) := by decide +kernel
theorem dX6_solve_39 : decode cX6_solve 39 = .ok (.return_, 1) := by decide +kernel
theorem dX6_choose_0 : decode cX6_choose 0 = .ok (.iload_n 1, 1) := by decide +kernel
theorem dX6_choose_1 : decode cX6_choose 1 = .ok (.invokestatic 53, 3) := by decide +kernel
theorem dX6_choose_4 : decode cX6_choose 4 = .ok (.istore_n 2, 1) := by decide +kernel
theorem dX6_choose_5 : decode cX6_choose 5 = .ok (.iload_n 1, 1) := by decide +kernel
theorem dX6_choose_6 : decode cX6_choose 6 = .ok (.iconst 1, 1) := by decide +kernel
theorem dX6_choose_7 : decode cX6_choose 7 = .ok (.iload_n 2, 1) := by decide +kernel
theorem dX6_choose_8 : decode cX6_choose 8 = .ok (.ishl, 1) := by decide +kernel
theorem dX6_choose_9 : decode cX6_choose 9 = .ok (.iconst (-1), 1) := by decide +kernel
theorem dX6_choose_10 : decode cX6_choose 10 = .ok (.ixor, 1) := by decide +kernel
theorem dX6_choose_11 : decode cX6_choose 11 = .ok (.iand, 1) := by decide +kernel
theorem dX6_choose_12 : decode cX6_choose 12 = .ok (.istore_n 3, 1) := by decide +kernel
theorem dX6_choose_13 : decode cX6_choose 13 = .ok (.ldc 59, 2) := by decide +kernel
theorem dX6_choose_15 : decode cX6_choose 15 = .ok (.istore 4, 2) := by decide +kernel
theorem dX6_choose_17 : decode cX6_choose 17 = .ok (.iconst (-1), 1) := by decide +kernel
theorem dX6_choose_18 : decode cX6_choose 18 = .ok (.istore 5, 2) := by decide +kernel
theorem dX6_choose_20 : decode cX6_choose 20 = .ok (.iload_n 2, 1) := by decide +kernel
theorem dX6_choose_21 : decode cX6_choose 21 = .ok (.iconst 1, 1) := by decide +kernel
theorem dX6_choose_22 : decode cX6_choose 22 = .ok (.iadd, 1) := by decide +kernel
theorem dX6_choose_23 : decode cX6_choose 23 = .ok (.istore 6, 2) := by decide +kernel
theorem dX6_choose_25 : decode cX6_choose 25 = .ok (.iload 6, 2) := by decide +kernel
theorem dX6_choose_27 : decode cX6_choose 27 = .ok (.aload_n 0, 1) := by decide +kernel
theorem dX6_choose_28 : decode cX6_choose 28 = .ok (.getfield 40, 3) := by decide +kernel
theorem dX6_choose_31 : decode cX6_choose 31 = .ok (.if_icmp .ge 74, 3) := by decide +kernel
theorem dX6_choose_34 : decode cX6_choose 34 = .ok (.iload_n 3, 1) := by decide +kernel
theorem dX6_choose_35 : decode cX6_choose 35 = .ok (.iconst 1, 1) := by decide +kernel
theorem dX6_choose_36 : decode cX6_choose 36 = .ok (.iload 6, 2) := by decide +kernel
theorem dX6_choose_38 : decode cX6_choose 38 = .ok (.ishl, 1) := by decide +kernel
theorem dX6_choose_39 : decode cX6_choose 39 = .ok (.iand, 1) := by decide +kernel
theorem dX6_choose_40 : decode cX6_choose 40 = .ok (.ifCond .eq 59, 3) := by decide +kernel
theorem dX6_choose_43 : decode cX6_choose 43 = .ok (.aload_n 0, 1) := by decide +kernel
theorem dX6_choose_44 : decode cX6_choose 44 = .ok (.iload_n 2, 1) := by decide +kernel
theorem dX6_choose_45 : decode cX6_choose 45 = .ok (.iload 6, 2) := by decide +kernel
theorem dX6_choose_47 : decode cX6_choose 47 = .ok (.invokevirtual 60, 3) := by decide +kernel
theorem dX6_choose_50 : decode cX6_choose 50 = .ok (.ifCond .eq 49, 3) := by decide +kernel
theorem dX6_choose_53 : decode cX6_choose 53 = .ok (.ldc 63, 2) := by decide +kernel
theorem dX6_choose_55 : decode cX6_choose 55 = .ok (.aload_n 0, 1) := by decide +kernel
theorem dX6_choose_56 : decode cX6_choose 56 = .ok (.getfield 15, 3) := by decide +kernel
theorem dX6_choose_59 : decode cX6_choose 59 = .ok (.iload_n 2, 1) := by decide +kernel
theorem dX6_choose_60 : decode cX6_choose 60 = .ok (.bipush 8, 2) := by decide +kernel
theorem dX6_choose_62 : decode cX6_choose 62 = .ok (.imul, 1) := by decide +kernel
theorem dX6_choose_63 : decode cX6_choose 63 = .ok (.iload 6, 2) := by decide +kernel
theorem dX6_choose_65 : decode cX6_choose 65 = .ok (.iadd, 1) := by decide +kernel
theorem dX6_choose_66 : decode cX6_choose 66 = .ok (.iaload, 1) := by decide +kernel
theorem dX6_choose_67 : decode cX6_choose 67 = .ok (.iadd, 1) := by decide +kernel
theorem dX6_choose_68 : decode cX6_choose 68 = .ok (.aload_n 0, 1) := by decide +kernel
theorem dX6_choose_69 : decode cX6_choose 69 = .ok (.getfield 19, 3) := by decide +kernel
theorem dX6_choose_72 : decode cX6_choose 72 = .ok (.iload_n 3, 1) := by decide +kernel
theorem dX6_choose_73 : decode cX6_choose 73 = .ok (.iconst 1, 1) := by decide +kernel
theorem dX6_choose_74 : decode cX6_choose 74 = .ok (.iload 6, 2) := by decide +kernel
theorem dX6_choose_76 : decode cX6_choose 76 = .ok (.ishl, 1) := by decide +kernel
theorem dX6_choose_77 : decode cX6_choose 77 = .ok (.iconst (-1), 1) := by decide +kernel
theorem dX6_choose_78 : decode cX6_choose 78 = .ok (.ixor, 1) := by decide +kernel
theorem dX6_choose_79 : decode cX6_choose 79 = .ok (.iand, 1) := by decide +kernel
theorem dX6_choose_80 : decode cX6_choose 80 = .ok (.iaload, 1) := by decide +kernel
theorem dX6_choose_81 : decode cX6_choose 81 = .ok (.iadd, 1) := by decide +kernel
theorem dX6_choose_82 : decode cX6_choose 82 = .ok (.istore 7, 2) := by decide +kernel
theorem dX6_choose_84 : decode cX6_choose 84 = .ok (.iload 7, 2) := by decide +kernel
theorem dX6_choose_86 : decode cX6_choose 86 = .ok (.iload 4, 2) := by decide +kernel
theorem dX6_choose_88 : decode cX6_choose 88 = .ok (.if_icmp .le 11, 3) := by decide +kernel
theorem dX6_choose_91 : decode cX6_choose 91 = .ok (.iload 7, 2) := by decide +kernel
theorem dX6_choose_93 : decode cX6_choose 93 = .ok (.istore 4, 2) := by decide +kernel
theorem dX6_choose_95 : decode cX6_choose 95 = .ok (.iload 6, 2) := by decide +kernel
theorem dX6_choose_97 : decode cX6_choose 97 = .ok (.istore 5, 2) := by decide +kernel
theorem dX6_choose_99 : decode cX6_choose 99 = .ok (.iinc 6 1, 3) := by decide +kernel
theorem dX6_choose_102 : decode cX6_choose 102 = .ok (.goto (-77), 3) := by decide +kernel
theorem dX6_choose_105 : decode cX6_choose 105 = .ok (.aload_n 0, 1) := by decide +kernel
theorem dX6_choose_106 : decode cX6_choose 106 = .ok (.getfield 19, 3) := by decide +kernel
theorem dX6_choose_109 : decode cX6_choose 109 = .ok (.iload_n 3, 1) := by decide +kernel
theorem dX6_choose_110 : decode cX6_choose 110 = .ok (.iaload, 1) := by decide +kernel
theorem dX6_choose_111 : decode cX6_choose 111 = .ok (.iload 4, 2) := by decide +kernel
theorem dX6_choose_113 : decode cX6_choose 113 = .ok (.if_icmp .le 14, 3) := by decide +kernel
theorem dX6_choose_116 : decode cX6_choose 116 = .ok (.aload_n 0, 1) := by decide +kernel
theorem dX6_choose_117 : decode cX6_choose 117 = .ok (.getfield 19, 3) := by decide +kernel
theorem dX6_choose_120 : decode cX6_choose 120 = .ok (.iload_n 3, 1) := by decide +kernel
theorem dX6_choose_121 : decode cX6_choose 121 = .ok (.iaload, 1) := by decide +kernel
theorem dX6_choose_122 : decode cX6_choose 122 = .ok (.istore 4, 2) := by decide +kernel
theorem dX6_choose_124 : decode cX6_choose 124 = .ok (.iconst (-1), 1) := by decide +kernel
theorem dX6_choose_125 : decode cX6_choose 125 = .ok (.istore 5, 2) := by decide +kernel
theorem dX6_choose_127 : decode cX6_choose 127 = .ok (.aload_n 0, 1) := by decide +kernel
theorem dX6_choose_128 : decode cX6_choose 128 = .ok (.getfield 19, 3) := by decide +kernel
theorem dX6_choose_131 : decode cX6_choose 131 = .ok (.iload_n 1, 1) := by decide +kernel
theorem dX6_choose_132 : decode cX6_choose 132 = .ok (.iload 4, 2) := by decide +kernel
theorem dX6_choose_134 : decode cX6_choose 134 = .ok (.iastore, 1) := by decide +kernel
theorem dX6_choose_135 : decode cX6_choose 135 = .ok (.aload_n 0, 1) := by decide +kernel
theorem dX6_choose_136 : decode cX6_choose 136 = .ok (.getfield 22, 3) := by decide +kernel
theorem dX6_choose_139 : decode cX6_choose 139 = .ok (.iload_n 1, 1) := by decide +kernel
theorem dX6_choose_140 : decode cX6_choose 140 = .ok (.iload 5, 2) := by decide +kernel
theorem dX6_choose_142 : decode cX6_choose 142 = .ok (.iastore, 1) := by decide +kernel
theorem dX6_choose_143 : decode cX6_choose 143 = .ok (.return_, 1) := by decide +kernel
theorem dX6_follow_0 : decode cX6_follow 0 = .ok (.aload_n 0, 1) := by decide +kernel
theorem dX6_follow_1 : decode cX6_follow 1 = .ok (.invokevirtual 64, 3) := by decide +kernel
theorem dX6_follow_4 : decode cX6_follow 4 = .ok (.iload_n 1, 1) := by decide +kernel
theorem dX6_follow_5 : decode cX6_follow 5 = .ok (.istore_n 2, 1) := by decide +kernel
theorem dX6_follow_6 : decode cX6_follow 6 = .ok (.iconst 0, 1) := by decide +kernel
theorem dX6_follow_7 : decode cX6_follow 7 = .ok (.istore_n 3, 1) := by decide +kernel
theorem dX6_follow_8 : decode cX6_follow 8 = .ok (.iload_n 3, 1) := by decide +kernel
theorem dX6_follow_9 : decode cX6_follow 9 = .ok (.aload_n 0, 1) := by decide +kernel
theorem dX6_follow_10 : decode cX6_follow 10 = .ok (.getfield 40, 3) := by decide +kernel
theorem dX6_follow_13 : decode cX6_follow 13 = .ok (.if_icmp .ge 73, 3) := by decide +kernel
theorem dX6_follow_16 : decode cX6_follow 16 = .ok (.iload_n 2, 1) := by decide +kernel
theorem dX6_follow_17 : decode cX6_follow 17 = .ok (.iconst 1, 1) := by decide +kernel
theorem dX6_follow_18 : decode cX6_follow 18 = .ok (.iload_n 3, 1) := by decide +kernel
theorem dX6_follow_19 : decode cX6_follow 19 = .ok (.ishl, 1) := by decide +kernel
theorem dX6_follow_20 : decode cX6_follow 20 = .ok (.iand, 1) := by decide +kernel
theorem dX6_follow_21 : decode cX6_follow 21 = .ok (.ifCond .eq 59, 3) := by decide +kernel
theorem dX6_follow_24 : decode cX6_follow 24 = .ok (.aload_n 0, 1) := by decide +kernel
theorem dX6_follow_25 : decode cX6_follow 25 = .ok (.getfield 22, 3) := by decide +kernel
theorem dX6_follow_28 : decode cX6_follow 28 = .ok (.iload_n 2, 1) := by decide +kernel
theorem dX6_follow_29 : decode cX6_follow 29 = .ok (.iaload, 1) := by decide +kernel
theorem dX6_follow_30 : decode cX6_follow 30 = .ok (.istore 4, 2) := by decide +kernel
theorem dX6_follow_32 : decode cX6_follow 32 = .ok (.iload_n 2, 1) := by decide +kernel
theorem dX6_follow_33 : decode cX6_follow 33 = .ok (.iconst 1, 1) := by decide +kernel
theorem dX6_follow_34 : decode cX6_follow 34 = .ok (.iload_n 3, 1) := by decide +kernel
theorem dX6_follow_35 : decode cX6_follow 35 = .ok (.ishl, 1) := by decide +kernel
theorem dX6_follow_36 : decode cX6_follow 36 = .ok (.iconst (-1), 1) := by decide +kernel
theorem dX6_follow_37 : decode cX6_follow 37 = .ok (.ixor, 1) := by decide +kernel
theorem dX6_follow_38 : decode cX6_follow 38 = .ok (.iand, 1) := by decide +kernel
theorem dX6_follow_39 : decode cX6_follow 39 = .ok (.istore_n 2, 1) := by decide +kernel
theorem dX6_follow_40 : decode cX6_follow 40 = .ok (.iload 4, 2) := by decide +kernel
theorem dX6_follow_42 : decode cX6_follow 42 = .ok (.iload_n 3, 1) := by decide +kernel
theorem dX6_follow_43 : decode cX6_follow 43 = .ok (.if_icmp .le 37, 3) := by decide +kernel
theorem dX6_follow_46 : decode cX6_follow 46 = .ok (.iload 4, 2) := by decide +kernel
theorem dX6_follow_48 : decode cX6_follow 48 = .ok (.aload_n 0, 1) := by decide +kernel
theorem dX6_follow_49 : decode cX6_follow 49 = .ok (.getfield 40, 3) := by decide +kernel
theorem dX6_follow_52 : decode cX6_follow 52 = .ok (.if_icmp .ge 28, 3) := by decide +kernel
theorem dX6_follow_55 : decode cX6_follow 55 = .ok (.iload_n 2, 1) := by decide +kernel
theorem dX6_follow_56 : decode cX6_follow 56 = .ok (.iconst 1, 1) := by decide +kernel
theorem dX6_follow_57 : decode cX6_follow 57 = .ok (.iload 4, 2) := by decide +kernel
theorem dX6_follow_59 : decode cX6_follow 59 = .ok (.ishl, 1) := by decide +kernel
theorem dX6_follow_60 : decode cX6_follow 60 = .ok (.iconst (-1), 1) := by decide +kernel
theorem dX6_follow_61 : decode cX6_follow 61 = .ok (.ixor, 1) := by decide +kernel
theorem dX6_follow_62 : decode cX6_follow 62 = .ok (.iand, 1) := by decide +kernel
theorem dX6_follow_63 : decode cX6_follow 63 = .ok (.istore_n 2, 1) := by decide +kernel
theorem dX6_follow_64 : decode cX6_follow 64 = .ok (.aload_n 0, 1) := by decide +kernel
theorem dX6_follow_65 : decode cX6_follow 65 = .ok (.getfield 25, 3) := by decide +kernel
theorem dX6_follow_68 : decode cX6_follow 68 = .ok (.iload_n 3, 1) := by decide +kernel
theorem dX6_follow_69 : decode cX6_follow 69 = .ok (.iload 4, 2) := by decide +kernel
theorem dX6_follow_71 : decode cX6_follow 71 = .ok (.iastore, 1) := by decide +kernel
theorem dX6_follow_72 : decode cX6_follow 72 = .ok (.aload_n 0, 1) := by decide +kernel
theorem dX6_follow_73 : decode cX6_follow 73 = .ok (.getfield 25, 3) := by decide +kernel
theorem dX6_follow_76 : decode cX6_follow 76 = .ok (.iload 4, 2) := by decide +kernel
theorem dX6_follow_78 : decode cX6_follow 78 = .ok (.iload_n 3, 1) := by decide +kernel
theorem dX6_follow_79 : decode cX6_follow 79 = .ok (.iastore, 1) := by decide +kernel
theorem dX6_follow_80 : decode cX6_follow 80 = .ok (.iinc 3 1, 3) := by decide +kernel
theorem dX6_follow_83 : decode cX6_follow 83 = .ok (.goto (-75), 3) := by decide +kernel
theorem dX6_follow_86 : decode cX6_follow 86 = .ok (.return_, 1) := by decide +kernel
theorem dX6_joins_0 : decode cX6_joins 0 = .ok (.aload_n 0, 1) := by decide +kernel
theorem dX6_joins_1 : decode cX6_joins 1 = .ok (.iload_n 1, 1) := by decide +kernel
theorem dX6_joins_2 : decode cX6_joins 2 = .ok (.invokevirtual 67, 3) := by decide +kernel
theorem dX6_joins_5 : decode cX6_joins 5 = .ok (.aload_n 0, 1) := by decide +kernel
theorem dX6_joins_6 : decode cX6_joins 6 = .ok (.getfield 25, 3) := by decide +kernel
theorem dX6_joins_9 : decode cX6_joins 9 = .ok (.iload_n 2, 1) := by decide +kernel
theorem dX6_joins_10 : decode cX6_joins 10 = .ok (.iaload, 1) := by decide +kernel
theorem dX6_joins_11 : decode cX6_joins 11 = .ok (.iload_n 3, 1) := by decide +kernel
theorem dX6_joins_12 : decode cX6_joins 12 = .ok (.if_icmp .ne 7, 3) := by decide +kernel
theorem dX6_joins_15 : decode cX6_joins 15 = .ok (.iconst 1, 1) := by decide +kernel
theorem dX6_joins_16 : decode cX6_joins 16 = .ok (.goto 4, 3) := by decide +kernel
theorem dX6_joins_19 : decode cX6_joins 19 = .ok (.iconst 0, 1) := by decide +kernel
theorem dX6_joins_20 : decode cX6_joins 20 = .ok (.ireturn, 1) := by decide +kernel
theorem dX6_leaveAlone_0 : decode cX6_leaveAlone 0 = .ok (.iconst 0, 1) := by decide +kernel
theorem dX6_leaveAlone_1 : decode cX6_leaveAlone 1 = .ok (.istore_n 1, 1) := by decide +kernel
theorem dX6_leaveAlone_2 : decode cX6_leaveAlone 2 = .ok (.iload_n 1, 1) := by decide +kernel
theorem dX6_leaveAlone_3 : decode cX6_leaveAlone 3 = .ok (.bipush 8, 2) := by decide +kernel
theorem dX6_leaveAlone_5 : decode cX6_leaveAlone 5 = .ok (.if_icmp .ge 16, 3) := by decide +kernel
theorem dX6_leaveAlone_8 : decode cX6_leaveAlone 8 = .ok (.aload_n 0, 1) := by decide +kernel
theorem dX6_leaveAlone_9 : decode cX6_leaveAlone 9 = .ok (.getfield 25, 3) := by decide +kernel
theorem dX6_leaveAlone_12 : decode cX6_leaveAlone 12 = .ok (.iload_n 1, 1) := by decide +kernel
theorem dX6_leaveAlone_13 : decode cX6_leaveAlone 13 = .ok (.iconst (-1), 1) := by decide +kernel
theorem dX6_leaveAlone_14 : decode cX6_leaveAlone 14 = .ok (.iastore, 1) := by decide +kernel
theorem dX6_leaveAlone_15 : decode cX6_leaveAlone 15 = .ok (.iinc 1 1, 3) := by decide +kernel
theorem dX6_leaveAlone_18 : decode cX6_leaveAlone 18 = .ok (.goto (-16), 3) := by decide +kernel
theorem dX6_leaveAlone_21 : decode cX6_leaveAlone 21 = .ok (.return_, 1) := by decide +kernel
theorem dX6_seat_0 : decode cX6_seat 0 = .ok (.aload_n 0, 1) := by decide +kernel
theorem dX6_seat_1 : decode cX6_seat 1 = .ok (.invokevirtual 64, 3) := by decide +kernel
theorem dX6_seat_4 : decode cX6_seat 4 = .ok (.iconst 0, 1) := by decide +kernel
theorem dX6_seat_5 : decode cX6_seat 5 = .ok (.istore_n 2, 1) := by decide +kernel
theorem dX6_seat_6 : decode cX6_seat 6 = .ok (.iload_n 2, 1) := by decide +kernel
theorem dX6_seat_7 : decode cX6_seat 7 = .ok (.aload_n 0, 1) := by decide +kernel
theorem dX6_seat_8 : decode cX6_seat 8 = .ok (.getfield 40, 3) := by decide +kernel
theorem dX6_seat_11 : decode cX6_seat 11 = .ok (.if_icmp .ge 24, 3) := by decide +kernel
theorem dX6_seat_14 : decode cX6_seat 14 = .ok (.iload_n 2, 1) := by decide +kernel
theorem dX6_seat_15 : decode cX6_seat 15 = .ok (.aload_n 1, 1) := by decide +kernel
theorem dX6_seat_16 : decode cX6_seat 16 = .ok (.arraylength, 1) := by decide +kernel
theorem dX6_seat_17 : decode cX6_seat 17 = .ok (.if_icmp .ge 18, 3) := by decide +kernel
theorem dX6_seat_20 : decode cX6_seat 20 = .ok (.aload_n 0, 1) := by decide +kernel
theorem dX6_seat_21 : decode cX6_seat 21 = .ok (.getfield 25, 3) := by decide +kernel
theorem dX6_seat_24 : decode cX6_seat 24 = .ok (.iload_n 2, 1) := by decide +kernel
theorem dX6_seat_25 : decode cX6_seat 25 = .ok (.aload_n 1, 1) := by decide +kernel
theorem dX6_seat_26 : decode cX6_seat 26 = .ok (.iload_n 2, 1) := by decide +kernel
theorem dX6_seat_27 : decode cX6_seat 27 = .ok (.iaload, 1) := by decide +kernel
theorem dX6_seat_28 : decode cX6_seat 28 = .ok (.iastore, 1) := by decide +kernel
theorem dX6_seat_29 : decode cX6_seat 29 = .ok (.iinc 2 1, 3) := by decide +kernel
theorem dX6_seat_32 : decode cX6_seat 32 = .ok (.goto (-26), 3) := by decide +kernel
theorem dX6_seat_35 : decode cX6_seat 35 = .ok (.return_, 1) := by decide +kernel
theorem dX6_tally_0 : decode cX6_tally 0 = .ok (.iload_n 2, 1) := by decide +kernel
theorem dX6_tally_1 : decode cX6_tally 1 = .ok (.ifCond .ne 5, 3) := by decide +kernel
theorem dX6_tally_4 : decode cX6_tally 4 = .ok (.iconst 1, 1) := by decide +kernel
theorem dX6_tally_5 : decode cX6_tally 5 = .ok (.ireturn, 1) := by decide +kernel
theorem dX6_tally_6 : decode cX6_tally 6 = .ok (.iload_n 1, 1) := by decide +kernel
theorem dX6_tally_7 : decode cX6_tally 7 = .ok (.ifCond .ne 5, 3) := by decide +kernel
theorem dX6_tally_10 : decode cX6_tally 10 = .ok (.iconst 0, 1) := by decide +kernel
theorem dX6_tally_11 : decode cX6_tally 11 = .ok (.ireturn, 1) := by decide +kernel
theorem dX6_tally_12 : decode cX6_tally 12 = .ok (.iload_n 1, 1) := by decide +kernel
theorem dX6_tally_13 : decode cX6_tally 13 = .ok (.invokestatic 53, 3) := by decide +kernel
theorem dX6_tally_16 : decode cX6_tally 16 = .ok (.istore_n 3, 1) := by decide +kernel
theorem dX6_tally_17 : decode cX6_tally 17 = .ok (.iload_n 1, 1) := by decide +kernel
theorem dX6_tally_18 : decode cX6_tally 18 = .ok (.iconst 1, 1) := by decide +kernel
theorem dX6_tally_19 : decode cX6_tally 19 = .ok (.iload_n 3, 1) := by decide +kernel
theorem dX6_tally_20 : decode cX6_tally 20 = .ok (.ishl, 1) := by decide +kernel
theorem dX6_tally_21 : decode cX6_tally 21 = .ok (.iconst (-1), 1) := by decide +kernel
theorem dX6_tally_22 : decode cX6_tally 22 = .ok (.ixor, 1) := by decide +kernel
theorem dX6_tally_23 : decode cX6_tally 23 = .ok (.iand, 1) := by decide +kernel
theorem dX6_tally_24 : decode cX6_tally 24 = .ok (.istore 4, 2) := by decide +kernel
theorem dX6_tally_26 : decode cX6_tally 26 = .ok (.aload_n 0, 1) := by decide +kernel
theorem dX6_tally_27 : decode cX6_tally 27 = .ok (.iload 4, 2) := by decide +kernel
theorem dX6_tally_29 : decode cX6_tally 29 = .ok (.iload_n 2, 1) := by decide +kernel
theorem dX6_tally_30 : decode cX6_tally 30 = .ok (.invokevirtual 70, 3) := by decide +kernel
theorem dX6_tally_33 : decode cX6_tally 33 = .ok (.istore 5, 2) := by decide +kernel
theorem dX6_tally_35 : decode cX6_tally 35 = .ok (.iload_n 3, 1) := by decide +kernel
theorem dX6_tally_36 : decode cX6_tally 36 = .ok (.iconst 1, 1) := by decide +kernel
theorem dX6_tally_37 : decode cX6_tally 37 = .ok (.iadd, 1) := by decide +kernel
theorem dX6_tally_38 : decode cX6_tally 38 = .ok (.istore 6, 2) := by decide +kernel
theorem dX6_tally_40 : decode cX6_tally 40 = .ok (.iload 6, 2) := by decide +kernel
theorem dX6_tally_42 : decode cX6_tally 42 = .ok (.aload_n 0, 1) := by decide +kernel
theorem dX6_tally_43 : decode cX6_tally 43 = .ok (.getfield 40, 3) := by decide +kernel
theorem dX6_tally_46 : decode cX6_tally 46 = .ok (.if_icmp .ge 50, 3) := by decide +kernel
theorem dX6_tally_49 : decode cX6_tally 49 = .ok (.iload 4, 2) := by decide +kernel
theorem dX6_tally_51 : decode cX6_tally 51 = .ok (.iconst 1, 1) := by decide +kernel
theorem dX6_tally_52 : decode cX6_tally 52 = .ok (.iload 6, 2) := by decide +kernel
theorem dX6_tally_54 : decode cX6_tally 54 = .ok (.ishl, 1) := by decide +kernel
theorem dX6_tally_55 : decode cX6_tally 55 = .ok (.iand, 1) := by decide +kernel
theorem dX6_tally_56 : decode cX6_tally 56 = .ok (.ifCond .eq 34, 3) := by decide +kernel
theorem dX6_tally_59 : decode cX6_tally 59 = .ok (.aload_n 0, 1) := by decide +kernel
theorem dX6_tally_60 : decode cX6_tally 60 = .ok (.iload_n 3, 1) := by decide +kernel
theorem dX6_tally_61 : decode cX6_tally 61 = .ok (.iload 6, 2) := by decide +kernel
theorem dX6_tally_63 : decode cX6_tally 63 = .ok (.invokevirtual 60, 3) := by decide +kernel
theorem dX6_tally_66 : decode cX6_tally 66 = .ok (.ifCond .eq 24, 3) := by decide +kernel
theorem dX6_tally_69 : decode cX6_tally 69 = .ok (.iload 5, 2) := by decide +kernel
theorem dX6_tally_71 : decode cX6_tally 71 = .ok (.aload_n 0, 1) := by decide +kernel
theorem dX6_tally_72 : decode cX6_tally 72 = .ok (.iload 4, 2) := by decide +kernel
theorem dX6_tally_74 : decode cX6_tally 74 = .ok (.iconst 1, 1) := by decide +kernel
theorem dX6_tally_75 : decode cX6_tally 75 = .ok (.iload 6, 2) := by decide +kernel
theorem dX6_tally_77 : decode cX6_tally 77 = .ok (.ishl, 1) := by decide +kernel
theorem dX6_tally_78 : decode cX6_tally 78 = .ok (.iconst (-1), 1) := by decide +kernel
theorem dX6_tally_79 : decode cX6_tally 79 = .ok (.ixor, 1) := by decide +kernel
theorem dX6_tally_80 : decode cX6_tally 80 = .ok (.iand, 1) := by decide +kernel
theorem dX6_tally_81 : decode cX6_tally 81 = .ok (.iload_n 2, 1) := by decide +kernel
theorem dX6_tally_82 : decode cX6_tally 82 = .ok (.iconst 1, 1) := by decide +kernel
theorem dX6_tally_83 : decode cX6_tally 83 = .ok (.isub, 1) := by decide +kernel
theorem dX6_tally_84 : decode cX6_tally 84 = .ok (.invokevirtual 70, 3) := by decide +kernel
theorem dX6_tally_87 : decode cX6_tally 87 = .ok (.iadd, 1) := by decide +kernel
theorem dX6_tally_88 : decode cX6_tally 88 = .ok (.istore 5, 2) := by decide +kernel
theorem dX6_tally_90 : decode cX6_tally 90 = .ok (.iinc 6 1, 3) := by decide +kernel
theorem dX6_tally_93 : decode cX6_tally 93 = .ok (.goto (-53), 3) := by decide +kernel
theorem dX6_tally_96 : decode cX6_tally 96 = .ok (.iload 5, 2) := by decide +kernel
theorem dX6_tally_98 : decode cX6_tally 98 = .ok (.ireturn, 1) := by decide +kernel
theorem dX6_settle_0 : decode cX6_settle 0 = .ok (.iload_n 1, 1) := by decide +kernel
theorem dX6_settle_1 : decode cX6_settle 1 = .ok (.aload_n 0, 1) := by decide +kernel
theorem dX6_settle_2 : decode cX6_settle 2 = .ok (.getfield 40, 3) := by decide +kernel
theorem dX6_settle_5 : decode cX6_settle 5 = .ok (.if_icmp .lt 17, 3) := by decide +kernel
theorem dX6_settle_8 : decode cX6_settle 8 = .ok (.aload_n 0, 1) := by decide +kernel
theorem dX6_settle_9 : decode cX6_settle 9 = .ok (.invokevirtual 73, 3) := by decide +kernel
theorem dX6_settle_12 : decode cX6_settle 12 = .ok (.iconst (-1), 1) := by decide +kernel
theorem dX6_settle_13 : decode cX6_settle 13 = .ok (.if_icmp .ne 7, 3) := by decide +kernel
theorem dX6_settle_16 : decode cX6_settle 16 = .ok (.iconst 1, 1) := by decide +kernel
theorem dX6_settle_17 : decode cX6_settle 17 = .ok (.goto 4, 3) := by decide +kernel
theorem dX6_settle_20 : decode cX6_settle 20 = .ok (.iconst 0, 1) := by decide +kernel
theorem dX6_settle_21 : decode cX6_settle 21 = .ok (.ireturn, 1) := by decide +kernel
theorem dX6_settle_22 : decode cX6_settle 22 = .ok (.aload_n 0, 1) := by decide +kernel
theorem dX6_settle_23 : decode cX6_settle 23 = .ok (.getfield 25, 3) := by decide +kernel
theorem dX6_settle_26 : decode cX6_settle 26 = .ok (.iload_n 1, 1) := by decide +kernel
theorem dX6_settle_27 : decode cX6_settle 27 = .ok (.iaload, 1) := by decide +kernel
theorem dX6_settle_28 : decode cX6_settle 28 = .ok (.iconst (-1), 1) := by decide +kernel
theorem dX6_settle_29 : decode cX6_settle 29 = .ok (.if_icmp .eq 11, 3) := by decide +kernel
theorem dX6_settle_32 : decode cX6_settle 32 = .ok (.aload_n 0, 1) := by decide +kernel
theorem dX6_settle_33 : decode cX6_settle 33 = .ok (.iload_n 1, 1) := by decide +kernel
theorem dX6_settle_34 : decode cX6_settle 34 = .ok (.iconst 1, 1) := by decide +kernel
theorem dX6_settle_35 : decode cX6_settle 35 = .ok (.iadd, 1) := by decide +kernel
theorem dX6_settle_36 : decode cX6_settle 36 = .ok (.invokevirtual 77, 3) := by decide +kernel
theorem dX6_settle_39 : decode cX6_settle 39 = .ok (.ireturn, 1) := by decide +kernel
theorem dX6_settle_40 : decode cX6_settle 40 = .ok (.iload_n 1, 1) := by decide +kernel
theorem dX6_settle_41 : decode cX6_settle 41 = .ok (.iconst 1, 1) := by decide +kernel
theorem dX6_settle_42 : decode cX6_settle 42 = .ok (.iadd, 1) := by decide +kernel
theorem dX6_settle_43 : decode cX6_settle 43 = .ok (.istore_n 2, 1) := by decide +kernel
theorem dX6_settle_44 : decode cX6_settle 44 = .ok (.iload_n 2, 1) := by decide +kernel
theorem dX6_settle_45 : decode cX6_settle 45 = .ok (.aload_n 0, 1) := by decide +kernel
theorem dX6_settle_46 : decode cX6_settle 46 = .ok (.getfield 40, 3) := by decide +kernel
theorem dX6_settle_49 : decode cX6_settle 49 = .ok (.if_icmp .ge 68, 3) := by decide +kernel
theorem dX6_settle_52 : decode cX6_settle 52 = .ok (.aload_n 0, 1) := by decide +kernel
theorem dX6_settle_53 : decode cX6_settle 53 = .ok (.getfield 25, 3) := by decide +kernel
theorem dX6_settle_56 : decode cX6_settle 56 = .ok (.iload_n 2, 1) := by decide +kernel
theorem dX6_settle_57 : decode cX6_settle 57 = .ok (.iaload, 1) := by decide +kernel
theorem dX6_settle_58 : decode cX6_settle 58 = .ok (.iconst (-1), 1) := by decide +kernel
theorem dX6_settle_59 : decode cX6_settle 59 = .ok (.if_icmp .ne 52, 3) := by decide +kernel
theorem dX6_settle_62 : decode cX6_settle 62 = .ok (.aload_n 0, 1) := by decide +kernel
theorem dX6_settle_63 : decode cX6_settle 63 = .ok (.iload_n 1, 1) := by decide +kernel
theorem dX6_settle_64 : decode cX6_settle 64 = .ok (.iload_n 2, 1) := by decide +kernel
theorem dX6_settle_65 : decode cX6_settle 65 = .ok (.invokevirtual 60, 3) := by decide +kernel
theorem dX6_settle_68 : decode cX6_settle 68 = .ok (.ifCond .eq 43, 3) := by decide +kernel
theorem dX6_settle_71 : decode cX6_settle 71 = .ok (.aload_n 0, 1) := by decide +kernel
theorem dX6_settle_72 : decode cX6_settle 72 = .ok (.getfield 25, 3) := by decide +kernel
theorem dX6_settle_75 : decode cX6_settle 75 = .ok (.iload_n 1, 1) := by decide +kernel
theorem dX6_settle_76 : decode cX6_settle 76 = .ok (.iload_n 2, 1) := by decide +kernel
theorem dX6_settle_77 : decode cX6_settle 77 = .ok (.iastore, 1) := by decide +kernel
theorem dX6_settle_78 : decode cX6_settle 78 = .ok (.aload_n 0, 1) := by decide +kernel
theorem dX6_settle_79 : decode cX6_settle 79 = .ok (.getfield 25, 3) := by decide +kernel
theorem dX6_settle_82 : decode cX6_settle 82 = .ok (.iload_n 2, 1) := by decide +kernel
theorem dX6_settle_83 : decode cX6_settle 83 = .ok (.iload_n 1, 1) := by decide +kernel
theorem dX6_settle_84 : decode cX6_settle 84 = .ok (.iastore, 1) := by decide +kernel
theorem dX6_settle_85 : decode cX6_settle 85 = .ok (.aload_n 0, 1) := by decide +kernel
theorem dX6_settle_86 : decode cX6_settle 86 = .ok (.iload_n 1, 1) := by decide +kernel
theorem dX6_settle_87 : decode cX6_settle 87 = .ok (.iconst 1, 1) := by decide +kernel
theorem dX6_settle_88 : decode cX6_settle 88 = .ok (.iadd, 1) := by decide +kernel
theorem dX6_settle_89 : decode cX6_settle 89 = .ok (.invokevirtual 77, 3) := by decide +kernel
theorem dX6_settle_92 : decode cX6_settle 92 = .ok (.ifCond .eq 5, 3) := by decide +kernel
theorem dX6_settle_95 : decode cX6_settle 95 = .ok (.iconst 1, 1) := by decide +kernel
theorem dX6_settle_96 : decode cX6_settle 96 = .ok (.ireturn, 1) := by decide +kernel
theorem dX6_settle_97 : decode cX6_settle 97 = .ok (.aload_n 0, 1) := by decide +kernel
theorem dX6_settle_98 : decode cX6_settle 98 = .ok (.getfield 25, 3) := by decide +kernel
theorem dX6_settle_101 : decode cX6_settle 101 = .ok (.iload_n 1, 1) := by decide +kernel
theorem dX6_settle_102 : decode cX6_settle 102 = .ok (.iconst (-1), 1) := by decide +kernel
theorem dX6_settle_103 : decode cX6_settle 103 = .ok (.iastore, 1) := by decide +kernel
theorem dX6_settle_104 : decode cX6_settle 104 = .ok (.aload_n 0, 1) := by decide +kernel
theorem dX6_settle_105 : decode cX6_settle 105 = .ok (.getfield 25, 3) := by decide +kernel
theorem dX6_settle_108 : decode cX6_settle 108 = .ok (.iload_n 2, 1) := by decide +kernel
theorem dX6_settle_109 : decode cX6_settle 109 = .ok (.iconst (-1), 1) := by decide +kernel
theorem dX6_settle_110 : decode cX6_settle 110 = .ok (.iastore, 1) := by decide +kernel
theorem dX6_settle_111 : decode cX6_settle 111 = .ok (.iinc 2 1, 3) := by decide +kernel
theorem dX6_settle_114 : decode cX6_settle 114 = .ok (.goto (-70), 3) := by decide +kernel
theorem dX6_settle_117 : decode cX6_settle 117 = .ok (.aload_n 0, 1) := by decide +kernel
theorem dX6_settle_118 : decode cX6_settle 118 = .ok (.iload_n 1, 1) := by decide +kernel
theorem dX6_settle_119 : decode cX6_settle 119 = .ok (.iconst 1, 1) := by decide +kernel
theorem dX6_settle_120 : decode cX6_settle 120 = .ok (.iadd, 1) := by decide +kernel
theorem dX6_settle_121 : decode cX6_settle 121 = .ok (.invokevirtual 77, 3) := by decide +kernel
theorem dX6_settle_124 : decode cX6_settle 124 = .ok (.ireturn, 1) := by decide +kernel
theorem dX6_firstBreak_0 : decode cX6_firstBreak 0 = .ok (.iconst 0, 1) := by decide +kernel
theorem dX6_firstBreak_1 : decode cX6_firstBreak 1 = .ok (.istore_n 1, 1) := by decide +kernel
theorem dX6_firstBreak_2 : decode cX6_firstBreak 2 = .ok (.iload_n 1, 1) := by decide +kernel
theorem dX6_firstBreak_3 : decode cX6_firstBreak 3 = .ok (.aload_n 0, 1) := by decide +kernel
theorem dX6_firstBreak_4 : decode cX6_firstBreak 4 = .ok (.getfield 40, 3) := by decide +kernel
theorem dX6_firstBreak_7 : decode cX6_firstBreak 7 = .ok (.if_icmp .ge 73, 3) := by decide +kernel
theorem dX6_firstBreak_10 : decode cX6_firstBreak 10 = .ok (.iload_n 1, 1) := by decide +kernel
theorem dX6_firstBreak_11 : decode cX6_firstBreak 11 = .ok (.iconst 1, 1) := by decide +kernel
theorem dX6_firstBreak_12 : decode cX6_firstBreak 12 = .ok (.iadd, 1) := by decide +kernel
theorem dX6_firstBreak_13 : decode cX6_firstBreak 13 = .ok (.istore_n 2, 1) := by decide +kernel
theorem dX6_firstBreak_14 : decode cX6_firstBreak 14 = .ok (.iload_n 2, 1) := by decide +kernel
theorem dX6_firstBreak_15 : decode cX6_firstBreak 15 = .ok (.aload_n 0, 1) := by decide +kernel
theorem dX6_firstBreak_16 : decode cX6_firstBreak 16 = .ok (.getfield 40, 3) := by decide +kernel
theorem dX6_firstBreak_19 : decode cX6_firstBreak 19 = .ok (.if_icmp .ge 55, 3) := by decide +kernel
theorem dX6_firstBreak_22 : decode cX6_firstBreak 22 = .ok (.aload_n 0, 1) := by decide +kernel
theorem dX6_firstBreak_23 : decode cX6_firstBreak 23 = .ok (.getfield 15, 3) := by decide +kernel
theorem dX6_firstBreak_26 : decode cX6_firstBreak 26 = .ok (.iload_n 1, 1) := by decide +kernel
theorem dX6_firstBreak_27 : decode cX6_firstBreak 27 = .ok (.bipush 8, 2) := by decide +kernel
theorem dX6_firstBreak_29 : decode cX6_firstBreak 29 = .ok (.imul, 1) := by decide +kernel
theorem dX6_firstBreak_30 : decode cX6_firstBreak 30 = .ok (.iload_n 2, 1) := by decide +kernel
theorem dX6_firstBreak_31 : decode cX6_firstBreak 31 = .ok (.iadd, 1) := by decide +kernel
theorem dX6_firstBreak_32 : decode cX6_firstBreak 32 = .ok (.iaload, 1) := by decide +kernel
theorem dX6_firstBreak_33 : decode cX6_firstBreak 33 = .ok (.istore_n 3, 1) := by decide +kernel
theorem dX6_firstBreak_34 : decode cX6_firstBreak 34 = .ok (.aload_n 0, 1) := by decide +kernel
theorem dX6_firstBreak_35 : decode cX6_firstBreak 35 = .ok (.iload_n 1, 1) := by decide +kernel
theorem dX6_firstBreak_36 : decode cX6_firstBreak 36 = .ok (.iload_n 2, 1) := by decide +kernel
theorem dX6_firstBreak_37 : decode cX6_firstBreak 37 = .ok (.invokevirtual 60, 3) := by decide +kernel
theorem dX6_firstBreak_40 : decode cX6_firstBreak 40 = .ok (.ifCond .eq 28, 3) := by decide +kernel
theorem dX6_firstBreak_43 : decode cX6_firstBreak 43 = .ok (.iload_n 3, 1) := by decide +kernel
theorem dX6_firstBreak_44 : decode cX6_firstBreak 44 = .ok (.aload_n 0, 1) := by decide +kernel
theorem dX6_firstBreak_45 : decode cX6_firstBreak 45 = .ok (.iload_n 1, 1) := by decide +kernel
theorem dX6_firstBreak_46 : decode cX6_firstBreak 46 = .ok (.invokevirtual 81, 3) := by decide +kernel
theorem dX6_firstBreak_49 : decode cX6_firstBreak 49 = .ok (.if_icmp .le 19, 3) := by decide +kernel
theorem dX6_firstBreak_52 : decode cX6_firstBreak 52 = .ok (.iload_n 3, 1) := by decide +kernel
theorem dX6_firstBreak_53 : decode cX6_firstBreak 53 = .ok (.aload_n 0, 1) := by decide +kernel
theorem dX6_firstBreak_54 : decode cX6_firstBreak 54 = .ok (.iload_n 2, 1) := by decide +kernel
theorem dX6_firstBreak_55 : decode cX6_firstBreak 55 = .ok (.invokevirtual 81, 3) := by decide +kernel
theorem dX6_firstBreak_58 : decode cX6_firstBreak 58 = .ok (.if_icmp .le 10, 3) := by decide +kernel
theorem dX6_firstBreak_61 : decode cX6_firstBreak 61 = .ok (.bipush 10, 2) := by decide +kernel
theorem dX6_firstBreak_63 : decode cX6_firstBreak 63 = .ok (.iload_n 1, 1) := by decide +kernel
theorem dX6_firstBreak_64 : decode cX6_firstBreak 64 = .ok (.imul, 1) := by decide +kernel
theorem dX6_firstBreak_65 : decode cX6_firstBreak 65 = .ok (.iload_n 2, 1) := by decide +kernel
theorem dX6_firstBreak_66 : decode cX6_firstBreak 66 = .ok (.iadd, 1) := by decide +kernel
theorem dX6_firstBreak_67 : decode cX6_firstBreak 67 = .ok (.ireturn, 1) := by decide +kernel
theorem dX6_firstBreak_68 : decode cX6_firstBreak 68 = .ok (.iinc 2 1, 3) := by decide +kernel
theorem dX6_firstBreak_71 : decode cX6_firstBreak 71 = .ok (.goto (-57), 3) := by decide +kernel
theorem dX6_firstBreak_74 : decode cX6_firstBreak 74 = .ok (.iinc 1 1, 3) := by decide +kernel
theorem dX6_firstBreak_77 : decode cX6_firstBreak 77 = .ok (.goto (-75), 3) := by decide +kernel
theorem dX6_firstBreak_80 : decode cX6_firstBreak 80 = .ok (.iconst (-1), 1) := by decide +kernel
theorem dX6_firstBreak_81 : decode cX6_firstBreak 81 = .ok (.ireturn, 1) := by decide +kernel
theorem dX6_goodNow_0 : decode cX6_goodNow 0 = .ok (.aload_n 0, 1) := by decide +kernel
theorem dX6_goodNow_1 : decode cX6_goodNow 1 = .ok (.getfield 25, 3) := by decide +kernel
theorem dX6_goodNow_4 : decode cX6_goodNow 4 = .ok (.iload_n 1, 1) := by decide +kernel
theorem dX6_goodNow_5 : decode cX6_goodNow 5 = .ok (.iaload, 1) := by decide +kernel
theorem dX6_goodNow_6 : decode cX6_goodNow 6 = .ok (.istore_n 2, 1) := by decide +kernel
theorem dX6_goodNow_7 : decode cX6_goodNow 7 = .ok (.iload_n 2, 1) := by decide +kernel
theorem dX6_goodNow_8 : decode cX6_goodNow 8 = .ok (.ifCond .lt 11, 3) := by decide +kernel
theorem dX6_goodNow_11 : decode cX6_goodNow 11 = .ok (.iload_n 2, 1) := by decide +kernel
theorem dX6_goodNow_12 : decode cX6_goodNow 12 = .ok (.aload_n 0, 1) := by decide +kernel
theorem dX6_goodNow_13 : decode cX6_goodNow 13 = .ok (.getfield 40, 3) := by decide +kernel
theorem dX6_goodNow_16 : decode cX6_goodNow 16 = .ok (.if_icmp .lt 8, 3) := by decide +kernel
theorem dX6_goodNow_19 : decode cX6_goodNow 19 = .ok (.ldc 59, 2) := by decide +kernel
theorem dX6_goodNow_21 : decode cX6_goodNow 21 = .ok (.goto 14, 3) := by decide +kernel
theorem dX6_goodNow_24 : decode cX6_goodNow 24 = .ok (.aload_n 0, 1) := by decide +kernel
theorem dX6_goodNow_25 : decode cX6_goodNow 25 = .ok (.getfield 15, 3) := by decide +kernel
theorem dX6_goodNow_28 : decode cX6_goodNow 28 = .ok (.iload_n 1, 1) := by decide +kernel
theorem dX6_goodNow_29 : decode cX6_goodNow 29 = .ok (.bipush 8, 2) := by decide +kernel
theorem dX6_goodNow_31 : decode cX6_goodNow 31 = .ok (.imul, 1) := by decide +kernel
theorem dX6_goodNow_32 : decode cX6_goodNow 32 = .ok (.iload_n 2, 1) := by decide +kernel
theorem dX6_goodNow_33 : decode cX6_goodNow 33 = .ok (.iadd, 1) := by decide +kernel
theorem dX6_goodNow_34 : decode cX6_goodNow 34 = .ok (.iaload, 1) := by decide +kernel
theorem dX6_goodNow_35 : decode cX6_goodNow 35 = .ok (.ireturn, 1) := by decide +kernel
theorem dX6_answer_0 : decode cX6_answer 0 = .ok (.iconst 0, 1) := by decide +kernel
theorem dX6_answer_1 : decode cX6_answer 1 = .ok (.istore_n 2, 1) := by decide +kernel
theorem dX6_answer_2 : decode cX6_answer 2 = .ok (.iconst 0, 1) := by decide +kernel
theorem dX6_answer_3 : decode cX6_answer 3 = .ok (.istore_n 3, 1) := by decide +kernel
theorem dX6_answer_4 : decode cX6_answer 4 = .ok (.iconst 0, 1) := by decide +kernel
theorem dX6_answer_5 : decode cX6_answer 5 = .ok (.istore 4, 2) := by decide +kernel
theorem dX6_answer_7 : decode cX6_answer 7 = .ok (.iload 4, 2) := by decide +kernel
theorem dX6_answer_9 : decode cX6_answer 9 = .ok (.aload_n 0, 1) := by decide +kernel
theorem dX6_answer_10 : decode cX6_answer 10 = .ok (.getfield 40, 3) := by decide +kernel
theorem dX6_answer_13 : decode cX6_answer 13 = .ok (.if_icmp .ge 33, 3) := by decide +kernel
theorem dX6_answer_16 : decode cX6_answer 16 = .ok (.aload_n 0, 1) := by decide +kernel
theorem dX6_answer_17 : decode cX6_answer 17 = .ok (.getfield 25, 3) := by decide +kernel
theorem dX6_answer_20 : decode cX6_answer 20 = .ok (.iload 4, 2) := by decide +kernel
theorem dX6_answer_22 : decode cX6_answer 22 = .ok (.iaload, 1) := by decide +kernel
theorem dX6_answer_23 : decode cX6_answer 23 = .ok (.iload 4, 2) := by decide +kernel
theorem dX6_answer_25 : decode cX6_answer 25 = .ok (.if_icmp .le 15, 3) := by decide +kernel
theorem dX6_answer_28 : decode cX6_answer 28 = .ok (.iinc 2 1, 3) := by decide +kernel
theorem dX6_answer_31 : decode cX6_answer 31 = .ok (.iload_n 3, 1) := by decide +kernel
theorem dX6_answer_32 : decode cX6_answer 32 = .ok (.aload_n 0, 1) := by decide +kernel
theorem dX6_answer_33 : decode cX6_answer 33 = .ok (.iload 4, 2) := by decide +kernel
theorem dX6_answer_35 : decode cX6_answer 35 = .ok (.invokevirtual 81, 3) := by decide +kernel
theorem dX6_answer_38 : decode cX6_answer 38 = .ok (.iadd, 1) := by decide +kernel
theorem dX6_answer_39 : decode cX6_answer 39 = .ok (.istore_n 3, 1) := by decide +kernel
theorem dX6_answer_40 : decode cX6_answer 40 = .ok (.iinc 4 1, 3) := by decide +kernel
theorem dX6_answer_43 : decode cX6_answer 43 = .ok (.goto (-36), 3) := by decide +kernel
theorem dX6_answer_46 : decode cX6_answer 46 = .ok (.iload_n 1, 1) := by decide +kernel
theorem dX6_answer_47 : decode cX6_answer 47 = .ok (.ifCond .ne 5, 3) := by decide +kernel
theorem dX6_answer_50 : decode cX6_answer 50 = .ok (.iload_n 2, 1) := by decide +kernel
theorem dX6_answer_51 : decode cX6_answer 51 = .ok (.ireturn, 1) := by decide +kernel
theorem dX6_answer_52 : decode cX6_answer 52 = .ok (.iload_n 1, 1) := by decide +kernel
theorem dX6_answer_53 : decode cX6_answer 53 = .ok (.bipush 10, 2) := by decide +kernel
theorem dX6_answer_55 : decode cX6_answer 55 = .ok (.isub, 1) := by decide +kernel
theorem dX6_answer_56 : decode cX6_answer 56 = .ok (.istore 4, 2) := by decide +kernel
theorem dX6_answer_58 : decode cX6_answer 58 = .ok (.iload 4, 2) := by decide +kernel
theorem dX6_answer_60 : decode cX6_answer 60 = .ok (.ifCond .lt 22, 3) := by decide +kernel
theorem dX6_answer_63 : decode cX6_answer 63 = .ok (.iload 4, 2) := by decide +kernel
theorem dX6_answer_65 : decode cX6_answer 65 = .ok (.aload_n 0, 1) := by decide +kernel
theorem dX6_answer_66 : decode cX6_answer 66 = .ok (.getfield 40, 3) := by decide +kernel
theorem dX6_answer_69 : decode cX6_answer 69 = .ok (.if_icmp .ge 13, 3) := by decide +kernel
theorem dX6_answer_72 : decode cX6_answer 72 = .ok (.aload_n 0, 1) := by decide +kernel
theorem dX6_answer_73 : decode cX6_answer 73 = .ok (.getfield 25, 3) := by decide +kernel
theorem dX6_answer_76 : decode cX6_answer 76 = .ok (.iload 4, 2) := by decide +kernel
theorem dX6_answer_78 : decode cX6_answer 78 = .ok (.iaload, 1) := by decide +kernel
theorem dX6_answer_79 : decode cX6_answer 79 = .ok (.goto 4, 3) := by decide +kernel
theorem dX6_answer_82 : decode cX6_answer 82 = .ok (.iload_n 3, 1) := by decide +kernel
theorem dX6_answer_83 : decode cX6_answer 83 = .ok (.ireturn, 1) := by decide +kernel
theorem dX7_init_0 : decode cX7_init 0 = .ok (.aload_n 0, 1) := by decide +kernel
theorem dX7_init_1 : decode cX7_init 1 = .ok (.invokespecial 3, 3) := by decide +kernel
theorem dX7_init_4 : decode cX7_init 4 = .ok (.aload_n 0, 1) := by decide +kernel
theorem dX7_init_5 : decode cX7_init 5 = .ok (.aload_n 1, 1) := by decide +kernel
theorem dX7_init_6 : decode cX7_init 6 = .ok (.putfield 9, 3) := by decide +kernel
theorem dX7_init_9 : decode cX7_init 9 = .ok (.aload_n 0, 1) := by decide +kernel
theorem dX7_init_10 : decode cX7_init 10 = .ok (.aload_n 2, 1) := by decide +kernel
theorem dX7_init_11 : decode cX7_init 11 = .ok (.putfield 15, 3) := by decide +kernel
theorem dX7_init_14 : decode cX7_init 14 = .ok (.aload_n 0, 1) := by decide +kernel
theorem dX7_init_15 : decode cX7_init 15 = .ok (.aload_n 3, 1) := by decide +kernel
theorem dX7_init_16 : decode cX7_init 16 = .ok (.putfield 19, 3) := by decide +kernel
theorem dX7_init_19 : decode cX7_init 19 = .ok (.aload_n 0, 1) := by decide +kernel
theorem dX7_init_20 : decode cX7_init 20 = .ok (.aload_n 2, 1) := by decide +kernel
theorem dX7_init_21 : decode cX7_init 21 = .ok (.getfield 23, 3) := by decide +kernel
theorem dX7_init_24 : decode cX7_init 24 = .ok (.putfield 29, 3) := by decide +kernel
theorem dX7_init_27 : decode cX7_init 27 = .ok (.aload_n 0, 1) := by decide +kernel
theorem dX7_init_28 : decode cX7_init 28 = .ok (.iconst (-1), 1) := by decide +kernel
theorem dX7_init_29 : decode cX7_init 29 = .ok (.putfield 32, 3) := by decide +kernel
theorem dX7_init_32 : decode cX7_init 32 = .ok (.return_, 1) := by decide +kernel
theorem dX7_readText_0 : decode cX7_readText 0 = .ok (.aload_n 0, 1) := by decide +kernel
theorem dX7_readText_1 : decode cX7_readText 1 = .ok (.iload_n 1, 1) := by decide +kernel
theorem dX7_readText_2 : decode cX7_readText 2 = .ok (.aload_n 0, 1) := by decide +kernel
theorem dX7_readText_3 : decode cX7_readText 3 = .ok (.getfield 9, 3) := by decide +kernel
theorem dX7_readText_6 : decode cX7_readText 6 = .ok (.arraylength, 1) := by decide +kernel
theorem dX7_readText_7 : decode cX7_readText 7 = .ok (.invokestatic 36, 3) := by decide +kernel
theorem dX7_readText_10 : decode cX7_readText 10 = .ok (.putfield 42, 3) := by decide +kernel
theorem dX7_readText_13 : decode cX7_readText 13 = .ok (.aload_n 0, 1) := by decide +kernel
theorem dX7_readText_14 : decode cX7_readText 14 = .ok (.iconst 0, 1) := by decide +kernel
theorem dX7_readText_15 : decode cX7_readText 15 = .ok (.putfield 45, 3) := by decide +kernel
theorem dX7_readText_18 : decode cX7_readText 18 = .ok (.aload_n 0, 1) := by decide +kernel
theorem dX7_readText_19 : decode cX7_readText 19 = .ok (.iconst (-1), 1) := by decide +kernel
theorem dX7_readText_20 : decode cX7_readText 20 = .ok (.putfield 32, 3) := by decide +kernel
theorem dX7_readText_23 : decode cX7_readText 23 = .ok (.aload_n 0, 1) := by decide +kernel
theorem dX7_readText_24 : decode cX7_readText 24 = .ok (.getfield 15, 3) := by decide +kernel
theorem dX7_readText_27 : decode cX7_readText 27 = .ok (.invokevirtual 48, 3) := by decide +kernel
theorem dX7_readText_30 : decode cX7_readText 30 = .ok (.aload_n 0, 1) := by decide +kernel
theorem dX7_readText_31 : decode cX7_readText 31 = .ok (.getfield 19, 3) := by decide +kernel
theorem dX7_readText_34 : decode cX7_readText 34 = .ok (.invokevirtual 51, 3) := by decide +kernel
theorem dX7_readText_37 : decode cX7_readText 37 = .ok (.aload_n 0, 1) := by decide +kernel
theorem dX7_readText_38 : decode cX7_readText 38 = .ok (.iconst 0, 1) := by decide +kernel
theorem dX7_readText_39 : decode cX7_readText 39 = .ok (.putfield 54, 3) := by decide +kernel
theorem dX7_readText_42 : decode cX7_readText 42 = .ok (.aload_n 0, 1) := by decide +kernel
theorem dX7_readText_43 : decode cX7_readText 43 = .ok (.invokevirtual 57, 3) := by decide +kernel
theorem dX7_readText_46 : decode cX7_readText 46 = .ok (.iconst 1, 1) := by decide +kernel
theorem dX7_readText_47 : decode cX7_readText 47 = .ok (.istore_n 2, 1) := by decide +kernel
theorem dX7_readText_48 : decode cX7_readText 48 = .ok (.iconst 0, 1) := by decide +kernel
theorem dX7_readText_49 : decode cX7_readText 49 = .ok (.istore_n 3, 1) := by decide +kernel
theorem dX7_readText_50 : decode cX7_readText 50 = .ok (.iload_n 3, 1) := by decide +kernel
theorem dX7_readText_51 : decode cX7_readText 51 = .ok (.sipush 900, 3) := by decide +kernel
theorem dX7_readText_54 : decode cX7_readText 54 = .ok (.if_icmp .gt 55, 3) := by decide +kernel
theorem dX7_readText_57 : decode cX7_readText 57 = .ok (.iload_n 2, 1) := by decide +kernel
theorem dX7_readText_58 : decode cX7_readText 58 = .ok (.ifCond .eq 51, 3) := by decide +kernel
theorem dX7_readText_61 : decode cX7_readText 61 = .ok (.aload_n 0, 1) := by decide +kernel
theorem dX7_readText_62 : decode cX7_readText 62 = .ok (.getfield 60, 3) := by decide +kernel
theorem dX7_readText_65 : decode cX7_readText 65 = .ok (.ifCond .eq 44, 3) := by decide +kernel
theorem dX7_readText_68 : decode cX7_readText 68 = .ok (.aload_n 0, 1) := by decide +kernel
theorem dX7_readText_69 : decode cX7_readText 69 = .ok (.invokevirtual 63, 3) := by decide +kernel
theorem dX7_readText_72 : decode cX7_readText 72 = .ok (.ifCond .eq 16, 3) := by decide +kernel
theorem dX7_readText_75 : decode cX7_readText 75 = .ok (.aload_n 0, 1) := by decide +kernel
theorem dX7_readText_76 : decode cX7_readText 76 = .ok (.bipush 59, 2) := by decide +kernel
theorem dX7_readText_78 : decode cX7_readText 78 = .ok (.invokevirtual 67, 3) := by decide +kernel
theorem dX7_readText_81 : decode cX7_readText 81 = .ok (.ifCond .eq 7, 3) := by decide +kernel
theorem dX7_readText_84 : decode cX7_readText 84 = .ok (.iconst 1, 1) := by decide +kernel
theorem dX7_readText_85 : decode cX7_readText 85 = .ok (.goto 4, 3) := by decide +kernel
theorem dX7_readText_88 : decode cX7_readText 88 = .ok (.iconst 0, 1) := by decide +kernel
theorem dX7_readText_89 : decode cX7_readText 89 = .ok (.istore_n 2, 1) := by decide +kernel
theorem dX7_readText_90 : decode cX7_readText 90 = .ok (.aload_n 0, 1) := by decide +kernel
theorem dX7_readText_91 : decode cX7_readText 91 = .ok (.getfield 15, 3) := by decide +kernel
theorem dX7_readText_94 : decode cX7_readText 94 = .ok (.dup, 1) := by decide +kernel
theorem dX7_readText_95 : decode cX7_readText 95 = .ok (.getfield 71, 3) := by decide +kernel
theorem dX7_readText_98 : decode cX7_readText 98 = .ok (.iconst 1, 1) := by decide +kernel
theorem dX7_readText_99 : decode cX7_readText 99 = .ok (.iadd, 1) := by decide +kernel
theorem dX7_readText_100 : decode cX7_readText 100 = .ok (.putfield 71, 3) := by decide +kernel
theorem dX7_readText_103 : decode cX7_readText 103 = .ok (.iinc 3 1, 3) := by decide +kernel
theorem dX7_readText_106 : decode cX7_readText 106 = .ok (.goto (-56), 3) := by decide +kernel
theorem dX7_readText_109 : decode cX7_readText 109 = .ok (.return_, 1) := by decide +kernel
theorem dX7_readLine_0 : decode cX7_readLine 0 = .ok (.aload_n 0, 1) := by decide +kernel
theorem dX7_readLine_1 : decode cX7_readLine 1 = .ok (.ldc 74, 2) := by decide +kernel
theorem dX7_readLine_3 : decode cX7_readLine 3 = .ok (.invokevirtual 76, 3) := by decide +kernel
theorem dX7_readLine_6 : decode cX7_readLine 6 = .ok (.ifCond .eq 8, 3) := by decide +kernel
theorem dX7_readLine_9 : decode cX7_readLine 9 = .ok (.aload_n 0, 1) := by decide +kernel
theorem dX7_readLine_10 : decode cX7_readLine 10 = .ok (.invokevirtual 80, 3) := by decide +kernel
theorem dX7_readLine_13 : decode cX7_readLine 13 = .ok (.ireturn, 1) := by decide +kernel
theorem dX7_readLine_14 : decode cX7_readLine 14 = .ok (.aload_n 0, 1) := by decide +kernel
theorem dX7_readLine_15 : decode cX7_readLine 15 = .ok (.ldc 83, 2) := by decide +kernel
theorem dX7_readLine_17 : decode cX7_readLine 17 = .ok (.invokevirtual 76, 3) := by decide +kernel
theorem dX7_readLine_20 : decode cX7_readLine 20 = .ok (.ifCond .eq 8, 3) := by decide +kernel
theorem dX7_readLine_23 : decode cX7_readLine 23 = .ok (.aload_n 0, 1) := by decide +kernel
theorem dX7_readLine_24 : decode cX7_readLine 24 = .ok (.invokevirtual 85, 3) := by decide +kernel
theorem dX7_readLine_27 : decode cX7_readLine 27 = .ok (.ireturn, 1) := by decide +kernel
theorem dX7_readLine_28 : decode cX7_readLine 28 = .ok (.aload_n 0, 1) := by decide +kernel
theorem dX7_readLine_29 : decode cX7_readLine 29 = .ok (.ldc 88, 2) := by decide +kernel
theorem dX7_readLine_31 : decode cX7_readLine 31 = .ok (.invokevirtual 76, 3) := by decide +kernel
theorem dX7_readLine_34 : decode cX7_readLine 34 = .ok (.ifCond .eq 49, 3) := by decide +kernel
theorem dX7_readLine_37 : decode cX7_readLine 37 = .ok (.aload_n 0, 1) := by decide +kernel
theorem dX7_readLine_38 : decode cX7_readLine 38 = .ok (.aload_n 0, 1) := by decide +kernel
theorem dX7_readLine_39 : decode cX7_readLine 39 = .ok (.getfield 15, 3) := by decide +kernel
theorem dX7_readLine_42 : decode cX7_readLine 42 = .ok (.getfield 23, 3) := by decide +kernel
theorem dX7_readLine_45 : decode cX7_readLine 45 = .ok (.putfield 29, 3) := by decide +kernel
theorem dX7_readLine_48 : decode cX7_readLine 48 = .ok (.aload_n 0, 1) := by decide +kernel
theorem dX7_readLine_49 : decode cX7_readLine 49 = .ok (.getfield 29, 3) := by decide +kernel
theorem dX7_readLine_52 : decode cX7_readLine 52 = .ok (.iconst 0, 1) := by decide +kernel
theorem dX7_readLine_53 : decode cX7_readLine 53 = .ok (.putfield 90, 3) := by decide +kernel
theorem dX7_readLine_56 : decode cX7_readLine 56 = .ok (.aload_n 0, 1) := by decide +kernel
theorem dX7_readLine_57 : decode cX7_readLine 57 = .ok (.invokevirtual 57, 3) := by decide +kernel
theorem dX7_readLine_60 : decode cX7_readLine 60 = .ok (.aload_n 0, 1) := by decide +kernel
theorem dX7_readLine_61 : decode cX7_readLine 61 = .ok (.bipush 58, 2) := by decide +kernel
theorem dX7_readLine_63 : decode cX7_readLine 63 = .ok (.invokevirtual 67, 3) := by decide +kernel
theorem dX7_readLine_66 : decode cX7_readLine 66 = .ok (.ifCond .eq 15, 3) := by decide +kernel
theorem dX7_readLine_69 : decode cX7_readLine 69 = .ok (.aload_n 0, 1) := by decide +kernel
theorem dX7_readLine_70 : decode cX7_readLine 70 = .ok (.iconst 0, 1) := by decide +kernel
theorem dX7_readLine_71 : decode cX7_readLine 71 = .ok (.invokevirtual 95, 3) := by decide +kernel
theorem dX7_readLine_74 : decode cX7_readLine 74 = .ok (.ifCond .eq 7, 3) := by decide +kernel
theorem dX7_readLine_77 : decode cX7_readLine 77 = .ok (.iconst 1, 1) := by decide +kernel
theorem dX7_readLine_78 : decode cX7_readLine 78 = .ok (.goto 4, 3) := by decide +kernel
theorem dX7_readLine_81 : decode cX7_readLine 81 = .ok (.iconst 0, 1) := by decide +kernel
theorem dX7_readLine_82 : decode cX7_readLine 82 = .ok (.ireturn, 1) := by decide +kernel
theorem dX7_readLine_83 : decode cX7_readLine 83 = .ok (.aload_n 0, 1) := by decide +kernel
theorem dX7_readLine_84 : decode cX7_readLine 84 = .ok (.ldc 98, 2) := by decide +kernel
theorem dX7_readLine_86 : decode cX7_readLine 86 = .ok (.invokevirtual 76, 3) := by decide +kernel
theorem dX7_readLine_89 : decode cX7_readLine 89 = .ok (.ifCond .eq 49, 3) := by decide +kernel
theorem dX7_readLine_92 : decode cX7_readLine 92 = .ok (.aload_n 0, 1) := by decide +kernel
theorem dX7_readLine_93 : decode cX7_readLine 93 = .ok (.aload_n 0, 1) := by decide +kernel
theorem dX7_readLine_94 : decode cX7_readLine 94 = .ok (.getfield 15, 3) := by decide +kernel
theorem dX7_readLine_97 : decode cX7_readLine 97 = .ok (.getfield 100, 3) := by decide +kernel
theorem dX7_readLine_100 : decode cX7_readLine 100 = .ok (.putfield 29, 3) := by decide +kernel
theorem dX7_readLine_103 : decode cX7_readLine 103 = .ok (.aload_n 0, 1) := by decide +kernel
theorem dX7_readLine_104 : decode cX7_readLine 104 = .ok (.getfield 29, 3) := by decide +kernel
theorem dX7_readLine_107 : decode cX7_readLine 107 = .ok (.iconst 0, 1) := by decide +kernel
theorem dX7_readLine_108 : decode cX7_readLine 108 = .ok (.putfield 90, 3) := by decide +kernel
theorem dX7_readLine_111 : decode cX7_readLine 111 = .ok (.aload_n 0, 1) := by decide +kernel
theorem dX7_readLine_112 : decode cX7_readLine 112 = .ok (.invokevirtual 57, 3) := by decide +kernel
theorem dX7_readLine_115 : decode cX7_readLine 115 = .ok (.aload_n 0, 1) := by decide +kernel
theorem dX7_readLine_116 : decode cX7_readLine 116 = .ok (.bipush 58, 2) := by decide +kernel
theorem dX7_readLine_118 : decode cX7_readLine 118 = .ok (.invokevirtual 67, 3) := by decide +kernel
theorem dX7_readLine_121 : decode cX7_readLine 121 = .ok (.ifCond .eq 15, 3) := by decide +kernel
theorem dX7_readLine_124 : decode cX7_readLine 124 = .ok (.aload_n 0, 1) := by decide +kernel
theorem dX7_readLine_125 : decode cX7_readLine 125 = .ok (.iconst 0, 1) := by decide +kernel
theorem dX7_readLine_126 : decode cX7_readLine 126 = .ok (.invokevirtual 103, 3) := by decide +kernel
theorem dX7_readLine_129 : decode cX7_readLine 129 = .ok (.ifCond .eq 7, 3) := by decide +kernel
theorem dX7_readLine_132 : decode cX7_readLine 132 = .ok (.iconst 1, 1) := by decide +kernel
theorem dX7_readLine_133 : decode cX7_readLine 133 = .ok (.goto 4, 3) := by decide +kernel
theorem dX7_readLine_136 : decode cX7_readLine 136 = .ok (.iconst 0, 1) := by decide +kernel
theorem dX7_readLine_137 : decode cX7_readLine 137 = .ok (.ireturn, 1) := by decide +kernel
theorem dX7_readLine_138 : decode cX7_readLine 138 = .ok (.aload_n 0, 1) := by decide +kernel
theorem dX7_readLine_139 : decode cX7_readLine 139 = .ok (.ldc 106, 2) := by decide +kernel
theorem dX7_readLine_141 : decode cX7_readLine 141 = .ok (.invokevirtual 76, 3) := by decide +kernel
theorem dX7_readLine_144 : decode cX7_readLine 144 = .ok (.ifCond .eq 35, 3) := by decide +kernel
theorem dX7_readLine_147 : decode cX7_readLine 147 = .ok (.aload_n 0, 1) := by decide +kernel
theorem dX7_readLine_148 : decode cX7_readLine 148 = .ok (.invokevirtual 57, 3) := by decide +kernel
theorem dX7_readLine_151 : decode cX7_readLine 151 = .ok (.aload_n 0, 1) := by decide +kernel
theorem dX7_readLine_152 : decode cX7_readLine 152 = .ok (.getfield 15, 3) := by decide +kernel
theorem dX7_readLine_155 : decode cX7_readLine 155 = .ok (.aload_n 0, 1) := by decide +kernel
theorem dX7_readLine_156 : decode cX7_readLine 156 = .ok (.iconst 0, 1) := by decide +kernel
theorem dX7_readLine_157 : decode cX7_readLine 157 = .ok (.sipush 999, 3) := by decide +kernel
theorem dX7_readLine_160 : decode cX7_readLine 160 = .ok (.invokevirtual 108, 3) := by decide +kernel
theorem dX7_readLine_163 : decode cX7_readLine 163 = .ok (.putfield 111, 3) := by decide +kernel
theorem dX7_readLine_166 : decode cX7_readLine 166 = .ok (.aload_n 0, 1) := by decide +kernel
theorem dX7_readLine_167 : decode cX7_readLine 167 = .ok (.getfield 45, 3) := by decide +kernel
theorem dX7_readLine_170 : decode cX7_readLine 170 = .ok (.ifCond .ne 7, 3) := by decide +kernel
theorem dX7_readLine_173 : decode cX7_readLine 173 = .ok (.iconst 1, 1) := by decide +kernel
theorem dX7_readLine_174 : decode cX7_readLine 174 = .ok (.goto 4, 3) := by decide +kernel
theorem dX7_readLine_177 : decode cX7_readLine 177 = .ok (.iconst 0, 1) := by decide +kernel
theorem dX7_readLine_178 : decode cX7_readLine 178 = .ok (.ireturn, 1) := by decide +kernel
theorem dX7_readLine_179 : decode cX7_readLine 179 = .ok (.aload_n 0, 1) := by decide +kernel
theorem dX7_readLine_180 : decode cX7_readLine 180 = .ok (.ldc 113, 2) := by decide +kernel
theorem dX7_readLine_182 : decode cX7_readLine 182 = .ok (.invokevirtual 76, 3) := by decide +kernel
theorem dX7_readLine_185 : decode cX7_readLine 185 = .ok (.ifCond .eq 34, 3) := by decide +kernel
theorem dX7_readLine_188 : decode cX7_readLine 188 = .ok (.aload_n 0, 1) := by decide +kernel
theorem dX7_readLine_189 : decode cX7_readLine 189 = .ok (.invokevirtual 57, 3) := by decide +kernel
theorem dX7_readLine_192 : decode cX7_readLine 192 = .ok (.aload_n 0, 1) := by decide +kernel
theorem dX7_readLine_193 : decode cX7_readLine 193 = .ok (.getfield 15, 3) := by decide +kernel
theorem dX7_readLine_196 : decode cX7_readLine 196 = .ok (.aload_n 0, 1) := by decide +kernel
theorem dX7_readLine_197 : decode cX7_readLine 197 = .ok (.iconst 1, 1) := by decide +kernel
theorem dX7_readLine_198 : decode cX7_readLine 198 = .ok (.bipush 14, 2) := by decide +kernel
theorem dX7_readLine_200 : decode cX7_readLine 200 = .ok (.invokevirtual 108, 3) := by decide +kernel
theorem dX7_readLine_203 : decode cX7_readLine 203 = .ok (.putfield 115, 3) := by decide +kernel
theorem dX7_readLine_206 : decode cX7_readLine 206 = .ok (.aload_n 0, 1) := by decide +kernel
theorem dX7_readLine_207 : decode cX7_readLine 207 = .ok (.getfield 45, 3) := by decide +kernel
theorem dX7_readLine_210 : decode cX7_readLine 210 = .ok (.ifCond .ne 7, 3) := by decide +kernel
theorem dX7_readLine_213 : decode cX7_readLine 213 = .ok (.iconst 1, 1) := by decide +kernel
theorem dX7_readLine_214 : decode cX7_readLine 214 = .ok (.goto 4, 3) := by decide +kernel
theorem dX7_readLine_217 : decode cX7_readLine 217 = .ok (.iconst 0, 1) := by decide +kernel
theorem dX7_readLine_218 : decode cX7_readLine 218 = .ok (.ireturn, 1) := by decide +kernel
theorem dX7_readLine_219 : decode cX7_readLine 219 = .ok (.aload_n 0, 1) := by decide +kernel
theorem dX7_readLine_220 : decode cX7_readLine 220 = .ok (.invokevirtual 117, 3) := by decide +kernel
theorem dX7_readLine_223 : decode cX7_readLine 223 = .ok (.ireturn, 1) := by decide +kernel
theorem dX7_readThing_0 : decode cX7_readThing 0 = .ok (.aload_n 0, 1) := by decide +kernel
theorem dX7_readThing_1 : decode cX7_readThing 1 = .ok (.getfield 15, 3) := by decide +kernel
theorem dX7_readThing_4 : decode cX7_readThing 4 = .ok (.getfield 120, 3) := by decide +kernel
theorem dX7_readThing_7 : decode cX7_readThing 7 = .ok (.istore_n 1, 1) := by decide +kernel
theorem dX7_readThing_8 : decode cX7_readThing 8 = .ok (.iload_n 1, 1) := by decide +kernel
theorem dX7_readThing_9 : decode cX7_readThing 9 = .ok (.bipush 14, 2) := by decide +kernel
theorem dX7_readThing_11 : decode cX7_readThing 11 = .ok (.if_icmp .lt 9, 3) := by decide +kernel
theorem dX7_readThing_14 : decode cX7_readThing 14 = .ok (.aload_n 0, 1) := by decide +kernel
theorem dX7_readThing_15 : decode cX7_readThing 15 = .ok (.iconst 4, 1) := by decide +kernel
theorem dX7_readThing_16 : decode cX7_readThing 16 = .ok (.invokevirtual 123, 3) := by decide +kernel
theorem dX7_readThing_19 : decode cX7_readThing 19 = .ok (.ireturn, 1) := by decide +kernel
theorem dX7_readThing_20 : decode cX7_readThing 20 = .ok (.aload_n 0, 1) := by decide +kernel
theorem dX7_readThing_21 : decode cX7_readThing 21 = .ok (.invokevirtual 57, 3) := by decide +kernel
theorem dX7_readThing_24 : decode cX7_readThing 24 = .ok (.iconst 0, 1) := by decide +kernel
theorem dX7_readThing_25 : decode cX7_readThing 25 = .ok (.istore_n 2, 1) := by decide +kernel
theorem dX7_readThing_26 : decode cX7_readThing 26 = .ok (.aload_n 0, 1) := by decide +kernel
theorem dX7_readThing_27 : decode cX7_readThing 27 = .ok (.ldc 126, 2) := by decide +kernel
theorem dX7_readThing_29 : decode cX7_readThing 29 = .ok (.invokevirtual 76, 3) := by decide +kernel
theorem dX7_readThing_32 : decode cX7_readThing 32 = .ok (.ifCond .eq 15, 3) := by decide +kernel
theorem dX7_readThing_35 : decode cX7_readThing 35 = .ok (.aload_n 0, 1) := by decide +kernel
theorem dX7_readThing_36 : decode cX7_readThing 36 = .ok (.invokevirtual 57, 3) := by decide +kernel
theorem dX7_readThing_39 : decode cX7_readThing 39 = .ok (.aload_n 0, 1) := by decide +kernel
theorem dX7_readThing_40 : decode cX7_readThing 40 = .ok (.iconst 1, 1) := by decide +kernel
theorem dX7_readThing_41 : decode cX7_readThing 41 = .ok (.bipush 99, 2) := by decide +kernel
theorem dX7_readThing_43 : decode cX7_readThing 43 = .ok (.invokevirtual 108, 3) := by decide +kernel
theorem dX7_readThing_46 : decode cX7_readThing 46 = .ok (.istore_n 2, 1) := by decide +kernel
theorem dX7_readThing_47 : decode cX7_readThing 47 = .ok (.aload_n 0, 1) := by decide +kernel
theorem dX7_readThing_48 : decode cX7_readThing 48 = .ok (.getfield 15, 3) := by decide +kernel
theorem dX7_readThing_51 : decode cX7_readThing 51 = .ok (.getfield 128, 3) := by decide +kernel
theorem dX7_readThing_54 : decode cX7_readThing 54 = .ok (.iload_n 1, 1) := by decide +kernel
theorem dX7_readThing_55 : decode cX7_readThing 55 = .ok (.iload_n 2, 1) := by decide +kernel
theorem dX7_readThing_56 : decode cX7_readThing 56 = .ok (.iastore, 1) := by decide +kernel
theorem dX7_readThing_57 : decode cX7_readThing 57 = .ok (.aload_n 0, 1) := by decide +kernel
theorem dX7_readThing_58 : decode cX7_readThing 58 = .ok (.getfield 15, 3) := by decide +kernel
theorem dX7_readThing_61 : decode cX7_readThing 61 = .ok (.dup, 1) := by decide +kernel
theorem dX7_readThing_62 : decode cX7_readThing 62 = .ok (.getfield 120, 3) := by decide +kernel
theorem dX7_readThing_65 : decode cX7_readThing 65 = .ok (.iconst 1, 1) := by decide +kernel
theorem dX7_readThing_66 : decode cX7_readThing 66 = .ok (.iadd, 1) := by decide +kernel
theorem dX7_readThing_67 : decode cX7_readThing 67 = .ok (.putfield 120, 3) := by decide +kernel
theorem dX7_readThing_70 : decode cX7_readThing 70 = .ok (.aload_n 0, 1) := by decide +kernel
theorem dX7_readThing_71 : decode cX7_readThing 71 = .ok (.getfield 45, 3) := by decide +kernel
theorem dX7_readThing_74 : decode cX7_readThing 74 = .ok (.ifCond .ne 7, 3) := by decide +kernel
theorem dX7_readThing_77 : decode cX7_readThing 77 = .ok (.iconst 1, 1) := by decide +kernel
theorem dX7_readThing_78 : decode cX7_readThing 78 = .ok (.goto 4, 3) := by decide +kernel
theorem dX7_readThing_81 : decode cX7_readThing 81 = .ok (.iconst 0, 1) := by decide +kernel
theorem dX7_readThing_82 : decode cX7_readThing 82 = .ok (.ireturn, 1) := by decide +kernel
theorem dX7_readPerson_0 : decode cX7_readPerson 0 = .ok (.aload_n 0, 1) := by decide +kernel
theorem dX7_readPerson_1 : decode cX7_readPerson 1 = .ok (.getfield 15, 3) := by decide +kernel
theorem dX7_readPerson_4 : decode cX7_readPerson 4 = .ok (.getfield 131, 3) := by decide +kernel
theorem dX7_readPerson_7 : decode cX7_readPerson 7 = .ok (.istore_n 1, 1) := by decide +kernel
theorem dX7_readPerson_8 : decode cX7_readPerson 8 = .ok (.iload_n 1, 1) := by decide +kernel
theorem dX7_readPerson_9 : decode cX7_readPerson 9 = .ok (.bipush 8, 2) := by decide +kernel
theorem dX7_readPerson_11 : decode cX7_readPerson 11 = .ok (.if_icmp .lt 9, 3) := by decide +kernel
theorem dX7_readPerson_14 : decode cX7_readPerson 14 = .ok (.aload_n 0, 1) := by decide +kernel
theorem dX7_readPerson_15 : decode cX7_readPerson 15 = .ok (.iconst 4, 1) := by decide +kernel
theorem dX7_readPerson_16 : decode cX7_readPerson 16 = .ok (.invokevirtual 123, 3) := by decide +kernel
theorem dX7_readPerson_19 : decode cX7_readPerson 19 = .ok (.ireturn, 1) := by decide +kernel
theorem dX7_readPerson_20 : decode cX7_readPerson 20 = .ok (.aload_n 0, 1) := by decide +kernel
theorem dX7_readPerson_21 : decode cX7_readPerson 21 = .ok (.invokevirtual 57, 3) := by decide +kernel
theorem dX7_readPerson_24 : decode cX7_readPerson 24 = .ok (.aload_n 0, 1) := by decide +kernel
theorem dX7_readPerson_25 : decode cX7_readPerson 25 = .ok (.ldc 134, 2) := by decide +kernel
theorem dX7_readPerson_27 : decode cX7_readPerson 27 = .ok (.invokevirtual 136, 3) := by decide +kernel
theorem dX7_readPerson_30 : decode cX7_readPerson 30 = .ok (.ifCond .ne 5, 3) := by decide +kernel
theorem dX7_readPerson_33 : decode cX7_readPerson 33 = .ok (.iconst 0, 1) := by decide +kernel
theorem dX7_readPerson_34 : decode cX7_readPerson 34 = .ok (.ireturn, 1) := by decide +kernel
theorem dX7_readPerson_35 : decode cX7_readPerson 35 = .ok (.aload_n 0, 1) := by decide +kernel
theorem dX7_readPerson_36 : decode cX7_readPerson 36 = .ok (.getfield 19, 3) := by decide +kernel
theorem dX7_readPerson_39 : decode cX7_readPerson 39 = .ok (.getfield 139, 3) := by decide +kernel
theorem dX7_readPerson_42 : decode cX7_readPerson 42 = .ok (.iload_n 1, 1) := by decide +kernel
theorem dX7_readPerson_43 : decode cX7_readPerson 43 = .ok (.aload_n 0, 1) := by decide +kernel
theorem dX7_readPerson_44 : decode cX7_readPerson 44 = .ok (.iconst 0, 1) := by decide +kernel
theorem dX7_readPerson_45 : decode cX7_readPerson 45 = .ok (.bipush 99, 2) := by decide +kernel
theorem dX7_readPerson_47 : decode cX7_readPerson 47 = .ok (.invokevirtual 108, 3) := by decide +kernel
theorem dX7_readPerson_50 : decode cX7_readPerson 50 = .ok (.iastore, 1) := by decide +kernel
theorem dX7_readPerson_51 : decode cX7_readPerson 51 = .ok (.aload_n 0, 1) := by decide +kernel
theorem dX7_readPerson_52 : decode cX7_readPerson 52 = .ok (.getfield 15, 3) := by decide +kernel
theorem dX7_readPerson_55 : decode cX7_readPerson 55 = .ok (.getfield 141, 3) := by decide +kernel
theorem dX7_readPerson_58 : decode cX7_readPerson 58 = .ok (.iload_n 1, 1) := by decide +kernel
theorem dX7_readPerson_59 : decode cX7_readPerson 59 = .ok (.iconst 0, 1) := by decide +kernel
theorem dX7_readPerson_60 : decode cX7_readPerson 60 = .ok (.iastore, 1) := by decide +kernel
theorem dX7_readPerson_61 : decode cX7_readPerson 61 = .ok (.aload_n 0, 1) := by decide +kernel
theorem dX7_readPerson_62 : decode cX7_readPerson 62 = .ok (.getfield 45, 3) := by decide +kernel
theorem dX7_readPerson_65 : decode cX7_readPerson 65 = .ok (.ifCond .ne 25, 3) := by decide +kernel
theorem dX7_readPerson_68 : decode cX7_readPerson 68 = .ok (.aload_n 0, 1) := by decide +kernel
theorem dX7_readPerson_69 : decode cX7_readPerson 69 = .ok (.ldc 144, 2) := by decide +kernel
theorem dX7_readPerson_71 : decode cX7_readPerson 71 = .ok (.invokevirtual 76, 3) := by decide +kernel
theorem dX7_readPerson_74 : decode cX7_readPerson 74 = .ok (.ifCond .eq 16, 3) := by decide +kernel
theorem dX7_readPerson_77 : decode cX7_readPerson 77 = .ok (.aload_n 0, 1) := by decide +kernel
theorem dX7_readPerson_78 : decode cX7_readPerson 78 = .ok (.getfield 15, 3) := by decide +kernel
theorem dX7_readPerson_81 : decode cX7_readPerson 81 = .ok (.getfield 141, 3) := by decide +kernel
theorem dX7_readPerson_84 : decode cX7_readPerson 84 = .ok (.iload_n 1, 1) := by decide +kernel
theorem dX7_readPerson_85 : decode cX7_readPerson 85 = .ok (.aload_n 0, 1) := by decide +kernel
theorem dX7_readPerson_86 : decode cX7_readPerson 86 = .ok (.invokevirtual 146, 3) := by decide +kernel
theorem dX7_readPerson_89 : decode cX7_readPerson 89 = .ok (.iastore, 1) := by decide +kernel
theorem dX7_readPerson_90 : decode cX7_readPerson 90 = .ok (.aload_n 0, 1) := by decide +kernel
theorem dX7_readPerson_91 : decode cX7_readPerson 91 = .ok (.getfield 45, 3) := by decide +kernel
theorem dX7_readPerson_94 : decode cX7_readPerson 94 = .ok (.ifCond .ne 54, 3) := by decide +kernel
theorem dX7_readPerson_97 : decode cX7_readPerson 97 = .ok (.aload_n 0, 1) := by decide +kernel
theorem dX7_readPerson_98 : decode cX7_readPerson 98 = .ok (.ldc 150, 2) := by decide +kernel
theorem dX7_readPerson_100 : decode cX7_readPerson 100 = .ok (.invokevirtual 76, 3) := by decide +kernel
theorem dX7_readPerson_103 : decode cX7_readPerson 103 = .ok (.ifCond .eq 45, 3) := by decide +kernel
theorem dX7_readPerson_106 : decode cX7_readPerson 106 = .ok (.aload_n 0, 1) := by decide +kernel
theorem dX7_readPerson_107 : decode cX7_readPerson 107 = .ok (.invokevirtual 146, 3) := by decide +kernel
theorem dX7_readPerson_110 : decode cX7_readPerson 110 = .ok (.istore_n 2, 1) := by decide +kernel
theorem dX7_readPerson_111 : decode cX7_readPerson 111 = .ok (.iconst 0, 1) := by decide +kernel
theorem dX7_readPerson_112 : decode cX7_readPerson 112 = .ok (.istore_n 3, 1) := by decide +kernel
theorem dX7_readPerson_113 : decode cX7_readPerson 113 = .ok (.iload_n 3, 1) := by decide +kernel
theorem dX7_readPerson_114 : decode cX7_readPerson 114 = .ok (.aload_n 0, 1) := by decide +kernel
theorem dX7_readPerson_115 : decode cX7_readPerson 115 = .ok (.getfield 15, 3) := by decide +kernel
theorem dX7_readPerson_118 : decode cX7_readPerson 118 = .ok (.getfield 120, 3) := by decide +kernel
theorem dX7_readPerson_121 : decode cX7_readPerson 121 = .ok (.if_icmp .ge 27, 3) := by decide +kernel
theorem dX7_readPerson_124 : decode cX7_readPerson 124 = .ok (.iload_n 2, 1) := by decide +kernel
theorem dX7_readPerson_125 : decode cX7_readPerson 125 = .ok (.iconst 1, 1) := by decide +kernel
theorem dX7_readPerson_126 : decode cX7_readPerson 126 = .ok (.iload_n 3, 1) := by decide +kernel
theorem dX7_readPerson_127 : decode cX7_readPerson 127 = .ok (.ishl, 1) := by decide +kernel
theorem dX7_readPerson_128 : decode cX7_readPerson 128 = .ok (.iand, 1) := by decide +kernel
theorem dX7_readPerson_129 : decode cX7_readPerson 129 = .ok (.ifCond .eq 13, 3) := by decide +kernel
theorem dX7_readPerson_132 : decode cX7_readPerson 132 = .ok (.aload_n 0, 1) := by decide +kernel
theorem dX7_readPerson_133 : decode cX7_readPerson 133 = .ok (.getfield 19, 3) := by decide +kernel
theorem dX7_readPerson_136 : decode cX7_readPerson 136 = .ok (.iload_n 1, 1) := by decide +kernel
theorem dX7_readPerson_137 : decode cX7_readPerson 137 = .ok (.iload_n 3, 1) := by decide +kernel
theorem dX7_readPerson_138 : decode cX7_readPerson 138 = .ok (.iconst 0, 1) := by decide +kernel
theorem dX7_readPerson_139 : decode cX7_readPerson 139 = .ok (.invokevirtual 152, 3) := by decide +kernel
theorem dX7_readPerson_142 : decode cX7_readPerson 142 = .ok (.iinc 3 1, 3) := by decide +kernel
theorem dX7_readPerson_145 : decode cX7_readPerson 145 = .ok (.goto (-32), 3) := by decide +kernel
theorem dX7_readPerson_148 : decode cX7_readPerson 148 = .ok (.aload_n 0, 1) := by decide +kernel
theorem dX7_readPerson_149 : decode cX7_readPerson 149 = .ok (.getfield 15, 3) := by decide +kernel
theorem dX7_readPerson_152 : decode cX7_readPerson 152 = .ok (.dup, 1) := by decide +kernel
theorem dX7_readPerson_153 : decode cX7_readPerson 153 = .ok (.getfield 131, 3) := by decide +kernel
theorem dX7_readPerson_156 : decode cX7_readPerson 156 = .ok (.iconst 1, 1) := by decide +kernel
theorem dX7_readPerson_157 : decode cX7_readPerson 157 = .ok (.iadd, 1) := by decide +kernel
theorem dX7_readPerson_158 : decode cX7_readPerson 158 = .ok (.putfield 131, 3) := by decide +kernel
theorem dX7_readPerson_161 : decode cX7_readPerson 161 = .ok (.aload_n 0, 1) := by decide +kernel
theorem dX7_readPerson_162 : decode cX7_readPerson 162 = .ok (.getfield 45, 3) := by decide +kernel
theorem dX7_readPerson_165 : decode cX7_readPerson 165 = .ok (.ifCond .ne 7, 3) := by decide +kernel
theorem dX7_readPerson_168 : decode cX7_readPerson 168 = .ok (.iconst 1, 1) := by decide +kernel
theorem dX7_readPerson_169 : decode cX7_readPerson 169 = .ok (.goto 4, 3) := by decide +kernel
theorem dX7_readPerson_172 : decode cX7_readPerson 172 = .ok (.iconst 0, 1) := by decide +kernel
theorem dX7_readPerson_173 : decode cX7_readPerson 173 = .ok (.ireturn, 1) := by decide +kernel
theorem dX7_readThings_0 : decode cX7_readThings 0 = .ok (.iconst 0, 1) := by decide +kernel
theorem dX7_readThings_1 : decode cX7_readThings 1 = .ok (.istore_n 1, 1) := by decide +kernel
theorem dX7_readThings_2 : decode cX7_readThings 2 = .ok (.aload_n 0, 1) := by decide +kernel
theorem dX7_readThings_3 : decode cX7_readThings 3 = .ok (.invokevirtual 57, 3) := by decide +kernel
theorem dX7_readThings_6 : decode cX7_readThings 6 = .ok (.iconst 0, 1) := by decide +kernel
theorem dX7_readThings_7 : decode cX7_readThings 7 = .ok (.istore_n 2, 1) := by decide +kernel
theorem dX7_readThings_8 : decode cX7_readThings 8 = .ok (.iload_n 2, 1) := by decide +kernel
theorem dX7_readThings_9 : decode cX7_readThings 9 = .ok (.sipush 900, 3) := by decide +kernel
theorem dX7_readThings_12 : decode cX7_readThings 12 = .ok (.if_icmp .gt 53, 3) := by decide +kernel
theorem dX7_readThings_15 : decode cX7_readThings 15 = .ok (.aload_n 0, 1) := by decide +kernel
theorem dX7_readThings_16 : decode cX7_readThings 16 = .ok (.getfield 45, 3) := by decide +kernel
theorem dX7_readThings_19 : decode cX7_readThings 19 = .ok (.ifCond .ne 46, 3) := by decide +kernel
theorem dX7_readThings_22 : decode cX7_readThings 22 = .ok (.iload_n 2, 1) := by decide +kernel
theorem dX7_readThings_23 : decode cX7_readThings 23 = .ok (.ifCond .eq 11, 3) := by decide +kernel
theorem dX7_readThings_26 : decode cX7_readThings 26 = .ok (.aload_n 0, 1) := by decide +kernel
theorem dX7_readThings_27 : decode cX7_readThings 27 = .ok (.getfield 60, 3) := by decide +kernel
theorem dX7_readThings_30 : decode cX7_readThings 30 = .ok (.iconst 2, 1) := by decide +kernel
theorem dX7_readThings_31 : decode cX7_readThings 31 = .ok (.if_icmp .ne 34, 3) := by decide +kernel
theorem dX7_readThings_34 : decode cX7_readThings 34 = .ok (.aload_n 0, 1) := by decide +kernel
theorem dX7_readThings_35 : decode cX7_readThings 35 = .ok (.iconst 0, 1) := by decide +kernel
theorem dX7_readThings_36 : decode cX7_readThings 36 = .ok (.aload_n 0, 1) := by decide +kernel
theorem dX7_readThings_37 : decode cX7_readThings 37 = .ok (.getfield 15, 3) := by decide +kernel
theorem dX7_readThings_40 : decode cX7_readThings 40 = .ok (.getfield 120, 3) := by decide +kernel
theorem dX7_readThings_43 : decode cX7_readThings 43 = .ok (.iconst 1, 1) := by decide +kernel
theorem dX7_readThings_44 : decode cX7_readThings 44 = .ok (.isub, 1) := by decide +kernel
theorem dX7_readThings_45 : decode cX7_readThings 45 = .ok (.invokevirtual 108, 3) := by decide +kernel
theorem dX7_readThings_48 : decode cX7_readThings 48 = .ok (.istore_n 3, 1) := by decide +kernel
theorem dX7_readThings_49 : decode cX7_readThings 49 = .ok (.iload_n 3, 1) := by decide +kernel
theorem dX7_readThings_50 : decode cX7_readThings 50 = .ok (.ifCond .lt 9, 3) := by decide +kernel
theorem dX7_readThings_53 : decode cX7_readThings 53 = .ok (.iload_n 1, 1) := by decide +kernel
theorem dX7_readThings_54 : decode cX7_readThings 54 = .ok (.iconst 1, 1) := by decide +kernel
theorem dX7_readThings_55 : decode cX7_readThings 55 = .ok (.iload_n 3, 1) := by decide +kernel
theorem dX7_readThings_56 : decode cX7_readThings 56 = .ok (.ishl, 1) := by decide +kernel
theorem dX7_readThings_57 : decode cX7_readThings 57 = .ok (.ior, 1) := by decide +kernel
theorem dX7_readThings_58 : decode cX7_readThings 58 = .ok (.istore_n 1, 1) := by decide +kernel
theorem dX7_readThings_59 : decode cX7_readThings 59 = .ok (.iinc 2 1, 3) := by decide +kernel
theorem dX7_readThings_62 : decode cX7_readThings 62 = .ok (.goto (-54), 3) := by decide +kernel
theorem dX7_readThings_65 : decode cX7_readThings 65 = .ok (.iload_n 1, 1) := by decide +kernel
theorem dX7_readThings_66 : decode cX7_readThings 66 = .ok (.ireturn, 1) := by decide +kernel
theorem dX7_readTruth_0 : decode cX7_readTruth 0 = .ok (.aload_n 0, 1) := by decide +kernel
theorem dX7_readTruth_1 : decode cX7_readTruth 1 = .ok (.iload_n 1, 1) := by decide +kernel
theorem dX7_readTruth_2 : decode cX7_readTruth 2 = .ok (.invokevirtual 156, 3) := by decide +kernel
theorem dX7_readTruth_5 : decode cX7_readTruth 5 = .ok (.istore_n 2, 1) := by decide +kernel
theorem dX7_readTruth_6 : decode cX7_readTruth 6 = .ok (.iconst 0, 1) := by decide +kernel
theorem dX7_readTruth_7 : decode cX7_readTruth 7 = .ok (.istore_n 3, 1) := by decide +kernel
theorem dX7_readTruth_8 : decode cX7_readTruth 8 = .ok (.iload_n 3, 1) := by decide +kernel
theorem dX7_readTruth_9 : decode cX7_readTruth 9 = .ok (.sipush 900, 3) := by decide +kernel
theorem dX7_readTruth_12 : decode cX7_readTruth 12 = .ok (.if_icmp .gt 41, 3) := by decide +kernel
theorem dX7_readTruth_15 : decode cX7_readTruth 15 = .ok (.iload_n 2, 1) := by decide +kernel
theorem dX7_readTruth_16 : decode cX7_readTruth 16 = .ok (.ifCond .eq 37, 3) := by decide +kernel
theorem dX7_readTruth_19 : decode cX7_readTruth 19 = .ok (.aload_n 0, 1) := by decide +kernel
theorem dX7_readTruth_20 : decode cX7_readTruth 20 = .ok (.ldc 159, 2) := by decide +kernel
theorem dX7_readTruth_22 : decode cX7_readTruth 22 = .ok (.invokevirtual 76, 3) := by decide +kernel
theorem dX7_readTruth_25 : decode cX7_readTruth 25 = .ok (.ifCond .eq 28, 3) := by decide +kernel
theorem dX7_readTruth_28 : decode cX7_readTruth 28 = .ok (.aload_n 0, 1) := by decide +kernel
theorem dX7_readTruth_29 : decode cX7_readTruth 29 = .ok (.invokevirtual 57, 3) := by decide +kernel
theorem dX7_readTruth_32 : decode cX7_readTruth 32 = .ok (.aload_n 0, 1) := by decide +kernel
theorem dX7_readTruth_33 : decode cX7_readTruth 33 = .ok (.iload_n 1, 1) := by decide +kernel
theorem dX7_readTruth_34 : decode cX7_readTruth 34 = .ok (.invokevirtual 156, 3) := by decide +kernel
theorem dX7_readTruth_37 : decode cX7_readTruth 37 = .ok (.istore_n 2, 1) := by decide +kernel
theorem dX7_readTruth_38 : decode cX7_readTruth 38 = .ok (.aload_n 0, 1) := by decide +kernel
theorem dX7_readTruth_39 : decode cX7_readTruth 39 = .ok (.getfield 29, 3) := by decide +kernel
theorem dX7_readTruth_42 : decode cX7_readTruth 42 = .ok (.bipush (-16), 2) := by decide +kernel
theorem dX7_readTruth_44 : decode cX7_readTruth 44 = .ok (.invokevirtual 161, 3) := by decide +kernel
theorem dX7_readTruth_47 : decode cX7_readTruth 47 = .ok (.iinc 3 1, 3) := by decide +kernel
theorem dX7_readTruth_50 : decode cX7_readTruth 50 = .ok (.goto (-42), 3) := by decide +kernel
theorem dX7_readTruth_53 : decode cX7_readTruth 53 = .ok (.iload_n 2, 1) := by decide +kernel
theorem dX7_readTruth_54 : decode cX7_readTruth 54 = .ok (.ireturn, 1) := by decide +kernel
theorem dX7_readBoth_0 : decode cX7_readBoth 0 = .ok (.aload_n 0, 1) := by decide +kernel
theorem dX7_readBoth_1 : decode cX7_readBoth 1 = .ok (.iload_n 1, 1) := by decide +kernel
theorem dX7_readBoth_2 : decode cX7_readBoth 2 = .ok (.invokevirtual 165, 3) := by decide +kernel
theorem dX7_readBoth_5 : decode cX7_readBoth 5 = .ok (.istore_n 2, 1) := by decide +kernel
theorem dX7_readBoth_6 : decode cX7_readBoth 6 = .ok (.iconst 0, 1) := by decide +kernel
theorem dX7_readBoth_7 : decode cX7_readBoth 7 = .ok (.istore_n 3, 1) := by decide +kernel
theorem dX7_readBoth_8 : decode cX7_readBoth 8 = .ok (.iload_n 3, 1) := by decide +kernel
theorem dX7_readBoth_9 : decode cX7_readBoth 9 = .ok (.sipush 900, 3) := by decide +kernel
theorem dX7_readBoth_12 : decode cX7_readBoth 12 = .ok (.if_icmp .gt 41, 3) := by decide +kernel
theorem dX7_readBoth_15 : decode cX7_readBoth 15 = .ok (.iload_n 2, 1) := by decide +kernel
theorem dX7_readBoth_16 : decode cX7_readBoth 16 = .ok (.ifCond .eq 37, 3) := by decide +kernel
theorem dX7_readBoth_19 : decode cX7_readBoth 19 = .ok (.aload_n 0, 1) := by decide +kernel
theorem dX7_readBoth_20 : decode cX7_readBoth 20 = .ok (.ldc 168, 2) := by decide +kernel
theorem dX7_readBoth_22 : decode cX7_readBoth 22 = .ok (.invokevirtual 76, 3) := by decide +kernel
theorem dX7_readBoth_25 : decode cX7_readBoth 25 = .ok (.ifCond .eq 28, 3) := by decide +kernel
theorem dX7_readBoth_28 : decode cX7_readBoth 28 = .ok (.aload_n 0, 1) := by decide +kernel
theorem dX7_readBoth_29 : decode cX7_readBoth 29 = .ok (.invokevirtual 57, 3) := by decide +kernel
theorem dX7_readBoth_32 : decode cX7_readBoth 32 = .ok (.aload_n 0, 1) := by decide +kernel
theorem dX7_readBoth_33 : decode cX7_readBoth 33 = .ok (.iload_n 1, 1) := by decide +kernel
theorem dX7_readBoth_34 : decode cX7_readBoth 34 = .ok (.invokevirtual 165, 3) := by decide +kernel
theorem dX7_readBoth_37 : decode cX7_readBoth 37 = .ok (.istore_n 2, 1) := by decide +kernel
theorem dX7_readBoth_38 : decode cX7_readBoth 38 = .ok (.aload_n 0, 1) := by decide +kernel
theorem dX7_readBoth_39 : decode cX7_readBoth 39 = .ok (.getfield 29, 3) := by decide +kernel
theorem dX7_readBoth_42 : decode cX7_readBoth 42 = .ok (.bipush (-15), 2) := by decide +kernel
theorem dX7_readBoth_44 : decode cX7_readBoth 44 = .ok (.invokevirtual 161, 3) := by decide +kernel
theorem dX7_readBoth_47 : decode cX7_readBoth 47 = .ok (.iinc 3 1, 3) := by decide +kernel
theorem dX7_readBoth_50 : decode cX7_readBoth 50 = .ok (.goto (-42), 3) := by decide +kernel
theorem dX7_readBoth_53 : decode cX7_readBoth 53 = .ok (.iload_n 2, 1) := by decide +kernel
theorem dX7_readBoth_54 : decode cX7_readBoth 54 = .ok (.ireturn, 1) := by decide +kernel
theorem dX7_readUnit_0 : decode cX7_readUnit 0 = .ok (.aload_n 0, 1) := by decide +kernel
theorem dX7_readUnit_1 : decode cX7_readUnit 1 = .ok (.ldc 170, 2) := by decide +kernel
theorem dX7_readUnit_3 : decode cX7_readUnit 3 = .ok (.invokevirtual 76, 3) := by decide +kernel
theorem dX7_readUnit_6 : decode cX7_readUnit 6 = .ok (.ifCond .eq 34, 3) := by decide +kernel
theorem dX7_readUnit_9 : decode cX7_readUnit 9 = .ok (.aload_n 0, 1) := by decide +kernel
theorem dX7_readUnit_10 : decode cX7_readUnit 10 = .ok (.iload_n 1, 1) := by decide +kernel
theorem dX7_readUnit_11 : decode cX7_readUnit 11 = .ok (.invokevirtual 172, 3) := by decide +kernel
theorem dX7_readUnit_14 : decode cX7_readUnit 14 = .ok (.ifCond .eq 13, 3) := by decide +kernel
theorem dX7_readUnit_17 : decode cX7_readUnit 17 = .ok (.aload_n 0, 1) := by decide +kernel
theorem dX7_readUnit_18 : decode cX7_readUnit 18 = .ok (.iload_n 1, 1) := by decide +kernel
theorem dX7_readUnit_19 : decode cX7_readUnit 19 = .ok (.iconst 1, 1) := by decide +kernel
theorem dX7_readUnit_20 : decode cX7_readUnit 20 = .ok (.iadd, 1) := by decide +kernel
theorem dX7_readUnit_21 : decode cX7_readUnit 21 = .ok (.invokevirtual 165, 3) := by decide +kernel
theorem dX7_readUnit_24 : decode cX7_readUnit 24 = .ok (.ifCond .ne 5, 3) := by decide +kernel
theorem dX7_readUnit_27 : decode cX7_readUnit 27 = .ok (.iconst 0, 1) := by decide +kernel
theorem dX7_readUnit_28 : decode cX7_readUnit 28 = .ok (.ireturn, 1) := by decide +kernel
theorem dX7_readUnit_29 : decode cX7_readUnit 29 = .ok (.aload_n 0, 1) := by decide +kernel
theorem dX7_readUnit_30 : decode cX7_readUnit 30 = .ok (.getfield 29, 3) := by decide +kernel
theorem dX7_readUnit_33 : decode cX7_readUnit 33 = .ok (.bipush (-14), 2) := by decide +kernel
theorem dX7_readUnit_35 : decode cX7_readUnit 35 = .ok (.invokevirtual 161, 3) := by decide +kernel
theorem dX7_readUnit_38 : decode cX7_readUnit 38 = .ok (.iconst 1, 1) := by decide +kernel
theorem dX7_readUnit_39 : decode cX7_readUnit 39 = .ok (.ireturn, 1) := by decide +kernel
theorem dX7_readUnit_40 : decode cX7_readUnit 40 = .ok (.aload_n 0, 1) := by decide +kernel
theorem dX7_readUnit_41 : decode cX7_readUnit 41 = .ok (.getfield 60, 3) := by decide +kernel
theorem dX7_readUnit_44 : decode cX7_readUnit 44 = .ok (.bipush 91, 2) := by decide +kernel
theorem dX7_readUnit_46 : decode cX7_readUnit 46 = .ok (.if_icmp .ne 36, 3) := by decide +kernel
theorem dX7_readUnit_49 : decode cX7_readUnit 49 = .ok (.aload_n 0, 1) := by decide +kernel
theorem dX7_readUnit_50 : decode cX7_readUnit 50 = .ok (.iload_n 1, 1) := by decide +kernel
theorem dX7_readUnit_51 : decode cX7_readUnit 51 = .ok (.invokevirtual 172, 3) := by decide +kernel
theorem dX7_readUnit_54 : decode cX7_readUnit 54 = .ok (.ifCond .eq 26, 3) := by decide +kernel
theorem dX7_readUnit_57 : decode cX7_readUnit 57 = .ok (.aload_n 0, 1) := by decide +kernel
theorem dX7_readUnit_58 : decode cX7_readUnit 58 = .ok (.iload_n 1, 1) := by decide +kernel
theorem dX7_readUnit_59 : decode cX7_readUnit 59 = .ok (.iconst 1, 1) := by decide +kernel
theorem dX7_readUnit_60 : decode cX7_readUnit 60 = .ok (.iadd, 1) := by decide +kernel
theorem dX7_readUnit_61 : decode cX7_readUnit 61 = .ok (.invokevirtual 103, 3) := by decide +kernel
theorem dX7_readUnit_64 : decode cX7_readUnit 64 = .ok (.ifCond .eq 16, 3) := by decide +kernel
theorem dX7_readUnit_67 : decode cX7_readUnit 67 = .ok (.aload_n 0, 1) := by decide +kernel
theorem dX7_readUnit_68 : decode cX7_readUnit 68 = .ok (.bipush 93, 2) := by decide +kernel
theorem dX7_readUnit_70 : decode cX7_readUnit 70 = .ok (.invokevirtual 67, 3) := by decide +kernel
theorem dX7_readUnit_73 : decode cX7_readUnit 73 = .ok (.ifCond .eq 7, 3) := by decide +kernel
theorem dX7_readUnit_76 : decode cX7_readUnit 76 = .ok (.iconst 1, 1) := by decide +kernel
theorem dX7_readUnit_77 : decode cX7_readUnit 77 = .ok (.goto 4, 3) := by decide +kernel
theorem dX7_readUnit_80 : decode cX7_readUnit 80 = .ok (.iconst 0, 1) := by decide +kernel
theorem dX7_readUnit_81 : decode cX7_readUnit 81 = .ok (.ireturn, 1) := by decide +kernel
theorem dX7_readUnit_82 : decode cX7_readUnit 82 = .ok (.aload_n 0, 1) := by decide +kernel
theorem dX7_readUnit_83 : decode cX7_readUnit 83 = .ok (.iload_n 1, 1) := by decide +kernel
theorem dX7_readUnit_84 : decode cX7_readUnit 84 = .ok (.invokevirtual 95, 3) := by decide +kernel
theorem dX7_readUnit_87 : decode cX7_readUnit 87 = .ok (.ifCond .ne 5, 3) := by decide +kernel
theorem dX7_readUnit_90 : decode cX7_readUnit 90 = .ok (.iconst 0, 1) := by decide +kernel
theorem dX7_readUnit_91 : decode cX7_readUnit 91 = .ok (.ireturn, 1) := by decide +kernel
theorem dX7_readUnit_92 : decode cX7_readUnit 92 = .ok (.aload_n 0, 1) := by decide +kernel
theorem dX7_readUnit_93 : decode cX7_readUnit 93 = .ok (.invokevirtual 175, 3) := by decide +kernel
theorem dX7_readUnit_96 : decode cX7_readUnit 96 = .ok (.istore_n 2, 1) := by decide +kernel
theorem dX7_readUnit_97 : decode cX7_readUnit 97 = .ok (.iload_n 2, 1) := by decide +kernel
theorem dX7_readUnit_98 : decode cX7_readUnit 98 = .ok (.ifCond .ne 8, 3) := by decide +kernel
theorem dX7_readUnit_101 : decode cX7_readUnit 101 = .ok (.aload_n 0, 1) := by decide +kernel
theorem dX7_readUnit_102 : decode cX7_readUnit 102 = .ok (.invokevirtual 117, 3) := by decide +kernel
theorem dX7_readUnit_105 : decode cX7_readUnit 105 = .ok (.ireturn, 1) := by decide +kernel
theorem dX7_readUnit_106 : decode cX7_readUnit 106 = .ok (.aload_n 0, 1) := by decide +kernel
theorem dX7_readUnit_107 : decode cX7_readUnit 107 = .ok (.invokevirtual 57, 3) := by decide +kernel
theorem dX7_readUnit_110 : decode cX7_readUnit 110 = .ok (.aload_n 0, 1) := by decide +kernel
theorem dX7_readUnit_111 : decode cX7_readUnit 111 = .ok (.iload_n 1, 1) := by decide +kernel
theorem dX7_readUnit_112 : decode cX7_readUnit 112 = .ok (.invokevirtual 95, 3) := by decide +kernel
theorem dX7_readUnit_115 : decode cX7_readUnit 115 = .ok (.istore_n 3, 1) := by decide +kernel
theorem dX7_readUnit_116 : decode cX7_readUnit 116 = .ok (.aload_n 0, 1) := by decide +kernel
theorem dX7_readUnit_117 : decode cX7_readUnit 117 = .ok (.getfield 29, 3) := by decide +kernel
theorem dX7_readUnit_120 : decode cX7_readUnit 120 = .ok (.iload_n 2, 1) := by decide +kernel
theorem dX7_readUnit_121 : decode cX7_readUnit 121 = .ok (.invokevirtual 161, 3) := by decide +kernel
theorem dX7_readUnit_124 : decode cX7_readUnit 124 = .ok (.iload_n 3, 1) := by decide +kernel
theorem dX7_readUnit_125 : decode cX7_readUnit 125 = .ok (.ireturn, 1) := by decide +kernel
theorem dX7_comparison_0 : decode cX7_comparison 0 = .ok (.aload_n 0, 1) := by decide +kernel
theorem dX7_comparison_1 : decode cX7_comparison 1 = .ok (.getfield 60, 3) := by decide +kernel
theorem dX7_comparison_4 : decode cX7_comparison 4 = .ok (.tableswitch 37 60 62 #[31, 28, 34], 28) := by decide +kernel
theorem dX7_comparison_32 : decode cX7_comparison 32 = .ok (.bipush (-11), 2) := by decide +kernel
theorem dX7_comparison_34 : decode cX7_comparison 34 = .ok (.ireturn, 1) := by decide +kernel
theorem dX7_comparison_35 : decode cX7_comparison 35 = .ok (.bipush (-12), 2) := by decide +kernel
theorem dX7_comparison_37 : decode cX7_comparison 37 = .ok (.ireturn, 1) := by decide +kernel
theorem dX7_comparison_38 : decode cX7_comparison 38 = .ok (.bipush (-13), 2) := by decide +kernel
theorem dX7_comparison_40 : decode cX7_comparison 40 = .ok (.ireturn, 1) := by decide +kernel
theorem dX7_comparison_41 : decode cX7_comparison 41 = .ok (.iconst 0, 1) := by decide +kernel
theorem dX7_comparison_42 : decode cX7_comparison 42 = .ok (.ireturn, 1) := by decide +kernel
theorem dX7_readSum_0 : decode cX7_readSum 0 = .ok (.aload_n 0, 1) := by decide +kernel
theorem dX7_readSum_1 : decode cX7_readSum 1 = .ok (.iload_n 1, 1) := by decide +kernel
theorem dX7_readSum_2 : decode cX7_readSum 2 = .ok (.invokevirtual 178, 3) := by decide +kernel
theorem dX7_readSum_5 : decode cX7_readSum 5 = .ok (.istore_n 2, 1) := by decide +kernel
theorem dX7_readSum_6 : decode cX7_readSum 6 = .ok (.iconst 0, 1) := by decide +kernel
theorem dX7_readSum_7 : decode cX7_readSum 7 = .ok (.istore_n 3, 1) := by decide +kernel
theorem dX7_readSum_8 : decode cX7_readSum 8 = .ok (.iload_n 3, 1) := by decide +kernel
theorem dX7_readSum_9 : decode cX7_readSum 9 = .ok (.sipush 900, 3) := by decide +kernel
theorem dX7_readSum_12 : decode cX7_readSum 12 = .ok (.if_icmp .gt 68, 3) := by decide +kernel
theorem dX7_readSum_15 : decode cX7_readSum 15 = .ok (.iload_n 2, 1) := by decide +kernel
theorem dX7_readSum_16 : decode cX7_readSum 16 = .ok (.ifCond .eq 64, 3) := by decide +kernel
theorem dX7_readSum_19 : decode cX7_readSum 19 = .ok (.aload_n 0, 1) := by decide +kernel
theorem dX7_readSum_20 : decode cX7_readSum 20 = .ok (.getfield 60, 3) := by decide +kernel
theorem dX7_readSum_23 : decode cX7_readSum 23 = .ok (.bipush 43, 2) := by decide +kernel
theorem dX7_readSum_25 : decode cX7_readSum 25 = .ok (.if_icmp .eq 12, 3) := by decide +kernel
theorem dX7_readSum_28 : decode cX7_readSum 28 = .ok (.aload_n 0, 1) := by decide +kernel
theorem dX7_readSum_29 : decode cX7_readSum 29 = .ok (.getfield 60, 3) := by decide +kernel
theorem dX7_readSum_32 : decode cX7_readSum 32 = .ok (.bipush 45, 2) := by decide +kernel
theorem dX7_readSum_34 : decode cX7_readSum 34 = .ok (.if_icmp .ne 46, 3) := by decide +kernel
theorem dX7_readSum_37 : decode cX7_readSum 37 = .ok (.aload_n 0, 1) := by decide +kernel
theorem dX7_readSum_38 : decode cX7_readSum 38 = .ok (.getfield 60, 3) := by decide +kernel
theorem dX7_readSum_41 : decode cX7_readSum 41 = .ok (.bipush 43, 2) := by decide +kernel
theorem dX7_readSum_43 : decode cX7_readSum 43 = .ok (.if_icmp .ne 8, 3) := by decide +kernel
theorem dX7_readSum_46 : decode cX7_readSum 46 = .ok (.bipush (-8), 2) := by decide +kernel
theorem dX7_readSum_48 : decode cX7_readSum 48 = .ok (.goto 5, 3) := by decide +kernel
theorem dX7_readSum_51 : decode cX7_readSum 51 = .ok (.bipush (-9), 2) := by decide +kernel
theorem dX7_readSum_53 : decode cX7_readSum 53 = .ok (.istore 4, 2) := by decide +kernel
theorem dX7_readSum_55 : decode cX7_readSum 55 = .ok (.aload_n 0, 1) := by decide +kernel
theorem dX7_readSum_56 : decode cX7_readSum 56 = .ok (.invokevirtual 57, 3) := by decide +kernel
theorem dX7_readSum_59 : decode cX7_readSum 59 = .ok (.aload_n 0, 1) := by decide +kernel
theorem dX7_readSum_60 : decode cX7_readSum 60 = .ok (.iload_n 1, 1) := by decide +kernel
theorem dX7_readSum_61 : decode cX7_readSum 61 = .ok (.invokevirtual 178, 3) := by decide +kernel
theorem dX7_readSum_64 : decode cX7_readSum 64 = .ok (.istore_n 2, 1) := by decide +kernel
theorem dX7_readSum_65 : decode cX7_readSum 65 = .ok (.aload_n 0, 1) := by decide +kernel
theorem dX7_readSum_66 : decode cX7_readSum 66 = .ok (.getfield 29, 3) := by decide +kernel
theorem dX7_readSum_69 : decode cX7_readSum 69 = .ok (.iload 4, 2) := by decide +kernel
theorem dX7_readSum_71 : decode cX7_readSum 71 = .ok (.invokevirtual 161, 3) := by decide +kernel
theorem dX7_readSum_74 : decode cX7_readSum 74 = .ok (.iinc 3 1, 3) := by decide +kernel
theorem dX7_readSum_77 : decode cX7_readSum 77 = .ok (.goto (-69), 3) := by decide +kernel
theorem dX7_readSum_80 : decode cX7_readSum 80 = .ok (.iload_n 2, 1) := by decide +kernel
theorem dX7_readSum_81 : decode cX7_readSum 81 = .ok (.ireturn, 1) := by decide +kernel
theorem dX7_readTerm_0 : decode cX7_readTerm 0 = .ok (.aload_n 0, 1) := by decide +kernel
theorem dX7_readTerm_1 : decode cX7_readTerm 1 = .ok (.iload_n 1, 1) := by decide +kernel
theorem dX7_readTerm_2 : decode cX7_readTerm 2 = .ok (.invokevirtual 181, 3) := by decide +kernel
theorem dX7_readTerm_5 : decode cX7_readTerm 5 = .ok (.istore_n 2, 1) := by decide +kernel
theorem dX7_readTerm_6 : decode cX7_readTerm 6 = .ok (.iconst 0, 1) := by decide +kernel
theorem dX7_readTerm_7 : decode cX7_readTerm 7 = .ok (.istore_n 3, 1) := by decide +kernel
theorem dX7_readTerm_8 : decode cX7_readTerm 8 = .ok (.iload_n 3, 1) := by decide +kernel
theorem dX7_readTerm_9 : decode cX7_readTerm 9 = .ok (.sipush 900, 3) := by decide +kernel
theorem dX7_readTerm_12 : decode cX7_readTerm 12 = .ok (.if_icmp .gt 41, 3) := by decide +kernel
theorem dX7_readTerm_15 : decode cX7_readTerm 15 = .ok (.iload_n 2, 1) := by decide +kernel
theorem dX7_readTerm_16 : decode cX7_readTerm 16 = .ok (.ifCond .eq 37, 3) := by decide +kernel
theorem dX7_readTerm_19 : decode cX7_readTerm 19 = .ok (.aload_n 0, 1) := by decide +kernel
theorem dX7_readTerm_20 : decode cX7_readTerm 20 = .ok (.getfield 60, 3) := by decide +kernel
theorem dX7_readTerm_23 : decode cX7_readTerm 23 = .ok (.bipush 42, 2) := by decide +kernel
theorem dX7_readTerm_25 : decode cX7_readTerm 25 = .ok (.if_icmp .ne 28, 3) := by decide +kernel
theorem dX7_readTerm_28 : decode cX7_readTerm 28 = .ok (.aload_n 0, 1) := by decide +kernel
theorem dX7_readTerm_29 : decode cX7_readTerm 29 = .ok (.invokevirtual 57, 3) := by decide +kernel
theorem dX7_readTerm_32 : decode cX7_readTerm 32 = .ok (.aload_n 0, 1) := by decide +kernel
theorem dX7_readTerm_33 : decode cX7_readTerm 33 = .ok (.iload_n 1, 1) := by decide +kernel
theorem dX7_readTerm_34 : decode cX7_readTerm 34 = .ok (.invokevirtual 181, 3) := by decide +kernel
theorem dX7_readTerm_37 : decode cX7_readTerm 37 = .ok (.istore_n 2, 1) := by decide +kernel
theorem dX7_readTerm_38 : decode cX7_readTerm 38 = .ok (.aload_n 0, 1) := by decide +kernel
theorem dX7_readTerm_39 : decode cX7_readTerm 39 = .ok (.getfield 29, 3) := by decide +kernel
theorem dX7_readTerm_42 : decode cX7_readTerm 42 = .ok (.bipush (-10), 2) := by decide +kernel
theorem dX7_readTerm_44 : decode cX7_readTerm 44 = .ok (.invokevirtual 161, 3) := by decide +kernel
theorem dX7_readTerm_47 : decode cX7_readTerm 47 = .ok (.iinc 3 1, 3) := by decide +kernel
theorem dX7_readTerm_50 : decode cX7_readTerm 50 = .ok (.goto (-42), 3) := by decide +kernel
theorem dX7_readTerm_53 : decode cX7_readTerm 53 = .ok (.iload_n 2, 1) := by decide +kernel
theorem dX7_readTerm_54 : decode cX7_readTerm 54 = .ok (.ireturn, 1) := by decide +kernel
theorem dX7_readAtom_0 : decode cX7_readAtom 0 = .ok (.aload_n 0, 1) := by decide +kernel
theorem dX7_readAtom_1 : decode cX7_readAtom 1 = .ok (.getfield 60, 3) := by decide +kernel
theorem dX7_readAtom_4 : decode cX7_readAtom 4 = .ok (.bipush 40, 2) := by decide +kernel
theorem dX7_readAtom_6 : decode cX7_readAtom 6 = .ok (.if_icmp .ne 36, 3) := by decide +kernel
theorem dX7_readAtom_9 : decode cX7_readAtom 9 = .ok (.aload_n 0, 1) := by decide +kernel
theorem dX7_readAtom_10 : decode cX7_readAtom 10 = .ok (.iload_n 1, 1) := by decide +kernel
theorem dX7_readAtom_11 : decode cX7_readAtom 11 = .ok (.invokevirtual 172, 3) := by decide +kernel
theorem dX7_readAtom_14 : decode cX7_readAtom 14 = .ok (.ifCond .eq 26, 3) := by decide +kernel
theorem dX7_readAtom_17 : decode cX7_readAtom 17 = .ok (.aload_n 0, 1) := by decide +kernel
theorem dX7_readAtom_18 : decode cX7_readAtom 18 = .ok (.iload_n 1, 1) := by decide +kernel
theorem dX7_readAtom_19 : decode cX7_readAtom 19 = .ok (.iconst 1, 1) := by decide +kernel
theorem dX7_readAtom_20 : decode cX7_readAtom 20 = .ok (.iadd, 1) := by decide +kernel
theorem dX7_readAtom_21 : decode cX7_readAtom 21 = .ok (.invokevirtual 95, 3) := by decide +kernel
theorem dX7_readAtom_24 : decode cX7_readAtom 24 = .ok (.ifCond .eq 16, 3) := by decide +kernel
theorem dX7_readAtom_27 : decode cX7_readAtom 27 = .ok (.aload_n 0, 1) := by decide +kernel
theorem dX7_readAtom_28 : decode cX7_readAtom 28 = .ok (.bipush 41, 2) := by decide +kernel
theorem dX7_readAtom_30 : decode cX7_readAtom 30 = .ok (.invokevirtual 67, 3) := by decide +kernel
theorem dX7_readAtom_33 : decode cX7_readAtom 33 = .ok (.ifCond .eq 7, 3) := by decide +kernel
theorem dX7_readAtom_36 : decode cX7_readAtom 36 = .ok (.iconst 1, 1) := by decide +kernel
theorem dX7_readAtom_37 : decode cX7_readAtom 37 = .ok (.goto 4, 3) := by decide +kernel
theorem dX7_readAtom_40 : decode cX7_readAtom 40 = .ok (.iconst 0, 1) := by decide +kernel
theorem dX7_readAtom_41 : decode cX7_readAtom 41 = .ok (.ireturn, 1) := by decide +kernel
theorem dX7_readAtom_42 : decode cX7_readAtom 42 = .ok (.aload_n 0, 1) := by decide +kernel
theorem dX7_readAtom_43 : decode cX7_readAtom 43 = .ok (.getfield 60, 3) := by decide +kernel
theorem dX7_readAtom_46 : decode cX7_readAtom 46 = .ok (.iconst 2, 1) := by decide +kernel
theorem dX7_readAtom_47 : decode cX7_readAtom 47 = .ok (.if_icmp .ne 20, 3) := by decide +kernel
theorem dX7_readAtom_50 : decode cX7_readAtom 50 = .ok (.aload_n 0, 1) := by decide +kernel
theorem dX7_readAtom_51 : decode cX7_readAtom 51 = .ok (.getfield 29, 3) := by decide +kernel
theorem dX7_readAtom_54 : decode cX7_readAtom 54 = .ok (.aload_n 0, 1) := by decide +kernel
theorem dX7_readAtom_55 : decode cX7_readAtom 55 = .ok (.iconst 0, 1) := by decide +kernel
theorem dX7_readAtom_56 : decode cX7_readAtom 56 = .ok (.sipush 999, 3) := by decide +kernel
theorem dX7_readAtom_59 : decode cX7_readAtom 59 = .ok (.invokevirtual 108, 3) := by decide +kernel
theorem dX7_readAtom_62 : decode cX7_readAtom 62 = .ok (.invokevirtual 161, 3) := by decide +kernel
theorem dX7_readAtom_65 : decode cX7_readAtom 65 = .ok (.iconst 1, 1) := by decide +kernel
theorem dX7_readAtom_66 : decode cX7_readAtom 66 = .ok (.ireturn, 1) := by decide +kernel
theorem dX7_readAtom_67 : decode cX7_readAtom 67 = .ok (.aload_n 0, 1) := by decide +kernel
theorem dX7_readAtom_68 : decode cX7_readAtom 68 = .ok (.invokevirtual 184, 3) := by decide +kernel
theorem dX7_readAtom_71 : decode cX7_readAtom 71 = .ok (.istore_n 2, 1) := by decide +kernel
theorem dX7_readAtom_72 : decode cX7_readAtom 72 = .ok (.iload_n 2, 1) := by decide +kernel
theorem dX7_readAtom_73 : decode cX7_readAtom 73 = .ok (.iconst (-1), 1) := by decide +kernel
theorem dX7_readAtom_74 : decode cX7_readAtom 74 = .ok (.if_icmp .ne 8, 3) := by decide +kernel
theorem dX7_readAtom_77 : decode cX7_readAtom 77 = .ok (.aload_n 0, 1) := by decide +kernel
theorem dX7_readAtom_78 : decode cX7_readAtom 78 = .ok (.invokevirtual 117, 3) := by decide +kernel
theorem dX7_readAtom_81 : decode cX7_readAtom 81 = .ok (.ireturn, 1) := by decide +kernel
theorem dX7_readAtom_82 : decode cX7_readAtom 82 = .ok (.aload_n 0, 1) := by decide +kernel
theorem dX7_readAtom_83 : decode cX7_readAtom 83 = .ok (.getfield 29, 3) := by decide +kernel
theorem dX7_readAtom_86 : decode cX7_readAtom 86 = .ok (.iload_n 2, 1) := by decide +kernel
theorem dX7_readAtom_87 : decode cX7_readAtom 87 = .ok (.invokestatic 187, 3) := by decide +kernel
theorem dX7_readAtom_90 : decode cX7_readAtom 90 = .ok (.invokevirtual 161, 3) := by decide +kernel
theorem dX7_readAtom_93 : decode cX7_readAtom 93 = .ok (.aload_n 0, 1) := by decide +kernel
theorem dX7_readAtom_94 : decode cX7_readAtom 94 = .ok (.invokevirtual 57, 3) := by decide +kernel
theorem dX7_readAtom_97 : decode cX7_readAtom 97 = .ok (.iconst 1, 1) := by decide +kernel
theorem dX7_readAtom_98 : decode cX7_readAtom 98 = .ok (.ireturn, 1) := by decide +kernel
theorem dX7_termWord_0 : decode cX7_termWord 0 = .ok (.aload_n 0, 1) := by decide +kernel
theorem dX7_termWord_1 : decode cX7_termWord 1 = .ok (.ldc 191, 2) := by decide +kernel
theorem dX7_termWord_3 : decode cX7_termWord 3 = .ok (.invokevirtual 76, 3) := by decide +kernel
theorem dX7_termWord_6 : decode cX7_termWord 6 = .ok (.ifCond .eq 5, 3) := by decide +kernel
theorem dX7_termWord_9 : decode cX7_termWord 9 = .ok (.iconst 0, 1) := by decide +kernel
theorem dX7_termWord_10 : decode cX7_termWord 10 = .ok (.ireturn, 1) := by decide +kernel
theorem dX7_termWord_11 : decode cX7_termWord 11 = .ok (.aload_n 0, 1) := by decide +kernel
theorem dX7_termWord_12 : decode cX7_termWord 12 = .ok (.ldc 195, 2) := by decide +kernel
theorem dX7_termWord_14 : decode cX7_termWord 14 = .ok (.invokevirtual 76, 3) := by decide +kernel
theorem dX7_termWord_17 : decode cX7_termWord 17 = .ok (.ifCond .eq 5, 3) := by decide +kernel
theorem dX7_termWord_20 : decode cX7_termWord 20 = .ok (.iconst 1, 1) := by decide +kernel
theorem dX7_termWord_21 : decode cX7_termWord 21 = .ok (.ireturn, 1) := by decide +kernel
theorem dX7_termWord_22 : decode cX7_termWord 22 = .ok (.aload_n 0, 1) := by decide +kernel
theorem dX7_termWord_23 : decode cX7_termWord 23 = .ok (.ldc 197, 2) := by decide +kernel
theorem dX7_termWord_25 : decode cX7_termWord 25 = .ok (.invokevirtual 76, 3) := by decide +kernel
theorem dX7_termWord_28 : decode cX7_termWord 28 = .ok (.ifCond .eq 5, 3) := by decide +kernel
theorem dX7_termWord_31 : decode cX7_termWord 31 = .ok (.iconst 2, 1) := by decide +kernel
theorem dX7_termWord_32 : decode cX7_termWord 32 = .ok (.ireturn, 1) := by decide +kernel
theorem dX7_termWord_33 : decode cX7_termWord 33 = .ok (.aload_n 0, 1) := by decide +kernel
theorem dX7_termWord_34 : decode cX7_termWord 34 = .ok (.ldc 199, 2) := by decide +kernel
theorem dX7_termWord_36 : decode cX7_termWord 36 = .ok (.invokevirtual 76, 3) := by decide +kernel
theorem dX7_termWord_39 : decode cX7_termWord 39 = .ok (.ifCond .eq 5, 3) := by decide +kernel
theorem dX7_termWord_42 : decode cX7_termWord 42 = .ok (.iconst 3, 1) := by decide +kernel
theorem dX7_termWord_43 : decode cX7_termWord 43 = .ok (.ireturn, 1) := by decide +kernel
theorem dX7_termWord_44 : decode cX7_termWord 44 = .ok (.aload_n 0, 1) := by decide +kernel
theorem dX7_termWord_45 : decode cX7_termWord 45 = .ok (.ldc 201, 2) := by decide +kernel
theorem dX7_termWord_47 : decode cX7_termWord 47 = .ok (.invokevirtual 76, 3) := by decide +kernel
theorem dX7_termWord_50 : decode cX7_termWord 50 = .ok (.ifCond .eq 5, 3) := by decide +kernel
theorem dX7_termWord_53 : decode cX7_termWord 53 = .ok (.iconst 4, 1) := by decide +kernel
theorem dX7_termWord_54 : decode cX7_termWord 54 = .ok (.ireturn, 1) := by decide +kernel
theorem dX7_termWord_55 : decode cX7_termWord 55 = .ok (.aload_n 0, 1) := by decide +kernel
theorem dX7_termWord_56 : decode cX7_termWord 56 = .ok (.ldc 203, 2) := by decide +kernel
theorem dX7_termWord_58 : decode cX7_termWord 58 = .ok (.invokevirtual 76, 3) := by decide +kernel
theorem dX7_termWord_61 : decode cX7_termWord 61 = .ok (.ifCond .eq 5, 3) := by decide +kernel
theorem dX7_termWord_64 : decode cX7_termWord 64 = .ok (.iconst 5, 1) := by decide +kernel
theorem dX7_termWord_65 : decode cX7_termWord 65 = .ok (.ireturn, 1) := by decide +kernel
theorem dX7_termWord_66 : decode cX7_termWord 66 = .ok (.aload_n 0, 1) := by decide +kernel
theorem dX7_termWord_67 : decode cX7_termWord 67 = .ok (.ldc 205, 2) := by decide +kernel
theorem dX7_termWord_69 : decode cX7_termWord 69 = .ok (.invokevirtual 76, 3) := by decide +kernel
theorem dX7_termWord_72 : decode cX7_termWord 72 = .ok (.ifCond .eq 8, 3) := by decide +kernel
theorem dX7_termWord_75 : decode cX7_termWord 75 = .ok (.bipush 6, 2) := by decide +kernel
theorem dX7_termWord_77 : decode cX7_termWord 77 = .ok (.goto 4, 3) := by decide +kernel
theorem dX7_termWord_80 : decode cX7_termWord 80 = .ok (.iconst (-1), 1) := by decide +kernel
theorem dX7_termWord_81 : decode cX7_termWord 81 = .ok (.ireturn, 1) := by decide +kernel
theorem dX7_goDeeper_0 : decode cX7_goDeeper 0 = .ok (.iload_n 1, 1) := by decide +kernel
theorem dX7_goDeeper_1 : decode cX7_goDeeper 1 = .ok (.bipush 6, 2) := by decide +kernel
theorem dX7_goDeeper_3 : decode cX7_goDeeper 3 = .ok (.if_icmp .lt 9, 3) := by decide +kernel
theorem dX7_goDeeper_6 : decode cX7_goDeeper 6 = .ok (.aload_n 0, 1) := by decide +kernel
theorem dX7_goDeeper_7 : decode cX7_goDeeper 7 = .ok (.iconst 4, 1) := by decide +kernel
theorem dX7_goDeeper_8 : decode cX7_goDeeper 8 = .ok (.invokevirtual 123, 3) := by decide +kernel
theorem dX7_goDeeper_11 : decode cX7_goDeeper 11 = .ok (.ireturn, 1) := by decide +kernel
theorem dX7_goDeeper_12 : decode cX7_goDeeper 12 = .ok (.aload_n 0, 1) := by decide +kernel
theorem dX7_goDeeper_13 : decode cX7_goDeeper 13 = .ok (.invokevirtual 57, 3) := by decide +kernel
theorem dX7_goDeeper_16 : decode cX7_goDeeper 16 = .ok (.iconst 1, 1) := by decide +kernel
theorem dX7_goDeeper_17 : decode cX7_goDeeper 17 = .ok (.ireturn, 1) := by decide +kernel
theorem dX7_readNumber_0 : decode cX7_readNumber 0 = .ok (.aload_n 0, 1) := by decide +kernel
theorem dX7_readNumber_1 : decode cX7_readNumber 1 = .ok (.getfield 60, 3) := by decide +kernel
theorem dX7_readNumber_4 : decode cX7_readNumber 4 = .ok (.iconst 2, 1) := by decide +kernel
theorem dX7_readNumber_5 : decode cX7_readNumber 5 = .ok (.if_icmp .eq 10, 3) := by decide +kernel
theorem dX7_readNumber_8 : decode cX7_readNumber 8 = .ok (.aload_n 0, 1) := by decide +kernel
theorem dX7_readNumber_9 : decode cX7_readNumber 9 = .ok (.invokevirtual 117, 3) := by decide +kernel
theorem dX7_readNumber_12 : decode cX7_readNumber 12 = .ok (.pop, 1) := by decide +kernel
theorem dX7_readNumber_13 : decode cX7_readNumber 13 = .ok (.iconst (-1), 1) := by decide +kernel
theorem dX7_readNumber_14 : decode cX7_readNumber 14 = .ok (.ireturn, 1) := by decide +kernel
theorem dX7_readNumber_15 : decode cX7_readNumber 15 = .ok (.iconst 0, 1) := by decide +kernel
theorem dX7_readNumber_16 : decode cX7_readNumber 16 = .ok (.istore_n 3, 1) := by decide +kernel
theorem dX7_readNumber_17 : decode cX7_readNumber 17 = .ok (.aload_n 0, 1) := by decide +kernel
theorem dX7_readNumber_18 : decode cX7_readNumber 18 = .ok (.getfield 207, 3) := by decide +kernel
theorem dX7_readNumber_21 : decode cX7_readNumber 21 = .ok (.istore 4, 2) := by decide +kernel
theorem dX7_readNumber_23 : decode cX7_readNumber 23 = .ok (.iload 4, 2) := by decide +kernel
theorem dX7_readNumber_25 : decode cX7_readNumber 25 = .ok (.aload_n 0, 1) := by decide +kernel
theorem dX7_readNumber_26 : decode cX7_readNumber 26 = .ok (.getfield 54, 3) := by decide +kernel
theorem dX7_readNumber_29 : decode cX7_readNumber 29 = .ok (.if_icmp .ge 34, 3) := by decide +kernel
theorem dX7_readNumber_32 : decode cX7_readNumber 32 = .ok (.iload 4, 2) := by decide +kernel
theorem dX7_readNumber_34 : decode cX7_readNumber 34 = .ok (.aload_n 0, 1) := by decide +kernel
theorem dX7_readNumber_35 : decode cX7_readNumber 35 = .ok (.getfield 42, 3) := by decide +kernel
theorem dX7_readNumber_38 : decode cX7_readNumber 38 = .ok (.if_icmp .ge 25, 3) := by decide +kernel
theorem dX7_readNumber_41 : decode cX7_readNumber 41 = .ok (.bipush 10, 2) := by decide +kernel
theorem dX7_readNumber_43 : decode cX7_readNumber 43 = .ok (.iload_n 3, 1) := by decide +kernel
theorem dX7_readNumber_44 : decode cX7_readNumber 44 = .ok (.imul, 1) := by decide +kernel
theorem dX7_readNumber_45 : decode cX7_readNumber 45 = .ok (.aload_n 0, 1) := by decide +kernel
theorem dX7_readNumber_46 : decode cX7_readNumber 46 = .ok (.getfield 9, 3) := by decide +kernel
theorem dX7_readNumber_49 : decode cX7_readNumber 49 = .ok (.iload 4, 2) := by decide +kernel
theorem dX7_readNumber_51 : decode cX7_readNumber 51 = .ok (.baload, 1) := by decide +kernel
theorem dX7_readNumber_52 : decode cX7_readNumber 52 = .ok (.iadd, 1) := by decide +kernel
theorem dX7_readNumber_53 : decode cX7_readNumber 53 = .ok (.bipush 48, 2) := by decide +kernel
theorem dX7_readNumber_55 : decode cX7_readNumber 55 = .ok (.isub, 1) := by decide +kernel
theorem dX7_readNumber_56 : decode cX7_readNumber 56 = .ok (.istore_n 3, 1) := by decide +kernel
theorem dX7_readNumber_57 : decode cX7_readNumber 57 = .ok (.iinc 4 1, 3) := by decide +kernel
theorem dX7_readNumber_60 : decode cX7_readNumber 60 = .ok (.goto (-37), 3) := by decide +kernel
theorem dX7_readNumber_63 : decode cX7_readNumber 63 = .ok (.iload_n 3, 1) := by decide +kernel
theorem dX7_readNumber_64 : decode cX7_readNumber 64 = .ok (.iload_n 1, 1) := by decide +kernel
theorem dX7_readNumber_65 : decode cX7_readNumber 65 = .ok (.if_icmp .lt 8, 3) := by decide +kernel
theorem dX7_readNumber_68 : decode cX7_readNumber 68 = .ok (.iload_n 3, 1) := by decide +kernel
theorem dX7_readNumber_69 : decode cX7_readNumber 69 = .ok (.iload_n 2, 1) := by decide +kernel
theorem dX7_readNumber_70 : decode cX7_readNumber 70 = .ok (.if_icmp .le 11, 3) := by decide +kernel
theorem dX7_readNumber_73 : decode cX7_readNumber 73 = .ok (.aload_n 0, 1) := by decide +kernel
theorem dX7_readNumber_74 : decode cX7_readNumber 74 = .ok (.iconst 3, 1) := by decide +kernel
theorem dX7_readNumber_75 : decode cX7_readNumber 75 = .ok (.invokevirtual 123, 3) := by decide +kernel
theorem dX7_readNumber_78 : decode cX7_readNumber 78 = .ok (.pop, 1) := by decide +kernel
theorem dX7_readNumber_79 : decode cX7_readNumber 79 = .ok (.iconst (-1), 1) := by decide +kernel
theorem dX7_readNumber_80 : decode cX7_readNumber 80 = .ok (.ireturn, 1) := by decide +kernel
theorem dX7_readNumber_81 : decode cX7_readNumber 81 = .ok (.aload_n 0, 1) := by decide +kernel
theorem dX7_readNumber_82 : decode cX7_readNumber 82 = .ok (.invokevirtual 57, 3) := by decide +kernel
theorem dX7_readNumber_85 : decode cX7_readNumber 85 = .ok (.iload_n 3, 1) := by decide +kernel
theorem dX7_readNumber_86 : decode cX7_readNumber 86 = .ok (.ireturn, 1) := by decide +kernel
theorem dX7_pass_0 : decode cX7_pass 0 = .ok (.aload_n 0, 1) := by decide +kernel
theorem dX7_pass_1 : decode cX7_pass 1 = .ok (.getfield 60, 3) := by decide +kernel
theorem dX7_pass_4 : decode cX7_pass 4 = .ok (.iload_n 1, 1) := by decide +kernel
theorem dX7_pass_5 : decode cX7_pass 5 = .ok (.if_icmp .eq 8, 3) := by decide +kernel
theorem dX7_pass_8 : decode cX7_pass 8 = .ok (.aload_n 0, 1) := by decide +kernel
theorem dX7_pass_9 : decode cX7_pass 9 = .ok (.invokevirtual 117, 3) := by decide +kernel
theorem dX7_pass_12 : decode cX7_pass 12 = .ok (.ireturn, 1) := by decide +kernel
theorem dX7_pass_13 : decode cX7_pass 13 = .ok (.aload_n 0, 1) := by decide +kernel
theorem dX7_pass_14 : decode cX7_pass 14 = .ok (.invokevirtual 57, 3) := by decide +kernel
theorem dX7_pass_17 : decode cX7_pass 17 = .ok (.iconst 1, 1) := by decide +kernel
theorem dX7_pass_18 : decode cX7_pass 18 = .ok (.ireturn, 1) := by decide +kernel
theorem dX7_passWord_0 : decode cX7_passWord 0 = .ok (.aload_n 0, 1) := by decide +kernel
theorem dX7_passWord_1 : decode cX7_passWord 1 = .ok (.aload_n 1, 1) := by decide +kernel
theorem dX7_passWord_2 : decode cX7_passWord 2 = .ok (.invokevirtual 76, 3) := by decide +kernel
theorem dX7_passWord_5 : decode cX7_passWord 5 = .ok (.ifCond .ne 8, 3) := by decide +kernel
theorem dX7_passWord_8 : decode cX7_passWord 8 = .ok (.aload_n 0, 1) := by decide +kernel
theorem dX7_passWord_9 : decode cX7_passWord 9 = .ok (.invokevirtual 117, 3) := by decide +kernel
theorem dX7_passWord_12 : decode cX7_passWord 12 = .ok (.ireturn, 1) := by decide +kernel
theorem dX7_passWord_13 : decode cX7_passWord 13 = .ok (.aload_n 0, 1) := by decide +kernel
theorem dX7_passWord_14 : decode cX7_passWord 14 = .ok (.invokevirtual 57, 3) := by decide +kernel
theorem dX7_passWord_17 : decode cX7_passWord 17 = .ok (.iconst 1, 1) := by decide +kernel
theorem dX7_passWord_18 : decode cX7_passWord 18 = .ok (.ireturn, 1) := by decide +kernel
theorem dX7_refuse_0 : decode cX7_refuse 0 = .ok (.aload_n 0, 1) := by decide +kernel
theorem dX7_refuse_1 : decode cX7_refuse 1 = .ok (.aload_n 0, 1) := by decide +kernel
theorem dX7_refuse_2 : decode cX7_refuse 2 = .ok (.getfield 60, 3) := by decide +kernel
theorem dX7_refuse_5 : decode cX7_refuse 5 = .ok (.iconst 3, 1) := by decide +kernel
theorem dX7_refuse_6 : decode cX7_refuse 6 = .ok (.if_icmp .ne 7, 3) := by decide +kernel
theorem dX7_refuse_9 : decode cX7_refuse 9 = .ok (.iconst 1, 1) := by decide +kernel
theorem dX7_refuse_10 : decode cX7_refuse 10 = .ok (.goto 4, 3) := by decide +kernel
theorem dX7_refuse_13 : decode cX7_refuse 13 = .ok (.iconst 2, 1) := by decide +kernel
theorem dX7_refuse_14 : decode cX7_refuse 14 = .ok (.invokevirtual 123, 3) := by decide +kernel
theorem dX7_refuse_17 : decode cX7_refuse 17 = .ok (.ireturn, 1) := by decide +kernel
theorem dX7_blame_0 : decode cX7_blame 0 = .ok (.aload_n 0, 1) := by decide +kernel
theorem dX7_blame_1 : decode cX7_blame 1 = .ok (.getfield 45, 3) := by decide +kernel
theorem dX7_blame_4 : decode cX7_blame 4 = .ok (.ifCond .ne 16, 3) := by decide +kernel
theorem dX7_blame_7 : decode cX7_blame 7 = .ok (.aload_n 0, 1) := by decide +kernel
theorem dX7_blame_8 : decode cX7_blame 8 = .ok (.iload_n 1, 1) := by decide +kernel
theorem dX7_blame_9 : decode cX7_blame 9 = .ok (.putfield 45, 3) := by decide +kernel
theorem dX7_blame_12 : decode cX7_blame 12 = .ok (.aload_n 0, 1) := by decide +kernel
theorem dX7_blame_13 : decode cX7_blame 13 = .ok (.aload_n 0, 1) := by decide +kernel
theorem dX7_blame_14 : decode cX7_blame 14 = .ok (.getfield 207, 3) := by decide +kernel
theorem dX7_blame_17 : decode cX7_blame 17 = .ok (.putfield 32, 3) := by decide +kernel
theorem dX7_blame_20 : decode cX7_blame 20 = .ok (.iconst 0, 1) := by decide +kernel
theorem dX7_blame_21 : decode cX7_blame 21 = .ok (.ireturn, 1) := by decide +kernel
theorem dX7_isWord_0 : decode cX7_isWord 0 = .ok (.aload_n 0, 1) := by decide +kernel
theorem dX7_isWord_1 : decode cX7_isWord 1 = .ok (.getfield 60, 3) := by decide +kernel
theorem dX7_isWord_4 : decode cX7_isWord 4 = .ok (.iconst 1, 1) := by decide +kernel
theorem dX7_isWord_5 : decode cX7_isWord 5 = .ok (.if_icmp .ne 19, 3) := by decide +kernel
theorem dX7_isWord_8 : decode cX7_isWord 8 = .ok (.aload_n 0, 1) := by decide +kernel
theorem dX7_isWord_9 : decode cX7_isWord 9 = .ok (.getfield 54, 3) := by decide +kernel
theorem dX7_isWord_12 : decode cX7_isWord 12 = .ok (.aload_n 0, 1) := by decide +kernel
theorem dX7_isWord_13 : decode cX7_isWord 13 = .ok (.getfield 207, 3) := by decide +kernel
theorem dX7_isWord_16 : decode cX7_isWord 16 = .ok (.isub, 1) := by decide +kernel
theorem dX7_isWord_17 : decode cX7_isWord 17 = .ok (.aload_n 1, 1) := by decide +kernel
theorem dX7_isWord_18 : decode cX7_isWord 18 = .ok (.invokevirtual 210, 3) := by decide +kernel
theorem dX7_isWord_21 : decode cX7_isWord 21 = .ok (.if_icmp .eq 5, 3) := by decide +kernel
theorem dX7_isWord_24 : decode cX7_isWord 24 = .ok (.iconst 0, 1) := by decide +kernel
theorem dX7_isWord_25 : decode cX7_isWord 25 = .ok (.ireturn, 1) := by decide +kernel
theorem dX7_isWord_26 : decode cX7_isWord 26 = .ok (.iconst 0, 1) := by decide +kernel
theorem dX7_isWord_27 : decode cX7_isWord 27 = .ok (.istore_n 2, 1) := by decide +kernel
theorem dX7_isWord_28 : decode cX7_isWord 28 = .ok (.iload_n 2, 1) := by decide +kernel
theorem dX7_isWord_29 : decode cX7_isWord 29 = .ok (.aload_n 1, 1) := by decide +kernel
theorem dX7_isWord_30 : decode cX7_isWord 30 = .ok (.invokevirtual 210, 3) := by decide +kernel
theorem dX7_isWord_33 : decode cX7_isWord 33 = .ok (.if_icmp .ge 43, 3) := by decide +kernel
theorem dX7_isWord_36 : decode cX7_isWord 36 = .ok (.aload_n 0, 1) := by decide +kernel
theorem dX7_isWord_37 : decode cX7_isWord 37 = .ok (.getfield 207, 3) := by decide +kernel
theorem dX7_isWord_40 : decode cX7_isWord 40 = .ok (.iload_n 2, 1) := by decide +kernel
theorem dX7_isWord_41 : decode cX7_isWord 41 = .ok (.iadd, 1) := by decide +kernel
theorem dX7_isWord_42 : decode cX7_isWord 42 = .ok (.aload_n 0, 1) := by decide +kernel
theorem dX7_isWord_43 : decode cX7_isWord 43 = .ok (.getfield 42, 3) := by decide +kernel
theorem dX7_isWord_46 : decode cX7_isWord 46 = .ok (.if_icmp .ge 30, 3) := by decide +kernel
theorem dX7_isWord_49 : decode cX7_isWord 49 = .ok (.aload_n 0, 1) := by decide +kernel
theorem dX7_isWord_50 : decode cX7_isWord 50 = .ok (.getfield 9, 3) := by decide +kernel
theorem dX7_isWord_53 : decode cX7_isWord 53 = .ok (.aload_n 0, 1) := by decide +kernel
theorem dX7_isWord_54 : decode cX7_isWord 54 = .ok (.getfield 207, 3) := by decide +kernel
theorem dX7_isWord_57 : decode cX7_isWord 57 = .ok (.iload_n 2, 1) := by decide +kernel
theorem dX7_isWord_58 : decode cX7_isWord 58 = .ok (.iadd, 1) := by decide +kernel
theorem dX7_isWord_59 : decode cX7_isWord 59 = .ok (.baload, 1) := by decide +kernel
theorem dX7_isWord_60 : decode cX7_isWord 60 = .ok (.aload_n 1, 1) := by decide +kernel
theorem dX7_isWord_61 : decode cX7_isWord 61 = .ok (.iload_n 2, 1) := by decide +kernel
theorem dX7_isWord_62 : decode cX7_isWord 62 = .ok (.invokevirtual 214, 3) := by decide +kernel
theorem dX7_isWord_65 : decode cX7_isWord 65 = .ok (.if_icmp .eq 5, 3) := by decide +kernel
theorem dX7_isWord_68 : decode cX7_isWord 68 = .ok (.iconst 0, 1) := by decide +kernel
theorem dX7_isWord_69 : decode cX7_isWord 69 = .ok (.ireturn, 1) := by decide +kernel
theorem dX7_isWord_70 : decode cX7_isWord 70 = .ok (.iinc 2 1, 3) := by decide +kernel
theorem dX7_isWord_73 : decode cX7_isWord 73 = .ok (.goto (-45), 3) := by decide +kernel
theorem dX7_isWord_76 : decode cX7_isWord 76 = .ok (.iconst 1, 1) := by decide +kernel
theorem dX7_isWord_77 : decode cX7_isWord 77 = .ok (.ireturn, 1) := by decide +kernel
theorem dX7_next_0 : decode cX7_next 0 = .ok (.aload_n 0, 1) := by decide +kernel
theorem dX7_next_1 : decode cX7_next 1 = .ok (.aload_n 0, 1) := by decide +kernel
theorem dX7_next_2 : decode cX7_next 2 = .ok (.getfield 54, 3) := by decide +kernel
theorem dX7_next_5 : decode cX7_next 5 = .ok (.putfield 207, 3) := by decide +kernel
theorem dX7_next_8 : decode cX7_next 8 = .ok (.aload_n 0, 1) := by decide +kernel
theorem dX7_next_9 : decode cX7_next 9 = .ok (.getfield 207, 3) := by decide +kernel
theorem dX7_next_12 : decode cX7_next 12 = .ok (.aload_n 0, 1) := by decide +kernel
theorem dX7_next_13 : decode cX7_next 13 = .ok (.getfield 42, 3) := by decide +kernel
theorem dX7_next_16 : decode cX7_next 16 = .ok (.if_icmp .ge 44, 3) := by decide +kernel
theorem dX7_next_19 : decode cX7_next 19 = .ok (.aload_n 0, 1) := by decide +kernel
theorem dX7_next_20 : decode cX7_next 20 = .ok (.getfield 9, 3) := by decide +kernel
theorem dX7_next_23 : decode cX7_next 23 = .ok (.aload_n 0, 1) := by decide +kernel
theorem dX7_next_24 : decode cX7_next 24 = .ok (.getfield 207, 3) := by decide +kernel
theorem dX7_next_27 : decode cX7_next 27 = .ok (.baload, 1) := by decide +kernel
theorem dX7_next_28 : decode cX7_next 28 = .ok (.bipush 32, 2) := by decide +kernel
theorem dX7_next_30 : decode cX7_next 30 = .ok (.if_icmp .eq 17, 3) := by decide +kernel
theorem dX7_next_33 : decode cX7_next 33 = .ok (.aload_n 0, 1) := by decide +kernel
theorem dX7_next_34 : decode cX7_next 34 = .ok (.getfield 9, 3) := by decide +kernel
theorem dX7_next_37 : decode cX7_next 37 = .ok (.aload_n 0, 1) := by decide +kernel
theorem dX7_next_38 : decode cX7_next 38 = .ok (.getfield 207, 3) := by decide +kernel
theorem dX7_next_41 : decode cX7_next 41 = .ok (.baload, 1) := by decide +kernel
theorem dX7_next_42 : decode cX7_next 42 = .ok (.bipush 10, 2) := by decide +kernel
theorem dX7_next_44 : decode cX7_next 44 = .ok (.if_icmp .ne 16, 3) := by decide +kernel
theorem dX7_next_47 : decode cX7_next 47 = .ok (.aload_n 0, 1) := by decide +kernel
theorem dX7_next_48 : decode cX7_next 48 = .ok (.dup, 1) := by decide +kernel
theorem dX7_next_49 : decode cX7_next 49 = .ok (.getfield 207, 3) := by decide +kernel
theorem dX7_next_52 : decode cX7_next 52 = .ok (.iconst 1, 1) := by decide +kernel
theorem dX7_next_53 : decode cX7_next 53 = .ok (.iadd, 1) := by decide +kernel
theorem dX7_next_54 : decode cX7_next 54 = .ok (.putfield 207, 3) := by decide +kernel
theorem dX7_next_57 : decode cX7_next 57 = .ok (.goto (-49), 3) := by decide +kernel
theorem dX7_next_60 : decode cX7_next 60 = .ok (.aload_n 0, 1) := by decide +kernel
theorem dX7_next_61 : decode cX7_next 61 = .ok (.aload_n 0, 1) := by decide +kernel
theorem dX7_next_62 : decode cX7_next 62 = .ok (.getfield 207, 3) := by decide +kernel
theorem dX7_next_65 : decode cX7_next 65 = .ok (.putfield 54, 3) := by decide +kernel
theorem dX7_next_68 : decode cX7_next 68 = .ok (.aload_n 0, 1) := by decide +kernel
theorem dX7_next_69 : decode cX7_next 69 = .ok (.getfield 207, 3) := by decide +kernel
theorem dX7_next_72 : decode cX7_next 72 = .ok (.aload_n 0, 1) := by decide +kernel
theorem dX7_next_73 : decode cX7_next 73 = .ok (.getfield 42, 3) := by decide +kernel
theorem dX7_next_76 : decode cX7_next 76 = .ok (.if_icmp .lt 9, 3) := by decide +kernel
theorem dX7_next_79 : decode cX7_next 79 = .ok (.aload_n 0, 1) := by decide +kernel
theorem dX7_next_80 : decode cX7_next 80 = .ok (.iconst 0, 1) := by decide +kernel
theorem dX7_next_81 : decode cX7_next 81 = .ok (.putfield 60, 3) := by decide +kernel
theorem dX7_next_84 : decode cX7_next 84 = .ok (.return_, 1) := by decide +kernel
theorem dX7_next_85 : decode cX7_next 85 = .ok (.aload_n 0, 1) := by decide +kernel
theorem dX7_next_86 : decode cX7_next 86 = .ok (.getfield 9, 3) := by decide +kernel
theorem dX7_next_89 : decode cX7_next 89 = .ok (.aload_n 0, 1) := by decide +kernel
theorem dX7_next_90 : decode cX7_next 90 = .ok (.getfield 207, 3) := by decide +kernel
theorem dX7_next_93 : decode cX7_next 93 = .ok (.baload, 1) := by decide +kernel
theorem dX7_next_94 : decode cX7_next 94 = .ok (.istore_n 1, 1) := by decide +kernel
theorem dX7_next_95 : decode cX7_next 95 = .ok (.iload_n 1, 1) := by decide +kernel
theorem dX7_next_96 : decode cX7_next 96 = .ok (.invokestatic 218, 3) := by decide +kernel
theorem dX7_next_99 : decode cX7_next 99 = .ok (.ifCond .eq 47, 3) := by decide +kernel
theorem dX7_next_102 : decode cX7_next 102 = .ok (.aload_n 0, 1) := by decide +kernel
theorem dX7_next_103 : decode cX7_next 103 = .ok (.iconst 1, 1) := by decide +kernel
theorem dX7_next_104 : decode cX7_next 104 = .ok (.putfield 60, 3) := by decide +kernel
theorem dX7_next_107 : decode cX7_next 107 = .ok (.aload_n 0, 1) := by decide +kernel
theorem dX7_next_108 : decode cX7_next 108 = .ok (.getfield 54, 3) := by decide +kernel
theorem dX7_next_111 : decode cX7_next 111 = .ok (.aload_n 0, 1) := by decide +kernel
theorem dX7_next_112 : decode cX7_next 112 = .ok (.getfield 42, 3) := by decide +kernel
theorem dX7_next_115 : decode cX7_next 115 = .ok (.if_icmp .ge 135, 3) := by decide +kernel
theorem dX7_next_118 : decode cX7_next 118 = .ok (.aload_n 0, 1) := by decide +kernel
theorem dX7_next_119 : decode cX7_next 119 = .ok (.getfield 9, 3) := by decide +kernel
theorem dX7_next_122 : decode cX7_next 122 = .ok (.aload_n 0, 1) := by decide +kernel
theorem dX7_next_123 : decode cX7_next 123 = .ok (.getfield 54, 3) := by decide +kernel
theorem dX7_next_126 : decode cX7_next 126 = .ok (.baload, 1) := by decide +kernel
theorem dX7_next_127 : decode cX7_next 127 = .ok (.invokestatic 218, 3) := by decide +kernel
theorem dX7_next_130 : decode cX7_next 130 = .ok (.ifCond .eq 120, 3) := by decide +kernel
theorem dX7_next_133 : decode cX7_next 133 = .ok (.aload_n 0, 1) := by decide +kernel
theorem dX7_next_134 : decode cX7_next 134 = .ok (.dup, 1) := by decide +kernel
theorem dX7_next_135 : decode cX7_next 135 = .ok (.getfield 54, 3) := by decide +kernel
theorem dX7_next_138 : decode cX7_next 138 = .ok (.iconst 1, 1) := by decide +kernel
theorem dX7_next_139 : decode cX7_next 139 = .ok (.iadd, 1) := by decide +kernel
theorem dX7_next_140 : decode cX7_next 140 = .ok (.putfield 54, 3) := by decide +kernel
theorem dX7_next_143 : decode cX7_next 143 = .ok (.goto (-36), 3) := by decide +kernel
theorem dX7_next_146 : decode cX7_next 146 = .ok (.iload_n 1, 1) := by decide +kernel
theorem dX7_next_147 : decode cX7_next 147 = .ok (.invokestatic 221, 3) := by decide +kernel
theorem dX7_next_150 : decode cX7_next 150 = .ok (.ifCond .eq 67, 3) := by decide +kernel
theorem dX7_next_153 : decode cX7_next 153 = .ok (.aload_n 0, 1) := by decide +kernel
theorem dX7_next_154 : decode cX7_next 154 = .ok (.getfield 54, 3) := by decide +kernel
theorem dX7_next_157 : decode cX7_next 157 = .ok (.aload_n 0, 1) := by decide +kernel
theorem dX7_next_158 : decode cX7_next 158 = .ok (.getfield 42, 3) := by decide +kernel
theorem dX7_next_161 : decode cX7_next 161 = .ok (.if_icmp .ge 31, 3) := by decide +kernel
theorem dX7_next_164 : decode cX7_next 164 = .ok (.aload_n 0, 1) := by decide +kernel
theorem dX7_next_165 : decode cX7_next 165 = .ok (.getfield 9, 3) := by decide +kernel
theorem dX7_next_168 : decode cX7_next 168 = .ok (.aload_n 0, 1) := by decide +kernel
theorem dX7_next_169 : decode cX7_next 169 = .ok (.getfield 54, 3) := by decide +kernel
theorem dX7_next_172 : decode cX7_next 172 = .ok (.baload, 1) := by decide +kernel
theorem dX7_next_173 : decode cX7_next 173 = .ok (.invokestatic 221, 3) := by decide +kernel
theorem dX7_next_176 : decode cX7_next 176 = .ok (.ifCond .eq 16, 3) := by decide +kernel
theorem dX7_next_179 : decode cX7_next 179 = .ok (.aload_n 0, 1) := by decide +kernel
theorem dX7_next_180 : decode cX7_next 180 = .ok (.dup, 1) := by decide +kernel
theorem dX7_next_181 : decode cX7_next 181 = .ok (.getfield 54, 3) := by decide +kernel
theorem dX7_next_184 : decode cX7_next 184 = .ok (.iconst 1, 1) := by decide +kernel
theorem dX7_next_185 : decode cX7_next 185 = .ok (.iadd, 1) := by decide +kernel
theorem dX7_next_186 : decode cX7_next 186 = .ok (.putfield 54, 3) := by decide +kernel
theorem dX7_next_189 : decode cX7_next 189 = .ok (.goto (-36), 3) := by decide +kernel
theorem dX7_next_192 : decode cX7_next 192 = .ok (.aload_n 0, 1) := by decide +kernel
theorem dX7_next_193 : decode cX7_next 193 = .ok (.aload_n 0, 1) := by decide +kernel
theorem dX7_next_194 : decode cX7_next 194 = .ok (.getfield 54, 3) := by decide +kernel
theorem dX7_next_197 : decode cX7_next 197 = .ok (.aload_n 0, 1) := by decide +kernel
theorem dX7_next_198 : decode cX7_next 198 = .ok (.getfield 207, 3) := by decide +kernel
theorem dX7_next_201 : decode cX7_next 201 = .ok (.isub, 1) := by decide +kernel
theorem dX7_next_202 : decode cX7_next 202 = .ok (.iconst 3, 1) := by decide +kernel
theorem dX7_next_203 : decode cX7_next 203 = .ok (.if_icmp .le 7, 3) := by decide +kernel
theorem dX7_next_206 : decode cX7_next 206 = .ok (.iconst 3, 1) := by decide +kernel
theorem dX7_next_207 : decode cX7_next 207 = .ok (.goto 4, 3) := by decide +kernel
theorem dX7_next_210 : decode cX7_next 210 = .ok (.iconst 2, 1) := by decide +kernel
theorem dX7_next_211 : decode cX7_next 211 = .ok (.putfield 60, 3) := by decide +kernel
theorem dX7_next_214 : decode cX7_next 214 = .ok (.goto 36, 3) := by decide +kernel
theorem dX7_next_217 : decode cX7_next 217 = .ok (.aload_n 0, 1) := by decide +kernel
theorem dX7_next_218 : decode cX7_next 218 = .ok (.iload_n 1, 1) := by decide +kernel
theorem dX7_next_219 : decode cX7_next 219 = .ok (.ifCond .le 17, 3) := by decide +kernel
theorem dX7_next_222 : decode cX7_next 222 = .ok (.ldc 224, 2) := by decide +kernel
theorem dX7_next_224 : decode cX7_next 224 = .ok (.iload_n 1, 1) := by decide +kernel
theorem dX7_next_225 : decode cX7_next 225 = .ok (.i2c, 1) := by decide +kernel
theorem dX7_next_226 : decode cX7_next 226 = .ok (.invokevirtual 226, 3) := by decide +kernel
theorem dX7_next_229 : decode cX7_next 229 = .ok (.ifCond .lt 7, 3) := by decide +kernel
theorem dX7_next_232 : decode cX7_next 232 = .ok (.iload_n 1, 1) := by decide +kernel
theorem dX7_next_233 : decode cX7_next 233 = .ok (.goto 4, 3) := by decide +kernel
theorem dX7_next_236 : decode cX7_next 236 = .ok (.iconst 3, 1) := by decide +kernel
theorem dX7_next_237 : decode cX7_next 237 = .ok (.putfield 60, 3) := by decide +kernel
theorem dX7_next_240 : decode cX7_next 240 = .ok (.aload_n 0, 1) := by decide +kernel
theorem dX7_next_241 : decode cX7_next 241 = .ok (.dup, 1) := by decide +kernel
theorem dX7_next_242 : decode cX7_next 242 = .ok (.getfield 54, 3) := by decide +kernel
theorem dX7_next_245 : decode cX7_next 245 = .ok (.iconst 1, 1) := by decide +kernel
theorem dX7_next_246 : decode cX7_next 246 = .ok (.iadd, 1) := by decide +kernel
theorem dX7_next_247 : decode cX7_next 247 = .ok (.putfield 54, 3) := by decide +kernel
theorem dX7_next_250 : decode cX7_next 250 = .ok (.return_, 1) := by decide +kernel
theorem dX7_isLetter_0 : decode cX7_isLetter 0 = .ok (.iload_n 0, 1) := by decide +kernel
theorem dX7_isLetter_1 : decode cX7_isLetter 1 = .ok (.bipush 97, 2) := by decide +kernel
theorem dX7_isLetter_3 : decode cX7_isLetter 3 = .ok (.if_icmp .lt 13, 3) := by decide +kernel
theorem dX7_isLetter_6 : decode cX7_isLetter 6 = .ok (.iload_n 0, 1) := by decide +kernel
theorem dX7_isLetter_7 : decode cX7_isLetter 7 = .ok (.bipush 122, 2) := by decide +kernel
theorem dX7_isLetter_9 : decode cX7_isLetter 9 = .ok (.if_icmp .gt 7, 3) := by decide +kernel
theorem dX7_isLetter_12 : decode cX7_isLetter 12 = .ok (.iconst 1, 1) := by decide +kernel
theorem dX7_isLetter_13 : decode cX7_isLetter 13 = .ok (.goto 4, 3) := by decide +kernel
theorem dX7_isLetter_16 : decode cX7_isLetter 16 = .ok (.iconst 0, 1) := by decide +kernel
theorem dX7_isLetter_17 : decode cX7_isLetter 17 = .ok (.ireturn, 1) := by decide +kernel
theorem dX7_isDigit_0 : decode cX7_isDigit 0 = .ok (.iload_n 0, 1) := by decide +kernel
theorem dX7_isDigit_1 : decode cX7_isDigit 1 = .ok (.bipush 48, 2) := by decide +kernel
theorem dX7_isDigit_3 : decode cX7_isDigit 3 = .ok (.if_icmp .lt 13, 3) := by decide +kernel
theorem dX7_isDigit_6 : decode cX7_isDigit 6 = .ok (.iload_n 0, 1) := by decide +kernel
theorem dX7_isDigit_7 : decode cX7_isDigit 7 = .ok (.bipush 57, 2) := by decide +kernel
theorem dX7_isDigit_9 : decode cX7_isDigit 9 = .ok (.if_icmp .gt 7, 3) := by decide +kernel
theorem dX7_isDigit_12 : decode cX7_isDigit 12 = .ok (.iconst 1, 1) := by decide +kernel
theorem dX7_isDigit_13 : decode cX7_isDigit 13 = .ok (.goto 4, 3) := by decide +kernel
theorem dX7_isDigit_16 : decode cX7_isDigit 16 = .ok (.iconst 0, 1) := by decide +kernel
theorem dX7_isDigit_17 : decode cX7_isDigit 17 = .ok (.ireturn, 1) := by decide +kernel
theorem dX8_init_0 : decode cX8_init 0 = .ok (.aload_n 0, 1) := by decide +kernel
theorem dX8_init_1 : decode cX8_init 1 = .ok (.invokespecial 3, 3) := by decide +kernel
theorem dX8_init_4 : decode cX8_init 4 = .ok (.aload_n 0, 1) := by decide +kernel
theorem dX8_init_5 : decode cX8_init 5 = .ok (.bipush 14, 2) := by decide +kernel
theorem dX8_init_7 : decode cX8_init 7 = .ok (.newarray .int, 2) := by decide +kernel
theorem dX8_init_9 : decode cX8_init 9 = .ok (.putfield 9, 3) := by decide +kernel
theorem dX8_init_12 : decode cX8_init 12 = .ok (.aload_n 0, 1) := by decide +kernel
theorem dX8_init_13 : decode cX8_init 13 = .ok (.bipush 8, 2) := by decide +kernel
theorem dX8_init_15 : decode cX8_init 15 = .ok (.newarray .int, 2) := by decide +kernel
theorem dX8_init_17 : decode cX8_init 17 = .ok (.putfield 15, 3) := by decide +kernel
theorem dX8_init_20 : decode cX8_init 20 = .ok (.aload_n 0, 1) := by decide +kernel
theorem dX8_init_21 : decode cX8_init 21 = .ok (.new 18, 3) := by decide +kernel
theorem dX8_init_24 : decode cX8_init 24 = .ok (.dup, 1) := by decide +kernel
theorem dX8_init_25 : decode cX8_init 25 = .ok (.invokespecial 20, 3) := by decide +kernel
theorem dX8_init_28 : decode cX8_init 28 = .ok (.putfield 21, 3) := by decide +kernel
theorem dX8_init_31 : decode cX8_init 31 = .ok (.aload_n 0, 1) := by decide +kernel
theorem dX8_init_32 : decode cX8_init 32 = .ok (.new 18, 3) := by decide +kernel
theorem dX8_init_35 : decode cX8_init 35 = .ok (.dup, 1) := by decide +kernel
theorem dX8_init_36 : decode cX8_init 36 = .ok (.invokespecial 20, 3) := by decide +kernel
theorem dX8_init_39 : decode cX8_init 39 = .ok (.putfield 25, 3) := by decide +kernel
theorem dX8_init_42 : decode cX8_init 42 = .ok (.aload_n 0, 1) := by decide +kernel
theorem dX8_init_43 : decode cX8_init 43 = .ok (.bipush 10, 2) := by decide +kernel
theorem dX8_init_45 : decode cX8_init 45 = .ok (.putfield 28, 3) := by decide +kernel
theorem dX8_init_48 : decode cX8_init 48 = .ok (.aload_n 0, 1) := by decide +kernel
theorem dX8_init_49 : decode cX8_init 49 = .ok (.bipush 14, 2) := by decide +kernel
theorem dX8_init_51 : decode cX8_init 51 = .ok (.putfield 32, 3) := by decide +kernel
theorem dX8_init_54 : decode cX8_init 54 = .ok (.aload_n 0, 1) := by decide +kernel
theorem dX8_init_55 : decode cX8_init 55 = .ok (.invokevirtual 35, 3) := by decide +kernel
theorem dX8_init_58 : decode cX8_init 58 = .ok (.return_, 1) := by decide +kernel
theorem dX8_clear_0 : decode cX8_clear 0 = .ok (.aload_n 0, 1) := by decide +kernel
theorem dX8_clear_1 : decode cX8_clear 1 = .ok (.iconst 0, 1) := by decide +kernel
theorem dX8_clear_2 : decode cX8_clear 2 = .ok (.putfield 38, 3) := by decide +kernel
theorem dX8_clear_5 : decode cX8_clear 5 = .ok (.aload_n 0, 1) := by decide +kernel
theorem dX8_clear_6 : decode cX8_clear 6 = .ok (.iconst 0, 1) := by decide +kernel
theorem dX8_clear_7 : decode cX8_clear 7 = .ok (.putfield 41, 3) := by decide +kernel
theorem dX8_clear_10 : decode cX8_clear 10 = .ok (.aload_n 0, 1) := by decide +kernel
theorem dX8_clear_11 : decode cX8_clear 11 = .ok (.iconst 0, 1) := by decide +kernel
theorem dX8_clear_12 : decode cX8_clear 12 = .ok (.putfield 44, 3) := by decide +kernel
theorem dX8_clear_15 : decode cX8_clear 15 = .ok (.aload_n 0, 1) := by decide +kernel
theorem dX8_clear_16 : decode cX8_clear 16 = .ok (.bipush 10, 2) := by decide +kernel
theorem dX8_clear_18 : decode cX8_clear 18 = .ok (.putfield 28, 3) := by decide +kernel
theorem dX8_clear_21 : decode cX8_clear 21 = .ok (.aload_n 0, 1) := by decide +kernel
theorem dX8_clear_22 : decode cX8_clear 22 = .ok (.bipush 14, 2) := by decide +kernel
theorem dX8_clear_24 : decode cX8_clear 24 = .ok (.putfield 32, 3) := by decide +kernel
theorem dX8_clear_27 : decode cX8_clear 27 = .ok (.aload_n 0, 1) := by decide +kernel
theorem dX8_clear_28 : decode cX8_clear 28 = .ok (.invokevirtual 35, 3) := by decide +kernel
theorem dX8_clear_31 : decode cX8_clear 31 = .ok (.return_, 1) := by decide +kernel
theorem dX8_setFirstLaws_0 : decode cX8_setFirstLaws 0 = .ok (.aload_n 0, 1) := by decide +kernel
theorem dX8_setFirstLaws_1 : decode cX8_setFirstLaws 1 = .ok (.getfield 21, 3) := by decide +kernel
theorem dX8_setFirstLaws_4 : decode cX8_setFirstLaws 4 = .ok (.iconst 0, 1) := by decide +kernel
theorem dX8_setFirstLaws_5 : decode cX8_setFirstLaws 5 = .ok (.putfield 47, 3) := by decide +kernel
theorem dX8_setFirstLaws_8 : decode cX8_setFirstLaws 8 = .ok (.aload_n 0, 1) := by decide +kernel
theorem dX8_setFirstLaws_9 : decode cX8_setFirstLaws 9 = .ok (.getfield 21, 3) := by decide +kernel
theorem dX8_setFirstLaws_12 : decode cX8_setFirstLaws 12 = .ok (.iconst 1, 1) := by decide +kernel
theorem dX8_setFirstLaws_13 : decode cX8_setFirstLaws 13 = .ok (.invokestatic 52, 3) := by decide +kernel
theorem dX8_setFirstLaws_16 : decode cX8_setFirstLaws 16 = .ok (.invokevirtual 56, 3) := by decide +kernel
theorem dX8_setFirstLaws_19 : decode cX8_setFirstLaws 19 = .ok (.aload_n 0, 1) := by decide +kernel
theorem dX8_setFirstLaws_20 : decode cX8_setFirstLaws 20 = .ok (.getfield 21, 3) := by decide +kernel
theorem dX8_setFirstLaws_23 : decode cX8_setFirstLaws 23 = .ok (.iconst 2, 1) := by decide +kernel
theorem dX8_setFirstLaws_24 : decode cX8_setFirstLaws 24 = .ok (.invokestatic 52, 3) := by decide +kernel
theorem dX8_setFirstLaws_27 : decode cX8_setFirstLaws 27 = .ok (.invokevirtual 56, 3) := by decide +kernel
theorem dX8_setFirstLaws_30 : decode cX8_setFirstLaws 30 = .ok (.aload_n 0, 1) := by decide +kernel
theorem dX8_setFirstLaws_31 : decode cX8_setFirstLaws 31 = .ok (.getfield 21, 3) := by decide +kernel
theorem dX8_setFirstLaws_34 : decode cX8_setFirstLaws 34 = .ok (.iconst 2, 1) := by decide +kernel
theorem dX8_setFirstLaws_35 : decode cX8_setFirstLaws 35 = .ok (.invokevirtual 56, 3) := by decide +kernel
theorem dX8_setFirstLaws_38 : decode cX8_setFirstLaws 38 = .ok (.aload_n 0, 1) := by decide +kernel
theorem dX8_setFirstLaws_39 : decode cX8_setFirstLaws 39 = .ok (.getfield 21, 3) := by decide +kernel
theorem dX8_setFirstLaws_42 : decode cX8_setFirstLaws 42 = .ok (.bipush (-10), 2) := by decide +kernel
theorem dX8_setFirstLaws_44 : decode cX8_setFirstLaws 44 = .ok (.invokevirtual 56, 3) := by decide +kernel
theorem dX8_setFirstLaws_47 : decode cX8_setFirstLaws 47 = .ok (.aload_n 0, 1) := by decide +kernel
theorem dX8_setFirstLaws_48 : decode cX8_setFirstLaws 48 = .ok (.getfield 21, 3) := by decide +kernel
theorem dX8_setFirstLaws_51 : decode cX8_setFirstLaws 51 = .ok (.bipush (-9), 2) := by decide +kernel
theorem dX8_setFirstLaws_53 : decode cX8_setFirstLaws 53 = .ok (.invokevirtual 56, 3) := by decide +kernel
theorem dX8_setFirstLaws_56 : decode cX8_setFirstLaws 56 = .ok (.aload_n 0, 1) := by decide +kernel
theorem dX8_setFirstLaws_57 : decode cX8_setFirstLaws 57 = .ok (.getfield 25, 3) := by decide +kernel
theorem dX8_setFirstLaws_60 : decode cX8_setFirstLaws 60 = .ok (.iconst 0, 1) := by decide +kernel
theorem dX8_setFirstLaws_61 : decode cX8_setFirstLaws 61 = .ok (.putfield 47, 3) := by decide +kernel
theorem dX8_setFirstLaws_64 : decode cX8_setFirstLaws 64 = .ok (.aload_n 0, 1) := by decide +kernel
theorem dX8_setFirstLaws_65 : decode cX8_setFirstLaws 65 = .ok (.getfield 25, 3) := by decide +kernel
theorem dX8_setFirstLaws_68 : decode cX8_setFirstLaws 68 = .ok (.iconst 1, 1) := by decide +kernel
theorem dX8_setFirstLaws_69 : decode cX8_setFirstLaws 69 = .ok (.invokevirtual 56, 3) := by decide +kernel
theorem dX8_setFirstLaws_72 : decode cX8_setFirstLaws 72 = .ok (.return_, 1) := by decide +kernel
theorem dX8_become_0 : decode cX8_become 0 = .ok (.aload_n 0, 1) := by decide +kernel
theorem dX8_become_1 : decode cX8_become 1 = .ok (.aload_n 1, 1) := by decide +kernel
theorem dX8_become_2 : decode cX8_become 2 = .ok (.getfield 38, 3) := by decide +kernel
theorem dX8_become_5 : decode cX8_become 5 = .ok (.putfield 38, 3) := by decide +kernel
theorem dX8_become_8 : decode cX8_become 8 = .ok (.aload_n 0, 1) := by decide +kernel
theorem dX8_become_9 : decode cX8_become 9 = .ok (.aload_n 1, 1) := by decide +kernel
theorem dX8_become_10 : decode cX8_become 10 = .ok (.getfield 41, 3) := by decide +kernel
theorem dX8_become_13 : decode cX8_become 13 = .ok (.putfield 41, 3) := by decide +kernel
theorem dX8_become_16 : decode cX8_become 16 = .ok (.aload_n 0, 1) := by decide +kernel
theorem dX8_become_17 : decode cX8_become 17 = .ok (.aload_n 1, 1) := by decide +kernel
theorem dX8_become_18 : decode cX8_become 18 = .ok (.getfield 28, 3) := by decide +kernel
theorem dX8_become_21 : decode cX8_become 21 = .ok (.putfield 28, 3) := by decide +kernel
theorem dX8_become_24 : decode cX8_become 24 = .ok (.aload_n 0, 1) := by decide +kernel
theorem dX8_become_25 : decode cX8_become 25 = .ok (.aload_n 1, 1) := by decide +kernel
theorem dX8_become_26 : decode cX8_become 26 = .ok (.getfield 32, 3) := by decide +kernel
theorem dX8_become_29 : decode cX8_become 29 = .ok (.putfield 32, 3) := by decide +kernel
theorem dX8_become_32 : decode cX8_become 32 = .ok (.aload_n 0, 1) := by decide +kernel
theorem dX8_become_33 : decode cX8_become 33 = .ok (.aload_n 1, 1) := by decide +kernel
theorem dX8_become_34 : decode cX8_become 34 = .ok (.getfield 44, 3) := by decide +kernel
theorem dX8_become_37 : decode cX8_become 37 = .ok (.putfield 44, 3) := by decide +kernel
theorem dX8_become_40 : decode cX8_become 40 = .ok (.aload_n 1, 1) := by decide +kernel
theorem dX8_become_41 : decode cX8_become 41 = .ok (.getfield 9, 3) := by decide +kernel
theorem dX8_become_44 : decode cX8_become 44 = .ok (.iconst 0, 1) := by decide +kernel
theorem dX8_become_45 : decode cX8_become 45 = .ok (.aload_n 0, 1) := by decide +kernel
theorem dX8_become_46 : decode cX8_become 46 = .ok (.getfield 9, 3) := by decide +kernel
theorem dX8_become_49 : decode cX8_become 49 = .ok (.iconst 0, 1) := by decide +kernel
theorem dX8_become_50 : decode cX8_become 50 = .ok (.bipush 14, 2) := by decide +kernel
theorem dX8_become_52 : decode cX8_become 52 = .ok (.invokestatic 60, 3) := by decide +kernel
theorem dX8_become_55 : decode cX8_become 55 = .ok (.aload_n 1, 1) := by decide +kernel
theorem dX8_become_56 : decode cX8_become 56 = .ok (.getfield 15, 3) := by decide +kernel
theorem dX8_become_59 : decode cX8_become 59 = .ok (.iconst 0, 1) := by decide +kernel
theorem dX8_become_60 : decode cX8_become 60 = .ok (.aload_n 0, 1) := by decide +kernel
theorem dX8_become_61 : decode cX8_become 61 = .ok (.getfield 15, 3) := by decide +kernel
theorem dX8_become_64 : decode cX8_become 64 = .ok (.iconst 0, 1) := by decide +kernel
theorem dX8_become_65 : decode cX8_become 65 = .ok (.bipush 8, 2) := by decide +kernel
theorem dX8_become_67 : decode cX8_become 67 = .ok (.invokestatic 60, 3) := by decide +kernel
theorem dX8_become_70 : decode cX8_become 70 = .ok (.aload_n 0, 1) := by decide +kernel
theorem dX8_become_71 : decode cX8_become 71 = .ok (.getfield 21, 3) := by decide +kernel
theorem dX8_become_74 : decode cX8_become 74 = .ok (.aload_n 1, 1) := by decide +kernel
theorem dX8_become_75 : decode cX8_become 75 = .ok (.getfield 21, 3) := by decide +kernel
theorem dX8_become_78 : decode cX8_become 78 = .ok (.invokevirtual 66, 3) := by decide +kernel
theorem dX8_become_81 : decode cX8_become 81 = .ok (.aload_n 0, 1) := by decide +kernel
theorem dX8_become_82 : decode cX8_become 82 = .ok (.getfield 25, 3) := by decide +kernel
theorem dX8_become_85 : decode cX8_become 85 = .ok (.aload_n 1, 1) := by decide +kernel
theorem dX8_become_86 : decode cX8_become 86 = .ok (.getfield 25, 3) := by decide +kernel
theorem dX8_become_89 : decode cX8_become 89 = .ok (.invokevirtual 66, 3) := by decide +kernel
theorem dX8_become_92 : decode cX8_become 92 = .ok (.return_, 1) := by decide +kernel
theorem dX8_everybody_0 : decode cX8_everybody 0 = .ok (.iconst 1, 1) := by decide +kernel
theorem dX8_everybody_1 : decode cX8_everybody 1 = .ok (.aload_n 0, 1) := by decide +kernel
theorem dX8_everybody_2 : decode cX8_everybody 2 = .ok (.getfield 41, 3) := by decide +kernel
theorem dX8_everybody_5 : decode cX8_everybody 5 = .ok (.ishl, 1) := by decide +kernel
theorem dX8_everybody_6 : decode cX8_everybody 6 = .ok (.iconst 1, 1) := by decide +kernel
theorem dX8_everybody_7 : decode cX8_everybody 7 = .ok (.isub, 1) := by decide +kernel
theorem dX8_everybody_8 : decode cX8_everybody 8 = .ok (.ireturn, 1) := by decide +kernel
theorem dX8_whoAre_0 : decode cX8_whoAre 0 = .ok (.iconst 0, 1) := by decide +kernel
theorem dX8_whoAre_1 : decode cX8_whoAre 1 = .ok (.istore_n 2, 1) := by decide +kernel
theorem dX8_whoAre_2 : decode cX8_whoAre 2 = .ok (.iconst 0, 1) := by decide +kernel
theorem dX8_whoAre_3 : decode cX8_whoAre 3 = .ok (.istore_n 3, 1) := by decide +kernel
theorem dX8_whoAre_4 : decode cX8_whoAre 4 = .ok (.iload_n 3, 1) := by decide +kernel
theorem dX8_whoAre_5 : decode cX8_whoAre 5 = .ok (.aload_n 0, 1) := by decide +kernel
theorem dX8_whoAre_6 : decode cX8_whoAre 6 = .ok (.getfield 41, 3) := by decide +kernel
theorem dX8_whoAre_9 : decode cX8_whoAre 9 = .ok (.if_icmp .ge 28, 3) := by decide +kernel
theorem dX8_whoAre_12 : decode cX8_whoAre 12 = .ok (.aload_n 0, 1) := by decide +kernel
theorem dX8_whoAre_13 : decode cX8_whoAre 13 = .ok (.getfield 15, 3) := by decide +kernel
theorem dX8_whoAre_16 : decode cX8_whoAre 16 = .ok (.iload_n 3, 1) := by decide +kernel
theorem dX8_whoAre_17 : decode cX8_whoAre 17 = .ok (.iaload, 1) := by decide +kernel
theorem dX8_whoAre_18 : decode cX8_whoAre 18 = .ok (.iconst 1, 1) := by decide +kernel
theorem dX8_whoAre_19 : decode cX8_whoAre 19 = .ok (.iload_n 1, 1) := by decide +kernel
theorem dX8_whoAre_20 : decode cX8_whoAre 20 = .ok (.ishl, 1) := by decide +kernel
theorem dX8_whoAre_21 : decode cX8_whoAre 21 = .ok (.iand, 1) := by decide +kernel
theorem dX8_whoAre_22 : decode cX8_whoAre 22 = .ok (.ifCond .eq 9, 3) := by decide +kernel
theorem dX8_whoAre_25 : decode cX8_whoAre 25 = .ok (.iload_n 2, 1) := by decide +kernel
theorem dX8_whoAre_26 : decode cX8_whoAre 26 = .ok (.iconst 1, 1) := by decide +kernel
theorem dX8_whoAre_27 : decode cX8_whoAre 27 = .ok (.iload_n 3, 1) := by decide +kernel
theorem dX8_whoAre_28 : decode cX8_whoAre 28 = .ok (.ishl, 1) := by decide +kernel
theorem dX8_whoAre_29 : decode cX8_whoAre 29 = .ok (.ior, 1) := by decide +kernel
theorem dX8_whoAre_30 : decode cX8_whoAre 30 = .ok (.istore_n 2, 1) := by decide +kernel
theorem dX8_whoAre_31 : decode cX8_whoAre 31 = .ok (.iinc 3 1, 3) := by decide +kernel
theorem dX8_whoAre_34 : decode cX8_whoAre 34 = .ok (.goto (-30), 3) := by decide +kernel
theorem dX8_whoAre_37 : decode cX8_whoAre 37 = .ok (.iload_n 2, 1) := by decide +kernel
theorem dX8_whoAre_38 : decode cX8_whoAre 38 = .ok (.ireturn, 1) := by decide +kernel
theorem dX8_traitsBut_0 : decode cX8_traitsBut 0 = .ok (.iconst 0, 1) := by decide +kernel
theorem dX8_traitsBut_1 : decode cX8_traitsBut 1 = .ok (.istore_n 2, 1) := by decide +kernel
theorem dX8_traitsBut_2 : decode cX8_traitsBut 2 = .ok (.iconst 0, 1) := by decide +kernel
theorem dX8_traitsBut_3 : decode cX8_traitsBut 3 = .ok (.istore_n 3, 1) := by decide +kernel
theorem dX8_traitsBut_4 : decode cX8_traitsBut 4 = .ok (.iload_n 3, 1) := by decide +kernel
theorem dX8_traitsBut_5 : decode cX8_traitsBut 5 = .ok (.aload_n 0, 1) := by decide +kernel
theorem dX8_traitsBut_6 : decode cX8_traitsBut 6 = .ok (.getfield 41, 3) := by decide +kernel
theorem dX8_traitsBut_9 : decode cX8_traitsBut 9 = .ok (.if_icmp .ge 23, 3) := by decide +kernel
theorem dX8_traitsBut_12 : decode cX8_traitsBut 12 = .ok (.iload_n 3, 1) := by decide +kernel
theorem dX8_traitsBut_13 : decode cX8_traitsBut 13 = .ok (.iload_n 1, 1) := by decide +kernel
theorem dX8_traitsBut_14 : decode cX8_traitsBut 14 = .ok (.if_icmp .eq 12, 3) := by decide +kernel
theorem dX8_traitsBut_17 : decode cX8_traitsBut 17 = .ok (.iload_n 2, 1) := by decide +kernel
theorem dX8_traitsBut_18 : decode cX8_traitsBut 18 = .ok (.aload_n 0, 1) := by decide +kernel
theorem dX8_traitsBut_19 : decode cX8_traitsBut 19 = .ok (.getfield 15, 3) := by decide +kernel
theorem dX8_traitsBut_22 : decode cX8_traitsBut 22 = .ok (.iload_n 3, 1) := by decide +kernel
theorem dX8_traitsBut_23 : decode cX8_traitsBut 23 = .ok (.iaload, 1) := by decide +kernel
theorem dX8_traitsBut_24 : decode cX8_traitsBut 24 = .ok (.ior, 1) := by decide +kernel
theorem dX8_traitsBut_25 : decode cX8_traitsBut 25 = .ok (.istore_n 2, 1) := by decide +kernel
theorem dX8_traitsBut_26 : decode cX8_traitsBut 26 = .ok (.iinc 3 1, 3) := by decide +kernel
theorem dX8_traitsBut_29 : decode cX8_traitsBut 29 = .ok (.goto (-25), 3) := by decide +kernel
theorem dX8_traitsBut_32 : decode cX8_traitsBut 32 = .ok (.iload_n 2, 1) := by decide +kernel
theorem dX8_traitsBut_33 : decode cX8_traitsBut 33 = .ok (.ireturn, 1) := by decide +kernel
theorem dX9_init_0 : decode cX9_init 0 = .ok (.aload_n 0, 1) := by decide +kernel
theorem dX9_init_1 : decode cX9_init 1 = .ok (.invokespecial 3, 3) := by decide +kernel
theorem dX9_init_4 : decode cX9_init 4 = .ok (.aload_n 0, 1) := by decide +kernel
theorem dX9_init_5 : decode cX9_init 5 = .ok (.bipush 40, 2) := by decide +kernel
theorem dX9_init_7 : decode cX9_init 7 = .ok (.newarray .long, 2) := by decide +kernel
theorem dX9_init_9 : decode cX9_init 9 = .ok (.putfield 9, 3) := by decide +kernel
theorem dX9_init_12 : decode cX9_init 12 = .ok (.return_, 1) := by decide +kernel
theorem dX9_lay_0 : decode cX9_lay 0 = .ok (.aload_n 0, 1) := by decide +kernel
theorem dX9_lay_1 : decode cX9_lay 1 = .ok (.iconst 1, 1) := by decide +kernel
theorem dX9_lay_2 : decode cX9_lay 2 = .ok (.putfield 15, 3) := by decide +kernel
theorem dX9_lay_5 : decode cX9_lay 5 = .ok (.aload_n 0, 1) := by decide +kernel
theorem dX9_lay_6 : decode cX9_lay 6 = .ok (.iload_n 1, 1) := by decide +kernel
theorem dX9_lay_7 : decode cX9_lay 7 = .ok (.putfield 19, 3) := by decide +kernel
theorem dX9_lay_10 : decode cX9_lay 10 = .ok (.aload_n 0, 1) := by decide +kernel
theorem dX9_lay_11 : decode cX9_lay 11 = .ok (.iload_n 2, 1) := by decide +kernel
theorem dX9_lay_12 : decode cX9_lay 12 = .ok (.putfield 23, 3) := by decide +kernel
theorem dX9_lay_15 : decode cX9_lay 15 = .ok (.iconst 0, 1) := by decide +kernel
theorem dX9_lay_16 : decode cX9_lay 16 = .ok (.istore_n 3, 1) := by decide +kernel
theorem dX9_lay_17 : decode cX9_lay 17 = .ok (.iload_n 3, 1) := by decide +kernel
theorem dX9_lay_18 : decode cX9_lay 18 = .ok (.bipush 40, 2) := by decide +kernel
theorem dX9_lay_20 : decode cX9_lay 20 = .ok (.if_icmp .ge 16, 3) := by decide +kernel
theorem dX9_lay_23 : decode cX9_lay 23 = .ok (.aload_n 0, 1) := by decide +kernel
theorem dX9_lay_24 : decode cX9_lay 24 = .ok (.getfield 9, 3) := by decide +kernel
theorem dX9_lay_27 : decode cX9_lay 27 = .ok (.iload_n 3, 1) := by decide +kernel
theorem dX9_lay_28 : decode cX9_lay 28 = .ok (.lconst 0, 1) := by decide +kernel
theorem dX9_lay_29 : decode cX9_lay 29 = .ok (.lastore, 1) := by decide +kernel
theorem dX9_lay_30 : decode cX9_lay 30 = .ok (.iinc 3 1, 3) := by decide +kernel
theorem dX9_lay_33 : decode cX9_lay 33 = .ok (.goto (-16), 3) := by decide +kernel
theorem dX9_lay_36 : decode cX9_lay 36 = .ok (.return_, 1) := by decide +kernel
theorem dX9_cut_0 : decode cX9_cut 0 = .ok (.aload_n 0, 1) := by decide +kernel
theorem dX9_cut_1 : decode cX9_cut 1 = .ok (.getfield 19, 3) := by decide +kernel
theorem dX9_cut_4 : decode cX9_cut 4 = .ok (.tableswitch 42 0 2 #[28, 33, 38], 28) := by decide +kernel
theorem dX9_cut_32 : decode cX9_cut 32 = .ok (.lload_n 1, 1) := by decide +kernel
theorem dX9_cut_33 : decode cX9_cut 33 = .ok (.l2i, 1) := by decide +kernel
theorem dX9_cut_34 : decode cX9_cut 34 = .ok (.i2b, 1) := by decide +kernel
theorem dX9_cut_35 : decode cX9_cut 35 = .ok (.i2l, 1) := by decide +kernel
theorem dX9_cut_36 : decode cX9_cut 36 = .ok (.lreturn, 1) := by decide +kernel
theorem dX9_cut_37 : decode cX9_cut 37 = .ok (.lload_n 1, 1) := by decide +kernel
theorem dX9_cut_38 : decode cX9_cut 38 = .ok (.l2i, 1) := by decide +kernel
theorem dX9_cut_39 : decode cX9_cut 39 = .ok (.i2s, 1) := by decide +kernel
theorem dX9_cut_40 : decode cX9_cut 40 = .ok (.i2l, 1) := by decide +kernel
theorem dX9_cut_41 : decode cX9_cut 41 = .ok (.lreturn, 1) := by decide +kernel
theorem dX9_cut_42 : decode cX9_cut 42 = .ok (.lload_n 1, 1) := by decide +kernel
theorem dX9_cut_43 : decode cX9_cut 43 = .ok (.l2i, 1) := by decide +kernel
theorem dX9_cut_44 : decode cX9_cut 44 = .ok (.i2l, 1) := by decide +kernel
theorem dX9_cut_45 : decode cX9_cut 45 = .ok (.lreturn, 1) := by decide +kernel
theorem dX9_cut_46 : decode cX9_cut 46 = .ok (.lload_n 1, 1) := by decide +kernel
theorem dX9_cut_47 : decode cX9_cut 47 = .ok (.lreturn, 1) := by decide +kernel
theorem dX10_init_0 : decode cX10_init 0 = .ok (.aload_n 0, 1) := by decide +kernel
theorem dX10_init_1 : decode cX10_init 1 = .ok (.invokespecial 3, 3) := by decide +kernel
theorem dX10_init_4 : decode cX10_init 4 = .ok (.aload_n 0, 1) := by decide +kernel
theorem dX10_init_5 : decode cX10_init 5 = .ok (.aload_n 1, 1) := by decide +kernel
theorem dX10_init_6 : decode cX10_init 6 = .ok (.putfield 9, 3) := by decide +kernel
theorem dX10_init_9 : decode cX10_init 9 = .ok (.aload_n 0, 1) := by decide +kernel
theorem dX10_init_10 : decode cX10_init 10 = .ok (.aload_n 2, 1) := by decide +kernel
theorem dX10_init_11 : decode cX10_init 11 = .ok (.putfield 15, 3) := by decide +kernel
theorem dX10_init_14 : decode cX10_init 14 = .ok (.aload_n 0, 1) := by decide +kernel
theorem dX10_init_15 : decode cX10_init 15 = .ok (.new 19, 3) := by decide +kernel
theorem dX10_init_18 : decode cX10_init 18 = .ok (.dup, 1) := by decide +kernel
theorem dX10_init_19 : decode cX10_init 19 = .ok (.invokespecial 21, 3) := by decide +kernel
theorem dX10_init_22 : decode cX10_init 22 = .ok (.putfield 22, 3) := by decide +kernel
theorem dX10_init_25 : decode cX10_init 25 = .ok (.return_, 1) := by decide +kernel
theorem dX10_isPerson_0 : decode cX10_isPerson 0 = .ok (.iload_n 1, 1) := by decide +kernel
theorem dX10_isPerson_1 : decode cX10_isPerson 1 = .ok (.ifCond .lt 18, 3) := by decide +kernel
theorem dX10_isPerson_4 : decode cX10_isPerson 4 = .ok (.iload_n 1, 1) := by decide +kernel
theorem dX10_isPerson_5 : decode cX10_isPerson 5 = .ok (.aload_n 0, 1) := by decide +kernel
theorem dX10_isPerson_6 : decode cX10_isPerson 6 = .ok (.getfield 9, 3) := by decide +kernel
theorem dX10_isPerson_9 : decode cX10_isPerson 9 = .ok (.getfield 26, 3) := by decide +kernel
theorem dX10_isPerson_12 : decode cX10_isPerson 12 = .ok (.if_icmp .ge 7, 3) := by decide +kernel
theorem dX10_isPerson_15 : decode cX10_isPerson 15 = .ok (.iconst 1, 1) := by decide +kernel
theorem dX10_isPerson_16 : decode cX10_isPerson 16 = .ok (.goto 4, 3) := by decide +kernel
theorem dX10_isPerson_19 : decode cX10_isPerson 19 = .ok (.iconst 0, 1) := by decide +kernel
theorem dX10_isPerson_20 : decode cX10_isPerson 20 = .ok (.ireturn, 1) := by decide +kernel
theorem dX10_isThing_0 : decode cX10_isThing 0 = .ok (.iload_n 1, 1) := by decide +kernel
theorem dX10_isThing_1 : decode cX10_isThing 1 = .ok (.ifCond .lt 18, 3) := by decide +kernel
theorem dX10_isThing_4 : decode cX10_isThing 4 = .ok (.iload_n 1, 1) := by decide +kernel
theorem dX10_isThing_5 : decode cX10_isThing 5 = .ok (.aload_n 0, 1) := by decide +kernel
theorem dX10_isThing_6 : decode cX10_isThing 6 = .ok (.getfield 9, 3) := by decide +kernel
theorem dX10_isThing_9 : decode cX10_isThing 9 = .ok (.getfield 32, 3) := by decide +kernel
theorem dX10_isThing_12 : decode cX10_isThing 12 = .ok (.if_icmp .ge 7, 3) := by decide +kernel
theorem dX10_isThing_15 : decode cX10_isThing 15 = .ok (.iconst 1, 1) := by decide +kernel
theorem dX10_isThing_16 : decode cX10_isThing 16 = .ok (.goto 4, 3) := by decide +kernel
theorem dX10_isThing_19 : decode cX10_isThing 19 = .ok (.iconst 0, 1) := by decide +kernel
theorem dX10_isThing_20 : decode cX10_isThing 20 = .ok (.ireturn, 1) := by decide +kernel
theorem dX10_areTwo_0 : decode cX10_areTwo 0 = .ok (.aload_n 0, 1) := by decide +kernel
theorem dX10_areTwo_1 : decode cX10_areTwo 1 = .ok (.iload_n 1, 1) := by decide +kernel
theorem dX10_areTwo_2 : decode cX10_areTwo 2 = .ok (.invokevirtual 35, 3) := by decide +kernel
theorem dX10_areTwo_5 : decode cX10_areTwo 5 = .ok (.ifCond .eq 20, 3) := by decide +kernel
theorem dX10_areTwo_8 : decode cX10_areTwo 8 = .ok (.aload_n 0, 1) := by decide +kernel
theorem dX10_areTwo_9 : decode cX10_areTwo 9 = .ok (.iload_n 2, 1) := by decide +kernel
theorem dX10_areTwo_10 : decode cX10_areTwo 10 = .ok (.invokevirtual 35, 3) := by decide +kernel
theorem dX10_areTwo_13 : decode cX10_areTwo 13 = .ok (.ifCond .eq 12, 3) := by decide +kernel
theorem dX10_areTwo_16 : decode cX10_areTwo 16 = .ok (.iload_n 1, 1) := by decide +kernel
theorem dX10_areTwo_17 : decode cX10_areTwo 17 = .ok (.iload_n 2, 1) := by decide +kernel
theorem dX10_areTwo_18 : decode cX10_areTwo 18 = .ok (.if_icmp .eq 7, 3) := by decide +kernel
theorem dX10_areTwo_21 : decode cX10_areTwo 21 = .ok (.iconst 1, 1) := by decide +kernel
theorem dX10_areTwo_22 : decode cX10_areTwo 22 = .ok (.goto 4, 3) := by decide +kernel
theorem dX10_areTwo_25 : decode cX10_areTwo 25 = .ok (.iconst 0, 1) := by decide +kernel
theorem dX10_areTwo_26 : decode cX10_areTwo 26 = .ok (.ireturn, 1) := by decide +kernel
theorem dX10_rarity_0 : decode cX10_rarity 0 = .ok (.aload_n 0, 1) := by decide +kernel
theorem dX10_rarity_1 : decode cX10_rarity 1 = .ok (.getfield 9, 3) := by decide +kernel
theorem dX10_rarity_4 : decode cX10_rarity 4 = .ok (.getfield 26, 3) := by decide +kernel
theorem dX10_rarity_7 : decode cX10_rarity 7 = .ok (.aload_n 0, 1) := by decide +kernel
theorem dX10_rarity_8 : decode cX10_rarity 8 = .ok (.getfield 22, 3) := by decide +kernel
theorem dX10_rarity_11 : decode cX10_rarity 11 = .ok (.getfield 39, 3) := by decide +kernel
theorem dX10_rarity_14 : decode cX10_rarity 14 = .ok (.iload_n 1, 1) := by decide +kernel
theorem dX10_rarity_15 : decode cX10_rarity 15 = .ok (.iaload, 1) := by decide +kernel
theorem dX10_rarity_16 : decode cX10_rarity 16 = .ok (.invokestatic 43, 3) := by decide +kernel
theorem dX10_rarity_19 : decode cX10_rarity 19 = .ok (.isub, 1) := by decide +kernel
theorem dX10_rarity_20 : decode cX10_rarity 20 = .ok (.iconst 1, 1) := by decide +kernel
theorem dX10_rarity_21 : decode cX10_rarity 21 = .ok (.iadd, 1) := by decide +kernel
theorem dX10_rarity_22 : decode cX10_rarity 22 = .ok (.ireturn, 1) := by decide +kernel
theorem dX10_measure_0 : decode cX10_measure 0 = .ok (.iload_n 3, 1) := by decide +kernel
theorem dX10_measure_1 : decode cX10_measure 1 = .ok (.iload 4, 2) := by decide +kernel
theorem dX10_measure_3 : decode cX10_measure 3 = .ok (.iand, 1) := by decide +kernel
theorem dX10_measure_4 : decode cX10_measure 4 = .ok (.istore 5, 2) := by decide +kernel
theorem dX10_measure_6 : decode cX10_measure 6 = .ok (.iconst 1, 1) := by decide +kernel
theorem dX10_measure_7 : decode cX10_measure 7 = .ok (.iload_n 1, 1) := by decide +kernel
theorem dX10_measure_8 : decode cX10_measure 8 = .ok (.ishl, 1) := by decide +kernel
theorem dX10_measure_9 : decode cX10_measure 9 = .ok (.iconst 1, 1) := by decide +kernel
theorem dX10_measure_10 : decode cX10_measure 10 = .ok (.iload_n 2, 1) := by decide +kernel
theorem dX10_measure_11 : decode cX10_measure 11 = .ok (.ishl, 1) := by decide +kernel
theorem dX10_measure_12 : decode cX10_measure 12 = .ok (.ior, 1) := by decide +kernel
theorem dX10_measure_13 : decode cX10_measure 13 = .ok (.istore 6, 2) := by decide +kernel
theorem dX10_measure_15 : decode cX10_measure 15 = .ok (.iconst 0, 1) := by decide +kernel
theorem dX10_measure_16 : decode cX10_measure 16 = .ok (.istore 7, 2) := by decide +kernel
theorem dX10_measure_18 : decode cX10_measure 18 = .ok (.iconst 0, 1) := by decide +kernel
theorem dX10_measure_19 : decode cX10_measure 19 = .ok (.istore 8, 2) := by decide +kernel
theorem dX10_measure_21 : decode cX10_measure 21 = .ok (.iload 8, 2) := by decide +kernel
theorem dX10_measure_23 : decode cX10_measure 23 = .ok (.aload_n 0, 1) := by decide +kernel
theorem dX10_measure_24 : decode cX10_measure 24 = .ok (.getfield 9, 3) := by decide +kernel
theorem dX10_measure_27 : decode cX10_measure 27 = .ok (.getfield 32, 3) := by decide +kernel
theorem dX10_measure_30 : decode cX10_measure 30 = .ok (.if_icmp .ge 50, 3) := by decide +kernel
theorem dX10_measure_33 : decode cX10_measure 33 = .ok (.iload 5, 2) := by decide +kernel
theorem dX10_measure_35 : decode cX10_measure 35 = .ok (.iconst 1, 1) := by decide +kernel
theorem dX10_measure_36 : decode cX10_measure 36 = .ok (.iload 8, 2) := by decide +kernel
theorem dX10_measure_38 : decode cX10_measure 38 = .ok (.ishl, 1) := by decide +kernel
theorem dX10_measure_39 : decode cX10_measure 39 = .ok (.iand, 1) := by decide +kernel
theorem dX10_measure_40 : decode cX10_measure 40 = .ok (.ifCond .eq 34, 3) := by decide +kernel
theorem dX10_measure_43 : decode cX10_measure 43 = .ok (.iload 7, 2) := by decide +kernel
theorem dX10_measure_45 : decode cX10_measure 45 = .ok (.aload_n 0, 1) := by decide +kernel
theorem dX10_measure_46 : decode cX10_measure 46 = .ok (.getfield 9, 3) := by decide +kernel
theorem dX10_measure_49 : decode cX10_measure 49 = .ok (.getfield 26, 3) := by decide +kernel
theorem dX10_measure_52 : decode cX10_measure 52 = .ok (.aload_n 0, 1) := by decide +kernel
theorem dX10_measure_53 : decode cX10_measure 53 = .ok (.getfield 22, 3) := by decide +kernel
theorem dX10_measure_56 : decode cX10_measure 56 = .ok (.getfield 39, 3) := by decide +kernel
theorem dX10_measure_59 : decode cX10_measure 59 = .ok (.iload 8, 2) := by decide +kernel
theorem dX10_measure_61 : decode cX10_measure 61 = .ok (.iaload, 1) := by decide +kernel
theorem dX10_measure_62 : decode cX10_measure 62 = .ok (.iload 6, 2) := by decide +kernel
theorem dX10_measure_64 : decode cX10_measure 64 = .ok (.ior, 1) := by decide +kernel
theorem dX10_measure_65 : decode cX10_measure 65 = .ok (.invokestatic 43, 3) := by decide +kernel
theorem dX10_measure_68 : decode cX10_measure 68 = .ok (.isub, 1) := by decide +kernel
theorem dX10_measure_69 : decode cX10_measure 69 = .ok (.iconst 1, 1) := by decide +kernel
theorem dX10_measure_70 : decode cX10_measure 70 = .ok (.iadd, 1) := by decide +kernel
theorem dX10_measure_71 : decode cX10_measure 71 = .ok (.iadd, 1) := by decide +kernel
theorem dX10_measure_72 : decode cX10_measure 72 = .ok (.istore 7, 2) := by decide +kernel
theorem dX10_measure_74 : decode cX10_measure 74 = .ok (.iinc 8 1, 3) := by decide +kernel
theorem dX10_measure_77 : decode cX10_measure 77 = .ok (.goto (-56), 3) := by decide +kernel
theorem dX10_measure_80 : decode cX10_measure 80 = .ok (.aload_n 0, 1) := by decide +kernel
theorem dX10_measure_81 : decode cX10_measure 81 = .ok (.getfield 15, 3) := by decide +kernel
theorem dX10_measure_84 : decode cX10_measure 84 = .ok (.getfield 49, 3) := by decide +kernel
theorem dX10_measure_87 : decode cX10_measure 87 = .ok (.astore 8, 2) := by decide +kernel
theorem dX10_measure_89 : decode cX10_measure 89 = .ok (.aload 8, 2) := by decide +kernel
theorem dX10_measure_91 : decode cX10_measure 91 = .ok (.iconst 0, 1) := by decide +kernel
theorem dX10_measure_92 : decode cX10_measure 92 = .ok (.iload 5, 2) := by decide +kernel
theorem dX10_measure_94 : decode cX10_measure 94 = .ok (.invokestatic 43, 3) := by decide +kernel
theorem dX10_measure_97 : decode cX10_measure 97 = .ok (.iastore, 1) := by decide +kernel
theorem dX10_measure_98 : decode cX10_measure 98 = .ok (.aload 8, 2) := by decide +kernel
theorem dX10_measure_100 : decode cX10_measure 100 = .ok (.iconst 1, 1) := by decide +kernel
theorem dX10_measure_101 : decode cX10_measure 101 = .ok (.iload 7, 2) := by decide +kernel
theorem dX10_measure_103 : decode cX10_measure 103 = .ok (.iastore, 1) := by decide +kernel
theorem dX10_measure_104 : decode cX10_measure 104 = .ok (.aload 8, 2) := by decide +kernel
theorem dX10_measure_106 : decode cX10_measure 106 = .ok (.iconst 2, 1) := by decide +kernel
theorem dX10_measure_107 : decode cX10_measure 107 = .ok (.iload_n 3, 1) := by decide +kernel
theorem dX10_measure_108 : decode cX10_measure 108 = .ok (.aload_n 0, 1) := by decide +kernel
theorem dX10_measure_109 : decode cX10_measure 109 = .ok (.getfield 9, 3) := by decide +kernel
theorem dX10_measure_112 : decode cX10_measure 112 = .ok (.getfield 54, 3) := by decide +kernel
theorem dX10_measure_115 : decode cX10_measure 115 = .ok (.iload_n 2, 1) := by decide +kernel
theorem dX10_measure_116 : decode cX10_measure 116 = .ok (.iaload, 1) := by decide +kernel
theorem dX10_measure_117 : decode cX10_measure 117 = .ok (.iand, 1) := by decide +kernel
theorem dX10_measure_118 : decode cX10_measure 118 = .ok (.invokestatic 43, 3) := by decide +kernel
theorem dX10_measure_121 : decode cX10_measure 121 = .ok (.iload 4, 2) := by decide +kernel
theorem dX10_measure_123 : decode cX10_measure 123 = .ok (.aload_n 0, 1) := by decide +kernel
theorem dX10_measure_124 : decode cX10_measure 124 = .ok (.getfield 9, 3) := by decide +kernel
theorem dX10_measure_127 : decode cX10_measure 127 = .ok (.getfield 54, 3) := by decide +kernel
theorem dX10_measure_130 : decode cX10_measure 130 = .ok (.iload_n 1, 1) := by decide +kernel
theorem dX10_measure_131 : decode cX10_measure 131 = .ok (.iaload, 1) := by decide +kernel
theorem dX10_measure_132 : decode cX10_measure 132 = .ok (.iand, 1) := by decide +kernel
theorem dX10_measure_133 : decode cX10_measure 133 = .ok (.invokestatic 43, 3) := by decide +kernel
theorem dX10_measure_136 : decode cX10_measure 136 = .ok (.iadd, 1) := by decide +kernel
theorem dX10_measure_137 : decode cX10_measure 137 = .ok (.iastore, 1) := by decide +kernel
theorem dX10_measure_138 : decode cX10_measure 138 = .ok (.aload 8, 2) := by decide +kernel
theorem dX10_measure_140 : decode cX10_measure 140 = .ok (.iconst 3, 1) := by decide +kernel
theorem dX10_measure_141 : decode cX10_measure 141 = .ok (.iload_n 3, 1) := by decide +kernel
theorem dX10_measure_142 : decode cX10_measure 142 = .ok (.invokestatic 43, 3) := by decide +kernel
theorem dX10_measure_145 : decode cX10_measure 145 = .ok (.iload 4, 2) := by decide +kernel
theorem dX10_measure_147 : decode cX10_measure 147 = .ok (.invokestatic 43, 3) := by decide +kernel
theorem dX10_measure_150 : decode cX10_measure 150 = .ok (.iadd, 1) := by decide +kernel
theorem dX10_measure_151 : decode cX10_measure 151 = .ok (.iastore, 1) := by decide +kernel
theorem dX10_measure_152 : decode cX10_measure 152 = .ok (.aload 8, 2) := by decide +kernel
theorem dX10_measure_154 : decode cX10_measure 154 = .ok (.iconst 4, 1) := by decide +kernel
theorem dX10_measure_155 : decode cX10_measure 155 = .ok (.aload_n 0, 1) := by decide +kernel
theorem dX10_measure_156 : decode cX10_measure 156 = .ok (.getfield 22, 3) := by decide +kernel
theorem dX10_measure_159 : decode cX10_measure 159 = .ok (.getfield 57, 3) := by decide +kernel
theorem dX10_measure_162 : decode cX10_measure 162 = .ok (.iload_n 1, 1) := by decide +kernel
theorem dX10_measure_163 : decode cX10_measure 163 = .ok (.iaload, 1) := by decide +kernel
theorem dX10_measure_164 : decode cX10_measure 164 = .ok (.aload_n 0, 1) := by decide +kernel
theorem dX10_measure_165 : decode cX10_measure 165 = .ok (.getfield 22, 3) := by decide +kernel
theorem dX10_measure_168 : decode cX10_measure 168 = .ok (.getfield 57, 3) := by decide +kernel
theorem dX10_measure_171 : decode cX10_measure 171 = .ok (.iload_n 2, 1) := by decide +kernel
theorem dX10_measure_172 : decode cX10_measure 172 = .ok (.iaload, 1) := by decide +kernel
theorem dX10_measure_173 : decode cX10_measure 173 = .ok (.isub, 1) := by decide +kernel
theorem dX10_measure_174 : decode cX10_measure 174 = .ok (.invokestatic 60, 3) := by decide +kernel
theorem dX10_measure_177 : decode cX10_measure 177 = .ok (.iastore, 1) := by decide +kernel
theorem dX10_measure_178 : decode cX10_measure 178 = .ok (.aload 8, 2) := by decide +kernel
theorem dX10_measure_180 : decode cX10_measure 180 = .ok (.iconst 5, 1) := by decide +kernel
theorem dX10_measure_181 : decode cX10_measure 181 = .ok (.aload_n 0, 1) := by decide +kernel
theorem dX10_measure_182 : decode cX10_measure 182 = .ok (.getfield 22, 3) := by decide +kernel
theorem dX10_measure_185 : decode cX10_measure 185 = .ok (.getfield 57, 3) := by decide +kernel
theorem dX10_measure_188 : decode cX10_measure 188 = .ok (.iload_n 1, 1) := by decide +kernel
theorem dX10_measure_189 : decode cX10_measure 189 = .ok (.iaload, 1) := by decide +kernel
theorem dX10_measure_190 : decode cX10_measure 190 = .ok (.aload_n 0, 1) := by decide +kernel
theorem dX10_measure_191 : decode cX10_measure 191 = .ok (.getfield 22, 3) := by decide +kernel
theorem dX10_measure_194 : decode cX10_measure 194 = .ok (.getfield 57, 3) := by decide +kernel
theorem dX10_measure_197 : decode cX10_measure 197 = .ok (.iload_n 2, 1) := by decide +kernel
theorem dX10_measure_198 : decode cX10_measure 198 = .ok (.iaload, 1) := by decide +kernel
theorem dX10_measure_199 : decode cX10_measure 199 = .ok (.invokestatic 65, 3) := by decide +kernel
theorem dX10_measure_202 : decode cX10_measure 202 = .ok (.iastore, 1) := by decide +kernel
theorem dX10_measure_203 : decode cX10_measure 203 = .ok (.aload 8, 2) := by decide +kernel
theorem dX10_measure_205 : decode cX10_measure 205 = .ok (.bipush 6, 2) := by decide +kernel
theorem dX10_measure_207 : decode cX10_measure 207 = .ok (.aload_n 0, 1) := by decide +kernel
theorem dX10_measure_208 : decode cX10_measure 208 = .ok (.getfield 22, 3) := by decide +kernel
theorem dX10_measure_211 : decode cX10_measure 211 = .ok (.getfield 69, 3) := by decide +kernel
theorem dX10_measure_214 : decode cX10_measure 214 = .ok (.iastore, 1) := by decide +kernel
theorem dX10_measure_215 : decode cX10_measure 215 = .ok (.return_, 1) := by decide +kernel
theorem dX10_goodnessWith_0 : decode cX10_goodnessWith 0 = .ok (.aload_n 0, 1) := by decide +kernel
theorem dX10_goodnessWith_1 : decode cX10_goodnessWith 1 = .ok (.iload_n 1, 1) := by decide +kernel
theorem dX10_goodnessWith_2 : decode cX10_goodnessWith 2 = .ok (.iload_n 2, 1) := by decide +kernel
theorem dX10_goodnessWith_3 : decode cX10_goodnessWith 3 = .ok (.iload_n 3, 1) := by decide +kernel
theorem dX10_goodnessWith_4 : decode cX10_goodnessWith 4 = .ok (.iload 4, 2) := by decide +kernel
theorem dX10_goodnessWith_6 : decode cX10_goodnessWith 6 = .ok (.invokevirtual 72, 3) := by decide +kernel
theorem dX10_goodnessWith_9 : decode cX10_goodnessWith 9 = .ok (.aload_n 0, 1) := by decide +kernel
theorem dX10_goodnessWith_10 : decode cX10_goodnessWith 10 = .ok (.getfield 15, 3) := by decide +kernel
theorem dX10_goodnessWith_13 : decode cX10_goodnessWith 13 = .ok (.aload_n 0, 1) := by decide +kernel
theorem dX10_goodnessWith_14 : decode cX10_goodnessWith 14 = .ok (.getfield 9, 3) := by decide +kernel
theorem dX10_goodnessWith_17 : decode cX10_goodnessWith 17 = .ok (.getfield 76, 3) := by decide +kernel
theorem dX10_goodnessWith_20 : decode cX10_goodnessWith 20 = .ok (.invokevirtual 80, 3) := by decide +kernel
theorem dX10_goodnessWith_23 : decode cX10_goodnessWith 23 = .ok (.ireturn, 1) := by decide +kernel
theorem dX10_goodness_0 : decode cX10_goodness 0 = .ok (.aload_n 0, 1) := by decide +kernel
theorem dX10_goodness_1 : decode cX10_goodness 1 = .ok (.iload_n 1, 1) := by decide +kernel
theorem dX10_goodness_2 : decode cX10_goodness 2 = .ok (.iload_n 2, 1) := by decide +kernel
theorem dX10_goodness_3 : decode cX10_goodness 3 = .ok (.aload_n 0, 1) := by decide +kernel
theorem dX10_goodness_4 : decode cX10_goodness 4 = .ok (.getfield 22, 3) := by decide +kernel
theorem dX10_goodness_7 : decode cX10_goodness 7 = .ok (.getfield 84, 3) := by decide +kernel
theorem dX10_goodness_10 : decode cX10_goodness 10 = .ok (.iload_n 1, 1) := by decide +kernel
theorem dX10_goodness_11 : decode cX10_goodness 11 = .ok (.iaload, 1) := by decide +kernel
theorem dX10_goodness_12 : decode cX10_goodness 12 = .ok (.aload_n 0, 1) := by decide +kernel
theorem dX10_goodness_13 : decode cX10_goodness 13 = .ok (.getfield 22, 3) := by decide +kernel
theorem dX10_goodness_16 : decode cX10_goodness 16 = .ok (.getfield 84, 3) := by decide +kernel
theorem dX10_goodness_19 : decode cX10_goodness 19 = .ok (.iload_n 2, 1) := by decide +kernel
theorem dX10_goodness_20 : decode cX10_goodness 20 = .ok (.iaload, 1) := by decide +kernel
theorem dX10_goodness_21 : decode cX10_goodness 21 = .ok (.invokevirtual 87, 3) := by decide +kernel
theorem dX10_goodness_24 : decode cX10_goodness 24 = .ok (.ireturn, 1) := by decide +kernel
theorem dX10_isAllowed_0 : decode cX10_isAllowed 0 = .ok (.aload_n 0, 1) := by decide +kernel
theorem dX10_isAllowed_1 : decode cX10_isAllowed 1 = .ok (.iload_n 1, 1) := by decide +kernel
theorem dX10_isAllowed_2 : decode cX10_isAllowed 2 = .ok (.iload_n 2, 1) := by decide +kernel
theorem dX10_isAllowed_3 : decode cX10_isAllowed 3 = .ok (.aload_n 0, 1) := by decide +kernel
theorem dX10_isAllowed_4 : decode cX10_isAllowed 4 = .ok (.getfield 22, 3) := by decide +kernel
theorem dX10_isAllowed_7 : decode cX10_isAllowed 7 = .ok (.getfield 84, 3) := by decide +kernel
theorem dX10_isAllowed_10 : decode cX10_isAllowed 10 = .ok (.iload_n 1, 1) := by decide +kernel
theorem dX10_isAllowed_11 : decode cX10_isAllowed 11 = .ok (.iaload, 1) := by decide +kernel
theorem dX10_isAllowed_12 : decode cX10_isAllowed 12 = .ok (.aload_n 0, 1) := by decide +kernel
theorem dX10_isAllowed_13 : decode cX10_isAllowed 13 = .ok (.getfield 22, 3) := by decide +kernel
theorem dX10_isAllowed_16 : decode cX10_isAllowed 16 = .ok (.getfield 84, 3) := by decide +kernel
theorem dX10_isAllowed_19 : decode cX10_isAllowed 19 = .ok (.iload_n 2, 1) := by decide +kernel
theorem dX10_isAllowed_20 : decode cX10_isAllowed 20 = .ok (.iaload, 1) := by decide +kernel
theorem dX10_isAllowed_21 : decode cX10_isAllowed 21 = .ok (.invokevirtual 72, 3) := by decide +kernel
theorem dX10_isAllowed_24 : decode cX10_isAllowed 24 = .ok (.aload_n 0, 1) := by decide +kernel
theorem dX10_isAllowed_25 : decode cX10_isAllowed 25 = .ok (.getfield 15, 3) := by decide +kernel
theorem dX10_isAllowed_28 : decode cX10_isAllowed 28 = .ok (.aload_n 0, 1) := by decide +kernel
theorem dX10_isAllowed_29 : decode cX10_isAllowed 29 = .ok (.getfield 9, 3) := by decide +kernel
theorem dX10_isAllowed_32 : decode cX10_isAllowed 32 = .ok (.getfield 91, 3) := by decide +kernel
theorem dX10_isAllowed_35 : decode cX10_isAllowed 35 = .ok (.invokevirtual 80, 3) := by decide +kernel
theorem dX10_isAllowed_38 : decode cX10_isAllowed 38 = .ok (.ifCond .eq 7, 3) := by decide +kernel
theorem dX10_isAllowed_41 : decode cX10_isAllowed 41 = .ok (.iconst 1, 1) := by decide +kernel
theorem dX10_isAllowed_42 : decode cX10_isAllowed 42 = .ok (.goto 4, 3) := by decide +kernel
theorem dX10_isAllowed_45 : decode cX10_isAllowed 45 = .ok (.iconst 0, 1) := by decide +kernel
theorem dX10_isAllowed_46 : decode cX10_isAllowed 46 = .ok (.ireturn, 1) := by decide +kernel
theorem dX10_whyNotMarry_0 : decode cX10_whyNotMarry 0 = .ok (.aload_n 0, 1) := by decide +kernel
theorem dX10_whyNotMarry_1 : decode cX10_whyNotMarry 1 = .ok (.iload_n 1, 1) := by decide +kernel
theorem dX10_whyNotMarry_2 : decode cX10_whyNotMarry 2 = .ok (.iload_n 2, 1) := by decide +kernel
theorem dX10_whyNotMarry_3 : decode cX10_whyNotMarry 3 = .ok (.invokevirtual 94, 3) := by decide +kernel
theorem dX10_whyNotMarry_6 : decode cX10_whyNotMarry 6 = .ok (.ifCond .ne 5, 3) := by decide +kernel
theorem dX10_whyNotMarry_9 : decode cX10_whyNotMarry 9 = .ok (.iconst 1, 1) := by decide +kernel
theorem dX10_whyNotMarry_10 : decode cX10_whyNotMarry 10 = .ok (.ireturn, 1) := by decide +kernel
theorem dX10_whyNotMarry_11 : decode cX10_whyNotMarry 11 = .ok (.aload_n 0, 1) := by decide +kernel
theorem dX10_whyNotMarry_12 : decode cX10_whyNotMarry 12 = .ok (.getfield 22, 3) := by decide +kernel
theorem dX10_whyNotMarry_15 : decode cX10_whyNotMarry 15 = .ok (.getfield 98, 3) := by decide +kernel
theorem dX10_whyNotMarry_18 : decode cX10_whyNotMarry 18 = .ok (.iload_n 1, 1) := by decide +kernel
theorem dX10_whyNotMarry_19 : decode cX10_whyNotMarry 19 = .ok (.iaload, 1) := by decide +kernel
theorem dX10_whyNotMarry_20 : decode cX10_whyNotMarry 20 = .ok (.iconst (-1), 1) := by decide +kernel
theorem dX10_whyNotMarry_21 : decode cX10_whyNotMarry 21 = .ok (.if_icmp .ne 16, 3) := by decide +kernel
theorem dX10_whyNotMarry_24 : decode cX10_whyNotMarry 24 = .ok (.aload_n 0, 1) := by decide +kernel
theorem dX10_whyNotMarry_25 : decode cX10_whyNotMarry 25 = .ok (.getfield 22, 3) := by decide +kernel
theorem dX10_whyNotMarry_28 : decode cX10_whyNotMarry 28 = .ok (.getfield 98, 3) := by decide +kernel
theorem dX10_whyNotMarry_31 : decode cX10_whyNotMarry 31 = .ok (.iload_n 2, 1) := by decide +kernel
theorem dX10_whyNotMarry_32 : decode cX10_whyNotMarry 32 = .ok (.iaload, 1) := by decide +kernel
theorem dX10_whyNotMarry_33 : decode cX10_whyNotMarry 33 = .ok (.iconst (-1), 1) := by decide +kernel
theorem dX10_whyNotMarry_34 : decode cX10_whyNotMarry 34 = .ok (.if_icmp .eq 5, 3) := by decide +kernel
theorem dX10_whyNotMarry_37 : decode cX10_whyNotMarry 37 = .ok (.iconst 2, 1) := by decide +kernel
theorem dX10_whyNotMarry_38 : decode cX10_whyNotMarry 38 = .ok (.ireturn, 1) := by decide +kernel
theorem dX10_whyNotMarry_39 : decode cX10_whyNotMarry 39 = .ok (.aload_n 0, 1) := by decide +kernel
theorem dX10_whyNotMarry_40 : decode cX10_whyNotMarry 40 = .ok (.iload_n 1, 1) := by decide +kernel
theorem dX10_whyNotMarry_41 : decode cX10_whyNotMarry 41 = .ok (.iload_n 2, 1) := by decide +kernel
theorem dX10_whyNotMarry_42 : decode cX10_whyNotMarry 42 = .ok (.invokevirtual 101, 3) := by decide +kernel
theorem dX10_whyNotMarry_45 : decode cX10_whyNotMarry 45 = .ok (.ifCond .eq 7, 3) := by decide +kernel
theorem dX10_whyNotMarry_48 : decode cX10_whyNotMarry 48 = .ok (.iconst 0, 1) := by decide +kernel
theorem dX10_whyNotMarry_49 : decode cX10_whyNotMarry 49 = .ok (.goto 4, 3) := by decide +kernel
theorem dX10_whyNotMarry_52 : decode cX10_whyNotMarry 52 = .ok (.iconst 3, 1) := by decide +kernel
theorem dX10_whyNotMarry_53 : decode cX10_whyNotMarry 53 = .ok (.ireturn, 1) := by decide +kernel
theorem dX10_whyNotTake_0 : decode cX10_whyNotTake 0 = .ok (.aload_n 0, 1) := by decide +kernel
theorem dX10_whyNotTake_1 : decode cX10_whyNotTake 1 = .ok (.iload_n 1, 1) := by decide +kernel
theorem dX10_whyNotTake_2 : decode cX10_whyNotTake 2 = .ok (.invokevirtual 35, 3) := by decide +kernel
theorem dX10_whyNotTake_5 : decode cX10_whyNotTake 5 = .ok (.ifCond .eq 11, 3) := by decide +kernel
theorem dX10_whyNotTake_8 : decode cX10_whyNotTake 8 = .ok (.aload_n 0, 1) := by decide +kernel
theorem dX10_whyNotTake_9 : decode cX10_whyNotTake 9 = .ok (.iload_n 2, 1) := by decide +kernel
theorem dX10_whyNotTake_10 : decode cX10_whyNotTake 10 = .ok (.invokevirtual 104, 3) := by decide +kernel
theorem dX10_whyNotTake_13 : decode cX10_whyNotTake 13 = .ok (.ifCond .ne 5, 3) := by decide +kernel
theorem dX10_whyNotTake_16 : decode cX10_whyNotTake 16 = .ok (.iconst 1, 1) := by decide +kernel
theorem dX10_whyNotTake_17 : decode cX10_whyNotTake 17 = .ok (.ireturn, 1) := by decide +kernel
theorem dX10_whyNotTake_18 : decode cX10_whyNotTake 18 = .ok (.aload_n 0, 1) := by decide +kernel
theorem dX10_whyNotTake_19 : decode cX10_whyNotTake 19 = .ok (.getfield 22, 3) := by decide +kernel
theorem dX10_whyNotTake_22 : decode cX10_whyNotTake 22 = .ok (.iload_n 1, 1) := by decide +kernel
theorem dX10_whyNotTake_23 : decode cX10_whyNotTake 23 = .ok (.iload_n 2, 1) := by decide +kernel
theorem dX10_whyNotTake_24 : decode cX10_whyNotTake 24 = .ok (.invokevirtual 107, 3) := by decide +kernel
theorem dX10_whyNotTake_27 : decode cX10_whyNotTake 27 = .ok (.ifCond .ne 11, 3) := by decide +kernel
theorem dX10_whyNotTake_30 : decode cX10_whyNotTake 30 = .ok (.aload_n 0, 1) := by decide +kernel
theorem dX10_whyNotTake_31 : decode cX10_whyNotTake 31 = .ok (.iload_n 1, 1) := by decide +kernel
theorem dX10_whyNotTake_32 : decode cX10_whyNotTake 32 = .ok (.invokevirtual 110, 3) := by decide +kernel
theorem dX10_whyNotTake_35 : decode cX10_whyNotTake 35 = .ok (.ifCond .eq 7, 3) := by decide +kernel
theorem dX10_whyNotTake_38 : decode cX10_whyNotTake 38 = .ok (.iconst 0, 1) := by decide +kernel
theorem dX10_whyNotTake_39 : decode cX10_whyNotTake 39 = .ok (.goto 4, 3) := by decide +kernel
theorem dX10_whyNotTake_42 : decode cX10_whyNotTake 42 = .ok (.iconst 4, 1) := by decide +kernel
theorem dX10_whyNotTake_43 : decode cX10_whyNotTake 43 = .ok (.ireturn, 1) := by decide +kernel
theorem dX10_hasRoom_0 : decode cX10_hasRoom 0 = .ok (.aload_n 0, 1) := by decide +kernel
theorem dX10_hasRoom_1 : decode cX10_hasRoom 1 = .ok (.getfield 22, 3) := by decide +kernel
theorem dX10_hasRoom_4 : decode cX10_hasRoom 4 = .ok (.getfield 84, 3) := by decide +kernel
theorem dX10_hasRoom_7 : decode cX10_hasRoom 7 = .ok (.iload_n 1, 1) := by decide +kernel
theorem dX10_hasRoom_8 : decode cX10_hasRoom 8 = .ok (.iaload, 1) := by decide +kernel
theorem dX10_hasRoom_9 : decode cX10_hasRoom 9 = .ok (.invokestatic 43, 3) := by decide +kernel
theorem dX10_hasRoom_12 : decode cX10_hasRoom 12 = .ok (.aload_n 0, 1) := by decide +kernel
theorem dX10_hasRoom_13 : decode cX10_hasRoom 13 = .ok (.getfield 9, 3) := by decide +kernel
theorem dX10_hasRoom_16 : decode cX10_hasRoom 16 = .ok (.getfield 113, 3) := by decide +kernel
theorem dX10_hasRoom_19 : decode cX10_hasRoom 19 = .ok (.if_icmp .ge 7, 3) := by decide +kernel
theorem dX10_hasRoom_22 : decode cX10_hasRoom 22 = .ok (.iconst 1, 1) := by decide +kernel
theorem dX10_hasRoom_23 : decode cX10_hasRoom 23 = .ok (.goto 4, 3) := by decide +kernel
theorem dX10_hasRoom_26 : decode cX10_hasRoom 26 = .ok (.iconst 0, 1) := by decide +kernel
theorem dX10_hasRoom_27 : decode cX10_hasRoom 27 = .ok (.ireturn, 1) := by decide +kernel
theorem dX10_takeOrGive_0 : decode cX10_takeOrGive 0 = .ok (.aload_n 0, 1) := by decide +kernel
theorem dX10_takeOrGive_1 : decode cX10_takeOrGive 1 = .ok (.getfield 22, 3) := by decide +kernel
theorem dX10_takeOrGive_4 : decode cX10_takeOrGive 4 = .ok (.iload_n 1, 1) := by decide +kernel
theorem dX10_takeOrGive_5 : decode cX10_takeOrGive 5 = .ok (.iload_n 2, 1) := by decide +kernel
theorem dX10_takeOrGive_6 : decode cX10_takeOrGive 6 = .ok (.invokevirtual 107, 3) := by decide +kernel
theorem dX10_takeOrGive_9 : decode cX10_takeOrGive 9 = .ok (.ifCond .eq 15, 3) := by decide +kernel
theorem dX10_takeOrGive_12 : decode cX10_takeOrGive 12 = .ok (.aload_n 0, 1) := by decide +kernel
theorem dX10_takeOrGive_13 : decode cX10_takeOrGive 13 = .ok (.getfield 22, 3) := by decide +kernel
theorem dX10_takeOrGive_16 : decode cX10_takeOrGive 16 = .ok (.iload_n 1, 1) := by decide +kernel
theorem dX10_takeOrGive_17 : decode cX10_takeOrGive 17 = .ok (.iload_n 2, 1) := by decide +kernel
theorem dX10_takeOrGive_18 : decode cX10_takeOrGive 18 = .ok (.invokevirtual 116, 3) := by decide +kernel
theorem dX10_takeOrGive_21 : decode cX10_takeOrGive 21 = .ok (.goto 13, 3) := by decide +kernel
theorem dX10_takeOrGive_24 : decode cX10_takeOrGive 24 = .ok (.aload_n 0, 1) := by decide +kernel
theorem dX10_takeOrGive_25 : decode cX10_takeOrGive 25 = .ok (.getfield 22, 3) := by decide +kernel
theorem dX10_takeOrGive_28 : decode cX10_takeOrGive 28 = .ok (.iload_n 1, 1) := by decide +kernel
theorem dX10_takeOrGive_29 : decode cX10_takeOrGive 29 = .ok (.iload_n 2, 1) := by decide +kernel
theorem dX10_takeOrGive_30 : decode cX10_takeOrGive 30 = .ok (.iconst 0, 1) := by decide +kernel
theorem dX10_takeOrGive_31 : decode cX10_takeOrGive 31 = .ok (.invokevirtual 120, 3) := by decide +kernel
theorem dX10_takeOrGive_34 : decode cX10_takeOrGive 34 = .ok (.return_, 1) := by decide +kernel
theorem dX10_attempt_0 : decode cX10_attempt 0 = .ok (.lload_n 1, 1) := by decide +kernel
theorem dX10_attempt_1 : decode cX10_attempt 1 = .ok (.ldc2_w 124, 3) := by decide +kernel
theorem dX10_attempt_4 : decode cX10_attempt 4 = .ok (.lcmp, 1) := by decide +kernel
theorem dX10_attempt_5 : decode cX10_attempt 5 = .ok (.ifCond .ne 10, 3) := by decide +kernel
theorem dX10_attempt_8 : decode cX10_attempt 8 = .ok (.aload_n 0, 1) := by decide +kernel
theorem dX10_attempt_9 : decode cX10_attempt 9 = .ok (.invokevirtual 126, 3) := by decide +kernel
theorem dX10_attempt_12 : decode cX10_attempt 12 = .ok (.pop, 1) := by decide +kernel
theorem dX10_attempt_13 : decode cX10_attempt 13 = .ok (.iconst 0, 1) := by decide +kernel
theorem dX10_attempt_14 : decode cX10_attempt 14 = .ok (.ireturn, 1) := by decide +kernel
theorem dX10_attempt_15 : decode cX10_attempt 15 = .ok (.lload_n 1, 1) := by decide +kernel
theorem dX10_attempt_16 : decode cX10_attempt 16 = .ok (.lconst 0, 1) := by decide +kernel
theorem dX10_attempt_17 : decode cX10_attempt 17 = .ok (.lcmp, 1) := by decide +kernel
theorem dX10_attempt_18 : decode cX10_attempt 18 = .ok (.ifCond .lt 11, 3) := by decide +kernel
theorem dX10_attempt_21 : decode cX10_attempt 21 = .ok (.lload_n 1, 1) := by decide +kernel
theorem dX10_attempt_22 : decode cX10_attempt 22 = .ok (.ldc2_w 130, 3) := by decide +kernel
theorem dX10_attempt_25 : decode cX10_attempt 25 = .ok (.lcmp, 1) := by decide +kernel
theorem dX10_attempt_26 : decode cX10_attempt 26 = .ok (.ifCond .lt 5, 3) := by decide +kernel
theorem dX10_attempt_29 : decode cX10_attempt 29 = .ok (.iconst 1, 1) := by decide +kernel
theorem dX10_attempt_30 : decode cX10_attempt 30 = .ok (.ireturn, 1) := by decide +kernel
theorem dX10_attempt_31 : decode cX10_attempt 31 = .ok (.lload_n 1, 1) := by decide +kernel
theorem dX10_attempt_32 : decode cX10_attempt 32 = .ok (.l2i, 1) := by decide +kernel
theorem dX10_attempt_33 : decode cX10_attempt 33 = .ok (.istore_n 3, 1) := by decide +kernel
theorem dX10_attempt_34 : decode cX10_attempt 34 = .ok (.iload_n 3, 1) := by decide +kernel
theorem dX10_attempt_35 : decode cX10_attempt 35 = .ok (.sipush 1000, 3) := by decide +kernel
theorem dX10_attempt_38 : decode cX10_attempt 38 = .ok (.irem, 1) := by decide +kernel
theorem dX10_attempt_39 : decode cX10_attempt 39 = .ok (.bipush 100, 2) := by decide +kernel
theorem dX10_attempt_41 : decode cX10_attempt 41 = .ok (.idiv, 1) := by decide +kernel
theorem dX10_attempt_42 : decode cX10_attempt 42 = .ok (.istore 4, 2) := by decide +kernel
theorem dX10_attempt_44 : decode cX10_attempt 44 = .ok (.iload_n 3, 1) := by decide +kernel
theorem dX10_attempt_45 : decode cX10_attempt 45 = .ok (.bipush 100, 2) := by decide +kernel
theorem dX10_attempt_47 : decode cX10_attempt 47 = .ok (.irem, 1) := by decide +kernel
theorem dX10_attempt_48 : decode cX10_attempt 48 = .ok (.istore 5, 2) := by decide +kernel
theorem dX10_attempt_50 : decode cX10_attempt 50 = .ok (.iload_n 3, 1) := by decide +kernel
theorem dX10_attempt_51 : decode cX10_attempt 51 = .ok (.sipush 1000, 3) := by decide +kernel
theorem dX10_attempt_54 : decode cX10_attempt 54 = .ok (.idiv, 1) := by decide +kernel
theorem dX10_attempt_55 : decode cX10_attempt 55 = .ok (.lookupswitch 43 #[(0, 25), (1, 34)], 25) := by decide +kernel
theorem dX10_attempt_80 : decode cX10_attempt 80 = .ok (.aload_n 0, 1) := by decide +kernel
theorem dX10_attempt_81 : decode cX10_attempt 81 = .ok (.iload 4, 2) := by decide +kernel
theorem dX10_attempt_83 : decode cX10_attempt 83 = .ok (.iload 5, 2) := by decide +kernel
theorem dX10_attempt_85 : decode cX10_attempt 85 = .ok (.invokevirtual 132, 3) := by decide +kernel
theorem dX10_attempt_88 : decode cX10_attempt 88 = .ok (.ireturn, 1) := by decide +kernel
theorem dX10_attempt_89 : decode cX10_attempt 89 = .ok (.aload_n 0, 1) := by decide +kernel
theorem dX10_attempt_90 : decode cX10_attempt 90 = .ok (.iload 4, 2) := by decide +kernel
theorem dX10_attempt_92 : decode cX10_attempt 92 = .ok (.iload 5, 2) := by decide +kernel
theorem dX10_attempt_94 : decode cX10_attempt 94 = .ok (.invokevirtual 135, 3) := by decide +kernel
theorem dX10_attempt_97 : decode cX10_attempt 97 = .ok (.ireturn, 1) := by decide +kernel
