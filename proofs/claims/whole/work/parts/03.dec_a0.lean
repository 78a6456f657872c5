theorem dX0_init_0 : decode cX0_init 0 = .ok (.aload_n 0, 1) := by decide +kernel
theorem dX0_init_1 : decode cX0_init 1 = .ok (.invokespecial 3, 3) := by decide +kernel
theorem dX0_init_4 : decode cX0_init 4 = .ok (.aload_n 0, 1) := by decide +kernel
theorem dX0_init_5 : decode cX0_init 5 = .ok (.bipush 7, 2) := by decide +kernel
theorem dX0_init_7 : decode cX0_init 7 = .ok (.newarray .int, 2) := by decide +kernel
theorem dX0_init_9 : decode cX0_init 9 = .ok (.putfield 9, 3) := by decide +kernel
theorem dX0_init_12 : decode cX0_init 12 = .ok (.aload_n 0, 1) := by decide +kernel
theorem dX0_init_13 : decode cX0_init 13 = .ok (.sipush 128, 3) := by decide +kernel
theorem dX0_init_16 : decode cX0_init 16 = .ok (.newarray .int, 2) := by decide +kernel
theorem dX0_init_18 : decode cX0_init 18 = .ok (.putfield 15, 3) := by decide +kernel
theorem dX0_init_21 : decode cX0_init 21 = .ok (.return_, 1) := by decide +kernel
theorem dX0_choose_0 : decode cX0_choose 0 = .ok (.aload_n 0, 1) := by decide +kernel
theorem dX0_choose_1 : decode cX0_choose 1 = .ok (.iconst 0, 1) := by decide +kernel
theorem dX0_choose_2 : decode cX0_choose 2 = .ok (.putfield 18, 3) := by decide +kernel
theorem dX0_choose_5 : decode cX0_choose 5 = .ok (.iconst 0, 1) := by decide +kernel
theorem dX0_choose_6 : decode cX0_choose 6 = .ok (.istore_n 2, 1) := by decide +kernel
theorem dX0_choose_7 : decode cX0_choose 7 = .ok (.iload_n 2, 1) := by decide +kernel
theorem dX0_choose_8 : decode cX0_choose 8 = .ok (.aload_n 1, 1) := by decide +kernel
theorem dX0_choose_9 : decode cX0_choose 9 = .ok (.getfield 22, 3) := by decide +kernel
theorem dX0_choose_12 : decode cX0_choose 12 = .ok (.if_icmp .ge 52, 3) := by decide +kernel
theorem dX0_choose_15 : decode cX0_choose 15 = .ok (.aload_n 1, 1) := by decide +kernel
theorem dX0_choose_16 : decode cX0_choose 16 = .ok (.getfield 25, 3) := by decide +kernel
theorem dX0_choose_19 : decode cX0_choose 19 = .ok (.iload_n 2, 1) := by decide +kernel
theorem dX0_choose_20 : decode cX0_choose 20 = .ok (.aaload, 1) := by decide +kernel
theorem dX0_choose_21 : decode cX0_choose 21 = .ok (.getfield 29, 3) := by decide +kernel
theorem dX0_choose_24 : decode cX0_choose 24 = .ok (.ifCond .le 34, 3) := by decide +kernel
theorem dX0_choose_27 : decode cX0_choose 27 = .ok (.aload_n 0, 1) := by decide +kernel
theorem dX0_choose_28 : decode cX0_choose 28 = .ok (.getfield 18, 3) := by decide +kernel
theorem dX0_choose_31 : decode cX0_choose 31 = .ok (.bipush 7, 2) := by decide +kernel
theorem dX0_choose_33 : decode cX0_choose 33 = .ok (.if_icmp .lt 5, 3) := by decide +kernel
theorem dX0_choose_36 : decode cX0_choose 36 = .ok (.iconst 0, 1) := by decide +kernel
theorem dX0_choose_37 : decode cX0_choose 37 = .ok (.ireturn, 1) := by decide +kernel
theorem dX0_choose_38 : decode cX0_choose 38 = .ok (.aload_n 0, 1) := by decide +kernel
theorem dX0_choose_39 : decode cX0_choose 39 = .ok (.getfield 9, 3) := by decide +kernel
theorem dX0_choose_42 : decode cX0_choose 42 = .ok (.aload_n 0, 1) := by decide +kernel
theorem dX0_choose_43 : decode cX0_choose 43 = .ok (.getfield 18, 3) := by decide +kernel
theorem dX0_choose_46 : decode cX0_choose 46 = .ok (.iload_n 2, 1) := by decide +kernel
theorem dX0_choose_47 : decode cX0_choose 47 = .ok (.iastore, 1) := by decide +kernel
theorem dX0_choose_48 : decode cX0_choose 48 = .ok (.aload_n 0, 1) := by decide +kernel
theorem dX0_choose_49 : decode cX0_choose 49 = .ok (.dup, 1) := by decide +kernel
theorem dX0_choose_50 : decode cX0_choose 50 = .ok (.getfield 18, 3) := by decide +kernel
theorem dX0_choose_53 : decode cX0_choose 53 = .ok (.iconst 1, 1) := by decide +kernel
theorem dX0_choose_54 : decode cX0_choose 54 = .ok (.iadd, 1) := by decide +kernel
theorem dX0_choose_55 : decode cX0_choose 55 = .ok (.putfield 18, 3) := by decide +kernel
theorem dX0_choose_58 : decode cX0_choose 58 = .ok (.iinc 2 1, 3) := by decide +kernel
theorem dX0_choose_61 : decode cX0_choose 61 = .ok (.goto (-54), 3) := by decide +kernel
theorem dX0_choose_64 : decode cX0_choose 64 = .ok (.iconst 1, 1) := by decide +kernel
theorem dX0_choose_65 : decode cX0_choose 65 = .ok (.ireturn, 1) := by decide +kernel
theorem dX0_overWith_0 : decode cX0_overWith 0 = .ok (.aload 4, 2) := by decide +kernel
theorem dX0_overWith_2 : decode cX0_overWith 2 = .ok (.aload_n 3, 1) := by decide +kernel
theorem dX0_overWith_3 : decode cX0_overWith 3 = .ok (.invokevirtual 34, 3) := by decide +kernel
theorem dX0_overWith_6 : decode cX0_overWith 6 = .ok (.iconst 0, 1) := by decide +kernel
theorem dX0_overWith_7 : decode cX0_overWith 7 = .ok (.istore 6, 2) := by decide +kernel
theorem dX0_overWith_9 : decode cX0_overWith 9 = .ok (.iload 6, 2) := by decide +kernel
theorem dX0_overWith_11 : decode cX0_overWith 11 = .ok (.aload_n 0, 1) := by decide +kernel
theorem dX0_overWith_12 : decode cX0_overWith 12 = .ok (.getfield 18, 3) := by decide +kernel
theorem dX0_overWith_15 : decode cX0_overWith 15 = .ok (.if_icmp .ge 35, 3) := by decide +kernel
theorem dX0_overWith_18 : decode cX0_overWith 18 = .ok (.iload_n 1, 1) := by decide +kernel
theorem dX0_overWith_19 : decode cX0_overWith 19 = .ok (.iload 6, 2) := by decide +kernel
theorem dX0_overWith_21 : decode cX0_overWith 21 = .ok (.ishr, 1) := by decide +kernel
theorem dX0_overWith_22 : decode cX0_overWith 22 = .ok (.iconst 1, 1) := by decide +kernel
theorem dX0_overWith_23 : decode cX0_overWith 23 = .ok (.iand, 1) := by decide +kernel
theorem dX0_overWith_24 : decode cX0_overWith 24 = .ok (.ifCond .ne 20, 3) := by decide +kernel
theorem dX0_overWith_27 : decode cX0_overWith 27 = .ok (.aload 4, 2) := by decide +kernel
theorem dX0_overWith_29 : decode cX0_overWith 29 = .ok (.getfield 25, 3) := by decide +kernel
theorem dX0_overWith_32 : decode cX0_overWith 32 = .ok (.aload_n 0, 1) := by decide +kernel
theorem dX0_overWith_33 : decode cX0_overWith 33 = .ok (.getfield 9, 3) := by decide +kernel
theorem dX0_overWith_36 : decode cX0_overWith 36 = .ok (.iload 6, 2) := by decide +kernel
theorem dX0_overWith_38 : decode cX0_overWith 38 = .ok (.iaload, 1) := by decide +kernel
theorem dX0_overWith_39 : decode cX0_overWith 39 = .ok (.aaload, 1) := by decide +kernel
theorem dX0_overWith_40 : decode cX0_overWith 40 = .ok (.iconst 0, 1) := by decide +kernel
theorem dX0_overWith_41 : decode cX0_overWith 41 = .ok (.putfield 29, 3) := by decide +kernel
theorem dX0_overWith_44 : decode cX0_overWith 44 = .ok (.iinc 6 1, 3) := by decide +kernel
theorem dX0_overWith_47 : decode cX0_overWith 47 = .ok (.goto (-38), 3) := by decide +kernel
theorem dX0_overWith_50 : decode cX0_overWith 50 = .ok (.aload 4, 2) := by decide +kernel
theorem dX0_overWith_52 : decode cX0_overWith 52 = .ok (.aload 5, 2) := by decide +kernel
theorem dX0_overWith_54 : decode cX0_overWith 54 = .ok (.iload_n 2, 1) := by decide +kernel
theorem dX0_overWith_55 : decode cX0_overWith 55 = .ok (.invokevirtual 38, 3) := by decide +kernel
theorem dX0_overWith_58 : decode cX0_overWith 58 = .ok (.pop, 1) := by decide +kernel
theorem dX0_overWith_59 : decode cX0_overWith 59 = .ok (.aload 4, 2) := by decide +kernel
theorem dX0_overWith_61 : decode cX0_overWith 61 = .ok (.getfield 25, 3) := by decide +kernel
theorem dX0_overWith_64 : decode cX0_overWith 64 = .ok (.iload_n 2, 1) := by decide +kernel
theorem dX0_overWith_65 : decode cX0_overWith 65 = .ok (.aaload, 1) := by decide +kernel
theorem dX0_overWith_66 : decode cX0_overWith 66 = .ok (.getfield 42, 3) := by decide +kernel
theorem dX0_overWith_69 : decode cX0_overWith 69 = .ok (.ireturn, 1) := by decide +kernel
theorem dX0_weigh_0 : decode cX0_weigh 0 = .ok (.aload_n 0, 1) := by decide +kernel
theorem dX0_weigh_1 : decode cX0_weigh 1 = .ok (.lconst 0, 1) := by decide +kernel
theorem dX0_weigh_2 : decode cX0_weigh 2 = .ok (.putfield 45, 3) := by decide +kernel
theorem dX0_weigh_5 : decode cX0_weigh 5 = .ok (.aload_n 0, 1) := by decide +kernel
theorem dX0_weigh_6 : decode cX0_weigh 6 = .ok (.lconst 1, 1) := by decide +kernel
theorem dX0_weigh_7 : decode cX0_weigh 7 = .ok (.putfield 49, 3) := by decide +kernel
theorem dX0_weigh_10 : decode cX0_weigh 10 = .ok (.iconst 0, 1) := by decide +kernel
theorem dX0_weigh_11 : decode cX0_weigh 11 = .ok (.istore 6, 2) := by decide +kernel
theorem dX0_weigh_13 : decode cX0_weigh 13 = .ok (.iconst 0, 1) := by decide +kernel
theorem dX0_weigh_14 : decode cX0_weigh 14 = .ok (.istore 7, 2) := by decide +kernel
theorem dX0_weigh_16 : decode cX0_weigh 16 = .ok (.iload 7, 2) := by decide +kernel
theorem dX0_weigh_18 : decode cX0_weigh 18 = .ok (.aload_n 0, 1) := by decide +kernel
theorem dX0_weigh_19 : decode cX0_weigh 19 = .ok (.getfield 18, 3) := by decide +kernel
theorem dX0_weigh_22 : decode cX0_weigh 22 = .ok (.if_icmp .ge 33, 3) := by decide +kernel
theorem dX0_weigh_25 : decode cX0_weigh 25 = .ok (.iload 6, 2) := by decide +kernel
theorem dX0_weigh_27 : decode cX0_weigh 27 = .ok (.aload_n 0, 1) := by decide +kernel
theorem dX0_weigh_28 : decode cX0_weigh 28 = .ok (.getfield 9, 3) := by decide +kernel
theorem dX0_weigh_31 : decode cX0_weigh 31 = .ok (.iload 7, 2) := by decide +kernel
theorem dX0_weigh_33 : decode cX0_weigh 33 = .ok (.iaload, 1) := by decide +kernel
theorem dX0_weigh_34 : decode cX0_weigh 34 = .ok (.iload_n 2, 1) := by decide +kernel
theorem dX0_weigh_35 : decode cX0_weigh 35 = .ok (.if_icmp .ne 10, 3) := by decide +kernel
theorem dX0_weigh_38 : decode cX0_weigh 38 = .ok (.iconst 1, 1) := by decide +kernel
theorem dX0_weigh_39 : decode cX0_weigh 39 = .ok (.iload 7, 2) := by decide +kernel
theorem dX0_weigh_41 : decode cX0_weigh 41 = .ok (.ishl, 1) := by decide +kernel
theorem dX0_weigh_42 : decode cX0_weigh 42 = .ok (.goto 4, 3) := by decide +kernel
theorem dX0_weigh_45 : decode cX0_weigh 45 = .ok (.iconst 0, 1) := by decide +kernel
theorem dX0_weigh_46 : decode cX0_weigh 46 = .ok (.ior, 1) := by decide +kernel
theorem dX0_weigh_47 : decode cX0_weigh 47 = .ok (.istore 6, 2) := by decide +kernel
theorem dX0_weigh_49 : decode cX0_weigh 49 = .ok (.iinc 7 1, 3) := by decide +kernel
theorem dX0_weigh_52 : decode cX0_weigh 52 = .ok (.goto (-36), 3) := by decide +kernel
theorem dX0_weigh_55 : decode cX0_weigh 55 = .ok (.iload 6, 2) := by decide +kernel
theorem dX0_weigh_57 : decode cX0_weigh 57 = .ok (.ifCond .ne 4, 3) := by decide +kernel
theorem dX0_weigh_60 : decode cX0_weigh 60 = .ok (.return_, 1) := by decide +kernel
theorem dX0_weigh_61 : decode cX0_weigh 61 = .ok (.iconst 0, 1) := by decide +kernel
theorem dX0_weigh_62 : decode cX0_weigh 62 = .ok (.istore 7, 2) := by decide +kernel
theorem dX0_weigh_64 : decode cX0_weigh 64 = .ok (.iload 7, 2) := by decide +kernel
theorem dX0_weigh_66 : decode cX0_weigh 66 = .ok (.iconst 1, 1) := by decide +kernel
theorem dX0_weigh_67 : decode cX0_weigh 67 = .ok (.aload_n 0, 1) := by decide +kernel
theorem dX0_weigh_68 : decode cX0_weigh 68 = .ok (.getfield 18, 3) := by decide +kernel
theorem dX0_weigh_71 : decode cX0_weigh 71 = .ok (.ishl, 1) := by decide +kernel
theorem dX0_weigh_72 : decode cX0_weigh 72 = .ok (.if_icmp .ge 28, 3) := by decide +kernel
theorem dX0_weigh_75 : decode cX0_weigh 75 = .ok (.aload_n 0, 1) := by decide +kernel
theorem dX0_weigh_76 : decode cX0_weigh 76 = .ok (.getfield 15, 3) := by decide +kernel
theorem dX0_weigh_79 : decode cX0_weigh 79 = .ok (.iload 7, 2) := by decide +kernel
theorem dX0_weigh_81 : decode cX0_weigh 81 = .ok (.aload_n 0, 1) := by decide +kernel
theorem dX0_weigh_82 : decode cX0_weigh 82 = .ok (.iload 7, 2) := by decide +kernel
theorem dX0_weigh_84 : decode cX0_weigh 84 = .ok (.iload_n 1, 1) := by decide +kernel
theorem dX0_weigh_85 : decode cX0_weigh 85 = .ok (.aload_n 3, 1) := by decide +kernel
theorem dX0_weigh_86 : decode cX0_weigh 86 = .ok (.aload 4, 2) := by decide +kernel
theorem dX0_weigh_88 : decode cX0_weigh 88 = .ok (.aload 5, 2) := by decide +kernel
theorem dX0_weigh_90 : decode cX0_weigh 90 = .ok (.invokevirtual 52, 3) := by decide +kernel
theorem dX0_weigh_93 : decode cX0_weigh 93 = .ok (.iastore, 1) := by decide +kernel
theorem dX0_weigh_94 : decode cX0_weigh 94 = .ok (.iinc 7 1, 3) := by decide +kernel
theorem dX0_weigh_97 : decode cX0_weigh 97 = .ok (.goto (-33), 3) := by decide +kernel
theorem dX0_weigh_100 : decode cX0_weigh 100 = .ok (.aload_n 0, 1) := by decide +kernel
theorem dX0_weigh_101 : decode cX0_weigh 101 = .ok (.iload 6, 2) := by decide +kernel
theorem dX0_weigh_103 : decode cX0_weigh 103 = .ok (.invokevirtual 56, 3) := by decide +kernel
theorem dX0_weigh_106 : decode cX0_weigh 106 = .ok (.lstore 7, 2) := by decide +kernel
theorem dX0_weigh_108 : decode cX0_weigh 108 = .ok (.getstatic 60, 3) := by decide +kernel
theorem dX0_weigh_111 : decode cX0_weigh 111 = .ok (.aload_n 0, 1) := by decide +kernel
theorem dX0_weigh_112 : decode cX0_weigh 112 = .ok (.getfield 18, 3) := by decide +kernel
theorem dX0_weigh_115 : decode cX0_weigh 115 = .ok (.iaload, 1) := by decide +kernel
theorem dX0_weigh_116 : decode cX0_weigh 116 = .ok (.i2l, 1) := by decide +kernel
theorem dX0_weigh_117 : decode cX0_weigh 117 = .ok (.lstore 9, 2) := by decide +kernel
theorem dX0_weigh_119 : decode cX0_weigh 119 = .ok (.lload 7, 2) := by decide +kernel
theorem dX0_weigh_121 : decode cX0_weigh 121 = .ok (.invokestatic 63, 3) := by decide +kernel
theorem dX0_weigh_124 : decode cX0_weigh 124 = .ok (.lload 9, 2) := by decide +kernel
theorem dX0_weigh_126 : decode cX0_weigh 126 = .ok (.invokestatic 69, 3) := by decide +kernel
theorem dX0_weigh_129 : decode cX0_weigh 129 = .ok (.lstore 11, 2) := by decide +kernel
theorem dX0_weigh_131 : decode cX0_weigh 131 = .ok (.aload_n 0, 1) := by decide +kernel
theorem dX0_weigh_132 : decode cX0_weigh 132 = .ok (.lload 7, 2) := by decide +kernel
theorem dX0_weigh_134 : decode cX0_weigh 134 = .ok (.lload 11, 2) := by decide +kernel
theorem dX0_weigh_136 : decode cX0_weigh 136 = .ok (.ldiv, 1) := by decide +kernel
theorem dX0_weigh_137 : decode cX0_weigh 137 = .ok (.putfield 45, 3) := by decide +kernel
theorem dX0_weigh_140 : decode cX0_weigh 140 = .ok (.aload_n 0, 1) := by decide +kernel
theorem dX0_weigh_141 : decode cX0_weigh 141 = .ok (.lload 9, 2) := by decide +kernel
theorem dX0_weigh_143 : decode cX0_weigh 143 = .ok (.lload 11, 2) := by decide +kernel
theorem dX0_weigh_145 : decode cX0_weigh 145 = .ok (.ldiv, 1) := by decide +kernel
theorem dX0_weigh_146 : decode cX0_weigh 146 = .ok (.putfield 49, 3) := by decide +kernel
theorem dX0_weigh_149 : decode cX0_weigh 149 = .ok (.return_, 1) := by decide +kernel
theorem dX0_addOrders_0 : decode cX0_addOrders 0 = .ok (.lconst 0, 1) := by decide +kernel
theorem dX0_addOrders_1 : decode cX0_addOrders 1 = .ok (.lstore_n 2, 1) := by decide +kernel
theorem dX0_addOrders_2 : decode cX0_addOrders 2 = .ok (.iconst 0, 1) := by decide +kernel
theorem dX0_addOrders_3 : decode cX0_addOrders 3 = .ok (.istore 4, 2) := by decide +kernel
theorem dX0_addOrders_5 : decode cX0_addOrders 5 = .ok (.iload 4, 2) := by decide +kernel
theorem dX0_addOrders_7 : decode cX0_addOrders 7 = .ok (.iconst 1, 1) := by decide +kernel
theorem dX0_addOrders_8 : decode cX0_addOrders 8 = .ok (.aload_n 0, 1) := by decide +kernel
theorem dX0_addOrders_9 : decode cX0_addOrders 9 = .ok (.getfield 18, 3) := by decide +kernel
theorem dX0_addOrders_12 : decode cX0_addOrders 12 = .ok (.ishl, 1) := by decide +kernel
theorem dX0_addOrders_13 : decode cX0_addOrders 13 = .ok (.if_icmp .ge 71, 3) := by decide +kernel
theorem dX0_addOrders_16 : decode cX0_addOrders 16 = .ok (.iload 4, 2) := by decide +kernel
theorem dX0_addOrders_18 : decode cX0_addOrders 18 = .ok (.iload_n 1, 1) := by decide +kernel
theorem dX0_addOrders_19 : decode cX0_addOrders 19 = .ok (.iand, 1) := by decide +kernel
theorem dX0_addOrders_20 : decode cX0_addOrders 20 = .ok (.ifCond .ne 58, 3) := by decide +kernel
theorem dX0_addOrders_23 : decode cX0_addOrders 23 = .ok (.iload 4, 2) := by decide +kernel
theorem dX0_addOrders_25 : decode cX0_addOrders 25 = .ok (.invokestatic 73, 3) := by decide +kernel
theorem dX0_addOrders_28 : decode cX0_addOrders 28 = .ok (.istore 5, 2) := by decide +kernel
theorem dX0_addOrders_30 : decode cX0_addOrders 30 = .ok (.getstatic 60, 3) := by decide +kernel
theorem dX0_addOrders_33 : decode cX0_addOrders 33 = .ok (.iload 5, 2) := by decide +kernel
theorem dX0_addOrders_35 : decode cX0_addOrders 35 = .ok (.iaload, 1) := by decide +kernel
theorem dX0_addOrders_36 : decode cX0_addOrders 36 = .ok (.i2l, 1) := by decide +kernel
theorem dX0_addOrders_37 : decode cX0_addOrders 37 = .ok (.getstatic 60, 3) := by decide +kernel
theorem dX0_addOrders_40 : decode cX0_addOrders 40 = .ok (.aload_n 0, 1) := by decide +kernel
theorem dX0_addOrders_41 : decode cX0_addOrders 41 = .ok (.getfield 18, 3) := by decide +kernel
theorem dX0_addOrders_44 : decode cX0_addOrders 44 = .ok (.iconst 1, 1) := by decide +kernel
theorem dX0_addOrders_45 : decode cX0_addOrders 45 = .ok (.isub, 1) := by decide +kernel
theorem dX0_addOrders_46 : decode cX0_addOrders 46 = .ok (.iload 5, 2) := by decide +kernel
theorem dX0_addOrders_48 : decode cX0_addOrders 48 = .ok (.isub, 1) := by decide +kernel
theorem dX0_addOrders_49 : decode cX0_addOrders 49 = .ok (.iaload, 1) := by decide +kernel
theorem dX0_addOrders_50 : decode cX0_addOrders 50 = .ok (.i2l, 1) := by decide +kernel
theorem dX0_addOrders_51 : decode cX0_addOrders 51 = .ok (.lmul, 1) := by decide +kernel
theorem dX0_addOrders_52 : decode cX0_addOrders 52 = .ok (.lstore 6, 2) := by decide +kernel
theorem dX0_addOrders_54 : decode cX0_addOrders 54 = .ok (.lload_n 2, 1) := by decide +kernel
theorem dX0_addOrders_55 : decode cX0_addOrders 55 = .ok (.lload 6, 2) := by decide +kernel
theorem dX0_addOrders_57 : decode cX0_addOrders 57 = .ok (.aload_n 0, 1) := by decide +kernel
theorem dX0_addOrders_58 : decode cX0_addOrders 58 = .ok (.getfield 15, 3) := by decide +kernel
theorem dX0_addOrders_61 : decode cX0_addOrders 61 = .ok (.iload 4, 2) := by decide +kernel
theorem dX0_addOrders_63 : decode cX0_addOrders 63 = .ok (.iload_n 1, 1) := by decide +kernel
theorem dX0_addOrders_64 : decode cX0_addOrders 64 = .ok (.ior, 1) := by decide +kernel
theorem dX0_addOrders_65 : decode cX0_addOrders 65 = .ok (.iaload, 1) := by decide +kernel
theorem dX0_addOrders_66 : decode cX0_addOrders 66 = .ok (.aload_n 0, 1) := by decide +kernel
theorem dX0_addOrders_67 : decode cX0_addOrders 67 = .ok (.getfield 15, 3) := by decide +kernel
theorem dX0_addOrders_70 : decode cX0_addOrders 70 = .ok (.iload 4, 2) := by decide +kernel
theorem dX0_addOrders_72 : decode cX0_addOrders 72 = .ok (.iaload, 1) := by decide +kernel
theorem dX0_addOrders_73 : decode cX0_addOrders 73 = .ok (.isub, 1) := by decide +kernel
theorem dX0_addOrders_74 : decode cX0_addOrders 74 = .ok (.i2l, 1) := by decide +kernel
theorem dX0_addOrders_75 : decode cX0_addOrders 75 = .ok (.lmul, 1) := by decide +kernel
theorem dX0_addOrders_76 : decode cX0_addOrders 76 = .ok (.ladd, 1) := by decide +kernel
theorem dX0_addOrders_77 : decode cX0_addOrders 77 = .ok (.lstore_n 2, 1) := by decide +kernel
theorem dX0_addOrders_78 : decode cX0_addOrders 78 = .ok (.iinc 4 1, 3) := by decide +kernel
theorem dX0_addOrders_81 : decode cX0_addOrders 81 = .ok (.goto (-76), 3) := by decide +kernel
theorem dX0_addOrders_84 : decode cX0_addOrders 84 = .ok (.lload_n 2, 1) := by decide +kernel
theorem dX0_addOrders_85 : decode cX0_addOrders 85 = .ok (.lreturn, 1) := by decide +kernel
theorem dX0_commonPart_0 : decode cX0_commonPart 0 = .ok (.iconst 0, 1) := by decide +kernel
theorem dX0_commonPart_1 : decode cX0_commonPart 1 = .ok (.istore 4, 2) := by decide +kernel
theorem dX0_commonPart_3 : decode cX0_commonPart 3 = .ok (.iload 4, 2) := by decide +kernel
theorem dX0_commonPart_5 : decode cX0_commonPart 5 = .ok (.sipush 128, 3) := by decide +kernel
theorem dX0_commonPart_8 : decode cX0_commonPart 8 = .ok (.if_icmp .ge 25, 3) := by decide +kernel
theorem dX0_commonPart_11 : decode cX0_commonPart 11 = .ok (.lload_n 2, 1) := by decide +kernel
theorem dX0_commonPart_12 : decode cX0_commonPart 12 = .ok (.lconst 0, 1) := by decide +kernel
theorem dX0_commonPart_13 : decode cX0_commonPart 13 = .ok (.lcmp, 1) := by decide +kernel
theorem dX0_commonPart_14 : decode cX0_commonPart 14 = .ok (.ifCond .eq 19, 3) := by decide +kernel
theorem dX0_commonPart_17 : decode cX0_commonPart 17 = .ok (.lload_n 0, 1) := by decide +kernel
theorem dX0_commonPart_18 : decode cX0_commonPart 18 = .ok (.lload_n 2, 1) := by decide +kernel
theorem dX0_commonPart_19 : decode cX0_commonPart 19 = .ok (.lrem, 1) := by decide +kernel
theorem dX0_commonPart_20 : decode cX0_commonPart 20 = .ok (.lstore 5, 2) := by decide +kernel
theorem dX0_commonPart_22 : decode cX0_commonPart 22 = .ok (.lload_n 2, 1) := by decide +kernel
theorem dX0_commonPart_23 : decode cX0_commonPart 23 = .ok (.lstore_n 0, 1) := by decide +kernel
theorem dX0_commonPart_24 : decode cX0_commonPart 24 = .ok (.lload 5, 2) := by decide +kernel
theorem dX0_commonPart_26 : decode cX0_commonPart 26 = .ok (.lstore_n 2, 1) := by decide +kernel
theorem dX0_commonPart_27 : decode cX0_commonPart 27 = .ok (.iinc 4 1, 3) := by decide +kernel
theorem dX0_commonPart_30 : decode cX0_commonPart 30 = .ok (.goto (-27), 3) := by decide +kernel
theorem dX0_commonPart_33 : decode cX0_commonPart 33 = .ok (.lconst 1, 1) := by decide +kernel
theorem dX0_commonPart_34 : decode cX0_commonPart 34 = .ok (.lload_n 0, 1) := by decide +kernel
theorem dX0_commonPart_35 : decode cX0_commonPart 35 = .ok (.invokestatic 79, 3) := by decide +kernel
theorem dX0_commonPart_38 : decode cX0_commonPart 38 = .ok (.lreturn, 1) := by decide +kernel
theorem dX1_init_0 : decode cX1_init 0 = .ok (.aload_n 0, 1) := by decide +kernel
theorem dX1_init_1 : decode cX1_init 1 = .ok (.invokespecial 3, 3) := by decide +kernel
theorem dX1_init_4 : decode cX1_init 4 = .ok (.aload_n 0, 1) := by decide +kernel
theorem dX1_init_5 : decode cX1_init 5 = .ok (.iconst 4, 1) := by decide +kernel
theorem dX1_init_6 : decode cX1_init 6 = .ok (.newarray .int, 2) := by decide +kernel
theorem dX1_init_8 : decode cX1_init 8 = .ok (.putfield 9, 3) := by decide +kernel
theorem dX1_init_11 : decode cX1_init 11 = .ok (.aload_n 0, 1) := by decide +kernel
theorem dX1_init_12 : decode cX1_init 12 = .ok (.iconst 4, 1) := by decide +kernel
theorem dX1_init_13 : decode cX1_init 13 = .ok (.newarray .int, 2) := by decide +kernel
theorem dX1_init_15 : decode cX1_init 15 = .ok (.putfield 15, 3) := by decide +kernel
theorem dX1_init_18 : decode cX1_init 18 = .ok (.aload_n 0, 1) := by decide +kernel
theorem dX1_init_19 : decode cX1_init 19 = .ok (.bipush 16, 2) := by decide +kernel
theorem dX1_init_21 : decode cX1_init 21 = .ok (.newarray .int, 2) := by decide +kernel
theorem dX1_init_23 : decode cX1_init 23 = .ok (.putfield 18, 3) := by decide +kernel
theorem dX1_init_26 : decode cX1_init 26 = .ok (.return_, 1) := by decide +kernel
theorem dX1_rain_0 : decode cX1_rain 0 = .ok (.aload_n 2, 1) := by decide +kernel
theorem dX1_rain_1 : decode cX1_rain 1 = .ok (.aload_n 1, 1) := by decide +kernel
theorem dX1_rain_2 : decode cX1_rain 2 = .ok (.getfield 21, 3) := by decide +kernel
theorem dX1_rain_5 : decode cX1_rain 5 = .ok (.invokevirtual 27, 3) := by decide +kernel
theorem dX1_rain_8 : decode cX1_rain 8 = .ok (.aload_n 2, 1) := by decide +kernel
theorem dX1_rain_9 : decode cX1_rain 9 = .ok (.invokevirtual 33, 3) := by decide +kernel
theorem dX1_rain_12 : decode cX1_rain 12 = .ok (.iconst 0, 1) := by decide +kernel
theorem dX1_rain_13 : decode cX1_rain 13 = .ok (.istore_n 3, 1) := by decide +kernel
theorem dX1_rain_14 : decode cX1_rain 14 = .ok (.iload_n 3, 1) := by decide +kernel
theorem dX1_rain_15 : decode cX1_rain 15 = .ok (.aload_n 0, 1) := by decide +kernel
theorem dX1_rain_16 : decode cX1_rain 16 = .ok (.getfield 36, 3) := by decide +kernel
theorem dX1_rain_19 : decode cX1_rain 19 = .ok (.if_icmp .ge 72, 3) := by decide +kernel
theorem dX1_rain_22 : decode cX1_rain 22 = .ok (.aload_n 2, 1) := by decide +kernel
theorem dX1_rain_23 : decode cX1_rain 23 = .ok (.aload_n 1, 1) := by decide +kernel
theorem dX1_rain_24 : decode cX1_rain 24 = .ok (.getfield 40, 3) := by decide +kernel
theorem dX1_rain_27 : decode cX1_rain 27 = .ok (.aload_n 0, 1) := by decide +kernel
theorem dX1_rain_28 : decode cX1_rain 28 = .ok (.getfield 9, 3) := by decide +kernel
theorem dX1_rain_31 : decode cX1_rain 31 = .ok (.iload_n 3, 1) := by decide +kernel
theorem dX1_rain_32 : decode cX1_rain 32 = .ok (.iaload, 1) := by decide +kernel
theorem dX1_rain_33 : decode cX1_rain 33 = .ok (.aaload, 1) := by decide +kernel
theorem dX1_rain_34 : decode cX1_rain 34 = .ok (.bipush 10, 2) := by decide +kernel
theorem dX1_rain_36 : decode cX1_rain 36 = .ok (.invokevirtual 43, 3) := by decide +kernel
theorem dX1_rain_39 : decode cX1_rain 39 = .ok (.pop, 1) := by decide +kernel
theorem dX1_rain_40 : decode cX1_rain 40 = .ok (.iconst 0, 1) := by decide +kernel
theorem dX1_rain_41 : decode cX1_rain 41 = .ok (.istore 4, 2) := by decide +kernel
theorem dX1_rain_43 : decode cX1_rain 43 = .ok (.iload 4, 2) := by decide +kernel
theorem dX1_rain_45 : decode cX1_rain 45 = .ok (.aload_n 2, 1) := by decide +kernel
theorem dX1_rain_46 : decode cX1_rain 46 = .ok (.getfield 47, 3) := by decide +kernel
theorem dX1_rain_49 : decode cX1_rain 49 = .ok (.if_icmp .ge 36, 3) := by decide +kernel
theorem dX1_rain_52 : decode cX1_rain 52 = .ok (.iload 4, 2) := by decide +kernel
theorem dX1_rain_54 : decode cX1_rain 54 = .ok (.iconst 4, 1) := by decide +kernel
theorem dX1_rain_55 : decode cX1_rain 55 = .ok (.if_icmp .ge 30, 3) := by decide +kernel
theorem dX1_rain_58 : decode cX1_rain 58 = .ok (.aload_n 0, 1) := by decide +kernel
theorem dX1_rain_59 : decode cX1_rain 59 = .ok (.getfield 18, 3) := by decide +kernel
theorem dX1_rain_62 : decode cX1_rain 62 = .ok (.iload_n 3, 1) := by decide +kernel
theorem dX1_rain_63 : decode cX1_rain 63 = .ok (.iconst 4, 1) := by decide +kernel
theorem dX1_rain_64 : decode cX1_rain 64 = .ok (.imul, 1) := by decide +kernel
theorem dX1_rain_65 : decode cX1_rain 65 = .ok (.iload 4, 2) := by decide +kernel
theorem dX1_rain_67 : decode cX1_rain 67 = .ok (.iadd, 1) := by decide +kernel
theorem dX1_rain_68 : decode cX1_rain 68 = .ok (.aload_n 2, 1) := by decide +kernel
theorem dX1_rain_69 : decode cX1_rain 69 = .ok (.getfield 50, 3) := by decide +kernel
theorem dX1_rain_72 : decode cX1_rain 72 = .ok (.iload 4, 2) := by decide +kernel
theorem dX1_rain_74 : decode cX1_rain 74 = .ok (.aaload, 1) := by decide +kernel
theorem dX1_rain_75 : decode cX1_rain 75 = .ok (.getfield 54, 3) := by decide +kernel
theorem dX1_rain_78 : decode cX1_rain 78 = .ok (.iastore, 1) := by decide +kernel
theorem dX1_rain_79 : decode cX1_rain 79 = .ok (.iinc 4 1, 3) := by decide +kernel
theorem dX1_rain_82 : decode cX1_rain 82 = .ok (.goto (-39), 3) := by decide +kernel
theorem dX1_rain_85 : decode cX1_rain 85 = .ok (.iinc 3 1, 3) := by decide +kernel
theorem dX1_rain_88 : decode cX1_rain 88 = .ok (.goto (-74), 3) := by decide +kernel
theorem dX1_rain_91 : decode cX1_rain 91 = .ok (.return_, 1) := by decide +kernel
theorem dX1_plan_0 : decode cX1_plan 0 = .ok (.aload_n 0, 1) := by decide +kernel
theorem dX1_plan_1 : decode cX1_plan 1 = .ok (.iconst 0, 1) := by decide +kernel
theorem dX1_plan_2 : decode cX1_plan 2 = .ok (.putfield 58, 3) := by decide +kernel
theorem dX1_plan_5 : decode cX1_plan 5 = .ok (.iconst 0, 1) := by decide +kernel
theorem dX1_plan_6 : decode cX1_plan 6 = .ok (.istore_n 2, 1) := by decide +kernel
theorem dX1_plan_7 : decode cX1_plan 7 = .ok (.iload_n 2, 1) := by decide +kernel
theorem dX1_plan_8 : decode cX1_plan 8 = .ok (.iconst 4, 1) := by decide +kernel
theorem dX1_plan_9 : decode cX1_plan 9 = .ok (.if_icmp .ge 16, 3) := by decide +kernel
theorem dX1_plan_12 : decode cX1_plan 12 = .ok (.aload_n 0, 1) := by decide +kernel
theorem dX1_plan_13 : decode cX1_plan 13 = .ok (.getfield 15, 3) := by decide +kernel
theorem dX1_plan_16 : decode cX1_plan 16 = .ok (.iload_n 2, 1) := by decide +kernel
theorem dX1_plan_17 : decode cX1_plan 17 = .ok (.iconst 0, 1) := by decide +kernel
theorem dX1_plan_18 : decode cX1_plan 18 = .ok (.iastore, 1) := by decide +kernel
theorem dX1_plan_19 : decode cX1_plan 19 = .ok (.iinc 2 1, 3) := by decide +kernel
theorem dX1_plan_22 : decode cX1_plan 22 = .ok (.goto (-15), 3) := by decide +kernel
theorem dX1_plan_25 : decode cX1_plan 25 = .ok (.iconst 0, 1) := by decide +kernel
theorem dX1_plan_26 : decode cX1_plan 26 = .ok (.istore_n 2, 1) := by decide +kernel
theorem dX1_plan_27 : decode cX1_plan 27 = .ok (.iload_n 2, 1) := by decide +kernel
theorem dX1_plan_28 : decode cX1_plan 28 = .ok (.aload_n 1, 1) := by decide +kernel
theorem dX1_plan_29 : decode cX1_plan 29 = .ok (.getfield 47, 3) := by decide +kernel
theorem dX1_plan_32 : decode cX1_plan 32 = .ok (.if_icmp .ge 91, 3) := by decide +kernel
theorem dX1_plan_35 : decode cX1_plan 35 = .ok (.iload_n 2, 1) := by decide +kernel
theorem dX1_plan_36 : decode cX1_plan 36 = .ok (.iconst 4, 1) := by decide +kernel
theorem dX1_plan_37 : decode cX1_plan 37 = .ok (.if_icmp .ge 86, 3) := by decide +kernel
theorem dX1_plan_40 : decode cX1_plan 40 = .ok (.aload_n 0, 1) := by decide +kernel
theorem dX1_plan_41 : decode cX1_plan 41 = .ok (.aload_n 1, 1) := by decide +kernel
theorem dX1_plan_42 : decode cX1_plan 42 = .ok (.getfield 50, 3) := by decide +kernel
theorem dX1_plan_45 : decode cX1_plan 45 = .ok (.iload_n 2, 1) := by decide +kernel
theorem dX1_plan_46 : decode cX1_plan 46 = .ok (.aaload, 1) := by decide +kernel
theorem dX1_plan_47 : decode cX1_plan 47 = .ok (.iload_n 2, 1) := by decide +kernel
theorem dX1_plan_48 : decode cX1_plan 48 = .ok (.invokevirtual 61, 3) := by decide +kernel
theorem dX1_plan_51 : decode cX1_plan 51 = .ok (.istore_n 3, 1) := by decide +kernel
theorem dX1_plan_52 : decode cX1_plan 52 = .ok (.iload_n 3, 1) := by decide +kernel
theorem dX1_plan_53 : decode cX1_plan 53 = .ok (.iconst (-1), 1) := by decide +kernel
theorem dX1_plan_54 : decode cX1_plan 54 = .ok (.if_icmp .ne 5, 3) := by decide +kernel
theorem dX1_plan_57 : decode cX1_plan 57 = .ok (.iconst 0, 1) := by decide +kernel
theorem dX1_plan_58 : decode cX1_plan 58 = .ok (.ireturn, 1) := by decide +kernel
theorem dX1_plan_59 : decode cX1_plan 59 = .ok (.aload_n 0, 1) := by decide +kernel
theorem dX1_plan_60 : decode cX1_plan 60 = .ok (.dup, 1) := by decide +kernel
theorem dX1_plan_61 : decode cX1_plan 61 = .ok (.getfield 58, 3) := by decide +kernel
theorem dX1_plan_64 : decode cX1_plan 64 = .ok (.iload_n 3, 1) := by decide +kernel
theorem dX1_plan_65 : decode cX1_plan 65 = .ok (.invokestatic 65, 3) := by decide +kernel
theorem dX1_plan_68 : decode cX1_plan 68 = .ok (.iadd, 1) := by decide +kernel
theorem dX1_plan_69 : decode cX1_plan 69 = .ok (.putfield 58, 3) := by decide +kernel
theorem dX1_plan_72 : decode cX1_plan 72 = .ok (.iconst 0, 1) := by decide +kernel
theorem dX1_plan_73 : decode cX1_plan 73 = .ok (.istore 4, 2) := by decide +kernel
theorem dX1_plan_75 : decode cX1_plan 75 = .ok (.iload 4, 2) := by decide +kernel
theorem dX1_plan_77 : decode cX1_plan 77 = .ok (.aload_n 0, 1) := by decide +kernel
theorem dX1_plan_78 : decode cX1_plan 78 = .ok (.getfield 36, 3) := by decide +kernel
theorem dX1_plan_81 : decode cX1_plan 81 = .ok (.if_icmp .ge 36, 3) := by decide +kernel
theorem dX1_plan_84 : decode cX1_plan 84 = .ok (.aload_n 0, 1) := by decide +kernel
theorem dX1_plan_85 : decode cX1_plan 85 = .ok (.getfield 15, 3) := by decide +kernel
theorem dX1_plan_88 : decode cX1_plan 88 = .ok (.iload 4, 2) := by decide +kernel
theorem dX1_plan_90 : decode cX1_plan 90 = .ok (.dup2, 1) := by decide +kernel
theorem dX1_plan_91 : decode cX1_plan 91 = .ok (.iaload, 1) := by decide +kernel
theorem dX1_plan_92 : decode cX1_plan 92 = .ok (.aload_n 0, 1) := by decide +kernel
theorem dX1_plan_93 : decode cX1_plan 93 = .ok (.iload_n 3, 1) := by decide +kernel
theorem dX1_plan_94 : decode cX1_plan 94 = .ok (.iload 4, 2) := by decide +kernel
theorem dX1_plan_96 : decode cX1_plan 96 = .ok (.invokevirtual 71, 3) := by decide +kernel
theorem dX1_plan_99 : decode cX1_plan 99 = .ok (.ifCond .eq 9, 3) := by decide +kernel
theorem dX1_plan_102 : decode cX1_plan 102 = .ok (.iconst 1, 1) := by decide +kernel
theorem dX1_plan_103 : decode cX1_plan 103 = .ok (.iload_n 2, 1) := by decide +kernel
theorem dX1_plan_104 : decode cX1_plan 104 = .ok (.ishl, 1) := by decide +kernel
theorem dX1_plan_105 : decode cX1_plan 105 = .ok (.goto 4, 3) := by decide +kernel
theorem dX1_plan_108 : decode cX1_plan 108 = .ok (.iconst 0, 1) := by decide +kernel
theorem dX1_plan_109 : decode cX1_plan 109 = .ok (.ior, 1) := by decide +kernel
theorem dX1_plan_110 : decode cX1_plan 110 = .ok (.iastore, 1) := by decide +kernel
theorem dX1_plan_111 : decode cX1_plan 111 = .ok (.iinc 4 1, 3) := by decide +kernel
theorem dX1_plan_114 : decode cX1_plan 114 = .ok (.goto (-39), 3) := by decide +kernel
theorem dX1_plan_117 : decode cX1_plan 117 = .ok (.iinc 2 1, 3) := by decide +kernel
theorem dX1_plan_120 : decode cX1_plan 120 = .ok (.goto (-93), 3) := by decide +kernel
theorem dX1_plan_123 : decode cX1_plan 123 = .ok (.iconst 1, 1) := by decide +kernel
theorem dX1_plan_124 : decode cX1_plan 124 = .ok (.ireturn, 1) := by decide +kernel
theorem dX1_isAhead_0 : decode cX1_isAhead 0 = .ok (.iload_n 1, 1) := by decide +kernel
theorem dX1_isAhead_1 : decode cX1_isAhead 1 = .ok (.aload_n 0, 1) := by decide +kernel
theorem dX1_isAhead_2 : decode cX1_isAhead 2 = .ok (.getfield 36, 3) := by decide +kernel
theorem dX1_isAhead_5 : decode cX1_isAhead 5 = .ok (.iconst 1, 1) := by decide +kernel
theorem dX1_isAhead_6 : decode cX1_isAhead 6 = .ok (.isub, 1) := by decide +kernel
theorem dX1_isAhead_7 : decode cX1_isAhead 7 = .ok (.iload_n 2, 1) := by decide +kernel
theorem dX1_isAhead_8 : decode cX1_isAhead 8 = .ok (.isub, 1) := by decide +kernel
theorem dX1_isAhead_9 : decode cX1_isAhead 9 = .ok (.ishr, 1) := by decide +kernel
theorem dX1_isAhead_10 : decode cX1_isAhead 10 = .ok (.iconst 1, 1) := by decide +kernel
theorem dX1_isAhead_11 : decode cX1_isAhead 11 = .ok (.iand, 1) := by decide +kernel
theorem dX1_isAhead_12 : decode cX1_isAhead 12 = .ok (.ifCond .eq 7, 3) := by decide +kernel
theorem dX1_isAhead_15 : decode cX1_isAhead 15 = .ok (.iconst 1, 1) := by decide +kernel
theorem dX1_isAhead_16 : decode cX1_isAhead 16 = .ok (.goto 4, 3) := by decide +kernel
theorem dX1_isAhead_19 : decode cX1_isAhead 19 = .ok (.iconst 0, 1) := by decide +kernel
theorem dX1_isAhead_20 : decode cX1_isAhead 20 = .ok (.ireturn, 1) := by decide +kernel
theorem dX1_bestTimes_0 : decode cX1_bestTimes 0 = .ok (.iconst (-1), 1) := by decide +kernel
theorem dX1_bestTimes_1 : decode cX1_bestTimes 1 = .ok (.istore_n 3, 1) := by decide +kernel
theorem dX1_bestTimes_2 : decode cX1_bestTimes 2 = .ok (.iconst 0, 1) := by decide +kernel
theorem dX1_bestTimes_3 : decode cX1_bestTimes 3 = .ok (.istore 4, 2) := by decide +kernel
theorem dX1_bestTimes_5 : decode cX1_bestTimes 5 = .ok (.iload 4, 2) := by decide +kernel
theorem dX1_bestTimes_7 : decode cX1_bestTimes 7 = .ok (.iconst 1, 1) := by decide +kernel
theorem dX1_bestTimes_8 : decode cX1_bestTimes 8 = .ok (.aload_n 0, 1) := by decide +kernel
theorem dX1_bestTimes_9 : decode cX1_bestTimes 9 = .ok (.getfield 36, 3) := by decide +kernel
theorem dX1_bestTimes_12 : decode cX1_bestTimes 12 = .ok (.ishl, 1) := by decide +kernel
theorem dX1_bestTimes_13 : decode cX1_bestTimes 13 = .ok (.if_icmp .ge 40, 3) := by decide +kernel
theorem dX1_bestTimes_16 : decode cX1_bestTimes 16 = .ok (.iload_n 3, 1) := by decide +kernel
theorem dX1_bestTimes_17 : decode cX1_bestTimes 17 = .ok (.iconst (-1), 1) := by decide +kernel
theorem dX1_bestTimes_18 : decode cX1_bestTimes 18 = .ok (.if_icmp .eq 15, 3) := by decide +kernel
theorem dX1_bestTimes_21 : decode cX1_bestTimes 21 = .ok (.iload 4, 2) := by decide +kernel
theorem dX1_bestTimes_23 : decode cX1_bestTimes 23 = .ok (.invokestatic 65, 3) := by decide +kernel
theorem dX1_bestTimes_26 : decode cX1_bestTimes 26 = .ok (.iload_n 3, 1) := by decide +kernel
theorem dX1_bestTimes_27 : decode cX1_bestTimes 27 = .ok (.invokestatic 65, 3) := by decide +kernel
theorem dX1_bestTimes_30 : decode cX1_bestTimes 30 = .ok (.if_icmp .ge 17, 3) := by decide +kernel
theorem dX1_bestTimes_33 : decode cX1_bestTimes 33 = .ok (.aload_n 0, 1) := by decide +kernel
theorem dX1_bestTimes_34 : decode cX1_bestTimes 34 = .ok (.aload_n 1, 1) := by decide +kernel
theorem dX1_bestTimes_35 : decode cX1_bestTimes 35 = .ok (.iload_n 2, 1) := by decide +kernel
theorem dX1_bestTimes_36 : decode cX1_bestTimes 36 = .ok (.iload 4, 2) := by decide +kernel
theorem dX1_bestTimes_38 : decode cX1_bestTimes 38 = .ok (.invokevirtual 75, 3) := by decide +kernel
theorem dX1_bestTimes_41 : decode cX1_bestTimes 41 = .ok (.ifCond .eq 6, 3) := by decide +kernel
theorem dX1_bestTimes_44 : decode cX1_bestTimes 44 = .ok (.iload 4, 2) := by decide +kernel
theorem dX1_bestTimes_46 : decode cX1_bestTimes 46 = .ok (.istore_n 3, 1) := by decide +kernel
theorem dX1_bestTimes_47 : decode cX1_bestTimes 47 = .ok (.iinc 4 1, 3) := by decide +kernel
theorem dX1_bestTimes_50 : decode cX1_bestTimes 50 = .ok (.goto (-45), 3) := by decide +kernel
theorem dX1_bestTimes_53 : decode cX1_bestTimes 53 = .ok (.iload_n 3, 1) := by decide +kernel
theorem dX1_bestTimes_54 : decode cX1_bestTimes 54 = .ok (.ireturn, 1) := by decide +kernel
theorem dX1_staysDry_0 : decode cX1_staysDry 0 = .ok (.aload_n 1, 1) := by decide +kernel
theorem dX1_staysDry_1 : decode cX1_staysDry 1 = .ok (.getfield 79, 3) := by decide +kernel
theorem dX1_staysDry_4 : decode cX1_staysDry 4 = .ok (.istore 4, 2) := by decide +kernel
theorem dX1_staysDry_6 : decode cX1_staysDry 6 = .ok (.iconst 0, 1) := by decide +kernel
theorem dX1_staysDry_7 : decode cX1_staysDry 7 = .ok (.istore 5, 2) := by decide +kernel
theorem dX1_staysDry_9 : decode cX1_staysDry 9 = .ok (.iload 5, 2) := by decide +kernel
theorem dX1_staysDry_11 : decode cX1_staysDry 11 = .ok (.aload_n 0, 1) := by decide +kernel
theorem dX1_staysDry_12 : decode cX1_staysDry 12 = .ok (.getfield 36, 3) := by decide +kernel
theorem dX1_staysDry_15 : decode cX1_staysDry 15 = .ok (.if_icmp .ge 63, 3) := by decide +kernel
theorem dX1_staysDry_18 : decode cX1_staysDry 18 = .ok (.aload_n 0, 1) := by decide +kernel
theorem dX1_staysDry_19 : decode cX1_staysDry 19 = .ok (.iload_n 3, 1) := by decide +kernel
theorem dX1_staysDry_20 : decode cX1_staysDry 20 = .ok (.iload 5, 2) := by decide +kernel
theorem dX1_staysDry_22 : decode cX1_staysDry 22 = .ok (.invokevirtual 71, 3) := by decide +kernel
theorem dX1_staysDry_25 : decode cX1_staysDry 25 = .ok (.ifCond .eq 7, 3) := by decide +kernel
theorem dX1_staysDry_28 : decode cX1_staysDry 28 = .ok (.iconst 0, 1) := by decide +kernel
theorem dX1_staysDry_29 : decode cX1_staysDry 29 = .ok (.goto 5, 3) := by decide +kernel
theorem dX1_staysDry_32 : decode cX1_staysDry 32 = .ok (.iload 4, 2) := by decide +kernel
theorem dX1_staysDry_34 : decode cX1_staysDry 34 = .ok (.istore 4, 2) := by decide +kernel
theorem dX1_staysDry_36 : decode cX1_staysDry 36 = .ok (.aload_n 0, 1) := by decide +kernel
theorem dX1_staysDry_37 : decode cX1_staysDry 37 = .ok (.getfield 18, 3) := by decide +kernel
theorem dX1_staysDry_40 : decode cX1_staysDry 40 = .ok (.iload 5, 2) := by decide +kernel
theorem dX1_staysDry_42 : decode cX1_staysDry 42 = .ok (.iconst 4, 1) := by decide +kernel
theorem dX1_staysDry_43 : decode cX1_staysDry 43 = .ok (.imul, 1) := by decide +kernel
theorem dX1_staysDry_44 : decode cX1_staysDry 44 = .ok (.iload_n 2, 1) := by decide +kernel
theorem dX1_staysDry_45 : decode cX1_staysDry 45 = .ok (.iadd, 1) := by decide +kernel
theorem dX1_staysDry_46 : decode cX1_staysDry 46 = .ok (.iaload, 1) := by decide +kernel
theorem dX1_staysDry_47 : decode cX1_staysDry 47 = .ok (.aload_n 1, 1) := by decide +kernel
theorem dX1_staysDry_48 : decode cX1_staysDry 48 = .ok (.iload 4, 2) := by decide +kernel
theorem dX1_staysDry_50 : decode cX1_staysDry 50 = .ok (.invokevirtual 82, 3) := by decide +kernel
theorem dX1_staysDry_53 : decode cX1_staysDry 53 = .ok (.if_icmp .le 5, 3) := by decide +kernel
theorem dX1_staysDry_56 : decode cX1_staysDry 56 = .ok (.iconst 0, 1) := by decide +kernel
theorem dX1_staysDry_57 : decode cX1_staysDry 57 = .ok (.ireturn, 1) := by decide +kernel
theorem dX1_staysDry_58 : decode cX1_staysDry 58 = .ok (.bipush 10, 2) := by decide +kernel
theorem dX1_staysDry_60 : decode cX1_staysDry 60 = .ok (.iload 4, 2) := by decide +kernel
theorem dX1_staysDry_62 : decode cX1_staysDry 62 = .ok (.aload_n 1, 1) := by decide +kernel
theorem dX1_staysDry_63 : decode cX1_staysDry 63 = .ok (.getfield 85, 3) := by decide +kernel
theorem dX1_staysDry_66 : decode cX1_staysDry 66 = .ok (.iadd, 1) := by decide +kernel
theorem dX1_staysDry_67 : decode cX1_staysDry 67 = .ok (.invokestatic 88, 3) := by decide +kernel
theorem dX1_staysDry_70 : decode cX1_staysDry 70 = .ok (.istore 4, 2) := by decide +kernel
theorem dX1_staysDry_72 : decode cX1_staysDry 72 = .ok (.iinc 5 1, 3) := by decide +kernel
theorem dX1_staysDry_75 : decode cX1_staysDry 75 = .ok (.goto (-66), 3) := by decide +kernel
theorem dX1_staysDry_78 : decode cX1_staysDry 78 = .ok (.iconst 1, 1) := by decide +kernel
theorem dX1_staysDry_79 : decode cX1_staysDry 79 = .ok (.ireturn, 1) := by decide +kernel
theorem dX2_init_0 : decode cX2_init 0 = .ok (.aload_n 0, 1) := by decide +kernel
theorem dX2_init_1 : decode cX2_init 1 = .ok (.invokespecial 3, 3) := by decide +kernel
theorem dX2_init_4 : decode cX2_init 4 = .ok (.aload_n 0, 1) := by decide +kernel
theorem dX2_init_5 : decode cX2_init 5 = .ok (.bipush 12, 2) := by decide +kernel
theorem dX2_init_7 : decode cX2_init 7 = .ok (.newarray .int, 2) := by decide +kernel
theorem dX2_init_9 : decode cX2_init 9 = .ok (.putfield 9, 3) := by decide +kernel
theorem dX2_init_12 : decode cX2_init 12 = .ok (.aload_n 0, 1) := by decide +kernel
theorem dX2_init_13 : decode cX2_init 13 = .ok (.bipush 12, 2) := by decide +kernel
theorem dX2_init_15 : decode cX2_init 15 = .ok (.newarray .int, 2) := by decide +kernel
theorem dX2_init_17 : decode cX2_init 17 = .ok (.putfield 15, 3) := by decide +kernel
theorem dX2_init_20 : decode cX2_init 20 = .ok (.aload_n 0, 1) := by decide +kernel
theorem dX2_init_21 : decode cX2_init 21 = .ok (.bipush 12, 2) := by decide +kernel
theorem dX2_init_23 : decode cX2_init 23 = .ok (.newarray .int, 2) := by decide +kernel
theorem dX2_init_25 : decode cX2_init 25 = .ok (.putfield 18, 3) := by decide +kernel
theorem dX2_init_28 : decode cX2_init 28 = .ok (.aload_n 0, 1) := by decide +kernel
theorem dX2_init_29 : decode cX2_init 29 = .ok (.bipush 12, 2) := by decide +kernel
theorem dX2_init_31 : decode cX2_init 31 = .ok (.newarray .int, 2) := by decide +kernel
theorem dX2_init_33 : decode cX2_init 33 = .ok (.putfield 21, 3) := by decide +kernel
theorem dX2_init_36 : decode cX2_init 36 = .ok (.return_, 1) := by decide +kernel
theorem dX2_build_0 : decode cX2_build 0 = .ok (.aload_n 0, 1) := by decide +kernel
theorem dX2_build_1 : decode cX2_build 1 = .ok (.iload_n 1, 1) := by decide +kernel
theorem dX2_build_2 : decode cX2_build 2 = .ok (.putfield 24, 3) := by decide +kernel
theorem dX2_build_5 : decode cX2_build 5 = .ok (.aload_n 0, 1) := by decide +kernel
theorem dX2_build_6 : decode cX2_build 6 = .ok (.iload_n 2, 1) := by decide +kernel
theorem dX2_build_7 : decode cX2_build 7 = .ok (.putfield 28, 3) := by decide +kernel
theorem dX2_build_10 : decode cX2_build 10 = .ok (.aload_n 0, 1) := by decide +kernel
theorem dX2_build_11 : decode cX2_build 11 = .ok (.iload_n 3, 1) := by decide +kernel
theorem dX2_build_12 : decode cX2_build 12 = .ok (.putfield 31, 3) := by decide +kernel
theorem dX2_build_15 : decode cX2_build 15 = .ok (.aload_n 0, 1) := by decide +kernel
theorem dX2_build_16 : decode cX2_build 16 = .ok (.iload 4, 2) := by decide +kernel
theorem dX2_build_18 : decode cX2_build 18 = .ok (.putfield 34, 3) := by decide +kernel
theorem dX2_build_21 : decode cX2_build 21 = .ok (.aload_n 0, 1) := by decide +kernel
theorem dX2_build_22 : decode cX2_build 22 = .ok (.iconst (-1), 1) := by decide +kernel
theorem dX2_build_23 : decode cX2_build 23 = .ok (.putfield 37, 3) := by decide +kernel
theorem dX2_build_26 : decode cX2_build 26 = .ok (.aload_n 0, 1) := by decide +kernel
theorem dX2_build_27 : decode cX2_build 27 = .ok (.iconst 0, 1) := by decide +kernel
theorem dX2_build_28 : decode cX2_build 28 = .ok (.putfield 40, 3) := by decide +kernel
theorem dX2_build_31 : decode cX2_build 31 = .ok (.aload_n 0, 1) := by decide +kernel
theorem dX2_build_32 : decode cX2_build 32 = .ok (.iconst 0, 1) := by decide +kernel
theorem dX2_build_33 : decode cX2_build 33 = .ok (.putfield 43, 3) := by decide +kernel
theorem dX2_build_36 : decode cX2_build 36 = .ok (.aload_n 0, 1) := by decide +kernel
theorem dX2_build_37 : decode cX2_build 37 = .ok (.iconst 0, 1) := by decide +kernel
theorem dX2_build_38 : decode cX2_build 38 = .ok (.putfield 46, 3) := by decide +kernel
theorem dX2_build_41 : decode cX2_build 41 = .ok (.aload_n 0, 1) := by decide +kernel
theorem dX2_build_42 : decode cX2_build 42 = .ok (.iconst 0, 1) := by decide +kernel
theorem dX2_build_43 : decode cX2_build 43 = .ok (.putfield 49, 3) := by decide +kernel
theorem dX2_build_46 : decode cX2_build 46 = .ok (.aload_n 0, 1) := by decide +kernel
theorem dX2_build_47 : decode cX2_build 47 = .ok (.iconst 0, 1) := by decide +kernel
theorem dX2_build_48 : decode cX2_build 48 = .ok (.putfield 52, 3) := by decide +kernel
theorem dX2_build_51 : decode cX2_build 51 = .ok (.aload_n 0, 1) := by decide +kernel
theorem dX2_build_52 : decode cX2_build 52 = .ok (.iconst 0, 1) := by decide +kernel
theorem dX2_build_53 : decode cX2_build 53 = .ok (.putfield 55, 3) := by decide +kernel
theorem dX2_build_56 : decode cX2_build 56 = .ok (.aload_n 0, 1) := by decide +kernel
theorem dX2_build_57 : decode cX2_build 57 = .ok (.iconst 0, 1) := by decide +kernel
theorem dX2_build_58 : decode cX2_build 58 = .ok (.putfield 58, 3) := by decide +kernel
theorem dX2_build_61 : decode cX2_build 61 = .ok (.aload_n 0, 1) := by decide +kernel
theorem dX2_build_62 : decode cX2_build 62 = .ok (.iconst 0, 1) := by decide +kernel
theorem dX2_build_63 : decode cX2_build 63 = .ok (.putfield 61, 3) := by decide +kernel
theorem dX2_build_66 : decode cX2_build 66 = .ok (.aload_n 0, 1) := by decide +kernel
theorem dX2_build_67 : decode cX2_build 67 = .ok (.iconst 0, 1) := by decide +kernel
theorem dX2_build_68 : decode cX2_build 68 = .ok (.putfield 64, 3) := by decide +kernel
theorem dX2_build_71 : decode cX2_build 71 = .ok (.return_, 1) := by decide +kernel
theorem dX2_imagine_0 : decode cX2_imagine 0 = .ok (.aload_n 0, 1) := by decide +kernel
theorem dX2_imagine_1 : decode cX2_imagine 1 = .ok (.aload_n 1, 1) := by decide +kernel
theorem dX2_imagine_2 : decode cX2_imagine 2 = .ok (.getfield 24, 3) := by decide +kernel
theorem dX2_imagine_5 : decode cX2_imagine 5 = .ok (.putfield 24, 3) := by decide +kernel
theorem dX2_imagine_8 : decode cX2_imagine 8 = .ok (.aload_n 0, 1) := by decide +kernel
theorem dX2_imagine_9 : decode cX2_imagine 9 = .ok (.aload_n 1, 1) := by decide +kernel
theorem dX2_imagine_10 : decode cX2_imagine 10 = .ok (.getfield 28, 3) := by decide +kernel
theorem dX2_imagine_13 : decode cX2_imagine 13 = .ok (.putfield 28, 3) := by decide +kernel
theorem dX2_imagine_16 : decode cX2_imagine 16 = .ok (.aload_n 0, 1) := by decide +kernel
theorem dX2_imagine_17 : decode cX2_imagine 17 = .ok (.aload_n 1, 1) := by decide +kernel
theorem dX2_imagine_18 : decode cX2_imagine 18 = .ok (.getfield 37, 3) := by decide +kernel
theorem dX2_imagine_21 : decode cX2_imagine 21 = .ok (.putfield 37, 3) := by decide +kernel
theorem dX2_imagine_24 : decode cX2_imagine 24 = .ok (.aload_n 0, 1) := by decide +kernel
theorem dX2_imagine_25 : decode cX2_imagine 25 = .ok (.aload_n 1, 1) := by decide +kernel
theorem dX2_imagine_26 : decode cX2_imagine 26 = .ok (.getfield 40, 3) := by decide +kernel
theorem dX2_imagine_29 : decode cX2_imagine 29 = .ok (.putfield 40, 3) := by decide +kernel
theorem dX2_imagine_32 : decode cX2_imagine 32 = .ok (.aload_n 0, 1) := by decide +kernel
theorem dX2_imagine_33 : decode cX2_imagine 33 = .ok (.aload_n 1, 1) := by decide +kernel
theorem dX2_imagine_34 : decode cX2_imagine 34 = .ok (.getfield 43, 3) := by decide +kernel
theorem dX2_imagine_37 : decode cX2_imagine 37 = .ok (.putfield 43, 3) := by decide +kernel
theorem dX2_imagine_40 : decode cX2_imagine 40 = .ok (.aload_n 0, 1) := by decide +kernel
theorem dX2_imagine_41 : decode cX2_imagine 41 = .ok (.aload_n 1, 1) := by decide +kernel
theorem dX2_imagine_42 : decode cX2_imagine 42 = .ok (.getfield 46, 3) := by decide +kernel
theorem dX2_imagine_45 : decode cX2_imagine 45 = .ok (.putfield 46, 3) := by decide +kernel
theorem dX2_imagine_48 : decode cX2_imagine 48 = .ok (.aload_n 0, 1) := by decide +kernel
theorem dX2_imagine_49 : decode cX2_imagine 49 = .ok (.aload_n 1, 1) := by decide +kernel
theorem dX2_imagine_50 : decode cX2_imagine 50 = .ok (.getfield 49, 3) := by decide +kernel
theorem dX2_imagine_53 : decode cX2_imagine 53 = .ok (.putfield 49, 3) := by decide +kernel
theorem dX2_imagine_56 : decode cX2_imagine 56 = .ok (.aload_n 0, 1) := by decide +kernel
theorem dX2_imagine_57 : decode cX2_imagine 57 = .ok (.aload_n 1, 1) := by decide +kernel
theorem dX2_imagine_58 : decode cX2_imagine 58 = .ok (.getfield 52, 3) := by decide +kernel
theorem dX2_imagine_61 : decode cX2_imagine 61 = .ok (.putfield 52, 3) := by decide +kernel
theorem dX2_imagine_64 : decode cX2_imagine 64 = .ok (.return_, 1) := by decide +kernel
theorem dX2_copy_0 : decode cX2_copy 0 = .ok (.aload_n 0, 1) := by decide +kernel
theorem dX2_copy_1 : decode cX2_copy 1 = .ok (.aload_n 1, 1) := by decide +kernel
theorem dX2_copy_2 : decode cX2_copy 2 = .ok (.invokevirtual 67, 3) := by decide +kernel
theorem dX2_copy_5 : decode cX2_copy 5 = .ok (.aload_n 0, 1) := by decide +kernel
theorem dX2_copy_6 : decode cX2_copy 6 = .ok (.aload_n 1, 1) := by decide +kernel
theorem dX2_copy_7 : decode cX2_copy 7 = .ok (.getfield 31, 3) := by decide +kernel
theorem dX2_copy_10 : decode cX2_copy 10 = .ok (.putfield 31, 3) := by decide +kernel
theorem dX2_copy_13 : decode cX2_copy 13 = .ok (.aload_n 0, 1) := by decide +kernel
theorem dX2_copy_14 : decode cX2_copy 14 = .ok (.aload_n 1, 1) := by decide +kernel
theorem dX2_copy_15 : decode cX2_copy 15 = .ok (.getfield 34, 3) := by decide +kernel
theorem dX2_copy_18 : decode cX2_copy 18 = .ok (.putfield 34, 3) := by decide +kernel
theorem dX2_copy_21 : decode cX2_copy 21 = .ok (.aload_n 0, 1) := by decide +kernel
theorem dX2_copy_22 : decode cX2_copy 22 = .ok (.aload_n 1, 1) := by decide +kernel
theorem dX2_copy_23 : decode cX2_copy 23 = .ok (.getfield 55, 3) := by decide +kernel
theorem dX2_copy_26 : decode cX2_copy 26 = .ok (.putfield 55, 3) := by decide +kernel
theorem dX2_copy_29 : decode cX2_copy 29 = .ok (.aload_n 0, 1) := by decide +kernel
theorem dX2_copy_30 : decode cX2_copy 30 = .ok (.aload_n 1, 1) := by decide +kernel
theorem dX2_copy_31 : decode cX2_copy 31 = .ok (.getfield 58, 3) := by decide +kernel
theorem dX2_copy_34 : decode cX2_copy 34 = .ok (.putfield 58, 3) := by decide +kernel
theorem dX2_copy_37 : decode cX2_copy 37 = .ok (.aload_n 0, 1) := by decide +kernel
theorem dX2_copy_38 : decode cX2_copy 38 = .ok (.aload_n 1, 1) := by decide +kernel
theorem dX2_copy_39 : decode cX2_copy 39 = .ok (.getfield 61, 3) := by decide +kernel
theorem dX2_copy_42 : decode cX2_copy 42 = .ok (.putfield 61, 3) := by decide +kernel
theorem dX2_copy_45 : decode cX2_copy 45 = .ok (.aload_n 0, 1) := by decide +kernel
theorem dX2_copy_46 : decode cX2_copy 46 = .ok (.aload_n 1, 1) := by decide +kernel
theorem dX2_copy_47 : decode cX2_copy 47 = .ok (.getfield 64, 3) := by decide +kernel
theorem dX2_copy_50 : decode cX2_copy 50 = .ok (.putfield 64, 3) := by decide +kernel
theorem dX2_copy_53 : decode cX2_copy 53 = .ok (.aload_n 1, 1) := by decide +kernel
theorem dX2_copy_54 : decode cX2_copy 54 = .ok (.getfield 15, 3) := by decide +kernel
theorem dX2_copy_57 : decode cX2_copy 57 = .ok (.iconst 0, 1) := by decide +kernel
theorem dX2_copy_58 : decode cX2_copy 58 = .ok (.aload_n 0, 1) := by decide +kernel
theorem dX2_copy_59 : decode cX2_copy 59 = .ok (.getfield 15, 3) := by decide +kernel
theorem dX2_copy_62 : decode cX2_copy 62 = .ok (.iconst 0, 1) := by decide +kernel
theorem dX2_copy_63 : decode cX2_copy 63 = .ok (.bipush 12, 2) := by decide +kernel
theorem dX2_copy_65 : decode cX2_copy 65 = .ok (.invokestatic 71, 3) := by decide +kernel
theorem dX2_copy_68 : decode cX2_copy 68 = .ok (.aload_n 1, 1) := by decide +kernel
theorem dX2_copy_69 : decode cX2_copy 69 = .ok (.getfield 18, 3) := by decide +kernel
theorem dX2_copy_72 : decode cX2_copy 72 = .ok (.iconst 0, 1) := by decide +kernel
theorem dX2_copy_73 : decode cX2_copy 73 = .ok (.aload_n 0, 1) := by decide +kernel
theorem dX2_copy_74 : decode cX2_copy 74 = .ok (.getfield 18, 3) := by decide +kernel
theorem dX2_copy_77 : decode cX2_copy 77 = .ok (.iconst 0, 1) := by decide +kernel
theorem dX2_copy_78 : decode cX2_copy 78 = .ok (.bipush 12, 2) := by decide +kernel
theorem dX2_copy_80 : decode cX2_copy 80 = .ok (.invokestatic 71, 3) := by decide +kernel
theorem dX2_copy_83 : decode cX2_copy 83 = .ok (.aload_n 1, 1) := by decide +kernel
theorem dX2_copy_84 : decode cX2_copy 84 = .ok (.getfield 21, 3) := by decide +kernel
theorem dX2_copy_87 : decode cX2_copy 87 = .ok (.iconst 0, 1) := by decide +kernel
theorem dX2_copy_88 : decode cX2_copy 88 = .ok (.aload_n 0, 1) := by decide +kernel
theorem dX2_copy_89 : decode cX2_copy 89 = .ok (.getfield 21, 3) := by decide +kernel
theorem dX2_copy_92 : decode cX2_copy 92 = .ok (.iconst 0, 1) := by decide +kernel
theorem dX2_copy_93 : decode cX2_copy 93 = .ok (.bipush 12, 2) := by decide +kernel
theorem dX2_copy_95 : decode cX2_copy 95 = .ok (.invokestatic 71, 3) := by decide +kernel
theorem dX2_copy_98 : decode cX2_copy 98 = .ok (.return_, 1) := by decide +kernel
theorem dX2_change_0 : decode cX2_change 0 = .ok (.iload_n 2, 1) := by decide +kernel
theorem dX2_change_1 : decode cX2_change 1 = .ok (.iconst 0, 1) := by decide +kernel
theorem dX2_change_2 : decode cX2_change 2 = .ok (.iload_n 1, 1) := by decide +kernel
theorem dX2_change_3 : decode cX2_change 3 = .ok (.invokestatic 77, 3) := by decide +kernel
theorem dX2_change_6 : decode cX2_change 6 = .ok (.invokestatic 81, 3) := by decide +kernel
theorem dX2_change_9 : decode cX2_change 9 = .ok (.ifCond .ne 5, 3) := by decide +kernel
theorem dX2_change_12 : decode cX2_change 12 = .ok (.iconst 0, 1) := by decide +kernel
theorem dX2_change_13 : decode cX2_change 13 = .ok (.ireturn, 1) := by decide +kernel
theorem dX2_change_14 : decode cX2_change 14 = .ok (.iload_n 1, 1) := by decide +kernel
theorem dX2_change_15 : decode cX2_change 15 = .ok (.tableswitch 61 0 3 #[29, 37, 45, 53], 29) := by decide +kernel
theorem dX2_change_44 : decode cX2_change 44 = .ok (.aload_n 0, 1) := by decide +kernel
theorem dX2_change_45 : decode cX2_change 45 = .ok (.iload_n 2, 1) := by decide +kernel
theorem dX2_change_46 : decode cX2_change 46 = .ok (.putfield 40, 3) := by decide +kernel
theorem dX2_change_49 : decode cX2_change 49 = .ok (.goto 32, 3) := by decide +kernel
theorem dX2_change_52 : decode cX2_change 52 = .ok (.aload_n 0, 1) := by decide +kernel
theorem dX2_change_53 : decode cX2_change 53 = .ok (.iload_n 2, 1) := by decide +kernel
theorem dX2_change_54 : decode cX2_change 54 = .ok (.putfield 28, 3) := by decide +kernel
theorem dX2_change_57 : decode cX2_change 57 = .ok (.goto 24, 3) := by decide +kernel
theorem dX2_change_60 : decode cX2_change 60 = .ok (.aload_n 0, 1) := by decide +kernel
theorem dX2_change_61 : decode cX2_change 61 = .ok (.iload_n 2, 1) := by decide +kernel
theorem dX2_change_62 : decode cX2_change 62 = .ok (.putfield 31, 3) := by decide +kernel
theorem dX2_change_65 : decode cX2_change 65 = .ok (.goto 16, 3) := by decide +kernel
theorem dX2_change_68 : decode cX2_change 68 = .ok (.aload_n 0, 1) := by decide +kernel
theorem dX2_change_69 : decode cX2_change 69 = .ok (.iload_n 2, 1) := by decide +kernel
theorem dX2_change_70 : decode cX2_change 70 = .ok (.putfield 43, 3) := by decide +kernel
theorem dX2_change_73 : decode cX2_change 73 = .ok (.goto 8, 3) := by decide +kernel
theorem dX2_change_76 : decode cX2_change 76 = .ok (.aload_n 0, 1) := by decide +kernel
theorem dX2_change_77 : decode cX2_change 77 = .ok (.iload_n 2, 1) := by decide +kernel
theorem dX2_change_78 : decode cX2_change 78 = .ok (.putfield 46, 3) := by decide +kernel
theorem dX2_change_81 : decode cX2_change 81 = .ok (.iconst 1, 1) := by decide +kernel
theorem dX2_change_82 : decode cX2_change 82 = .ok (.ireturn, 1) := by decide +kernel
theorem dX2_mostOf_0 : decode cX2_mostOf 0 = .ok (.iload_n 0, 1) := by decide +kernel
theorem dX2_mostOf_1 : decode cX2_mostOf 1 = .ok (.tableswitch 53 0 4 #[35, 38, 42, 45, 49], 35) := by decide +kernel
theorem dX2_mostOf_36 : decode cX2_mostOf 36 = .ok (.bipush 10, 2) := by decide +kernel
theorem dX2_mostOf_38 : decode cX2_mostOf 38 = .ok (.ireturn, 1) := by decide +kernel
theorem dX2_mostOf_39 : decode cX2_mostOf 39 = .ok (.sipush 9999, 3) := by decide +kernel
theorem dX2_mostOf_42 : decode cX2_mostOf 42 = .ok (.ireturn, 1) := by decide +kernel
theorem dX2_mostOf_43 : decode cX2_mostOf 43 = .ok (.bipush 10, 2) := by decide +kernel
theorem dX2_mostOf_45 : decode cX2_mostOf 45 = .ok (.ireturn, 1) := by decide +kernel
theorem dX2_mostOf_46 : decode cX2_mostOf 46 = .ok (.sipush 999, 3) := by decide +kernel
theorem dX2_mostOf_49 : decode cX2_mostOf 49 = .ok (.ireturn, 1) := by decide +kernel
theorem dX2_mostOf_50 : decode cX2_mostOf 50 = .ok (.sipush 999, 3) := by decide +kernel
theorem dX2_mostOf_53 : decode cX2_mostOf 53 = .ok (.ireturn, 1) := by decide +kernel
theorem dX2_mostOf_54 : decode cX2_mostOf 54 = .ok (.iconst (-1), 1) := by decide +kernel
theorem dX2_mostOf_55 : decode cX2_mostOf 55 = .ok (.ireturn, 1) := by decide +kernel
theorem dX2_told_0 : decode cX2_told 0 = .ok (.iload_n 1, 1) := by decide +kernel
theorem dX2_told_1 : decode cX2_told 1 = .ok (.tableswitch 141 0 13 #[71, 76, 81, 86, 91, 96, 101, 106, 111, 116, 121, 126, 131, 136], 71) := by decide +kernel
theorem dX2_told_72 : decode cX2_told 72 = .ok (.aload_n 0, 1) := by decide +kernel
theorem dX2_told_73 : decode cX2_told 73 = .ok (.getfield 24, 3) := by decide +kernel
theorem dX2_told_76 : decode cX2_told 76 = .ok (.ireturn, 1) := by decide +kernel
theorem dX2_told_77 : decode cX2_told 77 = .ok (.aload_n 0, 1) := by decide +kernel
theorem dX2_told_78 : decode cX2_told 78 = .ok (.getfield 28, 3) := by decide +kernel
theorem dX2_told_81 : decode cX2_told 81 = .ok (.ireturn, 1) := by decide +kernel
theorem dX2_told_82 : decode cX2_told 82 = .ok (.aload_n 0, 1) := by decide +kernel
theorem dX2_told_83 : decode cX2_told 83 = .ok (.getfield 31, 3) := by decide +kernel
theorem dX2_told_86 : decode cX2_told 86 = .ok (.ireturn, 1) := by decide +kernel
theorem dX2_told_87 : decode cX2_told 87 = .ok (.aload_n 0, 1) := by decide +kernel
theorem dX2_told_88 : decode cX2_told 88 = .ok (.getfield 34, 3) := by decide +kernel
theorem dX2_told_91 : decode cX2_told 91 = .ok (.ireturn, 1) := by decide +kernel
theorem dX2_told_92 : decode cX2_told 92 = .ok (.aload_n 0, 1) := by decide +kernel
theorem dX2_told_93 : decode cX2_told 93 = .ok (.getfield 37, 3) := by decide +kernel
theorem dX2_told_96 : decode cX2_told 96 = .ok (.ireturn, 1) := by decide +kernel
theorem dX2_told_97 : decode cX2_told 97 = .ok (.aload_n 0, 1) := by decide +kernel
theorem dX2_told_98 : decode cX2_told 98 = .ok (.getfield 40, 3) := by decide +kernel
theorem dX2_told_101 : decode cX2_told 101 = .ok (.ireturn, 1) := by decide +kernel
theorem dX2_told_102 : decode cX2_told 102 = .ok (.aload_n 0, 1) := by decide +kernel
theorem dX2_told_103 : decode cX2_told 103 = .ok (.getfield 43, 3) := by decide +kernel
theorem dX2_told_106 : decode cX2_told 106 = .ok (.ireturn, 1) := by decide +kernel
theorem dX2_told_107 : decode cX2_told 107 = .ok (.aload_n 0, 1) := by decide +kernel
theorem dX2_told_108 : decode cX2_told 108 = .ok (.getfield 46, 3) := by decide +kernel
theorem dX2_told_111 : decode cX2_told 111 = .ok (.ireturn, 1) := by decide +kernel
theorem dX2_told_112 : decode cX2_told 112 = .ok (.aload_n 0, 1) := by decide +kernel
theorem dX2_told_113 : decode cX2_told 113 = .ok (.getfield 49, 3) := by decide +kernel
theorem dX2_told_116 : decode cX2_told 116 = .ok (.ireturn, 1) := by decide +kernel
theorem dX2_told_117 : decode cX2_told 117 = .ok (.aload_n 0, 1) := by decide +kernel
theorem dX2_told_118 : decode cX2_told 118 = .ok (.getfield 52, 3) := by decide +kernel
theorem dX2_told_121 : decode cX2_told 121 = .ok (.ireturn, 1) := by decide +kernel
theorem dX2_told_122 : decode cX2_told 122 = .ok (.aload_n 0, 1) := by decide +kernel
theorem dX2_told_123 : decode cX2_told 123 = .ok (.getfield 55, 3) := by decide +kernel
theorem dX2_told_126 : decode cX2_told 126 = .ok (.ireturn, 1) := by decide +kernel
theorem dX2_told_127 : decode cX2_told 127 = .ok (.aload_n 0, 1) := by decide +kernel
theorem dX2_told_128 : decode cX2_told 128 = .ok (.getfield 58, 3) := by decide +kernel
theorem dX2_told_131 : decode cX2_told 131 = .ok (.ireturn, 1) := by decide +kernel
theorem dX2_told_132 : decode cX2_told 132 = .ok (.aload_n 0, 1) := by decide +kernel
theorem dX2_told_133 : decode cX2_told 133 = .ok (.getfield 61, 3) := by decide +kernel
theorem dX2_told_136 : decode cX2_told 136 = .ok (.ireturn, 1) := by decide +kernel
theorem dX2_told_137 : decode cX2_told 137 = .ok (.aload_n 0, 1) := by decide +kernel
theorem dX2_told_138 : decode cX2_told 138 = .ok (.getfield 64, 3) := by decide +kernel
theorem dX2_told_141 : decode cX2_told 141 = .ok (.ireturn, 1) := by decide +kernel
theorem dX2_told_142 : decode cX2_told 142 = .ok (.ldc 85, 2) := by decide +kernel
theorem dX2_told_144 : decode cX2_told 144 = .ok (.ireturn, 1) := by decide +kernel
theorem dX2_toldOf_0 : decode cX2_toldOf 0 = .ok (.iload_n 2, 1) := by decide +kernel
theorem dX2_toldOf_1 : decode cX2_toldOf 1 = .ok (.tableswitch 48 0 2 #[27, 34, 41], 27) := by decide +kernel
theorem dX2_toldOf_28 : decode cX2_toldOf 28 = .ok (.aload_n 0, 1) := by decide +kernel
theorem dX2_toldOf_29 : decode cX2_toldOf 29 = .ok (.getfield 15, 3) := by decide +kernel
theorem dX2_toldOf_32 : decode cX2_toldOf 32 = .ok (.iload_n 1, 1) := by decide +kernel
theorem dX2_toldOf_33 : decode cX2_toldOf 33 = .ok (.iaload, 1) := by decide +kernel
theorem dX2_toldOf_34 : decode cX2_toldOf 34 = .ok (.ireturn, 1) := by decide +kernel
theorem dX2_toldOf_35 : decode cX2_toldOf 35 = .ok (.aload_n 0, 1) := by decide +kernel
theorem dX2_toldOf_36 : decode cX2_toldOf 36 = .ok (.getfield 18, 3) := by decide +kernel
theorem dX2_toldOf_39 : decode cX2_toldOf 39 = .ok (.iload_n 1, 1) := by decide +kernel
theorem dX2_toldOf_40 : decode cX2_toldOf 40 = .ok (.iaload, 1) := by decide +kernel
theorem dX2_toldOf_41 : decode cX2_toldOf 41 = .ok (.ireturn, 1) := by decide +kernel
theorem dX2_toldOf_42 : decode cX2_toldOf 42 = .ok (.aload_n 0, 1) := by decide +kernel
theorem dX2_toldOf_43 : decode cX2_toldOf 43 = .ok (.getfield 21, 3) := by decide +kernel
theorem dX2_toldOf_46 : decode cX2_toldOf 46 = .ok (.iload_n 1, 1) := by decide +kernel
theorem dX2_toldOf_47 : decode cX2_toldOf 47 = .ok (.iaload, 1) := by decide +kernel
theorem dX2_toldOf_48 : decode cX2_toldOf 48 = .ok (.ireturn, 1) := by decide +kernel
theorem dX2_toldOf_49 : decode cX2_toldOf 49 = .ok (.iconst (-1), 1) := by decide +kernel
theorem dX2_toldOf_50 : decode cX2_toldOf 50 = .ok (.ireturn, 1) := by decide +kernel
theorem dX2_carriesAt_0 : decode cX2_carriesAt 0 = .ok (.aload_n 0, 1) := by decide +kernel
theorem dX2_carriesAt_1 : decode cX2_carriesAt 1 = .ok (.getfield 28, 3) := by decide +kernel
theorem dX2_carriesAt_4 : decode cX2_carriesAt 4 = .ok (.bipush 10, 2) := by decide +kernel
theorem dX2_carriesAt_6 : decode cX2_carriesAt 6 = .ok (.iload_n 1, 1) := by decide +kernel
theorem dX2_carriesAt_7 : decode cX2_carriesAt 7 = .ok (.isub, 1) := by decide +kernel
theorem dX2_carriesAt_8 : decode cX2_carriesAt 8 = .ok (.imul, 1) := by decide +kernel
theorem dX2_carriesAt_9 : decode cX2_carriesAt 9 = .ok (.bipush 10, 2) := by decide +kernel
theorem dX2_carriesAt_11 : decode cX2_carriesAt 11 = .ok (.idiv, 1) := by decide +kernel
theorem dX2_carriesAt_12 : decode cX2_carriesAt 12 = .ok (.ireturn, 1) := by decide +kernel
theorem dX2_drink_0 : decode cX2_drink 0 = .ok (.aload_n 0, 1) := by decide +kernel
theorem dX2_drink_1 : decode cX2_drink 1 = .ok (.aload_n 0, 1) := by decide +kernel
theorem dX2_drink_2 : decode cX2_drink 2 = .ok (.getfield 40, 3) := by decide +kernel
theorem dX2_drink_5 : decode cX2_drink 5 = .ok (.invokevirtual 86, 3) := by decide +kernel
theorem dX2_drink_8 : decode cX2_drink 8 = .ok (.istore_n 3, 1) := by decide +kernel
theorem dX2_drink_9 : decode cX2_drink 9 = .ok (.aload_n 0, 1) := by decide +kernel
theorem dX2_drink_10 : decode cX2_drink 10 = .ok (.iconst 0, 1) := by decide +kernel
theorem dX2_drink_11 : decode cX2_drink 11 = .ok (.putfield 61, 3) := by decide +kernel
theorem dX2_drink_14 : decode cX2_drink 14 = .ok (.aload_n 0, 1) := by decide +kernel
theorem dX2_drink_15 : decode cX2_drink 15 = .ok (.iconst 0, 1) := by decide +kernel
theorem dX2_drink_16 : decode cX2_drink 16 = .ok (.putfield 89, 3) := by decide +kernel
theorem dX2_drink_19 : decode cX2_drink 19 = .ok (.iconst 0, 1) := by decide +kernel
theorem dX2_drink_20 : decode cX2_drink 20 = .ok (.istore 4, 2) := by decide +kernel
theorem dX2_drink_22 : decode cX2_drink 22 = .ok (.iload 4, 2) := by decide +kernel
theorem dX2_drink_24 : decode cX2_drink 24 = .ok (.aload_n 1, 1) := by decide +kernel
theorem dX2_drink_25 : decode cX2_drink 25 = .ok (.getfield 92, 3) := by decide +kernel
theorem dX2_drink_28 : decode cX2_drink 28 = .ok (.if_icmp .ge 99, 3) := by decide +kernel
theorem dX2_drink_31 : decode cX2_drink 31 = .ok (.aload_n 0, 1) := by decide +kernel
theorem dX2_drink_32 : decode cX2_drink 32 = .ok (.aload_n 0, 1) := by decide +kernel
theorem dX2_drink_33 : decode cX2_drink 33 = .ok (.getfield 9, 3) := by decide +kernel
theorem dX2_drink_36 : decode cX2_drink 36 = .ok (.iload 4, 2) := by decide +kernel
theorem dX2_drink_38 : decode cX2_drink 38 = .ok (.iaload, 1) := by decide +kernel
theorem dX2_drink_39 : decode cX2_drink 39 = .ok (.aload_n 0, 1) := by decide +kernel
theorem dX2_drink_40 : decode cX2_drink 40 = .ok (.aload_n 1, 1) := by decide +kernel
theorem dX2_drink_41 : decode cX2_drink 41 = .ok (.iload 4, 2) := by decide +kernel
theorem dX2_drink_43 : decode cX2_drink 43 = .ok (.iload_n 2, 1) := by decide +kernel
theorem dX2_drink_44 : decode cX2_drink 44 = .ok (.invokevirtual 97, 3) := by decide +kernel
theorem dX2_drink_47 : decode cX2_drink 47 = .ok (.iadd, 1) := by decide +kernel
theorem dX2_drink_48 : decode cX2_drink 48 = .ok (.invokevirtual 101, 3) := by decide +kernel
theorem dX2_drink_51 : decode cX2_drink 51 = .ok (.istore 5, 2) := by decide +kernel
theorem dX2_drink_53 : decode cX2_drink 53 = .ok (.aload_n 0, 1) := by decide +kernel
theorem dX2_drink_54 : decode cX2_drink 54 = .ok (.getfield 15, 3) := by decide +kernel
theorem dX2_drink_57 : decode cX2_drink 57 = .ok (.iload 4, 2) := by decide +kernel
theorem dX2_drink_59 : decode cX2_drink 59 = .ok (.iload 5, 2) := by decide +kernel
theorem dX2_drink_61 : decode cX2_drink 61 = .ok (.iastore, 1) := by decide +kernel
theorem dX2_drink_62 : decode cX2_drink 62 = .ok (.aload_n 0, 1) := by decide +kernel
theorem dX2_drink_63 : decode cX2_drink 63 = .ok (.getfield 18, 3) := by decide +kernel
theorem dX2_drink_66 : decode cX2_drink 66 = .ok (.iload 4, 2) := by decide +kernel
theorem dX2_drink_68 : decode cX2_drink 68 = .ok (.iload 5, 2) := by decide +kernel
theorem dX2_drink_70 : decode cX2_drink 70 = .ok (.iload_n 3, 1) := by decide +kernel
theorem dX2_drink_71 : decode cX2_drink 71 = .ok (.invokestatic 104, 3) := by decide +kernel
theorem dX2_drink_74 : decode cX2_drink 74 = .ok (.iastore, 1) := by decide +kernel
theorem dX2_drink_75 : decode cX2_drink 75 = .ok (.aload_n 0, 1) := by decide +kernel
theorem dX2_drink_76 : decode cX2_drink 76 = .ok (.getfield 21, 3) := by decide +kernel
theorem dX2_drink_79 : decode cX2_drink 79 = .ok (.iload 4, 2) := by decide +kernel
theorem dX2_drink_81 : decode cX2_drink 81 = .ok (.iload 5, 2) := by decide +kernel
theorem dX2_drink_83 : decode cX2_drink 83 = .ok (.aload_n 0, 1) := by decide +kernel
theorem dX2_drink_84 : decode cX2_drink 84 = .ok (.getfield 18, 3) := by decide +kernel
theorem dX2_drink_87 : decode cX2_drink 87 = .ok (.iload 4, 2) := by decide +kernel
theorem dX2_drink_89 : decode cX2_drink 89 = .ok (.iaload, 1) := by decide +kernel
theorem dX2_drink_90 : decode cX2_drink 90 = .ok (.isub, 1) := by decide +kernel
theorem dX2_drink_91 : decode cX2_drink 91 = .ok (.iastore, 1) := by decide +kernel
theorem dX2_drink_92 : decode cX2_drink 92 = .ok (.aload_n 0, 1) := by decide +kernel
theorem dX2_drink_93 : decode cX2_drink 93 = .ok (.dup, 1) := by decide +kernel
theorem dX2_drink_94 : decode cX2_drink 94 = .ok (.getfield 61, 3) := by decide +kernel
theorem dX2_drink_97 : decode cX2_drink 97 = .ok (.aload_n 0, 1) := by decide +kernel
theorem dX2_drink_98 : decode cX2_drink 98 = .ok (.getfield 21, 3) := by decide +kernel
theorem dX2_drink_101 : decode cX2_drink 101 = .ok (.iload 4, 2) := by decide +kernel
theorem dX2_drink_103 : decode cX2_drink 103 = .ok (.iaload, 1) := by decide +kernel
theorem dX2_drink_104 : decode cX2_drink 104 = .ok (.iadd, 1) := by decide +kernel
theorem dX2_drink_105 : decode cX2_drink 105 = .ok (.putfield 61, 3) := by decide +kernel
theorem dX2_drink_108 : decode cX2_drink 108 = .ok (.aload_n 0, 1) := by decide +kernel
theorem dX2_drink_109 : decode cX2_drink 109 = .ok (.aload_n 0, 1) := by decide +kernel
theorem dX2_drink_110 : decode cX2_drink 110 = .ok (.getfield 89, 3) := by decide +kernel
theorem dX2_drink_113 : decode cX2_drink 113 = .ok (.iload 5, 2) := by decide +kernel
theorem dX2_drink_115 : decode cX2_drink 115 = .ok (.invokestatic 110, 3) := by decide +kernel
theorem dX2_drink_118 : decode cX2_drink 118 = .ok (.putfield 89, 3) := by decide +kernel
theorem dX2_drink_121 : decode cX2_drink 121 = .ok (.iinc 4 1, 3) := by decide +kernel
theorem dX2_drink_124 : decode cX2_drink 124 = .ok (.goto (-102), 3) := by decide +kernel
theorem dX2_drink_127 : decode cX2_drink 127 = .ok (.return_, 1) := by decide +kernel
theorem dX2_land_0 : decode cX2_land 0 = .ok (.aload_n 1, 1) := by decide +kernel
theorem dX2_land_1 : decode cX2_land 1 = .ok (.getfield 113, 3) := by decide +kernel
theorem dX2_land_4 : decode cX2_land 4 = .ok (.iload_n 2, 1) := by decide +kernel
theorem dX2_land_5 : decode cX2_land 5 = .ok (.iaload, 1) := by decide +kernel
theorem dX2_land_6 : decode cX2_land 6 = .ok (.aload_n 0, 1) := by decide +kernel
theorem dX2_land_7 : decode cX2_land 7 = .ok (.getfield 24, 3) := by decide +kernel
theorem dX2_land_10 : decode cX2_land 10 = .ok (.imul, 1) := by decide +kernel
theorem dX2_land_11 : decode cX2_land 11 = .ok (.istore 4, 2) := by decide +kernel
theorem dX2_land_13 : decode cX2_land 13 = .ok (.aload_n 1, 1) := by decide +kernel
theorem dX2_land_14 : decode cX2_land 14 = .ok (.getfield 116, 3) := by decide +kernel
theorem dX2_land_17 : decode cX2_land 17 = .ok (.iload_n 2, 1) := by decide +kernel
theorem dX2_land_18 : decode cX2_land 18 = .ok (.baload, 1) := by decide +kernel
theorem dX2_land_19 : decode cX2_land 19 = .ok (.ifCond .eq 16, 3) := by decide +kernel
theorem dX2_land_22 : decode cX2_land 22 = .ok (.aload_n 0, 1) := by decide +kernel
theorem dX2_land_23 : decode cX2_land 23 = .ok (.dup, 1) := by decide +kernel
theorem dX2_land_24 : decode cX2_land 24 = .ok (.getfield 52, 3) := by decide +kernel
theorem dX2_land_27 : decode cX2_land 27 = .ok (.iload 4, 2) := by decide +kernel
theorem dX2_land_29 : decode cX2_land 29 = .ok (.iadd, 1) := by decide +kernel
theorem dX2_land_30 : decode cX2_land 30 = .ok (.putfield 52, 3) := by decide +kernel
theorem dX2_land_33 : decode cX2_land 33 = .ok (.iconst 0, 1) := by decide +kernel
theorem dX2_land_34 : decode cX2_land 34 = .ok (.ireturn, 1) := by decide +kernel
theorem dX2_land_35 : decode cX2_land 35 = .ok (.aload_n 0, 1) := by decide +kernel
theorem dX2_land_36 : decode cX2_land 36 = .ok (.getfield 52, 3) := by decide +kernel
theorem dX2_land_39 : decode cX2_land 39 = .ok (.iload_n 3, 1) := by decide +kernel
theorem dX2_land_40 : decode cX2_land 40 = .ok (.aload_n 0, 1) := by decide +kernel
theorem dX2_land_41 : decode cX2_land 41 = .ok (.getfield 24, 3) := by decide +kernel
theorem dX2_land_44 : decode cX2_land 44 = .ok (.imul, 1) := by decide +kernel
theorem dX2_land_45 : decode cX2_land 45 = .ok (.invokestatic 104, 3) := by decide +kernel
theorem dX2_land_48 : decode cX2_land 48 = .ok (.istore 5, 2) := by decide +kernel
theorem dX2_land_50 : decode cX2_land 50 = .ok (.aload_n 0, 1) := by decide +kernel
theorem dX2_land_51 : decode cX2_land 51 = .ok (.dup, 1) := by decide +kernel
theorem dX2_land_52 : decode cX2_land 52 = .ok (.getfield 52, 3) := by decide +kernel
theorem dX2_land_55 : decode cX2_land 55 = .ok (.iload 5, 2) := by decide +kernel
theorem dX2_land_57 : decode cX2_land 57 = .ok (.isub, 1) := by decide +kernel
theorem dX2_land_58 : decode cX2_land 58 = .ok (.putfield 52, 3) := by decide +kernel
theorem dX2_land_61 : decode cX2_land 61 = .ok (.iload 4, 2) := by decide +kernel
theorem dX2_land_63 : decode cX2_land 63 = .ok (.iload 5, 2) := by decide +kernel
theorem dX2_land_65 : decode cX2_land 65 = .ok (.iadd, 1) := by decide +kernel
theorem dX2_land_66 : decode cX2_land 66 = .ok (.ireturn, 1) := by decide +kernel
theorem dX2_passBarrel_0 : decode cX2_passBarrel 0 = .ok (.iload_n 1, 1) := by decide +kernel
theorem dX2_passBarrel_1 : decode cX2_passBarrel 1 = .ok (.ifCond .ne 27, 3) := by decide +kernel
theorem dX2_passBarrel_4 : decode cX2_passBarrel 4 = .ok (.aload_n 0, 1) := by decide +kernel
theorem dX2_passBarrel_5 : decode cX2_passBarrel 5 = .ok (.getfield 46, 3) := by decide +kernel
theorem dX2_passBarrel_8 : decode cX2_passBarrel 8 = .ok (.aload_n 0, 1) := by decide +kernel
theorem dX2_passBarrel_9 : decode cX2_passBarrel 9 = .ok (.getfield 49, 3) := by decide +kernel
theorem dX2_passBarrel_12 : decode cX2_passBarrel 12 = .ok (.invokestatic 104, 3) := by decide +kernel
theorem dX2_passBarrel_15 : decode cX2_passBarrel 15 = .ok (.istore_n 2, 1) := by decide +kernel
theorem dX2_passBarrel_16 : decode cX2_passBarrel 16 = .ok (.aload_n 0, 1) := by decide +kernel
theorem dX2_passBarrel_17 : decode cX2_passBarrel 17 = .ok (.dup, 1) := by decide +kernel
theorem dX2_passBarrel_18 : decode cX2_passBarrel 18 = .ok (.getfield 49, 3) := by decide +kernel
theorem dX2_passBarrel_21 : decode cX2_passBarrel 21 = .ok (.iload_n 2, 1) := by decide +kernel
theorem dX2_passBarrel_22 : decode cX2_passBarrel 22 = .ok (.isub, 1) := by decide +kernel
theorem dX2_passBarrel_23 : decode cX2_passBarrel 23 = .ok (.putfield 49, 3) := by decide +kernel
theorem dX2_passBarrel_26 : decode cX2_passBarrel 26 = .ok (.iload_n 2, 1) := by decide +kernel
theorem dX2_passBarrel_27 : decode cX2_passBarrel 27 = .ok (.ireturn, 1) := by decide +kernel
theorem dX2_passBarrel_28 : decode cX2_passBarrel 28 = .ok (.iload_n 1, 1) := by decide +kernel
theorem dX2_passBarrel_29 : decode cX2_passBarrel 29 = .ok (.iconst 0, 1) := by decide +kernel
theorem dX2_passBarrel_30 : decode cX2_passBarrel 30 = .ok (.aload_n 0, 1) := by decide +kernel
theorem dX2_passBarrel_31 : decode cX2_passBarrel 31 = .ok (.getfield 43, 3) := by decide +kernel
theorem dX2_passBarrel_34 : decode cX2_passBarrel 34 = .ok (.aload_n 0, 1) := by decide +kernel
theorem dX2_passBarrel_35 : decode cX2_passBarrel 35 = .ok (.getfield 49, 3) := by decide +kernel
theorem dX2_passBarrel_38 : decode cX2_passBarrel 38 = .ok (.isub, 1) := by decide +kernel
theorem dX2_passBarrel_39 : decode cX2_passBarrel 39 = .ok (.invokestatic 110, 3) := by decide +kernel
theorem dX2_passBarrel_42 : decode cX2_passBarrel 42 = .ok (.invokestatic 104, 3) := by decide +kernel
theorem dX2_passBarrel_45 : decode cX2_passBarrel 45 = .ok (.istore_n 2, 1) := by decide +kernel
theorem dX2_passBarrel_46 : decode cX2_passBarrel 46 = .ok (.aload_n 0, 1) := by decide +kernel
theorem dX2_passBarrel_47 : decode cX2_passBarrel 47 = .ok (.dup, 1) := by decide +kernel
theorem dX2_passBarrel_48 : decode cX2_passBarrel 48 = .ok (.getfield 49, 3) := by decide +kernel
theorem dX2_passBarrel_51 : decode cX2_passBarrel 51 = .ok (.iload_n 2, 1) := by decide +kernel
theorem dX2_passBarrel_52 : decode cX2_passBarrel 52 = .ok (.iadd, 1) := by decide +kernel
theorem dX2_passBarrel_53 : decode cX2_passBarrel 53 = .ok (.putfield 49, 3) := by decide +kernel
theorem dX2_passBarrel_56 : decode cX2_passBarrel 56 = .ok (.iload_n 1, 1) := by decide +kernel
theorem dX2_passBarrel_57 : decode cX2_passBarrel 57 = .ok (.iload_n 2, 1) := by decide +kernel
theorem dX2_passBarrel_58 : decode cX2_passBarrel 58 = .ok (.isub, 1) := by decide +kernel
theorem dX2_passBarrel_59 : decode cX2_passBarrel 59 = .ok (.ireturn, 1) := by decide +kernel
theorem dX2_carriedInAll_0 : decode cX2_carriedInAll 0 = .ok (.iconst 0, 1) := by decide +kernel
theorem dX2_carriedInAll_1 : decode cX2_carriedInAll 1 = .ok (.istore_n 2, 1) := by decide +kernel
theorem dX2_carriedInAll_2 : decode cX2_carriedInAll 2 = .ok (.iconst 0, 1) := by decide +kernel
theorem dX2_carriedInAll_3 : decode cX2_carriedInAll 3 = .ok (.istore_n 3, 1) := by decide +kernel
theorem dX2_carriedInAll_4 : decode cX2_carriedInAll 4 = .ok (.iload_n 3, 1) := by decide +kernel
theorem dX2_carriedInAll_5 : decode cX2_carriedInAll 5 = .ok (.iload_n 1, 1) := by decide +kernel
theorem dX2_carriedInAll_6 : decode cX2_carriedInAll 6 = .ok (.if_icmp .ge 18, 3) := by decide +kernel
theorem dX2_carriedInAll_9 : decode cX2_carriedInAll 9 = .ok (.iload_n 2, 1) := by decide +kernel
theorem dX2_carriedInAll_10 : decode cX2_carriedInAll 10 = .ok (.aload_n 0, 1) := by decide +kernel
theorem dX2_carriedInAll_11 : decode cX2_carriedInAll 11 = .ok (.getfield 18, 3) := by decide +kernel
theorem dX2_carriedInAll_14 : decode cX2_carriedInAll 14 = .ok (.iload_n 3, 1) := by decide +kernel
theorem dX2_carriedInAll_15 : decode cX2_carriedInAll 15 = .ok (.iaload, 1) := by decide +kernel
theorem dX2_carriedInAll_16 : decode cX2_carriedInAll 16 = .ok (.iadd, 1) := by decide +kernel
theorem dX2_carriedInAll_17 : decode cX2_carriedInAll 17 = .ok (.istore_n 2, 1) := by decide +kernel
theorem dX2_carriedInAll_18 : decode cX2_carriedInAll 18 = .ok (.iinc 3 1, 3) := by decide +kernel
theorem dX2_carriedInAll_21 : decode cX2_carriedInAll 21 = .ok (.goto (-17), 3) := by decide +kernel
theorem dX2_carriedInAll_24 : decode cX2_carriedInAll 24 = .ok (.iload_n 2, 1) := by decide +kernel
theorem dX2_carriedInAll_25 : decode cX2_carriedInAll 25 = .ok (.ireturn, 1) := by decide +kernel
theorem dX2_closeStorm_0 : decode cX2_closeStorm 0 = .ok (.aload_n 0, 1) := by decide +kernel
theorem dX2_closeStorm_1 : decode cX2_closeStorm 1 = .ok (.bipush 10, 2) := by decide +kernel
theorem dX2_closeStorm_3 : decode cX2_closeStorm 3 = .ok (.aload_n 0, 1) := by decide +kernel
theorem dX2_closeStorm_4 : decode cX2_closeStorm 4 = .ok (.getfield 40, 3) := by decide +kernel
theorem dX2_closeStorm_7 : decode cX2_closeStorm 7 = .ok (.aload_n 0, 1) := by decide +kernel
theorem dX2_closeStorm_8 : decode cX2_closeStorm 8 = .ok (.getfield 31, 3) := by decide +kernel
theorem dX2_closeStorm_11 : decode cX2_closeStorm 11 = .ok (.iadd, 1) := by decide +kernel
theorem dX2_closeStorm_12 : decode cX2_closeStorm 12 = .ok (.invokestatic 104, 3) := by decide +kernel
theorem dX2_closeStorm_15 : decode cX2_closeStorm 15 = .ok (.putfield 40, 3) := by decide +kernel
theorem dX2_closeStorm_18 : decode cX2_closeStorm 18 = .ok (.aload_n 0, 1) := by decide +kernel
theorem dX2_closeStorm_19 : decode cX2_closeStorm 19 = .ok (.dup, 1) := by decide +kernel
theorem dX2_closeStorm_20 : decode cX2_closeStorm 20 = .ok (.getfield 58, 3) := by decide +kernel
theorem dX2_closeStorm_23 : decode cX2_closeStorm 23 = .ok (.aload_n 0, 1) := by decide +kernel
theorem dX2_closeStorm_24 : decode cX2_closeStorm 24 = .ok (.getfield 61, 3) := by decide +kernel
theorem dX2_closeStorm_27 : decode cX2_closeStorm 27 = .ok (.iadd, 1) := by decide +kernel
theorem dX2_closeStorm_28 : decode cX2_closeStorm 28 = .ok (.putfield 58, 3) := by decide +kernel
theorem dX2_closeStorm_31 : decode cX2_closeStorm 31 = .ok (.aload_n 0, 1) := by decide +kernel
theorem dX2_closeStorm_32 : decode cX2_closeStorm 32 = .ok (.aload_n 0, 1) := by decide +kernel
theorem dX2_closeStorm_33 : decode cX2_closeStorm 33 = .ok (.getfield 61, 3) := by decide +kernel
theorem dX2_closeStorm_36 : decode cX2_closeStorm 36 = .ok (.ifCond .ne 12, 3) := by decide +kernel
theorem dX2_closeStorm_39 : decode cX2_closeStorm 39 = .ok (.aload_n 0, 1) := by decide +kernel
theorem dX2_closeStorm_40 : decode cX2_closeStorm 40 = .ok (.getfield 64, 3) := by decide +kernel
theorem dX2_closeStorm_43 : decode cX2_closeStorm 43 = .ok (.iconst 1, 1) := by decide +kernel
theorem dX2_closeStorm_44 : decode cX2_closeStorm 44 = .ok (.iadd, 1) := by decide +kernel
theorem dX2_closeStorm_45 : decode cX2_closeStorm 45 = .ok (.goto 4, 3) := by decide +kernel
theorem dX2_closeStorm_48 : decode cX2_closeStorm 48 = .ok (.iconst 0, 1) := by decide +kernel
theorem dX2_closeStorm_49 : decode cX2_closeStorm 49 = .ok (.putfield 64, 3) := by decide +kernel
theorem dX2_closeStorm_52 : decode cX2_closeStorm 52 = .ok (.return_, 1) := by decide +kernel
theorem dX3_init_0 : decode cX3_init 0 = .ok (.aload_n 0, 1) := by decide +kernel
theorem dX3_init_1 : decode cX3_init 1 = .ok (.invokespecial 3, 3) := by decide +kernel
theorem dX3_init_4 : decode cX3_init 4 = .ok (.aload_n 0, 1) := by decide +kernel
theorem dX3_init_5 : decode cX3_init 5 = .ok (.sipush 400, 3) := by decide +kernel
theorem dX3_init_8 : decode cX3_init 8 = .ok (.newarray .int, 2) := by decide +kernel
theorem dX3_init_10 : decode cX3_init 10 = .ok (.putfield 9, 3) := by decide +kernel
theorem dX3_init_13 : decode cX3_init 13 = .ok (.aload_n 0, 1) := by decide +kernel
theorem dX3_init_14 : decode cX3_init 14 = .ok (.bipush 17, 2) := by decide +kernel
theorem dX3_init_16 : decode cX3_init 16 = .ok (.newarray .int, 2) := by decide +kernel
theorem dX3_init_18 : decode cX3_init 18 = .ok (.putfield 15, 3) := by decide +kernel
theorem dX3_init_21 : decode cX3_init 21 = .ok (.aload_n 0, 1) := by decide +kernel
theorem dX3_init_22 : decode cX3_init 22 = .ok (.bipush 17, 2) := by decide +kernel
theorem dX3_init_24 : decode cX3_init 24 = .ok (.newarray .int, 2) := by decide +kernel
theorem dX3_init_26 : decode cX3_init 26 = .ok (.putfield 18, 3) := by decide +kernel
theorem dX3_init_29 : decode cX3_init 29 = .ok (.aload_n 0, 1) := by decide +kernel
theorem dX3_init_30 : decode cX3_init 30 = .ok (.bipush 40, 2) := by decide +kernel
theorem dX3_init_32 : decode cX3_init 32 = .ok (.newarray .int, 2) := by decide +kernel
theorem dX3_init_34 : decode cX3_init 34 = .ok (.putfield 21, 3) := by decide +kernel
theorem dX3_init_37 : decode cX3_init 37 = .ok (.return_, 1) := by decide +kernel
theorem dX3_clear_0 : decode cX3_clear 0 = .ok (.aload_n 0, 1) := by decide +kernel
theorem dX3_clear_1 : decode cX3_clear 1 = .ok (.iconst 0, 1) := by decide +kernel
theorem dX3_clear_2 : decode cX3_clear 2 = .ok (.putfield 24, 3) := by decide +kernel
theorem dX3_clear_5 : decode cX3_clear 5 = .ok (.aload_n 0, 1) := by decide +kernel
theorem dX3_clear_6 : decode cX3_clear 6 = .ok (.iconst 0, 1) := by decide +kernel
theorem dX3_clear_7 : decode cX3_clear 7 = .ok (.putfield 28, 3) := by decide +kernel
theorem dX3_clear_10 : decode cX3_clear 10 = .ok (.aload_n 0, 1) := by decide +kernel
theorem dX3_clear_11 : decode cX3_clear 11 = .ok (.getfield 15, 3) := by decide +kernel
theorem dX3_clear_14 : decode cX3_clear 14 = .ok (.iconst 0, 1) := by decide +kernel
theorem dX3_clear_15 : decode cX3_clear 15 = .ok (.iconst 0, 1) := by decide +kernel
theorem dX3_clear_16 : decode cX3_clear 16 = .ok (.iastore, 1) := by decide +kernel
theorem dX3_clear_17 : decode cX3_clear 17 = .ok (.return_, 1) := by decide +kernel
theorem dX3_copy_0 : decode cX3_copy 0 = .ok (.aload_n 0, 1) := by decide +kernel
theorem dX3_copy_1 : decode cX3_copy 1 = .ok (.aload_n 1, 1) := by decide +kernel
theorem dX3_copy_2 : decode cX3_copy 2 = .ok (.getfield 24, 3) := by decide +kernel
theorem dX3_copy_5 : decode cX3_copy 5 = .ok (.putfield 24, 3) := by decide +kernel
theorem dX3_copy_8 : decode cX3_copy 8 = .ok (.aload_n 0, 1) := by decide +kernel
theorem dX3_copy_9 : decode cX3_copy 9 = .ok (.aload_n 1, 1) := by decide +kernel
theorem dX3_copy_10 : decode cX3_copy 10 = .ok (.getfield 28, 3) := by decide +kernel
theorem dX3_copy_13 : decode cX3_copy 13 = .ok (.putfield 28, 3) := by decide +kernel
theorem dX3_copy_16 : decode cX3_copy 16 = .ok (.aload_n 1, 1) := by decide +kernel
theorem dX3_copy_17 : decode cX3_copy 17 = .ok (.getfield 9, 3) := by decide +kernel
theorem dX3_copy_20 : decode cX3_copy 20 = .ok (.iconst 0, 1) := by decide +kernel
theorem dX3_copy_21 : decode cX3_copy 21 = .ok (.aload_n 0, 1) := by decide +kernel
theorem dX3_copy_22 : decode cX3_copy 22 = .ok (.getfield 9, 3) := by decide +kernel
theorem dX3_copy_25 : decode cX3_copy 25 = .ok (.iconst 0, 1) := by decide +kernel
theorem dX3_copy_26 : decode cX3_copy 26 = .ok (.sipush 400, 3) := by decide +kernel
theorem dX3_copy_29 : decode cX3_copy 29 = .ok (.invokestatic 31, 3) := by decide +kernel
theorem dX3_copy_32 : decode cX3_copy 32 = .ok (.aload_n 1, 1) := by decide +kernel
theorem dX3_copy_33 : decode cX3_copy 33 = .ok (.getfield 15, 3) := by decide +kernel
theorem dX3_copy_36 : decode cX3_copy 36 = .ok (.iconst 0, 1) := by decide +kernel
theorem dX3_copy_37 : decode cX3_copy 37 = .ok (.aload_n 0, 1) := by decide +kernel
theorem dX3_copy_38 : decode cX3_copy 38 = .ok (.getfield 15, 3) := by decide +kernel
theorem dX3_copy_41 : decode cX3_copy 41 = .ok (.iconst 0, 1) := by decide +kernel
theorem dX3_copy_42 : decode cX3_copy 42 = .ok (.bipush 17, 2) := by decide +kernel
theorem dX3_copy_44 : decode cX3_copy 44 = .ok (.invokestatic 31, 3) := by decide +kernel
theorem dX3_copy_47 : decode cX3_copy 47 = .ok (.aload_n 1, 1) := by decide +kernel
theorem dX3_copy_48 : decode cX3_copy 48 = .ok (.getfield 18, 3) := by decide +kernel
theorem dX3_copy_51 : decode cX3_copy 51 = .ok (.iconst 0, 1) := by decide +kernel
theorem dX3_copy_52 : decode cX3_copy 52 = .ok (.aload_n 0, 1) := by decide +kernel
theorem dX3_copy_53 : decode cX3_copy 53 = .ok (.getfield 18, 3) := by decide +kernel
theorem dX3_copy_56 : decode cX3_copy 56 = .ok (.iconst 0, 1) := by decide +kernel
theorem dX3_copy_57 : decode cX3_copy 57 = .ok (.bipush 17, 2) := by decide +kernel
theorem dX3_copy_59 : decode cX3_copy 59 = .ok (.invokestatic 31, 3) := by decide +kernel
theorem dX3_copy_62 : decode cX3_copy 62 = .ok (.return_, 1) := by decide +kernel
theorem dX3_add_0 : decode cX3_add 0 = .ok (.aload_n 0, 1) := by decide +kernel
theorem dX3_add_1 : decode cX3_add 1 = .ok (.getfield 28, 3) := by decide +kernel
theorem dX3_add_4 : decode cX3_add 4 = .ok (.sipush 400, 3) := by decide +kernel
theorem dX3_add_7 : decode cX3_add 7 = .ok (.if_icmp .ge 23, 3) := by decide +kernel
theorem dX3_add_10 : decode cX3_add 10 = .ok (.aload_n 0, 1) := by decide +kernel
theorem dX3_add_11 : decode cX3_add 11 = .ok (.getfield 9, 3) := by decide +kernel
theorem dX3_add_14 : decode cX3_add 14 = .ok (.aload_n 0, 1) := by decide +kernel
theorem dX3_add_15 : decode cX3_add 15 = .ok (.getfield 28, 3) := by decide +kernel
theorem dX3_add_18 : decode cX3_add 18 = .ok (.iload_n 1, 1) := by decide +kernel
theorem dX3_add_19 : decode cX3_add 19 = .ok (.iastore, 1) := by decide +kernel
theorem dX3_add_20 : decode cX3_add 20 = .ok (.aload_n 0, 1) := by decide +kernel
theorem dX3_add_21 : decode cX3_add 21 = .ok (.dup, 1) := by decide +kernel
theorem dX3_add_22 : decode cX3_add 22 = .ok (.getfield 28, 3) := by decide +kernel
theorem dX3_add_25 : decode cX3_add 25 = .ok (.iconst 1, 1) := by decide +kernel
theorem dX3_add_26 : decode cX3_add 26 = .ok (.iadd, 1) := by decide +kernel
theorem dX3_add_27 : decode cX3_add 27 = .ok (.putfield 28, 3) := by decide +kernel
theorem dX3_add_30 : decode cX3_add 30 = .ok (.return_, 1) := by decide +kernel
theorem dX3_closeSum_0 : decode cX3_closeSum 0 = .ok (.aload_n 0, 1) := by decide +kernel
theorem dX3_closeSum_1 : decode cX3_closeSum 1 = .ok (.getfield 24, 3) := by decide +kernel
theorem dX3_closeSum_4 : decode cX3_closeSum 4 = .ok (.bipush 16, 2) := by decide +kernel
theorem dX3_closeSum_6 : decode cX3_closeSum 6 = .ok (.if_icmp .ge 16, 3) := by decide +kernel
theorem dX3_closeSum_9 : decode cX3_closeSum 9 = .ok (.aload_n 0, 1) := by decide +kernel
theorem dX3_closeSum_10 : decode cX3_closeSum 10 = .ok (.getfield 18, 3) := by decide +kernel
theorem dX3_closeSum_13 : decode cX3_closeSum 13 = .ok (.aload_n 0, 1) := by decide +kernel
theorem dX3_closeSum_14 : decode cX3_closeSum 14 = .ok (.getfield 24, 3) := by decide +kernel
theorem dX3_closeSum_17 : decode cX3_closeSum 17 = .ok (.aload_n 0, 1) := by decide +kernel
theorem dX3_closeSum_18 : decode cX3_closeSum 18 = .ok (.getfield 28, 3) := by decide +kernel
theorem dX3_closeSum_21 : decode cX3_closeSum 21 = .ok (.iastore, 1) := by decide +kernel
theorem dX3_closeSum_22 : decode cX3_closeSum 22 = .ok (.return_, 1) := by decide +kernel
theorem dX3_closeLine_0 : decode cX3_closeLine 0 = .ok (.aload_n 0, 1) := by decide +kernel
theorem dX3_closeLine_1 : decode cX3_closeLine 1 = .ok (.getfield 24, 3) := by decide +kernel
theorem dX3_closeLine_4 : decode cX3_closeLine 4 = .ok (.bipush 16, 2) := by decide +kernel
theorem dX3_closeLine_6 : decode cX3_closeLine 6 = .ok (.if_icmp .ge 26, 3) := by decide +kernel
theorem dX3_closeLine_9 : decode cX3_closeLine 9 = .ok (.aload_n 0, 1) := by decide +kernel
theorem dX3_closeLine_10 : decode cX3_closeLine 10 = .ok (.dup, 1) := by decide +kernel
theorem dX3_closeLine_11 : decode cX3_closeLine 11 = .ok (.getfield 24, 3) := by decide +kernel
theorem dX3_closeLine_14 : decode cX3_closeLine 14 = .ok (.iconst 1, 1) := by decide +kernel
theorem dX3_closeLine_15 : decode cX3_closeLine 15 = .ok (.iadd, 1) := by decide +kernel
theorem dX3_closeLine_16 : decode cX3_closeLine 16 = .ok (.putfield 24, 3) := by decide +kernel
theorem dX3_closeLine_19 : decode cX3_closeLine 19 = .ok (.aload_n 0, 1) := by decide +kernel
theorem dX3_closeLine_20 : decode cX3_closeLine 20 = .ok (.getfield 15, 3) := by decide +kernel
theorem dX3_closeLine_23 : decode cX3_closeLine 23 = .ok (.aload_n 0, 1) := by decide +kernel
theorem dX3_closeLine_24 : decode cX3_closeLine 24 = .ok (.getfield 24, 3) := by decide +kernel
theorem dX3_closeLine_27 : decode cX3_closeLine 27 = .ok (.aload_n 0, 1) := by decide +kernel
theorem dX3_closeLine_28 : decode cX3_closeLine 28 = .ok (.getfield 28, 3) := by decide +kernel
theorem dX3_closeLine_31 : decode cX3_closeLine 31 = .ok (.iastore, 1) := by decide +kernel
theorem dX3_closeLine_32 : decode cX3_closeLine 32 = .ok (.return_, 1) := by decide +kernel
theorem dX3_asks_0 : decode cX3_asks 0 = .ok (.iconst 0, 1) := by decide +kernel
theorem dX3_asks_1 : decode cX3_asks 1 = .ok (.istore_n 2, 1) := by decide +kernel
theorem dX3_asks_2 : decode cX3_asks 2 = .ok (.iload_n 2, 1) := by decide +kernel
theorem dX3_asks_3 : decode cX3_asks 3 = .ok (.aload_n 0, 1) := by decide +kernel
theorem dX3_asks_4 : decode cX3_asks 4 = .ok (.getfield 24, 3) := by decide +kernel
theorem dX3_asks_7 : decode cX3_asks 7 = .ok (.if_icmp .ge 76, 3) := by decide +kernel
theorem dX3_asks_10 : decode cX3_asks 10 = .ok (.iload_n 2, 1) := by decide +kernel
theorem dX3_asks_11 : decode cX3_asks 11 = .ok (.bipush 16, 2) := by decide +kernel
theorem dX3_asks_13 : decode cX3_asks 13 = .ok (.if_icmp .ge 70, 3) := by decide +kernel
theorem dX3_asks_16 : decode cX3_asks 16 = .ok (.aload_n 0, 1) := by decide +kernel
theorem dX3_asks_17 : decode cX3_asks 17 = .ok (.getfield 18, 3) := by decide +kernel
theorem dX3_asks_20 : decode cX3_asks 20 = .ok (.iload_n 2, 1) := by decide +kernel
theorem dX3_asks_21 : decode cX3_asks 21 = .ok (.iaload, 1) := by decide +kernel
theorem dX3_asks_22 : decode cX3_asks 22 = .ok (.istore_n 3, 1) := by decide +kernel
theorem dX3_asks_23 : decode cX3_asks 23 = .ok (.aload_n 0, 1) := by decide +kernel
theorem dX3_asks_24 : decode cX3_asks 24 = .ok (.getfield 15, 3) := by decide +kernel
theorem dX3_asks_27 : decode cX3_asks 27 = .ok (.iload_n 2, 1) := by decide +kernel
theorem dX3_asks_28 : decode cX3_asks 28 = .ok (.iconst 1, 1) := by decide +kernel
theorem dX3_asks_29 : decode cX3_asks 29 = .ok (.iadd, 1) := by decide +kernel
theorem dX3_asks_30 : decode cX3_asks 30 = .ok (.iaload, 1) := by decide +kernel
theorem dX3_asks_31 : decode cX3_asks 31 = .ok (.istore 4, 2) := by decide +kernel
theorem dX3_asks_33 : decode cX3_asks 33 = .ok (.iload_n 3, 1) := by decide +kernel
theorem dX3_asks_34 : decode cX3_asks 34 = .ok (.iload 4, 2) := by decide +kernel
theorem dX3_asks_36 : decode cX3_asks 36 = .ok (.if_icmp .eq 14, 3) := by decide +kernel
theorem dX3_asks_39 : decode cX3_asks 39 = .ok (.aload_n 0, 1) := by decide +kernel
theorem dX3_asks_40 : decode cX3_asks 40 = .ok (.iload_n 3, 1) := by decide +kernel
theorem dX3_asks_41 : decode cX3_asks 41 = .ok (.iload 4, 2) := by decide +kernel
theorem dX3_asks_43 : decode cX3_asks 43 = .ok (.aload_n 1, 1) := by decide +kernel
theorem dX3_asks_44 : decode cX3_asks 44 = .ok (.invokevirtual 37, 3) := by decide +kernel
theorem dX3_asks_47 : decode cX3_asks 47 = .ok (.ifCond .eq 30, 3) := by decide +kernel
theorem dX3_asks_50 : decode cX3_asks 50 = .ok (.aload_n 0, 1) := by decide +kernel
theorem dX3_asks_51 : decode cX3_asks 51 = .ok (.aload_n 0, 1) := by decide +kernel
theorem dX3_asks_52 : decode cX3_asks 52 = .ok (.getfield 15, 3) := by decide +kernel
theorem dX3_asks_55 : decode cX3_asks 55 = .ok (.iload_n 2, 1) := by decide +kernel
theorem dX3_asks_56 : decode cX3_asks 56 = .ok (.iaload, 1) := by decide +kernel
theorem dX3_asks_57 : decode cX3_asks 57 = .ok (.iload_n 3, 1) := by decide +kernel
theorem dX3_asks_58 : decode cX3_asks 58 = .ok (.aload_n 1, 1) := by decide +kernel
theorem dX3_asks_59 : decode cX3_asks 59 = .ok (.invokevirtual 37, 3) := by decide +kernel
theorem dX3_asks_62 : decode cX3_asks 62 = .ok (.istore 5, 2) := by decide +kernel
theorem dX3_asks_64 : decode cX3_asks 64 = .ok (.iconst 0, 1) := by decide +kernel
theorem dX3_asks_65 : decode cX3_asks 65 = .ok (.sipush 9999, 3) := by decide +kernel
theorem dX3_asks_68 : decode cX3_asks 68 = .ok (.iload 5, 2) := by decide +kernel
theorem dX3_asks_70 : decode cX3_asks 70 = .ok (.invokestatic 41, 3) := by decide +kernel
theorem dX3_asks_73 : decode cX3_asks 73 = .ok (.invokestatic 47, 3) := by decide +kernel
theorem dX3_asks_76 : decode cX3_asks 76 = .ok (.ireturn, 1) := by decide +kernel
theorem dX3_asks_77 : decode cX3_asks 77 = .ok (.iinc 2 1, 3) := by decide +kernel
theorem dX3_asks_80 : decode cX3_asks 80 = .ok (.goto (-78), 3) := by decide +kernel
theorem dX3_asks_83 : decode cX3_asks 83 = .ok (.iconst 0, 1) := by decide +kernel
theorem dX3_asks_84 : decode cX3_asks 84 = .ok (.ireturn, 1) := by decide +kernel
theorem dX3_worth_0 : decode cX3_worth 0 = .ok (.iconst 0, 1) := by decide +kernel
theorem dX3_worth_1 : decode cX3_worth 1 = .ok (.istore 4, 2) := by decide +kernel
theorem dX3_worth_3 : decode cX3_worth 3 = .ok (.iload_n 1, 1) := by decide +kernel
theorem dX3_worth_4 : decode cX3_worth 4 = .ok (.istore 5, 2) := by decide +kernel
theorem dX3_worth_6 : decode cX3_worth 6 = .ok (.iload 5, 2) := by decide +kernel
theorem dX3_worth_8 : decode cX3_worth 8 = .ok (.iload_n 2, 1) := by decide +kernel
theorem dX3_worth_9 : decode cX3_worth 9 = .ok (.if_icmp .ge 167, 3) := by decide +kernel
theorem dX3_worth_12 : decode cX3_worth 12 = .ok (.iload 5, 2) := by decide +kernel
theorem dX3_worth_14 : decode cX3_worth 14 = .ok (.sipush 400, 3) := by decide +kernel
theorem dX3_worth_17 : decode cX3_worth 17 = .ok (.if_icmp .ge 159, 3) := by decide +kernel
theorem dX3_worth_20 : decode cX3_worth 20 = .ok (.aload_n 0, 1) := by decide +kernel
theorem dX3_worth_21 : decode cX3_worth 21 = .ok (.getfield 9, 3) := by decide +kernel
theorem dX3_worth_24 : decode cX3_worth 24 = .ok (.iload 5, 2) := by decide +kernel
theorem dX3_worth_26 : decode cX3_worth 26 = .ok (.iaload, 1) := by decide +kernel
theorem dX3_worth_27 : decode cX3_worth 27 = .ok (.istore 6, 2) := by decide +kernel
theorem dX3_worth_29 : decode cX3_worth 29 = .ok (.iload 6, 2) := by decide +kernel
theorem dX3_worth_31 : decode cX3_worth 31 = .ok (.ifCond .lt 25, 3) := by decide +kernel
theorem dX3_worth_34 : decode cX3_worth 34 = .ok (.iload 4, 2) := by decide +kernel
theorem dX3_worth_36 : decode cX3_worth 36 = .ok (.bipush 40, 2) := by decide +kernel
theorem dX3_worth_38 : decode cX3_worth 38 = .ok (.if_icmp .ge 18, 3) := by decide +kernel
theorem dX3_worth_41 : decode cX3_worth 41 = .ok (.aload_n 0, 1) := by decide +kernel
theorem dX3_worth_42 : decode cX3_worth 42 = .ok (.getfield 21, 3) := by decide +kernel
theorem dX3_worth_45 : decode cX3_worth 45 = .ok (.iload 4, 2) := by decide +kernel
theorem dX3_worth_47 : decode cX3_worth 47 = .ok (.iload 6, 2) := by decide +kernel
theorem dX3_worth_49 : decode cX3_worth 49 = .ok (.iastore, 1) := by decide +kernel
theorem dX3_worth_50 : decode cX3_worth 50 = .ok (.iinc 4 1, 3) := by decide +kernel
theorem dX3_worth_53 : decode cX3_worth 53 = .ok (.goto 117, 3) := by decide +kernel
theorem dX3_worth_56 : decode cX3_worth 56 = .ok (.iload 6, 2) := by decide +kernel
theorem dX3_worth_58 : decode cX3_worth 58 = .ok (.ineg, 1) := by decide +kernel
theorem dX3_worth_59 : decode cX3_worth 59 = .ok (.bipush 8, 2) := by decide +kernel
theorem dX3_worth_61 : decode cX3_worth 61 = .ok (.bipush 15, 2) := by decide +kernel
theorem dX3_worth_63 : decode cX3_worth 63 = .ok (.invokestatic 50, 3) := by decide +kernel
theorem dX3_worth_66 : decode cX3_worth 66 = .ok (.ifCond .eq 28, 3) := by decide +kernel
theorem dX3_worth_69 : decode cX3_worth 69 = .ok (.iload 4, 2) := by decide +kernel
theorem dX3_worth_71 : decode cX3_worth 71 = .ok (.bipush 40, 2) := by decide +kernel
theorem dX3_worth_73 : decode cX3_worth 73 = .ok (.if_icmp .ge 21, 3) := by decide +kernel
theorem dX3_worth_76 : decode cX3_worth 76 = .ok (.aload_n 0, 1) := by decide +kernel
theorem dX3_worth_77 : decode cX3_worth 77 = .ok (.getfield 21, 3) := by decide +kernel
theorem dX3_worth_80 : decode cX3_worth 80 = .ok (.iload 4, 2) := by decide +kernel
theorem dX3_worth_82 : decode cX3_worth 82 = .ok (.aload_n 3, 1) := by decide +kernel
theorem dX3_worth_83 : decode cX3_worth 83 = .ok (.iload 6, 2) := by decide +kernel
theorem dX3_worth_85 : decode cX3_worth 85 = .ok (.ineg, 1) := by decide +kernel
theorem dX3_worth_86 : decode cX3_worth 86 = .ok (.iaload, 1) := by decide +kernel
theorem dX3_worth_87 : decode cX3_worth 87 = .ok (.iastore, 1) := by decide +kernel
theorem dX3_worth_88 : decode cX3_worth 88 = .ok (.iinc 4 1, 3) := by decide +kernel
theorem dX3_worth_91 : decode cX3_worth 91 = .ok (.goto 79, 3) := by decide +kernel
theorem dX3_worth_94 : decode cX3_worth 94 = .ok (.iload 6, 2) := by decide +kernel
theorem dX3_worth_96 : decode cX3_worth 96 = .ok (.ineg, 1) := by decide +kernel
theorem dX3_worth_97 : decode cX3_worth 97 = .ok (.bipush 7, 2) := by decide +kernel
theorem dX3_worth_99 : decode cX3_worth 99 = .ok (.if_icmp .ne 31, 3) := by decide +kernel
theorem dX3_worth_102 : decode cX3_worth 102 = .ok (.iload 4, 2) := by decide +kernel
theorem dX3_worth_104 : decode cX3_worth 104 = .ok (.ifCond .le 26, 3) := by decide +kernel
theorem dX3_worth_107 : decode cX3_worth 107 = .ok (.aload_n 0, 1) := by decide +kernel
theorem dX3_worth_108 : decode cX3_worth 108 = .ok (.getfield 21, 3) := by decide +kernel
theorem dX3_worth_111 : decode cX3_worth 111 = .ok (.iload 4, 2) := by decide +kernel
theorem dX3_worth_113 : decode cX3_worth 113 = .ok (.iconst 1, 1) := by decide +kernel
theorem dX3_worth_114 : decode cX3_worth 114 = .ok (.isub, 1) := by decide +kernel
theorem dX3_worth_115 : decode cX3_worth 115 = .ok (.iconst 1, 1) := by decide +kernel
theorem dX3_worth_116 : decode cX3_worth 116 = .ok (.aload_n 0, 1) := by decide +kernel
theorem dX3_worth_117 : decode cX3_worth 117 = .ok (.getfield 21, 3) := by decide +kernel
theorem dX3_worth_120 : decode cX3_worth 120 = .ok (.iload 4, 2) := by decide +kernel
theorem dX3_worth_122 : decode cX3_worth 122 = .ok (.iconst 1, 1) := by decide +kernel
theorem dX3_worth_123 : decode cX3_worth 123 = .ok (.isub, 1) := by decide +kernel
theorem dX3_worth_124 : decode cX3_worth 124 = .ok (.iaload, 1) := by decide +kernel
theorem dX3_worth_125 : decode cX3_worth 125 = .ok (.isub, 1) := by decide +kernel
theorem dX3_worth_126 : decode cX3_worth 126 = .ok (.iastore, 1) := by decide +kernel
theorem dX3_worth_127 : decode cX3_worth 127 = .ok (.goto 43, 3) := by decide +kernel
theorem dX3_worth_130 : decode cX3_worth 130 = .ok (.iload 4, 2) := by decide +kernel
theorem dX3_worth_132 : decode cX3_worth 132 = .ok (.iconst 1, 1) := by decide +kernel
theorem dX3_worth_133 : decode cX3_worth 133 = .ok (.if_icmp .le 37, 3) := by decide +kernel
theorem dX3_worth_136 : decode cX3_worth 136 = .ok (.iinc 4 (-1), 3) := by decide +kernel
theorem dX3_worth_139 : decode cX3_worth 139 = .ok (.aload_n 0, 1) := by decide +kernel
theorem dX3_worth_140 : decode cX3_worth 140 = .ok (.getfield 21, 3) := by decide +kernel
theorem dX3_worth_143 : decode cX3_worth 143 = .ok (.iload 4, 2) := by decide +kernel
theorem dX3_worth_145 : decode cX3_worth 145 = .ok (.iconst 1, 1) := by decide +kernel
theorem dX3_worth_146 : decode cX3_worth 146 = .ok (.isub, 1) := by decide +kernel
theorem dX3_worth_147 : decode cX3_worth 147 = .ok (.iload 6, 2) := by decide +kernel
theorem dX3_worth_149 : decode cX3_worth 149 = .ok (.ineg, 1) := by decide +kernel
theorem dX3_worth_150 : decode cX3_worth 150 = .ok (.aload_n 0, 1) := by decide +kernel
theorem dX3_worth_151 : decode cX3_worth 151 = .ok (.getfield 21, 3) := by decide +kernel
theorem dX3_worth_154 : decode cX3_worth 154 = .ok (.iload 4, 2) := by decide +kernel
theorem dX3_worth_156 : decode cX3_worth 156 = .ok (.iconst 1, 1) := by decide +kernel
theorem dX3_worth_157 : decode cX3_worth 157 = .ok (.isub, 1) := by decide +kernel
theorem dX3_worth_158 : decode cX3_worth 158 = .ok (.iaload, 1) := by decide +kernel
theorem dX3_worth_159 : decode cX3_worth 159 = .ok (.aload_n 0, 1) := by decide +kernel
theorem dX3_worth_160 : decode cX3_worth 160 = .ok (.getfield 21, 3) := by decide +kernel
theorem dX3_worth_163 : decode cX3_worth 163 = .ok (.iload 4, 2) := by decide +kernel
theorem dX3_worth_165 : decode cX3_worth 165 = .ok (.iaload, 1) := by decide +kernel
theorem dX3_worth_166 : decode cX3_worth 166 = .ok (.invokestatic 54, 3) := by decide +kernel
theorem dX3_worth_169 : decode cX3_worth 169 = .ok (.iastore, 1) := by decide +kernel
theorem dX3_worth_170 : decode cX3_worth 170 = .ok (.iinc 5 1, 3) := by decide +kernel
theorem dX3_worth_173 : decode cX3_worth 173 = .ok (.goto (-167), 3) := by decide +kernel
theorem dX3_worth_176 : decode cX3_worth 176 = .ok (.aload_n 0, 1) := by decide +kernel
theorem dX3_worth_177 : decode cX3_worth 177 = .ok (.getfield 21, 3) := by decide +kernel
theorem dX3_worth_180 : decode cX3_worth 180 = .ok (.iconst 0, 1) := by decide +kernel
theorem dX3_worth_181 : decode cX3_worth 181 = .ok (.iaload, 1) := by decide +kernel
theorem dX3_worth_182 : decode cX3_worth 182 = .ok (.ireturn, 1) := by decide +kernel
theorem dX3_joined_0 : decode cX3_joined 0 = .ok (.iload_n 0, 1) := by decide +kernel
theorem dX3_joined_1 : decode cX3_joined 1 = .ok (.tableswitch 164 5 25 #[160, 156, 164, 164, 164, 164, 164, 164, 164, 164, 164, 164, 99, 103, 107, 111, 164, 164, 123, 134, 145], 99) := by decide +kernel
theorem dX3_joined_100 : decode cX3_joined 100 = .ok (.iload_n 1, 1) := by decide +kernel
theorem dX3_joined_101 : decode cX3_joined 101 = .ok (.iload_n 2, 1) := by decide +kernel
theorem dX3_joined_102 : decode cX3_joined 102 = .ok (.iadd, 1) := by decide +kernel
theorem dX3_joined_103 : decode cX3_joined 103 = .ok (.ireturn, 1) := by decide +kernel
theorem dX3_joined_104 : decode cX3_joined 104 = .ok (.iload_n 1, 1) := by decide +kernel
theorem dX3_joined_105 : decode cX3_joined 105 = .ok (.iload_n 2, 1) := by decide +kernel
theorem dX3_joined_106 : decode cX3_joined 106 = .ok (.isub, 1) := by decide +kernel
theorem dX3_joined_107 : decode cX3_joined 107 = .ok (.ireturn, 1) := by decide +kernel
theorem dX3_joined_108 : decode cX3_joined 108 = .ok (.iload_n 1, 1) := by decide +kernel
theorem dX3_joined_109 : decode cX3_joined 109 = .ok (.iload_n 2, 1) := by decide +kernel
theorem dX3_joined_110 : decode cX3_joined 110 = .ok (.imul, 1) := by decide +kernel
theorem dX3_joined_111 : decode cX3_joined 111 = .ok (.ireturn, 1) := by decide +kernel
theorem dX3_joined_112 : decode cX3_joined 112 = .ok (.iload_n 2, 1) := by decide +kernel
theorem dX3_joined_113 : decode cX3_joined 113 = .ok (.ifCond .ne 7, 3) := by decide +kernel
theorem dX3_joined_116 : decode cX3_joined 116 = .ok (.iconst 0, 1) := by decide +kernel
theorem dX3_joined_117 : decode cX3_joined 117 = .ok (.goto 6, 3) := by decide +kernel
theorem dX3_joined_120 : decode cX3_joined 120 = .ok (.iload_n 1, 1) := by decide +kernel
theorem dX3_joined_121 : decode cX3_joined 121 = .ok (.iload_n 2, 1) := by decide +kernel
theorem dX3_joined_122 : decode cX3_joined 122 = .ok (.idiv, 1) := by decide +kernel
theorem dX3_joined_123 : decode cX3_joined 123 = .ok (.ireturn, 1) := by decide +kernel
theorem dX3_joined_124 : decode cX3_joined 124 = .ok (.iload_n 1, 1) := by decide +kernel
theorem dX3_joined_125 : decode cX3_joined 125 = .ok (.iload_n 2, 1) := by decide +kernel
theorem dX3_joined_126 : decode cX3_joined 126 = .ok (.if_icmp .ge 7, 3) := by decide +kernel
theorem dX3_joined_129 : decode cX3_joined 129 = .ok (.iconst 1, 1) := by decide +kernel
theorem dX3_joined_130 : decode cX3_joined 130 = .ok (.goto 4, 3) := by decide +kernel
theorem dX3_joined_133 : decode cX3_joined 133 = .ok (.iconst 0, 1) := by decide +kernel
theorem dX3_joined_134 : decode cX3_joined 134 = .ok (.ireturn, 1) := by decide +kernel
theorem dX3_joined_135 : decode cX3_joined 135 = .ok (.iload_n 1, 1) := by decide +kernel
theorem dX3_joined_136 : decode cX3_joined 136 = .ok (.iload_n 2, 1) := by decide +kernel
theorem dX3_joined_137 : decode cX3_joined 137 = .ok (.if_icmp .ne 7, 3) := by decide +kernel
theorem dX3_joined_140 : decode cX3_joined 140 = .ok (.iconst 1, 1) := by decide +kernel
theorem dX3_joined_141 : decode cX3_joined 141 = .ok (.goto 4, 3) := by decide +kernel
theorem dX3_joined_144 : decode cX3_joined 144 = .ok (.iconst 0, 1) := by decide +kernel
theorem dX3_joined_145 : decode cX3_joined 145 = .ok (.ireturn, 1) := by decide +kernel
theorem dX3_joined_146 : decode cX3_joined 146 = .ok (.iload_n 1, 1) := by decide +kernel
theorem dX3_joined_147 : decode cX3_joined 147 = .ok (.iload_n 2, 1) := by decide +kernel
theorem dX3_joined_148 : decode cX3_joined 148 = .ok (.if_icmp .le 7, 3) := by decide +kernel
theorem dX3_joined_151 : decode cX3_joined 151 = .ok (.iconst 1, 1) := by decide +kernel
theorem dX3_joined_152 : decode cX3_joined 152 = .ok (.goto 4, 3) := by decide +kernel
theorem dX3_joined_155 : decode cX3_joined 155 = .ok (.iconst 0, 1) := by decide +kernel
theorem dX3_joined_156 : decode cX3_joined 156 = .ok (.ireturn, 1) := by decide +kernel
theorem dX3_joined_157 : decode cX3_joined 157 = .ok (.iload_n 1, 1) := by decide +kernel
theorem dX3_joined_158 : decode cX3_joined 158 = .ok (.iload_n 2, 1) := by decide +kernel
theorem dX3_joined_159 : decode cX3_joined 159 = .ok (.iand, 1) := by decide +kernel
theorem dX3_joined_160 : decode cX3_joined 160 = .ok (.ireturn, 1) := by decide +kernel
theorem dX3_joined_161 : decode cX3_joined 161 = .ok (.iload_n 1, 1) := by decide +kernel
theorem dX3_joined_162 : decode cX3_joined 162 = .ok (.iload_n 2, 1) := by decide +kernel
theorem dX3_joined_163 : decode cX3_joined 163 = .ok (.ior, 1) := by decide +kernel
theorem dX3_joined_164 : decode cX3_joined 164 = .ok (.ireturn, 1) := by decide +kernel
theorem dX3_joined_165 : decode cX3_joined 165 = .ok (.iconst 0, 1) := by decide +kernel
theorem dX3_joined_166 : decode cX3_joined 166 = .ok (.ireturn, 1) := by decide +kernel
theorem dX4_init_0 : decode cX4_init 0 = .ok (.aload_n 0, 1) := by decide +kernel
theorem dX4_init_1 : decode cX4_init 1 = .ok (.invokespecial 3, 3) := by decide +kernel
theorem dX4_init_4 : decode cX4_init 4 = .ok (.aload_n 0, 1) := by decide +kernel
theorem dX4_init_5 : decode cX4_init 5 = .ok (.iconst (-1), 1) := by decide +kernel
theorem dX4_init_6 : decode cX4_init 6 = .ok (.putfield 9, 3) := by decide +kernel
theorem dX4_init_9 : decode cX4_init 9 = .ok (.aload_n 0, 1) := by decide +kernel
theorem dX4_init_10 : decode cX4_init 10 = .ok (.bipush 40, 2) := by decide +kernel
theorem dX4_init_12 : decode cX4_init 12 = .ok (.newarray .int, 2) := by decide +kernel
theorem dX4_init_14 : decode cX4_init 14 = .ok (.putfield 15, 3) := by decide +kernel
theorem dX4_init_17 : decode cX4_init 17 = .ok (.aload_n 0, 1) := by decide +kernel
theorem dX4_init_18 : decode cX4_init 18 = .ok (.new 19, 3) := by decide +kernel
theorem dX4_init_21 : decode cX4_init 21 = .ok (.dup, 1) := by decide +kernel
theorem dX4_init_22 : decode cX4_init 22 = .ok (.invokespecial 21, 3) := by decide +kernel
theorem dX4_init_25 : decode cX4_init 25 = .ok (.putfield 22, 3) := by decide +kernel
theorem dX4_init_28 : decode cX4_init 28 = .ok (.return_, 1) := by decide +kernel
theorem dX4_read_0 : decode cX4_read 0 = .ok (.aload_n 0, 1) := by decide +kernel
theorem dX4_read_1 : decode cX4_read 1 = .ok (.getfield 22, 3) := by decide +kernel
theorem dX4_read_4 : decode cX4_read 4 = .ok (.invokevirtual 26, 3) := by decide +kernel
theorem dX4_read_7 : decode cX4_read 7 = .ok (.aload_n 1, 1) := by decide +kernel
theorem dX4_read_8 : decode cX4_read 8 = .ok (.invokevirtual 29, 3) := by decide +kernel
theorem dX4_read_11 : decode cX4_read 11 = .ok (.aload_n 0, 1) := by decide +kernel
theorem dX4_read_12 : decode cX4_read 12 = .ok (.iconst 0, 1) := by decide +kernel
theorem dX4_read_13 : decode cX4_read 13 = .ok (.putfield 34, 3) := by decide +kernel
theorem dX4_read_16 : decode cX4_read 16 = .ok (.aload_n 0, 1) := by decide +kernel
theorem dX4_read_17 : decode cX4_read 17 = .ok (.iconst 0, 1) := by decide +kernel
theorem dX4_read_18 : decode cX4_read 18 = .ok (.putfield 37, 3) := by decide +kernel
theorem dX4_read_21 : decode cX4_read 21 = .ok (.aload_n 0, 1) := by decide +kernel
theorem dX4_read_22 : decode cX4_read 22 = .ok (.iconst 0, 1) := by decide +kernel
theorem dX4_read_23 : decode cX4_read 23 = .ok (.putfield 40, 3) := by decide +kernel
theorem dX4_read_26 : decode cX4_read 26 = .ok (.aload_n 0, 1) := by decide +kernel
theorem dX4_read_27 : decode cX4_read 27 = .ok (.iconst 0, 1) := by decide +kernel
theorem dX4_read_28 : decode cX4_read 28 = .ok (.putfield 43, 3) := by decide +kernel
theorem dX4_read_31 : decode cX4_read 31 = .ok (.iconst 0, 1) := by decide +kernel
theorem dX4_read_32 : decode cX4_read 32 = .ok (.istore_n 2, 1) := by decide +kernel
theorem dX4_read_33 : decode cX4_read 33 = .ok (.iload_n 2, 1) := by decide +kernel
theorem dX4_read_34 : decode cX4_read 34 = .ok (.sipush 400, 3) := by decide +kernel
theorem dX4_read_37 : decode cX4_read 37 = .ok (.if_icmp .gt 43, 3) := by decide +kernel
theorem dX4_read_40 : decode cX4_read 40 = .ok (.aload_n 0, 1) := by decide +kernel
theorem dX4_read_41 : decode cX4_read 41 = .ok (.getfield 43, 3) := by decide +kernel
theorem dX4_read_44 : decode cX4_read 44 = .ok (.ifCond .ne 36, 3) := by decide +kernel
theorem dX4_read_47 : decode cX4_read 47 = .ok (.aload_n 0, 1) := by decide +kernel
theorem dX4_read_48 : decode cX4_read 48 = .ok (.getfield 34, 3) := by decide +kernel
theorem dX4_read_51 : decode cX4_read 51 = .ok (.ifCond .ne 29, 3) := by decide +kernel
theorem dX4_read_54 : decode cX4_read 54 = .ok (.aload_n 1, 1) := by decide +kernel
theorem dX4_read_55 : decode cX4_read 55 = .ok (.invokevirtual 47, 3) := by decide +kernel
theorem dX4_read_58 : decode cX4_read 58 = .ok (.aload_n 0, 1) := by decide +kernel
theorem dX4_read_59 : decode cX4_read 59 = .ok (.aload_n 1, 1) := by decide +kernel
theorem dX4_read_60 : decode cX4_read 60 = .ok (.getfield 50, 3) := by decide +kernel
theorem dX4_read_63 : decode cX4_read 63 = .ok (.putfield 53, 3) := by decide +kernel
theorem dX4_read_66 : decode cX4_read 66 = .ok (.aload_n 0, 1) := by decide +kernel
theorem dX4_read_67 : decode cX4_read 67 = .ok (.aload_n 1, 1) := by decide +kernel
theorem dX4_read_68 : decode cX4_read 68 = .ok (.getfield 54, 3) := by decide +kernel
theorem dX4_read_71 : decode cX4_read 71 = .ok (.invokevirtual 57, 3) := by decide +kernel
theorem dX4_read_74 : decode cX4_read 74 = .ok (.iinc 2 1, 3) := by decide +kernel
theorem dX4_read_77 : decode cX4_read 77 = .ok (.goto (-44), 3) := by decide +kernel
theorem dX4_read_80 : decode cX4_read 80 = .ok (.aload_n 0, 1) := by decide +kernel
theorem dX4_read_81 : decode cX4_read 81 = .ok (.aload_n 0, 1) := by decide +kernel
theorem dX4_read_82 : decode cX4_read 82 = .ok (.getfield 34, 3) := by decide +kernel
theorem dX4_read_85 : decode cX4_read 85 = .ok (.ifCond .ne 7, 3) := by decide +kernel
theorem dX4_read_88 : decode cX4_read 88 = .ok (.iconst (-1), 1) := by decide +kernel
theorem dX4_read_89 : decode cX4_read 89 = .ok (.goto 7, 3) := by decide +kernel
theorem dX4_read_92 : decode cX4_read 92 = .ok (.aload_n 1, 1) := by decide +kernel
theorem dX4_read_93 : decode cX4_read 93 = .ok (.getfield 61, 3) := by decide +kernel
theorem dX4_read_96 : decode cX4_read 96 = .ok (.putfield 9, 3) := by decide +kernel
theorem dX4_read_99 : decode cX4_read 99 = .ok (.return_, 1) := by decide +kernel
theorem dX4_take_0 : decode cX4_take 0 = .ok (.aload_n 0, 1) := by decide +kernel
