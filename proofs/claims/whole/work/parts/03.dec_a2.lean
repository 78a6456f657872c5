theorem dX8_pay_145 : decode cX8_pay 145 = .ok (.getfield 147, 3) := by decide +kernel
theorem dX8_pay_148 : decode cX8_pay 148 = .ok (.iload 5, 2) := by decide +kernel
theorem dX8_pay_150 : decode cX8_pay 150 = .ok (.isub, 1) := by decide +kernel
theorem dX8_pay_151 : decode cX8_pay 151 = .ok (.putfield 147, 3) := by decide +kernel
theorem dX8_pay_154 : decode cX8_pay 154 = .ok (.aload 4, 2) := by decide +kernel
theorem dX8_pay_156 : decode cX8_pay 156 = .ok (.dup, 1) := by decide +kernel
theorem dX8_pay_157 : decode cX8_pay 157 = .ok (.getfield 147, 3) := by decide +kernel
theorem dX8_pay_160 : decode cX8_pay 160 = .ok (.iload 5, 2) := by decide +kernel
theorem dX8_pay_162 : decode cX8_pay 162 = .ok (.iadd, 1) := by decide +kernel
theorem dX8_pay_163 : decode cX8_pay 163 = .ok (.putfield 147, 3) := by decide +kernel
theorem dX8_pay_166 : decode cX8_pay 166 = .ok (.return_, 1) := by decide +kernel
theorem dX9_init_0 : decode cX9_init 0 = .ok (.aload_n 0, 1) := by decide +kernel
theorem dX9_init_1 : decode cX9_init 1 = .ok (.invokespecial 3, 3) := by decide +kernel
theorem dX9_init_4 : decode cX9_init 4 = .ok (.aload_n 0, 1) := by decide +kernel
theorem dX9_init_5 : decode cX9_init 5 = .ok (.sipush 400, 3) := by decide +kernel
theorem dX9_init_8 : decode cX9_init 8 = .ok (.newarray .byte, 2) := by decide +kernel
theorem dX9_init_10 : decode cX9_init 10 = .ok (.putfield 9, 3) := by decide +kernel
theorem dX9_init_13 : decode cX9_init 13 = .ok (.return_, 1) := by decide +kernel
theorem dX9_hasRoom_0 : decode cX9_hasRoom 0 = .ok (.aload_n 0, 1) := by decide +kernel
theorem dX9_hasRoom_1 : decode cX9_hasRoom 1 = .ok (.getfield 15, 3) := by decide +kernel
theorem dX9_hasRoom_4 : decode cX9_hasRoom 4 = .ok (.iload_n 1, 1) := by decide +kernel
theorem dX9_hasRoom_5 : decode cX9_hasRoom 5 = .ok (.iadd, 1) := by decide +kernel
theorem dX9_hasRoom_6 : decode cX9_hasRoom 6 = .ok (.sipush 400, 3) := by decide +kernel
theorem dX9_hasRoom_9 : decode cX9_hasRoom 9 = .ok (.if_icmp .gt 7, 3) := by decide +kernel
theorem dX9_hasRoom_12 : decode cX9_hasRoom 12 = .ok (.iconst 1, 1) := by decide +kernel
theorem dX9_hasRoom_13 : decode cX9_hasRoom 13 = .ok (.goto 4, 3) := by decide +kernel
theorem dX9_hasRoom_16 : decode cX9_hasRoom 16 = .ok (.iconst 0, 1) := by decide +kernel
theorem dX9_hasRoom_17 : decode cX9_hasRoom 17 = .ok (.ireturn, 1) := by decide +kernel
theorem dX9_add_0 : decode cX9_add 0 = .ok (.bipush 24, 2) := by decide +kernel
theorem dX9_add_2 : decode cX9_add 2 = .ok (.istore_n 2, 1) := by decide +kernel
theorem dX9_add_3 : decode cX9_add 3 = .ok (.iload_n 2, 1) := by decide +kernel
theorem dX9_add_4 : decode cX9_add 4 = .ok (.ifCond .lt 42, 3) := by decide +kernel
theorem dX9_add_7 : decode cX9_add 7 = .ok (.aload_n 0, 1) := by decide +kernel
theorem dX9_add_8 : decode cX9_add 8 = .ok (.getfield 15, 3) := by decide +kernel
theorem dX9_add_11 : decode cX9_add 11 = .ok (.sipush 400, 3) := by decide +kernel
theorem dX9_add_14 : decode cX9_add 14 = .ok (.if_icmp .ge 32, 3) := by decide +kernel
theorem dX9_add_17 : decode cX9_add 17 = .ok (.aload_n 0, 1) := by decide +kernel
theorem dX9_add_18 : decode cX9_add 18 = .ok (.getfield 9, 3) := by decide +kernel
theorem dX9_add_21 : decode cX9_add 21 = .ok (.aload_n 0, 1) := by decide +kernel
theorem dX9_add_22 : decode cX9_add 22 = .ok (.getfield 15, 3) := by decide +kernel
theorem dX9_add_25 : decode cX9_add 25 = .ok (.iload_n 1, 1) := by decide +kernel
theorem dX9_add_26 : decode cX9_add 26 = .ok (.iload_n 2, 1) := by decide +kernel
theorem dX9_add_27 : decode cX9_add 27 = .ok (.ishr, 1) := by decide +kernel
theorem dX9_add_28 : decode cX9_add 28 = .ok (.i2b, 1) := by decide +kernel
theorem dX9_add_29 : decode cX9_add 29 = .ok (.bastore, 1) := by decide +kernel
theorem dX9_add_30 : decode cX9_add 30 = .ok (.aload_n 0, 1) := by decide +kernel
theorem dX9_add_31 : decode cX9_add 31 = .ok (.dup, 1) := by decide +kernel
theorem dX9_add_32 : decode cX9_add 32 = .ok (.getfield 15, 3) := by decide +kernel
theorem dX9_add_35 : decode cX9_add 35 = .ok (.iconst 1, 1) := by decide +kernel
theorem dX9_add_36 : decode cX9_add 36 = .ok (.iadd, 1) := by decide +kernel
theorem dX9_add_37 : decode cX9_add 37 = .ok (.putfield 15, 3) := by decide +kernel
theorem dX9_add_40 : decode cX9_add 40 = .ok (.iinc 2 (-8), 3) := by decide +kernel
theorem dX9_add_43 : decode cX9_add 43 = .ok (.goto (-40), 3) := by decide +kernel
theorem dX9_add_46 : decode cX9_add 46 = .ok (.return_, 1) := by decide +kernel
theorem dX9_rewind_0 : decode cX9_rewind 0 = .ok (.aload_n 0, 1) := by decide +kernel
theorem dX9_rewind_1 : decode cX9_rewind 1 = .ok (.iconst 0, 1) := by decide +kernel
theorem dX9_rewind_2 : decode cX9_rewind 2 = .ok (.putfield 19, 3) := by decide +kernel
theorem dX9_rewind_5 : decode cX9_rewind 5 = .ok (.return_, 1) := by decide +kernel
theorem dX9_scan_0 : decode cX9_scan 0 = .ok (.aload_n 0, 1) := by decide +kernel
theorem dX9_scan_1 : decode cX9_scan 1 = .ok (.getfield 19, 3) := by decide +kernel
theorem dX9_scan_4 : decode cX9_scan 4 = .ok (.aload_n 0, 1) := by decide +kernel
theorem dX9_scan_5 : decode cX9_scan 5 = .ok (.getfield 15, 3) := by decide +kernel
theorem dX9_scan_8 : decode cX9_scan 8 = .ok (.if_icmp .ge 44, 3) := by decide +kernel
theorem dX9_scan_11 : decode cX9_scan 11 = .ok (.aload_n 0, 1) := by decide +kernel
theorem dX9_scan_12 : decode cX9_scan 12 = .ok (.getfield 9, 3) := by decide +kernel
theorem dX9_scan_15 : decode cX9_scan 15 = .ok (.aload_n 0, 1) := by decide +kernel
theorem dX9_scan_16 : decode cX9_scan 16 = .ok (.getfield 19, 3) := by decide +kernel
theorem dX9_scan_19 : decode cX9_scan 19 = .ok (.baload, 1) := by decide +kernel
theorem dX9_scan_20 : decode cX9_scan 20 = .ok (.bipush 32, 2) := by decide +kernel
theorem dX9_scan_22 : decode cX9_scan 22 = .ok (.if_icmp .eq 17, 3) := by decide +kernel
theorem dX9_scan_25 : decode cX9_scan 25 = .ok (.aload_n 0, 1) := by decide +kernel
theorem dX9_scan_26 : decode cX9_scan 26 = .ok (.getfield 9, 3) := by decide +kernel
theorem dX9_scan_29 : decode cX9_scan 29 = .ok (.aload_n 0, 1) := by decide +kernel
theorem dX9_scan_30 : decode cX9_scan 30 = .ok (.getfield 19, 3) := by decide +kernel
theorem dX9_scan_33 : decode cX9_scan 33 = .ok (.baload, 1) := by decide +kernel
theorem dX9_scan_34 : decode cX9_scan 34 = .ok (.bipush 10, 2) := by decide +kernel
theorem dX9_scan_36 : decode cX9_scan 36 = .ok (.if_icmp .ne 16, 3) := by decide +kernel
theorem dX9_scan_39 : decode cX9_scan 39 = .ok (.aload_n 0, 1) := by decide +kernel
theorem dX9_scan_40 : decode cX9_scan 40 = .ok (.dup, 1) := by decide +kernel
theorem dX9_scan_41 : decode cX9_scan 41 = .ok (.getfield 19, 3) := by decide +kernel
theorem dX9_scan_44 : decode cX9_scan 44 = .ok (.iconst 1, 1) := by decide +kernel
theorem dX9_scan_45 : decode cX9_scan 45 = .ok (.iadd, 1) := by decide +kernel
theorem dX9_scan_46 : decode cX9_scan 46 = .ok (.putfield 19, 3) := by decide +kernel
theorem dX9_scan_49 : decode cX9_scan 49 = .ok (.goto (-49), 3) := by decide +kernel
theorem dX9_scan_52 : decode cX9_scan 52 = .ok (.aload_n 0, 1) := by decide +kernel
theorem dX9_scan_53 : decode cX9_scan 53 = .ok (.aload_n 0, 1) := by decide +kernel
theorem dX9_scan_54 : decode cX9_scan 54 = .ok (.getfield 19, 3) := by decide +kernel
theorem dX9_scan_57 : decode cX9_scan 57 = .ok (.putfield 22, 3) := by decide +kernel
theorem dX9_scan_60 : decode cX9_scan 60 = .ok (.aload_n 0, 1) := by decide +kernel
theorem dX9_scan_61 : decode cX9_scan 61 = .ok (.getfield 19, 3) := by decide +kernel
theorem dX9_scan_64 : decode cX9_scan 64 = .ok (.aload_n 0, 1) := by decide +kernel
theorem dX9_scan_65 : decode cX9_scan 65 = .ok (.getfield 15, 3) := by decide +kernel
theorem dX9_scan_68 : decode cX9_scan 68 = .ok (.if_icmp .lt 11, 3) := by decide +kernel
theorem dX9_scan_71 : decode cX9_scan 71 = .ok (.aload_n 0, 1) := by decide +kernel
theorem dX9_scan_72 : decode cX9_scan 72 = .ok (.iconst 0, 1) := by decide +kernel
theorem dX9_scan_73 : decode cX9_scan 73 = .ok (.putfield 25, 3) := by decide +kernel
theorem dX9_scan_76 : decode cX9_scan 76 = .ok (.goto 105, 3) := by decide +kernel
theorem dX9_scan_79 : decode cX9_scan 79 = .ok (.aload_n 0, 1) := by decide +kernel
theorem dX9_scan_80 : decode cX9_scan 80 = .ok (.getfield 9, 3) := by decide +kernel
theorem dX9_scan_83 : decode cX9_scan 83 = .ok (.aload_n 0, 1) := by decide +kernel
theorem dX9_scan_84 : decode cX9_scan 84 = .ok (.getfield 19, 3) := by decide +kernel
theorem dX9_scan_87 : decode cX9_scan 87 = .ok (.baload, 1) := by decide +kernel
theorem dX9_scan_88 : decode cX9_scan 88 = .ok (.invokestatic 28, 3) := by decide +kernel
theorem dX9_scan_91 : decode cX9_scan 91 = .ok (.ifCond .eq 10, 3) := by decide +kernel
theorem dX9_scan_94 : decode cX9_scan 94 = .ok (.aload_n 0, 1) := by decide +kernel
theorem dX9_scan_95 : decode cX9_scan 95 = .ok (.invokevirtual 32, 3) := by decide +kernel
theorem dX9_scan_98 : decode cX9_scan 98 = .ok (.goto 83, 3) := by decide +kernel
theorem dX9_scan_101 : decode cX9_scan 101 = .ok (.aload_n 0, 1) := by decide +kernel
theorem dX9_scan_102 : decode cX9_scan 102 = .ok (.getfield 9, 3) := by decide +kernel
theorem dX9_scan_105 : decode cX9_scan 105 = .ok (.aload_n 0, 1) := by decide +kernel
theorem dX9_scan_106 : decode cX9_scan 106 = .ok (.getfield 19, 3) := by decide +kernel
theorem dX9_scan_109 : decode cX9_scan 109 = .ok (.baload, 1) := by decide +kernel
theorem dX9_scan_110 : decode cX9_scan 110 = .ok (.invokestatic 35, 3) := by decide +kernel
theorem dX9_scan_113 : decode cX9_scan 113 = .ok (.ifCond .eq 10, 3) := by decide +kernel
theorem dX9_scan_116 : decode cX9_scan 116 = .ok (.aload_n 0, 1) := by decide +kernel
theorem dX9_scan_117 : decode cX9_scan 117 = .ok (.invokevirtual 38, 3) := by decide +kernel
theorem dX9_scan_120 : decode cX9_scan 120 = .ok (.goto 61, 3) := by decide +kernel
theorem dX9_scan_123 : decode cX9_scan 123 = .ok (.aload_n 0, 1) := by decide +kernel
theorem dX9_scan_124 : decode cX9_scan 124 = .ok (.getfield 9, 3) := by decide +kernel
theorem dX9_scan_127 : decode cX9_scan 127 = .ok (.aload_n 0, 1) := by decide +kernel
theorem dX9_scan_128 : decode cX9_scan 128 = .ok (.getfield 19, 3) := by decide +kernel
theorem dX9_scan_131 : decode cX9_scan 131 = .ok (.baload, 1) := by decide +kernel
theorem dX9_scan_132 : decode cX9_scan 132 = .ok (.ifCond .le 21, 3) := by decide +kernel
theorem dX9_scan_135 : decode cX9_scan 135 = .ok (.ldc 41, 2) := by decide +kernel
theorem dX9_scan_137 : decode cX9_scan 137 = .ok (.aload_n 0, 1) := by decide +kernel
theorem dX9_scan_138 : decode cX9_scan 138 = .ok (.getfield 9, 3) := by decide +kernel
theorem dX9_scan_141 : decode cX9_scan 141 = .ok (.aload_n 0, 1) := by decide +kernel
theorem dX9_scan_142 : decode cX9_scan 142 = .ok (.getfield 19, 3) := by decide +kernel
theorem dX9_scan_145 : decode cX9_scan 145 = .ok (.baload, 1) := by decide +kernel
theorem dX9_scan_146 : decode cX9_scan 146 = .ok (.i2c, 1) := by decide +kernel
theorem dX9_scan_147 : decode cX9_scan 147 = .ok (.invokevirtual 43, 3) := by decide +kernel
theorem dX9_scan_150 : decode cX9_scan 150 = .ok (.goto 4, 3) := by decide +kernel
theorem dX9_scan_153 : decode cX9_scan 153 = .ok (.iconst (-1), 1) := by decide +kernel
theorem dX9_scan_154 : decode cX9_scan 154 = .ok (.istore_n 1, 1) := by decide +kernel
theorem dX9_scan_155 : decode cX9_scan 155 = .ok (.aload_n 0, 1) := by decide +kernel
theorem dX9_scan_156 : decode cX9_scan 156 = .ok (.iload_n 1, 1) := by decide +kernel
theorem dX9_scan_157 : decode cX9_scan 157 = .ok (.ifCond .ge 7, 3) := by decide +kernel
theorem dX9_scan_160 : decode cX9_scan 160 = .ok (.iconst 1, 1) := by decide +kernel
theorem dX9_scan_161 : decode cX9_scan 161 = .ok (.goto 7, 3) := by decide +kernel
theorem dX9_scan_164 : decode cX9_scan 164 = .ok (.bipush 16, 2) := by decide +kernel
theorem dX9_scan_166 : decode cX9_scan 166 = .ok (.iload_n 1, 1) := by decide +kernel
theorem dX9_scan_167 : decode cX9_scan 167 = .ok (.iadd, 1) := by decide +kernel
theorem dX9_scan_168 : decode cX9_scan 168 = .ok (.putfield 25, 3) := by decide +kernel
theorem dX9_scan_171 : decode cX9_scan 171 = .ok (.aload_n 0, 1) := by decide +kernel
theorem dX9_scan_172 : decode cX9_scan 172 = .ok (.dup, 1) := by decide +kernel
theorem dX9_scan_173 : decode cX9_scan 173 = .ok (.getfield 19, 3) := by decide +kernel
theorem dX9_scan_176 : decode cX9_scan 176 = .ok (.iconst 1, 1) := by decide +kernel
theorem dX9_scan_177 : decode cX9_scan 177 = .ok (.iadd, 1) := by decide +kernel
theorem dX9_scan_178 : decode cX9_scan 178 = .ok (.putfield 19, 3) := by decide +kernel
theorem dX9_scan_181 : decode cX9_scan 181 = .ok (.return_, 1) := by decide +kernel
theorem dX9_scanWord_0 : decode cX9_scanWord 0 = .ok (.aload_n 0, 1) := by decide +kernel
theorem dX9_scanWord_1 : decode cX9_scanWord 1 = .ok (.getfield 19, 3) := by decide +kernel
theorem dX9_scanWord_4 : decode cX9_scanWord 4 = .ok (.aload_n 0, 1) := by decide +kernel
theorem dX9_scanWord_5 : decode cX9_scanWord 5 = .ok (.getfield 15, 3) := by decide +kernel
theorem dX9_scanWord_8 : decode cX9_scanWord 8 = .ok (.if_icmp .ge 31, 3) := by decide +kernel
theorem dX9_scanWord_11 : decode cX9_scanWord 11 = .ok (.aload_n 0, 1) := by decide +kernel
theorem dX9_scanWord_12 : decode cX9_scanWord 12 = .ok (.getfield 9, 3) := by decide +kernel
theorem dX9_scanWord_15 : decode cX9_scanWord 15 = .ok (.aload_n 0, 1) := by decide +kernel
theorem dX9_scanWord_16 : decode cX9_scanWord 16 = .ok (.getfield 19, 3) := by decide +kernel
theorem dX9_scanWord_19 : decode cX9_scanWord 19 = .ok (.baload, 1) := by decide +kernel
theorem dX9_scanWord_20 : decode cX9_scanWord 20 = .ok (.invokestatic 28, 3) := by decide +kernel
theorem dX9_scanWord_23 : decode cX9_scanWord 23 = .ok (.ifCond .eq 16, 3) := by decide +kernel
theorem dX9_scanWord_26 : decode cX9_scanWord 26 = .ok (.aload_n 0, 1) := by decide +kernel
theorem dX9_scanWord_27 : decode cX9_scanWord 27 = .ok (.dup, 1) := by decide +kernel
theorem dX9_scanWord_28 : decode cX9_scanWord 28 = .ok (.getfield 19, 3) := by decide +kernel
theorem dX9_scanWord_31 : decode cX9_scanWord 31 = .ok (.iconst 1, 1) := by decide +kernel
theorem dX9_scanWord_32 : decode cX9_scanWord 32 = .ok (.iadd, 1) := by decide +kernel
theorem dX9_scanWord_33 : decode cX9_scanWord 33 = .ok (.putfield 19, 3) := by decide +kernel
theorem dX9_scanWord_36 : decode cX9_scanWord 36 = .ok (.goto (-36), 3) := by decide +kernel
theorem dX9_scanWord_39 : decode cX9_scanWord 39 = .ok (.aload_n 0, 1) := by decide +kernel
theorem dX9_scanWord_40 : decode cX9_scanWord 40 = .ok (.iconst 1, 1) := by decide +kernel
theorem dX9_scanWord_41 : decode cX9_scanWord 41 = .ok (.putfield 25, 3) := by decide +kernel
theorem dX9_scanWord_44 : decode cX9_scanWord 44 = .ok (.iconst 0, 1) := by decide +kernel
theorem dX9_scanWord_45 : decode cX9_scanWord 45 = .ok (.istore_n 1, 1) := by decide +kernel
theorem dX9_scanWord_46 : decode cX9_scanWord 46 = .ok (.iload_n 1, 1) := by decide +kernel
theorem dX9_scanWord_47 : decode cX9_scanWord 47 = .ok (.ldc 49, 2) := by decide +kernel
theorem dX9_scanWord_49 : decode cX9_scanWord 49 = .ok (.invokevirtual 51, 3) := by decide +kernel
theorem dX9_scanWord_52 : decode cX9_scanWord 52 = .ok (.if_icmp .ge 26, 3) := by decide +kernel
theorem dX9_scanWord_55 : decode cX9_scanWord 55 = .ok (.aload_n 0, 1) := by decide +kernel
theorem dX9_scanWord_56 : decode cX9_scanWord 56 = .ok (.iload_n 1, 1) := by decide +kernel
theorem dX9_scanWord_57 : decode cX9_scanWord 57 = .ok (.invokevirtual 54, 3) := by decide +kernel
theorem dX9_scanWord_60 : decode cX9_scanWord 60 = .ok (.ifCond .eq 12, 3) := by decide +kernel
theorem dX9_scanWord_63 : decode cX9_scanWord 63 = .ok (.aload_n 0, 1) := by decide +kernel
theorem dX9_scanWord_64 : decode cX9_scanWord 64 = .ok (.iconst 3, 1) := by decide +kernel
theorem dX9_scanWord_65 : decode cX9_scanWord 65 = .ok (.iload_n 1, 1) := by decide +kernel
theorem dX9_scanWord_66 : decode cX9_scanWord 66 = .ok (.iconst 5, 1) := by decide +kernel
theorem dX9_scanWord_67 : decode cX9_scanWord 67 = .ok (.idiv, 1) := by decide +kernel
theorem dX9_scanWord_68 : decode cX9_scanWord 68 = .ok (.iadd, 1) := by decide +kernel
theorem dX9_scanWord_69 : decode cX9_scanWord 69 = .ok (.putfield 25, 3) := by decide +kernel
theorem dX9_scanWord_72 : decode cX9_scanWord 72 = .ok (.iinc 1 5, 3) := by decide +kernel
theorem dX9_scanWord_75 : decode cX9_scanWord 75 = .ok (.goto (-29), 3) := by decide +kernel
theorem dX9_scanWord_78 : decode cX9_scanWord 78 = .ok (.return_, 1) := by decide +kernel
theorem dX9_isWord_0 : decode cX9_isWord 0 = .ok (.aload_n 0, 1) := by decide +kernel
theorem dX9_isWord_1 : decode cX9_isWord 1 = .ok (.getfield 19, 3) := by decide +kernel
theorem dX9_isWord_4 : decode cX9_isWord 4 = .ok (.aload_n 0, 1) := by decide +kernel
theorem dX9_isWord_5 : decode cX9_isWord 5 = .ok (.getfield 22, 3) := by decide +kernel
theorem dX9_isWord_8 : decode cX9_isWord 8 = .ok (.isub, 1) := by decide +kernel
theorem dX9_isWord_9 : decode cX9_isWord 9 = .ok (.istore_n 2, 1) := by decide +kernel
theorem dX9_isWord_10 : decode cX9_isWord 10 = .ok (.iload_n 2, 1) := by decide +kernel
theorem dX9_isWord_11 : decode cX9_isWord 11 = .ok (.iconst 5, 1) := by decide +kernel
theorem dX9_isWord_12 : decode cX9_isWord 12 = .ok (.if_icmp .le 5, 3) := by decide +kernel
theorem dX9_isWord_15 : decode cX9_isWord 15 = .ok (.iconst 0, 1) := by decide +kernel
theorem dX9_isWord_16 : decode cX9_isWord 16 = .ok (.ireturn, 1) := by decide +kernel
theorem dX9_isWord_17 : decode cX9_isWord 17 = .ok (.iconst 0, 1) := by decide +kernel
theorem dX9_isWord_18 : decode cX9_isWord 18 = .ok (.istore_n 3, 1) := by decide +kernel
theorem dX9_isWord_19 : decode cX9_isWord 19 = .ok (.iload_n 3, 1) := by decide +kernel
theorem dX9_isWord_20 : decode cX9_isWord 20 = .ok (.iconst 5, 1) := by decide +kernel
theorem dX9_isWord_21 : decode cX9_isWord 21 = .ok (.if_icmp .ge 47, 3) := by decide +kernel
theorem dX9_isWord_24 : decode cX9_isWord 24 = .ok (.iload_n 3, 1) := by decide +kernel
theorem dX9_isWord_25 : decode cX9_isWord 25 = .ok (.iload_n 2, 1) := by decide +kernel
theorem dX9_isWord_26 : decode cX9_isWord 26 = .ok (.if_icmp .ge 17, 3) := by decide +kernel
theorem dX9_isWord_29 : decode cX9_isWord 29 = .ok (.aload_n 0, 1) := by decide +kernel
theorem dX9_isWord_30 : decode cX9_isWord 30 = .ok (.getfield 9, 3) := by decide +kernel
theorem dX9_isWord_33 : decode cX9_isWord 33 = .ok (.aload_n 0, 1) := by decide +kernel
theorem dX9_isWord_34 : decode cX9_isWord 34 = .ok (.getfield 22, 3) := by decide +kernel
theorem dX9_isWord_37 : decode cX9_isWord 37 = .ok (.iload_n 3, 1) := by decide +kernel
theorem dX9_isWord_38 : decode cX9_isWord 38 = .ok (.iadd, 1) := by decide +kernel
theorem dX9_isWord_39 : decode cX9_isWord 39 = .ok (.baload, 1) := by decide +kernel
theorem dX9_isWord_40 : decode cX9_isWord 40 = .ok (.goto 5, 3) := by decide +kernel
theorem dX9_isWord_43 : decode cX9_isWord 43 = .ok (.bipush 32, 2) := by decide +kernel
theorem dX9_isWord_45 : decode cX9_isWord 45 = .ok (.istore 4, 2) := by decide +kernel
theorem dX9_isWord_47 : decode cX9_isWord 47 = .ok (.ldc 49, 2) := by decide +kernel
theorem dX9_isWord_49 : decode cX9_isWord 49 = .ok (.iload_n 1, 1) := by decide +kernel
theorem dX9_isWord_50 : decode cX9_isWord 50 = .ok (.iload_n 3, 1) := by decide +kernel
theorem dX9_isWord_51 : decode cX9_isWord 51 = .ok (.iadd, 1) := by decide +kernel
theorem dX9_isWord_52 : decode cX9_isWord 52 = .ok (.invokevirtual 57, 3) := by decide +kernel
theorem dX9_isWord_55 : decode cX9_isWord 55 = .ok (.iload 4, 2) := by decide +kernel
theorem dX9_isWord_57 : decode cX9_isWord 57 = .ok (.if_icmp .eq 5, 3) := by decide +kernel
theorem dX9_isWord_60 : decode cX9_isWord 60 = .ok (.iconst 0, 1) := by decide +kernel
theorem dX9_isWord_61 : decode cX9_isWord 61 = .ok (.ireturn, 1) := by decide +kernel
theorem dX9_isWord_62 : decode cX9_isWord 62 = .ok (.iinc 3 1, 3) := by decide +kernel
theorem dX9_isWord_65 : decode cX9_isWord 65 = .ok (.goto (-46), 3) := by decide +kernel
theorem dX9_isWord_68 : decode cX9_isWord 68 = .ok (.iconst 1, 1) := by decide +kernel
theorem dX9_isWord_69 : decode cX9_isWord 69 = .ok (.ireturn, 1) := by decide +kernel
theorem dX9_scanNumber_0 : decode cX9_scanNumber 0 = .ok (.aload_n 0, 1) := by decide +kernel
theorem dX9_scanNumber_1 : decode cX9_scanNumber 1 = .ok (.iconst 0, 1) := by decide +kernel
theorem dX9_scanNumber_2 : decode cX9_scanNumber 2 = .ok (.putfield 61, 3) := by decide +kernel
theorem dX9_scanNumber_5 : decode cX9_scanNumber 5 = .ok (.aload_n 0, 1) := by decide +kernel
theorem dX9_scanNumber_6 : decode cX9_scanNumber 6 = .ok (.getfield 19, 3) := by decide +kernel
theorem dX9_scanNumber_9 : decode cX9_scanNumber 9 = .ok (.aload_n 0, 1) := by decide +kernel
theorem dX9_scanNumber_10 : decode cX9_scanNumber 10 = .ok (.getfield 15, 3) := by decide +kernel
theorem dX9_scanNumber_13 : decode cX9_scanNumber 13 = .ok (.if_icmp .ge 55, 3) := by decide +kernel
theorem dX9_scanNumber_16 : decode cX9_scanNumber 16 = .ok (.aload_n 0, 1) := by decide +kernel
theorem dX9_scanNumber_17 : decode cX9_scanNumber 17 = .ok (.getfield 9, 3) := by decide +kernel
theorem dX9_scanNumber_20 : decode cX9_scanNumber 20 = .ok (.aload_n 0, 1) := by decide +kernel
theorem dX9_scanNumber_21 : decode cX9_scanNumber 21 = .ok (.getfield 19, 3) := by decide +kernel
theorem dX9_scanNumber_24 : decode cX9_scanNumber 24 = .ok (.baload, 1) := by decide +kernel
theorem dX9_scanNumber_25 : decode cX9_scanNumber 25 = .ok (.invokestatic 35, 3) := by decide +kernel
theorem dX9_scanNumber_28 : decode cX9_scanNumber 28 = .ok (.ifCond .eq 40, 3) := by decide +kernel
theorem dX9_scanNumber_31 : decode cX9_scanNumber 31 = .ok (.aload_n 0, 1) := by decide +kernel
theorem dX9_scanNumber_32 : decode cX9_scanNumber 32 = .ok (.aload_n 0, 1) := by decide +kernel
theorem dX9_scanNumber_33 : decode cX9_scanNumber 33 = .ok (.getfield 61, 3) := by decide +kernel
theorem dX9_scanNumber_36 : decode cX9_scanNumber 36 = .ok (.bipush 10, 2) := by decide +kernel
theorem dX9_scanNumber_38 : decode cX9_scanNumber 38 = .ok (.imul, 1) := by decide +kernel
theorem dX9_scanNumber_39 : decode cX9_scanNumber 39 = .ok (.aload_n 0, 1) := by decide +kernel
theorem dX9_scanNumber_40 : decode cX9_scanNumber 40 = .ok (.getfield 9, 3) := by decide +kernel
theorem dX9_scanNumber_43 : decode cX9_scanNumber 43 = .ok (.aload_n 0, 1) := by decide +kernel
theorem dX9_scanNumber_44 : decode cX9_scanNumber 44 = .ok (.getfield 19, 3) := by decide +kernel
theorem dX9_scanNumber_47 : decode cX9_scanNumber 47 = .ok (.baload, 1) := by decide +kernel
theorem dX9_scanNumber_48 : decode cX9_scanNumber 48 = .ok (.iadd, 1) := by decide +kernel
theorem dX9_scanNumber_49 : decode cX9_scanNumber 49 = .ok (.bipush 48, 2) := by decide +kernel
theorem dX9_scanNumber_51 : decode cX9_scanNumber 51 = .ok (.isub, 1) := by decide +kernel
theorem dX9_scanNumber_52 : decode cX9_scanNumber 52 = .ok (.putfield 61, 3) := by decide +kernel
theorem dX9_scanNumber_55 : decode cX9_scanNumber 55 = .ok (.aload_n 0, 1) := by decide +kernel
theorem dX9_scanNumber_56 : decode cX9_scanNumber 56 = .ok (.dup, 1) := by decide +kernel
theorem dX9_scanNumber_57 : decode cX9_scanNumber 57 = .ok (.getfield 19, 3) := by decide +kernel
theorem dX9_scanNumber_60 : decode cX9_scanNumber 60 = .ok (.iconst 1, 1) := by decide +kernel
theorem dX9_scanNumber_61 : decode cX9_scanNumber 61 = .ok (.iadd, 1) := by decide +kernel
theorem dX9_scanNumber_62 : decode cX9_scanNumber 62 = .ok (.putfield 19, 3) := by decide +kernel
theorem dX9_scanNumber_65 : decode cX9_scanNumber 65 = .ok (.goto (-60), 3) := by decide +kernel
theorem dX9_scanNumber_68 : decode cX9_scanNumber 68 = .ok (.aload_n 0, 1) := by decide +kernel
theorem dX9_scanNumber_69 : decode cX9_scanNumber 69 = .ok (.aload_n 0, 1) := by decide +kernel
theorem dX9_scanNumber_70 : decode cX9_scanNumber 70 = .ok (.getfield 19, 3) := by decide +kernel
theorem dX9_scanNumber_73 : decode cX9_scanNumber 73 = .ok (.aload_n 0, 1) := by decide +kernel
theorem dX9_scanNumber_74 : decode cX9_scanNumber 74 = .ok (.getfield 22, 3) := by decide +kernel
theorem dX9_scanNumber_77 : decode cX9_scanNumber 77 = .ok (.isub, 1) := by decide +kernel
theorem dX9_scanNumber_78 : decode cX9_scanNumber 78 = .ok (.iconst 4, 1) := by decide +kernel
theorem dX9_scanNumber_79 : decode cX9_scanNumber 79 = .ok (.if_icmp .gt 7, 3) := by decide +kernel
theorem dX9_scanNumber_82 : decode cX9_scanNumber 82 = .ok (.iconst 2, 1) := by decide +kernel
theorem dX9_scanNumber_83 : decode cX9_scanNumber 83 = .ok (.goto 4, 3) := by decide +kernel
theorem dX9_scanNumber_86 : decode cX9_scanNumber 86 = .ok (.iconst 1, 1) := by decide +kernel
theorem dX9_scanNumber_87 : decode cX9_scanNumber 87 = .ok (.putfield 25, 3) := by decide +kernel
theorem dX9_scanNumber_90 : decode cX9_scanNumber 90 = .ok (.return_, 1) := by decide +kernel
theorem dX9_isLetter_0 : decode cX9_isLetter 0 = .ok (.iload_n 0, 1) := by decide +kernel
theorem dX9_isLetter_1 : decode cX9_isLetter 1 = .ok (.bipush 97, 2) := by decide +kernel
theorem dX9_isLetter_3 : decode cX9_isLetter 3 = .ok (.bipush 122, 2) := by decide +kernel
theorem dX9_isLetter_5 : decode cX9_isLetter 5 = .ok (.invokestatic 64, 3) := by decide +kernel
theorem dX9_isLetter_8 : decode cX9_isLetter 8 = .ok (.ifCond .ne 14, 3) := by decide +kernel
theorem dX9_isLetter_11 : decode cX9_isLetter 11 = .ok (.iload_n 0, 1) := by decide +kernel
theorem dX9_isLetter_12 : decode cX9_isLetter 12 = .ok (.bipush 65, 2) := by decide +kernel
theorem dX9_isLetter_14 : decode cX9_isLetter 14 = .ok (.bipush 90, 2) := by decide +kernel
theorem dX9_isLetter_16 : decode cX9_isLetter 16 = .ok (.invokestatic 64, 3) := by decide +kernel
theorem dX9_isLetter_19 : decode cX9_isLetter 19 = .ok (.ifCond .eq 7, 3) := by decide +kernel
theorem dX9_isLetter_22 : decode cX9_isLetter 22 = .ok (.iconst 1, 1) := by decide +kernel
theorem dX9_isLetter_23 : decode cX9_isLetter 23 = .ok (.goto 4, 3) := by decide +kernel
theorem dX9_isLetter_26 : decode cX9_isLetter 26 = .ok (.iconst 0, 1) := by decide +kernel
theorem dX9_isLetter_27 : decode cX9_isLetter 27 = .ok (.ireturn, 1) := by decide +kernel
theorem dX9_isDigit_0 : decode cX9_isDigit 0 = .ok (.iload_n 0, 1) := by decide +kernel
theorem dX9_isDigit_1 : decode cX9_isDigit 1 = .ok (.bipush 48, 2) := by decide +kernel
theorem dX9_isDigit_3 : decode cX9_isDigit 3 = .ok (.bipush 57, 2) := by decide +kernel
theorem dX9_isDigit_5 : decode cX9_isDigit 5 = .ok (.invokestatic 64, 3) := by decide +kernel
theorem dX9_isDigit_8 : decode cX9_isDigit 8 = .ok (.ireturn, 1) := by decide +kernel
