theorem dX11_init_0 : decode cX11_init 0 = .ok (.aload_n 0, 1) := by decide +kernel
theorem dX11_init_1 : decode cX11_init 1 = .ok (.invokespecial 1, 3) := by decide +kernel
theorem dX11_init_4 : decode cX11_init 4 = .ok (.aload_n 0, 1) := by decide +kernel
theorem dX11_init_5 : decode cX11_init 5 = .ok (.sipush 1700, 3) := by decide +kernel
theorem dX11_init_8 : decode cX11_init 8 = .ok (.newarray .int, 2) := by decide +kernel
theorem dX11_init_10 : decode cX11_init 10 = .ok (.putfield 7, 3) := by decide +kernel
theorem dX11_init_13 : decode cX11_init 13 = .ok (.aload_n 0, 1) := by decide +kernel
theorem dX11_init_14 : decode cX11_init 14 = .ok (.sipush 1700, 3) := by decide +kernel
theorem dX11_init_17 : decode cX11_init 17 = .ok (.newarray .int, 2) := by decide +kernel
theorem dX11_init_19 : decode cX11_init 19 = .ok (.putfield 13, 3) := by decide +kernel
theorem dX11_init_22 : decode cX11_init 22 = .ok (.aload_n 0, 1) := by decide +kernel
theorem dX11_init_23 : decode cX11_init 23 = .ok (.bipush 48, 2) := by decide +kernel
theorem dX11_init_25 : decode cX11_init 25 = .ok (.newarray .int, 2) := by decide +kernel
theorem dX11_init_27 : decode cX11_init 27 = .ok (.putfield 16, 3) := by decide +kernel
theorem dX11_init_30 : decode cX11_init 30 = .ok (.aload_n 0, 1) := by decide +kernel
theorem dX11_init_31 : decode cX11_init 31 = .ok (.sipush 820, 3) := by decide +kernel
theorem dX11_init_34 : decode cX11_init 34 = .ok (.newarray .int, 2) := by decide +kernel
theorem dX11_init_36 : decode cX11_init 36 = .ok (.putfield 19, 3) := by decide +kernel
theorem dX11_init_39 : decode cX11_init 39 = .ok (.aload_n 0, 1) := by decide +kernel
theorem dX11_init_40 : decode cX11_init 40 = .ok (.sipush 400, 3) := by decide +kernel
theorem dX11_init_43 : decode cX11_init 43 = .ok (.newarray .int, 2) := by decide +kernel
theorem dX11_init_45 : decode cX11_init 45 = .ok (.putfield 22, 3) := by decide +kernel
theorem dX11_init_48 : decode cX11_init 48 = .ok (.aload_n 0, 1) := by decide +kernel
theorem dX11_init_49 : decode cX11_init 49 = .ok (.sipush 420, 3) := by decide +kernel
theorem dX11_init_52 : decode cX11_init 52 = .ok (.newarray .int, 2) := by decide +kernel
theorem dX11_init_54 : decode cX11_init 54 = .ok (.putfield 25, 3) := by decide +kernel
theorem dX11_init_57 : decode cX11_init 57 = .ok (.aload_n 0, 1) := by decide +kernel
theorem dX11_init_58 : decode cX11_init 58 = .ok (.bipush 9, 2) := by decide +kernel
theorem dX11_init_60 : decode cX11_init 60 = .ok (.newarray .int, 2) := by decide +kernel
theorem dX11_init_62 : decode cX11_init 62 = .ok (.putfield 28, 3) := by decide +kernel
theorem dX11_init_65 : decode cX11_init 65 = .ok (.aload_n 0, 1) := by decide +kernel
theorem dX11_init_66 : decode cX11_init 66 = .ok (.iconst (-1), 1) := by decide +kernel
theorem dX11_init_67 : decode cX11_init 67 = .ok (.putfield 31, 3) := by decide +kernel
theorem dX11_init_70 : decode cX11_init 70 = .ok (.aload_n 0, 1) := by decide +kernel
theorem dX11_init_71 : decode cX11_init 71 = .ok (.bipush 11, 2) := by decide +kernel
theorem dX11_init_73 : decode cX11_init 73 = .ok (.newarray .int, 2) := by decide +kernel
theorem dX11_init_75 : decode cX11_init 75 = .ok (.putfield 35, 3) := by decide +kernel
theorem dX11_init_78 : decode cX11_init 78 = .ok (.aload_n 0, 1) := by decide +kernel
theorem dX11_init_79 : decode cX11_init 79 = .ok (.bipush 11, 2) := by decide +kernel
theorem dX11_init_81 : decode cX11_init 81 = .ok (.newarray .int, 2) := by decide +kernel
theorem dX11_init_83 : decode cX11_init 83 = .ok (.putfield 38, 3) := by decide +kernel
theorem dX11_init_86 : decode cX11_init 86 = .ok (.aload_n 0, 1) := by decide +kernel
theorem dX11_init_87 : decode cX11_init 87 = .ok (.bipush 11, 2) := by decide +kernel
theorem dX11_init_89 : decode cX11_init 89 = .ok (.newarray .int, 2) := by decide +kernel
theorem dX11_init_91 : decode cX11_init 91 = .ok (.putfield 41, 3) := by decide +kernel
theorem dX11_init_94 : decode cX11_init 94 = .ok (.aload_n 0, 1) := by decide +kernel
theorem dX11_init_95 : decode cX11_init 95 = .ok (.bipush 11, 2) := by decide +kernel
theorem dX11_init_97 : decode cX11_init 97 = .ok (.newarray .int, 2) := by decide +kernel
theorem dX11_init_99 : decode cX11_init 99 = .ok (.putfield 44, 3) := by decide +kernel
theorem dX11_init_102 : decode cX11_init 102 = .ok (.aload_n 0, 1) := by decide +kernel
theorem dX11_init_103 : decode cX11_init 103 = .ok (.bipush 11, 2) := by decide +kernel
theorem dX11_init_105 : decode cX11_init 105 = .ok (.newarray .int, 2) := by decide +kernel
theorem dX11_init_107 : decode cX11_init 107 = .ok (.putfield 47, 3) := by decide +kernel
theorem dX11_init_110 : decode cX11_init 110 = .ok (.aload_n 0, 1) := by decide +kernel
theorem dX11_init_111 : decode cX11_init 111 = .ok (.bipush 11, 2) := by decide +kernel
theorem dX11_init_113 : decode cX11_init 113 = .ok (.newarray .int, 2) := by decide +kernel
theorem dX11_init_115 : decode cX11_init 115 = .ok (.putfield 50, 3) := by decide +kernel
theorem dX11_init_118 : decode cX11_init 118 = .ok (.aload_n 0, 1) := by decide +kernel
theorem dX11_init_119 : decode cX11_init 119 = .ok (.bipush 11, 2) := by decide +kernel
theorem dX11_init_121 : decode cX11_init 121 = .ok (.newarray .int, 2) := by decide +kernel
theorem dX11_init_123 : decode cX11_init 123 = .ok (.putfield 53, 3) := by decide +kernel
theorem dX11_init_126 : decode cX11_init 126 = .ok (.aload_n 0, 1) := by decide +kernel
theorem dX11_init_127 : decode cX11_init 127 = .ok (.bipush 11, 2) := by decide +kernel
theorem dX11_init_129 : decode cX11_init 129 = .ok (.newarray .int, 2) := by decide +kernel
theorem dX11_init_131 : decode cX11_init 131 = .ok (.putfield 56, 3) := by decide +kernel
theorem dX11_init_134 : decode cX11_init 134 = .ok (.aload_n 0, 1) := by decide +kernel
theorem dX11_init_135 : decode cX11_init 135 = .ok (.bipush 11, 2) := by decide +kernel
theorem dX11_init_137 : decode cX11_init 137 = .ok (.newarray .int, 2) := by decide +kernel
theorem dX11_init_139 : decode cX11_init 139 = .ok (.putfield 59, 3) := by decide +kernel
theorem dX11_init_142 : decode cX11_init 142 = .ok (.aload_n 0, 1) := by decide +kernel
theorem dX11_init_143 : decode cX11_init 143 = .ok (.bipush 11, 2) := by decide +kernel
theorem dX11_init_145 : decode cX11_init 145 = .ok (.newarray .int, 2) := by decide +kernel
theorem dX11_init_147 : decode cX11_init 147 = .ok (.putfield 62, 3) := by decide +kernel
theorem dX11_init_150 : decode cX11_init 150 = .ok (.aload_n 0, 1) := by decide +kernel
theorem dX11_init_151 : decode cX11_init 151 = .ok (.sipush 1024, 3) := by decide +kernel
theorem dX11_init_154 : decode cX11_init 154 = .ok (.newarray .long, 2) := by decide +kernel
theorem dX11_init_156 : decode cX11_init 156 = .ok (.putfield 65, 3) := by decide +kernel
theorem dX11_init_159 : decode cX11_init 159 = .ok (.aload_n 0, 1) := by decide +kernel
theorem dX11_init_160 : decode cX11_init 160 = .ok (.iconst 4, 1) := by decide +kernel
theorem dX11_init_161 : decode cX11_init 161 = .ok (.newarray .int, 2) := by decide +kernel
theorem dX11_init_163 : decode cX11_init 163 = .ok (.putfield 69, 3) := by decide +kernel
theorem dX11_init_166 : decode cX11_init 166 = .ok (.aload_n 0, 1) := by decide +kernel
theorem dX11_init_167 : decode cX11_init 167 = .ok (.iconst 4, 1) := by decide +kernel
theorem dX11_init_168 : decode cX11_init 168 = .ok (.newarray .int, 2) := by decide +kernel
theorem dX11_init_170 : decode cX11_init 170 = .ok (.putfield 72, 3) := by decide +kernel
theorem dX11_init_173 : decode cX11_init 173 = .ok (.aload_n 0, 1) := by decide +kernel
theorem dX11_init_174 : decode cX11_init 174 = .ok (.iconst 4, 1) := by decide +kernel
theorem dX11_init_175 : decode cX11_init 175 = .ok (.newarray .int, 2) := by decide +kernel
theorem dX11_init_177 : decode cX11_init 177 = .ok (.putfield 75, 3) := by decide +kernel
theorem dX11_init_180 : decode cX11_init 180 = .ok (.aload_n 0, 1) := by decide +kernel
theorem dX11_init_181 : decode cX11_init 181 = .ok (.iconst 5, 1) := by decide +kernel
theorem dX11_init_182 : decode cX11_init 182 = .ok (.iconst 4, 1) := by decide +kernel
theorem dX11_init_183 : decode cX11_init 183 = .ok (.multianewarray 78 2, 4) := by decide +kernel
theorem dX11_init_187 : decode cX11_init 187 = .ok (.putfield 80, 3) := by decide +kernel
theorem dX11_init_190 : decode cX11_init 190 = .ok (.aload_n 0, 1) := by decide +kernel
theorem dX11_init_191 : decode cX11_init 191 = .ok (.iconst 5, 1) := by decide +kernel
theorem dX11_init_192 : decode cX11_init 192 = .ok (.iconst 4, 1) := by decide +kernel
theorem dX11_init_193 : decode cX11_init 193 = .ok (.multianewarray 78 2, 4) := by decide +kernel
theorem dX11_init_197 : decode cX11_init 197 = .ok (.putfield 83, 3) := by decide +kernel
theorem dX11_init_200 : decode cX11_init 200 = .ok (.aload_n 0, 1) := by decide +kernel
theorem dX11_init_201 : decode cX11_init 201 = .ok (.iconst 5, 1) := by decide +kernel
theorem dX11_init_202 : decode cX11_init 202 = .ok (.iconst 4, 1) := by decide +kernel
theorem dX11_init_203 : decode cX11_init 203 = .ok (.multianewarray 78 2, 4) := by decide +kernel
theorem dX11_init_207 : decode cX11_init 207 = .ok (.putfield 86, 3) := by decide +kernel
theorem dX11_init_210 : decode cX11_init 210 = .ok (.aload_n 0, 1) := by decide +kernel
theorem dX11_init_211 : decode cX11_init 211 = .ok (.bipush 10, 2) := by decide +kernel
theorem dX11_init_213 : decode cX11_init 213 = .ok (.newarray .int, 2) := by decide +kernel
theorem dX11_init_215 : decode cX11_init 215 = .ok (.putfield 89, 3) := by decide +kernel
theorem dX11_init_218 : decode cX11_init 218 = .ok (.aload_n 0, 1) := by decide +kernel
theorem dX11_init_219 : decode cX11_init 219 = .ok (.getfield 7, 3) := by decide +kernel
theorem dX11_init_222 : decode cX11_init 222 = .ok (.iconst 3, 1) := by decide +kernel
theorem dX11_init_223 : decode cX11_init 223 = .ok (.ldc 92, 2) := by decide +kernel
theorem dX11_init_225 : decode cX11_init 225 = .ok (.iastore, 1) := by decide +kernel
theorem dX11_init_226 : decode cX11_init 226 = .ok (.aload_n 0, 1) := by decide +kernel
theorem dX11_init_227 : decode cX11_init 227 = .ok (.getfield 7, 3) := by decide +kernel
theorem dX11_init_230 : decode cX11_init 230 = .ok (.bipush 6, 2) := by decide +kernel
theorem dX11_init_232 : decode cX11_init 232 = .ok (.iconst 1, 1) := by decide +kernel
theorem dX11_init_233 : decode cX11_init 233 = .ok (.iastore, 1) := by decide +kernel
theorem dX11_init_234 : decode cX11_init 234 = .ok (.aload_n 0, 1) := by decide +kernel
theorem dX11_init_235 : decode cX11_init 235 = .ok (.getfield 7, 3) := by decide +kernel
theorem dX11_init_238 : decode cX11_init 238 = .ok (.bipush 8, 2) := by decide +kernel
theorem dX11_init_240 : decode cX11_init 240 = .ok (.iconst (-1), 1) := by decide +kernel
theorem dX11_init_241 : decode cX11_init 241 = .ok (.iastore, 1) := by decide +kernel
theorem dX11_init_242 : decode cX11_init 242 = .ok (.return_, 1) := by decide +kernel
theorem dX11_isIn_0 : decode cX11_isIn 0 = .ok (.iload_n 0, 1) := by decide +kernel
theorem dX11_isIn_1 : decode cX11_isIn 1 = .ok (.iload_n 1, 1) := by decide +kernel
theorem dX11_isIn_2 : decode cX11_isIn 2 = .ok (.if_icmp .lt 12, 3) := by decide +kernel
theorem dX11_isIn_5 : decode cX11_isIn 5 = .ok (.iload_n 0, 1) := by decide +kernel
theorem dX11_isIn_6 : decode cX11_isIn 6 = .ok (.iload_n 2, 1) := by decide +kernel
theorem dX11_isIn_7 : decode cX11_isIn 7 = .ok (.if_icmp .gt 7, 3) := by decide +kernel
theorem dX11_isIn_10 : decode cX11_isIn 10 = .ok (.iconst 1, 1) := by decide +kernel
theorem dX11_isIn_11 : decode cX11_isIn 11 = .ok (.goto 4, 3) := by decide +kernel
theorem dX11_isIn_14 : decode cX11_isIn 14 = .ok (.iconst 0, 1) := by decide +kernel
theorem dX11_isIn_15 : decode cX11_isIn 15 = .ok (.ireturn, 1) := by decide +kernel
theorem dX11_least_0 : decode cX11_least 0 = .ok (.iload_n 0, 1) := by decide +kernel
theorem dX11_least_1 : decode cX11_least 1 = .ok (.iload_n 1, 1) := by decide +kernel
theorem dX11_least_2 : decode cX11_least 2 = .ok (.if_icmp .ge 7, 3) := by decide +kernel
theorem dX11_least_5 : decode cX11_least 5 = .ok (.iload_n 0, 1) := by decide +kernel
theorem dX11_least_6 : decode cX11_least 6 = .ok (.goto 4, 3) := by decide +kernel
theorem dX11_least_9 : decode cX11_least 9 = .ok (.iload_n 1, 1) := by decide +kernel
theorem dX11_least_10 : decode cX11_least 10 = .ok (.ireturn, 1) := by decide +kernel
theorem dX11_most_0 : decode cX11_most 0 = .ok (.iload_n 0, 1) := by decide +kernel
theorem dX11_most_1 : decode cX11_most 1 = .ok (.iload_n 1, 1) := by decide +kernel
theorem dX11_most_2 : decode cX11_most 2 = .ok (.if_icmp .le 7, 3) := by decide +kernel
theorem dX11_most_5 : decode cX11_most 5 = .ok (.iload_n 0, 1) := by decide +kernel
theorem dX11_most_6 : decode cX11_most 6 = .ok (.goto 4, 3) := by decide +kernel
theorem dX11_most_9 : decode cX11_most 9 = .ok (.iload_n 1, 1) := by decide +kernel
theorem dX11_most_10 : decode cX11_most 10 = .ok (.ireturn, 1) := by decide +kernel
theorem dX11_isHouse_0 : decode cX11_isHouse 0 = .ok (.iload_n 1, 1) := by decide +kernel
theorem dX11_isHouse_1 : decode cX11_isHouse 1 = .ok (.iconst 0, 1) := by decide +kernel
theorem dX11_isHouse_2 : decode cX11_isHouse 2 = .ok (.aload_n 0, 1) := by decide +kernel
theorem dX11_isHouse_3 : decode cX11_isHouse 3 = .ok (.getfield 7, 3) := by decide +kernel
theorem dX11_isHouse_6 : decode cX11_isHouse 6 = .ok (.iconst 0, 1) := by decide +kernel
theorem dX11_isHouse_7 : decode cX11_isHouse 7 = .ok (.iaload, 1) := by decide +kernel
theorem dX11_isHouse_8 : decode cX11_isHouse 8 = .ok (.iconst 1, 1) := by decide +kernel
theorem dX11_isHouse_9 : decode cX11_isHouse 9 = .ok (.isub, 1) := by decide +kernel
theorem dX11_isHouse_10 : decode cX11_isHouse 10 = .ok (.invokestatic 93, 3) := by decide +kernel
theorem dX11_isHouse_13 : decode cX11_isHouse 13 = .ok (.ireturn, 1) := by decide +kernel
theorem dX11_isStorm_0 : decode cX11_isStorm 0 = .ok (.iload_n 1, 1) := by decide +kernel
theorem dX11_isStorm_1 : decode cX11_isStorm 1 = .ok (.iconst 0, 1) := by decide +kernel
theorem dX11_isStorm_2 : decode cX11_isStorm 2 = .ok (.aload_n 0, 1) := by decide +kernel
theorem dX11_isStorm_3 : decode cX11_isStorm 3 = .ok (.getfield 7, 3) := by decide +kernel
theorem dX11_isStorm_6 : decode cX11_isStorm 6 = .ok (.iconst 1, 1) := by decide +kernel
theorem dX11_isStorm_7 : decode cX11_isStorm 7 = .ok (.iaload, 1) := by decide +kernel
theorem dX11_isStorm_8 : decode cX11_isStorm 8 = .ok (.iconst 1, 1) := by decide +kernel
theorem dX11_isStorm_9 : decode cX11_isStorm 9 = .ok (.isub, 1) := by decide +kernel
theorem dX11_isStorm_10 : decode cX11_isStorm 10 = .ok (.invokestatic 93, 3) := by decide +kernel
theorem dX11_isStorm_13 : decode cX11_isStorm 13 = .ok (.ireturn, 1) := by decide +kernel
theorem dX11_own_0 : decode cX11_own 0 = .ok (.aload_n 0, 1) := by decide +kernel
theorem dX11_own_1 : decode cX11_own 1 = .ok (.getfield 7, 3) := by decide +kernel
theorem dX11_own_4 : decode cX11_own 4 = .ok (.bipush 20, 2) := by decide +kernel
theorem dX11_own_6 : decode cX11_own 6 = .ok (.bipush 16, 2) := by decide +kernel
theorem dX11_own_8 : decode cX11_own 8 = .ok (.iload_n 1, 1) := by decide +kernel
theorem dX11_own_9 : decode cX11_own 9 = .ok (.imul, 1) := by decide +kernel
theorem dX11_own_10 : decode cX11_own 10 = .ok (.iadd, 1) := by decide +kernel
theorem dX11_own_11 : decode cX11_own 11 = .ok (.iload_n 2, 1) := by decide +kernel
theorem dX11_own_12 : decode cX11_own 12 = .ok (.iadd, 1) := by decide +kernel
theorem dX11_own_13 : decode cX11_own 13 = .ok (.iaload, 1) := by decide +kernel
theorem dX11_own_14 : decode cX11_own 14 = .ok (.ireturn, 1) := by decide +kernel
theorem dX11_gives_0 : decode cX11_gives 0 = .ok (.aload_n 0, 1) := by decide +kernel
theorem dX11_gives_1 : decode cX11_gives 1 = .ok (.getfield 7, 3) := by decide +kernel
theorem dX11_gives_4 : decode cX11_gives 4 = .ok (.bipush 20, 2) := by decide +kernel
theorem dX11_gives_6 : decode cX11_gives 6 = .ok (.bipush 16, 2) := by decide +kernel
theorem dX11_gives_8 : decode cX11_gives 8 = .ok (.iload_n 1, 1) := by decide +kernel
theorem dX11_gives_9 : decode cX11_gives 9 = .ok (.imul, 1) := by decide +kernel
theorem dX11_gives_10 : decode cX11_gives 10 = .ok (.iadd, 1) := by decide +kernel
theorem dX11_gives_11 : decode cX11_gives 11 = .ok (.iload_n 2, 1) := by decide +kernel
theorem dX11_gives_12 : decode cX11_gives 12 = .ok (.iadd, 1) := by decide +kernel
theorem dX11_gives_13 : decode cX11_gives 13 = .ok (.iload_n 3, 1) := by decide +kernel
theorem dX11_gives_14 : decode cX11_gives 14 = .ok (.iastore, 1) := by decide +kernel
theorem dX11_gives_15 : decode cX11_gives 15 = .ok (.return_, 1) := by decide +kernel
theorem dX11_house_0 : decode cX11_house 0 = .ok (.iload_n 1, 1) := by decide +kernel
theorem dX11_house_1 : decode cX11_house 1 = .ok (.iconst 1, 1) := by decide +kernel
theorem dX11_house_2 : decode cX11_house 2 = .ok (.bipush 99, 2) := by decide +kernel
theorem dX11_house_4 : decode cX11_house 4 = .ok (.invokestatic 93, 3) := by decide +kernel
theorem dX11_house_7 : decode cX11_house 7 = .ok (.ifCond .eq 46, 3) := by decide +kernel
theorem dX11_house_10 : decode cX11_house 10 = .ok (.iload_n 2, 1) := by decide +kernel
theorem dX11_house_11 : decode cX11_house 11 = .ok (.iconst 0, 1) := by decide +kernel
theorem dX11_house_12 : decode cX11_house 12 = .ok (.sipush 9999, 3) := by decide +kernel
theorem dX11_house_15 : decode cX11_house 15 = .ok (.invokestatic 93, 3) := by decide +kernel
theorem dX11_house_18 : decode cX11_house 18 = .ok (.ifCond .eq 35, 3) := by decide +kernel
theorem dX11_house_21 : decode cX11_house 21 = .ok (.iload_n 3, 1) := by decide +kernel
theorem dX11_house_22 : decode cX11_house 22 = .ok (.iconst 0, 1) := by decide +kernel
theorem dX11_house_23 : decode cX11_house 23 = .ok (.bipush 10, 2) := by decide +kernel
theorem dX11_house_25 : decode cX11_house 25 = .ok (.invokestatic 93, 3) := by decide +kernel
theorem dX11_house_28 : decode cX11_house 28 = .ok (.ifCond .eq 25, 3) := by decide +kernel
theorem dX11_house_31 : decode cX11_house 31 = .ok (.iload 4, 2) := by decide +kernel
theorem dX11_house_33 : decode cX11_house 33 = .ok (.iconst 0, 1) := by decide +kernel
theorem dX11_house_34 : decode cX11_house 34 = .ok (.bipush 99, 2) := by decide +kernel
theorem dX11_house_36 : decode cX11_house 36 = .ok (.invokestatic 93, 3) := by decide +kernel
theorem dX11_house_39 : decode cX11_house 39 = .ok (.ifCond .eq 14, 3) := by decide +kernel
theorem dX11_house_42 : decode cX11_house 42 = .ok (.aload_n 0, 1) := by decide +kernel
theorem dX11_house_43 : decode cX11_house 43 = .ok (.getfield 7, 3) := by decide +kernel
theorem dX11_house_46 : decode cX11_house 46 = .ok (.iconst 0, 1) := by decide +kernel
theorem dX11_house_47 : decode cX11_house 47 = .ok (.iaload, 1) := by decide +kernel
theorem dX11_house_48 : decode cX11_house 48 = .ok (.bipush 10, 2) := by decide +kernel
theorem dX11_house_50 : decode cX11_house 50 = .ok (.if_icmp .ne 5, 3) := by decide +kernel
theorem dX11_house_53 : decode cX11_house 53 = .ok (.iconst (-1), 1) := by decide +kernel
theorem dX11_house_54 : decode cX11_house 54 = .ok (.ireturn, 1) := by decide +kernel
theorem dX11_house_55 : decode cX11_house 55 = .ok (.aload_n 0, 1) := by decide +kernel
theorem dX11_house_56 : decode cX11_house 56 = .ok (.getfield 7, 3) := by decide +kernel
theorem dX11_house_59 : decode cX11_house 59 = .ok (.iconst 0, 1) := by decide +kernel
theorem dX11_house_60 : decode cX11_house 60 = .ok (.iaload, 1) := by decide +kernel
theorem dX11_house_61 : decode cX11_house 61 = .ok (.istore 5, 2) := by decide +kernel
theorem dX11_house_63 : decode cX11_house 63 = .ok (.iconst 0, 1) := by decide +kernel
theorem dX11_house_64 : decode cX11_house 64 = .ok (.istore 6, 2) := by decide +kernel
theorem dX11_house_66 : decode cX11_house 66 = .ok (.iload 6, 2) := by decide +kernel
theorem dX11_house_68 : decode cX11_house 68 = .ok (.bipush 16, 2) := by decide +kernel
theorem dX11_house_70 : decode cX11_house 70 = .ok (.if_icmp .ge 18, 3) := by decide +kernel
theorem dX11_house_73 : decode cX11_house 73 = .ok (.aload_n 0, 1) := by decide +kernel
theorem dX11_house_74 : decode cX11_house 74 = .ok (.iload 5, 2) := by decide +kernel
theorem dX11_house_76 : decode cX11_house 76 = .ok (.iload 6, 2) := by decide +kernel
theorem dX11_house_78 : decode cX11_house 78 = .ok (.iconst 0, 1) := by decide +kernel
theorem dX11_house_79 : decode cX11_house 79 = .ok (.invokevirtual 97, 3) := by decide +kernel
theorem dX11_house_82 : decode cX11_house 82 = .ok (.iinc 6 1, 3) := by decide +kernel
theorem dX11_house_85 : decode cX11_house 85 = .ok (.goto (-19), 3) := by decide +kernel
theorem dX11_house_88 : decode cX11_house 88 = .ok (.aload_n 0, 1) := by decide +kernel
theorem dX11_house_89 : decode cX11_house 89 = .ok (.iload 5, 2) := by decide +kernel
theorem dX11_house_91 : decode cX11_house 91 = .ok (.iconst 0, 1) := by decide +kernel
theorem dX11_house_92 : decode cX11_house 92 = .ok (.iload_n 1, 1) := by decide +kernel
theorem dX11_house_93 : decode cX11_house 93 = .ok (.invokevirtual 97, 3) := by decide +kernel
theorem dX11_house_96 : decode cX11_house 96 = .ok (.aload_n 0, 1) := by decide +kernel
theorem dX11_house_97 : decode cX11_house 97 = .ok (.iload 5, 2) := by decide +kernel
theorem dX11_house_99 : decode cX11_house 99 = .ok (.iconst 1, 1) := by decide +kernel
theorem dX11_house_100 : decode cX11_house 100 = .ok (.iload_n 2, 1) := by decide +kernel
theorem dX11_house_101 : decode cX11_house 101 = .ok (.invokevirtual 97, 3) := by decide +kernel
theorem dX11_house_104 : decode cX11_house 104 = .ok (.aload_n 0, 1) := by decide +kernel
theorem dX11_house_105 : decode cX11_house 105 = .ok (.iload 5, 2) := by decide +kernel
theorem dX11_house_107 : decode cX11_house 107 = .ok (.iconst 2, 1) := by decide +kernel
theorem dX11_house_108 : decode cX11_house 108 = .ok (.iload_n 3, 1) := by decide +kernel
theorem dX11_house_109 : decode cX11_house 109 = .ok (.invokevirtual 97, 3) := by decide +kernel
theorem dX11_house_112 : decode cX11_house 112 = .ok (.aload_n 0, 1) := by decide +kernel
theorem dX11_house_113 : decode cX11_house 113 = .ok (.iload 5, 2) := by decide +kernel
theorem dX11_house_115 : decode cX11_house 115 = .ok (.iconst 3, 1) := by decide +kernel
theorem dX11_house_116 : decode cX11_house 116 = .ok (.iload 4, 2) := by decide +kernel
theorem dX11_house_118 : decode cX11_house 118 = .ok (.invokevirtual 97, 3) := by decide +kernel
theorem dX11_house_121 : decode cX11_house 121 = .ok (.aload_n 0, 1) := by decide +kernel
theorem dX11_house_122 : decode cX11_house 122 = .ok (.iload 5, 2) := by decide +kernel
theorem dX11_house_124 : decode cX11_house 124 = .ok (.iconst 4, 1) := by decide +kernel
theorem dX11_house_125 : decode cX11_house 125 = .ok (.iconst (-1), 1) := by decide +kernel
theorem dX11_house_126 : decode cX11_house 126 = .ok (.invokevirtual 97, 3) := by decide +kernel
theorem dX11_house_129 : decode cX11_house 129 = .ok (.aload_n 0, 1) := by decide +kernel
theorem dX11_house_130 : decode cX11_house 130 = .ok (.getfield 7, 3) := by decide +kernel
theorem dX11_house_133 : decode cX11_house 133 = .ok (.iconst 0, 1) := by decide +kernel
theorem dX11_house_134 : decode cX11_house 134 = .ok (.dup2, 1) := by decide +kernel
theorem dX11_house_135 : decode cX11_house 135 = .ok (.iaload, 1) := by decide +kernel
theorem dX11_house_136 : decode cX11_house 136 = .ok (.iconst 1, 1) := by decide +kernel
theorem dX11_house_137 : decode cX11_house 137 = .ok (.iadd, 1) := by decide +kernel
theorem dX11_house_138 : decode cX11_house 138 = .ok (.iastore, 1) := by decide +kernel
theorem dX11_house_139 : decode cX11_house 139 = .ok (.iload 5, 2) := by decide +kernel
theorem dX11_house_141 : decode cX11_house 141 = .ok (.ireturn, 1) := by decide +kernel
theorem dX11_next_0 : decode cX11_next 0 = .ok (.aload_n 0, 1) := by decide +kernel
theorem dX11_next_1 : decode cX11_next 1 = .ok (.iload_n 1, 1) := by decide +kernel
theorem dX11_next_2 : decode cX11_next 2 = .ok (.invokevirtual 101, 3) := by decide +kernel
theorem dX11_next_5 : decode cX11_next 5 = .ok (.ifCond .eq 26, 3) := by decide +kernel
theorem dX11_next_8 : decode cX11_next 8 = .ok (.iload_n 2, 1) := by decide +kernel
theorem dX11_next_9 : decode cX11_next 9 = .ok (.iconst (-1), 1) := by decide +kernel
theorem dX11_next_10 : decode cX11_next 10 = .ok (.if_icmp .eq 23, 3) := by decide +kernel
theorem dX11_next_13 : decode cX11_next 13 = .ok (.iload_n 2, 1) := by decide +kernel
theorem dX11_next_14 : decode cX11_next 14 = .ok (.iload_n 1, 1) := by decide +kernel
theorem dX11_next_15 : decode cX11_next 15 = .ok (.iconst 1, 1) := by decide +kernel
theorem dX11_next_16 : decode cX11_next 16 = .ok (.iadd, 1) := by decide +kernel
theorem dX11_next_17 : decode cX11_next 17 = .ok (.aload_n 0, 1) := by decide +kernel
theorem dX11_next_18 : decode cX11_next 18 = .ok (.getfield 7, 3) := by decide +kernel
theorem dX11_next_21 : decode cX11_next 21 = .ok (.iconst 0, 1) := by decide +kernel
theorem dX11_next_22 : decode cX11_next 22 = .ok (.iaload, 1) := by decide +kernel
theorem dX11_next_23 : decode cX11_next 23 = .ok (.iconst 1, 1) := by decide +kernel
theorem dX11_next_24 : decode cX11_next 24 = .ok (.isub, 1) := by decide +kernel
theorem dX11_next_25 : decode cX11_next 25 = .ok (.invokestatic 93, 3) := by decide +kernel
theorem dX11_next_28 : decode cX11_next 28 = .ok (.ifCond .ne 5, 3) := by decide +kernel
theorem dX11_next_31 : decode cX11_next 31 = .ok (.iconst 0, 1) := by decide +kernel
theorem dX11_next_32 : decode cX11_next 32 = .ok (.ireturn, 1) := by decide +kernel
theorem dX11_next_33 : decode cX11_next 33 = .ok (.aload_n 0, 1) := by decide +kernel
theorem dX11_next_34 : decode cX11_next 34 = .ok (.iload_n 1, 1) := by decide +kernel
theorem dX11_next_35 : decode cX11_next 35 = .ok (.iconst 4, 1) := by decide +kernel
theorem dX11_next_36 : decode cX11_next 36 = .ok (.iload_n 2, 1) := by decide +kernel
theorem dX11_next_37 : decode cX11_next 37 = .ok (.invokevirtual 97, 3) := by decide +kernel
theorem dX11_next_40 : decode cX11_next 40 = .ok (.iconst 1, 1) := by decide +kernel
theorem dX11_next_41 : decode cX11_next 41 = .ok (.ireturn, 1) := by decide +kernel
theorem dX11_tell_0 : decode cX11_tell 0 = .ok (.iload_n 2, 1) := by decide +kernel
theorem dX11_tell_1 : decode cX11_tell 1 = .ok (.iconst 5, 1) := by decide +kernel
theorem dX11_tell_2 : decode cX11_tell 2 = .ok (.if_icmp .ne 22, 3) := by decide +kernel
theorem dX11_tell_5 : decode cX11_tell 5 = .ok (.iload_n 3, 1) := by decide +kernel
theorem dX11_tell_6 : decode cX11_tell 6 = .ok (.iconst 0, 1) := by decide +kernel
theorem dX11_tell_7 : decode cX11_tell 7 = .ok (.ldc 92, 2) := by decide +kernel
theorem dX11_tell_9 : decode cX11_tell 9 = .ok (.invokestatic 93, 3) := by decide +kernel
theorem dX11_tell_12 : decode cX11_tell 12 = .ok (.ifCond .eq 12, 3) := by decide +kernel
theorem dX11_tell_15 : decode cX11_tell 15 = .ok (.aload_n 0, 1) := by decide +kernel
theorem dX11_tell_16 : decode cX11_tell 16 = .ok (.getfield 7, 3) := by decide +kernel
theorem dX11_tell_19 : decode cX11_tell 19 = .ok (.iconst 3, 1) := by decide +kernel
theorem dX11_tell_20 : decode cX11_tell 20 = .ok (.iload_n 3, 1) := by decide +kernel
theorem dX11_tell_21 : decode cX11_tell 21 = .ok (.iastore, 1) := by decide +kernel
theorem dX11_tell_22 : decode cX11_tell 22 = .ok (.iconst 1, 1) := by decide +kernel
theorem dX11_tell_23 : decode cX11_tell 23 = .ok (.ireturn, 1) := by decide +kernel
theorem dX11_tell_24 : decode cX11_tell 24 = .ok (.iload_n 2, 1) := by decide +kernel
theorem dX11_tell_25 : decode cX11_tell 25 = .ok (.bipush 6, 2) := by decide +kernel
theorem dX11_tell_27 : decode cX11_tell 27 = .ok (.if_icmp .ne 23, 3) := by decide +kernel
theorem dX11_tell_30 : decode cX11_tell 30 = .ok (.iload_n 3, 1) := by decide +kernel
theorem dX11_tell_31 : decode cX11_tell 31 = .ok (.iconst 0, 1) := by decide +kernel
theorem dX11_tell_32 : decode cX11_tell 32 = .ok (.bipush 9, 2) := by decide +kernel
theorem dX11_tell_34 : decode cX11_tell 34 = .ok (.invokestatic 93, 3) := by decide +kernel
theorem dX11_tell_37 : decode cX11_tell 37 = .ok (.ifCond .eq 13, 3) := by decide +kernel
theorem dX11_tell_40 : decode cX11_tell 40 = .ok (.aload_n 0, 1) := by decide +kernel
theorem dX11_tell_41 : decode cX11_tell 41 = .ok (.getfield 7, 3) := by decide +kernel
theorem dX11_tell_44 : decode cX11_tell 44 = .ok (.bipush 6, 2) := by decide +kernel
theorem dX11_tell_46 : decode cX11_tell 46 = .ok (.iload_n 3, 1) := by decide +kernel
theorem dX11_tell_47 : decode cX11_tell 47 = .ok (.iastore, 1) := by decide +kernel
theorem dX11_tell_48 : decode cX11_tell 48 = .ok (.iconst 1, 1) := by decide +kernel
theorem dX11_tell_49 : decode cX11_tell 49 = .ok (.ireturn, 1) := by decide +kernel
theorem dX11_tell_50 : decode cX11_tell 50 = .ok (.aload_n 0, 1) := by decide +kernel
theorem dX11_tell_51 : decode cX11_tell 51 = .ok (.iload_n 1, 1) := by decide +kernel
theorem dX11_tell_52 : decode cX11_tell 52 = .ok (.invokevirtual 101, 3) := by decide +kernel
theorem dX11_tell_55 : decode cX11_tell 55 = .ok (.ifCond .eq 12, 3) := by decide +kernel
theorem dX11_tell_58 : decode cX11_tell 58 = .ok (.iload_n 2, 1) := by decide +kernel
theorem dX11_tell_59 : decode cX11_tell 59 = .ok (.iconst 0, 1) := by decide +kernel
theorem dX11_tell_60 : decode cX11_tell 60 = .ok (.iconst 4, 1) := by decide +kernel
theorem dX11_tell_61 : decode cX11_tell 61 = .ok (.invokestatic 93, 3) := by decide +kernel
theorem dX11_tell_64 : decode cX11_tell 64 = .ok (.ifCond .ne 5, 3) := by decide +kernel
theorem dX11_tell_67 : decode cX11_tell 67 = .ok (.iconst 0, 1) := by decide +kernel
theorem dX11_tell_68 : decode cX11_tell 68 = .ok (.ireturn, 1) := by decide +kernel
theorem dX11_tell_69 : decode cX11_tell 69 = .ok (.iload_n 2, 1) := by decide +kernel
theorem dX11_tell_70 : decode cX11_tell 70 = .ok (.ifCond .eq 8, 3) := by decide +kernel
theorem dX11_tell_73 : decode cX11_tell 73 = .ok (.iload_n 2, 1) := by decide +kernel
theorem dX11_tell_74 : decode cX11_tell 74 = .ok (.iconst 2, 1) := by decide +kernel
theorem dX11_tell_75 : decode cX11_tell 75 = .ok (.if_icmp .ne 8, 3) := by decide +kernel
theorem dX11_tell_78 : decode cX11_tell 78 = .ok (.bipush 10, 2) := by decide +kernel
theorem dX11_tell_80 : decode cX11_tell 80 = .ok (.goto 17, 3) := by decide +kernel
theorem dX11_tell_83 : decode cX11_tell 83 = .ok (.iload_n 2, 1) := by decide +kernel
theorem dX11_tell_84 : decode cX11_tell 84 = .ok (.iconst 1, 1) := by decide +kernel
theorem dX11_tell_85 : decode cX11_tell 85 = .ok (.if_icmp .ne 9, 3) := by decide +kernel
theorem dX11_tell_88 : decode cX11_tell 88 = .ok (.sipush 9999, 3) := by decide +kernel
theorem dX11_tell_91 : decode cX11_tell 91 = .ok (.goto 6, 3) := by decide +kernel
theorem dX11_tell_94 : decode cX11_tell 94 = .ok (.sipush 999, 3) := by decide +kernel
theorem dX11_tell_97 : decode cX11_tell 97 = .ok (.istore 4, 2) := by decide +kernel
theorem dX11_tell_99 : decode cX11_tell 99 = .ok (.iload_n 3, 1) := by decide +kernel
theorem dX11_tell_100 : decode cX11_tell 100 = .ok (.iconst 0, 1) := by decide +kernel
theorem dX11_tell_101 : decode cX11_tell 101 = .ok (.iload 4, 2) := by decide +kernel
theorem dX11_tell_103 : decode cX11_tell 103 = .ok (.invokestatic 93, 3) := by decide +kernel
theorem dX11_tell_106 : decode cX11_tell 106 = .ok (.ifCond .ne 5, 3) := by decide +kernel
theorem dX11_tell_109 : decode cX11_tell 109 = .ok (.iconst 0, 1) := by decide +kernel
theorem dX11_tell_110 : decode cX11_tell 110 = .ok (.ireturn, 1) := by decide +kernel
theorem dX11_tell_111 : decode cX11_tell 111 = .ok (.aload_n 0, 1) := by decide +kernel
theorem dX11_tell_112 : decode cX11_tell 112 = .ok (.iload_n 1, 1) := by decide +kernel
theorem dX11_tell_113 : decode cX11_tell 113 = .ok (.iload_n 2, 1) := by decide +kernel
theorem dX11_tell_114 : decode cX11_tell 114 = .ok (.ifCond .ne 7, 3) := by decide +kernel
theorem dX11_tell_117 : decode cX11_tell 117 = .ok (.iconst 5, 1) := by decide +kernel
theorem dX11_tell_118 : decode cX11_tell 118 = .ok (.goto 33, 3) := by decide +kernel
theorem dX11_tell_121 : decode cX11_tell 121 = .ok (.iload_n 2, 1) := by decide +kernel
theorem dX11_tell_122 : decode cX11_tell 122 = .ok (.iconst 1, 1) := by decide +kernel
theorem dX11_tell_123 : decode cX11_tell 123 = .ok (.if_icmp .ne 7, 3) := by decide +kernel
theorem dX11_tell_126 : decode cX11_tell 126 = .ok (.iconst 1, 1) := by decide +kernel
theorem dX11_tell_127 : decode cX11_tell 127 = .ok (.goto 24, 3) := by decide +kernel
theorem dX11_tell_130 : decode cX11_tell 130 = .ok (.iload_n 2, 1) := by decide +kernel
theorem dX11_tell_131 : decode cX11_tell 131 = .ok (.iconst 2, 1) := by decide +kernel
theorem dX11_tell_132 : decode cX11_tell 132 = .ok (.if_icmp .ne 7, 3) := by decide +kernel
theorem dX11_tell_135 : decode cX11_tell 135 = .ok (.iconst 2, 1) := by decide +kernel
theorem dX11_tell_136 : decode cX11_tell 136 = .ok (.goto 15, 3) := by decide +kernel
theorem dX11_tell_139 : decode cX11_tell 139 = .ok (.iload_n 2, 1) := by decide +kernel
theorem dX11_tell_140 : decode cX11_tell 140 = .ok (.iconst 3, 1) := by decide +kernel
theorem dX11_tell_141 : decode cX11_tell 141 = .ok (.if_icmp .ne 8, 3) := by decide +kernel
theorem dX11_tell_144 : decode cX11_tell 144 = .ok (.bipush 6, 2) := by decide +kernel
theorem dX11_tell_146 : decode cX11_tell 146 = .ok (.goto 5, 3) := by decide +kernel
theorem dX11_tell_149 : decode cX11_tell 149 = .ok (.bipush 7, 2) := by decide +kernel
theorem dX11_tell_151 : decode cX11_tell 151 = .ok (.iload_n 3, 1) := by decide +kernel
theorem dX11_tell_152 : decode cX11_tell 152 = .ok (.invokevirtual 97, 3) := by decide +kernel
theorem dX11_tell_155 : decode cX11_tell 155 = .ok (.iconst 1, 1) := by decide +kernel
theorem dX11_tell_156 : decode cX11_tell 156 = .ok (.ireturn, 1) := by decide +kernel
theorem dX11_storm_0 : decode cX11_storm 0 = .ok (.iload_n 1, 1) := by decide +kernel
theorem dX11_storm_1 : decode cX11_storm 1 = .ok (.iconst 1, 1) := by decide +kernel
theorem dX11_storm_2 : decode cX11_storm 2 = .ok (.bipush 12, 2) := by decide +kernel
theorem dX11_storm_4 : decode cX11_storm 4 = .ok (.invokestatic 93, 3) := by decide +kernel
theorem dX11_storm_7 : decode cX11_storm 7 = .ok (.ifCond .eq 14, 3) := by decide +kernel
theorem dX11_storm_10 : decode cX11_storm 10 = .ok (.aload_n 0, 1) := by decide +kernel
theorem dX11_storm_11 : decode cX11_storm 11 = .ok (.getfield 7, 3) := by decide +kernel
theorem dX11_storm_14 : decode cX11_storm 14 = .ok (.iconst 1, 1) := by decide +kernel
theorem dX11_storm_15 : decode cX11_storm 15 = .ok (.iaload, 1) := by decide +kernel
theorem dX11_storm_16 : decode cX11_storm 16 = .ok (.bipush 10, 2) := by decide +kernel
theorem dX11_storm_18 : decode cX11_storm 18 = .ok (.if_icmp .ne 5, 3) := by decide +kernel
theorem dX11_storm_21 : decode cX11_storm 21 = .ok (.iconst (-1), 1) := by decide +kernel
theorem dX11_storm_22 : decode cX11_storm 22 = .ok (.ireturn, 1) := by decide +kernel
theorem dX11_storm_23 : decode cX11_storm 23 = .ok (.sipush 180, 3) := by decide +kernel
theorem dX11_storm_26 : decode cX11_storm 26 = .ok (.bipush 26, 2) := by decide +kernel
theorem dX11_storm_28 : decode cX11_storm 28 = .ok (.aload_n 0, 1) := by decide +kernel
theorem dX11_storm_29 : decode cX11_storm 29 = .ok (.getfield 7, 3) := by decide +kernel
theorem dX11_storm_32 : decode cX11_storm 32 = .ok (.iconst 1, 1) := by decide +kernel
theorem dX11_storm_33 : decode cX11_storm 33 = .ok (.iaload, 1) := by decide +kernel
theorem dX11_storm_34 : decode cX11_storm 34 = .ok (.imul, 1) := by decide +kernel
theorem dX11_storm_35 : decode cX11_storm 35 = .ok (.iadd, 1) := by decide +kernel
theorem dX11_storm_36 : decode cX11_storm 36 = .ok (.istore_n 2, 1) := by decide +kernel
theorem dX11_storm_37 : decode cX11_storm 37 = .ok (.iconst 0, 1) := by decide +kernel
theorem dX11_storm_38 : decode cX11_storm 38 = .ok (.istore_n 3, 1) := by decide +kernel
theorem dX11_storm_39 : decode cX11_storm 39 = .ok (.iload_n 3, 1) := by decide +kernel
theorem dX11_storm_40 : decode cX11_storm 40 = .ok (.bipush 26, 2) := by decide +kernel
theorem dX11_storm_42 : decode cX11_storm 42 = .ok (.if_icmp .ge 18, 3) := by decide +kernel
theorem dX11_storm_45 : decode cX11_storm 45 = .ok (.aload_n 0, 1) := by decide +kernel
theorem dX11_storm_46 : decode cX11_storm 46 = .ok (.getfield 7, 3) := by decide +kernel
theorem dX11_storm_49 : decode cX11_storm 49 = .ok (.iload_n 2, 1) := by decide +kernel
theorem dX11_storm_50 : decode cX11_storm 50 = .ok (.iload_n 3, 1) := by decide +kernel
theorem dX11_storm_51 : decode cX11_storm 51 = .ok (.iadd, 1) := by decide +kernel
theorem dX11_storm_52 : decode cX11_storm 52 = .ok (.iconst 0, 1) := by decide +kernel
theorem dX11_storm_53 : decode cX11_storm 53 = .ok (.iastore, 1) := by decide +kernel
theorem dX11_storm_54 : decode cX11_storm 54 = .ok (.iinc 3 1, 3) := by decide +kernel
theorem dX11_storm_57 : decode cX11_storm 57 = .ok (.goto (-18), 3) := by decide +kernel
theorem dX11_storm_60 : decode cX11_storm 60 = .ok (.aload_n 0, 1) := by decide +kernel
theorem dX11_storm_61 : decode cX11_storm 61 = .ok (.getfield 7, 3) := by decide +kernel
theorem dX11_storm_64 : decode cX11_storm 64 = .ok (.iload_n 2, 1) := by decide +kernel
theorem dX11_storm_65 : decode cX11_storm 65 = .ok (.iload_n 1, 1) := by decide +kernel
theorem dX11_storm_66 : decode cX11_storm 66 = .ok (.iastore, 1) := by decide +kernel
theorem dX11_storm_67 : decode cX11_storm 67 = .ok (.aload_n 0, 1) := by decide +kernel
theorem dX11_storm_68 : decode cX11_storm 68 = .ok (.getfield 7, 3) := by decide +kernel
theorem dX11_storm_71 : decode cX11_storm 71 = .ok (.iconst 1, 1) := by decide +kernel
theorem dX11_storm_72 : decode cX11_storm 72 = .ok (.dup2, 1) := by decide +kernel
theorem dX11_storm_73 : decode cX11_storm 73 = .ok (.iaload, 1) := by decide +kernel
theorem dX11_storm_74 : decode cX11_storm 74 = .ok (.iconst 1, 1) := by decide +kernel
theorem dX11_storm_75 : decode cX11_storm 75 = .ok (.iadd, 1) := by decide +kernel
theorem dX11_storm_76 : decode cX11_storm 76 = .ok (.iastore, 1) := by decide +kernel
theorem dX11_storm_77 : decode cX11_storm 77 = .ok (.aload_n 0, 1) := by decide +kernel
theorem dX11_storm_78 : decode cX11_storm 78 = .ok (.getfield 7, 3) := by decide +kernel
theorem dX11_storm_81 : decode cX11_storm 81 = .ok (.iconst 1, 1) := by decide +kernel
theorem dX11_storm_82 : decode cX11_storm 82 = .ok (.iaload, 1) := by decide +kernel
theorem dX11_storm_83 : decode cX11_storm 83 = .ok (.iconst 1, 1) := by decide +kernel
theorem dX11_storm_84 : decode cX11_storm 84 = .ok (.isub, 1) := by decide +kernel
theorem dX11_storm_85 : decode cX11_storm 85 = .ok (.ireturn, 1) := by decide +kernel
theorem dX11_hoursOf_0 : decode cX11_hoursOf 0 = .ok (.aload_n 0, 1) := by decide +kernel
theorem dX11_hoursOf_1 : decode cX11_hoursOf 1 = .ok (.getfield 7, 3) := by decide +kernel
theorem dX11_hoursOf_4 : decode cX11_hoursOf 4 = .ok (.sipush 180, 3) := by decide +kernel
theorem dX11_hoursOf_7 : decode cX11_hoursOf 7 = .ok (.bipush 26, 2) := by decide +kernel
theorem dX11_hoursOf_9 : decode cX11_hoursOf 9 = .ok (.iload_n 1, 1) := by decide +kernel
theorem dX11_hoursOf_10 : decode cX11_hoursOf 10 = .ok (.imul, 1) := by decide +kernel
theorem dX11_hoursOf_11 : decode cX11_hoursOf 11 = .ok (.iadd, 1) := by decide +kernel
theorem dX11_hoursOf_12 : decode cX11_hoursOf 12 = .ok (.iaload, 1) := by decide +kernel
theorem dX11_hoursOf_13 : decode cX11_hoursOf 13 = .ok (.ireturn, 1) := by decide +kernel
theorem dX11_fallOf_0 : decode cX11_fallOf 0 = .ok (.aload_n 0, 1) := by decide +kernel
theorem dX11_fallOf_1 : decode cX11_fallOf 1 = .ok (.getfield 7, 3) := by decide +kernel
theorem dX11_fallOf_4 : decode cX11_fallOf 4 = .ok (.sipush 180, 3) := by decide +kernel
theorem dX11_fallOf_7 : decode cX11_fallOf 7 = .ok (.bipush 26, 2) := by decide +kernel
theorem dX11_fallOf_9 : decode cX11_fallOf 9 = .ok (.iload_n 1, 1) := by decide +kernel
theorem dX11_fallOf_10 : decode cX11_fallOf 10 = .ok (.imul, 1) := by decide +kernel
theorem dX11_fallOf_11 : decode cX11_fallOf 11 = .ok (.iadd, 1) := by decide +kernel
theorem dX11_fallOf_12 : decode cX11_fallOf 12 = .ok (.iconst 1, 1) := by decide +kernel
theorem dX11_fallOf_13 : decode cX11_fallOf 13 = .ok (.iadd, 1) := by decide +kernel
theorem dX11_fallOf_14 : decode cX11_fallOf 14 = .ok (.iload_n 2, 1) := by decide +kernel
theorem dX11_fallOf_15 : decode cX11_fallOf 15 = .ok (.iadd, 1) := by decide +kernel
theorem dX11_fallOf_16 : decode cX11_fallOf 16 = .ok (.iaload, 1) := by decide +kernel
theorem dX11_fallOf_17 : decode cX11_fallOf 17 = .ok (.ireturn, 1) := by decide +kernel
theorem dX11_isSnow_0 : decode cX11_isSnow 0 = .ok (.aload_n 0, 1) := by decide +kernel
theorem dX11_isSnow_1 : decode cX11_isSnow 1 = .ok (.getfield 7, 3) := by decide +kernel
theorem dX11_isSnow_4 : decode cX11_isSnow 4 = .ok (.sipush 180, 3) := by decide +kernel
theorem dX11_isSnow_7 : decode cX11_isSnow 7 = .ok (.bipush 26, 2) := by decide +kernel
theorem dX11_isSnow_9 : decode cX11_isSnow 9 = .ok (.iload_n 1, 1) := by decide +kernel
theorem dX11_isSnow_10 : decode cX11_isSnow 10 = .ok (.imul, 1) := by decide +kernel
theorem dX11_isSnow_11 : decode cX11_isSnow 11 = .ok (.iadd, 1) := by decide +kernel
theorem dX11_isSnow_12 : decode cX11_isSnow 12 = .ok (.bipush 13, 2) := by decide +kernel
theorem dX11_isSnow_14 : decode cX11_isSnow 14 = .ok (.iadd, 1) := by decide +kernel
theorem dX11_isSnow_15 : decode cX11_isSnow 15 = .ok (.iload_n 2, 1) := by decide +kernel
theorem dX11_isSnow_16 : decode cX11_isSnow 16 = .ok (.iadd, 1) := by decide +kernel
theorem dX11_isSnow_17 : decode cX11_isSnow 17 = .ok (.iaload, 1) := by decide +kernel
theorem dX11_isSnow_18 : decode cX11_isSnow 18 = .ok (.iconst 1, 1) := by decide +kernel
theorem dX11_isSnow_19 : decode cX11_isSnow 19 = .ok (.if_icmp .ne 7, 3) := by decide +kernel
theorem dX11_isSnow_22 : decode cX11_isSnow 22 = .ok (.iconst 1, 1) := by decide +kernel
theorem dX11_isSnow_23 : decode cX11_isSnow 23 = .ok (.goto 4, 3) := by decide +kernel
theorem dX11_isSnow_26 : decode cX11_isSnow 26 = .ok (.iconst 0, 1) := by decide +kernel
theorem dX11_isSnow_27 : decode cX11_isSnow 27 = .ok (.ireturn, 1) := by decide +kernel
theorem dX11_fall_0 : decode cX11_fall 0 = .ok (.aload_n 0, 1) := by decide +kernel
theorem dX11_fall_1 : decode cX11_fall 1 = .ok (.iload_n 1, 1) := by decide +kernel
theorem dX11_fall_2 : decode cX11_fall 2 = .ok (.invokevirtual 105, 3) := by decide +kernel
theorem dX11_fall_5 : decode cX11_fall 5 = .ok (.ifCond .eq 28, 3) := by decide +kernel
theorem dX11_fall_8 : decode cX11_fall 8 = .ok (.iload_n 2, 1) := by decide +kernel
theorem dX11_fall_9 : decode cX11_fall 9 = .ok (.iconst 0, 1) := by decide +kernel
theorem dX11_fall_10 : decode cX11_fall 10 = .ok (.aload_n 0, 1) := by decide +kernel
theorem dX11_fall_11 : decode cX11_fall 11 = .ok (.iload_n 1, 1) := by decide +kernel
theorem dX11_fall_12 : decode cX11_fall 12 = .ok (.invokevirtual 108, 3) := by decide +kernel
theorem dX11_fall_15 : decode cX11_fall 15 = .ok (.iconst 1, 1) := by decide +kernel
theorem dX11_fall_16 : decode cX11_fall 16 = .ok (.isub, 1) := by decide +kernel
theorem dX11_fall_17 : decode cX11_fall 17 = .ok (.invokestatic 93, 3) := by decide +kernel
theorem dX11_fall_20 : decode cX11_fall 20 = .ok (.ifCond .eq 13, 3) := by decide +kernel
theorem dX11_fall_23 : decode cX11_fall 23 = .ok (.iload_n 3, 1) := by decide +kernel
theorem dX11_fall_24 : decode cX11_fall 24 = .ok (.iconst 0, 1) := by decide +kernel
theorem dX11_fall_25 : decode cX11_fall 25 = .ok (.bipush 99, 2) := by decide +kernel
theorem dX11_fall_27 : decode cX11_fall 27 = .ok (.invokestatic 93, 3) := by decide +kernel
theorem dX11_fall_30 : decode cX11_fall 30 = .ok (.ifCond .ne 5, 3) := by decide +kernel
theorem dX11_fall_33 : decode cX11_fall 33 = .ok (.iconst 0, 1) := by decide +kernel
theorem dX11_fall_34 : decode cX11_fall 34 = .ok (.ireturn, 1) := by decide +kernel
theorem dX11_fall_35 : decode cX11_fall 35 = .ok (.aload_n 0, 1) := by decide +kernel
theorem dX11_fall_36 : decode cX11_fall 36 = .ok (.getfield 7, 3) := by decide +kernel
theorem dX11_fall_39 : decode cX11_fall 39 = .ok (.sipush 180, 3) := by decide +kernel
theorem dX11_fall_42 : decode cX11_fall 42 = .ok (.bipush 26, 2) := by decide +kernel
theorem dX11_fall_44 : decode cX11_fall 44 = .ok (.iload_n 1, 1) := by decide +kernel
theorem dX11_fall_45 : decode cX11_fall 45 = .ok (.imul, 1) := by decide +kernel
theorem dX11_fall_46 : decode cX11_fall 46 = .ok (.iadd, 1) := by decide +kernel
theorem dX11_fall_47 : decode cX11_fall 47 = .ok (.iconst 1, 1) := by decide +kernel
theorem dX11_fall_48 : decode cX11_fall 48 = .ok (.iadd, 1) := by decide +kernel
theorem dX11_fall_49 : decode cX11_fall 49 = .ok (.iload_n 2, 1) := by decide +kernel
theorem dX11_fall_50 : decode cX11_fall 50 = .ok (.iadd, 1) := by decide +kernel
theorem dX11_fall_51 : decode cX11_fall 51 = .ok (.iload_n 3, 1) := by decide +kernel
theorem dX11_fall_52 : decode cX11_fall 52 = .ok (.iastore, 1) := by decide +kernel
theorem dX11_fall_53 : decode cX11_fall 53 = .ok (.aload_n 0, 1) := by decide +kernel
theorem dX11_fall_54 : decode cX11_fall 54 = .ok (.getfield 7, 3) := by decide +kernel
theorem dX11_fall_57 : decode cX11_fall 57 = .ok (.sipush 180, 3) := by decide +kernel
theorem dX11_fall_60 : decode cX11_fall 60 = .ok (.bipush 26, 2) := by decide +kernel
theorem dX11_fall_62 : decode cX11_fall 62 = .ok (.iload_n 1, 1) := by decide +kernel
theorem dX11_fall_63 : decode cX11_fall 63 = .ok (.imul, 1) := by decide +kernel
theorem dX11_fall_64 : decode cX11_fall 64 = .ok (.iadd, 1) := by decide +kernel
theorem dX11_fall_65 : decode cX11_fall 65 = .ok (.bipush 13, 2) := by decide +kernel
theorem dX11_fall_67 : decode cX11_fall 67 = .ok (.iadd, 1) := by decide +kernel
theorem dX11_fall_68 : decode cX11_fall 68 = .ok (.iload_n 2, 1) := by decide +kernel
theorem dX11_fall_69 : decode cX11_fall 69 = .ok (.iadd, 1) := by decide +kernel
theorem dX11_fall_70 : decode cX11_fall 70 = .ok (.iload 4, 2) := by decide +kernel
theorem dX11_fall_72 : decode cX11_fall 72 = .ok (.ifCond .eq 7, 3) := by decide +kernel
theorem dX11_fall_75 : decode cX11_fall 75 = .ok (.iconst 1, 1) := by decide +kernel
theorem dX11_fall_76 : decode cX11_fall 76 = .ok (.goto 4, 3) := by decide +kernel
theorem dX11_fall_79 : decode cX11_fall 79 = .ok (.iconst 0, 1) := by decide +kernel
theorem dX11_fall_80 : decode cX11_fall 80 = .ok (.iastore, 1) := by decide +kernel
theorem dX11_fall_81 : decode cX11_fall 81 = .ok (.iconst 1, 1) := by decide +kernel
theorem dX11_fall_82 : decode cX11_fall 82 = .ok (.ireturn, 1) := by decide +kernel
theorem dX11_feed_0 : decode cX11_feed 0 = .ok (.aload_n 0, 1) := by decide +kernel
theorem dX11_feed_1 : decode cX11_feed 1 = .ok (.getfield 112, 3) := by decide +kernel
theorem dX11_feed_4 : decode cX11_feed 4 = .ok (.bipush 20, 2) := by decide +kernel
theorem dX11_feed_6 : decode cX11_feed 6 = .ok (.iadd, 1) := by decide +kernel
theorem dX11_feed_7 : decode cX11_feed 7 = .ok (.sipush 400, 3) := by decide +kernel
theorem dX11_feed_10 : decode cX11_feed 10 = .ok (.if_icmp .le 5, 3) := by decide +kernel
theorem dX11_feed_13 : decode cX11_feed 13 = .ok (.iconst (-1), 1) := by decide +kernel
theorem dX11_feed_14 : decode cX11_feed 14 = .ok (.ireturn, 1) := by decide +kernel
theorem dX11_feed_15 : decode cX11_feed 15 = .ok (.iconst 0, 1) := by decide +kernel
theorem dX11_feed_16 : decode cX11_feed 16 = .ok (.istore 6, 2) := by decide +kernel
theorem dX11_feed_18 : decode cX11_feed 18 = .ok (.iload 6, 2) := by decide +kernel
theorem dX11_feed_20 : decode cX11_feed 20 = .ok (.bipush 20, 2) := by decide +kernel
theorem dX11_feed_22 : decode cX11_feed 22 = .ok (.if_icmp .ge 93, 3) := by decide +kernel
theorem dX11_feed_25 : decode cX11_feed 25 = .ok (.iload 6, 2) := by decide +kernel
theorem dX11_feed_27 : decode cX11_feed 27 = .ok (.iconst 4, 1) := by decide +kernel
theorem dX11_feed_28 : decode cX11_feed 28 = .ok (.if_icmp .ge 7, 3) := by decide +kernel
theorem dX11_feed_31 : decode cX11_feed 31 = .ok (.iload_n 1, 1) := by decide +kernel
theorem dX11_feed_32 : decode cX11_feed 32 = .ok (.goto 39, 3) := by decide +kernel
theorem dX11_feed_35 : decode cX11_feed 35 = .ok (.iload 6, 2) := by decide +kernel
theorem dX11_feed_37 : decode cX11_feed 37 = .ok (.bipush 8, 2) := by decide +kernel
theorem dX11_feed_39 : decode cX11_feed 39 = .ok (.if_icmp .ge 7, 3) := by decide +kernel
theorem dX11_feed_42 : decode cX11_feed 42 = .ok (.iload_n 2, 1) := by decide +kernel
theorem dX11_feed_43 : decode cX11_feed 43 = .ok (.goto 28, 3) := by decide +kernel
theorem dX11_feed_46 : decode cX11_feed 46 = .ok (.iload 6, 2) := by decide +kernel
theorem dX11_feed_48 : decode cX11_feed 48 = .ok (.bipush 12, 2) := by decide +kernel
theorem dX11_feed_50 : decode cX11_feed 50 = .ok (.if_icmp .ge 7, 3) := by decide +kernel
theorem dX11_feed_53 : decode cX11_feed 53 = .ok (.iload_n 3, 1) := by decide +kernel
theorem dX11_feed_54 : decode cX11_feed 54 = .ok (.goto 17, 3) := by decide +kernel
theorem dX11_feed_57 : decode cX11_feed 57 = .ok (.iload 6, 2) := by decide +kernel
theorem dX11_feed_59 : decode cX11_feed 59 = .ok (.bipush 16, 2) := by decide +kernel
theorem dX11_feed_61 : decode cX11_feed 61 = .ok (.if_icmp .ge 8, 3) := by decide +kernel
theorem dX11_feed_64 : decode cX11_feed 64 = .ok (.iload 4, 2) := by decide +kernel
theorem dX11_feed_66 : decode cX11_feed 66 = .ok (.goto 5, 3) := by decide +kernel
theorem dX11_feed_69 : decode cX11_feed 69 = .ok (.iload 5, 2) := by decide +kernel
theorem dX11_feed_71 : decode cX11_feed 71 = .ok (.istore 7, 2) := by decide +kernel
theorem dX11_feed_73 : decode cX11_feed 73 = .ok (.aload_n 0, 1) := by decide +kernel
theorem dX11_feed_74 : decode cX11_feed 74 = .ok (.getfield 22, 3) := by decide +kernel
theorem dX11_feed_77 : decode cX11_feed 77 = .ok (.aload_n 0, 1) := by decide +kernel
theorem dX11_feed_78 : decode cX11_feed 78 = .ok (.getfield 112, 3) := by decide +kernel
theorem dX11_feed_81 : decode cX11_feed 81 = .ok (.iload 7, 2) := by decide +kernel
theorem dX11_feed_83 : decode cX11_feed 83 = .ok (.bipush 24, 2) := by decide +kernel
theorem dX11_feed_85 : decode cX11_feed 85 = .ok (.bipush 8, 2) := by decide +kernel
theorem dX11_feed_87 : decode cX11_feed 87 = .ok (.iload 6, 2) := by decide +kernel
theorem dX11_feed_89 : decode cX11_feed 89 = .ok (.iconst 4, 1) := by decide +kernel
theorem dX11_feed_90 : decode cX11_feed 90 = .ok (.irem, 1) := by decide +kernel
theorem dX11_feed_91 : decode cX11_feed 91 = .ok (.imul, 1) := by decide +kernel
theorem dX11_feed_92 : decode cX11_feed 92 = .ok (.isub, 1) := by decide +kernel
theorem dX11_feed_93 : decode cX11_feed 93 = .ok (.ishr, 1) := by decide +kernel
theorem dX11_feed_94 : decode cX11_feed 94 = .ok (.sipush 255, 3) := by decide +kernel
theorem dX11_feed_97 : decode cX11_feed 97 = .ok (.iand, 1) := by decide +kernel
theorem dX11_feed_98 : decode cX11_feed 98 = .ok (.iastore, 1) := by decide +kernel
theorem dX11_feed_99 : decode cX11_feed 99 = .ok (.aload_n 0, 1) := by decide +kernel
theorem dX11_feed_100 : decode cX11_feed 100 = .ok (.dup, 1) := by decide +kernel
theorem dX11_feed_101 : decode cX11_feed 101 = .ok (.getfield 112, 3) := by decide +kernel
theorem dX11_feed_104 : decode cX11_feed 104 = .ok (.iconst 1, 1) := by decide +kernel
theorem dX11_feed_105 : decode cX11_feed 105 = .ok (.iadd, 1) := by decide +kernel
theorem dX11_feed_106 : decode cX11_feed 106 = .ok (.putfield 112, 3) := by decide +kernel
theorem dX11_feed_109 : decode cX11_feed 109 = .ok (.iinc 6 1, 3) := by decide +kernel
theorem dX11_feed_112 : decode cX11_feed 112 = .ok (.goto (-94), 3) := by decide +kernel
theorem dX11_feed_115 : decode cX11_feed 115 = .ok (.aload_n 0, 1) := by decide +kernel
theorem dX11_feed_116 : decode cX11_feed 116 = .ok (.getfield 112, 3) := by decide +kernel
theorem dX11_feed_119 : decode cX11_feed 119 = .ok (.ireturn, 1) := by decide +kernel
theorem dX11_end_0 : decode cX11_end 0 = .ok (.iload_n 1, 1) := by decide +kernel
theorem dX11_end_1 : decode cX11_end 1 = .ok (.iconst 0, 1) := by decide +kernel
theorem dX11_end_2 : decode cX11_end 2 = .ok (.aload_n 0, 1) := by decide +kernel
theorem dX11_end_3 : decode cX11_end 3 = .ok (.getfield 112, 3) := by decide +kernel
theorem dX11_end_6 : decode cX11_end 6 = .ok (.invokestatic 93, 3) := by decide +kernel
theorem dX11_end_9 : decode cX11_end 9 = .ok (.ifCond .ne 5, 3) := by decide +kernel
theorem dX11_end_12 : decode cX11_end 12 = .ok (.iconst 0, 1) := by decide +kernel
theorem dX11_end_13 : decode cX11_end 13 = .ok (.ireturn, 1) := by decide +kernel
theorem dX11_end_14 : decode cX11_end 14 = .ok (.aload_n 0, 1) := by decide +kernel
theorem dX11_end_15 : decode cX11_end 15 = .ok (.iload_n 1, 1) := by decide +kernel
theorem dX11_end_16 : decode cX11_end 16 = .ok (.putfield 112, 3) := by decide +kernel
theorem dX11_end_19 : decode cX11_end 19 = .ok (.iconst 1, 1) := by decide +kernel
theorem dX11_end_20 : decode cX11_end 20 = .ok (.ireturn, 1) := by decide +kernel
theorem dX11_see_0 : decode cX11_see 0 = .ok (.iload_n 1, 1) := by decide +kernel
theorem dX11_see_1 : decode cX11_see 1 = .ok (.aload_n 0, 1) := by decide +kernel
theorem dX11_see_2 : decode cX11_see 2 = .ok (.getfield 112, 3) := by decide +kernel
theorem dX11_see_5 : decode cX11_see 5 = .ok (.if_icmp .ge 12, 3) := by decide +kernel
theorem dX11_see_8 : decode cX11_see 8 = .ok (.aload_n 0, 1) := by decide +kernel
theorem dX11_see_9 : decode cX11_see 9 = .ok (.getfield 22, 3) := by decide +kernel
theorem dX11_see_12 : decode cX11_see 12 = .ok (.iload_n 1, 1) := by decide +kernel
theorem dX11_see_13 : decode cX11_see 13 = .ok (.iaload, 1) := by decide +kernel
theorem dX11_see_14 : decode cX11_see 14 = .ok (.goto 4, 3) := by decide +kernel
theorem dX11_see_17 : decode cX11_see 17 = .ok (.iconst (-1), 1) := by decide +kernel
theorem dX11_see_18 : decode cX11_see 18 = .ok (.ireturn, 1) := by decide +kernel
theorem dX11_isLetter_0 : decode cX11_isLetter 0 = .ok (.iload_n 0, 1) := by decide +kernel
theorem dX11_isLetter_1 : decode cX11_isLetter 1 = .ok (.bipush 97, 2) := by decide +kernel
theorem dX11_isLetter_3 : decode cX11_isLetter 3 = .ok (.bipush 122, 2) := by decide +kernel
theorem dX11_isLetter_5 : decode cX11_isLetter 5 = .ok (.invokestatic 93, 3) := by decide +kernel
theorem dX11_isLetter_8 : decode cX11_isLetter 8 = .ok (.ifCond .ne 14, 3) := by decide +kernel
theorem dX11_isLetter_11 : decode cX11_isLetter 11 = .ok (.iload_n 0, 1) := by decide +kernel
theorem dX11_isLetter_12 : decode cX11_isLetter 12 = .ok (.bipush 65, 2) := by decide +kernel
theorem dX11_isLetter_14 : decode cX11_isLetter 14 = .ok (.bipush 90, 2) := by decide +kernel
theorem dX11_isLetter_16 : decode cX11_isLetter 16 = .ok (.invokestatic 93, 3) := by decide +kernel
theorem dX11_isLetter_19 : decode cX11_isLetter 19 = .ok (.ifCond .eq 7, 3) := by decide +kernel
theorem dX11_isLetter_22 : decode cX11_isLetter 22 = .ok (.iconst 1, 1) := by decide +kernel
theorem dX11_isLetter_23 : decode cX11_isLetter 23 = .ok (.goto 4, 3) := by decide +kernel
theorem dX11_isLetter_26 : decode cX11_isLetter 26 = .ok (.iconst 0, 1) := by decide +kernel
theorem dX11_isLetter_27 : decode cX11_isLetter 27 = .ok (.ireturn, 1) := by decide +kernel
theorem dX11_isDigit_0 : decode cX11_isDigit 0 = .ok (.iload_n 0, 1) := by decide +kernel
theorem dX11_isDigit_1 : decode cX11_isDigit 1 = .ok (.bipush 48, 2) := by decide +kernel
theorem dX11_isDigit_3 : decode cX11_isDigit 3 = .ok (.bipush 57, 2) := by decide +kernel
theorem dX11_isDigit_5 : decode cX11_isDigit 5 = .ok (.invokestatic 93, 3) := by decide +kernel
theorem dX11_isDigit_8 : decode cX11_isDigit 8 = .ok (.ireturn, 1) := by decide +kernel
theorem dX11_is_0 : decode cX11_is 0 = .ok (.aload_n 0, 1) := by decide +kernel
theorem dX11_is_1 : decode cX11_is 1 = .ok (.getfield 115, 3) := by decide +kernel
theorem dX11_is_4 : decode cX11_is 4 = .ok (.aload_n 0, 1) := by decide +kernel
theorem dX11_is_5 : decode cX11_is 5 = .ok (.getfield 118, 3) := by decide +kernel
theorem dX11_is_8 : decode cX11_is 8 = .ok (.isub, 1) := by decide +kernel
theorem dX11_is_9 : decode cX11_is 9 = .ok (.aload_n 1, 1) := by decide +kernel
theorem dX11_is_10 : decode cX11_is 10 = .ok (.invokevirtual 121, 3) := by decide +kernel
theorem dX11_is_13 : decode cX11_is 13 = .ok (.if_icmp .ne 7, 3) := by decide +kernel
theorem dX11_is_16 : decode cX11_is 16 = .ok (.iconst 1, 1) := by decide +kernel
theorem dX11_is_17 : decode cX11_is 17 = .ok (.goto 4, 3) := by decide +kernel
theorem dX11_is_20 : decode cX11_is 20 = .ok (.iconst 0, 1) := by decide +kernel
theorem dX11_is_21 : decode cX11_is 21 = .ok (.istore_n 2, 1) := by decide +kernel
theorem dX11_is_22 : decode cX11_is 22 = .ok (.iconst 0, 1) := by decide +kernel
theorem dX11_is_23 : decode cX11_is 23 = .ok (.istore_n 3, 1) := by decide +kernel
theorem dX11_is_24 : decode cX11_is 24 = .ok (.iload_n 3, 1) := by decide +kernel
theorem dX11_is_25 : decode cX11_is 25 = .ok (.aload_n 1, 1) := by decide +kernel
theorem dX11_is_26 : decode cX11_is 26 = .ok (.invokevirtual 121, 3) := by decide +kernel
theorem dX11_is_29 : decode cX11_is 29 = .ok (.if_icmp .ge 38, 3) := by decide +kernel
theorem dX11_is_32 : decode cX11_is 32 = .ok (.iload_n 2, 1) := by decide +kernel
theorem dX11_is_33 : decode cX11_is 33 = .ok (.ifCond .eq 34, 3) := by decide +kernel
theorem dX11_is_36 : decode cX11_is 36 = .ok (.aload_n 0, 1) := by decide +kernel
theorem dX11_is_37 : decode cX11_is 37 = .ok (.getfield 22, 3) := by decide +kernel
theorem dX11_is_40 : decode cX11_is 40 = .ok (.aload_n 0, 1) := by decide +kernel
theorem dX11_is_41 : decode cX11_is 41 = .ok (.getfield 118, 3) := by decide +kernel
theorem dX11_is_44 : decode cX11_is 44 = .ok (.iload_n 3, 1) := by decide +kernel
theorem dX11_is_45 : decode cX11_is 45 = .ok (.iadd, 1) := by decide +kernel
theorem dX11_is_46 : decode cX11_is 46 = .ok (.iaload, 1) := by decide +kernel
theorem dX11_is_47 : decode cX11_is 47 = .ok (.aload_n 1, 1) := by decide +kernel
theorem dX11_is_48 : decode cX11_is 48 = .ok (.iload_n 3, 1) := by decide +kernel
theorem dX11_is_49 : decode cX11_is 49 = .ok (.invokevirtual 127, 3) := by decide +kernel
theorem dX11_is_52 : decode cX11_is 52 = .ok (.if_icmp .ne 7, 3) := by decide +kernel
theorem dX11_is_55 : decode cX11_is 55 = .ok (.iconst 1, 1) := by decide +kernel
theorem dX11_is_56 : decode cX11_is 56 = .ok (.goto 4, 3) := by decide +kernel
theorem dX11_is_59 : decode cX11_is 59 = .ok (.iconst 0, 1) := by decide +kernel
theorem dX11_is_60 : decode cX11_is 60 = .ok (.istore_n 2, 1) := by decide +kernel
theorem dX11_is_61 : decode cX11_is 61 = .ok (.iinc 3 1, 3) := by decide +kernel
theorem dX11_is_64 : decode cX11_is 64 = .ok (.goto (-40), 3) := by decide +kernel
theorem dX11_is_67 : decode cX11_is 67 = .ok (.iload_n 2, 1) := by decide +kernel
theorem dX11_is_68 : decode cX11_is 68 = .ok (.ireturn, 1) := by decide +kernel
theorem dX11_nameWord_0 : decode cX11_nameWord 0 = .ok (.aload_n 0, 1) := by decide +kernel
theorem dX11_nameWord_1 : decode cX11_nameWord 1 = .ok (.ldc 131, 2) := by decide +kernel
theorem dX11_nameWord_3 : decode cX11_nameWord 3 = .ok (.invokevirtual 133, 3) := by decide +kernel
theorem dX11_nameWord_6 : decode cX11_nameWord 6 = .ok (.ifCond .eq 6, 3) := by decide +kernel
theorem dX11_nameWord_9 : decode cX11_nameWord 9 = .ok (.bipush 41, 2) := by decide +kernel
theorem dX11_nameWord_11 : decode cX11_nameWord 11 = .ok (.ireturn, 1) := by decide +kernel
theorem dX11_nameWord_12 : decode cX11_nameWord 12 = .ok (.aload_n 0, 1) := by decide +kernel
theorem dX11_nameWord_13 : decode cX11_nameWord 13 = .ok (.ldc 137, 2) := by decide +kernel
theorem dX11_nameWord_15 : decode cX11_nameWord 15 = .ok (.invokevirtual 133, 3) := by decide +kernel
theorem dX11_nameWord_18 : decode cX11_nameWord 18 = .ok (.ifCond .eq 6, 3) := by decide +kernel
theorem dX11_nameWord_21 : decode cX11_nameWord 21 = .ok (.bipush 42, 2) := by decide +kernel
theorem dX11_nameWord_23 : decode cX11_nameWord 23 = .ok (.ireturn, 1) := by decide +kernel
theorem dX11_nameWord_24 : decode cX11_nameWord 24 = .ok (.aload_n 0, 1) := by decide +kernel
theorem dX11_nameWord_25 : decode cX11_nameWord 25 = .ok (.ldc 138, 2) := by decide +kernel
theorem dX11_nameWord_27 : decode cX11_nameWord 27 = .ok (.invokevirtual 133, 3) := by decide +kernel
theorem dX11_nameWord_30 : decode cX11_nameWord 30 = .ok (.ifCond .eq 6, 3) := by decide +kernel
theorem dX11_nameWord_33 : decode cX11_nameWord 33 = .ok (.bipush 43, 2) := by decide +kernel
theorem dX11_nameWord_35 : decode cX11_nameWord 35 = .ok (.ireturn, 1) := by decide +kernel
theorem dX11_nameWord_36 : decode cX11_nameWord 36 = .ok (.aload_n 0, 1) := by decide +kernel
theorem dX11_nameWord_37 : decode cX11_nameWord 37 = .ok (.ldc 140, 2) := by decide +kernel
theorem dX11_nameWord_39 : decode cX11_nameWord 39 = .ok (.invokevirtual 133, 3) := by decide +kernel
theorem dX11_nameWord_42 : decode cX11_nameWord 42 = .ok (.ifCond .eq 6, 3) := by decide +kernel
theorem dX11_nameWord_45 : decode cX11_nameWord 45 = .ok (.bipush 44, 2) := by decide +kernel
theorem dX11_nameWord_47 : decode cX11_nameWord 47 = .ok (.ireturn, 1) := by decide +kernel
theorem dX11_nameWord_48 : decode cX11_nameWord 48 = .ok (.aload_n 0, 1) := by decide +kernel
theorem dX11_nameWord_49 : decode cX11_nameWord 49 = .ok (.ldc 142, 2) := by decide +kernel
theorem dX11_nameWord_51 : decode cX11_nameWord 51 = .ok (.invokevirtual 133, 3) := by decide +kernel
theorem dX11_nameWord_54 : decode cX11_nameWord 54 = .ok (.ifCond .eq 6, 3) := by decide +kernel
theorem dX11_nameWord_57 : decode cX11_nameWord 57 = .ok (.bipush 45, 2) := by decide +kernel
theorem dX11_nameWord_59 : decode cX11_nameWord 59 = .ok (.ireturn, 1) := by decide +kernel
theorem dX11_nameWord_60 : decode cX11_nameWord 60 = .ok (.aload_n 0, 1) := by decide +kernel
theorem dX11_nameWord_61 : decode cX11_nameWord 61 = .ok (.ldc 144, 2) := by decide +kernel
theorem dX11_nameWord_63 : decode cX11_nameWord 63 = .ok (.invokevirtual 133, 3) := by decide +kernel
theorem dX11_nameWord_66 : decode cX11_nameWord 66 = .ok (.ifCond .eq 6, 3) := by decide +kernel
theorem dX11_nameWord_69 : decode cX11_nameWord 69 = .ok (.bipush 46, 2) := by decide +kernel
theorem dX11_nameWord_71 : decode cX11_nameWord 71 = .ok (.ireturn, 1) := by decide +kernel
theorem dX11_nameWord_72 : decode cX11_nameWord 72 = .ok (.aload_n 0, 1) := by decide +kernel
theorem dX11_nameWord_73 : decode cX11_nameWord 73 = .ok (.ldc 145, 2) := by decide +kernel
theorem dX11_nameWord_75 : decode cX11_nameWord 75 = .ok (.invokevirtual 133, 3) := by decide +kernel
theorem dX11_nameWord_78 : decode cX11_nameWord 78 = .ok (.ifCond .eq 6, 3) := by decide +kernel
theorem dX11_nameWord_81 : decode cX11_nameWord 81 = .ok (.bipush 47, 2) := by decide +kernel
theorem dX11_nameWord_83 : decode cX11_nameWord 83 = .ok (.ireturn, 1) := by decide +kernel
theorem dX11_nameWord_84 : decode cX11_nameWord 84 = .ok (.aload_n 0, 1) := by decide +kernel
theorem dX11_nameWord_85 : decode cX11_nameWord 85 = .ok (.ldc 146, 2) := by decide +kernel
theorem dX11_nameWord_87 : decode cX11_nameWord 87 = .ok (.invokevirtual 133, 3) := by decide +kernel
theorem dX11_nameWord_90 : decode cX11_nameWord 90 = .ok (.ifCond .eq 8, 3) := by decide +kernel
theorem dX11_nameWord_93 : decode cX11_nameWord 93 = .ok (.bipush 48, 2) := by decide +kernel
theorem dX11_nameWord_95 : decode cX11_nameWord 95 = .ok (.goto 4, 3) := by decide +kernel
theorem dX11_nameWord_98 : decode cX11_nameWord 98 = .ok (.iconst 1, 1) := by decide +kernel
theorem dX11_nameWord_99 : decode cX11_nameWord 99 = .ok (.ireturn, 1) := by decide +kernel
theorem dX11_word_0 : decode cX11_word 0 = .ok (.aload_n 0, 1) := by decide +kernel
theorem dX11_word_1 : decode cX11_word 1 = .ok (.ldc 147, 2) := by decide +kernel
theorem dX11_word_3 : decode cX11_word 3 = .ok (.invokevirtual 133, 3) := by decide +kernel
theorem dX11_word_6 : decode cX11_word 6 = .ok (.ifCond .eq 5, 3) := by decide +kernel
theorem dX11_word_9 : decode cX11_word 9 = .ok (.iconst 3, 1) := by decide +kernel
theorem dX11_word_10 : decode cX11_word 10 = .ok (.ireturn, 1) := by decide +kernel
theorem dX11_word_11 : decode cX11_word 11 = .ok (.aload_n 0, 1) := by decide +kernel
theorem dX11_word_12 : decode cX11_word 12 = .ok (.ldc 149, 2) := by decide +kernel
theorem dX11_word_14 : decode cX11_word 14 = .ok (.invokevirtual 133, 3) := by decide +kernel
theorem dX11_word_17 : decode cX11_word 17 = .ok (.ifCond .eq 5, 3) := by decide +kernel
theorem dX11_word_20 : decode cX11_word 20 = .ok (.iconst 4, 1) := by decide +kernel
theorem dX11_word_21 : decode cX11_word 21 = .ok (.ireturn, 1) := by decide +kernel
theorem dX11_word_22 : decode cX11_word 22 = .ok (.aload_n 0, 1) := by decide +kernel
theorem dX11_word_23 : decode cX11_word 23 = .ok (.ldc 151, 2) := by decide +kernel
theorem dX11_word_25 : decode cX11_word 25 = .ok (.invokevirtual 133, 3) := by decide +kernel
theorem dX11_word_28 : decode cX11_word 28 = .ok (.ifCond .eq 5, 3) := by decide +kernel
theorem dX11_word_31 : decode cX11_word 31 = .ok (.iconst 5, 1) := by decide +kernel
theorem dX11_word_32 : decode cX11_word 32 = .ok (.ireturn, 1) := by decide +kernel
theorem dX11_word_33 : decode cX11_word 33 = .ok (.aload_n 0, 1) := by decide +kernel
theorem dX11_word_34 : decode cX11_word 34 = .ok (.ldc 153, 2) := by decide +kernel
theorem dX11_word_36 : decode cX11_word 36 = .ok (.invokevirtual 133, 3) := by decide +kernel
theorem dX11_word_39 : decode cX11_word 39 = .ok (.ifCond .eq 6, 3) := by decide +kernel
theorem dX11_word_42 : decode cX11_word 42 = .ok (.bipush 6, 2) := by decide +kernel
theorem dX11_word_44 : decode cX11_word 44 = .ok (.ireturn, 1) := by decide +kernel
theorem dX11_word_45 : decode cX11_word 45 = .ok (.aload_n 0, 1) := by decide +kernel
theorem dX11_word_46 : decode cX11_word 46 = .ok (.ldc 155, 2) := by decide +kernel
theorem dX11_word_48 : decode cX11_word 48 = .ok (.invokevirtual 133, 3) := by decide +kernel
theorem dX11_word_51 : decode cX11_word 51 = .ok (.ifCond .eq 8, 3) := by decide +kernel
theorem dX11_word_54 : decode cX11_word 54 = .ok (.bipush 20, 2) := by decide +kernel
theorem dX11_word_56 : decode cX11_word 56 = .ok (.goto 7, 3) := by decide +kernel
theorem dX11_word_59 : decode cX11_word 59 = .ok (.aload_n 0, 1) := by decide +kernel
theorem dX11_word_60 : decode cX11_word 60 = .ok (.invokevirtual 157, 3) := by decide +kernel
theorem dX11_word_63 : decode cX11_word 63 = .ok (.ireturn, 1) := by decide +kernel
theorem dX11_next0_0 : decode cX11_next0 0 = .ok (.aload_n 0, 1) := by decide +kernel
theorem dX11_next0_1 : decode cX11_next0 1 = .ok (.aload_n 0, 1) := by decide +kernel
theorem dX11_next0_2 : decode cX11_next0 2 = .ok (.getfield 115, 3) := by decide +kernel
theorem dX11_next0_5 : decode cX11_next0 5 = .ok (.invokevirtual 160, 3) := by decide +kernel
theorem dX11_next0_8 : decode cX11_next0 8 = .ok (.bipush 32, 2) := by decide +kernel
theorem dX11_next0_10 : decode cX11_next0 10 = .ok (.if_icmp .eq 16, 3) := by decide +kernel
theorem dX11_next0_13 : decode cX11_next0 13 = .ok (.aload_n 0, 1) := by decide +kernel
theorem dX11_next0_14 : decode cX11_next0 14 = .ok (.aload_n 0, 1) := by decide +kernel
theorem dX11_next0_15 : decode cX11_next0 15 = .ok (.getfield 115, 3) := by decide +kernel
theorem dX11_next0_18 : decode cX11_next0 18 = .ok (.invokevirtual 160, 3) := by decide +kernel
theorem dX11_next0_21 : decode cX11_next0 21 = .ok (.bipush 10, 2) := by decide +kernel
theorem dX11_next0_23 : decode cX11_next0 23 = .ok (.if_icmp .ne 16, 3) := by decide +kernel
theorem dX11_next0_26 : decode cX11_next0 26 = .ok (.aload_n 0, 1) := by decide +kernel
theorem dX11_next0_27 : decode cX11_next0 27 = .ok (.dup, 1) := by decide +kernel
theorem dX11_next0_28 : decode cX11_next0 28 = .ok (.getfield 115, 3) := by decide +kernel
theorem dX11_next0_31 : decode cX11_next0 31 = .ok (.iconst 1, 1) := by decide +kernel
theorem dX11_next0_32 : decode cX11_next0 32 = .ok (.iadd, 1) := by decide +kernel
theorem dX11_next0_33 : decode cX11_next0 33 = .ok (.putfield 115, 3) := by decide +kernel
theorem dX11_next0_36 : decode cX11_next0 36 = .ok (.goto (-36), 3) := by decide +kernel
theorem dX11_next0_39 : decode cX11_next0 39 = .ok (.aload_n 0, 1) := by decide +kernel
theorem dX11_next0_40 : decode cX11_next0 40 = .ok (.aload_n 0, 1) := by decide +kernel
theorem dX11_next0_41 : decode cX11_next0 41 = .ok (.getfield 115, 3) := by decide +kernel
theorem dX11_next0_44 : decode cX11_next0 44 = .ok (.putfield 118, 3) := by decide +kernel
theorem dX11_next0_47 : decode cX11_next0 47 = .ok (.aload_n 0, 1) := by decide +kernel
theorem dX11_next0_48 : decode cX11_next0 48 = .ok (.aload_n 0, 1) := by decide +kernel
theorem dX11_next0_49 : decode cX11_next0 49 = .ok (.getfield 115, 3) := by decide +kernel
theorem dX11_next0_52 : decode cX11_next0 52 = .ok (.invokevirtual 160, 3) := by decide +kernel
theorem dX11_next0_55 : decode cX11_next0 55 = .ok (.istore_n 1, 1) := by decide +kernel
theorem dX11_next0_56 : decode cX11_next0 56 = .ok (.iload_n 1, 1) := by decide +kernel
theorem dX11_next0_57 : decode cX11_next0 57 = .ok (.iconst (-1), 1) := by decide +kernel
theorem dX11_next0_58 : decode cX11_next0 58 = .ok (.if_icmp .ne 11, 3) := by decide +kernel
theorem dX11_next0_61 : decode cX11_next0 61 = .ok (.aload_n 0, 1) := by decide +kernel
theorem dX11_next0_62 : decode cX11_next0 62 = .ok (.iconst 0, 1) := by decide +kernel
theorem dX11_next0_63 : decode cX11_next0 63 = .ok (.putfield 163, 3) := by decide +kernel
theorem dX11_next0_66 : decode cX11_next0 66 = .ok (.goto 240, 3) := by decide +kernel
theorem dX11_next0_69 : decode cX11_next0 69 = .ok (.iload_n 1, 1) := by decide +kernel
theorem dX11_next0_70 : decode cX11_next0 70 = .ok (.invokestatic 166, 3) := by decide +kernel
theorem dX11_next0_73 : decode cX11_next0 73 = .ok (.ifCond .eq 41, 3) := by decide +kernel
theorem dX11_next0_76 : decode cX11_next0 76 = .ok (.aload_n 0, 1) := by decide +kernel
theorem dX11_next0_77 : decode cX11_next0 77 = .ok (.aload_n 0, 1) := by decide +kernel
theorem dX11_next0_78 : decode cX11_next0 78 = .ok (.getfield 115, 3) := by decide +kernel
theorem dX11_next0_81 : decode cX11_next0 81 = .ok (.invokevirtual 160, 3) := by decide +kernel
theorem dX11_next0_84 : decode cX11_next0 84 = .ok (.invokestatic 166, 3) := by decide +kernel
theorem dX11_next0_87 : decode cX11_next0 87 = .ok (.ifCond .eq 16, 3) := by decide +kernel
theorem dX11_next0_90 : decode cX11_next0 90 = .ok (.aload_n 0, 1) := by decide +kernel
theorem dX11_next0_91 : decode cX11_next0 91 = .ok (.dup, 1) := by decide +kernel
theorem dX11_next0_92 : decode cX11_next0 92 = .ok (.getfield 115, 3) := by decide +kernel
theorem dX11_next0_95 : decode cX11_next0 95 = .ok (.iconst 1, 1) := by decide +kernel
theorem dX11_next0_96 : decode cX11_next0 96 = .ok (.iadd, 1) := by decide +kernel
theorem dX11_next0_97 : decode cX11_next0 97 = .ok (.putfield 115, 3) := by decide +kernel
theorem dX11_next0_100 : decode cX11_next0 100 = .ok (.goto (-24), 3) := by decide +kernel
theorem dX11_next0_103 : decode cX11_next0 103 = .ok (.aload_n 0, 1) := by decide +kernel
theorem dX11_next0_104 : decode cX11_next0 104 = .ok (.aload_n 0, 1) := by decide +kernel
theorem dX11_next0_105 : decode cX11_next0 105 = .ok (.invokevirtual 169, 3) := by decide +kernel
theorem dX11_next0_108 : decode cX11_next0 108 = .ok (.putfield 163, 3) := by decide +kernel
theorem dX11_next0_111 : decode cX11_next0 111 = .ok (.goto 195, 3) := by decide +kernel
theorem dX11_next0_114 : decode cX11_next0 114 = .ok (.iload_n 1, 1) := by decide +kernel
theorem dX11_next0_115 : decode cX11_next0 115 = .ok (.invokestatic 172, 3) := by decide +kernel
theorem dX11_next0_118 : decode cX11_next0 118 = .ok (.ifCond .eq 96, 3) := by decide +kernel
theorem dX11_next0_121 : decode cX11_next0 121 = .ok (.aload_n 0, 1) := by decide +kernel
theorem dX11_next0_122 : decode cX11_next0 122 = .ok (.iconst 0, 1) := by decide +kernel
theorem dX11_next0_123 : decode cX11_next0 123 = .ok (.putfield 175, 3) := by decide +kernel
theorem dX11_next0_126 : decode cX11_next0 126 = .ok (.aload_n 0, 1) := by decide +kernel
theorem dX11_next0_127 : decode cX11_next0 127 = .ok (.aload_n 0, 1) := by decide +kernel
theorem dX11_next0_128 : decode cX11_next0 128 = .ok (.getfield 115, 3) := by decide +kernel
theorem dX11_next0_131 : decode cX11_next0 131 = .ok (.invokevirtual 160, 3) := by decide +kernel
theorem dX11_next0_134 : decode cX11_next0 134 = .ok (.invokestatic 172, 3) := by decide +kernel
theorem dX11_next0_137 : decode cX11_next0 137 = .ok (.ifCond .eq 52, 3) := by decide +kernel
theorem dX11_next0_140 : decode cX11_next0 140 = .ok (.aload_n 0, 1) := by decide +kernel
theorem dX11_next0_141 : decode cX11_next0 141 = .ok (.getfield 115, 3) := by decide +kernel
theorem dX11_next0_144 : decode cX11_next0 144 = .ok (.aload_n 0, 1) := by decide +kernel
theorem dX11_next0_145 : decode cX11_next0 145 = .ok (.getfield 118, 3) := by decide +kernel
theorem dX11_next0_148 : decode cX11_next0 148 = .ok (.iconst 4, 1) := by decide +kernel
theorem dX11_next0_149 : decode cX11_next0 149 = .ok (.iadd, 1) := by decide +kernel
theorem dX11_next0_150 : decode cX11_next0 150 = .ok (.if_icmp .ge 26, 3) := by decide +kernel
theorem dX11_next0_153 : decode cX11_next0 153 = .ok (.aload_n 0, 1) := by decide +kernel
theorem dX11_next0_154 : decode cX11_next0 154 = .ok (.bipush 10, 2) := by decide +kernel
theorem dX11_next0_156 : decode cX11_next0 156 = .ok (.aload_n 0, 1) := by decide +kernel
theorem dX11_next0_157 : decode cX11_next0 157 = .ok (.getfield 175, 3) := by decide +kernel
theorem dX11_next0_160 : decode cX11_next0 160 = .ok (.imul, 1) := by decide +kernel
theorem dX11_next0_161 : decode cX11_next0 161 = .ok (.aload_n 0, 1) := by decide +kernel
theorem dX11_next0_162 : decode cX11_next0 162 = .ok (.aload_n 0, 1) := by decide +kernel
theorem dX11_next0_163 : decode cX11_next0 163 = .ok (.getfield 115, 3) := by decide +kernel
theorem dX11_next0_166 : decode cX11_next0 166 = .ok (.invokevirtual 160, 3) := by decide +kernel
theorem dX11_next0_169 : decode cX11_next0 169 = .ok (.iadd, 1) := by decide +kernel
theorem dX11_next0_170 : decode cX11_next0 170 = .ok (.bipush 48, 2) := by decide +kernel
theorem dX11_next0_172 : decode cX11_next0 172 = .ok (.isub, 1) := by decide +kernel
theorem dX11_next0_173 : decode cX11_next0 173 = .ok (.putfield 175, 3) := by decide +kernel
theorem dX11_next0_176 : decode cX11_next0 176 = .ok (.aload_n 0, 1) := by decide +kernel
theorem dX11_next0_177 : decode cX11_next0 177 = .ok (.dup, 1) := by decide +kernel
theorem dX11_next0_178 : decode cX11_next0 178 = .ok (.getfield 115, 3) := by decide +kernel
theorem dX11_next0_181 : decode cX11_next0 181 = .ok (.iconst 1, 1) := by decide +kernel
theorem dX11_next0_182 : decode cX11_next0 182 = .ok (.iadd, 1) := by decide +kernel
theorem dX11_next0_183 : decode cX11_next0 183 = .ok (.putfield 115, 3) := by decide +kernel
theorem dX11_next0_186 : decode cX11_next0 186 = .ok (.goto (-60), 3) := by decide +kernel
theorem dX11_next0_189 : decode cX11_next0 189 = .ok (.aload_n 0, 1) := by decide +kernel
theorem dX11_next0_190 : decode cX11_next0 190 = .ok (.aload_n 0, 1) := by decide +kernel
theorem dX11_next0_191 : decode cX11_next0 191 = .ok (.getfield 115, 3) := by decide +kernel
theorem dX11_next0_194 : decode cX11_next0 194 = .ok (.aload_n 0, 1) := by decide +kernel
theorem dX11_next0_195 : decode cX11_next0 195 = .ok (.getfield 118, 3) := by decide +kernel
theorem dX11_next0_198 : decode cX11_next0 198 = .ok (.isub, 1) := by decide +kernel
theorem dX11_next0_199 : decode cX11_next0 199 = .ok (.iconst 5, 1) := by decide +kernel
theorem dX11_next0_200 : decode cX11_next0 200 = .ok (.if_icmp .ge 7, 3) := by decide +kernel
theorem dX11_next0_203 : decode cX11_next0 203 = .ok (.iconst 2, 1) := by decide +kernel
theorem dX11_next0_204 : decode cX11_next0 204 = .ok (.goto 4, 3) := by decide +kernel
theorem dX11_next0_207 : decode cX11_next0 207 = .ok (.iconst 1, 1) := by decide +kernel
theorem dX11_next0_208 : decode cX11_next0 208 = .ok (.putfield 163, 3) := by decide +kernel
theorem dX11_next0_211 : decode cX11_next0 211 = .ok (.goto 95, 3) := by decide +kernel
theorem dX11_next0_214 : decode cX11_next0 214 = .ok (.aload_n 0, 1) := by decide +kernel
theorem dX11_next0_215 : decode cX11_next0 215 = .ok (.dup, 1) := by decide +kernel
theorem dX11_next0_216 : decode cX11_next0 216 = .ok (.getfield 115, 3) := by decide +kernel
theorem dX11_next0_219 : decode cX11_next0 219 = .ok (.iconst 1, 1) := by decide +kernel
theorem dX11_next0_220 : decode cX11_next0 220 = .ok (.iadd, 1) := by decide +kernel
theorem dX11_next0_221 : decode cX11_next0 221 = .ok (.putfield 115, 3) := by decide +kernel
theorem dX11_next0_224 : decode cX11_next0 224 = .ok (.iload_n 1, 1) := by decide +kernel
theorem dX11_next0_225 : decode cX11_next0 225 = .ok (.bipush 59, 2) := by decide +kernel
theorem dX11_next0_227 : decode cX11_next0 227 = .ok (.if_icmp .eq 57, 3) := by decide +kernel
theorem dX11_next0_230 : decode cX11_next0 230 = .ok (.iload_n 1, 1) := by decide +kernel
theorem dX11_next0_231 : decode cX11_next0 231 = .ok (.bipush 43, 2) := by decide +kernel
theorem dX11_next0_233 : decode cX11_next0 233 = .ok (.if_icmp .eq 51, 3) := by decide +kernel
theorem dX11_next0_236 : decode cX11_next0 236 = .ok (.iload_n 1, 1) := by decide +kernel
theorem dX11_next0_237 : decode cX11_next0 237 = .ok (.bipush 45, 2) := by decide +kernel
theorem dX11_next0_239 : decode cX11_next0 239 = .ok (.if_icmp .eq 45, 3) := by decide +kernel
theorem dX11_next0_242 : decode cX11_next0 242 = .ok (.iload_n 1, 1) := by decide +kernel
theorem dX11_next0_243 : decode cX11_next0 243 = .ok (.bipush 42, 2) := by decide +kernel
theorem dX11_next0_245 : decode cX11_next0 245 = .ok (.if_icmp .eq 39, 3) := by decide +kernel
theorem dX11_next0_248 : decode cX11_next0 248 = .ok (.iload_n 1, 1) := by decide +kernel
theorem dX11_next0_249 : decode cX11_next0 249 = .ok (.bipush 47, 2) := by decide +kernel
theorem dX11_next0_251 : decode cX11_next0 251 = .ok (.if_icmp .eq 33, 3) := by decide +kernel
theorem dX11_next0_254 : decode cX11_next0 254 = .ok (.iload_n 1, 1) := by decide +kernel
theorem dX11_next0_255 : decode cX11_next0 255 = .ok (.bipush 40, 2) := by decide +kernel
theorem dX11_next0_257 : decode cX11_next0 257 = .ok (.if_icmp .eq 27, 3) := by decide +kernel
theorem dX11_next0_260 : decode cX11_next0 260 = .ok (.iload_n 1, 1) := by decide +kernel
theorem dX11_next0_261 : decode cX11_next0 261 = .ok (.bipush 41, 2) := by decide +kernel
theorem dX11_next0_263 : decode cX11_next0 263 = .ok (.if_icmp .eq 21, 3) := by decide +kernel
theorem dX11_next0_266 : decode cX11_next0 266 = .ok (.iload_n 1, 1) := by decide +kernel
theorem dX11_next0_267 : decode cX11_next0 267 = .ok (.bipush 60, 2) := by decide +kernel
theorem dX11_next0_269 : decode cX11_next0 269 = .ok (.if_icmp .eq 15, 3) := by decide +kernel
theorem dX11_next0_272 : decode cX11_next0 272 = .ok (.iload_n 1, 1) := by decide +kernel
theorem dX11_next0_273 : decode cX11_next0 273 = .ok (.bipush 61, 2) := by decide +kernel
theorem dX11_next0_275 : decode cX11_next0 275 = .ok (.if_icmp .eq 9, 3) := by decide +kernel
theorem dX11_next0_278 : decode cX11_next0 278 = .ok (.iload_n 1, 1) := by decide +kernel
theorem dX11_next0_279 : decode cX11_next0 279 = .ok (.bipush 62, 2) := by decide +kernel
theorem dX11_next0_281 : decode cX11_next0 281 = .ok (.if_icmp .ne 7, 3) := by decide +kernel
theorem dX11_next0_284 : decode cX11_next0 284 = .ok (.iconst 1, 1) := by decide +kernel
theorem dX11_next0_285 : decode cX11_next0 285 = .ok (.goto 4, 3) := by decide +kernel
theorem dX11_next0_288 : decode cX11_next0 288 = .ok (.iconst 0, 1) := by decide +kernel
theorem dX11_next0_289 : decode cX11_next0 289 = .ok (.istore_n 2, 1) := by decide +kernel
theorem dX11_next0_290 : decode cX11_next0 290 = .ok (.aload_n 0, 1) := by decide +kernel
theorem dX11_next0_291 : decode cX11_next0 291 = .ok (.iload_n 2, 1) := by decide +kernel
theorem dX11_next0_292 : decode cX11_next0 292 = .ok (.ifCond .eq 10, 3) := by decide +kernel
theorem dX11_next0_295 : decode cX11_next0 295 = .ok (.bipush 100, 2) := by decide +kernel
theorem dX11_next0_297 : decode cX11_next0 297 = .ok (.iload_n 1, 1) := by decide +kernel
theorem dX11_next0_298 : decode cX11_next0 298 = .ok (.iadd, 1) := by decide +kernel
theorem dX11_next0_299 : decode cX11_next0 299 = .ok (.goto 4, 3) := by decide +kernel
theorem dX11_next0_302 : decode cX11_next0 302 = .ok (.iconst 1, 1) := by decide +kernel
theorem dX11_next0_303 : decode cX11_next0 303 = .ok (.putfield 163, 3) := by decide +kernel
theorem dX11_next0_306 : decode cX11_next0 306 = .ok (.return_, 1) := by decide +kernel
theorem dX11_bad_0 : decode cX11_bad 0 = .ok (.aload_n 0, 1) := by decide +kernel
theorem dX11_bad_1 : decode cX11_bad 1 = .ok (.iload_n 1, 1) := by decide +kernel
theorem dX11_bad_2 : decode cX11_bad 2 = .ok (.putfield 178, 3) := by decide +kernel
theorem dX11_bad_5 : decode cX11_bad 5 = .ok (.aload_n 0, 1) := by decide +kernel
theorem dX11_bad_6 : decode cX11_bad 6 = .ok (.aload_n 0, 1) := by decide +kernel
theorem dX11_bad_7 : decode cX11_bad 7 = .ok (.getfield 118, 3) := by decide +kernel
theorem dX11_bad_10 : decode cX11_bad 10 = .ok (.putfield 181, 3) := by decide +kernel
theorem dX11_bad_13 : decode cX11_bad 13 = .ok (.iconst 0, 1) := by decide +kernel
theorem dX11_bad_14 : decode cX11_bad 14 = .ok (.ireturn, 1) := by decide +kernel
theorem dX11_need_0 : decode cX11_need 0 = .ok (.aload_n 0, 1) := by decide +kernel
theorem dX11_need_1 : decode cX11_need 1 = .ok (.getfield 163, 3) := by decide +kernel
theorem dX11_need_4 : decode cX11_need 4 = .ok (.iload_n 1, 1) := by decide +kernel
theorem dX11_need_5 : decode cX11_need 5 = .ok (.if_icmp .eq 9, 3) := by decide +kernel
theorem dX11_need_8 : decode cX11_need 8 = .ok (.aload_n 0, 1) := by decide +kernel
theorem dX11_need_9 : decode cX11_need 9 = .ok (.iconst 1, 1) := by decide +kernel
theorem dX11_need_10 : decode cX11_need 10 = .ok (.invokevirtual 184, 3) := by decide +kernel
theorem dX11_need_13 : decode cX11_need 13 = .ok (.ireturn, 1) := by decide +kernel
theorem dX11_need_14 : decode cX11_need 14 = .ok (.aload_n 0, 1) := by decide +kernel
theorem dX11_need_15 : decode cX11_need 15 = .ok (.invokevirtual 187, 3) := by decide +kernel
theorem dX11_need_18 : decode cX11_need 18 = .ok (.iconst 1, 1) := by decide +kernel
theorem dX11_need_19 : decode cX11_need 19 = .ok (.ireturn, 1) := by decide +kernel
theorem dX11_lay_0 : decode cX11_lay 0 = .ok (.aload_n 0, 1) := by decide +kernel
theorem dX11_lay_1 : decode cX11_lay 1 = .ok (.getfield 19, 3) := by decide +kernel
theorem dX11_lay_4 : decode cX11_lay 4 = .ok (.iconst 2, 1) := by decide +kernel
theorem dX11_lay_5 : decode cX11_lay 5 = .ok (.aload_n 0, 1) := by decide +kernel
theorem dX11_lay_6 : decode cX11_lay 6 = .ok (.getfield 190, 3) := by decide +kernel
theorem dX11_lay_9 : decode cX11_lay 9 = .ok (.imul, 1) := by decide +kernel
theorem dX11_lay_10 : decode cX11_lay 10 = .ok (.iload_n 1, 1) := by decide +kernel
theorem dX11_lay_11 : decode cX11_lay 11 = .ok (.iastore, 1) := by decide +kernel
theorem dX11_lay_12 : decode cX11_lay 12 = .ok (.aload_n 0, 1) := by decide +kernel
theorem dX11_lay_13 : decode cX11_lay 13 = .ok (.getfield 19, 3) := by decide +kernel
theorem dX11_lay_16 : decode cX11_lay 16 = .ok (.iconst 2, 1) := by decide +kernel
theorem dX11_lay_17 : decode cX11_lay 17 = .ok (.aload_n 0, 1) := by decide +kernel
theorem dX11_lay_18 : decode cX11_lay 18 = .ok (.getfield 190, 3) := by decide +kernel
theorem dX11_lay_21 : decode cX11_lay 21 = .ok (.imul, 1) := by decide +kernel
theorem dX11_lay_22 : decode cX11_lay 22 = .ok (.iconst 1, 1) := by decide +kernel
theorem dX11_lay_23 : decode cX11_lay 23 = .ok (.iadd, 1) := by decide +kernel
theorem dX11_lay_24 : decode cX11_lay 24 = .ok (.iload_n 2, 1) := by decide +kernel
theorem dX11_lay_25 : decode cX11_lay 25 = .ok (.iastore, 1) := by decide +kernel
theorem dX11_lay_26 : decode cX11_lay 26 = .ok (.aload_n 0, 1) := by decide +kernel
theorem dX11_lay_27 : decode cX11_lay 27 = .ok (.dup, 1) := by decide +kernel
theorem dX11_lay_28 : decode cX11_lay 28 = .ok (.getfield 190, 3) := by decide +kernel
theorem dX11_lay_31 : decode cX11_lay 31 = .ok (.iconst 1, 1) := by decide +kernel
theorem dX11_lay_32 : decode cX11_lay 32 = .ok (.iadd, 1) := by decide +kernel
theorem dX11_lay_33 : decode cX11_lay 33 = .ok (.putfield 190, 3) := by decide +kernel
theorem dX11_lay_36 : decode cX11_lay 36 = .ok (.return_, 1) := by decide +kernel
theorem dX11_opens_0 : decode cX11_opens 0 = .ok (.aload_n 0, 1) := by decide +kernel
theorem dX11_opens_1 : decode cX11_opens 1 = .ok (.getfield 193, 3) := by decide +kernel
theorem dX11_opens_4 : decode cX11_opens 4 = .ok (.bipush 8, 2) := by decide +kernel
theorem dX11_opens_6 : decode cX11_opens 6 = .ok (.if_icmp .ne 9, 3) := by decide +kernel
theorem dX11_opens_9 : decode cX11_opens 9 = .ok (.aload_n 0, 1) := by decide +kernel
theorem dX11_opens_10 : decode cX11_opens 10 = .ok (.iconst 3, 1) := by decide +kernel
theorem dX11_opens_11 : decode cX11_opens 11 = .ok (.invokevirtual 184, 3) := by decide +kernel
theorem dX11_opens_14 : decode cX11_opens 14 = .ok (.ireturn, 1) := by decide +kernel
theorem dX11_opens_15 : decode cX11_opens 15 = .ok (.aload_n 0, 1) := by decide +kernel
theorem dX11_opens_16 : decode cX11_opens 16 = .ok (.dup, 1) := by decide +kernel
theorem dX11_opens_17 : decode cX11_opens 17 = .ok (.getfield 193, 3) := by decide +kernel
theorem dX11_opens_20 : decode cX11_opens 20 = .ok (.iconst 1, 1) := by decide +kernel
theorem dX11_opens_21 : decode cX11_opens 21 = .ok (.iadd, 1) := by decide +kernel
theorem dX11_opens_22 : decode cX11_opens 22 = .ok (.putfield 193, 3) := by decide +kernel
theorem dX11_opens_25 : decode cX11_opens 25 = .ok (.aload_n 0, 1) := by decide +kernel
theorem dX11_opens_26 : decode cX11_opens 26 = .ok (.invokevirtual 187, 3) := by decide +kernel
theorem dX11_opens_29 : decode cX11_opens 29 = .ok (.iconst 1, 1) := by decide +kernel
theorem dX11_opens_30 : decode cX11_opens 30 = .ok (.ireturn, 1) := by decide +kernel
theorem dX11_sumUp_0 : decode cX11_sumUp 0 = .ok (.aload_n 0, 1) := by decide +kernel
theorem dX11_sumUp_1 : decode cX11_sumUp 1 = .ok (.invokevirtual 196, 3) := by decide +kernel
theorem dX11_sumUp_4 : decode cX11_sumUp 4 = .ok (.ifCond .ne 5, 3) := by decide +kernel
theorem dX11_sumUp_7 : decode cX11_sumUp 7 = .ok (.iconst 0, 1) := by decide +kernel
theorem dX11_sumUp_8 : decode cX11_sumUp 8 = .ok (.ireturn, 1) := by decide +kernel
theorem dX11_sumUp_9 : decode cX11_sumUp 9 = .ok (.aload_n 0, 1) := by decide +kernel
theorem dX11_sumUp_10 : decode cX11_sumUp 10 = .ok (.getfield 163, 3) := by decide +kernel
theorem dX11_sumUp_13 : decode cX11_sumUp 13 = .ok (.sipush 143, 3) := by decide +kernel
theorem dX11_sumUp_16 : decode cX11_sumUp 16 = .ok (.if_icmp .eq 13, 3) := by decide +kernel
theorem dX11_sumUp_19 : decode cX11_sumUp 19 = .ok (.aload_n 0, 1) := by decide +kernel
theorem dX11_sumUp_20 : decode cX11_sumUp 20 = .ok (.getfield 163, 3) := by decide +kernel
theorem dX11_sumUp_23 : decode cX11_sumUp 23 = .ok (.sipush 145, 3) := by decide +kernel
theorem dX11_sumUp_26 : decode cX11_sumUp 26 = .ok (.if_icmp .ne 43, 3) := by decide +kernel
theorem dX11_sumUp_29 : decode cX11_sumUp 29 = .ok (.aload_n 0, 1) := by decide +kernel
theorem dX11_sumUp_30 : decode cX11_sumUp 30 = .ok (.getfield 163, 3) := by decide +kernel
theorem dX11_sumUp_33 : decode cX11_sumUp 33 = .ok (.sipush 143, 3) := by decide +kernel
theorem dX11_sumUp_36 : decode cX11_sumUp 36 = .ok (.if_icmp .ne 8, 3) := by decide +kernel
theorem dX11_sumUp_39 : decode cX11_sumUp 39 = .ok (.bipush 13, 2) := by decide +kernel
theorem dX11_sumUp_41 : decode cX11_sumUp 41 = .ok (.goto 5, 3) := by decide +kernel
theorem dX11_sumUp_44 : decode cX11_sumUp 44 = .ok (.bipush 14, 2) := by decide +kernel
theorem dX11_sumUp_46 : decode cX11_sumUp 46 = .ok (.istore_n 1, 1) := by decide +kernel
theorem dX11_sumUp_47 : decode cX11_sumUp 47 = .ok (.aload_n 0, 1) := by decide +kernel
theorem dX11_sumUp_48 : decode cX11_sumUp 48 = .ok (.invokevirtual 187, 3) := by decide +kernel
theorem dX11_sumUp_51 : decode cX11_sumUp 51 = .ok (.aload_n 0, 1) := by decide +kernel
theorem dX11_sumUp_52 : decode cX11_sumUp 52 = .ok (.invokevirtual 196, 3) := by decide +kernel
theorem dX11_sumUp_55 : decode cX11_sumUp 55 = .ok (.ifCond .ne 5, 3) := by decide +kernel
theorem dX11_sumUp_58 : decode cX11_sumUp 58 = .ok (.iconst 0, 1) := by decide +kernel
theorem dX11_sumUp_59 : decode cX11_sumUp 59 = .ok (.ireturn, 1) := by decide +kernel
theorem dX11_sumUp_60 : decode cX11_sumUp 60 = .ok (.aload_n 0, 1) := by decide +kernel
theorem dX11_sumUp_61 : decode cX11_sumUp 61 = .ok (.iload_n 1, 1) := by decide +kernel
theorem dX11_sumUp_62 : decode cX11_sumUp 62 = .ok (.iconst 0, 1) := by decide +kernel
theorem dX11_sumUp_63 : decode cX11_sumUp 63 = .ok (.invokevirtual 200, 3) := by decide +kernel
theorem dX11_sumUp_66 : decode cX11_sumUp 66 = .ok (.goto (-57), 3) := by decide +kernel
theorem dX11_sumUp_69 : decode cX11_sumUp 69 = .ok (.iconst 1, 1) := by decide +kernel
theorem dX11_sumUp_70 : decode cX11_sumUp 70 = .ok (.ireturn, 1) := by decide +kernel
theorem dX11_product_0 : decode cX11_product 0 = .ok (.aload_n 0, 1) := by decide +kernel
theorem dX11_product_1 : decode cX11_product 1 = .ok (.invokevirtual 204, 3) := by decide +kernel
theorem dX11_product_4 : decode cX11_product 4 = .ok (.ifCond .ne 5, 3) := by decide +kernel
theorem dX11_product_7 : decode cX11_product 7 = .ok (.iconst 0, 1) := by decide +kernel
theorem dX11_product_8 : decode cX11_product 8 = .ok (.ireturn, 1) := by decide +kernel
theorem dX11_product_9 : decode cX11_product 9 = .ok (.aload_n 0, 1) := by decide +kernel
theorem dX11_product_10 : decode cX11_product 10 = .ok (.getfield 163, 3) := by decide +kernel
theorem dX11_product_13 : decode cX11_product 13 = .ok (.sipush 142, 3) := by decide +kernel
theorem dX11_product_16 : decode cX11_product 16 = .ok (.if_icmp .eq 13, 3) := by decide +kernel
theorem dX11_product_19 : decode cX11_product 19 = .ok (.aload_n 0, 1) := by decide +kernel
theorem dX11_product_20 : decode cX11_product 20 = .ok (.getfield 163, 3) := by decide +kernel
theorem dX11_product_23 : decode cX11_product 23 = .ok (.sipush 147, 3) := by decide +kernel
theorem dX11_product_26 : decode cX11_product 26 = .ok (.if_icmp .ne 89, 3) := by decide +kernel
theorem dX11_product_29 : decode cX11_product 29 = .ok (.aload_n 0, 1) := by decide +kernel
theorem dX11_product_30 : decode cX11_product 30 = .ok (.getfield 163, 3) := by decide +kernel
theorem dX11_product_33 : decode cX11_product 33 = .ok (.sipush 147, 3) := by decide +kernel
theorem dX11_product_36 : decode cX11_product 36 = .ok (.if_icmp .ne 7, 3) := by decide +kernel
theorem dX11_product_39 : decode cX11_product 39 = .ok (.iconst 1, 1) := by decide +kernel
theorem dX11_product_40 : decode cX11_product 40 = .ok (.goto 4, 3) := by decide +kernel
theorem dX11_product_43 : decode cX11_product 43 = .ok (.iconst 0, 1) := by decide +kernel
theorem dX11_product_44 : decode cX11_product 44 = .ok (.istore_n 1, 1) := by decide +kernel
theorem dX11_product_45 : decode cX11_product 45 = .ok (.aload_n 0, 1) := by decide +kernel
theorem dX11_product_46 : decode cX11_product 46 = .ok (.invokevirtual 187, 3) := by decide +kernel
theorem dX11_product_49 : decode cX11_product 49 = .ok (.iload_n 1, 1) := by decide +kernel
theorem dX11_product_50 : decode cX11_product 50 = .ok (.ifCond .eq 46, 3) := by decide +kernel
theorem dX11_product_53 : decode cX11_product 53 = .ok (.aload_n 0, 1) := by decide +kernel
theorem dX11_product_54 : decode cX11_product 54 = .ok (.getfield 175, 3) := by decide +kernel
theorem dX11_product_57 : decode cX11_product 57 = .ok (.istore_n 2, 1) := by decide +kernel
theorem dX11_product_58 : decode cX11_product 58 = .ok (.aload_n 0, 1) := by decide +kernel
theorem dX11_product_59 : decode cX11_product 59 = .ok (.getfield 163, 3) := by decide +kernel
theorem dX11_product_62 : decode cX11_product 62 = .ok (.iconst 2, 1) := by decide +kernel
theorem dX11_product_63 : decode cX11_product 63 = .ok (.if_icmp .eq 9, 3) := by decide +kernel
theorem dX11_product_66 : decode cX11_product 66 = .ok (.aload_n 0, 1) := by decide +kernel
theorem dX11_product_67 : decode cX11_product 67 = .ok (.iconst 1, 1) := by decide +kernel
theorem dX11_product_68 : decode cX11_product 68 = .ok (.invokevirtual 184, 3) := by decide +kernel
theorem dX11_product_71 : decode cX11_product 71 = .ok (.ireturn, 1) := by decide +kernel
theorem dX11_product_72 : decode cX11_product 72 = .ok (.iload_n 2, 1) := by decide +kernel
theorem dX11_product_73 : decode cX11_product 73 = .ok (.ifCond .ne 9, 3) := by decide +kernel
theorem dX11_product_76 : decode cX11_product 76 = .ok (.aload_n 0, 1) := by decide +kernel
theorem dX11_product_77 : decode cX11_product 77 = .ok (.iconst 2, 1) := by decide +kernel
theorem dX11_product_78 : decode cX11_product 78 = .ok (.invokevirtual 184, 3) := by decide +kernel
theorem dX11_product_81 : decode cX11_product 81 = .ok (.ireturn, 1) := by decide +kernel
theorem dX11_product_82 : decode cX11_product 82 = .ok (.aload_n 0, 1) := by decide +kernel
theorem dX11_product_83 : decode cX11_product 83 = .ok (.invokevirtual 187, 3) := by decide +kernel
theorem dX11_product_86 : decode cX11_product 86 = .ok (.aload_n 0, 1) := by decide +kernel
theorem dX11_product_87 : decode cX11_product 87 = .ok (.bipush 16, 2) := by decide +kernel
theorem dX11_product_89 : decode cX11_product 89 = .ok (.iload_n 2, 1) := by decide +kernel
theorem dX11_product_90 : decode cX11_product 90 = .ok (.invokevirtual 200, 3) := by decide +kernel
theorem dX11_product_93 : decode cX11_product 93 = .ok (.goto 19, 3) := by decide +kernel
theorem dX11_product_96 : decode cX11_product 96 = .ok (.aload_n 0, 1) := by decide +kernel
theorem dX11_product_97 : decode cX11_product 97 = .ok (.invokevirtual 204, 3) := by decide +kernel
theorem dX11_product_100 : decode cX11_product 100 = .ok (.ifCond .ne 5, 3) := by decide +kernel
theorem dX11_product_103 : decode cX11_product 103 = .ok (.iconst 0, 1) := by decide +kernel
theorem dX11_product_104 : decode cX11_product 104 = .ok (.ireturn, 1) := by decide +kernel
theorem dX11_product_105 : decode cX11_product 105 = .ok (.aload_n 0, 1) := by decide +kernel
theorem dX11_product_106 : decode cX11_product 106 = .ok (.bipush 15, 2) := by decide +kernel
theorem dX11_product_108 : decode cX11_product 108 = .ok (.iconst 0, 1) := by decide +kernel
theorem dX11_product_109 : decode cX11_product 109 = .ok (.invokevirtual 200, 3) := by decide +kernel
theorem dX11_product_112 : decode cX11_product 112 = .ok (.goto (-103), 3) := by decide +kernel
theorem dX11_product_115 : decode cX11_product 115 = .ok (.iconst 1, 1) := by decide +kernel
theorem dX11_product_116 : decode cX11_product 116 = .ok (.ireturn, 1) := by decide +kernel
theorem dX11_unit_0 : decode cX11_unit 0 = .ok (.aload_n 0, 1) := by decide +kernel
theorem dX11_unit_1 : decode cX11_unit 1 = .ok (.getfield 163, 3) := by decide +kernel
theorem dX11_unit_4 : decode cX11_unit 4 = .ok (.bipush 41, 2) := by decide +kernel
theorem dX11_unit_6 : decode cX11_unit 6 = .ok (.bipush 48, 2) := by decide +kernel
theorem dX11_unit_8 : decode cX11_unit 8 = .ok (.invokestatic 93, 3) := by decide +kernel
theorem dX11_unit_11 : decode cX11_unit 11 = .ok (.istore_n 1, 1) := by decide +kernel
theorem dX11_unit_12 : decode cX11_unit 12 = .ok (.aload_n 0, 1) := by decide +kernel
theorem dX11_unit_13 : decode cX11_unit 13 = .ok (.getfield 163, 3) := by decide +kernel
theorem dX11_unit_16 : decode cX11_unit 16 = .ok (.iconst 2, 1) := by decide +kernel
theorem dX11_unit_17 : decode cX11_unit 17 = .ok (.if_icmp .eq 13, 3) := by decide +kernel
theorem dX11_unit_20 : decode cX11_unit 20 = .ok (.iload_n 1, 1) := by decide +kernel
theorem dX11_unit_21 : decode cX11_unit 21 = .ok (.ifCond .ne 9, 3) := by decide +kernel
theorem dX11_unit_24 : decode cX11_unit 24 = .ok (.aload_n 0, 1) := by decide +kernel
theorem dX11_unit_25 : decode cX11_unit 25 = .ok (.iconst 1, 1) := by decide +kernel
theorem dX11_unit_26 : decode cX11_unit 26 = .ok (.invokevirtual 184, 3) := by decide +kernel
theorem dX11_unit_29 : decode cX11_unit 29 = .ok (.ireturn, 1) := by decide +kernel
theorem dX11_unit_30 : decode cX11_unit 30 = .ok (.aload_n 0, 1) := by decide +kernel
theorem dX11_unit_31 : decode cX11_unit 31 = .ok (.iload_n 1, 1) := by decide +kernel
theorem dX11_unit_32 : decode cX11_unit 32 = .ok (.ifCond .eq 13, 3) := by decide +kernel
theorem dX11_unit_35 : decode cX11_unit 35 = .ok (.aload_n 0, 1) := by decide +kernel
theorem dX11_unit_36 : decode cX11_unit 36 = .ok (.getfield 163, 3) := by decide +kernel
theorem dX11_unit_39 : decode cX11_unit 39 = .ok (.bipush 40, 2) := by decide +kernel
theorem dX11_unit_41 : decode cX11_unit 41 = .ok (.isub, 1) := by decide +kernel
theorem dX11_unit_42 : decode cX11_unit 42 = .ok (.goto 4, 3) := by decide +kernel
theorem dX11_unit_45 : decode cX11_unit 45 = .ok (.iconst 0, 1) := by decide +kernel
theorem dX11_unit_46 : decode cX11_unit 46 = .ok (.aload_n 0, 1) := by decide +kernel
theorem dX11_unit_47 : decode cX11_unit 47 = .ok (.getfield 175, 3) := by decide +kernel
theorem dX11_unit_50 : decode cX11_unit 50 = .ok (.invokevirtual 200, 3) := by decide +kernel
theorem dX11_unit_53 : decode cX11_unit 53 = .ok (.aload_n 0, 1) := by decide +kernel
theorem dX11_unit_54 : decode cX11_unit 54 = .ok (.invokevirtual 187, 3) := by decide +kernel
theorem dX11_unit_57 : decode cX11_unit 57 = .ok (.iconst 1, 1) := by decide +kernel
theorem dX11_unit_58 : decode cX11_unit 58 = .ok (.ireturn, 1) := by decide +kernel
theorem dX11_any_0 : decode cX11_any 0 = .ok (.aload_n 0, 1) := by decide +kernel
theorem dX11_any_1 : decode cX11_any 1 = .ok (.invokevirtual 207, 3) := by decide +kernel
theorem dX11_any_4 : decode cX11_any 4 = .ok (.ifCond .ne 5, 3) := by decide +kernel
theorem dX11_any_7 : decode cX11_any 7 = .ok (.iconst 0, 1) := by decide +kernel
theorem dX11_any_8 : decode cX11_any 8 = .ok (.ireturn, 1) := by decide +kernel
theorem dX11_any_9 : decode cX11_any 9 = .ok (.aload_n 0, 1) := by decide +kernel
theorem dX11_any_10 : decode cX11_any 10 = .ok (.getfield 163, 3) := by decide +kernel
theorem dX11_any_13 : decode cX11_any 13 = .ok (.iconst 4, 1) := by decide +kernel
theorem dX11_any_14 : decode cX11_any 14 = .ok (.if_icmp .ne 26, 3) := by decide +kernel
theorem dX11_any_17 : decode cX11_any 17 = .ok (.aload_n 0, 1) := by decide +kernel
theorem dX11_any_18 : decode cX11_any 18 = .ok (.invokevirtual 187, 3) := by decide +kernel
theorem dX11_any_21 : decode cX11_any 21 = .ok (.aload_n 0, 1) := by decide +kernel
theorem dX11_any_22 : decode cX11_any 22 = .ok (.invokevirtual 207, 3) := by decide +kernel
theorem dX11_any_25 : decode cX11_any 25 = .ok (.ifCond .ne 5, 3) := by decide +kernel
theorem dX11_any_28 : decode cX11_any 28 = .ok (.iconst 0, 1) := by decide +kernel
theorem dX11_any_29 : decode cX11_any 29 = .ok (.ireturn, 1) := by decide +kernel
theorem dX11_any_30 : decode cX11_any 30 = .ok (.aload_n 0, 1) := by decide +kernel
theorem dX11_any_31 : decode cX11_any 31 = .ok (.bipush 22, 2) := by decide +kernel
theorem dX11_any_33 : decode cX11_any 33 = .ok (.iconst 0, 1) := by decide +kernel
theorem dX11_any_34 : decode cX11_any 34 = .ok (.invokevirtual 200, 3) := by decide +kernel
theorem dX11_any_37 : decode cX11_any 37 = .ok (.goto (-28), 3) := by decide +kernel
theorem dX11_any_40 : decode cX11_any 40 = .ok (.iconst 1, 1) := by decide +kernel
theorem dX11_any_41 : decode cX11_any 41 = .ok (.ireturn, 1) := by decide +kernel
theorem dX11_every_0 : decode cX11_every 0 = .ok (.aload_n 0, 1) := by decide +kernel
theorem dX11_every_1 : decode cX11_every 1 = .ok (.invokevirtual 210, 3) := by decide +kernel
theorem dX11_every_4 : decode cX11_every 4 = .ok (.ifCond .ne 5, 3) := by decide +kernel
theorem dX11_every_7 : decode cX11_every 7 = .ok (.iconst 0, 1) := by decide +kernel
theorem dX11_every_8 : decode cX11_every 8 = .ok (.ireturn, 1) := by decide +kernel
theorem dX11_every_9 : decode cX11_every 9 = .ok (.aload_n 0, 1) := by decide +kernel
theorem dX11_every_10 : decode cX11_every 10 = .ok (.getfield 163, 3) := by decide +kernel
theorem dX11_every_13 : decode cX11_every 13 = .ok (.iconst 5, 1) := by decide +kernel
theorem dX11_every_14 : decode cX11_every 14 = .ok (.if_icmp .ne 26, 3) := by decide +kernel
theorem dX11_every_17 : decode cX11_every 17 = .ok (.aload_n 0, 1) := by decide +kernel
theorem dX11_every_18 : decode cX11_every 18 = .ok (.invokevirtual 187, 3) := by decide +kernel
theorem dX11_every_21 : decode cX11_every 21 = .ok (.aload_n 0, 1) := by decide +kernel
theorem dX11_every_22 : decode cX11_every 22 = .ok (.invokevirtual 210, 3) := by decide +kernel
theorem dX11_every_25 : decode cX11_every 25 = .ok (.ifCond .ne 5, 3) := by decide +kernel
theorem dX11_every_28 : decode cX11_every 28 = .ok (.iconst 0, 1) := by decide +kernel
theorem dX11_every_29 : decode cX11_every 29 = .ok (.ireturn, 1) := by decide +kernel
theorem dX11_every_30 : decode cX11_every 30 = .ok (.aload_n 0, 1) := by decide +kernel
theorem dX11_every_31 : decode cX11_every 31 = .ok (.bipush 21, 2) := by decide +kernel
theorem dX11_every_33 : decode cX11_every 33 = .ok (.iconst 0, 1) := by decide +kernel
theorem dX11_every_34 : decode cX11_every 34 = .ok (.invokevirtual 200, 3) := by decide +kernel
theorem dX11_every_37 : decode cX11_every 37 = .ok (.goto (-28), 3) := by decide +kernel
theorem dX11_every_40 : decode cX11_every 40 = .ok (.iconst 1, 1) := by decide +kernel
theorem dX11_every_41 : decode cX11_every 41 = .ok (.ireturn, 1) := by decide +kernel
theorem dX11_oneTest_0 : decode cX11_oneTest 0 = .ok (.aload_n 0, 1) := by decide +kernel
theorem dX11_oneTest_1 : decode cX11_oneTest 1 = .ok (.getfield 163, 3) := by decide +kernel
theorem dX11_oneTest_4 : decode cX11_oneTest 4 = .ok (.bipush 6, 2) := by decide +kernel
theorem dX11_oneTest_6 : decode cX11_oneTest 6 = .ok (.if_icmp .ne 38, 3) := by decide +kernel
theorem dX11_oneTest_9 : decode cX11_oneTest 9 = .ok (.aload_n 0, 1) := by decide +kernel
theorem dX11_oneTest_10 : decode cX11_oneTest 10 = .ok (.invokevirtual 213, 3) := by decide +kernel
theorem dX11_oneTest_13 : decode cX11_oneTest 13 = .ok (.ifCond .eq 10, 3) := by decide +kernel
theorem dX11_oneTest_16 : decode cX11_oneTest 16 = .ok (.aload_n 0, 1) := by decide +kernel
theorem dX11_oneTest_17 : decode cX11_oneTest 17 = .ok (.invokevirtual 210, 3) := by decide +kernel
theorem dX11_oneTest_20 : decode cX11_oneTest 20 = .ok (.ifCond .ne 5, 3) := by decide +kernel
theorem dX11_oneTest_23 : decode cX11_oneTest 23 = .ok (.iconst 0, 1) := by decide +kernel
theorem dX11_oneTest_24 : decode cX11_oneTest 24 = .ok (.ireturn, 1) := by decide +kernel
theorem dX11_oneTest_25 : decode cX11_oneTest 25 = .ok (.aload_n 0, 1) := by decide +kernel
theorem dX11_oneTest_26 : decode cX11_oneTest 26 = .ok (.dup, 1) := by decide +kernel
theorem dX11_oneTest_27 : decode cX11_oneTest 27 = .ok (.getfield 193, 3) := by decide +kernel
theorem dX11_oneTest_30 : decode cX11_oneTest 30 = .ok (.iconst 1, 1) := by decide +kernel
theorem dX11_oneTest_31 : decode cX11_oneTest 31 = .ok (.isub, 1) := by decide +kernel
theorem dX11_oneTest_32 : decode cX11_oneTest 32 = .ok (.putfield 193, 3) := by decide +kernel
theorem dX11_oneTest_35 : decode cX11_oneTest 35 = .ok (.aload_n 0, 1) := by decide +kernel
theorem dX11_oneTest_36 : decode cX11_oneTest 36 = .ok (.bipush 20, 2) := by decide +kernel
theorem dX11_oneTest_38 : decode cX11_oneTest 38 = .ok (.iconst 0, 1) := by decide +kernel
theorem dX11_oneTest_39 : decode cX11_oneTest 39 = .ok (.invokevirtual 200, 3) := by decide +kernel
theorem dX11_oneTest_42 : decode cX11_oneTest 42 = .ok (.iconst 1, 1) := by decide +kernel
theorem dX11_oneTest_43 : decode cX11_oneTest 43 = .ok (.ireturn, 1) := by decide +kernel
theorem dX11_oneTest_44 : decode cX11_oneTest 44 = .ok (.aload_n 0, 1) := by decide +kernel
theorem dX11_oneTest_45 : decode cX11_oneTest 45 = .ok (.getfield 163, 3) := by decide +kernel
theorem dX11_oneTest_48 : decode cX11_oneTest 48 = .ok (.sipush 140, 3) := by decide +kernel
theorem dX11_oneTest_51 : decode cX11_oneTest 51 = .ok (.if_icmp .ne 41, 3) := by decide +kernel
theorem dX11_oneTest_54 : decode cX11_oneTest 54 = .ok (.aload_n 0, 1) := by decide +kernel
theorem dX11_oneTest_55 : decode cX11_oneTest 55 = .ok (.invokevirtual 213, 3) := by decide +kernel
theorem dX11_oneTest_58 : decode cX11_oneTest 58 = .ok (.ifCond .eq 20, 3) := by decide +kernel
theorem dX11_oneTest_61 : decode cX11_oneTest 61 = .ok (.aload_n 0, 1) := by decide +kernel
theorem dX11_oneTest_62 : decode cX11_oneTest 62 = .ok (.invokevirtual 216, 3) := by decide +kernel
theorem dX11_oneTest_65 : decode cX11_oneTest 65 = .ok (.ifCond .eq 13, 3) := by decide +kernel
theorem dX11_oneTest_68 : decode cX11_oneTest 68 = .ok (.aload_n 0, 1) := by decide +kernel
theorem dX11_oneTest_69 : decode cX11_oneTest 69 = .ok (.sipush 141, 3) := by decide +kernel
theorem dX11_oneTest_72 : decode cX11_oneTest 72 = .ok (.invokevirtual 219, 3) := by decide +kernel
theorem dX11_oneTest_75 : decode cX11_oneTest 75 = .ok (.ifCond .ne 5, 3) := by decide +kernel
theorem dX11_oneTest_78 : decode cX11_oneTest 78 = .ok (.iconst 0, 1) := by decide +kernel
theorem dX11_oneTest_79 : decode cX11_oneTest 79 = .ok (.ireturn, 1) := by decide +kernel
theorem dX11_oneTest_80 : decode cX11_oneTest 80 = .ok (.aload_n 0, 1) := by decide +kernel
theorem dX11_oneTest_81 : decode cX11_oneTest 81 = .ok (.dup, 1) := by decide +kernel
theorem dX11_oneTest_82 : decode cX11_oneTest 82 = .ok (.getfield 193, 3) := by decide +kernel
theorem dX11_oneTest_85 : decode cX11_oneTest 85 = .ok (.iconst 1, 1) := by decide +kernel
theorem dX11_oneTest_86 : decode cX11_oneTest 86 = .ok (.isub, 1) := by decide +kernel
theorem dX11_oneTest_87 : decode cX11_oneTest 87 = .ok (.putfield 193, 3) := by decide +kernel
theorem dX11_oneTest_90 : decode cX11_oneTest 90 = .ok (.iconst 1, 1) := by decide +kernel
theorem dX11_oneTest_91 : decode cX11_oneTest 91 = .ok (.ireturn, 1) := by decide +kernel
theorem dX11_oneTest_92 : decode cX11_oneTest 92 = .ok (.aload_n 0, 1) := by decide +kernel
theorem dX11_oneTest_93 : decode cX11_oneTest 93 = .ok (.invokevirtual 222, 3) := by decide +kernel
theorem dX11_oneTest_96 : decode cX11_oneTest 96 = .ok (.ifCond .ne 5, 3) := by decide +kernel
theorem dX11_oneTest_99 : decode cX11_oneTest 99 = .ok (.iconst 0, 1) := by decide +kernel
theorem dX11_oneTest_100 : decode cX11_oneTest 100 = .ok (.ireturn, 1) := by decide +kernel
theorem dX11_oneTest_101 : decode cX11_oneTest 101 = .ok (.aload_n 0, 1) := by decide +kernel
theorem dX11_oneTest_102 : decode cX11_oneTest 102 = .ok (.getfield 163, 3) := by decide +kernel
theorem dX11_oneTest_105 : decode cX11_oneTest 105 = .ok (.sipush 160, 3) := by decide +kernel
theorem dX11_oneTest_108 : decode cX11_oneTest 108 = .ok (.if_icmp .ne 8, 3) := by decide +kernel
theorem dX11_oneTest_111 : decode cX11_oneTest 111 = .ok (.bipush 17, 2) := by decide +kernel
theorem dX11_oneTest_113 : decode cX11_oneTest 113 = .ok (.goto 34, 3) := by decide +kernel
theorem dX11_oneTest_116 : decode cX11_oneTest 116 = .ok (.aload_n 0, 1) := by decide +kernel
theorem dX11_oneTest_117 : decode cX11_oneTest 117 = .ok (.getfield 163, 3) := by decide +kernel
theorem dX11_oneTest_120 : decode cX11_oneTest 120 = .ok (.sipush 161, 3) := by decide +kernel
theorem dX11_oneTest_123 : decode cX11_oneTest 123 = .ok (.if_icmp .ne 8, 3) := by decide +kernel
theorem dX11_oneTest_126 : decode cX11_oneTest 126 = .ok (.bipush 18, 2) := by decide +kernel
theorem dX11_oneTest_128 : decode cX11_oneTest 128 = .ok (.goto 19, 3) := by decide +kernel
theorem dX11_oneTest_131 : decode cX11_oneTest 131 = .ok (.aload_n 0, 1) := by decide +kernel
theorem dX11_oneTest_132 : decode cX11_oneTest 132 = .ok (.getfield 163, 3) := by decide +kernel
theorem dX11_oneTest_135 : decode cX11_oneTest 135 = .ok (.sipush 162, 3) := by decide +kernel
theorem dX11_oneTest_138 : decode cX11_oneTest 138 = .ok (.if_icmp .ne 8, 3) := by decide +kernel
theorem dX11_oneTest_141 : decode cX11_oneTest 141 = .ok (.bipush 19, 2) := by decide +kernel
theorem dX11_oneTest_143 : decode cX11_oneTest 143 = .ok (.goto 4, 3) := by decide +kernel
theorem dX11_oneTest_146 : decode cX11_oneTest 146 = .ok (.iconst (-1), 1) := by decide +kernel
theorem dX11_oneTest_147 : decode cX11_oneTest 147 = .ok (.istore_n 1, 1) := by decide +kernel
theorem dX11_oneTest_148 : decode cX11_oneTest 148 = .ok (.iload_n 1, 1) := by decide +kernel
theorem dX11_oneTest_149 : decode cX11_oneTest 149 = .ok (.iconst (-1), 1) := by decide +kernel
theorem dX11_oneTest_150 : decode cX11_oneTest 150 = .ok (.if_icmp .ne 9, 3) := by decide +kernel
theorem dX11_oneTest_153 : decode cX11_oneTest 153 = .ok (.aload_n 0, 1) := by decide +kernel
theorem dX11_oneTest_154 : decode cX11_oneTest 154 = .ok (.iconst 1, 1) := by decide +kernel
theorem dX11_oneTest_155 : decode cX11_oneTest 155 = .ok (.invokevirtual 184, 3) := by decide +kernel
theorem dX11_oneTest_158 : decode cX11_oneTest 158 = .ok (.ireturn, 1) := by decide +kernel
theorem dX11_oneTest_159 : decode cX11_oneTest 159 = .ok (.aload_n 0, 1) := by decide +kernel
theorem dX11_oneTest_160 : decode cX11_oneTest 160 = .ok (.invokevirtual 187, 3) := by decide +kernel
theorem dX11_oneTest_163 : decode cX11_oneTest 163 = .ok (.aload_n 0, 1) := by decide +kernel
theorem dX11_oneTest_164 : decode cX11_oneTest 164 = .ok (.invokevirtual 222, 3) := by decide +kernel
theorem dX11_oneTest_167 : decode cX11_oneTest 167 = .ok (.ifCond .ne 5, 3) := by decide +kernel
theorem dX11_oneTest_170 : decode cX11_oneTest 170 = .ok (.iconst 0, 1) := by decide +kernel
theorem dX11_oneTest_171 : decode cX11_oneTest 171 = .ok (.ireturn, 1) := by decide +kernel
theorem dX11_oneTest_172 : decode cX11_oneTest 172 = .ok (.aload_n 0, 1) := by decide +kernel
theorem dX11_oneTest_173 : decode cX11_oneTest 173 = .ok (.iload_n 1, 1) := by decide +kernel
theorem dX11_oneTest_174 : decode cX11_oneTest 174 = .ok (.iconst 0, 1) := by decide +kernel
theorem dX11_oneTest_175 : decode cX11_oneTest 175 = .ok (.invokevirtual 200, 3) := by decide +kernel
theorem dX11_oneTest_178 : decode cX11_oneTest 178 = .ok (.iconst 1, 1) := by decide +kernel
theorem dX11_oneTest_179 : decode cX11_oneTest 179 = .ok (.ireturn, 1) := by decide +kernel
theorem dX11_aLine_0 : decode cX11_aLine 0 = .ok (.aload_n 0, 1) := by decide +kernel
theorem dX11_aLine_1 : decode cX11_aLine 1 = .ok (.getfield 163, 3) := by decide +kernel
theorem dX11_aLine_4 : decode cX11_aLine 4 = .ok (.bipush 20, 2) := by decide +kernel
theorem dX11_aLine_6 : decode cX11_aLine 6 = .ok (.if_icmp .eq 9, 3) := by decide +kernel
theorem dX11_aLine_9 : decode cX11_aLine 9 = .ok (.aload_n 0, 1) := by decide +kernel
theorem dX11_aLine_10 : decode cX11_aLine 10 = .ok (.iconst 1, 1) := by decide +kernel
theorem dX11_aLine_11 : decode cX11_aLine 11 = .ok (.invokevirtual 184, 3) := by decide +kernel
theorem dX11_aLine_14 : decode cX11_aLine 14 = .ok (.ireturn, 1) := by decide +kernel
theorem dX11_aLine_15 : decode cX11_aLine 15 = .ok (.aload_n 0, 1) := by decide +kernel
theorem dX11_aLine_16 : decode cX11_aLine 16 = .ok (.getfield 225, 3) := by decide +kernel
theorem dX11_aLine_19 : decode cX11_aLine 19 = .ok (.bipush 16, 2) := by decide +kernel
theorem dX11_aLine_21 : decode cX11_aLine 21 = .ok (.if_icmp .ne 9, 3) := by decide +kernel
theorem dX11_aLine_24 : decode cX11_aLine 24 = .ok (.aload_n 0, 1) := by decide +kernel
theorem dX11_aLine_25 : decode cX11_aLine 25 = .ok (.iconst 3, 1) := by decide +kernel
theorem dX11_aLine_26 : decode cX11_aLine 26 = .ok (.invokevirtual 184, 3) := by decide +kernel
theorem dX11_aLine_29 : decode cX11_aLine 29 = .ok (.ireturn, 1) := by decide +kernel
theorem dX11_aLine_30 : decode cX11_aLine 30 = .ok (.aload_n 0, 1) := by decide +kernel
theorem dX11_aLine_31 : decode cX11_aLine 31 = .ok (.iconst 0, 1) := by decide +kernel
theorem dX11_aLine_32 : decode cX11_aLine 32 = .ok (.putfield 193, 3) := by decide +kernel
theorem dX11_aLine_35 : decode cX11_aLine 35 = .ok (.aload_n 0, 1) := by decide +kernel
theorem dX11_aLine_36 : decode cX11_aLine 36 = .ok (.invokevirtual 187, 3) := by decide +kernel
theorem dX11_aLine_39 : decode cX11_aLine 39 = .ok (.aload_n 0, 1) := by decide +kernel
theorem dX11_aLine_40 : decode cX11_aLine 40 = .ok (.getfield 16, 3) := by decide +kernel
theorem dX11_aLine_43 : decode cX11_aLine 43 = .ok (.iconst 3, 1) := by decide +kernel
theorem dX11_aLine_44 : decode cX11_aLine 44 = .ok (.aload_n 0, 1) := by decide +kernel
theorem dX11_aLine_45 : decode cX11_aLine 45 = .ok (.getfield 225, 3) := by decide +kernel
theorem dX11_aLine_48 : decode cX11_aLine 48 = .ok (.imul, 1) := by decide +kernel
theorem dX11_aLine_49 : decode cX11_aLine 49 = .ok (.aload_n 0, 1) := by decide +kernel
theorem dX11_aLine_50 : decode cX11_aLine 50 = .ok (.getfield 190, 3) := by decide +kernel
theorem dX11_aLine_53 : decode cX11_aLine 53 = .ok (.iastore, 1) := by decide +kernel
theorem dX11_aLine_54 : decode cX11_aLine 54 = .ok (.aload_n 0, 1) := by decide +kernel
theorem dX11_aLine_55 : decode cX11_aLine 55 = .ok (.invokevirtual 222, 3) := by decide +kernel
theorem dX11_aLine_58 : decode cX11_aLine 58 = .ok (.ifCond .ne 5, 3) := by decide +kernel
theorem dX11_aLine_61 : decode cX11_aLine 61 = .ok (.iconst 0, 1) := by decide +kernel
theorem dX11_aLine_62 : decode cX11_aLine 62 = .ok (.ireturn, 1) := by decide +kernel
theorem dX11_aLine_63 : decode cX11_aLine 63 = .ok (.aload_n 0, 1) := by decide +kernel
theorem dX11_aLine_64 : decode cX11_aLine 64 = .ok (.getfield 16, 3) := by decide +kernel
theorem dX11_aLine_67 : decode cX11_aLine 67 = .ok (.iconst 3, 1) := by decide +kernel
theorem dX11_aLine_68 : decode cX11_aLine 68 = .ok (.aload_n 0, 1) := by decide +kernel
theorem dX11_aLine_69 : decode cX11_aLine 69 = .ok (.getfield 225, 3) := by decide +kernel
theorem dX11_aLine_72 : decode cX11_aLine 72 = .ok (.imul, 1) := by decide +kernel
theorem dX11_aLine_73 : decode cX11_aLine 73 = .ok (.iconst 1, 1) := by decide +kernel
theorem dX11_aLine_74 : decode cX11_aLine 74 = .ok (.iadd, 1) := by decide +kernel
theorem dX11_aLine_75 : decode cX11_aLine 75 = .ok (.aload_n 0, 1) := by decide +kernel
theorem dX11_aLine_76 : decode cX11_aLine 76 = .ok (.getfield 190, 3) := by decide +kernel
theorem dX11_aLine_79 : decode cX11_aLine 79 = .ok (.iastore, 1) := by decide +kernel
theorem dX11_aLine_80 : decode cX11_aLine 80 = .ok (.aload_n 0, 1) := by decide +kernel
theorem dX11_aLine_81 : decode cX11_aLine 81 = .ok (.getfield 163, 3) := by decide +kernel
theorem dX11_aLine_84 : decode cX11_aLine 84 = .ok (.iconst 3, 1) := by decide +kernel
