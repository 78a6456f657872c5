theorem dX11_aLine_85 : decode cX11_aLine 85 = .ok (.if_icmp .ne 16, 3) := by decide +kernel
theorem dX11_aLine_88 : decode cX11_aLine 88 = .ok (.aload_n 0, 1) := by decide +kernel
theorem dX11_aLine_89 : decode cX11_aLine 89 = .ok (.invokevirtual 187, 3) := by decide +kernel
theorem dX11_aLine_92 : decode cX11_aLine 92 = .ok (.aload_n 0, 1) := by decide +kernel
theorem dX11_aLine_93 : decode cX11_aLine 93 = .ok (.invokevirtual 216, 3) := by decide +kernel
theorem dX11_aLine_96 : decode cX11_aLine 96 = .ok (.ifCond .ne 5, 3) := by decide +kernel
theorem dX11_aLine_99 : decode cX11_aLine 99 = .ok (.iconst 0, 1) := by decide +kernel
theorem dX11_aLine_100 : decode cX11_aLine 100 = .ok (.ireturn, 1) := by decide +kernel
theorem dX11_aLine_101 : decode cX11_aLine 101 = .ok (.aload_n 0, 1) := by decide +kernel
theorem dX11_aLine_102 : decode cX11_aLine 102 = .ok (.getfield 16, 3) := by decide +kernel
theorem dX11_aLine_105 : decode cX11_aLine 105 = .ok (.iconst 3, 1) := by decide +kernel
theorem dX11_aLine_106 : decode cX11_aLine 106 = .ok (.aload_n 0, 1) := by decide +kernel
theorem dX11_aLine_107 : decode cX11_aLine 107 = .ok (.getfield 225, 3) := by decide +kernel
theorem dX11_aLine_110 : decode cX11_aLine 110 = .ok (.imul, 1) := by decide +kernel
theorem dX11_aLine_111 : decode cX11_aLine 111 = .ok (.iconst 2, 1) := by decide +kernel
theorem dX11_aLine_112 : decode cX11_aLine 112 = .ok (.iadd, 1) := by decide +kernel
theorem dX11_aLine_113 : decode cX11_aLine 113 = .ok (.aload_n 0, 1) := by decide +kernel
theorem dX11_aLine_114 : decode cX11_aLine 114 = .ok (.getfield 190, 3) := by decide +kernel
theorem dX11_aLine_117 : decode cX11_aLine 117 = .ok (.iastore, 1) := by decide +kernel
theorem dX11_aLine_118 : decode cX11_aLine 118 = .ok (.aload_n 0, 1) := by decide +kernel
theorem dX11_aLine_119 : decode cX11_aLine 119 = .ok (.sipush 159, 3) := by decide +kernel
theorem dX11_aLine_122 : decode cX11_aLine 122 = .ok (.invokevirtual 219, 3) := by decide +kernel
theorem dX11_aLine_125 : decode cX11_aLine 125 = .ok (.ireturn, 1) := by decide +kernel
theorem dX11_text_0 : decode cX11_text 0 = .ok (.aload_n 0, 1) := by decide +kernel
theorem dX11_text_1 : decode cX11_text 1 = .ok (.iconst 0, 1) := by decide +kernel
theorem dX11_text_2 : decode cX11_text 2 = .ok (.putfield 178, 3) := by decide +kernel
theorem dX11_text_5 : decode cX11_text 5 = .ok (.aload_n 0, 1) := by decide +kernel
theorem dX11_text_6 : decode cX11_text 6 = .ok (.iconst 0, 1) := by decide +kernel
theorem dX11_text_7 : decode cX11_text 7 = .ok (.putfield 115, 3) := by decide +kernel
theorem dX11_text_10 : decode cX11_text 10 = .ok (.aload_n 0, 1) := by decide +kernel
theorem dX11_text_11 : decode cX11_text 11 = .ok (.iconst 0, 1) := by decide +kernel
theorem dX11_text_12 : decode cX11_text 12 = .ok (.putfield 225, 3) := by decide +kernel
theorem dX11_text_15 : decode cX11_text 15 = .ok (.aload_n 0, 1) := by decide +kernel
theorem dX11_text_16 : decode cX11_text 16 = .ok (.iconst 0, 1) := by decide +kernel
theorem dX11_text_17 : decode cX11_text 17 = .ok (.putfield 190, 3) := by decide +kernel
theorem dX11_text_20 : decode cX11_text 20 = .ok (.aload_n 0, 1) := by decide +kernel
theorem dX11_text_21 : decode cX11_text 21 = .ok (.invokevirtual 187, 3) := by decide +kernel
theorem dX11_text_24 : decode cX11_text 24 = .ok (.iconst 1, 1) := by decide +kernel
theorem dX11_text_25 : decode cX11_text 25 = .ok (.istore_n 1, 1) := by decide +kernel
theorem dX11_text_26 : decode cX11_text 26 = .ok (.iload_n 1, 1) := by decide +kernel
theorem dX11_text_27 : decode cX11_text 27 = .ok (.ifCond .eq 36, 3) := by decide +kernel
theorem dX11_text_30 : decode cX11_text 30 = .ok (.aload_n 0, 1) := by decide +kernel
theorem dX11_text_31 : decode cX11_text 31 = .ok (.getfield 163, 3) := by decide +kernel
theorem dX11_text_34 : decode cX11_text 34 = .ok (.ifCond .eq 29, 3) := by decide +kernel
theorem dX11_text_37 : decode cX11_text 37 = .ok (.aload_n 0, 1) := by decide +kernel
theorem dX11_text_38 : decode cX11_text 38 = .ok (.invokevirtual 228, 3) := by decide +kernel
theorem dX11_text_41 : decode cX11_text 41 = .ok (.istore_n 1, 1) := by decide +kernel
theorem dX11_text_42 : decode cX11_text 42 = .ok (.aload_n 0, 1) := by decide +kernel
theorem dX11_text_43 : decode cX11_text 43 = .ok (.dup, 1) := by decide +kernel
theorem dX11_text_44 : decode cX11_text 44 = .ok (.getfield 225, 3) := by decide +kernel
theorem dX11_text_47 : decode cX11_text 47 = .ok (.iload_n 1, 1) := by decide +kernel
theorem dX11_text_48 : decode cX11_text 48 = .ok (.ifCond .eq 7, 3) := by decide +kernel
theorem dX11_text_51 : decode cX11_text 51 = .ok (.iconst 1, 1) := by decide +kernel
theorem dX11_text_52 : decode cX11_text 52 = .ok (.goto 4, 3) := by decide +kernel
theorem dX11_text_55 : decode cX11_text 55 = .ok (.iconst 0, 1) := by decide +kernel
theorem dX11_text_56 : decode cX11_text 56 = .ok (.iadd, 1) := by decide +kernel
theorem dX11_text_57 : decode cX11_text 57 = .ok (.putfield 225, 3) := by decide +kernel
theorem dX11_text_60 : decode cX11_text 60 = .ok (.goto (-34), 3) := by decide +kernel
theorem dX11_text_63 : decode cX11_text 63 = .ok (.aload_n 0, 1) := by decide +kernel
theorem dX11_text_64 : decode cX11_text 64 = .ok (.iconst 0, 1) := by decide +kernel
theorem dX11_text_65 : decode cX11_text 65 = .ok (.putfield 112, 3) := by decide +kernel
theorem dX11_text_68 : decode cX11_text 68 = .ok (.aload_n 0, 1) := by decide +kernel
theorem dX11_text_69 : decode cX11_text 69 = .ok (.aload_n 0, 1) := by decide +kernel
theorem dX11_text_70 : decode cX11_text 70 = .ok (.getfield 178, 3) := by decide +kernel
theorem dX11_text_73 : decode cX11_text 73 = .ok (.putfield 231, 3) := by decide +kernel
theorem dX11_text_76 : decode cX11_text 76 = .ok (.aload_n 0, 1) := by decide +kernel
theorem dX11_text_77 : decode cX11_text 77 = .ok (.iload_n 1, 1) := by decide +kernel
theorem dX11_text_78 : decode cX11_text 78 = .ok (.ifCond .eq 7, 3) := by decide +kernel
theorem dX11_text_81 : decode cX11_text 81 = .ok (.iconst (-1), 1) := by decide +kernel
theorem dX11_text_82 : decode cX11_text 82 = .ok (.goto 7, 3) := by decide +kernel
theorem dX11_text_85 : decode cX11_text 85 = .ok (.aload_n 0, 1) := by decide +kernel
theorem dX11_text_86 : decode cX11_text 86 = .ok (.getfield 181, 3) := by decide +kernel
theorem dX11_text_89 : decode cX11_text 89 = .ok (.putfield 31, 3) := by decide +kernel
theorem dX11_text_92 : decode cX11_text 92 = .ok (.iload_n 1, 1) := by decide +kernel
theorem dX11_text_93 : decode cX11_text 93 = .ok (.ifCond .ne 5, 3) := by decide +kernel
theorem dX11_text_96 : decode cX11_text 96 = .ok (.iconst (-1), 1) := by decide +kernel
theorem dX11_text_97 : decode cX11_text 97 = .ok (.ireturn, 1) := by decide +kernel
theorem dX11_text_98 : decode cX11_text 98 = .ok (.aload_n 0, 1) := by decide +kernel
theorem dX11_text_99 : decode cX11_text 99 = .ok (.getfield 7, 3) := by decide +kernel
theorem dX11_text_102 : decode cX11_text 102 = .ok (.sipush 810, 3) := by decide +kernel
theorem dX11_text_105 : decode cX11_text 105 = .ok (.aload_n 0, 1) := by decide +kernel
theorem dX11_text_106 : decode cX11_text 106 = .ok (.getfield 225, 3) := by decide +kernel
theorem dX11_text_109 : decode cX11_text 109 = .ok (.iastore, 1) := by decide +kernel
theorem dX11_text_110 : decode cX11_text 110 = .ok (.iconst 0, 1) := by decide +kernel
theorem dX11_text_111 : decode cX11_text 111 = .ok (.istore_n 2, 1) := by decide +kernel
theorem dX11_text_112 : decode cX11_text 112 = .ok (.iload_n 2, 1) := by decide +kernel
theorem dX11_text_113 : decode cX11_text 113 = .ok (.aload_n 0, 1) := by decide +kernel
theorem dX11_text_114 : decode cX11_text 114 = .ok (.getfield 225, 3) := by decide +kernel
theorem dX11_text_117 : decode cX11_text 117 = .ok (.if_icmp .ge 67, 3) := by decide +kernel
theorem dX11_text_120 : decode cX11_text 120 = .ok (.aload_n 0, 1) := by decide +kernel
theorem dX11_text_121 : decode cX11_text 121 = .ok (.getfield 7, 3) := by decide +kernel
theorem dX11_text_124 : decode cX11_text 124 = .ok (.sipush 815, 3) := by decide +kernel
theorem dX11_text_127 : decode cX11_text 127 = .ok (.iload_n 2, 1) := by decide +kernel
theorem dX11_text_128 : decode cX11_text 128 = .ok (.iadd, 1) := by decide +kernel
theorem dX11_text_129 : decode cX11_text 129 = .ok (.aload_n 0, 1) := by decide +kernel
theorem dX11_text_130 : decode cX11_text 130 = .ok (.getfield 16, 3) := by decide +kernel
theorem dX11_text_133 : decode cX11_text 133 = .ok (.iconst 3, 1) := by decide +kernel
theorem dX11_text_134 : decode cX11_text 134 = .ok (.iload_n 2, 1) := by decide +kernel
theorem dX11_text_135 : decode cX11_text 135 = .ok (.imul, 1) := by decide +kernel
theorem dX11_text_136 : decode cX11_text 136 = .ok (.iaload, 1) := by decide +kernel
theorem dX11_text_137 : decode cX11_text 137 = .ok (.iastore, 1) := by decide +kernel
theorem dX11_text_138 : decode cX11_text 138 = .ok (.aload_n 0, 1) := by decide +kernel
theorem dX11_text_139 : decode cX11_text 139 = .ok (.getfield 7, 3) := by decide +kernel
theorem dX11_text_142 : decode cX11_text 142 = .ok (.sipush 835, 3) := by decide +kernel
theorem dX11_text_145 : decode cX11_text 145 = .ok (.iload_n 2, 1) := by decide +kernel
theorem dX11_text_146 : decode cX11_text 146 = .ok (.iadd, 1) := by decide +kernel
theorem dX11_text_147 : decode cX11_text 147 = .ok (.aload_n 0, 1) := by decide +kernel
theorem dX11_text_148 : decode cX11_text 148 = .ok (.getfield 16, 3) := by decide +kernel
theorem dX11_text_151 : decode cX11_text 151 = .ok (.iconst 3, 1) := by decide +kernel
theorem dX11_text_152 : decode cX11_text 152 = .ok (.iload_n 2, 1) := by decide +kernel
theorem dX11_text_153 : decode cX11_text 153 = .ok (.imul, 1) := by decide +kernel
theorem dX11_text_154 : decode cX11_text 154 = .ok (.iconst 1, 1) := by decide +kernel
theorem dX11_text_155 : decode cX11_text 155 = .ok (.iadd, 1) := by decide +kernel
theorem dX11_text_156 : decode cX11_text 156 = .ok (.iaload, 1) := by decide +kernel
theorem dX11_text_157 : decode cX11_text 157 = .ok (.iastore, 1) := by decide +kernel
theorem dX11_text_158 : decode cX11_text 158 = .ok (.aload_n 0, 1) := by decide +kernel
theorem dX11_text_159 : decode cX11_text 159 = .ok (.getfield 7, 3) := by decide +kernel
theorem dX11_text_162 : decode cX11_text 162 = .ok (.sipush 855, 3) := by decide +kernel
theorem dX11_text_165 : decode cX11_text 165 = .ok (.iload_n 2, 1) := by decide +kernel
theorem dX11_text_166 : decode cX11_text 166 = .ok (.iadd, 1) := by decide +kernel
theorem dX11_text_167 : decode cX11_text 167 = .ok (.aload_n 0, 1) := by decide +kernel
theorem dX11_text_168 : decode cX11_text 168 = .ok (.getfield 16, 3) := by decide +kernel
theorem dX11_text_171 : decode cX11_text 171 = .ok (.iconst 3, 1) := by decide +kernel
theorem dX11_text_172 : decode cX11_text 172 = .ok (.iload_n 2, 1) := by decide +kernel
theorem dX11_text_173 : decode cX11_text 173 = .ok (.imul, 1) := by decide +kernel
theorem dX11_text_174 : decode cX11_text 174 = .ok (.iconst 2, 1) := by decide +kernel
theorem dX11_text_175 : decode cX11_text 175 = .ok (.iadd, 1) := by decide +kernel
theorem dX11_text_176 : decode cX11_text 176 = .ok (.iaload, 1) := by decide +kernel
theorem dX11_text_177 : decode cX11_text 177 = .ok (.iastore, 1) := by decide +kernel
theorem dX11_text_178 : decode cX11_text 178 = .ok (.iinc 2 1, 3) := by decide +kernel
theorem dX11_text_181 : decode cX11_text 181 = .ok (.goto (-69), 3) := by decide +kernel
theorem dX11_text_184 : decode cX11_text 184 = .ok (.iconst 0, 1) := by decide +kernel
theorem dX11_text_185 : decode cX11_text 185 = .ok (.istore_n 2, 1) := by decide +kernel
theorem dX11_text_186 : decode cX11_text 186 = .ok (.iload_n 2, 1) := by decide +kernel
theorem dX11_text_187 : decode cX11_text 187 = .ok (.iconst 2, 1) := by decide +kernel
theorem dX11_text_188 : decode cX11_text 188 = .ok (.aload_n 0, 1) := by decide +kernel
theorem dX11_text_189 : decode cX11_text 189 = .ok (.getfield 190, 3) := by decide +kernel
theorem dX11_text_192 : decode cX11_text 192 = .ok (.imul, 1) := by decide +kernel
theorem dX11_text_193 : decode cX11_text 193 = .ok (.if_icmp .ge 25, 3) := by decide +kernel
theorem dX11_text_196 : decode cX11_text 196 = .ok (.aload_n 0, 1) := by decide +kernel
theorem dX11_text_197 : decode cX11_text 197 = .ok (.getfield 7, 3) := by decide +kernel
theorem dX11_text_200 : decode cX11_text 200 = .ok (.sipush 875, 3) := by decide +kernel
theorem dX11_text_203 : decode cX11_text 203 = .ok (.iload_n 2, 1) := by decide +kernel
theorem dX11_text_204 : decode cX11_text 204 = .ok (.iadd, 1) := by decide +kernel
theorem dX11_text_205 : decode cX11_text 205 = .ok (.aload_n 0, 1) := by decide +kernel
theorem dX11_text_206 : decode cX11_text 206 = .ok (.getfield 19, 3) := by decide +kernel
theorem dX11_text_209 : decode cX11_text 209 = .ok (.iload_n 2, 1) := by decide +kernel
theorem dX11_text_210 : decode cX11_text 210 = .ok (.iaload, 1) := by decide +kernel
theorem dX11_text_211 : decode cX11_text 211 = .ok (.iastore, 1) := by decide +kernel
theorem dX11_text_212 : decode cX11_text 212 = .ok (.iinc 2 1, 3) := by decide +kernel
theorem dX11_text_215 : decode cX11_text 215 = .ok (.goto (-29), 3) := by decide +kernel
theorem dX11_text_218 : decode cX11_text 218 = .ok (.aload_n 0, 1) := by decide +kernel
theorem dX11_text_219 : decode cX11_text 219 = .ok (.getfield 225, 3) := by decide +kernel
theorem dX11_text_222 : decode cX11_text 222 = .ok (.ireturn, 1) := by decide +kernel
theorem dX11_fault_0 : decode cX11_fault 0 = .ok (.iload_n 1, 1) := by decide +kernel
theorem dX11_fault_1 : decode cX11_fault 1 = .ok (.ifCond .ne 10, 3) := by decide +kernel
theorem dX11_fault_4 : decode cX11_fault 4 = .ok (.aload_n 0, 1) := by decide +kernel
theorem dX11_fault_5 : decode cX11_fault 5 = .ok (.getfield 231, 3) := by decide +kernel
theorem dX11_fault_8 : decode cX11_fault 8 = .ok (.goto 16, 3) := by decide +kernel
theorem dX11_fault_11 : decode cX11_fault 11 = .ok (.iload_n 1, 1) := by decide +kernel
theorem dX11_fault_12 : decode cX11_fault 12 = .ok (.iconst 1, 1) := by decide +kernel
theorem dX11_fault_13 : decode cX11_fault 13 = .ok (.if_icmp .ne 10, 3) := by decide +kernel
theorem dX11_fault_16 : decode cX11_fault 16 = .ok (.aload_n 0, 1) := by decide +kernel
theorem dX11_fault_17 : decode cX11_fault 17 = .ok (.getfield 31, 3) := by decide +kernel
theorem dX11_fault_20 : decode cX11_fault 20 = .ok (.goto 4, 3) := by decide +kernel
theorem dX11_fault_23 : decode cX11_fault 23 = .ok (.iconst (-1), 1) := by decide +kernel
theorem dX11_fault_24 : decode cX11_fault 24 = .ok (.ireturn, 1) := by decide +kernel
theorem dX11_both_0 : decode cX11_both 0 = .ok (.iload_n 0, 1) := by decide +kernel
theorem dX11_both_1 : decode cX11_both 1 = .ok (.tableswitch 100 13 21 #[51, 55, 59, 100, 63, 74, 85, 100, 96], 51) := by decide +kernel
theorem dX11_both_52 : decode cX11_both 52 = .ok (.iload_n 1, 1) := by decide +kernel
theorem dX11_both_53 : decode cX11_both 53 = .ok (.iload_n 2, 1) := by decide +kernel
theorem dX11_both_54 : decode cX11_both 54 = .ok (.iadd, 1) := by decide +kernel
theorem dX11_both_55 : decode cX11_both 55 = .ok (.ireturn, 1) := by decide +kernel
theorem dX11_both_56 : decode cX11_both 56 = .ok (.iload_n 1, 1) := by decide +kernel
theorem dX11_both_57 : decode cX11_both 57 = .ok (.iload_n 2, 1) := by decide +kernel
theorem dX11_both_58 : decode cX11_both 58 = .ok (.isub, 1) := by decide +kernel
theorem dX11_both_59 : decode cX11_both 59 = .ok (.ireturn, 1) := by decide +kernel
theorem dX11_both_60 : decode cX11_both 60 = .ok (.iload_n 1, 1) := by decide +kernel
theorem dX11_both_61 : decode cX11_both 61 = .ok (.iload_n 2, 1) := by decide +kernel
theorem dX11_both_62 : decode cX11_both 62 = .ok (.imul, 1) := by decide +kernel
theorem dX11_both_63 : decode cX11_both 63 = .ok (.ireturn, 1) := by decide +kernel
theorem dX11_both_64 : decode cX11_both 64 = .ok (.iload_n 1, 1) := by decide +kernel
theorem dX11_both_65 : decode cX11_both 65 = .ok (.iload_n 2, 1) := by decide +kernel
theorem dX11_both_66 : decode cX11_both 66 = .ok (.if_icmp .ge 7, 3) := by decide +kernel
theorem dX11_both_69 : decode cX11_both 69 = .ok (.iconst 1, 1) := by decide +kernel
theorem dX11_both_70 : decode cX11_both 70 = .ok (.goto 4, 3) := by decide +kernel
theorem dX11_both_73 : decode cX11_both 73 = .ok (.iconst 0, 1) := by decide +kernel
theorem dX11_both_74 : decode cX11_both 74 = .ok (.ireturn, 1) := by decide +kernel
theorem dX11_both_75 : decode cX11_both 75 = .ok (.iload_n 1, 1) := by decide +kernel
theorem dX11_both_76 : decode cX11_both 76 = .ok (.iload_n 2, 1) := by decide +kernel
theorem dX11_both_77 : decode cX11_both 77 = .ok (.if_icmp .ne 7, 3) := by decide +kernel
theorem dX11_both_80 : decode cX11_both 80 = .ok (.iconst 1, 1) := by decide +kernel
theorem dX11_both_81 : decode cX11_both 81 = .ok (.goto 4, 3) := by decide +kernel
theorem dX11_both_84 : decode cX11_both 84 = .ok (.iconst 0, 1) := by decide +kernel
theorem dX11_both_85 : decode cX11_both 85 = .ok (.ireturn, 1) := by decide +kernel
theorem dX11_both_86 : decode cX11_both 86 = .ok (.iload_n 1, 1) := by decide +kernel
theorem dX11_both_87 : decode cX11_both 87 = .ok (.iload_n 2, 1) := by decide +kernel
theorem dX11_both_88 : decode cX11_both 88 = .ok (.if_icmp .le 7, 3) := by decide +kernel
theorem dX11_both_91 : decode cX11_both 91 = .ok (.iconst 1, 1) := by decide +kernel
theorem dX11_both_92 : decode cX11_both 92 = .ok (.goto 4, 3) := by decide +kernel
theorem dX11_both_95 : decode cX11_both 95 = .ok (.iconst 0, 1) := by decide +kernel
theorem dX11_both_96 : decode cX11_both 96 = .ok (.ireturn, 1) := by decide +kernel
theorem dX11_both_97 : decode cX11_both 97 = .ok (.iload_n 1, 1) := by decide +kernel
theorem dX11_both_98 : decode cX11_both 98 = .ok (.iload_n 2, 1) := by decide +kernel
theorem dX11_both_99 : decode cX11_both 99 = .ok (.iand, 1) := by decide +kernel
theorem dX11_both_100 : decode cX11_both 100 = .ok (.ireturn, 1) := by decide +kernel
theorem dX11_both_101 : decode cX11_both 101 = .ok (.iload_n 1, 1) := by decide +kernel
theorem dX11_both_102 : decode cX11_both 102 = .ok (.iload_n 2, 1) := by decide +kernel
theorem dX11_both_103 : decode cX11_both 103 = .ok (.ior, 1) := by decide +kernel
theorem dX11_both_104 : decode cX11_both 104 = .ok (.ireturn, 1) := by decide +kernel
theorem dX11_comesTo_0 : decode cX11_comesTo 0 = .ok (.iconst 0, 1) := by decide +kernel
theorem dX11_comesTo_1 : decode cX11_comesTo 1 = .ok (.istore_n 3, 1) := by decide +kernel
theorem dX11_comesTo_2 : decode cX11_comesTo 2 = .ok (.iload_n 1, 1) := by decide +kernel
theorem dX11_comesTo_3 : decode cX11_comesTo 3 = .ok (.istore 4, 2) := by decide +kernel
theorem dX11_comesTo_5 : decode cX11_comesTo 5 = .ok (.iload 4, 2) := by decide +kernel
theorem dX11_comesTo_7 : decode cX11_comesTo 7 = .ok (.iload_n 2, 1) := by decide +kernel
theorem dX11_comesTo_8 : decode cX11_comesTo 8 = .ok (.if_icmp .ge 158, 3) := by decide +kernel
theorem dX11_comesTo_11 : decode cX11_comesTo 11 = .ok (.aload_n 0, 1) := by decide +kernel
theorem dX11_comesTo_12 : decode cX11_comesTo 12 = .ok (.getfield 7, 3) := by decide +kernel
theorem dX11_comesTo_15 : decode cX11_comesTo 15 = .ok (.sipush 875, 3) := by decide +kernel
theorem dX11_comesTo_18 : decode cX11_comesTo 18 = .ok (.iconst 2, 1) := by decide +kernel
theorem dX11_comesTo_19 : decode cX11_comesTo 19 = .ok (.iload 4, 2) := by decide +kernel
theorem dX11_comesTo_21 : decode cX11_comesTo 21 = .ok (.imul, 1) := by decide +kernel
theorem dX11_comesTo_22 : decode cX11_comesTo 22 = .ok (.iadd, 1) := by decide +kernel
theorem dX11_comesTo_23 : decode cX11_comesTo 23 = .ok (.iaload, 1) := by decide +kernel
theorem dX11_comesTo_24 : decode cX11_comesTo 24 = .ok (.istore 5, 2) := by decide +kernel
theorem dX11_comesTo_26 : decode cX11_comesTo 26 = .ok (.aload_n 0, 1) := by decide +kernel
theorem dX11_comesTo_27 : decode cX11_comesTo 27 = .ok (.getfield 7, 3) := by decide +kernel
theorem dX11_comesTo_30 : decode cX11_comesTo 30 = .ok (.sipush 875, 3) := by decide +kernel
theorem dX11_comesTo_33 : decode cX11_comesTo 33 = .ok (.iconst 2, 1) := by decide +kernel
theorem dX11_comesTo_34 : decode cX11_comesTo 34 = .ok (.iload 4, 2) := by decide +kernel
theorem dX11_comesTo_36 : decode cX11_comesTo 36 = .ok (.imul, 1) := by decide +kernel
theorem dX11_comesTo_37 : decode cX11_comesTo 37 = .ok (.iadd, 1) := by decide +kernel
theorem dX11_comesTo_38 : decode cX11_comesTo 38 = .ok (.iconst 1, 1) := by decide +kernel
theorem dX11_comesTo_39 : decode cX11_comesTo 39 = .ok (.iadd, 1) := by decide +kernel
theorem dX11_comesTo_40 : decode cX11_comesTo 40 = .ok (.iaload, 1) := by decide +kernel
theorem dX11_comesTo_41 : decode cX11_comesTo 41 = .ok (.istore 6, 2) := by decide +kernel
theorem dX11_comesTo_43 : decode cX11_comesTo 43 = .ok (.iload 5, 2) := by decide +kernel
theorem dX11_comesTo_45 : decode cX11_comesTo 45 = .ok (.bipush 13, 2) := by decide +kernel
theorem dX11_comesTo_47 : decode cX11_comesTo 47 = .ok (.if_icmp .ge 32, 3) := by decide +kernel
theorem dX11_comesTo_50 : decode cX11_comesTo 50 = .ok (.aload_n 0, 1) := by decide +kernel
theorem dX11_comesTo_51 : decode cX11_comesTo 51 = .ok (.getfield 25, 3) := by decide +kernel
theorem dX11_comesTo_54 : decode cX11_comesTo 54 = .ok (.iload_n 3, 1) := by decide +kernel
theorem dX11_comesTo_55 : decode cX11_comesTo 55 = .ok (.iload 5, 2) := by decide +kernel
theorem dX11_comesTo_57 : decode cX11_comesTo 57 = .ok (.ifCond .ne 8, 3) := by decide +kernel
theorem dX11_comesTo_60 : decode cX11_comesTo 60 = .ok (.iload 6, 2) := by decide +kernel
theorem dX11_comesTo_62 : decode cX11_comesTo 62 = .ok (.goto 10, 3) := by decide +kernel
theorem dX11_comesTo_65 : decode cX11_comesTo 65 = .ok (.aload_n 0, 1) := by decide +kernel
theorem dX11_comesTo_66 : decode cX11_comesTo 66 = .ok (.getfield 28, 3) := by decide +kernel
theorem dX11_comesTo_69 : decode cX11_comesTo 69 = .ok (.iload 5, 2) := by decide +kernel
theorem dX11_comesTo_71 : decode cX11_comesTo 71 = .ok (.iaload, 1) := by decide +kernel
theorem dX11_comesTo_72 : decode cX11_comesTo 72 = .ok (.iastore, 1) := by decide +kernel
theorem dX11_comesTo_73 : decode cX11_comesTo 73 = .ok (.iinc 3 1, 3) := by decide +kernel
theorem dX11_comesTo_76 : decode cX11_comesTo 76 = .ok (.goto 84, 3) := by decide +kernel
theorem dX11_comesTo_79 : decode cX11_comesTo 79 = .ok (.iload 5, 2) := by decide +kernel
theorem dX11_comesTo_81 : decode cX11_comesTo 81 = .ok (.bipush 16, 2) := by decide +kernel
theorem dX11_comesTo_83 : decode cX11_comesTo 83 = .ok (.if_icmp .ne 19, 3) := by decide +kernel
theorem dX11_comesTo_86 : decode cX11_comesTo 86 = .ok (.aload_n 0, 1) := by decide +kernel
theorem dX11_comesTo_87 : decode cX11_comesTo 87 = .ok (.getfield 25, 3) := by decide +kernel
theorem dX11_comesTo_90 : decode cX11_comesTo 90 = .ok (.iload_n 3, 1) := by decide +kernel
theorem dX11_comesTo_91 : decode cX11_comesTo 91 = .ok (.iconst 1, 1) := by decide +kernel
theorem dX11_comesTo_92 : decode cX11_comesTo 92 = .ok (.isub, 1) := by decide +kernel
theorem dX11_comesTo_93 : decode cX11_comesTo 93 = .ok (.dup2, 1) := by decide +kernel
theorem dX11_comesTo_94 : decode cX11_comesTo 94 = .ok (.iaload, 1) := by decide +kernel
theorem dX11_comesTo_95 : decode cX11_comesTo 95 = .ok (.iload 6, 2) := by decide +kernel
theorem dX11_comesTo_97 : decode cX11_comesTo 97 = .ok (.idiv, 1) := by decide +kernel
theorem dX11_comesTo_98 : decode cX11_comesTo 98 = .ok (.iastore, 1) := by decide +kernel
theorem dX11_comesTo_99 : decode cX11_comesTo 99 = .ok (.goto 61, 3) := by decide +kernel
theorem dX11_comesTo_102 : decode cX11_comesTo 102 = .ok (.iload 5, 2) := by decide +kernel
theorem dX11_comesTo_104 : decode cX11_comesTo 104 = .ok (.bipush 20, 2) := by decide +kernel
theorem dX11_comesTo_106 : decode cX11_comesTo 106 = .ok (.if_icmp .ne 24, 3) := by decide +kernel
theorem dX11_comesTo_109 : decode cX11_comesTo 109 = .ok (.aload_n 0, 1) := by decide +kernel
theorem dX11_comesTo_110 : decode cX11_comesTo 110 = .ok (.getfield 25, 3) := by decide +kernel
theorem dX11_comesTo_113 : decode cX11_comesTo 113 = .ok (.iload_n 3, 1) := by decide +kernel
theorem dX11_comesTo_114 : decode cX11_comesTo 114 = .ok (.iconst 1, 1) := by decide +kernel
theorem dX11_comesTo_115 : decode cX11_comesTo 115 = .ok (.isub, 1) := by decide +kernel
theorem dX11_comesTo_116 : decode cX11_comesTo 116 = .ok (.iconst 1, 1) := by decide +kernel
theorem dX11_comesTo_117 : decode cX11_comesTo 117 = .ok (.aload_n 0, 1) := by decide +kernel
theorem dX11_comesTo_118 : decode cX11_comesTo 118 = .ok (.getfield 25, 3) := by decide +kernel
theorem dX11_comesTo_121 : decode cX11_comesTo 121 = .ok (.iload_n 3, 1) := by decide +kernel
theorem dX11_comesTo_122 : decode cX11_comesTo 122 = .ok (.iconst 1, 1) := by decide +kernel
theorem dX11_comesTo_123 : decode cX11_comesTo 123 = .ok (.isub, 1) := by decide +kernel
theorem dX11_comesTo_124 : decode cX11_comesTo 124 = .ok (.iaload, 1) := by decide +kernel
theorem dX11_comesTo_125 : decode cX11_comesTo 125 = .ok (.isub, 1) := by decide +kernel
theorem dX11_comesTo_126 : decode cX11_comesTo 126 = .ok (.iastore, 1) := by decide +kernel
theorem dX11_comesTo_127 : decode cX11_comesTo 127 = .ok (.goto 33, 3) := by decide +kernel
theorem dX11_comesTo_130 : decode cX11_comesTo 130 = .ok (.iinc 3 (-1), 3) := by decide +kernel
theorem dX11_comesTo_133 : decode cX11_comesTo 133 = .ok (.aload_n 0, 1) := by decide +kernel
theorem dX11_comesTo_134 : decode cX11_comesTo 134 = .ok (.getfield 25, 3) := by decide +kernel
theorem dX11_comesTo_137 : decode cX11_comesTo 137 = .ok (.iload_n 3, 1) := by decide +kernel
theorem dX11_comesTo_138 : decode cX11_comesTo 138 = .ok (.iconst 1, 1) := by decide +kernel
theorem dX11_comesTo_139 : decode cX11_comesTo 139 = .ok (.isub, 1) := by decide +kernel
theorem dX11_comesTo_140 : decode cX11_comesTo 140 = .ok (.iload 5, 2) := by decide +kernel
theorem dX11_comesTo_142 : decode cX11_comesTo 142 = .ok (.aload_n 0, 1) := by decide +kernel
theorem dX11_comesTo_143 : decode cX11_comesTo 143 = .ok (.getfield 25, 3) := by decide +kernel
theorem dX11_comesTo_146 : decode cX11_comesTo 146 = .ok (.iload_n 3, 1) := by decide +kernel
theorem dX11_comesTo_147 : decode cX11_comesTo 147 = .ok (.iconst 1, 1) := by decide +kernel
theorem dX11_comesTo_148 : decode cX11_comesTo 148 = .ok (.isub, 1) := by decide +kernel
theorem dX11_comesTo_149 : decode cX11_comesTo 149 = .ok (.iaload, 1) := by decide +kernel
theorem dX11_comesTo_150 : decode cX11_comesTo 150 = .ok (.aload_n 0, 1) := by decide +kernel
theorem dX11_comesTo_151 : decode cX11_comesTo 151 = .ok (.getfield 25, 3) := by decide +kernel
theorem dX11_comesTo_154 : decode cX11_comesTo 154 = .ok (.iload_n 3, 1) := by decide +kernel
theorem dX11_comesTo_155 : decode cX11_comesTo 155 = .ok (.iaload, 1) := by decide +kernel
theorem dX11_comesTo_156 : decode cX11_comesTo 156 = .ok (.invokestatic 234, 3) := by decide +kernel
theorem dX11_comesTo_159 : decode cX11_comesTo 159 = .ok (.iastore, 1) := by decide +kernel
theorem dX11_comesTo_160 : decode cX11_comesTo 160 = .ok (.iinc 4 1, 3) := by decide +kernel
theorem dX11_comesTo_163 : decode cX11_comesTo 163 = .ok (.goto (-158), 3) := by decide +kernel
theorem dX11_comesTo_166 : decode cX11_comesTo 166 = .ok (.aload_n 0, 1) := by decide +kernel
theorem dX11_comesTo_167 : decode cX11_comesTo 167 = .ok (.getfield 25, 3) := by decide +kernel
theorem dX11_comesTo_170 : decode cX11_comesTo 170 = .ok (.iconst 0, 1) := by decide +kernel
theorem dX11_comesTo_171 : decode cX11_comesTo 171 = .ok (.iaload, 1) := by decide +kernel
theorem dX11_comesTo_172 : decode cX11_comesTo 172 = .ok (.ireturn, 1) := by decide +kernel
theorem dX11_laysHouses_0 : decode cX11_laysHouses 0 = .ok (.aload_n 0, 1) := by decide +kernel
theorem dX11_laysHouses_1 : decode cX11_laysHouses 1 = .ok (.aload_n 0, 1) := by decide +kernel
theorem dX11_laysHouses_2 : decode cX11_laysHouses 2 = .ok (.getfield 7, 3) := by decide +kernel
theorem dX11_laysHouses_5 : decode cX11_laysHouses 5 = .ok (.iconst 0, 1) := by decide +kernel
theorem dX11_laysHouses_6 : decode cX11_laysHouses 6 = .ok (.iaload, 1) := by decide +kernel
theorem dX11_laysHouses_7 : decode cX11_laysHouses 7 = .ok (.putfield 238, 3) := by decide +kernel
theorem dX11_laysHouses_10 : decode cX11_laysHouses 10 = .ok (.iconst 0, 1) := by decide +kernel
theorem dX11_laysHouses_11 : decode cX11_laysHouses 11 = .ok (.istore_n 1, 1) := by decide +kernel
theorem dX11_laysHouses_12 : decode cX11_laysHouses 12 = .ok (.iload_n 1, 1) := by decide +kernel
theorem dX11_laysHouses_13 : decode cX11_laysHouses 13 = .ok (.aload_n 0, 1) := by decide +kernel
theorem dX11_laysHouses_14 : decode cX11_laysHouses 14 = .ok (.getfield 238, 3) := by decide +kernel
theorem dX11_laysHouses_17 : decode cX11_laysHouses 17 = .ok (.if_icmp .ge 109, 3) := by decide +kernel
theorem dX11_laysHouses_20 : decode cX11_laysHouses 20 = .ok (.aload_n 0, 1) := by decide +kernel
theorem dX11_laysHouses_21 : decode cX11_laysHouses 21 = .ok (.getfield 35, 3) := by decide +kernel
theorem dX11_laysHouses_24 : decode cX11_laysHouses 24 = .ok (.iload_n 1, 1) := by decide +kernel
theorem dX11_laysHouses_25 : decode cX11_laysHouses 25 = .ok (.aload_n 0, 1) := by decide +kernel
theorem dX11_laysHouses_26 : decode cX11_laysHouses 26 = .ok (.iload_n 1, 1) := by decide +kernel
theorem dX11_laysHouses_27 : decode cX11_laysHouses 27 = .ok (.iconst 0, 1) := by decide +kernel
theorem dX11_laysHouses_28 : decode cX11_laysHouses 28 = .ok (.invokevirtual 241, 3) := by decide +kernel
theorem dX11_laysHouses_31 : decode cX11_laysHouses 31 = .ok (.iastore, 1) := by decide +kernel
theorem dX11_laysHouses_32 : decode cX11_laysHouses 32 = .ok (.aload_n 0, 1) := by decide +kernel
theorem dX11_laysHouses_33 : decode cX11_laysHouses 33 = .ok (.getfield 38, 3) := by decide +kernel
theorem dX11_laysHouses_36 : decode cX11_laysHouses 36 = .ok (.iload_n 1, 1) := by decide +kernel
theorem dX11_laysHouses_37 : decode cX11_laysHouses 37 = .ok (.aload_n 0, 1) := by decide +kernel
theorem dX11_laysHouses_38 : decode cX11_laysHouses 38 = .ok (.iload_n 1, 1) := by decide +kernel
theorem dX11_laysHouses_39 : decode cX11_laysHouses 39 = .ok (.iconst 1, 1) := by decide +kernel
theorem dX11_laysHouses_40 : decode cX11_laysHouses 40 = .ok (.invokevirtual 241, 3) := by decide +kernel
theorem dX11_laysHouses_43 : decode cX11_laysHouses 43 = .ok (.iastore, 1) := by decide +kernel
theorem dX11_laysHouses_44 : decode cX11_laysHouses 44 = .ok (.aload_n 0, 1) := by decide +kernel
theorem dX11_laysHouses_45 : decode cX11_laysHouses 45 = .ok (.getfield 41, 3) := by decide +kernel
theorem dX11_laysHouses_48 : decode cX11_laysHouses 48 = .ok (.iload_n 1, 1) := by decide +kernel
theorem dX11_laysHouses_49 : decode cX11_laysHouses 49 = .ok (.aload_n 0, 1) := by decide +kernel
theorem dX11_laysHouses_50 : decode cX11_laysHouses 50 = .ok (.iload_n 1, 1) := by decide +kernel
theorem dX11_laysHouses_51 : decode cX11_laysHouses 51 = .ok (.iconst 4, 1) := by decide +kernel
theorem dX11_laysHouses_52 : decode cX11_laysHouses 52 = .ok (.invokevirtual 241, 3) := by decide +kernel
theorem dX11_laysHouses_55 : decode cX11_laysHouses 55 = .ok (.iastore, 1) := by decide +kernel
theorem dX11_laysHouses_56 : decode cX11_laysHouses 56 = .ok (.aload_n 0, 1) := by decide +kernel
theorem dX11_laysHouses_57 : decode cX11_laysHouses 57 = .ok (.getfield 44, 3) := by decide +kernel
theorem dX11_laysHouses_60 : decode cX11_laysHouses 60 = .ok (.iload_n 1, 1) := by decide +kernel
theorem dX11_laysHouses_61 : decode cX11_laysHouses 61 = .ok (.aload_n 0, 1) := by decide +kernel
theorem dX11_laysHouses_62 : decode cX11_laysHouses 62 = .ok (.iload_n 1, 1) := by decide +kernel
theorem dX11_laysHouses_63 : decode cX11_laysHouses 63 = .ok (.iconst 5, 1) := by decide +kernel
theorem dX11_laysHouses_64 : decode cX11_laysHouses 64 = .ok (.invokevirtual 241, 3) := by decide +kernel
theorem dX11_laysHouses_67 : decode cX11_laysHouses 67 = .ok (.iastore, 1) := by decide +kernel
theorem dX11_laysHouses_68 : decode cX11_laysHouses 68 = .ok (.aload_n 0, 1) := by decide +kernel
theorem dX11_laysHouses_69 : decode cX11_laysHouses 69 = .ok (.getfield 47, 3) := by decide +kernel
theorem dX11_laysHouses_72 : decode cX11_laysHouses 72 = .ok (.iload_n 1, 1) := by decide +kernel
theorem dX11_laysHouses_73 : decode cX11_laysHouses 73 = .ok (.aload_n 0, 1) := by decide +kernel
theorem dX11_laysHouses_74 : decode cX11_laysHouses 74 = .ok (.iload_n 1, 1) := by decide +kernel
theorem dX11_laysHouses_75 : decode cX11_laysHouses 75 = .ok (.bipush 6, 2) := by decide +kernel
theorem dX11_laysHouses_77 : decode cX11_laysHouses 77 = .ok (.invokevirtual 241, 3) := by decide +kernel
theorem dX11_laysHouses_80 : decode cX11_laysHouses 80 = .ok (.iastore, 1) := by decide +kernel
theorem dX11_laysHouses_81 : decode cX11_laysHouses 81 = .ok (.aload_n 0, 1) := by decide +kernel
theorem dX11_laysHouses_82 : decode cX11_laysHouses 82 = .ok (.getfield 50, 3) := by decide +kernel
theorem dX11_laysHouses_85 : decode cX11_laysHouses 85 = .ok (.iload_n 1, 1) := by decide +kernel
theorem dX11_laysHouses_86 : decode cX11_laysHouses 86 = .ok (.aload_n 0, 1) := by decide +kernel
theorem dX11_laysHouses_87 : decode cX11_laysHouses 87 = .ok (.iload_n 1, 1) := by decide +kernel
theorem dX11_laysHouses_88 : decode cX11_laysHouses 88 = .ok (.bipush 7, 2) := by decide +kernel
theorem dX11_laysHouses_90 : decode cX11_laysHouses 90 = .ok (.invokevirtual 241, 3) := by decide +kernel
theorem dX11_laysHouses_93 : decode cX11_laysHouses 93 = .ok (.iastore, 1) := by decide +kernel
theorem dX11_laysHouses_94 : decode cX11_laysHouses 94 = .ok (.aload_n 0, 1) := by decide +kernel
theorem dX11_laysHouses_95 : decode cX11_laysHouses 95 = .ok (.getfield 53, 3) := by decide +kernel
theorem dX11_laysHouses_98 : decode cX11_laysHouses 98 = .ok (.iload_n 1, 1) := by decide +kernel
theorem dX11_laysHouses_99 : decode cX11_laysHouses 99 = .ok (.aload_n 0, 1) := by decide +kernel
theorem dX11_laysHouses_100 : decode cX11_laysHouses 100 = .ok (.iload_n 1, 1) := by decide +kernel
theorem dX11_laysHouses_101 : decode cX11_laysHouses 101 = .ok (.bipush 8, 2) := by decide +kernel
theorem dX11_laysHouses_103 : decode cX11_laysHouses 103 = .ok (.invokevirtual 241, 3) := by decide +kernel
theorem dX11_laysHouses_106 : decode cX11_laysHouses 106 = .ok (.iastore, 1) := by decide +kernel
theorem dX11_laysHouses_107 : decode cX11_laysHouses 107 = .ok (.aload_n 0, 1) := by decide +kernel
theorem dX11_laysHouses_108 : decode cX11_laysHouses 108 = .ok (.getfield 56, 3) := by decide +kernel
theorem dX11_laysHouses_111 : decode cX11_laysHouses 111 = .ok (.iload_n 1, 1) := by decide +kernel
theorem dX11_laysHouses_112 : decode cX11_laysHouses 112 = .ok (.aload_n 0, 1) := by decide +kernel
theorem dX11_laysHouses_113 : decode cX11_laysHouses 113 = .ok (.iload_n 1, 1) := by decide +kernel
theorem dX11_laysHouses_114 : decode cX11_laysHouses 114 = .ok (.bipush 9, 2) := by decide +kernel
theorem dX11_laysHouses_116 : decode cX11_laysHouses 116 = .ok (.invokevirtual 241, 3) := by decide +kernel
theorem dX11_laysHouses_119 : decode cX11_laysHouses 119 = .ok (.iastore, 1) := by decide +kernel
theorem dX11_laysHouses_120 : decode cX11_laysHouses 120 = .ok (.iinc 1 1, 3) := by decide +kernel
theorem dX11_laysHouses_123 : decode cX11_laysHouses 123 = .ok (.goto (-111), 3) := by decide +kernel
theorem dX11_laysHouses_126 : decode cX11_laysHouses 126 = .ok (.return_, 1) := by decide +kernel
theorem dX11_writes_0 : decode cX11_writes 0 = .ok (.sipush 440, 3) := by decide +kernel
theorem dX11_writes_3 : decode cX11_writes 3 = .ok (.iconst 3, 1) := by decide +kernel
theorem dX11_writes_4 : decode cX11_writes 4 = .ok (.bipush 12, 2) := by decide +kernel
theorem dX11_writes_6 : decode cX11_writes 6 = .ok (.iload_n 1, 1) := by decide +kernel
theorem dX11_writes_7 : decode cX11_writes 7 = .ok (.imul, 1) := by decide +kernel
theorem dX11_writes_8 : decode cX11_writes 8 = .ok (.iload_n 2, 1) := by decide +kernel
theorem dX11_writes_9 : decode cX11_writes 9 = .ok (.iadd, 1) := by decide +kernel
theorem dX11_writes_10 : decode cX11_writes 10 = .ok (.imul, 1) := by decide +kernel
theorem dX11_writes_11 : decode cX11_writes 11 = .ok (.iadd, 1) := by decide +kernel
theorem dX11_writes_12 : decode cX11_writes 12 = .ok (.istore 5, 2) := by decide +kernel
theorem dX11_writes_14 : decode cX11_writes 14 = .ok (.aload_n 0, 1) := by decide +kernel
theorem dX11_writes_15 : decode cX11_writes 15 = .ok (.getfield 7, 3) := by decide +kernel
theorem dX11_writes_18 : decode cX11_writes 18 = .ok (.iload 5, 2) := by decide +kernel
theorem dX11_writes_20 : decode cX11_writes 20 = .ok (.iload_n 3, 1) := by decide +kernel
theorem dX11_writes_21 : decode cX11_writes 21 = .ok (.iastore, 1) := by decide +kernel
theorem dX11_writes_22 : decode cX11_writes 22 = .ok (.aload_n 0, 1) := by decide +kernel
theorem dX11_writes_23 : decode cX11_writes 23 = .ok (.getfield 7, 3) := by decide +kernel
theorem dX11_writes_26 : decode cX11_writes 26 = .ok (.iload 5, 2) := by decide +kernel
theorem dX11_writes_28 : decode cX11_writes 28 = .ok (.iconst 1, 1) := by decide +kernel
theorem dX11_writes_29 : decode cX11_writes 29 = .ok (.iadd, 1) := by decide +kernel
theorem dX11_writes_30 : decode cX11_writes 30 = .ok (.iload 4, 2) := by decide +kernel
theorem dX11_writes_32 : decode cX11_writes 32 = .ok (.iastore, 1) := by decide +kernel
theorem dX11_writes_33 : decode cX11_writes 33 = .ok (.aload_n 0, 1) := by decide +kernel
theorem dX11_writes_34 : decode cX11_writes 34 = .ok (.getfield 7, 3) := by decide +kernel
theorem dX11_writes_37 : decode cX11_writes 37 = .ok (.iload 5, 2) := by decide +kernel
theorem dX11_writes_39 : decode cX11_writes 39 = .ok (.iconst 2, 1) := by decide +kernel
theorem dX11_writes_40 : decode cX11_writes 40 = .ok (.iadd, 1) := by decide +kernel
theorem dX11_writes_41 : decode cX11_writes 41 = .ok (.iload_n 3, 1) := by decide +kernel
theorem dX11_writes_42 : decode cX11_writes 42 = .ok (.iload 4, 2) := by decide +kernel
theorem dX11_writes_44 : decode cX11_writes 44 = .ok (.isub, 1) := by decide +kernel
theorem dX11_writes_45 : decode cX11_writes 45 = .ok (.iastore, 1) := by decide +kernel
theorem dX11_writes_46 : decode cX11_writes 46 = .ok (.return_, 1) := by decide +kernel
theorem dX11_gets_0 : decode cX11_gets 0 = .ok (.iload_n 2, 1) := by decide +kernel
theorem dX11_gets_1 : decode cX11_gets 1 = .ok (.ifCond .ne 31, 3) := by decide +kernel
theorem dX11_gets_4 : decode cX11_gets 4 = .ok (.aload_n 0, 1) := by decide +kernel
theorem dX11_gets_5 : decode cX11_gets 5 = .ok (.getfield 50, 3) := by decide +kernel
theorem dX11_gets_8 : decode cX11_gets 8 = .ok (.iload_n 1, 1) := by decide +kernel
theorem dX11_gets_9 : decode cX11_gets 9 = .ok (.iaload, 1) := by decide +kernel
theorem dX11_gets_10 : decode cX11_gets 10 = .ok (.aload_n 0, 1) := by decide +kernel
theorem dX11_gets_11 : decode cX11_gets 11 = .ok (.getfield 53, 3) := by decide +kernel
theorem dX11_gets_14 : decode cX11_gets 14 = .ok (.iload_n 1, 1) := by decide +kernel
theorem dX11_gets_15 : decode cX11_gets 15 = .ok (.iaload, 1) := by decide +kernel
theorem dX11_gets_16 : decode cX11_gets 16 = .ok (.invokestatic 244, 3) := by decide +kernel
theorem dX11_gets_19 : decode cX11_gets 19 = .ok (.istore_n 3, 1) := by decide +kernel
theorem dX11_gets_20 : decode cX11_gets 20 = .ok (.aload_n 0, 1) := by decide +kernel
theorem dX11_gets_21 : decode cX11_gets 21 = .ok (.getfield 53, 3) := by decide +kernel
theorem dX11_gets_24 : decode cX11_gets 24 = .ok (.iload_n 1, 1) := by decide +kernel
theorem dX11_gets_25 : decode cX11_gets 25 = .ok (.dup2, 1) := by decide +kernel
theorem dX11_gets_26 : decode cX11_gets 26 = .ok (.iaload, 1) := by decide +kernel
theorem dX11_gets_27 : decode cX11_gets 27 = .ok (.iload_n 3, 1) := by decide +kernel
theorem dX11_gets_28 : decode cX11_gets 28 = .ok (.isub, 1) := by decide +kernel
theorem dX11_gets_29 : decode cX11_gets 29 = .ok (.iastore, 1) := by decide +kernel
theorem dX11_gets_30 : decode cX11_gets 30 = .ok (.iload_n 3, 1) := by decide +kernel
theorem dX11_gets_31 : decode cX11_gets 31 = .ok (.ireturn, 1) := by decide +kernel
theorem dX11_gets_32 : decode cX11_gets 32 = .ok (.iload_n 2, 1) := by decide +kernel
theorem dX11_gets_33 : decode cX11_gets 33 = .ok (.iconst 0, 1) := by decide +kernel
theorem dX11_gets_34 : decode cX11_gets 34 = .ok (.aload_n 0, 1) := by decide +kernel
theorem dX11_gets_35 : decode cX11_gets 35 = .ok (.getfield 47, 3) := by decide +kernel
theorem dX11_gets_38 : decode cX11_gets 38 = .ok (.iload_n 1, 1) := by decide +kernel
theorem dX11_gets_39 : decode cX11_gets 39 = .ok (.iaload, 1) := by decide +kernel
theorem dX11_gets_40 : decode cX11_gets 40 = .ok (.aload_n 0, 1) := by decide +kernel
theorem dX11_gets_41 : decode cX11_gets 41 = .ok (.getfield 53, 3) := by decide +kernel
theorem dX11_gets_44 : decode cX11_gets 44 = .ok (.iload_n 1, 1) := by decide +kernel
theorem dX11_gets_45 : decode cX11_gets 45 = .ok (.iaload, 1) := by decide +kernel
theorem dX11_gets_46 : decode cX11_gets 46 = .ok (.isub, 1) := by decide +kernel
theorem dX11_gets_47 : decode cX11_gets 47 = .ok (.invokestatic 247, 3) := by decide +kernel
theorem dX11_gets_50 : decode cX11_gets 50 = .ok (.invokestatic 244, 3) := by decide +kernel
theorem dX11_gets_53 : decode cX11_gets 53 = .ok (.istore_n 3, 1) := by decide +kernel
theorem dX11_gets_54 : decode cX11_gets 54 = .ok (.aload_n 0, 1) := by decide +kernel
theorem dX11_gets_55 : decode cX11_gets 55 = .ok (.getfield 53, 3) := by decide +kernel
theorem dX11_gets_58 : decode cX11_gets 58 = .ok (.iload_n 1, 1) := by decide +kernel
theorem dX11_gets_59 : decode cX11_gets 59 = .ok (.dup2, 1) := by decide +kernel
theorem dX11_gets_60 : decode cX11_gets 60 = .ok (.iaload, 1) := by decide +kernel
theorem dX11_gets_61 : decode cX11_gets 61 = .ok (.iload_n 3, 1) := by decide +kernel
theorem dX11_gets_62 : decode cX11_gets 62 = .ok (.iadd, 1) := by decide +kernel
theorem dX11_gets_63 : decode cX11_gets 63 = .ok (.iastore, 1) := by decide +kernel
theorem dX11_gets_64 : decode cX11_gets 64 = .ok (.iload_n 2, 1) := by decide +kernel
theorem dX11_gets_65 : decode cX11_gets 65 = .ok (.iload_n 3, 1) := by decide +kernel
theorem dX11_gets_66 : decode cX11_gets 66 = .ok (.isub, 1) := by decide +kernel
theorem dX11_gets_67 : decode cX11_gets 67 = .ok (.ireturn, 1) := by decide +kernel
theorem dX11_runs_0 : decode cX11_runs 0 = .ok (.iconst 0, 1) := by decide +kernel
theorem dX11_runs_1 : decode cX11_runs 1 = .ok (.istore_n 2, 1) := by decide +kernel
theorem dX11_runs_2 : decode cX11_runs 2 = .ok (.aload_n 0, 1) := by decide +kernel
theorem dX11_runs_3 : decode cX11_runs 3 = .ok (.iconst 0, 1) := by decide +kernel
theorem dX11_runs_4 : decode cX11_runs 4 = .ok (.putfield 250, 3) := by decide +kernel
theorem dX11_runs_7 : decode cX11_runs 7 = .ok (.aload_n 0, 1) := by decide +kernel
theorem dX11_runs_8 : decode cX11_runs 8 = .ok (.iconst 0, 1) := by decide +kernel
theorem dX11_runs_9 : decode cX11_runs 9 = .ok (.putfield 253, 3) := by decide +kernel
theorem dX11_runs_12 : decode cX11_runs 12 = .ok (.iconst 0, 1) := by decide +kernel
theorem dX11_runs_13 : decode cX11_runs 13 = .ok (.istore_n 3, 1) := by decide +kernel
theorem dX11_runs_14 : decode cX11_runs 14 = .ok (.iload_n 3, 1) := by decide +kernel
theorem dX11_runs_15 : decode cX11_runs 15 = .ok (.aload_n 0, 1) := by decide +kernel
theorem dX11_runs_16 : decode cX11_runs 16 = .ok (.getfield 238, 3) := by decide +kernel
theorem dX11_runs_19 : decode cX11_runs 19 = .ok (.if_icmp .ge 16, 3) := by decide +kernel
theorem dX11_runs_22 : decode cX11_runs 22 = .ok (.aload_n 0, 1) := by decide +kernel
theorem dX11_runs_23 : decode cX11_runs 23 = .ok (.getfield 59, 3) := by decide +kernel
theorem dX11_runs_26 : decode cX11_runs 26 = .ok (.iload_n 3, 1) := by decide +kernel
theorem dX11_runs_27 : decode cX11_runs 27 = .ok (.iconst 0, 1) := by decide +kernel
theorem dX11_runs_28 : decode cX11_runs 28 = .ok (.iastore, 1) := by decide +kernel
theorem dX11_runs_29 : decode cX11_runs 29 = .ok (.iinc 3 1, 3) := by decide +kernel
theorem dX11_runs_32 : decode cX11_runs 32 = .ok (.goto (-18), 3) := by decide +kernel
theorem dX11_runs_35 : decode cX11_runs 35 = .ok (.iconst 0, 1) := by decide +kernel
theorem dX11_runs_36 : decode cX11_runs 36 = .ok (.istore_n 3, 1) := by decide +kernel
theorem dX11_runs_37 : decode cX11_runs 37 = .ok (.iload_n 3, 1) := by decide +kernel
theorem dX11_runs_38 : decode cX11_runs 38 = .ok (.aload_n 0, 1) := by decide +kernel
theorem dX11_runs_39 : decode cX11_runs 39 = .ok (.iload_n 1, 1) := by decide +kernel
theorem dX11_runs_40 : decode cX11_runs 40 = .ok (.invokevirtual 108, 3) := by decide +kernel
theorem dX11_runs_43 : decode cX11_runs 43 = .ok (.if_icmp .ge 283, 3) := by decide +kernel
theorem dX11_runs_46 : decode cX11_runs 46 = .ok (.iconst 0, 1) := by decide +kernel
theorem dX11_runs_47 : decode cX11_runs 47 = .ok (.istore 4, 2) := by decide +kernel
theorem dX11_runs_49 : decode cX11_runs 49 = .ok (.iload 4, 2) := by decide +kernel
theorem dX11_runs_51 : decode cX11_runs 51 = .ok (.aload_n 0, 1) := by decide +kernel
theorem dX11_runs_52 : decode cX11_runs 52 = .ok (.getfield 238, 3) := by decide +kernel
theorem dX11_runs_55 : decode cX11_runs 55 = .ok (.if_icmp .ge 17, 3) := by decide +kernel
theorem dX11_runs_58 : decode cX11_runs 58 = .ok (.aload_n 0, 1) := by decide +kernel
theorem dX11_runs_59 : decode cX11_runs 59 = .ok (.getfield 62, 3) := by decide +kernel
theorem dX11_runs_62 : decode cX11_runs 62 = .ok (.iload 4, 2) := by decide +kernel
theorem dX11_runs_64 : decode cX11_runs 64 = .ok (.iconst 0, 1) := by decide +kernel
theorem dX11_runs_65 : decode cX11_runs 65 = .ok (.iastore, 1) := by decide +kernel
theorem dX11_runs_66 : decode cX11_runs 66 = .ok (.iinc 4 1, 3) := by decide +kernel
theorem dX11_runs_69 : decode cX11_runs 69 = .ok (.goto (-20), 3) := by decide +kernel
theorem dX11_runs_72 : decode cX11_runs 72 = .ok (.iconst 0, 1) := by decide +kernel
theorem dX11_runs_73 : decode cX11_runs 73 = .ok (.istore 4, 2) := by decide +kernel
theorem dX11_runs_75 : decode cX11_runs 75 = .ok (.iload 4, 2) := by decide +kernel
theorem dX11_runs_77 : decode cX11_runs 77 = .ok (.aload_n 0, 1) := by decide +kernel
theorem dX11_runs_78 : decode cX11_runs 78 = .ok (.getfield 238, 3) := by decide +kernel
theorem dX11_runs_81 : decode cX11_runs 81 = .ok (.if_icmp .ge 239, 3) := by decide +kernel
theorem dX11_runs_84 : decode cX11_runs 84 = .ok (.aload_n 0, 1) := by decide +kernel
theorem dX11_runs_85 : decode cX11_runs 85 = .ok (.iload_n 1, 1) := by decide +kernel
theorem dX11_runs_86 : decode cX11_runs 86 = .ok (.iload_n 3, 1) := by decide +kernel
theorem dX11_runs_87 : decode cX11_runs 87 = .ok (.invokevirtual 256, 3) := by decide +kernel
theorem dX11_runs_90 : decode cX11_runs 90 = .ok (.aload_n 0, 1) := by decide +kernel
theorem dX11_runs_91 : decode cX11_runs 91 = .ok (.getfield 35, 3) := by decide +kernel
theorem dX11_runs_94 : decode cX11_runs 94 = .ok (.iload 4, 2) := by decide +kernel
theorem dX11_runs_96 : decode cX11_runs 96 = .ok (.iaload, 1) := by decide +kernel
theorem dX11_runs_97 : decode cX11_runs 97 = .ok (.imul, 1) := by decide +kernel
theorem dX11_runs_98 : decode cX11_runs 98 = .ok (.istore 5, 2) := by decide +kernel
theorem dX11_runs_100 : decode cX11_runs 100 = .ok (.aload_n 0, 1) := by decide +kernel
theorem dX11_runs_101 : decode cX11_runs 101 = .ok (.getfield 62, 3) := by decide +kernel
theorem dX11_runs_104 : decode cX11_runs 104 = .ok (.iload 4, 2) := by decide +kernel
theorem dX11_runs_106 : decode cX11_runs 106 = .ok (.iaload, 1) := by decide +kernel
theorem dX11_runs_107 : decode cX11_runs 107 = .ok (.istore 6, 2) := by decide +kernel
theorem dX11_runs_109 : decode cX11_runs 109 = .ok (.aload_n 0, 1) := by decide +kernel
theorem dX11_runs_110 : decode cX11_runs 110 = .ok (.dup, 1) := by decide +kernel
theorem dX11_runs_111 : decode cX11_runs 111 = .ok (.getfield 253, 3) := by decide +kernel
theorem dX11_runs_114 : decode cX11_runs 114 = .ok (.iload 5, 2) := by decide +kernel
theorem dX11_runs_116 : decode cX11_runs 116 = .ok (.iadd, 1) := by decide +kernel
theorem dX11_runs_117 : decode cX11_runs 117 = .ok (.putfield 253, 3) := by decide +kernel
theorem dX11_runs_120 : decode cX11_runs 120 = .ok (.aload_n 0, 1) := by decide +kernel
theorem dX11_runs_121 : decode cX11_runs 121 = .ok (.iload_n 1, 1) := by decide +kernel
theorem dX11_runs_122 : decode cX11_runs 122 = .ok (.iload_n 3, 1) := by decide +kernel
theorem dX11_runs_123 : decode cX11_runs 123 = .ok (.invokevirtual 259, 3) := by decide +kernel
theorem dX11_runs_126 : decode cX11_runs 126 = .ok (.ifCond .eq 18, 3) := by decide +kernel
theorem dX11_runs_129 : decode cX11_runs 129 = .ok (.aload_n 0, 1) := by decide +kernel
theorem dX11_runs_130 : decode cX11_runs 130 = .ok (.getfield 56, 3) := by decide +kernel
theorem dX11_runs_133 : decode cX11_runs 133 = .ok (.iload 4, 2) := by decide +kernel
theorem dX11_runs_135 : decode cX11_runs 135 = .ok (.dup2, 1) := by decide +kernel
theorem dX11_runs_136 : decode cX11_runs 136 = .ok (.iaload, 1) := by decide +kernel
theorem dX11_runs_137 : decode cX11_runs 137 = .ok (.iload 5, 2) := by decide +kernel
theorem dX11_runs_139 : decode cX11_runs 139 = .ok (.iadd, 1) := by decide +kernel
theorem dX11_runs_140 : decode cX11_runs 140 = .ok (.iastore, 1) := by decide +kernel
theorem dX11_runs_141 : decode cX11_runs 141 = .ok (.goto 52, 3) := by decide +kernel
theorem dX11_runs_144 : decode cX11_runs 144 = .ok (.aload_n 0, 1) := by decide +kernel
theorem dX11_runs_145 : decode cX11_runs 145 = .ok (.getfield 56, 3) := by decide +kernel
theorem dX11_runs_148 : decode cX11_runs 148 = .ok (.iload 4, 2) := by decide +kernel
theorem dX11_runs_150 : decode cX11_runs 150 = .ok (.iaload, 1) := by decide +kernel
theorem dX11_runs_151 : decode cX11_runs 151 = .ok (.aload_n 0, 1) := by decide +kernel
theorem dX11_runs_152 : decode cX11_runs 152 = .ok (.getfield 7, 3) := by decide +kernel
theorem dX11_runs_155 : decode cX11_runs 155 = .ok (.bipush 6, 2) := by decide +kernel
theorem dX11_runs_157 : decode cX11_runs 157 = .ok (.iaload, 1) := by decide +kernel
theorem dX11_runs_158 : decode cX11_runs 158 = .ok (.aload_n 0, 1) := by decide +kernel
theorem dX11_runs_159 : decode cX11_runs 159 = .ok (.getfield 35, 3) := by decide +kernel
theorem dX11_runs_162 : decode cX11_runs 162 = .ok (.iload 4, 2) := by decide +kernel
theorem dX11_runs_164 : decode cX11_runs 164 = .ok (.iaload, 1) := by decide +kernel
theorem dX11_runs_165 : decode cX11_runs 165 = .ok (.imul, 1) := by decide +kernel
theorem dX11_runs_166 : decode cX11_runs 166 = .ok (.invokestatic 244, 3) := by decide +kernel
theorem dX11_runs_169 : decode cX11_runs 169 = .ok (.istore 7, 2) := by decide +kernel
theorem dX11_runs_171 : decode cX11_runs 171 = .ok (.aload_n 0, 1) := by decide +kernel
theorem dX11_runs_172 : decode cX11_runs 172 = .ok (.getfield 56, 3) := by decide +kernel
theorem dX11_runs_175 : decode cX11_runs 175 = .ok (.iload 4, 2) := by decide +kernel
theorem dX11_runs_177 : decode cX11_runs 177 = .ok (.dup2, 1) := by decide +kernel
theorem dX11_runs_178 : decode cX11_runs 178 = .ok (.iaload, 1) := by decide +kernel
theorem dX11_runs_179 : decode cX11_runs 179 = .ok (.iload 7, 2) := by decide +kernel
theorem dX11_runs_181 : decode cX11_runs 181 = .ok (.isub, 1) := by decide +kernel
theorem dX11_runs_182 : decode cX11_runs 182 = .ok (.iastore, 1) := by decide +kernel
theorem dX11_runs_183 : decode cX11_runs 183 = .ok (.iload 6, 2) := by decide +kernel
theorem dX11_runs_185 : decode cX11_runs 185 = .ok (.iload 5, 2) := by decide +kernel
theorem dX11_runs_187 : decode cX11_runs 187 = .ok (.iload 7, 2) := by decide +kernel
theorem dX11_runs_189 : decode cX11_runs 189 = .ok (.iadd, 1) := by decide +kernel
theorem dX11_runs_190 : decode cX11_runs 190 = .ok (.iadd, 1) := by decide +kernel
theorem dX11_runs_191 : decode cX11_runs 191 = .ok (.istore 6, 2) := by decide +kernel
theorem dX11_runs_193 : decode cX11_runs 193 = .ok (.aload_n 0, 1) := by decide +kernel
theorem dX11_runs_194 : decode cX11_runs 194 = .ok (.iload 4, 2) := by decide +kernel
theorem dX11_runs_196 : decode cX11_runs 196 = .ok (.iload 6, 2) := by decide +kernel
theorem dX11_runs_198 : decode cX11_runs 198 = .ok (.invokevirtual 263, 3) := by decide +kernel
theorem dX11_runs_201 : decode cX11_runs 201 = .ok (.istore 7, 2) := by decide +kernel
theorem dX11_runs_203 : decode cX11_runs 203 = .ok (.iload 7, 2) := by decide +kernel
theorem dX11_runs_205 : decode cX11_runs 205 = .ok (.aload_n 0, 1) := by decide +kernel
theorem dX11_runs_206 : decode cX11_runs 206 = .ok (.getfield 38, 3) := by decide +kernel
theorem dX11_runs_209 : decode cX11_runs 209 = .ok (.iload 4, 2) := by decide +kernel
theorem dX11_runs_211 : decode cX11_runs 211 = .ok (.iaload, 1) := by decide +kernel
theorem dX11_runs_212 : decode cX11_runs 212 = .ok (.bipush 10, 2) := by decide +kernel
theorem dX11_runs_214 : decode cX11_runs 214 = .ok (.aload_n 0, 1) := by decide +kernel
theorem dX11_runs_215 : decode cX11_runs 215 = .ok (.getfield 44, 3) := by decide +kernel
theorem dX11_runs_218 : decode cX11_runs 218 = .ok (.iload 4, 2) := by decide +kernel
theorem dX11_runs_220 : decode cX11_runs 220 = .ok (.iaload, 1) := by decide +kernel
theorem dX11_runs_221 : decode cX11_runs 221 = .ok (.isub, 1) := by decide +kernel
theorem dX11_runs_222 : decode cX11_runs 222 = .ok (.imul, 1) := by decide +kernel
theorem dX11_runs_223 : decode cX11_runs 223 = .ok (.bipush 10, 2) := by decide +kernel
theorem dX11_runs_225 : decode cX11_runs 225 = .ok (.idiv, 1) := by decide +kernel
theorem dX11_runs_226 : decode cX11_runs 226 = .ok (.invokestatic 244, 3) := by decide +kernel
theorem dX11_runs_229 : decode cX11_runs 229 = .ok (.istore 8, 2) := by decide +kernel
theorem dX11_runs_231 : decode cX11_runs 231 = .ok (.aload_n 0, 1) := by decide +kernel
theorem dX11_runs_232 : decode cX11_runs 232 = .ok (.getfield 59, 3) := by decide +kernel
theorem dX11_runs_235 : decode cX11_runs 235 = .ok (.iload 4, 2) := by decide +kernel
theorem dX11_runs_237 : decode cX11_runs 237 = .ok (.dup2, 1) := by decide +kernel
theorem dX11_runs_238 : decode cX11_runs 238 = .ok (.iaload, 1) := by decide +kernel
theorem dX11_runs_239 : decode cX11_runs 239 = .ok (.iload 7, 2) := by decide +kernel
theorem dX11_runs_241 : decode cX11_runs 241 = .ok (.iload 8, 2) := by decide +kernel
theorem dX11_runs_243 : decode cX11_runs 243 = .ok (.isub, 1) := by decide +kernel
theorem dX11_runs_244 : decode cX11_runs 244 = .ok (.iadd, 1) := by decide +kernel
theorem dX11_runs_245 : decode cX11_runs 245 = .ok (.iastore, 1) := by decide +kernel
theorem dX11_runs_246 : decode cX11_runs 246 = .ok (.iload_n 2, 1) := by decide +kernel
theorem dX11_runs_247 : decode cX11_runs 247 = .ok (.iload 7, 2) := by decide +kernel
theorem dX11_runs_249 : decode cX11_runs 249 = .ok (.iload 8, 2) := by decide +kernel
theorem dX11_runs_251 : decode cX11_runs 251 = .ok (.isub, 1) := by decide +kernel
theorem dX11_runs_252 : decode cX11_runs 252 = .ok (.iadd, 1) := by decide +kernel
theorem dX11_runs_253 : decode cX11_runs 253 = .ok (.istore_n 2, 1) := by decide +kernel
theorem dX11_runs_254 : decode cX11_runs 254 = .ok (.aload_n 0, 1) := by decide +kernel
theorem dX11_runs_255 : decode cX11_runs 255 = .ok (.getfield 41, 3) := by decide +kernel
theorem dX11_runs_258 : decode cX11_runs 258 = .ok (.iload 4, 2) := by decide +kernel
theorem dX11_runs_260 : decode cX11_runs 260 = .ok (.iaload, 1) := by decide +kernel
theorem dX11_runs_261 : decode cX11_runs 261 = .ok (.iconst (-1), 1) := by decide +kernel
theorem dX11_runs_262 : decode cX11_runs 262 = .ok (.if_icmp .ne 17, 3) := by decide +kernel
theorem dX11_runs_265 : decode cX11_runs 265 = .ok (.aload_n 0, 1) := by decide +kernel
theorem dX11_runs_266 : decode cX11_runs 266 = .ok (.dup, 1) := by decide +kernel
theorem dX11_runs_267 : decode cX11_runs 267 = .ok (.getfield 250, 3) := by decide +kernel
theorem dX11_runs_270 : decode cX11_runs 270 = .ok (.iload 8, 2) := by decide +kernel
theorem dX11_runs_272 : decode cX11_runs 272 = .ok (.iadd, 1) := by decide +kernel
theorem dX11_runs_273 : decode cX11_runs 273 = .ok (.putfield 250, 3) := by decide +kernel
theorem dX11_runs_276 : decode cX11_runs 276 = .ok (.goto 20, 3) := by decide +kernel
theorem dX11_runs_279 : decode cX11_runs 279 = .ok (.aload_n 0, 1) := by decide +kernel
theorem dX11_runs_280 : decode cX11_runs 280 = .ok (.getfield 62, 3) := by decide +kernel
theorem dX11_runs_283 : decode cX11_runs 283 = .ok (.aload_n 0, 1) := by decide +kernel
theorem dX11_runs_284 : decode cX11_runs 284 = .ok (.getfield 41, 3) := by decide +kernel
theorem dX11_runs_287 : decode cX11_runs 287 = .ok (.iload 4, 2) := by decide +kernel
theorem dX11_runs_289 : decode cX11_runs 289 = .ok (.iaload, 1) := by decide +kernel
theorem dX11_runs_290 : decode cX11_runs 290 = .ok (.dup2, 1) := by decide +kernel
theorem dX11_runs_291 : decode cX11_runs 291 = .ok (.iaload, 1) := by decide +kernel
theorem dX11_runs_292 : decode cX11_runs 292 = .ok (.iload 8, 2) := by decide +kernel
theorem dX11_runs_294 : decode cX11_runs 294 = .ok (.iadd, 1) := by decide +kernel
theorem dX11_runs_295 : decode cX11_runs 295 = .ok (.iastore, 1) := by decide +kernel
theorem dX11_runs_296 : decode cX11_runs 296 = .ok (.aload_n 0, 1) := by decide +kernel
theorem dX11_runs_297 : decode cX11_runs 297 = .ok (.getfield 266, 3) := by decide +kernel
theorem dX11_runs_300 : decode cX11_runs 300 = .ok (.ifCond .eq 14, 3) := by decide +kernel
theorem dX11_runs_303 : decode cX11_runs 303 = .ok (.aload_n 0, 1) := by decide +kernel
theorem dX11_runs_304 : decode cX11_runs 304 = .ok (.iload 4, 2) := by decide +kernel
theorem dX11_runs_306 : decode cX11_runs 306 = .ok (.iload_n 3, 1) := by decide +kernel
theorem dX11_runs_307 : decode cX11_runs 307 = .ok (.iload 7, 2) := by decide +kernel
theorem dX11_runs_309 : decode cX11_runs 309 = .ok (.iload 8, 2) := by decide +kernel
theorem dX11_runs_311 : decode cX11_runs 311 = .ok (.invokevirtual 270, 3) := by decide +kernel
theorem dX11_runs_314 : decode cX11_runs 314 = .ok (.iinc 4 1, 3) := by decide +kernel
theorem dX11_runs_317 : decode cX11_runs 317 = .ok (.goto (-242), 3) := by decide +kernel
theorem dX11_runs_320 : decode cX11_runs 320 = .ok (.iinc 3 1, 3) := by decide +kernel
theorem dX11_runs_323 : decode cX11_runs 323 = .ok (.goto (-286), 3) := by decide +kernel
theorem dX11_runs_326 : decode cX11_runs 326 = .ok (.iload_n 2, 1) := by decide +kernel
theorem dX11_runs_327 : decode cX11_runs 327 = .ok (.ireturn, 1) := by decide +kernel
theorem dX11_pays_0 : decode cX11_pays 0 = .ok (.aload_n 0, 1) := by decide +kernel
theorem dX11_pays_1 : decode cX11_pays 1 = .ok (.getfield 28, 3) := by decide +kernel
theorem dX11_pays_4 : decode cX11_pays 4 = .ok (.iconst 1, 1) := by decide +kernel
theorem dX11_pays_5 : decode cX11_pays 5 = .ok (.aload_n 0, 1) := by decide +kernel
theorem dX11_pays_6 : decode cX11_pays 6 = .ok (.getfield 59, 3) := by decide +kernel
theorem dX11_pays_9 : decode cX11_pays 9 = .ok (.iload_n 2, 1) := by decide +kernel
theorem dX11_pays_10 : decode cX11_pays 10 = .ok (.iaload, 1) := by decide +kernel
theorem dX11_pays_11 : decode cX11_pays 11 = .ok (.iastore, 1) := by decide +kernel
theorem dX11_pays_12 : decode cX11_pays 12 = .ok (.aload_n 0, 1) := by decide +kernel
theorem dX11_pays_13 : decode cX11_pays 13 = .ok (.getfield 28, 3) := by decide +kernel
theorem dX11_pays_16 : decode cX11_pays 16 = .ok (.iconst 2, 1) := by decide +kernel
theorem dX11_pays_17 : decode cX11_pays 17 = .ok (.aload_n 0, 1) := by decide +kernel
theorem dX11_pays_18 : decode cX11_pays 18 = .ok (.iload_n 1, 1) := by decide +kernel
theorem dX11_pays_19 : decode cX11_pays 19 = .ok (.iconst 5, 1) := by decide +kernel
theorem dX11_pays_20 : decode cX11_pays 20 = .ok (.invokevirtual 241, 3) := by decide +kernel
theorem dX11_pays_23 : decode cX11_pays 23 = .ok (.iastore, 1) := by decide +kernel
theorem dX11_pays_24 : decode cX11_pays 24 = .ok (.aload_n 0, 1) := by decide +kernel
theorem dX11_pays_25 : decode cX11_pays 25 = .ok (.getfield 28, 3) := by decide +kernel
theorem dX11_pays_28 : decode cX11_pays 28 = .ok (.iconst 3, 1) := by decide +kernel
theorem dX11_pays_29 : decode cX11_pays 29 = .ok (.aload_n 0, 1) := by decide +kernel
theorem dX11_pays_30 : decode cX11_pays 30 = .ok (.iload_n 2, 1) := by decide +kernel
theorem dX11_pays_31 : decode cX11_pays 31 = .ok (.iconst 5, 1) := by decide +kernel
theorem dX11_pays_32 : decode cX11_pays 32 = .ok (.invokevirtual 241, 3) := by decide +kernel
theorem dX11_pays_35 : decode cX11_pays 35 = .ok (.iastore, 1) := by decide +kernel
theorem dX11_pays_36 : decode cX11_pays 36 = .ok (.aload_n 0, 1) := by decide +kernel
theorem dX11_pays_37 : decode cX11_pays 37 = .ok (.getfield 28, 3) := by decide +kernel
theorem dX11_pays_40 : decode cX11_pays 40 = .ok (.iconst 4, 1) := by decide +kernel
theorem dX11_pays_41 : decode cX11_pays 41 = .ok (.aload_n 0, 1) := by decide +kernel
theorem dX11_pays_42 : decode cX11_pays 42 = .ok (.iload_n 1, 1) := by decide +kernel
theorem dX11_pays_43 : decode cX11_pays 43 = .ok (.iconst 4, 1) := by decide +kernel
theorem dX11_pays_44 : decode cX11_pays 44 = .ok (.invokevirtual 241, 3) := by decide +kernel
theorem dX11_pays_47 : decode cX11_pays 47 = .ok (.iload_n 2, 1) := by decide +kernel
theorem dX11_pays_48 : decode cX11_pays 48 = .ok (.if_icmp .ne 7, 3) := by decide +kernel
theorem dX11_pays_51 : decode cX11_pays 51 = .ok (.iconst 1, 1) := by decide +kernel
theorem dX11_pays_52 : decode cX11_pays 52 = .ok (.goto 4, 3) := by decide +kernel
theorem dX11_pays_55 : decode cX11_pays 55 = .ok (.iconst 0, 1) := by decide +kernel
theorem dX11_pays_56 : decode cX11_pays 56 = .ok (.iastore, 1) := by decide +kernel
theorem dX11_pays_57 : decode cX11_pays 57 = .ok (.aload_n 0, 1) := by decide +kernel
theorem dX11_pays_58 : decode cX11_pays 58 = .ok (.getfield 28, 3) := by decide +kernel
theorem dX11_pays_61 : decode cX11_pays 61 = .ok (.iconst 5, 1) := by decide +kernel
theorem dX11_pays_62 : decode cX11_pays 62 = .ok (.iload_n 1, 1) := by decide +kernel
theorem dX11_pays_63 : decode cX11_pays 63 = .ok (.iload_n 2, 1) := by decide +kernel
theorem dX11_pays_64 : decode cX11_pays 64 = .ok (.if_icmp .ge 11, 3) := by decide +kernel
theorem dX11_pays_67 : decode cX11_pays 67 = .ok (.iload_n 2, 1) := by decide +kernel
theorem dX11_pays_68 : decode cX11_pays 68 = .ok (.iload_n 1, 1) := by decide +kernel
theorem dX11_pays_69 : decode cX11_pays 69 = .ok (.isub, 1) := by decide +kernel
theorem dX11_pays_70 : decode cX11_pays 70 = .ok (.iconst 1, 1) := by decide +kernel
theorem dX11_pays_71 : decode cX11_pays 71 = .ok (.isub, 1) := by decide +kernel
theorem dX11_pays_72 : decode cX11_pays 72 = .ok (.goto 8, 3) := by decide +kernel
theorem dX11_pays_75 : decode cX11_pays 75 = .ok (.iload_n 1, 1) := by decide +kernel
theorem dX11_pays_76 : decode cX11_pays 76 = .ok (.iload_n 2, 1) := by decide +kernel
theorem dX11_pays_77 : decode cX11_pays 77 = .ok (.isub, 1) := by decide +kernel
theorem dX11_pays_78 : decode cX11_pays 78 = .ok (.iconst 1, 1) := by decide +kernel
theorem dX11_pays_79 : decode cX11_pays 79 = .ok (.isub, 1) := by decide +kernel
theorem dX11_pays_80 : decode cX11_pays 80 = .ok (.iastore, 1) := by decide +kernel
theorem dX11_pays_81 : decode cX11_pays 81 = .ok (.aload_n 0, 1) := by decide +kernel
theorem dX11_pays_82 : decode cX11_pays 82 = .ok (.getfield 28, 3) := by decide +kernel
theorem dX11_pays_85 : decode cX11_pays 85 = .ok (.bipush 6, 2) := by decide +kernel
theorem dX11_pays_87 : decode cX11_pays 87 = .ok (.iload_n 1, 1) := by decide +kernel
theorem dX11_pays_88 : decode cX11_pays 88 = .ok (.iload_n 2, 1) := by decide +kernel
theorem dX11_pays_89 : decode cX11_pays 89 = .ok (.if_icmp .ge 7, 3) := by decide +kernel
theorem dX11_pays_92 : decode cX11_pays 92 = .ok (.iconst 1, 1) := by decide +kernel
theorem dX11_pays_93 : decode cX11_pays 93 = .ok (.goto 4, 3) := by decide +kernel
theorem dX11_pays_96 : decode cX11_pays 96 = .ok (.iconst 0, 1) := by decide +kernel
theorem dX11_pays_97 : decode cX11_pays 97 = .ok (.iastore, 1) := by decide +kernel
theorem dX11_pays_98 : decode cX11_pays 98 = .ok (.aload_n 0, 1) := by decide +kernel
theorem dX11_pays_99 : decode cX11_pays 99 = .ok (.getfield 28, 3) := by decide +kernel
theorem dX11_pays_102 : decode cX11_pays 102 = .ok (.bipush 7, 2) := by decide +kernel
theorem dX11_pays_104 : decode cX11_pays 104 = .ok (.aload_n 0, 1) := by decide +kernel
theorem dX11_pays_105 : decode cX11_pays 105 = .ok (.iload_n 1, 1) := by decide +kernel
theorem dX11_pays_106 : decode cX11_pays 106 = .ok (.iconst 0, 1) := by decide +kernel
theorem dX11_pays_107 : decode cX11_pays 107 = .ok (.invokevirtual 241, 3) := by decide +kernel
theorem dX11_pays_110 : decode cX11_pays 110 = .ok (.iastore, 1) := by decide +kernel
theorem dX11_pays_111 : decode cX11_pays 111 = .ok (.aload_n 0, 1) := by decide +kernel
theorem dX11_pays_112 : decode cX11_pays 112 = .ok (.getfield 28, 3) := by decide +kernel
theorem dX11_pays_115 : decode cX11_pays 115 = .ok (.bipush 8, 2) := by decide +kernel
theorem dX11_pays_117 : decode cX11_pays 117 = .ok (.aload_n 0, 1) := by decide +kernel
theorem dX11_pays_118 : decode cX11_pays 118 = .ok (.iload_n 1, 1) := by decide +kernel
theorem dX11_pays_119 : decode cX11_pays 119 = .ok (.bipush 8, 2) := by decide +kernel
theorem dX11_pays_121 : decode cX11_pays 121 = .ok (.invokevirtual 241, 3) := by decide +kernel
theorem dX11_pays_124 : decode cX11_pays 124 = .ok (.iastore, 1) := by decide +kernel
theorem dX11_pays_125 : decode cX11_pays 125 = .ok (.iconst 0, 1) := by decide +kernel
theorem dX11_pays_126 : decode cX11_pays 126 = .ok (.istore_n 3, 1) := by decide +kernel
theorem dX11_pays_127 : decode cX11_pays 127 = .ok (.iload_n 3, 1) := by decide +kernel
theorem dX11_pays_128 : decode cX11_pays 128 = .ok (.aload_n 0, 1) := by decide +kernel
theorem dX11_pays_129 : decode cX11_pays 129 = .ok (.getfield 7, 3) := by decide +kernel
theorem dX11_pays_132 : decode cX11_pays 132 = .ok (.sipush 810, 3) := by decide +kernel
theorem dX11_pays_135 : decode cX11_pays 135 = .ok (.iaload, 1) := by decide +kernel
theorem dX11_pays_136 : decode cX11_pays 136 = .ok (.if_icmp .ge 95, 3) := by decide +kernel
theorem dX11_pays_139 : decode cX11_pays 139 = .ok (.aload_n 0, 1) := by decide +kernel
theorem dX11_pays_140 : decode cX11_pays 140 = .ok (.getfield 7, 3) := by decide +kernel
theorem dX11_pays_143 : decode cX11_pays 143 = .ok (.sipush 855, 3) := by decide +kernel
theorem dX11_pays_146 : decode cX11_pays 146 = .ok (.iload_n 3, 1) := by decide +kernel
theorem dX11_pays_147 : decode cX11_pays 147 = .ok (.iadd, 1) := by decide +kernel
theorem dX11_pays_148 : decode cX11_pays 148 = .ok (.iaload, 1) := by decide +kernel
theorem dX11_pays_149 : decode cX11_pays 149 = .ok (.aload_n 0, 1) := by decide +kernel
theorem dX11_pays_150 : decode cX11_pays 150 = .ok (.getfield 7, 3) := by decide +kernel
theorem dX11_pays_153 : decode cX11_pays 153 = .ok (.sipush 835, 3) := by decide +kernel
theorem dX11_pays_156 : decode cX11_pays 156 = .ok (.iload_n 3, 1) := by decide +kernel
theorem dX11_pays_157 : decode cX11_pays 157 = .ok (.iadd, 1) := by decide +kernel
theorem dX11_pays_158 : decode cX11_pays 158 = .ok (.iaload, 1) := by decide +kernel
theorem dX11_pays_159 : decode cX11_pays 159 = .ok (.if_icmp .eq 31, 3) := by decide +kernel
theorem dX11_pays_162 : decode cX11_pays 162 = .ok (.aload_n 0, 1) := by decide +kernel
theorem dX11_pays_163 : decode cX11_pays 163 = .ok (.aload_n 0, 1) := by decide +kernel
theorem dX11_pays_164 : decode cX11_pays 164 = .ok (.getfield 7, 3) := by decide +kernel
theorem dX11_pays_167 : decode cX11_pays 167 = .ok (.sipush 835, 3) := by decide +kernel
theorem dX11_pays_170 : decode cX11_pays 170 = .ok (.iload_n 3, 1) := by decide +kernel
theorem dX11_pays_171 : decode cX11_pays 171 = .ok (.iadd, 1) := by decide +kernel
theorem dX11_pays_172 : decode cX11_pays 172 = .ok (.iaload, 1) := by decide +kernel
theorem dX11_pays_173 : decode cX11_pays 173 = .ok (.aload_n 0, 1) := by decide +kernel
theorem dX11_pays_174 : decode cX11_pays 174 = .ok (.getfield 7, 3) := by decide +kernel
theorem dX11_pays_177 : decode cX11_pays 177 = .ok (.sipush 855, 3) := by decide +kernel
theorem dX11_pays_180 : decode cX11_pays 180 = .ok (.iload_n 3, 1) := by decide +kernel
theorem dX11_pays_181 : decode cX11_pays 181 = .ok (.iadd, 1) := by decide +kernel
theorem dX11_pays_182 : decode cX11_pays 182 = .ok (.iaload, 1) := by decide +kernel
theorem dX11_pays_183 : decode cX11_pays 183 = .ok (.invokevirtual 274, 3) := by decide +kernel
theorem dX11_pays_186 : decode cX11_pays 186 = .ok (.iconst 1, 1) := by decide +kernel
theorem dX11_pays_187 : decode cX11_pays 187 = .ok (.if_icmp .ne 38, 3) := by decide +kernel
theorem dX11_pays_190 : decode cX11_pays 190 = .ok (.iconst 0, 1) := by decide +kernel
theorem dX11_pays_191 : decode cX11_pays 191 = .ok (.sipush 9999, 3) := by decide +kernel
theorem dX11_pays_194 : decode cX11_pays 194 = .ok (.aload_n 0, 1) := by decide +kernel
theorem dX11_pays_195 : decode cX11_pays 195 = .ok (.aload_n 0, 1) := by decide +kernel
theorem dX11_pays_196 : decode cX11_pays 196 = .ok (.getfield 7, 3) := by decide +kernel
theorem dX11_pays_199 : decode cX11_pays 199 = .ok (.sipush 815, 3) := by decide +kernel
theorem dX11_pays_202 : decode cX11_pays 202 = .ok (.iload_n 3, 1) := by decide +kernel
theorem dX11_pays_203 : decode cX11_pays 203 = .ok (.iadd, 1) := by decide +kernel
theorem dX11_pays_204 : decode cX11_pays 204 = .ok (.iaload, 1) := by decide +kernel
theorem dX11_pays_205 : decode cX11_pays 205 = .ok (.aload_n 0, 1) := by decide +kernel
theorem dX11_pays_206 : decode cX11_pays 206 = .ok (.getfield 7, 3) := by decide +kernel
theorem dX11_pays_209 : decode cX11_pays 209 = .ok (.sipush 835, 3) := by decide +kernel
theorem dX11_pays_212 : decode cX11_pays 212 = .ok (.iload_n 3, 1) := by decide +kernel
theorem dX11_pays_213 : decode cX11_pays 213 = .ok (.iadd, 1) := by decide +kernel
theorem dX11_pays_214 : decode cX11_pays 214 = .ok (.iaload, 1) := by decide +kernel
theorem dX11_pays_215 : decode cX11_pays 215 = .ok (.invokevirtual 274, 3) := by decide +kernel
theorem dX11_pays_218 : decode cX11_pays 218 = .ok (.invokestatic 244, 3) := by decide +kernel
theorem dX11_pays_221 : decode cX11_pays 221 = .ok (.invokestatic 247, 3) := by decide +kernel
theorem dX11_pays_224 : decode cX11_pays 224 = .ok (.ireturn, 1) := by decide +kernel
theorem dX11_pays_225 : decode cX11_pays 225 = .ok (.iinc 3 1, 3) := by decide +kernel
theorem dX11_pays_228 : decode cX11_pays 228 = .ok (.goto (-101), 3) := by decide +kernel
theorem dX11_pays_231 : decode cX11_pays 231 = .ok (.iconst 0, 1) := by decide +kernel
theorem dX11_pays_232 : decode cX11_pays 232 = .ok (.ireturn, 1) := by decide +kernel
theorem dX11_comes_0 : decode cX11_comes 0 = .ok (.aload_n 0, 1) := by decide +kernel
theorem dX11_comes_1 : decode cX11_comes 1 = .ok (.iload_n 1, 1) := by decide +kernel
theorem dX11_comes_2 : decode cX11_comes 2 = .ok (.invokevirtual 105, 3) := by decide +kernel
theorem dX11_comes_5 : decode cX11_comes 5 = .ok (.ifCond .ne 5, 3) := by decide +kernel
theorem dX11_comes_8 : decode cX11_comes 8 = .ok (.iconst (-1), 1) := by decide +kernel
theorem dX11_comes_9 : decode cX11_comes 9 = .ok (.ireturn, 1) := by decide +kernel
theorem dX11_comes_10 : decode cX11_comes 10 = .ok (.aload_n 0, 1) := by decide +kernel
theorem dX11_comes_11 : decode cX11_comes 11 = .ok (.invokevirtual 277, 3) := by decide +kernel
theorem dX11_comes_14 : decode cX11_comes 14 = .ok (.aload_n 0, 1) := by decide +kernel
theorem dX11_comes_15 : decode cX11_comes 15 = .ok (.iconst 1, 1) := by decide +kernel
theorem dX11_comes_16 : decode cX11_comes 16 = .ok (.putfield 266, 3) := by decide +kernel
theorem dX11_comes_19 : decode cX11_comes 19 = .ok (.aload_n 0, 1) := by decide +kernel
theorem dX11_comes_20 : decode cX11_comes 20 = .ok (.iload_n 1, 1) := by decide +kernel
theorem dX11_comes_21 : decode cX11_comes 21 = .ok (.invokevirtual 280, 3) := by decide +kernel
theorem dX11_comes_24 : decode cX11_comes 24 = .ok (.istore_n 2, 1) := by decide +kernel
theorem dX11_comes_25 : decode cX11_comes 25 = .ok (.aload_n 0, 1) := by decide +kernel
theorem dX11_comes_26 : decode cX11_comes 26 = .ok (.iconst 0, 1) := by decide +kernel
theorem dX11_comes_27 : decode cX11_comes 27 = .ok (.putfield 266, 3) := by decide +kernel
theorem dX11_comes_30 : decode cX11_comes 30 = .ok (.aload_n 0, 1) := by decide +kernel
theorem dX11_comes_31 : decode cX11_comes 31 = .ok (.getfield 7, 3) := by decide +kernel
theorem dX11_comes_34 : decode cX11_comes 34 = .ok (.bipush 8, 2) := by decide +kernel
theorem dX11_comes_36 : decode cX11_comes 36 = .ok (.aload_n 0, 1) := by decide +kernel
theorem dX11_comes_37 : decode cX11_comes 37 = .ok (.iload_n 1, 1) := by decide +kernel
theorem dX11_comes_38 : decode cX11_comes 38 = .ok (.invokevirtual 108, 3) := by decide +kernel
theorem dX11_comes_41 : decode cX11_comes 41 = .ok (.iastore, 1) := by decide +kernel
theorem dX11_comes_42 : decode cX11_comes 42 = .ok (.aload_n 0, 1) := by decide +kernel
theorem dX11_comes_43 : decode cX11_comes 43 = .ok (.getfield 7, 3) := by decide +kernel
theorem dX11_comes_46 : decode cX11_comes 46 = .ok (.bipush 9, 2) := by decide +kernel
theorem dX11_comes_48 : decode cX11_comes 48 = .ok (.aload_n 0, 1) := by decide +kernel
theorem dX11_comes_49 : decode cX11_comes 49 = .ok (.getfield 238, 3) := by decide +kernel
theorem dX11_comes_52 : decode cX11_comes 52 = .ok (.iastore, 1) := by decide +kernel
theorem dX11_comes_53 : decode cX11_comes 53 = .ok (.aload_n 0, 1) := by decide +kernel
theorem dX11_comes_54 : decode cX11_comes 54 = .ok (.getfield 7, 3) := by decide +kernel
theorem dX11_comes_57 : decode cX11_comes 57 = .ok (.iconst 5, 1) := by decide +kernel
theorem dX11_comes_58 : decode cX11_comes 58 = .ok (.dup2, 1) := by decide +kernel
theorem dX11_comes_59 : decode cX11_comes 59 = .ok (.iaload, 1) := by decide +kernel
theorem dX11_comes_60 : decode cX11_comes 60 = .ok (.iconst 1, 1) := by decide +kernel
theorem dX11_comes_61 : decode cX11_comes 61 = .ok (.iadd, 1) := by decide +kernel
theorem dX11_comes_62 : decode cX11_comes 62 = .ok (.iastore, 1) := by decide +kernel
theorem dX11_comes_63 : decode cX11_comes 63 = .ok (.aload_n 0, 1) := by decide +kernel
theorem dX11_comes_64 : decode cX11_comes 64 = .ok (.getfield 7, 3) := by decide +kernel
theorem dX11_comes_67 : decode cX11_comes 67 = .ok (.bipush 7, 2) := by decide +kernel
theorem dX11_comes_69 : decode cX11_comes 69 = .ok (.dup2, 1) := by decide +kernel
theorem dX11_comes_70 : decode cX11_comes 70 = .ok (.iaload, 1) := by decide +kernel
theorem dX11_comes_71 : decode cX11_comes 71 = .ok (.aload_n 0, 1) := by decide +kernel
theorem dX11_comes_72 : decode cX11_comes 72 = .ok (.getfield 253, 3) := by decide +kernel
theorem dX11_comes_75 : decode cX11_comes 75 = .ok (.iadd, 1) := by decide +kernel
theorem dX11_comes_76 : decode cX11_comes 76 = .ok (.iastore, 1) := by decide +kernel
theorem dX11_comes_77 : decode cX11_comes 77 = .ok (.aload_n 0, 1) := by decide +kernel
theorem dX11_comes_78 : decode cX11_comes 78 = .ok (.getfield 250, 3) := by decide +kernel
theorem dX11_comes_81 : decode cX11_comes 81 = .ok (.iconst 0, 1) := by decide +kernel
theorem dX11_comes_82 : decode cX11_comes 82 = .ok (.aload_n 0, 1) := by decide +kernel
theorem dX11_comes_83 : decode cX11_comes 83 = .ok (.getfield 7, 3) := by decide +kernel
theorem dX11_comes_86 : decode cX11_comes 86 = .ok (.iconst 3, 1) := by decide +kernel
theorem dX11_comes_87 : decode cX11_comes 87 = .ok (.iaload, 1) := by decide +kernel
theorem dX11_comes_88 : decode cX11_comes 88 = .ok (.aload_n 0, 1) := by decide +kernel
theorem dX11_comes_89 : decode cX11_comes 89 = .ok (.getfield 7, 3) := by decide +kernel
theorem dX11_comes_92 : decode cX11_comes 92 = .ok (.iconst 2, 1) := by decide +kernel
theorem dX11_comes_93 : decode cX11_comes 93 = .ok (.iaload, 1) := by decide +kernel
theorem dX11_comes_94 : decode cX11_comes 94 = .ok (.isub, 1) := by decide +kernel
theorem dX11_comes_95 : decode cX11_comes 95 = .ok (.invokestatic 247, 3) := by decide +kernel
theorem dX11_comes_98 : decode cX11_comes 98 = .ok (.invokestatic 244, 3) := by decide +kernel
theorem dX11_comes_101 : decode cX11_comes 101 = .ok (.istore_n 3, 1) := by decide +kernel
theorem dX11_comes_102 : decode cX11_comes 102 = .ok (.aload_n 0, 1) := by decide +kernel
theorem dX11_comes_103 : decode cX11_comes 103 = .ok (.getfield 7, 3) := by decide +kernel
theorem dX11_comes_106 : decode cX11_comes 106 = .ok (.iconst 2, 1) := by decide +kernel
theorem dX11_comes_107 : decode cX11_comes 107 = .ok (.dup2, 1) := by decide +kernel
theorem dX11_comes_108 : decode cX11_comes 108 = .ok (.iaload, 1) := by decide +kernel
theorem dX11_comes_109 : decode cX11_comes 109 = .ok (.iload_n 3, 1) := by decide +kernel
theorem dX11_comes_110 : decode cX11_comes 110 = .ok (.iadd, 1) := by decide +kernel
theorem dX11_comes_111 : decode cX11_comes 111 = .ok (.iastore, 1) := by decide +kernel
theorem dX11_comes_112 : decode cX11_comes 112 = .ok (.aload_n 0, 1) := by decide +kernel
theorem dX11_comes_113 : decode cX11_comes 113 = .ok (.getfield 7, 3) := by decide +kernel
theorem dX11_comes_116 : decode cX11_comes 116 = .ok (.iconst 4, 1) := by decide +kernel
theorem dX11_comes_117 : decode cX11_comes 117 = .ok (.dup2, 1) := by decide +kernel
theorem dX11_comes_118 : decode cX11_comes 118 = .ok (.iaload, 1) := by decide +kernel
theorem dX11_comes_119 : decode cX11_comes 119 = .ok (.aload_n 0, 1) := by decide +kernel
theorem dX11_comes_120 : decode cX11_comes 120 = .ok (.getfield 250, 3) := by decide +kernel
theorem dX11_comes_123 : decode cX11_comes 123 = .ok (.iload_n 3, 1) := by decide +kernel
theorem dX11_comes_124 : decode cX11_comes 124 = .ok (.isub, 1) := by decide +kernel
theorem dX11_comes_125 : decode cX11_comes 125 = .ok (.iadd, 1) := by decide +kernel
theorem dX11_comes_126 : decode cX11_comes 126 = .ok (.iastore, 1) := by decide +kernel
theorem dX11_comes_127 : decode cX11_comes 127 = .ok (.iconst 0, 1) := by decide +kernel
theorem dX11_comes_128 : decode cX11_comes 128 = .ok (.istore 4, 2) := by decide +kernel
theorem dX11_comes_130 : decode cX11_comes 130 = .ok (.iload 4, 2) := by decide +kernel
theorem dX11_comes_132 : decode cX11_comes 132 = .ok (.aload_n 0, 1) := by decide +kernel
theorem dX11_comes_133 : decode cX11_comes 133 = .ok (.getfield 238, 3) := by decide +kernel
theorem dX11_comes_136 : decode cX11_comes 136 = .ok (.if_icmp .ge 110, 3) := by decide +kernel
theorem dX11_comes_139 : decode cX11_comes 139 = .ok (.aload_n 0, 1) := by decide +kernel
theorem dX11_comes_140 : decode cX11_comes 140 = .ok (.iload 4, 2) := by decide +kernel
theorem dX11_comes_142 : decode cX11_comes 142 = .ok (.bipush 8, 2) := by decide +kernel
theorem dX11_comes_144 : decode cX11_comes 144 = .ok (.aload_n 0, 1) := by decide +kernel
theorem dX11_comes_145 : decode cX11_comes 145 = .ok (.getfield 53, 3) := by decide +kernel
theorem dX11_comes_148 : decode cX11_comes 148 = .ok (.iload 4, 2) := by decide +kernel
theorem dX11_comes_150 : decode cX11_comes 150 = .ok (.iaload, 1) := by decide +kernel
theorem dX11_comes_151 : decode cX11_comes 151 = .ok (.invokevirtual 97, 3) := by decide +kernel
theorem dX11_comes_154 : decode cX11_comes 154 = .ok (.aload_n 0, 1) := by decide +kernel
theorem dX11_comes_155 : decode cX11_comes 155 = .ok (.iload 4, 2) := by decide +kernel
theorem dX11_comes_157 : decode cX11_comes 157 = .ok (.bipush 9, 2) := by decide +kernel
theorem dX11_comes_159 : decode cX11_comes 159 = .ok (.aload_n 0, 1) := by decide +kernel
theorem dX11_comes_160 : decode cX11_comes 160 = .ok (.getfield 56, 3) := by decide +kernel
theorem dX11_comes_163 : decode cX11_comes 163 = .ok (.iload 4, 2) := by decide +kernel
theorem dX11_comes_165 : decode cX11_comes 165 = .ok (.iaload, 1) := by decide +kernel
theorem dX11_comes_166 : decode cX11_comes 166 = .ok (.invokevirtual 97, 3) := by decide +kernel
theorem dX11_comes_169 : decode cX11_comes 169 = .ok (.aload_n 0, 1) := by decide +kernel
theorem dX11_comes_170 : decode cX11_comes 170 = .ok (.iload 4, 2) := by decide +kernel
theorem dX11_comes_172 : decode cX11_comes 172 = .ok (.bipush 12, 2) := by decide +kernel
theorem dX11_comes_174 : decode cX11_comes 174 = .ok (.aload_n 0, 1) := by decide +kernel
theorem dX11_comes_175 : decode cX11_comes 175 = .ok (.getfield 59, 3) := by decide +kernel
theorem dX11_comes_178 : decode cX11_comes 178 = .ok (.iload 4, 2) := by decide +kernel
theorem dX11_comes_180 : decode cX11_comes 180 = .ok (.iaload, 1) := by decide +kernel
theorem dX11_comes_181 : decode cX11_comes 181 = .ok (.invokevirtual 97, 3) := by decide +kernel
theorem dX11_comes_184 : decode cX11_comes 184 = .ok (.aload_n 0, 1) := by decide +kernel
theorem dX11_comes_185 : decode cX11_comes 185 = .ok (.iload 4, 2) := by decide +kernel
theorem dX11_comes_187 : decode cX11_comes 187 = .ok (.bipush 11, 2) := by decide +kernel
theorem dX11_comes_189 : decode cX11_comes 189 = .ok (.aload_n 0, 1) := by decide +kernel
theorem dX11_comes_190 : decode cX11_comes 190 = .ok (.iload 4, 2) := by decide +kernel
theorem dX11_comes_192 : decode cX11_comes 192 = .ok (.bipush 11, 2) := by decide +kernel
theorem dX11_comes_194 : decode cX11_comes 194 = .ok (.invokevirtual 241, 3) := by decide +kernel
theorem dX11_comes_197 : decode cX11_comes 197 = .ok (.aload_n 0, 1) := by decide +kernel
theorem dX11_comes_198 : decode cX11_comes 198 = .ok (.getfield 59, 3) := by decide +kernel
theorem dX11_comes_201 : decode cX11_comes 201 = .ok (.iload 4, 2) := by decide +kernel
theorem dX11_comes_203 : decode cX11_comes 203 = .ok (.iaload, 1) := by decide +kernel
theorem dX11_comes_204 : decode cX11_comes 204 = .ok (.iadd, 1) := by decide +kernel
theorem dX11_comes_205 : decode cX11_comes 205 = .ok (.invokevirtual 97, 3) := by decide +kernel
theorem dX11_comes_208 : decode cX11_comes 208 = .ok (.aload_n 0, 1) := by decide +kernel
theorem dX11_comes_209 : decode cX11_comes 209 = .ok (.iload 4, 2) := by decide +kernel
theorem dX11_comes_211 : decode cX11_comes 211 = .ok (.bipush 13, 2) := by decide +kernel
theorem dX11_comes_213 : decode cX11_comes 213 = .ok (.aload_n 0, 1) := by decide +kernel
theorem dX11_comes_214 : decode cX11_comes 214 = .ok (.getfield 59, 3) := by decide +kernel
theorem dX11_comes_217 : decode cX11_comes 217 = .ok (.iload 4, 2) := by decide +kernel
theorem dX11_comes_219 : decode cX11_comes 219 = .ok (.iaload, 1) := by decide +kernel
theorem dX11_comes_220 : decode cX11_comes 220 = .ok (.ifCond .ne 16, 3) := by decide +kernel
theorem dX11_comes_223 : decode cX11_comes 223 = .ok (.aload_n 0, 1) := by decide +kernel
theorem dX11_comes_224 : decode cX11_comes 224 = .ok (.iload 4, 2) := by decide +kernel
theorem dX11_comes_226 : decode cX11_comes 226 = .ok (.bipush 13, 2) := by decide +kernel
theorem dX11_comes_228 : decode cX11_comes 228 = .ok (.invokevirtual 241, 3) := by decide +kernel
theorem dX11_comes_231 : decode cX11_comes 231 = .ok (.iconst 1, 1) := by decide +kernel
theorem dX11_comes_232 : decode cX11_comes 232 = .ok (.iadd, 1) := by decide +kernel
theorem dX11_comes_233 : decode cX11_comes 233 = .ok (.goto 4, 3) := by decide +kernel
theorem dX11_comes_236 : decode cX11_comes 236 = .ok (.iconst 0, 1) := by decide +kernel
theorem dX11_comes_237 : decode cX11_comes 237 = .ok (.invokevirtual 97, 3) := by decide +kernel
theorem dX11_comes_240 : decode cX11_comes 240 = .ok (.iinc 4 1, 3) := by decide +kernel
theorem dX11_comes_243 : decode cX11_comes 243 = .ok (.goto (-113), 3) := by decide +kernel
theorem dX11_comes_246 : decode cX11_comes 246 = .ok (.iconst 0, 1) := by decide +kernel
theorem dX11_comes_247 : decode cX11_comes 247 = .ok (.istore 4, 2) := by decide +kernel
theorem dX11_comes_249 : decode cX11_comes 249 = .ok (.iload 4, 2) := by decide +kernel
theorem dX11_comes_251 : decode cX11_comes 251 = .ok (.aload_n 0, 1) := by decide +kernel
theorem dX11_comes_252 : decode cX11_comes 252 = .ok (.getfield 238, 3) := by decide +kernel
theorem dX11_comes_255 : decode cX11_comes 255 = .ok (.if_icmp .ge 95, 3) := by decide +kernel
theorem dX11_comes_258 : decode cX11_comes 258 = .ok (.iconst 0, 1) := by decide +kernel
theorem dX11_comes_259 : decode cX11_comes 259 = .ok (.istore 5, 2) := by decide +kernel
theorem dX11_comes_261 : decode cX11_comes 261 = .ok (.iload 5, 2) := by decide +kernel
theorem dX11_comes_263 : decode cX11_comes 263 = .ok (.aload_n 0, 1) := by decide +kernel
theorem dX11_comes_264 : decode cX11_comes 264 = .ok (.getfield 238, 3) := by decide +kernel
theorem dX11_comes_267 : decode cX11_comes 267 = .ok (.if_icmp .ge 77, 3) := by decide +kernel
theorem dX11_comes_270 : decode cX11_comes 270 = .ok (.aload_n 0, 1) := by decide +kernel
theorem dX11_comes_271 : decode cX11_comes 271 = .ok (.getfield 59, 3) := by decide +kernel
theorem dX11_comes_274 : decode cX11_comes 274 = .ok (.iload 4, 2) := by decide +kernel
theorem dX11_comes_276 : decode cX11_comes 276 = .ok (.iaload, 1) := by decide +kernel
theorem dX11_comes_277 : decode cX11_comes 277 = .ok (.ifCond .le 67, 3) := by decide +kernel
theorem dX11_comes_280 : decode cX11_comes 280 = .ok (.iload 5, 2) := by decide +kernel
theorem dX11_comes_282 : decode cX11_comes 282 = .ok (.iload 4, 2) := by decide +kernel
theorem dX11_comes_284 : decode cX11_comes 284 = .ok (.if_icmp .ne 6, 3) := by decide +kernel
theorem dX11_comes_287 : decode cX11_comes 287 = .ok (.goto 51, 3) := by decide +kernel
theorem dX11_comes_290 : decode cX11_comes 290 = .ok (.aload_n 0, 1) := by decide +kernel
theorem dX11_comes_291 : decode cX11_comes 291 = .ok (.iload 5, 2) := by decide +kernel
theorem dX11_comes_293 : decode cX11_comes 293 = .ok (.iload 4, 2) := by decide +kernel
theorem dX11_comes_295 : decode cX11_comes 295 = .ok (.invokevirtual 283, 3) := by decide +kernel
theorem dX11_comes_298 : decode cX11_comes 298 = .ok (.istore 6, 2) := by decide +kernel
theorem dX11_comes_300 : decode cX11_comes 300 = .ok (.aload_n 0, 1) := by decide +kernel
theorem dX11_comes_301 : decode cX11_comes 301 = .ok (.iload 5, 2) := by decide +kernel
theorem dX11_comes_303 : decode cX11_comes 303 = .ok (.bipush 10, 2) := by decide +kernel
theorem dX11_comes_305 : decode cX11_comes 305 = .ok (.aload_n 0, 1) := by decide +kernel
theorem dX11_comes_306 : decode cX11_comes 306 = .ok (.iload 5, 2) := by decide +kernel
theorem dX11_comes_308 : decode cX11_comes 308 = .ok (.bipush 10, 2) := by decide +kernel
theorem dX11_comes_310 : decode cX11_comes 310 = .ok (.invokevirtual 241, 3) := by decide +kernel
theorem dX11_comes_313 : decode cX11_comes 313 = .ok (.iload 6, 2) := by decide +kernel
theorem dX11_comes_315 : decode cX11_comes 315 = .ok (.isub, 1) := by decide +kernel
theorem dX11_comes_316 : decode cX11_comes 316 = .ok (.invokevirtual 97, 3) := by decide +kernel
theorem dX11_comes_319 : decode cX11_comes 319 = .ok (.aload_n 0, 1) := by decide +kernel
theorem dX11_comes_320 : decode cX11_comes 320 = .ok (.iload 4, 2) := by decide +kernel
theorem dX11_comes_322 : decode cX11_comes 322 = .ok (.bipush 10, 2) := by decide +kernel
theorem dX11_comes_324 : decode cX11_comes 324 = .ok (.aload_n 0, 1) := by decide +kernel
theorem dX11_comes_325 : decode cX11_comes 325 = .ok (.iload 4, 2) := by decide +kernel
theorem dX11_comes_327 : decode cX11_comes 327 = .ok (.bipush 10, 2) := by decide +kernel
theorem dX11_comes_329 : decode cX11_comes 329 = .ok (.invokevirtual 241, 3) := by decide +kernel
theorem dX11_comes_332 : decode cX11_comes 332 = .ok (.iload 6, 2) := by decide +kernel
theorem dX11_comes_334 : decode cX11_comes 334 = .ok (.iadd, 1) := by decide +kernel
theorem dX11_comes_335 : decode cX11_comes 335 = .ok (.invokevirtual 97, 3) := by decide +kernel
theorem dX11_comes_338 : decode cX11_comes 338 = .ok (.iinc 5 1, 3) := by decide +kernel
theorem dX11_comes_341 : decode cX11_comes 341 = .ok (.goto (-80), 3) := by decide +kernel
theorem dX11_comes_344 : decode cX11_comes 344 = .ok (.iinc 4 1, 3) := by decide +kernel
theorem dX11_comes_347 : decode cX11_comes 347 = .ok (.goto (-98), 3) := by decide +kernel
theorem dX11_comes_350 : decode cX11_comes 350 = .ok (.iconst 0, 1) := by decide +kernel
theorem dX11_comes_351 : decode cX11_comes 351 = .ok (.istore 4, 2) := by decide +kernel
theorem dX11_comes_353 : decode cX11_comes 353 = .ok (.iload 4, 2) := by decide +kernel
theorem dX11_comes_355 : decode cX11_comes 355 = .ok (.aload_n 0, 1) := by decide +kernel
theorem dX11_comes_356 : decode cX11_comes 356 = .ok (.getfield 238, 3) := by decide +kernel
theorem dX11_comes_359 : decode cX11_comes 359 = .ok (.if_icmp .ge 36, 3) := by decide +kernel
theorem dX11_comes_362 : decode cX11_comes 362 = .ok (.aload_n 0, 1) := by decide +kernel
theorem dX11_comes_363 : decode cX11_comes 363 = .ok (.iload 4, 2) := by decide +kernel
theorem dX11_comes_365 : decode cX11_comes 365 = .ok (.iconst 5, 1) := by decide +kernel
theorem dX11_comes_366 : decode cX11_comes 366 = .ok (.bipush 10, 2) := by decide +kernel
theorem dX11_comes_368 : decode cX11_comes 368 = .ok (.aload_n 0, 1) := by decide +kernel
theorem dX11_comes_369 : decode cX11_comes 369 = .ok (.iload 4, 2) := by decide +kernel
theorem dX11_comes_371 : decode cX11_comes 371 = .ok (.iconst 5, 1) := by decide +kernel
theorem dX11_comes_372 : decode cX11_comes 372 = .ok (.invokevirtual 241, 3) := by decide +kernel
theorem dX11_comes_375 : decode cX11_comes 375 = .ok (.aload_n 0, 1) := by decide +kernel
theorem dX11_comes_376 : decode cX11_comes 376 = .ok (.iload 4, 2) := by decide +kernel
theorem dX11_comes_378 : decode cX11_comes 378 = .ok (.iconst 2, 1) := by decide +kernel
theorem dX11_comes_379 : decode cX11_comes 379 = .ok (.invokevirtual 241, 3) := by decide +kernel
theorem dX11_comes_382 : decode cX11_comes 382 = .ok (.iadd, 1) := by decide +kernel
theorem dX11_comes_383 : decode cX11_comes 383 = .ok (.invokestatic 244, 3) := by decide +kernel
theorem dX11_comes_386 : decode cX11_comes 386 = .ok (.invokevirtual 97, 3) := by decide +kernel
theorem dX11_comes_389 : decode cX11_comes 389 = .ok (.iinc 4 1, 3) := by decide +kernel
theorem dX11_comes_392 : decode cX11_comes 392 = .ok (.goto (-39), 3) := by decide +kernel
theorem dX11_comes_395 : decode cX11_comes 395 = .ok (.iload_n 2, 1) := by decide +kernel
theorem dX11_comes_396 : decode cX11_comes 396 = .ok (.ireturn, 1) := by decide +kernel
theorem dX11_of_0 : decode cX11_of 0 = .ok (.aload_n 0, 1) := by decide +kernel
theorem dX11_of_1 : decode cX11_of 1 = .ok (.iload_n 1, 1) := by decide +kernel
theorem dX11_of_2 : decode cX11_of 2 = .ok (.invokevirtual 101, 3) := by decide +kernel
theorem dX11_of_5 : decode cX11_of 5 = .ok (.ifCond .eq 22, 3) := by decide +kernel
theorem dX11_of_8 : decode cX11_of 8 = .ok (.iload_n 2, 1) := by decide +kernel
theorem dX11_of_9 : decode cX11_of 9 = .ok (.iconst 0, 1) := by decide +kernel
theorem dX11_of_10 : decode cX11_of 10 = .ok (.bipush 13, 2) := by decide +kernel
theorem dX11_of_12 : decode cX11_of 12 = .ok (.invokestatic 93, 3) := by decide +kernel
theorem dX11_of_15 : decode cX11_of 15 = .ok (.ifCond .eq 12, 3) := by decide +kernel
theorem dX11_of_18 : decode cX11_of 18 = .ok (.aload_n 0, 1) := by decide +kernel
theorem dX11_of_19 : decode cX11_of 19 = .ok (.iload_n 1, 1) := by decide +kernel
theorem dX11_of_20 : decode cX11_of 20 = .ok (.iload_n 2, 1) := by decide +kernel
theorem dX11_of_21 : decode cX11_of 21 = .ok (.invokevirtual 241, 3) := by decide +kernel
theorem dX11_of_24 : decode cX11_of 24 = .ok (.goto 6, 3) := by decide +kernel
theorem dX11_of_27 : decode cX11_of 27 = .ok (.ldc_w 286, 3) := by decide +kernel
theorem dX11_of_30 : decode cX11_of 30 = .ok (.ireturn, 1) := by decide +kernel
theorem dX11_hour_0 : decode cX11_hour 0 = .ok (.iload_n 2, 1) := by decide +kernel
theorem dX11_hour_1 : decode cX11_hour 1 = .ok (.iconst 0, 1) := by decide +kernel
theorem dX11_hour_2 : decode cX11_hour 2 = .ok (.aload_n 0, 1) := by decide +kernel
theorem dX11_hour_3 : decode cX11_hour 3 = .ok (.getfield 7, 3) := by decide +kernel
theorem dX11_hour_6 : decode cX11_hour 6 = .ok (.bipush 8, 2) := by decide +kernel
theorem dX11_hour_8 : decode cX11_hour 8 = .ok (.iaload, 1) := by decide +kernel
theorem dX11_hour_9 : decode cX11_hour 9 = .ok (.iconst 1, 1) := by decide +kernel
theorem dX11_hour_10 : decode cX11_hour 10 = .ok (.isub, 1) := by decide +kernel
theorem dX11_hour_11 : decode cX11_hour 11 = .ok (.invokestatic 93, 3) := by decide +kernel
theorem dX11_hour_14 : decode cX11_hour 14 = .ok (.ifCond .eq 51, 3) := by decide +kernel
theorem dX11_hour_17 : decode cX11_hour 17 = .ok (.iload_n 1, 1) := by decide +kernel
theorem dX11_hour_18 : decode cX11_hour 18 = .ok (.iconst 0, 1) := by decide +kernel
theorem dX11_hour_19 : decode cX11_hour 19 = .ok (.aload_n 0, 1) := by decide +kernel
theorem dX11_hour_20 : decode cX11_hour 20 = .ok (.getfield 7, 3) := by decide +kernel
theorem dX11_hour_23 : decode cX11_hour 23 = .ok (.bipush 9, 2) := by decide +kernel
theorem dX11_hour_25 : decode cX11_hour 25 = .ok (.iaload, 1) := by decide +kernel
theorem dX11_hour_26 : decode cX11_hour 26 = .ok (.iconst 1, 1) := by decide +kernel
theorem dX11_hour_27 : decode cX11_hour 27 = .ok (.isub, 1) := by decide +kernel
theorem dX11_hour_28 : decode cX11_hour 28 = .ok (.invokestatic 93, 3) := by decide +kernel
theorem dX11_hour_31 : decode cX11_hour 31 = .ok (.ifCond .eq 34, 3) := by decide +kernel
theorem dX11_hour_34 : decode cX11_hour 34 = .ok (.iload_n 3, 1) := by decide +kernel
theorem dX11_hour_35 : decode cX11_hour 35 = .ok (.iconst 0, 1) := by decide +kernel
theorem dX11_hour_36 : decode cX11_hour 36 = .ok (.iconst 2, 1) := by decide +kernel
theorem dX11_hour_37 : decode cX11_hour 37 = .ok (.invokestatic 93, 3) := by decide +kernel
theorem dX11_hour_40 : decode cX11_hour 40 = .ok (.ifCond .eq 25, 3) := by decide +kernel
theorem dX11_hour_43 : decode cX11_hour 43 = .ok (.aload_n 0, 1) := by decide +kernel
theorem dX11_hour_44 : decode cX11_hour 44 = .ok (.getfield 7, 3) := by decide +kernel
theorem dX11_hour_47 : decode cX11_hour 47 = .ok (.sipush 440, 3) := by decide +kernel
theorem dX11_hour_50 : decode cX11_hour 50 = .ok (.iconst 3, 1) := by decide +kernel
theorem dX11_hour_51 : decode cX11_hour 51 = .ok (.bipush 12, 2) := by decide +kernel
theorem dX11_hour_53 : decode cX11_hour 53 = .ok (.iload_n 1, 1) := by decide +kernel
theorem dX11_hour_54 : decode cX11_hour 54 = .ok (.imul, 1) := by decide +kernel
theorem dX11_hour_55 : decode cX11_hour 55 = .ok (.iload_n 2, 1) := by decide +kernel
theorem dX11_hour_56 : decode cX11_hour 56 = .ok (.iadd, 1) := by decide +kernel
theorem dX11_hour_57 : decode cX11_hour 57 = .ok (.imul, 1) := by decide +kernel
theorem dX11_hour_58 : decode cX11_hour 58 = .ok (.iadd, 1) := by decide +kernel
theorem dX11_hour_59 : decode cX11_hour 59 = .ok (.iload_n 3, 1) := by decide +kernel
theorem dX11_hour_60 : decode cX11_hour 60 = .ok (.iadd, 1) := by decide +kernel
theorem dX11_hour_61 : decode cX11_hour 61 = .ok (.iaload, 1) := by decide +kernel
theorem dX11_hour_62 : decode cX11_hour 62 = .ok (.goto 4, 3) := by decide +kernel
theorem dX11_hour_65 : decode cX11_hour 65 = .ok (.iconst (-1), 1) := by decide +kernel
theorem dX11_hour_66 : decode cX11_hour 66 = .ok (.ireturn, 1) := by decide +kernel
theorem dX11_count_0 : decode cX11_count 0 = .ok (.iconst 0, 1) := by decide +kernel
theorem dX11_count_1 : decode cX11_count 1 = .ok (.istore_n 1, 1) := by decide +kernel
theorem dX11_count_2 : decode cX11_count 2 = .ok (.iconst 0, 1) := by decide +kernel
theorem dX11_count_3 : decode cX11_count 3 = .ok (.istore_n 2, 1) := by decide +kernel
theorem dX11_count_4 : decode cX11_count 4 = .ok (.iload_n 2, 1) := by decide +kernel
theorem dX11_count_5 : decode cX11_count 5 = .ok (.bipush 10, 2) := by decide +kernel
theorem dX11_count_7 : decode cX11_count 7 = .ok (.if_icmp .ge 17, 3) := by decide +kernel
theorem dX11_count_10 : decode cX11_count 10 = .ok (.iload_n 1, 1) := by decide +kernel
theorem dX11_count_11 : decode cX11_count 11 = .ok (.iload_n 0, 1) := by decide +kernel
theorem dX11_count_12 : decode cX11_count 12 = .ok (.iload_n 2, 1) := by decide +kernel
theorem dX11_count_13 : decode cX11_count 13 = .ok (.ishr, 1) := by decide +kernel
theorem dX11_count_14 : decode cX11_count 14 = .ok (.iconst 1, 1) := by decide +kernel
theorem dX11_count_15 : decode cX11_count 15 = .ok (.iand, 1) := by decide +kernel
theorem dX11_count_16 : decode cX11_count 16 = .ok (.iadd, 1) := by decide +kernel
theorem dX11_count_17 : decode cX11_count 17 = .ok (.istore_n 1, 1) := by decide +kernel
theorem dX11_count_18 : decode cX11_count 18 = .ok (.iinc 2 1, 3) := by decide +kernel
theorem dX11_count_21 : decode cX11_count 21 = .ok (.goto (-17), 3) := by decide +kernel
theorem dX11_count_24 : decode cX11_count 24 = .ok (.iload_n 1, 1) := by decide +kernel
theorem dX11_count_25 : decode cX11_count 25 = .ok (.ireturn, 1) := by decide +kernel
theorem dX11_orders_0 : decode cX11_orders 0 = .ok (.iload_n 0, 1) := by decide +kernel
theorem dX11_orders_1 : decode cX11_orders 1 = .ok (.iconst 2, 1) := by decide +kernel
theorem dX11_orders_2 : decode cX11_orders 2 = .ok (.if_icmp .ge 7, 3) := by decide +kernel
theorem dX11_orders_5 : decode cX11_orders 5 = .ok (.lconst 1, 1) := by decide +kernel
theorem dX11_orders_6 : decode cX11_orders 6 = .ok (.goto 12, 3) := by decide +kernel
theorem dX11_orders_9 : decode cX11_orders 9 = .ok (.iload_n 0, 1) := by decide +kernel
theorem dX11_orders_10 : decode cX11_orders 10 = .ok (.i2l, 1) := by decide +kernel
theorem dX11_orders_11 : decode cX11_orders 11 = .ok (.iload_n 0, 1) := by decide +kernel
theorem dX11_orders_12 : decode cX11_orders 12 = .ok (.iconst 1, 1) := by decide +kernel
theorem dX11_orders_13 : decode cX11_orders 13 = .ok (.isub, 1) := by decide +kernel
theorem dX11_orders_14 : decode cX11_orders 14 = .ok (.invokestatic 287, 3) := by decide +kernel
theorem dX11_orders_17 : decode cX11_orders 17 = .ok (.lmul, 1) := by decide +kernel
theorem dX11_orders_18 : decode cX11_orders 18 = .ok (.lreturn, 1) := by decide +kernel
theorem dX11_overAt_0 : decode cX11_overAt 0 = .ok (.aload_n 0, 1) := by decide +kernel
theorem dX11_overAt_1 : decode cX11_overAt 1 = .ok (.invokevirtual 277, 3) := by decide +kernel
theorem dX11_overAt_4 : decode cX11_overAt 4 = .ok (.iconst 0, 1) := by decide +kernel
theorem dX11_overAt_5 : decode cX11_overAt 5 = .ok (.istore 4, 2) := by decide +kernel
theorem dX11_overAt_7 : decode cX11_overAt 7 = .ok (.iload 4, 2) := by decide +kernel
theorem dX11_overAt_9 : decode cX11_overAt 9 = .ok (.aload_n 0, 1) := by decide +kernel
theorem dX11_overAt_10 : decode cX11_overAt 10 = .ok (.getfield 238, 3) := by decide +kernel
theorem dX11_overAt_13 : decode cX11_overAt 13 = .ok (.if_icmp .ge 37, 3) := by decide +kernel
theorem dX11_overAt_16 : decode cX11_overAt 16 = .ok (.aload_n 0, 1) := by decide +kernel
theorem dX11_overAt_17 : decode cX11_overAt 17 = .ok (.getfield 44, 3) := by decide +kernel
theorem dX11_overAt_20 : decode cX11_overAt 20 = .ok (.iload 4, 2) := by decide +kernel
theorem dX11_overAt_22 : decode cX11_overAt 22 = .ok (.iload_n 3, 1) := by decide +kernel
theorem dX11_overAt_23 : decode cX11_overAt 23 = .ok (.iload 4, 2) := by decide +kernel
theorem dX11_overAt_25 : decode cX11_overAt 25 = .ok (.ishr, 1) := by decide +kernel
theorem dX11_overAt_26 : decode cX11_overAt 26 = .ok (.iconst 1, 1) := by decide +kernel
theorem dX11_overAt_27 : decode cX11_overAt 27 = .ok (.iand, 1) := by decide +kernel
theorem dX11_overAt_28 : decode cX11_overAt 28 = .ok (.iconst 1, 1) := by decide +kernel
theorem dX11_overAt_29 : decode cX11_overAt 29 = .ok (.if_icmp .ne 13, 3) := by decide +kernel
theorem dX11_overAt_32 : decode cX11_overAt 32 = .ok (.aload_n 0, 1) := by decide +kernel
theorem dX11_overAt_33 : decode cX11_overAt 33 = .ok (.getfield 44, 3) := by decide +kernel
theorem dX11_overAt_36 : decode cX11_overAt 36 = .ok (.iload 4, 2) := by decide +kernel
theorem dX11_overAt_38 : decode cX11_overAt 38 = .ok (.iaload, 1) := by decide +kernel
theorem dX11_overAt_39 : decode cX11_overAt 39 = .ok (.goto 4, 3) := by decide +kernel
theorem dX11_overAt_42 : decode cX11_overAt 42 = .ok (.iconst 0, 1) := by decide +kernel
theorem dX11_overAt_43 : decode cX11_overAt 43 = .ok (.iastore, 1) := by decide +kernel
theorem dX11_overAt_44 : decode cX11_overAt 44 = .ok (.iinc 4 1, 3) := by decide +kernel
theorem dX11_overAt_47 : decode cX11_overAt 47 = .ok (.goto (-40), 3) := by decide +kernel
theorem dX11_overAt_50 : decode cX11_overAt 50 = .ok (.aload_n 0, 1) := by decide +kernel
theorem dX11_overAt_51 : decode cX11_overAt 51 = .ok (.iload_n 2, 1) := by decide +kernel
theorem dX11_overAt_52 : decode cX11_overAt 52 = .ok (.invokevirtual 280, 3) := by decide +kernel
theorem dX11_overAt_55 : decode cX11_overAt 55 = .ok (.pop, 1) := by decide +kernel
theorem dX11_overAt_56 : decode cX11_overAt 56 = .ok (.aload_n 0, 1) := by decide +kernel
theorem dX11_overAt_57 : decode cX11_overAt 57 = .ok (.getfield 59, 3) := by decide +kernel
theorem dX11_overAt_60 : decode cX11_overAt 60 = .ok (.iload_n 1, 1) := by decide +kernel
theorem dX11_overAt_61 : decode cX11_overAt 61 = .ok (.iaload, 1) := by decide +kernel
theorem dX11_overAt_62 : decode cX11_overAt 62 = .ok (.ireturn, 1) := by decide +kernel
theorem dX11_blame_0 : decode cX11_blame 0 = .ok (.aload_n 0, 1) := by decide +kernel
theorem dX11_blame_1 : decode cX11_blame 1 = .ok (.iload_n 1, 1) := by decide +kernel
theorem dX11_blame_2 : decode cX11_blame 2 = .ok (.invokevirtual 101, 3) := by decide +kernel
theorem dX11_blame_5 : decode cX11_blame 5 = .ok (.ifCond .eq 35, 3) := by decide +kernel
theorem dX11_blame_8 : decode cX11_blame 8 = .ok (.aload_n 0, 1) := by decide +kernel
theorem dX11_blame_9 : decode cX11_blame 9 = .ok (.iload_n 3, 1) := by decide +kernel
theorem dX11_blame_10 : decode cX11_blame 10 = .ok (.invokevirtual 105, 3) := by decide +kernel
theorem dX11_blame_13 : decode cX11_blame 13 = .ok (.ifCond .eq 27, 3) := by decide +kernel
theorem dX11_blame_16 : decode cX11_blame 16 = .ok (.iload 4, 2) := by decide +kernel
theorem dX11_blame_18 : decode cX11_blame 18 = .ok (.iconst 0, 1) := by decide +kernel
theorem dX11_blame_19 : decode cX11_blame 19 = .ok (.iconst 2, 1) := by decide +kernel
theorem dX11_blame_20 : decode cX11_blame 20 = .ok (.invokestatic 93, 3) := by decide +kernel
theorem dX11_blame_23 : decode cX11_blame 23 = .ok (.ifCond .eq 17, 3) := by decide +kernel
theorem dX11_blame_26 : decode cX11_blame 26 = .ok (.iload 4, 2) := by decide +kernel
theorem dX11_blame_28 : decode cX11_blame 28 = .ok (.iconst 2, 1) := by decide +kernel
theorem dX11_blame_29 : decode cX11_blame 29 = .ok (.if_icmp .ge 15, 3) := by decide +kernel
theorem dX11_blame_32 : decode cX11_blame 32 = .ok (.aload_n 0, 1) := by decide +kernel
theorem dX11_blame_33 : decode cX11_blame 33 = .ok (.iload_n 2, 1) := by decide +kernel
theorem dX11_blame_34 : decode cX11_blame 34 = .ok (.invokevirtual 101, 3) := by decide +kernel
theorem dX11_blame_37 : decode cX11_blame 37 = .ok (.ifCond .ne 7, 3) := by decide +kernel
theorem dX11_blame_40 : decode cX11_blame 40 = .ok (.ldc2_w 291, 3) := by decide +kernel
theorem dX11_blame_43 : decode cX11_blame 43 = .ok (.lreturn, 1) := by decide +kernel
theorem dX11_blame_44 : decode cX11_blame 44 = .ok (.iconst 0, 1) := by decide +kernel
theorem dX11_blame_45 : decode cX11_blame 45 = .ok (.istore 5, 2) := by decide +kernel
theorem dX11_blame_47 : decode cX11_blame 47 = .ok (.iconst 0, 1) := by decide +kernel
theorem dX11_blame_48 : decode cX11_blame 48 = .ok (.istore 6, 2) := by decide +kernel
theorem dX11_blame_50 : decode cX11_blame 50 = .ok (.iload 6, 2) := by decide +kernel
theorem dX11_blame_52 : decode cX11_blame 52 = .ok (.aload_n 0, 1) := by decide +kernel
theorem dX11_blame_53 : decode cX11_blame 53 = .ok (.getfield 7, 3) := by decide +kernel
theorem dX11_blame_56 : decode cX11_blame 56 = .ok (.iconst 0, 1) := by decide +kernel
theorem dX11_blame_57 : decode cX11_blame 57 = .ok (.iaload, 1) := by decide +kernel
theorem dX11_blame_58 : decode cX11_blame 58 = .ok (.if_icmp .ge 32, 3) := by decide +kernel
theorem dX11_blame_61 : decode cX11_blame 61 = .ok (.iload 5, 2) := by decide +kernel
theorem dX11_blame_63 : decode cX11_blame 63 = .ok (.aload_n 0, 1) := by decide +kernel
theorem dX11_blame_64 : decode cX11_blame 64 = .ok (.iload 6, 2) := by decide +kernel
theorem dX11_blame_66 : decode cX11_blame 66 = .ok (.iconst 5, 1) := by decide +kernel
theorem dX11_blame_67 : decode cX11_blame 67 = .ok (.invokevirtual 241, 3) := by decide +kernel
theorem dX11_blame_70 : decode cX11_blame 70 = .ok (.ifCond .le 10, 3) := by decide +kernel
theorem dX11_blame_73 : decode cX11_blame 73 = .ok (.iconst 1, 1) := by decide +kernel
theorem dX11_blame_74 : decode cX11_blame 74 = .ok (.iload 6, 2) := by decide +kernel
theorem dX11_blame_76 : decode cX11_blame 76 = .ok (.ishl, 1) := by decide +kernel
theorem dX11_blame_77 : decode cX11_blame 77 = .ok (.goto 4, 3) := by decide +kernel
theorem dX11_blame_80 : decode cX11_blame 80 = .ok (.iconst 0, 1) := by decide +kernel
theorem dX11_blame_81 : decode cX11_blame 81 = .ok (.ior, 1) := by decide +kernel
theorem dX11_blame_82 : decode cX11_blame 82 = .ok (.istore 5, 2) := by decide +kernel
theorem dX11_blame_84 : decode cX11_blame 84 = .ok (.iinc 6 1, 3) := by decide +kernel
theorem dX11_blame_87 : decode cX11_blame 87 = .ok (.goto (-37), 3) := by decide +kernel
theorem dX11_blame_90 : decode cX11_blame 90 = .ok (.iload 5, 2) := by decide +kernel
theorem dX11_blame_92 : decode cX11_blame 92 = .ok (.invokestatic 293, 3) := by decide +kernel
theorem dX11_blame_95 : decode cX11_blame 95 = .ok (.istore 6, 2) := by decide +kernel
theorem dX11_blame_97 : decode cX11_blame 97 = .ok (.iload 6, 2) := by decide +kernel
theorem dX11_blame_99 : decode cX11_blame 99 = .ok (.bipush 7, 2) := by decide +kernel
theorem dX11_blame_101 : decode cX11_blame 101 = .ok (.if_icmp .le 7, 3) := by decide +kernel
theorem dX11_blame_104 : decode cX11_blame 104 = .ok (.ldc2_w 291, 3) := by decide +kernel
theorem dX11_blame_107 : decode cX11_blame 107 = .ok (.lreturn, 1) := by decide +kernel
theorem dX11_blame_108 : decode cX11_blame 108 = .ok (.iload 4, 2) := by decide +kernel
theorem dX11_blame_110 : decode cX11_blame 110 = .ok (.iconst 2, 1) := by decide +kernel
theorem dX11_blame_111 : decode cX11_blame 111 = .ok (.if_icmp .ne 12, 3) := by decide +kernel
theorem dX11_blame_114 : decode cX11_blame 114 = .ok (.aload_n 0, 1) := by decide +kernel
theorem dX11_blame_115 : decode cX11_blame 115 = .ok (.iload_n 1, 1) := by decide +kernel
theorem dX11_blame_116 : decode cX11_blame 116 = .ok (.iload_n 3, 1) := by decide +kernel
theorem dX11_blame_117 : decode cX11_blame 117 = .ok (.iconst 0, 1) := by decide +kernel
theorem dX11_blame_118 : decode cX11_blame 118 = .ok (.invokevirtual 296, 3) := by decide +kernel
theorem dX11_blame_121 : decode cX11_blame 121 = .ok (.i2l, 1) := by decide +kernel
theorem dX11_blame_122 : decode cX11_blame 122 = .ok (.lreturn, 1) := by decide +kernel
theorem dX11_blame_123 : decode cX11_blame 123 = .ok (.iload 5, 2) := by decide +kernel
theorem dX11_blame_125 : decode cX11_blame 125 = .ok (.iload_n 2, 1) := by decide +kernel
theorem dX11_blame_126 : decode cX11_blame 126 = .ok (.ishr, 1) := by decide +kernel
theorem dX11_blame_127 : decode cX11_blame 127 = .ok (.iconst 1, 1) := by decide +kernel
theorem dX11_blame_128 : decode cX11_blame 128 = .ok (.iand, 1) := by decide +kernel
theorem dX11_blame_129 : decode cX11_blame 129 = .ok (.ifCond .ne 7, 3) := by decide +kernel
theorem dX11_blame_132 : decode cX11_blame 132 = .ok (.iload 4, 2) := by decide +kernel
theorem dX11_blame_134 : decode cX11_blame 134 = .ok (.i2l, 1) := by decide +kernel
theorem dX11_blame_135 : decode cX11_blame 135 = .ok (.lreturn, 1) := by decide +kernel
theorem dX11_blame_136 : decode cX11_blame 136 = .ok (.iconst 0, 1) := by decide +kernel
theorem dX11_blame_137 : decode cX11_blame 137 = .ok (.istore 7, 2) := by decide +kernel
theorem dX11_blame_139 : decode cX11_blame 139 = .ok (.iload 7, 2) := by decide +kernel
theorem dX11_blame_141 : decode cX11_blame 141 = .ok (.iconst 1, 1) := by decide +kernel
theorem dX11_blame_142 : decode cX11_blame 142 = .ok (.aload_n 0, 1) := by decide +kernel
theorem dX11_blame_143 : decode cX11_blame 143 = .ok (.getfield 7, 3) := by decide +kernel
theorem dX11_blame_146 : decode cX11_blame 146 = .ok (.iconst 0, 1) := by decide +kernel
theorem dX11_blame_147 : decode cX11_blame 147 = .ok (.iaload, 1) := by decide +kernel
theorem dX11_blame_148 : decode cX11_blame 148 = .ok (.ishl, 1) := by decide +kernel
theorem dX11_blame_149 : decode cX11_blame 149 = .ok (.if_icmp .ge 35, 3) := by decide +kernel
theorem dX11_blame_152 : decode cX11_blame 152 = .ok (.iload 7, 2) := by decide +kernel
theorem dX11_blame_154 : decode cX11_blame 154 = .ok (.iload 5, 2) := by decide +kernel
theorem dX11_blame_156 : decode cX11_blame 156 = .ok (.iconst (-1), 1) := by decide +kernel
theorem dX11_blame_157 : decode cX11_blame 157 = .ok (.ixor, 1) := by decide +kernel
theorem dX11_blame_158 : decode cX11_blame 158 = .ok (.iand, 1) := by decide +kernel
theorem dX11_blame_159 : decode cX11_blame 159 = .ok (.ifCond .ne 19, 3) := by decide +kernel
theorem dX11_blame_162 : decode cX11_blame 162 = .ok (.aload_n 0, 1) := by decide +kernel
theorem dX11_blame_163 : decode cX11_blame 163 = .ok (.getfield 65, 3) := by decide +kernel
theorem dX11_blame_166 : decode cX11_blame 166 = .ok (.iload 7, 2) := by decide +kernel
theorem dX11_blame_168 : decode cX11_blame 168 = .ok (.aload_n 0, 1) := by decide +kernel
theorem dX11_blame_169 : decode cX11_blame 169 = .ok (.iload_n 1, 1) := by decide +kernel
theorem dX11_blame_170 : decode cX11_blame 170 = .ok (.iload_n 3, 1) := by decide +kernel
theorem dX11_blame_171 : decode cX11_blame 171 = .ok (.iload 7, 2) := by decide +kernel
theorem dX11_blame_173 : decode cX11_blame 173 = .ok (.invokevirtual 296, 3) := by decide +kernel
theorem dX11_blame_176 : decode cX11_blame 176 = .ok (.i2l, 1) := by decide +kernel
theorem dX11_blame_177 : decode cX11_blame 177 = .ok (.lastore, 1) := by decide +kernel
theorem dX11_blame_178 : decode cX11_blame 178 = .ok (.iinc 7 1, 3) := by decide +kernel
theorem dX11_blame_181 : decode cX11_blame 181 = .ok (.goto (-42), 3) := by decide +kernel
theorem dX11_blame_184 : decode cX11_blame 184 = .ok (.lconst 0, 1) := by decide +kernel
theorem dX11_blame_185 : decode cX11_blame 185 = .ok (.lstore 7, 2) := by decide +kernel
theorem dX11_blame_187 : decode cX11_blame 187 = .ok (.iconst 0, 1) := by decide +kernel
theorem dX11_blame_188 : decode cX11_blame 188 = .ok (.istore 9, 2) := by decide +kernel
theorem dX11_blame_190 : decode cX11_blame 190 = .ok (.iload 9, 2) := by decide +kernel
theorem dX11_blame_192 : decode cX11_blame 192 = .ok (.iconst 1, 1) := by decide +kernel
theorem dX11_blame_193 : decode cX11_blame 193 = .ok (.aload_n 0, 1) := by decide +kernel
theorem dX11_blame_194 : decode cX11_blame 194 = .ok (.getfield 7, 3) := by decide +kernel
theorem dX11_blame_197 : decode cX11_blame 197 = .ok (.iconst 0, 1) := by decide +kernel
theorem dX11_blame_198 : decode cX11_blame 198 = .ok (.iaload, 1) := by decide +kernel
theorem dX11_blame_199 : decode cX11_blame 199 = .ok (.ishl, 1) := by decide +kernel
theorem dX11_blame_200 : decode cX11_blame 200 = .ok (.if_icmp .ge 79, 3) := by decide +kernel
theorem dX11_blame_203 : decode cX11_blame 203 = .ok (.iload 9, 2) := by decide +kernel
theorem dX11_blame_205 : decode cX11_blame 205 = .ok (.iload 5, 2) := by decide +kernel
theorem dX11_blame_207 : decode cX11_blame 207 = .ok (.iconst (-1), 1) := by decide +kernel
theorem dX11_blame_208 : decode cX11_blame 208 = .ok (.ixor, 1) := by decide +kernel
theorem dX11_blame_209 : decode cX11_blame 209 = .ok (.iand, 1) := by decide +kernel
theorem dX11_blame_210 : decode cX11_blame 210 = .ok (.ifCond .ne 63, 3) := by decide +kernel
theorem dX11_blame_213 : decode cX11_blame 213 = .ok (.iload 9, 2) := by decide +kernel
theorem dX11_blame_215 : decode cX11_blame 215 = .ok (.iload_n 2, 1) := by decide +kernel
theorem dX11_blame_216 : decode cX11_blame 216 = .ok (.ishr, 1) := by decide +kernel
theorem dX11_blame_217 : decode cX11_blame 217 = .ok (.iconst 1, 1) := by decide +kernel
theorem dX11_blame_218 : decode cX11_blame 218 = .ok (.iand, 1) := by decide +kernel
theorem dX11_blame_219 : decode cX11_blame 219 = .ok (.iconst 1, 1) := by decide +kernel
theorem dX11_blame_220 : decode cX11_blame 220 = .ok (.if_icmp .ne 6, 3) := by decide +kernel
theorem dX11_blame_223 : decode cX11_blame 223 = .ok (.goto 50, 3) := by decide +kernel
theorem dX11_blame_226 : decode cX11_blame 226 = .ok (.lload 7, 2) := by decide +kernel
theorem dX11_blame_228 : decode cX11_blame 228 = .ok (.iload 9, 2) := by decide +kernel
theorem dX11_blame_230 : decode cX11_blame 230 = .ok (.invokestatic 293, 3) := by decide +kernel
theorem dX11_blame_233 : decode cX11_blame 233 = .ok (.invokestatic 287, 3) := by decide +kernel
theorem dX11_blame_236 : decode cX11_blame 236 = .ok (.iload 6, 2) := by decide +kernel
theorem dX11_blame_238 : decode cX11_blame 238 = .ok (.iconst 1, 1) := by decide +kernel
theorem dX11_blame_239 : decode cX11_blame 239 = .ok (.isub, 1) := by decide +kernel
theorem dX11_blame_240 : decode cX11_blame 240 = .ok (.iload 9, 2) := by decide +kernel
theorem dX11_blame_242 : decode cX11_blame 242 = .ok (.invokestatic 293, 3) := by decide +kernel
theorem dX11_blame_245 : decode cX11_blame 245 = .ok (.isub, 1) := by decide +kernel
theorem dX11_blame_246 : decode cX11_blame 246 = .ok (.invokestatic 287, 3) := by decide +kernel
theorem dX11_blame_249 : decode cX11_blame 249 = .ok (.lmul, 1) := by decide +kernel
theorem dX11_blame_250 : decode cX11_blame 250 = .ok (.aload_n 0, 1) := by decide +kernel
theorem dX11_blame_251 : decode cX11_blame 251 = .ok (.getfield 65, 3) := by decide +kernel
theorem dX11_blame_254 : decode cX11_blame 254 = .ok (.iload 9, 2) := by decide +kernel
theorem dX11_blame_256 : decode cX11_blame 256 = .ok (.iconst 1, 1) := by decide +kernel
theorem dX11_blame_257 : decode cX11_blame 257 = .ok (.iload_n 2, 1) := by decide +kernel
theorem dX11_blame_258 : decode cX11_blame 258 = .ok (.ishl, 1) := by decide +kernel
theorem dX11_blame_259 : decode cX11_blame 259 = .ok (.ior, 1) := by decide +kernel
theorem dX11_blame_260 : decode cX11_blame 260 = .ok (.laload, 1) := by decide +kernel
theorem dX11_blame_261 : decode cX11_blame 261 = .ok (.aload_n 0, 1) := by decide +kernel
theorem dX11_blame_262 : decode cX11_blame 262 = .ok (.getfield 65, 3) := by decide +kernel
theorem dX11_blame_265 : decode cX11_blame 265 = .ok (.iload 9, 2) := by decide +kernel
theorem dX11_blame_267 : decode cX11_blame 267 = .ok (.laload, 1) := by decide +kernel
theorem dX11_blame_268 : decode cX11_blame 268 = .ok (.lsub, 1) := by decide +kernel
theorem dX11_blame_269 : decode cX11_blame 269 = .ok (.lmul, 1) := by decide +kernel
theorem dX11_blame_270 : decode cX11_blame 270 = .ok (.ladd, 1) := by decide +kernel
theorem dX11_blame_271 : decode cX11_blame 271 = .ok (.lstore 7, 2) := by decide +kernel
