theorem dX8_ray_56 : decode cX8_ray 56 = .ok (.iload 4, 2) := by decide +kernel
theorem dX8_ray_58 : decode cX8_ray 58 = .ok (.invokevirtual 258, 3) := by decide +kernel
theorem dX8_ray_61 : decode cX8_ray 61 = .ok (.ifCond .ne 6, 3) := by decide +kernel
theorem dX8_ray_64 : decode cX8_ray 64 = .ok (.goto 164, 3) := by decide +kernel
theorem dX8_ray_67 : decode cX8_ray 67 = .ok (.aload_n 0, 1) := by decide +kernel
theorem dX8_ray_68 : decode cX8_ray 68 = .ok (.getfield 248, 3) := by decide +kernel
theorem dX8_ray_71 : decode cX8_ray 71 = .ok (.aload_n 0, 1) := by decide +kernel
theorem dX8_ray_72 : decode cX8_ray 72 = .ok (.getfield 252, 3) := by decide +kernel
theorem dX8_ray_75 : decode cX8_ray 75 = .ok (.invokestatic 220, 3) := by decide +kernel
theorem dX8_ray_78 : decode cX8_ray 78 = .ok (.lstore 6, 2) := by decide +kernel
theorem dX8_ray_80 : decode cX8_ray 80 = .ok (.aload_n 0, 1) := by decide +kernel
theorem dX8_ray_81 : decode cX8_ray 81 = .ok (.getfield 248, 3) := by decide +kernel
theorem dX8_ray_84 : decode cX8_ray 84 = .ok (.lload 6, 2) := by decide +kernel
theorem dX8_ray_86 : decode cX8_ray 86 = .ok (.ldiv, 1) := by decide +kernel
theorem dX8_ray_87 : decode cX8_ray 87 = .ok (.lstore 8, 2) := by decide +kernel
theorem dX8_ray_89 : decode cX8_ray 89 = .ok (.aload_n 0, 1) := by decide +kernel
theorem dX8_ray_90 : decode cX8_ray 90 = .ok (.getfield 252, 3) := by decide +kernel
theorem dX8_ray_93 : decode cX8_ray 93 = .ok (.lload 6, 2) := by decide +kernel
theorem dX8_ray_95 : decode cX8_ray 95 = .ok (.ldiv, 1) := by decide +kernel
theorem dX8_ray_96 : decode cX8_ray 96 = .ok (.lstore 10, 2) := by decide +kernel
theorem dX8_ray_98 : decode cX8_ray 98 = .ok (.aload_n 0, 1) := by decide +kernel
theorem dX8_ray_99 : decode cX8_ray 99 = .ok (.getfield 255, 3) := by decide +kernel
theorem dX8_ray_102 : decode cX8_ray 102 = .ok (.istore 12, 2) := by decide +kernel
theorem dX8_ray_104 : decode cX8_ray 104 = .ok (.iload 12, 2) := by decide +kernel
theorem dX8_ray_106 : decode cX8_ray 106 = .ok (.ifCond .le 85, 3) := by decide +kernel
theorem dX8_ray_109 : decode cX8_ray 109 = .ok (.lload 8, 2) := by decide +kernel
theorem dX8_ray_111 : decode cX8_ray 111 = .ok (.aload_n 0, 1) := by decide +kernel
theorem dX8_ray_112 : decode cX8_ray 112 = .ok (.getfield 117, 3) := by decide +kernel
theorem dX8_ray_115 : decode cX8_ray 115 = .ok (.iload 12, 2) := by decide +kernel
theorem dX8_ray_117 : decode cX8_ray 117 = .ok (.iconst 1, 1) := by decide +kernel
theorem dX8_ray_118 : decode cX8_ray 118 = .ok (.isub, 1) := by decide +kernel
theorem dX8_ray_119 : decode cX8_ray 119 = .ok (.laload, 1) := by decide +kernel
theorem dX8_ray_120 : decode cX8_ray 120 = .ok (.lmul, 1) := by decide +kernel
theorem dX8_ray_121 : decode cX8_ray 121 = .ok (.aload_n 0, 1) := by decide +kernel
theorem dX8_ray_122 : decode cX8_ray 122 = .ok (.getfield 114, 3) := by decide +kernel
theorem dX8_ray_125 : decode cX8_ray 125 = .ok (.iload 12, 2) := by decide +kernel
theorem dX8_ray_127 : decode cX8_ray 127 = .ok (.iconst 1, 1) := by decide +kernel
theorem dX8_ray_128 : decode cX8_ray 128 = .ok (.isub, 1) := by decide +kernel
theorem dX8_ray_129 : decode cX8_ray 129 = .ok (.laload, 1) := by decide +kernel
theorem dX8_ray_130 : decode cX8_ray 130 = .ok (.lload 10, 2) := by decide +kernel
theorem dX8_ray_132 : decode cX8_ray 132 = .ok (.lmul, 1) := by decide +kernel
theorem dX8_ray_133 : decode cX8_ray 133 = .ok (.lcmp, 1) := by decide +kernel
theorem dX8_ray_134 : decode cX8_ray 134 = .ok (.ifCond .ge 57, 3) := by decide +kernel
theorem dX8_ray_137 : decode cX8_ray 137 = .ok (.aload_n 0, 1) := by decide +kernel
theorem dX8_ray_138 : decode cX8_ray 138 = .ok (.getfield 111, 3) := by decide +kernel
theorem dX8_ray_141 : decode cX8_ray 141 = .ok (.iload 12, 2) := by decide +kernel
theorem dX8_ray_143 : decode cX8_ray 143 = .ok (.aload_n 0, 1) := by decide +kernel
theorem dX8_ray_144 : decode cX8_ray 144 = .ok (.getfield 111, 3) := by decide +kernel
theorem dX8_ray_147 : decode cX8_ray 147 = .ok (.iload 12, 2) := by decide +kernel
theorem dX8_ray_149 : decode cX8_ray 149 = .ok (.iconst 1, 1) := by decide +kernel
theorem dX8_ray_150 : decode cX8_ray 150 = .ok (.isub, 1) := by decide +kernel
theorem dX8_ray_151 : decode cX8_ray 151 = .ok (.iaload, 1) := by decide +kernel
theorem dX8_ray_152 : decode cX8_ray 152 = .ok (.iastore, 1) := by decide +kernel
theorem dX8_ray_153 : decode cX8_ray 153 = .ok (.aload_n 0, 1) := by decide +kernel
theorem dX8_ray_154 : decode cX8_ray 154 = .ok (.getfield 114, 3) := by decide +kernel
theorem dX8_ray_157 : decode cX8_ray 157 = .ok (.iload 12, 2) := by decide +kernel
theorem dX8_ray_159 : decode cX8_ray 159 = .ok (.aload_n 0, 1) := by decide +kernel
theorem dX8_ray_160 : decode cX8_ray 160 = .ok (.getfield 114, 3) := by decide +kernel
theorem dX8_ray_163 : decode cX8_ray 163 = .ok (.iload 12, 2) := by decide +kernel
theorem dX8_ray_165 : decode cX8_ray 165 = .ok (.iconst 1, 1) := by decide +kernel
theorem dX8_ray_166 : decode cX8_ray 166 = .ok (.isub, 1) := by decide +kernel
theorem dX8_ray_167 : decode cX8_ray 167 = .ok (.laload, 1) := by decide +kernel
theorem dX8_ray_168 : decode cX8_ray 168 = .ok (.lastore, 1) := by decide +kernel
theorem dX8_ray_169 : decode cX8_ray 169 = .ok (.aload_n 0, 1) := by decide +kernel
theorem dX8_ray_170 : decode cX8_ray 170 = .ok (.getfield 117, 3) := by decide +kernel
theorem dX8_ray_173 : decode cX8_ray 173 = .ok (.iload 12, 2) := by decide +kernel
theorem dX8_ray_175 : decode cX8_ray 175 = .ok (.aload_n 0, 1) := by decide +kernel
theorem dX8_ray_176 : decode cX8_ray 176 = .ok (.getfield 117, 3) := by decide +kernel
theorem dX8_ray_179 : decode cX8_ray 179 = .ok (.iload 12, 2) := by decide +kernel
theorem dX8_ray_181 : decode cX8_ray 181 = .ok (.iconst 1, 1) := by decide +kernel
theorem dX8_ray_182 : decode cX8_ray 182 = .ok (.isub, 1) := by decide +kernel
theorem dX8_ray_183 : decode cX8_ray 183 = .ok (.laload, 1) := by decide +kernel
theorem dX8_ray_184 : decode cX8_ray 184 = .ok (.lastore, 1) := by decide +kernel
theorem dX8_ray_185 : decode cX8_ray 185 = .ok (.iinc 12 (-1), 3) := by decide +kernel
theorem dX8_ray_188 : decode cX8_ray 188 = .ok (.goto (-84), 3) := by decide +kernel
theorem dX8_ray_191 : decode cX8_ray 191 = .ok (.aload_n 0, 1) := by decide +kernel
theorem dX8_ray_192 : decode cX8_ray 192 = .ok (.getfield 111, 3) := by decide +kernel
theorem dX8_ray_195 : decode cX8_ray 195 = .ok (.iload 12, 2) := by decide +kernel
theorem dX8_ray_197 : decode cX8_ray 197 = .ok (.iload 5, 2) := by decide +kernel
theorem dX8_ray_199 : decode cX8_ray 199 = .ok (.iastore, 1) := by decide +kernel
theorem dX8_ray_200 : decode cX8_ray 200 = .ok (.aload_n 0, 1) := by decide +kernel
theorem dX8_ray_201 : decode cX8_ray 201 = .ok (.getfield 114, 3) := by decide +kernel
theorem dX8_ray_204 : decode cX8_ray 204 = .ok (.iload 12, 2) := by decide +kernel
theorem dX8_ray_206 : decode cX8_ray 206 = .ok (.lload 8, 2) := by decide +kernel
theorem dX8_ray_208 : decode cX8_ray 208 = .ok (.lastore, 1) := by decide +kernel
theorem dX8_ray_209 : decode cX8_ray 209 = .ok (.aload_n 0, 1) := by decide +kernel
theorem dX8_ray_210 : decode cX8_ray 210 = .ok (.getfield 117, 3) := by decide +kernel
theorem dX8_ray_213 : decode cX8_ray 213 = .ok (.iload 12, 2) := by decide +kernel
theorem dX8_ray_215 : decode cX8_ray 215 = .ok (.lload 10, 2) := by decide +kernel
theorem dX8_ray_217 : decode cX8_ray 217 = .ok (.lastore, 1) := by decide +kernel
theorem dX8_ray_218 : decode cX8_ray 218 = .ok (.aload_n 0, 1) := by decide +kernel
theorem dX8_ray_219 : decode cX8_ray 219 = .ok (.dup, 1) := by decide +kernel
theorem dX8_ray_220 : decode cX8_ray 220 = .ok (.getfield 255, 3) := by decide +kernel
theorem dX8_ray_223 : decode cX8_ray 223 = .ok (.iconst 1, 1) := by decide +kernel
theorem dX8_ray_224 : decode cX8_ray 224 = .ok (.iadd, 1) := by decide +kernel
theorem dX8_ray_225 : decode cX8_ray 225 = .ok (.putfield 255, 3) := by decide +kernel
theorem dX8_ray_228 : decode cX8_ray 228 = .ok (.iinc 5 1, 3) := by decide +kernel
theorem dX8_ray_231 : decode cX8_ray 231 = .ok (.goto (-190), 3) := by decide +kernel
theorem dX8_ray_234 : decode cX8_ray 234 = .ok (.aload_n 0, 1) := by decide +kernel
theorem dX8_ray_235 : decode cX8_ray 235 = .ok (.getfield 255, 3) := by decide +kernel
theorem dX8_ray_238 : decode cX8_ray 238 = .ok (.ireturn, 1) := by decide +kernel
theorem dX8_met_0 : decode cX8_met 0 = .ok (.aload_n 0, 1) := by decide +kernel
theorem dX8_met_1 : decode cX8_met 1 = .ok (.iconst 0, 1) := by decide +kernel
theorem dX8_met_2 : decode cX8_met 2 = .ok (.putfield 123, 3) := by decide +kernel
theorem dX8_met_5 : decode cX8_met 5 = .ok (.iload_n 1, 1) := by decide +kernel
theorem dX8_met_6 : decode cX8_met 6 = .ok (.ifCond .lt 11, 3) := by decide +kernel
theorem dX8_met_9 : decode cX8_met 9 = .ok (.iload_n 1, 1) := by decide +kernel
theorem dX8_met_10 : decode cX8_met 10 = .ok (.aload_n 0, 1) := by decide +kernel
theorem dX8_met_11 : decode cX8_met 11 = .ok (.getfield 255, 3) := by decide +kernel
theorem dX8_met_14 : decode cX8_met 14 = .ok (.if_icmp .lt 5, 3) := by decide +kernel
theorem dX8_met_17 : decode cX8_met 17 = .ok (.iconst (-1), 1) := by decide +kernel
theorem dX8_met_18 : decode cX8_met 18 = .ok (.ireturn, 1) := by decide +kernel
theorem dX8_met_19 : decode cX8_met 19 = .ok (.iload_n 2, 1) := by decide +kernel
theorem dX8_met_20 : decode cX8_met 20 = .ok (.ifCond .ne 12, 3) := by decide +kernel
theorem dX8_met_23 : decode cX8_met 23 = .ok (.aload_n 0, 1) := by decide +kernel
theorem dX8_met_24 : decode cX8_met 24 = .ok (.getfield 111, 3) := by decide +kernel
theorem dX8_met_27 : decode cX8_met 27 = .ok (.iload_n 1, 1) := by decide +kernel
theorem dX8_met_28 : decode cX8_met 28 = .ok (.iaload, 1) := by decide +kernel
theorem dX8_met_29 : decode cX8_met 29 = .ok (.goto 34, 3) := by decide +kernel
theorem dX8_met_32 : decode cX8_met 32 = .ok (.iload_n 2, 1) := by decide +kernel
theorem dX8_met_33 : decode cX8_met 33 = .ok (.iconst 1, 1) := by decide +kernel
theorem dX8_met_34 : decode cX8_met 34 = .ok (.if_icmp .ne 13, 3) := by decide +kernel
theorem dX8_met_37 : decode cX8_met 37 = .ok (.aload_n 0, 1) := by decide +kernel
theorem dX8_met_38 : decode cX8_met 38 = .ok (.getfield 114, 3) := by decide +kernel
theorem dX8_met_41 : decode cX8_met 41 = .ok (.iload_n 1, 1) := by decide +kernel
theorem dX8_met_42 : decode cX8_met 42 = .ok (.laload, 1) := by decide +kernel
theorem dX8_met_43 : decode cX8_met 43 = .ok (.l2i, 1) := by decide +kernel
theorem dX8_met_44 : decode cX8_met 44 = .ok (.goto 19, 3) := by decide +kernel
theorem dX8_met_47 : decode cX8_met 47 = .ok (.iload_n 2, 1) := by decide +kernel
theorem dX8_met_48 : decode cX8_met 48 = .ok (.iconst 2, 1) := by decide +kernel
theorem dX8_met_49 : decode cX8_met 49 = .ok (.if_icmp .ne 13, 3) := by decide +kernel
theorem dX8_met_52 : decode cX8_met 52 = .ok (.aload_n 0, 1) := by decide +kernel
theorem dX8_met_53 : decode cX8_met 53 = .ok (.getfield 117, 3) := by decide +kernel
theorem dX8_met_56 : decode cX8_met 56 = .ok (.iload_n 1, 1) := by decide +kernel
theorem dX8_met_57 : decode cX8_met 57 = .ok (.laload, 1) := by decide +kernel
theorem dX8_met_58 : decode cX8_met 58 = .ok (.l2i, 1) := by decide +kernel
theorem dX8_met_59 : decode cX8_met 59 = .ok (.goto 4, 3) := by decide +kernel
theorem dX8_met_62 : decode cX8_met 62 = .ok (.iconst (-1), 1) := by decide +kernel
theorem dX8_met_63 : decode cX8_met 63 = .ok (.ireturn, 1) := by decide +kernel
theorem dX8_digit_0 : decode cX8_digit 0 = .ok (.iload_n 0, 1) := by decide +kernel
theorem dX8_digit_1 : decode cX8_digit 1 = .ok (.istore_n 2, 1) := by decide +kernel
theorem dX8_digit_2 : decode cX8_digit 2 = .ok (.iconst 0, 1) := by decide +kernel
theorem dX8_digit_3 : decode cX8_digit 3 = .ok (.istore_n 3, 1) := by decide +kernel
theorem dX8_digit_4 : decode cX8_digit 4 = .ok (.iload_n 3, 1) := by decide +kernel
theorem dX8_digit_5 : decode cX8_digit 5 = .ok (.iload_n 1, 1) := by decide +kernel
theorem dX8_digit_6 : decode cX8_digit 6 = .ok (.if_icmp .ge 13, 3) := by decide +kernel
theorem dX8_digit_9 : decode cX8_digit 9 = .ok (.iload_n 2, 1) := by decide +kernel
theorem dX8_digit_10 : decode cX8_digit 10 = .ok (.iconst 3, 1) := by decide +kernel
theorem dX8_digit_11 : decode cX8_digit 11 = .ok (.idiv, 1) := by decide +kernel
theorem dX8_digit_12 : decode cX8_digit 12 = .ok (.istore_n 2, 1) := by decide +kernel
theorem dX8_digit_13 : decode cX8_digit 13 = .ok (.iinc 3 1, 3) := by decide +kernel
theorem dX8_digit_16 : decode cX8_digit 16 = .ok (.goto (-12), 3) := by decide +kernel
theorem dX8_digit_19 : decode cX8_digit 19 = .ok (.iload_n 2, 1) := by decide +kernel
theorem dX8_digit_20 : decode cX8_digit 20 = .ok (.iconst 3, 1) := by decide +kernel
theorem dX8_digit_21 : decode cX8_digit 21 = .ok (.irem, 1) := by decide +kernel
theorem dX8_digit_22 : decode cX8_digit 22 = .ok (.ireturn, 1) := by decide +kernel
theorem dX8_isIn_0 : decode cX8_isIn 0 = .ok (.aload_n 0, 1) := by decide +kernel
theorem dX8_isIn_1 : decode cX8_isIn 1 = .ok (.lconst 0, 1) := by decide +kernel
theorem dX8_isIn_2 : decode cX8_isIn 2 = .ok (.putfield 261, 3) := by decide +kernel
theorem dX8_isIn_5 : decode cX8_isIn 5 = .ok (.aload_n 0, 1) := by decide +kernel
theorem dX8_isIn_6 : decode cX8_isIn 6 = .ok (.lconst 1, 1) := by decide +kernel
theorem dX8_isIn_7 : decode cX8_isIn 7 = .ok (.putfield 264, 3) := by decide +kernel
theorem dX8_isIn_10 : decode cX8_isIn 10 = .ok (.aload_n 0, 1) := by decide +kernel
theorem dX8_isIn_11 : decode cX8_isIn 11 = .ok (.lconst 1, 1) := by decide +kernel
theorem dX8_isIn_12 : decode cX8_isIn 12 = .ok (.putfield 267, 3) := by decide +kernel
theorem dX8_isIn_15 : decode cX8_isIn 15 = .ok (.aload_n 0, 1) := by decide +kernel
theorem dX8_isIn_16 : decode cX8_isIn 16 = .ok (.lconst 1, 1) := by decide +kernel
theorem dX8_isIn_17 : decode cX8_isIn 17 = .ok (.putfield 270, 3) := by decide +kernel
theorem dX8_isIn_20 : decode cX8_isIn 20 = .ok (.iconst 0, 1) := by decide +kernel
theorem dX8_isIn_21 : decode cX8_isIn 21 = .ok (.istore_n 3, 1) := by decide +kernel
theorem dX8_isIn_22 : decode cX8_isIn 22 = .ok (.iload_n 3, 1) := by decide +kernel
theorem dX8_isIn_23 : decode cX8_isIn 23 = .ok (.aload_n 0, 1) := by decide +kernel
theorem dX8_isIn_24 : decode cX8_isIn 24 = .ok (.getfield 127, 3) := by decide +kernel
theorem dX8_isIn_27 : decode cX8_isIn 27 = .ok (.if_icmp .ge 172, 3) := by decide +kernel
theorem dX8_isIn_30 : decode cX8_isIn 30 = .ok (.iload_n 2, 1) := by decide +kernel
theorem dX8_isIn_31 : decode cX8_isIn 31 = .ok (.iload_n 3, 1) := by decide +kernel
theorem dX8_isIn_32 : decode cX8_isIn 32 = .ok (.invokestatic 273, 3) := by decide +kernel
theorem dX8_isIn_35 : decode cX8_isIn 35 = .ok (.istore 4, 2) := by decide +kernel
theorem dX8_isIn_37 : decode cX8_isIn 37 = .ok (.iload 4, 2) := by decide +kernel
theorem dX8_isIn_39 : decode cX8_isIn 39 = .ok (.ifCond .ne 6, 3) := by decide +kernel
theorem dX8_isIn_42 : decode cX8_isIn 42 = .ok (.goto 151, 3) := by decide +kernel
theorem dX8_isIn_45 : decode cX8_isIn 45 = .ok (.aload_n 0, 1) := by decide +kernel
theorem dX8_isIn_46 : decode cX8_isIn 46 = .ok (.iload_n 3, 1) := by decide +kernel
theorem dX8_isIn_47 : decode cX8_isIn 47 = .ok (.iload_n 1, 1) := by decide +kernel
theorem dX8_isIn_48 : decode cX8_isIn 48 = .ok (.aload_n 0, 1) := by decide +kernel
theorem dX8_isIn_49 : decode cX8_isIn 49 = .ok (.getfield 261, 3) := by decide +kernel
theorem dX8_isIn_52 : decode cX8_isIn 52 = .ok (.aload_n 0, 1) := by decide +kernel
theorem dX8_isIn_53 : decode cX8_isIn 53 = .ok (.getfield 264, 3) := by decide +kernel
theorem dX8_isIn_56 : decode cX8_isIn 56 = .ok (.aload_n 0, 1) := by decide +kernel
theorem dX8_isIn_57 : decode cX8_isIn 57 = .ok (.getfield 267, 3) := by decide +kernel
theorem dX8_isIn_60 : decode cX8_isIn 60 = .ok (.aload_n 0, 1) := by decide +kernel
theorem dX8_isIn_61 : decode cX8_isIn 61 = .ok (.getfield 270, 3) := by decide +kernel
theorem dX8_isIn_64 : decode cX8_isIn 64 = .ok (.invokevirtual 165, 3) := by decide +kernel
theorem dX8_isIn_67 : decode cX8_isIn 67 = .ok (.istore 5, 2) := by decide +kernel
theorem dX8_isIn_69 : decode cX8_isIn 69 = .ok (.iload 5, 2) := by decide +kernel
theorem dX8_isIn_71 : decode cX8_isIn 71 = .ok (.ifCond .eq 12, 3) := by decide +kernel
theorem dX8_isIn_74 : decode cX8_isIn 74 = .ok (.iload 5, 2) := by decide +kernel
theorem dX8_isIn_76 : decode cX8_isIn 76 = .ok (.iconst 3, 1) := by decide +kernel
theorem dX8_isIn_77 : decode cX8_isIn 77 = .ok (.iload 4, 2) := by decide +kernel
theorem dX8_isIn_79 : decode cX8_isIn 79 = .ok (.isub, 1) := by decide +kernel
theorem dX8_isIn_80 : decode cX8_isIn 80 = .ok (.if_icmp .ne 5, 3) := by decide +kernel
theorem dX8_isIn_83 : decode cX8_isIn 83 = .ok (.iconst 0, 1) := by decide +kernel
theorem dX8_isIn_84 : decode cX8_isIn 84 = .ok (.ireturn, 1) := by decide +kernel
theorem dX8_isIn_85 : decode cX8_isIn 85 = .ok (.iload 5, 2) := by decide +kernel
theorem dX8_isIn_87 : decode cX8_isIn 87 = .ok (.iconst 3, 1) := by decide +kernel
theorem dX8_isIn_88 : decode cX8_isIn 88 = .ok (.if_icmp .ge 6, 3) := by decide +kernel
theorem dX8_isIn_91 : decode cX8_isIn 91 = .ok (.goto 102, 3) := by decide +kernel
theorem dX8_isIn_94 : decode cX8_isIn 94 = .ok (.aload_n 0, 1) := by decide +kernel
theorem dX8_isIn_95 : decode cX8_isIn 95 = .ok (.iload_n 3, 1) := by decide +kernel
theorem dX8_isIn_96 : decode cX8_isIn 96 = .ok (.aload_n 0, 1) := by decide +kernel
theorem dX8_isIn_97 : decode cX8_isIn 97 = .ok (.getfield 7, 3) := by decide +kernel
theorem dX8_isIn_100 : decode cX8_isIn 100 = .ok (.iload_n 1, 1) := by decide +kernel
theorem dX8_isIn_101 : decode cX8_isIn 101 = .ok (.iaload, 1) := by decide +kernel
theorem dX8_isIn_102 : decode cX8_isIn 102 = .ok (.i2l, 1) := by decide +kernel
theorem dX8_isIn_103 : decode cX8_isIn 103 = .ok (.aload_n 0, 1) := by decide +kernel
theorem dX8_isIn_104 : decode cX8_isIn 104 = .ok (.getfield 13, 3) := by decide +kernel
theorem dX8_isIn_107 : decode cX8_isIn 107 = .ok (.iload_n 1, 1) := by decide +kernel
theorem dX8_isIn_108 : decode cX8_isIn 108 = .ok (.iaload, 1) := by decide +kernel
theorem dX8_isIn_109 : decode cX8_isIn 109 = .ok (.i2l, 1) := by decide +kernel
theorem dX8_isIn_110 : decode cX8_isIn 110 = .ok (.invokevirtual 153, 3) := by decide +kernel
theorem dX8_isIn_113 : decode cX8_isIn 113 = .ok (.lneg, 1) := by decide +kernel
theorem dX8_isIn_114 : decode cX8_isIn 114 = .ok (.lstore 6, 2) := by decide +kernel
theorem dX8_isIn_116 : decode cX8_isIn 116 = .ok (.aload_n 0, 1) := by decide +kernel
theorem dX8_isIn_117 : decode cX8_isIn 117 = .ok (.iload_n 3, 1) := by decide +kernel
theorem dX8_isIn_118 : decode cX8_isIn 118 = .ok (.iload_n 1, 1) := by decide +kernel
theorem dX8_isIn_119 : decode cX8_isIn 119 = .ok (.invokevirtual 157, 3) := by decide +kernel
theorem dX8_isIn_122 : decode cX8_isIn 122 = .ok (.lstore 8, 2) := by decide +kernel
theorem dX8_isIn_124 : decode cX8_isIn 124 = .ok (.lload 8, 2) := by decide +kernel
theorem dX8_isIn_126 : decode cX8_isIn 126 = .ok (.lconst 0, 1) := by decide +kernel
theorem dX8_isIn_127 : decode cX8_isIn 127 = .ok (.lcmp, 1) := by decide +kernel
theorem dX8_isIn_128 : decode cX8_isIn 128 = .ok (.ifCond .ge 13, 3) := by decide +kernel
theorem dX8_isIn_131 : decode cX8_isIn 131 = .ok (.lload 6, 2) := by decide +kernel
theorem dX8_isIn_133 : decode cX8_isIn 133 = .ok (.lneg, 1) := by decide +kernel
theorem dX8_isIn_134 : decode cX8_isIn 134 = .ok (.lstore 6, 2) := by decide +kernel
theorem dX8_isIn_136 : decode cX8_isIn 136 = .ok (.lload 8, 2) := by decide +kernel
theorem dX8_isIn_138 : decode cX8_isIn 138 = .ok (.lneg, 1) := by decide +kernel
theorem dX8_isIn_139 : decode cX8_isIn 139 = .ok (.lstore 8, 2) := by decide +kernel
theorem dX8_isIn_141 : decode cX8_isIn 141 = .ok (.iload 5, 2) := by decide +kernel
theorem dX8_isIn_143 : decode cX8_isIn 143 = .ok (.iconst 3, 1) := by decide +kernel
theorem dX8_isIn_144 : decode cX8_isIn 144 = .ok (.if_icmp .ne 7, 3) := by decide +kernel
theorem dX8_isIn_147 : decode cX8_isIn 147 = .ok (.iconst 1, 1) := by decide +kernel
theorem dX8_isIn_148 : decode cX8_isIn 148 = .ok (.goto 4, 3) := by decide +kernel
theorem dX8_isIn_151 : decode cX8_isIn 151 = .ok (.iconst 0, 1) := by decide +kernel
theorem dX8_isIn_152 : decode cX8_isIn 152 = .ok (.iload 4, 2) := by decide +kernel
theorem dX8_isIn_154 : decode cX8_isIn 154 = .ok (.iconst 1, 1) := by decide +kernel
theorem dX8_isIn_155 : decode cX8_isIn 155 = .ok (.if_icmp .ne 7, 3) := by decide +kernel
theorem dX8_isIn_158 : decode cX8_isIn 158 = .ok (.iconst 1, 1) := by decide +kernel
theorem dX8_isIn_159 : decode cX8_isIn 159 = .ok (.goto 4, 3) := by decide +kernel
theorem dX8_isIn_162 : decode cX8_isIn 162 = .ok (.iconst 0, 1) := by decide +kernel
theorem dX8_isIn_163 : decode cX8_isIn 163 = .ok (.if_icmp .ne 18, 3) := by decide +kernel
theorem dX8_isIn_166 : decode cX8_isIn 166 = .ok (.aload_n 0, 1) := by decide +kernel
theorem dX8_isIn_167 : decode cX8_isIn 167 = .ok (.lload 6, 2) := by decide +kernel
theorem dX8_isIn_169 : decode cX8_isIn 169 = .ok (.putfield 267, 3) := by decide +kernel
theorem dX8_isIn_172 : decode cX8_isIn 172 = .ok (.aload_n 0, 1) := by decide +kernel
theorem dX8_isIn_173 : decode cX8_isIn 173 = .ok (.lload 8, 2) := by decide +kernel
theorem dX8_isIn_175 : decode cX8_isIn 175 = .ok (.putfield 270, 3) := by decide +kernel
theorem dX8_isIn_178 : decode cX8_isIn 178 = .ok (.goto 15, 3) := by decide +kernel
theorem dX8_isIn_181 : decode cX8_isIn 181 = .ok (.aload_n 0, 1) := by decide +kernel
theorem dX8_isIn_182 : decode cX8_isIn 182 = .ok (.lload 6, 2) := by decide +kernel
theorem dX8_isIn_184 : decode cX8_isIn 184 = .ok (.putfield 261, 3) := by decide +kernel
theorem dX8_isIn_187 : decode cX8_isIn 187 = .ok (.aload_n 0, 1) := by decide +kernel
theorem dX8_isIn_188 : decode cX8_isIn 188 = .ok (.lload 8, 2) := by decide +kernel
theorem dX8_isIn_190 : decode cX8_isIn 190 = .ok (.putfield 264, 3) := by decide +kernel
theorem dX8_isIn_193 : decode cX8_isIn 193 = .ok (.iinc 3 1, 3) := by decide +kernel
theorem dX8_isIn_196 : decode cX8_isIn 196 = .ok (.goto (-174), 3) := by decide +kernel
theorem dX8_isIn_199 : decode cX8_isIn 199 = .ok (.iconst 1, 1) := by decide +kernel
theorem dX8_isIn_200 : decode cX8_isIn 200 = .ok (.ireturn, 1) := by decide +kernel
theorem dX8_least_0 : decode cX8_least 0 = .ok (.aload_n 0, 1) := by decide +kernel
theorem dX8_least_1 : decode cX8_least 1 = .ok (.iconst 0, 1) := by decide +kernel
theorem dX8_least_2 : decode cX8_least 2 = .ok (.putfield 123, 3) := by decide +kernel
theorem dX8_least_5 : decode cX8_least 5 = .ok (.aload_n 0, 1) := by decide +kernel
theorem dX8_least_6 : decode cX8_least 6 = .ok (.getfield 127, 3) := by decide +kernel
theorem dX8_least_9 : decode cX8_least 9 = .ok (.iconst 5, 1) := by decide +kernel
theorem dX8_least_10 : decode cX8_least 10 = .ok (.if_icmp .le 5, 3) := by decide +kernel
theorem dX8_least_13 : decode cX8_least 13 = .ok (.iconst (-1), 1) := by decide +kernel
theorem dX8_least_14 : decode cX8_least 14 = .ok (.ireturn, 1) := by decide +kernel
theorem dX8_least_15 : decode cX8_least 15 = .ok (.iconst 1, 1) := by decide +kernel
theorem dX8_least_16 : decode cX8_least 16 = .ok (.istore_n 1, 1) := by decide +kernel
theorem dX8_least_17 : decode cX8_least 17 = .ok (.iconst 0, 1) := by decide +kernel
theorem dX8_least_18 : decode cX8_least 18 = .ok (.istore_n 2, 1) := by decide +kernel
theorem dX8_least_19 : decode cX8_least 19 = .ok (.iload_n 2, 1) := by decide +kernel
theorem dX8_least_20 : decode cX8_least 20 = .ok (.aload_n 0, 1) := by decide +kernel
theorem dX8_least_21 : decode cX8_least 21 = .ok (.getfield 127, 3) := by decide +kernel
theorem dX8_least_24 : decode cX8_least 24 = .ok (.if_icmp .ge 13, 3) := by decide +kernel
theorem dX8_least_27 : decode cX8_least 27 = .ok (.iload_n 1, 1) := by decide +kernel
theorem dX8_least_28 : decode cX8_least 28 = .ok (.iconst 3, 1) := by decide +kernel
theorem dX8_least_29 : decode cX8_least 29 = .ok (.imul, 1) := by decide +kernel
theorem dX8_least_30 : decode cX8_least 30 = .ok (.istore_n 1, 1) := by decide +kernel
theorem dX8_least_31 : decode cX8_least 31 = .ok (.iinc 2 1, 3) := by decide +kernel
theorem dX8_least_34 : decode cX8_least 34 = .ok (.goto (-15), 3) := by decide +kernel
theorem dX8_least_37 : decode cX8_least 37 = .ok (.iload_n 1, 1) := by decide +kernel
theorem dX8_least_38 : decode cX8_least 38 = .ok (.iconst 1, 1) := by decide +kernel
theorem dX8_least_39 : decode cX8_least 39 = .ok (.isub, 1) := by decide +kernel
theorem dX8_least_40 : decode cX8_least 40 = .ok (.istore_n 2, 1) := by decide +kernel
theorem dX8_least_41 : decode cX8_least 41 = .ok (.iload_n 2, 1) := by decide +kernel
theorem dX8_least_42 : decode cX8_least 42 = .ok (.ifCond .lt 169, 3) := by decide +kernel
theorem dX8_least_45 : decode cX8_least 45 = .ok (.iconst 0, 1) := by decide +kernel
theorem dX8_least_46 : decode cX8_least 46 = .ok (.istore_n 3, 1) := by decide +kernel
theorem dX8_least_47 : decode cX8_least 47 = .ok (.iconst 1, 1) := by decide +kernel
theorem dX8_least_48 : decode cX8_least 48 = .ok (.istore 4, 2) := by decide +kernel
theorem dX8_least_50 : decode cX8_least 50 = .ok (.iconst 0, 1) := by decide +kernel
theorem dX8_least_51 : decode cX8_least 51 = .ok (.istore 5, 2) := by decide +kernel
theorem dX8_least_53 : decode cX8_least 53 = .ok (.iload 5, 2) := by decide +kernel
theorem dX8_least_55 : decode cX8_least 55 = .ok (.aload_n 0, 1) := by decide +kernel
theorem dX8_least_56 : decode cX8_least 56 = .ok (.getfield 127, 3) := by decide +kernel
theorem dX8_least_59 : decode cX8_least 59 = .ok (.if_icmp .ge 139, 3) := by decide +kernel
theorem dX8_least_62 : decode cX8_least 62 = .ok (.iload_n 2, 1) := by decide +kernel
theorem dX8_least_63 : decode cX8_least 63 = .ok (.iload 5, 2) := by decide +kernel
theorem dX8_least_65 : decode cX8_least 65 = .ok (.invokestatic 273, 3) := by decide +kernel
theorem dX8_least_68 : decode cX8_least 68 = .ok (.ifCond .ne 118, 3) := by decide +kernel
theorem dX8_least_71 : decode cX8_least 71 = .ok (.aload_n 0, 1) := by decide +kernel
theorem dX8_least_72 : decode cX8_least 72 = .ok (.iload 5, 2) := by decide +kernel
theorem dX8_least_74 : decode cX8_least 74 = .ok (.iload_n 2, 1) := by decide +kernel
theorem dX8_least_75 : decode cX8_least 75 = .ok (.invokevirtual 276, 3) := by decide +kernel
theorem dX8_least_78 : decode cX8_least 78 = .ok (.ifCond .eq 108, 3) := by decide +kernel
theorem dX8_least_81 : decode cX8_least 81 = .ok (.aload_n 0, 1) := by decide +kernel
theorem dX8_least_82 : decode cX8_least 82 = .ok (.getfield 120, 3) := by decide +kernel
theorem dX8_least_85 : decode cX8_least 85 = .ok (.iload_n 2, 1) := by decide +kernel
theorem dX8_least_86 : decode cX8_least 86 = .ok (.iload 4, 2) := by decide +kernel
theorem dX8_least_88 : decode cX8_least 88 = .ok (.iadd, 1) := by decide +kernel
theorem dX8_least_89 : decode cX8_least 89 = .ok (.iaload, 1) := by decide +kernel
theorem dX8_least_90 : decode cX8_least 90 = .ok (.aload_n 0, 1) := by decide +kernel
theorem dX8_least_91 : decode cX8_least 91 = .ok (.getfield 120, 3) := by decide +kernel
theorem dX8_least_94 : decode cX8_least 94 = .ok (.iload_n 2, 1) := by decide +kernel
theorem dX8_least_95 : decode cX8_least 95 = .ok (.iconst 2, 1) := by decide +kernel
theorem dX8_least_96 : decode cX8_least 96 = .ok (.iload 4, 2) := by decide +kernel
theorem dX8_least_98 : decode cX8_least 98 = .ok (.imul, 1) := by decide +kernel
theorem dX8_least_99 : decode cX8_least 99 = .ok (.iadd, 1) := by decide +kernel
theorem dX8_least_100 : decode cX8_least 100 = .ok (.iaload, 1) := by decide +kernel
theorem dX8_least_101 : decode cX8_least 101 = .ok (.iadd, 1) := by decide +kernel
theorem dX8_least_102 : decode cX8_least 102 = .ok (.istore 6, 2) := by decide +kernel
theorem dX8_least_104 : decode cX8_least 104 = .ok (.iconst 0, 1) := by decide +kernel
theorem dX8_least_105 : decode cX8_least 105 = .ok (.istore 7, 2) := by decide +kernel
theorem dX8_least_107 : decode cX8_least 107 = .ok (.iload 7, 2) := by decide +kernel
theorem dX8_least_109 : decode cX8_least 109 = .ok (.aload_n 0, 1) := by decide +kernel
theorem dX8_least_110 : decode cX8_least 110 = .ok (.getfield 127, 3) := by decide +kernel
theorem dX8_least_113 : decode cX8_least 113 = .ok (.if_icmp .ge 56, 3) := by decide +kernel
theorem dX8_least_116 : decode cX8_least 116 = .ok (.iload 6, 2) := by decide +kernel
theorem dX8_least_118 : decode cX8_least 118 = .ok (.aload_n 0, 1) := by decide +kernel
theorem dX8_least_119 : decode cX8_least 119 = .ok (.iload 7, 2) := by decide +kernel
theorem dX8_least_121 : decode cX8_least 121 = .ok (.iload_n 2, 1) := by decide +kernel
theorem dX8_least_122 : decode cX8_least 122 = .ok (.invokevirtual 276, 3) := by decide +kernel
theorem dX8_least_125 : decode cX8_least 125 = .ok (.ifCond .eq 34, 3) := by decide +kernel
theorem dX8_least_128 : decode cX8_least 128 = .ok (.aload_n 0, 1) := by decide +kernel
theorem dX8_least_129 : decode cX8_least 129 = .ok (.iload 5, 2) := by decide +kernel
theorem dX8_least_131 : decode cX8_least 131 = .ok (.iload 7, 2) := by decide +kernel
theorem dX8_least_133 : decode cX8_least 133 = .ok (.aload_n 0, 1) := by decide +kernel
theorem dX8_least_134 : decode cX8_least 134 = .ok (.getfield 261, 3) := by decide +kernel
theorem dX8_least_137 : decode cX8_least 137 = .ok (.aload_n 0, 1) := by decide +kernel
theorem dX8_least_138 : decode cX8_least 138 = .ok (.getfield 264, 3) := by decide +kernel
theorem dX8_least_141 : decode cX8_least 141 = .ok (.aload_n 0, 1) := by decide +kernel
theorem dX8_least_142 : decode cX8_least 142 = .ok (.getfield 267, 3) := by decide +kernel
theorem dX8_least_145 : decode cX8_least 145 = .ok (.aload_n 0, 1) := by decide +kernel
theorem dX8_least_146 : decode cX8_least 146 = .ok (.getfield 270, 3) := by decide +kernel
theorem dX8_least_149 : decode cX8_least 149 = .ok (.invokevirtual 165, 3) := by decide +kernel
theorem dX8_least_152 : decode cX8_least 152 = .ok (.ifCond .ne 7, 3) := by decide +kernel
theorem dX8_least_155 : decode cX8_least 155 = .ok (.iconst 1, 1) := by decide +kernel
theorem dX8_least_156 : decode cX8_least 156 = .ok (.goto 4, 3) := by decide +kernel
theorem dX8_least_159 : decode cX8_least 159 = .ok (.iconst 0, 1) := by decide +kernel
theorem dX8_least_160 : decode cX8_least 160 = .ok (.iadd, 1) := by decide +kernel
theorem dX8_least_161 : decode cX8_least 161 = .ok (.istore 6, 2) := by decide +kernel
theorem dX8_least_163 : decode cX8_least 163 = .ok (.iinc 7 1, 3) := by decide +kernel
theorem dX8_least_166 : decode cX8_least 166 = .ok (.goto (-59), 3) := by decide +kernel
theorem dX8_least_169 : decode cX8_least 169 = .ok (.iload_n 3, 1) := by decide +kernel
theorem dX8_least_170 : decode cX8_least 170 = .ok (.ifCond .eq 9, 3) := by decide +kernel
theorem dX8_least_173 : decode cX8_least 173 = .ok (.iload 6, 2) := by decide +kernel
theorem dX8_least_175 : decode cX8_least 175 = .ok (.iload_n 3, 1) := by decide +kernel
theorem dX8_least_176 : decode cX8_least 176 = .ok (.if_icmp .ge 8, 3) := by decide +kernel
theorem dX8_least_179 : decode cX8_least 179 = .ok (.iload 6, 2) := by decide +kernel
theorem dX8_least_181 : decode cX8_least 181 = .ok (.goto 4, 3) := by decide +kernel
theorem dX8_least_184 : decode cX8_least 184 = .ok (.iload_n 3, 1) := by decide +kernel
theorem dX8_least_185 : decode cX8_least 185 = .ok (.istore_n 3, 1) := by decide +kernel
theorem dX8_least_186 : decode cX8_least 186 = .ok (.iload 4, 2) := by decide +kernel
theorem dX8_least_188 : decode cX8_least 188 = .ok (.iconst 3, 1) := by decide +kernel
theorem dX8_least_189 : decode cX8_least 189 = .ok (.imul, 1) := by decide +kernel
theorem dX8_least_190 : decode cX8_least 190 = .ok (.istore 4, 2) := by decide +kernel
theorem dX8_least_192 : decode cX8_least 192 = .ok (.iinc 5 1, 3) := by decide +kernel
theorem dX8_least_195 : decode cX8_least 195 = .ok (.goto (-142), 3) := by decide +kernel
theorem dX8_least_198 : decode cX8_least 198 = .ok (.aload_n 0, 1) := by decide +kernel
theorem dX8_least_199 : decode cX8_least 199 = .ok (.getfield 120, 3) := by decide +kernel
theorem dX8_least_202 : decode cX8_least 202 = .ok (.iload_n 2, 1) := by decide +kernel
theorem dX8_least_203 : decode cX8_least 203 = .ok (.iload_n 3, 1) := by decide +kernel
theorem dX8_least_204 : decode cX8_least 204 = .ok (.iastore, 1) := by decide +kernel
theorem dX8_least_205 : decode cX8_least 205 = .ok (.iinc 2 (-1), 3) := by decide +kernel
theorem dX8_least_208 : decode cX8_least 208 = .ok (.goto (-167), 3) := by decide +kernel
theorem dX8_least_211 : decode cX8_least 211 = .ok (.aload_n 0, 1) := by decide +kernel
theorem dX8_least_212 : decode cX8_least 212 = .ok (.getfield 120, 3) := by decide +kernel
theorem dX8_least_215 : decode cX8_least 215 = .ok (.iconst 0, 1) := by decide +kernel
theorem dX8_least_216 : decode cX8_least 216 = .ok (.iaload, 1) := by decide +kernel
theorem dX8_least_217 : decode cX8_least 217 = .ok (.ireturn, 1) := by decide +kernel
theorem dX8_sum_0 : decode cX8_sum 0 = .ok (.aload_n 0, 1) := by decide +kernel
theorem dX8_sum_1 : decode cX8_sum 1 = .ok (.iconst 0, 1) := by decide +kernel
theorem dX8_sum_2 : decode cX8_sum 2 = .ok (.putfield 123, 3) := by decide +kernel
theorem dX8_sum_5 : decode cX8_sum 5 = .ok (.aload_n 0, 1) := by decide +kernel
theorem dX8_sum_6 : decode cX8_sum 6 = .ok (.getfield 127, 3) := by decide +kernel
theorem dX8_sum_9 : decode cX8_sum 9 = .ok (.bipush 6, 2) := by decide +kernel
theorem dX8_sum_11 : decode cX8_sum 11 = .ok (.if_icmp .le 5, 3) := by decide +kernel
theorem dX8_sum_14 : decode cX8_sum 14 = .ok (.iconst (-1), 1) := by decide +kernel
theorem dX8_sum_15 : decode cX8_sum 15 = .ok (.ireturn, 1) := by decide +kernel
theorem dX8_sum_16 : decode cX8_sum 16 = .ok (.iconst 0, 1) := by decide +kernel
theorem dX8_sum_17 : decode cX8_sum 17 = .ok (.istore_n 1, 1) := by decide +kernel
theorem dX8_sum_18 : decode cX8_sum 18 = .ok (.iload_n 1, 1) := by decide +kernel
theorem dX8_sum_19 : decode cX8_sum 19 = .ok (.bipush 24, 2) := by decide +kernel
theorem dX8_sum_21 : decode cX8_sum 21 = .ok (.if_icmp .ge 16, 3) := by decide +kernel
theorem dX8_sum_24 : decode cX8_sum 24 = .ok (.aload_n 0, 1) := by decide +kernel
theorem dX8_sum_25 : decode cX8_sum 25 = .ok (.getfield 99, 3) := by decide +kernel
theorem dX8_sum_28 : decode cX8_sum 28 = .ok (.iload_n 1, 1) := by decide +kernel
theorem dX8_sum_29 : decode cX8_sum 29 = .ok (.iload_n 1, 1) := by decide +kernel
theorem dX8_sum_30 : decode cX8_sum 30 = .ok (.iastore, 1) := by decide +kernel
theorem dX8_sum_31 : decode cX8_sum 31 = .ok (.iinc 1 1, 3) := by decide +kernel
theorem dX8_sum_34 : decode cX8_sum 34 = .ok (.goto (-16), 3) := by decide +kernel
theorem dX8_sum_37 : decode cX8_sum 37 = .ok (.iconst 0, 1) := by decide +kernel
theorem dX8_sum_38 : decode cX8_sum 38 = .ok (.istore_n 1, 1) := by decide +kernel
theorem dX8_sum_39 : decode cX8_sum 39 = .ok (.iconst 1, 1) := by decide +kernel
theorem dX8_sum_40 : decode cX8_sum 40 = .ok (.istore_n 2, 1) := by decide +kernel
theorem dX8_sum_41 : decode cX8_sum 41 = .ok (.iload_n 2, 1) := by decide +kernel
theorem dX8_sum_42 : decode cX8_sum 42 = .ok (.ifCond .eq 144, 3) := by decide +kernel
theorem dX8_sum_45 : decode cX8_sum 45 = .ok (.aload_n 0, 1) := by decide +kernel
theorem dX8_sum_46 : decode cX8_sum 46 = .ok (.iconst 0, 1) := by decide +kernel
theorem dX8_sum_47 : decode cX8_sum 47 = .ok (.iconst 0, 1) := by decide +kernel
theorem dX8_sum_48 : decode cX8_sum 48 = .ok (.invokevirtual 209, 3) := by decide +kernel
theorem dX8_sum_51 : decode cX8_sum 51 = .ok (.iload_n 1, 1) := by decide +kernel
theorem dX8_sum_52 : decode cX8_sum 52 = .ok (.aload_n 0, 1) := by decide +kernel
theorem dX8_sum_53 : decode cX8_sum 53 = .ok (.getfield 183, 3) := by decide +kernel
theorem dX8_sum_56 : decode cX8_sum 56 = .ok (.iadd, 1) := by decide +kernel
theorem dX8_sum_57 : decode cX8_sum 57 = .ok (.istore_n 1, 1) := by decide +kernel
theorem dX8_sum_58 : decode cX8_sum 58 = .ok (.aload_n 0, 1) := by decide +kernel
theorem dX8_sum_59 : decode cX8_sum 59 = .ok (.getfield 127, 3) := by decide +kernel
theorem dX8_sum_62 : decode cX8_sum 62 = .ok (.iconst 2, 1) := by decide +kernel
theorem dX8_sum_63 : decode cX8_sum 63 = .ok (.isub, 1) := by decide +kernel
theorem dX8_sum_64 : decode cX8_sum 64 = .ok (.istore_n 3, 1) := by decide +kernel
theorem dX8_sum_65 : decode cX8_sum 65 = .ok (.iload_n 3, 1) := by decide +kernel
theorem dX8_sum_66 : decode cX8_sum 66 = .ok (.ifCond .lt 26, 3) := by decide +kernel
theorem dX8_sum_69 : decode cX8_sum 69 = .ok (.aload_n 0, 1) := by decide +kernel
theorem dX8_sum_70 : decode cX8_sum 70 = .ok (.getfield 99, 3) := by decide +kernel
theorem dX8_sum_73 : decode cX8_sum 73 = .ok (.iload_n 3, 1) := by decide +kernel
theorem dX8_sum_74 : decode cX8_sum 74 = .ok (.iaload, 1) := by decide +kernel
theorem dX8_sum_75 : decode cX8_sum 75 = .ok (.aload_n 0, 1) := by decide +kernel
theorem dX8_sum_76 : decode cX8_sum 76 = .ok (.getfield 99, 3) := by decide +kernel
theorem dX8_sum_79 : decode cX8_sum 79 = .ok (.iload_n 3, 1) := by decide +kernel
theorem dX8_sum_80 : decode cX8_sum 80 = .ok (.iconst 1, 1) := by decide +kernel
theorem dX8_sum_81 : decode cX8_sum 81 = .ok (.iadd, 1) := by decide +kernel
theorem dX8_sum_82 : decode cX8_sum 82 = .ok (.iaload, 1) := by decide +kernel
theorem dX8_sum_83 : decode cX8_sum 83 = .ok (.if_icmp .le 9, 3) := by decide +kernel
theorem dX8_sum_86 : decode cX8_sum 86 = .ok (.iinc 3 (-1), 3) := by decide +kernel
theorem dX8_sum_89 : decode cX8_sum 89 = .ok (.goto (-24), 3) := by decide +kernel
theorem dX8_sum_92 : decode cX8_sum 92 = .ok (.iload_n 3, 1) := by decide +kernel
theorem dX8_sum_93 : decode cX8_sum 93 = .ok (.ifCond .lt 7, 3) := by decide +kernel
theorem dX8_sum_96 : decode cX8_sum 96 = .ok (.iconst 1, 1) := by decide +kernel
theorem dX8_sum_97 : decode cX8_sum 97 = .ok (.goto 4, 3) := by decide +kernel
theorem dX8_sum_100 : decode cX8_sum 100 = .ok (.iconst 0, 1) := by decide +kernel
theorem dX8_sum_101 : decode cX8_sum 101 = .ok (.istore_n 2, 1) := by decide +kernel
theorem dX8_sum_102 : decode cX8_sum 102 = .ok (.iload_n 2, 1) := by decide +kernel
theorem dX8_sum_103 : decode cX8_sum 103 = .ok (.ifCond .ne 6, 3) := by decide +kernel
theorem dX8_sum_106 : decode cX8_sum 106 = .ok (.goto (-65), 3) := by decide +kernel
theorem dX8_sum_109 : decode cX8_sum 109 = .ok (.aload_n 0, 1) := by decide +kernel
theorem dX8_sum_110 : decode cX8_sum 110 = .ok (.getfield 127, 3) := by decide +kernel
theorem dX8_sum_113 : decode cX8_sum 113 = .ok (.iconst 1, 1) := by decide +kernel
theorem dX8_sum_114 : decode cX8_sum 114 = .ok (.isub, 1) := by decide +kernel
theorem dX8_sum_115 : decode cX8_sum 115 = .ok (.istore 4, 2) := by decide +kernel
theorem dX8_sum_117 : decode cX8_sum 117 = .ok (.aload_n 0, 1) := by decide +kernel
theorem dX8_sum_118 : decode cX8_sum 118 = .ok (.getfield 99, 3) := by decide +kernel
theorem dX8_sum_121 : decode cX8_sum 121 = .ok (.iload 4, 2) := by decide +kernel
theorem dX8_sum_123 : decode cX8_sum 123 = .ok (.iaload, 1) := by decide +kernel
theorem dX8_sum_124 : decode cX8_sum 124 = .ok (.aload_n 0, 1) := by decide +kernel
theorem dX8_sum_125 : decode cX8_sum 125 = .ok (.getfield 99, 3) := by decide +kernel
theorem dX8_sum_128 : decode cX8_sum 128 = .ok (.iload_n 3, 1) := by decide +kernel
theorem dX8_sum_129 : decode cX8_sum 129 = .ok (.iaload, 1) := by decide +kernel
theorem dX8_sum_130 : decode cX8_sum 130 = .ok (.if_icmp .ge 9, 3) := by decide +kernel
theorem dX8_sum_133 : decode cX8_sum 133 = .ok (.iinc 4 (-1), 3) := by decide +kernel
theorem dX8_sum_136 : decode cX8_sum 136 = .ok (.goto (-19), 3) := by decide +kernel
theorem dX8_sum_139 : decode cX8_sum 139 = .ok (.aload_n 0, 1) := by decide +kernel
theorem dX8_sum_140 : decode cX8_sum 140 = .ok (.iload 4, 2) := by decide +kernel
theorem dX8_sum_142 : decode cX8_sum 142 = .ok (.iload_n 3, 1) := by decide +kernel
theorem dX8_sum_143 : decode cX8_sum 143 = .ok (.invokevirtual 279, 3) := by decide +kernel
theorem dX8_sum_146 : decode cX8_sum 146 = .ok (.iload_n 3, 1) := by decide +kernel
theorem dX8_sum_147 : decode cX8_sum 147 = .ok (.iconst 1, 1) := by decide +kernel
theorem dX8_sum_148 : decode cX8_sum 148 = .ok (.iadd, 1) := by decide +kernel
theorem dX8_sum_149 : decode cX8_sum 149 = .ok (.istore 4, 2) := by decide +kernel
theorem dX8_sum_151 : decode cX8_sum 151 = .ok (.aload_n 0, 1) := by decide +kernel
theorem dX8_sum_152 : decode cX8_sum 152 = .ok (.getfield 127, 3) := by decide +kernel
theorem dX8_sum_155 : decode cX8_sum 155 = .ok (.iconst 1, 1) := by decide +kernel
theorem dX8_sum_156 : decode cX8_sum 156 = .ok (.isub, 1) := by decide +kernel
theorem dX8_sum_157 : decode cX8_sum 157 = .ok (.istore 5, 2) := by decide +kernel
theorem dX8_sum_159 : decode cX8_sum 159 = .ok (.iload 4, 2) := by decide +kernel
theorem dX8_sum_161 : decode cX8_sum 161 = .ok (.iload 5, 2) := by decide +kernel
theorem dX8_sum_163 : decode cX8_sum 163 = .ok (.if_icmp .ge 20, 3) := by decide +kernel
theorem dX8_sum_166 : decode cX8_sum 166 = .ok (.aload_n 0, 1) := by decide +kernel
theorem dX8_sum_167 : decode cX8_sum 167 = .ok (.iload 4, 2) := by decide +kernel
theorem dX8_sum_169 : decode cX8_sum 169 = .ok (.iload 5, 2) := by decide +kernel
theorem dX8_sum_171 : decode cX8_sum 171 = .ok (.invokevirtual 279, 3) := by decide +kernel
theorem dX8_sum_174 : decode cX8_sum 174 = .ok (.iinc 4 1, 3) := by decide +kernel
theorem dX8_sum_177 : decode cX8_sum 177 = .ok (.iinc 5 (-1), 3) := by decide +kernel
theorem dX8_sum_180 : decode cX8_sum 180 = .ok (.goto (-21), 3) := by decide +kernel
theorem dX8_sum_183 : decode cX8_sum 183 = .ok (.goto (-142), 3) := by decide +kernel
theorem dX8_sum_186 : decode cX8_sum 186 = .ok (.iload_n 1, 1) := by decide +kernel
theorem dX8_sum_187 : decode cX8_sum 187 = .ok (.ireturn, 1) := by decide +kernel
theorem dX8_swap_0 : decode cX8_swap 0 = .ok (.aload_n 0, 1) := by decide +kernel
theorem dX8_swap_1 : decode cX8_swap 1 = .ok (.getfield 99, 3) := by decide +kernel
theorem dX8_swap_4 : decode cX8_swap 4 = .ok (.iload_n 1, 1) := by decide +kernel
theorem dX8_swap_5 : decode cX8_swap 5 = .ok (.iaload, 1) := by decide +kernel
theorem dX8_swap_6 : decode cX8_swap 6 = .ok (.istore_n 3, 1) := by decide +kernel
theorem dX8_swap_7 : decode cX8_swap 7 = .ok (.aload_n 0, 1) := by decide +kernel
theorem dX8_swap_8 : decode cX8_swap 8 = .ok (.getfield 99, 3) := by decide +kernel
theorem dX8_swap_11 : decode cX8_swap 11 = .ok (.iload_n 1, 1) := by decide +kernel
theorem dX8_swap_12 : decode cX8_swap 12 = .ok (.aload_n 0, 1) := by decide +kernel
theorem dX8_swap_13 : decode cX8_swap 13 = .ok (.getfield 99, 3) := by decide +kernel
theorem dX8_swap_16 : decode cX8_swap 16 = .ok (.iload_n 2, 1) := by decide +kernel
theorem dX8_swap_17 : decode cX8_swap 17 = .ok (.iaload, 1) := by decide +kernel
theorem dX8_swap_18 : decode cX8_swap 18 = .ok (.iastore, 1) := by decide +kernel
theorem dX8_swap_19 : decode cX8_swap 19 = .ok (.aload_n 0, 1) := by decide +kernel
theorem dX8_swap_20 : decode cX8_swap 20 = .ok (.getfield 99, 3) := by decide +kernel
theorem dX8_swap_23 : decode cX8_swap 23 = .ok (.iload_n 2, 1) := by decide +kernel
theorem dX8_swap_24 : decode cX8_swap 24 = .ok (.iload_n 3, 1) := by decide +kernel
theorem dX8_swap_25 : decode cX8_swap 25 = .ok (.iastore, 1) := by decide +kernel
theorem dX8_swap_26 : decode cX8_swap 26 = .ok (.return_, 1) := by decide +kernel
theorem dJ9_abs_0f7a4_0 : decode cJ9_abs_0f7a4 0 = .ok (.iload_n 0, 1) := by decide +kernel
theorem dJ9_abs_0f7a4_1 : decode cJ9_abs_0f7a4 1 = .ok (.ifCond .ge 8, 3) := by decide +kernel
theorem dJ9_abs_0f7a4_4 : decode cJ9_abs_0f7a4 4 = .ok (.iload_n 0, 1) := by decide +kernel
theorem dJ9_abs_0f7a4_5 : decode cJ9_abs_0f7a4 5 = .ok (.ineg, 1) := by decide +kernel
theorem dJ9_abs_0f7a4_6 : decode cJ9_abs_0f7a4 6 = .ok (.goto 4, 3) := by decide +kernel
theorem dJ9_abs_0f7a4_9 : decode cJ9_abs_0f7a4 9 = .ok (.iload_n 0, 1) := by decide +kernel
theorem dJ9_abs_0f7a4_10 : decode cJ9_abs_0f7a4 10 = .ok (.ireturn, 1) := by decide +kernel
theorem dJ9_abs_067f4_0 : decode cJ9_abs_067f4 0 = .ok (.lload_n 0, 1) := by decide +kernel
theorem dJ9_abs_067f4_1 : decode cJ9_abs_067f4 1 = .ok (.lconst 0, 1) := by decide +kernel
theorem dJ9_abs_067f4_2 : decode cJ9_abs_067f4 2 = .ok (.lcmp, 1) := by decide +kernel
theorem dJ9_abs_067f4_3 : decode cJ9_abs_067f4 3 = .ok (.ifCond .ge 8, 3) := by decide +kernel
theorem dJ9_abs_067f4_6 : decode cJ9_abs_067f4 6 = .ok (.lload_n 0, 1) := by decide +kernel
theorem dJ9_abs_067f4_7 : decode cJ9_abs_067f4 7 = .ok (.lneg, 1) := by decide +kernel
theorem dJ9_abs_067f4_8 : decode cJ9_abs_067f4 8 = .ok (.goto 4, 3) := by decide +kernel
theorem dJ9_abs_067f4_11 : decode cJ9_abs_067f4 11 = .ok (.lload_n 0, 1) := by decide +kernel
theorem dJ9_abs_067f4_12 : decode cJ9_abs_067f4 12 = .ok (.lreturn, 1) := by decide +kernel
theorem dJ9_max_7cf53_0 : decode cJ9_max_7cf53 0 = .ok (.iload_n 0, 1) := by decide +kernel
theorem dJ9_max_7cf53_1 : decode cJ9_max_7cf53 1 = .ok (.iload_n 1, 1) := by decide +kernel
theorem dJ9_max_7cf53_2 : decode cJ9_max_7cf53 2 = .ok (.if_icmp .lt 7, 3) := by decide +kernel
theorem dJ9_max_7cf53_5 : decode cJ9_max_7cf53 5 = .ok (.iload_n 0, 1) := by decide +kernel
theorem dJ9_max_7cf53_6 : decode cJ9_max_7cf53 6 = .ok (.goto 4, 3) := by decide +kernel
theorem dJ9_max_7cf53_9 : decode cJ9_max_7cf53 9 = .ok (.iload_n 1, 1) := by decide +kernel
theorem dJ9_max_7cf53_10 : decode cJ9_max_7cf53 10 = .ok (.ireturn, 1) := by decide +kernel
theorem dJ9_min_7cf53_0 : decode cJ9_min_7cf53 0 = .ok (.iload_n 0, 1) := by decide +kernel
theorem dJ9_min_7cf53_1 : decode cJ9_min_7cf53 1 = .ok (.iload_n 1, 1) := by decide +kernel
theorem dJ9_min_7cf53_2 : decode cJ9_min_7cf53 2 = .ok (.if_icmp .gt 7, 3) := by decide +kernel
theorem dJ9_min_7cf53_5 : decode cJ9_min_7cf53 5 = .ok (.iload_n 0, 1) := by decide +kernel
theorem dJ9_min_7cf53_6 : decode cJ9_min_7cf53 6 = .ok (.goto 4, 3) := by decide +kernel
theorem dJ9_min_7cf53_9 : decode cJ9_min_7cf53 9 = .ok (.iload_n 1, 1) := by decide +kernel
theorem dJ9_min_7cf53_10 : decode cJ9_min_7cf53 10 = .ok (.ireturn, 1) := by decide +kernel
theorem dL_look_0 : decode cL_look 0 = .ok (.aload_n 3, 1) := by decide +kernel
theorem dL_look_1 : decode cL_look 1 = .ok (.iconst 0, 1) := by decide +kernel
theorem dL_look_2 : decode cL_look 2 = .ok (.aload_n 0, 1) := by decide +kernel
theorem dL_look_3 : decode cL_look 3 = .ok (.iload_n 1, 1) := by decide +kernel
theorem dL_look_4 : decode cL_look 4 = .ok (.iload_n 2, 1) := by decide +kernel
theorem dL_look_5 : decode cL_look 5 = .ok (.invokevirtual 7, 3) := by decide +kernel
theorem dL_look_8 : decode cL_look 8 = .ok (.i2l, 1) := by decide +kernel
theorem dL_look_9 : decode cL_look 9 = .ok (.lastore, 1) := by decide +kernel
theorem dL_look_10 : decode cL_look 10 = .ok (.goto 11, 3) := by decide +kernel
theorem dL_look_13 : decode cL_look 13 = .ok (.astore 4, 2) := by decide +kernel
theorem dL_look_15 : decode cL_look 15 = .ok (.iconst 1, 1) := by decide +kernel
theorem dL_look_16 : decode cL_look 16 = .ok (.ireturn, 1) := by decide +kernel
theorem dL_look_17 : decode cL_look 17 = .ok (.astore 4, 2) := by decide +kernel
theorem dL_look_19 : decode cL_look 19 = .ok (.iconst 2, 1) := by decide +kernel
theorem dL_look_20 : decode cL_look 20 = .ok (.ireturn, 1) := by decide +kernel
theorem dL_look_21 : decode cL_look 21 = .ok (.iconst 0, 1) := by decide +kernel
theorem dL_look_22 : decode cL_look 22 = .ok (.ireturn, 1) := by decide +kernel
theorem dL_knot_0 : decode cL_knot 0 = .ok (.aload_n 3, 1) := by decide +kernel
theorem dL_knot_1 : decode cL_knot 1 = .ok (.iconst 0, 1) := by decide +kernel
theorem dL_knot_2 : decode cL_knot 2 = .ok (.aload_n 0, 1) := by decide +kernel
theorem dL_knot_3 : decode cL_knot 3 = .ok (.iload_n 1, 1) := by decide +kernel
theorem dL_knot_4 : decode cL_knot 4 = .ok (.iload_n 2, 1) := by decide +kernel
theorem dL_knot_5 : decode cL_knot 5 = .ok (.invokevirtual 17, 3) := by decide +kernel
theorem dL_knot_8 : decode cL_knot 8 = .ok (.i2l, 1) := by decide +kernel
theorem dL_knot_9 : decode cL_knot 9 = .ok (.lastore, 1) := by decide +kernel
theorem dL_knot_10 : decode cL_knot 10 = .ok (.goto 11, 3) := by decide +kernel
theorem dL_knot_13 : decode cL_knot 13 = .ok (.astore 4, 2) := by decide +kernel
theorem dL_knot_15 : decode cL_knot 15 = .ok (.iconst 1, 1) := by decide +kernel
theorem dL_knot_16 : decode cL_knot 16 = .ok (.ireturn, 1) := by decide +kernel
theorem dL_knot_17 : decode cL_knot 17 = .ok (.astore 4, 2) := by decide +kernel
theorem dL_knot_19 : decode cL_knot 19 = .ok (.iconst 2, 1) := by decide +kernel
theorem dL_knot_20 : decode cL_knot 20 = .ok (.ireturn, 1) := by decide +kernel
theorem dL_knot_21 : decode cL_knot 21 = .ok (.iconst 0, 1) := by decide +kernel
theorem dL_knot_22 : decode cL_knot 22 = .ok (.ireturn, 1) := by decide +kernel
theorem dL_part_0 : decode cL_part 0 = .ok (.aload_n 3, 1) := by decide +kernel
theorem dL_part_1 : decode cL_part 1 = .ok (.iconst 0, 1) := by decide +kernel
theorem dL_part_2 : decode cL_part 2 = .ok (.aload_n 0, 1) := by decide +kernel
theorem dL_part_3 : decode cL_part 3 = .ok (.iload_n 1, 1) := by decide +kernel
theorem dL_part_4 : decode cL_part 4 = .ok (.iload_n 2, 1) := by decide +kernel
theorem dL_part_5 : decode cL_part 5 = .ok (.invokevirtual 20, 3) := by decide +kernel
theorem dL_part_8 : decode cL_part 8 = .ok (.lastore, 1) := by decide +kernel
theorem dL_part_9 : decode cL_part 9 = .ok (.goto 11, 3) := by decide +kernel
theorem dL_part_12 : decode cL_part 12 = .ok (.astore 4, 2) := by decide +kernel
theorem dL_part_14 : decode cL_part 14 = .ok (.iconst 1, 1) := by decide +kernel
theorem dL_part_15 : decode cL_part 15 = .ok (.ireturn, 1) := by decide +kernel
theorem dL_part_16 : decode cL_part 16 = .ok (.astore 4, 2) := by decide +kernel
theorem dL_part_18 : decode cL_part 18 = .ok (.iconst 2, 1) := by decide +kernel
theorem dL_part_19 : decode cL_part 19 = .ok (.ireturn, 1) := by decide +kernel
theorem dL_part_20 : decode cL_part 20 = .ok (.iconst 0, 1) := by decide +kernel
theorem dL_part_21 : decode cL_part 21 = .ok (.ireturn, 1) := by decide +kernel
theorem dL_law_0 : decode cL_law 0 = .ok (.new 8, 3) := by decide +kernel
theorem dL_law_3 : decode cL_law 3 = .ok (.dup, 1) := by decide +kernel
theorem dL_law_4 : decode cL_law 4 = .ok (.invokespecial 24, 3) := by decide +kernel
theorem dL_law_7 : decode cL_law 7 = .ok (.astore_n 1, 1) := by decide +kernel
theorem dL_law_8 : decode cL_law 8 = .ok (.new 25, 3) := by decide +kernel
theorem dL_law_11 : decode cL_law 11 = .ok (.dup, 1) := by decide +kernel
theorem dL_law_12 : decode cL_law 12 = .ok (.invokespecial 27, 3) := by decide +kernel
theorem dL_law_15 : decode cL_law 15 = .ok (.astore_n 2, 1) := by decide +kernel
theorem dL_law_16 : decode cL_law 16 = .ok (.iconst 1, 1) := by decide +kernel
theorem dL_law_17 : decode cL_law 17 = .ok (.newarray .long, 2) := by decide +kernel
theorem dL_law_19 : decode cL_law 19 = .ok (.astore_n 3, 1) := by decide +kernel
theorem dL_law_20 : decode cL_law 20 = .ok (.iconst 0, 1) := by decide +kernel
theorem dL_law_21 : decode cL_law 21 = .ok (.istore 4, 2) := by decide +kernel
theorem dL_law_23 : decode cL_law 23 = .ok (.iload 4, 2) := by decide +kernel
theorem dL_law_25 : decode cL_law 25 = .ok (.aload_n 0, 1) := by decide +kernel
theorem dL_law_26 : decode cL_law 26 = .ok (.arraylength, 1) := by decide +kernel
theorem dL_law_27 : decode cL_law 27 = .ok (.iconst 5, 1) := by decide +kernel
theorem dL_law_28 : decode cL_law 28 = .ok (.isub, 1) := by decide +kernel
theorem dL_law_29 : decode cL_law 29 = .ok (.if_icmp .gt 712, 3) := by decide +kernel
theorem dL_law_32 : decode cL_law 32 = .ok (.aload_n 0, 1) := by decide +kernel
theorem dL_law_33 : decode cL_law 33 = .ok (.iload 4, 2) := by decide +kernel
theorem dL_law_35 : decode cL_law 35 = .ok (.iaload, 1) := by decide +kernel
theorem dL_law_36 : decode cL_law 36 = .ok (.bipush 15, 2) := by decide +kernel
theorem dL_law_38 : decode cL_law 38 = .ok (.iand, 1) := by decide +kernel
theorem dL_law_39 : decode cL_law 39 = .ok (.tableswitch 696 0 14 #[73, 134, 147, 215, 252, 277, 345, 412, 449, 486, 511, 572, 633, 670, 683], 73) := by decide +kernel
theorem dL_law_112 : decode cL_law 112 = .ok (.aload_n 1, 1) := by decide +kernel
theorem dL_law_113 : decode cL_law 113 = .ok (.aload_n 0, 1) := by decide +kernel
theorem dL_law_114 : decode cL_law 114 = .ok (.iload 4, 2) := by decide +kernel
theorem dL_law_116 : decode cL_law 116 = .ok (.iconst 1, 1) := by decide +kernel
theorem dL_law_117 : decode cL_law 117 = .ok (.iadd, 1) := by decide +kernel
theorem dL_law_118 : decode cL_law 118 = .ok (.iaload, 1) := by decide +kernel
theorem dL_law_119 : decode cL_law 119 = .ok (.aload_n 0, 1) := by decide +kernel
theorem dL_law_120 : decode cL_law 120 = .ok (.iload 4, 2) := by decide +kernel
theorem dL_law_122 : decode cL_law 122 = .ok (.iconst 2, 1) := by decide +kernel
theorem dL_law_123 : decode cL_law 123 = .ok (.iadd, 1) := by decide +kernel
theorem dL_law_124 : decode cL_law 124 = .ok (.iaload, 1) := by decide +kernel
theorem dL_law_125 : decode cL_law 125 = .ok (.aload_n 0, 1) := by decide +kernel
theorem dL_law_126 : decode cL_law 126 = .ok (.iload 4, 2) := by decide +kernel
theorem dL_law_128 : decode cL_law 128 = .ok (.iconst 3, 1) := by decide +kernel
theorem dL_law_129 : decode cL_law 129 = .ok (.iadd, 1) := by decide +kernel
theorem dL_law_130 : decode cL_law 130 = .ok (.iaload, 1) := by decide +kernel
theorem dL_law_131 : decode cL_law 131 = .ok (.aload_n 0, 1) := by decide +kernel
theorem dL_law_132 : decode cL_law 132 = .ok (.iload 4, 2) := by decide +kernel
theorem dL_law_134 : decode cL_law 134 = .ok (.iconst 4, 1) := by decide +kernel
theorem dL_law_135 : decode cL_law 135 = .ok (.iadd, 1) := by decide +kernel
theorem dL_law_136 : decode cL_law 136 = .ok (.iaload, 1) := by decide +kernel
theorem dL_law_137 : decode cL_law 137 = .ok (.invokevirtual 28, 3) := by decide +kernel
theorem dL_law_140 : decode cL_law 140 = .ok (.aload_n 2, 1) := by decide +kernel
theorem dL_law_141 : decode cL_law 141 = .ok (.aload_n 0, 1) := by decide +kernel
theorem dL_law_142 : decode cL_law 142 = .ok (.iload 4, 2) := by decide +kernel
theorem dL_law_144 : decode cL_law 144 = .ok (.iconst 1, 1) := by decide +kernel
theorem dL_law_145 : decode cL_law 145 = .ok (.iadd, 1) := by decide +kernel
theorem dL_law_146 : decode cL_law 146 = .ok (.iaload, 1) := by decide +kernel
theorem dL_law_147 : decode cL_law 147 = .ok (.aload_n 0, 1) := by decide +kernel
theorem dL_law_148 : decode cL_law 148 = .ok (.iload 4, 2) := by decide +kernel
theorem dL_law_150 : decode cL_law 150 = .ok (.iconst 2, 1) := by decide +kernel
theorem dL_law_151 : decode cL_law 151 = .ok (.iadd, 1) := by decide +kernel
theorem dL_law_152 : decode cL_law 152 = .ok (.iaload, 1) := by decide +kernel
theorem dL_law_153 : decode cL_law 153 = .ok (.aload_n 0, 1) := by decide +kernel
theorem dL_law_154 : decode cL_law 154 = .ok (.iload 4, 2) := by decide +kernel
theorem dL_law_156 : decode cL_law 156 = .ok (.iconst 3, 1) := by decide +kernel
theorem dL_law_157 : decode cL_law 157 = .ok (.iadd, 1) := by decide +kernel
theorem dL_law_158 : decode cL_law 158 = .ok (.iaload, 1) := by decide +kernel
theorem dL_law_159 : decode cL_law 159 = .ok (.aload_n 0, 1) := by decide +kernel
theorem dL_law_160 : decode cL_law 160 = .ok (.iload 4, 2) := by decide +kernel
theorem dL_law_162 : decode cL_law 162 = .ok (.iconst 4, 1) := by decide +kernel
theorem dL_law_163 : decode cL_law 163 = .ok (.iadd, 1) := by decide +kernel
theorem dL_law_164 : decode cL_law 164 = .ok (.iaload, 1) := by decide +kernel
theorem dL_law_165 : decode cL_law 165 = .ok (.invokevirtual 32, 3) := by decide +kernel
theorem dL_law_168 : decode cL_law 168 = .ok (.if_icmp .eq 567, 3) := by decide +kernel
theorem dL_law_171 : decode cL_law 171 = .ok (.iconst 0, 1) := by decide +kernel
theorem dL_law_172 : decode cL_law 172 = .ok (.ireturn, 1) := by decide +kernel
theorem dL_law_173 : decode cL_law 173 = .ok (.aload_n 1, 1) := by decide +kernel
theorem dL_law_174 : decode cL_law 174 = .ok (.invokevirtual 33, 3) := by decide +kernel
theorem dL_law_177 : decode cL_law 177 = .ok (.aload_n 2, 1) := by decide +kernel
theorem dL_law_178 : decode cL_law 178 = .ok (.invokevirtual 37, 3) := by decide +kernel
theorem dL_law_181 : decode cL_law 181 = .ok (.if_icmp .eq 554, 3) := by decide +kernel
theorem dL_law_184 : decode cL_law 184 = .ok (.iconst 0, 1) := by decide +kernel
theorem dL_law_185 : decode cL_law 185 = .ok (.ireturn, 1) := by decide +kernel
theorem dL_law_186 : decode cL_law 186 = .ok (.aload_n 1, 1) := by decide +kernel
theorem dL_law_187 : decode cL_law 187 = .ok (.aload_n 0, 1) := by decide +kernel
theorem dL_law_188 : decode cL_law 188 = .ok (.iload 4, 2) := by decide +kernel
theorem dL_law_190 : decode cL_law 190 = .ok (.iconst 1, 1) := by decide +kernel
theorem dL_law_191 : decode cL_law 191 = .ok (.iadd, 1) := by decide +kernel
theorem dL_law_192 : decode cL_law 192 = .ok (.iaload, 1) := by decide +kernel
theorem dL_law_193 : decode cL_law 193 = .ok (.aload_n 0, 1) := by decide +kernel
theorem dL_law_194 : decode cL_law 194 = .ok (.iload 4, 2) := by decide +kernel
theorem dL_law_196 : decode cL_law 196 = .ok (.iconst 2, 1) := by decide +kernel
theorem dL_law_197 : decode cL_law 197 = .ok (.iadd, 1) := by decide +kernel
theorem dL_law_198 : decode cL_law 198 = .ok (.iaload, 1) := by decide +kernel
theorem dL_law_199 : decode cL_law 199 = .ok (.aload_n 3, 1) := by decide +kernel
theorem dL_law_200 : decode cL_law 200 = .ok (.invokestatic 38, 3) := by decide +kernel
theorem dL_law_203 : decode cL_law 203 = .ok (.istore 5, 2) := by decide +kernel
theorem dL_law_205 : decode cL_law 205 = .ok (.aload_n 2, 1) := by decide +kernel
theorem dL_law_206 : decode cL_law 206 = .ok (.aload_n 0, 1) := by decide +kernel
theorem dL_law_207 : decode cL_law 207 = .ok (.iload 4, 2) := by decide +kernel
theorem dL_law_209 : decode cL_law 209 = .ok (.iconst 1, 1) := by decide +kernel
theorem dL_law_210 : decode cL_law 210 = .ok (.iadd, 1) := by decide +kernel
theorem dL_law_211 : decode cL_law 211 = .ok (.iaload, 1) := by decide +kernel
theorem dL_law_212 : decode cL_law 212 = .ok (.aload_n 0, 1) := by decide +kernel
theorem dL_law_213 : decode cL_law 213 = .ok (.iload 4, 2) := by decide +kernel
theorem dL_law_215 : decode cL_law 215 = .ok (.iconst 2, 1) := by decide +kernel
theorem dL_law_216 : decode cL_law 216 = .ok (.iadd, 1) := by decide +kernel
theorem dL_law_217 : decode cL_law 217 = .ok (.iaload, 1) := by decide +kernel
theorem dL_law_218 : decode cL_law 218 = .ok (.invokevirtual 43, 3) := by decide +kernel
theorem dL_law_221 : decode cL_law 221 = .ok (.istore 6, 2) := by decide +kernel
theorem dL_law_223 : decode cL_law 223 = .ok (.aload_n 2, 1) := by decide +kernel
theorem dL_law_224 : decode cL_law 224 = .ok (.invokevirtual 44, 3) := by decide +kernel
theorem dL_law_227 : decode cL_law 227 = .ok (.iload 5, 2) := by decide +kernel
theorem dL_law_229 : decode cL_law 229 = .ok (.if_icmp .eq 5, 3) := by decide +kernel
theorem dL_law_232 : decode cL_law 232 = .ok (.iconst 0, 1) := by decide +kernel
theorem dL_law_233 : decode cL_law 233 = .ok (.ireturn, 1) := by decide +kernel
theorem dL_law_234 : decode cL_law 234 = .ok (.iload 5, 2) := by decide +kernel
theorem dL_law_236 : decode cL_law 236 = .ok (.ifCond .ne 15, 3) := by decide +kernel
theorem dL_law_239 : decode cL_law 239 = .ok (.aload_n 3, 1) := by decide +kernel
theorem dL_law_240 : decode cL_law 240 = .ok (.iconst 0, 1) := by decide +kernel
theorem dL_law_241 : decode cL_law 241 = .ok (.laload, 1) := by decide +kernel
theorem dL_law_242 : decode cL_law 242 = .ok (.iload 6, 2) := by decide +kernel
theorem dL_law_244 : decode cL_law 244 = .ok (.i2l, 1) := by decide +kernel
theorem dL_law_245 : decode cL_law 245 = .ok (.lcmp, 1) := by decide +kernel
theorem dL_law_246 : decode cL_law 246 = .ok (.ifCond .eq 5, 3) := by decide +kernel
theorem dL_law_249 : decode cL_law 249 = .ok (.iconst 0, 1) := by decide +kernel
theorem dL_law_250 : decode cL_law 250 = .ok (.ireturn, 1) := by decide +kernel
theorem dL_law_251 : decode cL_law 251 = .ok (.goto 484, 3) := by decide +kernel
theorem dL_law_254 : decode cL_law 254 = .ok (.aload_n 1, 1) := by decide +kernel
theorem dL_law_255 : decode cL_law 255 = .ok (.aload_n 0, 1) := by decide +kernel
theorem dL_law_256 : decode cL_law 256 = .ok (.iload 4, 2) := by decide +kernel
theorem dL_law_258 : decode cL_law 258 = .ok (.iconst 1, 1) := by decide +kernel
theorem dL_law_259 : decode cL_law 259 = .ok (.iadd, 1) := by decide +kernel
theorem dL_law_260 : decode cL_law 260 = .ok (.iaload, 1) := by decide +kernel
theorem dL_law_261 : decode cL_law 261 = .ok (.aload_n 0, 1) := by decide +kernel
theorem dL_law_262 : decode cL_law 262 = .ok (.iload 4, 2) := by decide +kernel
theorem dL_law_264 : decode cL_law 264 = .ok (.iconst 2, 1) := by decide +kernel
theorem dL_law_265 : decode cL_law 265 = .ok (.iadd, 1) := by decide +kernel
theorem dL_law_266 : decode cL_law 266 = .ok (.iaload, 1) := by decide +kernel
theorem dL_law_267 : decode cL_law 267 = .ok (.invokevirtual 47, 3) := by decide +kernel
theorem dL_law_270 : decode cL_law 270 = .ok (.aload_n 2, 1) := by decide +kernel
theorem dL_law_271 : decode cL_law 271 = .ok (.aload_n 0, 1) := by decide +kernel
theorem dL_law_272 : decode cL_law 272 = .ok (.iload 4, 2) := by decide +kernel
theorem dL_law_274 : decode cL_law 274 = .ok (.iconst 1, 1) := by decide +kernel
theorem dL_law_275 : decode cL_law 275 = .ok (.iadd, 1) := by decide +kernel
theorem dL_law_276 : decode cL_law 276 = .ok (.iaload, 1) := by decide +kernel
theorem dL_law_277 : decode cL_law 277 = .ok (.aload_n 0, 1) := by decide +kernel
theorem dL_law_278 : decode cL_law 278 = .ok (.iload 4, 2) := by decide +kernel
theorem dL_law_280 : decode cL_law 280 = .ok (.iconst 2, 1) := by decide +kernel
theorem dL_law_281 : decode cL_law 281 = .ok (.iadd, 1) := by decide +kernel
theorem dL_law_282 : decode cL_law 282 = .ok (.iaload, 1) := by decide +kernel
theorem dL_law_283 : decode cL_law 283 = .ok (.invokevirtual 50, 3) := by decide +kernel
theorem dL_law_286 : decode cL_law 286 = .ok (.if_icmp .eq 449, 3) := by decide +kernel
theorem dL_law_289 : decode cL_law 289 = .ok (.iconst 0, 1) := by decide +kernel
theorem dL_law_290 : decode cL_law 290 = .ok (.ireturn, 1) := by decide +kernel
theorem dL_law_291 : decode cL_law 291 = .ok (.aload_n 1, 1) := by decide +kernel
theorem dL_law_292 : decode cL_law 292 = .ok (.aload_n 0, 1) := by decide +kernel
theorem dL_law_293 : decode cL_law 293 = .ok (.iload 4, 2) := by decide +kernel
theorem dL_law_295 : decode cL_law 295 = .ok (.iconst 1, 1) := by decide +kernel
theorem dL_law_296 : decode cL_law 296 = .ok (.iadd, 1) := by decide +kernel
theorem dL_law_297 : decode cL_law 297 = .ok (.iaload, 1) := by decide +kernel
theorem dL_law_298 : decode cL_law 298 = .ok (.invokevirtual 51, 3) := by decide +kernel
theorem dL_law_301 : decode cL_law 301 = .ok (.aload_n 2, 1) := by decide +kernel
theorem dL_law_302 : decode cL_law 302 = .ok (.aload_n 0, 1) := by decide +kernel
theorem dL_law_303 : decode cL_law 303 = .ok (.iload 4, 2) := by decide +kernel
theorem dL_law_305 : decode cL_law 305 = .ok (.iconst 1, 1) := by decide +kernel
theorem dL_law_306 : decode cL_law 306 = .ok (.iadd, 1) := by decide +kernel
theorem dL_law_307 : decode cL_law 307 = .ok (.iaload, 1) := by decide +kernel
theorem dL_law_308 : decode cL_law 308 = .ok (.invokevirtual 55, 3) := by decide +kernel
theorem dL_law_311 : decode cL_law 311 = .ok (.if_icmp .eq 424, 3) := by decide +kernel
theorem dL_law_314 : decode cL_law 314 = .ok (.iconst 0, 1) := by decide +kernel
theorem dL_law_315 : decode cL_law 315 = .ok (.ireturn, 1) := by decide +kernel
theorem dL_law_316 : decode cL_law 316 = .ok (.aload_n 1, 1) := by decide +kernel
theorem dL_law_317 : decode cL_law 317 = .ok (.aload_n 0, 1) := by decide +kernel
theorem dL_law_318 : decode cL_law 318 = .ok (.iload 4, 2) := by decide +kernel
theorem dL_law_320 : decode cL_law 320 = .ok (.iconst 1, 1) := by decide +kernel
theorem dL_law_321 : decode cL_law 321 = .ok (.iadd, 1) := by decide +kernel
theorem dL_law_322 : decode cL_law 322 = .ok (.iaload, 1) := by decide +kernel
theorem dL_law_323 : decode cL_law 323 = .ok (.aload_n 0, 1) := by decide +kernel
theorem dL_law_324 : decode cL_law 324 = .ok (.iload 4, 2) := by decide +kernel
theorem dL_law_326 : decode cL_law 326 = .ok (.iconst 2, 1) := by decide +kernel
theorem dL_law_327 : decode cL_law 327 = .ok (.iadd, 1) := by decide +kernel
theorem dL_law_328 : decode cL_law 328 = .ok (.iaload, 1) := by decide +kernel
theorem dL_law_329 : decode cL_law 329 = .ok (.aload_n 3, 1) := by decide +kernel
theorem dL_law_330 : decode cL_law 330 = .ok (.invokestatic 56, 3) := by decide +kernel
theorem dL_law_333 : decode cL_law 333 = .ok (.istore 5, 2) := by decide +kernel
theorem dL_law_335 : decode cL_law 335 = .ok (.aload_n 2, 1) := by decide +kernel
theorem dL_law_336 : decode cL_law 336 = .ok (.aload_n 0, 1) := by decide +kernel
theorem dL_law_337 : decode cL_law 337 = .ok (.iload 4, 2) := by decide +kernel
theorem dL_law_339 : decode cL_law 339 = .ok (.iconst 1, 1) := by decide +kernel
theorem dL_law_340 : decode cL_law 340 = .ok (.iadd, 1) := by decide +kernel
theorem dL_law_341 : decode cL_law 341 = .ok (.iaload, 1) := by decide +kernel
theorem dL_law_342 : decode cL_law 342 = .ok (.aload_n 0, 1) := by decide +kernel
theorem dL_law_343 : decode cL_law 343 = .ok (.iload 4, 2) := by decide +kernel
theorem dL_law_345 : decode cL_law 345 = .ok (.iconst 2, 1) := by decide +kernel
theorem dL_law_346 : decode cL_law 346 = .ok (.iadd, 1) := by decide +kernel
theorem dL_law_347 : decode cL_law 347 = .ok (.iaload, 1) := by decide +kernel
theorem dL_law_348 : decode cL_law 348 = .ok (.invokevirtual 58, 3) := by decide +kernel
theorem dL_law_351 : decode cL_law 351 = .ok (.istore 6, 2) := by decide +kernel
theorem dL_law_353 : decode cL_law 353 = .ok (.aload_n 2, 1) := by decide +kernel
theorem dL_law_354 : decode cL_law 354 = .ok (.invokevirtual 44, 3) := by decide +kernel
theorem dL_law_357 : decode cL_law 357 = .ok (.iload 5, 2) := by decide +kernel
theorem dL_law_359 : decode cL_law 359 = .ok (.if_icmp .eq 5, 3) := by decide +kernel
theorem dL_law_362 : decode cL_law 362 = .ok (.iconst 0, 1) := by decide +kernel
theorem dL_law_363 : decode cL_law 363 = .ok (.ireturn, 1) := by decide +kernel
theorem dL_law_364 : decode cL_law 364 = .ok (.iload 5, 2) := by decide +kernel
theorem dL_law_366 : decode cL_law 366 = .ok (.ifCond .ne 15, 3) := by decide +kernel
theorem dL_law_369 : decode cL_law 369 = .ok (.aload_n 3, 1) := by decide +kernel
theorem dL_law_370 : decode cL_law 370 = .ok (.iconst 0, 1) := by decide +kernel
theorem dL_law_371 : decode cL_law 371 = .ok (.laload, 1) := by decide +kernel
theorem dL_law_372 : decode cL_law 372 = .ok (.iload 6, 2) := by decide +kernel
theorem dL_law_374 : decode cL_law 374 = .ok (.i2l, 1) := by decide +kernel
theorem dL_law_375 : decode cL_law 375 = .ok (.lcmp, 1) := by decide +kernel
theorem dL_law_376 : decode cL_law 376 = .ok (.ifCond .eq 5, 3) := by decide +kernel
theorem dL_law_379 : decode cL_law 379 = .ok (.iconst 0, 1) := by decide +kernel
theorem dL_law_380 : decode cL_law 380 = .ok (.ireturn, 1) := by decide +kernel
theorem dL_law_381 : decode cL_law 381 = .ok (.goto 354, 3) := by decide +kernel
theorem dL_law_384 : decode cL_law 384 = .ok (.aload_n 1, 1) := by decide +kernel
theorem dL_law_385 : decode cL_law 385 = .ok (.aload_n 0, 1) := by decide +kernel
theorem dL_law_386 : decode cL_law 386 = .ok (.iload 4, 2) := by decide +kernel
theorem dL_law_388 : decode cL_law 388 = .ok (.iconst 1, 1) := by decide +kernel
theorem dL_law_389 : decode cL_law 389 = .ok (.iadd, 1) := by decide +kernel
theorem dL_law_390 : decode cL_law 390 = .ok (.iaload, 1) := by decide +kernel
theorem dL_law_391 : decode cL_law 391 = .ok (.aload_n 0, 1) := by decide +kernel
theorem dL_law_392 : decode cL_law 392 = .ok (.iload 4, 2) := by decide +kernel
theorem dL_law_394 : decode cL_law 394 = .ok (.iconst 2, 1) := by decide +kernel
theorem dL_law_395 : decode cL_law 395 = .ok (.iadd, 1) := by decide +kernel
theorem dL_law_396 : decode cL_law 396 = .ok (.iaload, 1) := by decide +kernel
theorem dL_law_397 : decode cL_law 397 = .ok (.aload_n 3, 1) := by decide +kernel
theorem dL_law_398 : decode cL_law 398 = .ok (.invokestatic 59, 3) := by decide +kernel
theorem dL_law_401 : decode cL_law 401 = .ok (.istore 5, 2) := by decide +kernel
theorem dL_law_403 : decode cL_law 403 = .ok (.aload_n 2, 1) := by decide +kernel
theorem dL_law_404 : decode cL_law 404 = .ok (.aload_n 0, 1) := by decide +kernel
theorem dL_law_405 : decode cL_law 405 = .ok (.iload 4, 2) := by decide +kernel
theorem dL_law_407 : decode cL_law 407 = .ok (.iconst 1, 1) := by decide +kernel
theorem dL_law_408 : decode cL_law 408 = .ok (.iadd, 1) := by decide +kernel
theorem dL_law_409 : decode cL_law 409 = .ok (.iaload, 1) := by decide +kernel
theorem dL_law_410 : decode cL_law 410 = .ok (.aload_n 0, 1) := by decide +kernel
theorem dL_law_411 : decode cL_law 411 = .ok (.iload 4, 2) := by decide +kernel
theorem dL_law_413 : decode cL_law 413 = .ok (.iconst 2, 1) := by decide +kernel
theorem dL_law_414 : decode cL_law 414 = .ok (.iadd, 1) := by decide +kernel
theorem dL_law_415 : decode cL_law 415 = .ok (.iaload, 1) := by decide +kernel
theorem dL_law_416 : decode cL_law 416 = .ok (.invokevirtual 61, 3) := by decide +kernel
theorem dL_law_419 : decode cL_law 419 = .ok (.lstore 6, 2) := by decide +kernel
theorem dL_law_421 : decode cL_law 421 = .ok (.aload_n 2, 1) := by decide +kernel
theorem dL_law_422 : decode cL_law 422 = .ok (.invokevirtual 44, 3) := by decide +kernel
theorem dL_law_425 : decode cL_law 425 = .ok (.iload 5, 2) := by decide +kernel
theorem dL_law_427 : decode cL_law 427 = .ok (.if_icmp .eq 5, 3) := by decide +kernel
theorem dL_law_430 : decode cL_law 430 = .ok (.iconst 0, 1) := by decide +kernel
theorem dL_law_431 : decode cL_law 431 = .ok (.ireturn, 1) := by decide +kernel
theorem dL_law_432 : decode cL_law 432 = .ok (.iload 5, 2) := by decide +kernel
theorem dL_law_434 : decode cL_law 434 = .ok (.ifCond .ne 14, 3) := by decide +kernel
theorem dL_law_437 : decode cL_law 437 = .ok (.aload_n 3, 1) := by decide +kernel
theorem dL_law_438 : decode cL_law 438 = .ok (.iconst 0, 1) := by decide +kernel
theorem dL_law_439 : decode cL_law 439 = .ok (.laload, 1) := by decide +kernel
theorem dL_law_440 : decode cL_law 440 = .ok (.lload 6, 2) := by decide +kernel
theorem dL_law_442 : decode cL_law 442 = .ok (.lcmp, 1) := by decide +kernel
theorem dL_law_443 : decode cL_law 443 = .ok (.ifCond .eq 5, 3) := by decide +kernel
theorem dL_law_446 : decode cL_law 446 = .ok (.iconst 0, 1) := by decide +kernel
theorem dL_law_447 : decode cL_law 447 = .ok (.ireturn, 1) := by decide +kernel
theorem dL_law_448 : decode cL_law 448 = .ok (.goto 287, 3) := by decide +kernel
theorem dL_law_451 : decode cL_law 451 = .ok (.aload_n 1, 1) := by decide +kernel
theorem dL_law_452 : decode cL_law 452 = .ok (.aload_n 0, 1) := by decide +kernel
theorem dL_law_453 : decode cL_law 453 = .ok (.iload 4, 2) := by decide +kernel
theorem dL_law_455 : decode cL_law 455 = .ok (.iconst 1, 1) := by decide +kernel
theorem dL_law_456 : decode cL_law 456 = .ok (.iadd, 1) := by decide +kernel
theorem dL_law_457 : decode cL_law 457 = .ok (.iaload, 1) := by decide +kernel
theorem dL_law_458 : decode cL_law 458 = .ok (.aload_n 0, 1) := by decide +kernel
theorem dL_law_459 : decode cL_law 459 = .ok (.iload 4, 2) := by decide +kernel
theorem dL_law_461 : decode cL_law 461 = .ok (.iconst 2, 1) := by decide +kernel
theorem dL_law_462 : decode cL_law 462 = .ok (.iadd, 1) := by decide +kernel
theorem dL_law_463 : decode cL_law 463 = .ok (.iaload, 1) := by decide +kernel
theorem dL_law_464 : decode cL_law 464 = .ok (.invokevirtual 62, 3) := by decide +kernel
theorem dL_law_467 : decode cL_law 467 = .ok (.aload_n 2, 1) := by decide +kernel
theorem dL_law_468 : decode cL_law 468 = .ok (.aload_n 0, 1) := by decide +kernel
theorem dL_law_469 : decode cL_law 469 = .ok (.iload 4, 2) := by decide +kernel
theorem dL_law_471 : decode cL_law 471 = .ok (.iconst 1, 1) := by decide +kernel
theorem dL_law_472 : decode cL_law 472 = .ok (.iadd, 1) := by decide +kernel
theorem dL_law_473 : decode cL_law 473 = .ok (.iaload, 1) := by decide +kernel
theorem dL_law_474 : decode cL_law 474 = .ok (.aload_n 0, 1) := by decide +kernel
theorem dL_law_475 : decode cL_law 475 = .ok (.iload 4, 2) := by decide +kernel
theorem dL_law_477 : decode cL_law 477 = .ok (.iconst 2, 1) := by decide +kernel
theorem dL_law_478 : decode cL_law 478 = .ok (.iadd, 1) := by decide +kernel
theorem dL_law_479 : decode cL_law 479 = .ok (.iaload, 1) := by decide +kernel
theorem dL_law_480 : decode cL_law 480 = .ok (.invokevirtual 65, 3) := by decide +kernel
theorem dL_law_483 : decode cL_law 483 = .ok (.if_icmp .eq 252, 3) := by decide +kernel
theorem dL_law_486 : decode cL_law 486 = .ok (.iconst 0, 1) := by decide +kernel
theorem dL_law_487 : decode cL_law 487 = .ok (.ireturn, 1) := by decide +kernel
theorem dL_law_488 : decode cL_law 488 = .ok (.aload_n 1, 1) := by decide +kernel
theorem dL_law_489 : decode cL_law 489 = .ok (.aload_n 0, 1) := by decide +kernel
theorem dL_law_490 : decode cL_law 490 = .ok (.iload 4, 2) := by decide +kernel
theorem dL_law_492 : decode cL_law 492 = .ok (.iconst 1, 1) := by decide +kernel
theorem dL_law_493 : decode cL_law 493 = .ok (.iadd, 1) := by decide +kernel
theorem dL_law_494 : decode cL_law 494 = .ok (.iaload, 1) := by decide +kernel
theorem dL_law_495 : decode cL_law 495 = .ok (.aload_n 0, 1) := by decide +kernel
theorem dL_law_496 : decode cL_law 496 = .ok (.iload 4, 2) := by decide +kernel
theorem dL_law_498 : decode cL_law 498 = .ok (.iconst 2, 1) := by decide +kernel
theorem dL_law_499 : decode cL_law 499 = .ok (.iadd, 1) := by decide +kernel
theorem dL_law_500 : decode cL_law 500 = .ok (.iaload, 1) := by decide +kernel
theorem dL_law_501 : decode cL_law 501 = .ok (.invokevirtual 66, 3) := by decide +kernel
theorem dL_law_504 : decode cL_law 504 = .ok (.aload_n 2, 1) := by decide +kernel
theorem dL_law_505 : decode cL_law 505 = .ok (.aload_n 0, 1) := by decide +kernel
theorem dL_law_506 : decode cL_law 506 = .ok (.iload 4, 2) := by decide +kernel
theorem dL_law_508 : decode cL_law 508 = .ok (.iconst 1, 1) := by decide +kernel
theorem dL_law_509 : decode cL_law 509 = .ok (.iadd, 1) := by decide +kernel
theorem dL_law_510 : decode cL_law 510 = .ok (.iaload, 1) := by decide +kernel
theorem dL_law_511 : decode cL_law 511 = .ok (.aload_n 0, 1) := by decide +kernel
theorem dL_law_512 : decode cL_law 512 = .ok (.iload 4, 2) := by decide +kernel
theorem dL_law_514 : decode cL_law 514 = .ok (.iconst 2, 1) := by decide +kernel
theorem dL_law_515 : decode cL_law 515 = .ok (.iadd, 1) := by decide +kernel
theorem dL_law_516 : decode cL_law 516 = .ok (.iaload, 1) := by decide +kernel
theorem dL_law_517 : decode cL_law 517 = .ok (.invokevirtual 69, 3) := by decide +kernel
theorem dL_law_520 : decode cL_law 520 = .ok (.if_icmp .eq 215, 3) := by decide +kernel
theorem dL_law_523 : decode cL_law 523 = .ok (.iconst 0, 1) := by decide +kernel
theorem dL_law_524 : decode cL_law 524 = .ok (.ireturn, 1) := by decide +kernel
theorem dL_law_525 : decode cL_law 525 = .ok (.aload_n 1, 1) := by decide +kernel
theorem dL_law_526 : decode cL_law 526 = .ok (.aload_n 0, 1) := by decide +kernel
theorem dL_law_527 : decode cL_law 527 = .ok (.iload 4, 2) := by decide +kernel
theorem dL_law_529 : decode cL_law 529 = .ok (.iconst 1, 1) := by decide +kernel
theorem dL_law_530 : decode cL_law 530 = .ok (.iadd, 1) := by decide +kernel
theorem dL_law_531 : decode cL_law 531 = .ok (.iaload, 1) := by decide +kernel
theorem dL_law_532 : decode cL_law 532 = .ok (.invokevirtual 70, 3) := by decide +kernel
theorem dL_law_535 : decode cL_law 535 = .ok (.aload_n 2, 1) := by decide +kernel
theorem dL_law_536 : decode cL_law 536 = .ok (.aload_n 0, 1) := by decide +kernel
theorem dL_law_537 : decode cL_law 537 = .ok (.iload 4, 2) := by decide +kernel
theorem dL_law_539 : decode cL_law 539 = .ok (.iconst 1, 1) := by decide +kernel
theorem dL_law_540 : decode cL_law 540 = .ok (.iadd, 1) := by decide +kernel
theorem dL_law_541 : decode cL_law 541 = .ok (.iaload, 1) := by decide +kernel
theorem dL_law_542 : decode cL_law 542 = .ok (.invokevirtual 73, 3) := by decide +kernel
theorem dL_law_545 : decode cL_law 545 = .ok (.if_icmp .eq 190, 3) := by decide +kernel
theorem dL_law_548 : decode cL_law 548 = .ok (.iconst 0, 1) := by decide +kernel
theorem dL_law_549 : decode cL_law 549 = .ok (.ireturn, 1) := by decide +kernel
theorem dL_law_550 : decode cL_law 550 = .ok (.aload_n 1, 1) := by decide +kernel
theorem dL_law_551 : decode cL_law 551 = .ok (.aload_n 0, 1) := by decide +kernel
theorem dL_law_552 : decode cL_law 552 = .ok (.iload 4, 2) := by decide +kernel
theorem dL_law_554 : decode cL_law 554 = .ok (.iconst 1, 1) := by decide +kernel
theorem dL_law_555 : decode cL_law 555 = .ok (.iadd, 1) := by decide +kernel
theorem dL_law_556 : decode cL_law 556 = .ok (.iaload, 1) := by decide +kernel
theorem dL_law_557 : decode cL_law 557 = .ok (.aload_n 0, 1) := by decide +kernel
theorem dL_law_558 : decode cL_law 558 = .ok (.iload 4, 2) := by decide +kernel
theorem dL_law_560 : decode cL_law 560 = .ok (.iconst 2, 1) := by decide +kernel
theorem dL_law_561 : decode cL_law 561 = .ok (.iadd, 1) := by decide +kernel
theorem dL_law_562 : decode cL_law 562 = .ok (.iaload, 1) := by decide +kernel
theorem dL_law_563 : decode cL_law 563 = .ok (.aload_n 0, 1) := by decide +kernel
theorem dL_law_564 : decode cL_law 564 = .ok (.iload 4, 2) := by decide +kernel
theorem dL_law_566 : decode cL_law 566 = .ok (.iconst 3, 1) := by decide +kernel
theorem dL_law_567 : decode cL_law 567 = .ok (.iadd, 1) := by decide +kernel
theorem dL_law_568 : decode cL_law 568 = .ok (.iaload, 1) := by decide +kernel
theorem dL_law_569 : decode cL_law 569 = .ok (.aload_n 0, 1) := by decide +kernel
theorem dL_law_570 : decode cL_law 570 = .ok (.iload 4, 2) := by decide +kernel
theorem dL_law_572 : decode cL_law 572 = .ok (.iconst 4, 1) := by decide +kernel
theorem dL_law_573 : decode cL_law 573 = .ok (.iadd, 1) := by decide +kernel
theorem dL_law_574 : decode cL_law 574 = .ok (.iaload, 1) := by decide +kernel
theorem dL_law_575 : decode cL_law 575 = .ok (.invokevirtual 74, 3) := by decide +kernel
theorem dL_law_578 : decode cL_law 578 = .ok (.aload_n 2, 1) := by decide +kernel
theorem dL_law_579 : decode cL_law 579 = .ok (.aload_n 0, 1) := by decide +kernel
theorem dL_law_580 : decode cL_law 580 = .ok (.iload 4, 2) := by decide +kernel
theorem dL_law_582 : decode cL_law 582 = .ok (.iconst 1, 1) := by decide +kernel
theorem dL_law_583 : decode cL_law 583 = .ok (.iadd, 1) := by decide +kernel
theorem dL_law_584 : decode cL_law 584 = .ok (.iaload, 1) := by decide +kernel
theorem dL_law_585 : decode cL_law 585 = .ok (.aload_n 0, 1) := by decide +kernel
theorem dL_law_586 : decode cL_law 586 = .ok (.iload 4, 2) := by decide +kernel
theorem dL_law_588 : decode cL_law 588 = .ok (.iconst 2, 1) := by decide +kernel
theorem dL_law_589 : decode cL_law 589 = .ok (.iadd, 1) := by decide +kernel
theorem dL_law_590 : decode cL_law 590 = .ok (.iaload, 1) := by decide +kernel
theorem dL_law_591 : decode cL_law 591 = .ok (.aload_n 0, 1) := by decide +kernel
theorem dL_law_592 : decode cL_law 592 = .ok (.iload 4, 2) := by decide +kernel
theorem dL_law_594 : decode cL_law 594 = .ok (.iconst 3, 1) := by decide +kernel
theorem dL_law_595 : decode cL_law 595 = .ok (.iadd, 1) := by decide +kernel
theorem dL_law_596 : decode cL_law 596 = .ok (.iaload, 1) := by decide +kernel
theorem dL_law_597 : decode cL_law 597 = .ok (.aload_n 0, 1) := by decide +kernel
theorem dL_law_598 : decode cL_law 598 = .ok (.iload 4, 2) := by decide +kernel
theorem dL_law_600 : decode cL_law 600 = .ok (.iconst 4, 1) := by decide +kernel
theorem dL_law_601 : decode cL_law 601 = .ok (.iadd, 1) := by decide +kernel
theorem dL_law_602 : decode cL_law 602 = .ok (.iaload, 1) := by decide +kernel
theorem dL_law_603 : decode cL_law 603 = .ok (.invokevirtual 77, 3) := by decide +kernel
theorem dL_law_606 : decode cL_law 606 = .ok (.if_icmp .eq 129, 3) := by decide +kernel
theorem dL_law_609 : decode cL_law 609 = .ok (.iconst 0, 1) := by decide +kernel
theorem dL_law_610 : decode cL_law 610 = .ok (.ireturn, 1) := by decide +kernel
theorem dL_law_611 : decode cL_law 611 = .ok (.aload_n 1, 1) := by decide +kernel
theorem dL_law_612 : decode cL_law 612 = .ok (.aload_n 0, 1) := by decide +kernel
theorem dL_law_613 : decode cL_law 613 = .ok (.iload 4, 2) := by decide +kernel
theorem dL_law_615 : decode cL_law 615 = .ok (.iconst 1, 1) := by decide +kernel
theorem dL_law_616 : decode cL_law 616 = .ok (.iadd, 1) := by decide +kernel
theorem dL_law_617 : decode cL_law 617 = .ok (.iaload, 1) := by decide +kernel
theorem dL_law_618 : decode cL_law 618 = .ok (.aload_n 0, 1) := by decide +kernel
theorem dL_law_619 : decode cL_law 619 = .ok (.iload 4, 2) := by decide +kernel
theorem dL_law_621 : decode cL_law 621 = .ok (.iconst 2, 1) := by decide +kernel
theorem dL_law_622 : decode cL_law 622 = .ok (.iadd, 1) := by decide +kernel
theorem dL_law_623 : decode cL_law 623 = .ok (.iaload, 1) := by decide +kernel
theorem dL_law_624 : decode cL_law 624 = .ok (.aload_n 0, 1) := by decide +kernel
theorem dL_law_625 : decode cL_law 625 = .ok (.iload 4, 2) := by decide +kernel
theorem dL_law_627 : decode cL_law 627 = .ok (.iconst 3, 1) := by decide +kernel
theorem dL_law_628 : decode cL_law 628 = .ok (.iadd, 1) := by decide +kernel
theorem dL_law_629 : decode cL_law 629 = .ok (.iaload, 1) := by decide +kernel
theorem dL_law_630 : decode cL_law 630 = .ok (.aload_n 0, 1) := by decide +kernel
theorem dL_law_631 : decode cL_law 631 = .ok (.iload 4, 2) := by decide +kernel
theorem dL_law_633 : decode cL_law 633 = .ok (.iconst 4, 1) := by decide +kernel
theorem dL_law_634 : decode cL_law 634 = .ok (.iadd, 1) := by decide +kernel
theorem dL_law_635 : decode cL_law 635 = .ok (.iaload, 1) := by decide +kernel
theorem dL_law_636 : decode cL_law 636 = .ok (.invokevirtual 78, 3) := by decide +kernel
theorem dL_law_639 : decode cL_law 639 = .ok (.aload_n 2, 1) := by decide +kernel
theorem dL_law_640 : decode cL_law 640 = .ok (.aload_n 0, 1) := by decide +kernel
theorem dL_law_641 : decode cL_law 641 = .ok (.iload 4, 2) := by decide +kernel
theorem dL_law_643 : decode cL_law 643 = .ok (.iconst 1, 1) := by decide +kernel
theorem dL_law_644 : decode cL_law 644 = .ok (.iadd, 1) := by decide +kernel
theorem dL_law_645 : decode cL_law 645 = .ok (.iaload, 1) := by decide +kernel
theorem dL_law_646 : decode cL_law 646 = .ok (.aload_n 0, 1) := by decide +kernel
theorem dL_law_647 : decode cL_law 647 = .ok (.iload 4, 2) := by decide +kernel
theorem dL_law_649 : decode cL_law 649 = .ok (.iconst 2, 1) := by decide +kernel
theorem dL_law_650 : decode cL_law 650 = .ok (.iadd, 1) := by decide +kernel
theorem dL_law_651 : decode cL_law 651 = .ok (.iaload, 1) := by decide +kernel
theorem dL_law_652 : decode cL_law 652 = .ok (.aload_n 0, 1) := by decide +kernel
theorem dL_law_653 : decode cL_law 653 = .ok (.iload 4, 2) := by decide +kernel
theorem dL_law_655 : decode cL_law 655 = .ok (.iconst 3, 1) := by decide +kernel
theorem dL_law_656 : decode cL_law 656 = .ok (.iadd, 1) := by decide +kernel
theorem dL_law_657 : decode cL_law 657 = .ok (.iaload, 1) := by decide +kernel
theorem dL_law_658 : decode cL_law 658 = .ok (.aload_n 0, 1) := by decide +kernel
theorem dL_law_659 : decode cL_law 659 = .ok (.iload 4, 2) := by decide +kernel
theorem dL_law_661 : decode cL_law 661 = .ok (.iconst 4, 1) := by decide +kernel
theorem dL_law_662 : decode cL_law 662 = .ok (.iadd, 1) := by decide +kernel
theorem dL_law_663 : decode cL_law 663 = .ok (.iaload, 1) := by decide +kernel
theorem dL_law_664 : decode cL_law 664 = .ok (.invokevirtual 81, 3) := by decide +kernel
theorem dL_law_667 : decode cL_law 667 = .ok (.if_icmp .eq 68, 3) := by decide +kernel
theorem dL_law_670 : decode cL_law 670 = .ok (.iconst 0, 1) := by decide +kernel
theorem dL_law_671 : decode cL_law 671 = .ok (.ireturn, 1) := by decide +kernel
theorem dL_law_672 : decode cL_law 672 = .ok (.aload_n 1, 1) := by decide +kernel
theorem dL_law_673 : decode cL_law 673 = .ok (.aload_n 0, 1) := by decide +kernel
theorem dL_law_674 : decode cL_law 674 = .ok (.iload 4, 2) := by decide +kernel
theorem dL_law_676 : decode cL_law 676 = .ok (.iconst 1, 1) := by decide +kernel
theorem dL_law_677 : decode cL_law 677 = .ok (.iadd, 1) := by decide +kernel
theorem dL_law_678 : decode cL_law 678 = .ok (.iaload, 1) := by decide +kernel
theorem dL_law_679 : decode cL_law 679 = .ok (.aload_n 0, 1) := by decide +kernel
theorem dL_law_680 : decode cL_law 680 = .ok (.iload 4, 2) := by decide +kernel
theorem dL_law_682 : decode cL_law 682 = .ok (.iconst 2, 1) := by decide +kernel
theorem dL_law_683 : decode cL_law 683 = .ok (.iadd, 1) := by decide +kernel
theorem dL_law_684 : decode cL_law 684 = .ok (.iaload, 1) := by decide +kernel
theorem dL_law_685 : decode cL_law 685 = .ok (.invokevirtual 82, 3) := by decide +kernel
theorem dL_law_688 : decode cL_law 688 = .ok (.aload_n 2, 1) := by decide +kernel
theorem dL_law_689 : decode cL_law 689 = .ok (.aload_n 0, 1) := by decide +kernel
theorem dL_law_690 : decode cL_law 690 = .ok (.iload 4, 2) := by decide +kernel
theorem dL_law_692 : decode cL_law 692 = .ok (.iconst 1, 1) := by decide +kernel
theorem dL_law_693 : decode cL_law 693 = .ok (.iadd, 1) := by decide +kernel
theorem dL_law_694 : decode cL_law 694 = .ok (.iaload, 1) := by decide +kernel
theorem dL_law_695 : decode cL_law 695 = .ok (.aload_n 0, 1) := by decide +kernel
theorem dL_law_696 : decode cL_law 696 = .ok (.iload 4, 2) := by decide +kernel
theorem dL_law_698 : decode cL_law 698 = .ok (.iconst 2, 1) := by decide +kernel
theorem dL_law_699 : decode cL_law 699 = .ok (.iadd, 1) := by decide +kernel
theorem dL_law_700 : decode cL_law 700 = .ok (.iaload, 1) := by decide +kernel
theorem dL_law_701 : decode cL_law 701 = .ok (.invokevirtual 85, 3) := by decide +kernel
theorem dL_law_704 : decode cL_law 704 = .ok (.if_icmp .eq 31, 3) := by decide +kernel
theorem dL_law_707 : decode cL_law 707 = .ok (.iconst 0, 1) := by decide +kernel
theorem dL_law_708 : decode cL_law 708 = .ok (.ireturn, 1) := by decide +kernel
theorem dL_law_709 : decode cL_law 709 = .ok (.aload_n 1, 1) := by decide +kernel
theorem dL_law_710 : decode cL_law 710 = .ok (.invokevirtual 86, 3) := by decide +kernel
theorem dL_law_713 : decode cL_law 713 = .ok (.aload_n 2, 1) := by decide +kernel
theorem dL_law_714 : decode cL_law 714 = .ok (.invokevirtual 89, 3) := by decide +kernel
theorem dL_law_717 : decode cL_law 717 = .ok (.if_icmp .eq 18, 3) := by decide +kernel
theorem dL_law_720 : decode cL_law 720 = .ok (.iconst 0, 1) := by decide +kernel
theorem dL_law_721 : decode cL_law 721 = .ok (.ireturn, 1) := by decide +kernel
theorem dL_law_722 : decode cL_law 722 = .ok (.aload_n 1, 1) := by decide +kernel
theorem dL_law_723 : decode cL_law 723 = .ok (.invokevirtual 90, 3) := by decide +kernel
theorem dL_law_726 : decode cL_law 726 = .ok (.aload_n 2, 1) := by decide +kernel
theorem dL_law_727 : decode cL_law 727 = .ok (.invokevirtual 93, 3) := by decide +kernel
theorem dL_law_730 : decode cL_law 730 = .ok (.if_icmp .eq 5, 3) := by decide +kernel
theorem dL_law_733 : decode cL_law 733 = .ok (.iconst 0, 1) := by decide +kernel
theorem dL_law_734 : decode cL_law 734 = .ok (.ireturn, 1) := by decide +kernel
theorem dL_law_735 : decode cL_law 735 = .ok (.iinc 4 5, 3) := by decide +kernel
theorem dL_law_738 : decode cL_law 738 = .ok (.goto (-715), 3) := by decide +kernel
theorem dL_law_741 : decode cL_law 741 = .ok (.iconst 1, 1) := by decide +kernel
theorem dL_law_742 : decode cL_law 742 = .ok (.ireturn, 1) := by decide +kernel
