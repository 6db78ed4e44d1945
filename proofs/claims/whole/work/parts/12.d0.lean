theorem d_Law_law_0 : decode code 0 = .ok (.new 7, 3) := by decide +kernel
theorem d_Law_law_3 : decode code 3 = .ok (.dup, 1) := by decide +kernel
theorem d_Law_law_4 : decode code 4 = .ok (.invokespecial 9, 3) := by decide +kernel
theorem d_Law_law_7 : decode code 7 = .ok (.astore_n 1, 1) := by decide +kernel
theorem d_Law_law_8 : decode code 8 = .ok (.new 10, 3) := by decide +kernel
theorem d_Law_law_11 : decode code 11 = .ok (.dup, 1) := by decide +kernel
theorem d_Law_law_12 : decode code 12 = .ok (.invokespecial 12, 3) := by decide +kernel
theorem d_Law_law_15 : decode code 15 = .ok (.astore_n 2, 1) := by decide +kernel
theorem d_Law_law_16 : decode code 16 = .ok (.iconst 0, 1) := by decide +kernel
theorem d_Law_law_17 : decode code 17 = .ok (.istore_n 3, 1) := by decide +kernel
theorem d_Law_law_18 : decode code 18 = .ok (.iload_n 3, 1) := by decide +kernel
theorem d_Law_law_19 : decode code 19 = .ok (.aload_n 0, 1) := by decide +kernel
theorem d_Law_law_20 : decode code 20 = .ok (.arraylength, 1) := by decide +kernel
theorem d_Law_law_21 : decode code 21 = .ok (.iconst 4, 1) := by decide +kernel
theorem d_Law_law_22 : decode code 22 = .ok (.isub, 1) := by decide +kernel
theorem d_Law_law_23 : decode code 23 = .ok (.if_icmp .gt (601), 3) := by decide +kernel
theorem d_Law_law_26 : decode code 26 = .ok (.aload_n 0, 1) := by decide +kernel
theorem d_Law_law_27 : decode code 27 = .ok (.iload_n 3, 1) := by decide +kernel
theorem d_Law_law_28 : decode code 28 = .ok (.iaload, 1) := by decide +kernel
theorem d_Law_law_29 : decode code 29 = .ok (.bipush 15, 2) := by decide +kernel
theorem d_Law_law_31 : decode code 31 = .ok (.iand, 1) := by decide +kernel
theorem d_Law_law_32 : decode code 32 = .ok (.tableswitch (586) (0) (15) #[80, 103, 126, 159, 192, 241, 276, 299, 332, 355, 388, 431, 474, 497, 530, 553], 80) := by decide +kernel
theorem d_Law_law_112 : decode code 112 = .ok (.aload_n 1, 1) := by decide +kernel
theorem d_Law_law_113 : decode code 113 = .ok (.aload_n 0, 1) := by decide +kernel
theorem d_Law_law_114 : decode code 114 = .ok (.iload_n 3, 1) := by decide +kernel
theorem d_Law_law_115 : decode code 115 = .ok (.iconst 1, 1) := by decide +kernel
theorem d_Law_law_116 : decode code 116 = .ok (.iadd, 1) := by decide +kernel
theorem d_Law_law_117 : decode code 117 = .ok (.iaload, 1) := by decide +kernel
theorem d_Law_law_118 : decode code 118 = .ok (.invokevirtual 13, 3) := by decide +kernel
theorem d_Law_law_121 : decode code 121 = .ok (.aload_n 2, 1) := by decide +kernel
theorem d_Law_law_122 : decode code 122 = .ok (.aload_n 0, 1) := by decide +kernel
theorem d_Law_law_123 : decode code 123 = .ok (.iload_n 3, 1) := by decide +kernel
theorem d_Law_law_124 : decode code 124 = .ok (.iconst 1, 1) := by decide +kernel
theorem d_Law_law_125 : decode code 125 = .ok (.iadd, 1) := by decide +kernel
theorem d_Law_law_126 : decode code 126 = .ok (.iaload, 1) := by decide +kernel
theorem d_Law_law_127 : decode code 127 = .ok (.invokevirtual 17, 3) := by decide +kernel
theorem d_Law_law_130 : decode code 130 = .ok (.if_icmp .eq (488), 3) := by decide +kernel
theorem d_Law_law_133 : decode code 133 = .ok (.iconst 0, 1) := by decide +kernel
theorem d_Law_law_134 : decode code 134 = .ok (.ireturn, 1) := by decide +kernel
theorem d_Law_law_135 : decode code 135 = .ok (.aload_n 1, 1) := by decide +kernel
theorem d_Law_law_136 : decode code 136 = .ok (.aload_n 0, 1) := by decide +kernel
theorem d_Law_law_137 : decode code 137 = .ok (.iload_n 3, 1) := by decide +kernel
theorem d_Law_law_138 : decode code 138 = .ok (.iconst 1, 1) := by decide +kernel
theorem d_Law_law_139 : decode code 139 = .ok (.iadd, 1) := by decide +kernel
theorem d_Law_law_140 : decode code 140 = .ok (.iaload, 1) := by decide +kernel
theorem d_Law_law_141 : decode code 141 = .ok (.invokevirtual 18, 3) := by decide +kernel
theorem d_Law_law_144 : decode code 144 = .ok (.aload_n 2, 1) := by decide +kernel
theorem d_Law_law_145 : decode code 145 = .ok (.aload_n 0, 1) := by decide +kernel
theorem d_Law_law_146 : decode code 146 = .ok (.iload_n 3, 1) := by decide +kernel
theorem d_Law_law_147 : decode code 147 = .ok (.iconst 1, 1) := by decide +kernel
theorem d_Law_law_148 : decode code 148 = .ok (.iadd, 1) := by decide +kernel
theorem d_Law_law_149 : decode code 149 = .ok (.iaload, 1) := by decide +kernel
theorem d_Law_law_150 : decode code 150 = .ok (.invokevirtual 21, 3) := by decide +kernel
theorem d_Law_law_153 : decode code 153 = .ok (.if_icmp .eq (465), 3) := by decide +kernel
theorem d_Law_law_156 : decode code 156 = .ok (.iconst 0, 1) := by decide +kernel
theorem d_Law_law_157 : decode code 157 = .ok (.ireturn, 1) := by decide +kernel
theorem d_Law_law_158 : decode code 158 = .ok (.aload_n 1, 1) := by decide +kernel
theorem d_Law_law_159 : decode code 159 = .ok (.aload_n 0, 1) := by decide +kernel
theorem d_Law_law_160 : decode code 160 = .ok (.iload_n 3, 1) := by decide +kernel
theorem d_Law_law_161 : decode code 161 = .ok (.iconst 1, 1) := by decide +kernel
theorem d_Law_law_162 : decode code 162 = .ok (.iadd, 1) := by decide +kernel
theorem d_Law_law_163 : decode code 163 = .ok (.iaload, 1) := by decide +kernel
theorem d_Law_law_164 : decode code 164 = .ok (.aload_n 0, 1) := by decide +kernel
theorem d_Law_law_165 : decode code 165 = .ok (.iload_n 3, 1) := by decide +kernel
theorem d_Law_law_166 : decode code 166 = .ok (.iconst 2, 1) := by decide +kernel
theorem d_Law_law_167 : decode code 167 = .ok (.iadd, 1) := by decide +kernel
theorem d_Law_law_168 : decode code 168 = .ok (.iaload, 1) := by decide +kernel
theorem d_Law_law_169 : decode code 169 = .ok (.invokevirtual 22, 3) := by decide +kernel
theorem d_Law_law_172 : decode code 172 = .ok (.aload_n 2, 1) := by decide +kernel
theorem d_Law_law_173 : decode code 173 = .ok (.aload_n 0, 1) := by decide +kernel
theorem d_Law_law_174 : decode code 174 = .ok (.iload_n 3, 1) := by decide +kernel
theorem d_Law_law_175 : decode code 175 = .ok (.iconst 1, 1) := by decide +kernel
theorem d_Law_law_176 : decode code 176 = .ok (.iadd, 1) := by decide +kernel
theorem d_Law_law_177 : decode code 177 = .ok (.iaload, 1) := by decide +kernel
theorem d_Law_law_178 : decode code 178 = .ok (.aload_n 0, 1) := by decide +kernel
theorem d_Law_law_179 : decode code 179 = .ok (.iload_n 3, 1) := by decide +kernel
theorem d_Law_law_180 : decode code 180 = .ok (.iconst 2, 1) := by decide +kernel
theorem d_Law_law_181 : decode code 181 = .ok (.iadd, 1) := by decide +kernel
theorem d_Law_law_182 : decode code 182 = .ok (.iaload, 1) := by decide +kernel
theorem d_Law_law_183 : decode code 183 = .ok (.invokevirtual 26, 3) := by decide +kernel
theorem d_Law_law_186 : decode code 186 = .ok (.if_icmp .eq (432), 3) := by decide +kernel
theorem d_Law_law_189 : decode code 189 = .ok (.iconst 0, 1) := by decide +kernel
theorem d_Law_law_190 : decode code 190 = .ok (.ireturn, 1) := by decide +kernel
theorem d_Law_law_191 : decode code 191 = .ok (.aload_n 1, 1) := by decide +kernel
theorem d_Law_law_192 : decode code 192 = .ok (.aload_n 0, 1) := by decide +kernel
theorem d_Law_law_193 : decode code 193 = .ok (.iload_n 3, 1) := by decide +kernel
theorem d_Law_law_194 : decode code 194 = .ok (.iconst 1, 1) := by decide +kernel
theorem d_Law_law_195 : decode code 195 = .ok (.iadd, 1) := by decide +kernel
theorem d_Law_law_196 : decode code 196 = .ok (.iaload, 1) := by decide +kernel
theorem d_Law_law_197 : decode code 197 = .ok (.aload_n 0, 1) := by decide +kernel
theorem d_Law_law_198 : decode code 198 = .ok (.iload_n 3, 1) := by decide +kernel
theorem d_Law_law_199 : decode code 199 = .ok (.iconst 2, 1) := by decide +kernel
theorem d_Law_law_200 : decode code 200 = .ok (.iadd, 1) := by decide +kernel
theorem d_Law_law_201 : decode code 201 = .ok (.iaload, 1) := by decide +kernel
theorem d_Law_law_202 : decode code 202 = .ok (.invokevirtual 27, 3) := by decide +kernel
theorem d_Law_law_205 : decode code 205 = .ok (.aload_n 2, 1) := by decide +kernel
theorem d_Law_law_206 : decode code 206 = .ok (.aload_n 0, 1) := by decide +kernel
theorem d_Law_law_207 : decode code 207 = .ok (.iload_n 3, 1) := by decide +kernel
theorem d_Law_law_208 : decode code 208 = .ok (.iconst 1, 1) := by decide +kernel
theorem d_Law_law_209 : decode code 209 = .ok (.iadd, 1) := by decide +kernel
theorem d_Law_law_210 : decode code 210 = .ok (.iaload, 1) := by decide +kernel
theorem d_Law_law_211 : decode code 211 = .ok (.aload_n 0, 1) := by decide +kernel
theorem d_Law_law_212 : decode code 212 = .ok (.iload_n 3, 1) := by decide +kernel
theorem d_Law_law_213 : decode code 213 = .ok (.iconst 2, 1) := by decide +kernel
theorem d_Law_law_214 : decode code 214 = .ok (.iadd, 1) := by decide +kernel
theorem d_Law_law_215 : decode code 215 = .ok (.iaload, 1) := by decide +kernel
theorem d_Law_law_216 : decode code 216 = .ok (.invokevirtual 30, 3) := by decide +kernel
theorem d_Law_law_219 : decode code 219 = .ok (.if_icmp .eq (399), 3) := by decide +kernel
theorem d_Law_law_222 : decode code 222 = .ok (.iconst 0, 1) := by decide +kernel
theorem d_Law_law_223 : decode code 223 = .ok (.ireturn, 1) := by decide +kernel
