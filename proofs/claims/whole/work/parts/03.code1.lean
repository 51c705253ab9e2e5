theorem d_Mod_pick_35 : decode M_Mod_pick.2.1 35 = .ok (.getfield 131, 3) := by decide +kernel
theorem d_Mod_pick_38 : decode M_Mod_pick.2.1 38 = .ok (.if_icmp .ge 21, 3) := by decide +kernel
theorem d_Mod_pick_41 : decode M_Mod_pick.2.1 41 = .ok (.aload_n 0, 1) := by decide +kernel
theorem d_Mod_pick_42 : decode M_Mod_pick.2.1 42 = .ok (.getfield 48, 3) := by decide +kernel
theorem d_Mod_pick_45 : decode M_Mod_pick.2.1 45 = .ok (.iload_n 1, 1) := by decide +kernel
theorem d_Mod_pick_46 : decode M_Mod_pick.2.1 46 = .ok (.iload_n 1, 1) := by decide +kernel
theorem d_Mod_pick_47 : decode M_Mod_pick.2.1 47 = .ok (.aload_n 0, 1) := by decide +kernel
theorem d_Mod_pick_48 : decode M_Mod_pick.2.1 48 = .ok (.getfield 134, 3) := by decide +kernel
theorem d_Mod_pick_51 : decode M_Mod_pick.2.1 51 = .ok (.irem, 1) := by decide +kernel
theorem d_Mod_pick_52 : decode M_Mod_pick.2.1 52 = .ok (.iastore, 1) := by decide +kernel
theorem d_Mod_pick_53 : decode M_Mod_pick.2.1 53 = .ok (.iinc 1 1, 3) := by decide +kernel
theorem d_Mod_pick_56 : decode M_Mod_pick.2.1 56 = .ok (.goto (-23), 3) := by decide +kernel
theorem d_Mod_pick_59 : decode M_Mod_pick.2.1 59 = .ok (.iconst 0, 1) := by decide +kernel
theorem d_Mod_pick_60 : decode M_Mod_pick.2.1 60 = .ok (.istore_n 1, 1) := by decide +kernel
theorem d_Mod_pick_61 : decode M_Mod_pick.2.1 61 = .ok (.iload_n 1, 1) := by decide +kernel
theorem d_Mod_pick_62 : decode M_Mod_pick.2.1 62 = .ok (.iconst 3, 1) := by decide +kernel
theorem d_Mod_pick_63 : decode M_Mod_pick.2.1 63 = .ok (.if_icmp .ge 221, 3) := by decide +kernel
theorem d_Mod_pick_66 : decode M_Mod_pick.2.1 66 = .ok (.iconst 0, 1) := by decide +kernel
theorem d_Mod_pick_67 : decode M_Mod_pick.2.1 67 = .ok (.istore_n 2, 1) := by decide +kernel
theorem d_Mod_pick_68 : decode M_Mod_pick.2.1 68 = .ok (.iload_n 2, 1) := by decide +kernel
theorem d_Mod_pick_69 : decode M_Mod_pick.2.1 69 = .ok (.aload_n 0, 1) := by decide +kernel
theorem d_Mod_pick_70 : decode M_Mod_pick.2.1 70 = .ok (.getfield 134, 3) := by decide +kernel
theorem d_Mod_pick_73 : decode M_Mod_pick.2.1 73 = .ok (.if_icmp .ge 130, 3) := by decide +kernel
theorem d_Mod_pick_76 : decode M_Mod_pick.2.1 76 = .ok (.iconst 0, 1) := by decide +kernel
theorem d_Mod_pick_77 : decode M_Mod_pick.2.1 77 = .ok (.istore_n 3, 1) := by decide +kernel
theorem d_Mod_pick_78 : decode M_Mod_pick.2.1 78 = .ok (.iload_n 3, 1) := by decide +kernel
theorem d_Mod_pick_79 : decode M_Mod_pick.2.1 79 = .ok (.aload_n 0, 1) := by decide +kernel
theorem d_Mod_pick_80 : decode M_Mod_pick.2.1 80 = .ok (.getfield 108, 3) := by decide +kernel
theorem d_Mod_pick_83 : decode M_Mod_pick.2.1 83 = .ok (.iconst 2, 1) := by decide +kernel
theorem d_Mod_pick_84 : decode M_Mod_pick.2.1 84 = .ok (.iadd, 1) := by decide +kernel
theorem d_Mod_pick_85 : decode M_Mod_pick.2.1 85 = .ok (.if_icmp .ge 16, 3) := by decide +kernel
theorem d_Mod_pick_88 : decode M_Mod_pick.2.1 88 = .ok (.aload_n 0, 1) := by decide +kernel
theorem d_Mod_pick_89 : decode M_Mod_pick.2.1 89 = .ok (.getfield 57, 3) := by decide +kernel
theorem d_Mod_pick_92 : decode M_Mod_pick.2.1 92 = .ok (.iload_n 3, 1) := by decide +kernel
theorem d_Mod_pick_93 : decode M_Mod_pick.2.1 93 = .ok (.iconst 0, 1) := by decide +kernel
theorem d_Mod_pick_94 : decode M_Mod_pick.2.1 94 = .ok (.iastore, 1) := by decide +kernel
theorem d_Mod_pick_95 : decode M_Mod_pick.2.1 95 = .ok (.iinc 3 1, 3) := by decide +kernel
theorem d_Mod_pick_98 : decode M_Mod_pick.2.1 98 = .ok (.goto (-20), 3) := by decide +kernel
theorem d_Mod_pick_101 : decode M_Mod_pick.2.1 101 = .ok (.iconst 0, 1) := by decide +kernel
theorem d_Mod_pick_102 : decode M_Mod_pick.2.1 102 = .ok (.istore_n 3, 1) := by decide +kernel
theorem d_Mod_pick_103 : decode M_Mod_pick.2.1 103 = .ok (.iload_n 3, 1) := by decide +kernel
theorem d_Mod_pick_104 : decode M_Mod_pick.2.1 104 = .ok (.aload_n 0, 1) := by decide +kernel
theorem d_Mod_pick_105 : decode M_Mod_pick.2.1 105 = .ok (.getfield 111, 3) := by decide +kernel
theorem d_Mod_pick_108 : decode M_Mod_pick.2.1 108 = .ok (.if_icmp .ge 41, 3) := by decide +kernel
theorem d_Mod_pick_111 : decode M_Mod_pick.2.1 111 = .ok (.aload_n 0, 1) := by decide +kernel
theorem d_Mod_pick_112 : decode M_Mod_pick.2.1 112 = .ok (.getfield 57, 3) := by decide +kernel
theorem d_Mod_pick_115 : decode M_Mod_pick.2.1 115 = .ok (.aload_n 0, 1) := by decide +kernel
theorem d_Mod_pick_116 : decode M_Mod_pick.2.1 116 = .ok (.getfield 32, 3) := by decide +kernel
theorem d_Mod_pick_119 : decode M_Mod_pick.2.1 119 = .ok (.iload_n 3, 1) := by decide +kernel
theorem d_Mod_pick_120 : decode M_Mod_pick.2.1 120 = .ok (.iaload, 1) := by decide +kernel
theorem d_Mod_pick_121 : decode M_Mod_pick.2.1 121 = .ok (.dup2, 1) := by decide +kernel
theorem d_Mod_pick_122 : decode M_Mod_pick.2.1 122 = .ok (.iaload, 1) := by decide +kernel
theorem d_Mod_pick_123 : decode M_Mod_pick.2.1 123 = .ok (.aload_n 0, 1) := by decide +kernel
theorem d_Mod_pick_124 : decode M_Mod_pick.2.1 124 = .ok (.getfield 48, 3) := by decide +kernel
theorem d_Mod_pick_127 : decode M_Mod_pick.2.1 127 = .ok (.iload_n 3, 1) := by decide +kernel
theorem d_Mod_pick_128 : decode M_Mod_pick.2.1 128 = .ok (.bipush 8, 2) := by decide +kernel
theorem d_Mod_pick_130 : decode M_Mod_pick.2.1 130 = .ok (.idiv, 1) := by decide +kernel
theorem d_Mod_pick_131 : decode M_Mod_pick.2.1 131 = .ok (.iaload, 1) := by decide +kernel
theorem d_Mod_pick_132 : decode M_Mod_pick.2.1 132 = .ok (.iload_n 2, 1) := by decide +kernel
theorem d_Mod_pick_133 : decode M_Mod_pick.2.1 133 = .ok (.if_icmp .ne 7, 3) := by decide +kernel
theorem d_Mod_pick_136 : decode M_Mod_pick.2.1 136 = .ok (.iconst 1, 1) := by decide +kernel
theorem d_Mod_pick_137 : decode M_Mod_pick.2.1 137 = .ok (.goto 4, 3) := by decide +kernel
theorem d_Mod_pick_140 : decode M_Mod_pick.2.1 140 = .ok (.iconst 0, 1) := by decide +kernel
theorem d_Mod_pick_141 : decode M_Mod_pick.2.1 141 = .ok (.iadd, 1) := by decide +kernel
theorem d_Mod_pick_142 : decode M_Mod_pick.2.1 142 = .ok (.iastore, 1) := by decide +kernel
theorem d_Mod_pick_143 : decode M_Mod_pick.2.1 143 = .ok (.iinc 3 1, 3) := by decide +kernel
theorem d_Mod_pick_146 : decode M_Mod_pick.2.1 146 = .ok (.goto (-43), 3) := by decide +kernel
theorem d_Mod_pick_149 : decode M_Mod_pick.2.1 149 = .ok (.iconst 0, 1) := by decide +kernel
theorem d_Mod_pick_150 : decode M_Mod_pick.2.1 150 = .ok (.istore_n 3, 1) := by decide +kernel
theorem d_Mod_pick_151 : decode M_Mod_pick.2.1 151 = .ok (.iload_n 3, 1) := by decide +kernel
theorem d_Mod_pick_152 : decode M_Mod_pick.2.1 152 = .ok (.aload_n 0, 1) := by decide +kernel
theorem d_Mod_pick_153 : decode M_Mod_pick.2.1 153 = .ok (.getfield 108, 3) := by decide +kernel
theorem d_Mod_pick_156 : decode M_Mod_pick.2.1 156 = .ok (.iconst 2, 1) := by decide +kernel
theorem d_Mod_pick_157 : decode M_Mod_pick.2.1 157 = .ok (.iadd, 1) := by decide +kernel
theorem d_Mod_pick_158 : decode M_Mod_pick.2.1 158 = .ok (.if_icmp .ge 34, 3) := by decide +kernel
theorem d_Mod_pick_161 : decode M_Mod_pick.2.1 161 = .ok (.aload_n 0, 1) := by decide +kernel
theorem d_Mod_pick_162 : decode M_Mod_pick.2.1 162 = .ok (.getfield 57, 3) := by decide +kernel
theorem d_Mod_pick_165 : decode M_Mod_pick.2.1 165 = .ok (.iload_n 3, 1) := by decide +kernel
theorem d_Mod_pick_166 : decode M_Mod_pick.2.1 166 = .ok (.aload_n 0, 1) := by decide +kernel
theorem d_Mod_pick_167 : decode M_Mod_pick.2.1 167 = .ok (.getfield 57, 3) := by decide +kernel
theorem d_Mod_pick_170 : decode M_Mod_pick.2.1 170 = .ok (.iload_n 3, 1) := by decide +kernel
theorem d_Mod_pick_171 : decode M_Mod_pick.2.1 171 = .ok (.iaload, 1) := by decide +kernel
theorem d_Mod_pick_172 : decode M_Mod_pick.2.1 172 = .ok (.ifCond .ne 7, 3) := by decide +kernel
theorem d_Mod_pick_175 : decode M_Mod_pick.2.1 175 = .ok (.iconst 1, 1) := by decide +kernel
theorem d_Mod_pick_176 : decode M_Mod_pick.2.1 176 = .ok (.goto 9, 3) := by decide +kernel
theorem d_Mod_pick_179 : decode M_Mod_pick.2.1 179 = .ok (.aload_n 0, 1) := by decide +kernel
theorem d_Mod_pick_180 : decode M_Mod_pick.2.1 180 = .ok (.getfield 57, 3) := by decide +kernel
theorem d_Mod_pick_183 : decode M_Mod_pick.2.1 183 = .ok (.iload_n 3, 1) := by decide +kernel
theorem d_Mod_pick_184 : decode M_Mod_pick.2.1 184 = .ok (.iaload, 1) := by decide +kernel
theorem d_Mod_pick_185 : decode M_Mod_pick.2.1 185 = .ok (.iastore, 1) := by decide +kernel
theorem d_Mod_pick_186 : decode M_Mod_pick.2.1 186 = .ok (.iinc 3 1, 3) := by decide +kernel
theorem d_Mod_pick_189 : decode M_Mod_pick.2.1 189 = .ok (.goto (-38), 3) := by decide +kernel
theorem d_Mod_pick_192 : decode M_Mod_pick.2.1 192 = .ok (.aload_n 0, 1) := by decide +kernel
theorem d_Mod_pick_193 : decode M_Mod_pick.2.1 193 = .ok (.iload_n 2, 1) := by decide +kernel
theorem d_Mod_pick_194 : decode M_Mod_pick.2.1 194 = .ok (.invokevirtual 137, 3) := by decide +kernel
theorem d_Mod_pick_197 : decode M_Mod_pick.2.1 197 = .ok (.iinc 2 1, 3) := by decide +kernel
theorem d_Mod_pick_200 : decode M_Mod_pick.2.1 200 = .ok (.goto (-132), 3) := by decide +kernel
theorem d_Mod_pick_203 : decode M_Mod_pick.2.1 203 = .ok (.iconst 0, 1) := by decide +kernel
theorem d_Mod_pick_204 : decode M_Mod_pick.2.1 204 = .ok (.istore_n 2, 1) := by decide +kernel
theorem d_Mod_pick_205 : decode M_Mod_pick.2.1 205 = .ok (.iload_n 2, 1) := by decide +kernel
theorem d_Mod_pick_206 : decode M_Mod_pick.2.1 206 = .ok (.aload_n 0, 1) := by decide +kernel
theorem d_Mod_pick_207 : decode M_Mod_pick.2.1 207 = .ok (.getfield 131, 3) := by decide +kernel
theorem d_Mod_pick_210 : decode M_Mod_pick.2.1 210 = .ok (.if_icmp .ge 68, 3) := by decide +kernel
theorem d_Mod_pick_213 : decode M_Mod_pick.2.1 213 = .ok (.aload_n 0, 1) := by decide +kernel
theorem d_Mod_pick_214 : decode M_Mod_pick.2.1 214 = .ok (.getfield 48, 3) := by decide +kernel
theorem d_Mod_pick_217 : decode M_Mod_pick.2.1 217 = .ok (.iload_n 2, 1) := by decide +kernel
theorem d_Mod_pick_218 : decode M_Mod_pick.2.1 218 = .ok (.iconst 0, 1) := by decide +kernel
theorem d_Mod_pick_219 : decode M_Mod_pick.2.1 219 = .ok (.iastore, 1) := by decide +kernel
theorem d_Mod_pick_220 : decode M_Mod_pick.2.1 220 = .ok (.iconst 1, 1) := by decide +kernel
theorem d_Mod_pick_221 : decode M_Mod_pick.2.1 221 = .ok (.istore_n 3, 1) := by decide +kernel
theorem d_Mod_pick_222 : decode M_Mod_pick.2.1 222 = .ok (.iload_n 3, 1) := by decide +kernel
theorem d_Mod_pick_223 : decode M_Mod_pick.2.1 223 = .ok (.aload_n 0, 1) := by decide +kernel
theorem d_Mod_pick_224 : decode M_Mod_pick.2.1 224 = .ok (.getfield 134, 3) := by decide +kernel
theorem d_Mod_pick_227 : decode M_Mod_pick.2.1 227 = .ok (.if_icmp .ge 45, 3) := by decide +kernel
theorem d_Mod_pick_230 : decode M_Mod_pick.2.1 230 = .ok (.aload_n 0, 1) := by decide +kernel
theorem d_Mod_pick_231 : decode M_Mod_pick.2.1 231 = .ok (.getfield 48, 3) := by decide +kernel
theorem d_Mod_pick_234 : decode M_Mod_pick.2.1 234 = .ok (.iload_n 2, 1) := by decide +kernel
theorem d_Mod_pick_235 : decode M_Mod_pick.2.1 235 = .ok (.aload_n 0, 1) := by decide +kernel
theorem d_Mod_pick_236 : decode M_Mod_pick.2.1 236 = .ok (.iload_n 2, 1) := by decide +kernel
theorem d_Mod_pick_237 : decode M_Mod_pick.2.1 237 = .ok (.iload_n 3, 1) := by decide +kernel
theorem d_Mod_pick_238 : decode M_Mod_pick.2.1 238 = .ok (.invokevirtual 140, 3) := by decide +kernel
theorem d_Mod_pick_241 : decode M_Mod_pick.2.1 241 = .ok (.aload_n 0, 1) := by decide +kernel
theorem d_Mod_pick_242 : decode M_Mod_pick.2.1 242 = .ok (.iload_n 2, 1) := by decide +kernel
theorem d_Mod_pick_243 : decode M_Mod_pick.2.1 243 = .ok (.aload_n 0, 1) := by decide +kernel
theorem d_Mod_pick_244 : decode M_Mod_pick.2.1 244 = .ok (.getfield 48, 3) := by decide +kernel
theorem d_Mod_pick_247 : decode M_Mod_pick.2.1 247 = .ok (.iload_n 2, 1) := by decide +kernel
theorem d_Mod_pick_248 : decode M_Mod_pick.2.1 248 = .ok (.iaload, 1) := by decide +kernel
theorem d_Mod_pick_249 : decode M_Mod_pick.2.1 249 = .ok (.invokevirtual 140, 3) := by decide +kernel
theorem d_Mod_pick_252 : decode M_Mod_pick.2.1 252 = .ok (.if_icmp .ge 7, 3) := by decide +kernel
theorem d_Mod_pick_255 : decode M_Mod_pick.2.1 255 = .ok (.iload_n 3, 1) := by decide +kernel
theorem d_Mod_pick_256 : decode M_Mod_pick.2.1 256 = .ok (.goto 9, 3) := by decide +kernel
theorem d_Mod_pick_259 : decode M_Mod_pick.2.1 259 = .ok (.aload_n 0, 1) := by decide +kernel
theorem d_Mod_pick_260 : decode M_Mod_pick.2.1 260 = .ok (.getfield 48, 3) := by decide +kernel
theorem d_Mod_pick_263 : decode M_Mod_pick.2.1 263 = .ok (.iload_n 2, 1) := by decide +kernel
theorem d_Mod_pick_264 : decode M_Mod_pick.2.1 264 = .ok (.iaload, 1) := by decide +kernel
theorem d_Mod_pick_265 : decode M_Mod_pick.2.1 265 = .ok (.iastore, 1) := by decide +kernel
theorem d_Mod_pick_266 : decode M_Mod_pick.2.1 266 = .ok (.iinc 3 1, 3) := by decide +kernel
theorem d_Mod_pick_269 : decode M_Mod_pick.2.1 269 = .ok (.goto (-47), 3) := by decide +kernel
theorem d_Mod_pick_272 : decode M_Mod_pick.2.1 272 = .ok (.iinc 2 1, 3) := by decide +kernel
theorem d_Mod_pick_275 : decode M_Mod_pick.2.1 275 = .ok (.goto (-70), 3) := by decide +kernel
theorem d_Mod_pick_278 : decode M_Mod_pick.2.1 278 = .ok (.iinc 1 1, 3) := by decide +kernel
theorem d_Mod_pick_281 : decode M_Mod_pick.2.1 281 = .ok (.goto (-220), 3) := by decide +kernel
theorem d_Mod_pick_284 : decode M_Mod_pick.2.1 284 = .ok (.iconst 0, 1) := by decide +kernel
theorem d_Mod_pick_285 : decode M_Mod_pick.2.1 285 = .ok (.istore_n 1, 1) := by decide +kernel
theorem d_Mod_pick_286 : decode M_Mod_pick.2.1 286 = .ok (.iload_n 1, 1) := by decide +kernel
theorem d_Mod_pick_287 : decode M_Mod_pick.2.1 287 = .ok (.aload_n 0, 1) := by decide +kernel
theorem d_Mod_pick_288 : decode M_Mod_pick.2.1 288 = .ok (.getfield 134, 3) := by decide +kernel
theorem d_Mod_pick_291 : decode M_Mod_pick.2.1 291 = .ok (.if_icmp .ge 14, 3) := by decide +kernel
theorem d_Mod_pick_294 : decode M_Mod_pick.2.1 294 = .ok (.aload_n 0, 1) := by decide +kernel
theorem d_Mod_pick_295 : decode M_Mod_pick.2.1 295 = .ok (.iload_n 1, 1) := by decide +kernel
theorem d_Mod_pick_296 : decode M_Mod_pick.2.1 296 = .ok (.invokevirtual 143, 3) := by decide +kernel
theorem d_Mod_pick_299 : decode M_Mod_pick.2.1 299 = .ok (.iinc 1 1, 3) := by decide +kernel
theorem d_Mod_pick_302 : decode M_Mod_pick.2.1 302 = .ok (.goto (-16), 3) := by decide +kernel
theorem d_Mod_pick_305 : decode M_Mod_pick.2.1 305 = .ok (.return_, 1) := by decide +kernel
theorem d_Mod_write_0 : decode M_Mod_write.2.1 0 = .ok (.iload_n 2, 1) := by decide +kernel
theorem d_Mod_write_1 : decode M_Mod_write.2.1 1 = .ok (.iconst 1, 1) := by decide +kernel
theorem d_Mod_write_2 : decode M_Mod_write.2.1 2 = .ok (.isub, 1) := by decide +kernel
theorem d_Mod_write_3 : decode M_Mod_write.2.1 3 = .ok (.istore_n 3, 1) := by decide +kernel
theorem d_Mod_write_4 : decode M_Mod_write.2.1 4 = .ok (.iload_n 3, 1) := by decide +kernel
theorem d_Mod_write_5 : decode M_Mod_write.2.1 5 = .ok (.ifCond .lt 76, 3) := by decide +kernel
theorem d_Mod_write_8 : decode M_Mod_write.2.1 8 = .ok (.aload_n 0, 1) := by decide +kernel
theorem d_Mod_write_9 : decode M_Mod_write.2.1 9 = .ok (.getfield 146, 3) := by decide +kernel
theorem d_Mod_write_12 : decode M_Mod_write.2.1 12 = .ok (.ifCond .ne 29, 3) := by decide +kernel
theorem d_Mod_write_15 : decode M_Mod_write.2.1 15 = .ok (.aload_n 0, 1) := by decide +kernel
theorem d_Mod_write_16 : decode M_Mod_write.2.1 16 = .ok (.getfield 16, 3) := by decide +kernel
theorem d_Mod_write_19 : decode M_Mod_write.2.1 19 = .ok (.aload_n 0, 1) := by decide +kernel
theorem d_Mod_write_20 : decode M_Mod_write.2.1 20 = .ok (.getfield 86, 3) := by decide +kernel
theorem d_Mod_write_23 : decode M_Mod_write.2.1 23 = .ok (.iconst 0, 1) := by decide +kernel
theorem d_Mod_write_24 : decode M_Mod_write.2.1 24 = .ok (.iastore, 1) := by decide +kernel
theorem d_Mod_write_25 : decode M_Mod_write.2.1 25 = .ok (.aload_n 0, 1) := by decide +kernel
theorem d_Mod_write_26 : decode M_Mod_write.2.1 26 = .ok (.dup, 1) := by decide +kernel
theorem d_Mod_write_27 : decode M_Mod_write.2.1 27 = .ok (.getfield 86, 3) := by decide +kernel
theorem d_Mod_write_30 : decode M_Mod_write.2.1 30 = .ok (.iconst 1, 1) := by decide +kernel
theorem d_Mod_write_31 : decode M_Mod_write.2.1 31 = .ok (.iadd, 1) := by decide +kernel
theorem d_Mod_write_32 : decode M_Mod_write.2.1 32 = .ok (.putfield 86, 3) := by decide +kernel
theorem d_Mod_write_35 : decode M_Mod_write.2.1 35 = .ok (.aload_n 0, 1) := by decide +kernel
theorem d_Mod_write_36 : decode M_Mod_write.2.1 36 = .ok (.bipush 8, 2) := by decide +kernel
theorem d_Mod_write_38 : decode M_Mod_write.2.1 38 = .ok (.putfield 146, 3) := by decide +kernel
theorem d_Mod_write_41 : decode M_Mod_write.2.1 41 = .ok (.aload_n 0, 1) := by decide +kernel
theorem d_Mod_write_42 : decode M_Mod_write.2.1 42 = .ok (.dup, 1) := by decide +kernel
theorem d_Mod_write_43 : decode M_Mod_write.2.1 43 = .ok (.getfield 146, 3) := by decide +kernel
theorem d_Mod_write_46 : decode M_Mod_write.2.1 46 = .ok (.iconst 1, 1) := by decide +kernel
theorem d_Mod_write_47 : decode M_Mod_write.2.1 47 = .ok (.isub, 1) := by decide +kernel
theorem d_Mod_write_48 : decode M_Mod_write.2.1 48 = .ok (.putfield 146, 3) := by decide +kernel
theorem d_Mod_write_51 : decode M_Mod_write.2.1 51 = .ok (.aload_n 0, 1) := by decide +kernel
theorem d_Mod_write_52 : decode M_Mod_write.2.1 52 = .ok (.getfield 16, 3) := by decide +kernel
theorem d_Mod_write_55 : decode M_Mod_write.2.1 55 = .ok (.aload_n 0, 1) := by decide +kernel
theorem d_Mod_write_56 : decode M_Mod_write.2.1 56 = .ok (.getfield 86, 3) := by decide +kernel
theorem d_Mod_write_59 : decode M_Mod_write.2.1 59 = .ok (.iconst 1, 1) := by decide +kernel
theorem d_Mod_write_60 : decode M_Mod_write.2.1 60 = .ok (.isub, 1) := by decide +kernel
theorem d_Mod_write_61 : decode M_Mod_write.2.1 61 = .ok (.dup2, 1) := by decide +kernel
theorem d_Mod_write_62 : decode M_Mod_write.2.1 62 = .ok (.iaload, 1) := by decide +kernel
theorem d_Mod_write_63 : decode M_Mod_write.2.1 63 = .ok (.iload_n 1, 1) := by decide +kernel
theorem d_Mod_write_64 : decode M_Mod_write.2.1 64 = .ok (.iload_n 3, 1) := by decide +kernel
theorem d_Mod_write_65 : decode M_Mod_write.2.1 65 = .ok (.ishr, 1) := by decide +kernel
theorem d_Mod_write_66 : decode M_Mod_write.2.1 66 = .ok (.iconst 1, 1) := by decide +kernel
theorem d_Mod_write_67 : decode M_Mod_write.2.1 67 = .ok (.iand, 1) := by decide +kernel
theorem d_Mod_write_68 : decode M_Mod_write.2.1 68 = .ok (.aload_n 0, 1) := by decide +kernel
theorem d_Mod_write_69 : decode M_Mod_write.2.1 69 = .ok (.getfield 146, 3) := by decide +kernel
theorem d_Mod_write_72 : decode M_Mod_write.2.1 72 = .ok (.ishl, 1) := by decide +kernel
theorem d_Mod_write_73 : decode M_Mod_write.2.1 73 = .ok (.ior, 1) := by decide +kernel
theorem d_Mod_write_74 : decode M_Mod_write.2.1 74 = .ok (.iastore, 1) := by decide +kernel
theorem d_Mod_write_75 : decode M_Mod_write.2.1 75 = .ok (.iinc 3 (-1), 3) := by decide +kernel
theorem d_Mod_write_78 : decode M_Mod_write.2.1 78 = .ok (.goto (-74), 3) := by decide +kernel
theorem d_Mod_write_81 : decode M_Mod_write.2.1 81 = .ok (.return_, 1) := by decide +kernel
theorem d_Mod_mapOf_0 : decode M_Mod_mapOf.2.1 0 = .ok (.iconst 0, 1) := by decide +kernel
theorem d_Mod_mapOf_1 : decode M_Mod_mapOf.2.1 1 = .ok (.istore_n 3, 1) := by decide +kernel
theorem d_Mod_mapOf_2 : decode M_Mod_mapOf.2.1 2 = .ok (.iconst 0, 1) := by decide +kernel
theorem d_Mod_mapOf_3 : decode M_Mod_mapOf.2.1 3 = .ok (.istore 4, 2) := by decide +kernel
theorem d_Mod_mapOf_5 : decode M_Mod_mapOf.2.1 5 = .ok (.iload 4, 2) := by decide +kernel
theorem d_Mod_mapOf_7 : decode M_Mod_mapOf.2.1 7 = .ok (.bipush 16, 2) := by decide +kernel
theorem d_Mod_mapOf_9 : decode M_Mod_mapOf.2.1 9 = .ok (.if_icmp .ge 76, 3) := by decide +kernel
theorem d_Mod_mapOf_12 : decode M_Mod_mapOf.2.1 12 = .ok (.iconst 0, 1) := by decide +kernel
theorem d_Mod_mapOf_13 : decode M_Mod_mapOf.2.1 13 = .ok (.istore 5, 2) := by decide +kernel
theorem d_Mod_mapOf_15 : decode M_Mod_mapOf.2.1 15 = .ok (.iload_n 1, 1) := by decide +kernel
theorem d_Mod_mapOf_16 : decode M_Mod_mapOf.2.1 16 = .ok (.iload_n 2, 1) := by decide +kernel
theorem d_Mod_mapOf_17 : decode M_Mod_mapOf.2.1 17 = .ok (.iload 4, 2) := by decide +kernel
theorem d_Mod_mapOf_19 : decode M_Mod_mapOf.2.1 19 = .ok (.imul, 1) := by decide +kernel
theorem d_Mod_mapOf_20 : decode M_Mod_mapOf.2.1 20 = .ok (.iadd, 1) := by decide +kernel
theorem d_Mod_mapOf_21 : decode M_Mod_mapOf.2.1 21 = .ok (.istore 6, 2) := by decide +kernel
theorem d_Mod_mapOf_23 : decode M_Mod_mapOf.2.1 23 = .ok (.iload 6, 2) := by decide +kernel
theorem d_Mod_mapOf_25 : decode M_Mod_mapOf.2.1 25 = .ok (.iload_n 1, 1) := by decide +kernel
theorem d_Mod_mapOf_26 : decode M_Mod_mapOf.2.1 26 = .ok (.iload_n 2, 1) := by decide +kernel
theorem d_Mod_mapOf_27 : decode M_Mod_mapOf.2.1 27 = .ok (.iload 4, 2) := by decide +kernel
theorem d_Mod_mapOf_29 : decode M_Mod_mapOf.2.1 29 = .ok (.imul, 1) := by decide +kernel
theorem d_Mod_mapOf_30 : decode M_Mod_mapOf.2.1 30 = .ok (.iadd, 1) := by decide +kernel
theorem d_Mod_mapOf_31 : decode M_Mod_mapOf.2.1 31 = .ok (.iload_n 2, 1) := by decide +kernel
theorem d_Mod_mapOf_32 : decode M_Mod_mapOf.2.1 32 = .ok (.iadd, 1) := by decide +kernel
theorem d_Mod_mapOf_33 : decode M_Mod_mapOf.2.1 33 = .ok (.if_icmp .ge 31, 3) := by decide +kernel
theorem d_Mod_mapOf_36 : decode M_Mod_mapOf.2.1 36 = .ok (.iload 5, 2) := by decide +kernel
theorem d_Mod_mapOf_38 : decode M_Mod_mapOf.2.1 38 = .ok (.ifCond .ne 13, 3) := by decide +kernel
theorem d_Mod_mapOf_41 : decode M_Mod_mapOf.2.1 41 = .ok (.aload_n 0, 1) := by decide +kernel
theorem d_Mod_mapOf_42 : decode M_Mod_mapOf.2.1 42 = .ok (.getfield 35, 3) := by decide +kernel
theorem d_Mod_mapOf_45 : decode M_Mod_mapOf.2.1 45 = .ok (.iload 6, 2) := by decide +kernel
theorem d_Mod_mapOf_47 : decode M_Mod_mapOf.2.1 47 = .ok (.baload, 1) := by decide +kernel
theorem d_Mod_mapOf_48 : decode M_Mod_mapOf.2.1 48 = .ok (.ifCond .eq 7, 3) := by decide +kernel
theorem d_Mod_mapOf_51 : decode M_Mod_mapOf.2.1 51 = .ok (.iconst 1, 1) := by decide +kernel
theorem d_Mod_mapOf_52 : decode M_Mod_mapOf.2.1 52 = .ok (.goto 4, 3) := by decide +kernel
theorem d_Mod_mapOf_55 : decode M_Mod_mapOf.2.1 55 = .ok (.iconst 0, 1) := by decide +kernel
theorem d_Mod_mapOf_56 : decode M_Mod_mapOf.2.1 56 = .ok (.istore 5, 2) := by decide +kernel
theorem d_Mod_mapOf_58 : decode M_Mod_mapOf.2.1 58 = .ok (.iinc 6 1, 3) := by decide +kernel
theorem d_Mod_mapOf_61 : decode M_Mod_mapOf.2.1 61 = .ok (.goto (-38), 3) := by decide +kernel
theorem d_Mod_mapOf_64 : decode M_Mod_mapOf.2.1 64 = .ok (.iconst 2, 1) := by decide +kernel
theorem d_Mod_mapOf_65 : decode M_Mod_mapOf.2.1 65 = .ok (.iload_n 3, 1) := by decide +kernel
theorem d_Mod_mapOf_66 : decode M_Mod_mapOf.2.1 66 = .ok (.imul, 1) := by decide +kernel
theorem d_Mod_mapOf_67 : decode M_Mod_mapOf.2.1 67 = .ok (.iload 5, 2) := by decide +kernel
theorem d_Mod_mapOf_69 : decode M_Mod_mapOf.2.1 69 = .ok (.ifCond .eq 7, 3) := by decide +kernel
theorem d_Mod_mapOf_72 : decode M_Mod_mapOf.2.1 72 = .ok (.iconst 1, 1) := by decide +kernel
theorem d_Mod_mapOf_73 : decode M_Mod_mapOf.2.1 73 = .ok (.goto 4, 3) := by decide +kernel
theorem d_Mod_mapOf_76 : decode M_Mod_mapOf.2.1 76 = .ok (.iconst 0, 1) := by decide +kernel
theorem d_Mod_mapOf_77 : decode M_Mod_mapOf.2.1 77 = .ok (.iadd, 1) := by decide +kernel
theorem d_Mod_mapOf_78 : decode M_Mod_mapOf.2.1 78 = .ok (.istore_n 3, 1) := by decide +kernel
theorem d_Mod_mapOf_79 : decode M_Mod_mapOf.2.1 79 = .ok (.iinc 4 1, 3) := by decide +kernel
theorem d_Mod_mapOf_82 : decode M_Mod_mapOf.2.1 82 = .ok (.goto (-77), 3) := by decide +kernel
theorem d_Mod_mapOf_85 : decode M_Mod_mapOf.2.1 85 = .ok (.iload_n 3, 1) := by decide +kernel
theorem d_Mod_mapOf_86 : decode M_Mod_mapOf.2.1 86 = .ok (.ireturn, 1) := by decide +kernel
theorem d_Mod_writeMaps_0 : decode M_Mod_writeMaps.2.1 0 = .ok (.aload_n 0, 1) := by decide +kernel
theorem d_Mod_writeMaps_1 : decode M_Mod_writeMaps.2.1 1 = .ok (.iconst 0, 1) := by decide +kernel
theorem d_Mod_writeMaps_2 : decode M_Mod_writeMaps.2.1 2 = .ok (.bipush 16, 2) := by decide +kernel
theorem d_Mod_writeMaps_4 : decode M_Mod_writeMaps.2.1 4 = .ok (.invokevirtual 149, 3) := by decide +kernel
theorem d_Mod_writeMaps_7 : decode M_Mod_writeMaps.2.1 7 = .ok (.istore_n 1, 1) := by decide +kernel
theorem d_Mod_writeMaps_8 : decode M_Mod_writeMaps.2.1 8 = .ok (.aload_n 0, 1) := by decide +kernel
theorem d_Mod_writeMaps_9 : decode M_Mod_writeMaps.2.1 9 = .ok (.iload_n 1, 1) := by decide +kernel
theorem d_Mod_writeMaps_10 : decode M_Mod_writeMaps.2.1 10 = .ok (.bipush 16, 2) := by decide +kernel
theorem d_Mod_writeMaps_12 : decode M_Mod_writeMaps.2.1 12 = .ok (.invokevirtual 152, 3) := by decide +kernel
theorem d_Mod_writeMaps_15 : decode M_Mod_writeMaps.2.1 15 = .ok (.iconst 0, 1) := by decide +kernel
theorem d_Mod_writeMaps_16 : decode M_Mod_writeMaps.2.1 16 = .ok (.istore_n 2, 1) := by decide +kernel
theorem d_Mod_writeMaps_17 : decode M_Mod_writeMaps.2.1 17 = .ok (.iload_n 2, 1) := by decide +kernel
theorem d_Mod_writeMaps_18 : decode M_Mod_writeMaps.2.1 18 = .ok (.bipush 16, 2) := by decide +kernel
theorem d_Mod_writeMaps_20 : decode M_Mod_writeMaps.2.1 20 = .ok (.if_icmp .ge 36, 3) := by decide +kernel
theorem d_Mod_writeMaps_23 : decode M_Mod_writeMaps.2.1 23 = .ok (.iload_n 1, 1) := by decide +kernel
theorem d_Mod_writeMaps_24 : decode M_Mod_writeMaps.2.1 24 = .ok (.bipush 15, 2) := by decide +kernel
theorem d_Mod_writeMaps_26 : decode M_Mod_writeMaps.2.1 26 = .ok (.iload_n 2, 1) := by decide +kernel
theorem d_Mod_writeMaps_27 : decode M_Mod_writeMaps.2.1 27 = .ok (.isub, 1) := by decide +kernel
theorem d_Mod_writeMaps_28 : decode M_Mod_writeMaps.2.1 28 = .ok (.ishr, 1) := by decide +kernel
theorem d_Mod_writeMaps_29 : decode M_Mod_writeMaps.2.1 29 = .ok (.iconst 1, 1) := by decide +kernel
theorem d_Mod_writeMaps_30 : decode M_Mod_writeMaps.2.1 30 = .ok (.iand, 1) := by decide +kernel
theorem d_Mod_writeMaps_31 : decode M_Mod_writeMaps.2.1 31 = .ok (.iconst 1, 1) := by decide +kernel
theorem d_Mod_writeMaps_32 : decode M_Mod_writeMaps.2.1 32 = .ok (.if_icmp .ne 18, 3) := by decide +kernel
theorem d_Mod_writeMaps_35 : decode M_Mod_writeMaps.2.1 35 = .ok (.aload_n 0, 1) := by decide +kernel
theorem d_Mod_writeMaps_36 : decode M_Mod_writeMaps.2.1 36 = .ok (.aload_n 0, 1) := by decide +kernel
theorem d_Mod_writeMaps_37 : decode M_Mod_writeMaps.2.1 37 = .ok (.bipush 16, 2) := by decide +kernel
theorem d_Mod_writeMaps_39 : decode M_Mod_writeMaps.2.1 39 = .ok (.iload_n 2, 1) := by decide +kernel
theorem d_Mod_writeMaps_40 : decode M_Mod_writeMaps.2.1 40 = .ok (.imul, 1) := by decide +kernel
theorem d_Mod_writeMaps_41 : decode M_Mod_writeMaps.2.1 41 = .ok (.iconst 1, 1) := by decide +kernel
theorem d_Mod_writeMaps_42 : decode M_Mod_writeMaps.2.1 42 = .ok (.invokevirtual 149, 3) := by decide +kernel
theorem d_Mod_writeMaps_45 : decode M_Mod_writeMaps.2.1 45 = .ok (.bipush 16, 2) := by decide +kernel
theorem d_Mod_writeMaps_47 : decode M_Mod_writeMaps.2.1 47 = .ok (.invokevirtual 152, 3) := by decide +kernel
theorem d_Mod_writeMaps_50 : decode M_Mod_writeMaps.2.1 50 = .ok (.iinc 2 1, 3) := by decide +kernel
theorem d_Mod_writeMaps_53 : decode M_Mod_writeMaps.2.1 53 = .ok (.goto (-36), 3) := by decide +kernel
theorem d_Mod_writeMaps_56 : decode M_Mod_writeMaps.2.1 56 = .ok (.return_, 1) := by decide +kernel
theorem d_Mod_beginOrder_0 : decode M_Mod_beginOrder.2.1 0 = .ok (.iconst 0, 1) := by decide +kernel
theorem d_Mod_beginOrder_1 : decode M_Mod_beginOrder.2.1 1 = .ok (.istore_n 1, 1) := by decide +kernel
theorem d_Mod_beginOrder_2 : decode M_Mod_beginOrder.2.1 2 = .ok (.iload_n 1, 1) := by decide +kernel
theorem d_Mod_beginOrder_3 : decode M_Mod_beginOrder.2.1 3 = .ok (.iconst 4, 1) := by decide +kernel
theorem d_Mod_beginOrder_4 : decode M_Mod_beginOrder.2.1 4 = .ok (.if_icmp .ge 16, 3) := by decide +kernel
theorem d_Mod_beginOrder_7 : decode M_Mod_beginOrder.2.1 7 = .ok (.aload_n 0, 1) := by decide +kernel
theorem d_Mod_beginOrder_8 : decode M_Mod_beginOrder.2.1 8 = .ok (.getfield 51, 3) := by decide +kernel
theorem d_Mod_beginOrder_11 : decode M_Mod_beginOrder.2.1 11 = .ok (.iload_n 1, 1) := by decide +kernel
theorem d_Mod_beginOrder_12 : decode M_Mod_beginOrder.2.1 12 = .ok (.iload_n 1, 1) := by decide +kernel
theorem d_Mod_beginOrder_13 : decode M_Mod_beginOrder.2.1 13 = .ok (.iastore, 1) := by decide +kernel
theorem d_Mod_beginOrder_14 : decode M_Mod_beginOrder.2.1 14 = .ok (.iinc 1 1, 3) := by decide +kernel
theorem d_Mod_beginOrder_17 : decode M_Mod_beginOrder.2.1 17 = .ok (.goto (-15), 3) := by decide +kernel
theorem d_Mod_beginOrder_20 : decode M_Mod_beginOrder.2.1 20 = .ok (.return_, 1) := by decide +kernel
theorem d_Mod_orderFront_0 : decode M_Mod_orderFront.2.1 0 = .ok (.aload_n 0, 1) := by decide +kernel
theorem d_Mod_orderFront_1 : decode M_Mod_orderFront.2.1 1 = .ok (.getfield 51, 3) := by decide +kernel
theorem d_Mod_orderFront_4 : decode M_Mod_orderFront.2.1 4 = .ok (.iload_n 1, 1) := by decide +kernel
theorem d_Mod_orderFront_5 : decode M_Mod_orderFront.2.1 5 = .ok (.iaload, 1) := by decide +kernel
theorem d_Mod_orderFront_6 : decode M_Mod_orderFront.2.1 6 = .ok (.istore_n 2, 1) := by decide +kernel
theorem d_Mod_orderFront_7 : decode M_Mod_orderFront.2.1 7 = .ok (.iload_n 1, 1) := by decide +kernel
theorem d_Mod_orderFront_8 : decode M_Mod_orderFront.2.1 8 = .ok (.istore_n 3, 1) := by decide +kernel
theorem d_Mod_orderFront_9 : decode M_Mod_orderFront.2.1 9 = .ok (.iload_n 3, 1) := by decide +kernel
theorem d_Mod_orderFront_10 : decode M_Mod_orderFront.2.1 10 = .ok (.ifCond .le 23, 3) := by decide +kernel
theorem d_Mod_orderFront_13 : decode M_Mod_orderFront.2.1 13 = .ok (.aload_n 0, 1) := by decide +kernel
theorem d_Mod_orderFront_14 : decode M_Mod_orderFront.2.1 14 = .ok (.getfield 51, 3) := by decide +kernel
theorem d_Mod_orderFront_17 : decode M_Mod_orderFront.2.1 17 = .ok (.iload_n 3, 1) := by decide +kernel
theorem d_Mod_orderFront_18 : decode M_Mod_orderFront.2.1 18 = .ok (.aload_n 0, 1) := by decide +kernel
theorem d_Mod_orderFront_19 : decode M_Mod_orderFront.2.1 19 = .ok (.getfield 51, 3) := by decide +kernel
theorem d_Mod_orderFront_22 : decode M_Mod_orderFront.2.1 22 = .ok (.iload_n 3, 1) := by decide +kernel
theorem d_Mod_orderFront_23 : decode M_Mod_orderFront.2.1 23 = .ok (.iconst 1, 1) := by decide +kernel
theorem d_Mod_orderFront_24 : decode M_Mod_orderFront.2.1 24 = .ok (.isub, 1) := by decide +kernel
theorem d_Mod_orderFront_25 : decode M_Mod_orderFront.2.1 25 = .ok (.iaload, 1) := by decide +kernel
theorem d_Mod_orderFront_26 : decode M_Mod_orderFront.2.1 26 = .ok (.iastore, 1) := by decide +kernel
theorem d_Mod_orderFront_27 : decode M_Mod_orderFront.2.1 27 = .ok (.iinc 3 (-1), 3) := by decide +kernel
theorem d_Mod_orderFront_30 : decode M_Mod_orderFront.2.1 30 = .ok (.goto (-21), 3) := by decide +kernel
theorem d_Mod_orderFront_33 : decode M_Mod_orderFront.2.1 33 = .ok (.aload_n 0, 1) := by decide +kernel
theorem d_Mod_orderFront_34 : decode M_Mod_orderFront.2.1 34 = .ok (.getfield 51, 3) := by decide +kernel
theorem d_Mod_orderFront_37 : decode M_Mod_orderFront.2.1 37 = .ok (.iconst 0, 1) := by decide +kernel
theorem d_Mod_orderFront_38 : decode M_Mod_orderFront.2.1 38 = .ok (.iload_n 2, 1) := by decide +kernel
theorem d_Mod_orderFront_39 : decode M_Mod_orderFront.2.1 39 = .ok (.iastore, 1) := by decide +kernel
theorem d_Mod_orderFront_40 : decode M_Mod_orderFront.2.1 40 = .ok (.iload_n 2, 1) := by decide +kernel
theorem d_Mod_orderFront_41 : decode M_Mod_orderFront.2.1 41 = .ok (.ireturn, 1) := by decide +kernel
theorem d_Mod_writePicks_0 : decode M_Mod_writePicks.2.1 0 = .ok (.aload_n 0, 1) := by decide +kernel
theorem d_Mod_writePicks_1 : decode M_Mod_writePicks.2.1 1 = .ok (.invokevirtual 156, 3) := by decide +kernel
theorem d_Mod_writePicks_4 : decode M_Mod_writePicks.2.1 4 = .ok (.iconst 0, 1) := by decide +kernel
theorem d_Mod_writePicks_5 : decode M_Mod_writePicks.2.1 5 = .ok (.istore_n 1, 1) := by decide +kernel
theorem d_Mod_writePicks_6 : decode M_Mod_writePicks.2.1 6 = .ok (.iload_n 1, 1) := by decide +kernel
theorem d_Mod_writePicks_7 : decode M_Mod_writePicks.2.1 7 = .ok (.aload_n 0, 1) := by decide +kernel
theorem d_Mod_writePicks_8 : decode M_Mod_writePicks.2.1 8 = .ok (.getfield 131, 3) := by decide +kernel
theorem d_Mod_writePicks_11 : decode M_Mod_writePicks.2.1 11 = .ok (.if_icmp .ge 69, 3) := by decide +kernel
theorem d_Mod_writePicks_14 : decode M_Mod_writePicks.2.1 14 = .ok (.iconst 0, 1) := by decide +kernel
theorem d_Mod_writePicks_15 : decode M_Mod_writePicks.2.1 15 = .ok (.istore_n 2, 1) := by decide +kernel
theorem d_Mod_writePicks_16 : decode M_Mod_writePicks.2.1 16 = .ok (.aload_n 0, 1) := by decide +kernel
theorem d_Mod_writePicks_17 : decode M_Mod_writePicks.2.1 17 = .ok (.getfield 51, 3) := by decide +kernel
theorem d_Mod_writePicks_20 : decode M_Mod_writePicks.2.1 20 = .ok (.iload_n 2, 1) := by decide +kernel
theorem d_Mod_writePicks_21 : decode M_Mod_writePicks.2.1 21 = .ok (.iaload, 1) := by decide +kernel
theorem d_Mod_writePicks_22 : decode M_Mod_writePicks.2.1 22 = .ok (.aload_n 0, 1) := by decide +kernel
theorem d_Mod_writePicks_23 : decode M_Mod_writePicks.2.1 23 = .ok (.getfield 48, 3) := by decide +kernel
theorem d_Mod_writePicks_26 : decode M_Mod_writePicks.2.1 26 = .ok (.iload_n 1, 1) := by decide +kernel
theorem d_Mod_writePicks_27 : decode M_Mod_writePicks.2.1 27 = .ok (.iaload, 1) := by decide +kernel
theorem d_Mod_writePicks_28 : decode M_Mod_writePicks.2.1 28 = .ok (.if_icmp .eq 9, 3) := by decide +kernel
theorem d_Mod_writePicks_31 : decode M_Mod_writePicks.2.1 31 = .ok (.iinc 2 1, 3) := by decide +kernel
theorem d_Mod_writePicks_34 : decode M_Mod_writePicks.2.1 34 = .ok (.goto (-18), 3) := by decide +kernel
theorem d_Mod_writePicks_37 : decode M_Mod_writePicks.2.1 37 = .ok (.aload_n 0, 1) := by decide +kernel
theorem d_Mod_writePicks_38 : decode M_Mod_writePicks.2.1 38 = .ok (.iload_n 2, 1) := by decide +kernel
theorem d_Mod_writePicks_39 : decode M_Mod_writePicks.2.1 39 = .ok (.invokevirtual 159, 3) := by decide +kernel
theorem d_Mod_writePicks_42 : decode M_Mod_writePicks.2.1 42 = .ok (.istore_n 3, 1) := by decide +kernel
theorem d_Mod_writePicks_43 : decode M_Mod_writePicks.2.1 43 = .ok (.iconst 0, 1) := by decide +kernel
theorem d_Mod_writePicks_44 : decode M_Mod_writePicks.2.1 44 = .ok (.istore 4, 2) := by decide +kernel
theorem d_Mod_writePicks_46 : decode M_Mod_writePicks.2.1 46 = .ok (.iload 4, 2) := by decide +kernel
theorem d_Mod_writePicks_48 : decode M_Mod_writePicks.2.1 48 = .ok (.iload_n 2, 1) := by decide +kernel
theorem d_Mod_writePicks_49 : decode M_Mod_writePicks.2.1 49 = .ok (.if_icmp .ge 19, 3) := by decide +kernel
theorem d_Mod_writePicks_52 : decode M_Mod_writePicks.2.1 52 = .ok (.iload_n 3, 1) := by decide +kernel
theorem d_Mod_writePicks_53 : decode M_Mod_writePicks.2.1 53 = .ok (.ifCond .lt 15, 3) := by decide +kernel
theorem d_Mod_writePicks_56 : decode M_Mod_writePicks.2.1 56 = .ok (.aload_n 0, 1) := by decide +kernel
theorem d_Mod_writePicks_57 : decode M_Mod_writePicks.2.1 57 = .ok (.iconst 1, 1) := by decide +kernel
theorem d_Mod_writePicks_58 : decode M_Mod_writePicks.2.1 58 = .ok (.iconst 1, 1) := by decide +kernel
theorem d_Mod_writePicks_59 : decode M_Mod_writePicks.2.1 59 = .ok (.invokevirtual 152, 3) := by decide +kernel
theorem d_Mod_writePicks_62 : decode M_Mod_writePicks.2.1 62 = .ok (.iinc 4 1, 3) := by decide +kernel
theorem d_Mod_writePicks_65 : decode M_Mod_writePicks.2.1 65 = .ok (.goto (-19), 3) := by decide +kernel
theorem d_Mod_writePicks_68 : decode M_Mod_writePicks.2.1 68 = .ok (.aload_n 0, 1) := by decide +kernel
theorem d_Mod_writePicks_69 : decode M_Mod_writePicks.2.1 69 = .ok (.iconst 0, 1) := by decide +kernel
theorem d_Mod_writePicks_70 : decode M_Mod_writePicks.2.1 70 = .ok (.iconst 1, 1) := by decide +kernel
theorem d_Mod_writePicks_71 : decode M_Mod_writePicks.2.1 71 = .ok (.invokevirtual 152, 3) := by decide +kernel
theorem d_Mod_writePicks_74 : decode M_Mod_writePicks.2.1 74 = .ok (.iinc 1 1, 3) := by decide +kernel
theorem d_Mod_writePicks_77 : decode M_Mod_writePicks.2.1 77 = .ok (.goto (-71), 3) := by decide +kernel
theorem d_Mod_writePicks_80 : decode M_Mod_writePicks.2.1 80 = .ok (.return_, 1) := by decide +kernel
theorem d_Mod_writeTable_0 : decode M_Mod_writeTable.2.1 0 = .ok (.aload_n 0, 1) := by decide +kernel
theorem d_Mod_writeTable_1 : decode M_Mod_writeTable.2.1 1 = .ok (.getfield 42, 3) := by decide +kernel
theorem d_Mod_writeTable_4 : decode M_Mod_writeTable.2.1 4 = .ok (.sipush 260, 3) := by decide +kernel
theorem d_Mod_writeTable_7 : decode M_Mod_writeTable.2.1 7 = .ok (.iload_n 1, 1) := by decide +kernel
theorem d_Mod_writeTable_8 : decode M_Mod_writeTable.2.1 8 = .ok (.imul, 1) := by decide +kernel
theorem d_Mod_writeTable_9 : decode M_Mod_writeTable.2.1 9 = .ok (.iaload, 1) := by decide +kernel
theorem d_Mod_writeTable_10 : decode M_Mod_writeTable.2.1 10 = .ok (.istore_n 2, 1) := by decide +kernel
theorem d_Mod_writeTable_11 : decode M_Mod_writeTable.2.1 11 = .ok (.aload_n 0, 1) := by decide +kernel
theorem d_Mod_writeTable_12 : decode M_Mod_writeTable.2.1 12 = .ok (.iload_n 2, 1) := by decide +kernel
theorem d_Mod_writeTable_13 : decode M_Mod_writeTable.2.1 13 = .ok (.iconst 5, 1) := by decide +kernel
theorem d_Mod_writeTable_14 : decode M_Mod_writeTable.2.1 14 = .ok (.invokevirtual 152, 3) := by decide +kernel
theorem d_Mod_writeTable_17 : decode M_Mod_writeTable.2.1 17 = .ok (.iconst 0, 1) := by decide +kernel
theorem d_Mod_writeTable_18 : decode M_Mod_writeTable.2.1 18 = .ok (.istore_n 3, 1) := by decide +kernel
theorem d_Mod_writeTable_19 : decode M_Mod_writeTable.2.1 19 = .ok (.iload_n 3, 1) := by decide +kernel
theorem d_Mod_writeTable_20 : decode M_Mod_writeTable.2.1 20 = .ok (.aload_n 0, 1) := by decide +kernel
theorem d_Mod_writeTable_21 : decode M_Mod_writeTable.2.1 21 = .ok (.getfield 108, 3) := by decide +kernel
theorem d_Mod_writeTable_24 : decode M_Mod_writeTable.2.1 24 = .ok (.iconst 2, 1) := by decide +kernel
theorem d_Mod_writeTable_25 : decode M_Mod_writeTable.2.1 25 = .ok (.iadd, 1) := by decide +kernel
theorem d_Mod_writeTable_26 : decode M_Mod_writeTable.2.1 26 = .ok (.if_icmp .ge 71, 3) := by decide +kernel
theorem d_Mod_writeTable_29 : decode M_Mod_writeTable.2.1 29 = .ok (.iload_n 2, 1) := by decide +kernel
theorem d_Mod_writeTable_30 : decode M_Mod_writeTable.2.1 30 = .ok (.aload_n 0, 1) := by decide +kernel
theorem d_Mod_writeTable_31 : decode M_Mod_writeTable.2.1 31 = .ok (.getfield 42, 3) := by decide +kernel
theorem d_Mod_writeTable_34 : decode M_Mod_writeTable.2.1 34 = .ok (.sipush 260, 3) := by decide +kernel
theorem d_Mod_writeTable_37 : decode M_Mod_writeTable.2.1 37 = .ok (.iload_n 1, 1) := by decide +kernel
theorem d_Mod_writeTable_38 : decode M_Mod_writeTable.2.1 38 = .ok (.imul, 1) := by decide +kernel
theorem d_Mod_writeTable_39 : decode M_Mod_writeTable.2.1 39 = .ok (.iload_n 3, 1) := by decide +kernel
theorem d_Mod_writeTable_40 : decode M_Mod_writeTable.2.1 40 = .ok (.iadd, 1) := by decide +kernel
theorem d_Mod_writeTable_41 : decode M_Mod_writeTable.2.1 41 = .ok (.iaload, 1) := by decide +kernel
theorem d_Mod_writeTable_42 : decode M_Mod_writeTable.2.1 42 = .ok (.if_icmp .ge 15, 3) := by decide +kernel
theorem d_Mod_writeTable_45 : decode M_Mod_writeTable.2.1 45 = .ok (.aload_n 0, 1) := by decide +kernel
theorem d_Mod_writeTable_46 : decode M_Mod_writeTable.2.1 46 = .ok (.iconst 2, 1) := by decide +kernel
theorem d_Mod_writeTable_47 : decode M_Mod_writeTable.2.1 47 = .ok (.iconst 2, 1) := by decide +kernel
theorem d_Mod_writeTable_48 : decode M_Mod_writeTable.2.1 48 = .ok (.invokevirtual 152, 3) := by decide +kernel
theorem d_Mod_writeTable_51 : decode M_Mod_writeTable.2.1 51 = .ok (.iinc 2 1, 3) := by decide +kernel
theorem d_Mod_writeTable_54 : decode M_Mod_writeTable.2.1 54 = .ok (.goto (-25), 3) := by decide +kernel
theorem d_Mod_writeTable_57 : decode M_Mod_writeTable.2.1 57 = .ok (.iload_n 2, 1) := by decide +kernel
theorem d_Mod_writeTable_58 : decode M_Mod_writeTable.2.1 58 = .ok (.aload_n 0, 1) := by decide +kernel
theorem d_Mod_writeTable_59 : decode M_Mod_writeTable.2.1 59 = .ok (.getfield 42, 3) := by decide +kernel
theorem d_Mod_writeTable_62 : decode M_Mod_writeTable.2.1 62 = .ok (.sipush 260, 3) := by decide +kernel
theorem d_Mod_writeTable_65 : decode M_Mod_writeTable.2.1 65 = .ok (.iload_n 1, 1) := by decide +kernel
theorem d_Mod_writeTable_66 : decode M_Mod_writeTable.2.1 66 = .ok (.imul, 1) := by decide +kernel
theorem d_Mod_writeTable_67 : decode M_Mod_writeTable.2.1 67 = .ok (.iload_n 3, 1) := by decide +kernel
theorem d_Mod_writeTable_68 : decode M_Mod_writeTable.2.1 68 = .ok (.iadd, 1) := by decide +kernel
theorem d_Mod_writeTable_69 : decode M_Mod_writeTable.2.1 69 = .ok (.iaload, 1) := by decide +kernel
theorem d_Mod_writeTable_70 : decode M_Mod_writeTable.2.1 70 = .ok (.if_icmp .le 15, 3) := by decide +kernel
theorem d_Mod_writeTable_73 : decode M_Mod_writeTable.2.1 73 = .ok (.aload_n 0, 1) := by decide +kernel
theorem d_Mod_writeTable_74 : decode M_Mod_writeTable.2.1 74 = .ok (.iconst 3, 1) := by decide +kernel
theorem d_Mod_writeTable_75 : decode M_Mod_writeTable.2.1 75 = .ok (.iconst 2, 1) := by decide +kernel
theorem d_Mod_writeTable_76 : decode M_Mod_writeTable.2.1 76 = .ok (.invokevirtual 152, 3) := by decide +kernel
theorem d_Mod_writeTable_79 : decode M_Mod_writeTable.2.1 79 = .ok (.iinc 2 (-1), 3) := by decide +kernel
theorem d_Mod_writeTable_82 : decode M_Mod_writeTable.2.1 82 = .ok (.goto (-25), 3) := by decide +kernel
theorem d_Mod_writeTable_85 : decode M_Mod_writeTable.2.1 85 = .ok (.aload_n 0, 1) := by decide +kernel
theorem d_Mod_writeTable_86 : decode M_Mod_writeTable.2.1 86 = .ok (.iconst 0, 1) := by decide +kernel
theorem d_Mod_writeTable_87 : decode M_Mod_writeTable.2.1 87 = .ok (.iconst 1, 1) := by decide +kernel
theorem d_Mod_writeTable_88 : decode M_Mod_writeTable.2.1 88 = .ok (.invokevirtual 152, 3) := by decide +kernel
theorem d_Mod_writeTable_91 : decode M_Mod_writeTable.2.1 91 = .ok (.iinc 3 1, 3) := by decide +kernel
theorem d_Mod_writeTable_94 : decode M_Mod_writeTable.2.1 94 = .ok (.goto (-75), 3) := by decide +kernel
theorem d_Mod_writeTable_97 : decode M_Mod_writeTable.2.1 97 = .ok (.return_, 1) := by decide +kernel
theorem d_Mod_writeBlock_0 : decode M_Mod_writeBlock.2.1 0 = .ok (.aload_n 0, 1) := by decide +kernel
theorem d_Mod_writeBlock_1 : decode M_Mod_writeBlock.2.1 1 = .ok (.ldc 162, 2) := by decide +kernel
theorem d_Mod_writeBlock_3 : decode M_Mod_writeBlock.2.1 3 = .ok (.bipush 24, 2) := by decide +kernel
theorem d_Mod_writeBlock_5 : decode M_Mod_writeBlock.2.1 5 = .ok (.invokevirtual 152, 3) := by decide +kernel
theorem d_Mod_writeBlock_8 : decode M_Mod_writeBlock.2.1 8 = .ok (.aload_n 0, 1) := by decide +kernel
theorem d_Mod_writeBlock_9 : decode M_Mod_writeBlock.2.1 9 = .ok (.aload_n 0, 1) := by decide +kernel
theorem d_Mod_writeBlock_10 : decode M_Mod_writeBlock.2.1 10 = .ok (.getfield 163, 3) := by decide +kernel
theorem d_Mod_writeBlock_13 : decode M_Mod_writeBlock.2.1 13 = .ok (.bipush 16, 2) := by decide +kernel
theorem d_Mod_writeBlock_15 : decode M_Mod_writeBlock.2.1 15 = .ok (.invokevirtual 152, 3) := by decide +kernel
theorem d_Mod_writeBlock_18 : decode M_Mod_writeBlock.2.1 18 = .ok (.aload_n 0, 1) := by decide +kernel
theorem d_Mod_writeBlock_19 : decode M_Mod_writeBlock.2.1 19 = .ok (.aload_n 0, 1) := by decide +kernel
theorem d_Mod_writeBlock_20 : decode M_Mod_writeBlock.2.1 20 = .ok (.getfield 105, 3) := by decide +kernel
theorem d_Mod_writeBlock_23 : decode M_Mod_writeBlock.2.1 23 = .ok (.bipush 6, 2) := by decide +kernel
theorem d_Mod_writeBlock_25 : decode M_Mod_writeBlock.2.1 25 = .ok (.invokevirtual 152, 3) := by decide +kernel
theorem d_Mod_writeBlock_28 : decode M_Mod_writeBlock.2.1 28 = .ok (.aload_n 0, 1) := by decide +kernel
theorem d_Mod_writeBlock_29 : decode M_Mod_writeBlock.2.1 29 = .ok (.invokevirtual 166, 3) := by decide +kernel
theorem d_Mod_writeBlock_32 : decode M_Mod_writeBlock.2.1 32 = .ok (.aload_n 0, 1) := by decide +kernel
theorem d_Mod_writeBlock_33 : decode M_Mod_writeBlock.2.1 33 = .ok (.aload_n 0, 1) := by decide +kernel
theorem d_Mod_writeBlock_34 : decode M_Mod_writeBlock.2.1 34 = .ok (.getfield 134, 3) := by decide +kernel
theorem d_Mod_writeBlock_37 : decode M_Mod_writeBlock.2.1 37 = .ok (.iconst 3, 1) := by decide +kernel
theorem d_Mod_writeBlock_38 : decode M_Mod_writeBlock.2.1 38 = .ok (.invokevirtual 152, 3) := by decide +kernel
theorem d_Mod_writeBlock_41 : decode M_Mod_writeBlock.2.1 41 = .ok (.aload_n 0, 1) := by decide +kernel
theorem d_Mod_writeBlock_42 : decode M_Mod_writeBlock.2.1 42 = .ok (.aload_n 0, 1) := by decide +kernel
theorem d_Mod_writeBlock_43 : decode M_Mod_writeBlock.2.1 43 = .ok (.getfield 131, 3) := by decide +kernel
theorem d_Mod_writeBlock_46 : decode M_Mod_writeBlock.2.1 46 = .ok (.bipush 6, 2) := by decide +kernel
theorem d_Mod_writeBlock_48 : decode M_Mod_writeBlock.2.1 48 = .ok (.invokevirtual 152, 3) := by decide +kernel
theorem d_Mod_writeBlock_51 : decode M_Mod_writeBlock.2.1 51 = .ok (.aload_n 0, 1) := by decide +kernel
theorem d_Mod_writeBlock_52 : decode M_Mod_writeBlock.2.1 52 = .ok (.invokevirtual 169, 3) := by decide +kernel
theorem d_Mod_writeBlock_55 : decode M_Mod_writeBlock.2.1 55 = .ok (.iconst 0, 1) := by decide +kernel
theorem d_Mod_writeBlock_56 : decode M_Mod_writeBlock.2.1 56 = .ok (.istore_n 1, 1) := by decide +kernel
theorem d_Mod_writeBlock_57 : decode M_Mod_writeBlock.2.1 57 = .ok (.iload_n 1, 1) := by decide +kernel
theorem d_Mod_writeBlock_58 : decode M_Mod_writeBlock.2.1 58 = .ok (.aload_n 0, 1) := by decide +kernel
theorem d_Mod_writeBlock_59 : decode M_Mod_writeBlock.2.1 59 = .ok (.getfield 134, 3) := by decide +kernel
theorem d_Mod_writeBlock_62 : decode M_Mod_writeBlock.2.1 62 = .ok (.if_icmp .ge 14, 3) := by decide +kernel
theorem d_Mod_writeBlock_65 : decode M_Mod_writeBlock.2.1 65 = .ok (.aload_n 0, 1) := by decide +kernel
theorem d_Mod_writeBlock_66 : decode M_Mod_writeBlock.2.1 66 = .ok (.iload_n 1, 1) := by decide +kernel
theorem d_Mod_writeBlock_67 : decode M_Mod_writeBlock.2.1 67 = .ok (.invokevirtual 172, 3) := by decide +kernel
theorem d_Mod_writeBlock_70 : decode M_Mod_writeBlock.2.1 70 = .ok (.iinc 1 1, 3) := by decide +kernel
theorem d_Mod_writeBlock_73 : decode M_Mod_writeBlock.2.1 73 = .ok (.goto (-16), 3) := by decide +kernel
theorem d_Mod_writeBlock_76 : decode M_Mod_writeBlock.2.1 76 = .ok (.iconst 0, 1) := by decide +kernel
theorem d_Mod_writeBlock_77 : decode M_Mod_writeBlock.2.1 77 = .ok (.istore_n 1, 1) := by decide +kernel
theorem d_Mod_writeBlock_78 : decode M_Mod_writeBlock.2.1 78 = .ok (.iload_n 1, 1) := by decide +kernel
theorem d_Mod_writeBlock_79 : decode M_Mod_writeBlock.2.1 79 = .ok (.aload_n 0, 1) := by decide +kernel
theorem d_Mod_writeBlock_80 : decode M_Mod_writeBlock.2.1 80 = .ok (.getfield 111, 3) := by decide +kernel
theorem d_Mod_writeBlock_83 : decode M_Mod_writeBlock.2.1 83 = .ok (.if_icmp .ge 46, 3) := by decide +kernel
theorem d_Mod_writeBlock_86 : decode M_Mod_writeBlock.2.1 86 = .ok (.sipush 260, 3) := by decide +kernel
theorem d_Mod_writeBlock_89 : decode M_Mod_writeBlock.2.1 89 = .ok (.aload_n 0, 1) := by decide +kernel
theorem d_Mod_writeBlock_90 : decode M_Mod_writeBlock.2.1 90 = .ok (.getfield 48, 3) := by decide +kernel
theorem d_Mod_writeBlock_93 : decode M_Mod_writeBlock.2.1 93 = .ok (.iload_n 1, 1) := by decide +kernel
theorem d_Mod_writeBlock_94 : decode M_Mod_writeBlock.2.1 94 = .ok (.bipush 8, 2) := by decide +kernel
theorem d_Mod_writeBlock_96 : decode M_Mod_writeBlock.2.1 96 = .ok (.idiv, 1) := by decide +kernel
theorem d_Mod_writeBlock_97 : decode M_Mod_writeBlock.2.1 97 = .ok (.iaload, 1) := by decide +kernel
theorem d_Mod_writeBlock_98 : decode M_Mod_writeBlock.2.1 98 = .ok (.imul, 1) := by decide +kernel
theorem d_Mod_writeBlock_99 : decode M_Mod_writeBlock.2.1 99 = .ok (.aload_n 0, 1) := by decide +kernel
theorem d_Mod_writeBlock_100 : decode M_Mod_writeBlock.2.1 100 = .ok (.getfield 32, 3) := by decide +kernel
theorem d_Mod_writeBlock_103 : decode M_Mod_writeBlock.2.1 103 = .ok (.iload_n 1, 1) := by decide +kernel
theorem d_Mod_writeBlock_104 : decode M_Mod_writeBlock.2.1 104 = .ok (.iaload, 1) := by decide +kernel
theorem d_Mod_writeBlock_105 : decode M_Mod_writeBlock.2.1 105 = .ok (.iadd, 1) := by decide +kernel
theorem d_Mod_writeBlock_106 : decode M_Mod_writeBlock.2.1 106 = .ok (.istore_n 2, 1) := by decide +kernel
theorem d_Mod_writeBlock_107 : decode M_Mod_writeBlock.2.1 107 = .ok (.aload_n 0, 1) := by decide +kernel
theorem d_Mod_writeBlock_108 : decode M_Mod_writeBlock.2.1 108 = .ok (.aload_n 0, 1) := by decide +kernel
theorem d_Mod_writeBlock_109 : decode M_Mod_writeBlock.2.1 109 = .ok (.getfield 45, 3) := by decide +kernel
theorem d_Mod_writeBlock_112 : decode M_Mod_writeBlock.2.1 112 = .ok (.iload_n 2, 1) := by decide +kernel
theorem d_Mod_writeBlock_113 : decode M_Mod_writeBlock.2.1 113 = .ok (.iaload, 1) := by decide +kernel
theorem d_Mod_writeBlock_114 : decode M_Mod_writeBlock.2.1 114 = .ok (.aload_n 0, 1) := by decide +kernel
theorem d_Mod_writeBlock_115 : decode M_Mod_writeBlock.2.1 115 = .ok (.getfield 42, 3) := by decide +kernel
theorem d_Mod_writeBlock_118 : decode M_Mod_writeBlock.2.1 118 = .ok (.iload_n 2, 1) := by decide +kernel
theorem d_Mod_writeBlock_119 : decode M_Mod_writeBlock.2.1 119 = .ok (.iaload, 1) := by decide +kernel
theorem d_Mod_writeBlock_120 : decode M_Mod_writeBlock.2.1 120 = .ok (.invokevirtual 152, 3) := by decide +kernel
theorem d_Mod_writeBlock_123 : decode M_Mod_writeBlock.2.1 123 = .ok (.iinc 1 1, 3) := by decide +kernel
theorem d_Mod_writeBlock_126 : decode M_Mod_writeBlock.2.1 126 = .ok (.goto (-48), 3) := by decide +kernel
theorem d_Mod_writeBlock_129 : decode M_Mod_writeBlock.2.1 129 = .ok (.return_, 1) := by decide +kernel
theorem d_Mod_packBlock_0 : decode M_Mod_packBlock.2.1 0 = .ok (.iconst 0, 1) := by decide +kernel
theorem d_Mod_packBlock_1 : decode M_Mod_packBlock.2.1 1 = .ok (.istore_n 3, 1) := by decide +kernel
theorem d_Mod_packBlock_2 : decode M_Mod_packBlock.2.1 2 = .ok (.iload_n 1, 1) := by decide +kernel
theorem d_Mod_packBlock_3 : decode M_Mod_packBlock.2.1 3 = .ok (.iload_n 3, 1) := by decide +kernel
theorem d_Mod_packBlock_4 : decode M_Mod_packBlock.2.1 4 = .ok (.iadd, 1) := by decide +kernel
theorem d_Mod_packBlock_5 : decode M_Mod_packBlock.2.1 5 = .ok (.aload_n 0, 1) := by decide +kernel
theorem d_Mod_packBlock_6 : decode M_Mod_packBlock.2.1 6 = .ok (.getfield 78, 3) := by decide +kernel
theorem d_Mod_packBlock_9 : decode M_Mod_packBlock.2.1 9 = .ok (.if_icmp .ge 21, 3) := by decide +kernel
theorem d_Mod_packBlock_12 : decode M_Mod_packBlock.2.1 12 = .ok (.aload_n 0, 1) := by decide +kernel
theorem d_Mod_packBlock_13 : decode M_Mod_packBlock.2.1 13 = .ok (.iload_n 1, 1) := by decide +kernel
theorem d_Mod_packBlock_14 : decode M_Mod_packBlock.2.1 14 = .ok (.iload_n 3, 1) := by decide +kernel
theorem d_Mod_packBlock_15 : decode M_Mod_packBlock.2.1 15 = .ok (.iconst 1, 1) := by decide +kernel
theorem d_Mod_packBlock_16 : decode M_Mod_packBlock.2.1 16 = .ok (.iadd, 1) := by decide +kernel
theorem d_Mod_packBlock_17 : decode M_Mod_packBlock.2.1 17 = .ok (.invokevirtual 175, 3) := by decide +kernel
theorem d_Mod_packBlock_20 : decode M_Mod_packBlock.2.1 20 = .ok (.iload_n 2, 1) := by decide +kernel
theorem d_Mod_packBlock_21 : decode M_Mod_packBlock.2.1 21 = .ok (.if_icmp .gt 9, 3) := by decide +kernel
theorem d_Mod_packBlock_24 : decode M_Mod_packBlock.2.1 24 = .ok (.iinc 3 1, 3) := by decide +kernel
theorem d_Mod_packBlock_27 : decode M_Mod_packBlock.2.1 27 = .ok (.goto (-25), 3) := by decide +kernel
theorem d_Mod_packBlock_30 : decode M_Mod_packBlock.2.1 30 = .ok (.aload_n 0, 1) := by decide +kernel
theorem d_Mod_packBlock_31 : decode M_Mod_packBlock.2.1 31 = .ok (.aload_n 0, 1) := by decide +kernel
theorem d_Mod_packBlock_32 : decode M_Mod_packBlock.2.1 32 = .ok (.iload_n 1, 1) := by decide +kernel
theorem d_Mod_packBlock_33 : decode M_Mod_packBlock.2.1 33 = .ok (.iload_n 3, 1) := by decide +kernel
theorem d_Mod_packBlock_34 : decode M_Mod_packBlock.2.1 34 = .ok (.invokevirtual 175, 3) := by decide +kernel
theorem d_Mod_packBlock_37 : decode M_Mod_packBlock.2.1 37 = .ok (.putfield 98, 3) := by decide +kernel
theorem d_Mod_packBlock_40 : decode M_Mod_packBlock.2.1 40 = .ok (.aload_n 0, 1) := by decide +kernel
theorem d_Mod_packBlock_41 : decode M_Mod_packBlock.2.1 41 = .ok (.iload_n 3, 1) := by decide +kernel
theorem d_Mod_packBlock_42 : decode M_Mod_packBlock.2.1 42 = .ok (.putfield 91, 3) := by decide +kernel
theorem d_Mod_packBlock_45 : decode M_Mod_packBlock.2.1 45 = .ok (.iconst 0, 1) := by decide +kernel
theorem d_Mod_packBlock_46 : decode M_Mod_packBlock.2.1 46 = .ok (.istore 4, 2) := by decide +kernel
theorem d_Mod_packBlock_48 : decode M_Mod_packBlock.2.1 48 = .ok (.iload 4, 2) := by decide +kernel
theorem d_Mod_packBlock_50 : decode M_Mod_packBlock.2.1 50 = .ok (.iload_n 3, 1) := by decide +kernel
theorem d_Mod_packBlock_51 : decode M_Mod_packBlock.2.1 51 = .ok (.if_icmp .ge 25, 3) := by decide +kernel
theorem d_Mod_packBlock_54 : decode M_Mod_packBlock.2.1 54 = .ok (.aload_n 0, 1) := by decide +kernel
theorem d_Mod_packBlock_55 : decode M_Mod_packBlock.2.1 55 = .ok (.getfield 23, 3) := by decide +kernel
theorem d_Mod_packBlock_58 : decode M_Mod_packBlock.2.1 58 = .ok (.iload 4, 2) := by decide +kernel
theorem d_Mod_packBlock_60 : decode M_Mod_packBlock.2.1 60 = .ok (.aload_n 0, 1) := by decide +kernel
theorem d_Mod_packBlock_61 : decode M_Mod_packBlock.2.1 61 = .ok (.getfield 7, 3) := by decide +kernel
theorem d_Mod_packBlock_64 : decode M_Mod_packBlock.2.1 64 = .ok (.iload_n 1, 1) := by decide +kernel
theorem d_Mod_packBlock_65 : decode M_Mod_packBlock.2.1 65 = .ok (.iload 4, 2) := by decide +kernel
theorem d_Mod_packBlock_67 : decode M_Mod_packBlock.2.1 67 = .ok (.iadd, 1) := by decide +kernel
theorem d_Mod_packBlock_68 : decode M_Mod_packBlock.2.1 68 = .ok (.iaload, 1) := by decide +kernel
theorem d_Mod_packBlock_69 : decode M_Mod_packBlock.2.1 69 = .ok (.iastore, 1) := by decide +kernel
theorem d_Mod_packBlock_70 : decode M_Mod_packBlock.2.1 70 = .ok (.iinc 4 1, 3) := by decide +kernel
theorem d_Mod_packBlock_73 : decode M_Mod_packBlock.2.1 73 = .ok (.goto (-25), 3) := by decide +kernel
theorem d_Mod_packBlock_76 : decode M_Mod_packBlock.2.1 76 = .ok (.aload_n 0, 1) := by decide +kernel
theorem d_Mod_packBlock_77 : decode M_Mod_packBlock.2.1 77 = .ok (.aload_n 0, 1) := by decide +kernel
theorem d_Mod_packBlock_78 : decode M_Mod_packBlock.2.1 78 = .ok (.invokevirtual 178, 3) := by decide +kernel
theorem d_Mod_packBlock_81 : decode M_Mod_packBlock.2.1 81 = .ok (.putfield 163, 3) := by decide +kernel
theorem d_Mod_packBlock_84 : decode M_Mod_packBlock.2.1 84 = .ok (.aload_n 0, 1) := by decide +kernel
theorem d_Mod_packBlock_85 : decode M_Mod_packBlock.2.1 85 = .ok (.invokevirtual 182, 3) := by decide +kernel
theorem d_Mod_packBlock_88 : decode M_Mod_packBlock.2.1 88 = .ok (.aload_n 0, 1) := by decide +kernel
theorem d_Mod_packBlock_89 : decode M_Mod_packBlock.2.1 89 = .ok (.invokevirtual 185, 3) := by decide +kernel
theorem d_Mod_packBlock_92 : decode M_Mod_packBlock.2.1 92 = .ok (.aload_n 0, 1) := by decide +kernel
theorem d_Mod_packBlock_93 : decode M_Mod_packBlock.2.1 93 = .ok (.invokevirtual 188, 3) := by decide +kernel
theorem d_Mod_packBlock_96 : decode M_Mod_packBlock.2.1 96 = .ok (.aload_n 0, 1) := by decide +kernel
theorem d_Mod_packBlock_97 : decode M_Mod_packBlock.2.1 97 = .ok (.invokevirtual 191, 3) := by decide +kernel
theorem d_Mod_packBlock_100 : decode M_Mod_packBlock.2.1 100 = .ok (.iload_n 3, 1) := by decide +kernel
theorem d_Mod_packBlock_101 : decode M_Mod_packBlock.2.1 101 = .ok (.ireturn, 1) := by decide +kernel
theorem d_Mod_remember_0 : decode M_Mod_remember.2.1 0 = .ok (.aload_n 0, 1) := by decide +kernel
theorem d_Mod_remember_1 : decode M_Mod_remember.2.1 1 = .ok (.aload_n 0, 1) := by decide +kernel
theorem d_Mod_remember_2 : decode M_Mod_remember.2.1 2 = .ok (.getfield 105, 3) := by decide +kernel
theorem d_Mod_remember_5 : decode M_Mod_remember.2.1 5 = .ok (.putfield 194, 3) := by decide +kernel
theorem d_Mod_remember_8 : decode M_Mod_remember.2.1 8 = .ok (.aload_n 0, 1) := by decide +kernel
theorem d_Mod_remember_9 : decode M_Mod_remember.2.1 9 = .ok (.aload_n 0, 1) := by decide +kernel
theorem d_Mod_remember_10 : decode M_Mod_remember.2.1 10 = .ok (.getfield 98, 3) := by decide +kernel
theorem d_Mod_remember_13 : decode M_Mod_remember.2.1 13 = .ok (.putfield 197, 3) := by decide +kernel
theorem d_Mod_remember_16 : decode M_Mod_remember.2.1 16 = .ok (.aload_n 0, 1) := by decide +kernel
theorem d_Mod_remember_17 : decode M_Mod_remember.2.1 17 = .ok (.aload_n 0, 1) := by decide +kernel
theorem d_Mod_remember_18 : decode M_Mod_remember.2.1 18 = .ok (.getfield 111, 3) := by decide +kernel
theorem d_Mod_remember_21 : decode M_Mod_remember.2.1 21 = .ok (.putfield 200, 3) := by decide +kernel
theorem d_Mod_remember_24 : decode M_Mod_remember.2.1 24 = .ok (.aload_n 0, 1) := by decide +kernel
theorem d_Mod_remember_25 : decode M_Mod_remember.2.1 25 = .ok (.aload_n 0, 1) := by decide +kernel
theorem d_Mod_remember_26 : decode M_Mod_remember.2.1 26 = .ok (.getfield 134, 3) := by decide +kernel
theorem d_Mod_remember_29 : decode M_Mod_remember.2.1 29 = .ok (.putfield 203, 3) := by decide +kernel
theorem d_Mod_remember_32 : decode M_Mod_remember.2.1 32 = .ok (.aload_n 0, 1) := by decide +kernel
theorem d_Mod_remember_33 : decode M_Mod_remember.2.1 33 = .ok (.aload_n 0, 1) := by decide +kernel
theorem d_Mod_remember_34 : decode M_Mod_remember.2.1 34 = .ok (.getfield 131, 3) := by decide +kernel
theorem d_Mod_remember_37 : decode M_Mod_remember.2.1 37 = .ok (.putfield 206, 3) := by decide +kernel
theorem d_Mod_remember_40 : decode M_Mod_remember.2.1 40 = .ok (.aload_n 0, 1) := by decide +kernel
theorem d_Mod_remember_41 : decode M_Mod_remember.2.1 41 = .ok (.aload_n 0, 1) := by decide +kernel
theorem d_Mod_remember_42 : decode M_Mod_remember.2.1 42 = .ok (.getfield 108, 3) := by decide +kernel
theorem d_Mod_remember_45 : decode M_Mod_remember.2.1 45 = .ok (.putfield 209, 3) := by decide +kernel
theorem d_Mod_remember_48 : decode M_Mod_remember.2.1 48 = .ok (.aload_n 0, 1) := by decide +kernel
theorem d_Mod_remember_49 : decode M_Mod_remember.2.1 49 = .ok (.aload_n 0, 1) := by decide +kernel
theorem d_Mod_remember_50 : decode M_Mod_remember.2.1 50 = .ok (.getfield 163, 3) := by decide +kernel
theorem d_Mod_remember_53 : decode M_Mod_remember.2.1 53 = .ok (.putfield 212, 3) := by decide +kernel
theorem d_Mod_remember_56 : decode M_Mod_remember.2.1 56 = .ok (.iconst 0, 1) := by decide +kernel
theorem d_Mod_remember_57 : decode M_Mod_remember.2.1 57 = .ok (.istore_n 1, 1) := by decide +kernel
theorem d_Mod_remember_58 : decode M_Mod_remember.2.1 58 = .ok (.iload_n 1, 1) := by decide +kernel
theorem d_Mod_remember_59 : decode M_Mod_remember.2.1 59 = .ok (.bipush 80, 2) := by decide +kernel
theorem d_Mod_remember_61 : decode M_Mod_remember.2.1 61 = .ok (.if_icmp .ge 33, 3) := by decide +kernel
theorem d_Mod_remember_64 : decode M_Mod_remember.2.1 64 = .ok (.aload_n 0, 1) := by decide +kernel
theorem d_Mod_remember_65 : decode M_Mod_remember.2.1 65 = .ok (.getfield 63, 3) := by decide +kernel
theorem d_Mod_remember_68 : decode M_Mod_remember.2.1 68 = .ok (.iload_n 1, 1) := by decide +kernel
theorem d_Mod_remember_69 : decode M_Mod_remember.2.1 69 = .ok (.aload_n 0, 1) := by decide +kernel
theorem d_Mod_remember_70 : decode M_Mod_remember.2.1 70 = .ok (.getfield 29, 3) := by decide +kernel
theorem d_Mod_remember_73 : decode M_Mod_remember.2.1 73 = .ok (.iload_n 1, 1) := by decide +kernel
theorem d_Mod_remember_74 : decode M_Mod_remember.2.1 74 = .ok (.iaload, 1) := by decide +kernel
theorem d_Mod_remember_75 : decode M_Mod_remember.2.1 75 = .ok (.iastore, 1) := by decide +kernel
theorem d_Mod_remember_76 : decode M_Mod_remember.2.1 76 = .ok (.aload_n 0, 1) := by decide +kernel
theorem d_Mod_remember_77 : decode M_Mod_remember.2.1 77 = .ok (.getfield 66, 3) := by decide +kernel
theorem d_Mod_remember_80 : decode M_Mod_remember.2.1 80 = .ok (.iload_n 1, 1) := by decide +kernel
theorem d_Mod_remember_81 : decode M_Mod_remember.2.1 81 = .ok (.aload_n 0, 1) := by decide +kernel
theorem d_Mod_remember_82 : decode M_Mod_remember.2.1 82 = .ok (.getfield 32, 3) := by decide +kernel
theorem d_Mod_remember_85 : decode M_Mod_remember.2.1 85 = .ok (.iload_n 1, 1) := by decide +kernel
theorem d_Mod_remember_86 : decode M_Mod_remember.2.1 86 = .ok (.iaload, 1) := by decide +kernel
theorem d_Mod_remember_87 : decode M_Mod_remember.2.1 87 = .ok (.iastore, 1) := by decide +kernel
theorem d_Mod_remember_88 : decode M_Mod_remember.2.1 88 = .ok (.iinc 1 1, 3) := by decide +kernel
theorem d_Mod_remember_91 : decode M_Mod_remember.2.1 91 = .ok (.goto (-33), 3) := by decide +kernel
theorem d_Mod_remember_94 : decode M_Mod_remember.2.1 94 = .ok (.iconst 0, 1) := by decide +kernel
theorem d_Mod_remember_95 : decode M_Mod_remember.2.1 95 = .ok (.istore_n 1, 1) := by decide +kernel
theorem d_Mod_remember_96 : decode M_Mod_remember.2.1 96 = .ok (.iload_n 1, 1) := by decide +kernel
theorem d_Mod_remember_97 : decode M_Mod_remember.2.1 97 = .ok (.sipush 1040, 3) := by decide +kernel
theorem d_Mod_remember_100 : decode M_Mod_remember.2.1 100 = .ok (.if_icmp .ge 21, 3) := by decide +kernel
theorem d_Mod_remember_103 : decode M_Mod_remember.2.1 103 = .ok (.aload_n 0, 1) := by decide +kernel
theorem d_Mod_remember_104 : decode M_Mod_remember.2.1 104 = .ok (.getfield 69, 3) := by decide +kernel
theorem d_Mod_remember_107 : decode M_Mod_remember.2.1 107 = .ok (.iload_n 1, 1) := by decide +kernel
theorem d_Mod_remember_108 : decode M_Mod_remember.2.1 108 = .ok (.aload_n 0, 1) := by decide +kernel
theorem d_Mod_remember_109 : decode M_Mod_remember.2.1 109 = .ok (.getfield 42, 3) := by decide +kernel
theorem d_Mod_remember_112 : decode M_Mod_remember.2.1 112 = .ok (.iload_n 1, 1) := by decide +kernel
theorem d_Mod_remember_113 : decode M_Mod_remember.2.1 113 = .ok (.iaload, 1) := by decide +kernel
theorem d_Mod_remember_114 : decode M_Mod_remember.2.1 114 = .ok (.iastore, 1) := by decide +kernel
theorem d_Mod_remember_115 : decode M_Mod_remember.2.1 115 = .ok (.iinc 1 1, 3) := by decide +kernel
theorem d_Mod_remember_118 : decode M_Mod_remember.2.1 118 = .ok (.goto (-22), 3) := by decide +kernel
theorem d_Mod_remember_121 : decode M_Mod_remember.2.1 121 = .ok (.iconst 0, 1) := by decide +kernel
theorem d_Mod_remember_122 : decode M_Mod_remember.2.1 122 = .ok (.istore_n 1, 1) := by decide +kernel
theorem d_Mod_remember_123 : decode M_Mod_remember.2.1 123 = .ok (.iload_n 1, 1) := by decide +kernel
theorem d_Mod_remember_124 : decode M_Mod_remember.2.1 124 = .ok (.bipush 64, 2) := by decide +kernel
theorem d_Mod_remember_126 : decode M_Mod_remember.2.1 126 = .ok (.if_icmp .ge 21, 3) := by decide +kernel
theorem d_Mod_remember_129 : decode M_Mod_remember.2.1 129 = .ok (.aload_n 0, 1) := by decide +kernel
theorem d_Mod_remember_130 : decode M_Mod_remember.2.1 130 = .ok (.getfield 72, 3) := by decide +kernel
theorem d_Mod_remember_133 : decode M_Mod_remember.2.1 133 = .ok (.iload_n 1, 1) := by decide +kernel
theorem d_Mod_remember_134 : decode M_Mod_remember.2.1 134 = .ok (.aload_n 0, 1) := by decide +kernel
theorem d_Mod_remember_135 : decode M_Mod_remember.2.1 135 = .ok (.getfield 48, 3) := by decide +kernel
theorem d_Mod_remember_138 : decode M_Mod_remember.2.1 138 = .ok (.iload_n 1, 1) := by decide +kernel
theorem d_Mod_remember_139 : decode M_Mod_remember.2.1 139 = .ok (.iaload, 1) := by decide +kernel
theorem d_Mod_remember_140 : decode M_Mod_remember.2.1 140 = .ok (.iastore, 1) := by decide +kernel
theorem d_Mod_remember_141 : decode M_Mod_remember.2.1 141 = .ok (.iinc 1 1, 3) := by decide +kernel
theorem d_Mod_remember_144 : decode M_Mod_remember.2.1 144 = .ok (.goto (-21), 3) := by decide +kernel
theorem d_Mod_remember_147 : decode M_Mod_remember.2.1 147 = .ok (.return_, 1) := by decide +kernel
theorem d_Mod_pack_0 : decode M_Mod_pack.2.1 0 = .ok (.aload_n 0, 1) := by decide +kernel
theorem d_Mod_pack_1 : decode M_Mod_pack.2.1 1 = .ok (.iload_n 1, 1) := by decide +kernel
theorem d_Mod_pack_2 : decode M_Mod_pack.2.1 2 = .ok (.iconst 1, 1) := by decide +kernel
theorem d_Mod_pack_3 : decode M_Mod_pack.2.1 3 = .ok (.if_icmp .lt 9, 3) := by decide +kernel
theorem d_Mod_pack_6 : decode M_Mod_pack.2.1 6 = .ok (.iload_n 1, 1) := by decide +kernel
theorem d_Mod_pack_7 : decode M_Mod_pack.2.1 7 = .ok (.bipush 8, 2) := by decide +kernel
theorem d_Mod_pack_9 : decode M_Mod_pack.2.1 9 = .ok (.if_icmp .le 7, 3) := by decide +kernel
theorem d_Mod_pack_12 : decode M_Mod_pack.2.1 12 = .ok (.iconst 1, 1) := by decide +kernel
theorem d_Mod_pack_13 : decode M_Mod_pack.2.1 13 = .ok (.goto 4, 3) := by decide +kernel
theorem d_Mod_pack_16 : decode M_Mod_pack.2.1 16 = .ok (.iconst 0, 1) := by decide +kernel
theorem d_Mod_pack_17 : decode M_Mod_pack.2.1 17 = .ok (.putfield 75, 3) := by decide +kernel
theorem d_Mod_pack_20 : decode M_Mod_pack.2.1 20 = .ok (.aload_n 0, 1) := by decide +kernel
theorem d_Mod_pack_21 : decode M_Mod_pack.2.1 21 = .ok (.getfield 75, 3) := by decide +kernel
theorem d_Mod_pack_24 : decode M_Mod_pack.2.1 24 = .ok (.ifCond .eq 5, 3) := by decide +kernel
theorem d_Mod_pack_27 : decode M_Mod_pack.2.1 27 = .ok (.iconst 0, 1) := by decide +kernel
theorem d_Mod_pack_28 : decode M_Mod_pack.2.1 28 = .ok (.ireturn, 1) := by decide +kernel
theorem d_Mod_pack_29 : decode M_Mod_pack.2.1 29 = .ok (.aload_n 0, 1) := by decide +kernel
theorem d_Mod_pack_30 : decode M_Mod_pack.2.1 30 = .ok (.iconst 0, 1) := by decide +kernel
theorem d_Mod_pack_31 : decode M_Mod_pack.2.1 31 = .ok (.putfield 86, 3) := by decide +kernel
theorem d_Mod_pack_34 : decode M_Mod_pack.2.1 34 = .ok (.aload_n 0, 1) := by decide +kernel
theorem d_Mod_pack_35 : decode M_Mod_pack.2.1 35 = .ok (.iconst 0, 1) := by decide +kernel
theorem d_Mod_pack_36 : decode M_Mod_pack.2.1 36 = .ok (.putfield 146, 3) := by decide +kernel
theorem d_Mod_pack_39 : decode M_Mod_pack.2.1 39 = .ok (.aload_n 0, 1) := by decide +kernel
theorem d_Mod_pack_40 : decode M_Mod_pack.2.1 40 = .ok (.bipush 83, 2) := by decide +kernel
theorem d_Mod_pack_42 : decode M_Mod_pack.2.1 42 = .ok (.bipush 8, 2) := by decide +kernel
theorem d_Mod_pack_44 : decode M_Mod_pack.2.1 44 = .ok (.invokevirtual 152, 3) := by decide +kernel
theorem d_Mod_pack_47 : decode M_Mod_pack.2.1 47 = .ok (.aload_n 0, 1) := by decide +kernel
theorem d_Mod_pack_48 : decode M_Mod_pack.2.1 48 = .ok (.bipush 66, 2) := by decide +kernel
theorem d_Mod_pack_50 : decode M_Mod_pack.2.1 50 = .ok (.bipush 8, 2) := by decide +kernel
theorem d_Mod_pack_52 : decode M_Mod_pack.2.1 52 = .ok (.invokevirtual 152, 3) := by decide +kernel
theorem d_Mod_pack_55 : decode M_Mod_pack.2.1 55 = .ok (.aload_n 0, 1) := by decide +kernel
theorem d_Mod_pack_56 : decode M_Mod_pack.2.1 56 = .ok (.iload_n 1, 1) := by decide +kernel
theorem d_Mod_pack_57 : decode M_Mod_pack.2.1 57 = .ok (.bipush 8, 2) := by decide +kernel
theorem d_Mod_pack_59 : decode M_Mod_pack.2.1 59 = .ok (.invokevirtual 152, 3) := by decide +kernel
theorem d_Mod_pack_62 : decode M_Mod_pack.2.1 62 = .ok (.iconst 0, 1) := by decide +kernel
theorem d_Mod_pack_63 : decode M_Mod_pack.2.1 63 = .ok (.istore_n 2, 1) := by decide +kernel
theorem d_Mod_pack_64 : decode M_Mod_pack.2.1 64 = .ok (.iconst 0, 1) := by decide +kernel
theorem d_Mod_pack_65 : decode M_Mod_pack.2.1 65 = .ok (.istore_n 3, 1) := by decide +kernel
theorem d_Mod_pack_66 : decode M_Mod_pack.2.1 66 = .ok (.aload_n 0, 1) := by decide +kernel
theorem d_Mod_pack_67 : decode M_Mod_pack.2.1 67 = .ok (.iconst 0, 1) := by decide +kernel
theorem d_Mod_pack_68 : decode M_Mod_pack.2.1 68 = .ok (.putfield 215, 3) := by decide +kernel
theorem d_Mod_pack_71 : decode M_Mod_pack.2.1 71 = .ok (.iload_n 3, 1) := by decide +kernel
theorem d_Mod_pack_72 : decode M_Mod_pack.2.1 72 = .ok (.aload_n 0, 1) := by decide +kernel
theorem d_Mod_pack_73 : decode M_Mod_pack.2.1 73 = .ok (.getfield 78, 3) := by decide +kernel
theorem d_Mod_pack_76 : decode M_Mod_pack.2.1 76 = .ok (.if_icmp .ge 41, 3) := by decide +kernel
theorem d_Mod_pack_79 : decode M_Mod_pack.2.1 79 = .ok (.iload_n 3, 1) := by decide +kernel
theorem d_Mod_pack_80 : decode M_Mod_pack.2.1 80 = .ok (.aload_n 0, 1) := by decide +kernel
theorem d_Mod_pack_81 : decode M_Mod_pack.2.1 81 = .ok (.iload_n 3, 1) := by decide +kernel
theorem d_Mod_pack_82 : decode M_Mod_pack.2.1 82 = .ok (.bipush 8, 2) := by decide +kernel
theorem d_Mod_pack_84 : decode M_Mod_pack.2.1 84 = .ok (.iload_n 1, 1) := by decide +kernel
theorem d_Mod_pack_85 : decode M_Mod_pack.2.1 85 = .ok (.imul, 1) := by decide +kernel
theorem d_Mod_pack_86 : decode M_Mod_pack.2.1 86 = .ok (.invokevirtual 218, 3) := by decide +kernel
theorem d_Mod_pack_89 : decode M_Mod_pack.2.1 89 = .ok (.iadd, 1) := by decide +kernel
theorem d_Mod_pack_90 : decode M_Mod_pack.2.1 90 = .ok (.istore_n 3, 1) := by decide +kernel
theorem d_Mod_pack_91 : decode M_Mod_pack.2.1 91 = .ok (.iload_n 2, 1) := by decide +kernel
theorem d_Mod_pack_92 : decode M_Mod_pack.2.1 92 = .ok (.aload_n 0, 1) := by decide +kernel
theorem d_Mod_pack_93 : decode M_Mod_pack.2.1 93 = .ok (.getfield 163, 3) := by decide +kernel
theorem d_Mod_pack_96 : decode M_Mod_pack.2.1 96 = .ok (.invokestatic 221, 3) := by decide +kernel
theorem d_Mod_pack_99 : decode M_Mod_pack.2.1 99 = .ok (.istore_n 2, 1) := by decide +kernel
theorem d_Mod_pack_100 : decode M_Mod_pack.2.1 100 = .ok (.aload_n 0, 1) := by decide +kernel
theorem d_Mod_pack_101 : decode M_Mod_pack.2.1 101 = .ok (.invokevirtual 224, 3) := by decide +kernel
theorem d_Mod_pack_104 : decode M_Mod_pack.2.1 104 = .ok (.aload_n 0, 1) := by decide +kernel
theorem d_Mod_pack_105 : decode M_Mod_pack.2.1 105 = .ok (.dup, 1) := by decide +kernel
theorem d_Mod_pack_106 : decode M_Mod_pack.2.1 106 = .ok (.getfield 215, 3) := by decide +kernel
theorem d_Mod_pack_109 : decode M_Mod_pack.2.1 109 = .ok (.iconst 1, 1) := by decide +kernel
theorem d_Mod_pack_110 : decode M_Mod_pack.2.1 110 = .ok (.iadd, 1) := by decide +kernel
theorem d_Mod_pack_111 : decode M_Mod_pack.2.1 111 = .ok (.putfield 215, 3) := by decide +kernel
theorem d_Mod_pack_114 : decode M_Mod_pack.2.1 114 = .ok (.goto (-43), 3) := by decide +kernel
theorem d_Mod_pack_117 : decode M_Mod_pack.2.1 117 = .ok (.aload_n 0, 1) := by decide +kernel
theorem d_Mod_pack_118 : decode M_Mod_pack.2.1 118 = .ok (.ldc 227, 2) := by decide +kernel
theorem d_Mod_pack_120 : decode M_Mod_pack.2.1 120 = .ok (.bipush 24, 2) := by decide +kernel
theorem d_Mod_pack_122 : decode M_Mod_pack.2.1 122 = .ok (.invokevirtual 152, 3) := by decide +kernel
theorem d_Mod_pack_125 : decode M_Mod_pack.2.1 125 = .ok (.aload_n 0, 1) := by decide +kernel
theorem d_Mod_pack_126 : decode M_Mod_pack.2.1 126 = .ok (.iload_n 2, 1) := by decide +kernel
theorem d_Mod_pack_127 : decode M_Mod_pack.2.1 127 = .ok (.bipush 16, 2) := by decide +kernel
theorem d_Mod_pack_129 : decode M_Mod_pack.2.1 129 = .ok (.invokevirtual 152, 3) := by decide +kernel
theorem d_Mod_pack_132 : decode M_Mod_pack.2.1 132 = .ok (.aload_n 0, 1) := by decide +kernel
theorem d_Mod_pack_133 : decode M_Mod_pack.2.1 133 = .ok (.invokevirtual 228, 3) := by decide +kernel
theorem d_Mod_pack_136 : decode M_Mod_pack.2.1 136 = .ok (.aload_n 0, 1) := by decide +kernel
theorem d_Mod_pack_137 : decode M_Mod_pack.2.1 137 = .ok (.getfield 83, 3) := by decide +kernel
theorem d_Mod_pack_140 : decode M_Mod_pack.2.1 140 = .ok (.ireturn, 1) := by decide +kernel
theorem d_Mod_fail_0 : decode M_Mod_fail.2.1 0 = .ok (.aload_n 0, 1) := by decide +kernel
theorem d_Mod_fail_1 : decode M_Mod_fail.2.1 1 = .ok (.getfield 231, 3) := by decide +kernel
theorem d_Mod_fail_4 : decode M_Mod_fail.2.1 4 = .ok (.ifCond .ne 13, 3) := by decide +kernel
theorem d_Mod_fail_7 : decode M_Mod_fail.2.1 7 = .ok (.aload_n 0, 1) := by decide +kernel
theorem d_Mod_fail_8 : decode M_Mod_fail.2.1 8 = .ok (.iload_n 1, 1) := by decide +kernel
theorem d_Mod_fail_9 : decode M_Mod_fail.2.1 9 = .ok (.putfield 231, 3) := by decide +kernel
theorem d_Mod_fail_12 : decode M_Mod_fail.2.1 12 = .ok (.aload_n 0, 1) := by decide +kernel
theorem d_Mod_fail_13 : decode M_Mod_fail.2.1 13 = .ok (.iload_n 2, 1) := by decide +kernel
theorem d_Mod_fail_14 : decode M_Mod_fail.2.1 14 = .ok (.putfield 234, 3) := by decide +kernel
theorem d_Mod_fail_17 : decode M_Mod_fail.2.1 17 = .ok (.return_, 1) := by decide +kernel
theorem d_Mod_take_0 : decode M_Mod_take.2.1 0 = .ok (.aload_n 0, 1) := by decide +kernel
theorem d_Mod_take_1 : decode M_Mod_take.2.1 1 = .ok (.getfield 231, 3) := by decide +kernel
theorem d_Mod_take_4 : decode M_Mod_take.2.1 4 = .ok (.ifCond .ne 19, 3) := by decide +kernel
theorem d_Mod_take_7 : decode M_Mod_take.2.1 7 = .ok (.aload_n 0, 1) := by decide +kernel
theorem d_Mod_take_8 : decode M_Mod_take.2.1 8 = .ok (.getfield 237, 3) := by decide +kernel
theorem d_Mod_take_11 : decode M_Mod_take.2.1 11 = .ok (.iload_n 1, 1) := by decide +kernel
theorem d_Mod_take_12 : decode M_Mod_take.2.1 12 = .ok (.iadd, 1) := by decide +kernel
theorem d_Mod_take_13 : decode M_Mod_take.2.1 13 = .ok (.bipush 8, 2) := by decide +kernel
theorem d_Mod_take_15 : decode M_Mod_take.2.1 15 = .ok (.aload_n 0, 1) := by decide +kernel
theorem d_Mod_take_16 : decode M_Mod_take.2.1 16 = .ok (.getfield 78, 3) := by decide +kernel
theorem d_Mod_take_19 : decode M_Mod_take.2.1 19 = .ok (.imul, 1) := by decide +kernel
theorem d_Mod_take_20 : decode M_Mod_take.2.1 20 = .ok (.if_icmp .le 12, 3) := by decide +kernel
theorem d_Mod_take_23 : decode M_Mod_take.2.1 23 = .ok (.aload_n 0, 1) := by decide +kernel
theorem d_Mod_take_24 : decode M_Mod_take.2.1 24 = .ok (.bipush (-2), 2) := by decide +kernel
theorem d_Mod_take_26 : decode M_Mod_take.2.1 26 = .ok (.iload_n 2, 1) := by decide +kernel
theorem d_Mod_take_27 : decode M_Mod_take.2.1 27 = .ok (.invokevirtual 240, 3) := by decide +kernel
theorem d_Mod_take_30 : decode M_Mod_take.2.1 30 = .ok (.iconst 0, 1) := by decide +kernel
theorem d_Mod_take_31 : decode M_Mod_take.2.1 31 = .ok (.ireturn, 1) := by decide +kernel
theorem d_Mod_take_32 : decode M_Mod_take.2.1 32 = .ok (.iconst 0, 1) := by decide +kernel
theorem d_Mod_take_33 : decode M_Mod_take.2.1 33 = .ok (.istore_n 3, 1) := by decide +kernel
theorem d_Mod_take_34 : decode M_Mod_take.2.1 34 = .ok (.iconst 0, 1) := by decide +kernel
theorem d_Mod_take_35 : decode M_Mod_take.2.1 35 = .ok (.istore 4, 2) := by decide +kernel
theorem d_Mod_take_37 : decode M_Mod_take.2.1 37 = .ok (.iload 4, 2) := by decide +kernel
theorem d_Mod_take_39 : decode M_Mod_take.2.1 39 = .ok (.iload_n 1, 1) := by decide +kernel
theorem d_Mod_take_40 : decode M_Mod_take.2.1 40 = .ok (.if_icmp .ge 49, 3) := by decide +kernel
theorem d_Mod_take_43 : decode M_Mod_take.2.1 43 = .ok (.iconst 2, 1) := by decide +kernel
theorem d_Mod_take_44 : decode M_Mod_take.2.1 44 = .ok (.iload_n 3, 1) := by decide +kernel
theorem d_Mod_take_45 : decode M_Mod_take.2.1 45 = .ok (.imul, 1) := by decide +kernel
theorem d_Mod_take_46 : decode M_Mod_take.2.1 46 = .ok (.aload_n 0, 1) := by decide +kernel
theorem d_Mod_take_47 : decode M_Mod_take.2.1 47 = .ok (.getfield 7, 3) := by decide +kernel
theorem d_Mod_take_50 : decode M_Mod_take.2.1 50 = .ok (.aload_n 0, 1) := by decide +kernel
theorem d_Mod_take_51 : decode M_Mod_take.2.1 51 = .ok (.getfield 237, 3) := by decide +kernel
theorem d_Mod_take_54 : decode M_Mod_take.2.1 54 = .ok (.bipush 8, 2) := by decide +kernel
theorem d_Mod_take_56 : decode M_Mod_take.2.1 56 = .ok (.idiv, 1) := by decide +kernel
theorem d_Mod_take_57 : decode M_Mod_take.2.1 57 = .ok (.iaload, 1) := by decide +kernel
theorem d_Mod_take_58 : decode M_Mod_take.2.1 58 = .ok (.bipush 7, 2) := by decide +kernel
theorem d_Mod_take_60 : decode M_Mod_take.2.1 60 = .ok (.aload_n 0, 1) := by decide +kernel
theorem d_Mod_take_61 : decode M_Mod_take.2.1 61 = .ok (.getfield 237, 3) := by decide +kernel
theorem d_Mod_take_64 : decode M_Mod_take.2.1 64 = .ok (.bipush 8, 2) := by decide +kernel
theorem d_Mod_take_66 : decode M_Mod_take.2.1 66 = .ok (.irem, 1) := by decide +kernel
theorem d_Mod_take_67 : decode M_Mod_take.2.1 67 = .ok (.isub, 1) := by decide +kernel
theorem d_Mod_take_68 : decode M_Mod_take.2.1 68 = .ok (.ishr, 1) := by decide +kernel
theorem d_Mod_take_69 : decode M_Mod_take.2.1 69 = .ok (.iconst 1, 1) := by decide +kernel
theorem d_Mod_take_70 : decode M_Mod_take.2.1 70 = .ok (.iand, 1) := by decide +kernel
theorem d_Mod_take_71 : decode M_Mod_take.2.1 71 = .ok (.iadd, 1) := by decide +kernel
theorem d_Mod_take_72 : decode M_Mod_take.2.1 72 = .ok (.istore_n 3, 1) := by decide +kernel
theorem d_Mod_take_73 : decode M_Mod_take.2.1 73 = .ok (.aload_n 0, 1) := by decide +kernel
theorem d_Mod_take_74 : decode M_Mod_take.2.1 74 = .ok (.dup, 1) := by decide +kernel
theorem d_Mod_take_75 : decode M_Mod_take.2.1 75 = .ok (.getfield 237, 3) := by decide +kernel
theorem d_Mod_take_78 : decode M_Mod_take.2.1 78 = .ok (.iconst 1, 1) := by decide +kernel
theorem d_Mod_take_79 : decode M_Mod_take.2.1 79 = .ok (.iadd, 1) := by decide +kernel
theorem d_Mod_take_80 : decode M_Mod_take.2.1 80 = .ok (.putfield 237, 3) := by decide +kernel
theorem d_Mod_take_83 : decode M_Mod_take.2.1 83 = .ok (.iinc 4 1, 3) := by decide +kernel
theorem d_Mod_take_86 : decode M_Mod_take.2.1 86 = .ok (.goto (-49), 3) := by decide +kernel
theorem d_Mod_take_89 : decode M_Mod_take.2.1 89 = .ok (.iload_n 3, 1) := by decide +kernel
theorem d_Mod_take_90 : decode M_Mod_take.2.1 90 = .ok (.ireturn, 1) := by decide +kernel
theorem d_Mod_failIf_0 : decode M_Mod_failIf.2.1 0 = .ok (.iload_n 1, 1) := by decide +kernel
theorem d_Mod_failIf_1 : decode M_Mod_failIf.2.1 1 = .ok (.ifCond .eq 9, 3) := by decide +kernel
theorem d_Mod_failIf_4 : decode M_Mod_failIf.2.1 4 = .ok (.aload_n 0, 1) := by decide +kernel
theorem d_Mod_failIf_5 : decode M_Mod_failIf.2.1 5 = .ok (.iload_n 2, 1) := by decide +kernel
theorem d_Mod_failIf_6 : decode M_Mod_failIf.2.1 6 = .ok (.iload_n 3, 1) := by decide +kernel
theorem d_Mod_failIf_7 : decode M_Mod_failIf.2.1 7 = .ok (.invokevirtual 240, 3) := by decide +kernel
theorem d_Mod_failIf_10 : decode M_Mod_failIf.2.1 10 = .ok (.return_, 1) := by decide +kernel
theorem d_Mod_readMaps_0 : decode M_Mod_readMaps.2.1 0 = .ok (.iconst 0, 1) := by decide +kernel
theorem d_Mod_readMaps_1 : decode M_Mod_readMaps.2.1 1 = .ok (.istore_n 1, 1) := by decide +kernel
theorem d_Mod_readMaps_2 : decode M_Mod_readMaps.2.1 2 = .ok (.iload_n 1, 1) := by decide +kernel
theorem d_Mod_readMaps_3 : decode M_Mod_readMaps.2.1 3 = .ok (.sipush 256, 3) := by decide +kernel
theorem d_Mod_readMaps_6 : decode M_Mod_readMaps.2.1 6 = .ok (.if_icmp .ge 16, 3) := by decide +kernel
theorem d_Mod_readMaps_9 : decode M_Mod_readMaps.2.1 9 = .ok (.aload_n 0, 1) := by decide +kernel
theorem d_Mod_readMaps_10 : decode M_Mod_readMaps.2.1 10 = .ok (.getfield 35, 3) := by decide +kernel
theorem d_Mod_readMaps_13 : decode M_Mod_readMaps.2.1 13 = .ok (.iload_n 1, 1) := by decide +kernel
theorem d_Mod_readMaps_14 : decode M_Mod_readMaps.2.1 14 = .ok (.iconst 0, 1) := by decide +kernel
theorem d_Mod_readMaps_15 : decode M_Mod_readMaps.2.1 15 = .ok (.bastore, 1) := by decide +kernel
theorem d_Mod_readMaps_16 : decode M_Mod_readMaps.2.1 16 = .ok (.iinc 1 1, 3) := by decide +kernel
theorem d_Mod_readMaps_19 : decode M_Mod_readMaps.2.1 19 = .ok (.goto (-17), 3) := by decide +kernel
theorem d_Mod_readMaps_22 : decode M_Mod_readMaps.2.1 22 = .ok (.aload_n 0, 1) := by decide +kernel
theorem d_Mod_readMaps_23 : decode M_Mod_readMaps.2.1 23 = .ok (.getfield 237, 3) := by decide +kernel
theorem d_Mod_readMaps_26 : decode M_Mod_readMaps.2.1 26 = .ok (.istore_n 1, 1) := by decide +kernel
theorem d_Mod_readMaps_27 : decode M_Mod_readMaps.2.1 27 = .ok (.aload_n 0, 1) := by decide +kernel
theorem d_Mod_readMaps_28 : decode M_Mod_readMaps.2.1 28 = .ok (.bipush 16, 2) := by decide +kernel
theorem d_Mod_readMaps_30 : decode M_Mod_readMaps.2.1 30 = .ok (.iload_n 1, 1) := by decide +kernel
theorem d_Mod_readMaps_31 : decode M_Mod_readMaps.2.1 31 = .ok (.invokevirtual 243, 3) := by decide +kernel
theorem d_Mod_readMaps_34 : decode M_Mod_readMaps.2.1 34 = .ok (.istore_n 2, 1) := by decide +kernel
theorem d_Mod_readMaps_35 : decode M_Mod_readMaps.2.1 35 = .ok (.iconst 0, 1) := by decide +kernel
theorem d_Mod_readMaps_36 : decode M_Mod_readMaps.2.1 36 = .ok (.istore_n 3, 1) := by decide +kernel
theorem d_Mod_readMaps_37 : decode M_Mod_readMaps.2.1 37 = .ok (.iload_n 3, 1) := by decide +kernel
theorem d_Mod_readMaps_38 : decode M_Mod_readMaps.2.1 38 = .ok (.bipush 16, 2) := by decide +kernel
theorem d_Mod_readMaps_40 : decode M_Mod_readMaps.2.1 40 = .ok (.if_icmp .ge 89, 3) := by decide +kernel
theorem d_Mod_readMaps_43 : decode M_Mod_readMaps.2.1 43 = .ok (.aload_n 0, 1) := by decide +kernel
theorem d_Mod_readMaps_44 : decode M_Mod_readMaps.2.1 44 = .ok (.getfield 231, 3) := by decide +kernel
theorem d_Mod_readMaps_47 : decode M_Mod_readMaps.2.1 47 = .ok (.ifCond .ne 82, 3) := by decide +kernel
theorem d_Mod_readMaps_50 : decode M_Mod_readMaps.2.1 50 = .ok (.iload_n 2, 1) := by decide +kernel
theorem d_Mod_readMaps_51 : decode M_Mod_readMaps.2.1 51 = .ok (.bipush 15, 2) := by decide +kernel
theorem d_Mod_readMaps_53 : decode M_Mod_readMaps.2.1 53 = .ok (.iload_n 3, 1) := by decide +kernel
theorem d_Mod_readMaps_54 : decode M_Mod_readMaps.2.1 54 = .ok (.isub, 1) := by decide +kernel
theorem d_Mod_readMaps_55 : decode M_Mod_readMaps.2.1 55 = .ok (.ishr, 1) := by decide +kernel
theorem d_Mod_readMaps_56 : decode M_Mod_readMaps.2.1 56 = .ok (.iconst 1, 1) := by decide +kernel
theorem d_Mod_readMaps_57 : decode M_Mod_readMaps.2.1 57 = .ok (.iand, 1) := by decide +kernel
theorem d_Mod_readMaps_58 : decode M_Mod_readMaps.2.1 58 = .ok (.iconst 1, 1) := by decide +kernel
theorem d_Mod_readMaps_59 : decode M_Mod_readMaps.2.1 59 = .ok (.if_icmp .ne 64, 3) := by decide +kernel
theorem d_Mod_readMaps_62 : decode M_Mod_readMaps.2.1 62 = .ok (.aload_n 0, 1) := by decide +kernel
theorem d_Mod_readMaps_63 : decode M_Mod_readMaps.2.1 63 = .ok (.getfield 237, 3) := by decide +kernel
theorem d_Mod_readMaps_66 : decode M_Mod_readMaps.2.1 66 = .ok (.istore_n 1, 1) := by decide +kernel
theorem d_Mod_readMaps_67 : decode M_Mod_readMaps.2.1 67 = .ok (.aload_n 0, 1) := by decide +kernel
theorem d_Mod_readMaps_68 : decode M_Mod_readMaps.2.1 68 = .ok (.bipush 16, 2) := by decide +kernel
theorem d_Mod_readMaps_70 : decode M_Mod_readMaps.2.1 70 = .ok (.iload_n 1, 1) := by decide +kernel
theorem d_Mod_readMaps_71 : decode M_Mod_readMaps.2.1 71 = .ok (.invokevirtual 243, 3) := by decide +kernel
theorem d_Mod_readMaps_74 : decode M_Mod_readMaps.2.1 74 = .ok (.istore 4, 2) := by decide +kernel
theorem d_Mod_readMaps_76 : decode M_Mod_readMaps.2.1 76 = .ok (.iconst 0, 1) := by decide +kernel
theorem d_Mod_readMaps_77 : decode M_Mod_readMaps.2.1 77 = .ok (.istore 5, 2) := by decide +kernel
theorem d_Mod_readMaps_79 : decode M_Mod_readMaps.2.1 79 = .ok (.iload 5, 2) := by decide +kernel
theorem d_Mod_readMaps_81 : decode M_Mod_readMaps.2.1 81 = .ok (.bipush 16, 2) := by decide +kernel
theorem d_Mod_readMaps_83 : decode M_Mod_readMaps.2.1 83 = .ok (.if_icmp .ge 40, 3) := by decide +kernel
theorem d_Mod_readMaps_86 : decode M_Mod_readMaps.2.1 86 = .ok (.aload_n 0, 1) := by decide +kernel
theorem d_Mod_readMaps_87 : decode M_Mod_readMaps.2.1 87 = .ok (.getfield 35, 3) := by decide +kernel
theorem d_Mod_readMaps_90 : decode M_Mod_readMaps.2.1 90 = .ok (.bipush 16, 2) := by decide +kernel
theorem d_Mod_readMaps_92 : decode M_Mod_readMaps.2.1 92 = .ok (.iload_n 3, 1) := by decide +kernel
theorem d_Mod_readMaps_93 : decode M_Mod_readMaps.2.1 93 = .ok (.imul, 1) := by decide +kernel
theorem d_Mod_readMaps_94 : decode M_Mod_readMaps.2.1 94 = .ok (.iload 5, 2) := by decide +kernel
theorem d_Mod_readMaps_96 : decode M_Mod_readMaps.2.1 96 = .ok (.iadd, 1) := by decide +kernel
theorem d_Mod_readMaps_97 : decode M_Mod_readMaps.2.1 97 = .ok (.iload 4, 2) := by decide +kernel
theorem d_Mod_readMaps_99 : decode M_Mod_readMaps.2.1 99 = .ok (.bipush 15, 2) := by decide +kernel
theorem d_Mod_readMaps_101 : decode M_Mod_readMaps.2.1 101 = .ok (.iload 5, 2) := by decide +kernel
theorem d_Mod_readMaps_103 : decode M_Mod_readMaps.2.1 103 = .ok (.isub, 1) := by decide +kernel
theorem d_Mod_readMaps_104 : decode M_Mod_readMaps.2.1 104 = .ok (.ishr, 1) := by decide +kernel
theorem d_Mod_readMaps_105 : decode M_Mod_readMaps.2.1 105 = .ok (.iconst 1, 1) := by decide +kernel
theorem d_Mod_readMaps_106 : decode M_Mod_readMaps.2.1 106 = .ok (.iand, 1) := by decide +kernel
theorem d_Mod_readMaps_107 : decode M_Mod_readMaps.2.1 107 = .ok (.iconst 1, 1) := by decide +kernel
theorem d_Mod_readMaps_108 : decode M_Mod_readMaps.2.1 108 = .ok (.if_icmp .ne 7, 3) := by decide +kernel
theorem d_Mod_readMaps_111 : decode M_Mod_readMaps.2.1 111 = .ok (.iconst 1, 1) := by decide +kernel
theorem d_Mod_readMaps_112 : decode M_Mod_readMaps.2.1 112 = .ok (.goto 4, 3) := by decide +kernel
theorem d_Mod_readMaps_115 : decode M_Mod_readMaps.2.1 115 = .ok (.iconst 0, 1) := by decide +kernel
theorem d_Mod_readMaps_116 : decode M_Mod_readMaps.2.1 116 = .ok (.bastore, 1) := by decide +kernel
theorem d_Mod_readMaps_117 : decode M_Mod_readMaps.2.1 117 = .ok (.iinc 5 1, 3) := by decide +kernel
theorem d_Mod_readMaps_120 : decode M_Mod_readMaps.2.1 120 = .ok (.goto (-41), 3) := by decide +kernel
theorem d_Mod_readMaps_123 : decode M_Mod_readMaps.2.1 123 = .ok (.iinc 3 1, 3) := by decide +kernel
theorem d_Mod_readMaps_126 : decode M_Mod_readMaps.2.1 126 = .ok (.goto (-89), 3) := by decide +kernel
theorem d_Mod_readMaps_129 : decode M_Mod_readMaps.2.1 129 = .ok (.aload_n 0, 1) := by decide +kernel
theorem d_Mod_readMaps_130 : decode M_Mod_readMaps.2.1 130 = .ok (.invokevirtual 118, 3) := by decide +kernel
theorem d_Mod_readMaps_133 : decode M_Mod_readMaps.2.1 133 = .ok (.aload_n 0, 1) := by decide +kernel
theorem d_Mod_readMaps_134 : decode M_Mod_readMaps.2.1 134 = .ok (.aload_n 0, 1) := by decide +kernel
theorem d_Mod_readMaps_135 : decode M_Mod_readMaps.2.1 135 = .ok (.getfield 108, 3) := by decide +kernel
theorem d_Mod_readMaps_138 : decode M_Mod_readMaps.2.1 138 = .ok (.ifCond .ne 7, 3) := by decide +kernel
theorem d_Mod_readMaps_141 : decode M_Mod_readMaps.2.1 141 = .ok (.iconst 1, 1) := by decide +kernel
theorem d_Mod_readMaps_142 : decode M_Mod_readMaps.2.1 142 = .ok (.goto 4, 3) := by decide +kernel
theorem d_Mod_readMaps_145 : decode M_Mod_readMaps.2.1 145 = .ok (.iconst 0, 1) := by decide +kernel
theorem d_Mod_readMaps_146 : decode M_Mod_readMaps.2.1 146 = .ok (.bipush (-5), 2) := by decide +kernel
theorem d_Mod_readMaps_148 : decode M_Mod_readMaps.2.1 148 = .ok (.iload_n 1, 1) := by decide +kernel
theorem d_Mod_readMaps_149 : decode M_Mod_readMaps.2.1 149 = .ok (.invokevirtual 246, 3) := by decide +kernel
theorem d_Mod_readMaps_152 : decode M_Mod_readMaps.2.1 152 = .ok (.return_, 1) := by decide +kernel
theorem d_Mod_readPicks_0 : decode M_Mod_readPicks.2.1 0 = .ok (.aload_n 0, 1) := by decide +kernel
theorem d_Mod_readPicks_1 : decode M_Mod_readPicks.2.1 1 = .ok (.invokevirtual 156, 3) := by decide +kernel
theorem d_Mod_readPicks_4 : decode M_Mod_readPicks.2.1 4 = .ok (.iconst 0, 1) := by decide +kernel
theorem d_Mod_readPicks_5 : decode M_Mod_readPicks.2.1 5 = .ok (.istore_n 1, 1) := by decide +kernel
theorem d_Mod_readPicks_6 : decode M_Mod_readPicks.2.1 6 = .ok (.iload_n 1, 1) := by decide +kernel
theorem d_Mod_readPicks_7 : decode M_Mod_readPicks.2.1 7 = .ok (.aload_n 0, 1) := by decide +kernel
theorem d_Mod_readPicks_8 : decode M_Mod_readPicks.2.1 8 = .ok (.getfield 131, 3) := by decide +kernel
theorem d_Mod_readPicks_11 : decode M_Mod_readPicks.2.1 11 = .ok (.if_icmp .ge 88, 3) := by decide +kernel
theorem d_Mod_readPicks_14 : decode M_Mod_readPicks.2.1 14 = .ok (.aload_n 0, 1) := by decide +kernel
theorem d_Mod_readPicks_15 : decode M_Mod_readPicks.2.1 15 = .ok (.getfield 231, 3) := by decide +kernel
theorem d_Mod_readPicks_18 : decode M_Mod_readPicks.2.1 18 = .ok (.ifCond .ne 81, 3) := by decide +kernel
theorem d_Mod_readPicks_21 : decode M_Mod_readPicks.2.1 21 = .ok (.aload_n 0, 1) := by decide +kernel
theorem d_Mod_readPicks_22 : decode M_Mod_readPicks.2.1 22 = .ok (.getfield 237, 3) := by decide +kernel
theorem d_Mod_readPicks_25 : decode M_Mod_readPicks.2.1 25 = .ok (.istore_n 2, 1) := by decide +kernel
theorem d_Mod_readPicks_26 : decode M_Mod_readPicks.2.1 26 = .ok (.iconst 0, 1) := by decide +kernel
theorem d_Mod_readPicks_27 : decode M_Mod_readPicks.2.1 27 = .ok (.istore_n 3, 1) := by decide +kernel
theorem d_Mod_readPicks_28 : decode M_Mod_readPicks.2.1 28 = .ok (.aload_n 0, 1) := by decide +kernel
theorem d_Mod_readPicks_29 : decode M_Mod_readPicks.2.1 29 = .ok (.getfield 231, 3) := by decide +kernel
theorem d_Mod_readPicks_32 : decode M_Mod_readPicks.2.1 32 = .ok (.ifCond .ne 39, 3) := by decide +kernel
theorem d_Mod_readPicks_35 : decode M_Mod_readPicks.2.1 35 = .ok (.aload_n 0, 1) := by decide +kernel
theorem d_Mod_readPicks_36 : decode M_Mod_readPicks.2.1 36 = .ok (.iconst 1, 1) := by decide +kernel
theorem d_Mod_readPicks_37 : decode M_Mod_readPicks.2.1 37 = .ok (.iload_n 2, 1) := by decide +kernel
theorem d_Mod_readPicks_38 : decode M_Mod_readPicks.2.1 38 = .ok (.invokevirtual 243, 3) := by decide +kernel
theorem d_Mod_readPicks_41 : decode M_Mod_readPicks.2.1 41 = .ok (.iconst 1, 1) := by decide +kernel
theorem d_Mod_readPicks_42 : decode M_Mod_readPicks.2.1 42 = .ok (.if_icmp .ne 29, 3) := by decide +kernel
theorem d_Mod_readPicks_45 : decode M_Mod_readPicks.2.1 45 = .ok (.iinc 3 1, 3) := by decide +kernel
theorem d_Mod_readPicks_48 : decode M_Mod_readPicks.2.1 48 = .ok (.aload_n 0, 1) := by decide +kernel
theorem d_Mod_readPicks_49 : decode M_Mod_readPicks.2.1 49 = .ok (.iload_n 3, 1) := by decide +kernel
theorem d_Mod_readPicks_50 : decode M_Mod_readPicks.2.1 50 = .ok (.aload_n 0, 1) := by decide +kernel
theorem d_Mod_readPicks_51 : decode M_Mod_readPicks.2.1 51 = .ok (.getfield 134, 3) := by decide +kernel
theorem d_Mod_readPicks_54 : decode M_Mod_readPicks.2.1 54 = .ok (.if_icmp .ne 7, 3) := by decide +kernel
theorem d_Mod_readPicks_57 : decode M_Mod_readPicks.2.1 57 = .ok (.iconst 1, 1) := by decide +kernel
theorem d_Mod_readPicks_58 : decode M_Mod_readPicks.2.1 58 = .ok (.goto 4, 3) := by decide +kernel
theorem d_Mod_readPicks_61 : decode M_Mod_readPicks.2.1 61 = .ok (.iconst 0, 1) := by decide +kernel
theorem d_Mod_readPicks_62 : decode M_Mod_readPicks.2.1 62 = .ok (.bipush (-8), 2) := by decide +kernel
theorem d_Mod_readPicks_64 : decode M_Mod_readPicks.2.1 64 = .ok (.iload_n 2, 1) := by decide +kernel
theorem d_Mod_readPicks_65 : decode M_Mod_readPicks.2.1 65 = .ok (.invokevirtual 246, 3) := by decide +kernel
theorem d_Mod_readPicks_68 : decode M_Mod_readPicks.2.1 68 = .ok (.goto (-40), 3) := by decide +kernel
theorem d_Mod_readPicks_71 : decode M_Mod_readPicks.2.1 71 = .ok (.aload_n 0, 1) := by decide +kernel
theorem d_Mod_readPicks_72 : decode M_Mod_readPicks.2.1 72 = .ok (.getfield 48, 3) := by decide +kernel
theorem d_Mod_readPicks_75 : decode M_Mod_readPicks.2.1 75 = .ok (.iload_n 1, 1) := by decide +kernel
theorem d_Mod_readPicks_76 : decode M_Mod_readPicks.2.1 76 = .ok (.aload_n 0, 1) := by decide +kernel
theorem d_Mod_readPicks_77 : decode M_Mod_readPicks.2.1 77 = .ok (.getfield 231, 3) := by decide +kernel
theorem d_Mod_readPicks_80 : decode M_Mod_readPicks.2.1 80 = .ok (.ifCond .ne 11, 3) := by decide +kernel
theorem d_Mod_readPicks_83 : decode M_Mod_readPicks.2.1 83 = .ok (.aload_n 0, 1) := by decide +kernel
theorem d_Mod_readPicks_84 : decode M_Mod_readPicks.2.1 84 = .ok (.iload_n 3, 1) := by decide +kernel
theorem d_Mod_readPicks_85 : decode M_Mod_readPicks.2.1 85 = .ok (.invokevirtual 159, 3) := by decide +kernel
theorem d_Mod_readPicks_88 : decode M_Mod_readPicks.2.1 88 = .ok (.goto 4, 3) := by decide +kernel
theorem d_Mod_readPicks_91 : decode M_Mod_readPicks.2.1 91 = .ok (.iconst 0, 1) := by decide +kernel
theorem d_Mod_readPicks_92 : decode M_Mod_readPicks.2.1 92 = .ok (.iastore, 1) := by decide +kernel
theorem d_Mod_readPicks_93 : decode M_Mod_readPicks.2.1 93 = .ok (.iinc 1 1, 3) := by decide +kernel
theorem d_Mod_readPicks_96 : decode M_Mod_readPicks.2.1 96 = .ok (.goto (-90), 3) := by decide +kernel
theorem d_Mod_readPicks_99 : decode M_Mod_readPicks.2.1 99 = .ok (.return_, 1) := by decide +kernel
theorem d_Mod_readTable_0 : decode M_Mod_readTable.2.1 0 = .ok (.aload_n 0, 1) := by decide +kernel
theorem d_Mod_readTable_1 : decode M_Mod_readTable.2.1 1 = .ok (.getfield 237, 3) := by decide +kernel
theorem d_Mod_readTable_4 : decode M_Mod_readTable.2.1 4 = .ok (.istore_n 2, 1) := by decide +kernel
theorem d_Mod_readTable_5 : decode M_Mod_readTable.2.1 5 = .ok (.aload_n 0, 1) := by decide +kernel
theorem d_Mod_readTable_6 : decode M_Mod_readTable.2.1 6 = .ok (.iconst 5, 1) := by decide +kernel
theorem d_Mod_readTable_7 : decode M_Mod_readTable.2.1 7 = .ok (.iload_n 2, 1) := by decide +kernel
theorem d_Mod_readTable_8 : decode M_Mod_readTable.2.1 8 = .ok (.invokevirtual 243, 3) := by decide +kernel
theorem d_Mod_readTable_11 : decode M_Mod_readTable.2.1 11 = .ok (.istore_n 3, 1) := by decide +kernel
theorem d_Mod_readTable_12 : decode M_Mod_readTable.2.1 12 = .ok (.aload_n 0, 1) := by decide +kernel
theorem d_Mod_readTable_13 : decode M_Mod_readTable.2.1 13 = .ok (.iload_n 3, 1) := by decide +kernel
theorem d_Mod_readTable_14 : decode M_Mod_readTable.2.1 14 = .ok (.iconst 1, 1) := by decide +kernel
theorem d_Mod_readTable_15 : decode M_Mod_readTable.2.1 15 = .ok (.if_icmp .lt 9, 3) := by decide +kernel
theorem d_Mod_readTable_18 : decode M_Mod_readTable.2.1 18 = .ok (.iload_n 3, 1) := by decide +kernel
theorem d_Mod_readTable_19 : decode M_Mod_readTable.2.1 19 = .ok (.bipush 12, 2) := by decide +kernel
theorem d_Mod_readTable_21 : decode M_Mod_readTable.2.1 21 = .ok (.if_icmp .le 7, 3) := by decide +kernel
theorem d_Mod_readTable_24 : decode M_Mod_readTable.2.1 24 = .ok (.iconst 1, 1) := by decide +kernel
theorem d_Mod_readTable_25 : decode M_Mod_readTable.2.1 25 = .ok (.goto 4, 3) := by decide +kernel
theorem d_Mod_readTable_28 : decode M_Mod_readTable.2.1 28 = .ok (.iconst 0, 1) := by decide +kernel
theorem d_Mod_readTable_29 : decode M_Mod_readTable.2.1 29 = .ok (.bipush (-9), 2) := by decide +kernel
theorem d_Mod_readTable_31 : decode M_Mod_readTable.2.1 31 = .ok (.iload_n 2, 1) := by decide +kernel
theorem d_Mod_readTable_32 : decode M_Mod_readTable.2.1 32 = .ok (.invokevirtual 246, 3) := by decide +kernel
theorem d_Mod_readTable_35 : decode M_Mod_readTable.2.1 35 = .ok (.iconst 0, 1) := by decide +kernel
theorem d_Mod_readTable_36 : decode M_Mod_readTable.2.1 36 = .ok (.istore 4, 2) := by decide +kernel
theorem d_Mod_readTable_38 : decode M_Mod_readTable.2.1 38 = .ok (.iload 4, 2) := by decide +kernel
theorem d_Mod_readTable_40 : decode M_Mod_readTable.2.1 40 = .ok (.aload_n 0, 1) := by decide +kernel
theorem d_Mod_readTable_41 : decode M_Mod_readTable.2.1 41 = .ok (.getfield 108, 3) := by decide +kernel
theorem d_Mod_readTable_44 : decode M_Mod_readTable.2.1 44 = .ok (.iconst 2, 1) := by decide +kernel
theorem d_Mod_readTable_45 : decode M_Mod_readTable.2.1 45 = .ok (.iadd, 1) := by decide +kernel
theorem d_Mod_readTable_46 : decode M_Mod_readTable.2.1 46 = .ok (.if_icmp .ge 115, 3) := by decide +kernel
theorem d_Mod_readTable_49 : decode M_Mod_readTable.2.1 49 = .ok (.aload_n 0, 1) := by decide +kernel
theorem d_Mod_readTable_50 : decode M_Mod_readTable.2.1 50 = .ok (.getfield 231, 3) := by decide +kernel
theorem d_Mod_readTable_53 : decode M_Mod_readTable.2.1 53 = .ok (.ifCond .ne 108, 3) := by decide +kernel
theorem d_Mod_readTable_56 : decode M_Mod_readTable.2.1 56 = .ok (.iconst 1, 1) := by decide +kernel
theorem d_Mod_readTable_57 : decode M_Mod_readTable.2.1 57 = .ok (.istore 5, 2) := by decide +kernel
theorem d_Mod_readTable_59 : decode M_Mod_readTable.2.1 59 = .ok (.iload 5, 2) := by decide +kernel
theorem d_Mod_readTable_61 : decode M_Mod_readTable.2.1 61 = .ok (.ifCond .eq 80, 3) := by decide +kernel
theorem d_Mod_readTable_64 : decode M_Mod_readTable.2.1 64 = .ok (.aload_n 0, 1) := by decide +kernel
theorem d_Mod_readTable_65 : decode M_Mod_readTable.2.1 65 = .ok (.getfield 231, 3) := by decide +kernel
theorem d_Mod_readTable_68 : decode M_Mod_readTable.2.1 68 = .ok (.ifCond .ne 73, 3) := by decide +kernel
theorem d_Mod_readTable_71 : decode M_Mod_readTable.2.1 71 = .ok (.aload_n 0, 1) := by decide +kernel
theorem d_Mod_readTable_72 : decode M_Mod_readTable.2.1 72 = .ok (.getfield 237, 3) := by decide +kernel
theorem d_Mod_readTable_75 : decode M_Mod_readTable.2.1 75 = .ok (.istore_n 2, 1) := by decide +kernel
theorem d_Mod_readTable_76 : decode M_Mod_readTable.2.1 76 = .ok (.aload_n 0, 1) := by decide +kernel
theorem d_Mod_readTable_77 : decode M_Mod_readTable.2.1 77 = .ok (.iconst 1, 1) := by decide +kernel
theorem d_Mod_readTable_78 : decode M_Mod_readTable.2.1 78 = .ok (.iload_n 2, 1) := by decide +kernel
theorem d_Mod_readTable_79 : decode M_Mod_readTable.2.1 79 = .ok (.invokevirtual 243, 3) := by decide +kernel
theorem d_Mod_readTable_82 : decode M_Mod_readTable.2.1 82 = .ok (.iconst 1, 1) := by decide +kernel
theorem d_Mod_readTable_83 : decode M_Mod_readTable.2.1 83 = .ok (.if_icmp .ne 7, 3) := by decide +kernel
theorem d_Mod_readTable_86 : decode M_Mod_readTable.2.1 86 = .ok (.iconst 1, 1) := by decide +kernel
theorem d_Mod_readTable_87 : decode M_Mod_readTable.2.1 87 = .ok (.goto 4, 3) := by decide +kernel
theorem d_Mod_readTable_90 : decode M_Mod_readTable.2.1 90 = .ok (.iconst 0, 1) := by decide +kernel
theorem d_Mod_readTable_91 : decode M_Mod_readTable.2.1 91 = .ok (.istore 5, 2) := by decide +kernel
theorem d_Mod_readTable_93 : decode M_Mod_readTable.2.1 93 = .ok (.iload 5, 2) := by decide +kernel
theorem d_Mod_readTable_95 : decode M_Mod_readTable.2.1 95 = .ok (.ifCond .eq (-36), 3) := by decide +kernel
theorem d_Mod_readTable_98 : decode M_Mod_readTable.2.1 98 = .ok (.iload_n 3, 1) := by decide +kernel
theorem d_Mod_readTable_99 : decode M_Mod_readTable.2.1 99 = .ok (.aload_n 0, 1) := by decide +kernel
theorem d_Mod_readTable_100 : decode M_Mod_readTable.2.1 100 = .ok (.iconst 1, 1) := by decide +kernel
theorem d_Mod_readTable_101 : decode M_Mod_readTable.2.1 101 = .ok (.iload_n 2, 1) := by decide +kernel
theorem d_Mod_readTable_102 : decode M_Mod_readTable.2.1 102 = .ok (.invokevirtual 243, 3) := by decide +kernel
theorem d_Mod_readTable_105 : decode M_Mod_readTable.2.1 105 = .ok (.ifCond .ne 7, 3) := by decide +kernel
theorem d_Mod_readTable_108 : decode M_Mod_readTable.2.1 108 = .ok (.iconst 1, 1) := by decide +kernel
theorem d_Mod_readTable_109 : decode M_Mod_readTable.2.1 109 = .ok (.goto 4, 3) := by decide +kernel
theorem d_Mod_readTable_112 : decode M_Mod_readTable.2.1 112 = .ok (.iconst (-1), 1) := by decide +kernel
theorem d_Mod_readTable_113 : decode M_Mod_readTable.2.1 113 = .ok (.iadd, 1) := by decide +kernel
theorem d_Mod_readTable_114 : decode M_Mod_readTable.2.1 114 = .ok (.istore_n 3, 1) := by decide +kernel
theorem d_Mod_readTable_115 : decode M_Mod_readTable.2.1 115 = .ok (.aload_n 0, 1) := by decide +kernel
theorem d_Mod_readTable_116 : decode M_Mod_readTable.2.1 116 = .ok (.iload_n 3, 1) := by decide +kernel
theorem d_Mod_readTable_117 : decode M_Mod_readTable.2.1 117 = .ok (.iconst 1, 1) := by decide +kernel
theorem d_Mod_readTable_118 : decode M_Mod_readTable.2.1 118 = .ok (.if_icmp .lt 9, 3) := by decide +kernel
theorem d_Mod_readTable_121 : decode M_Mod_readTable.2.1 121 = .ok (.iload_n 3, 1) := by decide +kernel
theorem d_Mod_readTable_122 : decode M_Mod_readTable.2.1 122 = .ok (.bipush 12, 2) := by decide +kernel
theorem d_Mod_readTable_124 : decode M_Mod_readTable.2.1 124 = .ok (.if_icmp .le 7, 3) := by decide +kernel
theorem d_Mod_readTable_127 : decode M_Mod_readTable.2.1 127 = .ok (.iconst 1, 1) := by decide +kernel
theorem d_Mod_readTable_128 : decode M_Mod_readTable.2.1 128 = .ok (.goto 4, 3) := by decide +kernel
theorem d_Mod_readTable_131 : decode M_Mod_readTable.2.1 131 = .ok (.iconst 0, 1) := by decide +kernel
theorem d_Mod_readTable_132 : decode M_Mod_readTable.2.1 132 = .ok (.bipush (-9), 2) := by decide +kernel
theorem d_Mod_readTable_134 : decode M_Mod_readTable.2.1 134 = .ok (.iload_n 2, 1) := by decide +kernel
theorem d_Mod_readTable_135 : decode M_Mod_readTable.2.1 135 = .ok (.invokevirtual 246, 3) := by decide +kernel
theorem d_Mod_readTable_138 : decode M_Mod_readTable.2.1 138 = .ok (.goto (-79), 3) := by decide +kernel
theorem d_Mod_readTable_141 : decode M_Mod_readTable.2.1 141 = .ok (.aload_n 0, 1) := by decide +kernel
theorem d_Mod_readTable_142 : decode M_Mod_readTable.2.1 142 = .ok (.getfield 42, 3) := by decide +kernel
theorem d_Mod_readTable_145 : decode M_Mod_readTable.2.1 145 = .ok (.sipush 260, 3) := by decide +kernel
theorem d_Mod_readTable_148 : decode M_Mod_readTable.2.1 148 = .ok (.iload_n 1, 1) := by decide +kernel
theorem d_Mod_readTable_149 : decode M_Mod_readTable.2.1 149 = .ok (.imul, 1) := by decide +kernel
theorem d_Mod_readTable_150 : decode M_Mod_readTable.2.1 150 = .ok (.iload 4, 2) := by decide +kernel
theorem d_Mod_readTable_152 : decode M_Mod_readTable.2.1 152 = .ok (.iadd, 1) := by decide +kernel
theorem d_Mod_readTable_153 : decode M_Mod_readTable.2.1 153 = .ok (.iload_n 3, 1) := by decide +kernel
theorem d_Mod_readTable_154 : decode M_Mod_readTable.2.1 154 = .ok (.iastore, 1) := by decide +kernel
theorem d_Mod_readTable_155 : decode M_Mod_readTable.2.1 155 = .ok (.iinc 4 1, 3) := by decide +kernel
theorem d_Mod_readTable_158 : decode M_Mod_readTable.2.1 158 = .ok (.goto (-120), 3) := by decide +kernel
theorem d_Mod_readTable_161 : decode M_Mod_readTable.2.1 161 = .ok (.return_, 1) := by decide +kernel
theorem d_Mod_decode_0 : decode M_Mod_decode.2.1 0 = .ok (.iconst 0, 1) := by decide +kernel
theorem d_Mod_decode_1 : decode M_Mod_decode.2.1 1 = .ok (.istore 4, 2) := by decide +kernel
theorem d_Mod_decode_3 : decode M_Mod_decode.2.1 3 = .ok (.iload 4, 2) := by decide +kernel
theorem d_Mod_decode_5 : decode M_Mod_decode.2.1 5 = .ok (.aload_n 0, 1) := by decide +kernel
theorem d_Mod_decode_6 : decode M_Mod_decode.2.1 6 = .ok (.getfield 108, 3) := by decide +kernel
theorem d_Mod_decode_9 : decode M_Mod_decode.2.1 9 = .ok (.iconst 2, 1) := by decide +kernel
theorem d_Mod_decode_10 : decode M_Mod_decode.2.1 10 = .ok (.iadd, 1) := by decide +kernel
theorem d_Mod_decode_11 : decode M_Mod_decode.2.1 11 = .ok (.if_icmp .ge 46, 3) := by decide +kernel
theorem d_Mod_decode_14 : decode M_Mod_decode.2.1 14 = .ok (.aload_n 0, 1) := by decide +kernel
theorem d_Mod_decode_15 : decode M_Mod_decode.2.1 15 = .ok (.getfield 42, 3) := by decide +kernel
theorem d_Mod_decode_18 : decode M_Mod_decode.2.1 18 = .ok (.sipush 260, 3) := by decide +kernel
theorem d_Mod_decode_21 : decode M_Mod_decode.2.1 21 = .ok (.iload_n 1, 1) := by decide +kernel
theorem d_Mod_decode_22 : decode M_Mod_decode.2.1 22 = .ok (.imul, 1) := by decide +kernel
theorem d_Mod_decode_23 : decode M_Mod_decode.2.1 23 = .ok (.iload 4, 2) := by decide +kernel
theorem d_Mod_decode_25 : decode M_Mod_decode.2.1 25 = .ok (.iadd, 1) := by decide +kernel
theorem d_Mod_decode_26 : decode M_Mod_decode.2.1 26 = .ok (.iaload, 1) := by decide +kernel
theorem d_Mod_decode_27 : decode M_Mod_decode.2.1 27 = .ok (.iload_n 3, 1) := by decide +kernel
theorem d_Mod_decode_28 : decode M_Mod_decode.2.1 28 = .ok (.if_icmp .ne 23, 3) := by decide +kernel
theorem d_Mod_decode_31 : decode M_Mod_decode.2.1 31 = .ok (.aload_n 0, 1) := by decide +kernel
theorem d_Mod_decode_32 : decode M_Mod_decode.2.1 32 = .ok (.getfield 45, 3) := by decide +kernel
theorem d_Mod_decode_35 : decode M_Mod_decode.2.1 35 = .ok (.sipush 260, 3) := by decide +kernel
theorem d_Mod_decode_38 : decode M_Mod_decode.2.1 38 = .ok (.iload_n 1, 1) := by decide +kernel
theorem d_Mod_decode_39 : decode M_Mod_decode.2.1 39 = .ok (.imul, 1) := by decide +kernel
theorem d_Mod_decode_40 : decode M_Mod_decode.2.1 40 = .ok (.iload 4, 2) := by decide +kernel
theorem d_Mod_decode_42 : decode M_Mod_decode.2.1 42 = .ok (.iadd, 1) := by decide +kernel
theorem d_Mod_decode_43 : decode M_Mod_decode.2.1 43 = .ok (.iaload, 1) := by decide +kernel
theorem d_Mod_decode_44 : decode M_Mod_decode.2.1 44 = .ok (.iload_n 2, 1) := by decide +kernel
theorem d_Mod_decode_45 : decode M_Mod_decode.2.1 45 = .ok (.if_icmp .ne 6, 3) := by decide +kernel
theorem d_Mod_decode_48 : decode M_Mod_decode.2.1 48 = .ok (.iload 4, 2) := by decide +kernel
theorem d_Mod_decode_50 : decode M_Mod_decode.2.1 50 = .ok (.ireturn, 1) := by decide +kernel
theorem d_Mod_decode_51 : decode M_Mod_decode.2.1 51 = .ok (.iinc 4 1, 3) := by decide +kernel
theorem d_Mod_decode_54 : decode M_Mod_decode.2.1 54 = .ok (.goto (-51), 3) := by decide +kernel
theorem d_Mod_decode_57 : decode M_Mod_decode.2.1 57 = .ok (.iconst (-1), 1) := by decide +kernel
theorem d_Mod_decode_58 : decode M_Mod_decode.2.1 58 = .ok (.ireturn, 1) := by decide +kernel
theorem d_Mod_readSymbol_0 : decode M_Mod_readSymbol.2.1 0 = .ok (.aload_n 0, 1) := by decide +kernel
theorem d_Mod_readSymbol_1 : decode M_Mod_readSymbol.2.1 1 = .ok (.getfield 237, 3) := by decide +kernel
theorem d_Mod_readSymbol_4 : decode M_Mod_readSymbol.2.1 4 = .ok (.istore_n 2, 1) := by decide +kernel
theorem d_Mod_readSymbol_5 : decode M_Mod_readSymbol.2.1 5 = .ok (.iconst 0, 1) := by decide +kernel
theorem d_Mod_readSymbol_6 : decode M_Mod_readSymbol.2.1 6 = .ok (.istore_n 3, 1) := by decide +kernel
theorem d_Mod_readSymbol_7 : decode M_Mod_readSymbol.2.1 7 = .ok (.iconst 0, 1) := by decide +kernel
theorem d_Mod_readSymbol_8 : decode M_Mod_readSymbol.2.1 8 = .ok (.istore 4, 2) := by decide +kernel
theorem d_Mod_readSymbol_10 : decode M_Mod_readSymbol.2.1 10 = .ok (.iconst (-1), 1) := by decide +kernel
theorem d_Mod_readSymbol_11 : decode M_Mod_readSymbol.2.1 11 = .ok (.istore 5, 2) := by decide +kernel
theorem d_Mod_readSymbol_13 : decode M_Mod_readSymbol.2.1 13 = .ok (.iload 5, 2) := by decide +kernel
theorem d_Mod_readSymbol_15 : decode M_Mod_readSymbol.2.1 15 = .ok (.ifCond .ge 67, 3) := by decide +kernel
theorem d_Mod_readSymbol_18 : decode M_Mod_readSymbol.2.1 18 = .ok (.aload_n 0, 1) := by decide +kernel
theorem d_Mod_readSymbol_19 : decode M_Mod_readSymbol.2.1 19 = .ok (.getfield 231, 3) := by decide +kernel
theorem d_Mod_readSymbol_22 : decode M_Mod_readSymbol.2.1 22 = .ok (.ifCond .ne 60, 3) := by decide +kernel
theorem d_Mod_readSymbol_25 : decode M_Mod_readSymbol.2.1 25 = .ok (.aload_n 0, 1) := by decide +kernel
theorem d_Mod_readSymbol_26 : decode M_Mod_readSymbol.2.1 26 = .ok (.iload 4, 2) := by decide +kernel
theorem d_Mod_readSymbol_28 : decode M_Mod_readSymbol.2.1 28 = .ok (.bipush 12, 2) := by decide +kernel
theorem d_Mod_readSymbol_30 : decode M_Mod_readSymbol.2.1 30 = .ok (.if_icmp .ne 7, 3) := by decide +kernel
theorem d_Mod_readSymbol_33 : decode M_Mod_readSymbol.2.1 33 = .ok (.iconst 1, 1) := by decide +kernel
theorem d_Mod_readSymbol_34 : decode M_Mod_readSymbol.2.1 34 = .ok (.goto 4, 3) := by decide +kernel
theorem d_Mod_readSymbol_37 : decode M_Mod_readSymbol.2.1 37 = .ok (.iconst 0, 1) := by decide +kernel
theorem d_Mod_readSymbol_38 : decode M_Mod_readSymbol.2.1 38 = .ok (.bipush (-10), 2) := by decide +kernel
theorem d_Mod_readSymbol_40 : decode M_Mod_readSymbol.2.1 40 = .ok (.iload_n 2, 1) := by decide +kernel
theorem d_Mod_readSymbol_41 : decode M_Mod_readSymbol.2.1 41 = .ok (.invokevirtual 246, 3) := by decide +kernel
theorem d_Mod_readSymbol_44 : decode M_Mod_readSymbol.2.1 44 = .ok (.iconst 2, 1) := by decide +kernel
theorem d_Mod_readSymbol_45 : decode M_Mod_readSymbol.2.1 45 = .ok (.iload_n 3, 1) := by decide +kernel
theorem d_Mod_readSymbol_46 : decode M_Mod_readSymbol.2.1 46 = .ok (.imul, 1) := by decide +kernel
theorem d_Mod_readSymbol_47 : decode M_Mod_readSymbol.2.1 47 = .ok (.aload_n 0, 1) := by decide +kernel
theorem d_Mod_readSymbol_48 : decode M_Mod_readSymbol.2.1 48 = .ok (.iconst 1, 1) := by decide +kernel
theorem d_Mod_readSymbol_49 : decode M_Mod_readSymbol.2.1 49 = .ok (.iload_n 2, 1) := by decide +kernel
theorem d_Mod_readSymbol_50 : decode M_Mod_readSymbol.2.1 50 = .ok (.invokevirtual 243, 3) := by decide +kernel
theorem d_Mod_readSymbol_53 : decode M_Mod_readSymbol.2.1 53 = .ok (.iadd, 1) := by decide +kernel
theorem d_Mod_readSymbol_54 : decode M_Mod_readSymbol.2.1 54 = .ok (.istore_n 3, 1) := by decide +kernel
theorem d_Mod_readSymbol_55 : decode M_Mod_readSymbol.2.1 55 = .ok (.iinc 4 1, 3) := by decide +kernel
theorem d_Mod_readSymbol_58 : decode M_Mod_readSymbol.2.1 58 = .ok (.aload_n 0, 1) := by decide +kernel
theorem d_Mod_readSymbol_59 : decode M_Mod_readSymbol.2.1 59 = .ok (.getfield 231, 3) := by decide +kernel
theorem d_Mod_readSymbol_62 : decode M_Mod_readSymbol.2.1 62 = .ok (.ifCond .ne 14, 3) := by decide +kernel
theorem d_Mod_readSymbol_65 : decode M_Mod_readSymbol.2.1 65 = .ok (.aload_n 0, 1) := by decide +kernel
theorem d_Mod_readSymbol_66 : decode M_Mod_readSymbol.2.1 66 = .ok (.iload_n 1, 1) := by decide +kernel
theorem d_Mod_readSymbol_67 : decode M_Mod_readSymbol.2.1 67 = .ok (.iload_n 3, 1) := by decide +kernel
theorem d_Mod_readSymbol_68 : decode M_Mod_readSymbol.2.1 68 = .ok (.iload 4, 2) := by decide +kernel
theorem d_Mod_readSymbol_70 : decode M_Mod_readSymbol.2.1 70 = .ok (.invokevirtual 250, 3) := by decide +kernel
theorem d_Mod_readSymbol_73 : decode M_Mod_readSymbol.2.1 73 = .ok (.goto 4, 3) := by decide +kernel
theorem d_Mod_readSymbol_76 : decode M_Mod_readSymbol.2.1 76 = .ok (.iconst (-1), 1) := by decide +kernel
theorem d_Mod_readSymbol_77 : decode M_Mod_readSymbol.2.1 77 = .ok (.istore 5, 2) := by decide +kernel
theorem d_Mod_readSymbol_79 : decode M_Mod_readSymbol.2.1 79 = .ok (.goto (-66), 3) := by decide +kernel
theorem d_Mod_readSymbol_82 : decode M_Mod_readSymbol.2.1 82 = .ok (.iload 5, 2) := by decide +kernel
theorem d_Mod_readSymbol_84 : decode M_Mod_readSymbol.2.1 84 = .ok (.ireturn, 1) := by decide +kernel
theorem d_Mod_addColumn_0 : decode M_Mod_addColumn.2.1 0 = .ok (.iconst 0, 1) := by decide +kernel
theorem d_Mod_addColumn_1 : decode M_Mod_addColumn.2.1 1 = .ok (.istore_n 3, 1) := by decide +kernel
theorem d_Mod_addColumn_2 : decode M_Mod_addColumn.2.1 2 = .ok (.iload_n 3, 1) := by decide +kernel
theorem d_Mod_addColumn_3 : decode M_Mod_addColumn.2.1 3 = .ok (.iload_n 2, 1) := by decide +kernel
theorem d_Mod_addColumn_4 : decode M_Mod_addColumn.2.1 4 = .ok (.if_icmp .ge 29, 3) := by decide +kernel
theorem d_Mod_addColumn_7 : decode M_Mod_addColumn.2.1 7 = .ok (.aload_n 0, 1) := by decide +kernel
theorem d_Mod_addColumn_8 : decode M_Mod_addColumn.2.1 8 = .ok (.getfield 29, 3) := by decide +kernel
theorem d_Mod_addColumn_11 : decode M_Mod_addColumn.2.1 11 = .ok (.aload_n 0, 1) := by decide +kernel
theorem d_Mod_addColumn_12 : decode M_Mod_addColumn.2.1 12 = .ok (.getfield 98, 3) := by decide +kernel
theorem d_Mod_addColumn_15 : decode M_Mod_addColumn.2.1 15 = .ok (.iload_n 1, 1) := by decide +kernel
theorem d_Mod_addColumn_16 : decode M_Mod_addColumn.2.1 16 = .ok (.iastore, 1) := by decide +kernel
theorem d_Mod_addColumn_17 : decode M_Mod_addColumn.2.1 17 = .ok (.aload_n 0, 1) := by decide +kernel
theorem d_Mod_addColumn_18 : decode M_Mod_addColumn.2.1 18 = .ok (.dup, 1) := by decide +kernel
theorem d_Mod_addColumn_19 : decode M_Mod_addColumn.2.1 19 = .ok (.getfield 98, 3) := by decide +kernel
theorem d_Mod_addColumn_22 : decode M_Mod_addColumn.2.1 22 = .ok (.iconst 1, 1) := by decide +kernel
theorem d_Mod_addColumn_23 : decode M_Mod_addColumn.2.1 23 = .ok (.iadd, 1) := by decide +kernel
theorem d_Mod_addColumn_24 : decode M_Mod_addColumn.2.1 24 = .ok (.putfield 98, 3) := by decide +kernel
theorem d_Mod_addColumn_27 : decode M_Mod_addColumn.2.1 27 = .ok (.iinc 3 1, 3) := by decide +kernel
theorem d_Mod_addColumn_30 : decode M_Mod_addColumn.2.1 30 = .ok (.goto (-28), 3) := by decide +kernel
theorem d_Mod_addColumn_33 : decode M_Mod_addColumn.2.1 33 = .ok (.return_, 1) := by decide +kernel
theorem d_Mod_readSymbols_0 : decode M_Mod_readSymbols.2.1 0 = .ok (.aload_n 0, 1) := by decide +kernel
theorem d_Mod_readSymbols_1 : decode M_Mod_readSymbols.2.1 1 = .ok (.iconst 0, 1) := by decide +kernel
theorem d_Mod_readSymbols_2 : decode M_Mod_readSymbols.2.1 2 = .ok (.putfield 111, 3) := by decide +kernel
theorem d_Mod_readSymbols_5 : decode M_Mod_readSymbols.2.1 5 = .ok (.aload_n 0, 1) := by decide +kernel
theorem d_Mod_readSymbols_6 : decode M_Mod_readSymbols.2.1 6 = .ok (.iconst 0, 1) := by decide +kernel
theorem d_Mod_readSymbols_7 : decode M_Mod_readSymbols.2.1 7 = .ok (.putfield 98, 3) := by decide +kernel
theorem d_Mod_readSymbols_10 : decode M_Mod_readSymbols.2.1 10 = .ok (.iconst 0, 1) := by decide +kernel
theorem d_Mod_readSymbols_11 : decode M_Mod_readSymbols.2.1 11 = .ok (.istore_n 2, 1) := by decide +kernel
theorem d_Mod_readSymbols_12 : decode M_Mod_readSymbols.2.1 12 = .ok (.iconst 1, 1) := by decide +kernel
theorem d_Mod_readSymbols_13 : decode M_Mod_readSymbols.2.1 13 = .ok (.istore_n 3, 1) := by decide +kernel
theorem d_Mod_readSymbols_14 : decode M_Mod_readSymbols.2.1 14 = .ok (.aload_n 0, 1) := by decide +kernel
theorem d_Mod_readSymbols_15 : decode M_Mod_readSymbols.2.1 15 = .ok (.getfield 237, 3) := by decide +kernel
theorem d_Mod_readSymbols_18 : decode M_Mod_readSymbols.2.1 18 = .ok (.istore 4, 2) := by decide +kernel
theorem d_Mod_readSymbols_20 : decode M_Mod_readSymbols.2.1 20 = .ok (.iconst 1, 1) := by decide +kernel
theorem d_Mod_readSymbols_21 : decode M_Mod_readSymbols.2.1 21 = .ok (.istore 5, 2) := by decide +kernel
theorem d_Mod_readSymbols_23 : decode M_Mod_readSymbols.2.1 23 = .ok (.iload 5, 2) := by decide +kernel
theorem d_Mod_readSymbols_25 : decode M_Mod_readSymbols.2.1 25 = .ok (.ifCond .eq 217, 3) := by decide +kernel
theorem d_Mod_readSymbols_28 : decode M_Mod_readSymbols.2.1 28 = .ok (.aload_n 0, 1) := by decide +kernel
theorem d_Mod_readSymbols_29 : decode M_Mod_readSymbols.2.1 29 = .ok (.getfield 231, 3) := by decide +kernel
theorem d_Mod_readSymbols_32 : decode M_Mod_readSymbols.2.1 32 = .ok (.ifCond .ne 210, 3) := by decide +kernel
theorem d_Mod_readSymbols_35 : decode M_Mod_readSymbols.2.1 35 = .ok (.aload_n 0, 1) := by decide +kernel
theorem d_Mod_readSymbols_36 : decode M_Mod_readSymbols.2.1 36 = .ok (.getfield 237, 3) := by decide +kernel
theorem d_Mod_readSymbols_39 : decode M_Mod_readSymbols.2.1 39 = .ok (.istore 4, 2) := by decide +kernel
theorem d_Mod_readSymbols_41 : decode M_Mod_readSymbols.2.1 41 = .ok (.aload_n 0, 1) := by decide +kernel
theorem d_Mod_readSymbols_42 : decode M_Mod_readSymbols.2.1 42 = .ok (.aload_n 0, 1) := by decide +kernel
theorem d_Mod_readSymbols_43 : decode M_Mod_readSymbols.2.1 43 = .ok (.getfield 111, 3) := by decide +kernel
theorem d_Mod_readSymbols_46 : decode M_Mod_readSymbols.2.1 46 = .ok (.bipush 8, 2) := by decide +kernel
theorem d_Mod_readSymbols_48 : decode M_Mod_readSymbols.2.1 48 = .ok (.aload_n 0, 1) := by decide +kernel
theorem d_Mod_readSymbols_49 : decode M_Mod_readSymbols.2.1 49 = .ok (.getfield 131, 3) := by decide +kernel
theorem d_Mod_readSymbols_52 : decode M_Mod_readSymbols.2.1 52 = .ok (.imul, 1) := by decide +kernel
theorem d_Mod_readSymbols_53 : decode M_Mod_readSymbols.2.1 53 = .ok (.if_icmp .ne 7, 3) := by decide +kernel
theorem d_Mod_readSymbols_56 : decode M_Mod_readSymbols.2.1 56 = .ok (.iconst 1, 1) := by decide +kernel
theorem d_Mod_readSymbols_57 : decode M_Mod_readSymbols.2.1 57 = .ok (.goto 4, 3) := by decide +kernel
theorem d_Mod_readSymbols_60 : decode M_Mod_readSymbols.2.1 60 = .ok (.iconst 0, 1) := by decide +kernel
theorem d_Mod_readSymbols_61 : decode M_Mod_readSymbols.2.1 61 = .ok (.bipush (-11), 2) := by decide +kernel
theorem d_Mod_readSymbols_63 : decode M_Mod_readSymbols.2.1 63 = .ok (.iload 4, 2) := by decide +kernel
theorem d_Mod_readSymbols_65 : decode M_Mod_readSymbols.2.1 65 = .ok (.invokevirtual 246, 3) := by decide +kernel
theorem d_Mod_readSymbols_68 : decode M_Mod_readSymbols.2.1 68 = .ok (.aload_n 0, 1) := by decide +kernel
theorem d_Mod_readSymbols_69 : decode M_Mod_readSymbols.2.1 69 = .ok (.getfield 231, 3) := by decide +kernel
theorem d_Mod_readSymbols_72 : decode M_Mod_readSymbols.2.1 72 = .ok (.ifCond .ne 22, 3) := by decide +kernel
theorem d_Mod_readSymbols_75 : decode M_Mod_readSymbols.2.1 75 = .ok (.aload_n 0, 1) := by decide +kernel
theorem d_Mod_readSymbols_76 : decode M_Mod_readSymbols.2.1 76 = .ok (.aload_n 0, 1) := by decide +kernel
theorem d_Mod_readSymbols_77 : decode M_Mod_readSymbols.2.1 77 = .ok (.getfield 48, 3) := by decide +kernel
theorem d_Mod_readSymbols_80 : decode M_Mod_readSymbols.2.1 80 = .ok (.aload_n 0, 1) := by decide +kernel
theorem d_Mod_readSymbols_81 : decode M_Mod_readSymbols.2.1 81 = .ok (.getfield 111, 3) := by decide +kernel
theorem d_Mod_readSymbols_84 : decode M_Mod_readSymbols.2.1 84 = .ok (.bipush 8, 2) := by decide +kernel
theorem d_Mod_readSymbols_86 : decode M_Mod_readSymbols.2.1 86 = .ok (.idiv, 1) := by decide +kernel
theorem d_Mod_readSymbols_87 : decode M_Mod_readSymbols.2.1 87 = .ok (.iaload, 1) := by decide +kernel
theorem d_Mod_readSymbols_88 : decode M_Mod_readSymbols.2.1 88 = .ok (.invokevirtual 254, 3) := by decide +kernel
theorem d_Mod_readSymbols_91 : decode M_Mod_readSymbols.2.1 91 = .ok (.goto 4, 3) := by decide +kernel
theorem d_Mod_readSymbols_94 : decode M_Mod_readSymbols.2.1 94 = .ok (.iconst (-1), 1) := by decide +kernel
theorem d_Mod_readSymbols_95 : decode M_Mod_readSymbols.2.1 95 = .ok (.istore 6, 2) := by decide +kernel
theorem d_Mod_readSymbols_97 : decode M_Mod_readSymbols.2.1 97 = .ok (.aload_n 0, 1) := by decide +kernel
theorem d_Mod_readSymbols_98 : decode M_Mod_readSymbols.2.1 98 = .ok (.getfield 231, 3) := by decide +kernel
theorem d_Mod_readSymbols_101 : decode M_Mod_readSymbols.2.1 101 = .ok (.ifCond .ne 138, 3) := by decide +kernel
theorem d_Mod_readSymbols_104 : decode M_Mod_readSymbols.2.1 104 = .ok (.aload_n 0, 1) := by decide +kernel
theorem d_Mod_readSymbols_105 : decode M_Mod_readSymbols.2.1 105 = .ok (.iload 6, 2) := by decide +kernel
theorem d_Mod_readSymbols_107 : decode M_Mod_readSymbols.2.1 107 = .ok (.invokevirtual 114, 3) := by decide +kernel
theorem d_Mod_readSymbols_110 : decode M_Mod_readSymbols.2.1 110 = .ok (.iload 6, 2) := by decide +kernel
theorem d_Mod_readSymbols_112 : decode M_Mod_readSymbols.2.1 112 = .ok (.iconst 2, 1) := by decide +kernel
theorem d_Mod_readSymbols_113 : decode M_Mod_readSymbols.2.1 113 = .ok (.if_icmp .ge 42, 3) := by decide +kernel
theorem d_Mod_readSymbols_116 : decode M_Mod_readSymbols.2.1 116 = .ok (.iload_n 2, 1) := by decide +kernel
theorem d_Mod_readSymbols_117 : decode M_Mod_readSymbols.2.1 117 = .ok (.iload_n 3, 1) := by decide +kernel
theorem d_Mod_readSymbols_118 : decode M_Mod_readSymbols.2.1 118 = .ok (.iload 6, 2) := by decide +kernel
theorem d_Mod_readSymbols_120 : decode M_Mod_readSymbols.2.1 120 = .ok (.iconst 1, 1) := by decide +kernel
theorem d_Mod_readSymbols_121 : decode M_Mod_readSymbols.2.1 121 = .ok (.iadd, 1) := by decide +kernel
theorem d_Mod_readSymbols_122 : decode M_Mod_readSymbols.2.1 122 = .ok (.imul, 1) := by decide +kernel
theorem d_Mod_readSymbols_123 : decode M_Mod_readSymbols.2.1 123 = .ok (.iadd, 1) := by decide +kernel
theorem d_Mod_readSymbols_124 : decode M_Mod_readSymbols.2.1 124 = .ok (.istore_n 2, 1) := by decide +kernel
theorem d_Mod_readSymbols_125 : decode M_Mod_readSymbols.2.1 125 = .ok (.iconst 2, 1) := by decide +kernel
theorem d_Mod_readSymbols_126 : decode M_Mod_readSymbols.2.1 126 = .ok (.iload_n 3, 1) := by decide +kernel
theorem d_Mod_readSymbols_127 : decode M_Mod_readSymbols.2.1 127 = .ok (.imul, 1) := by decide +kernel
theorem d_Mod_readSymbols_128 : decode M_Mod_readSymbols.2.1 128 = .ok (.istore_n 3, 1) := by decide +kernel
theorem d_Mod_readSymbols_129 : decode M_Mod_readSymbols.2.1 129 = .ok (.aload_n 0, 1) := by decide +kernel
theorem d_Mod_readSymbols_130 : decode M_Mod_readSymbols.2.1 130 = .ok (.aload_n 0, 1) := by decide +kernel
theorem d_Mod_readSymbols_131 : decode M_Mod_readSymbols.2.1 131 = .ok (.getfield 98, 3) := by decide +kernel
theorem d_Mod_readSymbols_134 : decode M_Mod_readSymbols.2.1 134 = .ok (.iload_n 2, 1) := by decide +kernel
theorem d_Mod_readSymbols_135 : decode M_Mod_readSymbols.2.1 135 = .ok (.iadd, 1) := by decide +kernel
theorem d_Mod_readSymbols_136 : decode M_Mod_readSymbols.2.1 136 = .ok (.iload_n 1, 1) := by decide +kernel
theorem d_Mod_readSymbols_137 : decode M_Mod_readSymbols.2.1 137 = .ok (.if_icmp .le 7, 3) := by decide +kernel
theorem d_Mod_readSymbols_140 : decode M_Mod_readSymbols.2.1 140 = .ok (.iconst 1, 1) := by decide +kernel
theorem d_Mod_readSymbols_141 : decode M_Mod_readSymbols.2.1 141 = .ok (.goto 4, 3) := by decide +kernel
theorem d_Mod_readSymbols_144 : decode M_Mod_readSymbols.2.1 144 = .ok (.iconst 0, 1) := by decide +kernel
theorem d_Mod_readSymbols_145 : decode M_Mod_readSymbols.2.1 145 = .ok (.bipush (-11), 2) := by decide +kernel
theorem d_Mod_readSymbols_147 : decode M_Mod_readSymbols.2.1 147 = .ok (.iload 4, 2) := by decide +kernel
theorem d_Mod_readSymbols_149 : decode M_Mod_readSymbols.2.1 149 = .ok (.invokevirtual 246, 3) := by decide +kernel
theorem d_Mod_readSymbols_152 : decode M_Mod_readSymbols.2.1 152 = .ok (.goto 87, 3) := by decide +kernel
theorem d_Mod_readSymbols_155 : decode M_Mod_readSymbols.2.1 155 = .ok (.aload_n 0, 1) := by decide +kernel
theorem d_Mod_readSymbols_156 : decode M_Mod_readSymbols.2.1 156 = .ok (.aload_n 0, 1) := by decide +kernel
theorem d_Mod_readSymbols_157 : decode M_Mod_readSymbols.2.1 157 = .ok (.getfield 39, 3) := by decide +kernel
theorem d_Mod_readSymbols_160 : decode M_Mod_readSymbols.2.1 160 = .ok (.iconst 0, 1) := by decide +kernel
theorem d_Mod_readSymbols_161 : decode M_Mod_readSymbols.2.1 161 = .ok (.iaload, 1) := by decide +kernel
theorem d_Mod_readSymbols_162 : decode M_Mod_readSymbols.2.1 162 = .ok (.iload_n 2, 1) := by decide +kernel
theorem d_Mod_readSymbols_163 : decode M_Mod_readSymbols.2.1 163 = .ok (.invokevirtual 257, 3) := by decide +kernel
theorem d_Mod_readSymbols_166 : decode M_Mod_readSymbols.2.1 166 = .ok (.iconst 0, 1) := by decide +kernel
theorem d_Mod_readSymbols_167 : decode M_Mod_readSymbols.2.1 167 = .ok (.istore_n 2, 1) := by decide +kernel
theorem d_Mod_readSymbols_168 : decode M_Mod_readSymbols.2.1 168 = .ok (.iconst 1, 1) := by decide +kernel
theorem d_Mod_readSymbols_169 : decode M_Mod_readSymbols.2.1 169 = .ok (.istore_n 3, 1) := by decide +kernel
theorem d_Mod_readSymbols_170 : decode M_Mod_readSymbols.2.1 170 = .ok (.iload 6, 2) := by decide +kernel
theorem d_Mod_readSymbols_172 : decode M_Mod_readSymbols.2.1 172 = .ok (.aload_n 0, 1) := by decide +kernel
theorem d_Mod_readSymbols_173 : decode M_Mod_readSymbols.2.1 173 = .ok (.getfield 108, 3) := by decide +kernel
theorem d_Mod_readSymbols_176 : decode M_Mod_readSymbols.2.1 176 = .ok (.iconst 1, 1) := by decide +kernel
theorem d_Mod_readSymbols_177 : decode M_Mod_readSymbols.2.1 177 = .ok (.iadd, 1) := by decide +kernel
theorem d_Mod_readSymbols_178 : decode M_Mod_readSymbols.2.1 178 = .ok (.if_icmp .eq 7, 3) := by decide +kernel
theorem d_Mod_readSymbols_181 : decode M_Mod_readSymbols.2.1 181 = .ok (.iconst 1, 1) := by decide +kernel
theorem d_Mod_readSymbols_182 : decode M_Mod_readSymbols.2.1 182 = .ok (.goto 4, 3) := by decide +kernel
theorem d_Mod_readSymbols_185 : decode M_Mod_readSymbols.2.1 185 = .ok (.iconst 0, 1) := by decide +kernel
theorem d_Mod_readSymbols_186 : decode M_Mod_readSymbols.2.1 186 = .ok (.istore 5, 2) := by decide +kernel
theorem d_Mod_readSymbols_188 : decode M_Mod_readSymbols.2.1 188 = .ok (.aload_n 0, 1) := by decide +kernel
theorem d_Mod_readSymbols_189 : decode M_Mod_readSymbols.2.1 189 = .ok (.iload 5, 2) := by decide +kernel
theorem d_Mod_readSymbols_191 : decode M_Mod_readSymbols.2.1 191 = .ok (.ifCond .eq 15, 3) := by decide +kernel
theorem d_Mod_readSymbols_194 : decode M_Mod_readSymbols.2.1 194 = .ok (.aload_n 0, 1) := by decide +kernel
theorem d_Mod_readSymbols_195 : decode M_Mod_readSymbols.2.1 195 = .ok (.getfield 98, 3) := by decide +kernel
theorem d_Mod_readSymbols_198 : decode M_Mod_readSymbols.2.1 198 = .ok (.iload_n 1, 1) := by decide +kernel
theorem d_Mod_readSymbols_199 : decode M_Mod_readSymbols.2.1 199 = .ok (.if_icmp .ne 7, 3) := by decide +kernel
theorem d_Mod_readSymbols_202 : decode M_Mod_readSymbols.2.1 202 = .ok (.iconst 1, 1) := by decide +kernel
theorem d_Mod_readSymbols_203 : decode M_Mod_readSymbols.2.1 203 = .ok (.goto 4, 3) := by decide +kernel
theorem d_Mod_readSymbols_206 : decode M_Mod_readSymbols.2.1 206 = .ok (.iconst 0, 1) := by decide +kernel
theorem d_Mod_readSymbols_207 : decode M_Mod_readSymbols.2.1 207 = .ok (.bipush (-11), 2) := by decide +kernel
theorem d_Mod_readSymbols_209 : decode M_Mod_readSymbols.2.1 209 = .ok (.iload 4, 2) := by decide +kernel
theorem d_Mod_readSymbols_211 : decode M_Mod_readSymbols.2.1 211 = .ok (.invokevirtual 246, 3) := by decide +kernel
theorem d_Mod_readSymbols_214 : decode M_Mod_readSymbols.2.1 214 = .ok (.iload 5, 2) := by decide +kernel
theorem d_Mod_readSymbols_216 : decode M_Mod_readSymbols.2.1 216 = .ok (.ifCond .eq 23, 3) := by decide +kernel
theorem d_Mod_readSymbols_219 : decode M_Mod_readSymbols.2.1 219 = .ok (.aload_n 0, 1) := by decide +kernel
theorem d_Mod_readSymbols_220 : decode M_Mod_readSymbols.2.1 220 = .ok (.getfield 231, 3) := by decide +kernel
theorem d_Mod_readSymbols_223 : decode M_Mod_readSymbols.2.1 223 = .ok (.ifCond .ne 16, 3) := by decide +kernel
theorem d_Mod_readSymbols_226 : decode M_Mod_readSymbols.2.1 226 = .ok (.aload_n 0, 1) := by decide +kernel
theorem d_Mod_readSymbols_227 : decode M_Mod_readSymbols.2.1 227 = .ok (.aload_n 0, 1) := by decide +kernel
theorem d_Mod_readSymbols_228 : decode M_Mod_readSymbols.2.1 228 = .ok (.iload 6, 2) := by decide +kernel
theorem d_Mod_readSymbols_230 : decode M_Mod_readSymbols.2.1 230 = .ok (.iconst 1, 1) := by decide +kernel
theorem d_Mod_readSymbols_231 : decode M_Mod_readSymbols.2.1 231 = .ok (.isub, 1) := by decide +kernel
theorem d_Mod_readSymbols_232 : decode M_Mod_readSymbols.2.1 232 = .ok (.invokevirtual 121, 3) := by decide +kernel
theorem d_Mod_readSymbols_235 : decode M_Mod_readSymbols.2.1 235 = .ok (.iconst 1, 1) := by decide +kernel
theorem d_Mod_readSymbols_236 : decode M_Mod_readSymbols.2.1 236 = .ok (.invokevirtual 257, 3) := by decide +kernel
theorem d_Mod_readSymbols_239 : decode M_Mod_readSymbols.2.1 239 = .ok (.goto (-216), 3) := by decide +kernel
theorem d_Mod_readSymbols_242 : decode M_Mod_readSymbols.2.1 242 = .ok (.iload 4, 2) := by decide +kernel
theorem d_Mod_readSymbols_244 : decode M_Mod_readSymbols.2.1 244 = .ok (.ireturn, 1) := by decide +kernel
theorem d_Mod_readBlock_0 : decode M_Mod_readBlock.2.1 0 = .ok (.aload_n 0, 1) := by decide +kernel
theorem d_Mod_readBlock_1 : decode M_Mod_readBlock.2.1 1 = .ok (.aload_n 0, 1) := by decide +kernel
theorem d_Mod_readBlock_2 : decode M_Mod_readBlock.2.1 2 = .ok (.getfield 237, 3) := by decide +kernel
theorem d_Mod_readBlock_5 : decode M_Mod_readBlock.2.1 5 = .ok (.putfield 260, 3) := by decide +kernel
theorem d_Mod_readBlock_8 : decode M_Mod_readBlock.2.1 8 = .ok (.aload_n 0, 1) := by decide +kernel
theorem d_Mod_readBlock_9 : decode M_Mod_readBlock.2.1 9 = .ok (.aload_n 0, 1) := by decide +kernel
theorem d_Mod_readBlock_10 : decode M_Mod_readBlock.2.1 10 = .ok (.bipush 16, 2) := by decide +kernel
theorem d_Mod_readBlock_12 : decode M_Mod_readBlock.2.1 12 = .ok (.aload_n 0, 1) := by decide +kernel
theorem d_Mod_readBlock_13 : decode M_Mod_readBlock.2.1 13 = .ok (.getfield 260, 3) := by decide +kernel
theorem d_Mod_readBlock_16 : decode M_Mod_readBlock.2.1 16 = .ok (.invokevirtual 243, 3) := by decide +kernel
theorem d_Mod_readBlock_19 : decode M_Mod_readBlock.2.1 19 = .ok (.putfield 163, 3) := by decide +kernel
theorem d_Mod_readBlock_22 : decode M_Mod_readBlock.2.1 22 = .ok (.aload_n 0, 1) := by decide +kernel
theorem d_Mod_readBlock_23 : decode M_Mod_readBlock.2.1 23 = .ok (.aload_n 0, 1) := by decide +kernel
theorem d_Mod_readBlock_24 : decode M_Mod_readBlock.2.1 24 = .ok (.bipush 6, 2) := by decide +kernel
theorem d_Mod_readBlock_26 : decode M_Mod_readBlock.2.1 26 = .ok (.aload_n 0, 1) := by decide +kernel
theorem d_Mod_readBlock_27 : decode M_Mod_readBlock.2.1 27 = .ok (.getfield 237, 3) := by decide +kernel
theorem d_Mod_readBlock_30 : decode M_Mod_readBlock.2.1 30 = .ok (.invokevirtual 243, 3) := by decide +kernel
theorem d_Mod_readBlock_33 : decode M_Mod_readBlock.2.1 33 = .ok (.putfield 105, 3) := by decide +kernel
theorem d_Mod_readBlock_36 : decode M_Mod_readBlock.2.1 36 = .ok (.aload_n 0, 1) := by decide +kernel
theorem d_Mod_readBlock_37 : decode M_Mod_readBlock.2.1 37 = .ok (.getfield 231, 3) := by decide +kernel
theorem d_Mod_readBlock_40 : decode M_Mod_readBlock.2.1 40 = .ok (.ifCond .ne 7, 3) := by decide +kernel
theorem d_Mod_readBlock_43 : decode M_Mod_readBlock.2.1 43 = .ok (.aload_n 0, 1) := by decide +kernel
theorem d_Mod_readBlock_44 : decode M_Mod_readBlock.2.1 44 = .ok (.invokevirtual 263, 3) := by decide +kernel
theorem d_Mod_readBlock_47 : decode M_Mod_readBlock.2.1 47 = .ok (.aload_n 0, 1) := by decide +kernel
theorem d_Mod_readBlock_48 : decode M_Mod_readBlock.2.1 48 = .ok (.getfield 237, 3) := by decide +kernel
theorem d_Mod_readBlock_51 : decode M_Mod_readBlock.2.1 51 = .ok (.istore_n 2, 1) := by decide +kernel
theorem d_Mod_readBlock_52 : decode M_Mod_readBlock.2.1 52 = .ok (.aload_n 0, 1) := by decide +kernel
theorem d_Mod_readBlock_53 : decode M_Mod_readBlock.2.1 53 = .ok (.aload_n 0, 1) := by decide +kernel
theorem d_Mod_readBlock_54 : decode M_Mod_readBlock.2.1 54 = .ok (.getfield 231, 3) := by decide +kernel
theorem d_Mod_readBlock_57 : decode M_Mod_readBlock.2.1 57 = .ok (.ifCond .ne 12, 3) := by decide +kernel
theorem d_Mod_readBlock_60 : decode M_Mod_readBlock.2.1 60 = .ok (.aload_n 0, 1) := by decide +kernel
theorem d_Mod_readBlock_61 : decode M_Mod_readBlock.2.1 61 = .ok (.iconst 3, 1) := by decide +kernel
theorem d_Mod_readBlock_62 : decode M_Mod_readBlock.2.1 62 = .ok (.iload_n 2, 1) := by decide +kernel
theorem d_Mod_readBlock_63 : decode M_Mod_readBlock.2.1 63 = .ok (.invokevirtual 243, 3) := by decide +kernel
theorem d_Mod_readBlock_66 : decode M_Mod_readBlock.2.1 66 = .ok (.goto 4, 3) := by decide +kernel
theorem d_Mod_readBlock_69 : decode M_Mod_readBlock.2.1 69 = .ok (.iconst 1, 1) := by decide +kernel
theorem d_Mod_readBlock_70 : decode M_Mod_readBlock.2.1 70 = .ok (.putfield 134, 3) := by decide +kernel
theorem d_Mod_readBlock_73 : decode M_Mod_readBlock.2.1 73 = .ok (.aload_n 0, 1) := by decide +kernel
theorem d_Mod_readBlock_74 : decode M_Mod_readBlock.2.1 74 = .ok (.aload_n 0, 1) := by decide +kernel
theorem d_Mod_readBlock_75 : decode M_Mod_readBlock.2.1 75 = .ok (.getfield 134, 3) := by decide +kernel
theorem d_Mod_readBlock_78 : decode M_Mod_readBlock.2.1 78 = .ok (.iconst 1, 1) := by decide +kernel
theorem d_Mod_readBlock_79 : decode M_Mod_readBlock.2.1 79 = .ok (.if_icmp .lt 11, 3) := by decide +kernel
theorem d_Mod_readBlock_82 : decode M_Mod_readBlock.2.1 82 = .ok (.aload_n 0, 1) := by decide +kernel
theorem d_Mod_readBlock_83 : decode M_Mod_readBlock.2.1 83 = .ok (.getfield 134, 3) := by decide +kernel
theorem d_Mod_readBlock_86 : decode M_Mod_readBlock.2.1 86 = .ok (.iconst 4, 1) := by decide +kernel
theorem d_Mod_readBlock_87 : decode M_Mod_readBlock.2.1 87 = .ok (.if_icmp .le 7, 3) := by decide +kernel
theorem d_Mod_readBlock_90 : decode M_Mod_readBlock.2.1 90 = .ok (.iconst 1, 1) := by decide +kernel
theorem d_Mod_readBlock_91 : decode M_Mod_readBlock.2.1 91 = .ok (.goto 4, 3) := by decide +kernel
theorem d_Mod_readBlock_94 : decode M_Mod_readBlock.2.1 94 = .ok (.iconst 0, 1) := by decide +kernel
theorem d_Mod_readBlock_95 : decode M_Mod_readBlock.2.1 95 = .ok (.bipush (-6), 2) := by decide +kernel
theorem d_Mod_readBlock_97 : decode M_Mod_readBlock.2.1 97 = .ok (.iload_n 2, 1) := by decide +kernel
theorem d_Mod_readBlock_98 : decode M_Mod_readBlock.2.1 98 = .ok (.invokevirtual 246, 3) := by decide +kernel
theorem d_Mod_readBlock_101 : decode M_Mod_readBlock.2.1 101 = .ok (.aload_n 0, 1) := by decide +kernel
theorem d_Mod_readBlock_102 : decode M_Mod_readBlock.2.1 102 = .ok (.getfield 237, 3) := by decide +kernel
theorem d_Mod_readBlock_105 : decode M_Mod_readBlock.2.1 105 = .ok (.istore_n 2, 1) := by decide +kernel
theorem d_Mod_readBlock_106 : decode M_Mod_readBlock.2.1 106 = .ok (.aload_n 0, 1) := by decide +kernel
theorem d_Mod_readBlock_107 : decode M_Mod_readBlock.2.1 107 = .ok (.aload_n 0, 1) := by decide +kernel
theorem d_Mod_readBlock_108 : decode M_Mod_readBlock.2.1 108 = .ok (.getfield 231, 3) := by decide +kernel
theorem d_Mod_readBlock_111 : decode M_Mod_readBlock.2.1 111 = .ok (.ifCond .ne 13, 3) := by decide +kernel
theorem d_Mod_readBlock_114 : decode M_Mod_readBlock.2.1 114 = .ok (.aload_n 0, 1) := by decide +kernel
theorem d_Mod_readBlock_115 : decode M_Mod_readBlock.2.1 115 = .ok (.bipush 6, 2) := by decide +kernel
theorem d_Mod_readBlock_117 : decode M_Mod_readBlock.2.1 117 = .ok (.iload_n 2, 1) := by decide +kernel
theorem d_Mod_readBlock_118 : decode M_Mod_readBlock.2.1 118 = .ok (.invokevirtual 243, 3) := by decide +kernel
theorem d_Mod_readBlock_121 : decode M_Mod_readBlock.2.1 121 = .ok (.goto 4, 3) := by decide +kernel
theorem d_Mod_readBlock_124 : decode M_Mod_readBlock.2.1 124 = .ok (.iconst 1, 1) := by decide +kernel
theorem d_Mod_readBlock_125 : decode M_Mod_readBlock.2.1 125 = .ok (.putfield 131, 3) := by decide +kernel
theorem d_Mod_readBlock_128 : decode M_Mod_readBlock.2.1 128 = .ok (.aload_n 0, 1) := by decide +kernel
theorem d_Mod_readBlock_129 : decode M_Mod_readBlock.2.1 129 = .ok (.aload_n 0, 1) := by decide +kernel
theorem d_Mod_readBlock_130 : decode M_Mod_readBlock.2.1 130 = .ok (.getfield 131, 3) := by decide +kernel
theorem d_Mod_readBlock_133 : decode M_Mod_readBlock.2.1 133 = .ok (.ifCond .ne 7, 3) := by decide +kernel
theorem d_Mod_readBlock_136 : decode M_Mod_readBlock.2.1 136 = .ok (.iconst 1, 1) := by decide +kernel
theorem d_Mod_readBlock_137 : decode M_Mod_readBlock.2.1 137 = .ok (.goto 4, 3) := by decide +kernel
theorem d_Mod_readBlock_140 : decode M_Mod_readBlock.2.1 140 = .ok (.iconst 0, 1) := by decide +kernel
theorem d_Mod_readBlock_141 : decode M_Mod_readBlock.2.1 141 = .ok (.bipush (-7), 2) := by decide +kernel
theorem d_Mod_readBlock_143 : decode M_Mod_readBlock.2.1 143 = .ok (.iload_n 2, 1) := by decide +kernel
theorem d_Mod_readBlock_144 : decode M_Mod_readBlock.2.1 144 = .ok (.invokevirtual 246, 3) := by decide +kernel
theorem d_Mod_readBlock_147 : decode M_Mod_readBlock.2.1 147 = .ok (.aload_n 0, 1) := by decide +kernel
theorem d_Mod_readBlock_148 : decode M_Mod_readBlock.2.1 148 = .ok (.getfield 231, 3) := by decide +kernel
theorem d_Mod_readBlock_151 : decode M_Mod_readBlock.2.1 151 = .ok (.ifCond .ne 7, 3) := by decide +kernel
theorem d_Mod_readBlock_154 : decode M_Mod_readBlock.2.1 154 = .ok (.aload_n 0, 1) := by decide +kernel
theorem d_Mod_readBlock_155 : decode M_Mod_readBlock.2.1 155 = .ok (.invokevirtual 266, 3) := by decide +kernel
theorem d_Mod_readBlock_158 : decode M_Mod_readBlock.2.1 158 = .ok (.iconst 0, 1) := by decide +kernel
theorem d_Mod_readBlock_159 : decode M_Mod_readBlock.2.1 159 = .ok (.istore_n 3, 1) := by decide +kernel
theorem d_Mod_readBlock_160 : decode M_Mod_readBlock.2.1 160 = .ok (.iload_n 3, 1) := by decide +kernel
theorem d_Mod_readBlock_161 : decode M_Mod_readBlock.2.1 161 = .ok (.aload_n 0, 1) := by decide +kernel
theorem d_Mod_readBlock_162 : decode M_Mod_readBlock.2.1 162 = .ok (.getfield 134, 3) := by decide +kernel
theorem d_Mod_readBlock_165 : decode M_Mod_readBlock.2.1 165 = .ok (.if_icmp .ge 26, 3) := by decide +kernel
theorem d_Mod_readBlock_168 : decode M_Mod_readBlock.2.1 168 = .ok (.aload_n 0, 1) := by decide +kernel
theorem d_Mod_readBlock_169 : decode M_Mod_readBlock.2.1 169 = .ok (.getfield 231, 3) := by decide +kernel
theorem d_Mod_readBlock_172 : decode M_Mod_readBlock.2.1 172 = .ok (.ifCond .ne 19, 3) := by decide +kernel
theorem d_Mod_readBlock_175 : decode M_Mod_readBlock.2.1 175 = .ok (.aload_n 0, 1) := by decide +kernel
theorem d_Mod_readBlock_176 : decode M_Mod_readBlock.2.1 176 = .ok (.iload_n 3, 1) := by decide +kernel
theorem d_Mod_readBlock_177 : decode M_Mod_readBlock.2.1 177 = .ok (.invokevirtual 269, 3) := by decide +kernel
theorem d_Mod_readBlock_180 : decode M_Mod_readBlock.2.1 180 = .ok (.aload_n 0, 1) := by decide +kernel
theorem d_Mod_readBlock_181 : decode M_Mod_readBlock.2.1 181 = .ok (.iload_n 3, 1) := by decide +kernel
theorem d_Mod_readBlock_182 : decode M_Mod_readBlock.2.1 182 = .ok (.invokevirtual 143, 3) := by decide +kernel
theorem d_Mod_readBlock_185 : decode M_Mod_readBlock.2.1 185 = .ok (.iinc 3 1, 3) := by decide +kernel
theorem d_Mod_readBlock_188 : decode M_Mod_readBlock.2.1 188 = .ok (.goto (-28), 3) := by decide +kernel
theorem d_Mod_readBlock_191 : decode M_Mod_readBlock.2.1 191 = .ok (.aload_n 0, 1) := by decide +kernel
theorem d_Mod_readBlock_192 : decode M_Mod_readBlock.2.1 192 = .ok (.getfield 231, 3) := by decide +kernel
theorem d_Mod_readBlock_195 : decode M_Mod_readBlock.2.1 195 = .ok (.ifCond .eq 4, 3) := by decide +kernel
theorem d_Mod_readBlock_198 : decode M_Mod_readBlock.2.1 198 = .ok (.return_, 1) := by decide +kernel
theorem d_Mod_readBlock_199 : decode M_Mod_readBlock.2.1 199 = .ok (.aload_n 0, 1) := by decide +kernel
theorem d_Mod_readBlock_200 : decode M_Mod_readBlock.2.1 200 = .ok (.iload_n 1, 1) := by decide +kernel
theorem d_Mod_readBlock_201 : decode M_Mod_readBlock.2.1 201 = .ok (.invokevirtual 272, 3) := by decide +kernel
theorem d_Mod_readBlock_204 : decode M_Mod_readBlock.2.1 204 = .ok (.istore_n 3, 1) := by decide +kernel
theorem d_Mod_readBlock_205 : decode M_Mod_readBlock.2.1 205 = .ok (.aload_n 0, 1) := by decide +kernel
theorem d_Mod_readBlock_206 : decode M_Mod_readBlock.2.1 206 = .ok (.aload_n 0, 1) := by decide +kernel
theorem d_Mod_readBlock_207 : decode M_Mod_readBlock.2.1 207 = .ok (.getfield 105, 3) := by decide +kernel
theorem d_Mod_readBlock_210 : decode M_Mod_readBlock.2.1 210 = .ok (.aload_n 0, 1) := by decide +kernel
theorem d_Mod_readBlock_211 : decode M_Mod_readBlock.2.1 211 = .ok (.getfield 98, 3) := by decide +kernel
theorem d_Mod_readBlock_214 : decode M_Mod_readBlock.2.1 214 = .ok (.if_icmp .lt 7, 3) := by decide +kernel
theorem d_Mod_readBlock_217 : decode M_Mod_readBlock.2.1 217 = .ok (.iconst 1, 1) := by decide +kernel
theorem d_Mod_readBlock_218 : decode M_Mod_readBlock.2.1 218 = .ok (.goto 4, 3) := by decide +kernel
theorem d_Mod_readBlock_221 : decode M_Mod_readBlock.2.1 221 = .ok (.iconst 0, 1) := by decide +kernel
theorem d_Mod_readBlock_222 : decode M_Mod_readBlock.2.1 222 = .ok (.bipush (-12), 2) := by decide +kernel
theorem d_Mod_readBlock_224 : decode M_Mod_readBlock.2.1 224 = .ok (.iload_n 3, 1) := by decide +kernel
theorem d_Mod_readBlock_225 : decode M_Mod_readBlock.2.1 225 = .ok (.invokevirtual 246, 3) := by decide +kernel
theorem d_Mod_readBlock_228 : decode M_Mod_readBlock.2.1 228 = .ok (.aload_n 0, 1) := by decide +kernel
theorem d_Mod_readBlock_229 : decode M_Mod_readBlock.2.1 229 = .ok (.getfield 231, 3) := by decide +kernel
theorem d_Mod_readBlock_232 : decode M_Mod_readBlock.2.1 232 = .ok (.ifCond .ne 30, 3) := by decide +kernel
theorem d_Mod_readBlock_235 : decode M_Mod_readBlock.2.1 235 = .ok (.aload_n 0, 1) := by decide +kernel
theorem d_Mod_readBlock_236 : decode M_Mod_readBlock.2.1 236 = .ok (.invokevirtual 275, 3) := by decide +kernel
theorem d_Mod_readBlock_239 : decode M_Mod_readBlock.2.1 239 = .ok (.aload_n 0, 1) := by decide +kernel
theorem d_Mod_readBlock_240 : decode M_Mod_readBlock.2.1 240 = .ok (.invokevirtual 278, 3) := by decide +kernel
theorem d_Mod_readBlock_243 : decode M_Mod_readBlock.2.1 243 = .ok (.istore 4, 2) := by decide +kernel
theorem d_Mod_readBlock_245 : decode M_Mod_readBlock.2.1 245 = .ok (.aload_n 0, 1) := by decide +kernel
theorem d_Mod_readBlock_246 : decode M_Mod_readBlock.2.1 246 = .ok (.iload 4, 2) := by decide +kernel
theorem d_Mod_readBlock_248 : decode M_Mod_readBlock.2.1 248 = .ok (.ifCond .ne 7, 3) := by decide +kernel
theorem d_Mod_readBlock_251 : decode M_Mod_readBlock.2.1 251 = .ok (.iconst 1, 1) := by decide +kernel
theorem d_Mod_readBlock_252 : decode M_Mod_readBlock.2.1 252 = .ok (.goto 4, 3) := by decide +kernel
theorem d_Mod_readBlock_255 : decode M_Mod_readBlock.2.1 255 = .ok (.iconst 0, 1) := by decide +kernel
theorem d_Mod_readBlock_256 : decode M_Mod_readBlock.2.1 256 = .ok (.bipush (-13), 2) := by decide +kernel
theorem d_Mod_readBlock_258 : decode M_Mod_readBlock.2.1 258 = .ok (.iload_n 3, 1) := by decide +kernel
theorem d_Mod_readBlock_259 : decode M_Mod_readBlock.2.1 259 = .ok (.invokevirtual 246, 3) := by decide +kernel
theorem d_Mod_readBlock_262 : decode M_Mod_readBlock.2.1 262 = .ok (.return_, 1) := by decide +kernel
theorem d_Mod_tooMuch_0 : decode M_Mod_tooMuch.2.1 0 = .ok (.aload_n 0, 1) := by decide +kernel
theorem d_Mod_tooMuch_1 : decode M_Mod_tooMuch.2.1 1 = .ok (.getfield 86, 3) := by decide +kernel
theorem d_Mod_tooMuch_4 : decode M_Mod_tooMuch.2.1 4 = .ok (.aload_n 0, 1) := by decide +kernel
theorem d_Mod_tooMuch_5 : decode M_Mod_tooMuch.2.1 5 = .ok (.getfield 91, 3) := by decide +kernel
theorem d_Mod_tooMuch_8 : decode M_Mod_tooMuch.2.1 8 = .ok (.iadd, 1) := by decide +kernel
theorem d_Mod_tooMuch_9 : decode M_Mod_tooMuch.2.1 9 = .ok (.sipush 2000, 3) := by decide +kernel
theorem d_Mod_tooMuch_12 : decode M_Mod_tooMuch.2.1 12 = .ok (.if_icmp .le 7, 3) := by decide +kernel
theorem d_Mod_tooMuch_15 : decode M_Mod_tooMuch.2.1 15 = .ok (.iconst 1, 1) := by decide +kernel
theorem d_Mod_tooMuch_16 : decode M_Mod_tooMuch.2.1 16 = .ok (.goto 4, 3) := by decide +kernel
theorem d_Mod_tooMuch_19 : decode M_Mod_tooMuch.2.1 19 = .ok (.iconst 0, 1) := by decide +kernel
theorem d_Mod_tooMuch_20 : decode M_Mod_tooMuch.2.1 20 = .ok (.ireturn, 1) := by decide +kernel
theorem d_Mod_addBytes_0 : decode M_Mod_addBytes.2.1 0 = .ok (.iconst 0, 1) := by decide +kernel
theorem d_Mod_addBytes_1 : decode M_Mod_addBytes.2.1 1 = .ok (.istore_n 1, 1) := by decide +kernel
theorem d_Mod_addBytes_2 : decode M_Mod_addBytes.2.1 2 = .ok (.iload_n 1, 1) := by decide +kernel
theorem d_Mod_addBytes_3 : decode M_Mod_addBytes.2.1 3 = .ok (.aload_n 0, 1) := by decide +kernel
theorem d_Mod_addBytes_4 : decode M_Mod_addBytes.2.1 4 = .ok (.getfield 91, 3) := by decide +kernel
theorem d_Mod_addBytes_7 : decode M_Mod_addBytes.2.1 7 = .ok (.if_icmp .ge 34, 3) := by decide +kernel
theorem d_Mod_addBytes_10 : decode M_Mod_addBytes.2.1 10 = .ok (.aload_n 0, 1) := by decide +kernel
theorem d_Mod_addBytes_11 : decode M_Mod_addBytes.2.1 11 = .ok (.getfield 16, 3) := by decide +kernel
theorem d_Mod_addBytes_14 : decode M_Mod_addBytes.2.1 14 = .ok (.aload_n 0, 1) := by decide +kernel
theorem d_Mod_addBytes_15 : decode M_Mod_addBytes.2.1 15 = .ok (.getfield 86, 3) := by decide +kernel
theorem d_Mod_addBytes_18 : decode M_Mod_addBytes.2.1 18 = .ok (.aload_n 0, 1) := by decide +kernel
theorem d_Mod_addBytes_19 : decode M_Mod_addBytes.2.1 19 = .ok (.getfield 23, 3) := by decide +kernel
theorem d_Mod_addBytes_22 : decode M_Mod_addBytes.2.1 22 = .ok (.iload_n 1, 1) := by decide +kernel
theorem d_Mod_addBytes_23 : decode M_Mod_addBytes.2.1 23 = .ok (.iaload, 1) := by decide +kernel
theorem d_Mod_addBytes_24 : decode M_Mod_addBytes.2.1 24 = .ok (.iastore, 1) := by decide +kernel
theorem d_Mod_addBytes_25 : decode M_Mod_addBytes.2.1 25 = .ok (.aload_n 0, 1) := by decide +kernel
theorem d_Mod_addBytes_26 : decode M_Mod_addBytes.2.1 26 = .ok (.dup, 1) := by decide +kernel
theorem d_Mod_addBytes_27 : decode M_Mod_addBytes.2.1 27 = .ok (.getfield 86, 3) := by decide +kernel
theorem d_Mod_addBytes_30 : decode M_Mod_addBytes.2.1 30 = .ok (.iconst 1, 1) := by decide +kernel
theorem d_Mod_addBytes_31 : decode M_Mod_addBytes.2.1 31 = .ok (.iadd, 1) := by decide +kernel
theorem d_Mod_addBytes_32 : decode M_Mod_addBytes.2.1 32 = .ok (.putfield 86, 3) := by decide +kernel
theorem d_Mod_addBytes_35 : decode M_Mod_addBytes.2.1 35 = .ok (.iinc 1 1, 3) := by decide +kernel
theorem d_Mod_addBytes_38 : decode M_Mod_addBytes.2.1 38 = .ok (.goto (-36), 3) := by decide +kernel
theorem d_Mod_addBytes_41 : decode M_Mod_addBytes.2.1 41 = .ok (.return_, 1) := by decide +kernel
theorem d_Mod_readStream_0 : decode M_Mod_readStream.2.1 0 = .ok (.aload_n 0, 1) := by decide +kernel
theorem d_Mod_readStream_1 : decode M_Mod_readStream.2.1 1 = .ok (.getfield 237, 3) := by decide +kernel
theorem d_Mod_readStream_4 : decode M_Mod_readStream.2.1 4 = .ok (.istore_n 1, 1) := by decide +kernel
theorem d_Mod_readStream_5 : decode M_Mod_readStream.2.1 5 = .ok (.aload_n 0, 1) := by decide +kernel
theorem d_Mod_readStream_6 : decode M_Mod_readStream.2.1 6 = .ok (.aload_n 0, 1) := by decide +kernel
theorem d_Mod_readStream_7 : decode M_Mod_readStream.2.1 7 = .ok (.bipush 16, 2) := by decide +kernel
theorem d_Mod_readStream_9 : decode M_Mod_readStream.2.1 9 = .ok (.iload_n 1, 1) := by decide +kernel
theorem d_Mod_readStream_10 : decode M_Mod_readStream.2.1 10 = .ok (.invokevirtual 243, 3) := by decide +kernel
theorem d_Mod_readStream_13 : decode M_Mod_readStream.2.1 13 = .ok (.sipush 21314, 3) := by decide +kernel
theorem d_Mod_readStream_16 : decode M_Mod_readStream.2.1 16 = .ok (.if_icmp .eq 7, 3) := by decide +kernel
theorem d_Mod_readStream_19 : decode M_Mod_readStream.2.1 19 = .ok (.iconst 1, 1) := by decide +kernel
theorem d_Mod_readStream_20 : decode M_Mod_readStream.2.1 20 = .ok (.goto 4, 3) := by decide +kernel
theorem d_Mod_readStream_23 : decode M_Mod_readStream.2.1 23 = .ok (.iconst 0, 1) := by decide +kernel
theorem d_Mod_readStream_24 : decode M_Mod_readStream.2.1 24 = .ok (.bipush (-3), 2) := by decide +kernel
theorem d_Mod_readStream_26 : decode M_Mod_readStream.2.1 26 = .ok (.iload_n 1, 1) := by decide +kernel
theorem d_Mod_readStream_27 : decode M_Mod_readStream.2.1 27 = .ok (.invokevirtual 246, 3) := by decide +kernel
theorem d_Mod_readStream_30 : decode M_Mod_readStream.2.1 30 = .ok (.aload_n 0, 1) := by decide +kernel
theorem d_Mod_readStream_31 : decode M_Mod_readStream.2.1 31 = .ok (.getfield 237, 3) := by decide +kernel
theorem d_Mod_readStream_34 : decode M_Mod_readStream.2.1 34 = .ok (.istore_n 1, 1) := by decide +kernel
theorem d_Mod_readStream_35 : decode M_Mod_readStream.2.1 35 = .ok (.aload_n 0, 1) := by decide +kernel
theorem d_Mod_readStream_36 : decode M_Mod_readStream.2.1 36 = .ok (.getfield 231, 3) := by decide +kernel
theorem d_Mod_readStream_39 : decode M_Mod_readStream.2.1 39 = .ok (.ifCond .ne 13, 3) := by decide +kernel
theorem d_Mod_readStream_42 : decode M_Mod_readStream.2.1 42 = .ok (.aload_n 0, 1) := by decide +kernel
theorem d_Mod_readStream_43 : decode M_Mod_readStream.2.1 43 = .ok (.bipush 8, 2) := by decide +kernel
theorem d_Mod_readStream_45 : decode M_Mod_readStream.2.1 45 = .ok (.iload_n 1, 1) := by decide +kernel
theorem d_Mod_readStream_46 : decode M_Mod_readStream.2.1 46 = .ok (.invokevirtual 243, 3) := by decide +kernel
theorem d_Mod_readStream_49 : decode M_Mod_readStream.2.1 49 = .ok (.goto 4, 3) := by decide +kernel
theorem d_Mod_readStream_52 : decode M_Mod_readStream.2.1 52 = .ok (.iconst 1, 1) := by decide +kernel
theorem d_Mod_readStream_53 : decode M_Mod_readStream.2.1 53 = .ok (.istore_n 2, 1) := by decide +kernel
theorem d_Mod_readStream_54 : decode M_Mod_readStream.2.1 54 = .ok (.aload_n 0, 1) := by decide +kernel
theorem d_Mod_readStream_55 : decode M_Mod_readStream.2.1 55 = .ok (.iload_n 2, 1) := by decide +kernel
theorem d_Mod_readStream_56 : decode M_Mod_readStream.2.1 56 = .ok (.iconst 1, 1) := by decide +kernel
theorem d_Mod_readStream_57 : decode M_Mod_readStream.2.1 57 = .ok (.if_icmp .lt 9, 3) := by decide +kernel
theorem d_Mod_readStream_60 : decode M_Mod_readStream.2.1 60 = .ok (.iload_n 2, 1) := by decide +kernel
theorem d_Mod_readStream_61 : decode M_Mod_readStream.2.1 61 = .ok (.bipush 8, 2) := by decide +kernel
theorem d_Mod_readStream_63 : decode M_Mod_readStream.2.1 63 = .ok (.if_icmp .le 7, 3) := by decide +kernel
theorem d_Mod_readStream_66 : decode M_Mod_readStream.2.1 66 = .ok (.iconst 1, 1) := by decide +kernel
theorem d_Mod_readStream_67 : decode M_Mod_readStream.2.1 67 = .ok (.goto 4, 3) := by decide +kernel
theorem d_Mod_readStream_70 : decode M_Mod_readStream.2.1 70 = .ok (.iconst 0, 1) := by decide +kernel
theorem d_Mod_readStream_71 : decode M_Mod_readStream.2.1 71 = .ok (.bipush (-3), 2) := by decide +kernel
theorem d_Mod_readStream_73 : decode M_Mod_readStream.2.1 73 = .ok (.iload_n 1, 1) := by decide +kernel
theorem d_Mod_readStream_74 : decode M_Mod_readStream.2.1 74 = .ok (.invokevirtual 246, 3) := by decide +kernel
theorem d_Mod_readStream_77 : decode M_Mod_readStream.2.1 77 = .ok (.iconst 0, 1) := by decide +kernel
theorem d_Mod_readStream_78 : decode M_Mod_readStream.2.1 78 = .ok (.istore_n 3, 1) := by decide +kernel
theorem d_Mod_readStream_79 : decode M_Mod_readStream.2.1 79 = .ok (.iconst 0, 1) := by decide +kernel
theorem d_Mod_readStream_80 : decode M_Mod_readStream.2.1 80 = .ok (.istore 4, 2) := by decide +kernel
theorem d_Mod_readStream_82 : decode M_Mod_readStream.2.1 82 = .ok (.aload_n 0, 1) := by decide +kernel
theorem d_Mod_readStream_83 : decode M_Mod_readStream.2.1 83 = .ok (.getfield 231, 3) := by decide +kernel
theorem d_Mod_readStream_86 : decode M_Mod_readStream.2.1 86 = .ok (.ifCond .ne 209, 3) := by decide +kernel
theorem d_Mod_readStream_89 : decode M_Mod_readStream.2.1 89 = .ok (.aload_n 0, 1) := by decide +kernel
theorem d_Mod_readStream_90 : decode M_Mod_readStream.2.1 90 = .ok (.getfield 75, 3) := by decide +kernel
theorem d_Mod_readStream_93 : decode M_Mod_readStream.2.1 93 = .ok (.ifCond .ne 202, 3) := by decide +kernel
theorem d_Mod_readStream_96 : decode M_Mod_readStream.2.1 96 = .ok (.aload_n 0, 1) := by decide +kernel
theorem d_Mod_readStream_97 : decode M_Mod_readStream.2.1 97 = .ok (.getfield 237, 3) := by decide +kernel
theorem d_Mod_readStream_100 : decode M_Mod_readStream.2.1 100 = .ok (.istore_n 1, 1) := by decide +kernel
theorem d_Mod_readStream_101 : decode M_Mod_readStream.2.1 101 = .ok (.aload_n 0, 1) := by decide +kernel
theorem d_Mod_readStream_102 : decode M_Mod_readStream.2.1 102 = .ok (.bipush 24, 2) := by decide +kernel
theorem d_Mod_readStream_104 : decode M_Mod_readStream.2.1 104 = .ok (.iload_n 1, 1) := by decide +kernel
theorem d_Mod_readStream_105 : decode M_Mod_readStream.2.1 105 = .ok (.invokevirtual 243, 3) := by decide +kernel
theorem d_Mod_readStream_108 : decode M_Mod_readStream.2.1 108 = .ok (.istore 5, 2) := by decide +kernel
theorem d_Mod_readStream_110 : decode M_Mod_readStream.2.1 110 = .ok (.aload_n 0, 1) := by decide +kernel
theorem d_Mod_readStream_111 : decode M_Mod_readStream.2.1 111 = .ok (.getfield 231, 3) := by decide +kernel
theorem d_Mod_readStream_114 : decode M_Mod_readStream.2.1 114 = .ok (.ifCond .ne 58, 3) := by decide +kernel
theorem d_Mod_readStream_117 : decode M_Mod_readStream.2.1 117 = .ok (.iload 5, 2) := by decide +kernel
theorem d_Mod_readStream_119 : decode M_Mod_readStream.2.1 119 = .ok (.ldc 227, 2) := by decide +kernel
theorem d_Mod_readStream_121 : decode M_Mod_readStream.2.1 121 = .ok (.if_icmp .ne 51, 3) := by decide +kernel
theorem d_Mod_readStream_124 : decode M_Mod_readStream.2.1 124 = .ok (.aload_n 0, 1) := by decide +kernel
theorem d_Mod_readStream_125 : decode M_Mod_readStream.2.1 125 = .ok (.getfield 237, 3) := by decide +kernel
theorem d_Mod_readStream_128 : decode M_Mod_readStream.2.1 128 = .ok (.istore_n 1, 1) := by decide +kernel
theorem d_Mod_readStream_129 : decode M_Mod_readStream.2.1 129 = .ok (.aload_n 0, 1) := by decide +kernel
theorem d_Mod_readStream_130 : decode M_Mod_readStream.2.1 130 = .ok (.aload_n 0, 1) := by decide +kernel
theorem d_Mod_readStream_131 : decode M_Mod_readStream.2.1 131 = .ok (.bipush 16, 2) := by decide +kernel
theorem d_Mod_readStream_133 : decode M_Mod_readStream.2.1 133 = .ok (.iload_n 1, 1) := by decide +kernel
theorem d_Mod_readStream_134 : decode M_Mod_readStream.2.1 134 = .ok (.invokevirtual 243, 3) := by decide +kernel
theorem d_Mod_readStream_137 : decode M_Mod_readStream.2.1 137 = .ok (.iload_n 3, 1) := by decide +kernel
theorem d_Mod_readStream_138 : decode M_Mod_readStream.2.1 138 = .ok (.if_icmp .eq 7, 3) := by decide +kernel
theorem d_Mod_readStream_141 : decode M_Mod_readStream.2.1 141 = .ok (.iconst 1, 1) := by decide +kernel
theorem d_Mod_readStream_142 : decode M_Mod_readStream.2.1 142 = .ok (.goto 4, 3) := by decide +kernel
theorem d_Mod_readStream_145 : decode M_Mod_readStream.2.1 145 = .ok (.iconst 0, 1) := by decide +kernel
theorem d_Mod_readStream_146 : decode M_Mod_readStream.2.1 146 = .ok (.bipush (-15), 2) := by decide +kernel
theorem d_Mod_readStream_148 : decode M_Mod_readStream.2.1 148 = .ok (.iload_n 1, 1) := by decide +kernel
theorem d_Mod_readStream_149 : decode M_Mod_readStream.2.1 149 = .ok (.invokevirtual 246, 3) := by decide +kernel
theorem d_Mod_readStream_152 : decode M_Mod_readStream.2.1 152 = .ok (.aload_n 0, 1) := by decide +kernel
theorem d_Mod_readStream_153 : decode M_Mod_readStream.2.1 153 = .ok (.aload_n 0, 1) := by decide +kernel
theorem d_Mod_readStream_154 : decode M_Mod_readStream.2.1 154 = .ok (.getfield 237, 3) := by decide +kernel
theorem d_Mod_readStream_157 : decode M_Mod_readStream.2.1 157 = .ok (.bipush 7, 2) := by decide +kernel
theorem d_Mod_readStream_159 : decode M_Mod_readStream.2.1 159 = .ok (.iadd, 1) := by decide +kernel
theorem d_Mod_readStream_160 : decode M_Mod_readStream.2.1 160 = .ok (.bipush 8, 2) := by decide +kernel
theorem d_Mod_readStream_162 : decode M_Mod_readStream.2.1 162 = .ok (.idiv, 1) := by decide +kernel
theorem d_Mod_readStream_163 : decode M_Mod_readStream.2.1 163 = .ok (.bipush 8, 2) := by decide +kernel
theorem d_Mod_readStream_165 : decode M_Mod_readStream.2.1 165 = .ok (.imul, 1) := by decide +kernel
theorem d_Mod_readStream_166 : decode M_Mod_readStream.2.1 166 = .ok (.putfield 237, 3) := by decide +kernel
theorem d_Mod_readStream_169 : decode M_Mod_readStream.2.1 169 = .ok (.iload 4, 2) := by decide +kernel
theorem d_Mod_readStream_171 : decode M_Mod_readStream.2.1 171 = .ok (.ireturn, 1) := by decide +kernel
theorem d_Mod_readStream_172 : decode M_Mod_readStream.2.1 172 = .ok (.aload_n 0, 1) := by decide +kernel
theorem d_Mod_readStream_173 : decode M_Mod_readStream.2.1 173 = .ok (.iload 5, 2) := by decide +kernel
theorem d_Mod_readStream_175 : decode M_Mod_readStream.2.1 175 = .ok (.ldc 162, 2) := by decide +kernel
theorem d_Mod_readStream_177 : decode M_Mod_readStream.2.1 177 = .ok (.if_icmp .eq 7, 3) := by decide +kernel
theorem d_Mod_readStream_180 : decode M_Mod_readStream.2.1 180 = .ok (.iconst 1, 1) := by decide +kernel
theorem d_Mod_readStream_181 : decode M_Mod_readStream.2.1 181 = .ok (.goto 4, 3) := by decide +kernel
theorem d_Mod_readStream_184 : decode M_Mod_readStream.2.1 184 = .ok (.iconst 0, 1) := by decide +kernel
theorem d_Mod_readStream_185 : decode M_Mod_readStream.2.1 185 = .ok (.bipush (-4), 2) := by decide +kernel
theorem d_Mod_readStream_187 : decode M_Mod_readStream.2.1 187 = .ok (.iload_n 1, 1) := by decide +kernel
theorem d_Mod_readStream_188 : decode M_Mod_readStream.2.1 188 = .ok (.invokevirtual 246, 3) := by decide +kernel
theorem d_Mod_readStream_191 : decode M_Mod_readStream.2.1 191 = .ok (.aload_n 0, 1) := by decide +kernel
theorem d_Mod_readStream_192 : decode M_Mod_readStream.2.1 192 = .ok (.getfield 231, 3) := by decide +kernel
theorem d_Mod_readStream_195 : decode M_Mod_readStream.2.1 195 = .ok (.ifCond .ne 11, 3) := by decide +kernel
theorem d_Mod_readStream_198 : decode M_Mod_readStream.2.1 198 = .ok (.aload_n 0, 1) := by decide +kernel
theorem d_Mod_readStream_199 : decode M_Mod_readStream.2.1 199 = .ok (.bipush 8, 2) := by decide +kernel
theorem d_Mod_readStream_201 : decode M_Mod_readStream.2.1 201 = .ok (.iload_n 2, 1) := by decide +kernel
theorem d_Mod_readStream_202 : decode M_Mod_readStream.2.1 202 = .ok (.imul, 1) := by decide +kernel
theorem d_Mod_readStream_203 : decode M_Mod_readStream.2.1 203 = .ok (.invokevirtual 282, 3) := by decide +kernel
theorem d_Mod_readStream_206 : decode M_Mod_readStream.2.1 206 = .ok (.aload_n 0, 1) := by decide +kernel
theorem d_Mod_readStream_207 : decode M_Mod_readStream.2.1 207 = .ok (.getfield 231, 3) := by decide +kernel
theorem d_Mod_readStream_210 : decode M_Mod_readStream.2.1 210 = .ok (.ifCond .ne 52, 3) := by decide +kernel
theorem d_Mod_readStream_213 : decode M_Mod_readStream.2.1 213 = .ok (.aload_n 0, 1) := by decide +kernel
theorem d_Mod_readStream_214 : decode M_Mod_readStream.2.1 214 = .ok (.aload_n 0, 1) := by decide +kernel
theorem d_Mod_readStream_215 : decode M_Mod_readStream.2.1 215 = .ok (.invokevirtual 285, 3) := by decide +kernel
theorem d_Mod_readStream_218 : decode M_Mod_readStream.2.1 218 = .ok (.ifCond .eq 7, 3) := by decide +kernel
theorem d_Mod_readStream_221 : decode M_Mod_readStream.2.1 221 = .ok (.iconst 1, 1) := by decide +kernel
theorem d_Mod_readStream_222 : decode M_Mod_readStream.2.1 222 = .ok (.goto 4, 3) := by decide +kernel
theorem d_Mod_readStream_225 : decode M_Mod_readStream.2.1 225 = .ok (.iconst 0, 1) := by decide +kernel
theorem d_Mod_readStream_226 : decode M_Mod_readStream.2.1 226 = .ok (.putfield 75, 3) := by decide +kernel
theorem d_Mod_readStream_229 : decode M_Mod_readStream.2.1 229 = .ok (.aload_n 0, 1) := by decide +kernel
theorem d_Mod_readStream_230 : decode M_Mod_readStream.2.1 230 = .ok (.aload_n 0, 1) := by decide +kernel
theorem d_Mod_readStream_231 : decode M_Mod_readStream.2.1 231 = .ok (.getfield 75, 3) := by decide +kernel
theorem d_Mod_readStream_234 : decode M_Mod_readStream.2.1 234 = .ok (.ifCond .ne 18, 3) := by decide +kernel
theorem d_Mod_readStream_237 : decode M_Mod_readStream.2.1 237 = .ok (.aload_n 0, 1) := by decide +kernel
theorem d_Mod_readStream_238 : decode M_Mod_readStream.2.1 238 = .ok (.invokevirtual 178, 3) := by decide +kernel
theorem d_Mod_readStream_241 : decode M_Mod_readStream.2.1 241 = .ok (.aload_n 0, 1) := by decide +kernel
theorem d_Mod_readStream_242 : decode M_Mod_readStream.2.1 242 = .ok (.getfield 163, 3) := by decide +kernel
theorem d_Mod_readStream_245 : decode M_Mod_readStream.2.1 245 = .ok (.if_icmp .eq 7, 3) := by decide +kernel
theorem d_Mod_readStream_248 : decode M_Mod_readStream.2.1 248 = .ok (.iconst 1, 1) := by decide +kernel
theorem d_Mod_readStream_249 : decode M_Mod_readStream.2.1 249 = .ok (.goto 4, 3) := by decide +kernel
theorem d_Mod_readStream_252 : decode M_Mod_readStream.2.1 252 = .ok (.iconst 0, 1) := by decide +kernel
theorem d_Mod_readStream_253 : decode M_Mod_readStream.2.1 253 = .ok (.bipush (-14), 2) := by decide +kernel
theorem d_Mod_readStream_255 : decode M_Mod_readStream.2.1 255 = .ok (.aload_n 0, 1) := by decide +kernel
theorem d_Mod_readStream_256 : decode M_Mod_readStream.2.1 256 = .ok (.getfield 260, 3) := by decide +kernel
theorem d_Mod_readStream_259 : decode M_Mod_readStream.2.1 259 = .ok (.invokevirtual 246, 3) := by decide +kernel
theorem d_Mod_readStream_262 : decode M_Mod_readStream.2.1 262 = .ok (.aload_n 0, 1) := by decide +kernel
theorem d_Mod_readStream_263 : decode M_Mod_readStream.2.1 263 = .ok (.getfield 231, 3) := by decide +kernel
theorem d_Mod_readStream_266 : decode M_Mod_readStream.2.1 266 = .ok (.ifCond .ne 26, 3) := by decide +kernel
theorem d_Mod_readStream_269 : decode M_Mod_readStream.2.1 269 = .ok (.aload_n 0, 1) := by decide +kernel
theorem d_Mod_readStream_270 : decode M_Mod_readStream.2.1 270 = .ok (.getfield 75, 3) := by decide +kernel
theorem d_Mod_readStream_273 : decode M_Mod_readStream.2.1 273 = .ok (.ifCond .ne 19, 3) := by decide +kernel
theorem d_Mod_readStream_276 : decode M_Mod_readStream.2.1 276 = .ok (.aload_n 0, 1) := by decide +kernel
theorem d_Mod_readStream_277 : decode M_Mod_readStream.2.1 277 = .ok (.invokevirtual 288, 3) := by decide +kernel
theorem d_Mod_readStream_280 : decode M_Mod_readStream.2.1 280 = .ok (.iload_n 3, 1) := by decide +kernel
theorem d_Mod_readStream_281 : decode M_Mod_readStream.2.1 281 = .ok (.aload_n 0, 1) := by decide +kernel
theorem d_Mod_readStream_282 : decode M_Mod_readStream.2.1 282 = .ok (.getfield 163, 3) := by decide +kernel
theorem d_Mod_readStream_285 : decode M_Mod_readStream.2.1 285 = .ok (.invokestatic 221, 3) := by decide +kernel
theorem d_Mod_readStream_288 : decode M_Mod_readStream.2.1 288 = .ok (.istore_n 3, 1) := by decide +kernel
theorem d_Mod_readStream_289 : decode M_Mod_readStream.2.1 289 = .ok (.iinc 4 1, 3) := by decide +kernel
theorem d_Mod_readStream_292 : decode M_Mod_readStream.2.1 292 = .ok (.goto (-210), 3) := by decide +kernel
theorem d_Mod_readStream_295 : decode M_Mod_readStream.2.1 295 = .ok (.iload 4, 2) := by decide +kernel
theorem d_Mod_readStream_297 : decode M_Mod_readStream.2.1 297 = .ok (.ireturn, 1) := by decide +kernel
theorem d_Mod_unpack_0 : decode M_Mod_unpack.2.1 0 = .ok (.aload_n 0, 1) := by decide +kernel
theorem d_Mod_unpack_1 : decode M_Mod_unpack.2.1 1 = .ok (.iconst 0, 1) := by decide +kernel
theorem d_Mod_unpack_2 : decode M_Mod_unpack.2.1 2 = .ok (.putfield 75, 3) := by decide +kernel
theorem d_Mod_unpack_5 : decode M_Mod_unpack.2.1 5 = .ok (.aload_n 0, 1) := by decide +kernel
theorem d_Mod_unpack_6 : decode M_Mod_unpack.2.1 6 = .ok (.iconst (-1), 1) := by decide +kernel
theorem d_Mod_unpack_7 : decode M_Mod_unpack.2.1 7 = .ok (.putfield 19, 3) := by decide +kernel
theorem d_Mod_unpack_10 : decode M_Mod_unpack.2.1 10 = .ok (.aload_n 0, 1) := by decide +kernel
theorem d_Mod_unpack_11 : decode M_Mod_unpack.2.1 11 = .ok (.iconst 0, 1) := by decide +kernel
theorem d_Mod_unpack_12 : decode M_Mod_unpack.2.1 12 = .ok (.putfield 237, 3) := by decide +kernel
theorem d_Mod_unpack_15 : decode M_Mod_unpack.2.1 15 = .ok (.aload_n 0, 1) := by decide +kernel
theorem d_Mod_unpack_16 : decode M_Mod_unpack.2.1 16 = .ok (.iconst 0, 1) := by decide +kernel
theorem d_Mod_unpack_17 : decode M_Mod_unpack.2.1 17 = .ok (.putfield 231, 3) := by decide +kernel
theorem d_Mod_unpack_20 : decode M_Mod_unpack.2.1 20 = .ok (.aload_n 0, 1) := by decide +kernel
theorem d_Mod_unpack_21 : decode M_Mod_unpack.2.1 21 = .ok (.iconst 0, 1) := by decide +kernel
theorem d_Mod_unpack_22 : decode M_Mod_unpack.2.1 22 = .ok (.putfield 86, 3) := by decide +kernel
theorem d_Mod_unpack_25 : decode M_Mod_unpack.2.1 25 = .ok (.iconst 0, 1) := by decide +kernel
theorem d_Mod_unpack_26 : decode M_Mod_unpack.2.1 26 = .ok (.istore_n 1, 1) := by decide +kernel
theorem d_Mod_unpack_27 : decode M_Mod_unpack.2.1 27 = .ok (.iconst 1, 1) := by decide +kernel
theorem d_Mod_unpack_28 : decode M_Mod_unpack.2.1 28 = .ok (.istore_n 2, 1) := by decide +kernel
theorem d_Mod_unpack_29 : decode M_Mod_unpack.2.1 29 = .ok (.iload_n 2, 1) := by decide +kernel
theorem d_Mod_unpack_30 : decode M_Mod_unpack.2.1 30 = .ok (.ifCond .eq 47, 3) := by decide +kernel
theorem d_Mod_unpack_33 : decode M_Mod_unpack.2.1 33 = .ok (.iload_n 1, 1) := by decide +kernel
theorem d_Mod_unpack_34 : decode M_Mod_unpack.2.1 34 = .ok (.aload_n 0, 1) := by decide +kernel
theorem d_Mod_unpack_35 : decode M_Mod_unpack.2.1 35 = .ok (.invokevirtual 291, 3) := by decide +kernel
theorem d_Mod_unpack_38 : decode M_Mod_unpack.2.1 38 = .ok (.iadd, 1) := by decide +kernel
theorem d_Mod_unpack_39 : decode M_Mod_unpack.2.1 39 = .ok (.istore_n 1, 1) := by decide +kernel
theorem d_Mod_unpack_40 : decode M_Mod_unpack.2.1 40 = .ok (.aload_n 0, 1) := by decide +kernel
theorem d_Mod_unpack_41 : decode M_Mod_unpack.2.1 41 = .ok (.getfield 231, 3) := by decide +kernel
theorem d_Mod_unpack_44 : decode M_Mod_unpack.2.1 44 = .ok (.ifCond .ne 28, 3) := by decide +kernel
theorem d_Mod_unpack_47 : decode M_Mod_unpack.2.1 47 = .ok (.aload_n 0, 1) := by decide +kernel
theorem d_Mod_unpack_48 : decode M_Mod_unpack.2.1 48 = .ok (.getfield 75, 3) := by decide +kernel
theorem d_Mod_unpack_51 : decode M_Mod_unpack.2.1 51 = .ok (.ifCond .ne 21, 3) := by decide +kernel
theorem d_Mod_unpack_54 : decode M_Mod_unpack.2.1 54 = .ok (.aload_n 0, 1) := by decide +kernel
theorem d_Mod_unpack_55 : decode M_Mod_unpack.2.1 55 = .ok (.getfield 237, 3) := by decide +kernel
theorem d_Mod_unpack_58 : decode M_Mod_unpack.2.1 58 = .ok (.bipush 8, 2) := by decide +kernel
theorem d_Mod_unpack_60 : decode M_Mod_unpack.2.1 60 = .ok (.aload_n 0, 1) := by decide +kernel
theorem d_Mod_unpack_61 : decode M_Mod_unpack.2.1 61 = .ok (.getfield 78, 3) := by decide +kernel
theorem d_Mod_unpack_64 : decode M_Mod_unpack.2.1 64 = .ok (.imul, 1) := by decide +kernel
theorem d_Mod_unpack_65 : decode M_Mod_unpack.2.1 65 = .ok (.if_icmp .ge 7, 3) := by decide +kernel
theorem d_Mod_unpack_68 : decode M_Mod_unpack.2.1 68 = .ok (.iconst 1, 1) := by decide +kernel
theorem d_Mod_unpack_69 : decode M_Mod_unpack.2.1 69 = .ok (.goto 4, 3) := by decide +kernel
theorem d_Mod_unpack_72 : decode M_Mod_unpack.2.1 72 = .ok (.iconst 0, 1) := by decide +kernel
theorem d_Mod_unpack_73 : decode M_Mod_unpack.2.1 73 = .ok (.istore_n 2, 1) := by decide +kernel
theorem d_Mod_unpack_74 : decode M_Mod_unpack.2.1 74 = .ok (.goto (-45), 3) := by decide +kernel
theorem d_Mod_unpack_77 : decode M_Mod_unpack.2.1 77 = .ok (.aload_n 0, 1) := by decide +kernel
theorem d_Mod_unpack_78 : decode M_Mod_unpack.2.1 78 = .ok (.getfield 75, 3) := by decide +kernel
theorem d_Mod_unpack_81 : decode M_Mod_unpack.2.1 81 = .ok (.ifCond .eq 5, 3) := by decide +kernel
theorem d_Mod_unpack_84 : decode M_Mod_unpack.2.1 84 = .ok (.iconst 0, 1) := by decide +kernel
theorem d_Mod_unpack_85 : decode M_Mod_unpack.2.1 85 = .ok (.ireturn, 1) := by decide +kernel
theorem d_Mod_unpack_86 : decode M_Mod_unpack.2.1 86 = .ok (.aload_n 0, 1) := by decide +kernel
theorem d_Mod_unpack_87 : decode M_Mod_unpack.2.1 87 = .ok (.getfield 231, 3) := by decide +kernel
theorem d_Mod_unpack_90 : decode M_Mod_unpack.2.1 90 = .ok (.ifCond .eq 16, 3) := by decide +kernel
theorem d_Mod_unpack_93 : decode M_Mod_unpack.2.1 93 = .ok (.aload_n 0, 1) := by decide +kernel
theorem d_Mod_unpack_94 : decode M_Mod_unpack.2.1 94 = .ok (.aload_n 0, 1) := by decide +kernel
theorem d_Mod_unpack_95 : decode M_Mod_unpack.2.1 95 = .ok (.getfield 234, 3) := by decide +kernel
theorem d_Mod_unpack_98 : decode M_Mod_unpack.2.1 98 = .ok (.putfield 19, 3) := by decide +kernel
theorem d_Mod_unpack_101 : decode M_Mod_unpack.2.1 101 = .ok (.aload_n 0, 1) := by decide +kernel
theorem d_Mod_unpack_102 : decode M_Mod_unpack.2.1 102 = .ok (.getfield 231, 3) := by decide +kernel
theorem d_Mod_unpack_105 : decode M_Mod_unpack.2.1 105 = .ok (.ireturn, 1) := by decide +kernel
theorem d_Mod_unpack_106 : decode M_Mod_unpack.2.1 106 = .ok (.aload_n 0, 1) := by decide +kernel
theorem d_Mod_unpack_107 : decode M_Mod_unpack.2.1 107 = .ok (.invokevirtual 228, 3) := by decide +kernel
theorem d_Mod_unpack_110 : decode M_Mod_unpack.2.1 110 = .ok (.aload_n 0, 1) := by decide +kernel
theorem d_Mod_unpack_111 : decode M_Mod_unpack.2.1 111 = .ok (.iload_n 1, 1) := by decide +kernel
theorem d_Mod_unpack_112 : decode M_Mod_unpack.2.1 112 = .ok (.putfield 215, 3) := by decide +kernel
theorem d_Mod_unpack_115 : decode M_Mod_unpack.2.1 115 = .ok (.iload_n 1, 1) := by decide +kernel
theorem d_Mod_unpack_116 : decode M_Mod_unpack.2.1 116 = .ok (.ifCond .le 7, 3) := by decide +kernel
theorem d_Mod_unpack_119 : decode M_Mod_unpack.2.1 119 = .ok (.aload_n 0, 1) := by decide +kernel
theorem d_Mod_unpack_120 : decode M_Mod_unpack.2.1 120 = .ok (.invokevirtual 224, 3) := by decide +kernel
theorem d_Mod_unpack_123 : decode M_Mod_unpack.2.1 123 = .ok (.aload_n 0, 1) := by decide +kernel
theorem d_Mod_unpack_124 : decode M_Mod_unpack.2.1 124 = .ok (.getfield 83, 3) := by decide +kernel
theorem d_Mod_unpack_127 : decode M_Mod_unpack.2.1 127 = .ok (.ireturn, 1) := by decide +kernel
theorem d_Mod_at_0 : decode M_Mod_at.2.1 0 = .ok (.aload_n 0, 1) := by decide +kernel
theorem d_Mod_at_1 : decode M_Mod_at.2.1 1 = .ok (.iconst 0, 1) := by decide +kernel
theorem d_Mod_at_2 : decode M_Mod_at.2.1 2 = .ok (.putfield 75, 3) := by decide +kernel
theorem d_Mod_at_5 : decode M_Mod_at.2.1 5 = .ok (.aload_n 0, 1) := by decide +kernel
theorem d_Mod_at_6 : decode M_Mod_at.2.1 6 = .ok (.getfield 19, 3) := by decide +kernel
theorem d_Mod_at_9 : decode M_Mod_at.2.1 9 = .ok (.ireturn, 1) := by decide +kernel
theorem d_Mod_rescue_0 : decode M_Mod_rescue.2.1 0 = .ok (.aload_n 0, 1) := by decide +kernel
theorem d_Mod_rescue_1 : decode M_Mod_rescue.2.1 1 = .ok (.iconst 0, 1) := by decide +kernel
theorem d_Mod_rescue_2 : decode M_Mod_rescue.2.1 2 = .ok (.putfield 75, 3) := by decide +kernel
theorem d_Mod_rescue_5 : decode M_Mod_rescue.2.1 5 = .ok (.aload_n 0, 1) := by decide +kernel
theorem d_Mod_rescue_6 : decode M_Mod_rescue.2.1 6 = .ok (.iconst 0, 1) := by decide +kernel
theorem d_Mod_rescue_7 : decode M_Mod_rescue.2.1 7 = .ok (.putfield 86, 3) := by decide +kernel
theorem d_Mod_rescue_10 : decode M_Mod_rescue.2.1 10 = .ok (.aload_n 0, 1) := by decide +kernel
theorem d_Mod_rescue_11 : decode M_Mod_rescue.2.1 11 = .ok (.iconst 0, 1) := by decide +kernel
theorem d_Mod_rescue_12 : decode M_Mod_rescue.2.1 12 = .ok (.putfield 215, 3) := by decide +kernel
theorem d_Mod_rescue_15 : decode M_Mod_rescue.2.1 15 = .ok (.iconst 0, 1) := by decide +kernel
theorem d_Mod_rescue_16 : decode M_Mod_rescue.2.1 16 = .ok (.istore_n 1, 1) := by decide +kernel
theorem d_Mod_rescue_17 : decode M_Mod_rescue.2.1 17 = .ok (.iload_n 1, 1) := by decide +kernel
theorem d_Mod_rescue_18 : decode M_Mod_rescue.2.1 18 = .ok (.bipush 24, 2) := by decide +kernel
theorem d_Mod_rescue_20 : decode M_Mod_rescue.2.1 20 = .ok (.iadd, 1) := by decide +kernel
theorem d_Mod_rescue_21 : decode M_Mod_rescue.2.1 21 = .ok (.bipush 8, 2) := by decide +kernel
theorem d_Mod_rescue_23 : decode M_Mod_rescue.2.1 23 = .ok (.aload_n 0, 1) := by decide +kernel
theorem d_Mod_rescue_24 : decode M_Mod_rescue.2.1 24 = .ok (.getfield 78, 3) := by decide +kernel
theorem d_Mod_rescue_27 : decode M_Mod_rescue.2.1 27 = .ok (.imul, 1) := by decide +kernel
theorem d_Mod_rescue_28 : decode M_Mod_rescue.2.1 28 = .ok (.if_icmp .gt 112, 3) := by decide +kernel
theorem d_Mod_rescue_31 : decode M_Mod_rescue.2.1 31 = .ok (.aload_n 0, 1) := by decide +kernel
theorem d_Mod_rescue_32 : decode M_Mod_rescue.2.1 32 = .ok (.iload_n 1, 1) := by decide +kernel
theorem d_Mod_rescue_33 : decode M_Mod_rescue.2.1 33 = .ok (.putfield 237, 3) := by decide +kernel
theorem d_Mod_rescue_36 : decode M_Mod_rescue.2.1 36 = .ok (.aload_n 0, 1) := by decide +kernel
theorem d_Mod_rescue_37 : decode M_Mod_rescue.2.1 37 = .ok (.iconst 0, 1) := by decide +kernel
theorem d_Mod_rescue_38 : decode M_Mod_rescue.2.1 38 = .ok (.putfield 231, 3) := by decide +kernel
theorem d_Mod_rescue_41 : decode M_Mod_rescue.2.1 41 = .ok (.aload_n 0, 1) := by decide +kernel
theorem d_Mod_rescue_42 : decode M_Mod_rescue.2.1 42 = .ok (.bipush 24, 2) := by decide +kernel
theorem d_Mod_rescue_44 : decode M_Mod_rescue.2.1 44 = .ok (.iload_n 1, 1) := by decide +kernel
theorem d_Mod_rescue_45 : decode M_Mod_rescue.2.1 45 = .ok (.invokevirtual 243, 3) := by decide +kernel
theorem d_Mod_rescue_48 : decode M_Mod_rescue.2.1 48 = .ok (.ldc 162, 2) := by decide +kernel
theorem d_Mod_rescue_50 : decode M_Mod_rescue.2.1 50 = .ok (.if_icmp .ne 7, 3) := by decide +kernel
theorem d_Mod_rescue_53 : decode M_Mod_rescue.2.1 53 = .ok (.iconst 1, 1) := by decide +kernel
theorem d_Mod_rescue_54 : decode M_Mod_rescue.2.1 54 = .ok (.goto 4, 3) := by decide +kernel
theorem d_Mod_rescue_57 : decode M_Mod_rescue.2.1 57 = .ok (.iconst 0, 1) := by decide +kernel
theorem d_Mod_rescue_58 : decode M_Mod_rescue.2.1 58 = .ok (.istore_n 2, 1) := by decide +kernel
theorem d_Mod_rescue_59 : decode M_Mod_rescue.2.1 59 = .ok (.iload_n 2, 1) := by decide +kernel
theorem d_Mod_rescue_60 : decode M_Mod_rescue.2.1 60 = .ok (.ifCond .eq 40, 3) := by decide +kernel
theorem d_Mod_rescue_63 : decode M_Mod_rescue.2.1 63 = .ok (.aload_n 0, 1) := by decide +kernel
theorem d_Mod_rescue_64 : decode M_Mod_rescue.2.1 64 = .ok (.bipush 64, 2) := by decide +kernel
theorem d_Mod_rescue_66 : decode M_Mod_rescue.2.1 66 = .ok (.invokevirtual 282, 3) := by decide +kernel
theorem d_Mod_rescue_69 : decode M_Mod_rescue.2.1 69 = .ok (.aload_n 0, 1) := by decide +kernel
theorem d_Mod_rescue_70 : decode M_Mod_rescue.2.1 70 = .ok (.getfield 231, 3) := by decide +kernel
theorem d_Mod_rescue_73 : decode M_Mod_rescue.2.1 73 = .ok (.ifCond .ne 25, 3) := by decide +kernel
theorem d_Mod_rescue_76 : decode M_Mod_rescue.2.1 76 = .ok (.aload_n 0, 1) := by decide +kernel
theorem d_Mod_rescue_77 : decode M_Mod_rescue.2.1 77 = .ok (.invokevirtual 285, 3) := by decide +kernel
theorem d_Mod_rescue_80 : decode M_Mod_rescue.2.1 80 = .ok (.ifCond .ne 18, 3) := by decide +kernel
theorem d_Mod_rescue_83 : decode M_Mod_rescue.2.1 83 = .ok (.aload_n 0, 1) := by decide +kernel
theorem d_Mod_rescue_84 : decode M_Mod_rescue.2.1 84 = .ok (.invokevirtual 178, 3) := by decide +kernel
theorem d_Mod_rescue_87 : decode M_Mod_rescue.2.1 87 = .ok (.aload_n 0, 1) := by decide +kernel
theorem d_Mod_rescue_88 : decode M_Mod_rescue.2.1 88 = .ok (.getfield 163, 3) := by decide +kernel
theorem d_Mod_rescue_91 : decode M_Mod_rescue.2.1 91 = .ok (.if_icmp .ne 7, 3) := by decide +kernel
theorem d_Mod_rescue_94 : decode M_Mod_rescue.2.1 94 = .ok (.iconst 1, 1) := by decide +kernel
theorem d_Mod_rescue_95 : decode M_Mod_rescue.2.1 95 = .ok (.goto 4, 3) := by decide +kernel
theorem d_Mod_rescue_98 : decode M_Mod_rescue.2.1 98 = .ok (.iconst 0, 1) := by decide +kernel
theorem d_Mod_rescue_99 : decode M_Mod_rescue.2.1 99 = .ok (.istore_n 2, 1) := by decide +kernel
theorem d_Mod_rescue_100 : decode M_Mod_rescue.2.1 100 = .ok (.iload_n 2, 1) := by decide +kernel
theorem d_Mod_rescue_101 : decode M_Mod_rescue.2.1 101 = .ok (.ifCond .eq 21, 3) := by decide +kernel
theorem d_Mod_rescue_104 : decode M_Mod_rescue.2.1 104 = .ok (.aload_n 0, 1) := by decide +kernel
theorem d_Mod_rescue_105 : decode M_Mod_rescue.2.1 105 = .ok (.invokevirtual 288, 3) := by decide +kernel
theorem d_Mod_rescue_108 : decode M_Mod_rescue.2.1 108 = .ok (.aload_n 0, 1) := by decide +kernel
theorem d_Mod_rescue_109 : decode M_Mod_rescue.2.1 109 = .ok (.invokevirtual 224, 3) := by decide +kernel
theorem d_Mod_rescue_112 : decode M_Mod_rescue.2.1 112 = .ok (.aload_n 0, 1) := by decide +kernel
theorem d_Mod_rescue_113 : decode M_Mod_rescue.2.1 113 = .ok (.dup, 1) := by decide +kernel
theorem d_Mod_rescue_114 : decode M_Mod_rescue.2.1 114 = .ok (.getfield 215, 3) := by decide +kernel
theorem d_Mod_rescue_117 : decode M_Mod_rescue.2.1 117 = .ok (.iconst 1, 1) := by decide +kernel
theorem d_Mod_rescue_118 : decode M_Mod_rescue.2.1 118 = .ok (.iadd, 1) := by decide +kernel
theorem d_Mod_rescue_119 : decode M_Mod_rescue.2.1 119 = .ok (.putfield 215, 3) := by decide +kernel
theorem d_Mod_rescue_122 : decode M_Mod_rescue.2.1 122 = .ok (.iload_n 2, 1) := by decide +kernel
theorem d_Mod_rescue_123 : decode M_Mod_rescue.2.1 123 = .ok (.ifCond .eq 10, 3) := by decide +kernel
theorem d_Mod_rescue_126 : decode M_Mod_rescue.2.1 126 = .ok (.aload_n 0, 1) := by decide +kernel
theorem d_Mod_rescue_127 : decode M_Mod_rescue.2.1 127 = .ok (.getfield 237, 3) := by decide +kernel
theorem d_Mod_rescue_130 : decode M_Mod_rescue.2.1 130 = .ok (.goto 6, 3) := by decide +kernel
theorem d_Mod_rescue_133 : decode M_Mod_rescue.2.1 133 = .ok (.iload_n 1, 1) := by decide +kernel
theorem d_Mod_rescue_134 : decode M_Mod_rescue.2.1 134 = .ok (.iconst 1, 1) := by decide +kernel
theorem d_Mod_rescue_135 : decode M_Mod_rescue.2.1 135 = .ok (.iadd, 1) := by decide +kernel
theorem d_Mod_rescue_136 : decode M_Mod_rescue.2.1 136 = .ok (.istore_n 1, 1) := by decide +kernel
theorem d_Mod_rescue_137 : decode M_Mod_rescue.2.1 137 = .ok (.goto (-120), 3) := by decide +kernel
theorem d_Mod_rescue_140 : decode M_Mod_rescue.2.1 140 = .ok (.aload_n 0, 1) := by decide +kernel
theorem d_Mod_rescue_141 : decode M_Mod_rescue.2.1 141 = .ok (.invokevirtual 228, 3) := by decide +kernel
theorem d_Mod_rescue_144 : decode M_Mod_rescue.2.1 144 = .ok (.aload_n 0, 1) := by decide +kernel
theorem d_Mod_rescue_145 : decode M_Mod_rescue.2.1 145 = .ok (.getfield 215, 3) := by decide +kernel
theorem d_Mod_rescue_148 : decode M_Mod_rescue.2.1 148 = .ok (.ireturn, 1) := by decide +kernel
theorem d_Mod_given_0 : decode M_Mod_given.2.1 0 = .ok (.aload_n 0, 1) := by decide +kernel
theorem d_Mod_given_1 : decode M_Mod_given.2.1 1 = .ok (.iconst 0, 1) := by decide +kernel
theorem d_Mod_given_2 : decode M_Mod_given.2.1 2 = .ok (.putfield 75, 3) := by decide +kernel
theorem d_Mod_given_5 : decode M_Mod_given.2.1 5 = .ok (.aload_n 0, 1) := by decide +kernel
theorem d_Mod_given_6 : decode M_Mod_given.2.1 6 = .ok (.getfield 78, 3) := by decide +kernel
theorem d_Mod_given_9 : decode M_Mod_given.2.1 9 = .ok (.ireturn, 1) := by decide +kernel
theorem d_Mod_size_0 : decode M_Mod_size.2.1 0 = .ok (.aload_n 0, 1) := by decide +kernel
theorem d_Mod_size_1 : decode M_Mod_size.2.1 1 = .ok (.iconst 0, 1) := by decide +kernel
theorem d_Mod_size_2 : decode M_Mod_size.2.1 2 = .ok (.putfield 75, 3) := by decide +kernel
theorem d_Mod_size_5 : decode M_Mod_size.2.1 5 = .ok (.aload_n 0, 1) := by decide +kernel
theorem d_Mod_size_6 : decode M_Mod_size.2.1 6 = .ok (.getfield 83, 3) := by decide +kernel
theorem d_Mod_size_9 : decode M_Mod_size.2.1 9 = .ok (.ireturn, 1) := by decide +kernel
theorem d_Mod_out_0 : decode M_Mod_out.2.1 0 = .ok (.aload_n 0, 1) := by decide +kernel
theorem d_Mod_out_1 : decode M_Mod_out.2.1 1 = .ok (.iload_n 1, 1) := by decide +kernel
theorem d_Mod_out_2 : decode M_Mod_out.2.1 2 = .ok (.ifCond .lt 11, 3) := by decide +kernel
theorem d_Mod_out_5 : decode M_Mod_out.2.1 5 = .ok (.iload_n 1, 1) := by decide +kernel
theorem d_Mod_out_6 : decode M_Mod_out.2.1 6 = .ok (.aload_n 0, 1) := by decide +kernel
theorem d_Mod_out_7 : decode M_Mod_out.2.1 7 = .ok (.getfield 83, 3) := by decide +kernel
theorem d_Mod_out_10 : decode M_Mod_out.2.1 10 = .ok (.if_icmp .lt 7, 3) := by decide +kernel
theorem d_Mod_out_13 : decode M_Mod_out.2.1 13 = .ok (.iconst 1, 1) := by decide +kernel
theorem d_Mod_out_14 : decode M_Mod_out.2.1 14 = .ok (.goto 4, 3) := by decide +kernel
theorem d_Mod_out_17 : decode M_Mod_out.2.1 17 = .ok (.iconst 0, 1) := by decide +kernel
theorem d_Mod_out_18 : decode M_Mod_out.2.1 18 = .ok (.putfield 75, 3) := by decide +kernel
theorem d_Mod_out_21 : decode M_Mod_out.2.1 21 = .ok (.aload_n 0, 1) := by decide +kernel
theorem d_Mod_out_22 : decode M_Mod_out.2.1 22 = .ok (.getfield 75, 3) := by decide +kernel
theorem d_Mod_out_25 : decode M_Mod_out.2.1 25 = .ok (.ifCond .ne 12, 3) := by decide +kernel
theorem d_Mod_out_28 : decode M_Mod_out.2.1 28 = .ok (.aload_n 0, 1) := by decide +kernel
theorem d_Mod_out_29 : decode M_Mod_out.2.1 29 = .ok (.getfield 13, 3) := by decide +kernel
theorem d_Mod_out_32 : decode M_Mod_out.2.1 32 = .ok (.iload_n 1, 1) := by decide +kernel
theorem d_Mod_out_33 : decode M_Mod_out.2.1 33 = .ok (.iaload, 1) := by decide +kernel
theorem d_Mod_out_34 : decode M_Mod_out.2.1 34 = .ok (.goto 4, 3) := by decide +kernel
theorem d_Mod_out_37 : decode M_Mod_out.2.1 37 = .ok (.iconst 0, 1) := by decide +kernel
theorem d_Mod_out_38 : decode M_Mod_out.2.1 38 = .ok (.ireturn, 1) := by decide +kernel
theorem d_Mod_blocks_0 : decode M_Mod_blocks.2.1 0 = .ok (.aload_n 0, 1) := by decide +kernel
theorem d_Mod_blocks_1 : decode M_Mod_blocks.2.1 1 = .ok (.iconst 0, 1) := by decide +kernel
theorem d_Mod_blocks_2 : decode M_Mod_blocks.2.1 2 = .ok (.putfield 75, 3) := by decide +kernel
theorem d_Mod_blocks_5 : decode M_Mod_blocks.2.1 5 = .ok (.aload_n 0, 1) := by decide +kernel
theorem d_Mod_blocks_6 : decode M_Mod_blocks.2.1 6 = .ok (.getfield 215, 3) := by decide +kernel
theorem d_Mod_blocks_9 : decode M_Mod_blocks.2.1 9 = .ok (.ireturn, 1) := by decide +kernel
theorem d_Mod_block_0 : decode M_Mod_block.2.1 0 = .ok (.aload_n 0, 1) := by decide +kernel
theorem d_Mod_block_1 : decode M_Mod_block.2.1 1 = .ok (.iconst 0, 1) := by decide +kernel
theorem d_Mod_block_2 : decode M_Mod_block.2.1 2 = .ok (.putfield 75, 3) := by decide +kernel
theorem d_Mod_block_5 : decode M_Mod_block.2.1 5 = .ok (.aload_n 0, 1) := by decide +kernel
