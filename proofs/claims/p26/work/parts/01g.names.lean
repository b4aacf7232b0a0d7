def dtL_law_t0 : List (Nat × Instr × Nat) := [(0, .new 7, 3), (3, .dup, 1), (4, .invokespecial 9, 3), (7, .astore_n 1, 1), (8, .new 10, 3), (11, .dup, 1), (12, .invokespecial 12, 3), (15, .astore_n 2, 1), (16, .iconst 0, 1), (17, .istore_n 3, 1), (18, .iload_n 3, 1), (19, .aload_n 0, 1), (20, .arraylength, 1), (21, .iconst 5, 1), (22, .isub, 1), (23, .if_icmp .gt 716, 3), (26, .aload_n 0, 1), (27, .iload_n 3, 1), (28, .iaload, 1), (29, .bipush 31, 2)]
theorem daL_law_t0 : dtL_law_t0.all (dck cL_law) = true := by decide +kernel
theorem dL_law_0 : decode cL_law 0 = .ok (.new 7, 3) := dck_get daL_law_t0 0 rfl
theorem dL_law_3 : decode cL_law 3 = .ok (.dup, 1) := dck_get daL_law_t0 1 rfl
theorem dL_law_4 : decode cL_law 4 = .ok (.invokespecial 9, 3) := dck_get daL_law_t0 2 rfl
theorem dL_law_7 : decode cL_law 7 = .ok (.astore_n 1, 1) := dck_get daL_law_t0 3 rfl
theorem dL_law_8 : decode cL_law 8 = .ok (.new 10, 3) := dck_get daL_law_t0 4 rfl
theorem dL_law_11 : decode cL_law 11 = .ok (.dup, 1) := dck_get daL_law_t0 5 rfl
theorem dL_law_12 : decode cL_law 12 = .ok (.invokespecial 12, 3) := dck_get daL_law_t0 6 rfl
theorem dL_law_15 : decode cL_law 15 = .ok (.astore_n 2, 1) := dck_get daL_law_t0 7 rfl
theorem dL_law_16 : decode cL_law 16 = .ok (.iconst 0, 1) := dck_get daL_law_t0 8 rfl
theorem dL_law_17 : decode cL_law 17 = .ok (.istore_n 3, 1) := dck_get daL_law_t0 9 rfl
theorem dL_law_18 : decode cL_law 18 = .ok (.iload_n 3, 1) := dck_get daL_law_t0 10 rfl
theorem dL_law_19 : decode cL_law 19 = .ok (.aload_n 0, 1) := dck_get daL_law_t0 11 rfl
theorem dL_law_20 : decode cL_law 20 = .ok (.arraylength, 1) := dck_get daL_law_t0 12 rfl
theorem dL_law_21 : decode cL_law 21 = .ok (.iconst 5, 1) := dck_get daL_law_t0 13 rfl
theorem dL_law_22 : decode cL_law 22 = .ok (.isub, 1) := dck_get daL_law_t0 14 rfl
theorem dL_law_23 : decode cL_law 23 = .ok (.if_icmp .gt 716, 3) := dck_get daL_law_t0 15 rfl
theorem dL_law_26 : decode cL_law 26 = .ok (.aload_n 0, 1) := dck_get daL_law_t0 16 rfl
theorem dL_law_27 : decode cL_law 27 = .ok (.iload_n 3, 1) := dck_get daL_law_t0 17 rfl
theorem dL_law_28 : decode cL_law 28 = .ok (.iaload, 1) := dck_get daL_law_t0 18 rfl
theorem dL_law_29 : decode cL_law 29 = .ok (.bipush 31, 2) := dck_get daL_law_t0 19 rfl
def dtL_law_t1 : List (Nat × Instr × Nat) := [(31, .iand, 1), (32, .tableswitch 701 0 24 #[116, 139, 152, 195, 228, 261, 284, 307, 360, 373, 416, 429, 452, 475, 488, 501, 514, 527, 560, 583, 606, 619, 652, 665, 678], 116), (148, .aload_n 1, 1), (149, .aload_n 0, 1), (150, .iload_n 3, 1), (151, .iconst 1, 1), (152, .iadd, 1), (153, .iaload, 1), (154, .invokevirtual 13, 3), (157, .pop, 1), (158, .aload_n 2, 1), (159, .aload_n 0, 1), (160, .iload_n 3, 1), (161, .iconst 1, 1), (162, .iadd, 1), (163, .iaload, 1), (164, .invokevirtual 17, 3), (167, .pop, 1), (168, .goto 565, 3), (171, .aload_n 1, 1)]
theorem daL_law_t1 : dtL_law_t1.all (dck cL_law) = true := by decide +kernel
theorem dL_law_31 : decode cL_law 31 = .ok (.iand, 1) := dck_get daL_law_t1 0 rfl
theorem dL_law_32 : decode cL_law 32 = .ok (.tableswitch 701 0 24 #[116, 139, 152, 195, 228, 261, 284, 307, 360, 373, 416, 429, 452, 475, 488, 501, 514, 527, 560, 583, 606, 619, 652, 665, 678], 116) := dck_get daL_law_t1 1 rfl
theorem dL_law_148 : decode cL_law 148 = .ok (.aload_n 1, 1) := dck_get daL_law_t1 2 rfl
theorem dL_law_149 : decode cL_law 149 = .ok (.aload_n 0, 1) := dck_get daL_law_t1 3 rfl
theorem dL_law_150 : decode cL_law 150 = .ok (.iload_n 3, 1) := dck_get daL_law_t1 4 rfl
theorem dL_law_151 : decode cL_law 151 = .ok (.iconst 1, 1) := dck_get daL_law_t1 5 rfl
theorem dL_law_152 : decode cL_law 152 = .ok (.iadd, 1) := dck_get daL_law_t1 6 rfl
theorem dL_law_153 : decode cL_law 153 = .ok (.iaload, 1) := dck_get daL_law_t1 7 rfl
theorem dL_law_154 : decode cL_law 154 = .ok (.invokevirtual 13, 3) := dck_get daL_law_t1 8 rfl
theorem dL_law_157 : decode cL_law 157 = .ok (.pop, 1) := dck_get daL_law_t1 9 rfl
theorem dL_law_158 : decode cL_law 158 = .ok (.aload_n 2, 1) := dck_get daL_law_t1 10 rfl
theorem dL_law_159 : decode cL_law 159 = .ok (.aload_n 0, 1) := dck_get daL_law_t1 11 rfl
theorem dL_law_160 : decode cL_law 160 = .ok (.iload_n 3, 1) := dck_get daL_law_t1 12 rfl
theorem dL_law_161 : decode cL_law 161 = .ok (.iconst 1, 1) := dck_get daL_law_t1 13 rfl
theorem dL_law_162 : decode cL_law 162 = .ok (.iadd, 1) := dck_get daL_law_t1 14 rfl
theorem dL_law_163 : decode cL_law 163 = .ok (.iaload, 1) := dck_get daL_law_t1 15 rfl
theorem dL_law_164 : decode cL_law 164 = .ok (.invokevirtual 17, 3) := dck_get daL_law_t1 16 rfl
theorem dL_law_167 : decode cL_law 167 = .ok (.pop, 1) := dck_get daL_law_t1 17 rfl
theorem dL_law_168 : decode cL_law 168 = .ok (.goto 565, 3) := dck_get daL_law_t1 18 rfl
theorem dL_law_171 : decode cL_law 171 = .ok (.aload_n 1, 1) := dck_get daL_law_t1 19 rfl
def dtL_law_t2 : List (Nat × Instr × Nat) := [(172, .invokevirtual 18, 3), (175, .pop, 1), (176, .aload_n 2, 1), (177, .invokevirtual 22, 3), (180, .pop, 1), (181, .goto 552, 3), (184, .aload_n 1, 1), (185, .aload_n 0, 1), (186, .iload_n 3, 1), (187, .iconst 1, 1), (188, .iadd, 1), (189, .iaload, 1), (190, .aload_n 0, 1), (191, .iload_n 3, 1), (192, .iconst 2, 1), (193, .iadd, 1), (194, .iaload, 1), (195, .aload_n 0, 1), (196, .iload_n 3, 1), (197, .iconst 3, 1)]
theorem daL_law_t2 : dtL_law_t2.all (dck cL_law) = true := by decide +kernel
theorem dL_law_172 : decode cL_law 172 = .ok (.invokevirtual 18, 3) := dck_get daL_law_t2 0 rfl
theorem dL_law_175 : decode cL_law 175 = .ok (.pop, 1) := dck_get daL_law_t2 1 rfl
theorem dL_law_176 : decode cL_law 176 = .ok (.aload_n 2, 1) := dck_get daL_law_t2 2 rfl
theorem dL_law_177 : decode cL_law 177 = .ok (.invokevirtual 22, 3) := dck_get daL_law_t2 3 rfl
theorem dL_law_180 : decode cL_law 180 = .ok (.pop, 1) := dck_get daL_law_t2 4 rfl
theorem dL_law_181 : decode cL_law 181 = .ok (.goto 552, 3) := dck_get daL_law_t2 5 rfl
theorem dL_law_184 : decode cL_law 184 = .ok (.aload_n 1, 1) := dck_get daL_law_t2 6 rfl
theorem dL_law_185 : decode cL_law 185 = .ok (.aload_n 0, 1) := dck_get daL_law_t2 7 rfl
theorem dL_law_186 : decode cL_law 186 = .ok (.iload_n 3, 1) := dck_get daL_law_t2 8 rfl
theorem dL_law_187 : decode cL_law 187 = .ok (.iconst 1, 1) := dck_get daL_law_t2 9 rfl
theorem dL_law_188 : decode cL_law 188 = .ok (.iadd, 1) := dck_get daL_law_t2 10 rfl
theorem dL_law_189 : decode cL_law 189 = .ok (.iaload, 1) := dck_get daL_law_t2 11 rfl
theorem dL_law_190 : decode cL_law 190 = .ok (.aload_n 0, 1) := dck_get daL_law_t2 12 rfl
theorem dL_law_191 : decode cL_law 191 = .ok (.iload_n 3, 1) := dck_get daL_law_t2 13 rfl
theorem dL_law_192 : decode cL_law 192 = .ok (.iconst 2, 1) := dck_get daL_law_t2 14 rfl
theorem dL_law_193 : decode cL_law 193 = .ok (.iadd, 1) := dck_get daL_law_t2 15 rfl
theorem dL_law_194 : decode cL_law 194 = .ok (.iaload, 1) := dck_get daL_law_t2 16 rfl
theorem dL_law_195 : decode cL_law 195 = .ok (.aload_n 0, 1) := dck_get daL_law_t2 17 rfl
theorem dL_law_196 : decode cL_law 196 = .ok (.iload_n 3, 1) := dck_get daL_law_t2 18 rfl
theorem dL_law_197 : decode cL_law 197 = .ok (.iconst 3, 1) := dck_get daL_law_t2 19 rfl
def dtL_law_t3 : List (Nat × Instr × Nat) := [(198, .iadd, 1), (199, .iaload, 1), (200, .invokevirtual 23, 3), (203, .pop, 1), (204, .aload_n 2, 1), (205, .aload_n 0, 1), (206, .iload_n 3, 1), (207, .iconst 1, 1), (208, .iadd, 1), (209, .iaload, 1), (210, .aload_n 0, 1), (211, .iload_n 3, 1), (212, .iconst 2, 1), (213, .iadd, 1), (214, .iaload, 1), (215, .aload_n 0, 1), (216, .iload_n 3, 1), (217, .iconst 3, 1), (218, .iadd, 1), (219, .iaload, 1)]
theorem daL_law_t3 : dtL_law_t3.all (dck cL_law) = true := by decide +kernel
theorem dL_law_198 : decode cL_law 198 = .ok (.iadd, 1) := dck_get daL_law_t3 0 rfl
theorem dL_law_199 : decode cL_law 199 = .ok (.iaload, 1) := dck_get daL_law_t3 1 rfl
theorem dL_law_200 : decode cL_law 200 = .ok (.invokevirtual 23, 3) := dck_get daL_law_t3 2 rfl
theorem dL_law_203 : decode cL_law 203 = .ok (.pop, 1) := dck_get daL_law_t3 3 rfl
theorem dL_law_204 : decode cL_law 204 = .ok (.aload_n 2, 1) := dck_get daL_law_t3 4 rfl
theorem dL_law_205 : decode cL_law 205 = .ok (.aload_n 0, 1) := dck_get daL_law_t3 5 rfl
theorem dL_law_206 : decode cL_law 206 = .ok (.iload_n 3, 1) := dck_get daL_law_t3 6 rfl
theorem dL_law_207 : decode cL_law 207 = .ok (.iconst 1, 1) := dck_get daL_law_t3 7 rfl
theorem dL_law_208 : decode cL_law 208 = .ok (.iadd, 1) := dck_get daL_law_t3 8 rfl
theorem dL_law_209 : decode cL_law 209 = .ok (.iaload, 1) := dck_get daL_law_t3 9 rfl
theorem dL_law_210 : decode cL_law 210 = .ok (.aload_n 0, 1) := dck_get daL_law_t3 10 rfl
theorem dL_law_211 : decode cL_law 211 = .ok (.iload_n 3, 1) := dck_get daL_law_t3 11 rfl
theorem dL_law_212 : decode cL_law 212 = .ok (.iconst 2, 1) := dck_get daL_law_t3 12 rfl
theorem dL_law_213 : decode cL_law 213 = .ok (.iadd, 1) := dck_get daL_law_t3 13 rfl
theorem dL_law_214 : decode cL_law 214 = .ok (.iaload, 1) := dck_get daL_law_t3 14 rfl
theorem dL_law_215 : decode cL_law 215 = .ok (.aload_n 0, 1) := dck_get daL_law_t3 15 rfl
theorem dL_law_216 : decode cL_law 216 = .ok (.iload_n 3, 1) := dck_get daL_law_t3 16 rfl
theorem dL_law_217 : decode cL_law 217 = .ok (.iconst 3, 1) := dck_get daL_law_t3 17 rfl
theorem dL_law_218 : decode cL_law 218 = .ok (.iadd, 1) := dck_get daL_law_t3 18 rfl
theorem dL_law_219 : decode cL_law 219 = .ok (.iaload, 1) := dck_get daL_law_t3 19 rfl
def dtL_law_t4 : List (Nat × Instr × Nat) := [(220, .invokevirtual 27, 3), (223, .pop, 1), (224, .goto 509, 3), (227, .aload_n 1, 1), (228, .aload_n 0, 1), (229, .iload_n 3, 1), (230, .iconst 1, 1), (231, .iadd, 1), (232, .iaload, 1), (233, .aload_n 0, 1), (234, .iload_n 3, 1), (235, .iconst 2, 1), (236, .iadd, 1), (237, .iaload, 1), (238, .invokevirtual 28, 3), (241, .pop, 1), (242, .aload_n 2, 1), (243, .aload_n 0, 1), (244, .iload_n 3, 1), (245, .iconst 1, 1)]
theorem daL_law_t4 : dtL_law_t4.all (dck cL_law) = true := by decide +kernel
theorem dL_law_220 : decode cL_law 220 = .ok (.invokevirtual 27, 3) := dck_get daL_law_t4 0 rfl
theorem dL_law_223 : decode cL_law 223 = .ok (.pop, 1) := dck_get daL_law_t4 1 rfl
theorem dL_law_224 : decode cL_law 224 = .ok (.goto 509, 3) := dck_get daL_law_t4 2 rfl
theorem dL_law_227 : decode cL_law 227 = .ok (.aload_n 1, 1) := dck_get daL_law_t4 3 rfl
theorem dL_law_228 : decode cL_law 228 = .ok (.aload_n 0, 1) := dck_get daL_law_t4 4 rfl
theorem dL_law_229 : decode cL_law 229 = .ok (.iload_n 3, 1) := dck_get daL_law_t4 5 rfl
theorem dL_law_230 : decode cL_law 230 = .ok (.iconst 1, 1) := dck_get daL_law_t4 6 rfl
theorem dL_law_231 : decode cL_law 231 = .ok (.iadd, 1) := dck_get daL_law_t4 7 rfl
theorem dL_law_232 : decode cL_law 232 = .ok (.iaload, 1) := dck_get daL_law_t4 8 rfl
theorem dL_law_233 : decode cL_law 233 = .ok (.aload_n 0, 1) := dck_get daL_law_t4 9 rfl
theorem dL_law_234 : decode cL_law 234 = .ok (.iload_n 3, 1) := dck_get daL_law_t4 10 rfl
theorem dL_law_235 : decode cL_law 235 = .ok (.iconst 2, 1) := dck_get daL_law_t4 11 rfl
theorem dL_law_236 : decode cL_law 236 = .ok (.iadd, 1) := dck_get daL_law_t4 12 rfl
theorem dL_law_237 : decode cL_law 237 = .ok (.iaload, 1) := dck_get daL_law_t4 13 rfl
theorem dL_law_238 : decode cL_law 238 = .ok (.invokevirtual 28, 3) := dck_get daL_law_t4 14 rfl
theorem dL_law_241 : decode cL_law 241 = .ok (.pop, 1) := dck_get daL_law_t4 15 rfl
theorem dL_law_242 : decode cL_law 242 = .ok (.aload_n 2, 1) := dck_get daL_law_t4 16 rfl
theorem dL_law_243 : decode cL_law 243 = .ok (.aload_n 0, 1) := dck_get daL_law_t4 17 rfl
theorem dL_law_244 : decode cL_law 244 = .ok (.iload_n 3, 1) := dck_get daL_law_t4 18 rfl
theorem dL_law_245 : decode cL_law 245 = .ok (.iconst 1, 1) := dck_get daL_law_t4 19 rfl
def dtL_law_t5 : List (Nat × Instr × Nat) := [(246, .iadd, 1), (247, .iaload, 1), (248, .aload_n 0, 1), (249, .iload_n 3, 1), (250, .iconst 2, 1), (251, .iadd, 1), (252, .iaload, 1), (253, .invokevirtual 32, 3), (256, .pop, 1), (257, .goto 476, 3), (260, .aload_n 1, 1), (261, .aload_n 0, 1), (262, .iload_n 3, 1), (263, .iconst 1, 1), (264, .iadd, 1), (265, .iaload, 1), (266, .aload_n 0, 1), (267, .iload_n 3, 1), (268, .iconst 2, 1), (269, .iadd, 1)]
theorem daL_law_t5 : dtL_law_t5.all (dck cL_law) = true := by decide +kernel
theorem dL_law_246 : decode cL_law 246 = .ok (.iadd, 1) := dck_get daL_law_t5 0 rfl
theorem dL_law_247 : decode cL_law 247 = .ok (.iaload, 1) := dck_get daL_law_t5 1 rfl
theorem dL_law_248 : decode cL_law 248 = .ok (.aload_n 0, 1) := dck_get daL_law_t5 2 rfl
theorem dL_law_249 : decode cL_law 249 = .ok (.iload_n 3, 1) := dck_get daL_law_t5 3 rfl
theorem dL_law_250 : decode cL_law 250 = .ok (.iconst 2, 1) := dck_get daL_law_t5 4 rfl
theorem dL_law_251 : decode cL_law 251 = .ok (.iadd, 1) := dck_get daL_law_t5 5 rfl
theorem dL_law_252 : decode cL_law 252 = .ok (.iaload, 1) := dck_get daL_law_t5 6 rfl
theorem dL_law_253 : decode cL_law 253 = .ok (.invokevirtual 32, 3) := dck_get daL_law_t5 7 rfl
theorem dL_law_256 : decode cL_law 256 = .ok (.pop, 1) := dck_get daL_law_t5 8 rfl
theorem dL_law_257 : decode cL_law 257 = .ok (.goto 476, 3) := dck_get daL_law_t5 9 rfl
theorem dL_law_260 : decode cL_law 260 = .ok (.aload_n 1, 1) := dck_get daL_law_t5 10 rfl
theorem dL_law_261 : decode cL_law 261 = .ok (.aload_n 0, 1) := dck_get daL_law_t5 11 rfl
theorem dL_law_262 : decode cL_law 262 = .ok (.iload_n 3, 1) := dck_get daL_law_t5 12 rfl
theorem dL_law_263 : decode cL_law 263 = .ok (.iconst 1, 1) := dck_get daL_law_t5 13 rfl
theorem dL_law_264 : decode cL_law 264 = .ok (.iadd, 1) := dck_get daL_law_t5 14 rfl
theorem dL_law_265 : decode cL_law 265 = .ok (.iaload, 1) := dck_get daL_law_t5 15 rfl
theorem dL_law_266 : decode cL_law 266 = .ok (.aload_n 0, 1) := dck_get daL_law_t5 16 rfl
theorem dL_law_267 : decode cL_law 267 = .ok (.iload_n 3, 1) := dck_get daL_law_t5 17 rfl
theorem dL_law_268 : decode cL_law 268 = .ok (.iconst 2, 1) := dck_get daL_law_t5 18 rfl
theorem dL_law_269 : decode cL_law 269 = .ok (.iadd, 1) := dck_get daL_law_t5 19 rfl
def dtL_law_t6 : List (Nat × Instr × Nat) := [(270, .iaload, 1), (271, .invokevirtual 33, 3), (274, .pop, 1), (275, .aload_n 2, 1), (276, .aload_n 0, 1), (277, .iload_n 3, 1), (278, .iconst 1, 1), (279, .iadd, 1), (280, .iaload, 1), (281, .aload_n 0, 1), (282, .iload_n 3, 1), (283, .iconst 2, 1), (284, .iadd, 1), (285, .iaload, 1), (286, .invokevirtual 36, 3), (289, .pop, 1), (290, .goto 443, 3), (293, .aload_n 1, 1), (294, .aload_n 0, 1), (295, .iload_n 3, 1)]
theorem daL_law_t6 : dtL_law_t6.all (dck cL_law) = true := by decide +kernel
theorem dL_law_270 : decode cL_law 270 = .ok (.iaload, 1) := dck_get daL_law_t6 0 rfl
theorem dL_law_271 : decode cL_law 271 = .ok (.invokevirtual 33, 3) := dck_get daL_law_t6 1 rfl
theorem dL_law_274 : decode cL_law 274 = .ok (.pop, 1) := dck_get daL_law_t6 2 rfl
theorem dL_law_275 : decode cL_law 275 = .ok (.aload_n 2, 1) := dck_get daL_law_t6 3 rfl
theorem dL_law_276 : decode cL_law 276 = .ok (.aload_n 0, 1) := dck_get daL_law_t6 4 rfl
theorem dL_law_277 : decode cL_law 277 = .ok (.iload_n 3, 1) := dck_get daL_law_t6 5 rfl
theorem dL_law_278 : decode cL_law 278 = .ok (.iconst 1, 1) := dck_get daL_law_t6 6 rfl
theorem dL_law_279 : decode cL_law 279 = .ok (.iadd, 1) := dck_get daL_law_t6 7 rfl
theorem dL_law_280 : decode cL_law 280 = .ok (.iaload, 1) := dck_get daL_law_t6 8 rfl
theorem dL_law_281 : decode cL_law 281 = .ok (.aload_n 0, 1) := dck_get daL_law_t6 9 rfl
theorem dL_law_282 : decode cL_law 282 = .ok (.iload_n 3, 1) := dck_get daL_law_t6 10 rfl
theorem dL_law_283 : decode cL_law 283 = .ok (.iconst 2, 1) := dck_get daL_law_t6 11 rfl
theorem dL_law_284 : decode cL_law 284 = .ok (.iadd, 1) := dck_get daL_law_t6 12 rfl
theorem dL_law_285 : decode cL_law 285 = .ok (.iaload, 1) := dck_get daL_law_t6 13 rfl
theorem dL_law_286 : decode cL_law 286 = .ok (.invokevirtual 36, 3) := dck_get daL_law_t6 14 rfl
theorem dL_law_289 : decode cL_law 289 = .ok (.pop, 1) := dck_get daL_law_t6 15 rfl
theorem dL_law_290 : decode cL_law 290 = .ok (.goto 443, 3) := dck_get daL_law_t6 16 rfl
theorem dL_law_293 : decode cL_law 293 = .ok (.aload_n 1, 1) := dck_get daL_law_t6 17 rfl
theorem dL_law_294 : decode cL_law 294 = .ok (.aload_n 0, 1) := dck_get daL_law_t6 18 rfl
theorem dL_law_295 : decode cL_law 295 = .ok (.iload_n 3, 1) := dck_get daL_law_t6 19 rfl
def dtL_law_t7 : List (Nat × Instr × Nat) := [(296, .iconst 1, 1), (297, .iadd, 1), (298, .iaload, 1), (299, .invokevirtual 37, 3), (302, .pop, 1), (303, .aload_n 2, 1), (304, .aload_n 0, 1), (305, .iload_n 3, 1), (306, .iconst 1, 1), (307, .iadd, 1), (308, .iaload, 1), (309, .invokevirtual 40, 3), (312, .pop, 1), (313, .goto 420, 3), (316, .aload_n 1, 1), (317, .aload_n 0, 1), (318, .iload_n 3, 1), (319, .iconst 1, 1), (320, .iadd, 1), (321, .iaload, 1)]
theorem daL_law_t7 : dtL_law_t7.all (dck cL_law) = true := by decide +kernel
theorem dL_law_296 : decode cL_law 296 = .ok (.iconst 1, 1) := dck_get daL_law_t7 0 rfl
theorem dL_law_297 : decode cL_law 297 = .ok (.iadd, 1) := dck_get daL_law_t7 1 rfl
theorem dL_law_298 : decode cL_law 298 = .ok (.iaload, 1) := dck_get daL_law_t7 2 rfl
theorem dL_law_299 : decode cL_law 299 = .ok (.invokevirtual 37, 3) := dck_get daL_law_t7 3 rfl
theorem dL_law_302 : decode cL_law 302 = .ok (.pop, 1) := dck_get daL_law_t7 4 rfl
theorem dL_law_303 : decode cL_law 303 = .ok (.aload_n 2, 1) := dck_get daL_law_t7 5 rfl
theorem dL_law_304 : decode cL_law 304 = .ok (.aload_n 0, 1) := dck_get daL_law_t7 6 rfl
theorem dL_law_305 : decode cL_law 305 = .ok (.iload_n 3, 1) := dck_get daL_law_t7 7 rfl
theorem dL_law_306 : decode cL_law 306 = .ok (.iconst 1, 1) := dck_get daL_law_t7 8 rfl
theorem dL_law_307 : decode cL_law 307 = .ok (.iadd, 1) := dck_get daL_law_t7 9 rfl
theorem dL_law_308 : decode cL_law 308 = .ok (.iaload, 1) := dck_get daL_law_t7 10 rfl
theorem dL_law_309 : decode cL_law 309 = .ok (.invokevirtual 40, 3) := dck_get daL_law_t7 11 rfl
theorem dL_law_312 : decode cL_law 312 = .ok (.pop, 1) := dck_get daL_law_t7 12 rfl
theorem dL_law_313 : decode cL_law 313 = .ok (.goto 420, 3) := dck_get daL_law_t7 13 rfl
theorem dL_law_316 : decode cL_law 316 = .ok (.aload_n 1, 1) := dck_get daL_law_t7 14 rfl
theorem dL_law_317 : decode cL_law 317 = .ok (.aload_n 0, 1) := dck_get daL_law_t7 15 rfl
theorem dL_law_318 : decode cL_law 318 = .ok (.iload_n 3, 1) := dck_get daL_law_t7 16 rfl
theorem dL_law_319 : decode cL_law 319 = .ok (.iconst 1, 1) := dck_get daL_law_t7 17 rfl
theorem dL_law_320 : decode cL_law 320 = .ok (.iadd, 1) := dck_get daL_law_t7 18 rfl
theorem dL_law_321 : decode cL_law 321 = .ok (.iaload, 1) := dck_get daL_law_t7 19 rfl
def dtL_law_t8 : List (Nat × Instr × Nat) := [(322, .invokevirtual 41, 3), (325, .pop, 1), (326, .aload_n 2, 1), (327, .aload_n 0, 1), (328, .iload_n 3, 1), (329, .iconst 1, 1), (330, .iadd, 1), (331, .iaload, 1), (332, .invokevirtual 44, 3), (335, .pop, 1), (336, .goto 397, 3), (339, .aload_n 1, 1), (340, .aload_n 0, 1), (341, .iload_n 3, 1), (342, .iconst 1, 1), (343, .iadd, 1), (344, .iaload, 1), (345, .aload_n 0, 1), (346, .iload_n 3, 1), (347, .iconst 2, 1)]
theorem daL_law_t8 : dtL_law_t8.all (dck cL_law) = true := by decide +kernel
theorem dL_law_322 : decode cL_law 322 = .ok (.invokevirtual 41, 3) := dck_get daL_law_t8 0 rfl
theorem dL_law_325 : decode cL_law 325 = .ok (.pop, 1) := dck_get daL_law_t8 1 rfl
theorem dL_law_326 : decode cL_law 326 = .ok (.aload_n 2, 1) := dck_get daL_law_t8 2 rfl
theorem dL_law_327 : decode cL_law 327 = .ok (.aload_n 0, 1) := dck_get daL_law_t8 3 rfl
theorem dL_law_328 : decode cL_law 328 = .ok (.iload_n 3, 1) := dck_get daL_law_t8 4 rfl
theorem dL_law_329 : decode cL_law 329 = .ok (.iconst 1, 1) := dck_get daL_law_t8 5 rfl
theorem dL_law_330 : decode cL_law 330 = .ok (.iadd, 1) := dck_get daL_law_t8 6 rfl
theorem dL_law_331 : decode cL_law 331 = .ok (.iaload, 1) := dck_get daL_law_t8 7 rfl
theorem dL_law_332 : decode cL_law 332 = .ok (.invokevirtual 44, 3) := dck_get daL_law_t8 8 rfl
theorem dL_law_335 : decode cL_law 335 = .ok (.pop, 1) := dck_get daL_law_t8 9 rfl
theorem dL_law_336 : decode cL_law 336 = .ok (.goto 397, 3) := dck_get daL_law_t8 10 rfl
theorem dL_law_339 : decode cL_law 339 = .ok (.aload_n 1, 1) := dck_get daL_law_t8 11 rfl
theorem dL_law_340 : decode cL_law 340 = .ok (.aload_n 0, 1) := dck_get daL_law_t8 12 rfl
theorem dL_law_341 : decode cL_law 341 = .ok (.iload_n 3, 1) := dck_get daL_law_t8 13 rfl
theorem dL_law_342 : decode cL_law 342 = .ok (.iconst 1, 1) := dck_get daL_law_t8 14 rfl
theorem dL_law_343 : decode cL_law 343 = .ok (.iadd, 1) := dck_get daL_law_t8 15 rfl
theorem dL_law_344 : decode cL_law 344 = .ok (.iaload, 1) := dck_get daL_law_t8 16 rfl
theorem dL_law_345 : decode cL_law 345 = .ok (.aload_n 0, 1) := dck_get daL_law_t8 17 rfl
theorem dL_law_346 : decode cL_law 346 = .ok (.iload_n 3, 1) := dck_get daL_law_t8 18 rfl
theorem dL_law_347 : decode cL_law 347 = .ok (.iconst 2, 1) := dck_get daL_law_t8 19 rfl
def dtL_law_t9 : List (Nat × Instr × Nat) := [(348, .iadd, 1), (349, .iaload, 1), (350, .aload_n 0, 1), (351, .iload_n 3, 1), (352, .iconst 3, 1), (353, .iadd, 1), (354, .iaload, 1), (355, .aload_n 0, 1), (356, .iload_n 3, 1), (357, .iconst 4, 1), (358, .iadd, 1), (359, .iaload, 1), (360, .invokevirtual 45, 3), (363, .pop2, 1), (364, .aload_n 2, 1), (365, .aload_n 0, 1), (366, .iload_n 3, 1), (367, .iconst 1, 1), (368, .iadd, 1), (369, .iaload, 1)]
theorem daL_law_t9 : dtL_law_t9.all (dck cL_law) = true := by decide +kernel
theorem dL_law_348 : decode cL_law 348 = .ok (.iadd, 1) := dck_get daL_law_t9 0 rfl
theorem dL_law_349 : decode cL_law 349 = .ok (.iaload, 1) := dck_get daL_law_t9 1 rfl
theorem dL_law_350 : decode cL_law 350 = .ok (.aload_n 0, 1) := dck_get daL_law_t9 2 rfl
theorem dL_law_351 : decode cL_law 351 = .ok (.iload_n 3, 1) := dck_get daL_law_t9 3 rfl
theorem dL_law_352 : decode cL_law 352 = .ok (.iconst 3, 1) := dck_get daL_law_t9 4 rfl
theorem dL_law_353 : decode cL_law 353 = .ok (.iadd, 1) := dck_get daL_law_t9 5 rfl
theorem dL_law_354 : decode cL_law 354 = .ok (.iaload, 1) := dck_get daL_law_t9 6 rfl
theorem dL_law_355 : decode cL_law 355 = .ok (.aload_n 0, 1) := dck_get daL_law_t9 7 rfl
theorem dL_law_356 : decode cL_law 356 = .ok (.iload_n 3, 1) := dck_get daL_law_t9 8 rfl
theorem dL_law_357 : decode cL_law 357 = .ok (.iconst 4, 1) := dck_get daL_law_t9 9 rfl
theorem dL_law_358 : decode cL_law 358 = .ok (.iadd, 1) := dck_get daL_law_t9 10 rfl
theorem dL_law_359 : decode cL_law 359 = .ok (.iaload, 1) := dck_get daL_law_t9 11 rfl
theorem dL_law_360 : decode cL_law 360 = .ok (.invokevirtual 45, 3) := dck_get daL_law_t9 12 rfl
theorem dL_law_363 : decode cL_law 363 = .ok (.pop2, 1) := dck_get daL_law_t9 13 rfl
theorem dL_law_364 : decode cL_law 364 = .ok (.aload_n 2, 1) := dck_get daL_law_t9 14 rfl
theorem dL_law_365 : decode cL_law 365 = .ok (.aload_n 0, 1) := dck_get daL_law_t9 15 rfl
theorem dL_law_366 : decode cL_law 366 = .ok (.iload_n 3, 1) := dck_get daL_law_t9 16 rfl
theorem dL_law_367 : decode cL_law 367 = .ok (.iconst 1, 1) := dck_get daL_law_t9 17 rfl
theorem dL_law_368 : decode cL_law 368 = .ok (.iadd, 1) := dck_get daL_law_t9 18 rfl
theorem dL_law_369 : decode cL_law 369 = .ok (.iaload, 1) := dck_get daL_law_t9 19 rfl
def dtL_law_t10 : List (Nat × Instr × Nat) := [(370, .aload_n 0, 1), (371, .iload_n 3, 1), (372, .iconst 2, 1), (373, .iadd, 1), (374, .iaload, 1), (375, .aload_n 0, 1), (376, .iload_n 3, 1), (377, .iconst 3, 1), (378, .iadd, 1), (379, .iaload, 1), (380, .aload_n 0, 1), (381, .iload_n 3, 1), (382, .iconst 4, 1), (383, .iadd, 1), (384, .iaload, 1), (385, .invokevirtual 49, 3), (388, .pop2, 1), (389, .goto 344, 3), (392, .aload_n 1, 1), (393, .invokevirtual 50, 3)]
theorem daL_law_t10 : dtL_law_t10.all (dck cL_law) = true := by decide +kernel
theorem dL_law_370 : decode cL_law 370 = .ok (.aload_n 0, 1) := dck_get daL_law_t10 0 rfl
theorem dL_law_371 : decode cL_law 371 = .ok (.iload_n 3, 1) := dck_get daL_law_t10 1 rfl
theorem dL_law_372 : decode cL_law 372 = .ok (.iconst 2, 1) := dck_get daL_law_t10 2 rfl
theorem dL_law_373 : decode cL_law 373 = .ok (.iadd, 1) := dck_get daL_law_t10 3 rfl
theorem dL_law_374 : decode cL_law 374 = .ok (.iaload, 1) := dck_get daL_law_t10 4 rfl
theorem dL_law_375 : decode cL_law 375 = .ok (.aload_n 0, 1) := dck_get daL_law_t10 5 rfl
theorem dL_law_376 : decode cL_law 376 = .ok (.iload_n 3, 1) := dck_get daL_law_t10 6 rfl
theorem dL_law_377 : decode cL_law 377 = .ok (.iconst 3, 1) := dck_get daL_law_t10 7 rfl
theorem dL_law_378 : decode cL_law 378 = .ok (.iadd, 1) := dck_get daL_law_t10 8 rfl
theorem dL_law_379 : decode cL_law 379 = .ok (.iaload, 1) := dck_get daL_law_t10 9 rfl
theorem dL_law_380 : decode cL_law 380 = .ok (.aload_n 0, 1) := dck_get daL_law_t10 10 rfl
theorem dL_law_381 : decode cL_law 381 = .ok (.iload_n 3, 1) := dck_get daL_law_t10 11 rfl
theorem dL_law_382 : decode cL_law 382 = .ok (.iconst 4, 1) := dck_get daL_law_t10 12 rfl
theorem dL_law_383 : decode cL_law 383 = .ok (.iadd, 1) := dck_get daL_law_t10 13 rfl
theorem dL_law_384 : decode cL_law 384 = .ok (.iaload, 1) := dck_get daL_law_t10 14 rfl
theorem dL_law_385 : decode cL_law 385 = .ok (.invokevirtual 49, 3) := dck_get daL_law_t10 15 rfl
theorem dL_law_388 : decode cL_law 388 = .ok (.pop2, 1) := dck_get daL_law_t10 16 rfl
theorem dL_law_389 : decode cL_law 389 = .ok (.goto 344, 3) := dck_get daL_law_t10 17 rfl
theorem dL_law_392 : decode cL_law 392 = .ok (.aload_n 1, 1) := dck_get daL_law_t10 18 rfl
theorem dL_law_393 : decode cL_law 393 = .ok (.invokevirtual 50, 3) := dck_get daL_law_t10 19 rfl
def dtL_law_t11 : List (Nat × Instr × Nat) := [(396, .pop, 1), (397, .aload_n 2, 1), (398, .invokevirtual 53, 3), (401, .pop, 1), (402, .goto 331, 3), (405, .aload_n 1, 1), (406, .aload_n 0, 1), (407, .iload_n 3, 1), (408, .iconst 1, 1), (409, .iadd, 1), (410, .iaload, 1), (411, .aload_n 0, 1), (412, .iload_n 3, 1), (413, .iconst 2, 1), (414, .iadd, 1), (415, .iaload, 1), (416, .aload_n 0, 1), (417, .iload_n 3, 1), (418, .iconst 3, 1), (419, .iadd, 1)]
theorem daL_law_t11 : dtL_law_t11.all (dck cL_law) = true := by decide +kernel
theorem dL_law_396 : decode cL_law 396 = .ok (.pop, 1) := dck_get daL_law_t11 0 rfl
theorem dL_law_397 : decode cL_law 397 = .ok (.aload_n 2, 1) := dck_get daL_law_t11 1 rfl
theorem dL_law_398 : decode cL_law 398 = .ok (.invokevirtual 53, 3) := dck_get daL_law_t11 2 rfl
theorem dL_law_401 : decode cL_law 401 = .ok (.pop, 1) := dck_get daL_law_t11 3 rfl
theorem dL_law_402 : decode cL_law 402 = .ok (.goto 331, 3) := dck_get daL_law_t11 4 rfl
theorem dL_law_405 : decode cL_law 405 = .ok (.aload_n 1, 1) := dck_get daL_law_t11 5 rfl
theorem dL_law_406 : decode cL_law 406 = .ok (.aload_n 0, 1) := dck_get daL_law_t11 6 rfl
theorem dL_law_407 : decode cL_law 407 = .ok (.iload_n 3, 1) := dck_get daL_law_t11 7 rfl
theorem dL_law_408 : decode cL_law 408 = .ok (.iconst 1, 1) := dck_get daL_law_t11 8 rfl
theorem dL_law_409 : decode cL_law 409 = .ok (.iadd, 1) := dck_get daL_law_t11 9 rfl
theorem dL_law_410 : decode cL_law 410 = .ok (.iaload, 1) := dck_get daL_law_t11 10 rfl
theorem dL_law_411 : decode cL_law 411 = .ok (.aload_n 0, 1) := dck_get daL_law_t11 11 rfl
theorem dL_law_412 : decode cL_law 412 = .ok (.iload_n 3, 1) := dck_get daL_law_t11 12 rfl
theorem dL_law_413 : decode cL_law 413 = .ok (.iconst 2, 1) := dck_get daL_law_t11 13 rfl
theorem dL_law_414 : decode cL_law 414 = .ok (.iadd, 1) := dck_get daL_law_t11 14 rfl
theorem dL_law_415 : decode cL_law 415 = .ok (.iaload, 1) := dck_get daL_law_t11 15 rfl
theorem dL_law_416 : decode cL_law 416 = .ok (.aload_n 0, 1) := dck_get daL_law_t11 16 rfl
theorem dL_law_417 : decode cL_law 417 = .ok (.iload_n 3, 1) := dck_get daL_law_t11 17 rfl
theorem dL_law_418 : decode cL_law 418 = .ok (.iconst 3, 1) := dck_get daL_law_t11 18 rfl
theorem dL_law_419 : decode cL_law 419 = .ok (.iadd, 1) := dck_get daL_law_t11 19 rfl
def dtL_law_t12 : List (Nat × Instr × Nat) := [(420, .iaload, 1), (421, .invokevirtual 54, 3), (424, .pop, 1), (425, .aload_n 2, 1), (426, .aload_n 0, 1), (427, .iload_n 3, 1), (428, .iconst 1, 1), (429, .iadd, 1), (430, .iaload, 1), (431, .aload_n 0, 1), (432, .iload_n 3, 1), (433, .iconst 2, 1), (434, .iadd, 1), (435, .iaload, 1), (436, .aload_n 0, 1), (437, .iload_n 3, 1), (438, .iconst 3, 1), (439, .iadd, 1), (440, .iaload, 1), (441, .invokevirtual 57, 3)]
theorem daL_law_t12 : dtL_law_t12.all (dck cL_law) = true := by decide +kernel
theorem dL_law_420 : decode cL_law 420 = .ok (.iaload, 1) := dck_get daL_law_t12 0 rfl
theorem dL_law_421 : decode cL_law 421 = .ok (.invokevirtual 54, 3) := dck_get daL_law_t12 1 rfl
theorem dL_law_424 : decode cL_law 424 = .ok (.pop, 1) := dck_get daL_law_t12 2 rfl
theorem dL_law_425 : decode cL_law 425 = .ok (.aload_n 2, 1) := dck_get daL_law_t12 3 rfl
theorem dL_law_426 : decode cL_law 426 = .ok (.aload_n 0, 1) := dck_get daL_law_t12 4 rfl
theorem dL_law_427 : decode cL_law 427 = .ok (.iload_n 3, 1) := dck_get daL_law_t12 5 rfl
theorem dL_law_428 : decode cL_law 428 = .ok (.iconst 1, 1) := dck_get daL_law_t12 6 rfl
theorem dL_law_429 : decode cL_law 429 = .ok (.iadd, 1) := dck_get daL_law_t12 7 rfl
theorem dL_law_430 : decode cL_law 430 = .ok (.iaload, 1) := dck_get daL_law_t12 8 rfl
theorem dL_law_431 : decode cL_law 431 = .ok (.aload_n 0, 1) := dck_get daL_law_t12 9 rfl
theorem dL_law_432 : decode cL_law 432 = .ok (.iload_n 3, 1) := dck_get daL_law_t12 10 rfl
theorem dL_law_433 : decode cL_law 433 = .ok (.iconst 2, 1) := dck_get daL_law_t12 11 rfl
theorem dL_law_434 : decode cL_law 434 = .ok (.iadd, 1) := dck_get daL_law_t12 12 rfl
theorem dL_law_435 : decode cL_law 435 = .ok (.iaload, 1) := dck_get daL_law_t12 13 rfl
theorem dL_law_436 : decode cL_law 436 = .ok (.aload_n 0, 1) := dck_get daL_law_t12 14 rfl
theorem dL_law_437 : decode cL_law 437 = .ok (.iload_n 3, 1) := dck_get daL_law_t12 15 rfl
theorem dL_law_438 : decode cL_law 438 = .ok (.iconst 3, 1) := dck_get daL_law_t12 16 rfl
theorem dL_law_439 : decode cL_law 439 = .ok (.iadd, 1) := dck_get daL_law_t12 17 rfl
theorem dL_law_440 : decode cL_law 440 = .ok (.iaload, 1) := dck_get daL_law_t12 18 rfl
theorem dL_law_441 : decode cL_law 441 = .ok (.invokevirtual 57, 3) := dck_get daL_law_t12 19 rfl
def dtL_law_t13 : List (Nat × Instr × Nat) := [(444, .pop, 1), (445, .goto 288, 3), (448, .aload_n 1, 1), (449, .invokevirtual 58, 3), (452, .pop, 1), (453, .aload_n 2, 1), (454, .invokevirtual 61, 3), (457, .pop, 1), (458, .goto 275, 3), (461, .aload_n 1, 1), (462, .aload_n 0, 1), (463, .iload_n 3, 1), (464, .iconst 1, 1), (465, .iadd, 1), (466, .iaload, 1), (467, .invokevirtual 62, 3), (470, .pop, 1), (471, .aload_n 2, 1), (472, .aload_n 0, 1), (473, .iload_n 3, 1)]
theorem daL_law_t13 : dtL_law_t13.all (dck cL_law) = true := by decide +kernel
theorem dL_law_444 : decode cL_law 444 = .ok (.pop, 1) := dck_get daL_law_t13 0 rfl
theorem dL_law_445 : decode cL_law 445 = .ok (.goto 288, 3) := dck_get daL_law_t13 1 rfl
theorem dL_law_448 : decode cL_law 448 = .ok (.aload_n 1, 1) := dck_get daL_law_t13 2 rfl
theorem dL_law_449 : decode cL_law 449 = .ok (.invokevirtual 58, 3) := dck_get daL_law_t13 3 rfl
theorem dL_law_452 : decode cL_law 452 = .ok (.pop, 1) := dck_get daL_law_t13 4 rfl
theorem dL_law_453 : decode cL_law 453 = .ok (.aload_n 2, 1) := dck_get daL_law_t13 5 rfl
theorem dL_law_454 : decode cL_law 454 = .ok (.invokevirtual 61, 3) := dck_get daL_law_t13 6 rfl
theorem dL_law_457 : decode cL_law 457 = .ok (.pop, 1) := dck_get daL_law_t13 7 rfl
theorem dL_law_458 : decode cL_law 458 = .ok (.goto 275, 3) := dck_get daL_law_t13 8 rfl
theorem dL_law_461 : decode cL_law 461 = .ok (.aload_n 1, 1) := dck_get daL_law_t13 9 rfl
theorem dL_law_462 : decode cL_law 462 = .ok (.aload_n 0, 1) := dck_get daL_law_t13 10 rfl
theorem dL_law_463 : decode cL_law 463 = .ok (.iload_n 3, 1) := dck_get daL_law_t13 11 rfl
theorem dL_law_464 : decode cL_law 464 = .ok (.iconst 1, 1) := dck_get daL_law_t13 12 rfl
theorem dL_law_465 : decode cL_law 465 = .ok (.iadd, 1) := dck_get daL_law_t13 13 rfl
theorem dL_law_466 : decode cL_law 466 = .ok (.iaload, 1) := dck_get daL_law_t13 14 rfl
theorem dL_law_467 : decode cL_law 467 = .ok (.invokevirtual 62, 3) := dck_get daL_law_t13 15 rfl
theorem dL_law_470 : decode cL_law 470 = .ok (.pop, 1) := dck_get daL_law_t13 16 rfl
theorem dL_law_471 : decode cL_law 471 = .ok (.aload_n 2, 1) := dck_get daL_law_t13 17 rfl
theorem dL_law_472 : decode cL_law 472 = .ok (.aload_n 0, 1) := dck_get daL_law_t13 18 rfl
theorem dL_law_473 : decode cL_law 473 = .ok (.iload_n 3, 1) := dck_get daL_law_t13 19 rfl
def dtL_law_t14 : List (Nat × Instr × Nat) := [(474, .iconst 1, 1), (475, .iadd, 1), (476, .iaload, 1), (477, .invokevirtual 65, 3), (480, .pop, 1), (481, .goto 252, 3), (484, .aload_n 1, 1), (485, .aload_n 0, 1), (486, .iload_n 3, 1), (487, .iconst 1, 1), (488, .iadd, 1), (489, .iaload, 1), (490, .invokevirtual 66, 3), (493, .pop, 1), (494, .aload_n 2, 1), (495, .aload_n 0, 1), (496, .iload_n 3, 1), (497, .iconst 1, 1), (498, .iadd, 1), (499, .iaload, 1)]
theorem daL_law_t14 : dtL_law_t14.all (dck cL_law) = true := by decide +kernel
theorem dL_law_474 : decode cL_law 474 = .ok (.iconst 1, 1) := dck_get daL_law_t14 0 rfl
theorem dL_law_475 : decode cL_law 475 = .ok (.iadd, 1) := dck_get daL_law_t14 1 rfl
theorem dL_law_476 : decode cL_law 476 = .ok (.iaload, 1) := dck_get daL_law_t14 2 rfl
theorem dL_law_477 : decode cL_law 477 = .ok (.invokevirtual 65, 3) := dck_get daL_law_t14 3 rfl
theorem dL_law_480 : decode cL_law 480 = .ok (.pop, 1) := dck_get daL_law_t14 4 rfl
theorem dL_law_481 : decode cL_law 481 = .ok (.goto 252, 3) := dck_get daL_law_t14 5 rfl
theorem dL_law_484 : decode cL_law 484 = .ok (.aload_n 1, 1) := dck_get daL_law_t14 6 rfl
theorem dL_law_485 : decode cL_law 485 = .ok (.aload_n 0, 1) := dck_get daL_law_t14 7 rfl
theorem dL_law_486 : decode cL_law 486 = .ok (.iload_n 3, 1) := dck_get daL_law_t14 8 rfl
theorem dL_law_487 : decode cL_law 487 = .ok (.iconst 1, 1) := dck_get daL_law_t14 9 rfl
theorem dL_law_488 : decode cL_law 488 = .ok (.iadd, 1) := dck_get daL_law_t14 10 rfl
theorem dL_law_489 : decode cL_law 489 = .ok (.iaload, 1) := dck_get daL_law_t14 11 rfl
theorem dL_law_490 : decode cL_law 490 = .ok (.invokevirtual 66, 3) := dck_get daL_law_t14 12 rfl
theorem dL_law_493 : decode cL_law 493 = .ok (.pop, 1) := dck_get daL_law_t14 13 rfl
theorem dL_law_494 : decode cL_law 494 = .ok (.aload_n 2, 1) := dck_get daL_law_t14 14 rfl
theorem dL_law_495 : decode cL_law 495 = .ok (.aload_n 0, 1) := dck_get daL_law_t14 15 rfl
theorem dL_law_496 : decode cL_law 496 = .ok (.iload_n 3, 1) := dck_get daL_law_t14 16 rfl
theorem dL_law_497 : decode cL_law 497 = .ok (.iconst 1, 1) := dck_get daL_law_t14 17 rfl
theorem dL_law_498 : decode cL_law 498 = .ok (.iadd, 1) := dck_get daL_law_t14 18 rfl
theorem dL_law_499 : decode cL_law 499 = .ok (.iaload, 1) := dck_get daL_law_t14 19 rfl
def dtL_law_t15 : List (Nat × Instr × Nat) := [(500, .invokevirtual 69, 3), (503, .pop, 1), (504, .goto 229, 3), (507, .aload_n 1, 1), (508, .invokevirtual 70, 3), (511, .pop, 1), (512, .aload_n 2, 1), (513, .invokevirtual 73, 3), (516, .pop, 1), (517, .goto 216, 3), (520, .aload_n 1, 1), (521, .invokevirtual 74, 3), (524, .pop, 1), (525, .aload_n 2, 1), (526, .invokevirtual 77, 3), (529, .pop, 1), (530, .goto 203, 3), (533, .aload_n 1, 1), (534, .invokevirtual 78, 3), (537, .pop, 1)]
theorem daL_law_t15 : dtL_law_t15.all (dck cL_law) = true := by decide +kernel
theorem dL_law_500 : decode cL_law 500 = .ok (.invokevirtual 69, 3) := dck_get daL_law_t15 0 rfl
theorem dL_law_503 : decode cL_law 503 = .ok (.pop, 1) := dck_get daL_law_t15 1 rfl
theorem dL_law_504 : decode cL_law 504 = .ok (.goto 229, 3) := dck_get daL_law_t15 2 rfl
theorem dL_law_507 : decode cL_law 507 = .ok (.aload_n 1, 1) := dck_get daL_law_t15 3 rfl
theorem dL_law_508 : decode cL_law 508 = .ok (.invokevirtual 70, 3) := dck_get daL_law_t15 4 rfl
theorem dL_law_511 : decode cL_law 511 = .ok (.pop, 1) := dck_get daL_law_t15 5 rfl
theorem dL_law_512 : decode cL_law 512 = .ok (.aload_n 2, 1) := dck_get daL_law_t15 6 rfl
theorem dL_law_513 : decode cL_law 513 = .ok (.invokevirtual 73, 3) := dck_get daL_law_t15 7 rfl
theorem dL_law_516 : decode cL_law 516 = .ok (.pop, 1) := dck_get daL_law_t15 8 rfl
theorem dL_law_517 : decode cL_law 517 = .ok (.goto 216, 3) := dck_get daL_law_t15 9 rfl
theorem dL_law_520 : decode cL_law 520 = .ok (.aload_n 1, 1) := dck_get daL_law_t15 10 rfl
theorem dL_law_521 : decode cL_law 521 = .ok (.invokevirtual 74, 3) := dck_get daL_law_t15 11 rfl
theorem dL_law_524 : decode cL_law 524 = .ok (.pop, 1) := dck_get daL_law_t15 12 rfl
theorem dL_law_525 : decode cL_law 525 = .ok (.aload_n 2, 1) := dck_get daL_law_t15 13 rfl
theorem dL_law_526 : decode cL_law 526 = .ok (.invokevirtual 77, 3) := dck_get daL_law_t15 14 rfl
theorem dL_law_529 : decode cL_law 529 = .ok (.pop, 1) := dck_get daL_law_t15 15 rfl
theorem dL_law_530 : decode cL_law 530 = .ok (.goto 203, 3) := dck_get daL_law_t15 16 rfl
theorem dL_law_533 : decode cL_law 533 = .ok (.aload_n 1, 1) := dck_get daL_law_t15 17 rfl
theorem dL_law_534 : decode cL_law 534 = .ok (.invokevirtual 78, 3) := dck_get daL_law_t15 18 rfl
theorem dL_law_537 : decode cL_law 537 = .ok (.pop, 1) := dck_get daL_law_t15 19 rfl
def dtL_law_t16 : List (Nat × Instr × Nat) := [(538, .aload_n 2, 1), (539, .invokevirtual 81, 3), (542, .pop, 1), (543, .goto 190, 3), (546, .aload_n 1, 1), (547, .invokevirtual 82, 3), (550, .pop, 1), (551, .aload_n 2, 1), (552, .invokevirtual 85, 3), (555, .pop, 1), (556, .goto 177, 3), (559, .aload_n 1, 1), (560, .aload_n 0, 1), (561, .iload_n 3, 1), (562, .iconst 1, 1), (563, .iadd, 1), (564, .iaload, 1), (565, .aload_n 0, 1), (566, .iload_n 3, 1), (567, .iconst 2, 1)]
theorem daL_law_t16 : dtL_law_t16.all (dck cL_law) = true := by decide +kernel
theorem dL_law_538 : decode cL_law 538 = .ok (.aload_n 2, 1) := dck_get daL_law_t16 0 rfl
theorem dL_law_539 : decode cL_law 539 = .ok (.invokevirtual 81, 3) := dck_get daL_law_t16 1 rfl
theorem dL_law_542 : decode cL_law 542 = .ok (.pop, 1) := dck_get daL_law_t16 2 rfl
theorem dL_law_543 : decode cL_law 543 = .ok (.goto 190, 3) := dck_get daL_law_t16 3 rfl
theorem dL_law_546 : decode cL_law 546 = .ok (.aload_n 1, 1) := dck_get daL_law_t16 4 rfl
theorem dL_law_547 : decode cL_law 547 = .ok (.invokevirtual 82, 3) := dck_get daL_law_t16 5 rfl
theorem dL_law_550 : decode cL_law 550 = .ok (.pop, 1) := dck_get daL_law_t16 6 rfl
theorem dL_law_551 : decode cL_law 551 = .ok (.aload_n 2, 1) := dck_get daL_law_t16 7 rfl
theorem dL_law_552 : decode cL_law 552 = .ok (.invokevirtual 85, 3) := dck_get daL_law_t16 8 rfl
theorem dL_law_555 : decode cL_law 555 = .ok (.pop, 1) := dck_get daL_law_t16 9 rfl
theorem dL_law_556 : decode cL_law 556 = .ok (.goto 177, 3) := dck_get daL_law_t16 10 rfl
theorem dL_law_559 : decode cL_law 559 = .ok (.aload_n 1, 1) := dck_get daL_law_t16 11 rfl
theorem dL_law_560 : decode cL_law 560 = .ok (.aload_n 0, 1) := dck_get daL_law_t16 12 rfl
theorem dL_law_561 : decode cL_law 561 = .ok (.iload_n 3, 1) := dck_get daL_law_t16 13 rfl
theorem dL_law_562 : decode cL_law 562 = .ok (.iconst 1, 1) := dck_get daL_law_t16 14 rfl
theorem dL_law_563 : decode cL_law 563 = .ok (.iadd, 1) := dck_get daL_law_t16 15 rfl
theorem dL_law_564 : decode cL_law 564 = .ok (.iaload, 1) := dck_get daL_law_t16 16 rfl
theorem dL_law_565 : decode cL_law 565 = .ok (.aload_n 0, 1) := dck_get daL_law_t16 17 rfl
theorem dL_law_566 : decode cL_law 566 = .ok (.iload_n 3, 1) := dck_get daL_law_t16 18 rfl
theorem dL_law_567 : decode cL_law 567 = .ok (.iconst 2, 1) := dck_get daL_law_t16 19 rfl
def dtL_law_t17 : List (Nat × Instr × Nat) := [(568, .iadd, 1), (569, .iaload, 1), (570, .invokevirtual 86, 3), (573, .pop, 1), (574, .aload_n 2, 1), (575, .aload_n 0, 1), (576, .iload_n 3, 1), (577, .iconst 1, 1), (578, .iadd, 1), (579, .iaload, 1), (580, .aload_n 0, 1), (581, .iload_n 3, 1), (582, .iconst 2, 1), (583, .iadd, 1), (584, .iaload, 1), (585, .invokevirtual 89, 3), (588, .pop, 1), (589, .goto 144, 3), (592, .aload_n 1, 1), (593, .aload_n 0, 1)]
theorem daL_law_t17 : dtL_law_t17.all (dck cL_law) = true := by decide +kernel
theorem dL_law_568 : decode cL_law 568 = .ok (.iadd, 1) := dck_get daL_law_t17 0 rfl
theorem dL_law_569 : decode cL_law 569 = .ok (.iaload, 1) := dck_get daL_law_t17 1 rfl
theorem dL_law_570 : decode cL_law 570 = .ok (.invokevirtual 86, 3) := dck_get daL_law_t17 2 rfl
theorem dL_law_573 : decode cL_law 573 = .ok (.pop, 1) := dck_get daL_law_t17 3 rfl
theorem dL_law_574 : decode cL_law 574 = .ok (.aload_n 2, 1) := dck_get daL_law_t17 4 rfl
theorem dL_law_575 : decode cL_law 575 = .ok (.aload_n 0, 1) := dck_get daL_law_t17 5 rfl
theorem dL_law_576 : decode cL_law 576 = .ok (.iload_n 3, 1) := dck_get daL_law_t17 6 rfl
theorem dL_law_577 : decode cL_law 577 = .ok (.iconst 1, 1) := dck_get daL_law_t17 7 rfl
theorem dL_law_578 : decode cL_law 578 = .ok (.iadd, 1) := dck_get daL_law_t17 8 rfl
theorem dL_law_579 : decode cL_law 579 = .ok (.iaload, 1) := dck_get daL_law_t17 9 rfl
theorem dL_law_580 : decode cL_law 580 = .ok (.aload_n 0, 1) := dck_get daL_law_t17 10 rfl
theorem dL_law_581 : decode cL_law 581 = .ok (.iload_n 3, 1) := dck_get daL_law_t17 11 rfl
theorem dL_law_582 : decode cL_law 582 = .ok (.iconst 2, 1) := dck_get daL_law_t17 12 rfl
theorem dL_law_583 : decode cL_law 583 = .ok (.iadd, 1) := dck_get daL_law_t17 13 rfl
theorem dL_law_584 : decode cL_law 584 = .ok (.iaload, 1) := dck_get daL_law_t17 14 rfl
theorem dL_law_585 : decode cL_law 585 = .ok (.invokevirtual 89, 3) := dck_get daL_law_t17 15 rfl
theorem dL_law_588 : decode cL_law 588 = .ok (.pop, 1) := dck_get daL_law_t17 16 rfl
theorem dL_law_589 : decode cL_law 589 = .ok (.goto 144, 3) := dck_get daL_law_t17 17 rfl
theorem dL_law_592 : decode cL_law 592 = .ok (.aload_n 1, 1) := dck_get daL_law_t17 18 rfl
theorem dL_law_593 : decode cL_law 593 = .ok (.aload_n 0, 1) := dck_get daL_law_t17 19 rfl
def dtL_law_t18 : List (Nat × Instr × Nat) := [(594, .iload_n 3, 1), (595, .iconst 1, 1), (596, .iadd, 1), (597, .iaload, 1), (598, .invokevirtual 90, 3), (601, .pop, 1), (602, .aload_n 2, 1), (603, .aload_n 0, 1), (604, .iload_n 3, 1), (605, .iconst 1, 1), (606, .iadd, 1), (607, .iaload, 1), (608, .invokevirtual 93, 3), (611, .pop, 1), (612, .goto 121, 3), (615, .aload_n 1, 1), (616, .aload_n 0, 1), (617, .iload_n 3, 1), (618, .iconst 1, 1), (619, .iadd, 1)]
theorem daL_law_t18 : dtL_law_t18.all (dck cL_law) = true := by decide +kernel
theorem dL_law_594 : decode cL_law 594 = .ok (.iload_n 3, 1) := dck_get daL_law_t18 0 rfl
theorem dL_law_595 : decode cL_law 595 = .ok (.iconst 1, 1) := dck_get daL_law_t18 1 rfl
theorem dL_law_596 : decode cL_law 596 = .ok (.iadd, 1) := dck_get daL_law_t18 2 rfl
theorem dL_law_597 : decode cL_law 597 = .ok (.iaload, 1) := dck_get daL_law_t18 3 rfl
theorem dL_law_598 : decode cL_law 598 = .ok (.invokevirtual 90, 3) := dck_get daL_law_t18 4 rfl
theorem dL_law_601 : decode cL_law 601 = .ok (.pop, 1) := dck_get daL_law_t18 5 rfl
theorem dL_law_602 : decode cL_law 602 = .ok (.aload_n 2, 1) := dck_get daL_law_t18 6 rfl
theorem dL_law_603 : decode cL_law 603 = .ok (.aload_n 0, 1) := dck_get daL_law_t18 7 rfl
theorem dL_law_604 : decode cL_law 604 = .ok (.iload_n 3, 1) := dck_get daL_law_t18 8 rfl
theorem dL_law_605 : decode cL_law 605 = .ok (.iconst 1, 1) := dck_get daL_law_t18 9 rfl
theorem dL_law_606 : decode cL_law 606 = .ok (.iadd, 1) := dck_get daL_law_t18 10 rfl
theorem dL_law_607 : decode cL_law 607 = .ok (.iaload, 1) := dck_get daL_law_t18 11 rfl
theorem dL_law_608 : decode cL_law 608 = .ok (.invokevirtual 93, 3) := dck_get daL_law_t18 12 rfl
theorem dL_law_611 : decode cL_law 611 = .ok (.pop, 1) := dck_get daL_law_t18 13 rfl
theorem dL_law_612 : decode cL_law 612 = .ok (.goto 121, 3) := dck_get daL_law_t18 14 rfl
theorem dL_law_615 : decode cL_law 615 = .ok (.aload_n 1, 1) := dck_get daL_law_t18 15 rfl
theorem dL_law_616 : decode cL_law 616 = .ok (.aload_n 0, 1) := dck_get daL_law_t18 16 rfl
theorem dL_law_617 : decode cL_law 617 = .ok (.iload_n 3, 1) := dck_get daL_law_t18 17 rfl
theorem dL_law_618 : decode cL_law 618 = .ok (.iconst 1, 1) := dck_get daL_law_t18 18 rfl
theorem dL_law_619 : decode cL_law 619 = .ok (.iadd, 1) := dck_get daL_law_t18 19 rfl
def dtL_law_t19 : List (Nat × Instr × Nat) := [(620, .iaload, 1), (621, .invokevirtual 94, 3), (624, .pop, 1), (625, .aload_n 2, 1), (626, .aload_n 0, 1), (627, .iload_n 3, 1), (628, .iconst 1, 1), (629, .iadd, 1), (630, .iaload, 1), (631, .invokevirtual 97, 3), (634, .pop, 1), (635, .goto 98, 3), (638, .aload_n 1, 1), (639, .invokevirtual 98, 3), (642, .pop, 1), (643, .aload_n 2, 1), (644, .invokevirtual 101, 3), (647, .pop, 1), (648, .goto 85, 3), (651, .aload_n 1, 1)]
theorem daL_law_t19 : dtL_law_t19.all (dck cL_law) = true := by decide +kernel
theorem dL_law_620 : decode cL_law 620 = .ok (.iaload, 1) := dck_get daL_law_t19 0 rfl
theorem dL_law_621 : decode cL_law 621 = .ok (.invokevirtual 94, 3) := dck_get daL_law_t19 1 rfl
theorem dL_law_624 : decode cL_law 624 = .ok (.pop, 1) := dck_get daL_law_t19 2 rfl
theorem dL_law_625 : decode cL_law 625 = .ok (.aload_n 2, 1) := dck_get daL_law_t19 3 rfl
theorem dL_law_626 : decode cL_law 626 = .ok (.aload_n 0, 1) := dck_get daL_law_t19 4 rfl
theorem dL_law_627 : decode cL_law 627 = .ok (.iload_n 3, 1) := dck_get daL_law_t19 5 rfl
theorem dL_law_628 : decode cL_law 628 = .ok (.iconst 1, 1) := dck_get daL_law_t19 6 rfl
theorem dL_law_629 : decode cL_law 629 = .ok (.iadd, 1) := dck_get daL_law_t19 7 rfl
theorem dL_law_630 : decode cL_law 630 = .ok (.iaload, 1) := dck_get daL_law_t19 8 rfl
theorem dL_law_631 : decode cL_law 631 = .ok (.invokevirtual 97, 3) := dck_get daL_law_t19 9 rfl
theorem dL_law_634 : decode cL_law 634 = .ok (.pop, 1) := dck_get daL_law_t19 10 rfl
theorem dL_law_635 : decode cL_law 635 = .ok (.goto 98, 3) := dck_get daL_law_t19 11 rfl
theorem dL_law_638 : decode cL_law 638 = .ok (.aload_n 1, 1) := dck_get daL_law_t19 12 rfl
theorem dL_law_639 : decode cL_law 639 = .ok (.invokevirtual 98, 3) := dck_get daL_law_t19 13 rfl
theorem dL_law_642 : decode cL_law 642 = .ok (.pop, 1) := dck_get daL_law_t19 14 rfl
theorem dL_law_643 : decode cL_law 643 = .ok (.aload_n 2, 1) := dck_get daL_law_t19 15 rfl
theorem dL_law_644 : decode cL_law 644 = .ok (.invokevirtual 101, 3) := dck_get daL_law_t19 16 rfl
theorem dL_law_647 : decode cL_law 647 = .ok (.pop, 1) := dck_get daL_law_t19 17 rfl
theorem dL_law_648 : decode cL_law 648 = .ok (.goto 85, 3) := dck_get daL_law_t19 18 rfl
theorem dL_law_651 : decode cL_law 651 = .ok (.aload_n 1, 1) := dck_get daL_law_t19 19 rfl
def dtL_law_t20 : List (Nat × Instr × Nat) := [(652, .aload_n 0, 1), (653, .iload_n 3, 1), (654, .iconst 1, 1), (655, .iadd, 1), (656, .iaload, 1), (657, .aload_n 0, 1), (658, .iload_n 3, 1), (659, .iconst 2, 1), (660, .iadd, 1), (661, .iaload, 1), (662, .invokevirtual 102, 3), (665, .pop, 1), (666, .aload_n 2, 1), (667, .aload_n 0, 1), (668, .iload_n 3, 1), (669, .iconst 1, 1), (670, .iadd, 1), (671, .iaload, 1), (672, .aload_n 0, 1), (673, .iload_n 3, 1)]
theorem daL_law_t20 : dtL_law_t20.all (dck cL_law) = true := by decide +kernel
theorem dL_law_652 : decode cL_law 652 = .ok (.aload_n 0, 1) := dck_get daL_law_t20 0 rfl
theorem dL_law_653 : decode cL_law 653 = .ok (.iload_n 3, 1) := dck_get daL_law_t20 1 rfl
theorem dL_law_654 : decode cL_law 654 = .ok (.iconst 1, 1) := dck_get daL_law_t20 2 rfl
theorem dL_law_655 : decode cL_law 655 = .ok (.iadd, 1) := dck_get daL_law_t20 3 rfl
theorem dL_law_656 : decode cL_law 656 = .ok (.iaload, 1) := dck_get daL_law_t20 4 rfl
theorem dL_law_657 : decode cL_law 657 = .ok (.aload_n 0, 1) := dck_get daL_law_t20 5 rfl
theorem dL_law_658 : decode cL_law 658 = .ok (.iload_n 3, 1) := dck_get daL_law_t20 6 rfl
theorem dL_law_659 : decode cL_law 659 = .ok (.iconst 2, 1) := dck_get daL_law_t20 7 rfl
theorem dL_law_660 : decode cL_law 660 = .ok (.iadd, 1) := dck_get daL_law_t20 8 rfl
theorem dL_law_661 : decode cL_law 661 = .ok (.iaload, 1) := dck_get daL_law_t20 9 rfl
theorem dL_law_662 : decode cL_law 662 = .ok (.invokevirtual 102, 3) := dck_get daL_law_t20 10 rfl
theorem dL_law_665 : decode cL_law 665 = .ok (.pop, 1) := dck_get daL_law_t20 11 rfl
theorem dL_law_666 : decode cL_law 666 = .ok (.aload_n 2, 1) := dck_get daL_law_t20 12 rfl
theorem dL_law_667 : decode cL_law 667 = .ok (.aload_n 0, 1) := dck_get daL_law_t20 13 rfl
theorem dL_law_668 : decode cL_law 668 = .ok (.iload_n 3, 1) := dck_get daL_law_t20 14 rfl
theorem dL_law_669 : decode cL_law 669 = .ok (.iconst 1, 1) := dck_get daL_law_t20 15 rfl
theorem dL_law_670 : decode cL_law 670 = .ok (.iadd, 1) := dck_get daL_law_t20 16 rfl
theorem dL_law_671 : decode cL_law 671 = .ok (.iaload, 1) := dck_get daL_law_t20 17 rfl
theorem dL_law_672 : decode cL_law 672 = .ok (.aload_n 0, 1) := dck_get daL_law_t20 18 rfl
theorem dL_law_673 : decode cL_law 673 = .ok (.iload_n 3, 1) := dck_get daL_law_t20 19 rfl
def dtL_law_t21 : List (Nat × Instr × Nat) := [(674, .iconst 2, 1), (675, .iadd, 1), (676, .iaload, 1), (677, .invokevirtual 105, 3), (680, .pop, 1), (681, .goto 52, 3), (684, .aload_n 1, 1), (685, .invokevirtual 106, 3), (688, .pop, 1), (689, .aload_n 2, 1), (690, .invokevirtual 109, 3), (693, .pop, 1), (694, .goto 39, 3), (697, .aload_n 1, 1), (698, .invokevirtual 110, 3), (701, .pop, 1), (702, .aload_n 2, 1), (703, .invokevirtual 113, 3), (706, .pop, 1), (707, .goto 26, 3)]
theorem daL_law_t21 : dtL_law_t21.all (dck cL_law) = true := by decide +kernel
theorem dL_law_674 : decode cL_law 674 = .ok (.iconst 2, 1) := dck_get daL_law_t21 0 rfl
theorem dL_law_675 : decode cL_law 675 = .ok (.iadd, 1) := dck_get daL_law_t21 1 rfl
theorem dL_law_676 : decode cL_law 676 = .ok (.iaload, 1) := dck_get daL_law_t21 2 rfl
theorem dL_law_677 : decode cL_law 677 = .ok (.invokevirtual 105, 3) := dck_get daL_law_t21 3 rfl
theorem dL_law_680 : decode cL_law 680 = .ok (.pop, 1) := dck_get daL_law_t21 4 rfl
theorem dL_law_681 : decode cL_law 681 = .ok (.goto 52, 3) := dck_get daL_law_t21 5 rfl
theorem dL_law_684 : decode cL_law 684 = .ok (.aload_n 1, 1) := dck_get daL_law_t21 6 rfl
theorem dL_law_685 : decode cL_law 685 = .ok (.invokevirtual 106, 3) := dck_get daL_law_t21 7 rfl
theorem dL_law_688 : decode cL_law 688 = .ok (.pop, 1) := dck_get daL_law_t21 8 rfl
theorem dL_law_689 : decode cL_law 689 = .ok (.aload_n 2, 1) := dck_get daL_law_t21 9 rfl
theorem dL_law_690 : decode cL_law 690 = .ok (.invokevirtual 109, 3) := dck_get daL_law_t21 10 rfl
theorem dL_law_693 : decode cL_law 693 = .ok (.pop, 1) := dck_get daL_law_t21 11 rfl
theorem dL_law_694 : decode cL_law 694 = .ok (.goto 39, 3) := dck_get daL_law_t21 12 rfl
theorem dL_law_697 : decode cL_law 697 = .ok (.aload_n 1, 1) := dck_get daL_law_t21 13 rfl
theorem dL_law_698 : decode cL_law 698 = .ok (.invokevirtual 110, 3) := dck_get daL_law_t21 14 rfl
theorem dL_law_701 : decode cL_law 701 = .ok (.pop, 1) := dck_get daL_law_t21 15 rfl
theorem dL_law_702 : decode cL_law 702 = .ok (.aload_n 2, 1) := dck_get daL_law_t21 16 rfl
theorem dL_law_703 : decode cL_law 703 = .ok (.invokevirtual 113, 3) := dck_get daL_law_t21 17 rfl
theorem dL_law_706 : decode cL_law 706 = .ok (.pop, 1) := dck_get daL_law_t21 18 rfl
theorem dL_law_707 : decode cL_law 707 = .ok (.goto 26, 3) := dck_get daL_law_t21 19 rfl
def dtL_law_t22 : List (Nat × Instr × Nat) := [(710, .aload_n 1, 1), (711, .aload_n 0, 1), (712, .iload_n 3, 1), (713, .iconst 1, 1), (714, .iadd, 1), (715, .iaload, 1), (716, .invokevirtual 114, 3), (719, .aload_n 2, 1), (720, .aload_n 0, 1), (721, .iload_n 3, 1), (722, .iconst 1, 1), (723, .iadd, 1), (724, .iaload, 1), (725, .invokevirtual 117, 3), (728, .if_icmp .eq 5, 3), (731, .iconst 0, 1), (732, .ireturn, 1), (733, .iinc 3 5, 3), (736, .goto (-718), 3), (739, .iconst 1, 1)]
theorem daL_law_t22 : dtL_law_t22.all (dck cL_law) = true := by decide +kernel
theorem dL_law_710 : decode cL_law 710 = .ok (.aload_n 1, 1) := dck_get daL_law_t22 0 rfl
theorem dL_law_711 : decode cL_law 711 = .ok (.aload_n 0, 1) := dck_get daL_law_t22 1 rfl
theorem dL_law_712 : decode cL_law 712 = .ok (.iload_n 3, 1) := dck_get daL_law_t22 2 rfl
theorem dL_law_713 : decode cL_law 713 = .ok (.iconst 1, 1) := dck_get daL_law_t22 3 rfl
theorem dL_law_714 : decode cL_law 714 = .ok (.iadd, 1) := dck_get daL_law_t22 4 rfl
theorem dL_law_715 : decode cL_law 715 = .ok (.iaload, 1) := dck_get daL_law_t22 5 rfl
theorem dL_law_716 : decode cL_law 716 = .ok (.invokevirtual 114, 3) := dck_get daL_law_t22 6 rfl
theorem dL_law_719 : decode cL_law 719 = .ok (.aload_n 2, 1) := dck_get daL_law_t22 7 rfl
theorem dL_law_720 : decode cL_law 720 = .ok (.aload_n 0, 1) := dck_get daL_law_t22 8 rfl
theorem dL_law_721 : decode cL_law 721 = .ok (.iload_n 3, 1) := dck_get daL_law_t22 9 rfl
theorem dL_law_722 : decode cL_law 722 = .ok (.iconst 1, 1) := dck_get daL_law_t22 10 rfl
theorem dL_law_723 : decode cL_law 723 = .ok (.iadd, 1) := dck_get daL_law_t22 11 rfl
theorem dL_law_724 : decode cL_law 724 = .ok (.iaload, 1) := dck_get daL_law_t22 12 rfl
theorem dL_law_725 : decode cL_law 725 = .ok (.invokevirtual 117, 3) := dck_get daL_law_t22 13 rfl
theorem dL_law_728 : decode cL_law 728 = .ok (.if_icmp .eq 5, 3) := dck_get daL_law_t22 14 rfl
theorem dL_law_731 : decode cL_law 731 = .ok (.iconst 0, 1) := dck_get daL_law_t22 15 rfl
theorem dL_law_732 : decode cL_law 732 = .ok (.ireturn, 1) := dck_get daL_law_t22 16 rfl
theorem dL_law_733 : decode cL_law 733 = .ok (.iinc 3 5, 3) := dck_get daL_law_t22 17 rfl
theorem dL_law_736 : decode cL_law 736 = .ok (.goto (-718), 3) := dck_get daL_law_t22 18 rfl
theorem dL_law_739 : decode cL_law 739 = .ok (.iconst 1, 1) := dck_get daL_law_t22 19 rfl
def dtL_law_t23 : List (Nat × Instr × Nat) := [(740, .ireturn, 1)]
theorem daL_law_t23 : dtL_law_t23.all (dck cL_law) = true := by decide +kernel
theorem dL_law_740 : decode cL_law 740 = .ok (.ireturn, 1) := dck_get daL_law_t23 0 rfl
abbrev vwCl : List vw_C := [(RX1, TX1, 3), (RX2, TX2, 2), (RX3, TX3, 7), (RX4, TX4, 9), (RX5, TX5, 24)]
