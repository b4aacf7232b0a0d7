def dtL_law_t0 : List (Nat × Instr × Nat) := [(0, .new 7, 3), (3, .dup, 1), (4, .invokespecial 9, 3), (7, .astore_n 1, 1), (8, .new 10, 3), (11, .dup, 1), (12, .invokespecial 12, 3), (15, .astore_n 2, 1), (16, .iconst 0, 1), (17, .istore_n 3, 1), (18, .iload_n 3, 1), (19, .aload_n 0, 1), (20, .arraylength, 1), (21, .iconst 5, 1), (22, .isub, 1), (23, .if_icmp .gt 717, 3), (26, .aload_n 0, 1), (27, .iload_n 3, 1), (28, .iaload, 1), (29, .bipush 31, 2), (31, .iand, 1), (32, .tableswitch 702 0 24 #[116, 139, 152, 195, 228, 261, 284, 307, 361, 374, 417, 430, 453, 476, 489, 502, 515, 528, 561, 584, 607, 620, 653, 666, 679], 116), (148, .aload_n 1, 1), (149, .aload_n 0, 1), (150, .iload_n 3, 1), (151, .iconst 1, 1), (152, .iadd, 1), (153, .iaload, 1), (154, .invokevirtual 13, 3), (157, .pop, 1), (158, .aload_n 2, 1), (159, .aload_n 0, 1), (160, .iload_n 3, 1), (161, .iconst 1, 1), (162, .iadd, 1), (163, .iaload, 1), (164, .invokevirtual 17, 3), (167, .pop, 1), (168, .goto 566, 3), (171, .aload_n 1, 1), (172, .invokevirtual 18, 3), (175, .pop, 1), (176, .aload_n 2, 1), (177, .invokevirtual 22, 3), (180, .pop, 1), (181, .goto 553, 3), (184, .aload_n 1, 1), (185, .aload_n 0, 1), (186, .iload_n 3, 1), (187, .iconst 1, 1), (188, .iadd, 1), (189, .iaload, 1), (190, .aload_n 0, 1), (191, .iload_n 3, 1), (192, .iconst 2, 1), (193, .iadd, 1), (194, .iaload, 1), (195, .aload_n 0, 1), (196, .iload_n 3, 1), (197, .iconst 3, 1)]
theorem daL_law_t0 : dtL_law_t0.all (dck cL_law) = true := by decide +kernel
theorem dL_law_0 : decode cL_law 0 = .ok (.new 7, 3) := dck_get daL_law_t0 0 rfl
theorem dL_law_3 : decode cL_law 3 = .ok (.dup, 1) := dck_get daL_law_t0 1 rfl
theorem dL_law_4 : decode cL_law 4 = .ok (.invokespecial 9, 3) := dck_get daL_law_t0 2 rfl
theorem dL_law_7 : decode cL_law 7 = .ok (.astore_n 1, 1) := dck_get daL_law_t0 3 rfl
theorem dL_law_8 : decode cL_law 8 = .ok (.new 10, 3) := dck_get daL_law_t0 4 rfl
theorem dL_law_11 : decode cL_law 11 = .ok (.dup, 1) := dck_get daL_law_t0 5 rfl
theorem dL_law_12 : decode cL_law 12 = .ok (.invokespecial 12, 3) := dck_get daL_law_t0 6 rfl
theorem dL_law_15 : decode cL_law 15 = .ok (.astore_n 2, 1) := dck_get daL_law_t0 7 rfl
theorem dL_law_16 : decode cL_law 16 = .ok (.iconst 0, 1) := dck_get daL_law_t0 8 rfl
theorem dL_law_17 : decode cL_law 17 = .ok (.istore_n 3, 1) := dck_get daL_law_t0 9 rfl
theorem dL_law_18 : decode cL_law 18 = .ok (.iload_n 3, 1) := dck_get daL_law_t0 10 rfl
theorem dL_law_19 : decode cL_law 19 = .ok (.aload_n 0, 1) := dck_get daL_law_t0 11 rfl
theorem dL_law_20 : decode cL_law 20 = .ok (.arraylength, 1) := dck_get daL_law_t0 12 rfl
theorem dL_law_21 : decode cL_law 21 = .ok (.iconst 5, 1) := dck_get daL_law_t0 13 rfl
theorem dL_law_22 : decode cL_law 22 = .ok (.isub, 1) := dck_get daL_law_t0 14 rfl
theorem dL_law_23 : decode cL_law 23 = .ok (.if_icmp .gt 717, 3) := dck_get daL_law_t0 15 rfl
theorem dL_law_26 : decode cL_law 26 = .ok (.aload_n 0, 1) := dck_get daL_law_t0 16 rfl
theorem dL_law_27 : decode cL_law 27 = .ok (.iload_n 3, 1) := dck_get daL_law_t0 17 rfl
theorem dL_law_28 : decode cL_law 28 = .ok (.iaload, 1) := dck_get daL_law_t0 18 rfl
theorem dL_law_29 : decode cL_law 29 = .ok (.bipush 31, 2) := dck_get daL_law_t0 19 rfl
theorem dL_law_31 : decode cL_law 31 = .ok (.iand, 1) := dck_get daL_law_t0 20 rfl
theorem dL_law_32 : decode cL_law 32 = .ok (.tableswitch 702 0 24 #[116, 139, 152, 195, 228, 261, 284, 307, 361, 374, 417, 430, 453, 476, 489, 502, 515, 528, 561, 584, 607, 620, 653, 666, 679], 116) := dck_get daL_law_t0 21 rfl
theorem dL_law_148 : decode cL_law 148 = .ok (.aload_n 1, 1) := dck_get daL_law_t0 22 rfl
theorem dL_law_149 : decode cL_law 149 = .ok (.aload_n 0, 1) := dck_get daL_law_t0 23 rfl
theorem dL_law_150 : decode cL_law 150 = .ok (.iload_n 3, 1) := dck_get daL_law_t0 24 rfl
theorem dL_law_151 : decode cL_law 151 = .ok (.iconst 1, 1) := dck_get daL_law_t0 25 rfl
theorem dL_law_152 : decode cL_law 152 = .ok (.iadd, 1) := dck_get daL_law_t0 26 rfl
theorem dL_law_153 : decode cL_law 153 = .ok (.iaload, 1) := dck_get daL_law_t0 27 rfl
theorem dL_law_154 : decode cL_law 154 = .ok (.invokevirtual 13, 3) := dck_get daL_law_t0 28 rfl
theorem dL_law_157 : decode cL_law 157 = .ok (.pop, 1) := dck_get daL_law_t0 29 rfl
theorem dL_law_158 : decode cL_law 158 = .ok (.aload_n 2, 1) := dck_get daL_law_t0 30 rfl
theorem dL_law_159 : decode cL_law 159 = .ok (.aload_n 0, 1) := dck_get daL_law_t0 31 rfl
theorem dL_law_160 : decode cL_law 160 = .ok (.iload_n 3, 1) := dck_get daL_law_t0 32 rfl
theorem dL_law_161 : decode cL_law 161 = .ok (.iconst 1, 1) := dck_get daL_law_t0 33 rfl
theorem dL_law_162 : decode cL_law 162 = .ok (.iadd, 1) := dck_get daL_law_t0 34 rfl
theorem dL_law_163 : decode cL_law 163 = .ok (.iaload, 1) := dck_get daL_law_t0 35 rfl
theorem dL_law_164 : decode cL_law 164 = .ok (.invokevirtual 17, 3) := dck_get daL_law_t0 36 rfl
theorem dL_law_167 : decode cL_law 167 = .ok (.pop, 1) := dck_get daL_law_t0 37 rfl
theorem dL_law_168 : decode cL_law 168 = .ok (.goto 566, 3) := dck_get daL_law_t0 38 rfl
theorem dL_law_171 : decode cL_law 171 = .ok (.aload_n 1, 1) := dck_get daL_law_t0 39 rfl
theorem dL_law_172 : decode cL_law 172 = .ok (.invokevirtual 18, 3) := dck_get daL_law_t0 40 rfl
theorem dL_law_175 : decode cL_law 175 = .ok (.pop, 1) := dck_get daL_law_t0 41 rfl
theorem dL_law_176 : decode cL_law 176 = .ok (.aload_n 2, 1) := dck_get daL_law_t0 42 rfl
theorem dL_law_177 : decode cL_law 177 = .ok (.invokevirtual 22, 3) := dck_get daL_law_t0 43 rfl
theorem dL_law_180 : decode cL_law 180 = .ok (.pop, 1) := dck_get daL_law_t0 44 rfl
theorem dL_law_181 : decode cL_law 181 = .ok (.goto 553, 3) := dck_get daL_law_t0 45 rfl
theorem dL_law_184 : decode cL_law 184 = .ok (.aload_n 1, 1) := dck_get daL_law_t0 46 rfl
theorem dL_law_185 : decode cL_law 185 = .ok (.aload_n 0, 1) := dck_get daL_law_t0 47 rfl
theorem dL_law_186 : decode cL_law 186 = .ok (.iload_n 3, 1) := dck_get daL_law_t0 48 rfl
theorem dL_law_187 : decode cL_law 187 = .ok (.iconst 1, 1) := dck_get daL_law_t0 49 rfl
theorem dL_law_188 : decode cL_law 188 = .ok (.iadd, 1) := dck_get daL_law_t0 50 rfl
theorem dL_law_189 : decode cL_law 189 = .ok (.iaload, 1) := dck_get daL_law_t0 51 rfl
theorem dL_law_190 : decode cL_law 190 = .ok (.aload_n 0, 1) := dck_get daL_law_t0 52 rfl
theorem dL_law_191 : decode cL_law 191 = .ok (.iload_n 3, 1) := dck_get daL_law_t0 53 rfl
theorem dL_law_192 : decode cL_law 192 = .ok (.iconst 2, 1) := dck_get daL_law_t0 54 rfl
theorem dL_law_193 : decode cL_law 193 = .ok (.iadd, 1) := dck_get daL_law_t0 55 rfl
theorem dL_law_194 : decode cL_law 194 = .ok (.iaload, 1) := dck_get daL_law_t0 56 rfl
theorem dL_law_195 : decode cL_law 195 = .ok (.aload_n 0, 1) := dck_get daL_law_t0 57 rfl
theorem dL_law_196 : decode cL_law 196 = .ok (.iload_n 3, 1) := dck_get daL_law_t0 58 rfl
theorem dL_law_197 : decode cL_law 197 = .ok (.iconst 3, 1) := dck_get daL_law_t0 59 rfl
def dtL_law_t1 : List (Nat × Instr × Nat) := [(198, .iadd, 1), (199, .iaload, 1), (200, .invokevirtual 23, 3), (203, .pop, 1), (204, .aload_n 2, 1), (205, .aload_n 0, 1), (206, .iload_n 3, 1), (207, .iconst 1, 1), (208, .iadd, 1), (209, .iaload, 1), (210, .aload_n 0, 1), (211, .iload_n 3, 1), (212, .iconst 2, 1), (213, .iadd, 1), (214, .iaload, 1), (215, .aload_n 0, 1), (216, .iload_n 3, 1), (217, .iconst 3, 1), (218, .iadd, 1), (219, .iaload, 1), (220, .invokevirtual 27, 3), (223, .pop, 1), (224, .goto 510, 3), (227, .aload_n 1, 1), (228, .aload_n 0, 1), (229, .iload_n 3, 1), (230, .iconst 1, 1), (231, .iadd, 1), (232, .iaload, 1), (233, .aload_n 0, 1), (234, .iload_n 3, 1), (235, .iconst 2, 1), (236, .iadd, 1), (237, .iaload, 1), (238, .invokevirtual 28, 3), (241, .pop, 1), (242, .aload_n 2, 1), (243, .aload_n 0, 1), (244, .iload_n 3, 1), (245, .iconst 1, 1), (246, .iadd, 1), (247, .iaload, 1), (248, .aload_n 0, 1), (249, .iload_n 3, 1), (250, .iconst 2, 1), (251, .iadd, 1), (252, .iaload, 1), (253, .invokevirtual 32, 3), (256, .pop, 1), (257, .goto 477, 3), (260, .aload_n 1, 1), (261, .aload_n 0, 1), (262, .iload_n 3, 1), (263, .iconst 1, 1), (264, .iadd, 1), (265, .iaload, 1), (266, .aload_n 0, 1), (267, .iload_n 3, 1), (268, .iconst 2, 1), (269, .iadd, 1)]
theorem daL_law_t1 : dtL_law_t1.all (dck cL_law) = true := by decide +kernel
theorem dL_law_198 : decode cL_law 198 = .ok (.iadd, 1) := dck_get daL_law_t1 0 rfl
theorem dL_law_199 : decode cL_law 199 = .ok (.iaload, 1) := dck_get daL_law_t1 1 rfl
theorem dL_law_200 : decode cL_law 200 = .ok (.invokevirtual 23, 3) := dck_get daL_law_t1 2 rfl
theorem dL_law_203 : decode cL_law 203 = .ok (.pop, 1) := dck_get daL_law_t1 3 rfl
theorem dL_law_204 : decode cL_law 204 = .ok (.aload_n 2, 1) := dck_get daL_law_t1 4 rfl
theorem dL_law_205 : decode cL_law 205 = .ok (.aload_n 0, 1) := dck_get daL_law_t1 5 rfl
theorem dL_law_206 : decode cL_law 206 = .ok (.iload_n 3, 1) := dck_get daL_law_t1 6 rfl
theorem dL_law_207 : decode cL_law 207 = .ok (.iconst 1, 1) := dck_get daL_law_t1 7 rfl
theorem dL_law_208 : decode cL_law 208 = .ok (.iadd, 1) := dck_get daL_law_t1 8 rfl
theorem dL_law_209 : decode cL_law 209 = .ok (.iaload, 1) := dck_get daL_law_t1 9 rfl
theorem dL_law_210 : decode cL_law 210 = .ok (.aload_n 0, 1) := dck_get daL_law_t1 10 rfl
theorem dL_law_211 : decode cL_law 211 = .ok (.iload_n 3, 1) := dck_get daL_law_t1 11 rfl
theorem dL_law_212 : decode cL_law 212 = .ok (.iconst 2, 1) := dck_get daL_law_t1 12 rfl
theorem dL_law_213 : decode cL_law 213 = .ok (.iadd, 1) := dck_get daL_law_t1 13 rfl
theorem dL_law_214 : decode cL_law 214 = .ok (.iaload, 1) := dck_get daL_law_t1 14 rfl
theorem dL_law_215 : decode cL_law 215 = .ok (.aload_n 0, 1) := dck_get daL_law_t1 15 rfl
theorem dL_law_216 : decode cL_law 216 = .ok (.iload_n 3, 1) := dck_get daL_law_t1 16 rfl
theorem dL_law_217 : decode cL_law 217 = .ok (.iconst 3, 1) := dck_get daL_law_t1 17 rfl
theorem dL_law_218 : decode cL_law 218 = .ok (.iadd, 1) := dck_get daL_law_t1 18 rfl
theorem dL_law_219 : decode cL_law 219 = .ok (.iaload, 1) := dck_get daL_law_t1 19 rfl
theorem dL_law_220 : decode cL_law 220 = .ok (.invokevirtual 27, 3) := dck_get daL_law_t1 20 rfl
theorem dL_law_223 : decode cL_law 223 = .ok (.pop, 1) := dck_get daL_law_t1 21 rfl
theorem dL_law_224 : decode cL_law 224 = .ok (.goto 510, 3) := dck_get daL_law_t1 22 rfl
theorem dL_law_227 : decode cL_law 227 = .ok (.aload_n 1, 1) := dck_get daL_law_t1 23 rfl
theorem dL_law_228 : decode cL_law 228 = .ok (.aload_n 0, 1) := dck_get daL_law_t1 24 rfl
theorem dL_law_229 : decode cL_law 229 = .ok (.iload_n 3, 1) := dck_get daL_law_t1 25 rfl
theorem dL_law_230 : decode cL_law 230 = .ok (.iconst 1, 1) := dck_get daL_law_t1 26 rfl
theorem dL_law_231 : decode cL_law 231 = .ok (.iadd, 1) := dck_get daL_law_t1 27 rfl
theorem dL_law_232 : decode cL_law 232 = .ok (.iaload, 1) := dck_get daL_law_t1 28 rfl
theorem dL_law_233 : decode cL_law 233 = .ok (.aload_n 0, 1) := dck_get daL_law_t1 29 rfl
theorem dL_law_234 : decode cL_law 234 = .ok (.iload_n 3, 1) := dck_get daL_law_t1 30 rfl
theorem dL_law_235 : decode cL_law 235 = .ok (.iconst 2, 1) := dck_get daL_law_t1 31 rfl
theorem dL_law_236 : decode cL_law 236 = .ok (.iadd, 1) := dck_get daL_law_t1 32 rfl
theorem dL_law_237 : decode cL_law 237 = .ok (.iaload, 1) := dck_get daL_law_t1 33 rfl
theorem dL_law_238 : decode cL_law 238 = .ok (.invokevirtual 28, 3) := dck_get daL_law_t1 34 rfl
theorem dL_law_241 : decode cL_law 241 = .ok (.pop, 1) := dck_get daL_law_t1 35 rfl
theorem dL_law_242 : decode cL_law 242 = .ok (.aload_n 2, 1) := dck_get daL_law_t1 36 rfl
theorem dL_law_243 : decode cL_law 243 = .ok (.aload_n 0, 1) := dck_get daL_law_t1 37 rfl
theorem dL_law_244 : decode cL_law 244 = .ok (.iload_n 3, 1) := dck_get daL_law_t1 38 rfl
theorem dL_law_245 : decode cL_law 245 = .ok (.iconst 1, 1) := dck_get daL_law_t1 39 rfl
theorem dL_law_246 : decode cL_law 246 = .ok (.iadd, 1) := dck_get daL_law_t1 40 rfl
theorem dL_law_247 : decode cL_law 247 = .ok (.iaload, 1) := dck_get daL_law_t1 41 rfl
theorem dL_law_248 : decode cL_law 248 = .ok (.aload_n 0, 1) := dck_get daL_law_t1 42 rfl
theorem dL_law_249 : decode cL_law 249 = .ok (.iload_n 3, 1) := dck_get daL_law_t1 43 rfl
theorem dL_law_250 : decode cL_law 250 = .ok (.iconst 2, 1) := dck_get daL_law_t1 44 rfl
theorem dL_law_251 : decode cL_law 251 = .ok (.iadd, 1) := dck_get daL_law_t1 45 rfl
theorem dL_law_252 : decode cL_law 252 = .ok (.iaload, 1) := dck_get daL_law_t1 46 rfl
theorem dL_law_253 : decode cL_law 253 = .ok (.invokevirtual 32, 3) := dck_get daL_law_t1 47 rfl
theorem dL_law_256 : decode cL_law 256 = .ok (.pop, 1) := dck_get daL_law_t1 48 rfl
theorem dL_law_257 : decode cL_law 257 = .ok (.goto 477, 3) := dck_get daL_law_t1 49 rfl
theorem dL_law_260 : decode cL_law 260 = .ok (.aload_n 1, 1) := dck_get daL_law_t1 50 rfl
theorem dL_law_261 : decode cL_law 261 = .ok (.aload_n 0, 1) := dck_get daL_law_t1 51 rfl
theorem dL_law_262 : decode cL_law 262 = .ok (.iload_n 3, 1) := dck_get daL_law_t1 52 rfl
theorem dL_law_263 : decode cL_law 263 = .ok (.iconst 1, 1) := dck_get daL_law_t1 53 rfl
theorem dL_law_264 : decode cL_law 264 = .ok (.iadd, 1) := dck_get daL_law_t1 54 rfl
theorem dL_law_265 : decode cL_law 265 = .ok (.iaload, 1) := dck_get daL_law_t1 55 rfl
theorem dL_law_266 : decode cL_law 266 = .ok (.aload_n 0, 1) := dck_get daL_law_t1 56 rfl
theorem dL_law_267 : decode cL_law 267 = .ok (.iload_n 3, 1) := dck_get daL_law_t1 57 rfl
theorem dL_law_268 : decode cL_law 268 = .ok (.iconst 2, 1) := dck_get daL_law_t1 58 rfl
theorem dL_law_269 : decode cL_law 269 = .ok (.iadd, 1) := dck_get daL_law_t1 59 rfl
def dtL_law_t2 : List (Nat × Instr × Nat) := [(270, .iaload, 1), (271, .invokevirtual 33, 3), (274, .pop, 1), (275, .aload_n 2, 1), (276, .aload_n 0, 1), (277, .iload_n 3, 1), (278, .iconst 1, 1), (279, .iadd, 1), (280, .iaload, 1), (281, .aload_n 0, 1), (282, .iload_n 3, 1), (283, .iconst 2, 1), (284, .iadd, 1), (285, .iaload, 1), (286, .invokevirtual 36, 3), (289, .pop, 1), (290, .goto 444, 3), (293, .aload_n 1, 1), (294, .aload_n 0, 1), (295, .iload_n 3, 1), (296, .iconst 1, 1), (297, .iadd, 1), (298, .iaload, 1), (299, .invokevirtual 37, 3), (302, .pop, 1), (303, .aload_n 2, 1), (304, .aload_n 0, 1), (305, .iload_n 3, 1), (306, .iconst 1, 1), (307, .iadd, 1), (308, .iaload, 1), (309, .invokevirtual 40, 3), (312, .pop, 1), (313, .goto 421, 3), (316, .aload_n 1, 1), (317, .aload_n 0, 1), (318, .iload_n 3, 1), (319, .iconst 1, 1), (320, .iadd, 1), (321, .iaload, 1), (322, .invokevirtual 41, 3), (325, .pop, 1), (326, .aload_n 2, 1), (327, .aload_n 0, 1), (328, .iload_n 3, 1), (329, .iconst 1, 1), (330, .iadd, 1), (331, .iaload, 1), (332, .invokevirtual 44, 3), (335, .pop, 1), (336, .goto 398, 3), (339, .aload_n 1, 1), (340, .aload_n 0, 1), (341, .iload_n 3, 1), (342, .iconst 1, 1), (343, .iadd, 1), (344, .iaload, 1), (345, .aload_n 0, 1), (346, .iload_n 3, 1), (347, .iconst 2, 1)]
theorem daL_law_t2 : dtL_law_t2.all (dck cL_law) = true := by decide +kernel
theorem dL_law_270 : decode cL_law 270 = .ok (.iaload, 1) := dck_get daL_law_t2 0 rfl
theorem dL_law_271 : decode cL_law 271 = .ok (.invokevirtual 33, 3) := dck_get daL_law_t2 1 rfl
theorem dL_law_274 : decode cL_law 274 = .ok (.pop, 1) := dck_get daL_law_t2 2 rfl
theorem dL_law_275 : decode cL_law 275 = .ok (.aload_n 2, 1) := dck_get daL_law_t2 3 rfl
theorem dL_law_276 : decode cL_law 276 = .ok (.aload_n 0, 1) := dck_get daL_law_t2 4 rfl
theorem dL_law_277 : decode cL_law 277 = .ok (.iload_n 3, 1) := dck_get daL_law_t2 5 rfl
theorem dL_law_278 : decode cL_law 278 = .ok (.iconst 1, 1) := dck_get daL_law_t2 6 rfl
theorem dL_law_279 : decode cL_law 279 = .ok (.iadd, 1) := dck_get daL_law_t2 7 rfl
theorem dL_law_280 : decode cL_law 280 = .ok (.iaload, 1) := dck_get daL_law_t2 8 rfl
theorem dL_law_281 : decode cL_law 281 = .ok (.aload_n 0, 1) := dck_get daL_law_t2 9 rfl
theorem dL_law_282 : decode cL_law 282 = .ok (.iload_n 3, 1) := dck_get daL_law_t2 10 rfl
theorem dL_law_283 : decode cL_law 283 = .ok (.iconst 2, 1) := dck_get daL_law_t2 11 rfl
theorem dL_law_284 : decode cL_law 284 = .ok (.iadd, 1) := dck_get daL_law_t2 12 rfl
theorem dL_law_285 : decode cL_law 285 = .ok (.iaload, 1) := dck_get daL_law_t2 13 rfl
theorem dL_law_286 : decode cL_law 286 = .ok (.invokevirtual 36, 3) := dck_get daL_law_t2 14 rfl
theorem dL_law_289 : decode cL_law 289 = .ok (.pop, 1) := dck_get daL_law_t2 15 rfl
theorem dL_law_290 : decode cL_law 290 = .ok (.goto 444, 3) := dck_get daL_law_t2 16 rfl
theorem dL_law_293 : decode cL_law 293 = .ok (.aload_n 1, 1) := dck_get daL_law_t2 17 rfl
theorem dL_law_294 : decode cL_law 294 = .ok (.aload_n 0, 1) := dck_get daL_law_t2 18 rfl
theorem dL_law_295 : decode cL_law 295 = .ok (.iload_n 3, 1) := dck_get daL_law_t2 19 rfl
theorem dL_law_296 : decode cL_law 296 = .ok (.iconst 1, 1) := dck_get daL_law_t2 20 rfl
theorem dL_law_297 : decode cL_law 297 = .ok (.iadd, 1) := dck_get daL_law_t2 21 rfl
theorem dL_law_298 : decode cL_law 298 = .ok (.iaload, 1) := dck_get daL_law_t2 22 rfl
theorem dL_law_299 : decode cL_law 299 = .ok (.invokevirtual 37, 3) := dck_get daL_law_t2 23 rfl
theorem dL_law_302 : decode cL_law 302 = .ok (.pop, 1) := dck_get daL_law_t2 24 rfl
theorem dL_law_303 : decode cL_law 303 = .ok (.aload_n 2, 1) := dck_get daL_law_t2 25 rfl
theorem dL_law_304 : decode cL_law 304 = .ok (.aload_n 0, 1) := dck_get daL_law_t2 26 rfl
theorem dL_law_305 : decode cL_law 305 = .ok (.iload_n 3, 1) := dck_get daL_law_t2 27 rfl
theorem dL_law_306 : decode cL_law 306 = .ok (.iconst 1, 1) := dck_get daL_law_t2 28 rfl
theorem dL_law_307 : decode cL_law 307 = .ok (.iadd, 1) := dck_get daL_law_t2 29 rfl
theorem dL_law_308 : decode cL_law 308 = .ok (.iaload, 1) := dck_get daL_law_t2 30 rfl
theorem dL_law_309 : decode cL_law 309 = .ok (.invokevirtual 40, 3) := dck_get daL_law_t2 31 rfl
theorem dL_law_312 : decode cL_law 312 = .ok (.pop, 1) := dck_get daL_law_t2 32 rfl
theorem dL_law_313 : decode cL_law 313 = .ok (.goto 421, 3) := dck_get daL_law_t2 33 rfl
theorem dL_law_316 : decode cL_law 316 = .ok (.aload_n 1, 1) := dck_get daL_law_t2 34 rfl
theorem dL_law_317 : decode cL_law 317 = .ok (.aload_n 0, 1) := dck_get daL_law_t2 35 rfl
theorem dL_law_318 : decode cL_law 318 = .ok (.iload_n 3, 1) := dck_get daL_law_t2 36 rfl
theorem dL_law_319 : decode cL_law 319 = .ok (.iconst 1, 1) := dck_get daL_law_t2 37 rfl
theorem dL_law_320 : decode cL_law 320 = .ok (.iadd, 1) := dck_get daL_law_t2 38 rfl
theorem dL_law_321 : decode cL_law 321 = .ok (.iaload, 1) := dck_get daL_law_t2 39 rfl
theorem dL_law_322 : decode cL_law 322 = .ok (.invokevirtual 41, 3) := dck_get daL_law_t2 40 rfl
theorem dL_law_325 : decode cL_law 325 = .ok (.pop, 1) := dck_get daL_law_t2 41 rfl
theorem dL_law_326 : decode cL_law 326 = .ok (.aload_n 2, 1) := dck_get daL_law_t2 42 rfl
theorem dL_law_327 : decode cL_law 327 = .ok (.aload_n 0, 1) := dck_get daL_law_t2 43 rfl
theorem dL_law_328 : decode cL_law 328 = .ok (.iload_n 3, 1) := dck_get daL_law_t2 44 rfl
theorem dL_law_329 : decode cL_law 329 = .ok (.iconst 1, 1) := dck_get daL_law_t2 45 rfl
theorem dL_law_330 : decode cL_law 330 = .ok (.iadd, 1) := dck_get daL_law_t2 46 rfl
theorem dL_law_331 : decode cL_law 331 = .ok (.iaload, 1) := dck_get daL_law_t2 47 rfl
theorem dL_law_332 : decode cL_law 332 = .ok (.invokevirtual 44, 3) := dck_get daL_law_t2 48 rfl
theorem dL_law_335 : decode cL_law 335 = .ok (.pop, 1) := dck_get daL_law_t2 49 rfl
theorem dL_law_336 : decode cL_law 336 = .ok (.goto 398, 3) := dck_get daL_law_t2 50 rfl
theorem dL_law_339 : decode cL_law 339 = .ok (.aload_n 1, 1) := dck_get daL_law_t2 51 rfl
theorem dL_law_340 : decode cL_law 340 = .ok (.aload_n 0, 1) := dck_get daL_law_t2 52 rfl
theorem dL_law_341 : decode cL_law 341 = .ok (.iload_n 3, 1) := dck_get daL_law_t2 53 rfl
theorem dL_law_342 : decode cL_law 342 = .ok (.iconst 1, 1) := dck_get daL_law_t2 54 rfl
theorem dL_law_343 : decode cL_law 343 = .ok (.iadd, 1) := dck_get daL_law_t2 55 rfl
theorem dL_law_344 : decode cL_law 344 = .ok (.iaload, 1) := dck_get daL_law_t2 56 rfl
theorem dL_law_345 : decode cL_law 345 = .ok (.aload_n 0, 1) := dck_get daL_law_t2 57 rfl
theorem dL_law_346 : decode cL_law 346 = .ok (.iload_n 3, 1) := dck_get daL_law_t2 58 rfl
theorem dL_law_347 : decode cL_law 347 = .ok (.iconst 2, 1) := dck_get daL_law_t2 59 rfl
def dtL_law_t3 : List (Nat × Instr × Nat) := [(348, .iadd, 1), (349, .iaload, 1), (350, .aload_n 0, 1), (351, .iload_n 3, 1), (352, .iconst 3, 1), (353, .iadd, 1), (354, .iaload, 1), (355, .aload_n 0, 1), (356, .iload_n 3, 1), (357, .iconst 4, 1), (358, .iadd, 1), (359, .iaload, 1), (360, .invokevirtual 45, 3), (363, .aload_n 2, 1), (364, .aload_n 0, 1), (365, .iload_n 3, 1), (366, .iconst 1, 1), (367, .iadd, 1), (368, .iaload, 1), (369, .aload_n 0, 1), (370, .iload_n 3, 1), (371, .iconst 2, 1), (372, .iadd, 1), (373, .iaload, 1), (374, .aload_n 0, 1), (375, .iload_n 3, 1), (376, .iconst 3, 1), (377, .iadd, 1), (378, .iaload, 1), (379, .aload_n 0, 1), (380, .iload_n 3, 1), (381, .iconst 4, 1), (382, .iadd, 1), (383, .iaload, 1), (384, .invokevirtual 49, 3), (387, .lcmp, 1), (388, .ifCond .eq 346, 3), (391, .iconst 0, 1), (392, .ireturn, 1), (393, .aload_n 1, 1), (394, .invokevirtual 50, 3), (397, .pop, 1), (398, .aload_n 2, 1), (399, .invokevirtual 53, 3), (402, .pop, 1), (403, .goto 331, 3), (406, .aload_n 1, 1), (407, .aload_n 0, 1), (408, .iload_n 3, 1), (409, .iconst 1, 1), (410, .iadd, 1), (411, .iaload, 1), (412, .aload_n 0, 1), (413, .iload_n 3, 1), (414, .iconst 2, 1), (415, .iadd, 1), (416, .iaload, 1), (417, .aload_n 0, 1), (418, .iload_n 3, 1), (419, .iconst 3, 1)]
theorem daL_law_t3 : dtL_law_t3.all (dck cL_law) = true := by decide +kernel
theorem dL_law_348 : decode cL_law 348 = .ok (.iadd, 1) := dck_get daL_law_t3 0 rfl
theorem dL_law_349 : decode cL_law 349 = .ok (.iaload, 1) := dck_get daL_law_t3 1 rfl
theorem dL_law_350 : decode cL_law 350 = .ok (.aload_n 0, 1) := dck_get daL_law_t3 2 rfl
theorem dL_law_351 : decode cL_law 351 = .ok (.iload_n 3, 1) := dck_get daL_law_t3 3 rfl
theorem dL_law_352 : decode cL_law 352 = .ok (.iconst 3, 1) := dck_get daL_law_t3 4 rfl
theorem dL_law_353 : decode cL_law 353 = .ok (.iadd, 1) := dck_get daL_law_t3 5 rfl
theorem dL_law_354 : decode cL_law 354 = .ok (.iaload, 1) := dck_get daL_law_t3 6 rfl
theorem dL_law_355 : decode cL_law 355 = .ok (.aload_n 0, 1) := dck_get daL_law_t3 7 rfl
theorem dL_law_356 : decode cL_law 356 = .ok (.iload_n 3, 1) := dck_get daL_law_t3 8 rfl
theorem dL_law_357 : decode cL_law 357 = .ok (.iconst 4, 1) := dck_get daL_law_t3 9 rfl
theorem dL_law_358 : decode cL_law 358 = .ok (.iadd, 1) := dck_get daL_law_t3 10 rfl
theorem dL_law_359 : decode cL_law 359 = .ok (.iaload, 1) := dck_get daL_law_t3 11 rfl
theorem dL_law_360 : decode cL_law 360 = .ok (.invokevirtual 45, 3) := dck_get daL_law_t3 12 rfl
theorem dL_law_363 : decode cL_law 363 = .ok (.aload_n 2, 1) := dck_get daL_law_t3 13 rfl
theorem dL_law_364 : decode cL_law 364 = .ok (.aload_n 0, 1) := dck_get daL_law_t3 14 rfl
theorem dL_law_365 : decode cL_law 365 = .ok (.iload_n 3, 1) := dck_get daL_law_t3 15 rfl
theorem dL_law_366 : decode cL_law 366 = .ok (.iconst 1, 1) := dck_get daL_law_t3 16 rfl
theorem dL_law_367 : decode cL_law 367 = .ok (.iadd, 1) := dck_get daL_law_t3 17 rfl
theorem dL_law_368 : decode cL_law 368 = .ok (.iaload, 1) := dck_get daL_law_t3 18 rfl
theorem dL_law_369 : decode cL_law 369 = .ok (.aload_n 0, 1) := dck_get daL_law_t3 19 rfl
theorem dL_law_370 : decode cL_law 370 = .ok (.iload_n 3, 1) := dck_get daL_law_t3 20 rfl
theorem dL_law_371 : decode cL_law 371 = .ok (.iconst 2, 1) := dck_get daL_law_t3 21 rfl
theorem dL_law_372 : decode cL_law 372 = .ok (.iadd, 1) := dck_get daL_law_t3 22 rfl
theorem dL_law_373 : decode cL_law 373 = .ok (.iaload, 1) := dck_get daL_law_t3 23 rfl
theorem dL_law_374 : decode cL_law 374 = .ok (.aload_n 0, 1) := dck_get daL_law_t3 24 rfl
theorem dL_law_375 : decode cL_law 375 = .ok (.iload_n 3, 1) := dck_get daL_law_t3 25 rfl
theorem dL_law_376 : decode cL_law 376 = .ok (.iconst 3, 1) := dck_get daL_law_t3 26 rfl
theorem dL_law_377 : decode cL_law 377 = .ok (.iadd, 1) := dck_get daL_law_t3 27 rfl
theorem dL_law_378 : decode cL_law 378 = .ok (.iaload, 1) := dck_get daL_law_t3 28 rfl
theorem dL_law_379 : decode cL_law 379 = .ok (.aload_n 0, 1) := dck_get daL_law_t3 29 rfl
theorem dL_law_380 : decode cL_law 380 = .ok (.iload_n 3, 1) := dck_get daL_law_t3 30 rfl
theorem dL_law_381 : decode cL_law 381 = .ok (.iconst 4, 1) := dck_get daL_law_t3 31 rfl
theorem dL_law_382 : decode cL_law 382 = .ok (.iadd, 1) := dck_get daL_law_t3 32 rfl
theorem dL_law_383 : decode cL_law 383 = .ok (.iaload, 1) := dck_get daL_law_t3 33 rfl
theorem dL_law_384 : decode cL_law 384 = .ok (.invokevirtual 49, 3) := dck_get daL_law_t3 34 rfl
theorem dL_law_387 : decode cL_law 387 = .ok (.lcmp, 1) := dck_get daL_law_t3 35 rfl
theorem dL_law_388 : decode cL_law 388 = .ok (.ifCond .eq 346, 3) := dck_get daL_law_t3 36 rfl
theorem dL_law_391 : decode cL_law 391 = .ok (.iconst 0, 1) := dck_get daL_law_t3 37 rfl
theorem dL_law_392 : decode cL_law 392 = .ok (.ireturn, 1) := dck_get daL_law_t3 38 rfl
theorem dL_law_393 : decode cL_law 393 = .ok (.aload_n 1, 1) := dck_get daL_law_t3 39 rfl
theorem dL_law_394 : decode cL_law 394 = .ok (.invokevirtual 50, 3) := dck_get daL_law_t3 40 rfl
theorem dL_law_397 : decode cL_law 397 = .ok (.pop, 1) := dck_get daL_law_t3 41 rfl
theorem dL_law_398 : decode cL_law 398 = .ok (.aload_n 2, 1) := dck_get daL_law_t3 42 rfl
theorem dL_law_399 : decode cL_law 399 = .ok (.invokevirtual 53, 3) := dck_get daL_law_t3 43 rfl
theorem dL_law_402 : decode cL_law 402 = .ok (.pop, 1) := dck_get daL_law_t3 44 rfl
theorem dL_law_403 : decode cL_law 403 = .ok (.goto 331, 3) := dck_get daL_law_t3 45 rfl
theorem dL_law_406 : decode cL_law 406 = .ok (.aload_n 1, 1) := dck_get daL_law_t3 46 rfl
theorem dL_law_407 : decode cL_law 407 = .ok (.aload_n 0, 1) := dck_get daL_law_t3 47 rfl
theorem dL_law_408 : decode cL_law 408 = .ok (.iload_n 3, 1) := dck_get daL_law_t3 48 rfl
theorem dL_law_409 : decode cL_law 409 = .ok (.iconst 1, 1) := dck_get daL_law_t3 49 rfl
theorem dL_law_410 : decode cL_law 410 = .ok (.iadd, 1) := dck_get daL_law_t3 50 rfl
theorem dL_law_411 : decode cL_law 411 = .ok (.iaload, 1) := dck_get daL_law_t3 51 rfl
theorem dL_law_412 : decode cL_law 412 = .ok (.aload_n 0, 1) := dck_get daL_law_t3 52 rfl
theorem dL_law_413 : decode cL_law 413 = .ok (.iload_n 3, 1) := dck_get daL_law_t3 53 rfl
theorem dL_law_414 : decode cL_law 414 = .ok (.iconst 2, 1) := dck_get daL_law_t3 54 rfl
theorem dL_law_415 : decode cL_law 415 = .ok (.iadd, 1) := dck_get daL_law_t3 55 rfl
theorem dL_law_416 : decode cL_law 416 = .ok (.iaload, 1) := dck_get daL_law_t3 56 rfl
theorem dL_law_417 : decode cL_law 417 = .ok (.aload_n 0, 1) := dck_get daL_law_t3 57 rfl
theorem dL_law_418 : decode cL_law 418 = .ok (.iload_n 3, 1) := dck_get daL_law_t3 58 rfl
theorem dL_law_419 : decode cL_law 419 = .ok (.iconst 3, 1) := dck_get daL_law_t3 59 rfl
def dtL_law_t4 : List (Nat × Instr × Nat) := [(420, .iadd, 1), (421, .iaload, 1), (422, .invokevirtual 54, 3), (425, .pop, 1), (426, .aload_n 2, 1), (427, .aload_n 0, 1), (428, .iload_n 3, 1), (429, .iconst 1, 1), (430, .iadd, 1), (431, .iaload, 1), (432, .aload_n 0, 1), (433, .iload_n 3, 1), (434, .iconst 2, 1), (435, .iadd, 1), (436, .iaload, 1), (437, .aload_n 0, 1), (438, .iload_n 3, 1), (439, .iconst 3, 1), (440, .iadd, 1), (441, .iaload, 1), (442, .invokevirtual 57, 3), (445, .pop, 1), (446, .goto 288, 3), (449, .aload_n 1, 1), (450, .invokevirtual 58, 3), (453, .pop, 1), (454, .aload_n 2, 1), (455, .invokevirtual 61, 3), (458, .pop, 1), (459, .goto 275, 3), (462, .aload_n 1, 1), (463, .aload_n 0, 1), (464, .iload_n 3, 1), (465, .iconst 1, 1), (466, .iadd, 1), (467, .iaload, 1), (468, .invokevirtual 62, 3), (471, .pop, 1), (472, .aload_n 2, 1), (473, .aload_n 0, 1), (474, .iload_n 3, 1), (475, .iconst 1, 1), (476, .iadd, 1), (477, .iaload, 1), (478, .invokevirtual 65, 3), (481, .pop, 1), (482, .goto 252, 3), (485, .aload_n 1, 1), (486, .aload_n 0, 1), (487, .iload_n 3, 1), (488, .iconst 1, 1), (489, .iadd, 1), (490, .iaload, 1), (491, .invokevirtual 66, 3), (494, .pop, 1), (495, .aload_n 2, 1), (496, .aload_n 0, 1), (497, .iload_n 3, 1), (498, .iconst 1, 1), (499, .iadd, 1)]
theorem daL_law_t4 : dtL_law_t4.all (dck cL_law) = true := by decide +kernel
theorem dL_law_420 : decode cL_law 420 = .ok (.iadd, 1) := dck_get daL_law_t4 0 rfl
theorem dL_law_421 : decode cL_law 421 = .ok (.iaload, 1) := dck_get daL_law_t4 1 rfl
theorem dL_law_422 : decode cL_law 422 = .ok (.invokevirtual 54, 3) := dck_get daL_law_t4 2 rfl
theorem dL_law_425 : decode cL_law 425 = .ok (.pop, 1) := dck_get daL_law_t4 3 rfl
theorem dL_law_426 : decode cL_law 426 = .ok (.aload_n 2, 1) := dck_get daL_law_t4 4 rfl
theorem dL_law_427 : decode cL_law 427 = .ok (.aload_n 0, 1) := dck_get daL_law_t4 5 rfl
theorem dL_law_428 : decode cL_law 428 = .ok (.iload_n 3, 1) := dck_get daL_law_t4 6 rfl
theorem dL_law_429 : decode cL_law 429 = .ok (.iconst 1, 1) := dck_get daL_law_t4 7 rfl
theorem dL_law_430 : decode cL_law 430 = .ok (.iadd, 1) := dck_get daL_law_t4 8 rfl
theorem dL_law_431 : decode cL_law 431 = .ok (.iaload, 1) := dck_get daL_law_t4 9 rfl
theorem dL_law_432 : decode cL_law 432 = .ok (.aload_n 0, 1) := dck_get daL_law_t4 10 rfl
theorem dL_law_433 : decode cL_law 433 = .ok (.iload_n 3, 1) := dck_get daL_law_t4 11 rfl
theorem dL_law_434 : decode cL_law 434 = .ok (.iconst 2, 1) := dck_get daL_law_t4 12 rfl
theorem dL_law_435 : decode cL_law 435 = .ok (.iadd, 1) := dck_get daL_law_t4 13 rfl
theorem dL_law_436 : decode cL_law 436 = .ok (.iaload, 1) := dck_get daL_law_t4 14 rfl
theorem dL_law_437 : decode cL_law 437 = .ok (.aload_n 0, 1) := dck_get daL_law_t4 15 rfl
theorem dL_law_438 : decode cL_law 438 = .ok (.iload_n 3, 1) := dck_get daL_law_t4 16 rfl
theorem dL_law_439 : decode cL_law 439 = .ok (.iconst 3, 1) := dck_get daL_law_t4 17 rfl
theorem dL_law_440 : decode cL_law 440 = .ok (.iadd, 1) := dck_get daL_law_t4 18 rfl
theorem dL_law_441 : decode cL_law 441 = .ok (.iaload, 1) := dck_get daL_law_t4 19 rfl
theorem dL_law_442 : decode cL_law 442 = .ok (.invokevirtual 57, 3) := dck_get daL_law_t4 20 rfl
theorem dL_law_445 : decode cL_law 445 = .ok (.pop, 1) := dck_get daL_law_t4 21 rfl
theorem dL_law_446 : decode cL_law 446 = .ok (.goto 288, 3) := dck_get daL_law_t4 22 rfl
theorem dL_law_449 : decode cL_law 449 = .ok (.aload_n 1, 1) := dck_get daL_law_t4 23 rfl
theorem dL_law_450 : decode cL_law 450 = .ok (.invokevirtual 58, 3) := dck_get daL_law_t4 24 rfl
theorem dL_law_453 : decode cL_law 453 = .ok (.pop, 1) := dck_get daL_law_t4 25 rfl
theorem dL_law_454 : decode cL_law 454 = .ok (.aload_n 2, 1) := dck_get daL_law_t4 26 rfl
theorem dL_law_455 : decode cL_law 455 = .ok (.invokevirtual 61, 3) := dck_get daL_law_t4 27 rfl
theorem dL_law_458 : decode cL_law 458 = .ok (.pop, 1) := dck_get daL_law_t4 28 rfl
theorem dL_law_459 : decode cL_law 459 = .ok (.goto 275, 3) := dck_get daL_law_t4 29 rfl
theorem dL_law_462 : decode cL_law 462 = .ok (.aload_n 1, 1) := dck_get daL_law_t4 30 rfl
theorem dL_law_463 : decode cL_law 463 = .ok (.aload_n 0, 1) := dck_get daL_law_t4 31 rfl
theorem dL_law_464 : decode cL_law 464 = .ok (.iload_n 3, 1) := dck_get daL_law_t4 32 rfl
theorem dL_law_465 : decode cL_law 465 = .ok (.iconst 1, 1) := dck_get daL_law_t4 33 rfl
theorem dL_law_466 : decode cL_law 466 = .ok (.iadd, 1) := dck_get daL_law_t4 34 rfl
theorem dL_law_467 : decode cL_law 467 = .ok (.iaload, 1) := dck_get daL_law_t4 35 rfl
theorem dL_law_468 : decode cL_law 468 = .ok (.invokevirtual 62, 3) := dck_get daL_law_t4 36 rfl
theorem dL_law_471 : decode cL_law 471 = .ok (.pop, 1) := dck_get daL_law_t4 37 rfl
theorem dL_law_472 : decode cL_law 472 = .ok (.aload_n 2, 1) := dck_get daL_law_t4 38 rfl
theorem dL_law_473 : decode cL_law 473 = .ok (.aload_n 0, 1) := dck_get daL_law_t4 39 rfl
theorem dL_law_474 : decode cL_law 474 = .ok (.iload_n 3, 1) := dck_get daL_law_t4 40 rfl
theorem dL_law_475 : decode cL_law 475 = .ok (.iconst 1, 1) := dck_get daL_law_t4 41 rfl
theorem dL_law_476 : decode cL_law 476 = .ok (.iadd, 1) := dck_get daL_law_t4 42 rfl
theorem dL_law_477 : decode cL_law 477 = .ok (.iaload, 1) := dck_get daL_law_t4 43 rfl
theorem dL_law_478 : decode cL_law 478 = .ok (.invokevirtual 65, 3) := dck_get daL_law_t4 44 rfl
theorem dL_law_481 : decode cL_law 481 = .ok (.pop, 1) := dck_get daL_law_t4 45 rfl
theorem dL_law_482 : decode cL_law 482 = .ok (.goto 252, 3) := dck_get daL_law_t4 46 rfl
theorem dL_law_485 : decode cL_law 485 = .ok (.aload_n 1, 1) := dck_get daL_law_t4 47 rfl
theorem dL_law_486 : decode cL_law 486 = .ok (.aload_n 0, 1) := dck_get daL_law_t4 48 rfl
theorem dL_law_487 : decode cL_law 487 = .ok (.iload_n 3, 1) := dck_get daL_law_t4 49 rfl
theorem dL_law_488 : decode cL_law 488 = .ok (.iconst 1, 1) := dck_get daL_law_t4 50 rfl
theorem dL_law_489 : decode cL_law 489 = .ok (.iadd, 1) := dck_get daL_law_t4 51 rfl
theorem dL_law_490 : decode cL_law 490 = .ok (.iaload, 1) := dck_get daL_law_t4 52 rfl
theorem dL_law_491 : decode cL_law 491 = .ok (.invokevirtual 66, 3) := dck_get daL_law_t4 53 rfl
theorem dL_law_494 : decode cL_law 494 = .ok (.pop, 1) := dck_get daL_law_t4 54 rfl
theorem dL_law_495 : decode cL_law 495 = .ok (.aload_n 2, 1) := dck_get daL_law_t4 55 rfl
theorem dL_law_496 : decode cL_law 496 = .ok (.aload_n 0, 1) := dck_get daL_law_t4 56 rfl
theorem dL_law_497 : decode cL_law 497 = .ok (.iload_n 3, 1) := dck_get daL_law_t4 57 rfl
theorem dL_law_498 : decode cL_law 498 = .ok (.iconst 1, 1) := dck_get daL_law_t4 58 rfl
theorem dL_law_499 : decode cL_law 499 = .ok (.iadd, 1) := dck_get daL_law_t4 59 rfl
def dtL_law_t5 : List (Nat × Instr × Nat) := [(500, .iaload, 1), (501, .invokevirtual 69, 3), (504, .pop, 1), (505, .goto 229, 3), (508, .aload_n 1, 1), (509, .invokevirtual 70, 3), (512, .pop, 1), (513, .aload_n 2, 1), (514, .invokevirtual 73, 3), (517, .pop, 1), (518, .goto 216, 3), (521, .aload_n 1, 1), (522, .invokevirtual 74, 3), (525, .pop, 1), (526, .aload_n 2, 1), (527, .invokevirtual 77, 3), (530, .pop, 1), (531, .goto 203, 3), (534, .aload_n 1, 1), (535, .invokevirtual 78, 3), (538, .pop, 1), (539, .aload_n 2, 1), (540, .invokevirtual 81, 3), (543, .pop, 1), (544, .goto 190, 3), (547, .aload_n 1, 1), (548, .invokevirtual 82, 3), (551, .pop, 1), (552, .aload_n 2, 1), (553, .invokevirtual 85, 3), (556, .pop, 1), (557, .goto 177, 3), (560, .aload_n 1, 1), (561, .aload_n 0, 1), (562, .iload_n 3, 1), (563, .iconst 1, 1), (564, .iadd, 1), (565, .iaload, 1), (566, .aload_n 0, 1), (567, .iload_n 3, 1), (568, .iconst 2, 1), (569, .iadd, 1), (570, .iaload, 1), (571, .invokevirtual 86, 3), (574, .pop, 1), (575, .aload_n 2, 1), (576, .aload_n 0, 1), (577, .iload_n 3, 1), (578, .iconst 1, 1), (579, .iadd, 1), (580, .iaload, 1), (581, .aload_n 0, 1), (582, .iload_n 3, 1), (583, .iconst 2, 1), (584, .iadd, 1), (585, .iaload, 1), (586, .invokevirtual 89, 3), (589, .pop, 1), (590, .goto 144, 3), (593, .aload_n 1, 1)]
theorem daL_law_t5 : dtL_law_t5.all (dck cL_law) = true := by decide +kernel
theorem dL_law_500 : decode cL_law 500 = .ok (.iaload, 1) := dck_get daL_law_t5 0 rfl
theorem dL_law_501 : decode cL_law 501 = .ok (.invokevirtual 69, 3) := dck_get daL_law_t5 1 rfl
theorem dL_law_504 : decode cL_law 504 = .ok (.pop, 1) := dck_get daL_law_t5 2 rfl
theorem dL_law_505 : decode cL_law 505 = .ok (.goto 229, 3) := dck_get daL_law_t5 3 rfl
theorem dL_law_508 : decode cL_law 508 = .ok (.aload_n 1, 1) := dck_get daL_law_t5 4 rfl
theorem dL_law_509 : decode cL_law 509 = .ok (.invokevirtual 70, 3) := dck_get daL_law_t5 5 rfl
theorem dL_law_512 : decode cL_law 512 = .ok (.pop, 1) := dck_get daL_law_t5 6 rfl
theorem dL_law_513 : decode cL_law 513 = .ok (.aload_n 2, 1) := dck_get daL_law_t5 7 rfl
theorem dL_law_514 : decode cL_law 514 = .ok (.invokevirtual 73, 3) := dck_get daL_law_t5 8 rfl
theorem dL_law_517 : decode cL_law 517 = .ok (.pop, 1) := dck_get daL_law_t5 9 rfl
theorem dL_law_518 : decode cL_law 518 = .ok (.goto 216, 3) := dck_get daL_law_t5 10 rfl
theorem dL_law_521 : decode cL_law 521 = .ok (.aload_n 1, 1) := dck_get daL_law_t5 11 rfl
theorem dL_law_522 : decode cL_law 522 = .ok (.invokevirtual 74, 3) := dck_get daL_law_t5 12 rfl
theorem dL_law_525 : decode cL_law 525 = .ok (.pop, 1) := dck_get daL_law_t5 13 rfl
theorem dL_law_526 : decode cL_law 526 = .ok (.aload_n 2, 1) := dck_get daL_law_t5 14 rfl
theorem dL_law_527 : decode cL_law 527 = .ok (.invokevirtual 77, 3) := dck_get daL_law_t5 15 rfl
theorem dL_law_530 : decode cL_law 530 = .ok (.pop, 1) := dck_get daL_law_t5 16 rfl
theorem dL_law_531 : decode cL_law 531 = .ok (.goto 203, 3) := dck_get daL_law_t5 17 rfl
theorem dL_law_534 : decode cL_law 534 = .ok (.aload_n 1, 1) := dck_get daL_law_t5 18 rfl
theorem dL_law_535 : decode cL_law 535 = .ok (.invokevirtual 78, 3) := dck_get daL_law_t5 19 rfl
theorem dL_law_538 : decode cL_law 538 = .ok (.pop, 1) := dck_get daL_law_t5 20 rfl
theorem dL_law_539 : decode cL_law 539 = .ok (.aload_n 2, 1) := dck_get daL_law_t5 21 rfl
theorem dL_law_540 : decode cL_law 540 = .ok (.invokevirtual 81, 3) := dck_get daL_law_t5 22 rfl
theorem dL_law_543 : decode cL_law 543 = .ok (.pop, 1) := dck_get daL_law_t5 23 rfl
theorem dL_law_544 : decode cL_law 544 = .ok (.goto 190, 3) := dck_get daL_law_t5 24 rfl
theorem dL_law_547 : decode cL_law 547 = .ok (.aload_n 1, 1) := dck_get daL_law_t5 25 rfl
theorem dL_law_548 : decode cL_law 548 = .ok (.invokevirtual 82, 3) := dck_get daL_law_t5 26 rfl
theorem dL_law_551 : decode cL_law 551 = .ok (.pop, 1) := dck_get daL_law_t5 27 rfl
theorem dL_law_552 : decode cL_law 552 = .ok (.aload_n 2, 1) := dck_get daL_law_t5 28 rfl
theorem dL_law_553 : decode cL_law 553 = .ok (.invokevirtual 85, 3) := dck_get daL_law_t5 29 rfl
theorem dL_law_556 : decode cL_law 556 = .ok (.pop, 1) := dck_get daL_law_t5 30 rfl
theorem dL_law_557 : decode cL_law 557 = .ok (.goto 177, 3) := dck_get daL_law_t5 31 rfl
theorem dL_law_560 : decode cL_law 560 = .ok (.aload_n 1, 1) := dck_get daL_law_t5 32 rfl
theorem dL_law_561 : decode cL_law 561 = .ok (.aload_n 0, 1) := dck_get daL_law_t5 33 rfl
theorem dL_law_562 : decode cL_law 562 = .ok (.iload_n 3, 1) := dck_get daL_law_t5 34 rfl
theorem dL_law_563 : decode cL_law 563 = .ok (.iconst 1, 1) := dck_get daL_law_t5 35 rfl
theorem dL_law_564 : decode cL_law 564 = .ok (.iadd, 1) := dck_get daL_law_t5 36 rfl
theorem dL_law_565 : decode cL_law 565 = .ok (.iaload, 1) := dck_get daL_law_t5 37 rfl
theorem dL_law_566 : decode cL_law 566 = .ok (.aload_n 0, 1) := dck_get daL_law_t5 38 rfl
theorem dL_law_567 : decode cL_law 567 = .ok (.iload_n 3, 1) := dck_get daL_law_t5 39 rfl
theorem dL_law_568 : decode cL_law 568 = .ok (.iconst 2, 1) := dck_get daL_law_t5 40 rfl
theorem dL_law_569 : decode cL_law 569 = .ok (.iadd, 1) := dck_get daL_law_t5 41 rfl
theorem dL_law_570 : decode cL_law 570 = .ok (.iaload, 1) := dck_get daL_law_t5 42 rfl
theorem dL_law_571 : decode cL_law 571 = .ok (.invokevirtual 86, 3) := dck_get daL_law_t5 43 rfl
theorem dL_law_574 : decode cL_law 574 = .ok (.pop, 1) := dck_get daL_law_t5 44 rfl
theorem dL_law_575 : decode cL_law 575 = .ok (.aload_n 2, 1) := dck_get daL_law_t5 45 rfl
theorem dL_law_576 : decode cL_law 576 = .ok (.aload_n 0, 1) := dck_get daL_law_t5 46 rfl
theorem dL_law_577 : decode cL_law 577 = .ok (.iload_n 3, 1) := dck_get daL_law_t5 47 rfl
theorem dL_law_578 : decode cL_law 578 = .ok (.iconst 1, 1) := dck_get daL_law_t5 48 rfl
theorem dL_law_579 : decode cL_law 579 = .ok (.iadd, 1) := dck_get daL_law_t5 49 rfl
theorem dL_law_580 : decode cL_law 580 = .ok (.iaload, 1) := dck_get daL_law_t5 50 rfl
theorem dL_law_581 : decode cL_law 581 = .ok (.aload_n 0, 1) := dck_get daL_law_t5 51 rfl
theorem dL_law_582 : decode cL_law 582 = .ok (.iload_n 3, 1) := dck_get daL_law_t5 52 rfl
theorem dL_law_583 : decode cL_law 583 = .ok (.iconst 2, 1) := dck_get daL_law_t5 53 rfl
theorem dL_law_584 : decode cL_law 584 = .ok (.iadd, 1) := dck_get daL_law_t5 54 rfl
theorem dL_law_585 : decode cL_law 585 = .ok (.iaload, 1) := dck_get daL_law_t5 55 rfl
theorem dL_law_586 : decode cL_law 586 = .ok (.invokevirtual 89, 3) := dck_get daL_law_t5 56 rfl
theorem dL_law_589 : decode cL_law 589 = .ok (.pop, 1) := dck_get daL_law_t5 57 rfl
theorem dL_law_590 : decode cL_law 590 = .ok (.goto 144, 3) := dck_get daL_law_t5 58 rfl
theorem dL_law_593 : decode cL_law 593 = .ok (.aload_n 1, 1) := dck_get daL_law_t5 59 rfl
def dtL_law_t6 : List (Nat × Instr × Nat) := [(594, .aload_n 0, 1), (595, .iload_n 3, 1), (596, .iconst 1, 1), (597, .iadd, 1), (598, .iaload, 1), (599, .invokevirtual 90, 3), (602, .pop, 1), (603, .aload_n 2, 1), (604, .aload_n 0, 1), (605, .iload_n 3, 1), (606, .iconst 1, 1), (607, .iadd, 1), (608, .iaload, 1), (609, .invokevirtual 93, 3), (612, .pop, 1), (613, .goto 121, 3), (616, .aload_n 1, 1), (617, .aload_n 0, 1), (618, .iload_n 3, 1), (619, .iconst 1, 1), (620, .iadd, 1), (621, .iaload, 1), (622, .invokevirtual 94, 3), (625, .pop, 1), (626, .aload_n 2, 1), (627, .aload_n 0, 1), (628, .iload_n 3, 1), (629, .iconst 1, 1), (630, .iadd, 1), (631, .iaload, 1), (632, .invokevirtual 97, 3), (635, .pop, 1), (636, .goto 98, 3), (639, .aload_n 1, 1), (640, .invokevirtual 98, 3), (643, .pop, 1), (644, .aload_n 2, 1), (645, .invokevirtual 101, 3), (648, .pop, 1), (649, .goto 85, 3), (652, .aload_n 1, 1), (653, .aload_n 0, 1), (654, .iload_n 3, 1), (655, .iconst 1, 1), (656, .iadd, 1), (657, .iaload, 1), (658, .aload_n 0, 1), (659, .iload_n 3, 1), (660, .iconst 2, 1), (661, .iadd, 1), (662, .iaload, 1), (663, .invokevirtual 102, 3), (666, .pop, 1), (667, .aload_n 2, 1), (668, .aload_n 0, 1), (669, .iload_n 3, 1), (670, .iconst 1, 1), (671, .iadd, 1), (672, .iaload, 1), (673, .aload_n 0, 1)]
theorem daL_law_t6 : dtL_law_t6.all (dck cL_law) = true := by decide +kernel
theorem dL_law_594 : decode cL_law 594 = .ok (.aload_n 0, 1) := dck_get daL_law_t6 0 rfl
theorem dL_law_595 : decode cL_law 595 = .ok (.iload_n 3, 1) := dck_get daL_law_t6 1 rfl
theorem dL_law_596 : decode cL_law 596 = .ok (.iconst 1, 1) := dck_get daL_law_t6 2 rfl
theorem dL_law_597 : decode cL_law 597 = .ok (.iadd, 1) := dck_get daL_law_t6 3 rfl
theorem dL_law_598 : decode cL_law 598 = .ok (.iaload, 1) := dck_get daL_law_t6 4 rfl
theorem dL_law_599 : decode cL_law 599 = .ok (.invokevirtual 90, 3) := dck_get daL_law_t6 5 rfl
theorem dL_law_602 : decode cL_law 602 = .ok (.pop, 1) := dck_get daL_law_t6 6 rfl
theorem dL_law_603 : decode cL_law 603 = .ok (.aload_n 2, 1) := dck_get daL_law_t6 7 rfl
theorem dL_law_604 : decode cL_law 604 = .ok (.aload_n 0, 1) := dck_get daL_law_t6 8 rfl
theorem dL_law_605 : decode cL_law 605 = .ok (.iload_n 3, 1) := dck_get daL_law_t6 9 rfl
theorem dL_law_606 : decode cL_law 606 = .ok (.iconst 1, 1) := dck_get daL_law_t6 10 rfl
theorem dL_law_607 : decode cL_law 607 = .ok (.iadd, 1) := dck_get daL_law_t6 11 rfl
theorem dL_law_608 : decode cL_law 608 = .ok (.iaload, 1) := dck_get daL_law_t6 12 rfl
theorem dL_law_609 : decode cL_law 609 = .ok (.invokevirtual 93, 3) := dck_get daL_law_t6 13 rfl
theorem dL_law_612 : decode cL_law 612 = .ok (.pop, 1) := dck_get daL_law_t6 14 rfl
theorem dL_law_613 : decode cL_law 613 = .ok (.goto 121, 3) := dck_get daL_law_t6 15 rfl
theorem dL_law_616 : decode cL_law 616 = .ok (.aload_n 1, 1) := dck_get daL_law_t6 16 rfl
theorem dL_law_617 : decode cL_law 617 = .ok (.aload_n 0, 1) := dck_get daL_law_t6 17 rfl
theorem dL_law_618 : decode cL_law 618 = .ok (.iload_n 3, 1) := dck_get daL_law_t6 18 rfl
theorem dL_law_619 : decode cL_law 619 = .ok (.iconst 1, 1) := dck_get daL_law_t6 19 rfl
theorem dL_law_620 : decode cL_law 620 = .ok (.iadd, 1) := dck_get daL_law_t6 20 rfl
theorem dL_law_621 : decode cL_law 621 = .ok (.iaload, 1) := dck_get daL_law_t6 21 rfl
theorem dL_law_622 : decode cL_law 622 = .ok (.invokevirtual 94, 3) := dck_get daL_law_t6 22 rfl
theorem dL_law_625 : decode cL_law 625 = .ok (.pop, 1) := dck_get daL_law_t6 23 rfl
theorem dL_law_626 : decode cL_law 626 = .ok (.aload_n 2, 1) := dck_get daL_law_t6 24 rfl
theorem dL_law_627 : decode cL_law 627 = .ok (.aload_n 0, 1) := dck_get daL_law_t6 25 rfl
theorem dL_law_628 : decode cL_law 628 = .ok (.iload_n 3, 1) := dck_get daL_law_t6 26 rfl
theorem dL_law_629 : decode cL_law 629 = .ok (.iconst 1, 1) := dck_get daL_law_t6 27 rfl
theorem dL_law_630 : decode cL_law 630 = .ok (.iadd, 1) := dck_get daL_law_t6 28 rfl
theorem dL_law_631 : decode cL_law 631 = .ok (.iaload, 1) := dck_get daL_law_t6 29 rfl
theorem dL_law_632 : decode cL_law 632 = .ok (.invokevirtual 97, 3) := dck_get daL_law_t6 30 rfl
theorem dL_law_635 : decode cL_law 635 = .ok (.pop, 1) := dck_get daL_law_t6 31 rfl
theorem dL_law_636 : decode cL_law 636 = .ok (.goto 98, 3) := dck_get daL_law_t6 32 rfl
theorem dL_law_639 : decode cL_law 639 = .ok (.aload_n 1, 1) := dck_get daL_law_t6 33 rfl
theorem dL_law_640 : decode cL_law 640 = .ok (.invokevirtual 98, 3) := dck_get daL_law_t6 34 rfl
theorem dL_law_643 : decode cL_law 643 = .ok (.pop, 1) := dck_get daL_law_t6 35 rfl
theorem dL_law_644 : decode cL_law 644 = .ok (.aload_n 2, 1) := dck_get daL_law_t6 36 rfl
theorem dL_law_645 : decode cL_law 645 = .ok (.invokevirtual 101, 3) := dck_get daL_law_t6 37 rfl
theorem dL_law_648 : decode cL_law 648 = .ok (.pop, 1) := dck_get daL_law_t6 38 rfl
theorem dL_law_649 : decode cL_law 649 = .ok (.goto 85, 3) := dck_get daL_law_t6 39 rfl
theorem dL_law_652 : decode cL_law 652 = .ok (.aload_n 1, 1) := dck_get daL_law_t6 40 rfl
theorem dL_law_653 : decode cL_law 653 = .ok (.aload_n 0, 1) := dck_get daL_law_t6 41 rfl
theorem dL_law_654 : decode cL_law 654 = .ok (.iload_n 3, 1) := dck_get daL_law_t6 42 rfl
theorem dL_law_655 : decode cL_law 655 = .ok (.iconst 1, 1) := dck_get daL_law_t6 43 rfl
theorem dL_law_656 : decode cL_law 656 = .ok (.iadd, 1) := dck_get daL_law_t6 44 rfl
theorem dL_law_657 : decode cL_law 657 = .ok (.iaload, 1) := dck_get daL_law_t6 45 rfl
theorem dL_law_658 : decode cL_law 658 = .ok (.aload_n 0, 1) := dck_get daL_law_t6 46 rfl
theorem dL_law_659 : decode cL_law 659 = .ok (.iload_n 3, 1) := dck_get daL_law_t6 47 rfl
theorem dL_law_660 : decode cL_law 660 = .ok (.iconst 2, 1) := dck_get daL_law_t6 48 rfl
theorem dL_law_661 : decode cL_law 661 = .ok (.iadd, 1) := dck_get daL_law_t6 49 rfl
theorem dL_law_662 : decode cL_law 662 = .ok (.iaload, 1) := dck_get daL_law_t6 50 rfl
theorem dL_law_663 : decode cL_law 663 = .ok (.invokevirtual 102, 3) := dck_get daL_law_t6 51 rfl
theorem dL_law_666 : decode cL_law 666 = .ok (.pop, 1) := dck_get daL_law_t6 52 rfl
theorem dL_law_667 : decode cL_law 667 = .ok (.aload_n 2, 1) := dck_get daL_law_t6 53 rfl
theorem dL_law_668 : decode cL_law 668 = .ok (.aload_n 0, 1) := dck_get daL_law_t6 54 rfl
theorem dL_law_669 : decode cL_law 669 = .ok (.iload_n 3, 1) := dck_get daL_law_t6 55 rfl
theorem dL_law_670 : decode cL_law 670 = .ok (.iconst 1, 1) := dck_get daL_law_t6 56 rfl
theorem dL_law_671 : decode cL_law 671 = .ok (.iadd, 1) := dck_get daL_law_t6 57 rfl
theorem dL_law_672 : decode cL_law 672 = .ok (.iaload, 1) := dck_get daL_law_t6 58 rfl
theorem dL_law_673 : decode cL_law 673 = .ok (.aload_n 0, 1) := dck_get daL_law_t6 59 rfl
def dtL_law_t7 : List (Nat × Instr × Nat) := [(674, .iload_n 3, 1), (675, .iconst 2, 1), (676, .iadd, 1), (677, .iaload, 1), (678, .invokevirtual 105, 3), (681, .pop, 1), (682, .goto 52, 3), (685, .aload_n 1, 1), (686, .invokevirtual 106, 3), (689, .pop, 1), (690, .aload_n 2, 1), (691, .invokevirtual 109, 3), (694, .pop, 1), (695, .goto 39, 3), (698, .aload_n 1, 1), (699, .invokevirtual 110, 3), (702, .pop, 1), (703, .aload_n 2, 1), (704, .invokevirtual 113, 3), (707, .pop, 1), (708, .goto 26, 3), (711, .aload_n 1, 1), (712, .aload_n 0, 1), (713, .iload_n 3, 1), (714, .iconst 1, 1), (715, .iadd, 1), (716, .iaload, 1), (717, .invokevirtual 114, 3), (720, .pop, 1), (721, .aload_n 2, 1), (722, .aload_n 0, 1), (723, .iload_n 3, 1), (724, .iconst 1, 1), (725, .iadd, 1), (726, .iaload, 1), (727, .invokevirtual 117, 3), (730, .pop, 1), (731, .goto 3, 3), (734, .iinc 3 5, 3), (737, .goto (-719), 3), (740, .iconst 1, 1), (741, .ireturn, 1)]
theorem daL_law_t7 : dtL_law_t7.all (dck cL_law) = true := by decide +kernel
theorem dL_law_674 : decode cL_law 674 = .ok (.iload_n 3, 1) := dck_get daL_law_t7 0 rfl
theorem dL_law_675 : decode cL_law 675 = .ok (.iconst 2, 1) := dck_get daL_law_t7 1 rfl
theorem dL_law_676 : decode cL_law 676 = .ok (.iadd, 1) := dck_get daL_law_t7 2 rfl
theorem dL_law_677 : decode cL_law 677 = .ok (.iaload, 1) := dck_get daL_law_t7 3 rfl
theorem dL_law_678 : decode cL_law 678 = .ok (.invokevirtual 105, 3) := dck_get daL_law_t7 4 rfl
theorem dL_law_681 : decode cL_law 681 = .ok (.pop, 1) := dck_get daL_law_t7 5 rfl
theorem dL_law_682 : decode cL_law 682 = .ok (.goto 52, 3) := dck_get daL_law_t7 6 rfl
theorem dL_law_685 : decode cL_law 685 = .ok (.aload_n 1, 1) := dck_get daL_law_t7 7 rfl
theorem dL_law_686 : decode cL_law 686 = .ok (.invokevirtual 106, 3) := dck_get daL_law_t7 8 rfl
theorem dL_law_689 : decode cL_law 689 = .ok (.pop, 1) := dck_get daL_law_t7 9 rfl
theorem dL_law_690 : decode cL_law 690 = .ok (.aload_n 2, 1) := dck_get daL_law_t7 10 rfl
theorem dL_law_691 : decode cL_law 691 = .ok (.invokevirtual 109, 3) := dck_get daL_law_t7 11 rfl
theorem dL_law_694 : decode cL_law 694 = .ok (.pop, 1) := dck_get daL_law_t7 12 rfl
theorem dL_law_695 : decode cL_law 695 = .ok (.goto 39, 3) := dck_get daL_law_t7 13 rfl
theorem dL_law_698 : decode cL_law 698 = .ok (.aload_n 1, 1) := dck_get daL_law_t7 14 rfl
theorem dL_law_699 : decode cL_law 699 = .ok (.invokevirtual 110, 3) := dck_get daL_law_t7 15 rfl
theorem dL_law_702 : decode cL_law 702 = .ok (.pop, 1) := dck_get daL_law_t7 16 rfl
theorem dL_law_703 : decode cL_law 703 = .ok (.aload_n 2, 1) := dck_get daL_law_t7 17 rfl
theorem dL_law_704 : decode cL_law 704 = .ok (.invokevirtual 113, 3) := dck_get daL_law_t7 18 rfl
theorem dL_law_707 : decode cL_law 707 = .ok (.pop, 1) := dck_get daL_law_t7 19 rfl
theorem dL_law_708 : decode cL_law 708 = .ok (.goto 26, 3) := dck_get daL_law_t7 20 rfl
theorem dL_law_711 : decode cL_law 711 = .ok (.aload_n 1, 1) := dck_get daL_law_t7 21 rfl
theorem dL_law_712 : decode cL_law 712 = .ok (.aload_n 0, 1) := dck_get daL_law_t7 22 rfl
theorem dL_law_713 : decode cL_law 713 = .ok (.iload_n 3, 1) := dck_get daL_law_t7 23 rfl
theorem dL_law_714 : decode cL_law 714 = .ok (.iconst 1, 1) := dck_get daL_law_t7 24 rfl
theorem dL_law_715 : decode cL_law 715 = .ok (.iadd, 1) := dck_get daL_law_t7 25 rfl
theorem dL_law_716 : decode cL_law 716 = .ok (.iaload, 1) := dck_get daL_law_t7 26 rfl
theorem dL_law_717 : decode cL_law 717 = .ok (.invokevirtual 114, 3) := dck_get daL_law_t7 27 rfl
theorem dL_law_720 : decode cL_law 720 = .ok (.pop, 1) := dck_get daL_law_t7 28 rfl
theorem dL_law_721 : decode cL_law 721 = .ok (.aload_n 2, 1) := dck_get daL_law_t7 29 rfl
theorem dL_law_722 : decode cL_law 722 = .ok (.aload_n 0, 1) := dck_get daL_law_t7 30 rfl
theorem dL_law_723 : decode cL_law 723 = .ok (.iload_n 3, 1) := dck_get daL_law_t7 31 rfl
theorem dL_law_724 : decode cL_law 724 = .ok (.iconst 1, 1) := dck_get daL_law_t7 32 rfl
theorem dL_law_725 : decode cL_law 725 = .ok (.iadd, 1) := dck_get daL_law_t7 33 rfl
theorem dL_law_726 : decode cL_law 726 = .ok (.iaload, 1) := dck_get daL_law_t7 34 rfl
theorem dL_law_727 : decode cL_law 727 = .ok (.invokevirtual 117, 3) := dck_get daL_law_t7 35 rfl
theorem dL_law_730 : decode cL_law 730 = .ok (.pop, 1) := dck_get daL_law_t7 36 rfl
theorem dL_law_731 : decode cL_law 731 = .ok (.goto 3, 3) := dck_get daL_law_t7 37 rfl
theorem dL_law_734 : decode cL_law 734 = .ok (.iinc 3 5, 3) := dck_get daL_law_t7 38 rfl
theorem dL_law_737 : decode cL_law 737 = .ok (.goto (-719), 3) := dck_get daL_law_t7 39 rfl
theorem dL_law_740 : decode cL_law 740 = .ok (.iconst 1, 1) := dck_get daL_law_t7 40 rfl
theorem dL_law_741 : decode cL_law 741 = .ok (.ireturn, 1) := dck_get daL_law_t7 41 rfl
abbrev vwCl : List vw_C := [(RX1, TX1, 3), (RX2, TX2, 2), (RX3, TX3, 7), (RX4, TX4, 9), (RX5, TX5, 24)]
