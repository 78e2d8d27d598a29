/-! the law: its instructions -/
theorem fe199 (pc : Nat) : gm_fetch 199 pc = gm_find pc cd_199 := rfl
set_option maxRecDepth 20000 in
theorem f199_0 : gm_fetch 199 0 = some (3, .new 7, 0, 6, 0, 0) := (fe199 0).trans rfl
set_option maxRecDepth 20000 in
theorem f199_3 : gm_fetch 199 3 = some (4, .dup, 0, 0, 0, 0) := (fe199 3).trans rfl
set_option maxRecDepth 20000 in
theorem f199_4 : gm_fetch 199 4 = some (7, .invokespecial 9, 0, 70, 0, 0) := (fe199 4).trans rfl
set_option maxRecDepth 20000 in
theorem f199_7 : gm_fetch 199 7 = some (8, .astore_n 1, 0, 0, 0, 0) := (fe199 7).trans rfl
set_option maxRecDepth 20000 in
theorem f199_8 : gm_fetch 199 8 = some (11, .new 10, 7, 7, 0, 0) := (fe199 8).trans rfl
set_option maxRecDepth 20000 in
theorem f199_11 : gm_fetch 199 11 = some (12, .dup, 0, 0, 0, 0) := (fe199 11).trans rfl
set_option maxRecDepth 20000 in
theorem f199_12 : gm_fetch 199 12 = some (15, .invokespecial 12, 154, 113, 0, 0) := (fe199 12).trans rfl
set_option maxRecDepth 20000 in
theorem f199_15 : gm_fetch 199 15 = some (16, .astore_n 2, 0, 0, 0, 0) := (fe199 15).trans rfl
set_option maxRecDepth 20000 in
theorem f199_16 : gm_fetch 199 16 = some (17, .iconst 0, 0, 0, 0, 0) := (fe199 16).trans rfl
set_option maxRecDepth 20000 in
theorem f199_17 : gm_fetch 199 17 = some (18, .istore_n 3, 0, 0, 0, 0) := (fe199 17).trans rfl
set_option maxRecDepth 20000 in
theorem f199_18 : gm_fetch 199 18 = some (19, .iload_n 3, 0, 0, 0, 0) := (fe199 18).trans rfl
set_option maxRecDepth 20000 in
theorem f199_19 : gm_fetch 199 19 = some (20, .aload_n 0, 0, 0, 0, 0) := (fe199 19).trans rfl
set_option maxRecDepth 20000 in
theorem f199_20 : gm_fetch 199 20 = some (21, .arraylength, 0, 0, 0, 0) := (fe199 20).trans rfl
set_option maxRecDepth 20000 in
theorem f199_21 : gm_fetch 199 21 = some (23, .bipush 6, 0, 0, 0, 0) := (fe199 21).trans rfl
set_option maxRecDepth 20000 in
theorem f199_23 : gm_fetch 199 23 = some (24, .isub, 0, 0, 0, 0) := (fe199 23).trans rfl
set_option maxRecDepth 20000 in
theorem f199_24 : gm_fetch 199 24 = some (27, .if_icmp .gt 1033, 0, 1057, 0, 0) := (fe199 24).trans rfl
set_option maxRecDepth 20000 in
theorem f199_27 : gm_fetch 199 27 = some (28, .aload_n 0, 0, 0, 0, 0) := (fe199 27).trans rfl
set_option maxRecDepth 20000 in
theorem f199_28 : gm_fetch 199 28 = some (29, .iload_n 3, 0, 0, 0, 0) := (fe199 28).trans rfl
set_option maxRecDepth 20000 in
theorem f199_29 : gm_fetch 199 29 = some (30, .iaload, 0, 0, 0, 0) := (fe199 29).trans rfl
set_option maxRecDepth 20000 in
theorem f199_30 : gm_fetch 199 30 = some (32, .bipush 63, 0, 0, 0, 0) := (fe199 30).trans rfl
set_option maxRecDepth 20000 in
theorem f199_32 : gm_fetch 199 32 = some (33, .iand, 0, 0, 0, 0) := (fe199 32).trans rfl
set_option maxRecDepth 20000 in
theorem f199_33 : gm_fetch 199 33 = some (180, .tableswitch 1018 0 32 #[147, 180, 203, 226, 249, 282, 315, 348, 391, 404, 417, 430, 463, 496, 519, 532, 555, 568, 581, 604, 617, 631, 654, 677, 700, 723, 766, 789, 842, 885, 948, 981, 1004], 0, 0, 0, 0) := (fe199 33).trans rfl
set_option maxRecDepth 20000 in
theorem f199_180 : gm_fetch 199 180 = some (181, .aload_n 1, 0, 0, 0, 0) := (fe199 180).trans rfl
set_option maxRecDepth 20000 in
theorem f199_181 : gm_fetch 199 181 = some (182, .aload_n 0, 0, 0, 0, 0) := (fe199 181).trans rfl
set_option maxRecDepth 20000 in
theorem f199_182 : gm_fetch 199 182 = some (183, .iload_n 3, 0, 0, 0, 0) := (fe199 182).trans rfl
set_option maxRecDepth 20000 in
theorem f199_183 : gm_fetch 199 183 = some (184, .iconst 1, 0, 0, 0, 0) := (fe199 183).trans rfl
set_option maxRecDepth 20000 in
theorem f199_184 : gm_fetch 199 184 = some (185, .iadd, 0, 0, 0, 0) := (fe199 184).trans rfl
set_option maxRecDepth 20000 in
theorem f199_185 : gm_fetch 199 185 = some (186, .iaload, 0, 0, 0, 0) := (fe199 185).trans rfl
set_option maxRecDepth 20000 in
theorem f199_186 : gm_fetch 199 186 = some (187, .aload_n 0, 0, 0, 0, 0) := (fe199 186).trans rfl
set_option maxRecDepth 20000 in
theorem f199_187 : gm_fetch 199 187 = some (188, .iload_n 3, 0, 0, 0, 0) := (fe199 187).trans rfl
set_option maxRecDepth 20000 in
theorem f199_188 : gm_fetch 199 188 = some (189, .iconst 2, 0, 0, 0, 0) := (fe199 188).trans rfl
set_option maxRecDepth 20000 in
theorem f199_189 : gm_fetch 199 189 = some (190, .iadd, 0, 0, 0, 0) := (fe199 189).trans rfl
set_option maxRecDepth 20000 in
theorem f199_190 : gm_fetch 199 190 = some (191, .iaload, 0, 0, 0, 0) := (fe199 190).trans rfl
set_option maxRecDepth 20000 in
theorem f199_191 : gm_fetch 199 191 = some (194, .invokevirtual 13, 14, 71, 0, 0) := (fe199 191).trans rfl
set_option maxRecDepth 20000 in
theorem f199_194 : gm_fetch 199 194 = some (195, .aload_n 2, 0, 0, 0, 0) := (fe199 194).trans rfl
set_option maxRecDepth 20000 in
theorem f199_195 : gm_fetch 199 195 = some (196, .aload_n 0, 0, 0, 0, 0) := (fe199 195).trans rfl
set_option maxRecDepth 20000 in
theorem f199_196 : gm_fetch 199 196 = some (197, .iload_n 3, 0, 0, 0, 0) := (fe199 196).trans rfl
set_option maxRecDepth 20000 in
theorem f199_197 : gm_fetch 199 197 = some (198, .iconst 1, 0, 0, 0, 0) := (fe199 197).trans rfl
set_option maxRecDepth 20000 in
theorem f199_198 : gm_fetch 199 198 = some (199, .iadd, 0, 0, 0, 0) := (fe199 198).trans rfl
set_option maxRecDepth 20000 in
theorem f199_199 : gm_fetch 199 199 = some (200, .iaload, 0, 0, 0, 0) := (fe199 199).trans rfl
set_option maxRecDepth 20000 in
theorem f199_200 : gm_fetch 199 200 = some (201, .aload_n 0, 0, 0, 0, 0) := (fe199 200).trans rfl
set_option maxRecDepth 20000 in
theorem f199_201 : gm_fetch 199 201 = some (202, .iload_n 3, 0, 0, 0, 0) := (fe199 201).trans rfl
set_option maxRecDepth 20000 in
theorem f199_202 : gm_fetch 199 202 = some (203, .iconst 2, 0, 0, 0, 0) := (fe199 202).trans rfl
set_option maxRecDepth 20000 in
theorem f199_203 : gm_fetch 199 203 = some (204, .iadd, 0, 0, 0, 0) := (fe199 203).trans rfl
set_option maxRecDepth 20000 in
theorem f199_204 : gm_fetch 199 204 = some (205, .iaload, 0, 0, 0, 0) := (fe199 204).trans rfl
set_option maxRecDepth 20000 in
theorem f199_205 : gm_fetch 199 205 = some (208, .invokevirtual 17, 166, 132, 0, 0) := (fe199 205).trans rfl
set_option maxRecDepth 20000 in
theorem f199_208 : gm_fetch 199 208 = some (211, .if_icmp .eq 843, 0, 1051, 0, 0) := (fe199 208).trans rfl
set_option maxRecDepth 20000 in
theorem f199_211 : gm_fetch 199 211 = some (212, .iconst 0, 0, 0, 0, 0) := (fe199 211).trans rfl
set_option maxRecDepth 20000 in
theorem f199_212 : gm_fetch 199 212 = some (213, .ireturn, 0, 0, 0, 0) := (fe199 212).trans rfl
set_option maxRecDepth 20000 in
theorem f199_213 : gm_fetch 199 213 = some (214, .aload_n 1, 0, 0, 0, 0) := (fe199 213).trans rfl
set_option maxRecDepth 20000 in
theorem f199_214 : gm_fetch 199 214 = some (215, .aload_n 0, 0, 0, 0, 0) := (fe199 214).trans rfl
set_option maxRecDepth 20000 in
theorem f199_215 : gm_fetch 199 215 = some (216, .iload_n 3, 0, 0, 0, 0) := (fe199 215).trans rfl
set_option maxRecDepth 20000 in
theorem f199_216 : gm_fetch 199 216 = some (217, .iconst 1, 0, 0, 0, 0) := (fe199 216).trans rfl
set_option maxRecDepth 20000 in
theorem f199_217 : gm_fetch 199 217 = some (218, .iadd, 0, 0, 0, 0) := (fe199 217).trans rfl
set_option maxRecDepth 20000 in
theorem f199_218 : gm_fetch 199 218 = some (219, .iaload, 0, 0, 0, 0) := (fe199 218).trans rfl
set_option maxRecDepth 20000 in
theorem f199_219 : gm_fetch 199 219 = some (222, .invokevirtual 18, 19, 72, 0, 0) := (fe199 219).trans rfl
set_option maxRecDepth 20000 in
theorem f199_222 : gm_fetch 199 222 = some (223, .aload_n 2, 0, 0, 0, 0) := (fe199 222).trans rfl
set_option maxRecDepth 20000 in
theorem f199_223 : gm_fetch 199 223 = some (224, .aload_n 0, 0, 0, 0, 0) := (fe199 223).trans rfl
set_option maxRecDepth 20000 in
theorem f199_224 : gm_fetch 199 224 = some (225, .iload_n 3, 0, 0, 0, 0) := (fe199 224).trans rfl
set_option maxRecDepth 20000 in
theorem f199_225 : gm_fetch 199 225 = some (226, .iconst 1, 0, 0, 0, 0) := (fe199 225).trans rfl
set_option maxRecDepth 20000 in
theorem f199_226 : gm_fetch 199 226 = some (227, .iadd, 0, 0, 0, 0) := (fe199 226).trans rfl
set_option maxRecDepth 20000 in
theorem f199_227 : gm_fetch 199 227 = some (228, .iaload, 0, 0, 0, 0) := (fe199 227).trans rfl
set_option maxRecDepth 20000 in
theorem f199_228 : gm_fetch 199 228 = some (231, .invokevirtual 22, 168, 133, 0, 0) := (fe199 228).trans rfl
set_option maxRecDepth 20000 in
theorem f199_231 : gm_fetch 199 231 = some (234, .if_icmp .eq 820, 0, 1051, 0, 0) := (fe199 231).trans rfl
set_option maxRecDepth 20000 in
theorem f199_234 : gm_fetch 199 234 = some (235, .iconst 0, 0, 0, 0, 0) := (fe199 234).trans rfl
set_option maxRecDepth 20000 in
theorem f199_235 : gm_fetch 199 235 = some (236, .ireturn, 0, 0, 0, 0) := (fe199 235).trans rfl
set_option maxRecDepth 20000 in
theorem f199_236 : gm_fetch 199 236 = some (237, .aload_n 1, 0, 0, 0, 0) := (fe199 236).trans rfl
set_option maxRecDepth 20000 in
theorem f199_237 : gm_fetch 199 237 = some (238, .aload_n 0, 0, 0, 0, 0) := (fe199 237).trans rfl
set_option maxRecDepth 20000 in
theorem f199_238 : gm_fetch 199 238 = some (239, .iload_n 3, 0, 0, 0, 0) := (fe199 238).trans rfl
set_option maxRecDepth 20000 in
theorem f199_239 : gm_fetch 199 239 = some (240, .iconst 1, 0, 0, 0, 0) := (fe199 239).trans rfl
set_option maxRecDepth 20000 in
theorem f199_240 : gm_fetch 199 240 = some (241, .iadd, 0, 0, 0, 0) := (fe199 240).trans rfl
set_option maxRecDepth 20000 in
theorem f199_241 : gm_fetch 199 241 = some (242, .iaload, 0, 0, 0, 0) := (fe199 241).trans rfl
set_option maxRecDepth 20000 in
theorem f199_242 : gm_fetch 199 242 = some (245, .invokevirtual 23, 21, 73, 0, 0) := (fe199 242).trans rfl
set_option maxRecDepth 20000 in
theorem f199_245 : gm_fetch 199 245 = some (246, .aload_n 2, 0, 0, 0, 0) := (fe199 245).trans rfl
set_option maxRecDepth 20000 in
theorem f199_246 : gm_fetch 199 246 = some (247, .aload_n 0, 0, 0, 0, 0) := (fe199 246).trans rfl
set_option maxRecDepth 20000 in
theorem f199_247 : gm_fetch 199 247 = some (248, .iload_n 3, 0, 0, 0, 0) := (fe199 247).trans rfl
set_option maxRecDepth 20000 in
theorem f199_248 : gm_fetch 199 248 = some (249, .iconst 1, 0, 0, 0, 0) := (fe199 248).trans rfl
set_option maxRecDepth 20000 in
theorem f199_249 : gm_fetch 199 249 = some (250, .iadd, 0, 0, 0, 0) := (fe199 249).trans rfl
set_option maxRecDepth 20000 in
theorem f199_250 : gm_fetch 199 250 = some (251, .iaload, 0, 0, 0, 0) := (fe199 250).trans rfl
set_option maxRecDepth 20000 in
theorem f199_251 : gm_fetch 199 251 = some (254, .invokevirtual 26, 169, 134, 0, 0) := (fe199 251).trans rfl
set_option maxRecDepth 20000 in
theorem f199_254 : gm_fetch 199 254 = some (257, .if_icmp .eq 797, 0, 1051, 0, 0) := (fe199 254).trans rfl
set_option maxRecDepth 20000 in
theorem f199_257 : gm_fetch 199 257 = some (258, .iconst 0, 0, 0, 0, 0) := (fe199 257).trans rfl
set_option maxRecDepth 20000 in
theorem f199_258 : gm_fetch 199 258 = some (259, .ireturn, 0, 0, 0, 0) := (fe199 258).trans rfl
set_option maxRecDepth 20000 in
theorem f199_259 : gm_fetch 199 259 = some (260, .aload_n 1, 0, 0, 0, 0) := (fe199 259).trans rfl
set_option maxRecDepth 20000 in
theorem f199_260 : gm_fetch 199 260 = some (261, .aload_n 0, 0, 0, 0, 0) := (fe199 260).trans rfl
set_option maxRecDepth 20000 in
theorem f199_261 : gm_fetch 199 261 = some (262, .iload_n 3, 0, 0, 0, 0) := (fe199 261).trans rfl
set_option maxRecDepth 20000 in
theorem f199_262 : gm_fetch 199 262 = some (263, .iconst 1, 0, 0, 0, 0) := (fe199 262).trans rfl
set_option maxRecDepth 20000 in
theorem f199_263 : gm_fetch 199 263 = some (264, .iadd, 0, 0, 0, 0) := (fe199 263).trans rfl
set_option maxRecDepth 20000 in
theorem f199_264 : gm_fetch 199 264 = some (265, .iaload, 0, 0, 0, 0) := (fe199 264).trans rfl
set_option maxRecDepth 20000 in
theorem f199_265 : gm_fetch 199 265 = some (268, .invokevirtual 27, 23, 74, 0, 0) := (fe199 265).trans rfl
set_option maxRecDepth 20000 in
theorem f199_268 : gm_fetch 199 268 = some (269, .aload_n 2, 0, 0, 0, 0) := (fe199 268).trans rfl
set_option maxRecDepth 20000 in
theorem f199_269 : gm_fetch 199 269 = some (270, .aload_n 0, 0, 0, 0, 0) := (fe199 269).trans rfl
set_option maxRecDepth 20000 in
theorem f199_270 : gm_fetch 199 270 = some (271, .iload_n 3, 0, 0, 0, 0) := (fe199 270).trans rfl
set_option maxRecDepth 20000 in
theorem f199_271 : gm_fetch 199 271 = some (272, .iconst 1, 0, 0, 0, 0) := (fe199 271).trans rfl
set_option maxRecDepth 20000 in
theorem f199_272 : gm_fetch 199 272 = some (273, .iadd, 0, 0, 0, 0) := (fe199 272).trans rfl
set_option maxRecDepth 20000 in
theorem f199_273 : gm_fetch 199 273 = some (274, .iaload, 0, 0, 0, 0) := (fe199 273).trans rfl
set_option maxRecDepth 20000 in
theorem f199_274 : gm_fetch 199 274 = some (277, .invokevirtual 30, 170, 135, 0, 0) := (fe199 274).trans rfl
set_option maxRecDepth 20000 in
theorem f199_277 : gm_fetch 199 277 = some (280, .if_icmp .eq 774, 0, 1051, 0, 0) := (fe199 277).trans rfl
set_option maxRecDepth 20000 in
theorem f199_280 : gm_fetch 199 280 = some (281, .iconst 0, 0, 0, 0, 0) := (fe199 280).trans rfl
set_option maxRecDepth 20000 in
theorem f199_281 : gm_fetch 199 281 = some (282, .ireturn, 0, 0, 0, 0) := (fe199 281).trans rfl
set_option maxRecDepth 20000 in
theorem f199_282 : gm_fetch 199 282 = some (283, .aload_n 1, 0, 0, 0, 0) := (fe199 282).trans rfl
set_option maxRecDepth 20000 in
theorem f199_283 : gm_fetch 199 283 = some (284, .aload_n 0, 0, 0, 0, 0) := (fe199 283).trans rfl
set_option maxRecDepth 20000 in
theorem f199_284 : gm_fetch 199 284 = some (285, .iload_n 3, 0, 0, 0, 0) := (fe199 284).trans rfl
set_option maxRecDepth 20000 in
theorem f199_285 : gm_fetch 199 285 = some (286, .iconst 1, 0, 0, 0, 0) := (fe199 285).trans rfl
set_option maxRecDepth 20000 in
theorem f199_286 : gm_fetch 199 286 = some (287, .iadd, 0, 0, 0, 0) := (fe199 286).trans rfl
set_option maxRecDepth 20000 in
theorem f199_287 : gm_fetch 199 287 = some (288, .iaload, 0, 0, 0, 0) := (fe199 287).trans rfl
set_option maxRecDepth 20000 in
theorem f199_288 : gm_fetch 199 288 = some (289, .aload_n 0, 0, 0, 0, 0) := (fe199 288).trans rfl
set_option maxRecDepth 20000 in
theorem f199_289 : gm_fetch 199 289 = some (290, .iload_n 3, 0, 0, 0, 0) := (fe199 289).trans rfl
set_option maxRecDepth 20000 in
theorem f199_290 : gm_fetch 199 290 = some (291, .iconst 2, 0, 0, 0, 0) := (fe199 290).trans rfl
set_option maxRecDepth 20000 in
theorem f199_291 : gm_fetch 199 291 = some (292, .iadd, 0, 0, 0, 0) := (fe199 291).trans rfl
set_option maxRecDepth 20000 in
theorem f199_292 : gm_fetch 199 292 = some (293, .iaload, 0, 0, 0, 0) := (fe199 292).trans rfl
set_option maxRecDepth 20000 in
theorem f199_293 : gm_fetch 199 293 = some (296, .invokevirtual 31, 25, 75, 0, 0) := (fe199 293).trans rfl
set_option maxRecDepth 20000 in
theorem f199_296 : gm_fetch 199 296 = some (297, .aload_n 2, 0, 0, 0, 0) := (fe199 296).trans rfl
set_option maxRecDepth 20000 in
theorem f199_297 : gm_fetch 199 297 = some (298, .aload_n 0, 0, 0, 0, 0) := (fe199 297).trans rfl
set_option maxRecDepth 20000 in
theorem f199_298 : gm_fetch 199 298 = some (299, .iload_n 3, 0, 0, 0, 0) := (fe199 298).trans rfl
set_option maxRecDepth 20000 in
theorem f199_299 : gm_fetch 199 299 = some (300, .iconst 1, 0, 0, 0, 0) := (fe199 299).trans rfl
set_option maxRecDepth 20000 in
theorem f199_300 : gm_fetch 199 300 = some (301, .iadd, 0, 0, 0, 0) := (fe199 300).trans rfl
set_option maxRecDepth 20000 in
theorem f199_301 : gm_fetch 199 301 = some (302, .iaload, 0, 0, 0, 0) := (fe199 301).trans rfl
set_option maxRecDepth 20000 in
theorem f199_302 : gm_fetch 199 302 = some (303, .aload_n 0, 0, 0, 0, 0) := (fe199 302).trans rfl
set_option maxRecDepth 20000 in
theorem f199_303 : gm_fetch 199 303 = some (304, .iload_n 3, 0, 0, 0, 0) := (fe199 303).trans rfl
set_option maxRecDepth 20000 in
theorem f199_304 : gm_fetch 199 304 = some (305, .iconst 2, 0, 0, 0, 0) := (fe199 304).trans rfl
set_option maxRecDepth 20000 in
theorem f199_305 : gm_fetch 199 305 = some (306, .iadd, 0, 0, 0, 0) := (fe199 305).trans rfl
set_option maxRecDepth 20000 in
theorem f199_306 : gm_fetch 199 306 = some (307, .iaload, 0, 0, 0, 0) := (fe199 306).trans rfl
set_option maxRecDepth 20000 in
theorem f199_307 : gm_fetch 199 307 = some (310, .invokevirtual 34, 171, 136, 0, 0) := (fe199 307).trans rfl
set_option maxRecDepth 20000 in
theorem f199_310 : gm_fetch 199 310 = some (313, .if_icmp .eq 741, 0, 1051, 0, 0) := (fe199 310).trans rfl
set_option maxRecDepth 20000 in
theorem f199_313 : gm_fetch 199 313 = some (314, .iconst 0, 0, 0, 0, 0) := (fe199 313).trans rfl
set_option maxRecDepth 20000 in
theorem f199_314 : gm_fetch 199 314 = some (315, .ireturn, 0, 0, 0, 0) := (fe199 314).trans rfl
set_option maxRecDepth 20000 in
theorem f199_315 : gm_fetch 199 315 = some (316, .aload_n 1, 0, 0, 0, 0) := (fe199 315).trans rfl
set_option maxRecDepth 20000 in
theorem f199_316 : gm_fetch 199 316 = some (317, .aload_n 0, 0, 0, 0, 0) := (fe199 316).trans rfl
set_option maxRecDepth 20000 in
theorem f199_317 : gm_fetch 199 317 = some (318, .iload_n 3, 0, 0, 0, 0) := (fe199 317).trans rfl
set_option maxRecDepth 20000 in
theorem f199_318 : gm_fetch 199 318 = some (319, .iconst 1, 0, 0, 0, 0) := (fe199 318).trans rfl
set_option maxRecDepth 20000 in
theorem f199_319 : gm_fetch 199 319 = some (320, .iadd, 0, 0, 0, 0) := (fe199 319).trans rfl
set_option maxRecDepth 20000 in
theorem f199_320 : gm_fetch 199 320 = some (321, .iaload, 0, 0, 0, 0) := (fe199 320).trans rfl
set_option maxRecDepth 20000 in
theorem f199_321 : gm_fetch 199 321 = some (322, .aload_n 0, 0, 0, 0, 0) := (fe199 321).trans rfl
set_option maxRecDepth 20000 in
theorem f199_322 : gm_fetch 199 322 = some (323, .iload_n 3, 0, 0, 0, 0) := (fe199 322).trans rfl
set_option maxRecDepth 20000 in
theorem f199_323 : gm_fetch 199 323 = some (324, .iconst 2, 0, 0, 0, 0) := (fe199 323).trans rfl
set_option maxRecDepth 20000 in
theorem f199_324 : gm_fetch 199 324 = some (325, .iadd, 0, 0, 0, 0) := (fe199 324).trans rfl
set_option maxRecDepth 20000 in
theorem f199_325 : gm_fetch 199 325 = some (326, .iaload, 0, 0, 0, 0) := (fe199 325).trans rfl
set_option maxRecDepth 20000 in
theorem f199_326 : gm_fetch 199 326 = some (329, .invokevirtual 35, 31, 76, 0, 0) := (fe199 326).trans rfl
set_option maxRecDepth 20000 in
theorem f199_329 : gm_fetch 199 329 = some (330, .aload_n 2, 0, 0, 0, 0) := (fe199 329).trans rfl
set_option maxRecDepth 20000 in
theorem f199_330 : gm_fetch 199 330 = some (331, .aload_n 0, 0, 0, 0, 0) := (fe199 330).trans rfl
set_option maxRecDepth 20000 in
theorem f199_331 : gm_fetch 199 331 = some (332, .iload_n 3, 0, 0, 0, 0) := (fe199 331).trans rfl
set_option maxRecDepth 20000 in
theorem f199_332 : gm_fetch 199 332 = some (333, .iconst 1, 0, 0, 0, 0) := (fe199 332).trans rfl
set_option maxRecDepth 20000 in
theorem f199_333 : gm_fetch 199 333 = some (334, .iadd, 0, 0, 0, 0) := (fe199 333).trans rfl
set_option maxRecDepth 20000 in
theorem f199_334 : gm_fetch 199 334 = some (335, .iaload, 0, 0, 0, 0) := (fe199 334).trans rfl
set_option maxRecDepth 20000 in
theorem f199_335 : gm_fetch 199 335 = some (336, .aload_n 0, 0, 0, 0, 0) := (fe199 335).trans rfl
set_option maxRecDepth 20000 in
theorem f199_336 : gm_fetch 199 336 = some (337, .iload_n 3, 0, 0, 0, 0) := (fe199 336).trans rfl
set_option maxRecDepth 20000 in
theorem f199_337 : gm_fetch 199 337 = some (338, .iconst 2, 0, 0, 0, 0) := (fe199 337).trans rfl
set_option maxRecDepth 20000 in
theorem f199_338 : gm_fetch 199 338 = some (339, .iadd, 0, 0, 0, 0) := (fe199 338).trans rfl
set_option maxRecDepth 20000 in
theorem f199_339 : gm_fetch 199 339 = some (340, .iaload, 0, 0, 0, 0) := (fe199 339).trans rfl
set_option maxRecDepth 20000 in
theorem f199_340 : gm_fetch 199 340 = some (343, .invokevirtual 38, 177, 138, 0, 0) := (fe199 340).trans rfl
set_option maxRecDepth 20000 in
theorem f199_343 : gm_fetch 199 343 = some (346, .if_icmp .eq 708, 0, 1051, 0, 0) := (fe199 343).trans rfl
set_option maxRecDepth 20000 in
theorem f199_346 : gm_fetch 199 346 = some (347, .iconst 0, 0, 0, 0, 0) := (fe199 346).trans rfl
set_option maxRecDepth 20000 in
theorem f199_347 : gm_fetch 199 347 = some (348, .ireturn, 0, 0, 0, 0) := (fe199 347).trans rfl
set_option maxRecDepth 20000 in
theorem f199_348 : gm_fetch 199 348 = some (349, .aload_n 1, 0, 0, 0, 0) := (fe199 348).trans rfl
set_option maxRecDepth 20000 in
theorem f199_349 : gm_fetch 199 349 = some (350, .aload_n 0, 0, 0, 0, 0) := (fe199 349).trans rfl
set_option maxRecDepth 20000 in
theorem f199_350 : gm_fetch 199 350 = some (351, .iload_n 3, 0, 0, 0, 0) := (fe199 350).trans rfl
set_option maxRecDepth 20000 in
theorem f199_351 : gm_fetch 199 351 = some (352, .iconst 1, 0, 0, 0, 0) := (fe199 351).trans rfl
set_option maxRecDepth 20000 in
theorem f199_352 : gm_fetch 199 352 = some (353, .iadd, 0, 0, 0, 0) := (fe199 352).trans rfl
set_option maxRecDepth 20000 in
theorem f199_353 : gm_fetch 199 353 = some (354, .iaload, 0, 0, 0, 0) := (fe199 353).trans rfl
set_option maxRecDepth 20000 in
theorem f199_354 : gm_fetch 199 354 = some (355, .aload_n 0, 0, 0, 0, 0) := (fe199 354).trans rfl
set_option maxRecDepth 20000 in
theorem f199_355 : gm_fetch 199 355 = some (356, .iload_n 3, 0, 0, 0, 0) := (fe199 355).trans rfl
set_option maxRecDepth 20000 in
theorem f199_356 : gm_fetch 199 356 = some (357, .iconst 2, 0, 0, 0, 0) := (fe199 356).trans rfl
set_option maxRecDepth 20000 in
theorem f199_357 : gm_fetch 199 357 = some (358, .iadd, 0, 0, 0, 0) := (fe199 357).trans rfl
set_option maxRecDepth 20000 in
theorem f199_358 : gm_fetch 199 358 = some (359, .iaload, 0, 0, 0, 0) := (fe199 358).trans rfl
set_option maxRecDepth 20000 in
theorem f199_359 : gm_fetch 199 359 = some (362, .invokevirtual 39, 32, 77, 0, 0) := (fe199 359).trans rfl
set_option maxRecDepth 20000 in
theorem f199_362 : gm_fetch 199 362 = some (363, .aload_n 2, 0, 0, 0, 0) := (fe199 362).trans rfl
set_option maxRecDepth 20000 in
theorem f199_363 : gm_fetch 199 363 = some (364, .aload_n 0, 0, 0, 0, 0) := (fe199 363).trans rfl
set_option maxRecDepth 20000 in
theorem f199_364 : gm_fetch 199 364 = some (365, .iload_n 3, 0, 0, 0, 0) := (fe199 364).trans rfl
set_option maxRecDepth 20000 in
theorem f199_365 : gm_fetch 199 365 = some (366, .iconst 1, 0, 0, 0, 0) := (fe199 365).trans rfl
set_option maxRecDepth 20000 in
theorem f199_366 : gm_fetch 199 366 = some (367, .iadd, 0, 0, 0, 0) := (fe199 366).trans rfl
set_option maxRecDepth 20000 in
theorem f199_367 : gm_fetch 199 367 = some (368, .iaload, 0, 0, 0, 0) := (fe199 367).trans rfl
set_option maxRecDepth 20000 in
theorem f199_368 : gm_fetch 199 368 = some (369, .aload_n 0, 0, 0, 0, 0) := (fe199 368).trans rfl
set_option maxRecDepth 20000 in
theorem f199_369 : gm_fetch 199 369 = some (370, .iload_n 3, 0, 0, 0, 0) := (fe199 369).trans rfl
set_option maxRecDepth 20000 in
theorem f199_370 : gm_fetch 199 370 = some (371, .iconst 2, 0, 0, 0, 0) := (fe199 370).trans rfl
set_option maxRecDepth 20000 in
theorem f199_371 : gm_fetch 199 371 = some (372, .iadd, 0, 0, 0, 0) := (fe199 371).trans rfl
set_option maxRecDepth 20000 in
theorem f199_372 : gm_fetch 199 372 = some (373, .iaload, 0, 0, 0, 0) := (fe199 372).trans rfl
set_option maxRecDepth 20000 in
theorem f199_373 : gm_fetch 199 373 = some (376, .invokevirtual 42, 179, 139, 0, 0) := (fe199 373).trans rfl
set_option maxRecDepth 20000 in
theorem f199_376 : gm_fetch 199 376 = some (379, .if_icmp .eq 675, 0, 1051, 0, 0) := (fe199 376).trans rfl
set_option maxRecDepth 20000 in
theorem f199_379 : gm_fetch 199 379 = some (380, .iconst 0, 0, 0, 0, 0) := (fe199 379).trans rfl
set_option maxRecDepth 20000 in
theorem f199_380 : gm_fetch 199 380 = some (381, .ireturn, 0, 0, 0, 0) := (fe199 380).trans rfl
set_option maxRecDepth 20000 in
theorem f199_381 : gm_fetch 199 381 = some (382, .aload_n 1, 0, 0, 0, 0) := (fe199 381).trans rfl
set_option maxRecDepth 20000 in
theorem f199_382 : gm_fetch 199 382 = some (383, .aload_n 0, 0, 0, 0, 0) := (fe199 382).trans rfl
set_option maxRecDepth 20000 in
theorem f199_383 : gm_fetch 199 383 = some (384, .iload_n 3, 0, 0, 0, 0) := (fe199 383).trans rfl
set_option maxRecDepth 20000 in
theorem f199_384 : gm_fetch 199 384 = some (385, .iconst 1, 0, 0, 0, 0) := (fe199 384).trans rfl
set_option maxRecDepth 20000 in
theorem f199_385 : gm_fetch 199 385 = some (386, .iadd, 0, 0, 0, 0) := (fe199 385).trans rfl
set_option maxRecDepth 20000 in
theorem f199_386 : gm_fetch 199 386 = some (387, .iaload, 0, 0, 0, 0) := (fe199 386).trans rfl
set_option maxRecDepth 20000 in
theorem f199_387 : gm_fetch 199 387 = some (388, .aload_n 0, 0, 0, 0, 0) := (fe199 387).trans rfl
set_option maxRecDepth 20000 in
theorem f199_388 : gm_fetch 199 388 = some (389, .iload_n 3, 0, 0, 0, 0) := (fe199 388).trans rfl
set_option maxRecDepth 20000 in
theorem f199_389 : gm_fetch 199 389 = some (390, .iconst 2, 0, 0, 0, 0) := (fe199 389).trans rfl
set_option maxRecDepth 20000 in
theorem f199_390 : gm_fetch 199 390 = some (391, .iadd, 0, 0, 0, 0) := (fe199 390).trans rfl
set_option maxRecDepth 20000 in
theorem f199_391 : gm_fetch 199 391 = some (392, .iaload, 0, 0, 0, 0) := (fe199 391).trans rfl
set_option maxRecDepth 20000 in
theorem f199_392 : gm_fetch 199 392 = some (393, .aload_n 0, 0, 0, 0, 0) := (fe199 392).trans rfl
set_option maxRecDepth 20000 in
theorem f199_393 : gm_fetch 199 393 = some (394, .iload_n 3, 0, 0, 0, 0) := (fe199 393).trans rfl
set_option maxRecDepth 20000 in
theorem f199_394 : gm_fetch 199 394 = some (395, .iconst 3, 0, 0, 0, 0) := (fe199 394).trans rfl
set_option maxRecDepth 20000 in
theorem f199_395 : gm_fetch 199 395 = some (396, .iadd, 0, 0, 0, 0) := (fe199 395).trans rfl
set_option maxRecDepth 20000 in
theorem f199_396 : gm_fetch 199 396 = some (397, .iaload, 0, 0, 0, 0) := (fe199 396).trans rfl
set_option maxRecDepth 20000 in
theorem f199_397 : gm_fetch 199 397 = some (400, .invokevirtual 43, 37, 78, 0, 0) := (fe199 397).trans rfl
set_option maxRecDepth 20000 in
theorem f199_400 : gm_fetch 199 400 = some (401, .aload_n 2, 0, 0, 0, 0) := (fe199 400).trans rfl
set_option maxRecDepth 20000 in
theorem f199_401 : gm_fetch 199 401 = some (402, .aload_n 0, 0, 0, 0, 0) := (fe199 401).trans rfl
set_option maxRecDepth 20000 in
theorem f199_402 : gm_fetch 199 402 = some (403, .iload_n 3, 0, 0, 0, 0) := (fe199 402).trans rfl
set_option maxRecDepth 20000 in
theorem f199_403 : gm_fetch 199 403 = some (404, .iconst 1, 0, 0, 0, 0) := (fe199 403).trans rfl
set_option maxRecDepth 20000 in
theorem f199_404 : gm_fetch 199 404 = some (405, .iadd, 0, 0, 0, 0) := (fe199 404).trans rfl
set_option maxRecDepth 20000 in
theorem f199_405 : gm_fetch 199 405 = some (406, .iaload, 0, 0, 0, 0) := (fe199 405).trans rfl
set_option maxRecDepth 20000 in
theorem f199_406 : gm_fetch 199 406 = some (407, .aload_n 0, 0, 0, 0, 0) := (fe199 406).trans rfl
set_option maxRecDepth 20000 in
theorem f199_407 : gm_fetch 199 407 = some (408, .iload_n 3, 0, 0, 0, 0) := (fe199 407).trans rfl
set_option maxRecDepth 20000 in
theorem f199_408 : gm_fetch 199 408 = some (409, .iconst 2, 0, 0, 0, 0) := (fe199 408).trans rfl
set_option maxRecDepth 20000 in
theorem f199_409 : gm_fetch 199 409 = some (410, .iadd, 0, 0, 0, 0) := (fe199 409).trans rfl
set_option maxRecDepth 20000 in
theorem f199_410 : gm_fetch 199 410 = some (411, .iaload, 0, 0, 0, 0) := (fe199 410).trans rfl
set_option maxRecDepth 20000 in
theorem f199_411 : gm_fetch 199 411 = some (412, .aload_n 0, 0, 0, 0, 0) := (fe199 411).trans rfl
set_option maxRecDepth 20000 in
theorem f199_412 : gm_fetch 199 412 = some (413, .iload_n 3, 0, 0, 0, 0) := (fe199 412).trans rfl
set_option maxRecDepth 20000 in
theorem f199_413 : gm_fetch 199 413 = some (414, .iconst 3, 0, 0, 0, 0) := (fe199 413).trans rfl
set_option maxRecDepth 20000 in
theorem f199_414 : gm_fetch 199 414 = some (415, .iadd, 0, 0, 0, 0) := (fe199 414).trans rfl
set_option maxRecDepth 20000 in
theorem f199_415 : gm_fetch 199 415 = some (416, .iaload, 0, 0, 0, 0) := (fe199 415).trans rfl
set_option maxRecDepth 20000 in
theorem f199_416 : gm_fetch 199 416 = some (419, .invokevirtual 47, 222, 182, 0, 0) := (fe199 416).trans rfl
set_option maxRecDepth 20000 in
theorem f199_419 : gm_fetch 199 419 = some (422, .if_icmp .eq 632, 0, 1051, 0, 0) := (fe199 419).trans rfl
set_option maxRecDepth 20000 in
theorem f199_422 : gm_fetch 199 422 = some (423, .iconst 0, 0, 0, 0, 0) := (fe199 422).trans rfl
set_option maxRecDepth 20000 in
theorem f199_423 : gm_fetch 199 423 = some (424, .ireturn, 0, 0, 0, 0) := (fe199 423).trans rfl
set_option maxRecDepth 20000 in
theorem f199_424 : gm_fetch 199 424 = some (425, .aload_n 1, 0, 0, 0, 0) := (fe199 424).trans rfl
set_option maxRecDepth 20000 in
theorem f199_425 : gm_fetch 199 425 = some (428, .invokevirtual 48, 76, 79, 0, 0) := (fe199 425).trans rfl
set_option maxRecDepth 20000 in
theorem f199_428 : gm_fetch 199 428 = some (429, .aload_n 2, 0, 0, 0, 0) := (fe199 428).trans rfl
set_option maxRecDepth 20000 in
theorem f199_429 : gm_fetch 199 429 = some (432, .invokevirtual 52, 180, 146, 0, 0) := (fe199 429).trans rfl
set_option maxRecDepth 20000 in
theorem f199_432 : gm_fetch 199 432 = some (435, .if_icmp .eq 619, 0, 1051, 0, 0) := (fe199 432).trans rfl
set_option maxRecDepth 20000 in
theorem f199_435 : gm_fetch 199 435 = some (436, .iconst 0, 0, 0, 0, 0) := (fe199 435).trans rfl
set_option maxRecDepth 20000 in
theorem f199_436 : gm_fetch 199 436 = some (437, .ireturn, 0, 0, 0, 0) := (fe199 436).trans rfl
set_option maxRecDepth 20000 in
theorem f199_437 : gm_fetch 199 437 = some (438, .aload_n 1, 0, 0, 0, 0) := (fe199 437).trans rfl
set_option maxRecDepth 20000 in
theorem f199_438 : gm_fetch 199 438 = some (441, .invokevirtual 53, 78, 80, 0, 0) := (fe199 438).trans rfl
set_option maxRecDepth 20000 in
theorem f199_441 : gm_fetch 199 441 = some (442, .aload_n 2, 0, 0, 0, 0) := (fe199 441).trans rfl
set_option maxRecDepth 20000 in
theorem f199_442 : gm_fetch 199 442 = some (445, .invokevirtual 56, 188, 151, 0, 0) := (fe199 442).trans rfl
set_option maxRecDepth 20000 in
theorem f199_445 : gm_fetch 199 445 = some (448, .if_icmp .eq 606, 0, 1051, 0, 0) := (fe199 445).trans rfl
set_option maxRecDepth 20000 in
theorem f199_448 : gm_fetch 199 448 = some (449, .iconst 0, 0, 0, 0, 0) := (fe199 448).trans rfl
set_option maxRecDepth 20000 in
theorem f199_449 : gm_fetch 199 449 = some (450, .ireturn, 0, 0, 0, 0) := (fe199 449).trans rfl
set_option maxRecDepth 20000 in
theorem f199_450 : gm_fetch 199 450 = some (451, .aload_n 1, 0, 0, 0, 0) := (fe199 450).trans rfl
set_option maxRecDepth 20000 in
theorem f199_451 : gm_fetch 199 451 = some (454, .invokevirtual 57, 90, 81, 0, 0) := (fe199 451).trans rfl
set_option maxRecDepth 20000 in
theorem f199_454 : gm_fetch 199 454 = some (455, .aload_n 2, 0, 0, 0, 0) := (fe199 454).trans rfl
set_option maxRecDepth 20000 in
theorem f199_455 : gm_fetch 199 455 = some (458, .invokevirtual 60, 193, 153, 0, 0) := (fe199 455).trans rfl
set_option maxRecDepth 20000 in
theorem f199_458 : gm_fetch 199 458 = some (461, .if_icmp .eq 593, 0, 1051, 0, 0) := (fe199 458).trans rfl
set_option maxRecDepth 20000 in
theorem f199_461 : gm_fetch 199 461 = some (462, .iconst 0, 0, 0, 0, 0) := (fe199 461).trans rfl
set_option maxRecDepth 20000 in
theorem f199_462 : gm_fetch 199 462 = some (463, .ireturn, 0, 0, 0, 0) := (fe199 462).trans rfl
set_option maxRecDepth 20000 in
theorem f199_463 : gm_fetch 199 463 = some (464, .aload_n 1, 0, 0, 0, 0) := (fe199 463).trans rfl
set_option maxRecDepth 20000 in
theorem f199_464 : gm_fetch 199 464 = some (465, .aload_n 0, 0, 0, 0, 0) := (fe199 464).trans rfl
set_option maxRecDepth 20000 in
theorem f199_465 : gm_fetch 199 465 = some (466, .iload_n 3, 0, 0, 0, 0) := (fe199 465).trans rfl
set_option maxRecDepth 20000 in
theorem f199_466 : gm_fetch 199 466 = some (467, .iconst 1, 0, 0, 0, 0) := (fe199 466).trans rfl
set_option maxRecDepth 20000 in
theorem f199_467 : gm_fetch 199 467 = some (468, .iadd, 0, 0, 0, 0) := (fe199 467).trans rfl
set_option maxRecDepth 20000 in
theorem f199_468 : gm_fetch 199 468 = some (469, .iaload, 0, 0, 0, 0) := (fe199 468).trans rfl
set_option maxRecDepth 20000 in
theorem f199_469 : gm_fetch 199 469 = some (470, .aload_n 0, 0, 0, 0, 0) := (fe199 469).trans rfl
set_option maxRecDepth 20000 in
theorem f199_470 : gm_fetch 199 470 = some (471, .iload_n 3, 0, 0, 0, 0) := (fe199 470).trans rfl
set_option maxRecDepth 20000 in
theorem f199_471 : gm_fetch 199 471 = some (472, .iconst 2, 0, 0, 0, 0) := (fe199 471).trans rfl
set_option maxRecDepth 20000 in
theorem f199_472 : gm_fetch 199 472 = some (473, .iadd, 0, 0, 0, 0) := (fe199 472).trans rfl
set_option maxRecDepth 20000 in
theorem f199_473 : gm_fetch 199 473 = some (474, .iaload, 0, 0, 0, 0) := (fe199 473).trans rfl
set_option maxRecDepth 20000 in
theorem f199_474 : gm_fetch 199 474 = some (477, .invokevirtual 61, 91, 82, 0, 0) := (fe199 474).trans rfl
set_option maxRecDepth 20000 in
theorem f199_477 : gm_fetch 199 477 = some (478, .aload_n 2, 0, 0, 0, 0) := (fe199 477).trans rfl
set_option maxRecDepth 20000 in
theorem f199_478 : gm_fetch 199 478 = some (479, .aload_n 0, 0, 0, 0, 0) := (fe199 478).trans rfl
set_option maxRecDepth 20000 in
theorem f199_479 : gm_fetch 199 479 = some (480, .iload_n 3, 0, 0, 0, 0) := (fe199 479).trans rfl
set_option maxRecDepth 20000 in
theorem f199_480 : gm_fetch 199 480 = some (481, .iconst 1, 0, 0, 0, 0) := (fe199 480).trans rfl
set_option maxRecDepth 20000 in
theorem f199_481 : gm_fetch 199 481 = some (482, .iadd, 0, 0, 0, 0) := (fe199 481).trans rfl
set_option maxRecDepth 20000 in
theorem f199_482 : gm_fetch 199 482 = some (483, .iaload, 0, 0, 0, 0) := (fe199 482).trans rfl
set_option maxRecDepth 20000 in
theorem f199_483 : gm_fetch 199 483 = some (484, .aload_n 0, 0, 0, 0, 0) := (fe199 483).trans rfl
set_option maxRecDepth 20000 in
theorem f199_484 : gm_fetch 199 484 = some (485, .iload_n 3, 0, 0, 0, 0) := (fe199 484).trans rfl
set_option maxRecDepth 20000 in
theorem f199_485 : gm_fetch 199 485 = some (486, .iconst 2, 0, 0, 0, 0) := (fe199 485).trans rfl
set_option maxRecDepth 20000 in
theorem f199_486 : gm_fetch 199 486 = some (487, .iadd, 0, 0, 0, 0) := (fe199 486).trans rfl
set_option maxRecDepth 20000 in
theorem f199_487 : gm_fetch 199 487 = some (488, .iaload, 0, 0, 0, 0) := (fe199 487).trans rfl
set_option maxRecDepth 20000 in
theorem f199_488 : gm_fetch 199 488 = some (491, .invokevirtual 64, 195, 154, 0, 0) := (fe199 488).trans rfl
set_option maxRecDepth 20000 in
theorem f199_491 : gm_fetch 199 491 = some (494, .if_icmp .eq 560, 0, 1051, 0, 0) := (fe199 491).trans rfl
set_option maxRecDepth 20000 in
theorem f199_494 : gm_fetch 199 494 = some (495, .iconst 0, 0, 0, 0, 0) := (fe199 494).trans rfl
set_option maxRecDepth 20000 in
theorem f199_495 : gm_fetch 199 495 = some (496, .ireturn, 0, 0, 0, 0) := (fe199 495).trans rfl
set_option maxRecDepth 20000 in
theorem f199_496 : gm_fetch 199 496 = some (497, .aload_n 1, 0, 0, 0, 0) := (fe199 496).trans rfl
set_option maxRecDepth 20000 in
theorem f199_497 : gm_fetch 199 497 = some (498, .aload_n 0, 0, 0, 0, 0) := (fe199 497).trans rfl
set_option maxRecDepth 20000 in
theorem f199_498 : gm_fetch 199 498 = some (499, .iload_n 3, 0, 0, 0, 0) := (fe199 498).trans rfl
set_option maxRecDepth 20000 in
theorem f199_499 : gm_fetch 199 499 = some (500, .iconst 1, 0, 0, 0, 0) := (fe199 499).trans rfl
set_option maxRecDepth 20000 in
theorem f199_500 : gm_fetch 199 500 = some (501, .iadd, 0, 0, 0, 0) := (fe199 500).trans rfl
set_option maxRecDepth 20000 in
theorem f199_501 : gm_fetch 199 501 = some (502, .iaload, 0, 0, 0, 0) := (fe199 501).trans rfl
set_option maxRecDepth 20000 in
theorem f199_502 : gm_fetch 199 502 = some (503, .aload_n 0, 0, 0, 0, 0) := (fe199 502).trans rfl
set_option maxRecDepth 20000 in
theorem f199_503 : gm_fetch 199 503 = some (504, .iload_n 3, 0, 0, 0, 0) := (fe199 503).trans rfl
set_option maxRecDepth 20000 in
theorem f199_504 : gm_fetch 199 504 = some (505, .iconst 2, 0, 0, 0, 0) := (fe199 504).trans rfl
set_option maxRecDepth 20000 in
theorem f199_505 : gm_fetch 199 505 = some (506, .iadd, 0, 0, 0, 0) := (fe199 505).trans rfl
set_option maxRecDepth 20000 in
theorem f199_506 : gm_fetch 199 506 = some (507, .iaload, 0, 0, 0, 0) := (fe199 506).trans rfl
set_option maxRecDepth 20000 in
theorem f199_507 : gm_fetch 199 507 = some (510, .invokevirtual 65, 94, 83, 0, 0) := (fe199 507).trans rfl
set_option maxRecDepth 20000 in
theorem f199_510 : gm_fetch 199 510 = some (511, .aload_n 2, 0, 0, 0, 0) := (fe199 510).trans rfl
set_option maxRecDepth 20000 in
theorem f199_511 : gm_fetch 199 511 = some (512, .aload_n 0, 0, 0, 0, 0) := (fe199 511).trans rfl
set_option maxRecDepth 20000 in
theorem f199_512 : gm_fetch 199 512 = some (513, .iload_n 3, 0, 0, 0, 0) := (fe199 512).trans rfl
set_option maxRecDepth 20000 in
theorem f199_513 : gm_fetch 199 513 = some (514, .iconst 1, 0, 0, 0, 0) := (fe199 513).trans rfl
set_option maxRecDepth 20000 in
theorem f199_514 : gm_fetch 199 514 = some (515, .iadd, 0, 0, 0, 0) := (fe199 514).trans rfl
set_option maxRecDepth 20000 in
theorem f199_515 : gm_fetch 199 515 = some (516, .iaload, 0, 0, 0, 0) := (fe199 515).trans rfl
set_option maxRecDepth 20000 in
theorem f199_516 : gm_fetch 199 516 = some (517, .aload_n 0, 0, 0, 0, 0) := (fe199 516).trans rfl
set_option maxRecDepth 20000 in
theorem f199_517 : gm_fetch 199 517 = some (518, .iload_n 3, 0, 0, 0, 0) := (fe199 517).trans rfl
set_option maxRecDepth 20000 in
theorem f199_518 : gm_fetch 199 518 = some (519, .iconst 2, 0, 0, 0, 0) := (fe199 518).trans rfl
set_option maxRecDepth 20000 in
theorem f199_519 : gm_fetch 199 519 = some (520, .iadd, 0, 0, 0, 0) := (fe199 519).trans rfl
set_option maxRecDepth 20000 in
theorem f199_520 : gm_fetch 199 520 = some (521, .iaload, 0, 0, 0, 0) := (fe199 520).trans rfl
set_option maxRecDepth 20000 in
theorem f199_521 : gm_fetch 199 521 = some (524, .invokevirtual 68, 196, 156, 0, 0) := (fe199 521).trans rfl
set_option maxRecDepth 20000 in
theorem f199_524 : gm_fetch 199 524 = some (527, .if_icmp .eq 527, 0, 1051, 0, 0) := (fe199 524).trans rfl
set_option maxRecDepth 20000 in
theorem f199_527 : gm_fetch 199 527 = some (528, .iconst 0, 0, 0, 0, 0) := (fe199 527).trans rfl
set_option maxRecDepth 20000 in
theorem f199_528 : gm_fetch 199 528 = some (529, .ireturn, 0, 0, 0, 0) := (fe199 528).trans rfl
set_option maxRecDepth 20000 in
theorem f199_529 : gm_fetch 199 529 = some (530, .aload_n 1, 0, 0, 0, 0) := (fe199 529).trans rfl
set_option maxRecDepth 20000 in
theorem f199_530 : gm_fetch 199 530 = some (531, .aload_n 0, 0, 0, 0, 0) := (fe199 530).trans rfl
set_option maxRecDepth 20000 in
theorem f199_531 : gm_fetch 199 531 = some (532, .iload_n 3, 0, 0, 0, 0) := (fe199 531).trans rfl
set_option maxRecDepth 20000 in
theorem f199_532 : gm_fetch 199 532 = some (533, .iconst 1, 0, 0, 0, 0) := (fe199 532).trans rfl
set_option maxRecDepth 20000 in
theorem f199_533 : gm_fetch 199 533 = some (534, .iadd, 0, 0, 0, 0) := (fe199 533).trans rfl
set_option maxRecDepth 20000 in
theorem f199_534 : gm_fetch 199 534 = some (535, .iaload, 0, 0, 0, 0) := (fe199 534).trans rfl
set_option maxRecDepth 20000 in
theorem f199_535 : gm_fetch 199 535 = some (538, .invokevirtual 69, 95, 84, 0, 0) := (fe199 535).trans rfl
set_option maxRecDepth 20000 in
theorem f199_538 : gm_fetch 199 538 = some (539, .aload_n 2, 0, 0, 0, 0) := (fe199 538).trans rfl
set_option maxRecDepth 20000 in
theorem f199_539 : gm_fetch 199 539 = some (540, .aload_n 0, 0, 0, 0, 0) := (fe199 539).trans rfl
set_option maxRecDepth 20000 in
theorem f199_540 : gm_fetch 199 540 = some (541, .iload_n 3, 0, 0, 0, 0) := (fe199 540).trans rfl
set_option maxRecDepth 20000 in
theorem f199_541 : gm_fetch 199 541 = some (542, .iconst 1, 0, 0, 0, 0) := (fe199 541).trans rfl
set_option maxRecDepth 20000 in
theorem f199_542 : gm_fetch 199 542 = some (543, .iadd, 0, 0, 0, 0) := (fe199 542).trans rfl
set_option maxRecDepth 20000 in
theorem f199_543 : gm_fetch 199 543 = some (544, .iaload, 0, 0, 0, 0) := (fe199 543).trans rfl
set_option maxRecDepth 20000 in
theorem f199_544 : gm_fetch 199 544 = some (547, .invokevirtual 72, 198, 158, 0, 0) := (fe199 544).trans rfl
set_option maxRecDepth 20000 in
theorem f199_547 : gm_fetch 199 547 = some (550, .if_icmp .eq 504, 0, 1051, 0, 0) := (fe199 547).trans rfl
set_option maxRecDepth 20000 in
theorem f199_550 : gm_fetch 199 550 = some (551, .iconst 0, 0, 0, 0, 0) := (fe199 550).trans rfl
set_option maxRecDepth 20000 in
theorem f199_551 : gm_fetch 199 551 = some (552, .ireturn, 0, 0, 0, 0) := (fe199 551).trans rfl
set_option maxRecDepth 20000 in
theorem f199_552 : gm_fetch 199 552 = some (553, .aload_n 1, 0, 0, 0, 0) := (fe199 552).trans rfl
set_option maxRecDepth 20000 in
theorem f199_553 : gm_fetch 199 553 = some (556, .invokevirtual 73, 98, 85, 0, 0) := (fe199 553).trans rfl
set_option maxRecDepth 20000 in
theorem f199_556 : gm_fetch 199 556 = some (557, .aload_n 2, 0, 0, 0, 0) := (fe199 556).trans rfl
set_option maxRecDepth 20000 in
theorem f199_557 : gm_fetch 199 557 = some (560, .invokevirtual 76, 200, 160, 0, 0) := (fe199 557).trans rfl
set_option maxRecDepth 20000 in
theorem f199_560 : gm_fetch 199 560 = some (563, .if_icmp .eq 491, 0, 1051, 0, 0) := (fe199 560).trans rfl
set_option maxRecDepth 20000 in
theorem f199_563 : gm_fetch 199 563 = some (564, .iconst 0, 0, 0, 0, 0) := (fe199 563).trans rfl
set_option maxRecDepth 20000 in
theorem f199_564 : gm_fetch 199 564 = some (565, .ireturn, 0, 0, 0, 0) := (fe199 564).trans rfl
set_option maxRecDepth 20000 in
theorem f199_565 : gm_fetch 199 565 = some (566, .aload_n 1, 0, 0, 0, 0) := (fe199 565).trans rfl
set_option maxRecDepth 20000 in
theorem f199_566 : gm_fetch 199 566 = some (567, .aload_n 0, 0, 0, 0, 0) := (fe199 566).trans rfl
set_option maxRecDepth 20000 in
theorem f199_567 : gm_fetch 199 567 = some (568, .iload_n 3, 0, 0, 0, 0) := (fe199 567).trans rfl
set_option maxRecDepth 20000 in
theorem f199_568 : gm_fetch 199 568 = some (569, .iconst 1, 0, 0, 0, 0) := (fe199 568).trans rfl
set_option maxRecDepth 20000 in
theorem f199_569 : gm_fetch 199 569 = some (570, .iadd, 0, 0, 0, 0) := (fe199 569).trans rfl
set_option maxRecDepth 20000 in
theorem f199_570 : gm_fetch 199 570 = some (571, .iaload, 0, 0, 0, 0) := (fe199 570).trans rfl
set_option maxRecDepth 20000 in
theorem f199_571 : gm_fetch 199 571 = some (574, .invokevirtual 77, 105, 86, 0, 0) := (fe199 571).trans rfl
set_option maxRecDepth 20000 in
theorem f199_574 : gm_fetch 199 574 = some (575, .aload_n 2, 0, 0, 0, 0) := (fe199 574).trans rfl
set_option maxRecDepth 20000 in
theorem f199_575 : gm_fetch 199 575 = some (576, .aload_n 0, 0, 0, 0, 0) := (fe199 575).trans rfl
set_option maxRecDepth 20000 in
theorem f199_576 : gm_fetch 199 576 = some (577, .iload_n 3, 0, 0, 0, 0) := (fe199 576).trans rfl
set_option maxRecDepth 20000 in
theorem f199_577 : gm_fetch 199 577 = some (578, .iconst 1, 0, 0, 0, 0) := (fe199 577).trans rfl
set_option maxRecDepth 20000 in
theorem f199_578 : gm_fetch 199 578 = some (579, .iadd, 0, 0, 0, 0) := (fe199 578).trans rfl
set_option maxRecDepth 20000 in
theorem f199_579 : gm_fetch 199 579 = some (580, .iaload, 0, 0, 0, 0) := (fe199 579).trans rfl
set_option maxRecDepth 20000 in
theorem f199_580 : gm_fetch 199 580 = some (583, .invokevirtual 80, 202, 162, 0, 0) := (fe199 580).trans rfl
set_option maxRecDepth 20000 in
theorem f199_583 : gm_fetch 199 583 = some (586, .if_icmp .eq 468, 0, 1051, 0, 0) := (fe199 583).trans rfl
set_option maxRecDepth 20000 in
theorem f199_586 : gm_fetch 199 586 = some (587, .iconst 0, 0, 0, 0, 0) := (fe199 586).trans rfl
set_option maxRecDepth 20000 in
theorem f199_587 : gm_fetch 199 587 = some (588, .ireturn, 0, 0, 0, 0) := (fe199 587).trans rfl
set_option maxRecDepth 20000 in
theorem f199_588 : gm_fetch 199 588 = some (589, .aload_n 1, 0, 0, 0, 0) := (fe199 588).trans rfl
set_option maxRecDepth 20000 in
theorem f199_589 : gm_fetch 199 589 = some (592, .invokevirtual 81, 108, 87, 0, 0) := (fe199 589).trans rfl
set_option maxRecDepth 20000 in
theorem f199_592 : gm_fetch 199 592 = some (593, .aload_n 2, 0, 0, 0, 0) := (fe199 592).trans rfl
set_option maxRecDepth 20000 in
theorem f199_593 : gm_fetch 199 593 = some (596, .invokevirtual 84, 205, 165, 0, 0) := (fe199 593).trans rfl
set_option maxRecDepth 20000 in
theorem f199_596 : gm_fetch 199 596 = some (599, .if_icmp .eq 455, 0, 1051, 0, 0) := (fe199 596).trans rfl
set_option maxRecDepth 20000 in
theorem f199_599 : gm_fetch 199 599 = some (600, .iconst 0, 0, 0, 0, 0) := (fe199 599).trans rfl
set_option maxRecDepth 20000 in
theorem f199_600 : gm_fetch 199 600 = some (601, .ireturn, 0, 0, 0, 0) := (fe199 600).trans rfl
set_option maxRecDepth 20000 in
theorem f199_601 : gm_fetch 199 601 = some (602, .aload_n 1, 0, 0, 0, 0) := (fe199 601).trans rfl
set_option maxRecDepth 20000 in
theorem f199_602 : gm_fetch 199 602 = some (605, .invokevirtual 85, 109, 88, 0, 0) := (fe199 602).trans rfl
set_option maxRecDepth 20000 in
theorem f199_605 : gm_fetch 199 605 = some (606, .aload_n 2, 0, 0, 0, 0) := (fe199 605).trans rfl
set_option maxRecDepth 20000 in
theorem f199_606 : gm_fetch 199 606 = some (609, .invokevirtual 88, 207, 166, 0, 0) := (fe199 606).trans rfl
set_option maxRecDepth 20000 in
theorem f199_609 : gm_fetch 199 609 = some (612, .if_icmp .eq 442, 0, 1051, 0, 0) := (fe199 609).trans rfl
set_option maxRecDepth 20000 in
theorem f199_612 : gm_fetch 199 612 = some (613, .iconst 0, 0, 0, 0, 0) := (fe199 612).trans rfl
set_option maxRecDepth 20000 in
theorem f199_613 : gm_fetch 199 613 = some (614, .ireturn, 0, 0, 0, 0) := (fe199 613).trans rfl
set_option maxRecDepth 20000 in
theorem f199_614 : gm_fetch 199 614 = some (615, .aload_n 1, 0, 0, 0, 0) := (fe199 614).trans rfl
set_option maxRecDepth 20000 in
theorem f199_615 : gm_fetch 199 615 = some (616, .aload_n 0, 0, 0, 0, 0) := (fe199 615).trans rfl
set_option maxRecDepth 20000 in
theorem f199_616 : gm_fetch 199 616 = some (617, .iload_n 3, 0, 0, 0, 0) := (fe199 616).trans rfl
set_option maxRecDepth 20000 in
theorem f199_617 : gm_fetch 199 617 = some (618, .iconst 1, 0, 0, 0, 0) := (fe199 617).trans rfl
set_option maxRecDepth 20000 in
theorem f199_618 : gm_fetch 199 618 = some (619, .iadd, 0, 0, 0, 0) := (fe199 618).trans rfl
set_option maxRecDepth 20000 in
theorem f199_619 : gm_fetch 199 619 = some (620, .iaload, 0, 0, 0, 0) := (fe199 619).trans rfl
set_option maxRecDepth 20000 in
theorem f199_620 : gm_fetch 199 620 = some (623, .invokevirtual 89, 110, 89, 0, 0) := (fe199 620).trans rfl
set_option maxRecDepth 20000 in
theorem f199_623 : gm_fetch 199 623 = some (624, .aload_n 2, 0, 0, 0, 0) := (fe199 623).trans rfl
set_option maxRecDepth 20000 in
theorem f199_624 : gm_fetch 199 624 = some (625, .aload_n 0, 0, 0, 0, 0) := (fe199 624).trans rfl
set_option maxRecDepth 20000 in
theorem f199_625 : gm_fetch 199 625 = some (626, .iload_n 3, 0, 0, 0, 0) := (fe199 625).trans rfl
set_option maxRecDepth 20000 in
theorem f199_626 : gm_fetch 199 626 = some (627, .iconst 1, 0, 0, 0, 0) := (fe199 626).trans rfl
set_option maxRecDepth 20000 in
theorem f199_627 : gm_fetch 199 627 = some (628, .iadd, 0, 0, 0, 0) := (fe199 627).trans rfl
set_option maxRecDepth 20000 in
theorem f199_628 : gm_fetch 199 628 = some (629, .iaload, 0, 0, 0, 0) := (fe199 628).trans rfl
set_option maxRecDepth 20000 in
theorem f199_629 : gm_fetch 199 629 = some (632, .invokevirtual 92, 209, 168, 0, 0) := (fe199 629).trans rfl
set_option maxRecDepth 20000 in
theorem f199_632 : gm_fetch 199 632 = some (635, .if_icmp .eq 419, 0, 1051, 0, 0) := (fe199 632).trans rfl
set_option maxRecDepth 20000 in
theorem f199_635 : gm_fetch 199 635 = some (636, .iconst 0, 0, 0, 0, 0) := (fe199 635).trans rfl
set_option maxRecDepth 20000 in
theorem f199_636 : gm_fetch 199 636 = some (637, .ireturn, 0, 0, 0, 0) := (fe199 636).trans rfl
set_option maxRecDepth 20000 in
theorem f199_637 : gm_fetch 199 637 = some (638, .aload_n 1, 0, 0, 0, 0) := (fe199 637).trans rfl
set_option maxRecDepth 20000 in
theorem f199_638 : gm_fetch 199 638 = some (641, .invokevirtual 93, 113, 90, 0, 0) := (fe199 638).trans rfl
set_option maxRecDepth 20000 in
theorem f199_641 : gm_fetch 199 641 = some (642, .aload_n 2, 0, 0, 0, 0) := (fe199 641).trans rfl
set_option maxRecDepth 20000 in
theorem f199_642 : gm_fetch 199 642 = some (645, .invokevirtual 96, 211, 177, 0, 0) := (fe199 642).trans rfl
set_option maxRecDepth 20000 in
theorem f199_645 : gm_fetch 199 645 = some (648, .if_icmp .eq 406, 0, 1051, 0, 0) := (fe199 645).trans rfl
set_option maxRecDepth 20000 in
theorem f199_648 : gm_fetch 199 648 = some (649, .iconst 0, 0, 0, 0, 0) := (fe199 648).trans rfl
set_option maxRecDepth 20000 in
theorem f199_649 : gm_fetch 199 649 = some (650, .ireturn, 0, 0, 0, 0) := (fe199 649).trans rfl
set_option maxRecDepth 20000 in
theorem f199_650 : gm_fetch 199 650 = some (651, .aload_n 1, 0, 0, 0, 0) := (fe199 650).trans rfl
set_option maxRecDepth 20000 in
theorem f199_651 : gm_fetch 199 651 = some (654, .invokevirtual 97, 115, 91, 0, 0) := (fe199 651).trans rfl
set_option maxRecDepth 20000 in
theorem f199_654 : gm_fetch 199 654 = some (655, .aload_n 2, 0, 0, 0, 0) := (fe199 654).trans rfl
set_option maxRecDepth 20000 in
theorem f199_655 : gm_fetch 199 655 = some (658, .invokevirtual 101, 220, 179, 0, 0) := (fe199 655).trans rfl
set_option maxRecDepth 20000 in
theorem f199_658 : gm_fetch 199 658 = some (659, .lcmp, 0, 0, 0, 0) := (fe199 658).trans rfl
set_option maxRecDepth 20000 in
theorem f199_659 : gm_fetch 199 659 = some (662, .ifCond .eq 392, 0, 1051, 0, 0) := (fe199 659).trans rfl
set_option maxRecDepth 20000 in
theorem f199_662 : gm_fetch 199 662 = some (663, .iconst 0, 0, 0, 0, 0) := (fe199 662).trans rfl
set_option maxRecDepth 20000 in
theorem f199_663 : gm_fetch 199 663 = some (664, .ireturn, 0, 0, 0, 0) := (fe199 663).trans rfl
set_option maxRecDepth 20000 in
theorem f199_664 : gm_fetch 199 664 = some (665, .aload_n 1, 0, 0, 0, 0) := (fe199 664).trans rfl
set_option maxRecDepth 20000 in
theorem f199_665 : gm_fetch 199 665 = some (666, .aload_n 0, 0, 0, 0, 0) := (fe199 665).trans rfl
set_option maxRecDepth 20000 in
theorem f199_666 : gm_fetch 199 666 = some (667, .iload_n 3, 0, 0, 0, 0) := (fe199 666).trans rfl
set_option maxRecDepth 20000 in
theorem f199_667 : gm_fetch 199 667 = some (668, .iconst 1, 0, 0, 0, 0) := (fe199 667).trans rfl
set_option maxRecDepth 20000 in
theorem f199_668 : gm_fetch 199 668 = some (669, .iadd, 0, 0, 0, 0) := (fe199 668).trans rfl
set_option maxRecDepth 20000 in
theorem f199_669 : gm_fetch 199 669 = some (670, .iaload, 0, 0, 0, 0) := (fe199 669).trans rfl
set_option maxRecDepth 20000 in
theorem f199_670 : gm_fetch 199 670 = some (673, .invokevirtual 102, 116, 92, 0, 0) := (fe199 670).trans rfl
set_option maxRecDepth 20000 in
theorem f199_673 : gm_fetch 199 673 = some (674, .aload_n 2, 0, 0, 0, 0) := (fe199 673).trans rfl
set_option maxRecDepth 20000 in
theorem f199_674 : gm_fetch 199 674 = some (675, .aload_n 0, 0, 0, 0, 0) := (fe199 674).trans rfl
set_option maxRecDepth 20000 in
theorem f199_675 : gm_fetch 199 675 = some (676, .iload_n 3, 0, 0, 0, 0) := (fe199 675).trans rfl
set_option maxRecDepth 20000 in
theorem f199_676 : gm_fetch 199 676 = some (677, .iconst 1, 0, 0, 0, 0) := (fe199 676).trans rfl
set_option maxRecDepth 20000 in
theorem f199_677 : gm_fetch 199 677 = some (678, .iadd, 0, 0, 0, 0) := (fe199 677).trans rfl
set_option maxRecDepth 20000 in
theorem f199_678 : gm_fetch 199 678 = some (679, .iaload, 0, 0, 0, 0) := (fe199 678).trans rfl
set_option maxRecDepth 20000 in
theorem f199_679 : gm_fetch 199 679 = some (682, .invokevirtual 105, 225, 184, 0, 0) := (fe199 679).trans rfl
set_option maxRecDepth 20000 in
theorem f199_682 : gm_fetch 199 682 = some (685, .if_icmp .eq 369, 0, 1051, 0, 0) := (fe199 682).trans rfl
set_option maxRecDepth 20000 in
theorem f199_685 : gm_fetch 199 685 = some (686, .iconst 0, 0, 0, 0, 0) := (fe199 685).trans rfl
set_option maxRecDepth 20000 in
theorem f199_686 : gm_fetch 199 686 = some (687, .ireturn, 0, 0, 0, 0) := (fe199 686).trans rfl
set_option maxRecDepth 20000 in
theorem f199_687 : gm_fetch 199 687 = some (688, .aload_n 1, 0, 0, 0, 0) := (fe199 687).trans rfl
set_option maxRecDepth 20000 in
theorem f199_688 : gm_fetch 199 688 = some (689, .aload_n 0, 0, 0, 0, 0) := (fe199 688).trans rfl
set_option maxRecDepth 20000 in
theorem f199_689 : gm_fetch 199 689 = some (690, .iload_n 3, 0, 0, 0, 0) := (fe199 689).trans rfl
set_option maxRecDepth 20000 in
theorem f199_690 : gm_fetch 199 690 = some (691, .iconst 1, 0, 0, 0, 0) := (fe199 690).trans rfl
set_option maxRecDepth 20000 in
theorem f199_691 : gm_fetch 199 691 = some (692, .iadd, 0, 0, 0, 0) := (fe199 691).trans rfl
set_option maxRecDepth 20000 in
theorem f199_692 : gm_fetch 199 692 = some (693, .iaload, 0, 0, 0, 0) := (fe199 692).trans rfl
set_option maxRecDepth 20000 in
theorem f199_693 : gm_fetch 199 693 = some (696, .invokevirtual 106, 121, 93, 0, 0) := (fe199 693).trans rfl
set_option maxRecDepth 20000 in
theorem f199_696 : gm_fetch 199 696 = some (697, .aload_n 2, 0, 0, 0, 0) := (fe199 696).trans rfl
set_option maxRecDepth 20000 in
theorem f199_697 : gm_fetch 199 697 = some (698, .aload_n 0, 0, 0, 0, 0) := (fe199 697).trans rfl
set_option maxRecDepth 20000 in
theorem f199_698 : gm_fetch 199 698 = some (699, .iload_n 3, 0, 0, 0, 0) := (fe199 698).trans rfl
set_option maxRecDepth 20000 in
theorem f199_699 : gm_fetch 199 699 = some (700, .iconst 1, 0, 0, 0, 0) := (fe199 699).trans rfl
set_option maxRecDepth 20000 in
theorem f199_700 : gm_fetch 199 700 = some (701, .iadd, 0, 0, 0, 0) := (fe199 700).trans rfl
set_option maxRecDepth 20000 in
theorem f199_701 : gm_fetch 199 701 = some (702, .iaload, 0, 0, 0, 0) := (fe199 701).trans rfl
set_option maxRecDepth 20000 in
theorem f199_702 : gm_fetch 199 702 = some (705, .invokevirtual 109, 227, 186, 0, 0) := (fe199 702).trans rfl
set_option maxRecDepth 20000 in
theorem f199_705 : gm_fetch 199 705 = some (708, .if_icmp .eq 346, 0, 1051, 0, 0) := (fe199 705).trans rfl
set_option maxRecDepth 20000 in
theorem f199_708 : gm_fetch 199 708 = some (709, .iconst 0, 0, 0, 0, 0) := (fe199 708).trans rfl
set_option maxRecDepth 20000 in
theorem f199_709 : gm_fetch 199 709 = some (710, .ireturn, 0, 0, 0, 0) := (fe199 709).trans rfl
set_option maxRecDepth 20000 in
theorem f199_710 : gm_fetch 199 710 = some (711, .aload_n 1, 0, 0, 0, 0) := (fe199 710).trans rfl
set_option maxRecDepth 20000 in
theorem f199_711 : gm_fetch 199 711 = some (712, .aload_n 0, 0, 0, 0, 0) := (fe199 711).trans rfl
set_option maxRecDepth 20000 in
theorem f199_712 : gm_fetch 199 712 = some (713, .iload_n 3, 0, 0, 0, 0) := (fe199 712).trans rfl
set_option maxRecDepth 20000 in
theorem f199_713 : gm_fetch 199 713 = some (714, .iconst 1, 0, 0, 0, 0) := (fe199 713).trans rfl
set_option maxRecDepth 20000 in
theorem f199_714 : gm_fetch 199 714 = some (715, .iadd, 0, 0, 0, 0) := (fe199 714).trans rfl
set_option maxRecDepth 20000 in
theorem f199_715 : gm_fetch 199 715 = some (716, .iaload, 0, 0, 0, 0) := (fe199 715).trans rfl
set_option maxRecDepth 20000 in
theorem f199_716 : gm_fetch 199 716 = some (719, .invokevirtual 110, 123, 94, 0, 0) := (fe199 716).trans rfl
set_option maxRecDepth 20000 in
theorem f199_719 : gm_fetch 199 719 = some (720, .aload_n 2, 0, 0, 0, 0) := (fe199 719).trans rfl
set_option maxRecDepth 20000 in
theorem f199_720 : gm_fetch 199 720 = some (721, .aload_n 0, 0, 0, 0, 0) := (fe199 720).trans rfl
set_option maxRecDepth 20000 in
theorem f199_721 : gm_fetch 199 721 = some (722, .iload_n 3, 0, 0, 0, 0) := (fe199 721).trans rfl
set_option maxRecDepth 20000 in
theorem f199_722 : gm_fetch 199 722 = some (723, .iconst 1, 0, 0, 0, 0) := (fe199 722).trans rfl
set_option maxRecDepth 20000 in
theorem f199_723 : gm_fetch 199 723 = some (724, .iadd, 0, 0, 0, 0) := (fe199 723).trans rfl
set_option maxRecDepth 20000 in
theorem f199_724 : gm_fetch 199 724 = some (725, .iaload, 0, 0, 0, 0) := (fe199 724).trans rfl
set_option maxRecDepth 20000 in
theorem f199_725 : gm_fetch 199 725 = some (728, .invokevirtual 113, 229, 187, 0, 0) := (fe199 725).trans rfl
set_option maxRecDepth 20000 in
theorem f199_728 : gm_fetch 199 728 = some (731, .if_icmp .eq 323, 0, 1051, 0, 0) := (fe199 728).trans rfl
set_option maxRecDepth 20000 in
theorem f199_731 : gm_fetch 199 731 = some (732, .iconst 0, 0, 0, 0, 0) := (fe199 731).trans rfl
set_option maxRecDepth 20000 in
theorem f199_732 : gm_fetch 199 732 = some (733, .ireturn, 0, 0, 0, 0) := (fe199 732).trans rfl
set_option maxRecDepth 20000 in
theorem f199_733 : gm_fetch 199 733 = some (734, .aload_n 1, 0, 0, 0, 0) := (fe199 733).trans rfl
set_option maxRecDepth 20000 in
theorem f199_734 : gm_fetch 199 734 = some (735, .aload_n 0, 0, 0, 0, 0) := (fe199 734).trans rfl
set_option maxRecDepth 20000 in
theorem f199_735 : gm_fetch 199 735 = some (736, .iload_n 3, 0, 0, 0, 0) := (fe199 735).trans rfl
set_option maxRecDepth 20000 in
theorem f199_736 : gm_fetch 199 736 = some (737, .iconst 1, 0, 0, 0, 0) := (fe199 736).trans rfl
set_option maxRecDepth 20000 in
theorem f199_737 : gm_fetch 199 737 = some (738, .iadd, 0, 0, 0, 0) := (fe199 737).trans rfl
set_option maxRecDepth 20000 in
theorem f199_738 : gm_fetch 199 738 = some (739, .iaload, 0, 0, 0, 0) := (fe199 738).trans rfl
set_option maxRecDepth 20000 in
theorem f199_739 : gm_fetch 199 739 = some (742, .invokevirtual 114, 125, 95, 0, 0) := (fe199 739).trans rfl
set_option maxRecDepth 20000 in
theorem f199_742 : gm_fetch 199 742 = some (743, .aload_n 2, 0, 0, 0, 0) := (fe199 742).trans rfl
set_option maxRecDepth 20000 in
theorem f199_743 : gm_fetch 199 743 = some (744, .aload_n 0, 0, 0, 0, 0) := (fe199 743).trans rfl
set_option maxRecDepth 20000 in
theorem f199_744 : gm_fetch 199 744 = some (745, .iload_n 3, 0, 0, 0, 0) := (fe199 744).trans rfl
set_option maxRecDepth 20000 in
theorem f199_745 : gm_fetch 199 745 = some (746, .iconst 1, 0, 0, 0, 0) := (fe199 745).trans rfl
set_option maxRecDepth 20000 in
theorem f199_746 : gm_fetch 199 746 = some (747, .iadd, 0, 0, 0, 0) := (fe199 746).trans rfl
set_option maxRecDepth 20000 in
theorem f199_747 : gm_fetch 199 747 = some (748, .iaload, 0, 0, 0, 0) := (fe199 747).trans rfl
set_option maxRecDepth 20000 in
theorem f199_748 : gm_fetch 199 748 = some (751, .invokevirtual 117, 230, 188, 0, 0) := (fe199 748).trans rfl
set_option maxRecDepth 20000 in
theorem f199_751 : gm_fetch 199 751 = some (754, .if_icmp .eq 300, 0, 1051, 0, 0) := (fe199 751).trans rfl
set_option maxRecDepth 20000 in
theorem f199_754 : gm_fetch 199 754 = some (755, .iconst 0, 0, 0, 0, 0) := (fe199 754).trans rfl
set_option maxRecDepth 20000 in
theorem f199_755 : gm_fetch 199 755 = some (756, .ireturn, 0, 0, 0, 0) := (fe199 755).trans rfl
set_option maxRecDepth 20000 in
theorem f199_756 : gm_fetch 199 756 = some (757, .aload_n 1, 0, 0, 0, 0) := (fe199 756).trans rfl
set_option maxRecDepth 20000 in
theorem f199_757 : gm_fetch 199 757 = some (758, .aload_n 0, 0, 0, 0, 0) := (fe199 757).trans rfl
set_option maxRecDepth 20000 in
theorem f199_758 : gm_fetch 199 758 = some (759, .iload_n 3, 0, 0, 0, 0) := (fe199 758).trans rfl
set_option maxRecDepth 20000 in
theorem f199_759 : gm_fetch 199 759 = some (760, .iconst 1, 0, 0, 0, 0) := (fe199 759).trans rfl
set_option maxRecDepth 20000 in
theorem f199_760 : gm_fetch 199 760 = some (761, .iadd, 0, 0, 0, 0) := (fe199 760).trans rfl
set_option maxRecDepth 20000 in
theorem f199_761 : gm_fetch 199 761 = some (762, .iaload, 0, 0, 0, 0) := (fe199 761).trans rfl
set_option maxRecDepth 20000 in
theorem f199_762 : gm_fetch 199 762 = some (763, .aload_n 0, 0, 0, 0, 0) := (fe199 762).trans rfl
set_option maxRecDepth 20000 in
theorem f199_763 : gm_fetch 199 763 = some (764, .iload_n 3, 0, 0, 0, 0) := (fe199 763).trans rfl
set_option maxRecDepth 20000 in
theorem f199_764 : gm_fetch 199 764 = some (765, .iconst 2, 0, 0, 0, 0) := (fe199 764).trans rfl
set_option maxRecDepth 20000 in
theorem f199_765 : gm_fetch 199 765 = some (766, .iadd, 0, 0, 0, 0) := (fe199 765).trans rfl
set_option maxRecDepth 20000 in
theorem f199_766 : gm_fetch 199 766 = some (767, .iaload, 0, 0, 0, 0) := (fe199 766).trans rfl
set_option maxRecDepth 20000 in
theorem f199_767 : gm_fetch 199 767 = some (768, .aload_n 0, 0, 0, 0, 0) := (fe199 767).trans rfl
set_option maxRecDepth 20000 in
theorem f199_768 : gm_fetch 199 768 = some (769, .iload_n 3, 0, 0, 0, 0) := (fe199 768).trans rfl
set_option maxRecDepth 20000 in
theorem f199_769 : gm_fetch 199 769 = some (770, .iconst 3, 0, 0, 0, 0) := (fe199 769).trans rfl
set_option maxRecDepth 20000 in
theorem f199_770 : gm_fetch 199 770 = some (771, .iadd, 0, 0, 0, 0) := (fe199 770).trans rfl
set_option maxRecDepth 20000 in
theorem f199_771 : gm_fetch 199 771 = some (772, .iaload, 0, 0, 0, 0) := (fe199 771).trans rfl
set_option maxRecDepth 20000 in
theorem f199_772 : gm_fetch 199 772 = some (775, .invokevirtual 118, 126, 96, 0, 0) := (fe199 772).trans rfl
set_option maxRecDepth 20000 in
theorem f199_775 : gm_fetch 199 775 = some (776, .aload_n 2, 0, 0, 0, 0) := (fe199 775).trans rfl
set_option maxRecDepth 20000 in
theorem f199_776 : gm_fetch 199 776 = some (777, .aload_n 0, 0, 0, 0, 0) := (fe199 776).trans rfl
set_option maxRecDepth 20000 in
theorem f199_777 : gm_fetch 199 777 = some (778, .iload_n 3, 0, 0, 0, 0) := (fe199 777).trans rfl
set_option maxRecDepth 20000 in
theorem f199_778 : gm_fetch 199 778 = some (779, .iconst 1, 0, 0, 0, 0) := (fe199 778).trans rfl
set_option maxRecDepth 20000 in
theorem f199_779 : gm_fetch 199 779 = some (780, .iadd, 0, 0, 0, 0) := (fe199 779).trans rfl
set_option maxRecDepth 20000 in
theorem f199_780 : gm_fetch 199 780 = some (781, .iaload, 0, 0, 0, 0) := (fe199 780).trans rfl
set_option maxRecDepth 20000 in
theorem f199_781 : gm_fetch 199 781 = some (782, .aload_n 0, 0, 0, 0, 0) := (fe199 781).trans rfl
set_option maxRecDepth 20000 in
theorem f199_782 : gm_fetch 199 782 = some (783, .iload_n 3, 0, 0, 0, 0) := (fe199 782).trans rfl
set_option maxRecDepth 20000 in
theorem f199_783 : gm_fetch 199 783 = some (784, .iconst 2, 0, 0, 0, 0) := (fe199 783).trans rfl
set_option maxRecDepth 20000 in
theorem f199_784 : gm_fetch 199 784 = some (785, .iadd, 0, 0, 0, 0) := (fe199 784).trans rfl
set_option maxRecDepth 20000 in
theorem f199_785 : gm_fetch 199 785 = some (786, .iaload, 0, 0, 0, 0) := (fe199 785).trans rfl
set_option maxRecDepth 20000 in
theorem f199_786 : gm_fetch 199 786 = some (787, .aload_n 0, 0, 0, 0, 0) := (fe199 786).trans rfl
set_option maxRecDepth 20000 in
theorem f199_787 : gm_fetch 199 787 = some (788, .iload_n 3, 0, 0, 0, 0) := (fe199 787).trans rfl
set_option maxRecDepth 20000 in
theorem f199_788 : gm_fetch 199 788 = some (789, .iconst 3, 0, 0, 0, 0) := (fe199 788).trans rfl
set_option maxRecDepth 20000 in
theorem f199_789 : gm_fetch 199 789 = some (790, .iadd, 0, 0, 0, 0) := (fe199 789).trans rfl
set_option maxRecDepth 20000 in
theorem f199_790 : gm_fetch 199 790 = some (791, .iaload, 0, 0, 0, 0) := (fe199 790).trans rfl
set_option maxRecDepth 20000 in
theorem f199_791 : gm_fetch 199 791 = some (794, .invokevirtual 121, 156, 122, 0, 0) := (fe199 791).trans rfl
set_option maxRecDepth 20000 in
theorem f199_794 : gm_fetch 199 794 = some (797, .if_icmp .eq 257, 0, 1051, 0, 0) := (fe199 794).trans rfl
set_option maxRecDepth 20000 in
theorem f199_797 : gm_fetch 199 797 = some (798, .iconst 0, 0, 0, 0, 0) := (fe199 797).trans rfl
set_option maxRecDepth 20000 in
theorem f199_798 : gm_fetch 199 798 = some (799, .ireturn, 0, 0, 0, 0) := (fe199 798).trans rfl
set_option maxRecDepth 20000 in
theorem f199_799 : gm_fetch 199 799 = some (800, .aload_n 1, 0, 0, 0, 0) := (fe199 799).trans rfl
set_option maxRecDepth 20000 in
theorem f199_800 : gm_fetch 199 800 = some (801, .aload_n 0, 0, 0, 0, 0) := (fe199 800).trans rfl
set_option maxRecDepth 20000 in
theorem f199_801 : gm_fetch 199 801 = some (802, .iload_n 3, 0, 0, 0, 0) := (fe199 801).trans rfl
set_option maxRecDepth 20000 in
theorem f199_802 : gm_fetch 199 802 = some (803, .iconst 1, 0, 0, 0, 0) := (fe199 802).trans rfl
set_option maxRecDepth 20000 in
theorem f199_803 : gm_fetch 199 803 = some (804, .iadd, 0, 0, 0, 0) := (fe199 803).trans rfl
set_option maxRecDepth 20000 in
theorem f199_804 : gm_fetch 199 804 = some (805, .iaload, 0, 0, 0, 0) := (fe199 804).trans rfl
set_option maxRecDepth 20000 in
theorem f199_805 : gm_fetch 199 805 = some (808, .invokevirtual 122, 130, 97, 0, 0) := (fe199 805).trans rfl
set_option maxRecDepth 20000 in
theorem f199_808 : gm_fetch 199 808 = some (809, .aload_n 2, 0, 0, 0, 0) := (fe199 808).trans rfl
set_option maxRecDepth 20000 in
theorem f199_809 : gm_fetch 199 809 = some (810, .aload_n 0, 0, 0, 0, 0) := (fe199 809).trans rfl
set_option maxRecDepth 20000 in
theorem f199_810 : gm_fetch 199 810 = some (811, .iload_n 3, 0, 0, 0, 0) := (fe199 810).trans rfl
set_option maxRecDepth 20000 in
theorem f199_811 : gm_fetch 199 811 = some (812, .iconst 1, 0, 0, 0, 0) := (fe199 811).trans rfl
set_option maxRecDepth 20000 in
theorem f199_812 : gm_fetch 199 812 = some (813, .iadd, 0, 0, 0, 0) := (fe199 812).trans rfl
set_option maxRecDepth 20000 in
theorem f199_813 : gm_fetch 199 813 = some (814, .iaload, 0, 0, 0, 0) := (fe199 813).trans rfl
set_option maxRecDepth 20000 in
theorem f199_814 : gm_fetch 199 814 = some (817, .invokevirtual 125, 160, 123, 0, 0) := (fe199 814).trans rfl
set_option maxRecDepth 20000 in
theorem f199_817 : gm_fetch 199 817 = some (820, .if_icmp .eq 234, 0, 1051, 0, 0) := (fe199 817).trans rfl
set_option maxRecDepth 20000 in
theorem f199_820 : gm_fetch 199 820 = some (821, .iconst 0, 0, 0, 0, 0) := (fe199 820).trans rfl
set_option maxRecDepth 20000 in
theorem f199_821 : gm_fetch 199 821 = some (822, .ireturn, 0, 0, 0, 0) := (fe199 821).trans rfl
set_option maxRecDepth 20000 in
theorem f199_822 : gm_fetch 199 822 = some (823, .aload_n 1, 0, 0, 0, 0) := (fe199 822).trans rfl
set_option maxRecDepth 20000 in
theorem f199_823 : gm_fetch 199 823 = some (824, .aload_n 0, 0, 0, 0, 0) := (fe199 823).trans rfl
set_option maxRecDepth 20000 in
theorem f199_824 : gm_fetch 199 824 = some (825, .iload_n 3, 0, 0, 0, 0) := (fe199 824).trans rfl
set_option maxRecDepth 20000 in
theorem f199_825 : gm_fetch 199 825 = some (826, .iconst 1, 0, 0, 0, 0) := (fe199 825).trans rfl
set_option maxRecDepth 20000 in
theorem f199_826 : gm_fetch 199 826 = some (827, .iadd, 0, 0, 0, 0) := (fe199 826).trans rfl
set_option maxRecDepth 20000 in
theorem f199_827 : gm_fetch 199 827 = some (828, .iaload, 0, 0, 0, 0) := (fe199 827).trans rfl
set_option maxRecDepth 20000 in
theorem f199_828 : gm_fetch 199 828 = some (829, .aload_n 0, 0, 0, 0, 0) := (fe199 828).trans rfl
set_option maxRecDepth 20000 in
theorem f199_829 : gm_fetch 199 829 = some (830, .iload_n 3, 0, 0, 0, 0) := (fe199 829).trans rfl
set_option maxRecDepth 20000 in
theorem f199_830 : gm_fetch 199 830 = some (831, .iconst 2, 0, 0, 0, 0) := (fe199 830).trans rfl
set_option maxRecDepth 20000 in
theorem f199_831 : gm_fetch 199 831 = some (832, .iadd, 0, 0, 0, 0) := (fe199 831).trans rfl
set_option maxRecDepth 20000 in
theorem f199_832 : gm_fetch 199 832 = some (833, .iaload, 0, 0, 0, 0) := (fe199 832).trans rfl
set_option maxRecDepth 20000 in
theorem f199_833 : gm_fetch 199 833 = some (834, .aload_n 0, 0, 0, 0, 0) := (fe199 833).trans rfl
set_option maxRecDepth 20000 in
theorem f199_834 : gm_fetch 199 834 = some (835, .iload_n 3, 0, 0, 0, 0) := (fe199 834).trans rfl
set_option maxRecDepth 20000 in
theorem f199_835 : gm_fetch 199 835 = some (836, .iconst 3, 0, 0, 0, 0) := (fe199 835).trans rfl
set_option maxRecDepth 20000 in
theorem f199_836 : gm_fetch 199 836 = some (837, .iadd, 0, 0, 0, 0) := (fe199 836).trans rfl
set_option maxRecDepth 20000 in
theorem f199_837 : gm_fetch 199 837 = some (838, .iaload, 0, 0, 0, 0) := (fe199 837).trans rfl
set_option maxRecDepth 20000 in
theorem f199_838 : gm_fetch 199 838 = some (839, .aload_n 0, 0, 0, 0, 0) := (fe199 838).trans rfl
set_option maxRecDepth 20000 in
theorem f199_839 : gm_fetch 199 839 = some (840, .iload_n 3, 0, 0, 0, 0) := (fe199 839).trans rfl
set_option maxRecDepth 20000 in
theorem f199_840 : gm_fetch 199 840 = some (841, .iconst 4, 0, 0, 0, 0) := (fe199 840).trans rfl
set_option maxRecDepth 20000 in
theorem f199_841 : gm_fetch 199 841 = some (842, .iadd, 0, 0, 0, 0) := (fe199 841).trans rfl
set_option maxRecDepth 20000 in
theorem f199_842 : gm_fetch 199 842 = some (843, .iaload, 0, 0, 0, 0) := (fe199 842).trans rfl
set_option maxRecDepth 20000 in
theorem f199_843 : gm_fetch 199 843 = some (846, .invokevirtual 126, 131, 98, 0, 0) := (fe199 843).trans rfl
set_option maxRecDepth 20000 in
theorem f199_846 : gm_fetch 199 846 = some (847, .aload_n 2, 0, 0, 0, 0) := (fe199 846).trans rfl
set_option maxRecDepth 20000 in
theorem f199_847 : gm_fetch 199 847 = some (848, .aload_n 0, 0, 0, 0, 0) := (fe199 847).trans rfl
set_option maxRecDepth 20000 in
theorem f199_848 : gm_fetch 199 848 = some (849, .iload_n 3, 0, 0, 0, 0) := (fe199 848).trans rfl
set_option maxRecDepth 20000 in
theorem f199_849 : gm_fetch 199 849 = some (850, .iconst 1, 0, 0, 0, 0) := (fe199 849).trans rfl
set_option maxRecDepth 20000 in
theorem f199_850 : gm_fetch 199 850 = some (851, .iadd, 0, 0, 0, 0) := (fe199 850).trans rfl
set_option maxRecDepth 20000 in
theorem f199_851 : gm_fetch 199 851 = some (852, .iaload, 0, 0, 0, 0) := (fe199 851).trans rfl
set_option maxRecDepth 20000 in
theorem f199_852 : gm_fetch 199 852 = some (853, .aload_n 0, 0, 0, 0, 0) := (fe199 852).trans rfl
set_option maxRecDepth 20000 in
theorem f199_853 : gm_fetch 199 853 = some (854, .iload_n 3, 0, 0, 0, 0) := (fe199 853).trans rfl
set_option maxRecDepth 20000 in
theorem f199_854 : gm_fetch 199 854 = some (855, .iconst 2, 0, 0, 0, 0) := (fe199 854).trans rfl
set_option maxRecDepth 20000 in
theorem f199_855 : gm_fetch 199 855 = some (856, .iadd, 0, 0, 0, 0) := (fe199 855).trans rfl
set_option maxRecDepth 20000 in
theorem f199_856 : gm_fetch 199 856 = some (857, .iaload, 0, 0, 0, 0) := (fe199 856).trans rfl
set_option maxRecDepth 20000 in
theorem f199_857 : gm_fetch 199 857 = some (858, .aload_n 0, 0, 0, 0, 0) := (fe199 857).trans rfl
set_option maxRecDepth 20000 in
theorem f199_858 : gm_fetch 199 858 = some (859, .iload_n 3, 0, 0, 0, 0) := (fe199 858).trans rfl
set_option maxRecDepth 20000 in
theorem f199_859 : gm_fetch 199 859 = some (860, .iconst 3, 0, 0, 0, 0) := (fe199 859).trans rfl
set_option maxRecDepth 20000 in
theorem f199_860 : gm_fetch 199 860 = some (861, .iadd, 0, 0, 0, 0) := (fe199 860).trans rfl
set_option maxRecDepth 20000 in
theorem f199_861 : gm_fetch 199 861 = some (862, .iaload, 0, 0, 0, 0) := (fe199 861).trans rfl
set_option maxRecDepth 20000 in
theorem f199_862 : gm_fetch 199 862 = some (863, .aload_n 0, 0, 0, 0, 0) := (fe199 862).trans rfl
set_option maxRecDepth 20000 in
theorem f199_863 : gm_fetch 199 863 = some (864, .iload_n 3, 0, 0, 0, 0) := (fe199 863).trans rfl
set_option maxRecDepth 20000 in
theorem f199_864 : gm_fetch 199 864 = some (865, .iconst 4, 0, 0, 0, 0) := (fe199 864).trans rfl
set_option maxRecDepth 20000 in
theorem f199_865 : gm_fetch 199 865 = some (866, .iadd, 0, 0, 0, 0) := (fe199 865).trans rfl
set_option maxRecDepth 20000 in
theorem f199_866 : gm_fetch 199 866 = some (867, .iaload, 0, 0, 0, 0) := (fe199 866).trans rfl
set_option maxRecDepth 20000 in
theorem f199_867 : gm_fetch 199 867 = some (870, .invokevirtual 130, 161, 126, 0, 0) := (fe199 867).trans rfl
set_option maxRecDepth 20000 in
theorem f199_870 : gm_fetch 199 870 = some (873, .if_icmp .eq 181, 0, 1051, 0, 0) := (fe199 870).trans rfl
set_option maxRecDepth 20000 in
theorem f199_873 : gm_fetch 199 873 = some (874, .iconst 0, 0, 0, 0, 0) := (fe199 873).trans rfl
set_option maxRecDepth 20000 in
theorem f199_874 : gm_fetch 199 874 = some (875, .ireturn, 0, 0, 0, 0) := (fe199 874).trans rfl
set_option maxRecDepth 20000 in
theorem f199_875 : gm_fetch 199 875 = some (876, .aload_n 1, 0, 0, 0, 0) := (fe199 875).trans rfl
set_option maxRecDepth 20000 in
theorem f199_876 : gm_fetch 199 876 = some (877, .aload_n 0, 0, 0, 0, 0) := (fe199 876).trans rfl
set_option maxRecDepth 20000 in
theorem f199_877 : gm_fetch 199 877 = some (878, .iload_n 3, 0, 0, 0, 0) := (fe199 877).trans rfl
set_option maxRecDepth 20000 in
theorem f199_878 : gm_fetch 199 878 = some (879, .iconst 1, 0, 0, 0, 0) := (fe199 878).trans rfl
set_option maxRecDepth 20000 in
theorem f199_879 : gm_fetch 199 879 = some (880, .iadd, 0, 0, 0, 0) := (fe199 879).trans rfl
set_option maxRecDepth 20000 in
theorem f199_880 : gm_fetch 199 880 = some (881, .iaload, 0, 0, 0, 0) := (fe199 880).trans rfl
set_option maxRecDepth 20000 in
theorem f199_881 : gm_fetch 199 881 = some (882, .aload_n 0, 0, 0, 0, 0) := (fe199 881).trans rfl
set_option maxRecDepth 20000 in
theorem f199_882 : gm_fetch 199 882 = some (883, .iload_n 3, 0, 0, 0, 0) := (fe199 882).trans rfl
set_option maxRecDepth 20000 in
theorem f199_883 : gm_fetch 199 883 = some (884, .iconst 2, 0, 0, 0, 0) := (fe199 883).trans rfl
set_option maxRecDepth 20000 in
theorem f199_884 : gm_fetch 199 884 = some (885, .iadd, 0, 0, 0, 0) := (fe199 884).trans rfl
set_option maxRecDepth 20000 in
theorem f199_885 : gm_fetch 199 885 = some (886, .iaload, 0, 0, 0, 0) := (fe199 885).trans rfl
set_option maxRecDepth 20000 in
theorem f199_886 : gm_fetch 199 886 = some (887, .aload_n 0, 0, 0, 0, 0) := (fe199 886).trans rfl
set_option maxRecDepth 20000 in
theorem f199_887 : gm_fetch 199 887 = some (888, .iload_n 3, 0, 0, 0, 0) := (fe199 887).trans rfl
set_option maxRecDepth 20000 in
theorem f199_888 : gm_fetch 199 888 = some (889, .iconst 3, 0, 0, 0, 0) := (fe199 888).trans rfl
set_option maxRecDepth 20000 in
theorem f199_889 : gm_fetch 199 889 = some (890, .iadd, 0, 0, 0, 0) := (fe199 889).trans rfl
set_option maxRecDepth 20000 in
theorem f199_890 : gm_fetch 199 890 = some (891, .iaload, 0, 0, 0, 0) := (fe199 890).trans rfl
set_option maxRecDepth 20000 in
theorem f199_891 : gm_fetch 199 891 = some (894, .invokevirtual 131, 134, 99, 0, 0) := (fe199 891).trans rfl
set_option maxRecDepth 20000 in
theorem f199_894 : gm_fetch 199 894 = some (895, .aload_n 2, 0, 0, 0, 0) := (fe199 894).trans rfl
set_option maxRecDepth 20000 in
theorem f199_895 : gm_fetch 199 895 = some (896, .aload_n 0, 0, 0, 0, 0) := (fe199 895).trans rfl
set_option maxRecDepth 20000 in
theorem f199_896 : gm_fetch 199 896 = some (897, .iload_n 3, 0, 0, 0, 0) := (fe199 896).trans rfl
set_option maxRecDepth 20000 in
theorem f199_897 : gm_fetch 199 897 = some (898, .iconst 1, 0, 0, 0, 0) := (fe199 897).trans rfl
set_option maxRecDepth 20000 in
theorem f199_898 : gm_fetch 199 898 = some (899, .iadd, 0, 0, 0, 0) := (fe199 898).trans rfl
set_option maxRecDepth 20000 in
theorem f199_899 : gm_fetch 199 899 = some (900, .iaload, 0, 0, 0, 0) := (fe199 899).trans rfl
set_option maxRecDepth 20000 in
theorem f199_900 : gm_fetch 199 900 = some (901, .aload_n 0, 0, 0, 0, 0) := (fe199 900).trans rfl
set_option maxRecDepth 20000 in
theorem f199_901 : gm_fetch 199 901 = some (902, .iload_n 3, 0, 0, 0, 0) := (fe199 901).trans rfl
set_option maxRecDepth 20000 in
theorem f199_902 : gm_fetch 199 902 = some (903, .iconst 2, 0, 0, 0, 0) := (fe199 902).trans rfl
set_option maxRecDepth 20000 in
theorem f199_903 : gm_fetch 199 903 = some (904, .iadd, 0, 0, 0, 0) := (fe199 903).trans rfl
set_option maxRecDepth 20000 in
theorem f199_904 : gm_fetch 199 904 = some (905, .iaload, 0, 0, 0, 0) := (fe199 904).trans rfl
set_option maxRecDepth 20000 in
theorem f199_905 : gm_fetch 199 905 = some (906, .aload_n 0, 0, 0, 0, 0) := (fe199 905).trans rfl
set_option maxRecDepth 20000 in
theorem f199_906 : gm_fetch 199 906 = some (907, .iload_n 3, 0, 0, 0, 0) := (fe199 906).trans rfl
set_option maxRecDepth 20000 in
theorem f199_907 : gm_fetch 199 907 = some (908, .iconst 3, 0, 0, 0, 0) := (fe199 907).trans rfl
set_option maxRecDepth 20000 in
theorem f199_908 : gm_fetch 199 908 = some (909, .iadd, 0, 0, 0, 0) := (fe199 908).trans rfl
set_option maxRecDepth 20000 in
theorem f199_909 : gm_fetch 199 909 = some (910, .iaload, 0, 0, 0, 0) := (fe199 909).trans rfl
set_option maxRecDepth 20000 in
theorem f199_910 : gm_fetch 199 910 = some (913, .invokevirtual 134, 164, 127, 0, 0) := (fe199 910).trans rfl
set_option maxRecDepth 20000 in
theorem f199_913 : gm_fetch 199 913 = some (916, .if_icmp .eq 138, 0, 1051, 0, 0) := (fe199 913).trans rfl
set_option maxRecDepth 20000 in
theorem f199_916 : gm_fetch 199 916 = some (917, .iconst 0, 0, 0, 0, 0) := (fe199 916).trans rfl
set_option maxRecDepth 20000 in
theorem f199_917 : gm_fetch 199 917 = some (918, .ireturn, 0, 0, 0, 0) := (fe199 917).trans rfl
set_option maxRecDepth 20000 in
theorem f199_918 : gm_fetch 199 918 = some (919, .aload_n 1, 0, 0, 0, 0) := (fe199 918).trans rfl
set_option maxRecDepth 20000 in
theorem f199_919 : gm_fetch 199 919 = some (920, .aload_n 0, 0, 0, 0, 0) := (fe199 919).trans rfl
set_option maxRecDepth 20000 in
theorem f199_920 : gm_fetch 199 920 = some (921, .iload_n 3, 0, 0, 0, 0) := (fe199 920).trans rfl
set_option maxRecDepth 20000 in
theorem f199_921 : gm_fetch 199 921 = some (922, .iconst 1, 0, 0, 0, 0) := (fe199 921).trans rfl
set_option maxRecDepth 20000 in
theorem f199_922 : gm_fetch 199 922 = some (923, .iadd, 0, 0, 0, 0) := (fe199 922).trans rfl
set_option maxRecDepth 20000 in
theorem f199_923 : gm_fetch 199 923 = some (924, .iaload, 0, 0, 0, 0) := (fe199 923).trans rfl
set_option maxRecDepth 20000 in
theorem f199_924 : gm_fetch 199 924 = some (925, .aload_n 0, 0, 0, 0, 0) := (fe199 924).trans rfl
set_option maxRecDepth 20000 in
theorem f199_925 : gm_fetch 199 925 = some (926, .iload_n 3, 0, 0, 0, 0) := (fe199 925).trans rfl
set_option maxRecDepth 20000 in
theorem f199_926 : gm_fetch 199 926 = some (927, .iconst 2, 0, 0, 0, 0) := (fe199 926).trans rfl
set_option maxRecDepth 20000 in
theorem f199_927 : gm_fetch 199 927 = some (928, .iadd, 0, 0, 0, 0) := (fe199 927).trans rfl
set_option maxRecDepth 20000 in
theorem f199_928 : gm_fetch 199 928 = some (929, .iaload, 0, 0, 0, 0) := (fe199 928).trans rfl
set_option maxRecDepth 20000 in
theorem f199_929 : gm_fetch 199 929 = some (930, .aload_n 0, 0, 0, 0, 0) := (fe199 929).trans rfl
set_option maxRecDepth 20000 in
theorem f199_930 : gm_fetch 199 930 = some (931, .iload_n 3, 0, 0, 0, 0) := (fe199 930).trans rfl
set_option maxRecDepth 20000 in
theorem f199_931 : gm_fetch 199 931 = some (932, .iconst 3, 0, 0, 0, 0) := (fe199 931).trans rfl
set_option maxRecDepth 20000 in
theorem f199_932 : gm_fetch 199 932 = some (933, .iadd, 0, 0, 0, 0) := (fe199 932).trans rfl
set_option maxRecDepth 20000 in
theorem f199_933 : gm_fetch 199 933 = some (934, .iaload, 0, 0, 0, 0) := (fe199 933).trans rfl
set_option maxRecDepth 20000 in
theorem f199_934 : gm_fetch 199 934 = some (935, .aload_n 0, 0, 0, 0, 0) := (fe199 934).trans rfl
set_option maxRecDepth 20000 in
theorem f199_935 : gm_fetch 199 935 = some (936, .iload_n 3, 0, 0, 0, 0) := (fe199 935).trans rfl
set_option maxRecDepth 20000 in
theorem f199_936 : gm_fetch 199 936 = some (937, .iconst 4, 0, 0, 0, 0) := (fe199 936).trans rfl
set_option maxRecDepth 20000 in
theorem f199_937 : gm_fetch 199 937 = some (938, .iadd, 0, 0, 0, 0) := (fe199 937).trans rfl
set_option maxRecDepth 20000 in
theorem f199_938 : gm_fetch 199 938 = some (939, .iaload, 0, 0, 0, 0) := (fe199 938).trans rfl
set_option maxRecDepth 20000 in
theorem f199_939 : gm_fetch 199 939 = some (940, .aload_n 0, 0, 0, 0, 0) := (fe199 939).trans rfl
set_option maxRecDepth 20000 in
theorem f199_940 : gm_fetch 199 940 = some (941, .iload_n 3, 0, 0, 0, 0) := (fe199 940).trans rfl
set_option maxRecDepth 20000 in
theorem f199_941 : gm_fetch 199 941 = some (942, .iconst 5, 0, 0, 0, 0) := (fe199 941).trans rfl
set_option maxRecDepth 20000 in
theorem f199_942 : gm_fetch 199 942 = some (943, .iadd, 0, 0, 0, 0) := (fe199 942).trans rfl
set_option maxRecDepth 20000 in
theorem f199_943 : gm_fetch 199 943 = some (944, .iaload, 0, 0, 0, 0) := (fe199 943).trans rfl
set_option maxRecDepth 20000 in
theorem f199_944 : gm_fetch 199 944 = some (947, .invokevirtual 135, 135, 100, 0, 0) := (fe199 944).trans rfl
set_option maxRecDepth 20000 in
theorem f199_947 : gm_fetch 199 947 = some (948, .aload_n 2, 0, 0, 0, 0) := (fe199 947).trans rfl
set_option maxRecDepth 20000 in
theorem f199_948 : gm_fetch 199 948 = some (949, .aload_n 0, 0, 0, 0, 0) := (fe199 948).trans rfl
set_option maxRecDepth 20000 in
theorem f199_949 : gm_fetch 199 949 = some (950, .iload_n 3, 0, 0, 0, 0) := (fe199 949).trans rfl
set_option maxRecDepth 20000 in
theorem f199_950 : gm_fetch 199 950 = some (951, .iconst 1, 0, 0, 0, 0) := (fe199 950).trans rfl
set_option maxRecDepth 20000 in
theorem f199_951 : gm_fetch 199 951 = some (952, .iadd, 0, 0, 0, 0) := (fe199 951).trans rfl
set_option maxRecDepth 20000 in
theorem f199_952 : gm_fetch 199 952 = some (953, .iaload, 0, 0, 0, 0) := (fe199 952).trans rfl
set_option maxRecDepth 20000 in
theorem f199_953 : gm_fetch 199 953 = some (954, .aload_n 0, 0, 0, 0, 0) := (fe199 953).trans rfl
set_option maxRecDepth 20000 in
theorem f199_954 : gm_fetch 199 954 = some (955, .iload_n 3, 0, 0, 0, 0) := (fe199 954).trans rfl
set_option maxRecDepth 20000 in
theorem f199_955 : gm_fetch 199 955 = some (956, .iconst 2, 0, 0, 0, 0) := (fe199 955).trans rfl
set_option maxRecDepth 20000 in
theorem f199_956 : gm_fetch 199 956 = some (957, .iadd, 0, 0, 0, 0) := (fe199 956).trans rfl
set_option maxRecDepth 20000 in
theorem f199_957 : gm_fetch 199 957 = some (958, .iaload, 0, 0, 0, 0) := (fe199 957).trans rfl
set_option maxRecDepth 20000 in
theorem f199_958 : gm_fetch 199 958 = some (959, .aload_n 0, 0, 0, 0, 0) := (fe199 958).trans rfl
set_option maxRecDepth 20000 in
theorem f199_959 : gm_fetch 199 959 = some (960, .iload_n 3, 0, 0, 0, 0) := (fe199 959).trans rfl
set_option maxRecDepth 20000 in
theorem f199_960 : gm_fetch 199 960 = some (961, .iconst 3, 0, 0, 0, 0) := (fe199 960).trans rfl
set_option maxRecDepth 20000 in
theorem f199_961 : gm_fetch 199 961 = some (962, .iadd, 0, 0, 0, 0) := (fe199 961).trans rfl
set_option maxRecDepth 20000 in
theorem f199_962 : gm_fetch 199 962 = some (963, .iaload, 0, 0, 0, 0) := (fe199 962).trans rfl
set_option maxRecDepth 20000 in
theorem f199_963 : gm_fetch 199 963 = some (964, .aload_n 0, 0, 0, 0, 0) := (fe199 963).trans rfl
set_option maxRecDepth 20000 in
theorem f199_964 : gm_fetch 199 964 = some (965, .iload_n 3, 0, 0, 0, 0) := (fe199 964).trans rfl
set_option maxRecDepth 20000 in
theorem f199_965 : gm_fetch 199 965 = some (966, .iconst 4, 0, 0, 0, 0) := (fe199 965).trans rfl
set_option maxRecDepth 20000 in
theorem f199_966 : gm_fetch 199 966 = some (967, .iadd, 0, 0, 0, 0) := (fe199 966).trans rfl
set_option maxRecDepth 20000 in
theorem f199_967 : gm_fetch 199 967 = some (968, .iaload, 0, 0, 0, 0) := (fe199 967).trans rfl
set_option maxRecDepth 20000 in
theorem f199_968 : gm_fetch 199 968 = some (969, .aload_n 0, 0, 0, 0, 0) := (fe199 968).trans rfl
set_option maxRecDepth 20000 in
theorem f199_969 : gm_fetch 199 969 = some (970, .iload_n 3, 0, 0, 0, 0) := (fe199 969).trans rfl
set_option maxRecDepth 20000 in
theorem f199_970 : gm_fetch 199 970 = some (971, .iconst 5, 0, 0, 0, 0) := (fe199 970).trans rfl
set_option maxRecDepth 20000 in
theorem f199_971 : gm_fetch 199 971 = some (972, .iadd, 0, 0, 0, 0) := (fe199 971).trans rfl
set_option maxRecDepth 20000 in
theorem f199_972 : gm_fetch 199 972 = some (973, .iaload, 0, 0, 0, 0) := (fe199 972).trans rfl
set_option maxRecDepth 20000 in
theorem f199_973 : gm_fetch 199 973 = some (976, .invokevirtual 139, 165, 128, 0, 0) := (fe199 973).trans rfl
set_option maxRecDepth 20000 in
theorem f199_976 : gm_fetch 199 976 = some (979, .if_icmp .eq 75, 0, 1051, 0, 0) := (fe199 976).trans rfl
set_option maxRecDepth 20000 in
theorem f199_979 : gm_fetch 199 979 = some (980, .iconst 0, 0, 0, 0, 0) := (fe199 979).trans rfl
set_option maxRecDepth 20000 in
theorem f199_980 : gm_fetch 199 980 = some (981, .ireturn, 0, 0, 0, 0) := (fe199 980).trans rfl
set_option maxRecDepth 20000 in
theorem f199_981 : gm_fetch 199 981 = some (982, .aload_n 1, 0, 0, 0, 0) := (fe199 981).trans rfl
set_option maxRecDepth 20000 in
theorem f199_982 : gm_fetch 199 982 = some (983, .aload_n 0, 0, 0, 0, 0) := (fe199 982).trans rfl
set_option maxRecDepth 20000 in
theorem f199_983 : gm_fetch 199 983 = some (984, .iload_n 3, 0, 0, 0, 0) := (fe199 983).trans rfl
set_option maxRecDepth 20000 in
theorem f199_984 : gm_fetch 199 984 = some (985, .iconst 1, 0, 0, 0, 0) := (fe199 984).trans rfl
set_option maxRecDepth 20000 in
theorem f199_985 : gm_fetch 199 985 = some (986, .iadd, 0, 0, 0, 0) := (fe199 985).trans rfl
set_option maxRecDepth 20000 in
theorem f199_986 : gm_fetch 199 986 = some (987, .iaload, 0, 0, 0, 0) := (fe199 986).trans rfl
set_option maxRecDepth 20000 in
theorem f199_987 : gm_fetch 199 987 = some (988, .aload_n 0, 0, 0, 0, 0) := (fe199 987).trans rfl
set_option maxRecDepth 20000 in
theorem f199_988 : gm_fetch 199 988 = some (989, .iload_n 3, 0, 0, 0, 0) := (fe199 988).trans rfl
set_option maxRecDepth 20000 in
theorem f199_989 : gm_fetch 199 989 = some (990, .iconst 2, 0, 0, 0, 0) := (fe199 989).trans rfl
set_option maxRecDepth 20000 in
theorem f199_990 : gm_fetch 199 990 = some (991, .iadd, 0, 0, 0, 0) := (fe199 990).trans rfl
set_option maxRecDepth 20000 in
theorem f199_991 : gm_fetch 199 991 = some (992, .iaload, 0, 0, 0, 0) := (fe199 991).trans rfl
set_option maxRecDepth 20000 in
theorem f199_992 : gm_fetch 199 992 = some (995, .invokevirtual 140, 138, 101, 0, 0) := (fe199 992).trans rfl
set_option maxRecDepth 20000 in
theorem f199_995 : gm_fetch 199 995 = some (996, .aload_n 2, 0, 0, 0, 0) := (fe199 995).trans rfl
set_option maxRecDepth 20000 in
theorem f199_996 : gm_fetch 199 996 = some (997, .aload_n 0, 0, 0, 0, 0) := (fe199 996).trans rfl
set_option maxRecDepth 20000 in
theorem f199_997 : gm_fetch 199 997 = some (998, .iload_n 3, 0, 0, 0, 0) := (fe199 997).trans rfl
set_option maxRecDepth 20000 in
theorem f199_998 : gm_fetch 199 998 = some (999, .iconst 1, 0, 0, 0, 0) := (fe199 998).trans rfl
set_option maxRecDepth 20000 in
theorem f199_999 : gm_fetch 199 999 = some (1000, .iadd, 0, 0, 0, 0) := (fe199 999).trans rfl
set_option maxRecDepth 20000 in
theorem f199_1000 : gm_fetch 199 1000 = some (1001, .iaload, 0, 0, 0, 0) := (fe199 1000).trans rfl
set_option maxRecDepth 20000 in
theorem f199_1001 : gm_fetch 199 1001 = some (1002, .aload_n 0, 0, 0, 0, 0) := (fe199 1001).trans rfl
set_option maxRecDepth 20000 in
theorem f199_1002 : gm_fetch 199 1002 = some (1003, .iload_n 3, 0, 0, 0, 0) := (fe199 1002).trans rfl
set_option maxRecDepth 20000 in
theorem f199_1003 : gm_fetch 199 1003 = some (1004, .iconst 2, 0, 0, 0, 0) := (fe199 1003).trans rfl
set_option maxRecDepth 20000 in
theorem f199_1004 : gm_fetch 199 1004 = some (1005, .iadd, 0, 0, 0, 0) := (fe199 1004).trans rfl
set_option maxRecDepth 20000 in
theorem f199_1005 : gm_fetch 199 1005 = some (1006, .iaload, 0, 0, 0, 0) := (fe199 1005).trans rfl
set_option maxRecDepth 20000 in
theorem f199_1006 : gm_fetch 199 1006 = some (1009, .invokevirtual 143, 231, 189, 0, 0) := (fe199 1006).trans rfl
set_option maxRecDepth 20000 in
theorem f199_1009 : gm_fetch 199 1009 = some (1012, .if_icmp .eq 42, 0, 1051, 0, 0) := (fe199 1009).trans rfl
set_option maxRecDepth 20000 in
theorem f199_1012 : gm_fetch 199 1012 = some (1013, .iconst 0, 0, 0, 0, 0) := (fe199 1012).trans rfl
set_option maxRecDepth 20000 in
theorem f199_1013 : gm_fetch 199 1013 = some (1014, .ireturn, 0, 0, 0, 0) := (fe199 1013).trans rfl
set_option maxRecDepth 20000 in
theorem f199_1014 : gm_fetch 199 1014 = some (1015, .aload_n 1, 0, 0, 0, 0) := (fe199 1014).trans rfl
set_option maxRecDepth 20000 in
theorem f199_1015 : gm_fetch 199 1015 = some (1016, .aload_n 0, 0, 0, 0, 0) := (fe199 1015).trans rfl
set_option maxRecDepth 20000 in
theorem f199_1016 : gm_fetch 199 1016 = some (1017, .iload_n 3, 0, 0, 0, 0) := (fe199 1016).trans rfl
set_option maxRecDepth 20000 in
theorem f199_1017 : gm_fetch 199 1017 = some (1018, .iconst 1, 0, 0, 0, 0) := (fe199 1017).trans rfl
set_option maxRecDepth 20000 in
theorem f199_1018 : gm_fetch 199 1018 = some (1019, .iadd, 0, 0, 0, 0) := (fe199 1018).trans rfl
set_option maxRecDepth 20000 in
theorem f199_1019 : gm_fetch 199 1019 = some (1020, .iaload, 0, 0, 0, 0) := (fe199 1019).trans rfl
set_option maxRecDepth 20000 in
theorem f199_1020 : gm_fetch 199 1020 = some (1023, .invokevirtual 144, 139, 102, 0, 0) := (fe199 1020).trans rfl
set_option maxRecDepth 20000 in
theorem f199_1023 : gm_fetch 199 1023 = some (1024, .aload_n 2, 0, 0, 0, 0) := (fe199 1023).trans rfl
set_option maxRecDepth 20000 in
theorem f199_1024 : gm_fetch 199 1024 = some (1025, .aload_n 0, 0, 0, 0, 0) := (fe199 1024).trans rfl
set_option maxRecDepth 20000 in
theorem f199_1025 : gm_fetch 199 1025 = some (1026, .iload_n 3, 0, 0, 0, 0) := (fe199 1025).trans rfl
set_option maxRecDepth 20000 in
theorem f199_1026 : gm_fetch 199 1026 = some (1027, .iconst 1, 0, 0, 0, 0) := (fe199 1026).trans rfl
set_option maxRecDepth 20000 in
theorem f199_1027 : gm_fetch 199 1027 = some (1028, .iadd, 0, 0, 0, 0) := (fe199 1027).trans rfl
set_option maxRecDepth 20000 in
theorem f199_1028 : gm_fetch 199 1028 = some (1029, .iaload, 0, 0, 0, 0) := (fe199 1028).trans rfl
set_option maxRecDepth 20000 in
theorem f199_1029 : gm_fetch 199 1029 = some (1032, .invokevirtual 147, 232, 192, 0, 0) := (fe199 1029).trans rfl
set_option maxRecDepth 20000 in
theorem f199_1032 : gm_fetch 199 1032 = some (1035, .if_icmp .eq 19, 0, 1051, 0, 0) := (fe199 1032).trans rfl
set_option maxRecDepth 20000 in
theorem f199_1035 : gm_fetch 199 1035 = some (1036, .iconst 0, 0, 0, 0, 0) := (fe199 1035).trans rfl
set_option maxRecDepth 20000 in
theorem f199_1036 : gm_fetch 199 1036 = some (1037, .ireturn, 0, 0, 0, 0) := (fe199 1036).trans rfl
set_option maxRecDepth 20000 in
theorem f199_1037 : gm_fetch 199 1037 = some (1038, .aload_n 1, 0, 0, 0, 0) := (fe199 1037).trans rfl
set_option maxRecDepth 20000 in
theorem f199_1038 : gm_fetch 199 1038 = some (1041, .invokevirtual 148, 141, 103, 0, 0) := (fe199 1038).trans rfl
set_option maxRecDepth 20000 in
theorem f199_1041 : gm_fetch 199 1041 = some (1042, .aload_n 2, 0, 0, 0, 0) := (fe199 1041).trans rfl
set_option maxRecDepth 20000 in
theorem f199_1042 : gm_fetch 199 1042 = some (1045, .invokevirtual 151, 235, 193, 0, 0) := (fe199 1042).trans rfl
set_option maxRecDepth 20000 in
theorem f199_1045 : gm_fetch 199 1045 = some (1046, .lcmp, 0, 0, 0, 0) := (fe199 1045).trans rfl
set_option maxRecDepth 20000 in
theorem f199_1046 : gm_fetch 199 1046 = some (1049, .ifCond .eq 5, 0, 1051, 0, 0) := (fe199 1046).trans rfl
set_option maxRecDepth 20000 in
theorem f199_1049 : gm_fetch 199 1049 = some (1050, .iconst 0, 0, 0, 0, 0) := (fe199 1049).trans rfl
set_option maxRecDepth 20000 in
theorem f199_1050 : gm_fetch 199 1050 = some (1051, .ireturn, 0, 0, 0, 0) := (fe199 1050).trans rfl
set_option maxRecDepth 20000 in
theorem f199_1051 : gm_fetch 199 1051 = some (1054, .iinc 3 6, 0, 0, 0, 0) := (fe199 1051).trans rfl
set_option maxRecDepth 20000 in
theorem f199_1054 : gm_fetch 199 1054 = some (1057, .goto (-1036), 0, 18, 0, 0) := (fe199 1054).trans rfl
set_option maxRecDepth 20000 in
theorem f199_1057 : gm_fetch 199 1057 = some (1058, .iconst 1, 0, 0, 0, 0) := (fe199 1057).trans rfl
set_option maxRecDepth 20000 in
theorem f199_1058 : gm_fetch 199 1058 = some (1059, .ireturn, 0, 0, 0, 0) := (fe199 1058).trans rfl
