set_option maxRecDepth 20000 in
theorem X12_init_0 {kz : Nat × Nat} {Q : Option zV → zH → Prop} {d : List Nat} {G : Nat → Int → Option Nat} {E : Nat → Int → Int}  (hm50 : 50 ∈ d) (K : ∀ E_1, E_1 = zuE E 50 0 1 → ∃ a_2, zkd a_2 = (1, (16 : Int).toNat) ∧ (0 : Int) ≤ 16 ∧ 16 ≤ (100000 : Int) ∧ a_2 ∉ d ∧ ¬ zst3 a_2 ∧ d.length + 1 ≤ kz.1 ∧ zsl d + (zkd a_2).2 ≤ kz.2 ∧ ∀ d_10 G_11 E_12, d_10 = d ++ [a_2] → G_11 = zclG G a_2 → E_12 = zclE E_1 a_2 → (∀ G_13, G_13 = zuG G_11 50 1 (some a_2) → ∃ a_14, zkd a_14 = (0, (16 : Int).toNat) ∧ (0 : Int) ≤ 16 ∧ 16 ≤ (100000 : Int) ∧ a_14 ∉ d_10 ∧ ¬ zst3 a_14 ∧ d_10.length + 1 ≤ kz.1 ∧ zsl d_10 + (zkd a_14).2 ≤ kz.2 ∧ ∀ d_22 G_23 E_24, d_22 = d_10 ++ [a_14] → G_23 = zclG G_13 a_14 → E_24 = zclE E_12 a_14 → (∀ G_25, G_25 = zuG G_23 50 2 (some a_14) → ∃ a_26, zkd a_26 = (0, (16 : Int).toNat) ∧ (0 : Int) ≤ 16 ∧ 16 ≤ (100000 : Int) ∧ a_26 ∉ d_22 ∧ ¬ zst3 a_26 ∧ d_22.length + 1 ≤ kz.1 ∧ zsl d_22 + (zkd a_26).2 ≤ kz.2 ∧ ∀ d_34 G_35 E_36, d_34 = d_22 ++ [a_26] → G_35 = zclG G_25 a_26 → E_36 = zclE E_24 a_26 → (∀ G_37, G_37 = zuG G_35 50 3 (some a_26) → ∃ a_38, zkd a_38 = (0, (200 : Int).toNat) ∧ (0 : Int) ≤ 200 ∧ 200 ≤ (100000 : Int) ∧ a_38 ∉ d_34 ∧ ¬ zst3 a_38 ∧ d_34.length + 1 ≤ kz.1 ∧ zsl d_34 + (zkd a_38).2 ≤ kz.2 ∧ ∀ d_46 G_47 E_48, d_46 = d_34 ++ [a_38] → G_47 = zclG G_37 a_38 → E_48 = zclE E_36 a_38 → (∀ G_49, G_49 = zuG G_47 50 5 (some a_38) → ∃ a_50, zkd a_50 = (0, (27000 : Int).toNat) ∧ (0 : Int) ≤ 27000 ∧ 27000 ≤ (100000 : Int) ∧ a_50 ∉ d_46 ∧ ¬ zst3 a_50 ∧ d_46.length + 1 ≤ kz.1 ∧ zsl d_46 + (zkd a_50).2 ≤ kz.2 ∧ ∀ d_58 G_59 E_60, d_58 = d_46 ++ [a_50] → G_59 = zclG G_49 a_50 → E_60 = zclE E_48 a_50 → (∀ G_61, G_61 = zuG G_59 50 7 (some a_50) → ∃ a_62, zkd a_62 = (0, (900 : Int).toNat) ∧ (0 : Int) ≤ 900 ∧ 900 ≤ (100000 : Int) ∧ a_62 ∉ d_58 ∧ ¬ zst3 a_62 ∧ d_58.length + 1 ≤ kz.1 ∧ zsl d_58 + (zkd a_62).2 ≤ kz.2 ∧ ∀ d_70 G_71 E_72, d_70 = d_58 ++ [a_62] → G_71 = zclG G_61 a_62 → E_72 = zclE E_60 a_62 → (∀ G_73, G_73 = zuG G_71 50 8 (some a_62) → ∃ a_74, zkd a_74 = (1, (900 : Int).toNat) ∧ (0 : Int) ≤ 900 ∧ 900 ≤ (100000 : Int) ∧ a_74 ∉ d_70 ∧ ¬ zst3 a_74 ∧ d_70.length + 1 ≤ kz.1 ∧ zsl d_70 + (zkd a_74).2 ≤ kz.2 ∧ ∀ d_82 G_83 E_84, d_82 = d_70 ++ [a_74] → G_83 = zclG G_73 a_74 → E_84 = zclE E_72 a_74 → (∀ G_85, G_85 = zuG G_83 50 9 (some a_74) → ∃ a_86, zkd a_86 = (0, (150 : Int).toNat) ∧ (0 : Int) ≤ 150 ∧ 150 ≤ (100000 : Int) ∧ a_86 ∉ d_82 ∧ ¬ zst3 a_86 ∧ d_82.length + 1 ≤ kz.1 ∧ zsl d_82 + (zkd a_86).2 ≤ kz.2 ∧ ∀ d_94 G_95 E_96, d_94 = d_82 ++ [a_86] → G_95 = zclG G_85 a_86 → E_96 = zclE E_84 a_86 → (∀ G_97, G_97 = zuG G_95 50 10 (some a_86) → ∃ a_98, zkd a_98 = (0, (150 : Int).toNat) ∧ (0 : Int) ≤ 150 ∧ 150 ≤ (100000 : Int) ∧ a_98 ∉ d_94 ∧ ¬ zst3 a_98 ∧ d_94.length + 1 ≤ kz.1 ∧ zsl d_94 + (zkd a_98).2 ≤ kz.2 ∧ ∀ d_106 G_107 E_108, d_106 = d_94 ++ [a_98] → G_107 = zclG G_97 a_98 → E_108 = zclE E_96 a_98 → (∀ G_109, G_109 = zuG G_107 50 11 (some a_98) → ∃ a_110, zkd a_110 = (0, (150 : Int).toNat) ∧ (0 : Int) ≤ 150 ∧ 150 ≤ (100000 : Int) ∧ a_110 ∉ d_106 ∧ ¬ zst3 a_110 ∧ d_106.length + 1 ≤ kz.1 ∧ zsl d_106 + (zkd a_110).2 ≤ kz.2 ∧ ∀ d_118 G_119 E_120, d_118 = d_106 ++ [a_110] → G_119 = zclG G_109 a_110 → E_120 = zclE E_108 a_110 → (∀ G_121, G_121 = zuG G_119 50 12 (some a_110) → ∃ a_122, zkd a_122 = (1, (150 : Int).toNat) ∧ (0 : Int) ≤ 150 ∧ 150 ≤ (100000 : Int) ∧ a_122 ∉ d_118 ∧ ¬ zst3 a_122 ∧ d_118.length + 1 ≤ kz.1 ∧ zsl d_118 + (zkd a_122).2 ≤ kz.2 ∧ ∀ d_130 G_131 E_132, d_130 = d_118 ++ [a_122] → G_131 = zclG G_121 a_122 → E_132 = zclE E_120 a_122 → (∀ G_133, G_133 = zuG G_131 50 13 (some a_122) → ∃ a_134, zkd a_134 = (0, (27000 : Int).toNat) ∧ (0 : Int) ≤ 27000 ∧ 27000 ≤ (100000 : Int) ∧ a_134 ∉ d_130 ∧ ¬ zst3 a_134 ∧ d_130.length + 1 ≤ kz.1 ∧ zsl d_130 + (zkd a_134).2 ≤ kz.2 ∧ ∀ d_142 G_143 E_144, d_142 = d_130 ++ [a_134] → G_143 = zclG G_133 a_134 → E_144 = zclE E_132 a_134 → (∀ G_145, G_145 = zuG G_143 50 14 (some a_134) → ∃ a_146, zkd a_146 = (0, (900 : Int).toNat) ∧ (0 : Int) ≤ 900 ∧ 900 ≤ (100000 : Int) ∧ a_146 ∉ d_142 ∧ ¬ zst3 a_146 ∧ d_142.length + 1 ≤ kz.1 ∧ zsl d_142 + (zkd a_146).2 ≤ kz.2 ∧ ∀ d_154 G_155 E_156, d_154 = d_142 ++ [a_146] → G_155 = zclG G_145 a_146 → E_156 = zclE E_144 a_146 → (∀ G_157, G_157 = zuG G_155 50 15 (some a_146) → ∃ a_158, zkd a_158 = (1, (900 : Int).toNat) ∧ (0 : Int) ≤ 900 ∧ 900 ≤ (100000 : Int) ∧ a_158 ∉ d_154 ∧ ¬ zst3 a_158 ∧ d_154.length + 1 ≤ kz.1 ∧ zsl d_154 + (zkd a_158).2 ≤ kz.2 ∧ ∀ d_166 G_167 E_168, d_166 = d_154 ++ [a_158] → G_167 = zclG G_157 a_158 → E_168 = zclE E_156 a_158 → (∀ G_169, G_169 = zuG G_167 50 16 (some a_158) → ∃ a_170, zkd a_170 = (0, (150 : Int).toNat) ∧ (0 : Int) ≤ 150 ∧ 150 ≤ (100000 : Int) ∧ a_170 ∉ d_166 ∧ ¬ zst3 a_170 ∧ d_166.length + 1 ≤ kz.1 ∧ zsl d_166 + (zkd a_170).2 ≤ kz.2 ∧ ∀ d_178 G_179 E_180, d_178 = d_166 ++ [a_170] → G_179 = zclG G_169 a_170 → E_180 = zclE E_168 a_170 → (∀ G_181, G_181 = zuG G_179 50 17 (some a_170) → ∃ a_182, zkd a_182 = (0, (1050 : Int).toNat) ∧ (0 : Int) ≤ 1050 ∧ 1050 ≤ (100000 : Int) ∧ a_182 ∉ d_178 ∧ ¬ zst3 a_182 ∧ d_178.length + 1 ≤ kz.1 ∧ zsl d_178 + (zkd a_182).2 ≤ kz.2 ∧ ∀ d_190 G_191 E_192, d_190 = d_178 ++ [a_182] → G_191 = zclG G_181 a_182 → E_192 = zclE E_180 a_182 → (∀ G_193, G_193 = zuG G_191 50 18 (some a_182) → ∃ a_194, zkd a_194 = (0, (150 : Int).toNat) ∧ (0 : Int) ≤ 150 ∧ 150 ≤ (100000 : Int) ∧ a_194 ∉ d_190 ∧ ¬ zst3 a_194 ∧ d_190.length + 1 ≤ kz.1 ∧ zsl d_190 + (zkd a_194).2 ≤ kz.2 ∧ ∀ d_202 G_203 E_204, d_202 = d_190 ++ [a_194] → G_203 = zclG G_193 a_194 → E_204 = zclE E_192 a_194 → (∀ G_205, G_205 = zuG G_203 50 19 (some a_194) → ∃ a_206, zkd a_206 = (0, (4800 : Int).toNat) ∧ (0 : Int) ≤ 4800 ∧ 4800 ≤ (100000 : Int) ∧ a_206 ∉ d_202 ∧ ¬ zst3 a_206 ∧ d_202.length + 1 ≤ kz.1 ∧ zsl d_202 + (zkd a_206).2 ≤ kz.2 ∧ ∀ d_214 G_215 E_216, d_214 = d_202 ++ [a_206] → G_215 = zclG G_205 a_206 → E_216 = zclE E_204 a_206 → (∀ G_217, G_217 = zuG G_215 50 20 (some a_206) → ∃ a_218, zkd a_218 = (0, (180 : Int).toNat) ∧ (0 : Int) ≤ 180 ∧ 180 ≤ (100000 : Int) ∧ a_218 ∉ d_214 ∧ ¬ zst3 a_218 ∧ d_214.length + 1 ≤ kz.1 ∧ zsl d_214 + (zkd a_218).2 ≤ kz.2 ∧ ∀ d_226 G_227 E_228, d_226 = d_214 ++ [a_218] → G_227 = zclG G_217 a_218 → E_228 = zclE E_216 a_218 → (∀ G_229, G_229 = zuG G_227 50 21 (some a_218) → ∃ a_230, zkd a_230 = (0, (6 : Int).toNat) ∧ (0 : Int) ≤ 6 ∧ 6 ≤ (100000 : Int) ∧ a_230 ∉ d_226 ∧ ¬ zst3 a_230 ∧ d_226.length + 1 ≤ kz.1 ∧ zsl d_226 + (zkd a_230).2 ≤ kz.2 ∧ ∀ d_238 G_239 E_240, d_238 = d_226 ++ [a_230] → G_239 = zclG G_229 a_230 → E_240 = zclE E_228 a_230 → (∀ G_241, G_241 = zuG G_239 50 22 (some a_230) → ∃ a_242, zkd a_242 = (1, (6 : Int).toNat) ∧ (0 : Int) ≤ 6 ∧ 6 ≤ (100000 : Int) ∧ a_242 ∉ d_238 ∧ ¬ zst3 a_242 ∧ d_238.length + 1 ≤ kz.1 ∧ zsl d_238 + (zkd a_242).2 ≤ kz.2 ∧ ∀ d_250 G_251 E_252, d_250 = d_238 ++ [a_242] → G_251 = zclG G_241 a_242 → E_252 = zclE E_240 a_242 → (∀ G_253, G_253 = zuG G_251 50 23 (some a_242) → ∃ a_254, zkd a_254 = (0, (40 : Int).toNat) ∧ (0 : Int) ≤ 40 ∧ 40 ≤ (100000 : Int) ∧ a_254 ∉ d_250 ∧ ¬ zst3 a_254 ∧ d_250.length + 1 ≤ kz.1 ∧ zsl d_250 + (zkd a_254).2 ≤ kz.2 ∧ ∀ d_262 G_263 E_264, d_262 = d_250 ++ [a_254] → G_263 = zclG G_253 a_254 → E_264 = zclE E_252 a_254 → (∀ G_265, G_265 = zuG G_263 50 25 (some a_254) → ∃ a_266, zkd a_266 = (0, (30 : Int).toNat) ∧ (0 : Int) ≤ 30 ∧ 30 ≤ (100000 : Int) ∧ a_266 ∉ d_262 ∧ ¬ zst3 a_266 ∧ d_262.length + 1 ≤ kz.1 ∧ zsl d_262 + (zkd a_266).2 ≤ kz.2 ∧ ∀ d_274 G_275 E_276, d_274 = d_262 ++ [a_266] → G_275 = zclG G_265 a_266 → E_276 = zclE E_264 a_266 → (∀ G_277, G_277 = zuG G_275 50 26 (some a_266) → ∃ a_278, zkd a_278 = (0, (40 : Int).toNat) ∧ (0 : Int) ≤ 40 ∧ 40 ≤ (100000 : Int) ∧ a_278 ∉ d_274 ∧ ¬ zst3 a_278 ∧ d_274.length + 1 ≤ kz.1 ∧ zsl d_274 + (zkd a_278).2 ≤ kz.2 ∧ ∀ d_286 G_287 E_288, d_286 = d_274 ++ [a_278] → G_287 = zclG G_277 a_278 → E_288 = zclE E_276 a_278 → (∀ G_289, G_289 = zuG G_287 50 27 (some a_278) → ∃ a_290, zkd a_290 = (0, (20 : Int).toNat) ∧ (0 : Int) ≤ 20 ∧ 20 ≤ (100000 : Int) ∧ a_290 ∉ d_286 ∧ ¬ zst3 a_290 ∧ d_286.length + 1 ≤ kz.1 ∧ zsl d_286 + (zkd a_290).2 ≤ kz.2 ∧ ∀ d_298 G_299 E_300, d_298 = d_286 ++ [a_290] → G_299 = zclG G_289 a_290 → E_300 = zclE E_288 a_290 → (∀ G_301, G_301 = zuG G_299 50 29 (some a_290) → ∃ a_302, zkd a_302 = (0, (20 : Int).toNat) ∧ (0 : Int) ≤ 20 ∧ 20 ≤ (100000 : Int) ∧ a_302 ∉ d_298 ∧ ¬ zst3 a_302 ∧ d_298.length + 1 ≤ kz.1 ∧ zsl d_298 + (zkd a_302).2 ≤ kz.2 ∧ ∀ d_310 G_311 E_312, d_310 = d_298 ++ [a_302] → G_311 = zclG G_301 a_302 → E_312 = zclE E_300 a_302 → (∀ G_313, G_313 = zuG G_311 50 30 (some a_302) → ∃ a_314, zkd a_314 = (0, (7 : Int).toNat) ∧ (0 : Int) ≤ 7 ∧ 7 ≤ (100000 : Int) ∧ a_314 ∉ d_310 ∧ ¬ zst3 a_314 ∧ d_310.length + 1 ≤ kz.1 ∧ zsl d_310 + (zkd a_314).2 ≤ kz.2 ∧ ∀ d_322 G_323 E_324, d_322 = d_310 ++ [a_314] → G_323 = zclG G_313 a_314 → E_324 = zclE E_312 a_314 → (∀ G_325, G_325 = zuG G_323 50 31 (some a_314) → ∃ a_326, zkd a_326 = (0, (140 : Int).toNat) ∧ (0 : Int) ≤ 140 ∧ 140 ≤ (100000 : Int) ∧ a_326 ∉ d_322 ∧ ¬ zst3 a_326 ∧ d_322.length + 1 ≤ kz.1 ∧ zsl d_322 + (zkd a_326).2 ≤ kz.2 ∧ ∀ d_334 G_335 E_336, d_334 = d_322 ++ [a_326] → G_335 = zclG G_325 a_326 → E_336 = zclE E_324 a_326 → (∀ G_337, G_337 = zuG G_335 50 32 (some a_326) → ∃ a_338, zkd a_338 = (0, (140 : Int).toNat) ∧ (0 : Int) ≤ 140 ∧ 140 ≤ (100000 : Int) ∧ a_338 ∉ d_334 ∧ ¬ zst3 a_338 ∧ d_334.length + 1 ≤ kz.1 ∧ zsl d_334 + (zkd a_338).2 ≤ kz.2 ∧ ∀ d_346 G_347 E_348, d_346 = d_334 ++ [a_338] → G_347 = zclG G_337 a_338 → E_348 = zclE E_336 a_338 → (∀ G_349, G_349 = zuG G_347 50 33 (some a_338) → ∃ a_350, zkd a_350 = (0, (1000 : Int).toNat) ∧ (0 : Int) ≤ 1000 ∧ 1000 ≤ (100000 : Int) ∧ a_350 ∉ d_346 ∧ ¬ zst3 a_350 ∧ d_346.length + 1 ≤ kz.1 ∧ zsl d_346 + (zkd a_350).2 ≤ kz.2 ∧ ∀ d_358 G_359 E_360, d_358 = d_346 ++ [a_350] → G_359 = zclG G_349 a_350 → E_360 = zclE E_348 a_350 → (∀ G_361, G_361 = zuG G_359 50 34 (some a_350) → ∃ a_362, zkd a_362 = (0, (32 : Int).toNat) ∧ (0 : Int) ≤ 32 ∧ 32 ≤ (100000 : Int) ∧ a_362 ∉ d_358 ∧ ¬ zst3 a_362 ∧ d_358.length + 1 ≤ kz.1 ∧ zsl d_358 + (zkd a_362).2 ≤ kz.2 ∧ ∀ d_370 G_371 E_372, d_370 = d_358 ++ [a_362] → G_371 = zclG G_361 a_362 → E_372 = zclE E_360 a_362 → (∀ G_373, G_373 = zuG G_371 50 41 (some a_362) → ∃ a_374, zkd a_374 = (0, (360 : Int).toNat) ∧ (0 : Int) ≤ 360 ∧ 360 ≤ (100000 : Int) ∧ a_374 ∉ d_370 ∧ ¬ zst3 a_374 ∧ d_370.length + 1 ≤ kz.1 ∧ zsl d_370 + (zkd a_374).2 ≤ kz.2 ∧ ∀ d_382 G_383 E_384, d_382 = d_370 ++ [a_374] → G_383 = zclG G_373 a_374 → E_384 = zclE E_372 a_374 → (∀ G_385, G_385 = zuG G_383 50 46 (some a_374) → ∃ a_386, zkd a_386 = (0, (40 : Int).toNat) ∧ (0 : Int) ≤ 40 ∧ 40 ≤ (100000 : Int) ∧ a_386 ∉ d_382 ∧ ¬ zst3 a_386 ∧ d_382.length + 1 ≤ kz.1 ∧ zsl d_382 + (zkd a_386).2 ≤ kz.2 ∧ ∀ d_394 G_395 E_396, d_394 = d_382 ++ [a_386] → G_395 = zclG G_385 a_386 → E_396 = zclE E_384 a_386 → (∀ G_397, G_397 = zuG G_395 50 47 (some a_386) → ∃ a_398, zkd a_398 = (0, (4000 : Int).toNat) ∧ (0 : Int) ≤ 4000 ∧ 4000 ≤ (100000 : Int) ∧ a_398 ∉ d_394 ∧ ¬ zst3 a_398 ∧ d_394.length + 1 ≤ kz.1 ∧ zsl d_394 + (zkd a_398).2 ≤ kz.2 ∧ ∀ d_406 G_407 E_408, d_406 = d_394 ++ [a_398] → G_407 = zclG G_397 a_398 → E_408 = zclE E_396 a_398 → (∀ G_409, G_409 = zuG G_407 50 48 (some a_398) → ∃ a_410, zkd a_410 = (0, (4000 : Int).toNat) ∧ (0 : Int) ≤ 4000 ∧ 4000 ≤ (100000 : Int) ∧ a_410 ∉ d_406 ∧ ¬ zst3 a_410 ∧ d_406.length + 1 ≤ kz.1 ∧ zsl d_406 + (zkd a_410).2 ≤ kz.2 ∧ ∀ d_418 G_419 E_420, d_418 = d_406 ++ [a_410] → G_419 = zclG G_409 a_410 → E_420 = zclE E_408 a_410 → (∀ G_421, G_421 = zuG G_419 50 49 (some a_410) → ∃ a_422, zkd a_422 = (0, (4000 : Int).toNat) ∧ (0 : Int) ≤ 4000 ∧ 4000 ≤ (100000 : Int) ∧ a_422 ∉ d_418 ∧ ¬ zst3 a_422 ∧ d_418.length + 1 ≤ kz.1 ∧ zsl d_418 + (zkd a_422).2 ≤ kz.2 ∧ ∀ d_430 G_431 E_432, d_430 = d_418 ++ [a_422] → G_431 = zclG G_421 a_422 → E_432 = zclE E_420 a_422 → (∀ G_433, G_433 = zuG G_431 50 50 (some a_422) → ∃ a_434, zkd a_434 = (0, (31 : Int).toNat) ∧ (0 : Int) ≤ 31 ∧ 31 ≤ (100000 : Int) ∧ a_434 ∉ d_430 ∧ ¬ zst3 a_434 ∧ d_430.length + 1 ≤ kz.1 ∧ zsl d_430 + (zkd a_434).2 ≤ kz.2 ∧ ∀ d_442 G_443 E_444, d_442 = d_430 ++ [a_434] → G_443 = zclG G_433 a_434 → E_444 = zclE E_432 a_434 → (∀ G_445, G_445 = zuG G_443 50 51 (some a_434) → ∃ a_446, zkd a_446 = (0, (31 : Int).toNat) ∧ (0 : Int) ≤ 31 ∧ 31 ≤ (100000 : Int) ∧ a_446 ∉ d_442 ∧ ¬ zst3 a_446 ∧ d_442.length + 1 ≤ kz.1 ∧ zsl d_442 + (zkd a_446).2 ≤ kz.2 ∧ ∀ d_454 G_455 E_456, d_454 = d_442 ++ [a_446] → G_455 = zclG G_445 a_446 → E_456 = zclE E_444 a_446 → (∀ G_457, G_457 = zuG G_455 50 53 (some a_446) → ∀ E_458, E_458 = zuE E_456 50 57 4 → ∀ E_459, E_459 = zuE E_458 50 58 2000 → ∃ a_460, zkd a_460 = (1, (150 : Int).toNat) ∧ (0 : Int) ≤ 150 ∧ 150 ≤ (100000 : Int) ∧ a_460 ∉ d_454 ∧ ¬ zst3 a_460 ∧ d_454.length + 1 ≤ kz.1 ∧ zsl d_454 + (zkd a_460).2 ≤ kz.2 ∧ ∀ d_468 G_469 E_470, d_468 = d_454 ++ [a_460] → G_469 = zclG G_457 a_460 → E_470 = zclE E_459 a_460 → (∀ G_471, G_471 = zuG G_469 50 59 (some a_460) → ∃ b_472 n_474, (G_471 50 1) = some b_472 ∧ zkd b_472 = (1, n_474) ∧ b_472 ∈ d_468 ∧ ((0 : Int) ≤ 0 ∧ 0 < (n_474 : Int)) ∧ ∀ E_478, E_478 = zuE E_470 b_472 0 1 → ∃ b_479 n_481, (G_471 50 2) = some b_479 ∧ zkd b_479 = (0, n_481) ∧ b_479 ∈ d_468 ∧ ((0 : Int) ≤ 0 ∧ 0 < (n_481 : Int)) ∧ ∀ E_485, E_485 = zuE E_478 b_479 0 2 → ∃ b_486 n_488, (G_471 50 3) = some b_486 ∧ zkd b_486 = (0, n_488) ∧ b_486 ∈ d_468 ∧ ((0 : Int) ≤ 0 ∧ 0 < (n_488 : Int)) ∧ ∀ E_492, E_492 = zuE E_485 b_486 0 1 → Q none (d_468, G_471, E_492))))))))))))))))))))))))))))))))))))))))) : Z zm_X12_init kz Q 0 [(0, zR 50)] [] (d, G, E) := by
  refine Z.aload_n (k := 0) dX12_init_0 rfl ?_
  refine Z.objInit (a := 50) dX12_init_1 zk_X12_1 ⟨by decide, by decide⟩ (Nat.le_of_ble_eq_true rfl) ?_
  refine Z.aload_n (k := 0) dX12_init_4 rfl ?_
  refine Z.iconst (n := 1) dX12_init_5 ⟨by decide, by decide⟩ ?_
  refine Y.putI 0 dX12_init_6 zw_X12_7 (fun q => by cases q) (rfl) rfl hm50 (Or.inl rfl) ?_
  generalize eE_1 : zuE E 50 0 1 = E_1
  replace K := K E_1 eE_1.symm
  refine Z.aload_n (k := 0) dX12_init_9 rfl ?_
  refine Z.bipush (n := 16) dX12_init_10 ⟨by decide, by decide⟩ (by decide) ?_
  obtain ⟨a_2, z_3, z_4, z_5, z_6, z_7, z_8, z_9, K⟩ := K
  refine Y.newZ a_2 dX12_init_12 z_3 z_4 z_5 zaz z_6 z_7 z_8 z_9 ?_
  generalize ed_10 : d ++ [a_2] = d_10
  generalize eG_11 : zclG G a_2 = G_11
  generalize eE_12 : zclE E_1 a_2 = E_12
  replace K := K d_10 G_11 E_12 ed_10.symm eG_11.symm eE_12.symm
  refine Y.putR 1 dX12_init_14 zw_X12_13 (fun _ => ⟨rfl, rfl⟩) (rfl) rfl (by rw [← ed_10]; exact List.mem_append_left _ (hm50)) (fun b hb => by cases hb; exact (by rw [← ed_10]; exact List.mem_append_right _ List.mem_cons_self)) ?_
  generalize eG_13 : zuG G_11 50 1 (some a_2) = G_13
  replace K := K G_13 eG_13.symm
  refine Z.aload_n (k := 0) dX12_init_17 rfl ?_
  refine Z.bipush (n := 16) dX12_init_18 ⟨by decide, by decide⟩ (by decide) ?_
  obtain ⟨a_14, z_15, z_16, z_17, z_18, z_19, z_20, z_21, K⟩ := K
  refine Y.newI a_14 dX12_init_20 z_15 z_16 z_17 zai z_18 z_19 z_20 z_21 ?_
  generalize ed_22 : d_10 ++ [a_14] = d_22
  generalize eG_23 : zclG G_13 a_14 = G_23
  generalize eE_24 : zclE E_12 a_14 = E_24
  replace K := K d_22 G_23 E_24 ed_22.symm eG_23.symm eE_24.symm
  refine Y.putR 2 dX12_init_22 zw_X12_17 (fun _ => ⟨rfl, rfl⟩) (rfl) rfl (by rw [← ed_22]; exact List.mem_append_left _ ((by rw [← ed_10]; exact List.mem_append_left _ (hm50)))) (fun b hb => by cases hb; exact (by rw [← ed_22]; exact List.mem_append_right _ List.mem_cons_self)) ?_
  generalize eG_25 : zuG G_23 50 2 (some a_14) = G_25
  replace K := K G_25 eG_25.symm
  refine Z.aload_n (k := 0) dX12_init_25 rfl ?_
  refine Z.bipush (n := 16) dX12_init_26 ⟨by decide, by decide⟩ (by decide) ?_
  obtain ⟨a_26, z_27, z_28, z_29, z_30, z_31, z_32, z_33, K⟩ := K
  refine Y.newI a_26 dX12_init_28 z_27 z_28 z_29 zai z_30 z_31 z_32 z_33 ?_
  generalize ed_34 : d_22 ++ [a_26] = d_34
  generalize eG_35 : zclG G_25 a_26 = G_35
  generalize eE_36 : zclE E_24 a_26 = E_36
  replace K := K d_34 G_35 E_36 ed_34.symm eG_35.symm eE_36.symm
  refine Y.putR 3 dX12_init_30 zw_X12_21 (fun _ => ⟨rfl, rfl⟩) (rfl) rfl (by rw [← ed_34]; exact List.mem_append_left _ ((by rw [← ed_22]; exact List.mem_append_left _ ((by rw [← ed_10]; exact List.mem_append_left _ (hm50)))))) (fun b hb => by cases hb; exact (by rw [← ed_34]; exact List.mem_append_right _ List.mem_cons_self)) ?_
  generalize eG_37 : zuG G_35 50 3 (some a_26) = G_37
  replace K := K G_37 eG_37.symm
  refine Z.aload_n (k := 0) dX12_init_33 rfl ?_
  refine Z.sipush (n := 200) dX12_init_34 ⟨by decide, by decide⟩ (by decide) ?_
  obtain ⟨a_38, z_39, z_40, z_41, z_42, z_43, z_44, z_45, K⟩ := K
  refine Y.newI a_38 dX12_init_37 z_39 z_40 z_41 zai z_42 z_43 z_44 z_45 ?_
  generalize ed_46 : d_34 ++ [a_38] = d_46
  generalize eG_47 : zclG G_37 a_38 = G_47
  generalize eE_48 : zclE E_36 a_38 = E_48
  replace K := K d_46 G_47 E_48 ed_46.symm eG_47.symm eE_48.symm
  refine Y.putR 5 dX12_init_39 zw_X12_24 (fun _ => ⟨rfl, rfl⟩) (rfl) rfl (by rw [← ed_46]; exact List.mem_append_left _ ((by rw [← ed_34]; exact List.mem_append_left _ ((by rw [← ed_22]; exact List.mem_append_left _ ((by rw [← ed_10]; exact List.mem_append_left _ (hm50)))))))) (fun b hb => by cases hb; exact (by rw [← ed_46]; exact List.mem_append_right _ List.mem_cons_self)) ?_
  generalize eG_49 : zuG G_47 50 5 (some a_38) = G_49
  replace K := K G_49 eG_49.symm
  refine Z.aload_n (k := 0) dX12_init_42 rfl ?_
  refine Z.sipush (n := 27000) dX12_init_43 ⟨by decide, by decide⟩ (by decide) ?_
  obtain ⟨a_50, z_51, z_52, z_53, z_54, z_55, z_56, z_57, K⟩ := K
  refine Y.newI a_50 dX12_init_46 z_51 z_52 z_53 zai z_54 z_55 z_56 z_57 ?_
  generalize ed_58 : d_46 ++ [a_50] = d_58
  generalize eG_59 : zclG G_49 a_50 = G_59
  generalize eE_60 : zclE E_48 a_50 = E_60
  replace K := K d_58 G_59 E_60 ed_58.symm eG_59.symm eE_60.symm
  refine Y.putR 7 dX12_init_48 zw_X12_27 (fun _ => ⟨rfl, rfl⟩) (rfl) rfl (by rw [← ed_58]; exact List.mem_append_left _ ((by rw [← ed_46]; exact List.mem_append_left _ ((by rw [← ed_34]; exact List.mem_append_left _ ((by rw [← ed_22]; exact List.mem_append_left _ ((by rw [← ed_10]; exact List.mem_append_left _ (hm50)))))))))) (fun b hb => by cases hb; exact (by rw [← ed_58]; exact List.mem_append_right _ List.mem_cons_self)) ?_
  generalize eG_61 : zuG G_59 50 7 (some a_50) = G_61
  replace K := K G_61 eG_61.symm
  refine Z.aload_n (k := 0) dX12_init_51 rfl ?_
  refine Z.sipush (n := 900) dX12_init_52 ⟨by decide, by decide⟩ (by decide) ?_
  obtain ⟨a_62, z_63, z_64, z_65, z_66, z_67, z_68, z_69, K⟩ := K
  refine Y.newI a_62 dX12_init_55 z_63 z_64 z_65 zai z_66 z_67 z_68 z_69 ?_
  generalize ed_70 : d_58 ++ [a_62] = d_70
  generalize eG_71 : zclG G_61 a_62 = G_71
  generalize eE_72 : zclE E_60 a_62 = E_72
  replace K := K d_70 G_71 E_72 ed_70.symm eG_71.symm eE_72.symm
  refine Y.putR 8 dX12_init_57 zw_X12_30 (fun _ => ⟨rfl, rfl⟩) (rfl) rfl (by rw [← ed_70]; exact List.mem_append_left _ ((by rw [← ed_58]; exact List.mem_append_left _ ((by rw [← ed_46]; exact List.mem_append_left _ ((by rw [← ed_34]; exact List.mem_append_left _ ((by rw [← ed_22]; exact List.mem_append_left _ ((by rw [← ed_10]; exact List.mem_append_left _ (hm50)))))))))))) (fun b hb => by cases hb; exact (by rw [← ed_70]; exact List.mem_append_right _ List.mem_cons_self)) ?_
  generalize eG_73 : zuG G_71 50 8 (some a_62) = G_73
  replace K := K G_73 eG_73.symm
  refine Z.aload_n (k := 0) dX12_init_60 rfl ?_
  refine Z.sipush (n := 900) dX12_init_61 ⟨by decide, by decide⟩ (by decide) ?_
  obtain ⟨a_74, z_75, z_76, z_77, z_78, z_79, z_80, z_81, K⟩ := K
  refine Y.newZ a_74 dX12_init_64 z_75 z_76 z_77 zaz z_78 z_79 z_80 z_81 ?_
  generalize ed_82 : d_70 ++ [a_74] = d_82
  generalize eG_83 : zclG G_73 a_74 = G_83
  generalize eE_84 : zclE E_72 a_74 = E_84
  replace K := K d_82 G_83 E_84 ed_82.symm eG_83.symm eE_84.symm
  refine Y.putR 9 dX12_init_66 zw_X12_33 (fun _ => ⟨rfl, rfl⟩) (rfl) rfl (by rw [← ed_82]; exact List.mem_append_left _ ((by rw [← ed_70]; exact List.mem_append_left _ ((by rw [← ed_58]; exact List.mem_append_left _ ((by rw [← ed_46]; exact List.mem_append_left _ ((by rw [← ed_34]; exact List.mem_append_left _ ((by rw [← ed_22]; exact List.mem_append_left _ ((by rw [← ed_10]; exact List.mem_append_left _ (hm50)))))))))))))) (fun b hb => by cases hb; exact (by rw [← ed_82]; exact List.mem_append_right _ List.mem_cons_self)) ?_
  generalize eG_85 : zuG G_83 50 9 (some a_74) = G_85
  replace K := K G_85 eG_85.symm
  refine Z.aload_n (k := 0) dX12_init_69 rfl ?_
  refine Z.sipush (n := 150) dX12_init_70 ⟨by decide, by decide⟩ (by decide) ?_
  obtain ⟨a_86, z_87, z_88, z_89, z_90, z_91, z_92, z_93, K⟩ := K
  refine Y.newI a_86 dX12_init_73 z_87 z_88 z_89 zai z_90 z_91 z_92 z_93 ?_
  generalize ed_94 : d_82 ++ [a_86] = d_94
  generalize eG_95 : zclG G_85 a_86 = G_95
  generalize eE_96 : zclE E_84 a_86 = E_96
  replace K := K d_94 G_95 E_96 ed_94.symm eG_95.symm eE_96.symm
  refine Y.putR 10 dX12_init_75 zw_X12_36 (fun _ => ⟨rfl, rfl⟩) (rfl) rfl (by rw [← ed_94]; exact List.mem_append_left _ ((by rw [← ed_82]; exact List.mem_append_left _ ((by rw [← ed_70]; exact List.mem_append_left _ ((by rw [← ed_58]; exact List.mem_append_left _ ((by rw [← ed_46]; exact List.mem_append_left _ ((by rw [← ed_34]; exact List.mem_append_left _ ((by rw [← ed_22]; exact List.mem_append_left _ ((by rw [← ed_10]; exact List.mem_append_left _ (hm50)))))))))))))))) (fun b hb => by cases hb; exact (by rw [← ed_94]; exact List.mem_append_right _ List.mem_cons_self)) ?_
  generalize eG_97 : zuG G_95 50 10 (some a_86) = G_97
  replace K := K G_97 eG_97.symm
  refine Z.aload_n (k := 0) dX12_init_78 rfl ?_
  refine Z.sipush (n := 150) dX12_init_79 ⟨by decide, by decide⟩ (by decide) ?_
  obtain ⟨a_98, z_99, z_100, z_101, z_102, z_103, z_104, z_105, K⟩ := K
  refine Y.newI a_98 dX12_init_82 z_99 z_100 z_101 zai z_102 z_103 z_104 z_105 ?_
  generalize ed_106 : d_94 ++ [a_98] = d_106
  generalize eG_107 : zclG G_97 a_98 = G_107
  generalize eE_108 : zclE E_96 a_98 = E_108
  replace K := K d_106 G_107 E_108 ed_106.symm eG_107.symm eE_108.symm
  refine Y.putR 11 dX12_init_84 zw_X12_39 (fun _ => ⟨rfl, rfl⟩) (rfl) rfl (by rw [← ed_106]; exact List.mem_append_left _ ((by rw [← ed_94]; exact List.mem_append_left _ ((by rw [← ed_82]; exact List.mem_append_left _ ((by rw [← ed_70]; exact List.mem_append_left _ ((by rw [← ed_58]; exact List.mem_append_left _ ((by rw [← ed_46]; exact List.mem_append_left _ ((by rw [← ed_34]; exact List.mem_append_left _ ((by rw [← ed_22]; exact List.mem_append_left _ ((by rw [← ed_10]; exact List.mem_append_left _ (hm50)))))))))))))))))) (fun b hb => by cases hb; exact (by rw [← ed_106]; exact List.mem_append_right _ List.mem_cons_self)) ?_
  generalize eG_109 : zuG G_107 50 11 (some a_98) = G_109
  replace K := K G_109 eG_109.symm
  refine Z.aload_n (k := 0) dX12_init_87 rfl ?_
  refine Z.sipush (n := 150) dX12_init_88 ⟨by decide, by decide⟩ (by decide) ?_
  obtain ⟨a_110, z_111, z_112, z_113, z_114, z_115, z_116, z_117, K⟩ := K
  refine Y.newI a_110 dX12_init_91 z_111 z_112 z_113 zai z_114 z_115 z_116 z_117 ?_
  generalize ed_118 : d_106 ++ [a_110] = d_118
  generalize eG_119 : zclG G_109 a_110 = G_119
  generalize eE_120 : zclE E_108 a_110 = E_120
  replace K := K d_118 G_119 E_120 ed_118.symm eG_119.symm eE_120.symm
  refine Y.putR 12 dX12_init_93 zw_X12_42 (fun _ => ⟨rfl, rfl⟩) (rfl) rfl (by rw [← ed_118]; exact List.mem_append_left _ ((by rw [← ed_106]; exact List.mem_append_left _ ((by rw [← ed_94]; exact List.mem_append_left _ ((by rw [← ed_82]; exact List.mem_append_left _ ((by rw [← ed_70]; exact List.mem_append_left _ ((by rw [← ed_58]; exact List.mem_append_left _ ((by rw [← ed_46]; exact List.mem_append_left _ ((by rw [← ed_34]; exact List.mem_append_left _ ((by rw [← ed_22]; exact List.mem_append_left _ ((by rw [← ed_10]; exact List.mem_append_left _ (hm50)))))))))))))))))))) (fun b hb => by cases hb; exact (by rw [← ed_118]; exact List.mem_append_right _ List.mem_cons_self)) ?_
  generalize eG_121 : zuG G_119 50 12 (some a_110) = G_121
  replace K := K G_121 eG_121.symm
  refine Z.aload_n (k := 0) dX12_init_96 rfl ?_
  refine Z.sipush (n := 150) dX12_init_97 ⟨by decide, by decide⟩ (by decide) ?_
  obtain ⟨a_122, z_123, z_124, z_125, z_126, z_127, z_128, z_129, K⟩ := K
  refine Y.newZ a_122 dX12_init_100 z_123 z_124 z_125 zaz z_126 z_127 z_128 z_129 ?_
  generalize ed_130 : d_118 ++ [a_122] = d_130
  generalize eG_131 : zclG G_121 a_122 = G_131
  generalize eE_132 : zclE E_120 a_122 = E_132
  replace K := K d_130 G_131 E_132 ed_130.symm eG_131.symm eE_132.symm
  refine Y.putR 13 dX12_init_102 zw_X12_45 (fun _ => ⟨rfl, rfl⟩) (rfl) rfl (by rw [← ed_130]; exact List.mem_append_left _ ((by rw [← ed_118]; exact List.mem_append_left _ ((by rw [← ed_106]; exact List.mem_append_left _ ((by rw [← ed_94]; exact List.mem_append_left _ ((by rw [← ed_82]; exact List.mem_append_left _ ((by rw [← ed_70]; exact List.mem_append_left _ ((by rw [← ed_58]; exact List.mem_append_left _ ((by rw [← ed_46]; exact List.mem_append_left _ ((by rw [← ed_34]; exact List.mem_append_left _ ((by rw [← ed_22]; exact List.mem_append_left _ ((by rw [← ed_10]; exact List.mem_append_left _ (hm50)))))))))))))))))))))) (fun b hb => by cases hb; exact (by rw [← ed_130]; exact List.mem_append_right _ List.mem_cons_self)) ?_
  generalize eG_133 : zuG G_131 50 13 (some a_122) = G_133
  replace K := K G_133 eG_133.symm
  refine Z.aload_n (k := 0) dX12_init_105 rfl ?_
  refine Z.sipush (n := 27000) dX12_init_106 ⟨by decide, by decide⟩ (by decide) ?_
  obtain ⟨a_134, z_135, z_136, z_137, z_138, z_139, z_140, z_141, K⟩ := K
  refine Y.newI a_134 dX12_init_109 z_135 z_136 z_137 zai z_138 z_139 z_140 z_141 ?_
  generalize ed_142 : d_130 ++ [a_134] = d_142
  generalize eG_143 : zclG G_133 a_134 = G_143
  generalize eE_144 : zclE E_132 a_134 = E_144
  replace K := K d_142 G_143 E_144 ed_142.symm eG_143.symm eE_144.symm
  refine Y.putR 14 dX12_init_111 zw_X12_48 (fun _ => ⟨rfl, rfl⟩) (rfl) rfl (by rw [← ed_142]; exact List.mem_append_left _ ((by rw [← ed_130]; exact List.mem_append_left _ ((by rw [← ed_118]; exact List.mem_append_left _ ((by rw [← ed_106]; exact List.mem_append_left _ ((by rw [← ed_94]; exact List.mem_append_left _ ((by rw [← ed_82]; exact List.mem_append_left _ ((by rw [← ed_70]; exact List.mem_append_left _ ((by rw [← ed_58]; exact List.mem_append_left _ ((by rw [← ed_46]; exact List.mem_append_left _ ((by rw [← ed_34]; exact List.mem_append_left _ ((by rw [← ed_22]; exact List.mem_append_left _ ((by rw [← ed_10]; exact List.mem_append_left _ (hm50)))))))))))))))))))))))) (fun b hb => by cases hb; exact (by rw [← ed_142]; exact List.mem_append_right _ List.mem_cons_self)) ?_
  generalize eG_145 : zuG G_143 50 14 (some a_134) = G_145
  replace K := K G_145 eG_145.symm
  refine Z.aload_n (k := 0) dX12_init_114 rfl ?_
  refine Z.sipush (n := 900) dX12_init_115 ⟨by decide, by decide⟩ (by decide) ?_
  obtain ⟨a_146, z_147, z_148, z_149, z_150, z_151, z_152, z_153, K⟩ := K
  refine Y.newI a_146 dX12_init_118 z_147 z_148 z_149 zai z_150 z_151 z_152 z_153 ?_
  generalize ed_154 : d_142 ++ [a_146] = d_154
  generalize eG_155 : zclG G_145 a_146 = G_155
  generalize eE_156 : zclE E_144 a_146 = E_156
  replace K := K d_154 G_155 E_156 ed_154.symm eG_155.symm eE_156.symm
  refine Y.putR 15 dX12_init_120 zw_X12_51 (fun _ => ⟨rfl, rfl⟩) (rfl) rfl (by rw [← ed_154]; exact List.mem_append_left _ ((by rw [← ed_142]; exact List.mem_append_left _ ((by rw [← ed_130]; exact List.mem_append_left _ ((by rw [← ed_118]; exact List.mem_append_left _ ((by rw [← ed_106]; exact List.mem_append_left _ ((by rw [← ed_94]; exact List.mem_append_left _ ((by rw [← ed_82]; exact List.mem_append_left _ ((by rw [← ed_70]; exact List.mem_append_left _ ((by rw [← ed_58]; exact List.mem_append_left _ ((by rw [← ed_46]; exact List.mem_append_left _ ((by rw [← ed_34]; exact List.mem_append_left _ ((by rw [← ed_22]; exact List.mem_append_left _ ((by rw [← ed_10]; exact List.mem_append_left _ (hm50)))))))))))))))))))))))))) (fun b hb => by cases hb; exact (by rw [← ed_154]; exact List.mem_append_right _ List.mem_cons_self)) ?_
  generalize eG_157 : zuG G_155 50 15 (some a_146) = G_157
  replace K := K G_157 eG_157.symm
  refine Z.aload_n (k := 0) dX12_init_123 rfl ?_
  refine Z.sipush (n := 900) dX12_init_124 ⟨by decide, by decide⟩ (by decide) ?_
  obtain ⟨a_158, z_159, z_160, z_161, z_162, z_163, z_164, z_165, K⟩ := K
  refine Y.newZ a_158 dX12_init_127 z_159 z_160 z_161 zaz z_162 z_163 z_164 z_165 ?_
  generalize ed_166 : d_154 ++ [a_158] = d_166
  generalize eG_167 : zclG G_157 a_158 = G_167
  generalize eE_168 : zclE E_156 a_158 = E_168
  replace K := K d_166 G_167 E_168 ed_166.symm eG_167.symm eE_168.symm
  refine Y.putR 16 dX12_init_129 zw_X12_54 (fun _ => ⟨rfl, rfl⟩) (rfl) rfl (by rw [← ed_166]; exact List.mem_append_left _ ((by rw [← ed_154]; exact List.mem_append_left _ ((by rw [← ed_142]; exact List.mem_append_left _ ((by rw [← ed_130]; exact List.mem_append_left _ ((by rw [← ed_118]; exact List.mem_append_left _ ((by rw [← ed_106]; exact List.mem_append_left _ ((by rw [← ed_94]; exact List.mem_append_left _ ((by rw [← ed_82]; exact List.mem_append_left _ ((by rw [← ed_70]; exact List.mem_append_left _ ((by rw [← ed_58]; exact List.mem_append_left _ ((by rw [← ed_46]; exact List.mem_append_left _ ((by rw [← ed_34]; exact List.mem_append_left _ ((by rw [← ed_22]; exact List.mem_append_left _ ((by rw [← ed_10]; exact List.mem_append_left _ (hm50)))))))))))))))))))))))))))) (fun b hb => by cases hb; exact (by rw [← ed_166]; exact List.mem_append_right _ List.mem_cons_self)) ?_
  generalize eG_169 : zuG G_167 50 16 (some a_158) = G_169
  replace K := K G_169 eG_169.symm
  refine Z.aload_n (k := 0) dX12_init_132 rfl ?_
  refine Z.sipush (n := 150) dX12_init_133 ⟨by decide, by decide⟩ (by decide) ?_
  obtain ⟨a_170, z_171, z_172, z_173, z_174, z_175, z_176, z_177, K⟩ := K
  refine Y.newI a_170 dX12_init_136 z_171 z_172 z_173 zai z_174 z_175 z_176 z_177 ?_
  generalize ed_178 : d_166 ++ [a_170] = d_178
  generalize eG_179 : zclG G_169 a_170 = G_179
  generalize eE_180 : zclE E_168 a_170 = E_180
  replace K := K d_178 G_179 E_180 ed_178.symm eG_179.symm eE_180.symm
  refine Y.putR 17 dX12_init_138 zw_X12_57 (fun _ => ⟨rfl, rfl⟩) (rfl) rfl (by rw [← ed_178]; exact List.mem_append_left _ ((by rw [← ed_166]; exact List.mem_append_left _ ((by rw [← ed_154]; exact List.mem_append_left _ ((by rw [← ed_142]; exact List.mem_append_left _ ((by rw [← ed_130]; exact List.mem_append_left _ ((by rw [← ed_118]; exact List.mem_append_left _ ((by rw [← ed_106]; exact List.mem_append_left _ ((by rw [← ed_94]; exact List.mem_append_left _ ((by rw [← ed_82]; exact List.mem_append_left _ ((by rw [← ed_70]; exact List.mem_append_left _ ((by rw [← ed_58]; exact List.mem_append_left _ ((by rw [← ed_46]; exact List.mem_append_left _ ((by rw [← ed_34]; exact List.mem_append_left _ ((by rw [← ed_22]; exact List.mem_append_left _ ((by rw [← ed_10]; exact List.mem_append_left _ (hm50)))))))))))))))))))))))))))))) (fun b hb => by cases hb; exact (by rw [← ed_178]; exact List.mem_append_right _ List.mem_cons_self)) ?_
  generalize eG_181 : zuG G_179 50 17 (some a_170) = G_181
  replace K := K G_181 eG_181.symm
  refine Z.aload_n (k := 0) dX12_init_141 rfl ?_
  refine Z.sipush (n := 1050) dX12_init_142 ⟨by decide, by decide⟩ (by decide) ?_
  obtain ⟨a_182, z_183, z_184, z_185, z_186, z_187, z_188, z_189, K⟩ := K
  refine Y.newI a_182 dX12_init_145 z_183 z_184 z_185 zai z_186 z_187 z_188 z_189 ?_
  generalize ed_190 : d_178 ++ [a_182] = d_190
  generalize eG_191 : zclG G_181 a_182 = G_191
  generalize eE_192 : zclE E_180 a_182 = E_192
  replace K := K d_190 G_191 E_192 ed_190.symm eG_191.symm eE_192.symm
  refine Y.putR 18 dX12_init_147 zw_X12_60 (fun _ => ⟨rfl, rfl⟩) (rfl) rfl (by rw [← ed_190]; exact List.mem_append_left _ ((by rw [← ed_178]; exact List.mem_append_left _ ((by rw [← ed_166]; exact List.mem_append_left _ ((by rw [← ed_154]; exact List.mem_append_left _ ((by rw [← ed_142]; exact List.mem_append_left _ ((by rw [← ed_130]; exact List.mem_append_left _ ((by rw [← ed_118]; exact List.mem_append_left _ ((by rw [← ed_106]; exact List.mem_append_left _ ((by rw [← ed_94]; exact List.mem_append_left _ ((by rw [← ed_82]; exact List.mem_append_left _ ((by rw [← ed_70]; exact List.mem_append_left _ ((by rw [← ed_58]; exact List.mem_append_left _ ((by rw [← ed_46]; exact List.mem_append_left _ ((by rw [← ed_34]; exact List.mem_append_left _ ((by rw [← ed_22]; exact List.mem_append_left _ ((by rw [← ed_10]; exact List.mem_append_left _ (hm50)))))))))))))))))))))))))))))))) (fun b hb => by cases hb; exact (by rw [← ed_190]; exact List.mem_append_right _ List.mem_cons_self)) ?_
  generalize eG_193 : zuG G_191 50 18 (some a_182) = G_193
  replace K := K G_193 eG_193.symm
  refine Z.aload_n (k := 0) dX12_init_150 rfl ?_
  refine Z.sipush (n := 150) dX12_init_151 ⟨by decide, by decide⟩ (by decide) ?_
  obtain ⟨a_194, z_195, z_196, z_197, z_198, z_199, z_200, z_201, K⟩ := K
  refine Y.newI a_194 dX12_init_154 z_195 z_196 z_197 zai z_198 z_199 z_200 z_201 ?_
  generalize ed_202 : d_190 ++ [a_194] = d_202
  generalize eG_203 : zclG G_193 a_194 = G_203
  generalize eE_204 : zclE E_192 a_194 = E_204
  replace K := K d_202 G_203 E_204 ed_202.symm eG_203.symm eE_204.symm
  refine Y.putR 19 dX12_init_156 zw_X12_63 (fun _ => ⟨rfl, rfl⟩) (rfl) rfl (by rw [← ed_202]; exact List.mem_append_left _ ((by rw [← ed_190]; exact List.mem_append_left _ ((by rw [← ed_178]; exact List.mem_append_left _ ((by rw [← ed_166]; exact List.mem_append_left _ ((by rw [← ed_154]; exact List.mem_append_left _ ((by rw [← ed_142]; exact List.mem_append_left _ ((by rw [← ed_130]; exact List.mem_append_left _ ((by rw [← ed_118]; exact List.mem_append_left _ ((by rw [← ed_106]; exact List.mem_append_left _ ((by rw [← ed_94]; exact List.mem_append_left _ ((by rw [← ed_82]; exact List.mem_append_left _ ((by rw [← ed_70]; exact List.mem_append_left _ ((by rw [← ed_58]; exact List.mem_append_left _ ((by rw [← ed_46]; exact List.mem_append_left _ ((by rw [← ed_34]; exact List.mem_append_left _ ((by rw [← ed_22]; exact List.mem_append_left _ ((by rw [← ed_10]; exact List.mem_append_left _ (hm50)))))))))))))))))))))))))))))))))) (fun b hb => by cases hb; exact (by rw [← ed_202]; exact List.mem_append_right _ List.mem_cons_self)) ?_
  generalize eG_205 : zuG G_203 50 19 (some a_194) = G_205
  replace K := K G_205 eG_205.symm
  refine Z.aload_n (k := 0) dX12_init_159 rfl ?_
  refine Z.sipush (n := 4800) dX12_init_160 ⟨by decide, by decide⟩ (by decide) ?_
  obtain ⟨a_206, z_207, z_208, z_209, z_210, z_211, z_212, z_213, K⟩ := K
  refine Y.newI a_206 dX12_init_163 z_207 z_208 z_209 zai z_210 z_211 z_212 z_213 ?_
  generalize ed_214 : d_202 ++ [a_206] = d_214
  generalize eG_215 : zclG G_205 a_206 = G_215
  generalize eE_216 : zclE E_204 a_206 = E_216
  replace K := K d_214 G_215 E_216 ed_214.symm eG_215.symm eE_216.symm
  refine Y.putR 20 dX12_init_165 zw_X12_66 (fun _ => ⟨rfl, rfl⟩) (rfl) rfl (by rw [← ed_214]; exact List.mem_append_left _ ((by rw [← ed_202]; exact List.mem_append_left _ ((by rw [← ed_190]; exact List.mem_append_left _ ((by rw [← ed_178]; exact List.mem_append_left _ ((by rw [← ed_166]; exact List.mem_append_left _ ((by rw [← ed_154]; exact List.mem_append_left _ ((by rw [← ed_142]; exact List.mem_append_left _ ((by rw [← ed_130]; exact List.mem_append_left _ ((by rw [← ed_118]; exact List.mem_append_left _ ((by rw [← ed_106]; exact List.mem_append_left _ ((by rw [← ed_94]; exact List.mem_append_left _ ((by rw [← ed_82]; exact List.mem_append_left _ ((by rw [← ed_70]; exact List.mem_append_left _ ((by rw [← ed_58]; exact List.mem_append_left _ ((by rw [← ed_46]; exact List.mem_append_left _ ((by rw [← ed_34]; exact List.mem_append_left _ ((by rw [← ed_22]; exact List.mem_append_left _ ((by rw [← ed_10]; exact List.mem_append_left _ (hm50)))))))))))))))))))))))))))))))))))) (fun b hb => by cases hb; exact (by rw [← ed_214]; exact List.mem_append_right _ List.mem_cons_self)) ?_
  generalize eG_217 : zuG G_215 50 20 (some a_206) = G_217
  replace K := K G_217 eG_217.symm
  refine Z.aload_n (k := 0) dX12_init_168 rfl ?_
  refine Z.sipush (n := 180) dX12_init_169 ⟨by decide, by decide⟩ (by decide) ?_
  obtain ⟨a_218, z_219, z_220, z_221, z_222, z_223, z_224, z_225, K⟩ := K
  refine Y.newI a_218 dX12_init_172 z_219 z_220 z_221 zai z_222 z_223 z_224 z_225 ?_
  generalize ed_226 : d_214 ++ [a_218] = d_226
  generalize eG_227 : zclG G_217 a_218 = G_227
  generalize eE_228 : zclE E_216 a_218 = E_228
  replace K := K d_226 G_227 E_228 ed_226.symm eG_227.symm eE_228.symm
  refine Y.putR 21 dX12_init_174 zw_X12_69 (fun _ => ⟨rfl, rfl⟩) (rfl) rfl (by rw [← ed_226]; exact List.mem_append_left _ ((by rw [← ed_214]; exact List.mem_append_left _ ((by rw [← ed_202]; exact List.mem_append_left _ ((by rw [← ed_190]; exact List.mem_append_left _ ((by rw [← ed_178]; exact List.mem_append_left _ ((by rw [← ed_166]; exact List.mem_append_left _ ((by rw [← ed_154]; exact List.mem_append_left _ ((by rw [← ed_142]; exact List.mem_append_left _ ((by rw [← ed_130]; exact List.mem_append_left _ ((by rw [← ed_118]; exact List.mem_append_left _ ((by rw [← ed_106]; exact List.mem_append_left _ ((by rw [← ed_94]; exact List.mem_append_left _ ((by rw [← ed_82]; exact List.mem_append_left _ ((by rw [← ed_70]; exact List.mem_append_left _ ((by rw [← ed_58]; exact List.mem_append_left _ ((by rw [← ed_46]; exact List.mem_append_left _ ((by rw [← ed_34]; exact List.mem_append_left _ ((by rw [← ed_22]; exact List.mem_append_left _ ((by rw [← ed_10]; exact List.mem_append_left _ (hm50)))))))))))))))))))))))))))))))))))))) (fun b hb => by cases hb; exact (by rw [← ed_226]; exact List.mem_append_right _ List.mem_cons_self)) ?_
  generalize eG_229 : zuG G_227 50 21 (some a_218) = G_229
  replace K := K G_229 eG_229.symm
  refine Z.aload_n (k := 0) dX12_init_177 rfl ?_
  refine Z.bipush (n := 6) dX12_init_178 ⟨by decide, by decide⟩ (by decide) ?_
  obtain ⟨a_230, z_231, z_232, z_233, z_234, z_235, z_236, z_237, K⟩ := K
  refine Y.newI a_230 dX12_init_180 z_231 z_232 z_233 zai z_234 z_235 z_236 z_237 ?_
  generalize ed_238 : d_226 ++ [a_230] = d_238
  generalize eG_239 : zclG G_229 a_230 = G_239
  generalize eE_240 : zclE E_228 a_230 = E_240
  replace K := K d_238 G_239 E_240 ed_238.symm eG_239.symm eE_240.symm
  refine Y.putR 22 dX12_init_182 zw_X12_72 (fun _ => ⟨rfl, rfl⟩) (rfl) rfl (by rw [← ed_238]; exact List.mem_append_left _ ((by rw [← ed_226]; exact List.mem_append_left _ ((by rw [← ed_214]; exact List.mem_append_left _ ((by rw [← ed_202]; exact List.mem_append_left _ ((by rw [← ed_190]; exact List.mem_append_left _ ((by rw [← ed_178]; exact List.mem_append_left _ ((by rw [← ed_166]; exact List.mem_append_left _ ((by rw [← ed_154]; exact List.mem_append_left _ ((by rw [← ed_142]; exact List.mem_append_left _ ((by rw [← ed_130]; exact List.mem_append_left _ ((by rw [← ed_118]; exact List.mem_append_left _ ((by rw [← ed_106]; exact List.mem_append_left _ ((by rw [← ed_94]; exact List.mem_append_left _ ((by rw [← ed_82]; exact List.mem_append_left _ ((by rw [← ed_70]; exact List.mem_append_left _ ((by rw [← ed_58]; exact List.mem_append_left _ ((by rw [← ed_46]; exact List.mem_append_left _ ((by rw [← ed_34]; exact List.mem_append_left _ ((by rw [← ed_22]; exact List.mem_append_left _ ((by rw [← ed_10]; exact List.mem_append_left _ (hm50)))))))))))))))))))))))))))))))))))))))) (fun b hb => by cases hb; exact (by rw [← ed_238]; exact List.mem_append_right _ List.mem_cons_self)) ?_
  generalize eG_241 : zuG G_239 50 22 (some a_230) = G_241
  replace K := K G_241 eG_241.symm
  refine Z.aload_n (k := 0) dX12_init_185 rfl ?_
  refine Z.bipush (n := 6) dX12_init_186 ⟨by decide, by decide⟩ (by decide) ?_
  obtain ⟨a_242, z_243, z_244, z_245, z_246, z_247, z_248, z_249, K⟩ := K
  refine Y.newZ a_242 dX12_init_188 z_243 z_244 z_245 zaz z_246 z_247 z_248 z_249 ?_
  generalize ed_250 : d_238 ++ [a_242] = d_250
  generalize eG_251 : zclG G_241 a_242 = G_251
  generalize eE_252 : zclE E_240 a_242 = E_252
  replace K := K d_250 G_251 E_252 ed_250.symm eG_251.symm eE_252.symm
  refine Y.putR 23 dX12_init_190 zw_X12_75 (fun _ => ⟨rfl, rfl⟩) (rfl) rfl (by rw [← ed_250]; exact List.mem_append_left _ ((by rw [← ed_238]; exact List.mem_append_left _ ((by rw [← ed_226]; exact List.mem_append_left _ ((by rw [← ed_214]; exact List.mem_append_left _ ((by rw [← ed_202]; exact List.mem_append_left _ ((by rw [← ed_190]; exact List.mem_append_left _ ((by rw [← ed_178]; exact List.mem_append_left _ ((by rw [← ed_166]; exact List.mem_append_left _ ((by rw [← ed_154]; exact List.mem_append_left _ ((by rw [← ed_142]; exact List.mem_append_left _ ((by rw [← ed_130]; exact List.mem_append_left _ ((by rw [← ed_118]; exact List.mem_append_left _ ((by rw [← ed_106]; exact List.mem_append_left _ ((by rw [← ed_94]; exact List.mem_append_left _ ((by rw [← ed_82]; exact List.mem_append_left _ ((by rw [← ed_70]; exact List.mem_append_left _ ((by rw [← ed_58]; exact List.mem_append_left _ ((by rw [← ed_46]; exact List.mem_append_left _ ((by rw [← ed_34]; exact List.mem_append_left _ ((by rw [← ed_22]; exact List.mem_append_left _ ((by rw [← ed_10]; exact List.mem_append_left _ (hm50)))))))))))))))))))))))))))))))))))))))))) (fun b hb => by cases hb; exact (by rw [← ed_250]; exact List.mem_append_right _ List.mem_cons_self)) ?_
  generalize eG_253 : zuG G_251 50 23 (some a_242) = G_253
  replace K := K G_253 eG_253.symm
  refine Z.aload_n (k := 0) dX12_init_193 rfl ?_
  refine Z.bipush (n := 40) dX12_init_194 ⟨by decide, by decide⟩ (by decide) ?_
  obtain ⟨a_254, z_255, z_256, z_257, z_258, z_259, z_260, z_261, K⟩ := K
  refine Y.newI a_254 dX12_init_196 z_255 z_256 z_257 zai z_258 z_259 z_260 z_261 ?_
  generalize ed_262 : d_250 ++ [a_254] = d_262
  generalize eG_263 : zclG G_253 a_254 = G_263
  generalize eE_264 : zclE E_252 a_254 = E_264
  replace K := K d_262 G_263 E_264 ed_262.symm eG_263.symm eE_264.symm
  refine Y.putR 25 dX12_init_198 zw_X12_78 (fun _ => ⟨rfl, rfl⟩) (rfl) rfl (by rw [← ed_262]; exact List.mem_append_left _ ((by rw [← ed_250]; exact List.mem_append_left _ ((by rw [← ed_238]; exact List.mem_append_left _ ((by rw [← ed_226]; exact List.mem_append_left _ ((by rw [← ed_214]; exact List.mem_append_left _ ((by rw [← ed_202]; exact List.mem_append_left _ ((by rw [← ed_190]; exact List.mem_append_left _ ((by rw [← ed_178]; exact List.mem_append_left _ ((by rw [← ed_166]; exact List.mem_append_left _ ((by rw [← ed_154]; exact List.mem_append_left _ ((by rw [← ed_142]; exact List.mem_append_left _ ((by rw [← ed_130]; exact List.mem_append_left _ ((by rw [← ed_118]; exact List.mem_append_left _ ((by rw [← ed_106]; exact List.mem_append_left _ ((by rw [← ed_94]; exact List.mem_append_left _ ((by rw [← ed_82]; exact List.mem_append_left _ ((by rw [← ed_70]; exact List.mem_append_left _ ((by rw [← ed_58]; exact List.mem_append_left _ ((by rw [← ed_46]; exact List.mem_append_left _ ((by rw [← ed_34]; exact List.mem_append_left _ ((by rw [← ed_22]; exact List.mem_append_left _ ((by rw [← ed_10]; exact List.mem_append_left _ (hm50)))))))))))))))))))))))))))))))))))))))))))) (fun b hb => by cases hb; exact (by rw [← ed_262]; exact List.mem_append_right _ List.mem_cons_self)) ?_
  generalize eG_265 : zuG G_263 50 25 (some a_254) = G_265
  replace K := K G_265 eG_265.symm
  refine Z.aload_n (k := 0) dX12_init_201 rfl ?_
  refine Z.bipush (n := 30) dX12_init_202 ⟨by decide, by decide⟩ (by decide) ?_
  obtain ⟨a_266, z_267, z_268, z_269, z_270, z_271, z_272, z_273, K⟩ := K
  refine Y.newI a_266 dX12_init_204 z_267 z_268 z_269 zai z_270 z_271 z_272 z_273 ?_
  generalize ed_274 : d_262 ++ [a_266] = d_274
  generalize eG_275 : zclG G_265 a_266 = G_275
  generalize eE_276 : zclE E_264 a_266 = E_276
  replace K := K d_274 G_275 E_276 ed_274.symm eG_275.symm eE_276.symm
  refine Y.putR 26 dX12_init_206 zw_X12_81 (fun _ => ⟨rfl, rfl⟩) (rfl) rfl (by rw [← ed_274]; exact List.mem_append_left _ ((by rw [← ed_262]; exact List.mem_append_left _ ((by rw [← ed_250]; exact List.mem_append_left _ ((by rw [← ed_238]; exact List.mem_append_left _ ((by rw [← ed_226]; exact List.mem_append_left _ ((by rw [← ed_214]; exact List.mem_append_left _ ((by rw [← ed_202]; exact List.mem_append_left _ ((by rw [← ed_190]; exact List.mem_append_left _ ((by rw [← ed_178]; exact List.mem_append_left _ ((by rw [← ed_166]; exact List.mem_append_left _ ((by rw [← ed_154]; exact List.mem_append_left _ ((by rw [← ed_142]; exact List.mem_append_left _ ((by rw [← ed_130]; exact List.mem_append_left _ ((by rw [← ed_118]; exact List.mem_append_left _ ((by rw [← ed_106]; exact List.mem_append_left _ ((by rw [← ed_94]; exact List.mem_append_left _ ((by rw [← ed_82]; exact List.mem_append_left _ ((by rw [← ed_70]; exact List.mem_append_left _ ((by rw [← ed_58]; exact List.mem_append_left _ ((by rw [← ed_46]; exact List.mem_append_left _ ((by rw [← ed_34]; exact List.mem_append_left _ ((by rw [← ed_22]; exact List.mem_append_left _ ((by rw [← ed_10]; exact List.mem_append_left _ (hm50)))))))))))))))))))))))))))))))))))))))))))))) (fun b hb => by cases hb; exact (by rw [← ed_274]; exact List.mem_append_right _ List.mem_cons_self)) ?_
  generalize eG_277 : zuG G_275 50 26 (some a_266) = G_277
  replace K := K G_277 eG_277.symm
  refine Z.aload_n (k := 0) dX12_init_209 rfl ?_
  refine Z.bipush (n := 40) dX12_init_210 ⟨by decide, by decide⟩ (by decide) ?_
  obtain ⟨a_278, z_279, z_280, z_281, z_282, z_283, z_284, z_285, K⟩ := K
  refine Y.newI a_278 dX12_init_212 z_279 z_280 z_281 zai z_282 z_283 z_284 z_285 ?_
  generalize ed_286 : d_274 ++ [a_278] = d_286
  generalize eG_287 : zclG G_277 a_278 = G_287
  generalize eE_288 : zclE E_276 a_278 = E_288
  replace K := K d_286 G_287 E_288 ed_286.symm eG_287.symm eE_288.symm
  refine Y.putR 27 dX12_init_214 zw_X12_84 (fun _ => ⟨rfl, rfl⟩) (rfl) rfl (by rw [← ed_286]; exact List.mem_append_left _ ((by rw [← ed_274]; exact List.mem_append_left _ ((by rw [← ed_262]; exact List.mem_append_left _ ((by rw [← ed_250]; exact List.mem_append_left _ ((by rw [← ed_238]; exact List.mem_append_left _ ((by rw [← ed_226]; exact List.mem_append_left _ ((by rw [← ed_214]; exact List.mem_append_left _ ((by rw [← ed_202]; exact List.mem_append_left _ ((by rw [← ed_190]; exact List.mem_append_left _ ((by rw [← ed_178]; exact List.mem_append_left _ ((by rw [← ed_166]; exact List.mem_append_left _ ((by rw [← ed_154]; exact List.mem_append_left _ ((by rw [← ed_142]; exact List.mem_append_left _ ((by rw [← ed_130]; exact List.mem_append_left _ ((by rw [← ed_118]; exact List.mem_append_left _ ((by rw [← ed_106]; exact List.mem_append_left _ ((by rw [← ed_94]; exact List.mem_append_left _ ((by rw [← ed_82]; exact List.mem_append_left _ ((by rw [← ed_70]; exact List.mem_append_left _ ((by rw [← ed_58]; exact List.mem_append_left _ ((by rw [← ed_46]; exact List.mem_append_left _ ((by rw [← ed_34]; exact List.mem_append_left _ ((by rw [← ed_22]; exact List.mem_append_left _ ((by rw [← ed_10]; exact List.mem_append_left _ (hm50)))))))))))))))))))))))))))))))))))))))))))))))) (fun b hb => by cases hb; exact (by rw [← ed_286]; exact List.mem_append_right _ List.mem_cons_self)) ?_
  generalize eG_289 : zuG G_287 50 27 (some a_278) = G_289
  replace K := K G_289 eG_289.symm
  refine Z.aload_n (k := 0) dX12_init_217 rfl ?_
  refine Z.bipush (n := 20) dX12_init_218 ⟨by decide, by decide⟩ (by decide) ?_
  obtain ⟨a_290, z_291, z_292, z_293, z_294, z_295, z_296, z_297, K⟩ := K
  refine Y.newI a_290 dX12_init_220 z_291 z_292 z_293 zai z_294 z_295 z_296 z_297 ?_
  generalize ed_298 : d_286 ++ [a_290] = d_298
  generalize eG_299 : zclG G_289 a_290 = G_299
  generalize eE_300 : zclE E_288 a_290 = E_300
  replace K := K d_298 G_299 E_300 ed_298.symm eG_299.symm eE_300.symm
  refine Y.putR 29 dX12_init_222 zw_X12_87 (fun _ => ⟨rfl, rfl⟩) (rfl) rfl (by rw [← ed_298]; exact List.mem_append_left _ ((by rw [← ed_286]; exact List.mem_append_left _ ((by rw [← ed_274]; exact List.mem_append_left _ ((by rw [← ed_262]; exact List.mem_append_left _ ((by rw [← ed_250]; exact List.mem_append_left _ ((by rw [← ed_238]; exact List.mem_append_left _ ((by rw [← ed_226]; exact List.mem_append_left _ ((by rw [← ed_214]; exact List.mem_append_left _ ((by rw [← ed_202]; exact List.mem_append_left _ ((by rw [← ed_190]; exact List.mem_append_left _ ((by rw [← ed_178]; exact List.mem_append_left _ ((by rw [← ed_166]; exact List.mem_append_left _ ((by rw [← ed_154]; exact List.mem_append_left _ ((by rw [← ed_142]; exact List.mem_append_left _ ((by rw [← ed_130]; exact List.mem_append_left _ ((by rw [← ed_118]; exact List.mem_append_left _ ((by rw [← ed_106]; exact List.mem_append_left _ ((by rw [← ed_94]; exact List.mem_append_left _ ((by rw [← ed_82]; exact List.mem_append_left _ ((by rw [← ed_70]; exact List.mem_append_left _ ((by rw [← ed_58]; exact List.mem_append_left _ ((by rw [← ed_46]; exact List.mem_append_left _ ((by rw [← ed_34]; exact List.mem_append_left _ ((by rw [← ed_22]; exact List.mem_append_left _ ((by rw [← ed_10]; exact List.mem_append_left _ (hm50)))))))))))))))))))))))))))))))))))))))))))))))))) (fun b hb => by cases hb; exact (by rw [← ed_298]; exact List.mem_append_right _ List.mem_cons_self)) ?_
  generalize eG_301 : zuG G_299 50 29 (some a_290) = G_301
  replace K := K G_301 eG_301.symm
  refine Z.aload_n (k := 0) dX12_init_225 rfl ?_
  refine Z.bipush (n := 20) dX12_init_226 ⟨by decide, by decide⟩ (by decide) ?_
  obtain ⟨a_302, z_303, z_304, z_305, z_306, z_307, z_308, z_309, K⟩ := K
  refine Y.newI a_302 dX12_init_228 z_303 z_304 z_305 zai z_306 z_307 z_308 z_309 ?_
  generalize ed_310 : d_298 ++ [a_302] = d_310
  generalize eG_311 : zclG G_301 a_302 = G_311
  generalize eE_312 : zclE E_300 a_302 = E_312
  replace K := K d_310 G_311 E_312 ed_310.symm eG_311.symm eE_312.symm
  refine Y.putR 30 dX12_init_230 zw_X12_90 (fun _ => ⟨rfl, rfl⟩) (rfl) rfl (by rw [← ed_310]; exact List.mem_append_left _ ((by rw [← ed_298]; exact List.mem_append_left _ ((by rw [← ed_286]; exact List.mem_append_left _ ((by rw [← ed_274]; exact List.mem_append_left _ ((by rw [← ed_262]; exact List.mem_append_left _ ((by rw [← ed_250]; exact List.mem_append_left _ ((by rw [← ed_238]; exact List.mem_append_left _ ((by rw [← ed_226]; exact List.mem_append_left _ ((by rw [← ed_214]; exact List.mem_append_left _ ((by rw [← ed_202]; exact List.mem_append_left _ ((by rw [← ed_190]; exact List.mem_append_left _ ((by rw [← ed_178]; exact List.mem_append_left _ ((by rw [← ed_166]; exact List.mem_append_left _ ((by rw [← ed_154]; exact List.mem_append_left _ ((by rw [← ed_142]; exact List.mem_append_left _ ((by rw [← ed_130]; exact List.mem_append_left _ ((by rw [← ed_118]; exact List.mem_append_left _ ((by rw [← ed_106]; exact List.mem_append_left _ ((by rw [← ed_94]; exact List.mem_append_left _ ((by rw [← ed_82]; exact List.mem_append_left _ ((by rw [← ed_70]; exact List.mem_append_left _ ((by rw [← ed_58]; exact List.mem_append_left _ ((by rw [← ed_46]; exact List.mem_append_left _ ((by rw [← ed_34]; exact List.mem_append_left _ ((by rw [← ed_22]; exact List.mem_append_left _ ((by rw [← ed_10]; exact List.mem_append_left _ (hm50)))))))))))))))))))))))))))))))))))))))))))))))))))) (fun b hb => by cases hb; exact (by rw [← ed_310]; exact List.mem_append_right _ List.mem_cons_self)) ?_
  generalize eG_313 : zuG G_311 50 30 (some a_302) = G_313
  replace K := K G_313 eG_313.symm
  refine Z.aload_n (k := 0) dX12_init_233 rfl ?_
  refine Z.bipush (n := 7) dX12_init_234 ⟨by decide, by decide⟩ (by decide) ?_
  obtain ⟨a_314, z_315, z_316, z_317, z_318, z_319, z_320, z_321, K⟩ := K
  refine Y.newI a_314 dX12_init_236 z_315 z_316 z_317 zai z_318 z_319 z_320 z_321 ?_
  generalize ed_322 : d_310 ++ [a_314] = d_322
  generalize eG_323 : zclG G_313 a_314 = G_323
  generalize eE_324 : zclE E_312 a_314 = E_324
  replace K := K d_322 G_323 E_324 ed_322.symm eG_323.symm eE_324.symm
  refine Y.putR 31 dX12_init_238 zw_X12_93 (fun _ => ⟨rfl, rfl⟩) (rfl) rfl (by rw [← ed_322]; exact List.mem_append_left _ ((by rw [← ed_310]; exact List.mem_append_left _ ((by rw [← ed_298]; exact List.mem_append_left _ ((by rw [← ed_286]; exact List.mem_append_left _ ((by rw [← ed_274]; exact List.mem_append_left _ ((by rw [← ed_262]; exact List.mem_append_left _ ((by rw [← ed_250]; exact List.mem_append_left _ ((by rw [← ed_238]; exact List.mem_append_left _ ((by rw [← ed_226]; exact List.mem_append_left _ ((by rw [← ed_214]; exact List.mem_append_left _ ((by rw [← ed_202]; exact List.mem_append_left _ ((by rw [← ed_190]; exact List.mem_append_left _ ((by rw [← ed_178]; exact List.mem_append_left _ ((by rw [← ed_166]; exact List.mem_append_left _ ((by rw [← ed_154]; exact List.mem_append_left _ ((by rw [← ed_142]; exact List.mem_append_left _ ((by rw [← ed_130]; exact List.mem_append_left _ ((by rw [← ed_118]; exact List.mem_append_left _ ((by rw [← ed_106]; exact List.mem_append_left _ ((by rw [← ed_94]; exact List.mem_append_left _ ((by rw [← ed_82]; exact List.mem_append_left _ ((by rw [← ed_70]; exact List.mem_append_left _ ((by rw [← ed_58]; exact List.mem_append_left _ ((by rw [← ed_46]; exact List.mem_append_left _ ((by rw [← ed_34]; exact List.mem_append_left _ ((by rw [← ed_22]; exact List.mem_append_left _ ((by rw [← ed_10]; exact List.mem_append_left _ (hm50)))))))))))))))))))))))))))))))))))))))))))))))))))))) (fun b hb => by cases hb; exact (by rw [← ed_322]; exact List.mem_append_right _ List.mem_cons_self)) ?_
  generalize eG_325 : zuG G_323 50 31 (some a_314) = G_325
  replace K := K G_325 eG_325.symm
  refine Z.aload_n (k := 0) dX12_init_241 rfl ?_
  refine Z.sipush (n := 140) dX12_init_242 ⟨by decide, by decide⟩ (by decide) ?_
  obtain ⟨a_326, z_327, z_328, z_329, z_330, z_331, z_332, z_333, K⟩ := K
  refine Y.newI a_326 dX12_init_245 z_327 z_328 z_329 zai z_330 z_331 z_332 z_333 ?_
  generalize ed_334 : d_322 ++ [a_326] = d_334
  generalize eG_335 : zclG G_325 a_326 = G_335
  generalize eE_336 : zclE E_324 a_326 = E_336
  replace K := K d_334 G_335 E_336 ed_334.symm eG_335.symm eE_336.symm
  refine Y.putR 32 dX12_init_247 zw_X12_96 (fun _ => ⟨rfl, rfl⟩) (rfl) rfl (by rw [← ed_334]; exact List.mem_append_left _ ((by rw [← ed_322]; exact List.mem_append_left _ ((by rw [← ed_310]; exact List.mem_append_left _ ((by rw [← ed_298]; exact List.mem_append_left _ ((by rw [← ed_286]; exact List.mem_append_left _ ((by rw [← ed_274]; exact List.mem_append_left _ ((by rw [← ed_262]; exact List.mem_append_left _ ((by rw [← ed_250]; exact List.mem_append_left _ ((by rw [← ed_238]; exact List.mem_append_left _ ((by rw [← ed_226]; exact List.mem_append_left _ ((by rw [← ed_214]; exact List.mem_append_left _ ((by rw [← ed_202]; exact List.mem_append_left _ ((by rw [← ed_190]; exact List.mem_append_left _ ((by rw [← ed_178]; exact List.mem_append_left _ ((by rw [← ed_166]; exact List.mem_append_left _ ((by rw [← ed_154]; exact List.mem_append_left _ ((by rw [← ed_142]; exact List.mem_append_left _ ((by rw [← ed_130]; exact List.mem_append_left _ ((by rw [← ed_118]; exact List.mem_append_left _ ((by rw [← ed_106]; exact List.mem_append_left _ ((by rw [← ed_94]; exact List.mem_append_left _ ((by rw [← ed_82]; exact List.mem_append_left _ ((by rw [← ed_70]; exact List.mem_append_left _ ((by rw [← ed_58]; exact List.mem_append_left _ ((by rw [← ed_46]; exact List.mem_append_left _ ((by rw [← ed_34]; exact List.mem_append_left _ ((by rw [← ed_22]; exact List.mem_append_left _ ((by rw [← ed_10]; exact List.mem_append_left _ (hm50)))))))))))))))))))))))))))))))))))))))))))))))))))))))) (fun b hb => by cases hb; exact (by rw [← ed_334]; exact List.mem_append_right _ List.mem_cons_self)) ?_
  generalize eG_337 : zuG G_335 50 32 (some a_326) = G_337
  replace K := K G_337 eG_337.symm
  refine Z.aload_n (k := 0) dX12_init_250 rfl ?_
  refine Z.sipush (n := 140) dX12_init_251 ⟨by decide, by decide⟩ (by decide) ?_
  obtain ⟨a_338, z_339, z_340, z_341, z_342, z_343, z_344, z_345, K⟩ := K
  refine Y.newI a_338 dX12_init_254 z_339 z_340 z_341 zai z_342 z_343 z_344 z_345 ?_
  generalize ed_346 : d_334 ++ [a_338] = d_346
  generalize eG_347 : zclG G_337 a_338 = G_347
  generalize eE_348 : zclE E_336 a_338 = E_348
  replace K := K d_346 G_347 E_348 ed_346.symm eG_347.symm eE_348.symm
  refine Y.putR 33 dX12_init_256 zw_X12_99 (fun _ => ⟨rfl, rfl⟩) (rfl) rfl (by rw [← ed_346]; exact List.mem_append_left _ ((by rw [← ed_334]; exact List.mem_append_left _ ((by rw [← ed_322]; exact List.mem_append_left _ ((by rw [← ed_310]; exact List.mem_append_left _ ((by rw [← ed_298]; exact List.mem_append_left _ ((by rw [← ed_286]; exact List.mem_append_left _ ((by rw [← ed_274]; exact List.mem_append_left _ ((by rw [← ed_262]; exact List.mem_append_left _ ((by rw [← ed_250]; exact List.mem_append_left _ ((by rw [← ed_238]; exact List.mem_append_left _ ((by rw [← ed_226]; exact List.mem_append_left _ ((by rw [← ed_214]; exact List.mem_append_left _ ((by rw [← ed_202]; exact List.mem_append_left _ ((by rw [← ed_190]; exact List.mem_append_left _ ((by rw [← ed_178]; exact List.mem_append_left _ ((by rw [← ed_166]; exact List.mem_append_left _ ((by rw [← ed_154]; exact List.mem_append_left _ ((by rw [← ed_142]; exact List.mem_append_left _ ((by rw [← ed_130]; exact List.mem_append_left _ ((by rw [← ed_118]; exact List.mem_append_left _ ((by rw [← ed_106]; exact List.mem_append_left _ ((by rw [← ed_94]; exact List.mem_append_left _ ((by rw [← ed_82]; exact List.mem_append_left _ ((by rw [← ed_70]; exact List.mem_append_left _ ((by rw [← ed_58]; exact List.mem_append_left _ ((by rw [← ed_46]; exact List.mem_append_left _ ((by rw [← ed_34]; exact List.mem_append_left _ ((by rw [← ed_22]; exact List.mem_append_left _ ((by rw [← ed_10]; exact List.mem_append_left _ (hm50)))))))))))))))))))))))))))))))))))))))))))))))))))))))))) (fun b hb => by cases hb; exact (by rw [← ed_346]; exact List.mem_append_right _ List.mem_cons_self)) ?_
  generalize eG_349 : zuG G_347 50 33 (some a_338) = G_349
  replace K := K G_349 eG_349.symm
  refine Z.aload_n (k := 0) dX12_init_259 rfl ?_
  refine Z.sipush (n := 1000) dX12_init_260 ⟨by decide, by decide⟩ (by decide) ?_
  obtain ⟨a_350, z_351, z_352, z_353, z_354, z_355, z_356, z_357, K⟩ := K
  refine Y.newI a_350 dX12_init_263 z_351 z_352 z_353 zai z_354 z_355 z_356 z_357 ?_
  generalize ed_358 : d_346 ++ [a_350] = d_358
  generalize eG_359 : zclG G_349 a_350 = G_359
  generalize eE_360 : zclE E_348 a_350 = E_360
  replace K := K d_358 G_359 E_360 ed_358.symm eG_359.symm eE_360.symm
  refine Y.putR 34 dX12_init_265 zw_X12_102 (fun _ => ⟨rfl, rfl⟩) (rfl) rfl (by rw [← ed_358]; exact List.mem_append_left _ ((by rw [← ed_346]; exact List.mem_append_left _ ((by rw [← ed_334]; exact List.mem_append_left _ ((by rw [← ed_322]; exact List.mem_append_left _ ((by rw [← ed_310]; exact List.mem_append_left _ ((by rw [← ed_298]; exact List.mem_append_left _ ((by rw [← ed_286]; exact List.mem_append_left _ ((by rw [← ed_274]; exact List.mem_append_left _ ((by rw [← ed_262]; exact List.mem_append_left _ ((by rw [← ed_250]; exact List.mem_append_left _ ((by rw [← ed_238]; exact List.mem_append_left _ ((by rw [← ed_226]; exact List.mem_append_left _ ((by rw [← ed_214]; exact List.mem_append_left _ ((by rw [← ed_202]; exact List.mem_append_left _ ((by rw [← ed_190]; exact List.mem_append_left _ ((by rw [← ed_178]; exact List.mem_append_left _ ((by rw [← ed_166]; exact List.mem_append_left _ ((by rw [← ed_154]; exact List.mem_append_left _ ((by rw [← ed_142]; exact List.mem_append_left _ ((by rw [← ed_130]; exact List.mem_append_left _ ((by rw [← ed_118]; exact List.mem_append_left _ ((by rw [← ed_106]; exact List.mem_append_left _ ((by rw [← ed_94]; exact List.mem_append_left _ ((by rw [← ed_82]; exact List.mem_append_left _ ((by rw [← ed_70]; exact List.mem_append_left _ ((by rw [← ed_58]; exact List.mem_append_left _ ((by rw [← ed_46]; exact List.mem_append_left _ ((by rw [← ed_34]; exact List.mem_append_left _ ((by rw [← ed_22]; exact List.mem_append_left _ ((by rw [← ed_10]; exact List.mem_append_left _ (hm50)))))))))))))))))))))))))))))))))))))))))))))))))))))))))))) (fun b hb => by cases hb; exact (by rw [← ed_358]; exact List.mem_append_right _ List.mem_cons_self)) ?_
  generalize eG_361 : zuG G_359 50 34 (some a_350) = G_361
  replace K := K G_361 eG_361.symm
  refine Z.aload_n (k := 0) dX12_init_268 rfl ?_
  refine Z.bipush (n := 32) dX12_init_269 ⟨by decide, by decide⟩ (by decide) ?_
  obtain ⟨a_362, z_363, z_364, z_365, z_366, z_367, z_368, z_369, K⟩ := K
  refine Y.newI a_362 dX12_init_271 z_363 z_364 z_365 zai z_366 z_367 z_368 z_369 ?_
  generalize ed_370 : d_358 ++ [a_362] = d_370
  generalize eG_371 : zclG G_361 a_362 = G_371
  generalize eE_372 : zclE E_360 a_362 = E_372
  replace K := K d_370 G_371 E_372 ed_370.symm eG_371.symm eE_372.symm
  refine Y.putR 41 dX12_init_273 zw_X12_105 (fun _ => ⟨rfl, rfl⟩) (rfl) rfl (by rw [← ed_370]; exact List.mem_append_left _ ((by rw [← ed_358]; exact List.mem_append_left _ ((by rw [← ed_346]; exact List.mem_append_left _ ((by rw [← ed_334]; exact List.mem_append_left _ ((by rw [← ed_322]; exact List.mem_append_left _ ((by rw [← ed_310]; exact List.mem_append_left _ ((by rw [← ed_298]; exact List.mem_append_left _ ((by rw [← ed_286]; exact List.mem_append_left _ ((by rw [← ed_274]; exact List.mem_append_left _ ((by rw [← ed_262]; exact List.mem_append_left _ ((by rw [← ed_250]; exact List.mem_append_left _ ((by rw [← ed_238]; exact List.mem_append_left _ ((by rw [← ed_226]; exact List.mem_append_left _ ((by rw [← ed_214]; exact List.mem_append_left _ ((by rw [← ed_202]; exact List.mem_append_left _ ((by rw [← ed_190]; exact List.mem_append_left _ ((by rw [← ed_178]; exact List.mem_append_left _ ((by rw [← ed_166]; exact List.mem_append_left _ ((by rw [← ed_154]; exact List.mem_append_left _ ((by rw [← ed_142]; exact List.mem_append_left _ ((by rw [← ed_130]; exact List.mem_append_left _ ((by rw [← ed_118]; exact List.mem_append_left _ ((by rw [← ed_106]; exact List.mem_append_left _ ((by rw [← ed_94]; exact List.mem_append_left _ ((by rw [← ed_82]; exact List.mem_append_left _ ((by rw [← ed_70]; exact List.mem_append_left _ ((by rw [← ed_58]; exact List.mem_append_left _ ((by rw [← ed_46]; exact List.mem_append_left _ ((by rw [← ed_34]; exact List.mem_append_left _ ((by rw [← ed_22]; exact List.mem_append_left _ ((by rw [← ed_10]; exact List.mem_append_left _ (hm50)))))))))))))))))))))))))))))))))))))))))))))))))))))))))))))) (fun b hb => by cases hb; exact (by rw [← ed_370]; exact List.mem_append_right _ List.mem_cons_self)) ?_
  generalize eG_373 : zuG G_371 50 41 (some a_362) = G_373
  replace K := K G_373 eG_373.symm
  refine Z.aload_n (k := 0) dX12_init_276 rfl ?_
  refine Z.sipush (n := 360) dX12_init_277 ⟨by decide, by decide⟩ (by decide) ?_
  obtain ⟨a_374, z_375, z_376, z_377, z_378, z_379, z_380, z_381, K⟩ := K
  refine Y.newI a_374 dX12_init_280 z_375 z_376 z_377 zai z_378 z_379 z_380 z_381 ?_
  generalize ed_382 : d_370 ++ [a_374] = d_382
  generalize eG_383 : zclG G_373 a_374 = G_383
  generalize eE_384 : zclE E_372 a_374 = E_384
  replace K := K d_382 G_383 E_384 ed_382.symm eG_383.symm eE_384.symm
  refine Y.putR 46 dX12_init_282 zw_X12_108 (fun _ => ⟨rfl, rfl⟩) (rfl) rfl (by rw [← ed_382]; exact List.mem_append_left _ ((by rw [← ed_370]; exact List.mem_append_left _ ((by rw [← ed_358]; exact List.mem_append_left _ ((by rw [← ed_346]; exact List.mem_append_left _ ((by rw [← ed_334]; exact List.mem_append_left _ ((by rw [← ed_322]; exact List.mem_append_left _ ((by rw [← ed_310]; exact List.mem_append_left _ ((by rw [← ed_298]; exact List.mem_append_left _ ((by rw [← ed_286]; exact List.mem_append_left _ ((by rw [← ed_274]; exact List.mem_append_left _ ((by rw [← ed_262]; exact List.mem_append_left _ ((by rw [← ed_250]; exact List.mem_append_left _ ((by rw [← ed_238]; exact List.mem_append_left _ ((by rw [← ed_226]; exact List.mem_append_left _ ((by rw [← ed_214]; exact List.mem_append_left _ ((by rw [← ed_202]; exact List.mem_append_left _ ((by rw [← ed_190]; exact List.mem_append_left _ ((by rw [← ed_178]; exact List.mem_append_left _ ((by rw [← ed_166]; exact List.mem_append_left _ ((by rw [← ed_154]; exact List.mem_append_left _ ((by rw [← ed_142]; exact List.mem_append_left _ ((by rw [← ed_130]; exact List.mem_append_left _ ((by rw [← ed_118]; exact List.mem_append_left _ ((by rw [← ed_106]; exact List.mem_append_left _ ((by rw [← ed_94]; exact List.mem_append_left _ ((by rw [← ed_82]; exact List.mem_append_left _ ((by rw [← ed_70]; exact List.mem_append_left _ ((by rw [← ed_58]; exact List.mem_append_left _ ((by rw [← ed_46]; exact List.mem_append_left _ ((by rw [← ed_34]; exact List.mem_append_left _ ((by rw [← ed_22]; exact List.mem_append_left _ ((by rw [← ed_10]; exact List.mem_append_left _ (hm50)))))))))))))))))))))))))))))))))))))))))))))))))))))))))))))))) (fun b hb => by cases hb; exact (by rw [← ed_382]; exact List.mem_append_right _ List.mem_cons_self)) ?_
  generalize eG_385 : zuG G_383 50 46 (some a_374) = G_385
  replace K := K G_385 eG_385.symm
  refine Z.aload_n (k := 0) dX12_init_285 rfl ?_
  refine Z.bipush (n := 40) dX12_init_286 ⟨by decide, by decide⟩ (by decide) ?_
  obtain ⟨a_386, z_387, z_388, z_389, z_390, z_391, z_392, z_393, K⟩ := K
  refine Y.newI a_386 dX12_init_288 z_387 z_388 z_389 zai z_390 z_391 z_392 z_393 ?_
  generalize ed_394 : d_382 ++ [a_386] = d_394
  generalize eG_395 : zclG G_385 a_386 = G_395
  generalize eE_396 : zclE E_384 a_386 = E_396
  replace K := K d_394 G_395 E_396 ed_394.symm eG_395.symm eE_396.symm
  refine Y.putR 47 dX12_init_290 zw_X12_111 (fun _ => ⟨rfl, rfl⟩) (rfl) rfl (by rw [← ed_394]; exact List.mem_append_left _ ((by rw [← ed_382]; exact List.mem_append_left _ ((by rw [← ed_370]; exact List.mem_append_left _ ((by rw [← ed_358]; exact List.mem_append_left _ ((by rw [← ed_346]; exact List.mem_append_left _ ((by rw [← ed_334]; exact List.mem_append_left _ ((by rw [← ed_322]; exact List.mem_append_left _ ((by rw [← ed_310]; exact List.mem_append_left _ ((by rw [← ed_298]; exact List.mem_append_left _ ((by rw [← ed_286]; exact List.mem_append_left _ ((by rw [← ed_274]; exact List.mem_append_left _ ((by rw [← ed_262]; exact List.mem_append_left _ ((by rw [← ed_250]; exact List.mem_append_left _ ((by rw [← ed_238]; exact List.mem_append_left _ ((by rw [← ed_226]; exact List.mem_append_left _ ((by rw [← ed_214]; exact List.mem_append_left _ ((by rw [← ed_202]; exact List.mem_append_left _ ((by rw [← ed_190]; exact List.mem_append_left _ ((by rw [← ed_178]; exact List.mem_append_left _ ((by rw [← ed_166]; exact List.mem_append_left _ ((by rw [← ed_154]; exact List.mem_append_left _ ((by rw [← ed_142]; exact List.mem_append_left _ ((by rw [← ed_130]; exact List.mem_append_left _ ((by rw [← ed_118]; exact List.mem_append_left _ ((by rw [← ed_106]; exact List.mem_append_left _ ((by rw [← ed_94]; exact List.mem_append_left _ ((by rw [← ed_82]; exact List.mem_append_left _ ((by rw [← ed_70]; exact List.mem_append_left _ ((by rw [← ed_58]; exact List.mem_append_left _ ((by rw [← ed_46]; exact List.mem_append_left _ ((by rw [← ed_34]; exact List.mem_append_left _ ((by rw [← ed_22]; exact List.mem_append_left _ ((by rw [← ed_10]; exact List.mem_append_left _ (hm50)))))))))))))))))))))))))))))))))))))))))))))))))))))))))))))))))) (fun b hb => by cases hb; exact (by rw [← ed_394]; exact List.mem_append_right _ List.mem_cons_self)) ?_
  generalize eG_397 : zuG G_395 50 47 (some a_386) = G_397
  replace K := K G_397 eG_397.symm
  refine Z.aload_n (k := 0) dX12_init_293 rfl ?_
  refine Z.sipush (n := 4000) dX12_init_294 ⟨by decide, by decide⟩ (by decide) ?_
  obtain ⟨a_398, z_399, z_400, z_401, z_402, z_403, z_404, z_405, K⟩ := K
  refine Y.newI a_398 dX12_init_297 z_399 z_400 z_401 zai z_402 z_403 z_404 z_405 ?_
  generalize ed_406 : d_394 ++ [a_398] = d_406
  generalize eG_407 : zclG G_397 a_398 = G_407
  generalize eE_408 : zclE E_396 a_398 = E_408
  replace K := K d_406 G_407 E_408 ed_406.symm eG_407.symm eE_408.symm
  refine Y.putR 48 dX12_init_299 zw_X12_114 (fun _ => ⟨rfl, rfl⟩) (rfl) rfl (by rw [← ed_406]; exact List.mem_append_left _ ((by rw [← ed_394]; exact List.mem_append_left _ ((by rw [← ed_382]; exact List.mem_append_left _ ((by rw [← ed_370]; exact List.mem_append_left _ ((by rw [← ed_358]; exact List.mem_append_left _ ((by rw [← ed_346]; exact List.mem_append_left _ ((by rw [← ed_334]; exact List.mem_append_left _ ((by rw [← ed_322]; exact List.mem_append_left _ ((by rw [← ed_310]; exact List.mem_append_left _ ((by rw [← ed_298]; exact List.mem_append_left _ ((by rw [← ed_286]; exact List.mem_append_left _ ((by rw [← ed_274]; exact List.mem_append_left _ ((by rw [← ed_262]; exact List.mem_append_left _ ((by rw [← ed_250]; exact List.mem_append_left _ ((by rw [← ed_238]; exact List.mem_append_left _ ((by rw [← ed_226]; exact List.mem_append_left _ ((by rw [← ed_214]; exact List.mem_append_left _ ((by rw [← ed_202]; exact List.mem_append_left _ ((by rw [← ed_190]; exact List.mem_append_left _ ((by rw [← ed_178]; exact List.mem_append_left _ ((by rw [← ed_166]; exact List.mem_append_left _ ((by rw [← ed_154]; exact List.mem_append_left _ ((by rw [← ed_142]; exact List.mem_append_left _ ((by rw [← ed_130]; exact List.mem_append_left _ ((by rw [← ed_118]; exact List.mem_append_left _ ((by rw [← ed_106]; exact List.mem_append_left _ ((by rw [← ed_94]; exact List.mem_append_left _ ((by rw [← ed_82]; exact List.mem_append_left _ ((by rw [← ed_70]; exact List.mem_append_left _ ((by rw [← ed_58]; exact List.mem_append_left _ ((by rw [← ed_46]; exact List.mem_append_left _ ((by rw [← ed_34]; exact List.mem_append_left _ ((by rw [← ed_22]; exact List.mem_append_left _ ((by rw [← ed_10]; exact List.mem_append_left _ (hm50)))))))))))))))))))))))))))))))))))))))))))))))))))))))))))))))))))) (fun b hb => by cases hb; exact (by rw [← ed_406]; exact List.mem_append_right _ List.mem_cons_self)) ?_
  generalize eG_409 : zuG G_407 50 48 (some a_398) = G_409
  replace K := K G_409 eG_409.symm
  refine Z.aload_n (k := 0) dX12_init_302 rfl ?_
  refine Z.sipush (n := 4000) dX12_init_303 ⟨by decide, by decide⟩ (by decide) ?_
  obtain ⟨a_410, z_411, z_412, z_413, z_414, z_415, z_416, z_417, K⟩ := K
  refine Y.newI a_410 dX12_init_306 z_411 z_412 z_413 zai z_414 z_415 z_416 z_417 ?_
  generalize ed_418 : d_406 ++ [a_410] = d_418
  generalize eG_419 : zclG G_409 a_410 = G_419
  generalize eE_420 : zclE E_408 a_410 = E_420
  replace K := K d_418 G_419 E_420 ed_418.symm eG_419.symm eE_420.symm
  refine Y.putR 49 dX12_init_308 zw_X12_117 (fun _ => ⟨rfl, rfl⟩) (rfl) rfl (by rw [← ed_418]; exact List.mem_append_left _ ((by rw [← ed_406]; exact List.mem_append_left _ ((by rw [← ed_394]; exact List.mem_append_left _ ((by rw [← ed_382]; exact List.mem_append_left _ ((by rw [← ed_370]; exact List.mem_append_left _ ((by rw [← ed_358]; exact List.mem_append_left _ ((by rw [← ed_346]; exact List.mem_append_left _ ((by rw [← ed_334]; exact List.mem_append_left _ ((by rw [← ed_322]; exact List.mem_append_left _ ((by rw [← ed_310]; exact List.mem_append_left _ ((by rw [← ed_298]; exact List.mem_append_left _ ((by rw [← ed_286]; exact List.mem_append_left _ ((by rw [← ed_274]; exact List.mem_append_left _ ((by rw [← ed_262]; exact List.mem_append_left _ ((by rw [← ed_250]; exact List.mem_append_left _ ((by rw [← ed_238]; exact List.mem_append_left _ ((by rw [← ed_226]; exact List.mem_append_left _ ((by rw [← ed_214]; exact List.mem_append_left _ ((by rw [← ed_202]; exact List.mem_append_left _ ((by rw [← ed_190]; exact List.mem_append_left _ ((by rw [← ed_178]; exact List.mem_append_left _ ((by rw [← ed_166]; exact List.mem_append_left _ ((by rw [← ed_154]; exact List.mem_append_left _ ((by rw [← ed_142]; exact List.mem_append_left _ ((by rw [← ed_130]; exact List.mem_append_left _ ((by rw [← ed_118]; exact List.mem_append_left _ ((by rw [← ed_106]; exact List.mem_append_left _ ((by rw [← ed_94]; exact List.mem_append_left _ ((by rw [← ed_82]; exact List.mem_append_left _ ((by rw [← ed_70]; exact List.mem_append_left _ ((by rw [← ed_58]; exact List.mem_append_left _ ((by rw [← ed_46]; exact List.mem_append_left _ ((by rw [← ed_34]; exact List.mem_append_left _ ((by rw [← ed_22]; exact List.mem_append_left _ ((by rw [← ed_10]; exact List.mem_append_left _ (hm50)))))))))))))))))))))))))))))))))))))))))))))))))))))))))))))))))))))) (fun b hb => by cases hb; exact (by rw [← ed_418]; exact List.mem_append_right _ List.mem_cons_self)) ?_
  generalize eG_421 : zuG G_419 50 49 (some a_410) = G_421
  replace K := K G_421 eG_421.symm
  refine Z.aload_n (k := 0) dX12_init_311 rfl ?_
  refine Z.sipush (n := 4000) dX12_init_312 ⟨by decide, by decide⟩ (by decide) ?_
  obtain ⟨a_422, z_423, z_424, z_425, z_426, z_427, z_428, z_429, K⟩ := K
  refine Y.newI a_422 dX12_init_315 z_423 z_424 z_425 zai z_426 z_427 z_428 z_429 ?_
  generalize ed_430 : d_418 ++ [a_422] = d_430
  generalize eG_431 : zclG G_421 a_422 = G_431
  generalize eE_432 : zclE E_420 a_422 = E_432
  replace K := K d_430 G_431 E_432 ed_430.symm eG_431.symm eE_432.symm
  refine Y.putR 50 dX12_init_317 zw_X12_120 (fun _ => ⟨rfl, rfl⟩) (rfl) rfl (by rw [← ed_430]; exact List.mem_append_left _ ((by rw [← ed_418]; exact List.mem_append_left _ ((by rw [← ed_406]; exact List.mem_append_left _ ((by rw [← ed_394]; exact List.mem_append_left _ ((by rw [← ed_382]; exact List.mem_append_left _ ((by rw [← ed_370]; exact List.mem_append_left _ ((by rw [← ed_358]; exact List.mem_append_left _ ((by rw [← ed_346]; exact List.mem_append_left _ ((by rw [← ed_334]; exact List.mem_append_left _ ((by rw [← ed_322]; exact List.mem_append_left _ ((by rw [← ed_310]; exact List.mem_append_left _ ((by rw [← ed_298]; exact List.mem_append_left _ ((by rw [← ed_286]; exact List.mem_append_left _ ((by rw [← ed_274]; exact List.mem_append_left _ ((by rw [← ed_262]; exact List.mem_append_left _ ((by rw [← ed_250]; exact List.mem_append_left _ ((by rw [← ed_238]; exact List.mem_append_left _ ((by rw [← ed_226]; exact List.mem_append_left _ ((by rw [← ed_214]; exact List.mem_append_left _ ((by rw [← ed_202]; exact List.mem_append_left _ ((by rw [← ed_190]; exact List.mem_append_left _ ((by rw [← ed_178]; exact List.mem_append_left _ ((by rw [← ed_166]; exact List.mem_append_left _ ((by rw [← ed_154]; exact List.mem_append_left _ ((by rw [← ed_142]; exact List.mem_append_left _ ((by rw [← ed_130]; exact List.mem_append_left _ ((by rw [← ed_118]; exact List.mem_append_left _ ((by rw [← ed_106]; exact List.mem_append_left _ ((by rw [← ed_94]; exact List.mem_append_left _ ((by rw [← ed_82]; exact List.mem_append_left _ ((by rw [← ed_70]; exact List.mem_append_left _ ((by rw [← ed_58]; exact List.mem_append_left _ ((by rw [← ed_46]; exact List.mem_append_left _ ((by rw [← ed_34]; exact List.mem_append_left _ ((by rw [← ed_22]; exact List.mem_append_left _ ((by rw [← ed_10]; exact List.mem_append_left _ (hm50)))))))))))))))))))))))))))))))))))))))))))))))))))))))))))))))))))))))) (fun b hb => by cases hb; exact (by rw [← ed_430]; exact List.mem_append_right _ List.mem_cons_self)) ?_
  generalize eG_433 : zuG G_431 50 50 (some a_422) = G_433
  replace K := K G_433 eG_433.symm
  refine Z.aload_n (k := 0) dX12_init_320 rfl ?_
  refine Z.bipush (n := 31) dX12_init_321 ⟨by decide, by decide⟩ (by decide) ?_
  obtain ⟨a_434, z_435, z_436, z_437, z_438, z_439, z_440, z_441, K⟩ := K
  refine Y.newI a_434 dX12_init_323 z_435 z_436 z_437 zai z_438 z_439 z_440 z_441 ?_
  generalize ed_442 : d_430 ++ [a_434] = d_442
  generalize eG_443 : zclG G_433 a_434 = G_443
  generalize eE_444 : zclE E_432 a_434 = E_444
  replace K := K d_442 G_443 E_444 ed_442.symm eG_443.symm eE_444.symm
  refine Y.putR 51 dX12_init_325 zw_X12_123 (fun _ => ⟨rfl, rfl⟩) (rfl) rfl (by rw [← ed_442]; exact List.mem_append_left _ ((by rw [← ed_430]; exact List.mem_append_left _ ((by rw [← ed_418]; exact List.mem_append_left _ ((by rw [← ed_406]; exact List.mem_append_left _ ((by rw [← ed_394]; exact List.mem_append_left _ ((by rw [← ed_382]; exact List.mem_append_left _ ((by rw [← ed_370]; exact List.mem_append_left _ ((by rw [← ed_358]; exact List.mem_append_left _ ((by rw [← ed_346]; exact List.mem_append_left _ ((by rw [← ed_334]; exact List.mem_append_left _ ((by rw [← ed_322]; exact List.mem_append_left _ ((by rw [← ed_310]; exact List.mem_append_left _ ((by rw [← ed_298]; exact List.mem_append_left _ ((by rw [← ed_286]; exact List.mem_append_left _ ((by rw [← ed_274]; exact List.mem_append_left _ ((by rw [← ed_262]; exact List.mem_append_left _ ((by rw [← ed_250]; exact List.mem_append_left _ ((by rw [← ed_238]; exact List.mem_append_left _ ((by rw [← ed_226]; exact List.mem_append_left _ ((by rw [← ed_214]; exact List.mem_append_left _ ((by rw [← ed_202]; exact List.mem_append_left _ ((by rw [← ed_190]; exact List.mem_append_left _ ((by rw [← ed_178]; exact List.mem_append_left _ ((by rw [← ed_166]; exact List.mem_append_left _ ((by rw [← ed_154]; exact List.mem_append_left _ ((by rw [← ed_142]; exact List.mem_append_left _ ((by rw [← ed_130]; exact List.mem_append_left _ ((by rw [← ed_118]; exact List.mem_append_left _ ((by rw [← ed_106]; exact List.mem_append_left _ ((by rw [← ed_94]; exact List.mem_append_left _ ((by rw [← ed_82]; exact List.mem_append_left _ ((by rw [← ed_70]; exact List.mem_append_left _ ((by rw [← ed_58]; exact List.mem_append_left _ ((by rw [← ed_46]; exact List.mem_append_left _ ((by rw [← ed_34]; exact List.mem_append_left _ ((by rw [← ed_22]; exact List.mem_append_left _ ((by rw [← ed_10]; exact List.mem_append_left _ (hm50)))))))))))))))))))))))))))))))))))))))))))))))))))))))))))))))))))))))))) (fun b hb => by cases hb; exact (by rw [← ed_442]; exact List.mem_append_right _ List.mem_cons_self)) ?_
  generalize eG_445 : zuG G_443 50 51 (some a_434) = G_445
  replace K := K G_445 eG_445.symm
  refine Z.aload_n (k := 0) dX12_init_328 rfl ?_
  refine Z.bipush (n := 31) dX12_init_329 ⟨by decide, by decide⟩ (by decide) ?_
  obtain ⟨a_446, z_447, z_448, z_449, z_450, z_451, z_452, z_453, K⟩ := K
  refine Y.newI a_446 dX12_init_331 z_447 z_448 z_449 zai z_450 z_451 z_452 z_453 ?_
  generalize ed_454 : d_442 ++ [a_446] = d_454
  generalize eG_455 : zclG G_445 a_446 = G_455
  generalize eE_456 : zclE E_444 a_446 = E_456
  replace K := K d_454 G_455 E_456 ed_454.symm eG_455.symm eE_456.symm
  refine Y.putR 53 dX12_init_333 zw_X12_126 (fun _ => ⟨rfl, rfl⟩) (rfl) rfl (by rw [← ed_454]; exact List.mem_append_left _ ((by rw [← ed_442]; exact List.mem_append_left _ ((by rw [← ed_430]; exact List.mem_append_left _ ((by rw [← ed_418]; exact List.mem_append_left _ ((by rw [← ed_406]; exact List.mem_append_left _ ((by rw [← ed_394]; exact List.mem_append_left _ ((by rw [← ed_382]; exact List.mem_append_left _ ((by rw [← ed_370]; exact List.mem_append_left _ ((by rw [← ed_358]; exact List.mem_append_left _ ((by rw [← ed_346]; exact List.mem_append_left _ ((by rw [← ed_334]; exact List.mem_append_left _ ((by rw [← ed_322]; exact List.mem_append_left _ ((by rw [← ed_310]; exact List.mem_append_left _ ((by rw [← ed_298]; exact List.mem_append_left _ ((by rw [← ed_286]; exact List.mem_append_left _ ((by rw [← ed_274]; exact List.mem_append_left _ ((by rw [← ed_262]; exact List.mem_append_left _ ((by rw [← ed_250]; exact List.mem_append_left _ ((by rw [← ed_238]; exact List.mem_append_left _ ((by rw [← ed_226]; exact List.mem_append_left _ ((by rw [← ed_214]; exact List.mem_append_left _ ((by rw [← ed_202]; exact List.mem_append_left _ ((by rw [← ed_190]; exact List.mem_append_left _ ((by rw [← ed_178]; exact List.mem_append_left _ ((by rw [← ed_166]; exact List.mem_append_left _ ((by rw [← ed_154]; exact List.mem_append_left _ ((by rw [← ed_142]; exact List.mem_append_left _ ((by rw [← ed_130]; exact List.mem_append_left _ ((by rw [← ed_118]; exact List.mem_append_left _ ((by rw [← ed_106]; exact List.mem_append_left _ ((by rw [← ed_94]; exact List.mem_append_left _ ((by rw [← ed_82]; exact List.mem_append_left _ ((by rw [← ed_70]; exact List.mem_append_left _ ((by rw [← ed_58]; exact List.mem_append_left _ ((by rw [← ed_46]; exact List.mem_append_left _ ((by rw [← ed_34]; exact List.mem_append_left _ ((by rw [← ed_22]; exact List.mem_append_left _ ((by rw [← ed_10]; exact List.mem_append_left _ (hm50)))))))))))))))))))))))))))))))))))))))))))))))))))))))))))))))))))))))))))) (fun b hb => by cases hb; exact (by rw [← ed_454]; exact List.mem_append_right _ List.mem_cons_self)) ?_
  generalize eG_457 : zuG G_455 50 53 (some a_446) = G_457
  replace K := K G_457 eG_457.symm
  refine Z.aload_n (k := 0) dX12_init_336 rfl ?_
  refine Z.iconst (n := 4) dX12_init_337 ⟨by decide, by decide⟩ ?_
  refine Y.putI 57 dX12_init_338 zw_X12_129 (fun q => by cases q) (rfl) rfl (by rw [← ed_454]; exact List.mem_append_left _ ((by rw [← ed_442]; exact List.mem_append_left _ ((by rw [← ed_430]; exact List.mem_append_left _ ((by rw [← ed_418]; exact List.mem_append_left _ ((by rw [← ed_406]; exact List.mem_append_left _ ((by rw [← ed_394]; exact List.mem_append_left _ ((by rw [← ed_382]; exact List.mem_append_left _ ((by rw [← ed_370]; exact List.mem_append_left _ ((by rw [← ed_358]; exact List.mem_append_left _ ((by rw [← ed_346]; exact List.mem_append_left _ ((by rw [← ed_334]; exact List.mem_append_left _ ((by rw [← ed_322]; exact List.mem_append_left _ ((by rw [← ed_310]; exact List.mem_append_left _ ((by rw [← ed_298]; exact List.mem_append_left _ ((by rw [← ed_286]; exact List.mem_append_left _ ((by rw [← ed_274]; exact List.mem_append_left _ ((by rw [← ed_262]; exact List.mem_append_left _ ((by rw [← ed_250]; exact List.mem_append_left _ ((by rw [← ed_238]; exact List.mem_append_left _ ((by rw [← ed_226]; exact List.mem_append_left _ ((by rw [← ed_214]; exact List.mem_append_left _ ((by rw [← ed_202]; exact List.mem_append_left _ ((by rw [← ed_190]; exact List.mem_append_left _ ((by rw [← ed_178]; exact List.mem_append_left _ ((by rw [← ed_166]; exact List.mem_append_left _ ((by rw [← ed_154]; exact List.mem_append_left _ ((by rw [← ed_142]; exact List.mem_append_left _ ((by rw [← ed_130]; exact List.mem_append_left _ ((by rw [← ed_118]; exact List.mem_append_left _ ((by rw [← ed_106]; exact List.mem_append_left _ ((by rw [← ed_94]; exact List.mem_append_left _ ((by rw [← ed_82]; exact List.mem_append_left _ ((by rw [← ed_70]; exact List.mem_append_left _ ((by rw [← ed_58]; exact List.mem_append_left _ ((by rw [← ed_46]; exact List.mem_append_left _ ((by rw [← ed_34]; exact List.mem_append_left _ ((by rw [← ed_22]; exact List.mem_append_left _ ((by rw [← ed_10]; exact List.mem_append_left _ (hm50)))))))))))))))))))))))))))))))))))))))))))))))))))))))))))))))))))))))))))) (Or.inl rfl) ?_
  generalize eE_458 : zuE E_456 50 57 4 = E_458
  replace K := K E_458 eE_458.symm
  refine Z.aload_n (k := 0) dX12_init_341 rfl ?_
  refine Z.sipush (n := 2000) dX12_init_342 ⟨by decide, by decide⟩ (by decide) ?_
  refine Y.putI 58 dX12_init_345 zw_X12_132 (fun q => by cases q) (rfl) rfl (by rw [← ed_454]; exact List.mem_append_left _ ((by rw [← ed_442]; exact List.mem_append_left _ ((by rw [← ed_430]; exact List.mem_append_left _ ((by rw [← ed_418]; exact List.mem_append_left _ ((by rw [← ed_406]; exact List.mem_append_left _ ((by rw [← ed_394]; exact List.mem_append_left _ ((by rw [← ed_382]; exact List.mem_append_left _ ((by rw [← ed_370]; exact List.mem_append_left _ ((by rw [← ed_358]; exact List.mem_append_left _ ((by rw [← ed_346]; exact List.mem_append_left _ ((by rw [← ed_334]; exact List.mem_append_left _ ((by rw [← ed_322]; exact List.mem_append_left _ ((by rw [← ed_310]; exact List.mem_append_left _ ((by rw [← ed_298]; exact List.mem_append_left _ ((by rw [← ed_286]; exact List.mem_append_left _ ((by rw [← ed_274]; exact List.mem_append_left _ ((by rw [← ed_262]; exact List.mem_append_left _ ((by rw [← ed_250]; exact List.mem_append_left _ ((by rw [← ed_238]; exact List.mem_append_left _ ((by rw [← ed_226]; exact List.mem_append_left _ ((by rw [← ed_214]; exact List.mem_append_left _ ((by rw [← ed_202]; exact List.mem_append_left _ ((by rw [← ed_190]; exact List.mem_append_left _ ((by rw [← ed_178]; exact List.mem_append_left _ ((by rw [← ed_166]; exact List.mem_append_left _ ((by rw [← ed_154]; exact List.mem_append_left _ ((by rw [← ed_142]; exact List.mem_append_left _ ((by rw [← ed_130]; exact List.mem_append_left _ ((by rw [← ed_118]; exact List.mem_append_left _ ((by rw [← ed_106]; exact List.mem_append_left _ ((by rw [← ed_94]; exact List.mem_append_left _ ((by rw [← ed_82]; exact List.mem_append_left _ ((by rw [← ed_70]; exact List.mem_append_left _ ((by rw [← ed_58]; exact List.mem_append_left _ ((by rw [← ed_46]; exact List.mem_append_left _ ((by rw [← ed_34]; exact List.mem_append_left _ ((by rw [← ed_22]; exact List.mem_append_left _ ((by rw [← ed_10]; exact List.mem_append_left _ (hm50)))))))))))))))))))))))))))))))))))))))))))))))))))))))))))))))))))))))))))) (Or.inl rfl) ?_
  generalize eE_459 : zuE E_458 50 58 2000 = E_459
  replace K := K E_459 eE_459.symm
  refine Z.aload_n (k := 0) dX12_init_348 rfl ?_
  refine Z.sipush (n := 150) dX12_init_349 ⟨by decide, by decide⟩ (by decide) ?_
  obtain ⟨a_460, z_461, z_462, z_463, z_464, z_465, z_466, z_467, K⟩ := K
  refine Y.newZ a_460 dX12_init_352 z_461 z_462 z_463 zaz z_464 z_465 z_466 z_467 ?_
  generalize ed_468 : d_454 ++ [a_460] = d_468
  generalize eG_469 : zclG G_457 a_460 = G_469
  generalize eE_470 : zclE E_459 a_460 = E_470
  replace K := K d_468 G_469 E_470 ed_468.symm eG_469.symm eE_470.symm
  refine Y.putR 59 dX12_init_354 zw_X12_135 (fun _ => ⟨rfl, rfl⟩) (rfl) rfl (by rw [← ed_468]; exact List.mem_append_left _ ((by rw [← ed_454]; exact List.mem_append_left _ ((by rw [← ed_442]; exact List.mem_append_left _ ((by rw [← ed_430]; exact List.mem_append_left _ ((by rw [← ed_418]; exact List.mem_append_left _ ((by rw [← ed_406]; exact List.mem_append_left _ ((by rw [← ed_394]; exact List.mem_append_left _ ((by rw [← ed_382]; exact List.mem_append_left _ ((by rw [← ed_370]; exact List.mem_append_left _ ((by rw [← ed_358]; exact List.mem_append_left _ ((by rw [← ed_346]; exact List.mem_append_left _ ((by rw [← ed_334]; exact List.mem_append_left _ ((by rw [← ed_322]; exact List.mem_append_left _ ((by rw [← ed_310]; exact List.mem_append_left _ ((by rw [← ed_298]; exact List.mem_append_left _ ((by rw [← ed_286]; exact List.mem_append_left _ ((by rw [← ed_274]; exact List.mem_append_left _ ((by rw [← ed_262]; exact List.mem_append_left _ ((by rw [← ed_250]; exact List.mem_append_left _ ((by rw [← ed_238]; exact List.mem_append_left _ ((by rw [← ed_226]; exact List.mem_append_left _ ((by rw [← ed_214]; exact List.mem_append_left _ ((by rw [← ed_202]; exact List.mem_append_left _ ((by rw [← ed_190]; exact List.mem_append_left _ ((by rw [← ed_178]; exact List.mem_append_left _ ((by rw [← ed_166]; exact List.mem_append_left _ ((by rw [← ed_154]; exact List.mem_append_left _ ((by rw [← ed_142]; exact List.mem_append_left _ ((by rw [← ed_130]; exact List.mem_append_left _ ((by rw [← ed_118]; exact List.mem_append_left _ ((by rw [← ed_106]; exact List.mem_append_left _ ((by rw [← ed_94]; exact List.mem_append_left _ ((by rw [← ed_82]; exact List.mem_append_left _ ((by rw [← ed_70]; exact List.mem_append_left _ ((by rw [← ed_58]; exact List.mem_append_left _ ((by rw [← ed_46]; exact List.mem_append_left _ ((by rw [← ed_34]; exact List.mem_append_left _ ((by rw [← ed_22]; exact List.mem_append_left _ ((by rw [← ed_10]; exact List.mem_append_left _ (hm50)))))))))))))))))))))))))))))))))))))))))))))))))))))))))))))))))))))))))))))) (fun b hb => by cases hb; exact (by rw [← ed_468]; exact List.mem_append_right _ List.mem_cons_self)) ?_
  generalize eG_471 : zuG G_469 50 59 (some a_460) = G_471
  replace K := K G_471 eG_471.symm
  refine Z.aload_n (k := 0) dX12_init_357 rfl ?_
  refine Y.getR (o := (G_471 50 1)) 1 dX12_init_358 zl_X12_13 (rfl) (by decide) rfl (by rw [← ed_468]; exact List.mem_append_left _ ((by rw [← ed_454]; exact List.mem_append_left _ ((by rw [← ed_442]; exact List.mem_append_left _ ((by rw [← ed_430]; exact List.mem_append_left _ ((by rw [← ed_418]; exact List.mem_append_left _ ((by rw [← ed_406]; exact List.mem_append_left _ ((by rw [← ed_394]; exact List.mem_append_left _ ((by rw [← ed_382]; exact List.mem_append_left _ ((by rw [← ed_370]; exact List.mem_append_left _ ((by rw [← ed_358]; exact List.mem_append_left _ ((by rw [← ed_346]; exact List.mem_append_left _ ((by rw [← ed_334]; exact List.mem_append_left _ ((by rw [← ed_322]; exact List.mem_append_left _ ((by rw [← ed_310]; exact List.mem_append_left _ ((by rw [← ed_298]; exact List.mem_append_left _ ((by rw [← ed_286]; exact List.mem_append_left _ ((by rw [← ed_274]; exact List.mem_append_left _ ((by rw [← ed_262]; exact List.mem_append_left _ ((by rw [← ed_250]; exact List.mem_append_left _ ((by rw [← ed_238]; exact List.mem_append_left _ ((by rw [← ed_226]; exact List.mem_append_left _ ((by rw [← ed_214]; exact List.mem_append_left _ ((by rw [← ed_202]; exact List.mem_append_left _ ((by rw [← ed_190]; exact List.mem_append_left _ ((by rw [← ed_178]; exact List.mem_append_left _ ((by rw [← ed_166]; exact List.mem_append_left _ ((by rw [← ed_154]; exact List.mem_append_left _ ((by rw [← ed_142]; exact List.mem_append_left _ ((by rw [← ed_130]; exact List.mem_append_left _ ((by rw [← ed_118]; exact List.mem_append_left _ ((by rw [← ed_106]; exact List.mem_append_left _ ((by rw [← ed_94]; exact List.mem_append_left _ ((by rw [← ed_82]; exact List.mem_append_left _ ((by rw [← ed_70]; exact List.mem_append_left _ ((by rw [← ed_58]; exact List.mem_append_left _ ((by rw [← ed_46]; exact List.mem_append_left _ ((by rw [← ed_34]; exact List.mem_append_left _ ((by rw [← ed_22]; exact List.mem_append_left _ ((by rw [← ed_10]; exact List.mem_append_left _ (hm50)))))))))))))))))))))))))))))))))))))))))))))))))))))))))))))))))))))))))))))) rfl ?_
  refine Z.iconst (n := 0) dX12_init_361 ⟨by decide, by decide⟩ ?_
  refine Z.iconst (n := 1) dX12_init_362 ⟨by decide, by decide⟩ ?_
  obtain ⟨b_472, n_474, e_473, hk_475, hm_476, K⟩ := K
  rw [e_473]
  obtain ⟨z_477, K⟩ := K
  refine Y.zast dX12_init_363 (hk_475) (hm_476) z_477 (by decide) ?_
  generalize eE_478 : zuE E_470 b_472 0 1 = E_478
  replace K := K E_478 eE_478.symm
  refine Z.aload_n (k := 0) dX12_init_364 rfl ?_
  refine Y.getR (o := (G_471 50 2)) 2 dX12_init_365 zl_X12_17 (rfl) (by decide) rfl (by rw [← ed_468]; exact List.mem_append_left _ ((by rw [← ed_454]; exact List.mem_append_left _ ((by rw [← ed_442]; exact List.mem_append_left _ ((by rw [← ed_430]; exact List.mem_append_left _ ((by rw [← ed_418]; exact List.mem_append_left _ ((by rw [← ed_406]; exact List.mem_append_left _ ((by rw [← ed_394]; exact List.mem_append_left _ ((by rw [← ed_382]; exact List.mem_append_left _ ((by rw [← ed_370]; exact List.mem_append_left _ ((by rw [← ed_358]; exact List.mem_append_left _ ((by rw [← ed_346]; exact List.mem_append_left _ ((by rw [← ed_334]; exact List.mem_append_left _ ((by rw [← ed_322]; exact List.mem_append_left _ ((by rw [← ed_310]; exact List.mem_append_left _ ((by rw [← ed_298]; exact List.mem_append_left _ ((by rw [← ed_286]; exact List.mem_append_left _ ((by rw [← ed_274]; exact List.mem_append_left _ ((by rw [← ed_262]; exact List.mem_append_left _ ((by rw [← ed_250]; exact List.mem_append_left _ ((by rw [← ed_238]; exact List.mem_append_left _ ((by rw [← ed_226]; exact List.mem_append_left _ ((by rw [← ed_214]; exact List.mem_append_left _ ((by rw [← ed_202]; exact List.mem_append_left _ ((by rw [← ed_190]; exact List.mem_append_left _ ((by rw [← ed_178]; exact List.mem_append_left _ ((by rw [← ed_166]; exact List.mem_append_left _ ((by rw [← ed_154]; exact List.mem_append_left _ ((by rw [← ed_142]; exact List.mem_append_left _ ((by rw [← ed_130]; exact List.mem_append_left _ ((by rw [← ed_118]; exact List.mem_append_left _ ((by rw [← ed_106]; exact List.mem_append_left _ ((by rw [← ed_94]; exact List.mem_append_left _ ((by rw [← ed_82]; exact List.mem_append_left _ ((by rw [← ed_70]; exact List.mem_append_left _ ((by rw [← ed_58]; exact List.mem_append_left _ ((by rw [← ed_46]; exact List.mem_append_left _ ((by rw [← ed_34]; exact List.mem_append_left _ ((by rw [← ed_22]; exact List.mem_append_left _ ((by rw [← ed_10]; exact List.mem_append_left _ (hm50)))))))))))))))))))))))))))))))))))))))))))))))))))))))))))))))))))))))))))))) rfl ?_
  refine Z.iconst (n := 0) dX12_init_368 ⟨by decide, by decide⟩ ?_
  refine Z.iconst (n := 2) dX12_init_369 ⟨by decide, by decide⟩ ?_
  obtain ⟨b_479, n_481, e_480, hk_482, hm_483, K⟩ := K
  rw [e_480]
  obtain ⟨z_484, K⟩ := K
  refine Y.iast dX12_init_370 (hk_482) (hm_483) z_484 ?_
  generalize eE_485 : zuE E_478 b_479 0 2 = E_485
  replace K := K E_485 eE_485.symm
  refine Z.aload_n (k := 0) dX12_init_371 rfl ?_
  refine Y.getR (o := (G_471 50 3)) 3 dX12_init_372 zl_X12_21 (rfl) (by decide) rfl (by rw [← ed_468]; exact List.mem_append_left _ ((by rw [← ed_454]; exact List.mem_append_left _ ((by rw [← ed_442]; exact List.mem_append_left _ ((by rw [← ed_430]; exact List.mem_append_left _ ((by rw [← ed_418]; exact List.mem_append_left _ ((by rw [← ed_406]; exact List.mem_append_left _ ((by rw [← ed_394]; exact List.mem_append_left _ ((by rw [← ed_382]; exact List.mem_append_left _ ((by rw [← ed_370]; exact List.mem_append_left _ ((by rw [← ed_358]; exact List.mem_append_left _ ((by rw [← ed_346]; exact List.mem_append_left _ ((by rw [← ed_334]; exact List.mem_append_left _ ((by rw [← ed_322]; exact List.mem_append_left _ ((by rw [← ed_310]; exact List.mem_append_left _ ((by rw [← ed_298]; exact List.mem_append_left _ ((by rw [← ed_286]; exact List.mem_append_left _ ((by rw [← ed_274]; exact List.mem_append_left _ ((by rw [← ed_262]; exact List.mem_append_left _ ((by rw [← ed_250]; exact List.mem_append_left _ ((by rw [← ed_238]; exact List.mem_append_left _ ((by rw [← ed_226]; exact List.mem_append_left _ ((by rw [← ed_214]; exact List.mem_append_left _ ((by rw [← ed_202]; exact List.mem_append_left _ ((by rw [← ed_190]; exact List.mem_append_left _ ((by rw [← ed_178]; exact List.mem_append_left _ ((by rw [← ed_166]; exact List.mem_append_left _ ((by rw [← ed_154]; exact List.mem_append_left _ ((by rw [← ed_142]; exact List.mem_append_left _ ((by rw [← ed_130]; exact List.mem_append_left _ ((by rw [← ed_118]; exact List.mem_append_left _ ((by rw [← ed_106]; exact List.mem_append_left _ ((by rw [← ed_94]; exact List.mem_append_left _ ((by rw [← ed_82]; exact List.mem_append_left _ ((by rw [← ed_70]; exact List.mem_append_left _ ((by rw [← ed_58]; exact List.mem_append_left _ ((by rw [← ed_46]; exact List.mem_append_left _ ((by rw [← ed_34]; exact List.mem_append_left _ ((by rw [← ed_22]; exact List.mem_append_left _ ((by rw [← ed_10]; exact List.mem_append_left _ (hm50)))))))))))))))))))))))))))))))))))))))))))))))))))))))))))))))))))))))))))))) rfl ?_
  refine Z.iconst (n := 0) dX12_init_375 ⟨by decide, by decide⟩ ?_
  refine Z.iconst (n := 1) dX12_init_376 ⟨by decide, by decide⟩ ?_
  obtain ⟨b_486, n_488, e_487, hk_489, hm_490, K⟩ := K
  rw [e_487]
  obtain ⟨z_491, K⟩ := K
  refine Y.iast dX12_init_377 (hk_489) (hm_490) z_491 ?_
  generalize eE_492 : zuE E_485 b_486 0 1 = E_492
  replace K := K E_492 eE_492.symm
  exact Z.vret dX12_init_378 rfl K
set_option maxRecDepth 20000 in
theorem X12_in_0 {kz : Nat × Nat} {Q : Option zV → zH → Prop} {d : List Nat} {G : Nat → Int → Option Nat} {E : Nat → Int → Int} {v0 : Int} {v1 : Int} {v2 : Int} (hM : zK zMt d G) (K : (v0 < v1 → Q (some (zI 0)) (d, G, E)) ∧ (¬ (v0 < v1) → (v2 < v0 → Q (some (zI 0)) (d, G, E)) ∧ (¬ (v2 < v0) → Q (some (zI 1)) (d, G, E)))) : Z zm_X12_in kz Q 0 [(0, zI v0), (1, zI v1), (2, zI v2)] [] (d, G, E) := by
  refine Z.iload_n (k := 0) dX12_in_0 rfl ?_
  refine Z.iload_n (k := 1) dX12_in_1 rfl ?_
  refine Z.icmp_lt 14 dX12_in_2 rfl ⟨fun c_1 => ?_, fun c_1 => ?_⟩
  · replace K := K.1 c_1
    refine Z.iconst (n := 0) dX12_in_14 ⟨by decide, by decide⟩ ?_
    exact Z.iret (ty := .boolean) dX12_in_15 rfl rfl K
  · replace K := K.2 c_1
    refine Z.iload_n (k := 0) dX12_in_5 rfl ?_
    refine Z.iload_n (k := 2) dX12_in_6 rfl ?_
    refine Z.icmp_gt 14 dX12_in_7 rfl ⟨fun c_2 => ?_, fun c_2 => ?_⟩
    · replace K := K.1 c_2
      refine Z.iconst (n := 0) dX12_in_14 ⟨by decide, by decide⟩ ?_
      exact Z.iret (ty := .boolean) dX12_in_15 rfl rfl K
    · replace K := K.2 c_2
      refine Z.iconst (n := 1) dX12_in_10 ⟨by decide, by decide⟩ ?_
      refine Z.goto 15 dX12_in_11 rfl ?_
      exact Z.iret (ty := .boolean) dX12_in_15 rfl rfl K
set_option maxRecDepth 20000 in
theorem X12_sign_0 {kz : Nat × Nat} {Q : Option zV → zH → Prop} {d : List Nat} {G : Nat → Int → Option Nat} {E : Nat → Int → Int} {v1 : Int} {v2 : Int} {v3 : Int} (hM : zK zMt d G) (K : ∃ x_1, zM zm_X12_in [zI v2, zI 0, zI 3] (d, G, E) (some (zI x_1)) (d, G, E) ∧ (x_1 = 0 → Q (some (zI ((-2)))) (d, G, E)) ∧ (¬ (x_1 = 0) → ∃ x_5, zM zm_X12_in [zI v3, zI 1, zI 9] (d, G, E) (some (zI x_5)) (d, G, E) ∧ (x_5 ≠ 0 → ((E 50 6) ≤ 0 → ((E 50 0) ≠ 16 → ((0 : Int) ≤ (E 50 0) ∧ (E 50 0) < (16 : Int)) ∧ (v1 = 0 ∨ v1 = 1) ∧ ∀ E_13, E_13 = zuE E 52 ((E 50 0)) v1 → ((0 : Int) ≤ (E_13 50 0) ∧ (E_13 50 0) < (16 : Int)) ∧ ∀ E_15, E_15 = zuE E_13 53 ((E_13 50 0)) v2 → ((0 : Int) ≤ (E_15 50 0) ∧ (E_15 50 0) < (16 : Int)) ∧ ∀ E_17, E_17 = zuE E_15 54 ((E_15 50 0)) v3 → zin ((E_17 50 0) + 1) ∧ ∀ E_19, E_19 = zuE E_17 50 0 (((E_17 50 0) + 1)) → zin ((E_19 50 0) - 1) ∧ Q (some (zI (((E_19 50 0) - 1)))) (d, G, E_19)) ∧ (¬ ((E 50 0) ≠ 16) → Q (some (zI ((-4)))) (d, G, E))) ∧ (¬ ((E 50 6) ≤ 0) → Q (some (zI ((-3)))) (d, G, E))) ∧ (¬ (x_5 ≠ 0) → Q (some (zI ((-2)))) (d, G, E)))) : Z zm_X12_sign kz Q 0 [(0, zR 50), (1, zI v1), (2, zI v2), (3, zI v3)] [] (d, G, E) := by
  refine Z.iload_n (k := 2) dX12_sign_0 rfl ?_
  refine Z.iconst (n := 0) dX12_sign_1 ⟨by decide, by decide⟩ ?_
  refine Z.iconst (n := 3) dX12_sign_2 ⟨by decide, by decide⟩ ?_
  obtain ⟨x_1, m_2, K⟩ := K
  refine Y.callS (g := zm_X12_in) (vs := [zI v2, zI 0, zI 3]) (st := []) dX12_sign_3 ⟨zg_X12_in.1, zg_X12_in.2.1, zg_X12_in.2.2, by decide⟩ ⟨Or.inl zk_X12_138, zs_X12_in⟩ rfl rfl (Nat.le_of_ble_eq_true rfl) m_2 (Or.inl rfl) ?_
  show Z zm_X12_sign kz Q 6 [(0, zR 50), (1, zI v1), (2, zI v2), (3, zI v3)] [zI x_1] (d, G, E)
  refine Z.if_eq 19 dX12_sign_6 rfl ⟨fun c_4 => ?_, fun c_4 => ?_⟩
  · replace K := K.1 c_4
    refine Z.bipush (n := -2) dX12_sign_19 ⟨by decide, by decide⟩ (by decide) ?_
    exact Z.iret (ty := .int) dX12_sign_21 rfl rfl K
  · replace K := K.2 c_4
    refine Z.iload_n (k := 3) dX12_sign_9 rfl ?_
    refine Z.iconst (n := 1) dX12_sign_10 ⟨by decide, by decide⟩ ?_
    refine Z.bipush (n := 9) dX12_sign_11 ⟨by decide, by decide⟩ (by decide) ?_
    obtain ⟨x_5, m_6, K⟩ := K
    refine Y.callS (g := zm_X12_in) (vs := [zI v3, zI 1, zI 9]) (st := []) dX12_sign_13 ⟨zg_X12_in.1, zg_X12_in.2.1, zg_X12_in.2.2, by decide⟩ ⟨Or.inl zk_X12_138, zs_X12_in⟩ rfl rfl (Nat.le_of_ble_eq_true rfl) m_6 (Or.inl rfl) ?_
    show Z zm_X12_sign kz Q 16 [(0, zR 50), (1, zI v1), (2, zI v2), (3, zI v3)] [zI x_5] (d, G, E)
    refine Z.if_ne 22 dX12_sign_16 rfl ⟨fun c_8 => ?_, fun c_8 => ?_⟩
    · replace K := K.1 c_8
      refine Z.aload_n (k := 0) dX12_sign_22 rfl ?_
      refine Y.getI 6 dX12_sign_23 zl_X12_142 (rfl) (by decide) rfl (zM_1 hM).2.1 ?_
      refine Z.if_le 32 dX12_sign_26 rfl ⟨fun c_9 => ?_, fun c_9 => ?_⟩
      · replace K := K.1 c_9
        refine Z.aload_n (k := 0) dX12_sign_32 rfl ?_
        refine Y.getI 0 dX12_sign_33 zl_X12_7 (rfl) (by decide) rfl (zM_1 hM).2.1 ?_
        refine Z.bipush (n := 16) dX12_sign_36 ⟨by decide, by decide⟩ (by decide) ?_
        refine Z.icmp_ne 44 dX12_sign_38 rfl ⟨fun c_10 => ?_, fun c_10 => ?_⟩
        · replace K := K.1 c_10
          refine Z.aload_n (k := 0) dX12_sign_44 rfl ?_
          refine Y.getR (o := some 52) 1 dX12_sign_45 zl_X12_13 (rfl) (by decide) rfl (zM_1 hM).2.1 (zM_1 hM).1 ?_
          refine Z.aload_n (k := 0) dX12_sign_48 rfl ?_
          refine Y.getI 0 dX12_sign_49 zl_X12_7 (rfl) (by decide) rfl (zM_1 hM).2.1 ?_
          refine Z.iload_n (k := 1) dX12_sign_52 rfl ?_
          obtain ⟨z_11, K⟩ := K
          obtain ⟨z_12, K⟩ := K
          refine Y.zast dX12_sign_53 (rfl) ((zM_1 hM).2.2) z_11 z_12 ?_
          generalize eE_13 : zuE E 52 ((E 50 0)) v1 = E_13
          replace K := K E_13 eE_13.symm
          refine Z.aload_n (k := 0) dX12_sign_54 rfl ?_
          refine Y.getR (o := some 53) 2 dX12_sign_55 zl_X12_17 (rfl) (by decide) rfl (zM_1 hM).2.1 (zM_2 hM).1 ?_
          refine Z.aload_n (k := 0) dX12_sign_58 rfl ?_
          refine Y.getI 0 dX12_sign_59 zl_X12_7 (rfl) (by decide) rfl (zM_1 hM).2.1 ?_
          refine Z.iload_n (k := 2) dX12_sign_62 rfl ?_
          obtain ⟨z_14, K⟩ := K
          refine Y.iast dX12_sign_63 (rfl) ((zM_2 hM).2.2) z_14 ?_
          generalize eE_15 : zuE E_13 53 ((E_13 50 0)) v2 = E_15
          replace K := K E_15 eE_15.symm
          refine Z.aload_n (k := 0) dX12_sign_64 rfl ?_
          refine Y.getR (o := some 54) 3 dX12_sign_65 zl_X12_21 (rfl) (by decide) rfl (zM_1 hM).2.1 (zM_3 hM).1 ?_
          refine Z.aload_n (k := 0) dX12_sign_68 rfl ?_
          refine Y.getI 0 dX12_sign_69 zl_X12_7 (rfl) (by decide) rfl (zM_1 hM).2.1 ?_
          refine Z.iload_n (k := 3) dX12_sign_72 rfl ?_
          obtain ⟨z_16, K⟩ := K
          refine Y.iast dX12_sign_73 (rfl) ((zM_3 hM).2.2) z_16 ?_
          generalize eE_17 : zuE E_15 54 ((E_15 50 0)) v3 = E_17
          replace K := K E_17 eE_17.symm
          refine Z.aload_n (k := 0) dX12_sign_74 rfl ?_
          refine Z.dup_i dX12_sign_75 (fun _ => rfl) ?_
          refine Y.getI 0 dX12_sign_76 zl_X12_7 (rfl) (by decide) rfl (zM_1 hM).2.1 ?_
          refine Z.iconst (n := 1) dX12_sign_79 ⟨by decide, by decide⟩ ?_
          obtain ⟨z_18, K⟩ := K
          refine Z.iadd dX12_sign_80 z_18 ?_
          refine Y.putI 0 dX12_sign_81 zw_X12_7 (fun q => by cases q) (rfl) rfl (zM_1 hM).2.1 (Or.inl rfl) ?_
          generalize eE_19 : zuE E_17 50 0 (((E_17 50 0) + 1)) = E_19
          replace K := K E_19 eE_19.symm
          refine Z.aload_n (k := 0) dX12_sign_84 rfl ?_
          refine Y.getI 0 dX12_sign_85 zl_X12_7 (rfl) (by decide) rfl (zM_1 hM).2.1 ?_
          refine Z.iconst (n := 1) dX12_sign_88 ⟨by decide, by decide⟩ ?_
          obtain ⟨z_20, K⟩ := K
          refine Z.isub dX12_sign_89 z_20 ?_
          exact Z.iret (ty := .int) dX12_sign_90 rfl rfl K
        · replace K := K.2 c_10
          refine Z.bipush (n := -4) dX12_sign_41 ⟨by decide, by decide⟩ (by decide) ?_
          exact Z.iret (ty := .int) dX12_sign_43 rfl rfl K
      · replace K := K.2 c_9
        refine Z.bipush (n := -3) dX12_sign_29 ⟨by decide, by decide⟩ (by decide) ?_
        exact Z.iret (ty := .int) dX12_sign_31 rfl rfl K
    · replace K := K.2 c_8
      refine Z.bipush (n := -2) dX12_sign_19 ⟨by decide, by decide⟩ (by decide) ?_
      exact Z.iret (ty := .int) dX12_sign_21 rfl rfl K
set_option maxRecDepth 20000 in
theorem X12_draft_0 {kz : Nat × Nat} {Q : Option zV → zH → Prop} {d : List Nat} {G : Nat → Int → Option Nat} {E : Nat → Int → Int} {v1 : Int} (hM : zK zMt d G) (K : ∃ x_1, zM zm_X12_in [zI v1, zI ((-20)), zI 3000] (d, G, E) (some (zI x_1)) (d, G, E) ∧ (x_1 ≠ 0 → ((E 50 4) ≠ 200 → ((0 : Int) ≤ (E 50 4) ∧ (E 50 4) < (200 : Int)) ∧ ∀ E_7, E_7 = zuE E 56 ((E 50 4)) v1 → zin ((E_7 50 4) + 1) ∧ ∀ E_9, E_9 = zuE E_7 50 4 (((E_7 50 4) + 1)) → Q (some (zI ((E_9 50 4)))) (d, G, E_9)) ∧ (¬ ((E 50 4) ≠ 200) → Q (some (zI ((-4)))) (d, G, E))) ∧ (¬ (x_1 ≠ 0) → Q (some (zI ((-2)))) (d, G, E))) : Z zm_X12_draft kz Q 0 [(0, zR 50), (1, zI v1)] [] (d, G, E) := by
  refine Z.iload_n (k := 1) dX12_draft_0 rfl ?_
  refine Z.bipush (n := -20) dX12_draft_1 ⟨by decide, by decide⟩ (by decide) ?_
  refine Z.sipush (n := 3000) dX12_draft_3 ⟨by decide, by decide⟩ (by decide) ?_
  obtain ⟨x_1, m_2, K⟩ := K
  refine Y.callS (g := zm_X12_in) (vs := [zI v1, zI ((-20)), zI 3000]) (st := []) dX12_draft_6 ⟨zg_X12_in.1, zg_X12_in.2.1, zg_X12_in.2.2, by decide⟩ ⟨Or.inl zk_X12_138, zs_X12_in⟩ rfl rfl (Nat.le_of_ble_eq_true rfl) m_2 (Or.inl rfl) ?_
  show Z zm_X12_draft kz Q 9 [(0, zR 50), (1, zI v1)] [zI x_1] (d, G, E)
  refine Z.if_ne 15 dX12_draft_9 rfl ⟨fun c_4 => ?_, fun c_4 => ?_⟩
  · replace K := K.1 c_4
    refine Z.aload_n (k := 0) dX12_draft_15 rfl ?_
    refine Y.getI 4 dX12_draft_16 zl_X12_145 (rfl) (by decide) rfl (zM_1 hM).2.1 ?_
    refine Z.sipush (n := 200) dX12_draft_19 ⟨by decide, by decide⟩ (by decide) ?_
    refine Z.icmp_ne 28 dX12_draft_22 rfl ⟨fun c_5 => ?_, fun c_5 => ?_⟩
    · replace K := K.1 c_5
      refine Z.aload_n (k := 0) dX12_draft_28 rfl ?_
      refine Y.getR (o := some 56) 5 dX12_draft_29 zl_X12_24 (rfl) (by decide) rfl (zM_1 hM).2.1 (zM_5 hM).1 ?_
      refine Z.aload_n (k := 0) dX12_draft_32 rfl ?_
      refine Y.getI 4 dX12_draft_33 zl_X12_145 (rfl) (by decide) rfl (zM_1 hM).2.1 ?_
      refine Z.iload_n (k := 1) dX12_draft_36 rfl ?_
      obtain ⟨z_6, K⟩ := K
      refine Y.iast dX12_draft_37 (rfl) ((zM_5 hM).2.2) z_6 ?_
      generalize eE_7 : zuE E 56 ((E 50 4)) v1 = E_7
      replace K := K E_7 eE_7.symm
      refine Z.aload_n (k := 0) dX12_draft_38 rfl ?_
      refine Z.dup_i dX12_draft_39 (fun _ => rfl) ?_
      refine Y.getI 4 dX12_draft_40 zl_X12_145 (rfl) (by decide) rfl (zM_1 hM).2.1 ?_
      refine Z.iconst (n := 1) dX12_draft_43 ⟨by decide, by decide⟩ ?_
      obtain ⟨z_8, K⟩ := K
      refine Z.iadd dX12_draft_44 z_8 ?_
      refine Y.putI 4 dX12_draft_45 zw_X12_145 (fun q => by cases q) (rfl) rfl (zM_1 hM).2.1 (Or.inl rfl) ?_
      generalize eE_9 : zuE E_7 50 4 (((E_7 50 4) + 1)) = E_9
      replace K := K E_9 eE_9.symm
      refine Z.aload_n (k := 0) dX12_draft_48 rfl ?_
      refine Y.getI 4 dX12_draft_49 zl_X12_145 (rfl) (by decide) rfl (zM_1 hM).2.1 ?_
      exact Z.iret (ty := .int) dX12_draft_52 rfl rfl K
    · replace K := K.2 c_5
      refine Z.bipush (n := -4) dX12_draft_25 ⟨by decide, by decide⟩ (by decide) ?_
      exact Z.iret (ty := .int) dX12_draft_27 rfl rfl K
  · replace K := K.2 c_4
    refine Z.bipush (n := -2) dX12_draft_12 ⟨by decide, by decide⟩ (by decide) ?_
    exact Z.iret (ty := .int) dX12_draft_14 rfl rfl K
set_option maxRecDepth 20000 in
theorem X12_wipe_0 {kz : Nat × Nat} {Q : Option zV → zH → Prop} {d : List Nat} {G : Nat → Int → Option Nat} {E : Nat → Int → Int}  (hM : zK zMt d G) (K : ∀ E_1, E_1 = zuE E 50 4 0 → Q (some (zI ((E 50 4)))) (d, G, E_1)) : Z zm_X12_wipe kz Q 0 [(0, zR 50)] [] (d, G, E) := by
  refine Z.aload_n (k := 0) dX12_wipe_0 rfl ?_
  refine Y.getI 4 dX12_wipe_1 zl_X12_145 (rfl) (by decide) rfl (zM_1 hM).2.1 ?_
  refine Z.istore_n (ls' := [(1, zI ((E 50 4))), (0, zR 50)]) dX12_wipe_4 (by decide) rfl ?_
  refine Z.aload_n (k := 1) dX12_wipe_5 rfl ?_
  refine Z.iconst (n := 0) dX12_wipe_6 ⟨by decide, by decide⟩ ?_
  refine Y.putI 4 dX12_wipe_7 zw_X12_145 (fun q => by cases q) (rfl) rfl (zM_1 hM).2.1 (Or.inl rfl) ?_
  generalize eE_1 : zuE E 50 4 0 = E_1
  replace K := K E_1 eE_1.symm
  refine Z.iload_n (k := 0) dX12_wipe_10 rfl ?_
  exact Z.iret (ty := .int) dX12_wipe_11 rfl rfl K
set_option maxRecDepth 20000 in
theorem X12_endOf_0 {kz : Nat × Nat} {Q : Option zV → zH → Prop} {d : List Nat} {G : Nat → Int → Option Nat} {E : Nat → Int → Int} {a1 n1 : Nat} {v2 : Int} (hM : zK zMt d G) (ha1 : a1 ∈ d) (hk1 : zkd a1 = (0, n1)) (K : Z zm_X12_endOf kz Q 5 [(0, zR 50), (1, zR a1), (3, zI 1), (4, zI v2)] [] (d, G, E)) : Z zm_X12_endOf kz Q 0 [(0, zR 50), (1, zR a1), (2, zI v2)] [] (d, G, E) := by
  refine Z.iconst (n := 1) dX12_endOf_0 ⟨by decide, by decide⟩ ?_
  refine Z.istore_n (ls' := [(3, zI 1), (0, zR 50), (1, zR a1), (2, zI v2)]) dX12_endOf_1 (by decide) rfl ?_
  refine Z.iload_n (k := 3) dX12_endOf_2 rfl ?_
  refine Z.istore (ls' := [(4, zI v2), (3, zI 1), (0, zR 50), (1, zR a1), (2, zI v2)]) dX12_endOf_3 (by decide) rfl ?_
  refine Z.pick (ls' := [(0, zR 50), (1, zR a1), (3, zI 1), (4, zI v2)]) [2, 3, 1, 0] rfl ?_
  exact K
set_option maxRecDepth 20000 in
theorem X12_endOf_5 {kz : Nat × Nat} {Q : Option zV → zH → Prop} {d : List Nat} {G : Nat → Int → Option Nat} {E : Nat → Int → Int} {a1 n1 : Nat} {v3 : Int} {v4 : Int} (hM : zK zMt d G) (ha1 : a1 ∈ d) (hk1 : zkd a1 = (0, n1)) (K : (v3 ≤ 0 → Q (some (zI v4)) (d, G, E)) ∧ (¬ (v3 ≤ 0) → ((0 : Int) ≤ v4 ∧ v4 < (n1 : Int)) ∧ (0 ≤ (E a1 v4) → ((0 : Int) ≤ v4 ∧ v4 < (n1 : Int)) ∧ ((0 : Int) ≤ (E a1 v4) ∧ (E a1 v4) < (16 : Int)) ∧ zin ((E 53 (E a1 v4)) - 1) ∧ zin (v3 + ((E 53 (E a1 v4)) - 1)) ∧ zin (v4 + 1) ∧ Z zm_X12_endOf kz Q 5 [(0, zR 50), (1, zR a1), (3, zI ((v3 + ((E 53 (E a1 v4)) - 1)))), (4, zI ((v4 + 1)))] [] (d, G, E)) ∧ (¬ (0 ≤ (E a1 v4)) → zin (v3 + (-1)) ∧ zin (v4 + 1) ∧ Z zm_X12_endOf kz Q 5 [(0, zR 50), (1, zR a1), (3, zI ((v3 + (-1)))), (4, zI ((v4 + 1)))] [] (d, G, E)))) : Z zm_X12_endOf kz Q 5 [(0, zR 50), (1, zR a1), (3, zI v3), (4, zI v4)] [] (d, G, E) := by
  refine Z.iload_n (k := 2) dX12_endOf_5 rfl ?_
  refine Z.if_le 40 dX12_endOf_6 rfl ⟨fun c_1 => ?_, fun c_1 => ?_⟩
  · replace K := K.1 c_1
    refine Z.iload (k := 3) dX12_endOf_40 rfl ?_
    exact Z.iret (ty := .int) dX12_endOf_42 rfl rfl K
  · replace K := K.2 c_1
    refine Z.iload_n (k := 2) dX12_endOf_9 rfl ?_
    refine Z.aload_n (k := 1) dX12_endOf_10 rfl ?_
    refine Z.iload (k := 3) dX12_endOf_11 rfl ?_
    obtain ⟨z_2, K⟩ := K
    refine Y.iald dX12_endOf_13 (hk1) (ha1) z_2 ?_
    refine Z.if_ge 21 dX12_endOf_14 rfl ⟨fun c_3 => ?_, fun c_3 => ?_⟩
    · replace K := K.1 c_3
      refine Z.aload_n (k := 0) dX12_endOf_21 rfl ?_
      refine Y.getR (o := some 53) 2 dX12_endOf_22 zl_X12_17 (rfl) (by decide) rfl (zM_1 hM).2.1 (zM_2 hM).1 ?_
      refine Z.aload_n (k := 1) dX12_endOf_25 rfl ?_
      refine Z.iload (k := 3) dX12_endOf_26 rfl ?_
      obtain ⟨z_4, K⟩ := K
      refine Y.iald dX12_endOf_28 (hk1) (ha1) z_4 ?_
      obtain ⟨z_5, K⟩ := K
      refine Y.iald dX12_endOf_29 (rfl) ((zM_2 hM).2.2) z_5 ?_
      refine Z.iconst (n := 1) dX12_endOf_30 ⟨by decide, by decide⟩ ?_
      obtain ⟨z_6, K⟩ := K
      refine Z.isub dX12_endOf_31 z_6 ?_
      obtain ⟨z_7, K⟩ := K
      refine Z.iadd dX12_endOf_32 z_7 ?_
      refine Z.istore_n (ls' := [(3, zI ((v3 + ((E 53 (E a1 v4)) - 1)))), (0, zR 50), (1, zR a1), (4, zI v4)]) dX12_endOf_33 (by decide) rfl ?_
      obtain ⟨z_8, K⟩ := K
      refine Z.iinc (k := 3) (ls' := [(4, zI ((v4 + 1))), (3, zI ((v3 + ((E 53 (E a1 v4)) - 1)))), (0, zR 50), (1, zR a1)]) dX12_endOf_34 rfl (by decide) z_8 rfl ?_
      refine Z.goto 5 dX12_endOf_37 rfl ?_
      refine Z.pick (ls' := [(0, zR 50), (1, zR a1), (3, zI ((v3 + ((E 53 (E a1 v4)) - 1)))), (4, zI ((v4 + 1)))]) [2, 3, 1, 0] rfl ?_
      exact K
    · replace K := K.2 c_3
      refine Z.iconst (n := -1) dX12_endOf_17 ⟨by decide, by decide⟩ ?_
      refine Z.goto 32 dX12_endOf_18 rfl ?_
      obtain ⟨z_9, K⟩ := K
      refine Z.iadd dX12_endOf_32 z_9 ?_
      refine Z.istore_n (ls' := [(3, zI ((v3 + (-1)))), (0, zR 50), (1, zR a1), (4, zI v4)]) dX12_endOf_33 (by decide) rfl ?_
      obtain ⟨z_10, K⟩ := K
      refine Z.iinc (k := 3) (ls' := [(4, zI ((v4 + 1))), (3, zI ((v3 + (-1)))), (0, zR 50), (1, zR a1)]) dX12_endOf_34 rfl (by decide) z_10 rfl ?_
      refine Z.goto 5 dX12_endOf_37 rfl ?_
      refine Z.pick (ls' := [(0, zR 50), (1, zR a1), (3, zI ((v3 + (-1)))), (4, zI ((v4 + 1)))]) [2, 3, 1, 0] rfl ?_
      exact K
set_option maxRecDepth 20000 in
theorem X12_weightOf_0 {kz : Nat × Nat} {Q : Option zV → zH → Prop} {d : List Nat} {G : Nat → Int → Option Nat} {E : Nat → Int → Int} {a1 n1 : Nat} {v2 : Int} {v3 : Int} (hM : zK zMt d G) (ha1 : a1 ∈ d) (hk1 : zkd a1 = (0, n1)) (K : Z zm_X12_weightOf kz Q 6 [(0, zR 50), (1, zR a1), (3, zI v3), (4, zI 0), (5, zI v2)] [] (d, G, E)) : Z zm_X12_weightOf kz Q 0 [(0, zR 50), (1, zR a1), (2, zI v2), (3, zI v3)] [] (d, G, E) := by
  refine Z.iconst (n := 0) dX12_weightOf_0 ⟨by decide, by decide⟩ ?_
  refine Z.istore (ls' := [(4, zI 0), (0, zR 50), (1, zR a1), (2, zI v2), (3, zI v3)]) dX12_weightOf_1 (by decide) rfl ?_
  refine Z.iload_n (k := 3) dX12_weightOf_3 rfl ?_
  refine Z.istore (ls' := [(5, zI v2), (4, zI 0), (0, zR 50), (1, zR a1), (2, zI v2), (3, zI v3)]) dX12_weightOf_4 (by decide) rfl ?_
  refine Z.pick (ls' := [(0, zR 50), (1, zR a1), (3, zI v3), (4, zI 0), (5, zI v2)]) [2, 3, 5, 1, 0] rfl ?_
  exact K
set_option maxRecDepth 20000 in
theorem X12_weightOf_6 {kz : Nat × Nat} {Q : Option zV → zH → Prop} {d : List Nat} {G : Nat → Int → Option Nat} {E : Nat → Int → Int} {a1 n1 : Nat} {v3 : Int} {v4 : Int} {v5 : Int} (hM : zK zMt d G) (ha1 : a1 ∈ d) (hk1 : zkd a1 = (0, n1)) (K : (v3 ≤ v5 → Q (some (zI v4)) (d, G, E)) ∧ (¬ (v3 ≤ v5) → ((0 : Int) ≤ v5 ∧ v5 < (n1 : Int)) ∧ (0 ≤ (E a1 v5) → ((0 : Int) ≤ v5 ∧ v5 < (n1 : Int)) ∧ ((0 : Int) ≤ (E a1 v5) ∧ (E a1 v5) < (16 : Int)) ∧ zin (v4 + (E 54 (E a1 v5))) ∧ zin (v5 + 1) ∧ Z zm_X12_weightOf kz Q 6 [(0, zR 50), (1, zR a1), (3, zI v3), (4, zI ((v4 + (E 54 (E a1 v5))))), (5, zI ((v5 + 1)))] [] (d, G, E)) ∧ (¬ (0 ≤ (E a1 v5)) → zin (v4 + 1) ∧ zin (v5 + 1) ∧ Z zm_X12_weightOf kz Q 6 [(0, zR 50), (1, zR a1), (3, zI v3), (4, zI ((v4 + 1))), (5, zI ((v5 + 1)))] [] (d, G, E)))) : Z zm_X12_weightOf kz Q 6 [(0, zR 50), (1, zR a1), (3, zI v3), (4, zI v4), (5, zI v5)] [] (d, G, E) := by
  refine Z.iload (k := 4) dX12_weightOf_6 rfl ?_
  refine Z.iload_n (k := 2) dX12_weightOf_8 rfl ?_
  refine Z.icmp_ge 43 dX12_weightOf_9 rfl ⟨fun c_1 => ?_, fun c_1 => ?_⟩
  · replace K := K.1 c_1
    refine Z.iload (k := 3) dX12_weightOf_43 rfl ?_
    exact Z.iret (ty := .int) dX12_weightOf_45 rfl rfl K
  · replace K := K.2 c_1
    refine Z.iload (k := 3) dX12_weightOf_12 rfl ?_
    refine Z.aload_n (k := 1) dX12_weightOf_14 rfl ?_
    refine Z.iload (k := 4) dX12_weightOf_15 rfl ?_
    obtain ⟨z_2, K⟩ := K
    refine Y.iald dX12_weightOf_17 (hk1) (ha1) z_2 ?_
    refine Z.if_ge 25 dX12_weightOf_18 rfl ⟨fun c_3 => ?_, fun c_3 => ?_⟩
    · replace K := K.1 c_3
      refine Z.aload_n (k := 0) dX12_weightOf_25 rfl ?_
      refine Y.getR (o := some 54) 3 dX12_weightOf_26 zl_X12_21 (rfl) (by decide) rfl (zM_1 hM).2.1 (zM_3 hM).1 ?_
      refine Z.aload_n (k := 1) dX12_weightOf_29 rfl ?_
      refine Z.iload (k := 4) dX12_weightOf_30 rfl ?_
      obtain ⟨z_4, K⟩ := K
      refine Y.iald dX12_weightOf_32 (hk1) (ha1) z_4 ?_
      obtain ⟨z_5, K⟩ := K
      refine Y.iald dX12_weightOf_33 (rfl) ((zM_3 hM).2.2) z_5 ?_
      obtain ⟨z_6, K⟩ := K
      refine Z.iadd dX12_weightOf_34 z_6 ?_
      refine Z.istore (ls' := [(4, zI ((v4 + (E 54 (E a1 v5))))), (0, zR 50), (1, zR a1), (3, zI v3), (5, zI v5)]) dX12_weightOf_35 (by decide) rfl ?_
      obtain ⟨z_7, K⟩ := K
      refine Z.iinc (k := 4) (ls' := [(5, zI ((v5 + 1))), (4, zI ((v4 + (E 54 (E a1 v5))))), (0, zR 50), (1, zR a1), (3, zI v3)]) dX12_weightOf_37 rfl (by decide) z_7 rfl ?_
      refine Z.goto 6 dX12_weightOf_40 rfl ?_
      refine Z.pick (ls' := [(0, zR 50), (1, zR a1), (3, zI v3), (4, zI ((v4 + (E 54 (E a1 v5))))), (5, zI ((v5 + 1)))]) [2, 3, 4, 1, 0] rfl ?_
      exact K
    · replace K := K.2 c_3
      refine Z.iconst (n := 1) dX12_weightOf_21 ⟨by decide, by decide⟩ ?_
      refine Z.goto 34 dX12_weightOf_22 rfl ?_
      obtain ⟨z_8, K⟩ := K
      refine Z.iadd dX12_weightOf_34 z_8 ?_
      refine Z.istore (ls' := [(4, zI ((v4 + 1))), (0, zR 50), (1, zR a1), (3, zI v3), (5, zI v5)]) dX12_weightOf_35 (by decide) rfl ?_
      obtain ⟨z_9, K⟩ := K
      refine Z.iinc (k := 4) (ls' := [(5, zI ((v5 + 1))), (4, zI ((v4 + 1))), (0, zR 50), (1, zR a1), (3, zI v3)]) dX12_weightOf_37 rfl (by decide) z_9 rfl ?_
      refine Z.goto 6 dX12_weightOf_40 rfl ?_
      refine Z.pick (ls' := [(0, zR 50), (1, zR a1), (3, zI v3), (4, zI ((v4 + 1))), (5, zI ((v5 + 1)))]) [2, 3, 4, 1, 0] rfl ?_
      exact K
set_option maxRecDepth 20000 in
theorem X12_isLike_0 {kz : Nat × Nat} {Q : Option zV → zH → Prop} {d : List Nat} {G : Nat → Int → Option Nat} {E : Nat → Int → Int} {a0 n0 : Nat} {v1 : Int} {a2 n2 : Nat} {v3 : Int} {v4 : Int} (hM : zK zMt d G) (ha0 : a0 ∈ d) (hk0 : zkd a0 = (0, n0)) (ha2 : a2 ∈ d) (hk2 : zkd a2 = (0, n2)) (K : Z zm_X12_isLike kz Q 3 [(0, zR a0), (1, zI v1), (2, zR a2), (3, zI v3), (4, zI v4), (5, zI 0)] [] (d, G, E)) : Z zm_X12_isLike kz Q 0 [(0, zR a0), (1, zI v1), (2, zR a2), (3, zI v3), (4, zI v4)] [] (d, G, E) := by
  refine Z.iconst (n := 0) dX12_isLike_0 ⟨by decide, by decide⟩ ?_
  refine Z.istore (ls' := [(5, zI 0), (0, zR a0), (1, zI v1), (2, zR a2), (3, zI v3), (4, zI v4)]) dX12_isLike_1 (by decide) rfl ?_
  refine Z.pick (ls' := [(0, zR a0), (1, zI v1), (2, zR a2), (3, zI v3), (4, zI v4), (5, zI 0)]) [1, 2, 3, 4, 5, 0] rfl ?_
  exact K
set_option maxRecDepth 20000 in
theorem X12_isLike_3 {kz : Nat × Nat} {Q : Option zV → zH → Prop} {d : List Nat} {G : Nat → Int → Option Nat} {E : Nat → Int → Int} {a0 n0 : Nat} {v1 : Int} {a2 n2 : Nat} {v3 : Int} {v4 : Int} {v5 : Int} (hM : zK zMt d G) (ha0 : a0 ∈ d) (hk0 : zkd a0 = (0, n0)) (ha2 : a2 ∈ d) (hk2 : zkd a2 = (0, n2)) (K : (v4 ≤ v5 → Q (some (zI 1)) (d, G, E)) ∧ (¬ (v4 ≤ v5) → zin (v1 + v5) ∧ ((0 : Int) ≤ (v1 + v5) ∧ (v1 + v5) < (n0 : Int)) ∧ zin (v3 + v5) ∧ ((0 : Int) ≤ (v3 + v5) ∧ (v3 + v5) < (n2 : Int)) ∧ ((E a0 (v1 + v5)) = (E a2 (v3 + v5)) → zin (v5 + 1) ∧ Z zm_X12_isLike kz Q 3 [(0, zR a0), (1, zI v1), (2, zR a2), (3, zI v3), (4, zI v4), (5, zI ((v5 + 1)))] [] (d, G, E)) ∧ (¬ ((E a0 (v1 + v5)) = (E a2 (v3 + v5))) → Q (some (zI 0)) (d, G, E)))) : Z zm_X12_isLike kz Q 3 [(0, zR a0), (1, zI v1), (2, zR a2), (3, zI v3), (4, zI v4), (5, zI v5)] [] (d, G, E) := by
  refine Z.iload (k := 5) dX12_isLike_3 rfl ?_
  refine Z.iload (k := 4) dX12_isLike_5 rfl ?_
  refine Z.icmp_ge 33 dX12_isLike_7 rfl ⟨fun c_1 => ?_, fun c_1 => ?_⟩
  · replace K := K.1 c_1
    refine Z.iconst (n := 1) dX12_isLike_33 ⟨by decide, by decide⟩ ?_
    exact Z.iret (ty := .boolean) dX12_isLike_34 rfl rfl K
  · replace K := K.2 c_1
    refine Z.aload_n (k := 0) dX12_isLike_10 rfl ?_
    refine Z.iload_n (k := 1) dX12_isLike_11 rfl ?_
    refine Z.iload (k := 5) dX12_isLike_12 rfl ?_
    obtain ⟨z_2, K⟩ := K
    refine Z.iadd dX12_isLike_14 z_2 ?_
    obtain ⟨z_3, K⟩ := K
    refine Y.iald dX12_isLike_15 (hk0) (ha0) z_3 ?_
    refine Z.aload_n (k := 2) dX12_isLike_16 rfl ?_
    refine Z.iload_n (k := 3) dX12_isLike_17 rfl ?_
    refine Z.iload (k := 5) dX12_isLike_18 rfl ?_
    obtain ⟨z_4, K⟩ := K
    refine Z.iadd dX12_isLike_20 z_4 ?_
    obtain ⟨z_5, K⟩ := K
    refine Y.iald dX12_isLike_21 (hk2) (ha2) z_5 ?_
    refine Z.icmp_eq 27 dX12_isLike_22 rfl ⟨fun c_6 => ?_, fun c_6 => ?_⟩
    · replace K := K.1 c_6
      obtain ⟨z_7, K⟩ := K
      refine Z.iinc (k := 5) (ls' := [(5, zI ((v5 + 1))), (0, zR a0), (1, zI v1), (2, zR a2), (3, zI v3), (4, zI v4)]) dX12_isLike_27 rfl (by decide) z_7 rfl ?_
      refine Z.goto 3 dX12_isLike_30 rfl ?_
      refine Z.pick (ls' := [(0, zR a0), (1, zI v1), (2, zR a2), (3, zI v3), (4, zI v4), (5, zI ((v5 + 1)))]) [1, 2, 3, 4, 5, 0] rfl ?_
      exact K
    · replace K := K.2 c_6
      refine Z.iconst (n := 0) dX12_isLike_25 ⟨by decide, by decide⟩ ?_
      exact Z.iret (ty := .boolean) dX12_isLike_26 rfl rfl K
set_option maxRecDepth 20000 in
theorem X12_areLike_0 {kz : Nat × Nat} {Q : Option zV → zH → Prop} {d : List Nat} {G : Nat → Int → Option Nat} {E : Nat → Int → Int} {a1 n1 : Nat} {v2 : Int} {a3 n3 : Nat} {v4 : Int} (hM : zK zMt d G) (ha1 : a1 ∈ d) (hk1 : zkd a1 = (0, n1)) (ha3 : a3 ∈ d) (hk3 : zkd a3 = (0, n3)) (K : ∃ x_1, zM zm_X12_endOf [zR 50, zR a1, zI v2] (d, G, E) (some (zI x_1)) (d, G, E) ∧ zin (x_1 - v2) ∧ ∃ x_5, zM zm_X12_endOf [zR 50, zR a3, zI v4] (d, G, E) (some (zI x_5)) (d, G, E) ∧ zin (x_5 - v4) ∧ ((x_5 - v4) ≠ (x_1 - v2) → Q (some (zI 0)) (d, G, E)) ∧ (¬ ((x_5 - v4) ≠ (x_1 - v2)) → ∃ x_10, zM zm_X12_isLike [zR a1, zI v2, zR a3, zI v4, zI ((x_1 - v2))] (d, G, E) (some (zI x_10)) (d, G, E) ∧ (x_10 = 0 → Q (some (zI 0)) (d, G, E)) ∧ (¬ (x_10 = 0) → Q (some (zI 1)) (d, G, E)))) : Z zm_X12_areLike kz Q 0 [(0, zR 50), (1, zR a1), (2, zI v2), (3, zR a3), (4, zI v4)] [] (d, G, E) := by
  refine Z.aload_n (k := 0) dX12_areLike_0 rfl ?_
  refine Z.aload_n (k := 1) dX12_areLike_1 rfl ?_
  refine Z.iload_n (k := 2) dX12_areLike_2 rfl ?_
  obtain ⟨x_1, m_2, K⟩ := K
  refine Y.callV (g := zm_X12_endOf) (vs := [zR a1, zI v2]) (st := []) dX12_areLike_3 ⟨zg_X12_endOf.1, zg_X12_endOf.2.1, zg_X12_endOf.2.2, by decide⟩ ⟨zk_X12_148, zv_X12_endOf⟩ (ci := 12) (rfl) rfl ((zM_1 hM).2.1) rfl rfl (Nat.le_of_ble_eq_true rfl) m_2 (Or.inl rfl) ?_
  show Z zm_X12_areLike kz Q 6 [(0, zR 50), (1, zR a1), (2, zI v2), (3, zR a3), (4, zI v4)] [zI x_1] (d, G, E)
  refine Z.iload_n (k := 2) dX12_areLike_6 rfl ?_
  obtain ⟨z_4, K⟩ := K
  refine Z.isub dX12_areLike_7 z_4 ?_
  refine Z.istore (ls' := [(5, zI ((x_1 - v2))), (0, zR 50), (1, zR a1), (2, zI v2), (3, zR a3), (4, zI v4)]) dX12_areLike_8 (by decide) rfl ?_
  refine Z.aload_n (k := 1) dX12_areLike_10 rfl ?_
  refine Z.aload_n (k := 4) dX12_areLike_11 rfl ?_
  refine Z.iload (k := 5) dX12_areLike_12 rfl ?_
  obtain ⟨x_5, m_6, K⟩ := K
  refine Y.callV (g := zm_X12_endOf) (vs := [zR a3, zI v4]) (st := []) dX12_areLike_14 ⟨zg_X12_endOf.1, zg_X12_endOf.2.1, zg_X12_endOf.2.2, by decide⟩ ⟨zk_X12_148, zv_X12_endOf⟩ (ci := 12) (rfl) rfl ((zM_1 hM).2.1) rfl rfl (Nat.le_of_ble_eq_true rfl) m_6 (Or.inl rfl) ?_
  show Z zm_X12_areLike kz Q 17 [(5, zI ((x_1 - v2))), (0, zR 50), (1, zR a1), (2, zI v2), (3, zR a3), (4, zI v4)] [zI x_5] (d, G, E)
  refine Z.iload (k := 5) dX12_areLike_17 rfl ?_
  obtain ⟨z_8, K⟩ := K
  refine Z.isub dX12_areLike_19 z_8 ?_
  refine Z.iload (k := 0) dX12_areLike_20 rfl ?_
  refine Z.icmp_ne 42 dX12_areLike_22 rfl ⟨fun c_9 => ?_, fun c_9 => ?_⟩
  · replace K := K.1 c_9
    refine Z.iconst (n := 0) dX12_areLike_42 ⟨by decide, by decide⟩ ?_
    exact Z.iret (ty := .boolean) dX12_areLike_43 rfl rfl K
  · replace K := K.2 c_9
    refine Z.aload_n (k := 2) dX12_areLike_25 rfl ?_
    refine Z.iload_n (k := 3) dX12_areLike_26 rfl ?_
    refine Z.aload_n (k := 4) dX12_areLike_27 rfl ?_
    refine Z.iload (k := 5) dX12_areLike_28 rfl ?_
    refine Z.iload (k := 0) dX12_areLike_30 rfl ?_
    obtain ⟨x_10, m_11, K⟩ := K
    refine Y.callS (g := zm_X12_isLike) (vs := [zR a1, zI v2, zR a3, zI v4, zI ((x_1 - v2))]) (st := []) dX12_areLike_32 ⟨zg_X12_isLike.1, zg_X12_isLike.2.1, zg_X12_isLike.2.2, by decide⟩ ⟨Or.inl zk_X12_152, zs_X12_isLike⟩ rfl rfl (Nat.le_of_ble_eq_true rfl) m_11 (Or.inl rfl) ?_
    show Z zm_X12_areLike kz Q 35 [(5, zI ((x_1 - v2))), (0, zR 50), (1, zR a1), (2, zI v2), (3, zR a3), (4, zI v4)] [zI x_10] (d, G, E)
    refine Z.if_eq 42 dX12_areLike_35 rfl ⟨fun c_13 => ?_, fun c_13 => ?_⟩
    · replace K := K.1 c_13
      refine Z.iconst (n := 0) dX12_areLike_42 ⟨by decide, by decide⟩ ?_
      exact Z.iret (ty := .boolean) dX12_areLike_43 rfl rfl K
    · replace K := K.2 c_13
      refine Z.iconst (n := 1) dX12_areLike_38 ⟨by decide, by decide⟩ ?_
      refine Z.goto 43 dX12_areLike_39 rfl ?_
      exact Z.iret (ty := .boolean) dX12_areLike_43 rfl rfl K
set_option maxRecDepth 20000 in
theorem X12_hasLetters_0 {kz : Nat × Nat} {Q : Option zV → zH → Prop} {d : List Nat} {G : Nat → Int → Option Nat} {E : Nat → Int → Int} {a1 n1 : Nat} {v2 : Int} {a3 n3 : Nat} {v4 : Int} (hM : zK zMt d G) (ha1 : a1 ∈ d) (hk1 : zkd a1 = (0, n1)) (ha3 : a3 ∈ d) (hk3 : zkd a3 = (0, n3)) (K : Z zm_X12_hasLetters kz Q 3 [(0, zR 50), (1, zR a1), (2, zI v2), (3, zR a3), (4, zI v4), (5, zI 0)] [] (d, G, E)) : Z zm_X12_hasLetters kz Q 0 [(0, zR 50), (1, zR a1), (2, zI v2), (3, zR a3), (4, zI v4)] [] (d, G, E) := by
  refine Z.iconst (n := 0) dX12_hasLetters_0 ⟨by decide, by decide⟩ ?_
  refine Z.istore (ls' := [(5, zI 0), (0, zR 50), (1, zR a1), (2, zI v2), (3, zR a3), (4, zI v4)]) dX12_hasLetters_1 (by decide) rfl ?_
  refine Z.pick (ls' := [(0, zR 50), (1, zR a1), (2, zI v2), (3, zR a3), (4, zI v4), (5, zI 0)]) [1, 2, 3, 4, 5, 0] rfl ?_
  exact K
set_option maxRecDepth 20000 in
theorem X12_hasLetters_3 {kz : Nat × Nat} {Q : Option zV → zH → Prop} {d : List Nat} {G : Nat → Int → Option Nat} {E : Nat → Int → Int} {a1 n1 : Nat} {v2 : Int} {a3 n3 : Nat} {v4 : Int} {v5 : Int} (hM : zK zMt d G) (ha1 : a1 ∈ d) (hk1 : zkd a1 = (0, n1)) (ha3 : a3 ∈ d) (hk3 : zkd a3 = (0, n3)) (K : (40 ≤ v5 → ∃ x_2, zM zm_X12_endOf [zR 50, zR a1, zI v2] (d, G, E) (some (zI x_2)) (d, G, E) ∧ zin (x_2 - 1) ∧ Z zm_X12_hasLetters kz Q 34 [(0, zR 50), (1, zR a1), (2, zI v2), (3, zR a3), (4, zI v4), (5, zI ((x_2 - 1)))] [] (d, G, E)) ∧ (¬ (40 ≤ v5) → ((0 : Int) ≤ v5 ∧ v5 < (40 : Int)) ∧ ∀ E_7, E_7 = zuE E 76 v5 0 → zin (v5 + 1) ∧ Z zm_X12_hasLetters kz Q 3 [(0, zR 50), (1, zR a1), (2, zI v2), (3, zR a3), (4, zI v4), (5, zI ((v5 + 1)))] [] (d, G, E_7))) : Z zm_X12_hasLetters kz Q 3 [(0, zR 50), (1, zR a1), (2, zI v2), (3, zR a3), (4, zI v4), (5, zI v5)] [] (d, G, E) := by
  refine Z.iload (k := 5) dX12_hasLetters_3 rfl ?_
  refine Z.bipush (n := 40) dX12_hasLetters_5 ⟨by decide, by decide⟩ (by decide) ?_
  refine Z.icmp_ge 24 dX12_hasLetters_7 rfl ⟨fun c_1 => ?_, fun c_1 => ?_⟩
  · replace K := K.1 c_1
    refine Z.aload_n (k := 0) dX12_hasLetters_24 rfl ?_
    refine Z.aload_n (k := 1) dX12_hasLetters_25 rfl ?_
    refine Z.iload_n (k := 2) dX12_hasLetters_26 rfl ?_
    obtain ⟨x_2, m_3, K⟩ := K
    refine Y.callV (g := zm_X12_endOf) (vs := [zR a1, zI v2]) (st := []) dX12_hasLetters_27 ⟨zg_X12_endOf.1, zg_X12_endOf.2.1, zg_X12_endOf.2.2, by decide⟩ ⟨zk_X12_148, zv_X12_endOf⟩ (ci := 12) (rfl) rfl ((zM_1 hM).2.1) rfl rfl (Nat.le_of_ble_eq_true rfl) m_3 (Or.inl rfl) ?_
    show Z zm_X12_hasLetters kz Q 30 [(0, zR 50), (1, zR a1), (2, zI v2), (3, zR a3), (4, zI v4), (5, zI v5)] [zI x_2] (d, G, E)
    refine Z.iconst (n := 1) dX12_hasLetters_30 ⟨by decide, by decide⟩ ?_
    obtain ⟨z_5, K⟩ := K
    refine Z.isub dX12_hasLetters_31 z_5 ?_
    refine Z.istore (ls' := [(5, zI ((x_2 - 1))), (0, zR 50), (1, zR a1), (2, zI v2), (3, zR a3), (4, zI v4)]) dX12_hasLetters_32 (by decide) rfl ?_
    refine Z.pick (ls' := [(0, zR 50), (1, zR a1), (2, zI v2), (3, zR a3), (4, zI v4), (5, zI ((x_2 - 1)))]) [1, 2, 3, 4, 5, 0] rfl ?_
    exact K
  · replace K := K.2 c_1
    refine Z.aload_n (k := 0) dX12_hasLetters_10 rfl ?_
    refine Y.getR (o := some 76) 25 dX12_hasLetters_11 zl_X12_78 (rfl) (by decide) rfl (zM_1 hM).2.1 (zM_25 hM).1 ?_
    refine Z.iload (k := 5) dX12_hasLetters_14 rfl ?_
    refine Z.iconst (n := 0) dX12_hasLetters_16 ⟨by decide, by decide⟩ ?_
    obtain ⟨z_6, K⟩ := K
    refine Y.iast dX12_hasLetters_17 (rfl) ((zM_25 hM).2.2) z_6 ?_
    generalize eE_7 : zuE E 76 v5 0 = E_7
    replace K := K E_7 eE_7.symm
    obtain ⟨z_8, K⟩ := K
    refine Z.iinc (k := 5) (ls' := [(5, zI ((v5 + 1))), (0, zR 50), (1, zR a1), (2, zI v2), (3, zR a3), (4, zI v4)]) dX12_hasLetters_18 rfl (by decide) z_8 rfl ?_
    refine Z.goto 3 dX12_hasLetters_21 rfl ?_
    refine Z.pick (ls' := [(0, zR 50), (1, zR a1), (2, zI v2), (3, zR a3), (4, zI v4), (5, zI ((v5 + 1)))]) [1, 2, 3, 4, 5, 0] rfl ?_
    exact K
set_option maxRecDepth 20000 in
theorem X12_hasLetters_34 {kz : Nat × Nat} {Q : Option zV → zH → Prop} {d : List Nat} {G : Nat → Int → Option Nat} {E : Nat → Int → Int} {a1 n1 : Nat} {v2 : Int} {a3 n3 : Nat} {v4 : Int} {v5 : Int} (hM : zK zMt d G) (ha1 : a1 ∈ d) (hk1 : zkd a1 = (0, n1)) (ha3 : a3 ∈ d) (hk3 : zkd a3 = (0, n3)) (K : (v5 < v2 → ∃ x_2, zM zm_X12_endOf [zR 50, zR a3, zI v4] (d, G, E) (some (zI x_2)) (d, G, E) ∧ zin (x_2 - 1) ∧ Z zm_X12_hasLetters kz Q 79 [(0, zR 50), (3, zR a3), (4, zI v4), (5, zI ((x_2 - 1)))] [] (d, G, E)) ∧ (¬ (v5 < v2) → ((0 : Int) ≤ v5 ∧ v5 < (n1 : Int)) ∧ (0 ≤ (E a1 v5) → zin (v5 + (-1)) ∧ Z zm_X12_hasLetters kz Q 34 [(0, zR 50), (1, zR a1), (2, zI v2), (3, zR a3), (4, zI v4), (5, zI ((v5 + (-1))))] [] (d, G, E)) ∧ (¬ (0 ≤ (E a1 v5)) → ((0 : Int) ≤ v5 ∧ v5 < (n1 : Int)) ∧ zin ((-1) - (E a1 v5)) ∧ ((0 : Int) ≤ ((-1) - (E a1 v5)) ∧ ((-1) - (E a1 v5)) < (40 : Int)) ∧ zin ((E 76 ((-1) - (E a1 v5))) + 1) ∧ ((0 : Int) ≤ ((-1) - (E a1 v5)) ∧ ((-1) - (E a1 v5)) < (40 : Int)) ∧ ∀ E_14, E_14 = zuE E 76 (((-1) - (E a1 v5))) (((E 76 ((-1) - (E a1 v5))) + 1)) → zin (v5 + (-1)) ∧ Z zm_X12_hasLetters kz Q 34 [(0, zR 50), (1, zR a1), (2, zI v2), (3, zR a3), (4, zI v4), (5, zI ((v5 + (-1))))] [] (d, G, E_14)))) : Z zm_X12_hasLetters kz Q 34 [(0, zR 50), (1, zR a1), (2, zI v2), (3, zR a3), (4, zI v4), (5, zI v5)] [] (d, G, E) := by
  refine Z.iload (k := 5) dX12_hasLetters_34 rfl ?_
  refine Z.iload_n (k := 2) dX12_hasLetters_36 rfl ?_
  refine Z.icmp_lt 68 dX12_hasLetters_37 rfl ⟨fun c_1 => ?_, fun c_1 => ?_⟩
  · replace K := K.1 c_1
    refine Z.aload_n (k := 0) dX12_hasLetters_68 rfl ?_
    refine Z.aload_n (k := 3) dX12_hasLetters_69 rfl ?_
    refine Z.iload (k := 4) dX12_hasLetters_70 rfl ?_
    obtain ⟨x_2, m_3, K⟩ := K
    refine Y.callV (g := zm_X12_endOf) (vs := [zR a3, zI v4]) (st := []) dX12_hasLetters_72 ⟨zg_X12_endOf.1, zg_X12_endOf.2.1, zg_X12_endOf.2.2, by decide⟩ ⟨zk_X12_148, zv_X12_endOf⟩ (ci := 12) (rfl) rfl ((zM_1 hM).2.1) rfl rfl (Nat.le_of_ble_eq_true rfl) m_3 (Or.inl rfl) ?_
    show Z zm_X12_hasLetters kz Q 75 [(0, zR 50), (1, zR a1), (2, zI v2), (3, zR a3), (4, zI v4), (5, zI v5)] [zI x_2] (d, G, E)
    refine Z.iconst (n := 1) dX12_hasLetters_75 ⟨by decide, by decide⟩ ?_
    obtain ⟨z_5, K⟩ := K
    refine Z.isub dX12_hasLetters_76 z_5 ?_
    refine Z.istore (ls' := [(5, zI ((x_2 - 1))), (0, zR 50), (1, zR a1), (2, zI v2), (3, zR a3), (4, zI v4)]) dX12_hasLetters_77 (by decide) rfl ?_
    refine Z.pick (ls' := [(0, zR 50), (3, zR a3), (4, zI v4), (5, zI ((x_2 - 1)))]) [1, 4, 5, 0] rfl ?_
    exact K
  · replace K := K.2 c_1
    refine Z.aload_n (k := 1) dX12_hasLetters_40 rfl ?_
    refine Z.iload (k := 5) dX12_hasLetters_41 rfl ?_
    obtain ⟨z_6, K⟩ := K
    refine Y.iald dX12_hasLetters_43 (hk1) (ha1) z_6 ?_
    refine Z.if_ge 62 dX12_hasLetters_44 rfl ⟨fun c_7 => ?_, fun c_7 => ?_⟩
    · replace K := K.1 c_7
      obtain ⟨z_8, K⟩ := K
      refine Z.iinc (k := 5) (ls' := [(5, zI ((v5 + (-1)))), (0, zR 50), (1, zR a1), (2, zI v2), (3, zR a3), (4, zI v4)]) dX12_hasLetters_62 rfl (by decide) z_8 rfl ?_
      refine Z.goto 34 dX12_hasLetters_65 rfl ?_
      refine Z.pick (ls' := [(0, zR 50), (1, zR a1), (2, zI v2), (3, zR a3), (4, zI v4), (5, zI ((v5 + (-1))))]) [1, 2, 3, 4, 5, 0] rfl ?_
      exact K
    · replace K := K.2 c_7
      refine Z.aload_n (k := 0) dX12_hasLetters_47 rfl ?_
      refine Y.getR (o := some 76) 25 dX12_hasLetters_48 zl_X12_78 (rfl) (by decide) rfl (zM_1 hM).2.1 (zM_25 hM).1 ?_
      refine Z.iconst (n := -1) dX12_hasLetters_51 ⟨by decide, by decide⟩ ?_
      refine Z.aload_n (k := 1) dX12_hasLetters_52 rfl ?_
      refine Z.iload (k := 5) dX12_hasLetters_53 rfl ?_
      obtain ⟨z_9, K⟩ := K
      refine Y.iald dX12_hasLetters_55 (hk1) (ha1) z_9 ?_
      obtain ⟨z_10, K⟩ := K
      refine Z.isub dX12_hasLetters_56 z_10 ?_
      refine Z.dup2_i dX12_hasLetters_57 (fun _ => rfl) (fun _ => rfl) ?_
      obtain ⟨z_11, K⟩ := K
      refine Y.iald dX12_hasLetters_58 (rfl) ((zM_25 hM).2.2) z_11 ?_
      refine Z.iconst (n := 1) dX12_hasLetters_59 ⟨by decide, by decide⟩ ?_
      obtain ⟨z_12, K⟩ := K
      refine Z.iadd dX12_hasLetters_60 z_12 ?_
      obtain ⟨z_13, K⟩ := K
      refine Y.iast dX12_hasLetters_61 (rfl) ((zM_25 hM).2.2) z_13 ?_
      generalize eE_14 : zuE E 76 (((-1) - (E a1 v5))) (((E 76 ((-1) - (E a1 v5))) + 1)) = E_14
      replace K := K E_14 eE_14.symm
      obtain ⟨z_15, K⟩ := K
      refine Z.iinc (k := 5) (ls' := [(5, zI ((v5 + (-1)))), (0, zR 50), (1, zR a1), (2, zI v2), (3, zR a3), (4, zI v4)]) dX12_hasLetters_62 rfl (by decide) z_15 rfl ?_
      refine Z.goto 34 dX12_hasLetters_65 rfl ?_
      refine Z.pick (ls' := [(0, zR 50), (1, zR a1), (2, zI v2), (3, zR a3), (4, zI v4), (5, zI ((v5 + (-1))))]) [1, 2, 3, 4, 5, 0] rfl ?_
      exact K
set_option maxRecDepth 20000 in
theorem X12_hasLetters_79 {kz : Nat × Nat} {Q : Option zV → zH → Prop} {d : List Nat} {G : Nat → Int → Option Nat} {E : Nat → Int → Int} {a3 n3 : Nat} {v4 : Int} {v5 : Int} (hM : zK zMt d G) (ha3 : a3 ∈ d) (hk3 : zkd a3 = (0, n3)) (K : (v5 < v4 → Z zm_X12_hasLetters kz Q 117 [(0, zR 50), (5, zI 0)] [] (d, G, E)) ∧ (¬ (v5 < v4) → ((0 : Int) ≤ v5 ∧ v5 < (n3 : Int)) ∧ (0 ≤ (E a3 v5) → zin (v5 + (-1)) ∧ Z zm_X12_hasLetters kz Q 79 [(0, zR 50), (3, zR a3), (4, zI v4), (5, zI ((v5 + (-1))))] [] (d, G, E)) ∧ (¬ (0 ≤ (E a3 v5)) → ((0 : Int) ≤ v5 ∧ v5 < (n3 : Int)) ∧ zin ((-1) - (E a3 v5)) ∧ ((0 : Int) ≤ ((-1) - (E a3 v5)) ∧ ((-1) - (E a3 v5)) < (40 : Int)) ∧ zin ((E 76 ((-1) - (E a3 v5))) - 1) ∧ ((0 : Int) ≤ ((-1) - (E a3 v5)) ∧ ((-1) - (E a3 v5)) < (40 : Int)) ∧ ∀ E_10, E_10 = zuE E 76 (((-1) - (E a3 v5))) (((E 76 ((-1) - (E a3 v5))) - 1)) → zin (v5 + (-1)) ∧ Z zm_X12_hasLetters kz Q 79 [(0, zR 50), (3, zR a3), (4, zI v4), (5, zI ((v5 + (-1))))] [] (d, G, E_10)))) : Z zm_X12_hasLetters kz Q 79 [(0, zR 50), (3, zR a3), (4, zI v4), (5, zI v5)] [] (d, G, E) := by
  refine Z.iload (k := 3) dX12_hasLetters_79 rfl ?_
  refine Z.iload (k := 2) dX12_hasLetters_81 rfl ?_
  refine Z.icmp_lt 114 dX12_hasLetters_83 rfl ⟨fun c_1 => ?_, fun c_1 => ?_⟩
  · replace K := K.1 c_1
    refine Z.iconst (n := 0) dX12_hasLetters_114 ⟨by decide, by decide⟩ ?_
    refine Z.istore (ls' := [(5, zI 0), (0, zR 50), (3, zR a3), (4, zI v4)]) dX12_hasLetters_115 (by decide) rfl ?_
    refine Z.pick (ls' := [(0, zR 50), (5, zI 0)]) [1, 0] rfl ?_
    exact K
  · replace K := K.2 c_1
    refine Z.aload_n (k := 1) dX12_hasLetters_86 rfl ?_
    refine Z.iload (k := 3) dX12_hasLetters_87 rfl ?_
    obtain ⟨z_2, K⟩ := K
    refine Y.iald dX12_hasLetters_89 (hk3) (ha3) z_2 ?_
    refine Z.if_ge 108 dX12_hasLetters_90 rfl ⟨fun c_3 => ?_, fun c_3 => ?_⟩
    · replace K := K.1 c_3
      obtain ⟨z_4, K⟩ := K
      refine Z.iinc (k := 3) (ls' := [(5, zI ((v5 + (-1)))), (0, zR 50), (3, zR a3), (4, zI v4)]) dX12_hasLetters_108 rfl (by decide) z_4 rfl ?_
      refine Z.goto 79 dX12_hasLetters_111 rfl ?_
      refine Z.pick (ls' := [(0, zR 50), (3, zR a3), (4, zI v4), (5, zI ((v5 + (-1))))]) [1, 2, 3, 0] rfl ?_
      exact K
    · replace K := K.2 c_3
      refine Z.aload_n (k := 0) dX12_hasLetters_93 rfl ?_
      refine Y.getR (o := some 76) 25 dX12_hasLetters_94 zl_X12_78 (rfl) (by decide) rfl (zM_1 hM).2.1 (zM_25 hM).1 ?_
      refine Z.iconst (n := -1) dX12_hasLetters_97 ⟨by decide, by decide⟩ ?_
      refine Z.aload_n (k := 1) dX12_hasLetters_98 rfl ?_
      refine Z.iload (k := 3) dX12_hasLetters_99 rfl ?_
      obtain ⟨z_5, K⟩ := K
      refine Y.iald dX12_hasLetters_101 (hk3) (ha3) z_5 ?_
      obtain ⟨z_6, K⟩ := K
      refine Z.isub dX12_hasLetters_102 z_6 ?_
      refine Z.dup2_i dX12_hasLetters_103 (fun _ => rfl) (fun _ => rfl) ?_
      obtain ⟨z_7, K⟩ := K
      refine Y.iald dX12_hasLetters_104 (rfl) ((zM_25 hM).2.2) z_7 ?_
      refine Z.iconst (n := 1) dX12_hasLetters_105 ⟨by decide, by decide⟩ ?_
      obtain ⟨z_8, K⟩ := K
      refine Z.isub dX12_hasLetters_106 z_8 ?_
      obtain ⟨z_9, K⟩ := K
      refine Y.iast dX12_hasLetters_107 (rfl) ((zM_25 hM).2.2) z_9 ?_
      generalize eE_10 : zuE E 76 (((-1) - (E a3 v5))) (((E 76 ((-1) - (E a3 v5))) - 1)) = E_10
      replace K := K E_10 eE_10.symm
      obtain ⟨z_11, K⟩ := K
      refine Z.iinc (k := 3) (ls' := [(5, zI ((v5 + (-1)))), (0, zR 50), (3, zR a3), (4, zI v4)]) dX12_hasLetters_108 rfl (by decide) z_11 rfl ?_
      refine Z.goto 79 dX12_hasLetters_111 rfl ?_
      refine Z.pick (ls' := [(0, zR 50), (3, zR a3), (4, zI v4), (5, zI ((v5 + (-1))))]) [1, 2, 3, 0] rfl ?_
      exact K
set_option maxRecDepth 20000 in
theorem X12_hasLetters_117 {kz : Nat × Nat} {Q : Option zV → zH → Prop} {d : List Nat} {G : Nat → Int → Option Nat} {E : Nat → Int → Int} {v5 : Int} (hM : zK zMt d G) (K : (40 ≤ v5 → Q (some (zI 1)) (d, G, E)) ∧ (¬ (40 ≤ v5) → ((0 : Int) ≤ v5 ∧ v5 < (40 : Int)) ∧ (0 ≤ (E 76 v5) → zin (v5 + 1) ∧ Z zm_X12_hasLetters kz Q 117 [(0, zR 50), (5, zI ((v5 + 1)))] [] (d, G, E)) ∧ (¬ (0 ≤ (E 76 v5)) → Q (some (zI 0)) (d, G, E)))) : Z zm_X12_hasLetters kz Q 117 [(0, zR 50), (5, zI v5)] [] (d, G, E) := by
  refine Z.iload (k := 1) dX12_hasLetters_117 rfl ?_
  refine Z.bipush (n := 40) dX12_hasLetters_119 ⟨by decide, by decide⟩ (by decide) ?_
  refine Z.icmp_ge 142 dX12_hasLetters_121 rfl ⟨fun c_1 => ?_, fun c_1 => ?_⟩
  · replace K := K.1 c_1
    refine Z.iconst (n := 1) dX12_hasLetters_142 ⟨by decide, by decide⟩ ?_
    exact Z.iret (ty := .boolean) dX12_hasLetters_143 rfl rfl K
  · replace K := K.2 c_1
    refine Z.aload_n (k := 0) dX12_hasLetters_124 rfl ?_
    refine Y.getR (o := some 76) 25 dX12_hasLetters_125 zl_X12_78 (rfl) (by decide) rfl (zM_1 hM).2.1 (zM_25 hM).1 ?_
    refine Z.iload (k := 1) dX12_hasLetters_128 rfl ?_
    obtain ⟨z_2, K⟩ := K
    refine Y.iald dX12_hasLetters_130 (rfl) ((zM_25 hM).2.2) z_2 ?_
    refine Z.if_ge 136 dX12_hasLetters_131 rfl ⟨fun c_3 => ?_, fun c_3 => ?_⟩
    · replace K := K.1 c_3
      obtain ⟨z_4, K⟩ := K
      refine Z.iinc (k := 1) (ls' := [(5, zI ((v5 + 1))), (0, zR 50)]) dX12_hasLetters_136 rfl (by decide) z_4 rfl ?_
      refine Z.goto 117 dX12_hasLetters_139 rfl ?_
      refine Z.pick (ls' := [(0, zR 50), (5, zI ((v5 + 1)))]) [1, 0] rfl ?_
      exact K
    · replace K := K.2 c_3
      refine Z.iconst (n := 0) dX12_hasLetters_134 ⟨by decide, by decide⟩ ?_
      exact Z.iret (ty := .boolean) dX12_hasLetters_135 rfl rfl K
set_option maxRecDepth 20000 in
theorem X12_isGreater_0 {kz : Nat × Nat} {Q : Option zV → zH → Prop} {d : List Nat} {G : Nat → Int → Option Nat} {E : Nat → Int → Int} {a1 n1 : Nat} {v2 : Int} {a3 n3 : Nat} {v4 : Int} (hM : zK zMt d G) (ha1 : a1 ∈ d) (hk1 : zkd a1 = (0, n1)) (ha3 : a3 ∈ d) (hk3 : zkd a3 = (0, n3)) (K : Z zm_X12_isGreater kz Q 7 [(0, zR 50), (1, zR a1), (3, zR a3), (5, zI v2), (6, zI v4)] [] (d, G, E)) : Z zm_X12_isGreater kz Q 0 [(0, zR 50), (1, zR a1), (2, zI v2), (3, zR a3), (4, zI v4)] [] (d, G, E) := by
  refine Z.iload_n (k := 2) dX12_isGreater_0 rfl ?_
  refine Z.istore (ls' := [(5, zI v2), (0, zR 50), (1, zR a1), (2, zI v2), (3, zR a3), (4, zI v4)]) dX12_isGreater_1 (by decide) rfl ?_
  refine Z.iload (k := 5) dX12_isGreater_3 rfl ?_
  refine Z.istore (ls' := [(6, zI v4), (5, zI v2), (0, zR 50), (1, zR a1), (2, zI v2), (3, zR a3), (4, zI v4)]) dX12_isGreater_5 (by decide) rfl ?_
  refine Z.pick (ls' := [(0, zR 50), (1, zR a1), (3, zR a3), (5, zI v2), (6, zI v4)]) [2, 3, 5, 1, 0] rfl ?_
  exact K
set_option maxRecDepth 20000 in
theorem X12_isGreater_7 {kz : Nat × Nat} {Q : Option zV → zH → Prop} {d : List Nat} {G : Nat → Int → Option Nat} {E : Nat → Int → Int} {a1 n1 : Nat} {a3 n3 : Nat} {v5 : Int} {v6 : Int} (hM : zK zMt d G) (ha1 : a1 ∈ d) (hk1 : zkd a1 = (0, n1)) (ha3 : a3 ∈ d) (hk3 : zkd a3 = (0, n3)) (K : ∃ x_1 E_2, zM zm_X12_hasLetters [zR 50, zR a1, zI v5, zR a3, zI v6] (d, G, E) (some (zI x_1)) (d, G, E_2) ∧ (x_1 ≠ 0 → ∃ x_6, zM zm_X12_endOf [zR 50, zR a1, zI v5] (d, G, E_2) (some (zI x_6)) (d, G, E_2) ∧ ∃ x_9, zM zm_X12_weightOf [zR 50, zR a1, zI v5, zI x_6] (d, G, E_2) (some (zI x_9)) (d, G, E_2) ∧ ∃ x_12, zM zm_X12_endOf [zR 50, zR a3, zI v6] (d, G, E_2) (some (zI x_12)) (d, G, E_2) ∧ ∃ x_15, zM zm_X12_weightOf [zR 50, zR a3, zI v6, zI x_12] (d, G, E_2) (some (zI x_15)) (d, G, E_2) ∧ (x_9 = x_15 → ((0 : Int) ≤ v5 ∧ v5 < (n1 : Int)) ∧ ((E_2 a1 v5) < 0 → Q (some (zI 0)) (d, G, E_2)) ∧ (¬ ((E_2 a1 v5) < 0) → ((0 : Int) ≤ v6 ∧ v6 < (n3 : Int)) ∧ (0 ≤ (E_2 a3 v6) → ((0 : Int) ≤ v5 ∧ v5 < (n1 : Int)) ∧ ((0 : Int) ≤ v6 ∧ v6 < (n3 : Int)) ∧ ((E_2 a1 v5) = (E_2 a3 v6) → ((0 : Int) ≤ v5 ∧ v5 < (n1 : Int)) ∧ ((0 : Int) ≤ (E_2 a1 v5) ∧ (E_2 a1 v5) < (16 : Int)) ∧ zin (v5 + 1) ∧ zin (v6 + 1) ∧ Z zm_X12_isGreater kz Q 135 [(0, zR 50), (1, zR a1), (3, zR a3), (5, zI ((v5 + 1))), (6, zI ((v6 + 1))), (9, zI ((E_2 53 (E_2 a1 v5))))] [] (d, G, E_2)) ∧ (¬ ((E_2 a1 v5) = (E_2 a3 v6)) → ((0 : Int) ≤ v5 ∧ v5 < (n1 : Int)) ∧ ((0 : Int) ≤ v6 ∧ v6 < (n3 : Int)) ∧ ((E_2 a1 v5) ≤ (E_2 a3 v6) → Q (some (zI 0)) (d, G, E_2)) ∧ (¬ ((E_2 a1 v5) ≤ (E_2 a3 v6)) → Q (some (zI 1)) (d, G, E_2)))) ∧ (¬ (0 ≤ (E_2 a3 v6)) → Q (some (zI 0)) (d, G, E_2)))) ∧ (¬ (x_9 = x_15) → (x_9 ≤ x_15 → Q (some (zI 0)) (d, G, E_2)) ∧ (¬ (x_9 ≤ x_15) → Q (some (zI 1)) (d, G, E_2)))) ∧ (¬ (x_1 ≠ 0) → Q (some (zI 0)) (d, G, E_2))) : Z zm_X12_isGreater kz Q 7 [(0, zR 50), (1, zR a1), (3, zR a3), (5, zI v5), (6, zI v6)] [] (d, G, E) := by
  refine Z.aload_n (k := 0) dX12_isGreater_7 rfl ?_
  refine Z.aload_n (k := 1) dX12_isGreater_8 rfl ?_
  refine Z.iload (k := 3) dX12_isGreater_9 rfl ?_
  refine Z.aload_n (k := 2) dX12_isGreater_11 rfl ?_
  refine Z.iload (k := 4) dX12_isGreater_12 rfl ?_
  obtain ⟨x_1, E_2, m_3, K⟩ := K
  refine Y.callV (g := zm_X12_hasLetters) (vs := [zR a1, zI v5, zR a3, zI v6]) (st := []) dX12_isGreater_14 ⟨zg_X12_hasLetters.1, zg_X12_hasLetters.2.1, zg_X12_hasLetters.2.2, by decide⟩ ⟨zk_X12_156, zv_X12_hasLetters⟩ (ci := 12) (rfl) rfl ((zM_1 hM).2.1) rfl rfl (Nat.le_of_ble_eq_true rfl) m_3 (Or.inl rfl) ?_
  show Z zm_X12_isGreater kz Q 17 [(0, zR 50), (1, zR a1), (3, zR a3), (5, zI v5), (6, zI v6)] [zI x_1] (d, G, E_2)
  refine Z.if_ne 22 dX12_isGreater_17 rfl ⟨fun c_5 => ?_, fun c_5 => ?_⟩
  · replace K := K.1 c_5
    refine Z.aload_n (k := 0) dX12_isGreater_22 rfl ?_
    refine Z.aload_n (k := 1) dX12_isGreater_23 rfl ?_
    refine Z.iload (k := 3) dX12_isGreater_24 rfl ?_
    refine Z.aload_n (k := 0) dX12_isGreater_26 rfl ?_
    refine Z.aload_n (k := 1) dX12_isGreater_27 rfl ?_
    refine Z.iload (k := 3) dX12_isGreater_28 rfl ?_
    obtain ⟨x_6, m_7, K⟩ := K
    refine Y.callV (g := zm_X12_endOf) (vs := [zR a1, zI v5]) (st := [zI v5, zR a1, zR 50]) dX12_isGreater_30 ⟨zg_X12_endOf.1, zg_X12_endOf.2.1, zg_X12_endOf.2.2, by decide⟩ ⟨zk_X12_148, zv_X12_endOf⟩ (ci := 12) (rfl) rfl ((zM_1 hM).2.1) rfl rfl (Nat.le_of_ble_eq_true rfl) m_7 (Or.inl rfl) ?_
    show Z zm_X12_isGreater kz Q 33 [(0, zR 50), (1, zR a1), (3, zR a3), (5, zI v5), (6, zI v6)] [zI x_6, zI v5, zR a1, zR 50] (d, G, E_2)
    obtain ⟨x_9, m_10, K⟩ := K
    refine Y.callV (g := zm_X12_weightOf) (vs := [zR a1, zI v5, zI x_6]) (st := []) dX12_isGreater_33 ⟨zg_X12_weightOf.1, zg_X12_weightOf.2.1, zg_X12_weightOf.2.2, by decide⟩ ⟨zk_X12_160, zv_X12_weightOf⟩ (ci := 12) (rfl) rfl ((zM_1 hM).2.1) rfl rfl (Nat.le_of_ble_eq_true rfl) m_10 (Or.inl rfl) ?_
    show Z zm_X12_isGreater kz Q 36 [(0, zR 50), (1, zR a1), (3, zR a3), (5, zI v5), (6, zI v6)] [zI x_9] (d, G, E_2)
    refine Z.istore (ls' := [(7, zI x_9), (0, zR 50), (1, zR a1), (3, zR a3), (5, zI v5), (6, zI v6)]) dX12_isGreater_36 (by decide) rfl ?_
    refine Z.aload_n (k := 1) dX12_isGreater_38 rfl ?_
    refine Z.aload_n (k := 3) dX12_isGreater_39 rfl ?_
    refine Z.iload (k := 5) dX12_isGreater_40 rfl ?_
    refine Z.aload_n (k := 1) dX12_isGreater_42 rfl ?_
    refine Z.aload_n (k := 3) dX12_isGreater_43 rfl ?_
    refine Z.iload (k := 5) dX12_isGreater_44 rfl ?_
    obtain ⟨x_12, m_13, K⟩ := K
    refine Y.callV (g := zm_X12_endOf) (vs := [zR a3, zI v6]) (st := [zI v6, zR a3, zR 50]) dX12_isGreater_46 ⟨zg_X12_endOf.1, zg_X12_endOf.2.1, zg_X12_endOf.2.2, by decide⟩ ⟨zk_X12_148, zv_X12_endOf⟩ (ci := 12) (rfl) rfl ((zM_1 hM).2.1) rfl rfl (Nat.le_of_ble_eq_true rfl) m_13 (Or.inl rfl) ?_
    show Z zm_X12_isGreater kz Q 49 [(7, zI x_9), (0, zR 50), (1, zR a1), (3, zR a3), (5, zI v5), (6, zI v6)] [zI x_12, zI v6, zR a3, zR 50] (d, G, E_2)
    obtain ⟨x_15, m_16, K⟩ := K
    refine Y.callV (g := zm_X12_weightOf) (vs := [zR a3, zI v6, zI x_12]) (st := []) dX12_isGreater_49 ⟨zg_X12_weightOf.1, zg_X12_weightOf.2.1, zg_X12_weightOf.2.2, by decide⟩ ⟨zk_X12_160, zv_X12_weightOf⟩ (ci := 12) (rfl) rfl ((zM_1 hM).2.1) rfl rfl (Nat.le_of_ble_eq_true rfl) m_16 (Or.inl rfl) ?_
    show Z zm_X12_isGreater kz Q 52 [(7, zI x_9), (0, zR 50), (1, zR a1), (3, zR a3), (5, zI v5), (6, zI v6)] [zI x_15] (d, G, E_2)
    refine Z.istore (ls' := [(8, zI x_15), (7, zI x_9), (0, zR 50), (1, zR a1), (3, zR a3), (5, zI v5), (6, zI v6)]) dX12_isGreater_52 (by decide) rfl ?_
    refine Z.iload (k := 1) dX12_isGreater_54 rfl ?_
    refine Z.iload (k := 0) dX12_isGreater_56 rfl ?_
    refine Z.icmp_eq 74 dX12_isGreater_58 rfl ⟨fun c_18 => ?_, fun c_18 => ?_⟩
    · replace K := K.1 c_18
      refine Z.aload_n (k := 3) dX12_isGreater_74 rfl ?_
      refine Z.iload (k := 5) dX12_isGreater_75 rfl ?_
      obtain ⟨z_19, K⟩ := K
      refine Y.iald dX12_isGreater_77 (hk1) (ha1) z_19 ?_
      refine Z.if_lt 88 dX12_isGreater_78 rfl ⟨fun c_20 => ?_, fun c_20 => ?_⟩
      · replace K := K.1 c_20
        refine Z.iconst (n := 0) dX12_isGreater_88 ⟨by decide, by decide⟩ ?_
        exact Z.iret (ty := .boolean) dX12_isGreater_89 rfl rfl K
      · replace K := K.2 c_20
        refine Z.aload_n (k := 4) dX12_isGreater_81 rfl ?_
        refine Z.iload (k := 6) dX12_isGreater_82 rfl ?_
        obtain ⟨z_21, K⟩ := K
        refine Y.iald dX12_isGreater_84 (hk3) (ha3) z_21 ?_
        refine Z.if_ge 90 dX12_isGreater_85 rfl ⟨fun c_22 => ?_, fun c_22 => ?_⟩
        · replace K := K.1 c_22
          refine Z.aload_n (k := 3) dX12_isGreater_90 rfl ?_
          refine Z.iload (k := 5) dX12_isGreater_91 rfl ?_
          obtain ⟨z_23, K⟩ := K
          refine Y.iald dX12_isGreater_93 (hk1) (ha1) z_23 ?_
          refine Z.aload_n (k := 4) dX12_isGreater_94 rfl ?_
          refine Z.iload (k := 6) dX12_isGreater_95 rfl ?_
          obtain ⟨z_24, K⟩ := K
          refine Y.iald dX12_isGreater_97 (hk3) (ha3) z_24 ?_
          refine Z.icmp_eq 118 dX12_isGreater_98 rfl ⟨fun c_25 => ?_, fun c_25 => ?_⟩
          · replace K := K.1 c_25
            refine Z.aload_n (k := 2) dX12_isGreater_118 rfl ?_
            refine Y.getR (o := some 53) 2 dX12_isGreater_119 zl_X12_17 (rfl) (by decide) rfl (zM_1 hM).2.1 (zM_2 hM).1 ?_
            refine Z.aload_n (k := 3) dX12_isGreater_122 rfl ?_
            refine Z.iload (k := 5) dX12_isGreater_123 rfl ?_
            obtain ⟨z_26, K⟩ := K
            refine Y.iald dX12_isGreater_125 (hk1) (ha1) z_26 ?_
            obtain ⟨z_27, K⟩ := K
            refine Y.iald dX12_isGreater_126 (rfl) ((zM_2 hM).2.2) z_27 ?_
            refine Z.istore (ls' := [(9, zI ((E_2 53 (E_2 a1 v5)))), (8, zI x_15), (7, zI x_9), (0, zR 50), (1, zR a1), (3, zR a3), (5, zI v5), (6, zI v6)]) dX12_isGreater_127 (by decide) rfl ?_
            obtain ⟨z_28, K⟩ := K
            refine Z.iinc (k := 6) (ls' := [(5, zI ((v5 + 1))), (9, zI ((E_2 53 (E_2 a1 v5)))), (8, zI x_15), (7, zI x_9), (0, zR 50), (1, zR a1), (3, zR a3), (6, zI v6)]) dX12_isGreater_129 rfl (by decide) z_28 rfl ?_
            obtain ⟨z_29, K⟩ := K
            refine Z.iinc (k := 7) (ls' := [(6, zI ((v6 + 1))), (5, zI ((v5 + 1))), (9, zI ((E_2 53 (E_2 a1 v5)))), (8, zI x_15), (7, zI x_9), (0, zR 50), (1, zR a1), (3, zR a3)]) dX12_isGreater_132 rfl (by decide) z_29 rfl ?_
            refine Z.pick (ls' := [(0, zR 50), (1, zR a1), (3, zR a3), (5, zI ((v5 + 1))), (6, zI ((v6 + 1))), (9, zI ((E_2 53 (E_2 a1 v5))))]) [5, 6, 7, 1, 0, 2] rfl ?_
            exact K
          · replace K := K.2 c_25
            refine Z.aload_n (k := 3) dX12_isGreater_101 rfl ?_
            refine Z.iload (k := 5) dX12_isGreater_102 rfl ?_
            obtain ⟨z_30, K⟩ := K
            refine Y.iald dX12_isGreater_104 (hk1) (ha1) z_30 ?_
            refine Z.aload_n (k := 4) dX12_isGreater_105 rfl ?_
            refine Z.iload (k := 6) dX12_isGreater_106 rfl ?_
            obtain ⟨z_31, K⟩ := K
            refine Y.iald dX12_isGreater_108 (hk3) (ha3) z_31 ?_
            refine Z.icmp_le 116 dX12_isGreater_109 rfl ⟨fun c_32 => ?_, fun c_32 => ?_⟩
            · replace K := K.1 c_32
              refine Z.iconst (n := 0) dX12_isGreater_116 ⟨by decide, by decide⟩ ?_
              exact Z.iret (ty := .boolean) dX12_isGreater_117 rfl rfl K
            · replace K := K.2 c_32
              refine Z.iconst (n := 1) dX12_isGreater_112 ⟨by decide, by decide⟩ ?_
              refine Z.goto 117 dX12_isGreater_113 rfl ?_
              exact Z.iret (ty := .boolean) dX12_isGreater_117 rfl rfl K
        · replace K := K.2 c_22
          refine Z.iconst (n := 0) dX12_isGreater_88 ⟨by decide, by decide⟩ ?_
          exact Z.iret (ty := .boolean) dX12_isGreater_89 rfl rfl K
    · replace K := K.2 c_18
      refine Z.iload (k := 1) dX12_isGreater_61 rfl ?_
      refine Z.iload (k := 0) dX12_isGreater_63 rfl ?_
      refine Z.icmp_le 72 dX12_isGreater_65 rfl ⟨fun c_33 => ?_, fun c_33 => ?_⟩
      · replace K := K.1 c_33
        refine Z.iconst (n := 0) dX12_isGreater_72 ⟨by decide, by decide⟩ ?_
        exact Z.iret (ty := .boolean) dX12_isGreater_73 rfl rfl K
      · replace K := K.2 c_33
        refine Z.iconst (n := 1) dX12_isGreater_68 ⟨by decide, by decide⟩ ?_
        refine Z.goto 73 dX12_isGreater_69 rfl ?_
        exact Z.iret (ty := .boolean) dX12_isGreater_73 rfl rfl K
  · replace K := K.2 c_5
    refine Z.iconst (n := 0) dX12_isGreater_20 ⟨by decide, by decide⟩ ?_
    exact Z.iret (ty := .boolean) dX12_isGreater_21 rfl rfl K
set_option maxRecDepth 20000 in
theorem X12_isGreater_135 {kz : Nat × Nat} {Q : Option zV → zH → Prop} {d : List Nat} {G : Nat → Int → Option Nat} {E : Nat → Int → Int} {a1 n1 : Nat} {a3 n3 : Nat} {v5 : Int} {v6 : Int} {v9 : Int} (hM : zK zMt d G) (ha1 : a1 ∈ d) (hk1 : zkd a1 = (0, n1)) (ha3 : a3 ∈ d) (hk3 : zkd a3 = (0, n3)) (K : (v9 ≤ 0 → (v9 ≠ 0 → Z zm_X12_isGreater kz Q 7 [(0, zR 50), (1, zR a1), (3, zR a3), (5, zI v5), (6, zI v6)] [] (d, G, E)) ∧ (¬ (v9 ≠ 0) → Q (some (zI 0)) (d, G, E))) ∧ (¬ (v9 ≤ 0) → ∃ x_3, zM zm_X12_areLike [zR 50, zR a1, zI v5, zR a3, zI v6] (d, G, E) (some (zI x_3)) (d, G, E) ∧ (x_3 = 0 → (v9 ≠ 0 → Z zm_X12_isGreater kz Q 7 [(0, zR 50), (1, zR a1), (3, zR a3), (5, zI v5), (6, zI v6)] [] (d, G, E)) ∧ (¬ (v9 ≠ 0) → Q (some (zI 0)) (d, G, E))) ∧ (¬ (x_3 = 0) → ∃ x_8, zM zm_X12_endOf [zR 50, zR a1, zI v5] (d, G, E) (some (zI x_8)) (d, G, E) ∧ ∃ x_11, zM zm_X12_endOf [zR 50, zR a3, zI v6] (d, G, E) (some (zI x_11)) (d, G, E) ∧ zin (v9 + (-1)) ∧ Z zm_X12_isGreater kz Q 135 [(0, zR 50), (1, zR a1), (3, zR a3), (5, zI x_8), (6, zI x_11), (9, zI ((v9 + (-1))))] [] (d, G, E)))) : Z zm_X12_isGreater kz Q 135 [(0, zR 50), (1, zR a1), (3, zR a3), (5, zI v5), (6, zI v6), (9, zI v9)] [] (d, G, E) := by
  refine Z.iload (k := 5) dX12_isGreater_135 rfl ?_
  refine Z.if_le 177 dX12_isGreater_137 rfl ⟨fun c_1 => ?_, fun c_1 => ?_⟩
  · replace K := K.1 c_1
    refine Z.iload (k := 5) dX12_isGreater_177 rfl ?_
    refine Z.if_ne 184 dX12_isGreater_179 rfl ⟨fun c_2 => ?_, fun c_2 => ?_⟩
    · replace K := K.1 c_2
      refine Z.goto 7 dX12_isGreater_184 rfl ?_
      refine Z.pick (ls' := [(0, zR 50), (1, zR a1), (3, zR a3), (5, zI v5), (6, zI v6)]) [0, 1, 2, 3, 4] rfl ?_
      exact K
    · replace K := K.2 c_2
      refine Z.iconst (n := 0) dX12_isGreater_182 ⟨by decide, by decide⟩ ?_
      exact Z.iret (ty := .boolean) dX12_isGreater_183 rfl rfl K
  · replace K := K.2 c_1
    refine Z.aload_n (k := 0) dX12_isGreater_140 rfl ?_
    refine Z.aload_n (k := 1) dX12_isGreater_141 rfl ?_
    refine Z.iload (k := 3) dX12_isGreater_142 rfl ?_
    refine Z.aload_n (k := 2) dX12_isGreater_144 rfl ?_
    refine Z.iload (k := 4) dX12_isGreater_145 rfl ?_
    obtain ⟨x_3, m_4, K⟩ := K
    refine Y.callV (g := zm_X12_areLike) (vs := [zR a1, zI v5, zR a3, zI v6]) (st := []) dX12_isGreater_147 ⟨zg_X12_areLike.1, zg_X12_areLike.2.1, zg_X12_areLike.2.2, by decide⟩ ⟨zk_X12_164, zv_X12_areLike⟩ (ci := 12) (rfl) rfl ((zM_1 hM).2.1) rfl rfl (Nat.le_of_ble_eq_true rfl) m_4 (Or.inl rfl) ?_
    show Z zm_X12_isGreater kz Q 150 [(0, zR 50), (1, zR a1), (3, zR a3), (5, zI v5), (6, zI v6), (9, zI v9)] [zI x_3] (d, G, E)
    refine Z.if_eq 177 dX12_isGreater_150 rfl ⟨fun c_6 => ?_, fun c_6 => ?_⟩
    · replace K := K.1 c_6
      refine Z.iload (k := 5) dX12_isGreater_177 rfl ?_
      refine Z.if_ne 184 dX12_isGreater_179 rfl ⟨fun c_7 => ?_, fun c_7 => ?_⟩
      · replace K := K.1 c_7
        refine Z.goto 7 dX12_isGreater_184 rfl ?_
        refine Z.pick (ls' := [(0, zR 50), (1, zR a1), (3, zR a3), (5, zI v5), (6, zI v6)]) [0, 1, 2, 3, 4] rfl ?_
        exact K
      · replace K := K.2 c_7
        refine Z.iconst (n := 0) dX12_isGreater_182 ⟨by decide, by decide⟩ ?_
        exact Z.iret (ty := .boolean) dX12_isGreater_183 rfl rfl K
    · replace K := K.2 c_6
      refine Z.aload_n (k := 0) dX12_isGreater_153 rfl ?_
      refine Z.aload_n (k := 1) dX12_isGreater_154 rfl ?_
      refine Z.iload (k := 3) dX12_isGreater_155 rfl ?_
      obtain ⟨x_8, m_9, K⟩ := K
      refine Y.callV (g := zm_X12_endOf) (vs := [zR a1, zI v5]) (st := []) dX12_isGreater_157 ⟨zg_X12_endOf.1, zg_X12_endOf.2.1, zg_X12_endOf.2.2, by decide⟩ ⟨zk_X12_148, zv_X12_endOf⟩ (ci := 12) (rfl) rfl ((zM_1 hM).2.1) rfl rfl (Nat.le_of_ble_eq_true rfl) m_9 (Or.inl rfl) ?_
      show Z zm_X12_isGreater kz Q 160 [(0, zR 50), (1, zR a1), (3, zR a3), (5, zI v5), (6, zI v6), (9, zI v9)] [zI x_8] (d, G, E)
      refine Z.istore (ls' := [(5, zI x_8), (0, zR 50), (1, zR a1), (3, zR a3), (6, zI v6), (9, zI v9)]) dX12_isGreater_160 (by decide) rfl ?_
      refine Z.aload_n (k := 1) dX12_isGreater_162 rfl ?_
      refine Z.aload_n (k := 3) dX12_isGreater_163 rfl ?_
      refine Z.iload (k := 4) dX12_isGreater_164 rfl ?_
      obtain ⟨x_11, m_12, K⟩ := K
      refine Y.callV (g := zm_X12_endOf) (vs := [zR a3, zI v6]) (st := []) dX12_isGreater_166 ⟨zg_X12_endOf.1, zg_X12_endOf.2.1, zg_X12_endOf.2.2, by decide⟩ ⟨zk_X12_148, zv_X12_endOf⟩ (ci := 12) (rfl) rfl ((zM_1 hM).2.1) rfl rfl (Nat.le_of_ble_eq_true rfl) m_12 (Or.inl rfl) ?_
      show Z zm_X12_isGreater kz Q 169 [(5, zI x_8), (0, zR 50), (1, zR a1), (3, zR a3), (6, zI v6), (9, zI v9)] [zI x_11] (d, G, E)
      refine Z.istore (ls' := [(6, zI x_11), (5, zI x_8), (0, zR 50), (1, zR a1), (3, zR a3), (9, zI v9)]) dX12_isGreater_169 (by decide) rfl ?_
      obtain ⟨z_14, K⟩ := K
      refine Z.iinc (k := 5) (ls' := [(9, zI ((v9 + (-1)))), (6, zI x_11), (5, zI x_8), (0, zR 50), (1, zR a1), (3, zR a3)]) dX12_isGreater_171 rfl (by decide) z_14 rfl ?_
      refine Z.goto 135 dX12_isGreater_174 rfl ?_
      refine Z.pick (ls' := [(0, zR 50), (1, zR a1), (3, zR a3), (5, zI x_8), (6, zI x_11), (9, zI ((v9 + (-1))))]) [3, 4, 5, 2, 1, 0] rfl ?_
      exact K
set_option maxRecDepth 20000 in
theorem X12_exchange_0 {kz : Nat × Nat} {Q : Option zV → zH → Prop} {d : List Nat} {G : Nat → Int → Option Nat} {E : Nat → Int → Int} {v1 : Int} (hM : zK zMt d G) (K : zin (30 * v1) ∧ zin ((30 * v1) + 1) ∧ ∃ x_3, zM zm_X12_endOf [zR 50, zR 72, zI (((30 * v1) + 1))] (d, G, E) (some (zI x_3)) (d, G, E) ∧ zin (30 * v1) ∧ ((0 : Int) ≤ v1 ∧ v1 < (6 : Int)) ∧ zin ((30 * v1) + (E 73 v1)) ∧ zin (x_3 - ((30 * v1) + 1)) ∧ Z zm_X12_exchange kz Q 38 [(0, zR 50), (2, zI (((30 * v1) + 1))), (4, zI (((30 * v1) + (E 73 v1)))), (5, zI ((x_3 - ((30 * v1) + 1)))), (6, zI 0)] [] (d, G, E)) : Z zm_X12_exchange kz Q 0 [(0, zR 50), (1, zI v1)] [] (d, G, E) := by
  refine Z.bipush (n := 30) dX12_exchange_0 ⟨by decide, by decide⟩ (by decide) ?_
  refine Z.iload_n (k := 1) dX12_exchange_2 rfl ?_
  obtain ⟨z_1, K⟩ := K
  refine Z.imul dX12_exchange_3 z_1 ?_
  refine Z.iconst (n := 1) dX12_exchange_4 ⟨by decide, by decide⟩ ?_
  obtain ⟨z_2, K⟩ := K
  refine Z.iadd dX12_exchange_5 z_2 ?_
  refine Z.istore_n (ls' := [(2, zI (((30 * v1) + 1))), (0, zR 50), (1, zI v1)]) dX12_exchange_6 (by decide) rfl ?_
  refine Z.aload_n (k := 1) dX12_exchange_7 rfl ?_
  refine Z.aload_n (k := 1) dX12_exchange_8 rfl ?_
  refine Y.getR (o := some 72) 21 dX12_exchange_9 zl_X12_69 (rfl) (by decide) rfl (zM_1 hM).2.1 (zM_21 hM).1 ?_
  refine Z.iload_n (k := 0) dX12_exchange_12 rfl ?_
  obtain ⟨x_3, m_4, K⟩ := K
  refine Y.callV (g := zm_X12_endOf) (vs := [zR 72, zI (((30 * v1) + 1))]) (st := []) dX12_exchange_13 ⟨zg_X12_endOf.1, zg_X12_endOf.2.1, zg_X12_endOf.2.2, by decide⟩ ⟨zk_X12_148, zv_X12_endOf⟩ (ci := 12) (rfl) rfl ((zM_1 hM).2.1) rfl rfl (Nat.le_of_ble_eq_true rfl) m_4 (Or.inl rfl) ?_
  show Z zm_X12_exchange kz Q 16 [(2, zI (((30 * v1) + 1))), (0, zR 50), (1, zI v1)] [zI x_3] (d, G, E)
  refine Z.istore_n (ls' := [(3, zI x_3), (2, zI (((30 * v1) + 1))), (0, zR 50), (1, zI v1)]) dX12_exchange_16 (by decide) rfl ?_
  refine Z.bipush (n := 30) dX12_exchange_17 ⟨by decide, by decide⟩ (by decide) ?_
  refine Z.iload_n (k := 3) dX12_exchange_19 rfl ?_
  obtain ⟨z_6, K⟩ := K
  refine Z.imul dX12_exchange_20 z_6 ?_
  refine Z.aload_n (k := 2) dX12_exchange_21 rfl ?_
  refine Y.getR (o := some 73) 22 dX12_exchange_22 zl_X12_72 (rfl) (by decide) rfl (zM_1 hM).2.1 (zM_22 hM).1 ?_
  refine Z.iload_n (k := 3) dX12_exchange_25 rfl ?_
  obtain ⟨z_7, K⟩ := K
  refine Y.iald dX12_exchange_26 (rfl) ((zM_22 hM).2.2) z_7 ?_
  obtain ⟨z_8, K⟩ := K
  refine Z.iadd dX12_exchange_27 z_8 ?_
  refine Z.istore (ls' := [(4, zI (((30 * v1) + (E 73 v1)))), (3, zI x_3), (2, zI (((30 * v1) + 1))), (0, zR 50), (1, zI v1)]) dX12_exchange_28 (by decide) rfl ?_
  refine Z.iload_n (k := 1) dX12_exchange_30 rfl ?_
  refine Z.iload_n (k := 2) dX12_exchange_31 rfl ?_
  obtain ⟨z_9, K⟩ := K
  refine Z.isub dX12_exchange_32 z_9 ?_
  refine Z.istore (ls' := [(5, zI ((x_3 - ((30 * v1) + 1)))), (4, zI (((30 * v1) + (E 73 v1)))), (3, zI x_3), (2, zI (((30 * v1) + 1))), (0, zR 50), (1, zI v1)]) dX12_exchange_33 (by decide) rfl ?_
  refine Z.iconst (n := 0) dX12_exchange_35 ⟨by decide, by decide⟩ ?_
  refine Z.istore (ls' := [(6, zI 0), (5, zI ((x_3 - ((30 * v1) + 1)))), (4, zI (((30 * v1) + (E 73 v1)))), (3, zI x_3), (2, zI (((30 * v1) + 1))), (0, zR 50), (1, zI v1)]) dX12_exchange_36 (by decide) rfl ?_
  refine Z.pick (ls' := [(0, zR 50), (2, zI (((30 * v1) + 1))), (4, zI (((30 * v1) + (E 73 v1)))), (5, zI ((x_3 - ((30 * v1) + 1)))), (6, zI 0)]) [5, 4, 2, 1, 0] rfl ?_
  exact K
set_option maxRecDepth 20000 in
theorem X12_exchange_38 {kz : Nat × Nat} {Q : Option zV → zH → Prop} {d : List Nat} {G : Nat → Int → Option Nat} {E : Nat → Int → Int} {v2 : Int} {v4 : Int} {v5 : Int} {v6 : Int} (hM : zK zMt d G) (K : zin (v4 - v2) ∧ ((v4 - v2) ≤ v6 → Z zm_X12_exchange kz Q 80 [(0, zR 50), (2, zI v2), (4, zI v4), (6, zI 0)] [] (d, G, E)) ∧ (¬ ((v4 - v2) ≤ v6) → zin (v6 + v5) ∧ zin (v4 - v2) ∧ (0 : Int) ≤ (v6 + v5) ∧ (0 : Int) < (v4 - v2) ∧ zin (v2 + ((v6 + v5) % (v4 - v2))) ∧ ((0 : Int) ≤ (v2 + ((v6 + v5) % (v4 - v2))) ∧ (v2 + ((v6 + v5) % (v4 - v2))) < (180 : Int)) ∧ ((0 : Int) ≤ v6 ∧ v6 < (30 : Int)) ∧ ∀ E_10, E_10 = zuE E 77 v6 ((E 72 (v2 + ((v6 + v5) % (v4 - v2))))) → zin (v6 + 1) ∧ Z zm_X12_exchange kz Q 38 [(0, zR 50), (2, zI v2), (4, zI v4), (5, zI v5), (6, zI ((v6 + 1)))] [] (d, G, E_10))) : Z zm_X12_exchange kz Q 38 [(0, zR 50), (2, zI v2), (4, zI v4), (5, zI v5), (6, zI v6)] [] (d, G, E) := by
  refine Z.iload (k := 4) dX12_exchange_38 rfl ?_
  refine Z.iload (k := 2) dX12_exchange_40 rfl ?_
  refine Z.iload_n (k := 1) dX12_exchange_42 rfl ?_
  obtain ⟨z_1, K⟩ := K
  refine Z.isub dX12_exchange_43 z_1 ?_
  refine Z.icmp_ge 77 dX12_exchange_44 rfl ⟨fun c_2 => ?_, fun c_2 => ?_⟩
  · replace K := K.1 c_2
    refine Z.iconst (n := 0) dX12_exchange_77 ⟨by decide, by decide⟩ ?_
    refine Z.istore (ls' := [(6, zI 0), (0, zR 50), (2, zI v2), (4, zI v4), (5, zI v5)]) dX12_exchange_78 (by decide) rfl ?_
    refine Z.pick (ls' := [(0, zR 50), (2, zI v2), (4, zI v4), (6, zI 0)]) [1, 2, 3, 0] rfl ?_
    exact K
  · replace K := K.2 c_2
    refine Z.aload_n (k := 0) dX12_exchange_47 rfl ?_
    refine Y.getR (o := some 77) 26 dX12_exchange_48 zl_X12_81 (rfl) (by decide) rfl (zM_1 hM).2.1 (zM_26 hM).1 ?_
    refine Z.iload (k := 4) dX12_exchange_51 rfl ?_
    refine Z.aload_n (k := 0) dX12_exchange_53 rfl ?_
    refine Y.getR (o := some 72) 21 dX12_exchange_54 zl_X12_69 (rfl) (by decide) rfl (zM_1 hM).2.1 (zM_21 hM).1 ?_
    refine Z.iload_n (k := 1) dX12_exchange_57 rfl ?_
    refine Z.iload (k := 4) dX12_exchange_58 rfl ?_
    refine Z.iload (k := 3) dX12_exchange_60 rfl ?_
    obtain ⟨z_3, K⟩ := K
    refine Z.iadd dX12_exchange_62 z_3 ?_
    refine Z.iload (k := 2) dX12_exchange_63 rfl ?_
    refine Z.iload_n (k := 1) dX12_exchange_65 rfl ?_
    obtain ⟨z_4, K⟩ := K
    refine Z.isub dX12_exchange_66 z_4 ?_
    obtain ⟨z_5, z_6, K⟩ := K
    refine Z.irem dX12_exchange_67 z_5 z_6 ?_
    obtain ⟨z_7, K⟩ := K
    refine Z.iadd dX12_exchange_68 z_7 ?_
    obtain ⟨z_8, K⟩ := K
    refine Y.iald dX12_exchange_69 (rfl) ((zM_21 hM).2.2) z_8 ?_
    obtain ⟨z_9, K⟩ := K
    refine Y.iast dX12_exchange_70 (rfl) ((zM_26 hM).2.2) z_9 ?_
    generalize eE_10 : zuE E 77 v6 ((E 72 (v2 + ((v6 + v5) % (v4 - v2))))) = E_10
    replace K := K E_10 eE_10.symm
    obtain ⟨z_11, K⟩ := K
    refine Z.iinc (k := 4) (ls' := [(6, zI ((v6 + 1))), (0, zR 50), (2, zI v2), (4, zI v4), (5, zI v5)]) dX12_exchange_71 rfl (by decide) z_11 rfl ?_
    refine Z.goto 38 dX12_exchange_74 rfl ?_
    refine Z.pick (ls' := [(0, zR 50), (2, zI v2), (4, zI v4), (5, zI v5), (6, zI ((v6 + 1)))]) [1, 2, 3, 4, 0] rfl ?_
    exact K
set_option maxRecDepth 20000 in
theorem X12_exchange_80 {kz : Nat × Nat} {Q : Option zV → zH → Prop} {d : List Nat} {G : Nat → Int → Option Nat} {E : Nat → Int → Int} {v2 : Int} {v4 : Int} {v6 : Int} (hM : zK zMt d G) (K : zin (v4 - v2) ∧ ((v4 - v2) ≤ v6 → Q none (d, G, E)) ∧ (¬ ((v4 - v2) ≤ v6) → zin (v2 + v6) ∧ ((0 : Int) ≤ v6 ∧ v6 < (30 : Int)) ∧ ((0 : Int) ≤ (v2 + v6) ∧ (v2 + v6) < (180 : Int)) ∧ ∀ E_6, E_6 = zuE E 72 ((v2 + v6)) ((E 77 v6)) → zin (v6 + 1) ∧ Z zm_X12_exchange kz Q 80 [(0, zR 50), (2, zI v2), (4, zI v4), (6, zI ((v6 + 1)))] [] (d, G, E_6))) : Z zm_X12_exchange kz Q 80 [(0, zR 50), (2, zI v2), (4, zI v4), (6, zI v6)] [] (d, G, E) := by
  refine Z.iload (k := 3) dX12_exchange_80 rfl ?_
  refine Z.iload (k := 2) dX12_exchange_82 rfl ?_
  refine Z.iload_n (k := 1) dX12_exchange_84 rfl ?_
  obtain ⟨z_1, K⟩ := K
  refine Z.isub dX12_exchange_85 z_1 ?_
  refine Z.icmp_ge 111 dX12_exchange_86 rfl ⟨fun c_2 => ?_, fun c_2 => ?_⟩
  · replace K := K.1 c_2
    exact Z.vret dX12_exchange_111 rfl K
  · replace K := K.2 c_2
    refine Z.aload_n (k := 0) dX12_exchange_89 rfl ?_
    refine Y.getR (o := some 72) 21 dX12_exchange_90 zl_X12_69 (rfl) (by decide) rfl (zM_1 hM).2.1 (zM_21 hM).1 ?_
    refine Z.iload_n (k := 1) dX12_exchange_93 rfl ?_
    refine Z.iload (k := 3) dX12_exchange_94 rfl ?_
    obtain ⟨z_3, K⟩ := K
    refine Z.iadd dX12_exchange_96 z_3 ?_
    refine Z.aload_n (k := 0) dX12_exchange_97 rfl ?_
    refine Y.getR (o := some 77) 26 dX12_exchange_98 zl_X12_81 (rfl) (by decide) rfl (zM_1 hM).2.1 (zM_26 hM).1 ?_
    refine Z.iload (k := 3) dX12_exchange_101 rfl ?_
    obtain ⟨z_4, K⟩ := K
    refine Y.iald dX12_exchange_103 (rfl) ((zM_26 hM).2.2) z_4 ?_
    obtain ⟨z_5, K⟩ := K
    refine Y.iast dX12_exchange_104 (rfl) ((zM_21 hM).2.2) z_5 ?_
    generalize eE_6 : zuE E 72 ((v2 + v6)) ((E 77 v6)) = E_6
    replace K := K E_6 eE_6.symm
    obtain ⟨z_7, K⟩ := K
    refine Z.iinc (k := 3) (ls' := [(6, zI ((v6 + 1))), (0, zR 50), (2, zI v2), (4, zI v4)]) dX12_exchange_105 rfl (by decide) z_7 rfl ?_
    refine Z.goto 80 dX12_exchange_108 rfl ?_
    refine Z.pick (ls' := [(0, zR 50), (2, zI v2), (4, zI v4), (6, zI ((v6 + 1)))]) [1, 2, 3, 0] rfl ?_
    exact K
set_option maxRecDepth 20000 in
theorem X12_hasLikeSides_0 {kz : Nat × Nat} {Q : Option zV → zH → Prop} {d : List Nat} {G : Nat → Int → Option Nat} {E : Nat → Int → Int} {v1 : Int} (hM : zK zMt d G) (K : zin (30 * v1) ∧ zin ((30 * v1) + 1) ∧ ∃ x_3, zM zm_X12_endOf [zR 50, zR 72, zI (((30 * v1) + 1))] (d, G, E) (some (zI x_3)) (d, G, E) ∧ ∃ x_6, zM zm_X12_areLike [zR 50, zR 72, zI (((30 * v1) + 1)), zR 72, zI x_3] (d, G, E) (some (zI x_6)) (d, G, E) ∧ (x_6 = 0 ∨ x_6 = 1) ∧ Q (some (zI x_6)) (d, G, E)) : Z zm_X12_hasLikeSides kz Q 0 [(0, zR 50), (1, zI v1)] [] (d, G, E) := by
  refine Z.bipush (n := 30) dX12_hasLikeSides_0 ⟨by decide, by decide⟩ (by decide) ?_
  refine Z.iload_n (k := 1) dX12_hasLikeSides_2 rfl ?_
  obtain ⟨z_1, K⟩ := K
  refine Z.imul dX12_hasLikeSides_3 z_1 ?_
  refine Z.iconst (n := 1) dX12_hasLikeSides_4 ⟨by decide, by decide⟩ ?_
  obtain ⟨z_2, K⟩ := K
  refine Z.iadd dX12_hasLikeSides_5 z_2 ?_
  refine Z.istore_n (ls' := [(2, zI (((30 * v1) + 1))), (0, zR 50), (1, zI v1)]) dX12_hasLikeSides_6 (by decide) rfl ?_
  refine Z.aload_n (k := 1) dX12_hasLikeSides_7 rfl ?_
  refine Z.aload_n (k := 1) dX12_hasLikeSides_8 rfl ?_
  refine Y.getR (o := some 72) 21 dX12_hasLikeSides_9 zl_X12_69 (rfl) (by decide) rfl (zM_1 hM).2.1 (zM_21 hM).1 ?_
  refine Z.iload_n (k := 0) dX12_hasLikeSides_12 rfl ?_
  refine Z.aload_n (k := 1) dX12_hasLikeSides_13 rfl ?_
  refine Y.getR (o := some 72) 21 dX12_hasLikeSides_14 zl_X12_69 (rfl) (by decide) rfl (zM_1 hM).2.1 (zM_21 hM).1 ?_
  refine Z.aload_n (k := 1) dX12_hasLikeSides_17 rfl ?_
  refine Z.aload_n (k := 1) dX12_hasLikeSides_18 rfl ?_
  refine Y.getR (o := some 72) 21 dX12_hasLikeSides_19 zl_X12_69 (rfl) (by decide) rfl (zM_1 hM).2.1 (zM_21 hM).1 ?_
  refine Z.iload_n (k := 0) dX12_hasLikeSides_22 rfl ?_
  obtain ⟨x_3, m_4, K⟩ := K
  refine Y.callV (g := zm_X12_endOf) (vs := [zR 72, zI (((30 * v1) + 1))]) (st := [zR 72, zI (((30 * v1) + 1)), zR 72, zR 50]) dX12_hasLikeSides_23 ⟨zg_X12_endOf.1, zg_X12_endOf.2.1, zg_X12_endOf.2.2, by decide⟩ ⟨zk_X12_148, zv_X12_endOf⟩ (ci := 12) (rfl) rfl ((zM_1 hM).2.1) rfl rfl (Nat.le_of_ble_eq_true rfl) m_4 (Or.inl rfl) ?_
  show Z zm_X12_hasLikeSides kz Q 26 [(2, zI (((30 * v1) + 1))), (0, zR 50), (1, zI v1)] [zI x_3, zR 72, zI (((30 * v1) + 1)), zR 72, zR 50] (d, G, E)
  obtain ⟨x_6, m_7, K⟩ := K
  refine Y.callV (g := zm_X12_areLike) (vs := [zR 72, zI (((30 * v1) + 1)), zR 72, zI x_3]) (st := []) dX12_hasLikeSides_26 ⟨zg_X12_areLike.1, zg_X12_areLike.2.1, zg_X12_areLike.2.2, by decide⟩ ⟨zk_X12_164, zv_X12_areLike⟩ (ci := 12) (rfl) rfl ((zM_1 hM).2.1) rfl rfl (Nat.le_of_ble_eq_true rfl) m_7 (Or.inl rfl) ?_
  show Z zm_X12_hasLikeSides kz Q 29 [(2, zI (((30 * v1) + 1))), (0, zR 50), (1, zI v1)] [zI x_6] (d, G, E)
  exact Z.iret (ty := .boolean) dX12_hasLikeSides_29 rfl (by rcases K.1 with e | e <;> rw [e] <;> rfl) K.2
set_option maxRecDepth 20000 in
theorem X12_areAlike_0 {kz : Nat × Nat} {Q : Option zV → zH → Prop} {d : List Nat} {G : Nat → Int → Option Nat} {E : Nat → Int → Int} {v1 : Int} {v2 : Int} (hM : zK zMt d G) (K : ((0 : Int) ≤ v1 ∧ v1 < (6 : Int)) ∧ ((0 : Int) ≤ v2 ∧ v2 < (6 : Int)) ∧ ((E 73 v1) ≠ (E 73 v2) → Q (some (zI 0)) (d, G, E)) ∧ (¬ ((E 73 v1) ≠ (E 73 v2)) → zin (30 * v1) ∧ zin (30 * v2) ∧ ((0 : Int) ≤ v1 ∧ v1 < (6 : Int)) ∧ ∃ x_7, zM zm_X12_isLike [zR 72, zI ((30 * v1)), zR 72, zI ((30 * v2)), zI ((E 73 v1))] (d, G, E) (some (zI x_7)) (d, G, E) ∧ (x_7 = 0 → Q (some (zI 0)) (d, G, E)) ∧ (¬ (x_7 = 0) → Q (some (zI 1)) (d, G, E)))) : Z zm_X12_areAlike kz Q 0 [(0, zR 50), (1, zI v1), (2, zI v2)] [] (d, G, E) := by
  refine Z.aload_n (k := 0) dX12_areAlike_0 rfl ?_
  refine Y.getR (o := some 73) 22 dX12_areAlike_1 zl_X12_72 (rfl) (by decide) rfl (zM_1 hM).2.1 (zM_22 hM).1 ?_
  refine Z.iload_n (k := 1) dX12_areAlike_4 rfl ?_
  obtain ⟨z_1, K⟩ := K
  refine Y.iald dX12_areAlike_5 (rfl) ((zM_22 hM).2.2) z_1 ?_
  refine Z.aload_n (k := 0) dX12_areAlike_6 rfl ?_
  refine Y.getR (o := some 73) 22 dX12_areAlike_7 zl_X12_72 (rfl) (by decide) rfl (zM_1 hM).2.1 (zM_22 hM).1 ?_
  refine Z.iload_n (k := 2) dX12_areAlike_10 rfl ?_
  obtain ⟨z_2, K⟩ := K
  refine Y.iald dX12_areAlike_11 (rfl) ((zM_22 hM).2.2) z_2 ?_
  refine Z.icmp_ne 47 dX12_areAlike_12 rfl ⟨fun c_3 => ?_, fun c_3 => ?_⟩
  · replace K := K.1 c_3
    refine Z.iconst (n := 0) dX12_areAlike_47 ⟨by decide, by decide⟩ ?_
    exact Z.iret (ty := .boolean) dX12_areAlike_48 rfl rfl K
  · replace K := K.2 c_3
    refine Z.aload_n (k := 0) dX12_areAlike_15 rfl ?_
    refine Y.getR (o := some 72) 21 dX12_areAlike_16 zl_X12_69 (rfl) (by decide) rfl (zM_1 hM).2.1 (zM_21 hM).1 ?_
    refine Z.bipush (n := 30) dX12_areAlike_19 ⟨by decide, by decide⟩ (by decide) ?_
    refine Z.iload_n (k := 1) dX12_areAlike_21 rfl ?_
    obtain ⟨z_4, K⟩ := K
    refine Z.imul dX12_areAlike_22 z_4 ?_
    refine Z.aload_n (k := 0) dX12_areAlike_23 rfl ?_
    refine Y.getR (o := some 72) 21 dX12_areAlike_24 zl_X12_69 (rfl) (by decide) rfl (zM_1 hM).2.1 (zM_21 hM).1 ?_
    refine Z.bipush (n := 30) dX12_areAlike_27 ⟨by decide, by decide⟩ (by decide) ?_
    refine Z.iload_n (k := 2) dX12_areAlike_29 rfl ?_
    obtain ⟨z_5, K⟩ := K
    refine Z.imul dX12_areAlike_30 z_5 ?_
    refine Z.aload_n (k := 0) dX12_areAlike_31 rfl ?_
    refine Y.getR (o := some 73) 22 dX12_areAlike_32 zl_X12_72 (rfl) (by decide) rfl (zM_1 hM).2.1 (zM_22 hM).1 ?_
    refine Z.iload_n (k := 1) dX12_areAlike_35 rfl ?_
    obtain ⟨z_6, K⟩ := K
    refine Y.iald dX12_areAlike_36 (rfl) ((zM_22 hM).2.2) z_6 ?_
    obtain ⟨x_7, m_8, K⟩ := K
    refine Y.callS (g := zm_X12_isLike) (vs := [zR 72, zI ((30 * v1)), zR 72, zI ((30 * v2)), zI ((E 73 v1))]) (st := []) dX12_areAlike_37 ⟨zg_X12_isLike.1, zg_X12_isLike.2.1, zg_X12_isLike.2.2, by decide⟩ ⟨Or.inl zk_X12_152, zs_X12_isLike⟩ rfl rfl (Nat.le_of_ble_eq_true rfl) m_8 (Or.inl rfl) ?_
    show Z zm_X12_areAlike kz Q 40 [(0, zR 50), (1, zI v1), (2, zI v2)] [zI x_7] (d, G, E)
    refine Z.if_eq 47 dX12_areAlike_40 rfl ⟨fun c_10 => ?_, fun c_10 => ?_⟩
    · replace K := K.1 c_10
      refine Z.iconst (n := 0) dX12_areAlike_47 ⟨by decide, by decide⟩ ?_
      exact Z.iret (ty := .boolean) dX12_areAlike_48 rfl rfl K
    · replace K := K.2 c_10
      refine Z.iconst (n := 1) dX12_areAlike_43 ⟨by decide, by decide⟩ ?_
      refine Z.goto 48 dX12_areAlike_44 rfl ?_
      exact Z.iret (ty := .boolean) dX12_areAlike_48 rfl rfl K
set_option maxRecDepth 20000 in
theorem X12_clean_0 {kz : Nat × Nat} {Q : Option zV → zH → Prop} {d : List Nat} {G : Nat → Int → Option Nat} {E : Nat → Int → Int}  (hM : zK zMt d G) (K : Z zm_X12_clean kz Q 4 [(0, zR 50), (1, zI 0), (2, zI 0)] [] (d, G, E)) : Z zm_X12_clean kz Q 0 [(0, zR 50)] [] (d, G, E) := by
  refine Z.iconst (n := 0) dX12_clean_0 ⟨by decide, by decide⟩ ?_
  refine Z.istore_n (ls' := [(1, zI 0), (0, zR 50)]) dX12_clean_1 (by decide) rfl ?_
  refine Z.iconst (n := 0) dX12_clean_2 ⟨by decide, by decide⟩ ?_
  refine Z.istore_n (ls' := [(2, zI 0), (1, zI 0), (0, zR 50)]) dX12_clean_3 (by decide) rfl ?_
  refine Z.pick (ls' := [(0, zR 50), (1, zI 0), (2, zI 0)]) [2, 1, 0] rfl ?_
  exact K
set_option maxRecDepth 20000 in
theorem X12_clean_4 {kz : Nat × Nat} {Q : Option zV → zH → Prop} {d : List Nat} {G : Nat → Int → Option Nat} {E : Nat → Int → Int} {v1 : Int} {v2 : Int} (hM : zK zMt d G) (K : ((E 50 24) ≤ v2 → ∀ E_2, E_2 = zuE E 50 24 v1 → ∀ E_3, E_3 = zuE E_2 50 28 0 → Z zm_X12_clean kz Q 232 [(0, zR 50), (2, zI 0)] [] (d, G, E_3)) ∧ (¬ ((E 50 24) ≤ v2) → Z zm_X12_clean kz Q 14 [(0, zR 50), (1, zI v1), (2, zI v2), (3, zI 0)] [] (d, G, E))) : Z zm_X12_clean kz Q 4 [(0, zR 50), (1, zI v1), (2, zI v2)] [] (d, G, E) := by
  refine Z.iload_n (k := 2) dX12_clean_4 rfl ?_
  refine Z.aload_n (k := 0) dX12_clean_5 rfl ?_
  refine Y.getI 24 dX12_clean_6 zl_X12_167 (rfl) (by decide) rfl (zM_1 hM).2.1 ?_
  refine Z.icmp_ge 220 dX12_clean_9 rfl ⟨fun c_1 => ?_, fun c_1 => ?_⟩
  · replace K := K.1 c_1
    refine Z.aload_n (k := 0) dX12_clean_220 rfl ?_
    refine Z.iload_n (k := 1) dX12_clean_221 rfl ?_
    refine Y.putI 24 dX12_clean_222 zw_X12_167 (fun q => by cases q) (rfl) rfl (zM_1 hM).2.1 (Or.inl rfl) ?_
    generalize eE_2 : zuE E 50 24 v1 = E_2
    replace K := K E_2 eE_2.symm
    refine Z.aload_n (k := 0) dX12_clean_225 rfl ?_
    refine Z.iconst (n := 0) dX12_clean_226 ⟨by decide, by decide⟩ ?_
    refine Y.putI 28 dX12_clean_227 zw_X12_185 (fun q => by cases q) (rfl) rfl (zM_1 hM).2.1 (Or.inl rfl) ?_
    generalize eE_3 : zuE E_2 50 28 0 = E_3
    replace K := K E_3 eE_3.symm
    refine Z.iconst (n := 0) dX12_clean_230 ⟨by decide, by decide⟩ ?_
    refine Z.istore_n (ls' := [(2, zI 0), (0, zR 50), (1, zI v1)]) dX12_clean_231 (by decide) rfl ?_
    refine Z.pick (ls' := [(0, zR 50), (2, zI 0)]) [1, 0] rfl ?_
    exact K
  · replace K := K.2 c_1
    refine Z.iconst (n := 0) dX12_clean_12 ⟨by decide, by decide⟩ ?_
    refine Z.istore_n (ls' := [(3, zI 0), (0, zR 50), (1, zI v1), (2, zI v2)]) dX12_clean_13 (by decide) rfl ?_
    refine Z.pick (ls' := [(0, zR 50), (1, zI v1), (2, zI v2), (3, zI 0)]) [1, 2, 3, 0] rfl ?_
    exact K
set_option maxRecDepth 20000 in
theorem X12_clean_14 {kz : Nat × Nat} {Q : Option zV → zH → Prop} {d : List Nat} {G : Nat → Int → Option Nat} {E : Nat → Int → Int} {v1 : Int} {v2 : Int} {v3 : Int} (hM : zK zMt d G) (K : ((0 : Int) ≤ v2 ∧ v2 < (6 : Int)) ∧ ((E 73 v2) ≤ v3 → ((0 : Int) ≤ v2 ∧ v2 < (6 : Int)) ∧ ((0 : Int) ≤ v1 ∧ v1 < (6 : Int)) ∧ ∀ E_5, E_5 = zuE E 73 v1 ((E 73 v2)) → ((0 : Int) ≤ v2 ∧ v2 < (6 : Int)) ∧ ((0 : Int) ≤ v1 ∧ v1 < (6 : Int)) ∧ ((E_5 74 v2) = 0 ∨ (E_5 74 v2) = 1) ∧ ∀ E_9, E_9 = zuE E_5 74 v1 ((E_5 74 v2)) → zin (30 * v1) ∧ ((0 : Int) ≤ (30 * v1) ∧ (30 * v1) < (180 : Int)) ∧ ((E_9 72 (30 * v1)) ≠ 0 → Z zm_X12_clean kz Q 156 [(0, zR 50), (1, zI v1), (2, zI v2), (3, zI 0), (4, zI 0)] [] (d, G, E_9)) ∧ (¬ ((E_9 72 (30 * v1)) ≠ 0) → zin (30 * v1) ∧ zin ((30 * v1) + 1) ∧ ∃ x_15, zM zm_X12_endOf [zR 50, zR 72, zI (((30 * v1) + 1))] (d, G, E_9) (some (zI x_15)) (d, G, E_9) ∧ ∃ x_18 E_19, zM zm_X12_isGreater [zR 50, zR 72, zI x_15, zR 72, zI (((30 * v1) + 1))] (d, G, E_9) (some (zI x_18)) (d, G, E_19) ∧ (x_18 = 0 → ((0 : Int) ≤ v1 ∧ v1 < (6 : Int)) ∧ ((E_19 74 v1) = 0 → Z zm_X12_clean kz Q 156 [(0, zR 50), (1, zI v1), (2, zI v2), (3, zI 0), (4, zI 0)] [] (d, G, E_19)) ∧ (¬ ((E_19 74 v1) = 0) → ∃ x_25, zM zm_X12_hasLikeSides [zR 50, zI v1] (d, G, E_19) (some (zI x_25)) (d, G, E_19) ∧ (x_25 = 0 → Z zm_X12_clean kz Q 156 [(0, zR 50), (1, zI v1), (2, zI v2), (3, zI 0), (4, zI 0)] [] (d, G, E_19)) ∧ (¬ (x_25 = 0) → Z zm_X12_clean kz Q 156 [(0, zR 50), (1, zI v1), (2, zI v2), (3, zI 1), (4, zI 0)] [] (d, G, E_19)))) ∧ (¬ (x_18 = 0) → ∃ E_29, zM zm_X12_exchange [zR 50, zI v1] (d, G, E_19) none (d, G, E_29) ∧ ((0 : Int) ≤ v1 ∧ v1 < (6 : Int)) ∧ ((E_29 74 v1) = 0 → Z zm_X12_clean kz Q 156 [(0, zR 50), (1, zI v1), (2, zI v2), (3, zI 0), (4, zI 0)] [] (d, G, E_29)) ∧ (¬ ((E_29 74 v1) = 0) → ∃ x_34, zM zm_X12_hasLikeSides [zR 50, zI v1] (d, G, E_29) (some (zI x_34)) (d, G, E_29) ∧ (x_34 = 0 → Z zm_X12_clean kz Q 156 [(0, zR 50), (1, zI v1), (2, zI v2), (3, zI 0), (4, zI 0)] [] (d, G, E_29)) ∧ (¬ (x_34 = 0) → Z zm_X12_clean kz Q 156 [(0, zR 50), (1, zI v1), (2, zI v2), (3, zI 1), (4, zI 0)] [] (d, G, E_29)))))) ∧ (¬ ((E 73 v2) ≤ v3) → zin (30 * v1) ∧ zin ((30 * v1) + v3) ∧ zin (30 * v2) ∧ zin ((30 * v2) + v3) ∧ ((0 : Int) ≤ ((30 * v2) + v3) ∧ ((30 * v2) + v3) < (180 : Int)) ∧ ((0 : Int) ≤ ((30 * v1) + v3) ∧ ((30 * v1) + v3) < (180 : Int)) ∧ ∀ E_44, E_44 = zuE E 72 (((30 * v1) + v3)) ((E 72 ((30 * v2) + v3))) → zin (v3 + 1) ∧ Z zm_X12_clean kz Q 14 [(0, zR 50), (1, zI v1), (2, zI v2), (3, zI ((v3 + 1)))] [] (d, G, E_44))) : Z zm_X12_clean kz Q 14 [(0, zR 50), (1, zI v1), (2, zI v2), (3, zI v3)] [] (d, G, E) := by
  refine Z.iload_n (k := 3) dX12_clean_14 rfl ?_
  refine Z.aload_n (k := 0) dX12_clean_15 rfl ?_
  refine Y.getR (o := some 73) 22 dX12_clean_16 zl_X12_72 (rfl) (by decide) rfl (zM_1 hM).2.1 (zM_22 hM).1 ?_
  refine Z.iload_n (k := 2) dX12_clean_19 rfl ?_
  obtain ⟨z_1, K⟩ := K
  refine Y.iald dX12_clean_20 (rfl) ((zM_22 hM).2.2) z_1 ?_
  refine Z.icmp_ge 52 dX12_clean_21 rfl ⟨fun c_2 => ?_, fun c_2 => ?_⟩
  · replace K := K.1 c_2
    refine Z.aload_n (k := 0) dX12_clean_52 rfl ?_
    refine Y.getR (o := some 73) 22 dX12_clean_53 zl_X12_72 (rfl) (by decide) rfl (zM_1 hM).2.1 (zM_22 hM).1 ?_
    refine Z.iload_n (k := 1) dX12_clean_56 rfl ?_
    refine Z.aload_n (k := 0) dX12_clean_57 rfl ?_
    refine Y.getR (o := some 73) 22 dX12_clean_58 zl_X12_72 (rfl) (by decide) rfl (zM_1 hM).2.1 (zM_22 hM).1 ?_
    refine Z.iload_n (k := 2) dX12_clean_61 rfl ?_
    obtain ⟨z_3, K⟩ := K
    refine Y.iald dX12_clean_62 (rfl) ((zM_22 hM).2.2) z_3 ?_
    obtain ⟨z_4, K⟩ := K
    refine Y.iast dX12_clean_63 (rfl) ((zM_22 hM).2.2) z_4 ?_
    generalize eE_5 : zuE E 73 v1 ((E 73 v2)) = E_5
    replace K := K E_5 eE_5.symm
    refine Z.aload_n (k := 0) dX12_clean_64 rfl ?_
    refine Y.getR (o := some 74) 23 dX12_clean_65 zl_X12_75 (rfl) (by decide) rfl (zM_1 hM).2.1 (zM_23 hM).1 ?_
    refine Z.iload_n (k := 1) dX12_clean_68 rfl ?_
    refine Z.aload_n (k := 0) dX12_clean_69 rfl ?_
    refine Y.getR (o := some 74) 23 dX12_clean_70 zl_X12_75 (rfl) (by decide) rfl (zM_1 hM).2.1 (zM_23 hM).1 ?_
    refine Z.iload_n (k := 2) dX12_clean_73 rfl ?_
    obtain ⟨z_6, K⟩ := K
    refine Y.zald dX12_clean_74 (rfl) ((zM_23 hM).2.2) z_6 ?_
    obtain ⟨z_7, K⟩ := K
    obtain ⟨z_8, K⟩ := K
    refine Y.zast dX12_clean_75 (rfl) ((zM_23 hM).2.2) z_7 z_8 ?_
    generalize eE_9 : zuE E_5 74 v1 ((E_5 74 v2)) = E_9
    replace K := K E_9 eE_9.symm
    refine Z.iconst (n := 0) dX12_clean_76 ⟨by decide, by decide⟩ ?_
    refine Z.istore_n (ls' := [(3, zI 0), (0, zR 50), (1, zI v1), (2, zI v2)]) dX12_clean_77 (by decide) rfl ?_
    refine Z.aload_n (k := 1) dX12_clean_78 rfl ?_
    refine Y.getR (o := some 72) 21 dX12_clean_79 zl_X12_69 (rfl) (by decide) rfl (zM_1 hM).2.1 (zM_21 hM).1 ?_
    refine Z.bipush (n := 30) dX12_clean_82 ⟨by decide, by decide⟩ (by decide) ?_
    refine Z.iload_n (k := 2) dX12_clean_84 rfl ?_
    obtain ⟨z_10, K⟩ := K
    refine Z.imul dX12_clean_85 z_10 ?_
    obtain ⟨z_11, K⟩ := K
    refine Y.iald dX12_clean_86 (rfl) ((zM_21 hM).2.2) z_11 ?_
    refine Z.if_ne 153 dX12_clean_87 rfl ⟨fun c_12 => ?_, fun c_12 => ?_⟩
    · replace K := K.1 c_12
      refine Z.iconst (n := 0) dX12_clean_153 ⟨by decide, by decide⟩ ?_
      refine Z.istore (ls' := [(4, zI 0), (3, zI 0), (0, zR 50), (1, zI v1), (2, zI v2)]) dX12_clean_154 (by decide) rfl ?_
      refine Z.pick (ls' := [(0, zR 50), (1, zI v1), (2, zI v2), (3, zI 0), (4, zI 0)]) [2, 3, 4, 1, 0] rfl ?_
      exact K
    · replace K := K.2 c_12
      refine Z.bipush (n := 30) dX12_clean_90 ⟨by decide, by decide⟩ (by decide) ?_
      refine Z.iload_n (k := 2) dX12_clean_92 rfl ?_
      obtain ⟨z_13, K⟩ := K
      refine Z.imul dX12_clean_93 z_13 ?_
      refine Z.iconst (n := 1) dX12_clean_94 ⟨by decide, by decide⟩ ?_
      obtain ⟨z_14, K⟩ := K
      refine Z.iadd dX12_clean_95 z_14 ?_
      refine Z.istore (ls' := [(4, zI (((30 * v1) + 1))), (3, zI 0), (0, zR 50), (1, zI v1), (2, zI v2)]) dX12_clean_96 (by decide) rfl ?_
      refine Z.aload_n (k := 2) dX12_clean_98 rfl ?_
      refine Z.aload_n (k := 2) dX12_clean_99 rfl ?_
      refine Y.getR (o := some 72) 21 dX12_clean_100 zl_X12_69 (rfl) (by decide) rfl (zM_1 hM).2.1 (zM_21 hM).1 ?_
      refine Z.aload_n (k := 2) dX12_clean_103 rfl ?_
      refine Z.aload_n (k := 2) dX12_clean_104 rfl ?_
      refine Y.getR (o := some 72) 21 dX12_clean_105 zl_X12_69 (rfl) (by decide) rfl (zM_1 hM).2.1 (zM_21 hM).1 ?_
      refine Z.iload (k := 0) dX12_clean_108 rfl ?_
      obtain ⟨x_15, m_16, K⟩ := K
      refine Y.callV (g := zm_X12_endOf) (vs := [zR 72, zI (((30 * v1) + 1))]) (st := [zR 72, zR 50]) dX12_clean_110 ⟨zg_X12_endOf.1, zg_X12_endOf.2.1, zg_X12_endOf.2.2, by decide⟩ ⟨zk_X12_148, zv_X12_endOf⟩ (ci := 12) (rfl) rfl ((zM_1 hM).2.1) rfl rfl (Nat.le_of_ble_eq_true rfl) m_16 (Or.inl rfl) ?_
      show Z zm_X12_clean kz Q 113 [(4, zI (((30 * v1) + 1))), (3, zI 0), (0, zR 50), (1, zI v1), (2, zI v2)] [zI x_15, zR 72, zR 50] (d, G, E_9)
      refine Z.aload_n (k := 2) dX12_clean_113 rfl ?_
      refine Y.getR (o := some 72) 21 dX12_clean_114 zl_X12_69 (rfl) (by decide) rfl (zM_1 hM).2.1 (zM_21 hM).1 ?_
      refine Z.iload (k := 0) dX12_clean_117 rfl ?_
      obtain ⟨x_18, E_19, m_20, K⟩ := K
      refine Y.callV (g := zm_X12_isGreater) (vs := [zR 72, zI x_15, zR 72, zI (((30 * v1) + 1))]) (st := []) dX12_clean_119 ⟨zg_X12_isGreater.1, zg_X12_isGreater.2.1, zg_X12_isGreater.2.2, by decide⟩ ⟨zk_X12_170, zv_X12_isGreater⟩ (ci := 12) (rfl) rfl ((zM_1 hM).2.1) rfl rfl (Nat.le_of_ble_eq_true rfl) m_20 (Or.inl rfl) ?_
      show Z zm_X12_clean kz Q 122 [(4, zI (((30 * v1) + 1))), (3, zI 0), (0, zR 50), (1, zI v1), (2, zI v2)] [zI x_18] (d, G, E_19)
      refine Z.if_eq 130 dX12_clean_122 rfl ⟨fun c_22 => ?_, fun c_22 => ?_⟩
      · replace K := K.1 c_22
        refine Z.aload_n (k := 2) dX12_clean_130 rfl ?_
        refine Y.getR (o := some 74) 23 dX12_clean_131 zl_X12_75 (rfl) (by decide) rfl (zM_1 hM).2.1 (zM_23 hM).1 ?_
        refine Z.iload_n (k := 3) dX12_clean_134 rfl ?_
        obtain ⟨z_23, K⟩ := K
        refine Y.zald dX12_clean_135 (rfl) ((zM_23 hM).2.2) z_23 ?_
        refine Z.if_eq 151 dX12_clean_136 rfl ⟨fun c_24 => ?_, fun c_24 => ?_⟩
        · replace K := K.1 c_24
          refine Z.iconst (n := 0) dX12_clean_151 ⟨by decide, by decide⟩ ?_
          refine Z.istore_n (ls' := [(3, zI 0), (4, zI (((30 * v1) + 1))), (0, zR 50), (1, zI v1), (2, zI v2)]) dX12_clean_152 (by decide) rfl ?_
          refine Z.iconst (n := 0) dX12_clean_153 ⟨by decide, by decide⟩ ?_
          refine Z.istore (ls' := [(4, zI 0), (3, zI 0), (0, zR 50), (1, zI v1), (2, zI v2)]) dX12_clean_154 (by decide) rfl ?_
          refine Z.pick (ls' := [(0, zR 50), (1, zI v1), (2, zI v2), (3, zI 0), (4, zI 0)]) [2, 3, 4, 1, 0] rfl ?_
          exact K
        · replace K := K.2 c_24
          refine Z.aload_n (k := 2) dX12_clean_139 rfl ?_
          refine Z.iload_n (k := 3) dX12_clean_140 rfl ?_
          obtain ⟨x_25, m_26, K⟩ := K
          refine Y.callV (g := zm_X12_hasLikeSides) (vs := [zI v1]) (st := []) dX12_clean_141 ⟨zg_X12_hasLikeSides.1, zg_X12_hasLikeSides.2.1, zg_X12_hasLikeSides.2.2, by decide⟩ ⟨zk_X12_177, zv_X12_hasLikeSides⟩ (ci := 12) (rfl) rfl ((zM_1 hM).2.1) rfl rfl (Nat.le_of_ble_eq_true rfl) m_26 (Or.inl rfl) ?_
          show Z zm_X12_clean kz Q 144 [(4, zI (((30 * v1) + 1))), (3, zI 0), (0, zR 50), (1, zI v1), (2, zI v2)] [zI x_25] (d, G, E_19)
          refine Z.if_eq 151 dX12_clean_144 rfl ⟨fun c_28 => ?_, fun c_28 => ?_⟩
          · replace K := K.1 c_28
            refine Z.iconst (n := 0) dX12_clean_151 ⟨by decide, by decide⟩ ?_
            refine Z.istore_n (ls' := [(3, zI 0), (4, zI (((30 * v1) + 1))), (0, zR 50), (1, zI v1), (2, zI v2)]) dX12_clean_152 (by decide) rfl ?_
            refine Z.iconst (n := 0) dX12_clean_153 ⟨by decide, by decide⟩ ?_
            refine Z.istore (ls' := [(4, zI 0), (3, zI 0), (0, zR 50), (1, zI v1), (2, zI v2)]) dX12_clean_154 (by decide) rfl ?_
            refine Z.pick (ls' := [(0, zR 50), (1, zI v1), (2, zI v2), (3, zI 0), (4, zI 0)]) [2, 3, 4, 1, 0] rfl ?_
            exact K
          · replace K := K.2 c_28
            refine Z.iconst (n := 1) dX12_clean_147 ⟨by decide, by decide⟩ ?_
            refine Z.goto 152 dX12_clean_148 rfl ?_
            refine Z.istore_n (ls' := [(3, zI 1), (4, zI (((30 * v1) + 1))), (0, zR 50), (1, zI v1), (2, zI v2)]) dX12_clean_152 (by decide) rfl ?_
            refine Z.iconst (n := 0) dX12_clean_153 ⟨by decide, by decide⟩ ?_
            refine Z.istore (ls' := [(4, zI 0), (3, zI 1), (0, zR 50), (1, zI v1), (2, zI v2)]) dX12_clean_154 (by decide) rfl ?_
            refine Z.pick (ls' := [(0, zR 50), (1, zI v1), (2, zI v2), (3, zI 1), (4, zI 0)]) [2, 3, 4, 1, 0] rfl ?_
            exact K
      · replace K := K.2 c_22
        refine Z.aload_n (k := 2) dX12_clean_125 rfl ?_
        refine Z.iload_n (k := 3) dX12_clean_126 rfl ?_
        obtain ⟨E_29, m_30, K⟩ := K
        refine Y.callV (g := zm_X12_exchange) (vs := [zI v1]) (st := []) dX12_clean_127 ⟨zg_X12_exchange.1, zg_X12_exchange.2.1, zg_X12_exchange.2.2, by decide⟩ ⟨zk_X12_173, zv_X12_exchange⟩ (ci := 12) (rfl) rfl ((zM_1 hM).2.1) rfl rfl (Nat.le_of_ble_eq_true rfl) m_30 (Or.inl rfl) ?_
        show Z zm_X12_clean kz Q 130 [(4, zI (((30 * v1) + 1))), (3, zI 0), (0, zR 50), (1, zI v1), (2, zI v2)] [] (d, G, E_29)
        refine Z.aload_n (k := 2) dX12_clean_130 rfl ?_
        refine Y.getR (o := some 74) 23 dX12_clean_131 zl_X12_75 (rfl) (by decide) rfl (zM_1 hM).2.1 (zM_23 hM).1 ?_
        refine Z.iload_n (k := 3) dX12_clean_134 rfl ?_
        obtain ⟨z_32, K⟩ := K
        refine Y.zald dX12_clean_135 (rfl) ((zM_23 hM).2.2) z_32 ?_
        refine Z.if_eq 151 dX12_clean_136 rfl ⟨fun c_33 => ?_, fun c_33 => ?_⟩
        · replace K := K.1 c_33
          refine Z.iconst (n := 0) dX12_clean_151 ⟨by decide, by decide⟩ ?_
          refine Z.istore_n (ls' := [(3, zI 0), (4, zI (((30 * v1) + 1))), (0, zR 50), (1, zI v1), (2, zI v2)]) dX12_clean_152 (by decide) rfl ?_
          refine Z.iconst (n := 0) dX12_clean_153 ⟨by decide, by decide⟩ ?_
          refine Z.istore (ls' := [(4, zI 0), (3, zI 0), (0, zR 50), (1, zI v1), (2, zI v2)]) dX12_clean_154 (by decide) rfl ?_
          refine Z.pick (ls' := [(0, zR 50), (1, zI v1), (2, zI v2), (3, zI 0), (4, zI 0)]) [2, 3, 4, 1, 0] rfl ?_
          exact K
        · replace K := K.2 c_33
          refine Z.aload_n (k := 2) dX12_clean_139 rfl ?_
          refine Z.iload_n (k := 3) dX12_clean_140 rfl ?_
          obtain ⟨x_34, m_35, K⟩ := K
          refine Y.callV (g := zm_X12_hasLikeSides) (vs := [zI v1]) (st := []) dX12_clean_141 ⟨zg_X12_hasLikeSides.1, zg_X12_hasLikeSides.2.1, zg_X12_hasLikeSides.2.2, by decide⟩ ⟨zk_X12_177, zv_X12_hasLikeSides⟩ (ci := 12) (rfl) rfl ((zM_1 hM).2.1) rfl rfl (Nat.le_of_ble_eq_true rfl) m_35 (Or.inl rfl) ?_
          show Z zm_X12_clean kz Q 144 [(4, zI (((30 * v1) + 1))), (3, zI 0), (0, zR 50), (1, zI v1), (2, zI v2)] [zI x_34] (d, G, E_29)
          refine Z.if_eq 151 dX12_clean_144 rfl ⟨fun c_37 => ?_, fun c_37 => ?_⟩
          · replace K := K.1 c_37
            refine Z.iconst (n := 0) dX12_clean_151 ⟨by decide, by decide⟩ ?_
            refine Z.istore_n (ls' := [(3, zI 0), (4, zI (((30 * v1) + 1))), (0, zR 50), (1, zI v1), (2, zI v2)]) dX12_clean_152 (by decide) rfl ?_
            refine Z.iconst (n := 0) dX12_clean_153 ⟨by decide, by decide⟩ ?_
            refine Z.istore (ls' := [(4, zI 0), (3, zI 0), (0, zR 50), (1, zI v1), (2, zI v2)]) dX12_clean_154 (by decide) rfl ?_
            refine Z.pick (ls' := [(0, zR 50), (1, zI v1), (2, zI v2), (3, zI 0), (4, zI 0)]) [2, 3, 4, 1, 0] rfl ?_
            exact K
          · replace K := K.2 c_37
            refine Z.iconst (n := 1) dX12_clean_147 ⟨by decide, by decide⟩ ?_
            refine Z.goto 152 dX12_clean_148 rfl ?_
            refine Z.istore_n (ls' := [(3, zI 1), (4, zI (((30 * v1) + 1))), (0, zR 50), (1, zI v1), (2, zI v2)]) dX12_clean_152 (by decide) rfl ?_
            refine Z.iconst (n := 0) dX12_clean_153 ⟨by decide, by decide⟩ ?_
            refine Z.istore (ls' := [(4, zI 0), (3, zI 1), (0, zR 50), (1, zI v1), (2, zI v2)]) dX12_clean_154 (by decide) rfl ?_
            refine Z.pick (ls' := [(0, zR 50), (1, zI v1), (2, zI v2), (3, zI 1), (4, zI 0)]) [2, 3, 4, 1, 0] rfl ?_
            exact K
  · replace K := K.2 c_2
    refine Z.aload_n (k := 0) dX12_clean_24 rfl ?_
    refine Y.getR (o := some 72) 21 dX12_clean_25 zl_X12_69 (rfl) (by decide) rfl (zM_1 hM).2.1 (zM_21 hM).1 ?_
    refine Z.bipush (n := 30) dX12_clean_28 ⟨by decide, by decide⟩ (by decide) ?_
    refine Z.iload_n (k := 1) dX12_clean_30 rfl ?_
    obtain ⟨z_38, K⟩ := K
    refine Z.imul dX12_clean_31 z_38 ?_
    refine Z.iload_n (k := 3) dX12_clean_32 rfl ?_
    obtain ⟨z_39, K⟩ := K
    refine Z.iadd dX12_clean_33 z_39 ?_
    refine Z.aload_n (k := 0) dX12_clean_34 rfl ?_
    refine Y.getR (o := some 72) 21 dX12_clean_35 zl_X12_69 (rfl) (by decide) rfl (zM_1 hM).2.1 (zM_21 hM).1 ?_
    refine Z.bipush (n := 30) dX12_clean_38 ⟨by decide, by decide⟩ (by decide) ?_
    refine Z.iload_n (k := 2) dX12_clean_40 rfl ?_
    obtain ⟨z_40, K⟩ := K
    refine Z.imul dX12_clean_41 z_40 ?_
    refine Z.iload_n (k := 3) dX12_clean_42 rfl ?_
    obtain ⟨z_41, K⟩ := K
    refine Z.iadd dX12_clean_43 z_41 ?_
    obtain ⟨z_42, K⟩ := K
    refine Y.iald dX12_clean_44 (rfl) ((zM_21 hM).2.2) z_42 ?_
    obtain ⟨z_43, K⟩ := K
    refine Y.iast dX12_clean_45 (rfl) ((zM_21 hM).2.2) z_43 ?_
    generalize eE_44 : zuE E 72 (((30 * v1) + v3)) ((E 72 ((30 * v2) + v3))) = E_44
    replace K := K E_44 eE_44.symm
    obtain ⟨z_45, K⟩ := K
    refine Z.iinc (k := 3) (ls' := [(3, zI ((v3 + 1))), (0, zR 50), (1, zI v1), (2, zI v2)]) dX12_clean_46 rfl (by decide) z_45 rfl ?_
    refine Z.goto 14 dX12_clean_49 rfl ?_
    refine Z.pick (ls' := [(0, zR 50), (1, zI v1), (2, zI v2), (3, zI ((v3 + 1)))]) [1, 2, 3, 0] rfl ?_
    exact K
set_option maxRecDepth 20000 in
theorem X12_clean_156 {kz : Nat × Nat} {Q : Option zV → zH → Prop} {d : List Nat} {G : Nat → Int → Option Nat} {E : Nat → Int → Int} {v1 : Int} {v2 : Int} {v3 : Int} {v4 : Int} (hM : zK zMt d G) (K : (v1 ≤ v4 → (v3 = 0 → zin (v1 + 1) ∧ zin (v2 + 1) ∧ Z zm_X12_clean kz Q 4 [(0, zR 50), (1, zI ((v1 + 1))), (2, zI ((v2 + 1)))] [] (d, G, E)) ∧ (¬ (v3 = 0) → zin (v1 + 0) ∧ zin (v2 + 1) ∧ Z zm_X12_clean kz Q 4 [(0, zR 50), (1, zI ((v1 + 0))), (2, zI ((v2 + 1)))] [] (d, G, E))) ∧ (¬ (v1 ≤ v4) → ((0 : Int) ≤ v4 ∧ v4 < (6 : Int)) ∧ ((0 : Int) ≤ v1 ∧ v1 < (6 : Int)) ∧ ((E 74 v4) ≠ (E 74 v1) → zin (v4 + 1) ∧ Z zm_X12_clean kz Q 156 [(0, zR 50), (1, zI v1), (2, zI v2), (3, zI ((zor v3 0))), (4, zI ((v4 + 1)))] [] (d, G, E)) ∧ (¬ ((E 74 v4) ≠ (E 74 v1)) → ∃ x_11, zM zm_X12_areAlike [zR 50, zI v4, zI v1] (d, G, E) (some (zI x_11)) (d, G, E) ∧ (x_11 = 0 → zin (v4 + 1) ∧ Z zm_X12_clean kz Q 156 [(0, zR 50), (1, zI v1), (2, zI v2), (3, zI ((zor v3 0))), (4, zI ((v4 + 1)))] [] (d, G, E)) ∧ (¬ (x_11 = 0) → zin (v4 + 1) ∧ Z zm_X12_clean kz Q 156 [(0, zR 50), (1, zI v1), (2, zI v2), (3, zI ((zor v3 1))), (4, zI ((v4 + 1)))] [] (d, G, E))))) : Z zm_X12_clean kz Q 156 [(0, zR 50), (1, zI v1), (2, zI v2), (3, zI v3), (4, zI v4)] [] (d, G, E) := by
  refine Z.iload (k := 4) dX12_clean_156 rfl ?_
  refine Z.iload_n (k := 1) dX12_clean_158 rfl ?_
  refine Z.icmp_ge 202 dX12_clean_159 rfl ⟨fun c_1 => ?_, fun c_1 => ?_⟩
  · replace K := K.1 c_1
    refine Z.iload_n (k := 1) dX12_clean_202 rfl ?_
    refine Z.iload_n (k := 3) dX12_clean_203 rfl ?_
    refine Z.if_eq 211 dX12_clean_204 rfl ⟨fun c_2 => ?_, fun c_2 => ?_⟩
    · replace K := K.1 c_2
      refine Z.iconst (n := 1) dX12_clean_211 ⟨by decide, by decide⟩ ?_
      obtain ⟨z_3, K⟩ := K
      refine Z.iadd dX12_clean_212 z_3 ?_
      refine Z.istore_n (ls' := [(1, zI ((v1 + 1))), (0, zR 50), (2, zI v2), (3, zI v3), (4, zI v4)]) dX12_clean_213 (by decide) rfl ?_
      obtain ⟨z_4, K⟩ := K
      refine Z.iinc (k := 2) (ls' := [(2, zI ((v2 + 1))), (1, zI ((v1 + 1))), (0, zR 50), (3, zI v3), (4, zI v4)]) dX12_clean_214 rfl (by decide) z_4 rfl ?_
      refine Z.goto 4 dX12_clean_217 rfl ?_
      refine Z.pick (ls' := [(0, zR 50), (1, zI ((v1 + 1))), (2, zI ((v2 + 1)))]) [2, 1, 0] rfl ?_
      exact K
    · replace K := K.2 c_2
      refine Z.iconst (n := 0) dX12_clean_207 ⟨by decide, by decide⟩ ?_
      refine Z.goto 212 dX12_clean_208 rfl ?_
      obtain ⟨z_5, K⟩ := K
      refine Z.iadd dX12_clean_212 z_5 ?_
      refine Z.istore_n (ls' := [(1, zI ((v1 + 0))), (0, zR 50), (2, zI v2), (3, zI v3), (4, zI v4)]) dX12_clean_213 (by decide) rfl ?_
      obtain ⟨z_6, K⟩ := K
      refine Z.iinc (k := 2) (ls' := [(2, zI ((v2 + 1))), (1, zI ((v1 + 0))), (0, zR 50), (3, zI v3), (4, zI v4)]) dX12_clean_214 rfl (by decide) z_6 rfl ?_
      refine Z.goto 4 dX12_clean_217 rfl ?_
      refine Z.pick (ls' := [(0, zR 50), (1, zI ((v1 + 0))), (2, zI ((v2 + 1)))]) [2, 1, 0] rfl ?_
      exact K
  · replace K := K.2 c_1
    refine Z.iload_n (k := 3) dX12_clean_162 rfl ?_
    refine Z.aload_n (k := 0) dX12_clean_163 rfl ?_
    refine Y.getR (o := some 74) 23 dX12_clean_164 zl_X12_75 (rfl) (by decide) rfl (zM_1 hM).2.1 (zM_23 hM).1 ?_
    refine Z.iload (k := 4) dX12_clean_167 rfl ?_
    obtain ⟨z_7, K⟩ := K
    refine Y.zald dX12_clean_169 (rfl) ((zM_23 hM).2.2) z_7 ?_
    refine Z.aload_n (k := 0) dX12_clean_170 rfl ?_
    refine Y.getR (o := some 74) 23 dX12_clean_171 zl_X12_75 (rfl) (by decide) rfl (zM_1 hM).2.1 (zM_23 hM).1 ?_
    refine Z.iload_n (k := 1) dX12_clean_174 rfl ?_
    obtain ⟨z_8, K⟩ := K
    refine Y.zald dX12_clean_175 (rfl) ((zM_23 hM).2.2) z_8 ?_
    refine Z.icmp_ne 193 dX12_clean_176 rfl ⟨fun c_9 => ?_, fun c_9 => ?_⟩
    · replace K := K.1 c_9
      refine Z.iconst (n := 0) dX12_clean_193 ⟨by decide, by decide⟩ ?_
      refine Z.ior dX12_clean_194 ?_
      refine Z.istore_n (ls' := [(3, zI ((zor v3 0))), (0, zR 50), (1, zI v1), (2, zI v2), (4, zI v4)]) dX12_clean_195 (by decide) rfl ?_
      obtain ⟨z_10, K⟩ := K
      refine Z.iinc (k := 4) (ls' := [(4, zI ((v4 + 1))), (3, zI ((zor v3 0))), (0, zR 50), (1, zI v1), (2, zI v2)]) dX12_clean_196 rfl (by decide) z_10 rfl ?_
      refine Z.goto 156 dX12_clean_199 rfl ?_
      refine Z.pick (ls' := [(0, zR 50), (1, zI v1), (2, zI v2), (3, zI ((zor v3 0))), (4, zI ((v4 + 1)))]) [2, 3, 4, 1, 0] rfl ?_
      exact K
    · replace K := K.2 c_9
      refine Z.aload_n (k := 0) dX12_clean_179 rfl ?_
      refine Z.iload (k := 4) dX12_clean_180 rfl ?_
      refine Z.iload_n (k := 1) dX12_clean_182 rfl ?_
      obtain ⟨x_11, m_12, K⟩ := K
      refine Y.callV (g := zm_X12_areAlike) (vs := [zI v4, zI v1]) (st := [zI v3]) dX12_clean_183 ⟨zg_X12_areAlike.1, zg_X12_areAlike.2.1, zg_X12_areAlike.2.2, by decide⟩ ⟨zk_X12_181, zv_X12_areAlike⟩ (ci := 12) (rfl) rfl ((zM_1 hM).2.1) rfl rfl (Nat.le_of_ble_eq_true rfl) m_12 (Or.inl rfl) ?_
      show Z zm_X12_clean kz Q 186 [(0, zR 50), (1, zI v1), (2, zI v2), (3, zI v3), (4, zI v4)] [zI x_11, zI v3] (d, G, E)
      refine Z.if_eq 193 dX12_clean_186 rfl ⟨fun c_14 => ?_, fun c_14 => ?_⟩
      · replace K := K.1 c_14
        refine Z.iconst (n := 0) dX12_clean_193 ⟨by decide, by decide⟩ ?_
        refine Z.ior dX12_clean_194 ?_
        refine Z.istore_n (ls' := [(3, zI ((zor v3 0))), (0, zR 50), (1, zI v1), (2, zI v2), (4, zI v4)]) dX12_clean_195 (by decide) rfl ?_
        obtain ⟨z_15, K⟩ := K
        refine Z.iinc (k := 4) (ls' := [(4, zI ((v4 + 1))), (3, zI ((zor v3 0))), (0, zR 50), (1, zI v1), (2, zI v2)]) dX12_clean_196 rfl (by decide) z_15 rfl ?_
        refine Z.goto 156 dX12_clean_199 rfl ?_
        refine Z.pick (ls' := [(0, zR 50), (1, zI v1), (2, zI v2), (3, zI ((zor v3 0))), (4, zI ((v4 + 1)))]) [2, 3, 4, 1, 0] rfl ?_
        exact K
      · replace K := K.2 c_14
        refine Z.iconst (n := 1) dX12_clean_189 ⟨by decide, by decide⟩ ?_
        refine Z.goto 194 dX12_clean_190 rfl ?_
        refine Z.ior dX12_clean_194 ?_
        refine Z.istore_n (ls' := [(3, zI ((zor v3 1))), (0, zR 50), (1, zI v1), (2, zI v2), (4, zI v4)]) dX12_clean_195 (by decide) rfl ?_
        obtain ⟨z_16, K⟩ := K
        refine Z.iinc (k := 4) (ls' := [(4, zI ((v4 + 1))), (3, zI ((zor v3 1))), (0, zR 50), (1, zI v1), (2, zI v2)]) dX12_clean_196 rfl (by decide) z_16 rfl ?_
        refine Z.goto 156 dX12_clean_199 rfl ?_
        refine Z.pick (ls' := [(0, zR 50), (1, zI v1), (2, zI v2), (3, zI ((zor v3 1))), (4, zI ((v4 + 1)))]) [2, 3, 4, 1, 0] rfl ?_
        exact K
set_option maxRecDepth 20000 in
theorem X12_clean_232 {kz : Nat × Nat} {Q : Option zV → zH → Prop} {d : List Nat} {G : Nat → Int → Option Nat} {E : Nat → Int → Int} {v2 : Int} (hM : zK zMt d G) (K : (40 ≤ v2 → Z zm_X12_clean kz Q 253 [(0, zR 50), (2, zI 0)] [] (d, G, E)) ∧ (¬ (40 ≤ v2) → ((0 : Int) ≤ v2 ∧ v2 < (40 : Int)) ∧ ∀ E_3, E_3 = zuE E 78 v2 ((-1)) → zin (v2 + 1) ∧ Z zm_X12_clean kz Q 232 [(0, zR 50), (2, zI ((v2 + 1)))] [] (d, G, E_3))) : Z zm_X12_clean kz Q 232 [(0, zR 50), (2, zI v2)] [] (d, G, E) := by
  refine Z.iload_n (k := 1) dX12_clean_232 rfl ?_
  refine Z.bipush (n := 40) dX12_clean_233 ⟨by decide, by decide⟩ (by decide) ?_
  refine Z.icmp_ge 251 dX12_clean_235 rfl ⟨fun c_1 => ?_, fun c_1 => ?_⟩
  · replace K := K.1 c_1
    refine Z.iconst (n := 0) dX12_clean_251 ⟨by decide, by decide⟩ ?_
    refine Z.istore_n (ls' := [(2, zI 0), (0, zR 50)]) dX12_clean_252 (by decide) rfl ?_
    refine Z.pick (ls' := [(0, zR 50), (2, zI 0)]) [1, 0] rfl ?_
    exact K
  · replace K := K.2 c_1
    refine Z.aload_n (k := 0) dX12_clean_238 rfl ?_
    refine Y.getR (o := some 78) 27 dX12_clean_239 zl_X12_84 (rfl) (by decide) rfl (zM_1 hM).2.1 (zM_27 hM).1 ?_
    refine Z.iload_n (k := 1) dX12_clean_242 rfl ?_
    refine Z.iconst (n := -1) dX12_clean_243 ⟨by decide, by decide⟩ ?_
    obtain ⟨z_2, K⟩ := K
    refine Y.iast dX12_clean_244 (rfl) ((zM_27 hM).2.2) z_2 ?_
    generalize eE_3 : zuE E 78 v2 ((-1)) = E_3
    replace K := K E_3 eE_3.symm
    obtain ⟨z_4, K⟩ := K
    refine Z.iinc (k := 1) (ls' := [(2, zI ((v2 + 1))), (0, zR 50)]) dX12_clean_245 rfl (by decide) z_4 rfl ?_
    refine Z.goto 232 dX12_clean_248 rfl ?_
    refine Z.pick (ls' := [(0, zR 50), (2, zI ((v2 + 1)))]) [1, 0] rfl ?_
    exact K
set_option maxRecDepth 20000 in
theorem X12_clean_253 {kz : Nat × Nat} {Q : Option zV → zH → Prop} {d : List Nat} {G : Nat → Int → Option Nat} {E : Nat → Int → Int} {v2 : Int} (hM : zK zMt d G) (K : ((E 50 24) ≤ v2 → Q none (d, G, E)) ∧ (¬ ((E 50 24) ≤ v2) → zin (30 * v2) ∧ Z zm_X12_clean kz Q 266 [(0, zR 50), (2, zI v2), (3, zI ((30 * v2)))] [] (d, G, E))) : Z zm_X12_clean kz Q 253 [(0, zR 50), (2, zI v2)] [] (d, G, E) := by
  refine Z.iload_n (k := 1) dX12_clean_253 rfl ?_
  refine Z.aload_n (k := 0) dX12_clean_254 rfl ?_
  refine Y.getI 24 dX12_clean_255 zl_X12_167 (rfl) (by decide) rfl (zM_1 hM).2.1 ?_
  refine Z.icmp_ge 359 dX12_clean_258 rfl ⟨fun c_1 => ?_, fun c_1 => ?_⟩
  · replace K := K.1 c_1
    exact Z.vret dX12_clean_359 rfl K
  · replace K := K.2 c_1
    refine Z.bipush (n := 30) dX12_clean_261 ⟨by decide, by decide⟩ (by decide) ?_
    refine Z.iload_n (k := 1) dX12_clean_263 rfl ?_
    obtain ⟨z_2, K⟩ := K
    refine Z.imul dX12_clean_264 z_2 ?_
    refine Z.istore_n (ls' := [(3, zI ((30 * v2))), (0, zR 50), (2, zI v2)]) dX12_clean_265 (by decide) rfl ?_
    refine Z.pick (ls' := [(0, zR 50), (2, zI v2), (3, zI ((30 * v2)))]) [1, 2, 0] rfl ?_
    exact K
set_option maxRecDepth 20000 in
theorem X12_clean_266 {kz : Nat × Nat} {Q : Option zV → zH → Prop} {d : List Nat} {G : Nat → Int → Option Nat} {E : Nat → Int → Int} {v2 : Int} {v3 : Int} (hM : zK zMt d G) (K : zin (30 * v2) ∧ ((0 : Int) ≤ v2 ∧ v2 < (6 : Int)) ∧ zin ((30 * v2) + (E 73 v2)) ∧ (((30 * v2) + (E 73 v2)) ≤ v3 → zin (v2 + 1) ∧ Z zm_X12_clean kz Q 253 [(0, zR 50), (2, zI ((v2 + 1)))] [] (d, G, E)) ∧ (¬ (((30 * v2) + (E 73 v2)) ≤ v3) → ((0 : Int) ≤ v3 ∧ v3 < (180 : Int)) ∧ (0 ≤ (E 72 v3) → zin (v3 + 1) ∧ Z zm_X12_clean kz Q 266 [(0, zR 50), (2, zI v2), (3, zI ((v3 + 1)))] [] (d, G, E)) ∧ (¬ (0 ≤ (E 72 v3)) → ((0 : Int) ≤ v3 ∧ v3 < (180 : Int)) ∧ zin ((-1) - (E 72 v3)) ∧ ((0 : Int) ≤ ((-1) - (E 72 v3)) ∧ ((-1) - (E 72 v3)) < (40 : Int)) ∧ ((E 78 ((-1) - (E 72 v3))) ≠ (-1) → ((0 : Int) ≤ ((-1) - (E 72 v3)) ∧ ((-1) - (E 72 v3)) < (40 : Int)) ∧ zin ((-1) - (E 78 ((-1) - (E 72 v3)))) ∧ ((0 : Int) ≤ v3 ∧ v3 < (180 : Int)) ∧ ∀ E_16, E_16 = zuE E 72 v3 (((-1) - (E 78 ((-1) - (E 72 v3))))) → zin (v3 + 1) ∧ Z zm_X12_clean kz Q 266 [(0, zR 50), (2, zI v2), (3, zI ((v3 + 1)))] [] (d, G, E_16)) ∧ (¬ ((E 78 ((-1) - (E 72 v3))) ≠ (-1)) → ((0 : Int) ≤ ((-1) - (E 72 v3)) ∧ ((-1) - (E 72 v3)) < (40 : Int)) ∧ ∀ E_19, E_19 = zuE E 78 (((-1) - (E 72 v3))) ((E 50 28)) → zin ((E_19 50 28) + 1) ∧ ∀ E_21, E_21 = zuE E_19 50 28 (((E_19 50 28) + 1)) → ((0 : Int) ≤ ((-1) - (E 72 v3)) ∧ ((-1) - (E 72 v3)) < (40 : Int)) ∧ zin ((-1) - (E_21 78 ((-1) - (E 72 v3)))) ∧ ((0 : Int) ≤ v3 ∧ v3 < (180 : Int)) ∧ ∀ E_25, E_25 = zuE E_21 72 v3 (((-1) - (E_21 78 ((-1) - (E 72 v3))))) → zin (v3 + 1) ∧ Z zm_X12_clean kz Q 266 [(0, zR 50), (2, zI v2), (3, zI ((v3 + 1)))] [] (d, G, E_25))))) : Z zm_X12_clean kz Q 266 [(0, zR 50), (2, zI v2), (3, zI v3)] [] (d, G, E) := by
  refine Z.iload_n (k := 2) dX12_clean_266 rfl ?_
  refine Z.bipush (n := 30) dX12_clean_267 ⟨by decide, by decide⟩ (by decide) ?_
  refine Z.iload_n (k := 1) dX12_clean_269 rfl ?_
  obtain ⟨z_1, K⟩ := K
  refine Z.imul dX12_clean_270 z_1 ?_
  refine Z.aload_n (k := 0) dX12_clean_271 rfl ?_
  refine Y.getR (o := some 73) 22 dX12_clean_272 zl_X12_72 (rfl) (by decide) rfl (zM_1 hM).2.1 (zM_22 hM).1 ?_
  refine Z.iload_n (k := 1) dX12_clean_275 rfl ?_
  obtain ⟨z_2, K⟩ := K
  refine Y.iald dX12_clean_276 (rfl) ((zM_22 hM).2.2) z_2 ?_
  obtain ⟨z_3, K⟩ := K
  refine Z.iadd dX12_clean_277 z_3 ?_
  refine Z.icmp_ge 353 dX12_clean_278 rfl ⟨fun c_4 => ?_, fun c_4 => ?_⟩
  · replace K := K.1 c_4
    obtain ⟨z_5, K⟩ := K
    refine Z.iinc (k := 1) (ls' := [(2, zI ((v2 + 1))), (0, zR 50), (3, zI v3)]) dX12_clean_353 rfl (by decide) z_5 rfl ?_
    refine Z.goto 253 dX12_clean_356 rfl ?_
    refine Z.pick (ls' := [(0, zR 50), (2, zI ((v2 + 1)))]) [1, 0] rfl ?_
    exact K
  · replace K := K.2 c_4
    refine Z.aload_n (k := 0) dX12_clean_281 rfl ?_
    refine Y.getR (o := some 72) 21 dX12_clean_282 zl_X12_69 (rfl) (by decide) rfl (zM_1 hM).2.1 (zM_21 hM).1 ?_
    refine Z.iload_n (k := 2) dX12_clean_285 rfl ?_
    obtain ⟨z_6, K⟩ := K
    refine Y.iald dX12_clean_286 (rfl) ((zM_21 hM).2.2) z_6 ?_
    refine Z.if_ge 347 dX12_clean_287 rfl ⟨fun c_7 => ?_, fun c_7 => ?_⟩
    · replace K := K.1 c_7
      obtain ⟨z_8, K⟩ := K
      refine Z.iinc (k := 2) (ls' := [(3, zI ((v3 + 1))), (0, zR 50), (2, zI v2)]) dX12_clean_347 rfl (by decide) z_8 rfl ?_
      refine Z.goto 266 dX12_clean_350 rfl ?_
      refine Z.pick (ls' := [(0, zR 50), (2, zI v2), (3, zI ((v3 + 1)))]) [1, 2, 0] rfl ?_
      exact K
    · replace K := K.2 c_7
      refine Z.iconst (n := -1) dX12_clean_290 ⟨by decide, by decide⟩ ?_
      refine Z.aload_n (k := 0) dX12_clean_291 rfl ?_
      refine Y.getR (o := some 72) 21 dX12_clean_292 zl_X12_69 (rfl) (by decide) rfl (zM_1 hM).2.1 (zM_21 hM).1 ?_
      refine Z.iload_n (k := 2) dX12_clean_295 rfl ?_
      obtain ⟨z_9, K⟩ := K
      refine Y.iald dX12_clean_296 (rfl) ((zM_21 hM).2.2) z_9 ?_
      obtain ⟨z_10, K⟩ := K
      refine Z.isub dX12_clean_297 z_10 ?_
      refine Z.istore (ls' := [(4, zI (((-1) - (E 72 v3)))), (0, zR 50), (2, zI v2), (3, zI v3)]) dX12_clean_298 (by decide) rfl ?_
      refine Z.aload_n (k := 1) dX12_clean_300 rfl ?_
      refine Y.getR (o := some 78) 27 dX12_clean_301 zl_X12_84 (rfl) (by decide) rfl (zM_1 hM).2.1 (zM_27 hM).1 ?_
      refine Z.iload (k := 0) dX12_clean_304 rfl ?_
      obtain ⟨z_11, K⟩ := K
      refine Y.iald dX12_clean_306 (rfl) ((zM_27 hM).2.2) z_11 ?_
      refine Z.iconst (n := -1) dX12_clean_307 ⟨by decide, by decide⟩ ?_
      refine Z.icmp_ne 332 dX12_clean_308 rfl ⟨fun c_12 => ?_, fun c_12 => ?_⟩
      · replace K := K.1 c_12
        refine Z.aload_n (k := 1) dX12_clean_332 rfl ?_
        refine Y.getR (o := some 72) 21 dX12_clean_333 zl_X12_69 (rfl) (by decide) rfl (zM_1 hM).2.1 (zM_21 hM).1 ?_
        refine Z.iload_n (k := 3) dX12_clean_336 rfl ?_
        refine Z.iconst (n := -1) dX12_clean_337 ⟨by decide, by decide⟩ ?_
        refine Z.aload_n (k := 1) dX12_clean_338 rfl ?_
        refine Y.getR (o := some 78) 27 dX12_clean_339 zl_X12_84 (rfl) (by decide) rfl (zM_1 hM).2.1 (zM_27 hM).1 ?_
        refine Z.iload (k := 0) dX12_clean_342 rfl ?_
        obtain ⟨z_13, K⟩ := K
        refine Y.iald dX12_clean_344 (rfl) ((zM_27 hM).2.2) z_13 ?_
        obtain ⟨z_14, K⟩ := K
        refine Z.isub dX12_clean_345 z_14 ?_
        obtain ⟨z_15, K⟩ := K
        refine Y.iast dX12_clean_346 (rfl) ((zM_21 hM).2.2) z_15 ?_
        generalize eE_16 : zuE E 72 v3 (((-1) - (E 78 ((-1) - (E 72 v3))))) = E_16
        replace K := K E_16 eE_16.symm
        obtain ⟨z_17, K⟩ := K
        refine Z.iinc (k := 3) (ls' := [(3, zI ((v3 + 1))), (4, zI (((-1) - (E 72 v3)))), (0, zR 50), (2, zI v2)]) dX12_clean_347 rfl (by decide) z_17 rfl ?_
        refine Z.goto 266 dX12_clean_350 rfl ?_
        refine Z.pick (ls' := [(0, zR 50), (2, zI v2), (3, zI ((v3 + 1)))]) [2, 3, 0] rfl ?_
        exact K
      · replace K := K.2 c_12
        refine Z.aload_n (k := 1) dX12_clean_311 rfl ?_
        refine Y.getR (o := some 78) 27 dX12_clean_312 zl_X12_84 (rfl) (by decide) rfl (zM_1 hM).2.1 (zM_27 hM).1 ?_
        refine Z.iload (k := 0) dX12_clean_315 rfl ?_
        refine Z.aload_n (k := 1) dX12_clean_317 rfl ?_
        refine Y.getI 28 dX12_clean_318 zl_X12_185 (rfl) (by decide) rfl (zM_1 hM).2.1 ?_
        obtain ⟨z_18, K⟩ := K
        refine Y.iast dX12_clean_321 (rfl) ((zM_27 hM).2.2) z_18 ?_
        generalize eE_19 : zuE E 78 (((-1) - (E 72 v3))) ((E 50 28)) = E_19
        replace K := K E_19 eE_19.symm
        refine Z.aload_n (k := 1) dX12_clean_322 rfl ?_
        refine Z.dup_i dX12_clean_323 (fun _ => rfl) ?_
        refine Y.getI 28 dX12_clean_324 zl_X12_185 (rfl) (by decide) rfl (zM_1 hM).2.1 ?_
        refine Z.iconst (n := 1) dX12_clean_327 ⟨by decide, by decide⟩ ?_
        obtain ⟨z_20, K⟩ := K
        refine Z.iadd dX12_clean_328 z_20 ?_
        refine Y.putI 28 dX12_clean_329 zw_X12_185 (fun q => by cases q) (rfl) rfl (zM_1 hM).2.1 (Or.inl rfl) ?_
        generalize eE_21 : zuE E_19 50 28 (((E_19 50 28) + 1)) = E_21
        replace K := K E_21 eE_21.symm
        refine Z.aload_n (k := 1) dX12_clean_332 rfl ?_
        refine Y.getR (o := some 72) 21 dX12_clean_333 zl_X12_69 (rfl) (by decide) rfl (zM_1 hM).2.1 (zM_21 hM).1 ?_
        refine Z.iload_n (k := 3) dX12_clean_336 rfl ?_
        refine Z.iconst (n := -1) dX12_clean_337 ⟨by decide, by decide⟩ ?_
        refine Z.aload_n (k := 1) dX12_clean_338 rfl ?_
        refine Y.getR (o := some 78) 27 dX12_clean_339 zl_X12_84 (rfl) (by decide) rfl (zM_1 hM).2.1 (zM_27 hM).1 ?_
        refine Z.iload (k := 0) dX12_clean_342 rfl ?_
        obtain ⟨z_22, K⟩ := K
        refine Y.iald dX12_clean_344 (rfl) ((zM_27 hM).2.2) z_22 ?_
        obtain ⟨z_23, K⟩ := K
        refine Z.isub dX12_clean_345 z_23 ?_
        obtain ⟨z_24, K⟩ := K
        refine Y.iast dX12_clean_346 (rfl) ((zM_21 hM).2.2) z_24 ?_
        generalize eE_25 : zuE E_21 72 v3 (((-1) - (E_21 78 ((-1) - (E 72 v3))))) = E_25
        replace K := K E_25 eE_25.symm
        obtain ⟨z_26, K⟩ := K
        refine Z.iinc (k := 3) (ls' := [(3, zI ((v3 + 1))), (4, zI (((-1) - (E 72 v3)))), (0, zR 50), (2, zI v2)]) dX12_clean_347 rfl (by decide) z_26 rfl ?_
        refine Z.goto 266 dX12_clean_350 rfl ?_
        refine Z.pick (ls' := [(0, zR 50), (2, zI v2), (3, zI ((v3 + 1)))]) [2, 3, 0] rfl ?_
        exact K
set_option maxRecDepth 20000 in
theorem X12_isTrivial_0 {kz : Nat × Nat} {Q : Option zV → zH → Prop} {d : List Nat} {G : Nat → Int → Option Nat} {E : Nat → Int → Int}  (hM : zK zMt d G) (K : Z zm_X12_isTrivial kz Q 2 [(0, zR 50), (1, zI 0)] [] (d, G, E)) : Z zm_X12_isTrivial kz Q 0 [(0, zR 50)] [] (d, G, E) := by
  refine Z.iconst (n := 0) dX12_isTrivial_0 ⟨by decide, by decide⟩ ?_
  refine Z.istore_n (ls' := [(1, zI 0), (0, zR 50)]) dX12_isTrivial_1 (by decide) rfl ?_
  refine Z.pick (ls' := [(0, zR 50), (1, zI 0)]) [1, 0] rfl ?_
  exact K
set_option maxRecDepth 20000 in
theorem X12_isTrivial_2 {kz : Nat × Nat} {Q : Option zV → zH → Prop} {d : List Nat} {G : Nat → Int → Option Nat} {E : Nat → Int → Int} {v1 : Int} (hM : zK zMt d G) (K : ((E 50 24) ≤ v1 → Q (some (zI 0)) (d, G, E)) ∧ (¬ ((E 50 24) ≤ v1) → ((0 : Int) ≤ v1 ∧ v1 < (6 : Int)) ∧ ((E 74 v1) ≠ 0 → Z zm_X12_isTrivial kz Q 43 [(0, zR 50), (1, zI v1), (2, zI 0)] [] (d, G, E)) ∧ (¬ ((E 74 v1) ≠ 0) → zin (30 * v1) ∧ ((0 : Int) ≤ (30 * v1) ∧ (30 * v1) < (180 : Int)) ∧ ((E 72 (30 * v1)) ≠ 0 → Z zm_X12_isTrivial kz Q 43 [(0, zR 50), (1, zI v1), (2, zI 0)] [] (d, G, E)) ∧ (¬ ((E 72 (30 * v1)) ≠ 0) → ∃ x_7, zM zm_X12_hasLikeSides [zR 50, zI v1] (d, G, E) (some (zI x_7)) (d, G, E) ∧ (x_7 = 0 → Z zm_X12_isTrivial kz Q 43 [(0, zR 50), (1, zI v1), (2, zI 0)] [] (d, G, E)) ∧ (¬ (x_7 = 0) → Q (some (zI 1)) (d, G, E)))))) : Z zm_X12_isTrivial kz Q 2 [(0, zR 50), (1, zI v1)] [] (d, G, E) := by
  refine Z.iload_n (k := 1) dX12_isTrivial_2 rfl ?_
  refine Z.aload_n (k := 0) dX12_isTrivial_3 rfl ?_
  refine Y.getI 24 dX12_isTrivial_4 zl_X12_167 (rfl) (by decide) rfl (zM_1 hM).2.1 ?_
  refine Z.icmp_ge 92 dX12_isTrivial_7 rfl ⟨fun c_1 => ?_, fun c_1 => ?_⟩
  · replace K := K.1 c_1
    refine Z.iconst (n := 0) dX12_isTrivial_92 ⟨by decide, by decide⟩ ?_
    exact Z.iret (ty := .boolean) dX12_isTrivial_93 rfl rfl K
  · replace K := K.2 c_1
    refine Z.aload_n (k := 0) dX12_isTrivial_10 rfl ?_
    refine Y.getR (o := some 74) 23 dX12_isTrivial_11 zl_X12_75 (rfl) (by decide) rfl (zM_1 hM).2.1 (zM_23 hM).1 ?_
    refine Z.iload_n (k := 1) dX12_isTrivial_14 rfl ?_
    obtain ⟨z_2, K⟩ := K
    refine Y.zald dX12_isTrivial_15 (rfl) ((zM_23 hM).2.2) z_2 ?_
    refine Z.if_ne 41 dX12_isTrivial_16 rfl ⟨fun c_3 => ?_, fun c_3 => ?_⟩
    · replace K := K.1 c_3
      refine Z.iconst (n := 0) dX12_isTrivial_41 ⟨by decide, by decide⟩ ?_
      refine Z.istore_n (ls' := [(2, zI 0), (0, zR 50), (1, zI v1)]) dX12_isTrivial_42 (by decide) rfl ?_
      refine Z.pick (ls' := [(0, zR 50), (1, zI v1), (2, zI 0)]) [1, 2, 0] rfl ?_
      exact K
    · replace K := K.2 c_3
      refine Z.aload_n (k := 0) dX12_isTrivial_19 rfl ?_
      refine Y.getR (o := some 72) 21 dX12_isTrivial_20 zl_X12_69 (rfl) (by decide) rfl (zM_1 hM).2.1 (zM_21 hM).1 ?_
      refine Z.bipush (n := 30) dX12_isTrivial_23 ⟨by decide, by decide⟩ (by decide) ?_
      refine Z.iload_n (k := 1) dX12_isTrivial_25 rfl ?_
      obtain ⟨z_4, K⟩ := K
      refine Z.imul dX12_isTrivial_26 z_4 ?_
      obtain ⟨z_5, K⟩ := K
      refine Y.iald dX12_isTrivial_27 (rfl) ((zM_21 hM).2.2) z_5 ?_
      refine Z.if_ne 41 dX12_isTrivial_28 rfl ⟨fun c_6 => ?_, fun c_6 => ?_⟩
      · replace K := K.1 c_6
        refine Z.iconst (n := 0) dX12_isTrivial_41 ⟨by decide, by decide⟩ ?_
        refine Z.istore_n (ls' := [(2, zI 0), (0, zR 50), (1, zI v1)]) dX12_isTrivial_42 (by decide) rfl ?_
        refine Z.pick (ls' := [(0, zR 50), (1, zI v1), (2, zI 0)]) [1, 2, 0] rfl ?_
        exact K
      · replace K := K.2 c_6
        refine Z.aload_n (k := 0) dX12_isTrivial_31 rfl ?_
        refine Z.iload_n (k := 1) dX12_isTrivial_32 rfl ?_
        obtain ⟨x_7, m_8, K⟩ := K
        refine Y.callV (g := zm_X12_hasLikeSides) (vs := [zI v1]) (st := []) dX12_isTrivial_33 ⟨zg_X12_hasLikeSides.1, zg_X12_hasLikeSides.2.1, zg_X12_hasLikeSides.2.2, by decide⟩ ⟨zk_X12_177, zv_X12_hasLikeSides⟩ (ci := 12) (rfl) rfl ((zM_1 hM).2.1) rfl rfl (Nat.le_of_ble_eq_true rfl) m_8 (Or.inl rfl) ?_
        show Z zm_X12_isTrivial kz Q 36 [(0, zR 50), (1, zI v1)] [zI x_7] (d, G, E)
        refine Z.if_eq 41 dX12_isTrivial_36 rfl ⟨fun c_10 => ?_, fun c_10 => ?_⟩
        · replace K := K.1 c_10
          refine Z.iconst (n := 0) dX12_isTrivial_41 ⟨by decide, by decide⟩ ?_
          refine Z.istore_n (ls' := [(2, zI 0), (0, zR 50), (1, zI v1)]) dX12_isTrivial_42 (by decide) rfl ?_
          refine Z.pick (ls' := [(0, zR 50), (1, zI v1), (2, zI 0)]) [1, 2, 0] rfl ?_
          exact K
        · replace K := K.2 c_10
          refine Z.iconst (n := 1) dX12_isTrivial_39 ⟨by decide, by decide⟩ ?_
          exact Z.iret (ty := .boolean) dX12_isTrivial_40 rfl rfl K
set_option maxRecDepth 20000 in
theorem X12_isTrivial_43 {kz : Nat × Nat} {Q : Option zV → zH → Prop} {d : List Nat} {G : Nat → Int → Option Nat} {E : Nat → Int → Int} {v1 : Int} {v2 : Int} (hM : zK zMt d G) (K : ((E 50 24) ≤ v2 → zin (v1 + 1) ∧ Z zm_X12_isTrivial kz Q 2 [(0, zR 50), (1, zI ((v1 + 1)))] [] (d, G, E)) ∧ (¬ ((E 50 24) ≤ v2) → ((0 : Int) ≤ v1 ∧ v1 < (6 : Int)) ∧ ((E 74 v1) = 0 → zin (v2 + 1) ∧ Z zm_X12_isTrivial kz Q 43 [(0, zR 50), (1, zI v1), (2, zI ((v2 + 1)))] [] (d, G, E)) ∧ (¬ ((E 74 v1) = 0) → ((0 : Int) ≤ v2 ∧ v2 < (6 : Int)) ∧ ((E 74 v2) ≠ 0 → zin (v2 + 1) ∧ Z zm_X12_isTrivial kz Q 43 [(0, zR 50), (1, zI v1), (2, zI ((v2 + 1)))] [] (d, G, E)) ∧ (¬ ((E 74 v2) ≠ 0) → ∃ x_9, zM zm_X12_areAlike [zR 50, zI v1, zI v2] (d, G, E) (some (zI x_9)) (d, G, E) ∧ (x_9 = 0 → zin (v2 + 1) ∧ Z zm_X12_isTrivial kz Q 43 [(0, zR 50), (1, zI v1), (2, zI ((v2 + 1)))] [] (d, G, E)) ∧ (¬ (x_9 = 0) → Q (some (zI 1)) (d, G, E)))))) : Z zm_X12_isTrivial kz Q 43 [(0, zR 50), (1, zI v1), (2, zI v2)] [] (d, G, E) := by
  refine Z.iload_n (k := 2) dX12_isTrivial_43 rfl ?_
  refine Z.aload_n (k := 0) dX12_isTrivial_44 rfl ?_
  refine Y.getI 24 dX12_isTrivial_45 zl_X12_167 (rfl) (by decide) rfl (zM_1 hM).2.1 ?_
  refine Z.icmp_ge 86 dX12_isTrivial_48 rfl ⟨fun c_1 => ?_, fun c_1 => ?_⟩
  · replace K := K.1 c_1
    obtain ⟨z_2, K⟩ := K
    refine Z.iinc (k := 1) (ls' := [(1, zI ((v1 + 1))), (0, zR 50), (2, zI v2)]) dX12_isTrivial_86 rfl (by decide) z_2 rfl ?_
    refine Z.goto 2 dX12_isTrivial_89 rfl ?_
    refine Z.pick (ls' := [(0, zR 50), (1, zI ((v1 + 1)))]) [1, 0] rfl ?_
    exact K
  · replace K := K.2 c_1
    refine Z.aload_n (k := 0) dX12_isTrivial_51 rfl ?_
    refine Y.getR (o := some 74) 23 dX12_isTrivial_52 zl_X12_75 (rfl) (by decide) rfl (zM_1 hM).2.1 (zM_23 hM).1 ?_
    refine Z.iload_n (k := 1) dX12_isTrivial_55 rfl ?_
    obtain ⟨z_3, K⟩ := K
    refine Y.zald dX12_isTrivial_56 (rfl) ((zM_23 hM).2.2) z_3 ?_
    refine Z.if_eq 80 dX12_isTrivial_57 rfl ⟨fun c_4 => ?_, fun c_4 => ?_⟩
    · replace K := K.1 c_4
      obtain ⟨z_5, K⟩ := K
      refine Z.iinc (k := 2) (ls' := [(2, zI ((v2 + 1))), (0, zR 50), (1, zI v1)]) dX12_isTrivial_80 rfl (by decide) z_5 rfl ?_
      refine Z.goto 43 dX12_isTrivial_83 rfl ?_
      refine Z.pick (ls' := [(0, zR 50), (1, zI v1), (2, zI ((v2 + 1)))]) [1, 2, 0] rfl ?_
      exact K
    · replace K := K.2 c_4
      refine Z.aload_n (k := 0) dX12_isTrivial_60 rfl ?_
      refine Y.getR (o := some 74) 23 dX12_isTrivial_61 zl_X12_75 (rfl) (by decide) rfl (zM_1 hM).2.1 (zM_23 hM).1 ?_
      refine Z.iload_n (k := 2) dX12_isTrivial_64 rfl ?_
      obtain ⟨z_6, K⟩ := K
      refine Y.zald dX12_isTrivial_65 (rfl) ((zM_23 hM).2.2) z_6 ?_
      refine Z.if_ne 80 dX12_isTrivial_66 rfl ⟨fun c_7 => ?_, fun c_7 => ?_⟩
      · replace K := K.1 c_7
        obtain ⟨z_8, K⟩ := K
        refine Z.iinc (k := 2) (ls' := [(2, zI ((v2 + 1))), (0, zR 50), (1, zI v1)]) dX12_isTrivial_80 rfl (by decide) z_8 rfl ?_
        refine Z.goto 43 dX12_isTrivial_83 rfl ?_
        refine Z.pick (ls' := [(0, zR 50), (1, zI v1), (2, zI ((v2 + 1)))]) [1, 2, 0] rfl ?_
        exact K
      · replace K := K.2 c_7
        refine Z.aload_n (k := 0) dX12_isTrivial_69 rfl ?_
        refine Z.iload_n (k := 1) dX12_isTrivial_70 rfl ?_
        refine Z.iload_n (k := 2) dX12_isTrivial_71 rfl ?_
        obtain ⟨x_9, m_10, K⟩ := K
        refine Y.callV (g := zm_X12_areAlike) (vs := [zI v1, zI v2]) (st := []) dX12_isTrivial_72 ⟨zg_X12_areAlike.1, zg_X12_areAlike.2.1, zg_X12_areAlike.2.2, by decide⟩ ⟨zk_X12_181, zv_X12_areAlike⟩ (ci := 12) (rfl) rfl ((zM_1 hM).2.1) rfl rfl (Nat.le_of_ble_eq_true rfl) m_10 (Or.inl rfl) ?_
        show Z zm_X12_isTrivial kz Q 75 [(0, zR 50), (1, zI v1), (2, zI v2)] [zI x_9] (d, G, E)
        refine Z.if_eq 80 dX12_isTrivial_75 rfl ⟨fun c_12 => ?_, fun c_12 => ?_⟩
        · replace K := K.1 c_12
          obtain ⟨z_13, K⟩ := K
          refine Z.iinc (k := 2) (ls' := [(2, zI ((v2 + 1))), (0, zR 50), (1, zI v1)]) dX12_isTrivial_80 rfl (by decide) z_13 rfl ?_
          refine Z.goto 43 dX12_isTrivial_83 rfl ?_
          refine Z.pick (ls' := [(0, zR 50), (1, zI v1), (2, zI ((v2 + 1)))]) [1, 2, 0] rfl ?_
          exact K
        · replace K := K.2 c_12
          refine Z.iconst (n := 1) dX12_isTrivial_78 ⟨by decide, by decide⟩ ?_
          exact Z.iret (ty := .boolean) dX12_isTrivial_79 rfl rfl K
set_option maxRecDepth 20000 in
theorem X12_unbind_0 {kz : Nat × Nat} {Q : Option zV → zH → Prop} {d : List Nat} {G : Nat → Int → Option Nat} {E : Nat → Int → Int}  (hM : zK zMt d G) (K : Z zm_X12_unbind kz Q 2 [(0, zR 50), (1, zI 0)] [] (d, G, E)) : Z zm_X12_unbind kz Q 0 [(0, zR 50)] [] (d, G, E) := by
  refine Z.iconst (n := 0) dX12_unbind_0 ⟨by decide, by decide⟩ ?_
  refine Z.istore_n (ls' := [(1, zI 0), (0, zR 50)]) dX12_unbind_1 (by decide) rfl ?_
  refine Z.pick (ls' := [(0, zR 50), (1, zI 0)]) [1, 0] rfl ?_
  exact K
set_option maxRecDepth 20000 in
theorem X12_unbind_2 {kz : Nat × Nat} {Q : Option zV → zH → Prop} {d : List Nat} {G : Nat → Int → Option Nat} {E : Nat → Int → Int} {v1 : Int} (hM : zK zMt d G) (K : (20 ≤ v1 → Q none (d, G, E)) ∧ (¬ (20 ≤ v1) → ((0 : Int) ≤ v1 ∧ v1 < (20 : Int)) ∧ ∀ E_3, E_3 = zuE E 80 v1 ((-1)) → zin (v1 + 1) ∧ Z zm_X12_unbind kz Q 2 [(0, zR 50), (1, zI ((v1 + 1)))] [] (d, G, E_3))) : Z zm_X12_unbind kz Q 2 [(0, zR 50), (1, zI v1)] [] (d, G, E) := by
  refine Z.iload_n (k := 1) dX12_unbind_2 rfl ?_
  refine Z.bipush (n := 20) dX12_unbind_3 ⟨by decide, by decide⟩ (by decide) ?_
  refine Z.icmp_ge 21 dX12_unbind_5 rfl ⟨fun c_1 => ?_, fun c_1 => ?_⟩
  · replace K := K.1 c_1
    exact Z.vret dX12_unbind_21 rfl K
  · replace K := K.2 c_1
    refine Z.aload_n (k := 0) dX12_unbind_8 rfl ?_
    refine Y.getR (o := some 80) 29 dX12_unbind_9 zl_X12_87 (rfl) (by decide) rfl (zM_1 hM).2.1 (zM_29 hM).1 ?_
    refine Z.iload_n (k := 1) dX12_unbind_12 rfl ?_
    refine Z.iconst (n := -1) dX12_unbind_13 ⟨by decide, by decide⟩ ?_
    obtain ⟨z_2, K⟩ := K
    refine Y.iast dX12_unbind_14 (rfl) ((zM_29 hM).2.2) z_2 ?_
    generalize eE_3 : zuE E 80 v1 ((-1)) = E_3
    replace K := K E_3 eE_3.symm
    obtain ⟨z_4, K⟩ := K
    refine Z.iinc (k := 1) (ls' := [(1, zI ((v1 + 1))), (0, zR 50)]) dX12_unbind_15 rfl (by decide) z_4 rfl ?_
    refine Z.goto 2 dX12_unbind_18 rfl ?_
    refine Z.pick (ls' := [(0, zR 50), (1, zI ((v1 + 1)))]) [1, 0] rfl ?_
    exact K
set_option maxRecDepth 20000 in
theorem X12_goesOnMatching_0 {kz : Nat × Nat} {Q : Option zV → zH → Prop} {d : List Nat} {G : Nat → Int → Option Nat} {E : Nat → Int → Int} {a1 n1 : Nat} {v2 : Int} {v3 : Int} {a4 n4 : Nat} {v5 : Int} (hM : zK zMt d G) (ha1 : a1 ∈ d) (hk1 : zkd a1 = (0, n1)) (ha4 : a4 ∈ d) (hk4 : zkd a4 = (0, n4)) (K : Z zm_X12_goesOnMatching kz Q 7 [(0, zR 50), (1, zR a1), (3, zI v3), (4, zR a4), (6, zI v5), (7, zI v2)] [] (d, G, E)) : Z zm_X12_goesOnMatching kz Q 0 [(0, zR 50), (1, zR a1), (2, zI v2), (3, zI v3), (4, zR a4), (5, zI v5)] [] (d, G, E) := by
  refine Z.iload (k := 5) dX12_goesOnMatching_0 rfl ?_
  refine Z.istore (ls' := [(6, zI v5), (0, zR 50), (1, zR a1), (2, zI v2), (3, zI v3), (4, zR a4), (5, zI v5)]) dX12_goesOnMatching_2 (by decide) rfl ?_
  refine Z.iload_n (k := 3) dX12_goesOnMatching_4 rfl ?_
  refine Z.istore (ls' := [(7, zI v2), (6, zI v5), (0, zR 50), (1, zR a1), (2, zI v2), (3, zI v3), (4, zR a4), (5, zI v5)]) dX12_goesOnMatching_5 (by decide) rfl ?_
  refine Z.pick (ls' := [(0, zR 50), (1, zR a1), (3, zI v3), (4, zR a4), (6, zI v5), (7, zI v2)]) [2, 3, 5, 6, 1, 0] rfl ?_
  exact K
set_option maxRecDepth 20000 in
theorem X12_goesOnMatching_7 {kz : Nat × Nat} {Q : Option zV → zH → Prop} {d : List Nat} {G : Nat → Int → Option Nat} {E : Nat → Int → Int} {a1 n1 : Nat} {v3 : Int} {a4 n4 : Nat} {v6 : Int} {v7 : Int} (hM : zK zMt d G) (ha1 : a1 ∈ d) (hk1 : zkd a1 = (0, n1)) (ha4 : a4 ∈ d) (hk4 : zkd a4 = (0, n4)) (K : (v3 ≤ v7 → Q (some (zI 1)) (d, G, E)) ∧ (¬ (v3 ≤ v7) → ((0 : Int) ≤ v7 ∧ v7 < (n1 : Int)) ∧ ((E a1 v7) < 0 → ((0 : Int) ≤ v7 ∧ v7 < (n1 : Int)) ∧ zin ((-1) - (E a1 v7)) ∧ ∃ x_6, zM zm_X12_endOf [zR 50, zR a4, zI v6] (d, G, E) (some (zI x_6)) (d, G, E) ∧ zin (x_6 - v6) ∧ ((0 : Int) ≤ ((-1) - (E a1 v7)) ∧ ((-1) - (E a1 v7)) < (20 : Int)) ∧ ((E 80 ((-1) - (E a1 v7))) ≠ (-1) → ((0 : Int) ≤ ((-1) - (E a1 v7)) ∧ ((-1) - (E a1 v7)) < (20 : Int)) ∧ ((E 81 ((-1) - (E a1 v7))) ≠ (x_6 - v6) → Q (some (zI 0)) (d, G, E)) ∧ (¬ ((E 81 ((-1) - (E a1 v7))) ≠ (x_6 - v6)) → ((0 : Int) ≤ ((-1) - (E a1 v7)) ∧ ((-1) - (E a1 v7)) < (20 : Int)) ∧ ∃ x_15, zM zm_X12_isLike [zR a4, zI ((E 80 ((-1) - (E a1 v7)))), zR a4, zI v6, zI ((x_6 - v6))] (d, G, E) (some (zI x_15)) (d, G, E) ∧ (x_15 ≠ 0 → zin (v6 + (x_6 - v6)) ∧ zin (v7 + 1) ∧ Z zm_X12_goesOnMatching kz Q 7 [(0, zR 50), (1, zR a1), (3, zI v3), (4, zR a4), (6, zI ((v6 + (x_6 - v6)))), (7, zI ((v7 + 1)))] [] (d, G, E)) ∧ (¬ (x_15 ≠ 0) → Q (some (zI 0)) (d, G, E)))) ∧ (¬ ((E 80 ((-1) - (E a1 v7))) ≠ (-1)) → ((0 : Int) ≤ ((-1) - (E a1 v7)) ∧ ((-1) - (E a1 v7)) < (20 : Int)) ∧ ∀ E_22, E_22 = zuE E 80 (((-1) - (E a1 v7))) v6 → ((0 : Int) ≤ ((-1) - (E a1 v7)) ∧ ((-1) - (E a1 v7)) < (20 : Int)) ∧ ∀ E_24, E_24 = zuE E_22 81 (((-1) - (E a1 v7))) ((x_6 - v6)) → zin (v6 + (x_6 - v6)) ∧ zin (v7 + 1) ∧ Z zm_X12_goesOnMatching kz Q 7 [(0, zR 50), (1, zR a1), (3, zI v3), (4, zR a4), (6, zI ((v6 + (x_6 - v6)))), (7, zI ((v7 + 1)))] [] (d, G, E_24))) ∧ (¬ ((E a1 v7) < 0) → ((0 : Int) ≤ v7 ∧ v7 < (n1 : Int)) ∧ ((0 : Int) ≤ v6 ∧ v6 < (n4 : Int)) ∧ ((E a1 v7) = (E a4 v6) → zin (v6 + 1) ∧ zin (v7 + 1) ∧ Z zm_X12_goesOnMatching kz Q 7 [(0, zR 50), (1, zR a1), (3, zI v3), (4, zR a4), (6, zI ((v6 + 1))), (7, zI ((v7 + 1)))] [] (d, G, E)) ∧ (¬ ((E a1 v7) = (E a4 v6)) → Q (some (zI 0)) (d, G, E))))) : Z zm_X12_goesOnMatching kz Q 7 [(0, zR 50), (1, zR a1), (3, zI v3), (4, zR a4), (6, zI v6), (7, zI v7)] [] (d, G, E) := by
  refine Z.iload (k := 5) dX12_goesOnMatching_7 rfl ?_
  refine Z.iload_n (k := 2) dX12_goesOnMatching_9 rfl ?_
  refine Z.icmp_ge 141 dX12_goesOnMatching_10 rfl ⟨fun c_1 => ?_, fun c_1 => ?_⟩
  · replace K := K.1 c_1
    refine Z.iconst (n := 1) dX12_goesOnMatching_141 ⟨by decide, by decide⟩ ?_
    exact Z.iret (ty := .boolean) dX12_goesOnMatching_142 rfl rfl K
  · replace K := K.2 c_1
    refine Z.aload_n (k := 1) dX12_goesOnMatching_13 rfl ?_
    refine Z.iload (k := 5) dX12_goesOnMatching_14 rfl ?_
    obtain ⟨z_2, K⟩ := K
    refine Y.iald dX12_goesOnMatching_16 (hk1) (ha1) z_2 ?_
    refine Z.if_lt 40 dX12_goesOnMatching_17 rfl ⟨fun c_3 => ?_, fun c_3 => ?_⟩
    · replace K := K.1 c_3
      refine Z.iconst (n := -1) dX12_goesOnMatching_40 ⟨by decide, by decide⟩ ?_
      refine Z.aload_n (k := 1) dX12_goesOnMatching_41 rfl ?_
      refine Z.iload (k := 5) dX12_goesOnMatching_42 rfl ?_
      obtain ⟨z_4, K⟩ := K
      refine Y.iald dX12_goesOnMatching_44 (hk1) (ha1) z_4 ?_
      obtain ⟨z_5, K⟩ := K
      refine Z.isub dX12_goesOnMatching_45 z_5 ?_
      refine Z.istore (ls' := [(8, zI (((-1) - (E a1 v7)))), (0, zR 50), (1, zR a1), (3, zI v3), (4, zR a4), (6, zI v6), (7, zI v7)]) dX12_goesOnMatching_46 (by decide) rfl ?_
      refine Z.aload_n (k := 1) dX12_goesOnMatching_48 rfl ?_
      refine Z.aload (k := 4) dX12_goesOnMatching_49 rfl ?_
      refine Z.iload (k := 5) dX12_goesOnMatching_51 rfl ?_
      obtain ⟨x_6, m_7, K⟩ := K
      refine Y.callV (g := zm_X12_endOf) (vs := [zR a4, zI v6]) (st := []) dX12_goesOnMatching_53 ⟨zg_X12_endOf.1, zg_X12_endOf.2.1, zg_X12_endOf.2.2, by decide⟩ ⟨zk_X12_148, zv_X12_endOf⟩ (ci := 12) (rfl) rfl ((zM_1 hM).2.1) rfl rfl (Nat.le_of_ble_eq_true rfl) m_7 (Or.inl rfl) ?_
      show Z zm_X12_goesOnMatching kz Q 56 [(8, zI (((-1) - (E a1 v7)))), (0, zR 50), (1, zR a1), (3, zI v3), (4, zR a4), (6, zI v6), (7, zI v7)] [zI x_6] (d, G, E)
      refine Z.iload (k := 5) dX12_goesOnMatching_56 rfl ?_
      obtain ⟨z_9, K⟩ := K
      refine Z.isub dX12_goesOnMatching_58 z_9 ?_
      refine Z.istore (ls' := [(9, zI ((x_6 - v6))), (8, zI (((-1) - (E a1 v7)))), (0, zR 50), (1, zR a1), (3, zI v3), (4, zR a4), (6, zI v6), (7, zI v7)]) dX12_goesOnMatching_59 (by decide) rfl ?_
      refine Z.aload_n (k := 2) dX12_goesOnMatching_61 rfl ?_
      refine Y.getR (o := some 80) 29 dX12_goesOnMatching_62 zl_X12_87 (rfl) (by decide) rfl (zM_1 hM).2.1 (zM_29 hM).1 ?_
      refine Z.iload (k := 1) dX12_goesOnMatching_65 rfl ?_
      obtain ⟨z_10, K⟩ := K
      refine Y.iald dX12_goesOnMatching_67 (rfl) ((zM_29 hM).2.2) z_10 ?_
      refine Z.iconst (n := -1) dX12_goesOnMatching_68 ⟨by decide, by decide⟩ ?_
      refine Z.icmp_ne 93 dX12_goesOnMatching_69 rfl ⟨fun c_11 => ?_, fun c_11 => ?_⟩
      · replace K := K.1 c_11
        refine Z.aload_n (k := 2) dX12_goesOnMatching_93 rfl ?_
        refine Y.getR (o := some 81) 30 dX12_goesOnMatching_94 zl_X12_90 (rfl) (by decide) rfl (zM_1 hM).2.1 (zM_30 hM).1 ?_
        refine Z.iload (k := 1) dX12_goesOnMatching_97 rfl ?_
        obtain ⟨z_12, K⟩ := K
        refine Y.iald dX12_goesOnMatching_99 (rfl) ((zM_30 hM).2.2) z_12 ?_
        refine Z.iload (k := 0) dX12_goesOnMatching_100 rfl ?_
        refine Z.icmp_ne 126 dX12_goesOnMatching_102 rfl ⟨fun c_13 => ?_, fun c_13 => ?_⟩
        · replace K := K.1 c_13
          refine Z.iconst (n := 0) dX12_goesOnMatching_126 ⟨by decide, by decide⟩ ?_
          exact Z.iret (ty := .boolean) dX12_goesOnMatching_127 rfl rfl K
        · replace K := K.2 c_13
          refine Z.aload (k := 5) dX12_goesOnMatching_105 rfl ?_
          refine Z.aload_n (k := 2) dX12_goesOnMatching_107 rfl ?_
          refine Y.getR (o := some 80) 29 dX12_goesOnMatching_108 zl_X12_87 (rfl) (by decide) rfl (zM_1 hM).2.1 (zM_29 hM).1 ?_
          refine Z.iload (k := 1) dX12_goesOnMatching_111 rfl ?_
          obtain ⟨z_14, K⟩ := K
          refine Y.iald dX12_goesOnMatching_113 (rfl) ((zM_29 hM).2.2) z_14 ?_
          refine Z.aload (k := 5) dX12_goesOnMatching_114 rfl ?_
          refine Z.iload (k := 6) dX12_goesOnMatching_116 rfl ?_
          refine Z.iload (k := 0) dX12_goesOnMatching_118 rfl ?_
          obtain ⟨x_15, m_16, K⟩ := K
          refine Y.callS (g := zm_X12_isLike) (vs := [zR a4, zI ((E 80 ((-1) - (E a1 v7)))), zR a4, zI v6, zI ((x_6 - v6))]) (st := []) dX12_goesOnMatching_120 ⟨zg_X12_isLike.1, zg_X12_isLike.2.1, zg_X12_isLike.2.2, by decide⟩ ⟨Or.inl zk_X12_152, zs_X12_isLike⟩ rfl rfl (Nat.le_of_ble_eq_true rfl) m_16 (Or.inl rfl) ?_
          show Z zm_X12_goesOnMatching kz Q 123 [(9, zI ((x_6 - v6))), (8, zI (((-1) - (E a1 v7)))), (0, zR 50), (1, zR a1), (3, zI v3), (4, zR a4), (6, zI v6), (7, zI v7)] [zI x_15] (d, G, E)
          refine Z.if_ne 128 dX12_goesOnMatching_123 rfl ⟨fun c_18 => ?_, fun c_18 => ?_⟩
          · replace K := K.1 c_18
            refine Z.iload (k := 6) dX12_goesOnMatching_128 rfl ?_
            refine Z.iload (k := 0) dX12_goesOnMatching_130 rfl ?_
            obtain ⟨z_19, K⟩ := K
            refine Z.iadd dX12_goesOnMatching_132 z_19 ?_
            refine Z.istore (ls' := [(6, zI ((v6 + (x_6 - v6)))), (9, zI ((x_6 - v6))), (8, zI (((-1) - (E a1 v7)))), (0, zR 50), (1, zR a1), (3, zI v3), (4, zR a4), (7, zI v7)]) dX12_goesOnMatching_133 (by decide) rfl ?_
            obtain ⟨z_20, K⟩ := K
            refine Z.iinc (k := 7) (ls' := [(7, zI ((v7 + 1))), (6, zI ((v6 + (x_6 - v6)))), (9, zI ((x_6 - v6))), (8, zI (((-1) - (E a1 v7)))), (0, zR 50), (1, zR a1), (3, zI v3), (4, zR a4)]) dX12_goesOnMatching_135 rfl (by decide) z_20 rfl ?_
            refine Z.goto 7 dX12_goesOnMatching_138 rfl ?_
            refine Z.pick (ls' := [(0, zR 50), (1, zR a1), (3, zI v3), (4, zR a4), (6, zI ((v6 + (x_6 - v6)))), (7, zI ((v7 + 1)))]) [4, 5, 6, 7, 1, 0] rfl ?_
            exact K
          · replace K := K.2 c_18
            refine Z.iconst (n := 0) dX12_goesOnMatching_126 ⟨by decide, by decide⟩ ?_
            exact Z.iret (ty := .boolean) dX12_goesOnMatching_127 rfl rfl K
      · replace K := K.2 c_11
        refine Z.aload_n (k := 2) dX12_goesOnMatching_72 rfl ?_
        refine Y.getR (o := some 80) 29 dX12_goesOnMatching_73 zl_X12_87 (rfl) (by decide) rfl (zM_1 hM).2.1 (zM_29 hM).1 ?_
        refine Z.iload (k := 1) dX12_goesOnMatching_76 rfl ?_
        refine Z.iload (k := 6) dX12_goesOnMatching_78 rfl ?_
        obtain ⟨z_21, K⟩ := K
        refine Y.iast dX12_goesOnMatching_80 (rfl) ((zM_29 hM).2.2) z_21 ?_
        generalize eE_22 : zuE E 80 (((-1) - (E a1 v7))) v6 = E_22
        replace K := K E_22 eE_22.symm
        refine Z.aload_n (k := 2) dX12_goesOnMatching_81 rfl ?_
        refine Y.getR (o := some 81) 30 dX12_goesOnMatching_82 zl_X12_90 (rfl) (by decide) rfl (zM_1 hM).2.1 (zM_30 hM).1 ?_
        refine Z.iload (k := 1) dX12_goesOnMatching_85 rfl ?_
        refine Z.iload (k := 0) dX12_goesOnMatching_87 rfl ?_
        obtain ⟨z_23, K⟩ := K
        refine Y.iast dX12_goesOnMatching_89 (rfl) ((zM_30 hM).2.2) z_23 ?_
        generalize eE_24 : zuE E_22 81 (((-1) - (E a1 v7))) ((x_6 - v6)) = E_24
        replace K := K E_24 eE_24.symm
        refine Z.goto 128 dX12_goesOnMatching_90 rfl ?_
        refine Z.iload (k := 6) dX12_goesOnMatching_128 rfl ?_
        refine Z.iload (k := 0) dX12_goesOnMatching_130 rfl ?_
        obtain ⟨z_25, K⟩ := K
        refine Z.iadd dX12_goesOnMatching_132 z_25 ?_
        refine Z.istore (ls' := [(6, zI ((v6 + (x_6 - v6)))), (9, zI ((x_6 - v6))), (8, zI (((-1) - (E a1 v7)))), (0, zR 50), (1, zR a1), (3, zI v3), (4, zR a4), (7, zI v7)]) dX12_goesOnMatching_133 (by decide) rfl ?_
        obtain ⟨z_26, K⟩ := K
        refine Z.iinc (k := 7) (ls' := [(7, zI ((v7 + 1))), (6, zI ((v6 + (x_6 - v6)))), (9, zI ((x_6 - v6))), (8, zI (((-1) - (E a1 v7)))), (0, zR 50), (1, zR a1), (3, zI v3), (4, zR a4)]) dX12_goesOnMatching_135 rfl (by decide) z_26 rfl ?_
        refine Z.goto 7 dX12_goesOnMatching_138 rfl ?_
        refine Z.pick (ls' := [(0, zR 50), (1, zR a1), (3, zI v3), (4, zR a4), (6, zI ((v6 + (x_6 - v6)))), (7, zI ((v7 + 1)))]) [4, 5, 6, 7, 1, 0] rfl ?_
        exact K
    · replace K := K.2 c_3
      refine Z.aload_n (k := 1) dX12_goesOnMatching_20 rfl ?_
      refine Z.iload (k := 5) dX12_goesOnMatching_21 rfl ?_
      obtain ⟨z_27, K⟩ := K
      refine Y.iald dX12_goesOnMatching_23 (hk1) (ha1) z_27 ?_
      refine Z.aload (k := 3) dX12_goesOnMatching_24 rfl ?_
      refine Z.iload (k := 4) dX12_goesOnMatching_26 rfl ?_
      obtain ⟨z_28, K⟩ := K
      refine Y.iald dX12_goesOnMatching_28 (hk4) (ha4) z_28 ?_
      refine Z.icmp_eq 34 dX12_goesOnMatching_29 rfl ⟨fun c_29 => ?_, fun c_29 => ?_⟩
      · replace K := K.1 c_29
        obtain ⟨z_30, K⟩ := K
        refine Z.iinc (k := 4) (ls' := [(6, zI ((v6 + 1))), (0, zR 50), (1, zR a1), (3, zI v3), (4, zR a4), (7, zI v7)]) dX12_goesOnMatching_34 rfl (by decide) z_30 rfl ?_
        refine Z.goto 135 dX12_goesOnMatching_37 rfl ?_
        obtain ⟨z_31, K⟩ := K
        refine Z.iinc (k := 5) (ls' := [(7, zI ((v7 + 1))), (6, zI ((v6 + 1))), (0, zR 50), (1, zR a1), (3, zI v3), (4, zR a4)]) dX12_goesOnMatching_135 rfl (by decide) z_31 rfl ?_
        refine Z.goto 7 dX12_goesOnMatching_138 rfl ?_
        refine Z.pick (ls' := [(0, zR 50), (1, zR a1), (3, zI v3), (4, zR a4), (6, zI ((v6 + 1))), (7, zI ((v7 + 1)))]) [2, 3, 4, 5, 1, 0] rfl ?_
        exact K
      · replace K := K.2 c_29
        refine Z.iconst (n := 0) dX12_goesOnMatching_32 ⟨by decide, by decide⟩ ?_
        exact Z.iret (ty := .boolean) dX12_goesOnMatching_33 rfl rfl K
set_option maxRecDepth 20000 in
theorem X12_save_0 {kz : Nat × Nat} {Q : Option zV → zH → Prop} {d : List Nat} {G : Nat → Int → Option Nat} {E : Nat → Int → Int} {v1 : Int} (hM : zK zMt d G) (K : Z zm_X12_save kz Q 2 [(0, zR 50), (1, zI v1), (2, zI 0)] [] (d, G, E)) : Z zm_X12_save kz Q 0 [(0, zR 50), (1, zI v1)] [] (d, G, E) := by
  refine Z.iconst (n := 0) dX12_save_0 ⟨by decide, by decide⟩ ?_
  refine Z.istore_n (ls' := [(2, zI 0), (0, zR 50), (1, zI v1)]) dX12_save_1 (by decide) rfl ?_
  refine Z.pick (ls' := [(0, zR 50), (1, zI v1), (2, zI 0)]) [1, 2, 0] rfl ?_
  exact K
set_option maxRecDepth 20000 in
theorem X12_save_2 {kz : Nat × Nat} {Q : Option zV → zH → Prop} {d : List Nat} {G : Nat → Int → Option Nat} {E : Nat → Int → Int} {v1 : Int} {v2 : Int} (hM : zK zMt d G) (K : (20 ≤ v2 → Q none (d, G, E)) ∧ (¬ (20 ≤ v2) → zin (20 * v1) ∧ zin ((20 * v1) + v2) ∧ ((0 : Int) ≤ v2 ∧ v2 < (20 : Int)) ∧ ((0 : Int) ≤ ((20 * v1) + v2) ∧ ((20 * v1) + v2) < (140 : Int)) ∧ ∀ E_6, E_6 = zuE E 83 (((20 * v1) + v2)) ((E 80 v2)) → zin (20 * v1) ∧ zin ((20 * v1) + v2) ∧ ((0 : Int) ≤ v2 ∧ v2 < (20 : Int)) ∧ ((0 : Int) ≤ ((20 * v1) + v2) ∧ ((20 * v1) + v2) < (140 : Int)) ∧ ∀ E_11, E_11 = zuE E_6 84 (((20 * v1) + v2)) ((E_6 81 v2)) → zin (v2 + 1) ∧ Z zm_X12_save kz Q 2 [(0, zR 50), (1, zI v1), (2, zI ((v2 + 1)))] [] (d, G, E_11))) : Z zm_X12_save kz Q 2 [(0, zR 50), (1, zI v1), (2, zI v2)] [] (d, G, E) := by
  refine Z.iload_n (k := 2) dX12_save_2 rfl ?_
  refine Z.bipush (n := 20) dX12_save_3 ⟨by decide, by decide⟩ (by decide) ?_
  refine Z.icmp_ge 48 dX12_save_5 rfl ⟨fun c_1 => ?_, fun c_1 => ?_⟩
  · replace K := K.1 c_1
    exact Z.vret dX12_save_48 rfl K
  · replace K := K.2 c_1
    refine Z.aload_n (k := 0) dX12_save_8 rfl ?_
    refine Y.getR (o := some 83) 32 dX12_save_9 zl_X12_96 (rfl) (by decide) rfl (zM_1 hM).2.1 (zM_32 hM).1 ?_
    refine Z.bipush (n := 20) dX12_save_12 ⟨by decide, by decide⟩ (by decide) ?_
    refine Z.iload_n (k := 1) dX12_save_14 rfl ?_
    obtain ⟨z_2, K⟩ := K
    refine Z.imul dX12_save_15 z_2 ?_
    refine Z.iload_n (k := 2) dX12_save_16 rfl ?_
    obtain ⟨z_3, K⟩ := K
    refine Z.iadd dX12_save_17 z_3 ?_
    refine Z.aload_n (k := 0) dX12_save_18 rfl ?_
    refine Y.getR (o := some 80) 29 dX12_save_19 zl_X12_87 (rfl) (by decide) rfl (zM_1 hM).2.1 (zM_29 hM).1 ?_
    refine Z.iload_n (k := 2) dX12_save_22 rfl ?_
    obtain ⟨z_4, K⟩ := K
    refine Y.iald dX12_save_23 (rfl) ((zM_29 hM).2.2) z_4 ?_
    obtain ⟨z_5, K⟩ := K
    refine Y.iast dX12_save_24 (rfl) ((zM_32 hM).2.2) z_5 ?_
    generalize eE_6 : zuE E 83 (((20 * v1) + v2)) ((E 80 v2)) = E_6
    replace K := K E_6 eE_6.symm
    refine Z.aload_n (k := 0) dX12_save_25 rfl ?_
    refine Y.getR (o := some 84) 33 dX12_save_26 zl_X12_99 (rfl) (by decide) rfl (zM_1 hM).2.1 (zM_33 hM).1 ?_
    refine Z.bipush (n := 20) dX12_save_29 ⟨by decide, by decide⟩ (by decide) ?_
    refine Z.iload_n (k := 1) dX12_save_31 rfl ?_
    obtain ⟨z_7, K⟩ := K
    refine Z.imul dX12_save_32 z_7 ?_
    refine Z.iload_n (k := 2) dX12_save_33 rfl ?_
    obtain ⟨z_8, K⟩ := K
    refine Z.iadd dX12_save_34 z_8 ?_
    refine Z.aload_n (k := 0) dX12_save_35 rfl ?_
    refine Y.getR (o := some 81) 30 dX12_save_36 zl_X12_90 (rfl) (by decide) rfl (zM_1 hM).2.1 (zM_30 hM).1 ?_
    refine Z.iload_n (k := 2) dX12_save_39 rfl ?_
    obtain ⟨z_9, K⟩ := K
    refine Y.iald dX12_save_40 (rfl) ((zM_30 hM).2.2) z_9 ?_
    obtain ⟨z_10, K⟩ := K
    refine Y.iast dX12_save_41 (rfl) ((zM_33 hM).2.2) z_10 ?_
    generalize eE_11 : zuE E_6 84 (((20 * v1) + v2)) ((E_6 81 v2)) = E_11
    replace K := K E_11 eE_11.symm
    obtain ⟨z_12, K⟩ := K
    refine Z.iinc (k := 2) (ls' := [(2, zI ((v2 + 1))), (0, zR 50), (1, zI v1)]) dX12_save_42 rfl (by decide) z_12 rfl ?_
    refine Z.goto 2 dX12_save_45 rfl ?_
    refine Z.pick (ls' := [(0, zR 50), (1, zI v1), (2, zI ((v2 + 1)))]) [1, 2, 0] rfl ?_
    exact K
set_option maxRecDepth 20000 in
theorem X12_restore_0 {kz : Nat × Nat} {Q : Option zV → zH → Prop} {d : List Nat} {G : Nat → Int → Option Nat} {E : Nat → Int → Int} {v1 : Int} (hM : zK zMt d G) (K : Z zm_X12_restore kz Q 2 [(0, zR 50), (1, zI v1), (2, zI 0)] [] (d, G, E)) : Z zm_X12_restore kz Q 0 [(0, zR 50), (1, zI v1)] [] (d, G, E) := by
  refine Z.iconst (n := 0) dX12_restore_0 ⟨by decide, by decide⟩ ?_
  refine Z.istore_n (ls' := [(2, zI 0), (0, zR 50), (1, zI v1)]) dX12_restore_1 (by decide) rfl ?_
  refine Z.pick (ls' := [(0, zR 50), (1, zI v1), (2, zI 0)]) [1, 2, 0] rfl ?_
  exact K
set_option maxRecDepth 20000 in
theorem X12_restore_2 {kz : Nat × Nat} {Q : Option zV → zH → Prop} {d : List Nat} {G : Nat → Int → Option Nat} {E : Nat → Int → Int} {v1 : Int} {v2 : Int} (hM : zK zMt d G) (K : (20 ≤ v2 → Q none (d, G, E)) ∧ (¬ (20 ≤ v2) → zin (20 * v1) ∧ zin ((20 * v1) + v2) ∧ ((0 : Int) ≤ ((20 * v1) + v2) ∧ ((20 * v1) + v2) < (140 : Int)) ∧ ((0 : Int) ≤ v2 ∧ v2 < (20 : Int)) ∧ ∀ E_6, E_6 = zuE E 80 v2 ((E 83 ((20 * v1) + v2))) → zin (20 * v1) ∧ zin ((20 * v1) + v2) ∧ ((0 : Int) ≤ ((20 * v1) + v2) ∧ ((20 * v1) + v2) < (140 : Int)) ∧ ((0 : Int) ≤ v2 ∧ v2 < (20 : Int)) ∧ ∀ E_11, E_11 = zuE E_6 81 v2 ((E_6 84 ((20 * v1) + v2))) → zin (v2 + 1) ∧ Z zm_X12_restore kz Q 2 [(0, zR 50), (1, zI v1), (2, zI ((v2 + 1)))] [] (d, G, E_11))) : Z zm_X12_restore kz Q 2 [(0, zR 50), (1, zI v1), (2, zI v2)] [] (d, G, E) := by
  refine Z.iload_n (k := 2) dX12_restore_2 rfl ?_
  refine Z.bipush (n := 20) dX12_restore_3 ⟨by decide, by decide⟩ (by decide) ?_
  refine Z.icmp_ge 48 dX12_restore_5 rfl ⟨fun c_1 => ?_, fun c_1 => ?_⟩
  · replace K := K.1 c_1
    exact Z.vret dX12_restore_48 rfl K
  · replace K := K.2 c_1
    refine Z.aload_n (k := 0) dX12_restore_8 rfl ?_
    refine Y.getR (o := some 80) 29 dX12_restore_9 zl_X12_87 (rfl) (by decide) rfl (zM_1 hM).2.1 (zM_29 hM).1 ?_
    refine Z.iload_n (k := 2) dX12_restore_12 rfl ?_
    refine Z.aload_n (k := 0) dX12_restore_13 rfl ?_
    refine Y.getR (o := some 83) 32 dX12_restore_14 zl_X12_96 (rfl) (by decide) rfl (zM_1 hM).2.1 (zM_32 hM).1 ?_
    refine Z.bipush (n := 20) dX12_restore_17 ⟨by decide, by decide⟩ (by decide) ?_
    refine Z.iload_n (k := 1) dX12_restore_19 rfl ?_
    obtain ⟨z_2, K⟩ := K
    refine Z.imul dX12_restore_20 z_2 ?_
    refine Z.iload_n (k := 2) dX12_restore_21 rfl ?_
    obtain ⟨z_3, K⟩ := K
    refine Z.iadd dX12_restore_22 z_3 ?_
    obtain ⟨z_4, K⟩ := K
    refine Y.iald dX12_restore_23 (rfl) ((zM_32 hM).2.2) z_4 ?_
    obtain ⟨z_5, K⟩ := K
    refine Y.iast dX12_restore_24 (rfl) ((zM_29 hM).2.2) z_5 ?_
    generalize eE_6 : zuE E 80 v2 ((E 83 ((20 * v1) + v2))) = E_6
    replace K := K E_6 eE_6.symm
    refine Z.aload_n (k := 0) dX12_restore_25 rfl ?_
    refine Y.getR (o := some 81) 30 dX12_restore_26 zl_X12_90 (rfl) (by decide) rfl (zM_1 hM).2.1 (zM_30 hM).1 ?_
    refine Z.iload_n (k := 2) dX12_restore_29 rfl ?_
    refine Z.aload_n (k := 0) dX12_restore_30 rfl ?_
    refine Y.getR (o := some 84) 33 dX12_restore_31 zl_X12_99 (rfl) (by decide) rfl (zM_1 hM).2.1 (zM_33 hM).1 ?_
    refine Z.bipush (n := 20) dX12_restore_34 ⟨by decide, by decide⟩ (by decide) ?_
    refine Z.iload_n (k := 1) dX12_restore_36 rfl ?_
    obtain ⟨z_7, K⟩ := K
    refine Z.imul dX12_restore_37 z_7 ?_
    refine Z.iload_n (k := 2) dX12_restore_38 rfl ?_
    obtain ⟨z_8, K⟩ := K
    refine Z.iadd dX12_restore_39 z_8 ?_
    obtain ⟨z_9, K⟩ := K
    refine Y.iald dX12_restore_40 (rfl) ((zM_33 hM).2.2) z_9 ?_
    obtain ⟨z_10, K⟩ := K
    refine Y.iast dX12_restore_41 (rfl) ((zM_30 hM).2.2) z_10 ?_
    generalize eE_11 : zuE E_6 81 v2 ((E_6 84 ((20 * v1) + v2))) = E_11
    replace K := K E_11 eE_11.symm
    obtain ⟨z_12, K⟩ := K
    refine Z.iinc (k := 2) (ls' := [(2, zI ((v2 + 1))), (0, zR 50), (1, zI v1)]) dX12_restore_42 rfl (by decide) z_12 rfl ?_
    refine Z.goto 2 dX12_restore_45 rfl ?_
    refine Z.pick (ls' := [(0, zR 50), (1, zI v1), (2, zI ((v2 + 1)))]) [1, 2, 0] rfl ?_
    exact K
set_option maxRecDepth 20000 in
theorem X12_takes_0 {kz : Nat × Nat} {Q : Option zV → zH → Prop} {d : List Nat} {G : Nat → Int → Option Nat} {E : Nat → Int → Int} {a1 n1 : Nat} {a2 n2 : Nat} {a3 n3 : Nat} {v4 : Int} {v5 : Int} {a6 n6 : Nat} {a7 n7 : Nat} {a8 n8 : Nat} {v9 : Int} {v10 : Int} (hM : zK zMt d G) (ha1 : a1 ∈ d) (hk1 : zkd a1 = (0, n1)) (ha2 : a2 ∈ d) (hk2 : zkd a2 = (0, n2)) (ha3 : a3 ∈ d) (hk3 : zkd a3 = (1, n3)) (ha6 : a6 ∈ d) (hk6 : zkd a6 = (0, n6)) (ha7 : a7 ∈ d) (hk7 : zkd a7 = (0, n7)) (ha8 : a8 ∈ d) (hk8 : zkd a8 = (1, n8)) (K : (v5 ≤ v10 → ∃ E_2, zM zm_X12_unbind [zR 50] (d, G, E) none (d, G, E_2) ∧ ((0 : Int) ≤ 0 ∧ 0 < (7 : Int)) ∧ ∀ E_6, E_6 = zuE E_2 82 0 0 → ∃ E_7, zM zm_X12_save [zR 50, zI 0] (d, G, E_6) none (d, G, E_7) ∧ Z zm_X12_takes kz Q 28 [(0, zR 50), (1, zR a1), (2, zR a2), (3, zR a3), (4, zI v4), (5, zI v5), (6, zR a6), (8, zR a8), (9, zI v9), (10, zI v10), (11, zI 0)] [] (d, G, E_7)) ∧ (¬ (v5 ≤ v10) → Q (some (zI 0)) (d, G, E))) : Z zm_X12_takes kz Q 0 [(0, zR 50), (1, zR a1), (2, zR a2), (3, zR a3), (4, zI v4), (5, zI v5), (6, zR a6), (7, zR a7), (8, zR a8), (9, zI v9), (10, zI v10)] [] (d, G, E) := by
  refine Z.iload (k := 5) dX12_takes_0 rfl ?_
  refine Z.iload (k := 10) dX12_takes_2 rfl ?_
  refine Z.icmp_le 9 dX12_takes_4 rfl ⟨fun c_1 => ?_, fun c_1 => ?_⟩
  · replace K := K.1 c_1
    refine Z.aload_n (k := 0) dX12_takes_9 rfl ?_
    obtain ⟨E_2, m_3, K⟩ := K
    refine Y.callV (g := zm_X12_unbind) (vs := []) (st := []) dX12_takes_10 ⟨zg_X12_unbind.1, zg_X12_unbind.2.1, zg_X12_unbind.2.2, by decide⟩ ⟨zk_X12_188, zv_X12_unbind⟩ (ci := 12) (rfl) rfl ((zM_1 hM).2.1) rfl rfl (Nat.le_of_ble_eq_true rfl) m_3 (Or.inl rfl) ?_
    show Z zm_X12_takes kz Q 13 [(0, zR 50), (1, zR a1), (2, zR a2), (3, zR a3), (4, zI v4), (5, zI v5), (6, zR a6), (7, zR a7), (8, zR a8), (9, zI v9), (10, zI v10)] [] (d, G, E_2)
    refine Z.iconst (n := 0) dX12_takes_13 ⟨by decide, by decide⟩ ?_
    refine Z.istore (ls' := [(11, zI 0), (0, zR 50), (1, zR a1), (2, zR a2), (3, zR a3), (4, zI v4), (5, zI v5), (6, zR a6), (7, zR a7), (8, zR a8), (9, zI v9), (10, zI v10)]) dX12_takes_14 (by decide) rfl ?_
    refine Z.aload_n (k := 1) dX12_takes_16 rfl ?_
    refine Y.getR (o := some 82) 31 dX12_takes_17 zl_X12_93 (rfl) (by decide) rfl (zM_1 hM).2.1 (zM_31 hM).1 ?_
    refine Z.iconst (n := 0) dX12_takes_20 ⟨by decide, by decide⟩ ?_
    refine Z.iconst (n := 0) dX12_takes_21 ⟨by decide, by decide⟩ ?_
    obtain ⟨z_5, K⟩ := K
    refine Y.iast dX12_takes_22 (rfl) ((zM_31 hM).2.2) z_5 ?_
    generalize eE_6 : zuE E_2 82 0 0 = E_6
    replace K := K E_6 eE_6.symm
    refine Z.aload_n (k := 1) dX12_takes_23 rfl ?_
    refine Z.iconst (n := 0) dX12_takes_24 ⟨by decide, by decide⟩ ?_
    obtain ⟨E_7, m_8, K⟩ := K
    refine Y.callV (g := zm_X12_save) (vs := [zI 0]) (st := []) dX12_takes_25 ⟨zg_X12_save.1, zg_X12_save.2.1, zg_X12_save.2.2, by decide⟩ ⟨zk_X12_191, zv_X12_save⟩ (ci := 12) (rfl) rfl ((zM_1 hM).2.1) rfl rfl (Nat.le_of_ble_eq_true rfl) m_8 (Or.inl rfl) ?_
    show Z zm_X12_takes kz Q 28 [(11, zI 0), (0, zR 50), (1, zR a1), (2, zR a2), (3, zR a3), (4, zI v4), (5, zI v5), (6, zR a6), (7, zR a7), (8, zR a8), (9, zI v9), (10, zI v10)] [] (d, G, E_7)
    refine Z.pick (ls' := [(0, zR 50), (1, zR a1), (2, zR a2), (3, zR a3), (4, zI v4), (5, zI v5), (6, zR a6), (8, zR a8), (9, zI v9), (10, zI v10), (11, zI 0)]) [1, 2, 3, 4, 5, 6, 7, 9, 10, 11, 0] rfl ?_
    exact K
  · replace K := K.2 c_1
    refine Z.iconst (n := 0) dX12_takes_7 ⟨by decide, by decide⟩ ?_
    exact Z.iret (ty := .boolean) dX12_takes_8 rfl rfl K
set_option maxRecDepth 20000 in
theorem X12_takes_28 {kz : Nat × Nat} {Q : Option zV → zH → Prop} {d : List Nat} {G : Nat → Int → Option Nat} {E : Nat → Int → Int} {a1 n1 : Nat} {a2 n2 : Nat} {a3 n3 : Nat} {v4 : Int} {v5 : Int} {a6 n6 : Nat} {a8 n8 : Nat} {v9 : Int} {v10 : Int} {v11 : Int} (hM : zK zMt d G) (ha1 : a1 ∈ d) (hk1 : zkd a1 = (0, n1)) (ha2 : a2 ∈ d) (hk2 : zkd a2 = (0, n2)) (ha3 : a3 ∈ d) (hk3 : zkd a3 = (1, n3)) (ha6 : a6 ∈ d) (hk6 : zkd a6 = (0, n6)) (ha8 : a8 ∈ d) (hk8 : zkd a8 = (1, n8)) (K : (v5 ≤ v11 → Q (some (zI 1)) (d, G, E)) ∧ (¬ (v5 ≤ v11) → ((0 : Int) ≤ v11 ∧ v11 < (7 : Int)) ∧ ((E 82 v11) ≠ v10 → ∃ E_4, zM zm_X12_restore [zR 50, zI v11] (d, G, E) none (d, G, E_4) ∧ zin (v4 + v11) ∧ zin (30 * (v4 + v11)) ∧ zin (v4 + v11) ∧ ((0 : Int) ≤ (v4 + v11) ∧ (v4 + v11) < (n3 : Int)) ∧ zin (v9 + (E 82 v11)) ∧ ((0 : Int) ≤ (v9 + (E 82 v11)) ∧ (v9 + (E 82 v11)) < (n8 : Int)) ∧ ((E_4 a3 (v4 + v11)) ≠ (E_4 a8 (v9 + (E 82 v11))) → Z zm_X12_takes kz Q 161 [(0, zR 50), (1, zR a1), (2, zR a2), (3, zR a3), (4, zI v4), (5, zI v5), (6, zR a6), (8, zR a8), (9, zI v9), (10, zI v10), (11, zI v11)] [] (d, G, E_4)) ∧ (¬ ((E_4 a3 (v4 + v11)) ≠ (E_4 a8 (v9 + (E 82 v11)))) → ((0 : Int) ≤ (30 * (v4 + v11)) ∧ (30 * (v4 + v11)) < (n1 : Int)) ∧ zin (v9 + (E 82 v11)) ∧ zin (30 * (v9 + (E 82 v11))) ∧ ((0 : Int) ≤ (30 * (v9 + (E 82 v11))) ∧ (30 * (v9 + (E 82 v11))) < (n6 : Int)) ∧ ((E_4 a1 (30 * (v4 + v11))) ≠ (E_4 a6 (30 * (v9 + (E 82 v11)))) → Z zm_X12_takes kz Q 161 [(0, zR 50), (1, zR a1), (2, zR a2), (3, zR a3), (4, zI v4), (5, zI v5), (6, zR a6), (8, zR a8), (9, zI v9), (10, zI v10), (11, zI v11)] [] (d, G, E_4)) ∧ (¬ ((E_4 a1 (30 * (v4 + v11))) ≠ (E_4 a6 (30 * (v9 + (E 82 v11))))) → zin (v4 + v11) ∧ ((0 : Int) ≤ (v4 + v11) ∧ (v4 + v11) < (n2 : Int)) ∧ zin ((30 * (v4 + v11)) + (E_4 a2 (v4 + v11))) ∧ zin (v9 + (E 82 v11)) ∧ zin (30 * (v9 + (E 82 v11))) ∧ ∃ x_24 E_25, zM zm_X12_goesOnMatching [zR 50, zR a1, zI ((30 * (v4 + v11))), zI (((30 * (v4 + v11)) + (E_4 a2 (v4 + v11)))), zR a6, zI ((30 * (v9 + (E 82 v11))))] (d, G, E_4) (some (zI x_24)) (d, G, E_25) ∧ (x_24 = 0 → Z zm_X12_takes kz Q 161 [(0, zR 50), (1, zR a1), (2, zR a2), (3, zR a3), (4, zI v4), (5, zI v5), (6, zR a6), (8, zR a8), (9, zI v9), (10, zI v10), (11, zI v11)] [] (d, G, E_25)) ∧ (¬ (x_24 = 0) → zin (v11 + 1) ∧ ((0 : Int) ≤ (v11 + 1) ∧ (v11 + 1) < (7 : Int)) ∧ ∀ E_32, E_32 = zuE E_25 82 ((v11 + 1)) 0 → ∃ E_33, zM zm_X12_save [zR 50, zI ((v11 + 1))] (d, G, E_32) none (d, G, E_33) ∧ Z zm_X12_takes kz Q 28 [(0, zR 50), (1, zR a1), (2, zR a2), (3, zR a3), (4, zI v4), (5, zI v5), (6, zR a6), (8, zR a8), (9, zI v9), (10, zI v10), (11, zI ((v11 + 1)))] [] (d, G, E_33))))) ∧ (¬ ((E 82 v11) ≠ v10) → (v11 ≠ 0 → zin (v11 + (-1)) ∧ ((0 : Int) ≤ (v11 + (-1)) ∧ (v11 + (-1)) < (7 : Int)) ∧ zin ((E 82 (v11 + (-1))) + 1) ∧ ((0 : Int) ≤ (v11 + (-1)) ∧ (v11 + (-1)) < (7 : Int)) ∧ ∀ E_41, E_41 = zuE E 82 ((v11 + (-1))) (((E 82 (v11 + (-1))) + 1)) → Z zm_X12_takes kz Q 28 [(0, zR 50), (1, zR a1), (2, zR a2), (3, zR a3), (4, zI v4), (5, zI v5), (6, zR a6), (8, zR a8), (9, zI v9), (10, zI v10), (11, zI ((v11 + (-1))))] [] (d, G, E_41)) ∧ (¬ (v11 ≠ 0) → Q (some (zI 0)) (d, G, E))))) : Z zm_X12_takes kz Q 28 [(0, zR 50), (1, zR a1), (2, zR a2), (3, zR a3), (4, zI v4), (5, zI v5), (6, zR a6), (8, zR a8), (9, zI v9), (10, zI v10), (11, zI v11)] [] (d, G, E) := by
  refine Z.iload (k := 10) dX12_takes_28 rfl ?_
  refine Z.iload (k := 5) dX12_takes_30 rfl ?_
  refine Z.icmp_ge 203 dX12_takes_32 rfl ⟨fun c_1 => ?_, fun c_1 => ?_⟩
  · replace K := K.1 c_1
    refine Z.iconst (n := 1) dX12_takes_203 ⟨by decide, by decide⟩ ?_
    exact Z.iret (ty := .boolean) dX12_takes_204 rfl rfl K
  · replace K := K.2 c_1
    refine Z.aload_n (k := 0) dX12_takes_35 rfl ?_
    refine Y.getR (o := some 82) 31 dX12_takes_36 zl_X12_93 (rfl) (by decide) rfl (zM_1 hM).2.1 (zM_31 hM).1 ?_
    refine Z.iload (k := 10) dX12_takes_39 rfl ?_
    obtain ⟨z_2, K⟩ := K
    refine Y.iald dX12_takes_41 (rfl) ((zM_31 hM).2.2) z_2 ?_
    refine Z.istore (ls' := [(12, zI ((E 82 v11))), (0, zR 50), (1, zR a1), (2, zR a2), (3, zR a3), (4, zI v4), (5, zI v5), (6, zR a6), (8, zR a8), (9, zI v9), (10, zI v10), (11, zI v11)]) dX12_takes_42 (by decide) rfl ?_
    refine Z.iload (k := 0) dX12_takes_44 rfl ?_
    refine Z.iload (k := 10) dX12_takes_46 rfl ?_
    refine Z.icmp_ne 75 dX12_takes_48 rfl ⟨fun c_3 => ?_, fun c_3 => ?_⟩
    · replace K := K.1 c_3
      refine Z.aload_n (k := 1) dX12_takes_75 rfl ?_
      refine Z.iload (k := 11) dX12_takes_76 rfl ?_
      obtain ⟨E_4, m_5, K⟩ := K
      refine Y.callV (g := zm_X12_restore) (vs := [zI v11]) (st := []) dX12_takes_78 ⟨zg_X12_restore.1, zg_X12_restore.2.1, zg_X12_restore.2.2, by decide⟩ ⟨zk_X12_194, zv_X12_restore⟩ (ci := 12) (rfl) rfl ((zM_1 hM).2.1) rfl rfl (Nat.le_of_ble_eq_true rfl) m_5 (Or.inl rfl) ?_
      show Z zm_X12_takes kz Q 81 [(12, zI ((E 82 v11))), (0, zR 50), (1, zR a1), (2, zR a2), (3, zR a3), (4, zI v4), (5, zI v5), (6, zR a6), (8, zR a8), (9, zI v9), (10, zI v10), (11, zI v11)] [] (d, G, E_4)
      refine Z.bipush (n := 30) dX12_takes_81 ⟨by decide, by decide⟩ (by decide) ?_
      refine Z.iload (k := 5) dX12_takes_83 rfl ?_
      refine Z.iload (k := 11) dX12_takes_85 rfl ?_
      obtain ⟨z_7, K⟩ := K
      refine Z.iadd dX12_takes_87 z_7 ?_
      obtain ⟨z_8, K⟩ := K
      refine Z.imul dX12_takes_88 z_8 ?_
      refine Z.istore (ls' := [(13, zI ((30 * (v4 + v11)))), (12, zI ((E 82 v11))), (0, zR 50), (1, zR a1), (2, zR a2), (3, zR a3), (4, zI v4), (5, zI v5), (6, zR a6), (8, zR a8), (9, zI v9), (10, zI v10), (11, zI v11)]) dX12_takes_89 (by decide) rfl ?_
      refine Z.aload_n (k := 5) dX12_takes_91 rfl ?_
      refine Z.iload (k := 6) dX12_takes_92 rfl ?_
      refine Z.iload (k := 12) dX12_takes_94 rfl ?_
      obtain ⟨z_9, K⟩ := K
      refine Z.iadd dX12_takes_96 z_9 ?_
      obtain ⟨z_10, K⟩ := K
      refine Y.zald dX12_takes_97 (hk3) (ha3) z_10 ?_
      refine Z.aload (k := 9) dX12_takes_98 rfl ?_
      refine Z.iload (k := 10) dX12_takes_100 rfl ?_
      refine Z.iload (k := 1) dX12_takes_102 rfl ?_
      obtain ⟨z_11, K⟩ := K
      refine Z.iadd dX12_takes_104 z_11 ?_
      obtain ⟨z_12, K⟩ := K
      refine Y.zald dX12_takes_105 (hk8) (ha8) z_12 ?_
      refine Z.icmp_ne 161 dX12_takes_106 rfl ⟨fun c_13 => ?_, fun c_13 => ?_⟩
      · replace K := K.1 c_13
        refine Z.pick (ls' := [(0, zR 50), (1, zR a1), (2, zR a2), (3, zR a3), (4, zI v4), (5, zI v5), (6, zR a6), (8, zR a8), (9, zI v9), (10, zI v10), (11, zI v11)]) [2, 3, 4, 5, 6, 7, 8, 9, 10, 11, 12] rfl ?_
        exact K
      · replace K := K.2 c_13
        refine Z.aload_n (k := 3) dX12_takes_109 rfl ?_
        refine Z.iload (k := 0) dX12_takes_110 rfl ?_
        obtain ⟨z_14, K⟩ := K
        refine Y.iald dX12_takes_112 (hk1) (ha1) z_14 ?_
        refine Z.aload (k := 8) dX12_takes_113 rfl ?_
        refine Z.bipush (n := 30) dX12_takes_115 ⟨by decide, by decide⟩ (by decide) ?_
        refine Z.iload (k := 10) dX12_takes_117 rfl ?_
        refine Z.iload (k := 1) dX12_takes_119 rfl ?_
        obtain ⟨z_15, K⟩ := K
        refine Z.iadd dX12_takes_121 z_15 ?_
        obtain ⟨z_16, K⟩ := K
        refine Z.imul dX12_takes_122 z_16 ?_
        obtain ⟨z_17, K⟩ := K
        refine Y.iald dX12_takes_123 (hk6) (ha6) z_17 ?_
        refine Z.icmp_ne 161 dX12_takes_124 rfl ⟨fun c_18 => ?_, fun c_18 => ?_⟩
        · replace K := K.1 c_18
          refine Z.pick (ls' := [(0, zR 50), (1, zR a1), (2, zR a2), (3, zR a3), (4, zI v4), (5, zI v5), (6, zR a6), (8, zR a8), (9, zI v9), (10, zI v10), (11, zI v11)]) [2, 3, 4, 5, 6, 7, 8, 9, 10, 11, 12] rfl ?_
          exact K
        · replace K := K.2 c_18
          refine Z.aload_n (k := 2) dX12_takes_127 rfl ?_
          refine Z.aload_n (k := 3) dX12_takes_128 rfl ?_
          refine Z.iload (k := 0) dX12_takes_129 rfl ?_
          refine Z.iload (k := 0) dX12_takes_131 rfl ?_
          refine Z.aload_n (k := 4) dX12_takes_133 rfl ?_
          refine Z.iload (k := 6) dX12_takes_134 rfl ?_
          refine Z.iload (k := 12) dX12_takes_136 rfl ?_
          obtain ⟨z_19, K⟩ := K
          refine Z.iadd dX12_takes_138 z_19 ?_
          obtain ⟨z_20, K⟩ := K
          refine Y.iald dX12_takes_139 (hk2) (ha2) z_20 ?_
          obtain ⟨z_21, K⟩ := K
          refine Z.iadd dX12_takes_140 z_21 ?_
          refine Z.aload (k := 8) dX12_takes_141 rfl ?_
          refine Z.bipush (n := 30) dX12_takes_143 ⟨by decide, by decide⟩ (by decide) ?_
          refine Z.iload (k := 10) dX12_takes_145 rfl ?_
          refine Z.iload (k := 1) dX12_takes_147 rfl ?_
          obtain ⟨z_22, K⟩ := K
          refine Z.iadd dX12_takes_149 z_22 ?_
          obtain ⟨z_23, K⟩ := K
          refine Z.imul dX12_takes_150 z_23 ?_
          obtain ⟨x_24, E_25, m_26, K⟩ := K
          refine Y.callV (g := zm_X12_goesOnMatching) (vs := [zR a1, zI ((30 * (v4 + v11))), zI (((30 * (v4 + v11)) + (E_4 a2 (v4 + v11)))), zR a6, zI ((30 * (v9 + (E 82 v11))))]) (st := []) dX12_takes_151 ⟨zg_X12_goesOnMatching.1, zg_X12_goesOnMatching.2.1, zg_X12_goesOnMatching.2.2, by decide⟩ ⟨zk_X12_197, zv_X12_goesOnMatching⟩ (ci := 12) (rfl) rfl ((zM_1 hM).2.1) rfl rfl (Nat.le_of_ble_eq_true rfl) m_26 (Or.inl rfl) ?_
          show Z zm_X12_takes kz Q 154 [(13, zI ((30 * (v4 + v11)))), (12, zI ((E 82 v11))), (0, zR 50), (1, zR a1), (2, zR a2), (3, zR a3), (4, zI v4), (5, zI v5), (6, zR a6), (8, zR a8), (9, zI v9), (10, zI v10), (11, zI v11)] [zI x_24] (d, G, E_25)
          refine Z.if_eq 161 dX12_takes_154 rfl ⟨fun c_28 => ?_, fun c_28 => ?_⟩
          · replace K := K.1 c_28
            refine Z.pick (ls' := [(0, zR 50), (1, zR a1), (2, zR a2), (3, zR a3), (4, zI v4), (5, zI v5), (6, zR a6), (8, zR a8), (9, zI v9), (10, zI v10), (11, zI v11)]) [2, 3, 4, 5, 6, 7, 8, 9, 10, 11, 12] rfl ?_
            exact K
          · replace K := K.2 c_28
            refine Z.iconst (n := 1) dX12_takes_157 ⟨by decide, by decide⟩ ?_
            refine Z.goto 162 dX12_takes_158 rfl ?_
            refine Z.istore (ls' := [(14, zI 1), (13, zI ((30 * (v4 + v11)))), (12, zI ((E 82 v11))), (0, zR 50), (1, zR a1), (2, zR a2), (3, zR a3), (4, zI v4), (5, zI v5), (6, zR a6), (8, zR a8), (9, zI v9), (10, zI v10), (11, zI v11)]) dX12_takes_162 (by decide) rfl ?_
            refine Z.iload (k := 0) dX12_takes_164 rfl ?_
            refine Z.if_eq 189 dX12_takes_166 rfl ⟨fun c_29 => absurd c_29 (by decide), fun _ => ?_⟩
            obtain ⟨z_30, K⟩ := K
            refine Z.iinc (k := 13) (ls' := [(11, zI ((v11 + 1))), (14, zI 1), (13, zI ((30 * (v4 + v11)))), (12, zI ((E 82 v11))), (0, zR 50), (1, zR a1), (2, zR a2), (3, zR a3), (4, zI v4), (5, zI v5), (6, zR a6), (8, zR a8), (9, zI v9), (10, zI v10)]) dX12_takes_169 rfl (by decide) z_30 rfl ?_
            refine Z.aload_n (k := 4) dX12_takes_172 rfl ?_
            refine Y.getR (o := some 82) 31 dX12_takes_173 zl_X12_93 (rfl) (by decide) rfl (zM_1 hM).2.1 (zM_31 hM).1 ?_
            refine Z.iload (k := 0) dX12_takes_176 rfl ?_
            refine Z.iconst (n := 0) dX12_takes_178 ⟨by decide, by decide⟩ ?_
            obtain ⟨z_31, K⟩ := K
            refine Y.iast dX12_takes_179 (rfl) ((zM_31 hM).2.2) z_31 ?_
            generalize eE_32 : zuE E_25 82 ((v11 + 1)) 0 = E_32
            replace K := K E_32 eE_32.symm
            refine Z.aload_n (k := 4) dX12_takes_180 rfl ?_
            refine Z.iload (k := 0) dX12_takes_181 rfl ?_
            obtain ⟨E_33, m_34, K⟩ := K
            refine Y.callV (g := zm_X12_save) (vs := [zI ((v11 + 1))]) (st := []) dX12_takes_183 ⟨zg_X12_save.1, zg_X12_save.2.1, zg_X12_save.2.2, by decide⟩ ⟨zk_X12_191, zv_X12_save⟩ (ci := 12) (rfl) rfl ((zM_1 hM).2.1) rfl rfl (Nat.le_of_ble_eq_true rfl) m_34 (Or.inl rfl) ?_
            show Z zm_X12_takes kz Q 186 [(11, zI ((v11 + 1))), (14, zI 1), (13, zI ((30 * (v4 + v11)))), (12, zI ((E 82 v11))), (0, zR 50), (1, zR a1), (2, zR a2), (3, zR a3), (4, zI v4), (5, zI v5), (6, zR a6), (8, zR a8), (9, zI v9), (10, zI v10)] [] (d, G, E_33)
            refine Z.goto 200 dX12_takes_186 rfl ?_
            refine Z.goto 28 dX12_takes_200 rfl ?_
            refine Z.pick (ls' := [(0, zR 50), (1, zR a1), (2, zR a2), (3, zR a3), (4, zI v4), (5, zI v5), (6, zR a6), (8, zR a8), (9, zI v9), (10, zI v10), (11, zI ((v11 + 1)))]) [4, 5, 6, 7, 8, 9, 10, 11, 12, 13, 0] rfl ?_
            exact K
    · replace K := K.2 c_3
      refine Z.iload (k := 11) dX12_takes_51 rfl ?_
      refine Z.if_ne 58 dX12_takes_53 rfl ⟨fun c_36 => ?_, fun c_36 => ?_⟩
      · replace K := K.1 c_36
        obtain ⟨z_37, K⟩ := K
        refine Z.iinc (k := 11) (ls' := [(11, zI ((v11 + (-1)))), (12, zI ((E 82 v11))), (0, zR 50), (1, zR a1), (2, zR a2), (3, zR a3), (4, zI v4), (5, zI v5), (6, zR a6), (8, zR a8), (9, zI v9), (10, zI v10)]) dX12_takes_58 rfl (by decide) z_37 rfl ?_
        refine Z.aload_n (k := 2) dX12_takes_61 rfl ?_
        refine Y.getR (o := some 82) 31 dX12_takes_62 zl_X12_93 (rfl) (by decide) rfl (zM_1 hM).2.1 (zM_31 hM).1 ?_
        refine Z.iload (k := 0) dX12_takes_65 rfl ?_
        refine Z.dup2_i dX12_takes_67 (fun _ => rfl) (fun _ => rfl) ?_
        obtain ⟨z_38, K⟩ := K
        refine Y.iald dX12_takes_68 (rfl) ((zM_31 hM).2.2) z_38 ?_
        refine Z.iconst (n := 1) dX12_takes_69 ⟨by decide, by decide⟩ ?_
        obtain ⟨z_39, K⟩ := K
        refine Z.iadd dX12_takes_70 z_39 ?_
        obtain ⟨z_40, K⟩ := K
        refine Y.iast dX12_takes_71 (rfl) ((zM_31 hM).2.2) z_40 ?_
        generalize eE_41 : zuE E 82 ((v11 + (-1))) (((E 82 (v11 + (-1))) + 1)) = E_41
        replace K := K E_41 eE_41.symm
        refine Z.goto 200 dX12_takes_72 rfl ?_
        refine Z.goto 28 dX12_takes_200 rfl ?_
        refine Z.pick (ls' := [(0, zR 50), (1, zR a1), (2, zR a2), (3, zR a3), (4, zI v4), (5, zI v5), (6, zR a6), (8, zR a8), (9, zI v9), (10, zI v10), (11, zI ((v11 + (-1))))]) [2, 3, 4, 5, 6, 7, 8, 9, 10, 11, 0] rfl ?_
        exact K
      · replace K := K.2 c_36
        refine Z.iconst (n := 0) dX12_takes_56 ⟨by decide, by decide⟩ ?_
        exact Z.iret (ty := .boolean) dX12_takes_57 rfl rfl K
set_option maxRecDepth 20000 in
theorem X12_takes_161 {kz : Nat × Nat} {Q : Option zV → zH → Prop} {d : List Nat} {G : Nat → Int → Option Nat} {E : Nat → Int → Int} {a1 n1 : Nat} {a2 n2 : Nat} {a3 n3 : Nat} {v4 : Int} {v5 : Int} {a6 n6 : Nat} {a8 n8 : Nat} {v9 : Int} {v10 : Int} {v11 : Int} (hM : zK zMt d G) (ha1 : a1 ∈ d) (hk1 : zkd a1 = (0, n1)) (ha2 : a2 ∈ d) (hk2 : zkd a2 = (0, n2)) (ha3 : a3 ∈ d) (hk3 : zkd a3 = (1, n3)) (ha6 : a6 ∈ d) (hk6 : zkd a6 = (0, n6)) (ha8 : a8 ∈ d) (hk8 : zkd a8 = (1, n8)) (K : ((0 : Int) ≤ v11 ∧ v11 < (7 : Int)) ∧ zin ((E 82 v11) + 1) ∧ ((0 : Int) ≤ v11 ∧ v11 < (7 : Int)) ∧ ∀ E_5, E_5 = zuE E 82 v11 (((E 82 v11) + 1)) → Z zm_X12_takes kz Q 28 [(0, zR 50), (1, zR a1), (2, zR a2), (3, zR a3), (4, zI v4), (5, zI v5), (6, zR a6), (8, zR a8), (9, zI v9), (10, zI v10), (11, zI v11)] [] (d, G, E_5)) : Z zm_X12_takes kz Q 161 [(0, zR 50), (1, zR a1), (2, zR a2), (3, zR a3), (4, zI v4), (5, zI v5), (6, zR a6), (8, zR a8), (9, zI v9), (10, zI v10), (11, zI v11)] [] (d, G, E) := by
  refine Z.iconst (n := 0) dX12_takes_161 ⟨by decide, by decide⟩ ?_
  refine Z.istore (ls' := [(14, zI 0), (0, zR 50), (1, zR a1), (2, zR a2), (3, zR a3), (4, zI v4), (5, zI v5), (6, zR a6), (8, zR a8), (9, zI v9), (10, zI v10), (11, zI v11)]) dX12_takes_162 (by decide) rfl ?_
  refine Z.iload (k := 0) dX12_takes_164 rfl ?_
  refine Z.if_eq 189 dX12_takes_166 rfl ⟨fun _ => ?_, fun c_1 => absurd (by decide) c_1⟩
  refine Z.aload_n (k := 1) dX12_takes_189 rfl ?_
  refine Y.getR (o := some 82) 31 dX12_takes_190 zl_X12_93 (rfl) (by decide) rfl (zM_1 hM).2.1 (zM_31 hM).1 ?_
  refine Z.iload (k := 11) dX12_takes_193 rfl ?_
  refine Z.dup2_i dX12_takes_195 (fun _ => rfl) (fun _ => rfl) ?_
  obtain ⟨z_2, K⟩ := K
  refine Y.iald dX12_takes_196 (rfl) ((zM_31 hM).2.2) z_2 ?_
  refine Z.iconst (n := 1) dX12_takes_197 ⟨by decide, by decide⟩ ?_
  obtain ⟨z_3, K⟩ := K
  refine Z.iadd dX12_takes_198 z_3 ?_
  obtain ⟨z_4, K⟩ := K
  refine Y.iast dX12_takes_199 (rfl) ((zM_31 hM).2.2) z_4 ?_
  generalize eE_5 : zuE E 82 v11 (((E 82 v11) + 1)) = E_5
  replace K := K E_5 eE_5.symm
  refine Z.goto 28 dX12_takes_200 rfl ?_
  refine Z.pick (ls' := [(0, zR 50), (1, zR a1), (2, zR a2), (3, zR a3), (4, zI v4), (5, zI v5), (6, zR a6), (8, zR a8), (9, zI v9), (10, zI v10), (11, zI v11)]) [1, 2, 3, 4, 5, 6, 7, 8, 9, 10, 11] rfl ?_
  exact K
set_option maxRecDepth 20000 in
theorem X12_claimTakes_0 {kz : Nat × Nat} {Q : Option zV → zH → Prop} {d : List Nat} {G : Nat → Int → Option Nat} {E : Nat → Int → Int} {v1 : Int} {v2 : Int} (hM : zK zMt d G) (K : zin (6 * v1) ∧ ((0 : Int) ≤ v1 ∧ v1 < (150 : Int)) ∧ zin (6 * v2) ∧ ((0 : Int) ≤ v2 ∧ v2 < (150 : Int)) ∧ ∃ x_5 E_6, zM zm_X12_takes [zR 50, zR 58, zR 59, zR 60, zI ((6 * v1)), zI ((E 61 v1)), zR 58, zR 59, zR 60, zI ((6 * v2)), zI ((E 61 v2))] (d, G, E) (some (zI x_5)) (d, G, E_6) ∧ (x_5 = 0 ∨ x_5 = 1) ∧ Q (some (zI x_5)) (d, G, E_6)) : Z zm_X12_claimTakes kz Q 0 [(0, zR 50), (1, zI v1), (2, zI v2)] [] (d, G, E) := by
  refine Z.aload_n (k := 0) dX12_claimTakes_0 rfl ?_
  refine Z.aload_n (k := 0) dX12_claimTakes_1 rfl ?_
  refine Y.getR (o := some 58) 7 dX12_claimTakes_2 zl_X12_27 (rfl) (by decide) rfl (zM_1 hM).2.1 (zM_7 hM).1 ?_
  refine Z.aload_n (k := 0) dX12_claimTakes_5 rfl ?_
  refine Y.getR (o := some 59) 8 dX12_claimTakes_6 zl_X12_30 (rfl) (by decide) rfl (zM_1 hM).2.1 (zM_8 hM).1 ?_
  refine Z.aload_n (k := 0) dX12_claimTakes_9 rfl ?_
  refine Y.getR (o := some 60) 9 dX12_claimTakes_10 zl_X12_33 (rfl) (by decide) rfl (zM_1 hM).2.1 (zM_9 hM).1 ?_
  refine Z.bipush (n := 6) dX12_claimTakes_13 ⟨by decide, by decide⟩ (by decide) ?_
  refine Z.iload_n (k := 1) dX12_claimTakes_15 rfl ?_
  obtain ⟨z_1, K⟩ := K
  refine Z.imul dX12_claimTakes_16 z_1 ?_
  refine Z.aload_n (k := 0) dX12_claimTakes_17 rfl ?_
  refine Y.getR (o := some 61) 10 dX12_claimTakes_18 zl_X12_36 (rfl) (by decide) rfl (zM_1 hM).2.1 (zM_10 hM).1 ?_
  refine Z.iload_n (k := 1) dX12_claimTakes_21 rfl ?_
  obtain ⟨z_2, K⟩ := K
  refine Y.iald dX12_claimTakes_22 (rfl) ((zM_10 hM).2.2) z_2 ?_
  refine Z.aload_n (k := 0) dX12_claimTakes_23 rfl ?_
  refine Y.getR (o := some 58) 7 dX12_claimTakes_24 zl_X12_27 (rfl) (by decide) rfl (zM_1 hM).2.1 (zM_7 hM).1 ?_
  refine Z.aload_n (k := 0) dX12_claimTakes_27 rfl ?_
  refine Y.getR (o := some 59) 8 dX12_claimTakes_28 zl_X12_30 (rfl) (by decide) rfl (zM_1 hM).2.1 (zM_8 hM).1 ?_
  refine Z.aload_n (k := 0) dX12_claimTakes_31 rfl ?_
  refine Y.getR (o := some 60) 9 dX12_claimTakes_32 zl_X12_33 (rfl) (by decide) rfl (zM_1 hM).2.1 (zM_9 hM).1 ?_
  refine Z.bipush (n := 6) dX12_claimTakes_35 ⟨by decide, by decide⟩ (by decide) ?_
  refine Z.iload_n (k := 2) dX12_claimTakes_37 rfl ?_
  obtain ⟨z_3, K⟩ := K
  refine Z.imul dX12_claimTakes_38 z_3 ?_
  refine Z.aload_n (k := 0) dX12_claimTakes_39 rfl ?_
  refine Y.getR (o := some 61) 10 dX12_claimTakes_40 zl_X12_36 (rfl) (by decide) rfl (zM_1 hM).2.1 (zM_10 hM).1 ?_
  refine Z.iload_n (k := 2) dX12_claimTakes_43 rfl ?_
  obtain ⟨z_4, K⟩ := K
  refine Y.iald dX12_claimTakes_44 (rfl) ((zM_10 hM).2.2) z_4 ?_
  obtain ⟨x_5, E_6, m_7, K⟩ := K
  refine Y.callV (g := zm_X12_takes) (vs := [zR 58, zR 59, zR 60, zI ((6 * v1)), zI ((E 61 v1)), zR 58, zR 59, zR 60, zI ((6 * v2)), zI ((E 61 v2))]) (st := []) dX12_claimTakes_45 ⟨zg_X12_takes.1, zg_X12_takes.2.1, zg_X12_takes.2.2, by decide⟩ ⟨zk_X12_201, zv_X12_takes⟩ (ci := 12) (rfl) rfl ((zM_1 hM).2.1) rfl rfl (Nat.le_of_ble_eq_true rfl) m_7 (Or.inl rfl) ?_
  show Z zm_X12_claimTakes kz Q 48 [(0, zR 50), (1, zI v1), (2, zI v2)] [zI x_5] (d, G, E_6)
  exact Z.iret (ty := .boolean) dX12_claimTakes_48 rfl (by rcases K.1 with e | e <;> rw [e] <;> rfl) K.2
set_option maxRecDepth 20000 in
theorem X12_claimTakesWork_0 {kz : Nat × Nat} {Q : Option zV → zH → Prop} {d : List Nat} {G : Nat → Int → Option Nat} {E : Nat → Int → Int} {v1 : Int} (hM : zK zMt d G) (K : zin (6 * v1) ∧ ((0 : Int) ≤ v1 ∧ v1 < (150 : Int)) ∧ ∃ x_3 E_4, zM zm_X12_takes [zR 50, zR 58, zR 59, zR 60, zI ((6 * v1)), zI ((E 61 v1)), zR 72, zR 73, zR 74, zI 0, zI ((E 50 24))] (d, G, E) (some (zI x_3)) (d, G, E_4) ∧ (x_3 = 0 ∨ x_3 = 1) ∧ Q (some (zI x_3)) (d, G, E_4)) : Z zm_X12_claimTakesWork kz Q 0 [(0, zR 50), (1, zI v1)] [] (d, G, E) := by
  refine Z.aload_n (k := 0) dX12_claimTakesWork_0 rfl ?_
  refine Z.aload_n (k := 0) dX12_claimTakesWork_1 rfl ?_
  refine Y.getR (o := some 58) 7 dX12_claimTakesWork_2 zl_X12_27 (rfl) (by decide) rfl (zM_1 hM).2.1 (zM_7 hM).1 ?_
  refine Z.aload_n (k := 0) dX12_claimTakesWork_5 rfl ?_
  refine Y.getR (o := some 59) 8 dX12_claimTakesWork_6 zl_X12_30 (rfl) (by decide) rfl (zM_1 hM).2.1 (zM_8 hM).1 ?_
  refine Z.aload_n (k := 0) dX12_claimTakesWork_9 rfl ?_
  refine Y.getR (o := some 60) 9 dX12_claimTakesWork_10 zl_X12_33 (rfl) (by decide) rfl (zM_1 hM).2.1 (zM_9 hM).1 ?_
  refine Z.bipush (n := 6) dX12_claimTakesWork_13 ⟨by decide, by decide⟩ (by decide) ?_
  refine Z.iload_n (k := 1) dX12_claimTakesWork_15 rfl ?_
  obtain ⟨z_1, K⟩ := K
  refine Z.imul dX12_claimTakesWork_16 z_1 ?_
  refine Z.aload_n (k := 0) dX12_claimTakesWork_17 rfl ?_
  refine Y.getR (o := some 61) 10 dX12_claimTakesWork_18 zl_X12_36 (rfl) (by decide) rfl (zM_1 hM).2.1 (zM_10 hM).1 ?_
  refine Z.iload_n (k := 1) dX12_claimTakesWork_21 rfl ?_
  obtain ⟨z_2, K⟩ := K
  refine Y.iald dX12_claimTakesWork_22 (rfl) ((zM_10 hM).2.2) z_2 ?_
  refine Z.aload_n (k := 0) dX12_claimTakesWork_23 rfl ?_
  refine Y.getR (o := some 72) 21 dX12_claimTakesWork_24 zl_X12_69 (rfl) (by decide) rfl (zM_1 hM).2.1 (zM_21 hM).1 ?_
  refine Z.aload_n (k := 0) dX12_claimTakesWork_27 rfl ?_
  refine Y.getR (o := some 73) 22 dX12_claimTakesWork_28 zl_X12_72 (rfl) (by decide) rfl (zM_1 hM).2.1 (zM_22 hM).1 ?_
  refine Z.aload_n (k := 0) dX12_claimTakesWork_31 rfl ?_
  refine Y.getR (o := some 74) 23 dX12_claimTakesWork_32 zl_X12_75 (rfl) (by decide) rfl (zM_1 hM).2.1 (zM_23 hM).1 ?_
  refine Z.iconst (n := 0) dX12_claimTakesWork_35 ⟨by decide, by decide⟩ ?_
  refine Z.aload_n (k := 0) dX12_claimTakesWork_36 rfl ?_
  refine Y.getI 24 dX12_claimTakesWork_37 zl_X12_167 (rfl) (by decide) rfl (zM_1 hM).2.1 ?_
  obtain ⟨x_3, E_4, m_5, K⟩ := K
  refine Y.callV (g := zm_X12_takes) (vs := [zR 58, zR 59, zR 60, zI ((6 * v1)), zI ((E 61 v1)), zR 72, zR 73, zR 74, zI 0, zI ((E 50 24))]) (st := []) dX12_claimTakesWork_40 ⟨zg_X12_takes.1, zg_X12_takes.2.1, zg_X12_takes.2.2, by decide⟩ ⟨zk_X12_201, zv_X12_takes⟩ (ci := 12) (rfl) rfl ((zM_1 hM).2.1) rfl rfl (Nat.le_of_ble_eq_true rfl) m_5 (Or.inl rfl) ?_
  show Z zm_X12_claimTakesWork kz Q 43 [(0, zR 50), (1, zI v1)] [zI x_3] (d, G, E_4)
  exact Z.iret (ty := .boolean) dX12_claimTakesWork_43 rfl (by rcases K.1 with e | e <;> rw [e] <;> rfl) K.2
set_option maxRecDepth 20000 in
theorem X12_makeOther_0 {kz : Nat × Nat} {Q : Option zV → zH → Prop} {d : List Nat} {G : Nat → Int → Option Nat} {E : Nat → Int → Int} {v1 : Int} {v2 : Int} (hM : zK zMt d G) (K : Z zm_X12_makeOther kz Q 5 [(0, zR 50), (2, zI v2), (3, zI 0), (4, zI v1)] [] (d, G, E)) : Z zm_X12_makeOther kz Q 0 [(0, zR 50), (1, zI v1), (2, zI v2)] [] (d, G, E) := by
  refine Z.iconst (n := 0) dX12_makeOther_0 ⟨by decide, by decide⟩ ?_
  refine Z.istore_n (ls' := [(3, zI 0), (0, zR 50), (1, zI v1), (2, zI v2)]) dX12_makeOther_1 (by decide) rfl ?_
  refine Z.iload_n (k := 2) dX12_makeOther_2 rfl ?_
  refine Z.istore (ls' := [(4, zI v1), (3, zI 0), (0, zR 50), (1, zI v1), (2, zI v2)]) dX12_makeOther_3 (by decide) rfl ?_
  refine Z.pick (ls' := [(0, zR 50), (2, zI v2), (3, zI 0), (4, zI v1)]) [2, 4, 1, 0] rfl ?_
  exact K
set_option maxRecDepth 20000 in
theorem X12_makeOther_5 {kz : Nat × Nat} {Q : Option zV → zH → Prop} {d : List Nat} {G : Nat → Int → Option Nat} {E : Nat → Int → Int} {v2 : Int} {v3 : Int} {v4 : Int} (hM : zK zMt d G) (K : (v2 ≤ v4 → Q (some (zI v3)) (d, G, E)) ∧ (¬ (v2 ≤ v4) → ((0 : Int) ≤ v4 ∧ v4 < (27000 : Int)) ∧ ((E 58 v4) < 0 → ((0 : Int) ≤ v4 ∧ v4 < (27000 : Int)) ∧ zin ((-1) - (E 58 v4)) ∧ ((0 : Int) ≤ ((-1) - (E 58 v4)) ∧ ((-1) - (E 58 v4)) < (20 : Int)) ∧ ((E 80 ((-1) - (E 58 v4))) ≠ (-1) → Z zm_X12_makeOther kz Q 67 [(0, zR 50), (2, zI v2), (3, zI v3), (4, zI v4), (5, zI (((-1) - (E 58 v4)))), (6, zI 0)] [] (d, G, E)) ∧ (¬ ((E 80 ((-1) - (E 58 v4))) ≠ (-1)) → Q (some (zI ((-1)))) (d, G, E))) ∧ (¬ ((E 58 v4) < 0) → ((0 : Int) ≤ v4 ∧ v4 < (27000 : Int)) ∧ ((0 : Int) ≤ v3 ∧ v3 < (1000 : Int)) ∧ ∀ E_10, E_10 = zuE E 85 v3 ((E 58 v4)) → zin (v3 + 1) ∧ zin (v4 + 1) ∧ Z zm_X12_makeOther kz Q 5 [(0, zR 50), (2, zI v2), (3, zI ((v3 + 1))), (4, zI ((v4 + 1)))] [] (d, G, E_10)))) : Z zm_X12_makeOther kz Q 5 [(0, zR 50), (2, zI v2), (3, zI v3), (4, zI v4)] [] (d, G, E) := by
  refine Z.iload (k := 3) dX12_makeOther_5 rfl ?_
  refine Z.iload_n (k := 1) dX12_makeOther_7 rfl ?_
  refine Z.icmp_ge 115 dX12_makeOther_8 rfl ⟨fun c_1 => ?_, fun c_1 => ?_⟩
  · replace K := K.1 c_1
    refine Z.iload_n (k := 2) dX12_makeOther_115 rfl ?_
    exact Z.iret (ty := .int) dX12_makeOther_116 rfl rfl K
  · replace K := K.2 c_1
    refine Z.aload_n (k := 0) dX12_makeOther_11 rfl ?_
    refine Y.getR (o := some 58) 7 dX12_makeOther_12 zl_X12_27 (rfl) (by decide) rfl (zM_1 hM).2.1 (zM_7 hM).1 ?_
    refine Z.iload (k := 3) dX12_makeOther_15 rfl ?_
    obtain ⟨z_2, K⟩ := K
    refine Y.iald dX12_makeOther_17 (rfl) ((zM_7 hM).2.2) z_2 ?_
    refine Z.if_lt 40 dX12_makeOther_18 rfl ⟨fun c_3 => ?_, fun c_3 => ?_⟩
    · replace K := K.1 c_3
      refine Z.iconst (n := -1) dX12_makeOther_40 ⟨by decide, by decide⟩ ?_
      refine Z.aload_n (k := 0) dX12_makeOther_41 rfl ?_
      refine Y.getR (o := some 58) 7 dX12_makeOther_42 zl_X12_27 (rfl) (by decide) rfl (zM_1 hM).2.1 (zM_7 hM).1 ?_
      refine Z.iload (k := 3) dX12_makeOther_45 rfl ?_
      obtain ⟨z_4, K⟩ := K
      refine Y.iald dX12_makeOther_47 (rfl) ((zM_7 hM).2.2) z_4 ?_
      obtain ⟨z_5, K⟩ := K
      refine Z.isub dX12_makeOther_48 z_5 ?_
      refine Z.istore (ls' := [(5, zI (((-1) - (E 58 v4)))), (0, zR 50), (2, zI v2), (3, zI v3), (4, zI v4)]) dX12_makeOther_49 (by decide) rfl ?_
      refine Z.aload_n (k := 1) dX12_makeOther_51 rfl ?_
      refine Y.getR (o := some 80) 29 dX12_makeOther_52 zl_X12_87 (rfl) (by decide) rfl (zM_1 hM).2.1 (zM_29 hM).1 ?_
      refine Z.iload (k := 0) dX12_makeOther_55 rfl ?_
      obtain ⟨z_6, K⟩ := K
      refine Y.iald dX12_makeOther_57 (rfl) ((zM_29 hM).2.2) z_6 ?_
      refine Z.iconst (n := -1) dX12_makeOther_58 ⟨by decide, by decide⟩ ?_
      refine Z.icmp_ne 64 dX12_makeOther_59 rfl ⟨fun c_7 => ?_, fun c_7 => ?_⟩
      · replace K := K.1 c_7
        refine Z.iconst (n := 0) dX12_makeOther_64 ⟨by decide, by decide⟩ ?_
        refine Z.istore (ls' := [(6, zI 0), (5, zI (((-1) - (E 58 v4)))), (0, zR 50), (2, zI v2), (3, zI v3), (4, zI v4)]) dX12_makeOther_65 (by decide) rfl ?_
        refine Z.pick (ls' := [(0, zR 50), (2, zI v2), (3, zI v3), (4, zI v4), (5, zI (((-1) - (E 58 v4)))), (6, zI 0)]) [2, 3, 4, 5, 1, 0] rfl ?_
        exact K
      · replace K := K.2 c_7
        refine Z.iconst (n := -1) dX12_makeOther_62 ⟨by decide, by decide⟩ ?_
        exact Z.iret (ty := .int) dX12_makeOther_63 rfl rfl K
    · replace K := K.2 c_3
      refine Z.aload_n (k := 0) dX12_makeOther_21 rfl ?_
      refine Y.getR (o := some 85) 34 dX12_makeOther_22 zl_X12_102 (rfl) (by decide) rfl (zM_1 hM).2.1 (zM_34 hM).1 ?_
      refine Z.iload_n (k := 2) dX12_makeOther_25 rfl ?_
      refine Z.aload_n (k := 0) dX12_makeOther_26 rfl ?_
      refine Y.getR (o := some 58) 7 dX12_makeOther_27 zl_X12_27 (rfl) (by decide) rfl (zM_1 hM).2.1 (zM_7 hM).1 ?_
      refine Z.iload (k := 3) dX12_makeOther_30 rfl ?_
      obtain ⟨z_8, K⟩ := K
      refine Y.iald dX12_makeOther_32 (rfl) ((zM_7 hM).2.2) z_8 ?_
      obtain ⟨z_9, K⟩ := K
      refine Y.iast dX12_makeOther_33 (rfl) ((zM_34 hM).2.2) z_9 ?_
      generalize eE_10 : zuE E 85 v3 ((E 58 v4)) = E_10
      replace K := K E_10 eE_10.symm
      obtain ⟨z_11, K⟩ := K
      refine Z.iinc (k := 2) (ls' := [(3, zI ((v3 + 1))), (0, zR 50), (2, zI v2), (4, zI v4)]) dX12_makeOther_34 rfl (by decide) z_11 rfl ?_
      refine Z.goto 109 dX12_makeOther_37 rfl ?_
      obtain ⟨z_12, K⟩ := K
      refine Z.iinc (k := 3) (ls' := [(4, zI ((v4 + 1))), (3, zI ((v3 + 1))), (0, zR 50), (2, zI v2)]) dX12_makeOther_109 rfl (by decide) z_12 rfl ?_
      refine Z.goto 5 dX12_makeOther_112 rfl ?_
      refine Z.pick (ls' := [(0, zR 50), (2, zI v2), (3, zI ((v3 + 1))), (4, zI ((v4 + 1)))]) [2, 3, 1, 0] rfl ?_
      exact K
set_option maxRecDepth 20000 in
theorem X12_makeOther_67 {kz : Nat × Nat} {Q : Option zV → zH → Prop} {d : List Nat} {G : Nat → Int → Option Nat} {E : Nat → Int → Int} {v2 : Int} {v3 : Int} {v4 : Int} {v5 : Int} {v6 : Int} (hM : zK zMt d G) (K : ((0 : Int) ≤ v5 ∧ v5 < (20 : Int)) ∧ ((E 81 v5) ≤ v6 → zin (v4 + 1) ∧ Z zm_X12_makeOther kz Q 5 [(0, zR 50), (2, zI v2), (3, zI v3), (4, zI ((v4 + 1)))] [] (d, G, E)) ∧ (¬ ((E 81 v5) ≤ v6) → ((0 : Int) ≤ v5 ∧ v5 < (20 : Int)) ∧ zin ((E 80 v5) + v6) ∧ ((0 : Int) ≤ ((E 80 v5) + v6) ∧ ((E 80 v5) + v6) < (180 : Int)) ∧ ((0 : Int) ≤ v3 ∧ v3 < (1000 : Int)) ∧ ∀ E_8, E_8 = zuE E 85 v3 ((E 72 ((E 80 v5) + v6))) → zin (v3 + 1) ∧ zin (v6 + 1) ∧ Z zm_X12_makeOther kz Q 67 [(0, zR 50), (2, zI v2), (3, zI ((v3 + 1))), (4, zI v4), (5, zI v5), (6, zI ((v6 + 1)))] [] (d, G, E_8))) : Z zm_X12_makeOther kz Q 67 [(0, zR 50), (2, zI v2), (3, zI v3), (4, zI v4), (5, zI v5), (6, zI v6)] [] (d, G, E) := by
  refine Z.iload (k := 5) dX12_makeOther_67 rfl ?_
  refine Z.aload_n (k := 0) dX12_makeOther_69 rfl ?_
  refine Y.getR (o := some 81) 30 dX12_makeOther_70 zl_X12_90 (rfl) (by decide) rfl (zM_1 hM).2.1 (zM_30 hM).1 ?_
  refine Z.iload (k := 4) dX12_makeOther_73 rfl ?_
  obtain ⟨z_1, K⟩ := K
  refine Y.iald dX12_makeOther_75 (rfl) ((zM_30 hM).2.2) z_1 ?_
  refine Z.icmp_ge 109 dX12_makeOther_76 rfl ⟨fun c_2 => ?_, fun c_2 => ?_⟩
  · replace K := K.1 c_2
    obtain ⟨z_3, K⟩ := K
    refine Z.iinc (k := 3) (ls' := [(4, zI ((v4 + 1))), (0, zR 50), (2, zI v2), (3, zI v3), (5, zI v5), (6, zI v6)]) dX12_makeOther_109 rfl (by decide) z_3 rfl ?_
    refine Z.goto 5 dX12_makeOther_112 rfl ?_
    refine Z.pick (ls' := [(0, zR 50), (2, zI v2), (3, zI v3), (4, zI ((v4 + 1)))]) [1, 2, 3, 0] rfl ?_
    exact K
  · replace K := K.2 c_2
    refine Z.aload_n (k := 0) dX12_makeOther_79 rfl ?_
    refine Y.getR (o := some 85) 34 dX12_makeOther_80 zl_X12_102 (rfl) (by decide) rfl (zM_1 hM).2.1 (zM_34 hM).1 ?_
    refine Z.iload_n (k := 2) dX12_makeOther_83 rfl ?_
    refine Z.aload_n (k := 0) dX12_makeOther_84 rfl ?_
    refine Y.getR (o := some 72) 21 dX12_makeOther_85 zl_X12_69 (rfl) (by decide) rfl (zM_1 hM).2.1 (zM_21 hM).1 ?_
    refine Z.aload_n (k := 0) dX12_makeOther_88 rfl ?_
    refine Y.getR (o := some 80) 29 dX12_makeOther_89 zl_X12_87 (rfl) (by decide) rfl (zM_1 hM).2.1 (zM_29 hM).1 ?_
    refine Z.iload (k := 4) dX12_makeOther_92 rfl ?_
    obtain ⟨z_4, K⟩ := K
    refine Y.iald dX12_makeOther_94 (rfl) ((zM_29 hM).2.2) z_4 ?_
    refine Z.iload (k := 5) dX12_makeOther_95 rfl ?_
    obtain ⟨z_5, K⟩ := K
    refine Z.iadd dX12_makeOther_97 z_5 ?_
    obtain ⟨z_6, K⟩ := K
    refine Y.iald dX12_makeOther_98 (rfl) ((zM_21 hM).2.2) z_6 ?_
    obtain ⟨z_7, K⟩ := K
    refine Y.iast dX12_makeOther_99 (rfl) ((zM_34 hM).2.2) z_7 ?_
    generalize eE_8 : zuE E 85 v3 ((E 72 ((E 80 v5) + v6))) = E_8
    replace K := K E_8 eE_8.symm
    obtain ⟨z_9, K⟩ := K
    refine Z.iinc (k := 2) (ls' := [(3, zI ((v3 + 1))), (0, zR 50), (2, zI v2), (4, zI v4), (5, zI v5), (6, zI v6)]) dX12_makeOther_100 rfl (by decide) z_9 rfl ?_
    obtain ⟨z_10, K⟩ := K
    refine Z.iinc (k := 5) (ls' := [(6, zI ((v6 + 1))), (3, zI ((v3 + 1))), (0, zR 50), (2, zI v2), (4, zI v4), (5, zI v5)]) dX12_makeOther_103 rfl (by decide) z_10 rfl ?_
    refine Z.goto 67 dX12_makeOther_106 rfl ?_
    refine Z.pick (ls' := [(0, zR 50), (2, zI v2), (3, zI ((v3 + 1))), (4, zI v4), (5, zI v5), (6, zI ((v6 + 1)))]) [2, 3, 1, 4, 5, 0] rfl ?_
    exact K
set_option maxRecDepth 20000 in
theorem X12_isEquation_0 {kz : Nat × Nat} {Q : Option zV → zH → Prop} {d : List Nat} {G : Nat → Int → Option Nat} {E : Nat → Int → Int} {v1 : Int} (hM : zK zMt d G) (K : ((0 : Int) ≤ v1 ∧ v1 < (150 : Int)) ∧ ((E 61 v1) ≠ 1 → Q (some (zI 0)) (d, G, E)) ∧ (¬ ((E 61 v1) ≠ 1) → zin (6 * v1) ∧ ((0 : Int) ≤ (6 * v1) ∧ (6 * v1) < (900 : Int)) ∧ ((E 60 (6 * v1)) ≠ 0 → Q (some (zI 0)) (d, G, E)) ∧ (¬ ((E 60 (6 * v1)) ≠ 0) → zin (180 * v1) ∧ ((0 : Int) ≤ (180 * v1) ∧ (180 * v1) < (27000 : Int)) ∧ ((E 58 (180 * v1)) ≠ 0 → Q (some (zI 0)) (d, G, E)) ∧ (¬ ((E 58 (180 * v1)) ≠ 0) → Q (some (zI 1)) (d, G, E))))) : Z zm_X12_isEquation kz Q 0 [(0, zR 50), (1, zI v1)] [] (d, G, E) := by
  refine Z.aload_n (k := 0) dX12_isEquation_0 rfl ?_
  refine Y.getR (o := some 61) 10 dX12_isEquation_1 zl_X12_36 (rfl) (by decide) rfl (zM_1 hM).2.1 (zM_10 hM).1 ?_
  refine Z.iload_n (k := 1) dX12_isEquation_4 rfl ?_
  obtain ⟨z_1, K⟩ := K
  refine Y.iald dX12_isEquation_5 (rfl) ((zM_10 hM).2.2) z_1 ?_
  refine Z.iconst (n := 1) dX12_isEquation_6 ⟨by decide, by decide⟩ ?_
  refine Z.icmp_ne 39 dX12_isEquation_7 rfl ⟨fun c_2 => ?_, fun c_2 => ?_⟩
  · replace K := K.1 c_2
    refine Z.iconst (n := 0) dX12_isEquation_39 ⟨by decide, by decide⟩ ?_
    exact Z.iret (ty := .boolean) dX12_isEquation_40 rfl rfl K
  · replace K := K.2 c_2
    refine Z.aload_n (k := 0) dX12_isEquation_10 rfl ?_
    refine Y.getR (o := some 60) 9 dX12_isEquation_11 zl_X12_33 (rfl) (by decide) rfl (zM_1 hM).2.1 (zM_9 hM).1 ?_
    refine Z.bipush (n := 6) dX12_isEquation_14 ⟨by decide, by decide⟩ (by decide) ?_
    refine Z.iload_n (k := 1) dX12_isEquation_16 rfl ?_
    obtain ⟨z_3, K⟩ := K
    refine Z.imul dX12_isEquation_17 z_3 ?_
    obtain ⟨z_4, K⟩ := K
    refine Y.zald dX12_isEquation_18 (rfl) ((zM_9 hM).2.2) z_4 ?_
    refine Z.if_ne 39 dX12_isEquation_19 rfl ⟨fun c_5 => ?_, fun c_5 => ?_⟩
    · replace K := K.1 c_5
      refine Z.iconst (n := 0) dX12_isEquation_39 ⟨by decide, by decide⟩ ?_
      exact Z.iret (ty := .boolean) dX12_isEquation_40 rfl rfl K
    · replace K := K.2 c_5
      refine Z.aload_n (k := 0) dX12_isEquation_22 rfl ?_
      refine Y.getR (o := some 58) 7 dX12_isEquation_23 zl_X12_27 (rfl) (by decide) rfl (zM_1 hM).2.1 (zM_7 hM).1 ?_
      refine Z.sipush (n := 180) dX12_isEquation_26 ⟨by decide, by decide⟩ (by decide) ?_
      refine Z.iload_n (k := 1) dX12_isEquation_29 rfl ?_
      obtain ⟨z_6, K⟩ := K
      refine Z.imul dX12_isEquation_30 z_6 ?_
      obtain ⟨z_7, K⟩ := K
      refine Y.iald dX12_isEquation_31 (rfl) ((zM_7 hM).2.2) z_7 ?_
      refine Z.if_ne 39 dX12_isEquation_32 rfl ⟨fun c_8 => ?_, fun c_8 => ?_⟩
      · replace K := K.1 c_8
        refine Z.iconst (n := 0) dX12_isEquation_39 ⟨by decide, by decide⟩ ?_
        exact Z.iret (ty := .boolean) dX12_isEquation_40 rfl rfl K
      · replace K := K.2 c_8
        refine Z.iconst (n := 1) dX12_isEquation_35 ⟨by decide, by decide⟩ ?_
        refine Z.goto 40 dX12_isEquation_36 rfl ?_
        exact Z.iret (ty := .boolean) dX12_isEquation_40 rfl rfl K
set_option maxRecDepth 20000 in
theorem X12_matchesTerm_0 {kz : Nat × Nat} {Q : Option zV → zH → Prop} {d : List Nat} {G : Nat → Int → Option Nat} {E : Nat → Int → Int} {v1 : Int} {v2 : Int} {v3 : Int} (hM : zK zMt d G) (K : ∃ x_1, zM zm_X12_endOf [zR 50, zR 72, zI v3] (d, G, E) (some (zI x_1)) (d, G, E) ∧ Z zm_X12_matchesTerm kz Q 17 [(0, zR 50), (2, zI v2), (4, zI v3), (5, zI x_1), (6, zI v1)] [] (d, G, E)) : Z zm_X12_matchesTerm kz Q 0 [(0, zR 50), (1, zI v1), (2, zI v2), (3, zI v3)] [] (d, G, E) := by
  refine Z.iload_n (k := 3) dX12_matchesTerm_0 rfl ?_
  refine Z.istore (ls' := [(4, zI v3), (0, zR 50), (1, zI v1), (2, zI v2), (3, zI v3)]) dX12_matchesTerm_1 (by decide) rfl ?_
  refine Z.aload_n (k := 1) dX12_matchesTerm_3 rfl ?_
  refine Z.aload_n (k := 1) dX12_matchesTerm_4 rfl ?_
  refine Y.getR (o := some 72) 21 dX12_matchesTerm_5 zl_X12_69 (rfl) (by decide) rfl (zM_1 hM).2.1 (zM_21 hM).1 ?_
  refine Z.iload_n (k := 4) dX12_matchesTerm_8 rfl ?_
  obtain ⟨x_1, m_2, K⟩ := K
  refine Y.callV (g := zm_X12_endOf) (vs := [zR 72, zI v3]) (st := []) dX12_matchesTerm_9 ⟨zg_X12_endOf.1, zg_X12_endOf.2.1, zg_X12_endOf.2.2, by decide⟩ ⟨zk_X12_148, zv_X12_endOf⟩ (ci := 12) (rfl) rfl ((zM_1 hM).2.1) rfl rfl (Nat.le_of_ble_eq_true rfl) m_2 (Or.inl rfl) ?_
  show Z zm_X12_matchesTerm kz Q 12 [(4, zI v3), (0, zR 50), (1, zI v1), (2, zI v2), (3, zI v3)] [zI x_1] (d, G, E)
  refine Z.istore (ls' := [(5, zI x_1), (4, zI v3), (0, zR 50), (1, zI v1), (2, zI v2), (3, zI v3)]) dX12_matchesTerm_12 (by decide) rfl ?_
  refine Z.iload_n (k := 3) dX12_matchesTerm_14 rfl ?_
  refine Z.istore (ls' := [(6, zI v1), (5, zI x_1), (4, zI v3), (0, zR 50), (1, zI v1), (2, zI v2), (3, zI v3)]) dX12_matchesTerm_15 (by decide) rfl ?_
  refine Z.pick (ls' := [(0, zR 50), (2, zI v2), (4, zI v3), (5, zI x_1), (6, zI v1)]) [3, 5, 2, 1, 0] rfl ?_
  exact K
set_option maxRecDepth 20000 in
theorem X12_matchesTerm_17 {kz : Nat × Nat} {Q : Option zV → zH → Prop} {d : List Nat} {G : Nat → Int → Option Nat} {E : Nat → Int → Int} {v2 : Int} {v4 : Int} {v5 : Int} {v6 : Int} (hM : zK zMt d G) (K : (v2 ≤ v6 → (v4 ≠ v5 → Q (some (zI 0)) (d, G, E)) ∧ (¬ (v4 ≠ v5) → Q (some (zI 1)) (d, G, E))) ∧ (¬ (v2 ≤ v6) → ((0 : Int) ≤ v6 ∧ v6 < (27000 : Int)) ∧ ((E 58 v6) < 0 → (v4 < v5 → ((0 : Int) ≤ v6 ∧ v6 < (27000 : Int)) ∧ zin ((-1) - (E 58 v6)) ∧ ∃ x_8, zM zm_X12_endOf [zR 50, zR 72, zI v4] (d, G, E) (some (zI x_8)) (d, G, E) ∧ zin (x_8 - v4) ∧ ((0 : Int) ≤ ((-1) - (E 58 v6)) ∧ ((-1) - (E 58 v6)) < (20 : Int)) ∧ ((E 80 ((-1) - (E 58 v6))) ≠ (-1) → ((0 : Int) ≤ ((-1) - (E 58 v6)) ∧ ((-1) - (E 58 v6)) < (20 : Int)) ∧ ((E 81 ((-1) - (E 58 v6))) ≠ (x_8 - v4) → Q (some (zI 0)) (d, G, E)) ∧ (¬ ((E 81 ((-1) - (E 58 v6))) ≠ (x_8 - v4)) → ((0 : Int) ≤ ((-1) - (E 58 v6)) ∧ ((-1) - (E 58 v6)) < (20 : Int)) ∧ ∃ x_17, zM zm_X12_isLike [zR 72, zI ((E 80 ((-1) - (E 58 v6)))), zR 72, zI v4, zI ((x_8 - v4))] (d, G, E) (some (zI x_17)) (d, G, E) ∧ (x_17 ≠ 0 → zin (v4 + (x_8 - v4)) ∧ zin (v6 + 1) ∧ Z zm_X12_matchesTerm kz Q 17 [(0, zR 50), (2, zI v2), (4, zI ((v4 + (x_8 - v4)))), (5, zI v5), (6, zI ((v6 + 1)))] [] (d, G, E)) ∧ (¬ (x_17 ≠ 0) → Q (some (zI 0)) (d, G, E)))) ∧ (¬ ((E 80 ((-1) - (E 58 v6))) ≠ (-1)) → ((0 : Int) ≤ ((-1) - (E 58 v6)) ∧ ((-1) - (E 58 v6)) < (20 : Int)) ∧ ∀ E_24, E_24 = zuE E 80 (((-1) - (E 58 v6))) v4 → ((0 : Int) ≤ ((-1) - (E 58 v6)) ∧ ((-1) - (E 58 v6)) < (20 : Int)) ∧ ∀ E_26, E_26 = zuE E_24 81 (((-1) - (E 58 v6))) ((x_8 - v4)) → zin (v4 + (x_8 - v4)) ∧ zin (v6 + 1) ∧ Z zm_X12_matchesTerm kz Q 17 [(0, zR 50), (2, zI v2), (4, zI ((v4 + (x_8 - v4)))), (5, zI v5), (6, zI ((v6 + 1)))] [] (d, G, E_26))) ∧ (¬ (v4 < v5) → Q (some (zI 0)) (d, G, E))) ∧ (¬ ((E 58 v6) < 0) → (v5 ≤ v4 → Q (some (zI 0)) (d, G, E)) ∧ (¬ (v5 ≤ v4) → ((0 : Int) ≤ v6 ∧ v6 < (27000 : Int)) ∧ ((0 : Int) ≤ v4 ∧ v4 < (180 : Int)) ∧ ((E 58 v6) = (E 72 v4) → zin (v4 + 1) ∧ zin (v6 + 1) ∧ Z zm_X12_matchesTerm kz Q 17 [(0, zR 50), (2, zI v2), (4, zI ((v4 + 1))), (5, zI v5), (6, zI ((v6 + 1)))] [] (d, G, E)) ∧ (¬ ((E 58 v6) = (E 72 v4)) → Q (some (zI 0)) (d, G, E)))))) : Z zm_X12_matchesTerm kz Q 17 [(0, zR 50), (2, zI v2), (4, zI v4), (5, zI v5), (6, zI v6)] [] (d, G, E) := by
  refine Z.iload (k := 4) dX12_matchesTerm_17 rfl ?_
  refine Z.iload_n (k := 1) dX12_matchesTerm_19 rfl ?_
  refine Z.icmp_ge 184 dX12_matchesTerm_20 rfl ⟨fun c_1 => ?_, fun c_1 => ?_⟩
  · replace K := K.1 c_1
    refine Z.iload (k := 2) dX12_matchesTerm_184 rfl ?_
    refine Z.iload (k := 3) dX12_matchesTerm_186 rfl ?_
    refine Z.icmp_ne 195 dX12_matchesTerm_188 rfl ⟨fun c_2 => ?_, fun c_2 => ?_⟩
    · replace K := K.1 c_2
      refine Z.iconst (n := 0) dX12_matchesTerm_195 ⟨by decide, by decide⟩ ?_
      exact Z.iret (ty := .boolean) dX12_matchesTerm_196 rfl rfl K
    · replace K := K.2 c_2
      refine Z.iconst (n := 1) dX12_matchesTerm_191 ⟨by decide, by decide⟩ ?_
      refine Z.goto 196 dX12_matchesTerm_192 rfl ?_
      exact Z.iret (ty := .boolean) dX12_matchesTerm_196 rfl rfl K
  · replace K := K.2 c_1
    refine Z.aload_n (k := 0) dX12_matchesTerm_23 rfl ?_
    refine Y.getR (o := some 58) 7 dX12_matchesTerm_24 zl_X12_27 (rfl) (by decide) rfl (zM_1 hM).2.1 (zM_7 hM).1 ?_
    refine Z.iload (k := 4) dX12_matchesTerm_27 rfl ?_
    obtain ⟨z_3, K⟩ := K
    refine Y.iald dX12_matchesTerm_29 (rfl) ((zM_7 hM).2.2) z_3 ?_
    refine Z.if_lt 65 dX12_matchesTerm_30 rfl ⟨fun c_4 => ?_, fun c_4 => ?_⟩
    · replace K := K.1 c_4
      refine Z.iload (k := 2) dX12_matchesTerm_65 rfl ?_
      refine Z.iload (k := 3) dX12_matchesTerm_67 rfl ?_
      refine Z.icmp_lt 74 dX12_matchesTerm_69 rfl ⟨fun c_5 => ?_, fun c_5 => ?_⟩
      · replace K := K.1 c_5
        refine Z.iconst (n := -1) dX12_matchesTerm_74 ⟨by decide, by decide⟩ ?_
        refine Z.aload_n (k := 0) dX12_matchesTerm_75 rfl ?_
        refine Y.getR (o := some 58) 7 dX12_matchesTerm_76 zl_X12_27 (rfl) (by decide) rfl (zM_1 hM).2.1 (zM_7 hM).1 ?_
        refine Z.iload (k := 4) dX12_matchesTerm_79 rfl ?_
        obtain ⟨z_6, K⟩ := K
        refine Y.iald dX12_matchesTerm_81 (rfl) ((zM_7 hM).2.2) z_6 ?_
        obtain ⟨z_7, K⟩ := K
        refine Z.isub dX12_matchesTerm_82 z_7 ?_
        refine Z.istore (ls' := [(7, zI (((-1) - (E 58 v6)))), (0, zR 50), (2, zI v2), (4, zI v4), (5, zI v5), (6, zI v6)]) dX12_matchesTerm_83 (by decide) rfl ?_
        refine Z.aload_n (k := 1) dX12_matchesTerm_85 rfl ?_
        refine Z.aload_n (k := 1) dX12_matchesTerm_86 rfl ?_
        refine Y.getR (o := some 72) 21 dX12_matchesTerm_87 zl_X12_69 (rfl) (by decide) rfl (zM_1 hM).2.1 (zM_21 hM).1 ?_
        refine Z.iload (k := 3) dX12_matchesTerm_90 rfl ?_
        obtain ⟨x_8, m_9, K⟩ := K
        refine Y.callV (g := zm_X12_endOf) (vs := [zR 72, zI v4]) (st := []) dX12_matchesTerm_92 ⟨zg_X12_endOf.1, zg_X12_endOf.2.1, zg_X12_endOf.2.2, by decide⟩ ⟨zk_X12_148, zv_X12_endOf⟩ (ci := 12) (rfl) rfl ((zM_1 hM).2.1) rfl rfl (Nat.le_of_ble_eq_true rfl) m_9 (Or.inl rfl) ?_
        show Z zm_X12_matchesTerm kz Q 95 [(7, zI (((-1) - (E 58 v6)))), (0, zR 50), (2, zI v2), (4, zI v4), (5, zI v5), (6, zI v6)] [zI x_8] (d, G, E)
        refine Z.iload (k := 3) dX12_matchesTerm_95 rfl ?_
        obtain ⟨z_11, K⟩ := K
        refine Z.isub dX12_matchesTerm_97 z_11 ?_
        refine Z.istore (ls' := [(8, zI ((x_8 - v4))), (7, zI (((-1) - (E 58 v6)))), (0, zR 50), (2, zI v2), (4, zI v4), (5, zI v5), (6, zI v6)]) dX12_matchesTerm_98 (by decide) rfl ?_
        refine Z.aload_n (k := 2) dX12_matchesTerm_100 rfl ?_
        refine Y.getR (o := some 80) 29 dX12_matchesTerm_101 zl_X12_87 (rfl) (by decide) rfl (zM_1 hM).2.1 (zM_29 hM).1 ?_
        refine Z.iload (k := 1) dX12_matchesTerm_104 rfl ?_
        obtain ⟨z_12, K⟩ := K
        refine Y.iald dX12_matchesTerm_106 (rfl) ((zM_29 hM).2.2) z_12 ?_
        refine Z.iconst (n := -1) dX12_matchesTerm_107 ⟨by decide, by decide⟩ ?_
        refine Z.icmp_ne 132 dX12_matchesTerm_108 rfl ⟨fun c_13 => ?_, fun c_13 => ?_⟩
        · replace K := K.1 c_13
          refine Z.aload_n (k := 2) dX12_matchesTerm_132 rfl ?_
          refine Y.getR (o := some 81) 30 dX12_matchesTerm_133 zl_X12_90 (rfl) (by decide) rfl (zM_1 hM).2.1 (zM_30 hM).1 ?_
          refine Z.iload (k := 1) dX12_matchesTerm_136 rfl ?_
          obtain ⟨z_14, K⟩ := K
          refine Y.iald dX12_matchesTerm_138 (rfl) ((zM_30 hM).2.2) z_14 ?_
          refine Z.iload (k := 0) dX12_matchesTerm_139 rfl ?_
          refine Z.icmp_ne 169 dX12_matchesTerm_141 rfl ⟨fun c_15 => ?_, fun c_15 => ?_⟩
          · replace K := K.1 c_15
            refine Z.iconst (n := 0) dX12_matchesTerm_169 ⟨by decide, by decide⟩ ?_
            exact Z.iret (ty := .boolean) dX12_matchesTerm_170 rfl rfl K
          · replace K := K.2 c_15
            refine Z.aload_n (k := 2) dX12_matchesTerm_144 rfl ?_
            refine Y.getR (o := some 72) 21 dX12_matchesTerm_145 zl_X12_69 (rfl) (by decide) rfl (zM_1 hM).2.1 (zM_21 hM).1 ?_
            refine Z.aload_n (k := 2) dX12_matchesTerm_148 rfl ?_
            refine Y.getR (o := some 80) 29 dX12_matchesTerm_149 zl_X12_87 (rfl) (by decide) rfl (zM_1 hM).2.1 (zM_29 hM).1 ?_
            refine Z.iload (k := 1) dX12_matchesTerm_152 rfl ?_
            obtain ⟨z_16, K⟩ := K
            refine Y.iald dX12_matchesTerm_154 (rfl) ((zM_29 hM).2.2) z_16 ?_
            refine Z.aload_n (k := 2) dX12_matchesTerm_155 rfl ?_
            refine Y.getR (o := some 72) 21 dX12_matchesTerm_156 zl_X12_69 (rfl) (by decide) rfl (zM_1 hM).2.1 (zM_21 hM).1 ?_
            refine Z.iload (k := 4) dX12_matchesTerm_159 rfl ?_
            refine Z.iload (k := 0) dX12_matchesTerm_161 rfl ?_
            obtain ⟨x_17, m_18, K⟩ := K
            refine Y.callS (g := zm_X12_isLike) (vs := [zR 72, zI ((E 80 ((-1) - (E 58 v6)))), zR 72, zI v4, zI ((x_8 - v4))]) (st := []) dX12_matchesTerm_163 ⟨zg_X12_isLike.1, zg_X12_isLike.2.1, zg_X12_isLike.2.2, by decide⟩ ⟨Or.inl zk_X12_152, zs_X12_isLike⟩ rfl rfl (Nat.le_of_ble_eq_true rfl) m_18 (Or.inl rfl) ?_
            show Z zm_X12_matchesTerm kz Q 166 [(8, zI ((x_8 - v4))), (7, zI (((-1) - (E 58 v6)))), (0, zR 50), (2, zI v2), (4, zI v4), (5, zI v5), (6, zI v6)] [zI x_17] (d, G, E)
            refine Z.if_ne 171 dX12_matchesTerm_166 rfl ⟨fun c_20 => ?_, fun c_20 => ?_⟩
            · replace K := K.1 c_20
              refine Z.iload (k := 4) dX12_matchesTerm_171 rfl ?_
              refine Z.iload (k := 0) dX12_matchesTerm_173 rfl ?_
              obtain ⟨z_21, K⟩ := K
              refine Z.iadd dX12_matchesTerm_175 z_21 ?_
              refine Z.istore (ls' := [(4, zI ((v4 + (x_8 - v4)))), (8, zI ((x_8 - v4))), (7, zI (((-1) - (E 58 v6)))), (0, zR 50), (2, zI v2), (5, zI v5), (6, zI v6)]) dX12_matchesTerm_176 (by decide) rfl ?_
              obtain ⟨z_22, K⟩ := K
              refine Z.iinc (k := 6) (ls' := [(6, zI ((v6 + 1))), (4, zI ((v4 + (x_8 - v4)))), (8, zI ((x_8 - v4))), (7, zI (((-1) - (E 58 v6)))), (0, zR 50), (2, zI v2), (5, zI v5)]) dX12_matchesTerm_178 rfl (by decide) z_22 rfl ?_
              refine Z.goto 17 dX12_matchesTerm_181 rfl ?_
              refine Z.pick (ls' := [(0, zR 50), (2, zI v2), (4, zI ((v4 + (x_8 - v4)))), (5, zI v5), (6, zI ((v6 + 1)))]) [4, 5, 1, 6, 0] rfl ?_
              exact K
            · replace K := K.2 c_20
              refine Z.iconst (n := 0) dX12_matchesTerm_169 ⟨by decide, by decide⟩ ?_
              exact Z.iret (ty := .boolean) dX12_matchesTerm_170 rfl rfl K
        · replace K := K.2 c_13
          refine Z.aload_n (k := 2) dX12_matchesTerm_111 rfl ?_
          refine Y.getR (o := some 80) 29 dX12_matchesTerm_112 zl_X12_87 (rfl) (by decide) rfl (zM_1 hM).2.1 (zM_29 hM).1 ?_
          refine Z.iload (k := 1) dX12_matchesTerm_115 rfl ?_
          refine Z.iload (k := 4) dX12_matchesTerm_117 rfl ?_
          obtain ⟨z_23, K⟩ := K
          refine Y.iast dX12_matchesTerm_119 (rfl) ((zM_29 hM).2.2) z_23 ?_
          generalize eE_24 : zuE E 80 (((-1) - (E 58 v6))) v4 = E_24
          replace K := K E_24 eE_24.symm
          refine Z.aload_n (k := 2) dX12_matchesTerm_120 rfl ?_
          refine Y.getR (o := some 81) 30 dX12_matchesTerm_121 zl_X12_90 (rfl) (by decide) rfl (zM_1 hM).2.1 (zM_30 hM).1 ?_
          refine Z.iload (k := 1) dX12_matchesTerm_124 rfl ?_
          refine Z.iload (k := 0) dX12_matchesTerm_126 rfl ?_
          obtain ⟨z_25, K⟩ := K
          refine Y.iast dX12_matchesTerm_128 (rfl) ((zM_30 hM).2.2) z_25 ?_
          generalize eE_26 : zuE E_24 81 (((-1) - (E 58 v6))) ((x_8 - v4)) = E_26
          replace K := K E_26 eE_26.symm
          refine Z.goto 171 dX12_matchesTerm_129 rfl ?_
          refine Z.iload (k := 4) dX12_matchesTerm_171 rfl ?_
          refine Z.iload (k := 0) dX12_matchesTerm_173 rfl ?_
          obtain ⟨z_27, K⟩ := K
          refine Z.iadd dX12_matchesTerm_175 z_27 ?_
          refine Z.istore (ls' := [(4, zI ((v4 + (x_8 - v4)))), (8, zI ((x_8 - v4))), (7, zI (((-1) - (E 58 v6)))), (0, zR 50), (2, zI v2), (5, zI v5), (6, zI v6)]) dX12_matchesTerm_176 (by decide) rfl ?_
          obtain ⟨z_28, K⟩ := K
          refine Z.iinc (k := 6) (ls' := [(6, zI ((v6 + 1))), (4, zI ((v4 + (x_8 - v4)))), (8, zI ((x_8 - v4))), (7, zI (((-1) - (E 58 v6)))), (0, zR 50), (2, zI v2), (5, zI v5)]) dX12_matchesTerm_178 rfl (by decide) z_28 rfl ?_
          refine Z.goto 17 dX12_matchesTerm_181 rfl ?_
          refine Z.pick (ls' := [(0, zR 50), (2, zI v2), (4, zI ((v4 + (x_8 - v4)))), (5, zI v5), (6, zI ((v6 + 1)))]) [4, 5, 1, 6, 0] rfl ?_
          exact K
      · replace K := K.2 c_5
        refine Z.iconst (n := 0) dX12_matchesTerm_72 ⟨by decide, by decide⟩ ?_
        exact Z.iret (ty := .boolean) dX12_matchesTerm_73 rfl rfl K
    · replace K := K.2 c_4
      refine Z.iload (k := 2) dX12_matchesTerm_33 rfl ?_
      refine Z.iload (k := 3) dX12_matchesTerm_35 rfl ?_
      refine Z.icmp_ge 57 dX12_matchesTerm_37 rfl ⟨fun c_29 => ?_, fun c_29 => ?_⟩
      · replace K := K.1 c_29
        refine Z.iconst (n := 0) dX12_matchesTerm_57 ⟨by decide, by decide⟩ ?_
        exact Z.iret (ty := .boolean) dX12_matchesTerm_58 rfl rfl K
      · replace K := K.2 c_29
        refine Z.aload_n (k := 0) dX12_matchesTerm_40 rfl ?_
        refine Y.getR (o := some 58) 7 dX12_matchesTerm_41 zl_X12_27 (rfl) (by decide) rfl (zM_1 hM).2.1 (zM_7 hM).1 ?_
        refine Z.iload (k := 4) dX12_matchesTerm_44 rfl ?_
        obtain ⟨z_30, K⟩ := K
        refine Y.iald dX12_matchesTerm_46 (rfl) ((zM_7 hM).2.2) z_30 ?_
        refine Z.aload_n (k := 0) dX12_matchesTerm_47 rfl ?_
        refine Y.getR (o := some 72) 21 dX12_matchesTerm_48 zl_X12_69 (rfl) (by decide) rfl (zM_1 hM).2.1 (zM_21 hM).1 ?_
        refine Z.iload (k := 2) dX12_matchesTerm_51 rfl ?_
        obtain ⟨z_31, K⟩ := K
        refine Y.iald dX12_matchesTerm_53 (rfl) ((zM_21 hM).2.2) z_31 ?_
        refine Z.icmp_eq 59 dX12_matchesTerm_54 rfl ⟨fun c_32 => ?_, fun c_32 => ?_⟩
        · replace K := K.1 c_32
          obtain ⟨z_33, K⟩ := K
          refine Z.iinc (k := 2) (ls' := [(4, zI ((v4 + 1))), (0, zR 50), (2, zI v2), (5, zI v5), (6, zI v6)]) dX12_matchesTerm_59 rfl (by decide) z_33 rfl ?_
          refine Z.goto 178 dX12_matchesTerm_62 rfl ?_
          obtain ⟨z_34, K⟩ := K
          refine Z.iinc (k := 4) (ls' := [(6, zI ((v6 + 1))), (4, zI ((v4 + 1))), (0, zR 50), (2, zI v2), (5, zI v5)]) dX12_matchesTerm_178 rfl (by decide) z_34 rfl ?_
          refine Z.goto 17 dX12_matchesTerm_181 rfl ?_
          refine Z.pick (ls' := [(0, zR 50), (2, zI v2), (4, zI ((v4 + 1))), (5, zI v5), (6, zI ((v6 + 1)))]) [2, 3, 1, 4, 0] rfl ?_
          exact K
        · replace K := K.2 c_32
          refine Z.iconst (n := 0) dX12_matchesTerm_57 ⟨by decide, by decide⟩ ?_
          exact Z.iret (ty := .boolean) dX12_matchesTerm_58 rfl rfl K
set_option maxRecDepth 20000 in
theorem X12_rewrites_0 {kz : Nat × Nat} {Q : Option zV → zH → Prop} {d : List Nat} {G : Nat → Int → Option Nat} {E : Nat → Int → Int} {v1 : Int} {v2 : Int} {v3 : Int} {v4 : Int} (hM : zK zMt d G) (K : zin (180 * v1) ∧ zin ((180 * v1) + 1) ∧ ∃ x_3, zM zm_X12_endOf [zR 50, zR 58, zI (((180 * v1) + 1))] (d, G, E) (some (zI x_3)) (d, G, E) ∧ zin (180 * v1) ∧ zin (6 * v1) ∧ ((0 : Int) ≤ (6 * v1) ∧ (6 * v1) < (900 : Int)) ∧ zin ((180 * v1) + (E 59 (6 * v1))) ∧ (v2 ≠ 0 → Z zm_X12_rewrites kz Q 49 [(0, zR 50), (2, zI v2), (3, zI v3), (4, zI v4), (5, zI (((180 * v1) + 1))), (6, zI x_3), (7, zI (((180 * v1) + (E 59 (6 * v1)))))] [zI x_3] (d, G, E)) ∧ (¬ (v2 ≠ 0) → Z zm_X12_rewrites kz Q 49 [(0, zR 50), (2, zI v2), (3, zI v3), (4, zI v4), (5, zI (((180 * v1) + 1))), (6, zI x_3), (7, zI (((180 * v1) + (E 59 (6 * v1)))))] [zI (((180 * v1) + 1))] (d, G, E))) : Z zm_X12_rewrites kz Q 0 [(0, zR 50), (1, zI v1), (2, zI v2), (3, zI v3), (4, zI v4)] [] (d, G, E) := by
  refine Z.sipush (n := 180) dX12_rewrites_0 ⟨by decide, by decide⟩ (by decide) ?_
  refine Z.iload_n (k := 1) dX12_rewrites_3 rfl ?_
  obtain ⟨z_1, K⟩ := K
  refine Z.imul dX12_rewrites_4 z_1 ?_
  refine Z.iconst (n := 1) dX12_rewrites_5 ⟨by decide, by decide⟩ ?_
  obtain ⟨z_2, K⟩ := K
  refine Z.iadd dX12_rewrites_6 z_2 ?_
  refine Z.istore (ls' := [(5, zI (((180 * v1) + 1))), (0, zR 50), (1, zI v1), (2, zI v2), (3, zI v3), (4, zI v4)]) dX12_rewrites_7 (by decide) rfl ?_
  refine Z.aload_n (k := 1) dX12_rewrites_9 rfl ?_
  refine Z.aload_n (k := 1) dX12_rewrites_10 rfl ?_
  refine Y.getR (o := some 58) 7 dX12_rewrites_11 zl_X12_27 (rfl) (by decide) rfl (zM_1 hM).2.1 (zM_7 hM).1 ?_
  refine Z.iload (k := 0) dX12_rewrites_14 rfl ?_
  obtain ⟨x_3, m_4, K⟩ := K
  refine Y.callV (g := zm_X12_endOf) (vs := [zR 58, zI (((180 * v1) + 1))]) (st := []) dX12_rewrites_16 ⟨zg_X12_endOf.1, zg_X12_endOf.2.1, zg_X12_endOf.2.2, by decide⟩ ⟨zk_X12_148, zv_X12_endOf⟩ (ci := 12) (rfl) rfl ((zM_1 hM).2.1) rfl rfl (Nat.le_of_ble_eq_true rfl) m_4 (Or.inl rfl) ?_
  show Z zm_X12_rewrites kz Q 19 [(5, zI (((180 * v1) + 1))), (0, zR 50), (1, zI v1), (2, zI v2), (3, zI v3), (4, zI v4)] [zI x_3] (d, G, E)
  refine Z.istore (ls' := [(6, zI x_3), (5, zI (((180 * v1) + 1))), (0, zR 50), (1, zI v1), (2, zI v2), (3, zI v3), (4, zI v4)]) dX12_rewrites_19 (by decide) rfl ?_
  refine Z.sipush (n := 180) dX12_rewrites_21 ⟨by decide, by decide⟩ (by decide) ?_
  refine Z.iload_n (k := 3) dX12_rewrites_24 rfl ?_
  obtain ⟨z_6, K⟩ := K
  refine Z.imul dX12_rewrites_25 z_6 ?_
  refine Z.aload_n (k := 2) dX12_rewrites_26 rfl ?_
  refine Y.getR (o := some 59) 8 dX12_rewrites_27 zl_X12_30 (rfl) (by decide) rfl (zM_1 hM).2.1 (zM_8 hM).1 ?_
  refine Z.bipush (n := 6) dX12_rewrites_30 ⟨by decide, by decide⟩ (by decide) ?_
  refine Z.iload_n (k := 3) dX12_rewrites_32 rfl ?_
  obtain ⟨z_7, K⟩ := K
  refine Z.imul dX12_rewrites_33 z_7 ?_
  obtain ⟨z_8, K⟩ := K
  refine Y.iald dX12_rewrites_34 (rfl) ((zM_8 hM).2.2) z_8 ?_
  obtain ⟨z_9, K⟩ := K
  refine Z.iadd dX12_rewrites_35 z_9 ?_
  refine Z.istore (ls' := [(7, zI (((180 * v1) + (E 59 (6 * v1))))), (6, zI x_3), (5, zI (((180 * v1) + 1))), (0, zR 50), (1, zI v1), (2, zI v2), (3, zI v3), (4, zI v4)]) dX12_rewrites_36 (by decide) rfl ?_
  refine Z.iload_n (k := 5) dX12_rewrites_38 rfl ?_
  refine Z.if_ne 47 dX12_rewrites_39 rfl ⟨fun c_10 => ?_, fun c_10 => ?_⟩
  · replace K := K.1 c_10
    refine Z.iload (k := 1) dX12_rewrites_47 rfl ?_
    refine Z.pick (ls' := [(0, zR 50), (2, zI v2), (3, zI v3), (4, zI v4), (5, zI (((180 * v1) + 1))), (6, zI x_3), (7, zI (((180 * v1) + (E 59 (6 * v1)))))]) [3, 5, 6, 7, 2, 1, 0] rfl ?_
    exact K
  · replace K := K.2 c_10
    refine Z.iload (k := 2) dX12_rewrites_42 rfl ?_
    refine Z.goto 49 dX12_rewrites_44 rfl ?_
    refine Z.pick (ls' := [(0, zR 50), (2, zI v2), (3, zI v3), (4, zI v4), (5, zI (((180 * v1) + 1))), (6, zI x_3), (7, zI (((180 * v1) + (E 59 (6 * v1)))))]) [3, 5, 6, 7, 2, 1, 0] rfl ?_
    exact K
set_option maxRecDepth 20000 in
theorem X12_rewrites_49 {kz : Nat × Nat} {Q : Option zV → zH → Prop} {d : List Nat} {G : Nat → Int → Option Nat} {E : Nat → Int → Int} {v2 : Int} {v3 : Int} {v4 : Int} {v5 : Int} {v6 : Int} {v7 : Int} {s0 : Int} (hM : zK zMt d G) (K : (v2 ≠ 0 → Z zm_X12_rewrites kz Q 62 [(0, zR 50), (2, zI v2), (3, zI v3), (4, zI v4), (5, zI v5), (6, zI v6), (7, zI v7), (8, zI s0)] [zI v7] (d, G, E)) ∧ (¬ (v2 ≠ 0) → Z zm_X12_rewrites kz Q 62 [(0, zR 50), (2, zI v2), (3, zI v3), (4, zI v4), (5, zI v5), (6, zI v6), (7, zI v7), (8, zI s0)] [zI v6] (d, G, E))) : Z zm_X12_rewrites kz Q 49 [(0, zR 50), (2, zI v2), (3, zI v3), (4, zI v4), (5, zI v5), (6, zI v6), (7, zI v7)] [zI s0] (d, G, E) := by
  refine Z.istore (ls' := [(8, zI s0), (0, zR 50), (2, zI v2), (3, zI v3), (4, zI v4), (5, zI v5), (6, zI v6), (7, zI v7)]) dX12_rewrites_49 (by decide) rfl ?_
  refine Z.iload_n (k := 2) dX12_rewrites_51 rfl ?_
  refine Z.if_ne 60 dX12_rewrites_52 rfl ⟨fun c_1 => ?_, fun c_1 => ?_⟩
  · replace K := K.1 c_1
    refine Z.iload (k := 7) dX12_rewrites_60 rfl ?_
    refine Z.pick (ls' := [(0, zR 50), (2, zI v2), (3, zI v3), (4, zI v4), (5, zI v5), (6, zI v6), (7, zI v7), (8, zI s0)]) [1, 2, 3, 4, 5, 6, 7, 0] rfl ?_
    exact K
  · replace K := K.2 c_1
    refine Z.iload (k := 6) dX12_rewrites_55 rfl ?_
    refine Z.goto 62 dX12_rewrites_57 rfl ?_
    refine Z.pick (ls' := [(0, zR 50), (2, zI v2), (3, zI v3), (4, zI v4), (5, zI v5), (6, zI v6), (7, zI v7), (8, zI s0)]) [1, 2, 3, 4, 5, 6, 7, 0] rfl ?_
    exact K
set_option maxRecDepth 20000 in
theorem X12_rewrites_62 {kz : Nat × Nat} {Q : Option zV → zH → Prop} {d : List Nat} {G : Nat → Int → Option Nat} {E : Nat → Int → Int} {v2 : Int} {v3 : Int} {v4 : Int} {v5 : Int} {v6 : Int} {v7 : Int} {v8 : Int} {s0 : Int} (hM : zK zMt d G) (K : zin (30 * v3) ∧ zin ((30 * v3) + v4) ∧ ∃ E_3, zM zm_X12_unbind [zR 50] (d, G, E) none (d, G, E_3) ∧ ((0 : Int) ≤ v8 ∧ v8 < (27000 : Int)) ∧ ((E_3 58 v8) < 0 → Z zm_X12_rewrites kz Q 106 [(0, zR 50), (2, zI v2), (5, zI v5), (6, zI v6), (7, zI v7), (8, zI v8), (9, zI s0), (10, zI (((30 * v3) + v4)))] [] (d, G, E_3)) ∧ (¬ ((E_3 58 v8) < 0) → ((0 : Int) ≤ v8 ∧ v8 < (27000 : Int)) ∧ ((0 : Int) ≤ ((30 * v3) + v4) ∧ ((30 * v3) + v4) < (180 : Int)) ∧ ((E_3 58 v8) = (E_3 72 ((30 * v3) + v4)) → Z zm_X12_rewrites kz Q 106 [(0, zR 50), (2, zI v2), (5, zI v5), (6, zI v6), (7, zI v7), (8, zI v8), (9, zI s0), (10, zI (((30 * v3) + v4)))] [] (d, G, E_3)) ∧ (¬ ((E_3 58 v8) = (E_3 72 ((30 * v3) + v4))) → Q (some (zI 0)) (d, G, E_3)))) : Z zm_X12_rewrites kz Q 62 [(0, zR 50), (2, zI v2), (3, zI v3), (4, zI v4), (5, zI v5), (6, zI v6), (7, zI v7), (8, zI v8)] [zI s0] (d, G, E) := by
  refine Z.istore (ls' := [(9, zI s0), (0, zR 50), (2, zI v2), (3, zI v3), (4, zI v4), (5, zI v5), (6, zI v6), (7, zI v7), (8, zI v8)]) dX12_rewrites_62 (by decide) rfl ?_
  refine Z.bipush (n := 30) dX12_rewrites_64 ⟨by decide, by decide⟩ (by decide) ?_
  refine Z.iload_n (k := 3) dX12_rewrites_66 rfl ?_
  obtain ⟨z_1, K⟩ := K
  refine Z.imul dX12_rewrites_67 z_1 ?_
  refine Z.iload (k := 4) dX12_rewrites_68 rfl ?_
  obtain ⟨z_2, K⟩ := K
  refine Z.iadd dX12_rewrites_70 z_2 ?_
  refine Z.istore (ls' := [(10, zI (((30 * v3) + v4))), (9, zI s0), (0, zR 50), (2, zI v2), (3, zI v3), (4, zI v4), (5, zI v5), (6, zI v6), (7, zI v7), (8, zI v8)]) dX12_rewrites_71 (by decide) rfl ?_
  refine Z.aload_n (k := 2) dX12_rewrites_73 rfl ?_
  obtain ⟨E_3, m_4, K⟩ := K
  refine Y.callV (g := zm_X12_unbind) (vs := []) (st := []) dX12_rewrites_74 ⟨zg_X12_unbind.1, zg_X12_unbind.2.1, zg_X12_unbind.2.2, by decide⟩ ⟨zk_X12_188, zv_X12_unbind⟩ (ci := 12) (rfl) rfl ((zM_1 hM).2.1) rfl rfl (Nat.le_of_ble_eq_true rfl) m_4 (Or.inl rfl) ?_
  show Z zm_X12_rewrites kz Q 77 [(10, zI (((30 * v3) + v4))), (9, zI s0), (0, zR 50), (2, zI v2), (3, zI v3), (4, zI v4), (5, zI v5), (6, zI v6), (7, zI v7), (8, zI v8)] [] (d, G, E_3)
  refine Z.aload_n (k := 2) dX12_rewrites_77 rfl ?_
  refine Y.getR (o := some 58) 7 dX12_rewrites_78 zl_X12_27 (rfl) (by decide) rfl (zM_1 hM).2.1 (zM_7 hM).1 ?_
  refine Z.iload (k := 9) dX12_rewrites_81 rfl ?_
  obtain ⟨z_6, K⟩ := K
  refine Y.iald dX12_rewrites_83 (rfl) ((zM_7 hM).2.2) z_6 ?_
  refine Z.if_lt 106 dX12_rewrites_84 rfl ⟨fun c_7 => ?_, fun c_7 => ?_⟩
  · replace K := K.1 c_7
    refine Z.pick (ls' := [(0, zR 50), (2, zI v2), (5, zI v5), (6, zI v6), (7, zI v7), (8, zI v8), (9, zI s0), (10, zI (((30 * v3) + v4)))]) [2, 3, 6, 7, 8, 9, 1, 0] rfl ?_
    exact K
  · replace K := K.2 c_7
    refine Z.aload_n (k := 2) dX12_rewrites_87 rfl ?_
    refine Y.getR (o := some 58) 7 dX12_rewrites_88 zl_X12_27 (rfl) (by decide) rfl (zM_1 hM).2.1 (zM_7 hM).1 ?_
    refine Z.iload (k := 9) dX12_rewrites_91 rfl ?_
    obtain ⟨z_8, K⟩ := K
    refine Y.iald dX12_rewrites_93 (rfl) ((zM_7 hM).2.2) z_8 ?_
    refine Z.aload_n (k := 2) dX12_rewrites_94 rfl ?_
    refine Y.getR (o := some 72) 21 dX12_rewrites_95 zl_X12_69 (rfl) (by decide) rfl (zM_1 hM).2.1 (zM_21 hM).1 ?_
    refine Z.iload (k := 0) dX12_rewrites_98 rfl ?_
    obtain ⟨z_9, K⟩ := K
    refine Y.iald dX12_rewrites_100 (rfl) ((zM_21 hM).2.2) z_9 ?_
    refine Z.icmp_eq 106 dX12_rewrites_101 rfl ⟨fun c_10 => ?_, fun c_10 => ?_⟩
    · replace K := K.1 c_10
      refine Z.pick (ls' := [(0, zR 50), (2, zI v2), (5, zI v5), (6, zI v6), (7, zI v7), (8, zI v8), (9, zI s0), (10, zI (((30 * v3) + v4)))]) [2, 3, 6, 7, 8, 9, 1, 0] rfl ?_
      exact K
    · replace K := K.2 c_10
      refine Z.iconst (n := 0) dX12_rewrites_104 ⟨by decide, by decide⟩ ?_
      exact Z.iret (ty := .boolean) dX12_rewrites_105 rfl rfl K
set_option maxRecDepth 20000 in
theorem X12_rewrites_106 {kz : Nat × Nat} {Q : Option zV → zH → Prop} {d : List Nat} {G : Nat → Int → Option Nat} {E : Nat → Int → Int} {v2 : Int} {v5 : Int} {v6 : Int} {v7 : Int} {v8 : Int} {v9 : Int} {v10 : Int} (hM : zK zMt d G) (K : ∃ x_1 E_2, zM zm_X12_matchesTerm [zR 50, zI v8, zI v9, zI v10] (d, G, E) (some (zI x_1)) (d, G, E_2) ∧ (x_1 ≠ 0 → (v2 ≠ 0 → ∃ x_7 E_8, zM zm_X12_makeOther [zR 50, zI v5, zI v6] (d, G, E_2) (some (zI x_7)) (d, G, E_8) ∧ ∀ E_11, E_11 = zuE E_8 50 35 x_7 → ((E_11 50 35) = (-1) → Q (some (zI 0)) (d, G, E_11)) ∧ (¬ ((E_11 50 35) = (-1)) → ∃ x_13 E_14, zM zm_X12_isGreater [zR 50, zR 72, zI v10, zR 85, zI 0] (d, G, E_11) (some (zI x_13)) (d, G, E_14) ∧ (x_13 = 0 → Q (some (zI 0)) (d, G, E_14)) ∧ (¬ (x_13 = 0) → Q (some (zI 1)) (d, G, E_14)))) ∧ (¬ (v2 ≠ 0) → ∃ x_18 E_19, zM zm_X12_makeOther [zR 50, zI v6, zI v7] (d, G, E_2) (some (zI x_18)) (d, G, E_19) ∧ ∀ E_22, E_22 = zuE E_19 50 35 x_18 → ((E_22 50 35) = (-1) → Q (some (zI 0)) (d, G, E_22)) ∧ (¬ ((E_22 50 35) = (-1)) → ∃ x_24 E_25, zM zm_X12_isGreater [zR 50, zR 72, zI v10, zR 85, zI 0] (d, G, E_22) (some (zI x_24)) (d, G, E_25) ∧ (x_24 = 0 → Q (some (zI 0)) (d, G, E_25)) ∧ (¬ (x_24 = 0) → Q (some (zI 1)) (d, G, E_25))))) ∧ (¬ (x_1 ≠ 0) → Q (some (zI 0)) (d, G, E_2))) : Z zm_X12_rewrites kz Q 106 [(0, zR 50), (2, zI v2), (5, zI v5), (6, zI v6), (7, zI v7), (8, zI v8), (9, zI v9), (10, zI v10)] [] (d, G, E) := by
  refine Z.aload_n (k := 0) dX12_rewrites_106 rfl ?_
  refine Z.iload (k := 5) dX12_rewrites_107 rfl ?_
  refine Z.iload (k := 6) dX12_rewrites_109 rfl ?_
  refine Z.iload (k := 7) dX12_rewrites_111 rfl ?_
  obtain ⟨x_1, E_2, m_3, K⟩ := K
  refine Y.callV (g := zm_X12_matchesTerm) (vs := [zI v8, zI v9, zI v10]) (st := []) dX12_rewrites_113 ⟨zg_X12_matchesTerm.1, zg_X12_matchesTerm.2.1, zg_X12_matchesTerm.2.2, by decide⟩ ⟨zk_X12_205, zv_X12_matchesTerm⟩ (ci := 12) (rfl) rfl ((zM_1 hM).2.1) rfl rfl (Nat.le_of_ble_eq_true rfl) m_3 (Or.inl rfl) ?_
  show Z zm_X12_rewrites kz Q 116 [(0, zR 50), (2, zI v2), (5, zI v5), (6, zI v6), (7, zI v7), (8, zI v8), (9, zI v9), (10, zI v10)] [zI x_1] (d, G, E_2)
  refine Z.if_ne 121 dX12_rewrites_116 rfl ⟨fun c_5 => ?_, fun c_5 => ?_⟩
  · replace K := K.1 c_5
    refine Z.aload_n (k := 0) dX12_rewrites_121 rfl ?_
    refine Z.iload_n (k := 1) dX12_rewrites_122 rfl ?_
    refine Z.if_ne 137 dX12_rewrites_123 rfl ⟨fun c_6 => ?_, fun c_6 => ?_⟩
    · replace K := K.1 c_6
      refine Z.aload_n (k := 0) dX12_rewrites_137 rfl ?_
      refine Z.iload (k := 2) dX12_rewrites_138 rfl ?_
      refine Z.iload (k := 3) dX12_rewrites_140 rfl ?_
      obtain ⟨x_7, E_8, m_9, K⟩ := K
      refine Y.callV (g := zm_X12_makeOther) (vs := [zI v5, zI v6]) (st := [zR 50]) dX12_rewrites_142 ⟨zg_X12_makeOther.1, zg_X12_makeOther.2.1, zg_X12_makeOther.2.2, by decide⟩ ⟨zk_X12_208, zv_X12_makeOther⟩ (ci := 12) (rfl) rfl ((zM_1 hM).2.1) rfl rfl (Nat.le_of_ble_eq_true rfl) m_9 (Or.inl rfl) ?_
      show Z zm_X12_rewrites kz Q 145 [(0, zR 50), (2, zI v2), (5, zI v5), (6, zI v6), (7, zI v7), (8, zI v8), (9, zI v9), (10, zI v10)] [zI x_7, zR 50] (d, G, E_8)
      refine Y.putI 35 dX12_rewrites_145 zw_X12_212 (fun q => by cases q) (rfl) rfl (zM_1 hM).2.1 (Or.inl rfl) ?_
      generalize eE_11 : zuE E_8 50 35 x_7 = E_11
      replace K := K E_11 eE_11.symm
      refine Z.aload_n (k := 0) dX12_rewrites_148 rfl ?_
      refine Y.getI 35 dX12_rewrites_149 zl_X12_212 (rfl) (by decide) rfl (zM_1 hM).2.1 ?_
      refine Z.iconst (n := -1) dX12_rewrites_152 ⟨by decide, by decide⟩ ?_
      refine Z.icmp_eq 178 dX12_rewrites_153 rfl ⟨fun c_12 => ?_, fun c_12 => ?_⟩
      · replace K := K.1 c_12
        refine Z.iconst (n := 0) dX12_rewrites_178 ⟨by decide, by decide⟩ ?_
        exact Z.iret (ty := .boolean) dX12_rewrites_179 rfl rfl K
      · replace K := K.2 c_12
        refine Z.aload_n (k := 0) dX12_rewrites_156 rfl ?_
        refine Z.aload_n (k := 0) dX12_rewrites_157 rfl ?_
        refine Y.getR (o := some 72) 21 dX12_rewrites_158 zl_X12_69 (rfl) (by decide) rfl (zM_1 hM).2.1 (zM_21 hM).1 ?_
        refine Z.iload (k := 7) dX12_rewrites_161 rfl ?_
        refine Z.aload_n (k := 0) dX12_rewrites_163 rfl ?_
        refine Y.getR (o := some 85) 34 dX12_rewrites_164 zl_X12_102 (rfl) (by decide) rfl (zM_1 hM).2.1 (zM_34 hM).1 ?_
        refine Z.iconst (n := 0) dX12_rewrites_167 ⟨by decide, by decide⟩ ?_
        obtain ⟨x_13, E_14, m_15, K⟩ := K
        refine Y.callV (g := zm_X12_isGreater) (vs := [zR 72, zI v10, zR 85, zI 0]) (st := []) dX12_rewrites_168 ⟨zg_X12_isGreater.1, zg_X12_isGreater.2.1, zg_X12_isGreater.2.2, by decide⟩ ⟨zk_X12_170, zv_X12_isGreater⟩ (ci := 12) (rfl) rfl ((zM_1 hM).2.1) rfl rfl (Nat.le_of_ble_eq_true rfl) m_15 (Or.inl rfl) ?_
        show Z zm_X12_rewrites kz Q 171 [(0, zR 50), (2, zI v2), (5, zI v5), (6, zI v6), (7, zI v7), (8, zI v8), (9, zI v9), (10, zI v10)] [zI x_13] (d, G, E_14)
        refine Z.if_eq 178 dX12_rewrites_171 rfl ⟨fun c_17 => ?_, fun c_17 => ?_⟩
        · replace K := K.1 c_17
          refine Z.iconst (n := 0) dX12_rewrites_178 ⟨by decide, by decide⟩ ?_
          exact Z.iret (ty := .boolean) dX12_rewrites_179 rfl rfl K
        · replace K := K.2 c_17
          refine Z.iconst (n := 1) dX12_rewrites_174 ⟨by decide, by decide⟩ ?_
          refine Z.goto 179 dX12_rewrites_175 rfl ?_
          exact Z.iret (ty := .boolean) dX12_rewrites_179 rfl rfl K
    · replace K := K.2 c_6
      refine Z.aload_n (k := 0) dX12_rewrites_126 rfl ?_
      refine Z.iload (k := 3) dX12_rewrites_127 rfl ?_
      refine Z.iload (k := 4) dX12_rewrites_129 rfl ?_
      obtain ⟨x_18, E_19, m_20, K⟩ := K
      refine Y.callV (g := zm_X12_makeOther) (vs := [zI v6, zI v7]) (st := [zR 50]) dX12_rewrites_131 ⟨zg_X12_makeOther.1, zg_X12_makeOther.2.1, zg_X12_makeOther.2.2, by decide⟩ ⟨zk_X12_208, zv_X12_makeOther⟩ (ci := 12) (rfl) rfl ((zM_1 hM).2.1) rfl rfl (Nat.le_of_ble_eq_true rfl) m_20 (Or.inl rfl) ?_
      show Z zm_X12_rewrites kz Q 134 [(0, zR 50), (2, zI v2), (5, zI v5), (6, zI v6), (7, zI v7), (8, zI v8), (9, zI v9), (10, zI v10)] [zI x_18, zR 50] (d, G, E_19)
      refine Z.goto 145 dX12_rewrites_134 rfl ?_
      refine Y.putI 35 dX12_rewrites_145 zw_X12_212 (fun q => by cases q) (rfl) rfl (zM_1 hM).2.1 (Or.inl rfl) ?_
      generalize eE_22 : zuE E_19 50 35 x_18 = E_22
      replace K := K E_22 eE_22.symm
      refine Z.aload_n (k := 0) dX12_rewrites_148 rfl ?_
      refine Y.getI 35 dX12_rewrites_149 zl_X12_212 (rfl) (by decide) rfl (zM_1 hM).2.1 ?_
      refine Z.iconst (n := -1) dX12_rewrites_152 ⟨by decide, by decide⟩ ?_
      refine Z.icmp_eq 178 dX12_rewrites_153 rfl ⟨fun c_23 => ?_, fun c_23 => ?_⟩
      · replace K := K.1 c_23
        refine Z.iconst (n := 0) dX12_rewrites_178 ⟨by decide, by decide⟩ ?_
        exact Z.iret (ty := .boolean) dX12_rewrites_179 rfl rfl K
      · replace K := K.2 c_23
        refine Z.aload_n (k := 0) dX12_rewrites_156 rfl ?_
        refine Z.aload_n (k := 0) dX12_rewrites_157 rfl ?_
        refine Y.getR (o := some 72) 21 dX12_rewrites_158 zl_X12_69 (rfl) (by decide) rfl (zM_1 hM).2.1 (zM_21 hM).1 ?_
        refine Z.iload (k := 7) dX12_rewrites_161 rfl ?_
        refine Z.aload_n (k := 0) dX12_rewrites_163 rfl ?_
        refine Y.getR (o := some 85) 34 dX12_rewrites_164 zl_X12_102 (rfl) (by decide) rfl (zM_1 hM).2.1 (zM_34 hM).1 ?_
        refine Z.iconst (n := 0) dX12_rewrites_167 ⟨by decide, by decide⟩ ?_
        obtain ⟨x_24, E_25, m_26, K⟩ := K
        refine Y.callV (g := zm_X12_isGreater) (vs := [zR 72, zI v10, zR 85, zI 0]) (st := []) dX12_rewrites_168 ⟨zg_X12_isGreater.1, zg_X12_isGreater.2.1, zg_X12_isGreater.2.2, by decide⟩ ⟨zk_X12_170, zv_X12_isGreater⟩ (ci := 12) (rfl) rfl ((zM_1 hM).2.1) rfl rfl (Nat.le_of_ble_eq_true rfl) m_26 (Or.inl rfl) ?_
        show Z zm_X12_rewrites kz Q 171 [(0, zR 50), (2, zI v2), (5, zI v5), (6, zI v6), (7, zI v7), (8, zI v8), (9, zI v9), (10, zI v10)] [zI x_24] (d, G, E_25)
        refine Z.if_eq 178 dX12_rewrites_171 rfl ⟨fun c_28 => ?_, fun c_28 => ?_⟩
        · replace K := K.1 c_28
          refine Z.iconst (n := 0) dX12_rewrites_178 ⟨by decide, by decide⟩ ?_
          exact Z.iret (ty := .boolean) dX12_rewrites_179 rfl rfl K
        · replace K := K.2 c_28
          refine Z.iconst (n := 1) dX12_rewrites_174 ⟨by decide, by decide⟩ ?_
          refine Z.goto 179 dX12_rewrites_175 rfl ?_
          exact Z.iret (ty := .boolean) dX12_rewrites_179 rfl rfl K
  · replace K := K.2 c_5
    refine Z.iconst (n := 0) dX12_rewrites_119 ⟨by decide, by decide⟩ ?_
    exact Z.iret (ty := .boolean) dX12_rewrites_120 rfl rfl K
set_option maxRecDepth 20000 in
theorem X12_lays_0 {kz : Nat × Nat} {Q : Option zV → zH → Prop} {d : List Nat} {G : Nat → Int → Option Nat} {E : Nat → Int → Int} {v1 : Int} {v2 : Int} (hM : zK zMt d G) (K : zin (30 * v1) ∧ zin ((30 * v1) + v2) ∧ ∃ x_3, zM zm_X12_endOf [zR 50, zR 72, zI (((30 * v1) + v2))] (d, G, E) (some (zI x_3)) (d, G, E) ∧ ((0 : Int) ≤ v1 ∧ v1 < (6 : Int)) ∧ zin (x_3 - ((30 * v1) + v2)) ∧ zin ((E 73 v1) - (x_3 - ((30 * v1) + v2))) ∧ zin (((E 73 v1) - (x_3 - ((30 * v1) + v2))) + (E 50 35)) ∧ ((((E 73 v1) - (x_3 - ((30 * v1) + v2))) + (E 50 35)) ≤ 30 → zin (30 * v1) ∧ ((0 : Int) ≤ v1 ∧ v1 < (6 : Int)) ∧ zin ((30 * v1) + (E 73 v1)) ∧ zin (((30 * v1) + (E 73 v1)) - x_3) ∧ Z zm_X12_lays kz Q 64 [(0, zR 50), (1, zI v1), (3, zI (((30 * v1) + v2))), (4, zI x_3), (5, zI ((((E 73 v1) - (x_3 - ((30 * v1) + v2))) + (E 50 35)))), (6, zI ((((30 * v1) + (E 73 v1)) - x_3))), (7, zI 0)] [] (d, G, E)) ∧ (¬ ((((E 73 v1) - (x_3 - ((30 * v1) + v2))) + (E 50 35)) ≤ 30) → Q (some (zI 0)) (d, G, E))) : Z zm_X12_lays kz Q 0 [(0, zR 50), (1, zI v1), (2, zI v2)] [] (d, G, E) := by
  refine Z.bipush (n := 30) dX12_lays_0 ⟨by decide, by decide⟩ (by decide) ?_
  refine Z.iload_n (k := 1) dX12_lays_2 rfl ?_
  obtain ⟨z_1, K⟩ := K
  refine Z.imul dX12_lays_3 z_1 ?_
  refine Z.iload_n (k := 2) dX12_lays_4 rfl ?_
  obtain ⟨z_2, K⟩ := K
  refine Z.iadd dX12_lays_5 z_2 ?_
  refine Z.istore_n (ls' := [(3, zI (((30 * v1) + v2))), (0, zR 50), (1, zI v1), (2, zI v2)]) dX12_lays_6 (by decide) rfl ?_
  refine Z.aload_n (k := 1) dX12_lays_7 rfl ?_
  refine Z.aload_n (k := 1) dX12_lays_8 rfl ?_
  refine Y.getR (o := some 72) 21 dX12_lays_9 zl_X12_69 (rfl) (by decide) rfl (zM_1 hM).2.1 (zM_21 hM).1 ?_
  refine Z.iload_n (k := 0) dX12_lays_12 rfl ?_
  obtain ⟨x_3, m_4, K⟩ := K
  refine Y.callV (g := zm_X12_endOf) (vs := [zR 72, zI (((30 * v1) + v2))]) (st := []) dX12_lays_13 ⟨zg_X12_endOf.1, zg_X12_endOf.2.1, zg_X12_endOf.2.2, by decide⟩ ⟨zk_X12_148, zv_X12_endOf⟩ (ci := 12) (rfl) rfl ((zM_1 hM).2.1) rfl rfl (Nat.le_of_ble_eq_true rfl) m_4 (Or.inl rfl) ?_
  show Z zm_X12_lays kz Q 16 [(3, zI (((30 * v1) + v2))), (0, zR 50), (1, zI v1), (2, zI v2)] [zI x_3] (d, G, E)
  refine Z.istore (ls' := [(4, zI x_3), (3, zI (((30 * v1) + v2))), (0, zR 50), (1, zI v1), (2, zI v2)]) dX12_lays_16 (by decide) rfl ?_
  refine Z.aload_n (k := 2) dX12_lays_18 rfl ?_
  refine Y.getR (o := some 73) 22 dX12_lays_19 zl_X12_72 (rfl) (by decide) rfl (zM_1 hM).2.1 (zM_22 hM).1 ?_
  refine Z.iload_n (k := 3) dX12_lays_22 rfl ?_
  obtain ⟨z_6, K⟩ := K
  refine Y.iald dX12_lays_23 (rfl) ((zM_22 hM).2.2) z_6 ?_
  refine Z.iload (k := 0) dX12_lays_24 rfl ?_
  refine Z.iload_n (k := 1) dX12_lays_26 rfl ?_
  obtain ⟨z_7, K⟩ := K
  refine Z.isub dX12_lays_27 z_7 ?_
  obtain ⟨z_8, K⟩ := K
  refine Z.isub dX12_lays_28 z_8 ?_
  refine Z.aload_n (k := 2) dX12_lays_29 rfl ?_
  refine Y.getI 35 dX12_lays_30 zl_X12_212 (rfl) (by decide) rfl (zM_1 hM).2.1 ?_
  obtain ⟨z_9, K⟩ := K
  refine Z.iadd dX12_lays_33 z_9 ?_
  refine Z.istore (ls' := [(5, zI ((((E 73 v1) - (x_3 - ((30 * v1) + v2))) + (E 50 35)))), (4, zI x_3), (3, zI (((30 * v1) + v2))), (0, zR 50), (1, zI v1), (2, zI v2)]) dX12_lays_34 (by decide) rfl ?_
  refine Z.iload (k := 0) dX12_lays_36 rfl ?_
  refine Z.bipush (n := 30) dX12_lays_38 ⟨by decide, by decide⟩ (by decide) ?_
  refine Z.icmp_le 45 dX12_lays_40 rfl ⟨fun c_10 => ?_, fun c_10 => ?_⟩
  · replace K := K.1 c_10
    refine Z.bipush (n := 30) dX12_lays_45 ⟨by decide, by decide⟩ (by decide) ?_
    refine Z.iload_n (k := 4) dX12_lays_47 rfl ?_
    obtain ⟨z_11, K⟩ := K
    refine Z.imul dX12_lays_48 z_11 ?_
    refine Z.aload_n (k := 3) dX12_lays_49 rfl ?_
    refine Y.getR (o := some 73) 22 dX12_lays_50 zl_X12_72 (rfl) (by decide) rfl (zM_1 hM).2.1 (zM_22 hM).1 ?_
    refine Z.iload_n (k := 4) dX12_lays_53 rfl ?_
    obtain ⟨z_12, K⟩ := K
    refine Y.iald dX12_lays_54 (rfl) ((zM_22 hM).2.2) z_12 ?_
    obtain ⟨z_13, K⟩ := K
    refine Z.iadd dX12_lays_55 z_13 ?_
    refine Z.iload (k := 1) dX12_lays_56 rfl ?_
    obtain ⟨z_14, K⟩ := K
    refine Z.isub dX12_lays_58 z_14 ?_
    refine Z.istore (ls' := [(6, zI ((((30 * v1) + (E 73 v1)) - x_3))), (5, zI ((((E 73 v1) - (x_3 - ((30 * v1) + v2))) + (E 50 35)))), (4, zI x_3), (3, zI (((30 * v1) + v2))), (0, zR 50), (1, zI v1), (2, zI v2)]) dX12_lays_59 (by decide) rfl ?_
    refine Z.iconst (n := 0) dX12_lays_61 ⟨by decide, by decide⟩ ?_
    refine Z.istore (ls' := [(7, zI 0), (6, zI ((((30 * v1) + (E 73 v1)) - x_3))), (5, zI ((((E 73 v1) - (x_3 - ((30 * v1) + v2))) + (E 50 35)))), (4, zI x_3), (3, zI (((30 * v1) + v2))), (0, zR 50), (1, zI v1), (2, zI v2)]) dX12_lays_62 (by decide) rfl ?_
    refine Z.pick (ls' := [(0, zR 50), (1, zI v1), (3, zI (((30 * v1) + v2))), (4, zI x_3), (5, zI ((((E 73 v1) - (x_3 - ((30 * v1) + v2))) + (E 50 35)))), (6, zI ((((30 * v1) + (E 73 v1)) - x_3))), (7, zI 0)]) [5, 6, 4, 3, 2, 1, 0] rfl ?_
    exact K
  · replace K := K.2 c_10
    refine Z.iconst (n := 0) dX12_lays_43 ⟨by decide, by decide⟩ ?_
    exact Z.iret (ty := .boolean) dX12_lays_44 rfl rfl K
set_option maxRecDepth 20000 in
theorem X12_lays_64 {kz : Nat × Nat} {Q : Option zV → zH → Prop} {d : List Nat} {G : Nat → Int → Option Nat} {E : Nat → Int → Int} {v1 : Int} {v3 : Int} {v4 : Int} {v5 : Int} {v6 : Int} {v7 : Int} (hM : zK zMt d G) (K : (v6 ≤ v7 → Z zm_X12_lays kz Q 97 [(0, zR 50), (1, zI v1), (3, zI v3), (5, zI v5), (6, zI v6), (7, zI 0)] [] (d, G, E)) ∧ (¬ (v6 ≤ v7) → zin (v4 + v7) ∧ ((0 : Int) ≤ (v4 + v7) ∧ (v4 + v7) < (180 : Int)) ∧ ((0 : Int) ≤ v7 ∧ v7 < (30 : Int)) ∧ ∀ E_5, E_5 = zuE E 77 v7 ((E 72 (v4 + v7))) → zin (v7 + 1) ∧ Z zm_X12_lays kz Q 64 [(0, zR 50), (1, zI v1), (3, zI v3), (4, zI v4), (5, zI v5), (6, zI v6), (7, zI ((v7 + 1)))] [] (d, G, E_5))) : Z zm_X12_lays kz Q 64 [(0, zR 50), (1, zI v1), (3, zI v3), (4, zI v4), (5, zI v5), (6, zI v6), (7, zI v7)] [] (d, G, E) := by
  refine Z.iload (k := 6) dX12_lays_64 rfl ?_
  refine Z.iload (k := 5) dX12_lays_66 rfl ?_
  refine Z.icmp_ge 94 dX12_lays_68 rfl ⟨fun c_1 => ?_, fun c_1 => ?_⟩
  · replace K := K.1 c_1
    refine Z.iconst (n := 0) dX12_lays_94 ⟨by decide, by decide⟩ ?_
    refine Z.istore (ls' := [(7, zI 0), (0, zR 50), (1, zI v1), (3, zI v3), (4, zI v4), (5, zI v5), (6, zI v6)]) dX12_lays_95 (by decide) rfl ?_
    refine Z.pick (ls' := [(0, zR 50), (1, zI v1), (3, zI v3), (5, zI v5), (6, zI v6), (7, zI 0)]) [1, 2, 3, 5, 6, 0] rfl ?_
    exact K
  · replace K := K.2 c_1
    refine Z.aload_n (k := 0) dX12_lays_71 rfl ?_
    refine Y.getR (o := some 77) 26 dX12_lays_72 zl_X12_81 (rfl) (by decide) rfl (zM_1 hM).2.1 (zM_26 hM).1 ?_
    refine Z.iload (k := 6) dX12_lays_75 rfl ?_
    refine Z.aload_n (k := 0) dX12_lays_77 rfl ?_
    refine Y.getR (o := some 72) 21 dX12_lays_78 zl_X12_69 (rfl) (by decide) rfl (zM_1 hM).2.1 (zM_21 hM).1 ?_
    refine Z.iload (k := 3) dX12_lays_81 rfl ?_
    refine Z.iload (k := 6) dX12_lays_83 rfl ?_
    obtain ⟨z_2, K⟩ := K
    refine Z.iadd dX12_lays_85 z_2 ?_
    obtain ⟨z_3, K⟩ := K
    refine Y.iald dX12_lays_86 (rfl) ((zM_21 hM).2.2) z_3 ?_
    obtain ⟨z_4, K⟩ := K
    refine Y.iast dX12_lays_87 (rfl) ((zM_26 hM).2.2) z_4 ?_
    generalize eE_5 : zuE E 77 v7 ((E 72 (v4 + v7))) = E_5
    replace K := K E_5 eE_5.symm
    obtain ⟨z_6, K⟩ := K
    refine Z.iinc (k := 6) (ls' := [(7, zI ((v7 + 1))), (0, zR 50), (1, zI v1), (3, zI v3), (4, zI v4), (5, zI v5), (6, zI v6)]) dX12_lays_88 rfl (by decide) z_6 rfl ?_
    refine Z.goto 64 dX12_lays_91 rfl ?_
    refine Z.pick (ls' := [(0, zR 50), (1, zI v1), (3, zI v3), (4, zI v4), (5, zI v5), (6, zI v6), (7, zI ((v7 + 1)))]) [1, 2, 3, 4, 5, 6, 0] rfl ?_
    exact K
set_option maxRecDepth 20000 in
theorem X12_lays_97 {kz : Nat × Nat} {Q : Option zV → zH → Prop} {d : List Nat} {G : Nat → Int → Option Nat} {E : Nat → Int → Int} {v1 : Int} {v3 : Int} {v5 : Int} {v6 : Int} {v7 : Int} (hM : zK zMt d G) (K : ((E 50 35) ≤ v7 → Z zm_X12_lays kz Q 131 [(0, zR 50), (1, zI v1), (3, zI v3), (5, zI v5), (6, zI v6), (7, zI 0)] [] (d, G, E)) ∧ (¬ ((E 50 35) ≤ v7) → zin (v3 + v7) ∧ ((0 : Int) ≤ v7 ∧ v7 < (1000 : Int)) ∧ ((0 : Int) ≤ (v3 + v7) ∧ (v3 + v7) < (180 : Int)) ∧ ∀ E_5, E_5 = zuE E 72 ((v3 + v7)) ((E 85 v7)) → zin (v7 + 1) ∧ Z zm_X12_lays kz Q 97 [(0, zR 50), (1, zI v1), (3, zI v3), (5, zI v5), (6, zI v6), (7, zI ((v7 + 1)))] [] (d, G, E_5))) : Z zm_X12_lays kz Q 97 [(0, zR 50), (1, zI v1), (3, zI v3), (5, zI v5), (6, zI v6), (7, zI v7)] [] (d, G, E) := by
  refine Z.iload (k := 5) dX12_lays_97 rfl ?_
  refine Z.aload_n (k := 0) dX12_lays_99 rfl ?_
  refine Y.getI 35 dX12_lays_100 zl_X12_212 (rfl) (by decide) rfl (zM_1 hM).2.1 ?_
  refine Z.icmp_ge 128 dX12_lays_103 rfl ⟨fun c_1 => ?_, fun c_1 => ?_⟩
  · replace K := K.1 c_1
    refine Z.iconst (n := 0) dX12_lays_128 ⟨by decide, by decide⟩ ?_
    refine Z.istore (ls' := [(7, zI 0), (0, zR 50), (1, zI v1), (3, zI v3), (5, zI v5), (6, zI v6)]) dX12_lays_129 (by decide) rfl ?_
    refine Z.pick (ls' := [(0, zR 50), (1, zI v1), (3, zI v3), (5, zI v5), (6, zI v6), (7, zI 0)]) [1, 2, 3, 4, 5, 0] rfl ?_
    exact K
  · replace K := K.2 c_1
    refine Z.aload_n (k := 0) dX12_lays_106 rfl ?_
    refine Y.getR (o := some 72) 21 dX12_lays_107 zl_X12_69 (rfl) (by decide) rfl (zM_1 hM).2.1 (zM_21 hM).1 ?_
    refine Z.iload_n (k := 2) dX12_lays_110 rfl ?_
    refine Z.iload (k := 5) dX12_lays_111 rfl ?_
    obtain ⟨z_2, K⟩ := K
    refine Z.iadd dX12_lays_113 z_2 ?_
    refine Z.aload_n (k := 0) dX12_lays_114 rfl ?_
    refine Y.getR (o := some 85) 34 dX12_lays_115 zl_X12_102 (rfl) (by decide) rfl (zM_1 hM).2.1 (zM_34 hM).1 ?_
    refine Z.iload (k := 5) dX12_lays_118 rfl ?_
    obtain ⟨z_3, K⟩ := K
    refine Y.iald dX12_lays_120 (rfl) ((zM_34 hM).2.2) z_3 ?_
    obtain ⟨z_4, K⟩ := K
    refine Y.iast dX12_lays_121 (rfl) ((zM_21 hM).2.2) z_4 ?_
    generalize eE_5 : zuE E 72 ((v3 + v7)) ((E 85 v7)) = E_5
    replace K := K E_5 eE_5.symm
    obtain ⟨z_6, K⟩ := K
    refine Z.iinc (k := 5) (ls' := [(7, zI ((v7 + 1))), (0, zR 50), (1, zI v1), (3, zI v3), (5, zI v5), (6, zI v6)]) dX12_lays_122 rfl (by decide) z_6 rfl ?_
    refine Z.goto 97 dX12_lays_125 rfl ?_
    refine Z.pick (ls' := [(0, zR 50), (1, zI v1), (3, zI v3), (5, zI v5), (6, zI v6), (7, zI ((v7 + 1)))]) [1, 2, 3, 4, 5, 0] rfl ?_
    exact K
set_option maxRecDepth 20000 in
theorem X12_lays_131 {kz : Nat × Nat} {Q : Option zV → zH → Prop} {d : List Nat} {G : Nat → Int → Option Nat} {E : Nat → Int → Int} {v1 : Int} {v3 : Int} {v5 : Int} {v6 : Int} {v7 : Int} (hM : zK zMt d G) (K : (v6 ≤ v7 → ((0 : Int) ≤ v1 ∧ v1 < (6 : Int)) ∧ ∀ E_3, E_3 = zuE E 73 v1 v5 → Q (some (zI 1)) (d, G, E_3)) ∧ (¬ (v6 ≤ v7) → zin (v3 + (E 50 35)) ∧ zin ((v3 + (E 50 35)) + v7) ∧ ((0 : Int) ≤ v7 ∧ v7 < (30 : Int)) ∧ ((0 : Int) ≤ ((v3 + (E 50 35)) + v7) ∧ ((v3 + (E 50 35)) + v7) < (180 : Int)) ∧ ∀ E_8, E_8 = zuE E 72 (((v3 + (E 50 35)) + v7)) ((E 77 v7)) → zin (v7 + 1) ∧ Z zm_X12_lays kz Q 131 [(0, zR 50), (1, zI v1), (3, zI v3), (5, zI v5), (6, zI v6), (7, zI ((v7 + 1)))] [] (d, G, E_8))) : Z zm_X12_lays kz Q 131 [(0, zR 50), (1, zI v1), (3, zI v3), (5, zI v5), (6, zI v6), (7, zI v7)] [] (d, G, E) := by
  refine Z.iload (k := 5) dX12_lays_131 rfl ?_
  refine Z.iload (k := 4) dX12_lays_133 rfl ?_
  refine Z.icmp_ge 165 dX12_lays_135 rfl ⟨fun c_1 => ?_, fun c_1 => ?_⟩
  · replace K := K.1 c_1
    refine Z.aload_n (k := 0) dX12_lays_165 rfl ?_
    refine Y.getR (o := some 73) 22 dX12_lays_166 zl_X12_72 (rfl) (by decide) rfl (zM_1 hM).2.1 (zM_22 hM).1 ?_
    refine Z.iload_n (k := 1) dX12_lays_169 rfl ?_
    refine Z.iload (k := 3) dX12_lays_170 rfl ?_
    obtain ⟨z_2, K⟩ := K
    refine Y.iast dX12_lays_172 (rfl) ((zM_22 hM).2.2) z_2 ?_
    generalize eE_3 : zuE E 73 v1 v5 = E_3
    replace K := K E_3 eE_3.symm
    refine Z.iconst (n := 1) dX12_lays_173 ⟨by decide, by decide⟩ ?_
    exact Z.iret (ty := .boolean) dX12_lays_174 rfl rfl K
  · replace K := K.2 c_1
    refine Z.aload_n (k := 0) dX12_lays_138 rfl ?_
    refine Y.getR (o := some 72) 21 dX12_lays_139 zl_X12_69 (rfl) (by decide) rfl (zM_1 hM).2.1 (zM_21 hM).1 ?_
    refine Z.iload_n (k := 2) dX12_lays_142 rfl ?_
    refine Z.aload_n (k := 0) dX12_lays_143 rfl ?_
    refine Y.getI 35 dX12_lays_144 zl_X12_212 (rfl) (by decide) rfl (zM_1 hM).2.1 ?_
    obtain ⟨z_4, K⟩ := K
    refine Z.iadd dX12_lays_147 z_4 ?_
    refine Z.iload (k := 5) dX12_lays_148 rfl ?_
    obtain ⟨z_5, K⟩ := K
    refine Z.iadd dX12_lays_150 z_5 ?_
    refine Z.aload_n (k := 0) dX12_lays_151 rfl ?_
    refine Y.getR (o := some 77) 26 dX12_lays_152 zl_X12_81 (rfl) (by decide) rfl (zM_1 hM).2.1 (zM_26 hM).1 ?_
    refine Z.iload (k := 5) dX12_lays_155 rfl ?_
    obtain ⟨z_6, K⟩ := K
    refine Y.iald dX12_lays_157 (rfl) ((zM_26 hM).2.2) z_6 ?_
    obtain ⟨z_7, K⟩ := K
    refine Y.iast dX12_lays_158 (rfl) ((zM_21 hM).2.2) z_7 ?_
    generalize eE_8 : zuE E 72 (((v3 + (E 50 35)) + v7)) ((E 77 v7)) = E_8
    replace K := K E_8 eE_8.symm
    obtain ⟨z_9, K⟩ := K
    refine Z.iinc (k := 5) (ls' := [(7, zI ((v7 + 1))), (0, zR 50), (1, zI v1), (3, zI v3), (5, zI v5), (6, zI v6)]) dX12_lays_159 rfl (by decide) z_9 rfl ?_
    refine Z.goto 131 dX12_lays_162 rfl ?_
    refine Z.pick (ls' := [(0, zR 50), (1, zI v1), (3, zI v3), (5, zI v5), (6, zI v6), (7, zI ((v7 + 1)))]) [1, 2, 3, 4, 5, 0] rfl ?_
    exact K
set_option maxRecDepth 20000 in
theorem X12_findRewriting_0 {kz : Nat × Nat} {Q : Option zV → zH → Prop} {d : List Nat} {G : Nat → Int → Option Nat} {E : Nat → Int → Int}  (hM : zK zMt d G) (K : ∀ E_1, E_1 = zuE E 50 38 0 → Z zm_X12_findRewriting kz Q 5 [(0, zR 50)] [] (d, G, E_1)) : Z zm_X12_findRewriting kz Q 0 [(0, zR 50)] [] (d, G, E) := by
  refine Z.aload_n (k := 0) dX12_findRewriting_0 rfl ?_
  refine Z.iconst (n := 0) dX12_findRewriting_1 ⟨by decide, by decide⟩ ?_
  refine Y.putI 38 dX12_findRewriting_2 zw_X12_215 (fun q => by cases q) (rfl) rfl (zM_1 hM).2.1 (Or.inl rfl) ?_
  generalize eE_1 : zuE E 50 38 0 = E_1
  replace K := K E_1 eE_1.symm
  exact K
set_option maxRecDepth 20000 in
theorem X12_findRewriting_5 {kz : Nat × Nat} {Q : Option zV → zH → Prop} {d : List Nat} {G : Nat → Int → Option Nat} {E : Nat → Int → Int}  (hM : zK zMt d G) (K : ((E 50 24) ≤ (E 50 38) → Q (some (zI 0)) (d, G, E)) ∧ (¬ ((E 50 24) ≤ (E 50 38)) → ∀ E_2, E_2 = zuE E 50 39 1 → Z zm_X12_findRewriting kz Q 21 [(0, zR 50)] [] (d, G, E_2))) : Z zm_X12_findRewriting kz Q 5 [(0, zR 50)] [] (d, G, E) := by
  refine Z.aload_n (k := 0) dX12_findRewriting_5 rfl ?_
  refine Y.getI 38 dX12_findRewriting_6 zl_X12_215 (rfl) (by decide) rfl (zM_1 hM).2.1 ?_
  refine Z.aload_n (k := 0) dX12_findRewriting_9 rfl ?_
  refine Y.getI 24 dX12_findRewriting_10 zl_X12_167 (rfl) (by decide) rfl (zM_1 hM).2.1 ?_
  refine Z.icmp_ge 187 dX12_findRewriting_13 rfl ⟨fun c_1 => ?_, fun c_1 => ?_⟩
  · replace K := K.1 c_1
    refine Z.iconst (n := 0) dX12_findRewriting_187 ⟨by decide, by decide⟩ ?_
    exact Z.iret (ty := .boolean) dX12_findRewriting_188 rfl rfl K
  · replace K := K.2 c_1
    refine Z.aload_n (k := 0) dX12_findRewriting_16 rfl ?_
    refine Z.iconst (n := 1) dX12_findRewriting_17 ⟨by decide, by decide⟩ ?_
    refine Y.putI 39 dX12_findRewriting_18 zw_X12_218 (fun q => by cases q) (rfl) rfl (zM_1 hM).2.1 (Or.inl rfl) ?_
    generalize eE_2 : zuE E 50 39 1 = E_2
    replace K := K E_2 eE_2.symm
    exact K
set_option maxRecDepth 20000 in
theorem X12_findRewriting_21 {kz : Nat × Nat} {Q : Option zV → zH → Prop} {d : List Nat} {G : Nat → Int → Option Nat} {E : Nat → Int → Int}  (hM : zK zMt d G) (K : ((0 : Int) ≤ (E 50 38) ∧ (E 50 38) < (6 : Int)) ∧ ((E 73 (E 50 38)) ≤ (E 50 39) → zin ((E 50 38) + 1) ∧ ∀ E_4, E_4 = zuE E 50 38 (((E 50 38) + 1)) → Z zm_X12_findRewriting kz Q 5 [(0, zR 50)] [] (d, G, E_4)) ∧ (¬ ((E 73 (E 50 38)) ≤ (E 50 39)) → ∀ E_5, E_5 = zuE E 50 36 0 → Z zm_X12_findRewriting kz Q 42 [(0, zR 50)] [] (d, G, E_5))) : Z zm_X12_findRewriting kz Q 21 [(0, zR 50)] [] (d, G, E) := by
  refine Z.aload_n (k := 0) dX12_findRewriting_21 rfl ?_
  refine Y.getI 39 dX12_findRewriting_22 zl_X12_218 (rfl) (by decide) rfl (zM_1 hM).2.1 ?_
  refine Z.aload_n (k := 0) dX12_findRewriting_25 rfl ?_
  refine Y.getR (o := some 73) 22 dX12_findRewriting_26 zl_X12_72 (rfl) (by decide) rfl (zM_1 hM).2.1 (zM_22 hM).1 ?_
  refine Z.aload_n (k := 0) dX12_findRewriting_29 rfl ?_
  refine Y.getI 38 dX12_findRewriting_30 zl_X12_215 (rfl) (by decide) rfl (zM_1 hM).2.1 ?_
  obtain ⟨z_1, K⟩ := K
  refine Y.iald dX12_findRewriting_33 (rfl) ((zM_22 hM).2.2) z_1 ?_
  refine Z.icmp_ge 174 dX12_findRewriting_34 rfl ⟨fun c_2 => ?_, fun c_2 => ?_⟩
  · replace K := K.1 c_2
    refine Z.aload_n (k := 0) dX12_findRewriting_174 rfl ?_
    refine Z.dup_i dX12_findRewriting_175 (fun _ => rfl) ?_
    refine Y.getI 38 dX12_findRewriting_176 zl_X12_215 (rfl) (by decide) rfl (zM_1 hM).2.1 ?_
    refine Z.iconst (n := 1) dX12_findRewriting_179 ⟨by decide, by decide⟩ ?_
    obtain ⟨z_3, K⟩ := K
    refine Z.iadd dX12_findRewriting_180 z_3 ?_
    refine Y.putI 38 dX12_findRewriting_181 zw_X12_215 (fun q => by cases q) (rfl) rfl (zM_1 hM).2.1 (Or.inl rfl) ?_
    generalize eE_4 : zuE E 50 38 (((E 50 38) + 1)) = E_4
    replace K := K E_4 eE_4.symm
    refine Z.goto 5 dX12_findRewriting_184 rfl ?_
    exact K
  · replace K := K.2 c_2
    refine Z.aload_n (k := 0) dX12_findRewriting_37 rfl ?_
    refine Z.iconst (n := 0) dX12_findRewriting_38 ⟨by decide, by decide⟩ ?_
    refine Y.putI 36 dX12_findRewriting_39 zw_X12_221 (fun q => by cases q) (rfl) rfl (zM_1 hM).2.1 (Or.inl rfl) ?_
    generalize eE_5 : zuE E 50 36 0 = E_5
    replace K := K E_5 eE_5.symm
    exact K
set_option maxRecDepth 20000 in
theorem X12_findRewriting_42 {kz : Nat × Nat} {Q : Option zV → zH → Prop} {d : List Nat} {G : Nat → Int → Option Nat} {E : Nat → Int → Int}  (hM : zK zMt d G) (K : ((E 50 6) ≤ (E 50 36) → zin ((E 50 39) + 1) ∧ ∀ E_3, E_3 = zuE E 50 39 (((E 50 39) + 1)) → Z zm_X12_findRewriting kz Q 21 [(0, zR 50)] [] (d, G, E_3)) ∧ (¬ ((E 50 6) ≤ (E 50 36)) → zin (30 * (E 50 38)) ∧ zin ((30 * (E 50 38)) + (E 50 39)) ∧ ((0 : Int) ≤ ((30 * (E 50 38)) + (E 50 39)) ∧ ((30 * (E 50 38)) + (E 50 39)) < (180 : Int)) ∧ ((E 72 ((30 * (E 50 38)) + (E 50 39))) < 0 → zin ((E 50 39) + 1) ∧ ∀ E_9, E_9 = zuE E 50 39 (((E 50 39) + 1)) → Z zm_X12_findRewriting kz Q 21 [(0, zR 50)] [] (d, G, E_9)) ∧ (¬ ((E 72 ((30 * (E 50 38)) + (E 50 39))) < 0) → ∀ E_10, E_10 = zuE E 50 37 0 → Z zm_X12_findRewriting kz Q 78 [(0, zR 50)] [] (d, G, E_10)))) : Z zm_X12_findRewriting kz Q 42 [(0, zR 50)] [] (d, G, E) := by
  refine Z.aload_n (k := 0) dX12_findRewriting_42 rfl ?_
  refine Y.getI 36 dX12_findRewriting_43 zl_X12_221 (rfl) (by decide) rfl (zM_1 hM).2.1 ?_
  refine Z.aload_n (k := 0) dX12_findRewriting_46 rfl ?_
  refine Y.getI 6 dX12_findRewriting_47 zl_X12_142 (rfl) (by decide) rfl (zM_1 hM).2.1 ?_
  refine Z.icmp_ge 161 dX12_findRewriting_50 rfl ⟨fun c_1 => ?_, fun c_1 => ?_⟩
  · replace K := K.1 c_1
    refine Z.aload_n (k := 0) dX12_findRewriting_161 rfl ?_
    refine Z.dup_i dX12_findRewriting_162 (fun _ => rfl) ?_
    refine Y.getI 39 dX12_findRewriting_163 zl_X12_218 (rfl) (by decide) rfl (zM_1 hM).2.1 ?_
    refine Z.iconst (n := 1) dX12_findRewriting_166 ⟨by decide, by decide⟩ ?_
    obtain ⟨z_2, K⟩ := K
    refine Z.iadd dX12_findRewriting_167 z_2 ?_
    refine Y.putI 39 dX12_findRewriting_168 zw_X12_218 (fun q => by cases q) (rfl) rfl (zM_1 hM).2.1 (Or.inl rfl) ?_
    generalize eE_3 : zuE E 50 39 (((E 50 39) + 1)) = E_3
    replace K := K E_3 eE_3.symm
    refine Z.goto 21 dX12_findRewriting_171 rfl ?_
    exact K
  · replace K := K.2 c_1
    refine Z.aload_n (k := 0) dX12_findRewriting_53 rfl ?_
    refine Y.getR (o := some 72) 21 dX12_findRewriting_54 zl_X12_69 (rfl) (by decide) rfl (zM_1 hM).2.1 (zM_21 hM).1 ?_
    refine Z.bipush (n := 30) dX12_findRewriting_57 ⟨by decide, by decide⟩ (by decide) ?_
    refine Z.aload_n (k := 0) dX12_findRewriting_59 rfl ?_
    refine Y.getI 38 dX12_findRewriting_60 zl_X12_215 (rfl) (by decide) rfl (zM_1 hM).2.1 ?_
    obtain ⟨z_4, K⟩ := K
    refine Z.imul dX12_findRewriting_63 z_4 ?_
    refine Z.aload_n (k := 0) dX12_findRewriting_64 rfl ?_
    refine Y.getI 39 dX12_findRewriting_65 zl_X12_218 (rfl) (by decide) rfl (zM_1 hM).2.1 ?_
    obtain ⟨z_5, K⟩ := K
    refine Z.iadd dX12_findRewriting_68 z_5 ?_
    obtain ⟨z_6, K⟩ := K
    refine Y.iald dX12_findRewriting_69 (rfl) ((zM_21 hM).2.2) z_6 ?_
    refine Z.if_lt 161 dX12_findRewriting_70 rfl ⟨fun c_7 => ?_, fun c_7 => ?_⟩
    · replace K := K.1 c_7
      refine Z.aload_n (k := 0) dX12_findRewriting_161 rfl ?_
      refine Z.dup_i dX12_findRewriting_162 (fun _ => rfl) ?_
      refine Y.getI 39 dX12_findRewriting_163 zl_X12_218 (rfl) (by decide) rfl (zM_1 hM).2.1 ?_
      refine Z.iconst (n := 1) dX12_findRewriting_166 ⟨by decide, by decide⟩ ?_
      obtain ⟨z_8, K⟩ := K
      refine Z.iadd dX12_findRewriting_167 z_8 ?_
      refine Y.putI 39 dX12_findRewriting_168 zw_X12_218 (fun q => by cases q) (rfl) rfl (zM_1 hM).2.1 (Or.inl rfl) ?_
      generalize eE_9 : zuE E 50 39 (((E 50 39) + 1)) = E_9
      replace K := K E_9 eE_9.symm
      refine Z.goto 21 dX12_findRewriting_171 rfl ?_
      exact K
    · replace K := K.2 c_7
      refine Z.aload_n (k := 0) dX12_findRewriting_73 rfl ?_
      refine Z.iconst (n := 0) dX12_findRewriting_74 ⟨by decide, by decide⟩ ?_
      refine Y.putI 37 dX12_findRewriting_75 zw_X12_224 (fun q => by cases q) (rfl) rfl (zM_1 hM).2.1 (Or.inl rfl) ?_
      generalize eE_10 : zuE E 50 37 0 = E_10
      replace K := K E_10 eE_10.symm
      exact K
set_option maxRecDepth 20000 in
theorem X12_findRewriting_78 {kz : Nat × Nat} {Q : Option zV → zH → Prop} {d : List Nat} {G : Nat → Int → Option Nat} {E : Nat → Int → Int}  (hM : zK zMt d G) (K : (2 ≤ (E 50 37) → zin ((E 50 36) + 1) ∧ ∀ E_3, E_3 = zuE E 50 36 (((E 50 36) + 1)) → Z zm_X12_findRewriting kz Q 42 [(0, zR 50)] [] (d, G, E_3)) ∧ (¬ (2 ≤ (E 50 37)) → ((0 : Int) ≤ (E 50 36) ∧ (E 50 36) < (150 : Int)) ∧ ((E 62 (E 50 36)) = 2 → zin ((E 50 36) + 1) ∧ ∀ E_7, E_7 = zuE E 50 36 (((E 50 36) + 1)) → Z zm_X12_findRewriting kz Q 42 [(0, zR 50)] [] (d, G, E_7)) ∧ (¬ ((E 62 (E 50 36)) = 2) → ∃ x_8, zM zm_X12_isEquation [zR 50, zI ((E 50 36))] (d, G, E) (some (zI x_8)) (d, G, E) ∧ (x_8 = 0 → zin ((E 50 36) + 1) ∧ ∀ E_13, E_13 = zuE E 50 36 (((E 50 36) + 1)) → Z zm_X12_findRewriting kz Q 42 [(0, zR 50)] [] (d, G, E_13)) ∧ (¬ (x_8 = 0) → ∃ x_14 E_15, zM zm_X12_rewrites [zR 50, zI ((E 50 36)), zI ((E 50 37)), zI ((E 50 38)), zI ((E 50 39))] (d, G, E) (some (zI x_14)) (d, G, E_15) ∧ (x_14 = 0 → zin ((E_15 50 37) + 1) ∧ ∀ E_20, E_20 = zuE E_15 50 37 (((E_15 50 37) + 1)) → Z zm_X12_findRewriting kz Q 78 [(0, zR 50)] [] (d, G, E_20)) ∧ (¬ (x_14 = 0) → Q (some (zI 1)) (d, G, E_15)))))) : Z zm_X12_findRewriting kz Q 78 [(0, zR 50)] [] (d, G, E) := by
  refine Z.aload_n (k := 0) dX12_findRewriting_78 rfl ?_
  refine Y.getI 37 dX12_findRewriting_79 zl_X12_224 (rfl) (by decide) rfl (zM_1 hM).2.1 ?_
  refine Z.iconst (n := 2) dX12_findRewriting_82 ⟨by decide, by decide⟩ ?_
  refine Z.icmp_ge 148 dX12_findRewriting_83 rfl ⟨fun c_1 => ?_, fun c_1 => ?_⟩
  · replace K := K.1 c_1
    refine Z.aload_n (k := 0) dX12_findRewriting_148 rfl ?_
    refine Z.dup_i dX12_findRewriting_149 (fun _ => rfl) ?_
    refine Y.getI 36 dX12_findRewriting_150 zl_X12_221 (rfl) (by decide) rfl (zM_1 hM).2.1 ?_
    refine Z.iconst (n := 1) dX12_findRewriting_153 ⟨by decide, by decide⟩ ?_
    obtain ⟨z_2, K⟩ := K
    refine Z.iadd dX12_findRewriting_154 z_2 ?_
    refine Y.putI 36 dX12_findRewriting_155 zw_X12_221 (fun q => by cases q) (rfl) rfl (zM_1 hM).2.1 (Or.inl rfl) ?_
    generalize eE_3 : zuE E 50 36 (((E 50 36) + 1)) = E_3
    replace K := K E_3 eE_3.symm
    refine Z.goto 42 dX12_findRewriting_158 rfl ?_
    exact K
  · replace K := K.2 c_1
    refine Z.aload_n (k := 0) dX12_findRewriting_86 rfl ?_
    refine Y.getR (o := some 62) 11 dX12_findRewriting_87 zl_X12_39 (rfl) (by decide) rfl (zM_1 hM).2.1 (zM_11 hM).1 ?_
    refine Z.aload_n (k := 0) dX12_findRewriting_90 rfl ?_
    refine Y.getI 36 dX12_findRewriting_91 zl_X12_221 (rfl) (by decide) rfl (zM_1 hM).2.1 ?_
    obtain ⟨z_4, K⟩ := K
    refine Y.iald dX12_findRewriting_94 (rfl) ((zM_11 hM).2.2) z_4 ?_
    refine Z.iconst (n := 2) dX12_findRewriting_95 ⟨by decide, by decide⟩ ?_
    refine Z.icmp_eq 148 dX12_findRewriting_96 rfl ⟨fun c_5 => ?_, fun c_5 => ?_⟩
    · replace K := K.1 c_5
      refine Z.aload_n (k := 0) dX12_findRewriting_148 rfl ?_
      refine Z.dup_i dX12_findRewriting_149 (fun _ => rfl) ?_
      refine Y.getI 36 dX12_findRewriting_150 zl_X12_221 (rfl) (by decide) rfl (zM_1 hM).2.1 ?_
      refine Z.iconst (n := 1) dX12_findRewriting_153 ⟨by decide, by decide⟩ ?_
      obtain ⟨z_6, K⟩ := K
      refine Z.iadd dX12_findRewriting_154 z_6 ?_
      refine Y.putI 36 dX12_findRewriting_155 zw_X12_221 (fun q => by cases q) (rfl) rfl (zM_1 hM).2.1 (Or.inl rfl) ?_
      generalize eE_7 : zuE E 50 36 (((E 50 36) + 1)) = E_7
      replace K := K E_7 eE_7.symm
      refine Z.goto 42 dX12_findRewriting_158 rfl ?_
      exact K
    · replace K := K.2 c_5
      refine Z.aload_n (k := 0) dX12_findRewriting_99 rfl ?_
      refine Z.aload_n (k := 0) dX12_findRewriting_100 rfl ?_
      refine Y.getI 36 dX12_findRewriting_101 zl_X12_221 (rfl) (by decide) rfl (zM_1 hM).2.1 ?_
      obtain ⟨x_8, m_9, K⟩ := K
      refine Y.callV (g := zm_X12_isEquation) (vs := [zI ((E 50 36))]) (st := []) dX12_findRewriting_104 ⟨zg_X12_isEquation.1, zg_X12_isEquation.2.1, zg_X12_isEquation.2.2, by decide⟩ ⟨zk_X12_227, zv_X12_isEquation⟩ (ci := 12) (rfl) rfl ((zM_1 hM).2.1) rfl rfl (Nat.le_of_ble_eq_true rfl) m_9 (Or.inl rfl) ?_
      show Z zm_X12_findRewriting kz Q 107 [(0, zR 50)] [zI x_8] (d, G, E)
      refine Z.if_eq 148 dX12_findRewriting_107 rfl ⟨fun c_11 => ?_, fun c_11 => ?_⟩
      · replace K := K.1 c_11
        refine Z.aload_n (k := 0) dX12_findRewriting_148 rfl ?_
        refine Z.dup_i dX12_findRewriting_149 (fun _ => rfl) ?_
        refine Y.getI 36 dX12_findRewriting_150 zl_X12_221 (rfl) (by decide) rfl (zM_1 hM).2.1 ?_
        refine Z.iconst (n := 1) dX12_findRewriting_153 ⟨by decide, by decide⟩ ?_
        obtain ⟨z_12, K⟩ := K
        refine Z.iadd dX12_findRewriting_154 z_12 ?_
        refine Y.putI 36 dX12_findRewriting_155 zw_X12_221 (fun q => by cases q) (rfl) rfl (zM_1 hM).2.1 (Or.inl rfl) ?_
        generalize eE_13 : zuE E 50 36 (((E 50 36) + 1)) = E_13
        replace K := K E_13 eE_13.symm
        refine Z.goto 42 dX12_findRewriting_158 rfl ?_
        exact K
      · replace K := K.2 c_11
        refine Z.aload_n (k := 0) dX12_findRewriting_110 rfl ?_
        refine Z.aload_n (k := 0) dX12_findRewriting_111 rfl ?_
        refine Y.getI 36 dX12_findRewriting_112 zl_X12_221 (rfl) (by decide) rfl (zM_1 hM).2.1 ?_
        refine Z.aload_n (k := 0) dX12_findRewriting_115 rfl ?_
        refine Y.getI 37 dX12_findRewriting_116 zl_X12_224 (rfl) (by decide) rfl (zM_1 hM).2.1 ?_
        refine Z.aload_n (k := 0) dX12_findRewriting_119 rfl ?_
        refine Y.getI 38 dX12_findRewriting_120 zl_X12_215 (rfl) (by decide) rfl (zM_1 hM).2.1 ?_
        refine Z.aload_n (k := 0) dX12_findRewriting_123 rfl ?_
        refine Y.getI 39 dX12_findRewriting_124 zl_X12_218 (rfl) (by decide) rfl (zM_1 hM).2.1 ?_
        obtain ⟨x_14, E_15, m_16, K⟩ := K
        refine Y.callV (g := zm_X12_rewrites) (vs := [zI ((E 50 36)), zI ((E 50 37)), zI ((E 50 38)), zI ((E 50 39))]) (st := []) dX12_findRewriting_127 ⟨zg_X12_rewrites.1, zg_X12_rewrites.2.1, zg_X12_rewrites.2.2, by decide⟩ ⟨zk_X12_230, zv_X12_rewrites⟩ (ci := 12) (rfl) rfl ((zM_1 hM).2.1) rfl rfl (Nat.le_of_ble_eq_true rfl) m_16 (Or.inl rfl) ?_
        show Z zm_X12_findRewriting kz Q 130 [(0, zR 50)] [zI x_14] (d, G, E_15)
        refine Z.if_eq 135 dX12_findRewriting_130 rfl ⟨fun c_18 => ?_, fun c_18 => ?_⟩
        · replace K := K.1 c_18
          refine Z.aload_n (k := 0) dX12_findRewriting_135 rfl ?_
          refine Z.dup_i dX12_findRewriting_136 (fun _ => rfl) ?_
          refine Y.getI 37 dX12_findRewriting_137 zl_X12_224 (rfl) (by decide) rfl (zM_1 hM).2.1 ?_
          refine Z.iconst (n := 1) dX12_findRewriting_140 ⟨by decide, by decide⟩ ?_
          obtain ⟨z_19, K⟩ := K
          refine Z.iadd dX12_findRewriting_141 z_19 ?_
          refine Y.putI 37 dX12_findRewriting_142 zw_X12_224 (fun q => by cases q) (rfl) rfl (zM_1 hM).2.1 (Or.inl rfl) ?_
          generalize eE_20 : zuE E_15 50 37 (((E_15 50 37) + 1)) = E_20
          replace K := K E_20 eE_20.symm
          refine Z.goto 78 dX12_findRewriting_145 rfl ?_
          exact K
        · replace K := K.2 c_18
          refine Z.iconst (n := 1) dX12_findRewriting_133 ⟨by decide, by decide⟩ ?_
          exact Z.iret (ty := .boolean) dX12_findRewriting_134 rfl rfl K
set_option maxRecDepth 20000 in
theorem X12_finishes_0 {kz : Nat × Nat} {Q : Option zV → zH → Prop} {d : List Nat} {G : Nat → Int → Option Nat} {E : Nat → Int → Int}  (hM : zK zMt d G) (K : ∀ E_1, E_1 = zuE E 50 40 0 → ∃ E_2, zM zm_X12_clean [zR 50] (d, G, E_1) none (d, G, E_2) ∧ ((E_2 50 28) ≤ 20 → Z zm_X12_finishes kz Q 20 [(0, zR 50)] [] (d, G, E_2)) ∧ (¬ ((E_2 50 28) ≤ 20) → Q (some (zI 0)) (d, G, E_2))) : Z zm_X12_finishes kz Q 0 [(0, zR 50)] [] (d, G, E) := by
  refine Z.aload_n (k := 0) dX12_finishes_0 rfl ?_
  refine Z.iconst (n := 0) dX12_finishes_1 ⟨by decide, by decide⟩ ?_
  refine Y.putI 40 dX12_finishes_2 zw_X12_233 (fun q => by cases q) (rfl) rfl (zM_1 hM).2.1 (Or.inl rfl) ?_
  generalize eE_1 : zuE E 50 40 0 = E_1
  replace K := K E_1 eE_1.symm
  refine Z.aload_n (k := 0) dX12_finishes_5 rfl ?_
  obtain ⟨E_2, m_3, K⟩ := K
  refine Y.callV (g := zm_X12_clean) (vs := []) (st := []) dX12_finishes_6 ⟨zg_X12_clean.1, zg_X12_clean.2.1, zg_X12_clean.2.2, by decide⟩ ⟨zk_X12_236, zv_X12_clean⟩ (ci := 12) (rfl) rfl ((zM_1 hM).2.1) rfl rfl (Nat.le_of_ble_eq_true rfl) m_3 (Or.inl rfl) ?_
  show Z zm_X12_finishes kz Q 9 [(0, zR 50)] [] (d, G, E_2)
  refine Z.aload_n (k := 0) dX12_finishes_9 rfl ?_
  refine Y.getI 28 dX12_finishes_10 zl_X12_185 (rfl) (by decide) rfl (zM_1 hM).2.1 ?_
  refine Z.bipush (n := 20) dX12_finishes_13 ⟨by decide, by decide⟩ (by decide) ?_
  refine Z.icmp_le 20 dX12_finishes_15 rfl ⟨fun c_5 => ?_, fun c_5 => ?_⟩
  · replace K := K.1 c_5
    exact K
  · replace K := K.2 c_5
    refine Z.iconst (n := 0) dX12_finishes_18 ⟨by decide, by decide⟩ ?_
    exact Z.iret (ty := .boolean) dX12_finishes_19 rfl rfl K
set_option maxRecDepth 20000 in
theorem X12_finishes_20 {kz : Nat × Nat} {Q : Option zV → zH → Prop} {d : List Nat} {G : Nat → Int → Option Nat} {E : Nat → Int → Int}  (hM : zK zMt d G) (K : (8 ≤ (E 50 40) → Q (some (zI 1)) (d, G, E)) ∧ (¬ (8 ≤ (E 50 40)) → ∃ x_2 E_3, zM zm_X12_findRewriting [zR 50] (d, G, E) (some (zI x_2)) (d, G, E_3) ∧ (x_2 = 0 → Q (some (zI 1)) (d, G, E_3)) ∧ (¬ (x_2 = 0) → ∃ x_7 E_8, zM zm_X12_lays [zR 50, zI ((E_3 50 38)), zI ((E_3 50 39))] (d, G, E_3) (some (zI x_7)) (d, G, E_8) ∧ (x_7 ≠ 0 → zin (4 * (E_8 50 40)) ∧ ((0 : Int) ≤ (4 * (E_8 50 40)) ∧ (4 * (E_8 50 40)) < (32 : Int)) ∧ ∀ E_14, E_14 = zuE E_8 92 ((4 * (E_8 50 40))) ((E_8 50 36)) → zin (4 * (E_14 50 40)) ∧ zin ((4 * (E_14 50 40)) + 1) ∧ ((0 : Int) ≤ ((4 * (E_14 50 40)) + 1) ∧ ((4 * (E_14 50 40)) + 1) < (32 : Int)) ∧ ∀ E_18, E_18 = zuE E_14 92 (((4 * (E_14 50 40)) + 1)) ((E_14 50 37)) → zin (4 * (E_18 50 40)) ∧ zin ((4 * (E_18 50 40)) + 2) ∧ ((0 : Int) ≤ ((4 * (E_18 50 40)) + 2) ∧ ((4 * (E_18 50 40)) + 2) < (32 : Int)) ∧ ∀ E_22, E_22 = zuE E_18 92 (((4 * (E_18 50 40)) + 2)) ((E_18 50 38)) → zin (4 * (E_22 50 40)) ∧ zin ((4 * (E_22 50 40)) + 3) ∧ ((0 : Int) ≤ ((4 * (E_22 50 40)) + 3) ∧ ((4 * (E_22 50 40)) + 3) < (32 : Int)) ∧ ∀ E_26, E_26 = zuE E_22 92 (((4 * (E_22 50 40)) + 3)) ((E_22 50 39)) → zin ((E_26 50 40) + 1) ∧ ∀ E_28, E_28 = zuE E_26 50 40 (((E_26 50 40) + 1)) → zin ((E_28 50 42) + 1) ∧ ∀ E_30, E_30 = zuE E_28 50 42 (((E_28 50 42) + 1)) → ∃ E_31, zM zm_X12_clean [zR 50] (d, G, E_30) none (d, G, E_31) ∧ Z zm_X12_finishes kz Q 20 [(0, zR 50)] [] (d, G, E_31)) ∧ (¬ (x_7 ≠ 0) → Q (some (zI 0)) (d, G, E_8))))) : Z zm_X12_finishes kz Q 20 [(0, zR 50)] [] (d, G, E) := by
  refine Z.aload_n (k := 0) dX12_finishes_20 rfl ?_
  refine Y.getI 40 dX12_finishes_21 zl_X12_233 (rfl) (by decide) rfl (zM_1 hM).2.1 ?_
  refine Z.bipush (n := 8) dX12_finishes_24 ⟨by decide, by decide⟩ (by decide) ?_
  refine Z.icmp_ge 146 dX12_finishes_26 rfl ⟨fun c_1 => ?_, fun c_1 => ?_⟩
  · replace K := K.1 c_1
    refine Z.iconst (n := 1) dX12_finishes_146 ⟨by decide, by decide⟩ ?_
    exact Z.iret (ty := .boolean) dX12_finishes_147 rfl rfl K
  · replace K := K.2 c_1
    refine Z.aload_n (k := 0) dX12_finishes_29 rfl ?_
    obtain ⟨x_2, E_3, m_4, K⟩ := K
    refine Y.callV (g := zm_X12_findRewriting) (vs := []) (st := []) dX12_finishes_30 ⟨zg_X12_findRewriting.1, zg_X12_findRewriting.2.1, zg_X12_findRewriting.2.2, by decide⟩ ⟨zk_X12_239, zv_X12_findRewriting⟩ (ci := 12) (rfl) rfl ((zM_1 hM).2.1) rfl rfl (Nat.le_of_ble_eq_true rfl) m_4 (Or.inl rfl) ?_
    show Z zm_X12_finishes kz Q 33 [(0, zR 50)] [zI x_2] (d, G, E_3)
    refine Z.if_eq 146 dX12_finishes_33 rfl ⟨fun c_6 => ?_, fun c_6 => ?_⟩
    · replace K := K.1 c_6
      refine Z.iconst (n := 1) dX12_finishes_146 ⟨by decide, by decide⟩ ?_
      exact Z.iret (ty := .boolean) dX12_finishes_147 rfl rfl K
    · replace K := K.2 c_6
      refine Z.aload_n (k := 0) dX12_finishes_36 rfl ?_
      refine Z.aload_n (k := 0) dX12_finishes_37 rfl ?_
      refine Y.getI 38 dX12_finishes_38 zl_X12_215 (rfl) (by decide) rfl (zM_1 hM).2.1 ?_
      refine Z.aload_n (k := 0) dX12_finishes_41 rfl ?_
      refine Y.getI 39 dX12_finishes_42 zl_X12_218 (rfl) (by decide) rfl (zM_1 hM).2.1 ?_
      obtain ⟨x_7, E_8, m_9, K⟩ := K
      refine Y.callV (g := zm_X12_lays) (vs := [zI ((E_3 50 38)), zI ((E_3 50 39))]) (st := []) dX12_finishes_45 ⟨zg_X12_lays.1, zg_X12_lays.2.1, zg_X12_lays.2.2, by decide⟩ ⟨zk_X12_243, zv_X12_lays⟩ (ci := 12) (rfl) rfl ((zM_1 hM).2.1) rfl rfl (Nat.le_of_ble_eq_true rfl) m_9 (Or.inl rfl) ?_
      show Z zm_X12_finishes kz Q 48 [(0, zR 50)] [zI x_7] (d, G, E_8)
      refine Z.if_ne 53 dX12_finishes_48 rfl ⟨fun c_11 => ?_, fun c_11 => ?_⟩
      · replace K := K.1 c_11
        refine Z.aload_n (k := 0) dX12_finishes_53 rfl ?_
        refine Y.getR (o := some 92) 41 dX12_finishes_54 zl_X12_105 (rfl) (by decide) rfl (zM_1 hM).2.1 (zM_41 hM).1 ?_
        refine Z.iconst (n := 4) dX12_finishes_57 ⟨by decide, by decide⟩ ?_
        refine Z.aload_n (k := 0) dX12_finishes_58 rfl ?_
        refine Y.getI 40 dX12_finishes_59 zl_X12_233 (rfl) (by decide) rfl (zM_1 hM).2.1 ?_
        obtain ⟨z_12, K⟩ := K
        refine Z.imul dX12_finishes_62 z_12 ?_
        refine Z.aload_n (k := 0) dX12_finishes_63 rfl ?_
        refine Y.getI 36 dX12_finishes_64 zl_X12_221 (rfl) (by decide) rfl (zM_1 hM).2.1 ?_
        obtain ⟨z_13, K⟩ := K
        refine Y.iast dX12_finishes_67 (rfl) ((zM_41 hM).2.2) z_13 ?_
        generalize eE_14 : zuE E_8 92 ((4 * (E_8 50 40))) ((E_8 50 36)) = E_14
        replace K := K E_14 eE_14.symm
        refine Z.aload_n (k := 0) dX12_finishes_68 rfl ?_
        refine Y.getR (o := some 92) 41 dX12_finishes_69 zl_X12_105 (rfl) (by decide) rfl (zM_1 hM).2.1 (zM_41 hM).1 ?_
        refine Z.iconst (n := 4) dX12_finishes_72 ⟨by decide, by decide⟩ ?_
        refine Z.aload_n (k := 0) dX12_finishes_73 rfl ?_
        refine Y.getI 40 dX12_finishes_74 zl_X12_233 (rfl) (by decide) rfl (zM_1 hM).2.1 ?_
        obtain ⟨z_15, K⟩ := K
        refine Z.imul dX12_finishes_77 z_15 ?_
        refine Z.iconst (n := 1) dX12_finishes_78 ⟨by decide, by decide⟩ ?_
        obtain ⟨z_16, K⟩ := K
        refine Z.iadd dX12_finishes_79 z_16 ?_
        refine Z.aload_n (k := 0) dX12_finishes_80 rfl ?_
        refine Y.getI 37 dX12_finishes_81 zl_X12_224 (rfl) (by decide) rfl (zM_1 hM).2.1 ?_
        obtain ⟨z_17, K⟩ := K
        refine Y.iast dX12_finishes_84 (rfl) ((zM_41 hM).2.2) z_17 ?_
        generalize eE_18 : zuE E_14 92 (((4 * (E_14 50 40)) + 1)) ((E_14 50 37)) = E_18
        replace K := K E_18 eE_18.symm
        refine Z.aload_n (k := 0) dX12_finishes_85 rfl ?_
        refine Y.getR (o := some 92) 41 dX12_finishes_86 zl_X12_105 (rfl) (by decide) rfl (zM_1 hM).2.1 (zM_41 hM).1 ?_
        refine Z.iconst (n := 4) dX12_finishes_89 ⟨by decide, by decide⟩ ?_
        refine Z.aload_n (k := 0) dX12_finishes_90 rfl ?_
        refine Y.getI 40 dX12_finishes_91 zl_X12_233 (rfl) (by decide) rfl (zM_1 hM).2.1 ?_
        obtain ⟨z_19, K⟩ := K
        refine Z.imul dX12_finishes_94 z_19 ?_
        refine Z.iconst (n := 2) dX12_finishes_95 ⟨by decide, by decide⟩ ?_
        obtain ⟨z_20, K⟩ := K
        refine Z.iadd dX12_finishes_96 z_20 ?_
        refine Z.aload_n (k := 0) dX12_finishes_97 rfl ?_
        refine Y.getI 38 dX12_finishes_98 zl_X12_215 (rfl) (by decide) rfl (zM_1 hM).2.1 ?_
        obtain ⟨z_21, K⟩ := K
        refine Y.iast dX12_finishes_101 (rfl) ((zM_41 hM).2.2) z_21 ?_
        generalize eE_22 : zuE E_18 92 (((4 * (E_18 50 40)) + 2)) ((E_18 50 38)) = E_22
        replace K := K E_22 eE_22.symm
        refine Z.aload_n (k := 0) dX12_finishes_102 rfl ?_
        refine Y.getR (o := some 92) 41 dX12_finishes_103 zl_X12_105 (rfl) (by decide) rfl (zM_1 hM).2.1 (zM_41 hM).1 ?_
        refine Z.iconst (n := 4) dX12_finishes_106 ⟨by decide, by decide⟩ ?_
        refine Z.aload_n (k := 0) dX12_finishes_107 rfl ?_
        refine Y.getI 40 dX12_finishes_108 zl_X12_233 (rfl) (by decide) rfl (zM_1 hM).2.1 ?_
        obtain ⟨z_23, K⟩ := K
        refine Z.imul dX12_finishes_111 z_23 ?_
        refine Z.iconst (n := 3) dX12_finishes_112 ⟨by decide, by decide⟩ ?_
        obtain ⟨z_24, K⟩ := K
        refine Z.iadd dX12_finishes_113 z_24 ?_
        refine Z.aload_n (k := 0) dX12_finishes_114 rfl ?_
        refine Y.getI 39 dX12_finishes_115 zl_X12_218 (rfl) (by decide) rfl (zM_1 hM).2.1 ?_
        obtain ⟨z_25, K⟩ := K
        refine Y.iast dX12_finishes_118 (rfl) ((zM_41 hM).2.2) z_25 ?_
        generalize eE_26 : zuE E_22 92 (((4 * (E_22 50 40)) + 3)) ((E_22 50 39)) = E_26
        replace K := K E_26 eE_26.symm
        refine Z.aload_n (k := 0) dX12_finishes_119 rfl ?_
        refine Z.dup_i dX12_finishes_120 (fun _ => rfl) ?_
        refine Y.getI 40 dX12_finishes_121 zl_X12_233 (rfl) (by decide) rfl (zM_1 hM).2.1 ?_
        refine Z.iconst (n := 1) dX12_finishes_124 ⟨by decide, by decide⟩ ?_
        obtain ⟨z_27, K⟩ := K
        refine Z.iadd dX12_finishes_125 z_27 ?_
        refine Y.putI 40 dX12_finishes_126 zw_X12_233 (fun q => by cases q) (rfl) rfl (zM_1 hM).2.1 (Or.inl rfl) ?_
        generalize eE_28 : zuE E_26 50 40 (((E_26 50 40) + 1)) = E_28
        replace K := K E_28 eE_28.symm
        refine Z.aload_n (k := 0) dX12_finishes_129 rfl ?_
        refine Z.dup_i dX12_finishes_130 (fun _ => rfl) ?_
        refine Y.getI 42 dX12_finishes_131 zl_X12_246 (rfl) (by decide) rfl (zM_1 hM).2.1 ?_
        refine Z.iconst (n := 1) dX12_finishes_134 ⟨by decide, by decide⟩ ?_
        obtain ⟨z_29, K⟩ := K
        refine Z.iadd dX12_finishes_135 z_29 ?_
        refine Y.putI 42 dX12_finishes_136 zw_X12_246 (fun q => by cases q) (rfl) rfl (zM_1 hM).2.1 (Or.inl rfl) ?_
        generalize eE_30 : zuE E_28 50 42 (((E_28 50 42) + 1)) = E_30
        replace K := K E_30 eE_30.symm
        refine Z.aload_n (k := 0) dX12_finishes_139 rfl ?_
        obtain ⟨E_31, m_32, K⟩ := K
        refine Y.callV (g := zm_X12_clean) (vs := []) (st := []) dX12_finishes_140 ⟨zg_X12_clean.1, zg_X12_clean.2.1, zg_X12_clean.2.2, by decide⟩ ⟨zk_X12_236, zv_X12_clean⟩ (ci := 12) (rfl) rfl ((zM_1 hM).2.1) rfl rfl (Nat.le_of_ble_eq_true rfl) m_32 (Or.inl rfl) ?_
        show Z zm_X12_finishes kz Q 143 [(0, zR 50)] [] (d, G, E_31)
        refine Z.goto 20 dX12_finishes_143 rfl ?_
        exact K
      · replace K := K.2 c_11
        refine Z.iconst (n := 0) dX12_finishes_51 ⟨by decide, by decide⟩ ?_
        exact Z.iret (ty := .boolean) dX12_finishes_52 rfl rfl K
set_option maxRecDepth 20000 in
theorem X12_take_0 {kz : Nat × Nat} {Q : Option zV → zH → Prop} {d : List Nat} {G : Nat → Int → Option Nat} {E : Nat → Int → Int} {v1 : Int} {v2 : Int} (hM : zK zMt d G) (K : Z zm_X12_take kz Q 2 [(0, zR 50), (1, zI v1), (2, zI v2), (3, zI 0)] [] (d, G, E)) : Z zm_X12_take kz Q 0 [(0, zR 50), (1, zI v1), (2, zI v2)] [] (d, G, E) := by
  refine Z.iconst (n := 0) dX12_take_0 ⟨by decide, by decide⟩ ?_
  refine Z.istore_n (ls' := [(3, zI 0), (0, zR 50), (1, zI v1), (2, zI v2)]) dX12_take_1 (by decide) rfl ?_
  refine Z.pick (ls' := [(0, zR 50), (1, zI v1), (2, zI v2), (3, zI 0)]) [1, 2, 3, 0] rfl ?_
  exact K
set_option maxRecDepth 20000 in
theorem X12_take_2 {kz : Nat × Nat} {Q : Option zV → zH → Prop} {d : List Nat} {G : Nat → Int → Option Nat} {E : Nat → Int → Int} {v1 : Int} {v2 : Int} {v3 : Int} (hM : zK zMt d G) (K : (180 ≤ v3 → Z zm_X12_take kz Q 74 [(0, zR 50), (3, zI 0)] [] (d, G, E)) ∧ (¬ (180 ≤ v3) → zin (180 * v1) ∧ zin ((180 * v1) + v3) ∧ ((0 : Int) ≤ ((180 * v1) + v3) ∧ ((180 * v1) + v3) < (27000 : Int)) ∧ ((0 : Int) ≤ v3 ∧ v3 < (360 : Int)) ∧ ∀ E_6, E_6 = zuE E 97 v3 ((E 58 ((180 * v1) + v3))) → zin (180 * v2) ∧ zin ((180 * v2) + v3) ∧ ((0 : Int) ≤ ((180 * v2) + v3) ∧ ((180 * v2) + v3) < (27000 : Int)) ∧ zin (180 + v3) ∧ (0 ≤ (E_6 58 ((180 * v2) + v3)) → ((0 : Int) ≤ (180 + v3) ∧ (180 + v3) < (360 : Int)) ∧ ∀ E_13, E_13 = zuE E_6 97 ((180 + v3)) ((E_6 58 ((180 * v2) + v3))) → zin (v3 + 1) ∧ Z zm_X12_take kz Q 2 [(0, zR 50), (1, zI v1), (2, zI v2), (3, zI ((v3 + 1)))] [] (d, G, E_13)) ∧ (¬ (0 ≤ (E_6 58 ((180 * v2) + v3))) → zin ((E_6 58 ((180 * v2) + v3)) - 20) ∧ ((0 : Int) ≤ (180 + v3) ∧ (180 + v3) < (360 : Int)) ∧ ∀ E_17, E_17 = zuE E_6 97 ((180 + v3)) (((E_6 58 ((180 * v2) + v3)) - 20)) → zin (v3 + 1) ∧ Z zm_X12_take kz Q 2 [(0, zR 50), (1, zI v1), (2, zI v2), (3, zI ((v3 + 1)))] [] (d, G, E_17)))) : Z zm_X12_take kz Q 2 [(0, zR 50), (1, zI v1), (2, zI v2), (3, zI v3)] [] (d, G, E) := by
  refine Z.iload_n (k := 3) dX12_take_2 rfl ?_
  refine Z.sipush (n := 180) dX12_take_3 ⟨by decide, by decide⟩ (by decide) ?_
  refine Z.icmp_ge 72 dX12_take_6 rfl ⟨fun c_1 => ?_, fun c_1 => ?_⟩
  · replace K := K.1 c_1
    refine Z.iconst (n := 0) dX12_take_72 ⟨by decide, by decide⟩ ?_
    refine Z.istore_n (ls' := [(3, zI 0), (0, zR 50), (1, zI v1), (2, zI v2)]) dX12_take_73 (by decide) rfl ?_
    refine Z.pick (ls' := [(0, zR 50), (3, zI 0)]) [1, 0] rfl ?_
    exact K
  · replace K := K.2 c_1
    refine Z.aload_n (k := 0) dX12_take_9 rfl ?_
    refine Y.getR (o := some 97) 46 dX12_take_10 zl_X12_108 (rfl) (by decide) rfl (zM_1 hM).2.1 (zM_46 hM).1 ?_
    refine Z.iload_n (k := 3) dX12_take_13 rfl ?_
    refine Z.aload_n (k := 0) dX12_take_14 rfl ?_
    refine Y.getR (o := some 58) 7 dX12_take_15 zl_X12_27 (rfl) (by decide) rfl (zM_1 hM).2.1 (zM_7 hM).1 ?_
    refine Z.sipush (n := 180) dX12_take_18 ⟨by decide, by decide⟩ (by decide) ?_
    refine Z.iload_n (k := 1) dX12_take_21 rfl ?_
    obtain ⟨z_2, K⟩ := K
    refine Z.imul dX12_take_22 z_2 ?_
    refine Z.iload_n (k := 3) dX12_take_23 rfl ?_
    obtain ⟨z_3, K⟩ := K
    refine Z.iadd dX12_take_24 z_3 ?_
    obtain ⟨z_4, K⟩ := K
    refine Y.iald dX12_take_25 (rfl) ((zM_7 hM).2.2) z_4 ?_
    obtain ⟨z_5, K⟩ := K
    refine Y.iast dX12_take_26 (rfl) ((zM_46 hM).2.2) z_5 ?_
    generalize eE_6 : zuE E 97 v3 ((E 58 ((180 * v1) + v3))) = E_6
    replace K := K E_6 eE_6.symm
    refine Z.aload_n (k := 0) dX12_take_27 rfl ?_
    refine Y.getR (o := some 58) 7 dX12_take_28 zl_X12_27 (rfl) (by decide) rfl (zM_1 hM).2.1 (zM_7 hM).1 ?_
    refine Z.sipush (n := 180) dX12_take_31 ⟨by decide, by decide⟩ (by decide) ?_
    refine Z.iload_n (k := 2) dX12_take_34 rfl ?_
    obtain ⟨z_7, K⟩ := K
    refine Z.imul dX12_take_35 z_7 ?_
    refine Z.iload_n (k := 3) dX12_take_36 rfl ?_
    obtain ⟨z_8, K⟩ := K
    refine Z.iadd dX12_take_37 z_8 ?_
    obtain ⟨z_9, K⟩ := K
    refine Y.iald dX12_take_38 (rfl) ((zM_7 hM).2.2) z_9 ?_
    refine Z.istore (ls' := [(4, zI ((E_6 58 ((180 * v2) + v3)))), (0, zR 50), (1, zI v1), (2, zI v2), (3, zI v3)]) dX12_take_39 (by decide) rfl ?_
    refine Z.aload_n (k := 1) dX12_take_41 rfl ?_
    refine Y.getR (o := some 97) 46 dX12_take_42 zl_X12_108 (rfl) (by decide) rfl (zM_1 hM).2.1 (zM_46 hM).1 ?_
    refine Z.sipush (n := 180) dX12_take_45 ⟨by decide, by decide⟩ (by decide) ?_
    refine Z.iload_n (k := 4) dX12_take_48 rfl ?_
    obtain ⟨z_10, K⟩ := K
    refine Z.iadd dX12_take_49 z_10 ?_
    refine Z.iload (k := 0) dX12_take_50 rfl ?_
    refine Z.if_ge 63 dX12_take_52 rfl ⟨fun c_11 => ?_, fun c_11 => ?_⟩
    · replace K := K.1 c_11
      refine Z.iload (k := 0) dX12_take_63 rfl ?_
      obtain ⟨z_12, K⟩ := K
      refine Y.iast dX12_take_65 (rfl) ((zM_46 hM).2.2) z_12 ?_
      generalize eE_13 : zuE E_6 97 ((180 + v3)) ((E_6 58 ((180 * v2) + v3))) = E_13
      replace K := K E_13 eE_13.symm
      obtain ⟨z_14, K⟩ := K
      refine Z.iinc (k := 4) (ls' := [(3, zI ((v3 + 1))), (4, zI ((E_6 58 ((180 * v2) + v3)))), (0, zR 50), (1, zI v1), (2, zI v2)]) dX12_take_66 rfl (by decide) z_14 rfl ?_
      refine Z.goto 2 dX12_take_69 rfl ?_
      refine Z.pick (ls' := [(0, zR 50), (1, zI v1), (2, zI v2), (3, zI ((v3 + 1)))]) [2, 3, 4, 0] rfl ?_
      exact K
    · replace K := K.2 c_11
      refine Z.iload (k := 0) dX12_take_55 rfl ?_
      refine Z.bipush (n := 20) dX12_take_57 ⟨by decide, by decide⟩ (by decide) ?_
      obtain ⟨z_15, K⟩ := K
      refine Z.isub dX12_take_59 z_15 ?_
      refine Z.goto 65 dX12_take_60 rfl ?_
      obtain ⟨z_16, K⟩ := K
      refine Y.iast dX12_take_65 (rfl) ((zM_46 hM).2.2) z_16 ?_
      generalize eE_17 : zuE E_6 97 ((180 + v3)) (((E_6 58 ((180 * v2) + v3)) - 20)) = E_17
      replace K := K E_17 eE_17.symm
      obtain ⟨z_18, K⟩ := K
      refine Z.iinc (k := 4) (ls' := [(3, zI ((v3 + 1))), (4, zI ((E_6 58 ((180 * v2) + v3)))), (0, zR 50), (1, zI v1), (2, zI v2)]) dX12_take_66 rfl (by decide) z_18 rfl ?_
      refine Z.goto 2 dX12_take_69 rfl ?_
      refine Z.pick (ls' := [(0, zR 50), (1, zI v1), (2, zI v2), (3, zI ((v3 + 1)))]) [2, 3, 4, 0] rfl ?_
      exact K
set_option maxRecDepth 20000 in
theorem X12_take_74 {kz : Nat × Nat} {Q : Option zV → zH → Prop} {d : List Nat} {G : Nat → Int → Option Nat} {E : Nat → Int → Int} {v3 : Int} (hM : zK zMt d G) (K : (40 ≤ v3 → Q none (d, G, E)) ∧ (¬ (40 ≤ v3) → ((0 : Int) ≤ v3 ∧ v3 < (40 : Int)) ∧ ∀ E_3, E_3 = zuE E 98 v3 ((-1)) → zin (v3 + 1) ∧ Z zm_X12_take kz Q 74 [(0, zR 50), (3, zI ((v3 + 1)))] [] (d, G, E_3))) : Z zm_X12_take kz Q 74 [(0, zR 50), (3, zI v3)] [] (d, G, E) := by
  refine Z.iload_n (k := 1) dX12_take_74 rfl ?_
  refine Z.bipush (n := 40) dX12_take_75 ⟨by decide, by decide⟩ (by decide) ?_
  refine Z.icmp_ge 93 dX12_take_77 rfl ⟨fun c_1 => ?_, fun c_1 => ?_⟩
  · replace K := K.1 c_1
    exact Z.vret dX12_take_93 rfl K
  · replace K := K.2 c_1
    refine Z.aload_n (k := 0) dX12_take_80 rfl ?_
    refine Y.getR (o := some 98) 47 dX12_take_81 zl_X12_111 (rfl) (by decide) rfl (zM_1 hM).2.1 (zM_47 hM).1 ?_
    refine Z.iload_n (k := 1) dX12_take_84 rfl ?_
    refine Z.iconst (n := -1) dX12_take_85 ⟨by decide, by decide⟩ ?_
    obtain ⟨z_2, K⟩ := K
    refine Y.iast dX12_take_86 (rfl) ((zM_47 hM).2.2) z_2 ?_
    generalize eE_3 : zuE E 98 v3 ((-1)) = E_3
    replace K := K E_3 eE_3.symm
    obtain ⟨z_4, K⟩ := K
    refine Z.iinc (k := 1) (ls' := [(3, zI ((v3 + 1))), (0, zR 50)]) dX12_take_87 rfl (by decide) z_4 rfl ?_
    refine Z.goto 74 dX12_take_90 rfl ?_
    refine Z.pick (ls' := [(0, zR 50), (3, zI ((v3 + 1)))]) [1, 0] rfl ?_
    exact K
set_option maxRecDepth 20000 in
theorem X12_standsAt_0 {kz : Nat × Nat} {Q : Option zV → zH → Prop} {d : List Nat} {G : Nat → Int → Option Nat} {E : Nat → Int → Int} {v1 : Int} (hM : zK zMt d G) (K : Z zm_X12_standsAt kz Q 2 [(0, zR 50), (2, zI v1)] [] (d, G, E)) : Z zm_X12_standsAt kz Q 0 [(0, zR 50), (1, zI v1)] [] (d, G, E) := by
  refine Z.iload_n (k := 1) dX12_standsAt_0 rfl ?_
  refine Z.istore_n (ls' := [(2, zI v1), (0, zR 50), (1, zI v1)]) dX12_standsAt_1 (by decide) rfl ?_
  refine Z.pick (ls' := [(0, zR 50), (2, zI v1)]) [1, 0] rfl ?_
  exact K
set_option maxRecDepth 20000 in
theorem X12_standsAt_2 {kz : Nat × Nat} {Q : Option zV → zH → Prop} {d : List Nat} {G : Nat → Int → Option Nat} {E : Nat → Int → Int} {v2 : Int} (hM : zK zMt d G) (K : ((0 : Int) ≤ v2 ∧ v2 < (360 : Int)) ∧ (0 ≤ (E 97 v2) → Q (some (zI v2)) (d, G, E)) ∧ (¬ (0 ≤ (E 97 v2)) → ((0 : Int) ≤ v2 ∧ v2 < (360 : Int)) ∧ zin ((-1) - (E 97 v2)) ∧ ((0 : Int) ≤ ((-1) - (E 97 v2)) ∧ ((-1) - (E 97 v2)) < (40 : Int)) ∧ ((E 98 ((-1) - (E 97 v2))) = (-1) → Q (some (zI v2)) (d, G, E)) ∧ (¬ ((E 98 ((-1) - (E 97 v2))) = (-1)) → ((0 : Int) ≤ v2 ∧ v2 < (360 : Int)) ∧ zin ((-1) - (E 97 v2)) ∧ ((0 : Int) ≤ ((-1) - (E 97 v2)) ∧ ((-1) - (E 97 v2)) < (40 : Int)) ∧ Z zm_X12_standsAt kz Q 2 [(0, zR 50), (2, zI ((E 98 ((-1) - (E 97 v2)))))] [] (d, G, E)))) : Z zm_X12_standsAt kz Q 2 [(0, zR 50), (2, zI v2)] [] (d, G, E) := by
  refine Z.aload_n (k := 0) dX12_standsAt_2 rfl ?_
  refine Y.getR (o := some 97) 46 dX12_standsAt_3 zl_X12_108 (rfl) (by decide) rfl (zM_1 hM).2.1 (zM_46 hM).1 ?_
  refine Z.iload_n (k := 1) dX12_standsAt_6 rfl ?_
  obtain ⟨z_1, K⟩ := K
  refine Y.iald dX12_standsAt_7 (rfl) ((zM_46 hM).2.2) z_1 ?_
  refine Z.if_ge 45 dX12_standsAt_8 rfl ⟨fun c_2 => ?_, fun c_2 => ?_⟩
  · replace K := K.1 c_2
    refine Z.iload_n (k := 1) dX12_standsAt_45 rfl ?_
    exact Z.iret (ty := .int) dX12_standsAt_46 rfl rfl K
  · replace K := K.2 c_2
    refine Z.aload_n (k := 0) dX12_standsAt_11 rfl ?_
    refine Y.getR (o := some 98) 47 dX12_standsAt_12 zl_X12_111 (rfl) (by decide) rfl (zM_1 hM).2.1 (zM_47 hM).1 ?_
    refine Z.iconst (n := -1) dX12_standsAt_15 ⟨by decide, by decide⟩ ?_
    refine Z.aload_n (k := 0) dX12_standsAt_16 rfl ?_
    refine Y.getR (o := some 97) 46 dX12_standsAt_17 zl_X12_108 (rfl) (by decide) rfl (zM_1 hM).2.1 (zM_46 hM).1 ?_
    refine Z.iload_n (k := 1) dX12_standsAt_20 rfl ?_
    obtain ⟨z_3, K⟩ := K
    refine Y.iald dX12_standsAt_21 (rfl) ((zM_46 hM).2.2) z_3 ?_
    obtain ⟨z_4, K⟩ := K
    refine Z.isub dX12_standsAt_22 z_4 ?_
    obtain ⟨z_5, K⟩ := K
    refine Y.iald dX12_standsAt_23 (rfl) ((zM_47 hM).2.2) z_5 ?_
    refine Z.iconst (n := -1) dX12_standsAt_24 ⟨by decide, by decide⟩ ?_
    refine Z.icmp_eq 45 dX12_standsAt_25 rfl ⟨fun c_6 => ?_, fun c_6 => ?_⟩
    · replace K := K.1 c_6
      refine Z.iload_n (k := 1) dX12_standsAt_45 rfl ?_
      exact Z.iret (ty := .int) dX12_standsAt_46 rfl rfl K
    · replace K := K.2 c_6
      refine Z.aload_n (k := 0) dX12_standsAt_28 rfl ?_
      refine Y.getR (o := some 98) 47 dX12_standsAt_29 zl_X12_111 (rfl) (by decide) rfl (zM_1 hM).2.1 (zM_47 hM).1 ?_
      refine Z.iconst (n := -1) dX12_standsAt_32 ⟨by decide, by decide⟩ ?_
      refine Z.aload_n (k := 0) dX12_standsAt_33 rfl ?_
      refine Y.getR (o := some 97) 46 dX12_standsAt_34 zl_X12_108 (rfl) (by decide) rfl (zM_1 hM).2.1 (zM_46 hM).1 ?_
      refine Z.iload_n (k := 1) dX12_standsAt_37 rfl ?_
      obtain ⟨z_7, K⟩ := K
      refine Y.iald dX12_standsAt_38 (rfl) ((zM_46 hM).2.2) z_7 ?_
      obtain ⟨z_8, K⟩ := K
      refine Z.isub dX12_standsAt_39 z_8 ?_
      obtain ⟨z_9, K⟩ := K
      refine Y.iald dX12_standsAt_40 (rfl) ((zM_47 hM).2.2) z_9 ?_
      refine Z.istore_n (ls' := [(2, zI ((E 98 ((-1) - (E 97 v2))))), (0, zR 50)]) dX12_standsAt_41 (by decide) rfl ?_
      refine Z.goto 2 dX12_standsAt_42 rfl ?_
      refine Z.pick (ls' := [(0, zR 50), (2, zI ((E 98 ((-1) - (E 97 v2)))))]) [1, 0] rfl ?_
      exact K
set_option maxRecDepth 20000 in
theorem X12_occurs_0 {kz : Nat × Nat} {Q : Option zV → zH → Prop} {d : List Nat} {G : Nat → Int → Option Nat} {E : Nat → Int → Int} {v1 : Int} {v2 : Int} (hM : zK zMt d G) (K : ((0 : Int) ≤ 2000 ∧ 2000 < (4000 : Int)) ∧ ∀ E_2, E_2 = zuE E 99 2000 v2 → ((0 : Int) ≤ 2000 ∧ 2000 < (4000 : Int)) ∧ ∀ E_4, E_4 = zuE E_2 101 2000 1 → Z zm_X12_occurs kz Q 20 [(0, zR 50), (1, zI v1), (3, zI 1)] [] (d, G, E_4)) : Z zm_X12_occurs kz Q 0 [(0, zR 50), (1, zI v1), (2, zI v2)] [] (d, G, E) := by
  refine Z.iconst (n := 1) dX12_occurs_0 ⟨by decide, by decide⟩ ?_
  refine Z.istore_n (ls' := [(3, zI 1), (0, zR 50), (1, zI v1), (2, zI v2)]) dX12_occurs_1 (by decide) rfl ?_
  refine Z.aload_n (k := 1) dX12_occurs_2 rfl ?_
  refine Y.getR (o := some 99) 48 dX12_occurs_3 zl_X12_114 (rfl) (by decide) rfl (zM_1 hM).2.1 (zM_48 hM).1 ?_
  refine Z.sipush (n := 2000) dX12_occurs_6 ⟨by decide, by decide⟩ (by decide) ?_
  refine Z.iload_n (k := 3) dX12_occurs_9 rfl ?_
  obtain ⟨z_1, K⟩ := K
  refine Y.iast dX12_occurs_10 (rfl) ((zM_48 hM).2.2) z_1 ?_
  generalize eE_2 : zuE E 99 2000 v2 = E_2
  replace K := K E_2 eE_2.symm
  refine Z.aload_n (k := 1) dX12_occurs_11 rfl ?_
  refine Y.getR (o := some 101) 50 dX12_occurs_12 zl_X12_120 (rfl) (by decide) rfl (zM_1 hM).2.1 (zM_50 hM).1 ?_
  refine Z.sipush (n := 2000) dX12_occurs_15 ⟨by decide, by decide⟩ (by decide) ?_
  refine Z.iconst (n := 1) dX12_occurs_18 ⟨by decide, by decide⟩ ?_
  obtain ⟨z_3, K⟩ := K
  refine Y.iast dX12_occurs_19 (rfl) ((zM_50 hM).2.2) z_3 ?_
  generalize eE_4 : zuE E_2 101 2000 1 = E_4
  replace K := K E_4 eE_4.symm
  refine Z.pick (ls' := [(0, zR 50), (1, zI v1), (3, zI 1)]) [1, 2, 0] rfl ?_
  exact K
set_option maxRecDepth 20000 in
theorem X12_occurs_20 {kz : Nat × Nat} {Q : Option zV → zH → Prop} {d : List Nat} {G : Nat → Int → Option Nat} {E : Nat → Int → Int} {v1 : Int} {v3 : Int} (hM : zK zMt d G) (K : (v3 ≤ 0 → Q (some (zI 0)) (d, G, E)) ∧ (¬ (v3 ≤ 0) → zin (1999 + v3) ∧ ((0 : Int) ≤ (1999 + v3) ∧ (1999 + v3) < (4000 : Int)) ∧ ((E 101 (1999 + v3)) ≠ 0 → ((0 : Int) ≤ (1999 + v3) ∧ (1999 + v3) < (4000 : Int)) ∧ ∃ x_6, zM zm_X12_standsAt [zR 50, zI ((E 99 (1999 + v3)))] (d, G, E) (some (zI x_6)) (d, G, E) ∧ ((0 : Int) ≤ (1999 + v3) ∧ (1999 + v3) < (4000 : Int)) ∧ ∃ x_10, zM zm_X12_endOf [zR 50, zR 97, zI ((E 99 (1999 + v3)))] (d, G, E) (some (zI x_10)) (d, G, E) ∧ ((0 : Int) ≤ (1999 + v3) ∧ (1999 + v3) < (4000 : Int)) ∧ ∀ E_14, E_14 = zuE E 99 ((1999 + v3)) x_10 → ((0 : Int) ≤ (1999 + v3) ∧ (1999 + v3) < (4000 : Int)) ∧ zin ((E_14 101 (1999 + v3)) - 1) ∧ ((0 : Int) ≤ (1999 + v3) ∧ (1999 + v3) < (4000 : Int)) ∧ ∀ E_18, E_18 = zuE E_14 101 ((1999 + v3)) (((E_14 101 (1999 + v3)) - 1)) → ((0 : Int) ≤ x_6 ∧ x_6 < (360 : Int)) ∧ ((E_18 97 x_6) ≠ v1 → ((0 : Int) ≤ x_6 ∧ x_6 < (360 : Int)) ∧ ((E_18 97 x_6) < 0 → Z zm_X12_occurs kz Q 20 [(0, zR 50), (1, zI v1), (3, zI v3)] [] (d, G, E_18)) ∧ (¬ ((E_18 97 x_6) < 0) → ((0 : Int) ≤ x_6 ∧ x_6 < (360 : Int)) ∧ ((0 : Int) ≤ (E_18 97 x_6) ∧ (E_18 97 x_6) < (16 : Int)) ∧ ((E_18 53 (E_18 97 x_6)) ≤ 0 → Z zm_X12_occurs kz Q 20 [(0, zR 50), (1, zI v1), (3, zI v3)] [] (d, G, E_18)) ∧ (¬ ((E_18 53 (E_18 97 x_6)) ≤ 0) → zin (2000 + v3) ∧ zin (x_6 + 1) ∧ ((0 : Int) ≤ (2000 + v3) ∧ (2000 + v3) < (4000 : Int)) ∧ ∀ E_29, E_29 = zuE E_18 99 ((2000 + v3)) ((x_6 + 1)) → zin (2000 + v3) ∧ ((0 : Int) ≤ x_6 ∧ x_6 < (360 : Int)) ∧ ((0 : Int) ≤ (E_29 97 x_6) ∧ (E_29 97 x_6) < (16 : Int)) ∧ ((0 : Int) ≤ (2000 + v3) ∧ (2000 + v3) < (4000 : Int)) ∧ ∀ E_34, E_34 = zuE E_29 101 ((2000 + v3)) ((E_29 53 (E_29 97 x_6))) → zin (v3 + 1) ∧ Z zm_X12_occurs kz Q 20 [(0, zR 50), (1, zI v1), (3, zI ((v3 + 1)))] [] (d, G, E_34)))) ∧ (¬ ((E_18 97 x_6) ≠ v1) → Q (some (zI 1)) (d, G, E_18))) ∧ (¬ ((E 101 (1999 + v3)) ≠ 0) → zin (v3 + (-1)) ∧ Z zm_X12_occurs kz Q 20 [(0, zR 50), (1, zI v1), (3, zI ((v3 + (-1))))] [] (d, G, E)))) : Z zm_X12_occurs kz Q 20 [(0, zR 50), (1, zI v1), (3, zI v3)] [] (d, G, E) := by
  refine Z.iload_n (k := 2) dX12_occurs_20 rfl ?_
  refine Z.if_le 173 dX12_occurs_21 rfl ⟨fun c_1 => ?_, fun c_1 => ?_⟩
  · replace K := K.1 c_1
    refine Z.iconst (n := 0) dX12_occurs_173 ⟨by decide, by decide⟩ ?_
    exact Z.iret (ty := .boolean) dX12_occurs_174 rfl rfl K
  · replace K := K.2 c_1
    refine Z.sipush (n := 1999) dX12_occurs_24 ⟨by decide, by decide⟩ (by decide) ?_
    refine Z.iload_n (k := 2) dX12_occurs_27 rfl ?_
    obtain ⟨z_2, K⟩ := K
    refine Z.iadd dX12_occurs_28 z_2 ?_
    refine Z.istore (ls' := [(4, zI ((1999 + v3))), (0, zR 50), (1, zI v1), (3, zI v3)]) dX12_occurs_29 (by decide) rfl ?_
    refine Z.aload_n (k := 1) dX12_occurs_31 rfl ?_
    refine Y.getR (o := some 101) 50 dX12_occurs_32 zl_X12_120 (rfl) (by decide) rfl (zM_1 hM).2.1 (zM_50 hM).1 ?_
    refine Z.iload (k := 0) dX12_occurs_35 rfl ?_
    obtain ⟨z_3, K⟩ := K
    refine Y.iald dX12_occurs_37 (rfl) ((zM_50 hM).2.2) z_3 ?_
    refine Z.if_ne 47 dX12_occurs_38 rfl ⟨fun c_4 => ?_, fun c_4 => ?_⟩
    · replace K := K.1 c_4
      refine Z.aload_n (k := 1) dX12_occurs_47 rfl ?_
      refine Z.aload_n (k := 1) dX12_occurs_48 rfl ?_
      refine Y.getR (o := some 99) 48 dX12_occurs_49 zl_X12_114 (rfl) (by decide) rfl (zM_1 hM).2.1 (zM_48 hM).1 ?_
      refine Z.iload (k := 0) dX12_occurs_52 rfl ?_
      obtain ⟨z_5, K⟩ := K
      refine Y.iald dX12_occurs_54 (rfl) ((zM_48 hM).2.2) z_5 ?_
      obtain ⟨x_6, m_7, K⟩ := K
      refine Y.callV (g := zm_X12_standsAt) (vs := [zI ((E 99 (1999 + v3)))]) (st := []) dX12_occurs_55 ⟨zg_X12_standsAt.1, zg_X12_standsAt.2.1, zg_X12_standsAt.2.2, by decide⟩ ⟨zk_X12_249, zv_X12_standsAt⟩ (ci := 12) (rfl) rfl ((zM_1 hM).2.1) rfl rfl (Nat.le_of_ble_eq_true rfl) m_7 (Or.inl rfl) ?_
      show Z zm_X12_occurs kz Q 58 [(4, zI ((1999 + v3))), (0, zR 50), (1, zI v1), (3, zI v3)] [zI x_6] (d, G, E)
      refine Z.istore (ls' := [(5, zI x_6), (4, zI ((1999 + v3))), (0, zR 50), (1, zI v1), (3, zI v3)]) dX12_occurs_58 (by decide) rfl ?_
      refine Z.aload_n (k := 2) dX12_occurs_60 rfl ?_
      refine Y.getR (o := some 99) 48 dX12_occurs_61 zl_X12_114 (rfl) (by decide) rfl (zM_1 hM).2.1 (zM_48 hM).1 ?_
      refine Z.iload (k := 1) dX12_occurs_64 rfl ?_
      refine Z.aload_n (k := 2) dX12_occurs_66 rfl ?_
      refine Z.aload_n (k := 2) dX12_occurs_67 rfl ?_
      refine Y.getR (o := some 97) 46 dX12_occurs_68 zl_X12_108 (rfl) (by decide) rfl (zM_1 hM).2.1 (zM_46 hM).1 ?_
      refine Z.aload_n (k := 2) dX12_occurs_71 rfl ?_
      refine Y.getR (o := some 99) 48 dX12_occurs_72 zl_X12_114 (rfl) (by decide) rfl (zM_1 hM).2.1 (zM_48 hM).1 ?_
      refine Z.iload (k := 1) dX12_occurs_75 rfl ?_
      obtain ⟨z_9, K⟩ := K
      refine Y.iald dX12_occurs_77 (rfl) ((zM_48 hM).2.2) z_9 ?_
      obtain ⟨x_10, m_11, K⟩ := K
      refine Y.callV (g := zm_X12_endOf) (vs := [zR 97, zI ((E 99 (1999 + v3)))]) (st := [zI ((1999 + v3)), zR 99]) dX12_occurs_78 ⟨zg_X12_endOf.1, zg_X12_endOf.2.1, zg_X12_endOf.2.2, by decide⟩ ⟨zk_X12_148, zv_X12_endOf⟩ (ci := 12) (rfl) rfl ((zM_1 hM).2.1) rfl rfl (Nat.le_of_ble_eq_true rfl) m_11 (Or.inl rfl) ?_
      show Z zm_X12_occurs kz Q 81 [(5, zI x_6), (4, zI ((1999 + v3))), (0, zR 50), (1, zI v1), (3, zI v3)] [zI x_10, zI ((1999 + v3)), zR 99] (d, G, E)
      obtain ⟨z_13, K⟩ := K
      refine Y.iast dX12_occurs_81 (rfl) ((zM_48 hM).2.2) z_13 ?_
      generalize eE_14 : zuE E 99 ((1999 + v3)) x_10 = E_14
      replace K := K E_14 eE_14.symm
      refine Z.aload_n (k := 2) dX12_occurs_82 rfl ?_
      refine Y.getR (o := some 101) 50 dX12_occurs_83 zl_X12_120 (rfl) (by decide) rfl (zM_1 hM).2.1 (zM_50 hM).1 ?_
      refine Z.iload (k := 1) dX12_occurs_86 rfl ?_
      refine Z.dup2_i dX12_occurs_88 (fun _ => rfl) (fun _ => rfl) ?_
      obtain ⟨z_15, K⟩ := K
      refine Y.iald dX12_occurs_89 (rfl) ((zM_50 hM).2.2) z_15 ?_
      refine Z.iconst (n := 1) dX12_occurs_90 ⟨by decide, by decide⟩ ?_
      obtain ⟨z_16, K⟩ := K
      refine Z.isub dX12_occurs_91 z_16 ?_
      obtain ⟨z_17, K⟩ := K
      refine Y.iast dX12_occurs_92 (rfl) ((zM_50 hM).2.2) z_17 ?_
      generalize eE_18 : zuE E_14 101 ((1999 + v3)) (((E_14 101 (1999 + v3)) - 1)) = E_18
      replace K := K E_18 eE_18.symm
      refine Z.aload_n (k := 2) dX12_occurs_93 rfl ?_
      refine Y.getR (o := some 97) 46 dX12_occurs_94 zl_X12_108 (rfl) (by decide) rfl (zM_1 hM).2.1 (zM_46 hM).1 ?_
      refine Z.iload (k := 0) dX12_occurs_97 rfl ?_
      obtain ⟨z_19, K⟩ := K
      refine Y.iald dX12_occurs_99 (rfl) ((zM_46 hM).2.2) z_19 ?_
      refine Z.iload_n (k := 3) dX12_occurs_100 rfl ?_
      refine Z.icmp_ne 106 dX12_occurs_101 rfl ⟨fun c_20 => ?_, fun c_20 => ?_⟩
      · replace K := K.1 c_20
        refine Z.aload_n (k := 2) dX12_occurs_106 rfl ?_
        refine Y.getR (o := some 97) 46 dX12_occurs_107 zl_X12_108 (rfl) (by decide) rfl (zM_1 hM).2.1 (zM_46 hM).1 ?_
        refine Z.iload (k := 0) dX12_occurs_110 rfl ?_
        obtain ⟨z_21, K⟩ := K
        refine Y.iald dX12_occurs_112 (rfl) ((zM_46 hM).2.2) z_21 ?_
        refine Z.if_lt 170 dX12_occurs_113 rfl ⟨fun c_22 => ?_, fun c_22 => ?_⟩
        · replace K := K.1 c_22
          refine Z.goto 20 dX12_occurs_170 rfl ?_
          refine Z.pick (ls' := [(0, zR 50), (1, zI v1), (3, zI v3)]) [2, 3, 4] rfl ?_
          exact K
        · replace K := K.2 c_22
          refine Z.aload_n (k := 2) dX12_occurs_116 rfl ?_
          refine Y.getR (o := some 53) 2 dX12_occurs_117 zl_X12_17 (rfl) (by decide) rfl (zM_1 hM).2.1 (zM_2 hM).1 ?_
          refine Z.aload_n (k := 2) dX12_occurs_120 rfl ?_
          refine Y.getR (o := some 97) 46 dX12_occurs_121 zl_X12_108 (rfl) (by decide) rfl (zM_1 hM).2.1 (zM_46 hM).1 ?_
          refine Z.iload (k := 0) dX12_occurs_124 rfl ?_
          obtain ⟨z_23, K⟩ := K
          refine Y.iald dX12_occurs_126 (rfl) ((zM_46 hM).2.2) z_23 ?_
          obtain ⟨z_24, K⟩ := K
          refine Y.iald dX12_occurs_127 (rfl) ((zM_2 hM).2.2) z_24 ?_
          refine Z.if_le 170 dX12_occurs_128 rfl ⟨fun c_25 => ?_, fun c_25 => ?_⟩
          · replace K := K.1 c_25
            refine Z.goto 20 dX12_occurs_170 rfl ?_
            refine Z.pick (ls' := [(0, zR 50), (1, zI v1), (3, zI v3)]) [2, 3, 4] rfl ?_
            exact K
          · replace K := K.2 c_25
            refine Z.aload_n (k := 2) dX12_occurs_131 rfl ?_
            refine Y.getR (o := some 99) 48 dX12_occurs_132 zl_X12_114 (rfl) (by decide) rfl (zM_1 hM).2.1 (zM_48 hM).1 ?_
            refine Z.sipush (n := 2000) dX12_occurs_135 ⟨by decide, by decide⟩ (by decide) ?_
            refine Z.iload_n (k := 4) dX12_occurs_138 rfl ?_
            obtain ⟨z_26, K⟩ := K
            refine Z.iadd dX12_occurs_139 z_26 ?_
            refine Z.iload (k := 0) dX12_occurs_140 rfl ?_
            refine Z.iconst (n := 1) dX12_occurs_142 ⟨by decide, by decide⟩ ?_
            obtain ⟨z_27, K⟩ := K
            refine Z.iadd dX12_occurs_143 z_27 ?_
            obtain ⟨z_28, K⟩ := K
            refine Y.iast dX12_occurs_144 (rfl) ((zM_48 hM).2.2) z_28 ?_
            generalize eE_29 : zuE E_18 99 ((2000 + v3)) ((x_6 + 1)) = E_29
            replace K := K E_29 eE_29.symm
            refine Z.aload_n (k := 2) dX12_occurs_145 rfl ?_
            refine Y.getR (o := some 101) 50 dX12_occurs_146 zl_X12_120 (rfl) (by decide) rfl (zM_1 hM).2.1 (zM_50 hM).1 ?_
            refine Z.sipush (n := 2000) dX12_occurs_149 ⟨by decide, by decide⟩ (by decide) ?_
            refine Z.iload_n (k := 4) dX12_occurs_152 rfl ?_
            obtain ⟨z_30, K⟩ := K
            refine Z.iadd dX12_occurs_153 z_30 ?_
            refine Z.aload_n (k := 2) dX12_occurs_154 rfl ?_
            refine Y.getR (o := some 53) 2 dX12_occurs_155 zl_X12_17 (rfl) (by decide) rfl (zM_1 hM).2.1 (zM_2 hM).1 ?_
            refine Z.aload_n (k := 2) dX12_occurs_158 rfl ?_
            refine Y.getR (o := some 97) 46 dX12_occurs_159 zl_X12_108 (rfl) (by decide) rfl (zM_1 hM).2.1 (zM_46 hM).1 ?_
            refine Z.iload (k := 0) dX12_occurs_162 rfl ?_
            obtain ⟨z_31, K⟩ := K
            refine Y.iald dX12_occurs_164 (rfl) ((zM_46 hM).2.2) z_31 ?_
            obtain ⟨z_32, K⟩ := K
            refine Y.iald dX12_occurs_165 (rfl) ((zM_2 hM).2.2) z_32 ?_
            obtain ⟨z_33, K⟩ := K
            refine Y.iast dX12_occurs_166 (rfl) ((zM_50 hM).2.2) z_33 ?_
            generalize eE_34 : zuE E_29 101 ((2000 + v3)) ((E_29 53 (E_29 97 x_6))) = E_34
            replace K := K E_34 eE_34.symm
            obtain ⟨z_35, K⟩ := K
            refine Z.iinc (k := 4) (ls' := [(3, zI ((v3 + 1))), (5, zI x_6), (4, zI ((1999 + v3))), (0, zR 50), (1, zI v1)]) dX12_occurs_167 rfl (by decide) z_35 rfl ?_
            refine Z.goto 20 dX12_occurs_170 rfl ?_
            refine Z.pick (ls' := [(0, zR 50), (1, zI v1), (3, zI ((v3 + 1)))]) [3, 4, 0] rfl ?_
            exact K
      · replace K := K.2 c_20
        refine Z.iconst (n := 1) dX12_occurs_104 ⟨by decide, by decide⟩ ?_
        exact Z.iret (ty := .boolean) dX12_occurs_105 rfl rfl K
    · replace K := K.2 c_4
      obtain ⟨z_36, K⟩ := K
      refine Z.iinc (k := 3) (ls' := [(3, zI ((v3 + (-1)))), (4, zI ((1999 + v3))), (0, zR 50), (1, zI v1)]) dX12_occurs_41 rfl (by decide) z_36 rfl ?_
      refine Z.goto 170 dX12_occurs_44 rfl ?_
      refine Z.goto 20 dX12_occurs_170 rfl ?_
      refine Z.pick (ls' := [(0, zR 50), (1, zI v1), (3, zI ((v3 + (-1))))]) [2, 3, 0] rfl ?_
      exact K
set_option maxRecDepth 20000 in
theorem X12_binds_0 {kz : Nat × Nat} {Q : Option zV → zH → Prop} {d : List Nat} {G : Nat → Int → Option Nat} {E : Nat → Int → Int} {v1 : Int} {v2 : Int} (hM : zK zMt d G) (K : ((0 : Int) ≤ v1 ∧ v1 < (360 : Int)) ∧ (0 ≤ (E 97 v1) → ((0 : Int) ≤ v1 ∧ v1 < (360 : Int)) ∧ (0 ≤ (E 97 v1) → ((0 : Int) ≤ v2 ∧ v2 < (360 : Int)) ∧ ∃ x_6 E_7, zM zm_X12_occurs [zR 50, zI ((E 97 v2)), zI v1] (d, G, E) (some (zI x_6)) (d, G, E_7) ∧ (x_6 = 0 → ((0 : Int) ≤ v2 ∧ v2 < (360 : Int)) ∧ zin ((-1) - (E_7 97 v2)) ∧ ((0 : Int) ≤ ((-1) - (E_7 97 v2)) ∧ ((-1) - (E_7 97 v2)) < (40 : Int)) ∧ ∀ E_14, E_14 = zuE E_7 98 (((-1) - (E_7 97 v2))) v1 → Q (some (zI 1)) (d, G, E_14)) ∧ (¬ (x_6 = 0) → Q (some (zI 0)) (d, G, E_7))) ∧ (¬ (0 ≤ (E 97 v1)) → ((0 : Int) ≤ v2 ∧ v2 < (360 : Int)) ∧ ∃ x_16 E_17, zM zm_X12_occurs [zR 50, zI ((E 97 v2)), zI v2] (d, G, E) (some (zI x_16)) (d, G, E_17) ∧ (x_16 = 0 → ((0 : Int) ≤ v2 ∧ v2 < (360 : Int)) ∧ zin ((-1) - (E_17 97 v2)) ∧ ((0 : Int) ≤ ((-1) - (E_17 97 v2)) ∧ ((-1) - (E_17 97 v2)) < (40 : Int)) ∧ ∀ E_24, E_24 = zuE E_17 98 (((-1) - (E_17 97 v2))) v2 → Q (some (zI 1)) (d, G, E_24)) ∧ (¬ (x_16 = 0) → Q (some (zI 0)) (d, G, E_17)))) ∧ (¬ (0 ≤ (E 97 v1)) → ((0 : Int) ≤ v1 ∧ v1 < (360 : Int)) ∧ (0 ≤ (E 97 v1) → ((0 : Int) ≤ v1 ∧ v1 < (360 : Int)) ∧ ∃ x_28 E_29, zM zm_X12_occurs [zR 50, zI ((E 97 v1)), zI v1] (d, G, E) (some (zI x_28)) (d, G, E_29) ∧ (x_28 = 0 → ((0 : Int) ≤ v1 ∧ v1 < (360 : Int)) ∧ zin ((-1) - (E_29 97 v1)) ∧ ((0 : Int) ≤ ((-1) - (E_29 97 v1)) ∧ ((-1) - (E_29 97 v1)) < (40 : Int)) ∧ ∀ E_36, E_36 = zuE E_29 98 (((-1) - (E_29 97 v1))) v1 → Q (some (zI 1)) (d, G, E_36)) ∧ (¬ (x_28 = 0) → Q (some (zI 0)) (d, G, E_29))) ∧ (¬ (0 ≤ (E 97 v1)) → ((0 : Int) ≤ v1 ∧ v1 < (360 : Int)) ∧ ∃ x_38 E_39, zM zm_X12_occurs [zR 50, zI ((E 97 v1)), zI v2] (d, G, E) (some (zI x_38)) (d, G, E_39) ∧ (x_38 = 0 → ((0 : Int) ≤ v1 ∧ v1 < (360 : Int)) ∧ zin ((-1) - (E_39 97 v1)) ∧ ((0 : Int) ≤ ((-1) - (E_39 97 v1)) ∧ ((-1) - (E_39 97 v1)) < (40 : Int)) ∧ ∀ E_46, E_46 = zuE E_39 98 (((-1) - (E_39 97 v1))) v2 → Q (some (zI 1)) (d, G, E_46)) ∧ (¬ (x_38 = 0) → Q (some (zI 0)) (d, G, E_39))))) : Z zm_X12_binds kz Q 0 [(0, zR 50), (1, zI v1), (2, zI v2)] [] (d, G, E) := by
  refine Z.aload_n (k := 0) dX12_binds_0 rfl ?_
  refine Y.getR (o := some 97) 46 dX12_binds_1 zl_X12_108 (rfl) (by decide) rfl (zM_1 hM).2.1 (zM_46 hM).1 ?_
  refine Z.iload_n (k := 1) dX12_binds_4 rfl ?_
  obtain ⟨z_1, K⟩ := K
  refine Y.iald dX12_binds_5 (rfl) ((zM_46 hM).2.2) z_1 ?_
  refine Z.if_ge 13 dX12_binds_6 rfl ⟨fun c_2 => ?_, fun c_2 => ?_⟩
  · replace K := K.1 c_2
    refine Z.iload_n (k := 2) dX12_binds_13 rfl ?_
    refine Z.istore_n (ls' := [(3, zI v2), (0, zR 50), (1, zI v1), (2, zI v2)]) dX12_binds_14 (by decide) rfl ?_
    refine Z.aload_n (k := 1) dX12_binds_15 rfl ?_
    refine Y.getR (o := some 97) 46 dX12_binds_16 zl_X12_108 (rfl) (by decide) rfl (zM_1 hM).2.1 (zM_46 hM).1 ?_
    refine Z.iload_n (k := 2) dX12_binds_19 rfl ?_
    obtain ⟨z_3, K⟩ := K
    refine Y.iald dX12_binds_20 (rfl) ((zM_46 hM).2.2) z_3 ?_
    refine Z.if_ge 28 dX12_binds_21 rfl ⟨fun c_4 => ?_, fun c_4 => ?_⟩
    · replace K := K.1 c_4
      refine Z.iload_n (k := 2) dX12_binds_28 rfl ?_
      refine Z.istore (ls' := [(4, zI v1), (3, zI v2), (0, zR 50), (1, zI v1), (2, zI v2)]) dX12_binds_29 (by decide) rfl ?_
      refine Z.aload_n (k := 2) dX12_binds_31 rfl ?_
      refine Z.aload_n (k := 2) dX12_binds_32 rfl ?_
      refine Y.getR (o := some 97) 46 dX12_binds_33 zl_X12_108 (rfl) (by decide) rfl (zM_1 hM).2.1 (zM_46 hM).1 ?_
      refine Z.iload_n (k := 1) dX12_binds_36 rfl ?_
      obtain ⟨z_5, K⟩ := K
      refine Y.iald dX12_binds_37 (rfl) ((zM_46 hM).2.2) z_5 ?_
      refine Z.iload (k := 0) dX12_binds_38 rfl ?_
      obtain ⟨x_6, E_7, m_8, K⟩ := K
      refine Y.callV (g := zm_X12_occurs) (vs := [zI ((E 97 v2)), zI v1]) (st := []) dX12_binds_40 ⟨zg_X12_occurs.1, zg_X12_occurs.2.1, zg_X12_occurs.2.2, by decide⟩ ⟨zk_X12_256, zv_X12_occurs⟩ (ci := 12) (rfl) rfl ((zM_1 hM).2.1) rfl rfl (Nat.le_of_ble_eq_true rfl) m_8 (Or.inl rfl) ?_
      show Z zm_X12_binds kz Q 43 [(4, zI v1), (3, zI v2), (0, zR 50), (1, zI v1), (2, zI v2)] [zI x_6] (d, G, E_7)
      refine Z.if_eq 48 dX12_binds_43 rfl ⟨fun c_10 => ?_, fun c_10 => ?_⟩
      · replace K := K.1 c_10
        refine Z.aload_n (k := 2) dX12_binds_48 rfl ?_
        refine Y.getR (o := some 98) 47 dX12_binds_49 zl_X12_111 (rfl) (by decide) rfl (zM_1 hM).2.1 (zM_47 hM).1 ?_
        refine Z.iconst (n := -1) dX12_binds_52 ⟨by decide, by decide⟩ ?_
        refine Z.aload_n (k := 2) dX12_binds_53 rfl ?_
        refine Y.getR (o := some 97) 46 dX12_binds_54 zl_X12_108 (rfl) (by decide) rfl (zM_1 hM).2.1 (zM_46 hM).1 ?_
        refine Z.iload_n (k := 1) dX12_binds_57 rfl ?_
        obtain ⟨z_11, K⟩ := K
        refine Y.iald dX12_binds_58 (rfl) ((zM_46 hM).2.2) z_11 ?_
        obtain ⟨z_12, K⟩ := K
        refine Z.isub dX12_binds_59 z_12 ?_
        refine Z.iload (k := 0) dX12_binds_60 rfl ?_
        obtain ⟨z_13, K⟩ := K
        refine Y.iast dX12_binds_62 (rfl) ((zM_47 hM).2.2) z_13 ?_
        generalize eE_14 : zuE E_7 98 (((-1) - (E_7 97 v2))) v1 = E_14
        replace K := K E_14 eE_14.symm
        refine Z.iconst (n := 1) dX12_binds_63 ⟨by decide, by decide⟩ ?_
        exact Z.iret (ty := .boolean) dX12_binds_64 rfl rfl K
      · replace K := K.2 c_10
        refine Z.iconst (n := 0) dX12_binds_46 ⟨by decide, by decide⟩ ?_
        exact Z.iret (ty := .boolean) dX12_binds_47 rfl rfl K
    · replace K := K.2 c_4
      refine Z.iload_n (k := 3) dX12_binds_24 rfl ?_
      refine Z.goto 29 dX12_binds_25 rfl ?_
      refine Z.istore (ls' := [(4, zI v2), (3, zI v2), (0, zR 50), (1, zI v1), (2, zI v2)]) dX12_binds_29 (by decide) rfl ?_
      refine Z.aload_n (k := 2) dX12_binds_31 rfl ?_
      refine Z.aload_n (k := 2) dX12_binds_32 rfl ?_
      refine Y.getR (o := some 97) 46 dX12_binds_33 zl_X12_108 (rfl) (by decide) rfl (zM_1 hM).2.1 (zM_46 hM).1 ?_
      refine Z.iload_n (k := 1) dX12_binds_36 rfl ?_
      obtain ⟨z_15, K⟩ := K
      refine Y.iald dX12_binds_37 (rfl) ((zM_46 hM).2.2) z_15 ?_
      refine Z.iload (k := 0) dX12_binds_38 rfl ?_
      obtain ⟨x_16, E_17, m_18, K⟩ := K
      refine Y.callV (g := zm_X12_occurs) (vs := [zI ((E 97 v2)), zI v2]) (st := []) dX12_binds_40 ⟨zg_X12_occurs.1, zg_X12_occurs.2.1, zg_X12_occurs.2.2, by decide⟩ ⟨zk_X12_256, zv_X12_occurs⟩ (ci := 12) (rfl) rfl ((zM_1 hM).2.1) rfl rfl (Nat.le_of_ble_eq_true rfl) m_18 (Or.inl rfl) ?_
      show Z zm_X12_binds kz Q 43 [(4, zI v2), (3, zI v2), (0, zR 50), (1, zI v1), (2, zI v2)] [zI x_16] (d, G, E_17)
      refine Z.if_eq 48 dX12_binds_43 rfl ⟨fun c_20 => ?_, fun c_20 => ?_⟩
      · replace K := K.1 c_20
        refine Z.aload_n (k := 2) dX12_binds_48 rfl ?_
        refine Y.getR (o := some 98) 47 dX12_binds_49 zl_X12_111 (rfl) (by decide) rfl (zM_1 hM).2.1 (zM_47 hM).1 ?_
        refine Z.iconst (n := -1) dX12_binds_52 ⟨by decide, by decide⟩ ?_
        refine Z.aload_n (k := 2) dX12_binds_53 rfl ?_
        refine Y.getR (o := some 97) 46 dX12_binds_54 zl_X12_108 (rfl) (by decide) rfl (zM_1 hM).2.1 (zM_46 hM).1 ?_
        refine Z.iload_n (k := 1) dX12_binds_57 rfl ?_
        obtain ⟨z_21, K⟩ := K
        refine Y.iald dX12_binds_58 (rfl) ((zM_46 hM).2.2) z_21 ?_
        obtain ⟨z_22, K⟩ := K
        refine Z.isub dX12_binds_59 z_22 ?_
        refine Z.iload (k := 0) dX12_binds_60 rfl ?_
        obtain ⟨z_23, K⟩ := K
        refine Y.iast dX12_binds_62 (rfl) ((zM_47 hM).2.2) z_23 ?_
        generalize eE_24 : zuE E_17 98 (((-1) - (E_17 97 v2))) v2 = E_24
        replace K := K E_24 eE_24.symm
        refine Z.iconst (n := 1) dX12_binds_63 ⟨by decide, by decide⟩ ?_
        exact Z.iret (ty := .boolean) dX12_binds_64 rfl rfl K
      · replace K := K.2 c_20
        refine Z.iconst (n := 0) dX12_binds_46 ⟨by decide, by decide⟩ ?_
        exact Z.iret (ty := .boolean) dX12_binds_47 rfl rfl K
  · replace K := K.2 c_2
    refine Z.iload_n (k := 1) dX12_binds_9 rfl ?_
    refine Z.goto 14 dX12_binds_10 rfl ?_
    refine Z.istore_n (ls' := [(3, zI v1), (0, zR 50), (1, zI v1), (2, zI v2)]) dX12_binds_14 (by decide) rfl ?_
    refine Z.aload_n (k := 1) dX12_binds_15 rfl ?_
    refine Y.getR (o := some 97) 46 dX12_binds_16 zl_X12_108 (rfl) (by decide) rfl (zM_1 hM).2.1 (zM_46 hM).1 ?_
    refine Z.iload_n (k := 2) dX12_binds_19 rfl ?_
    obtain ⟨z_25, K⟩ := K
    refine Y.iald dX12_binds_20 (rfl) ((zM_46 hM).2.2) z_25 ?_
    refine Z.if_ge 28 dX12_binds_21 rfl ⟨fun c_26 => ?_, fun c_26 => ?_⟩
    · replace K := K.1 c_26
      refine Z.iload_n (k := 2) dX12_binds_28 rfl ?_
      refine Z.istore (ls' := [(4, zI v1), (3, zI v1), (0, zR 50), (1, zI v1), (2, zI v2)]) dX12_binds_29 (by decide) rfl ?_
      refine Z.aload_n (k := 2) dX12_binds_31 rfl ?_
      refine Z.aload_n (k := 2) dX12_binds_32 rfl ?_
      refine Y.getR (o := some 97) 46 dX12_binds_33 zl_X12_108 (rfl) (by decide) rfl (zM_1 hM).2.1 (zM_46 hM).1 ?_
      refine Z.iload_n (k := 1) dX12_binds_36 rfl ?_
      obtain ⟨z_27, K⟩ := K
      refine Y.iald dX12_binds_37 (rfl) ((zM_46 hM).2.2) z_27 ?_
      refine Z.iload (k := 0) dX12_binds_38 rfl ?_
      obtain ⟨x_28, E_29, m_30, K⟩ := K
      refine Y.callV (g := zm_X12_occurs) (vs := [zI ((E 97 v1)), zI v1]) (st := []) dX12_binds_40 ⟨zg_X12_occurs.1, zg_X12_occurs.2.1, zg_X12_occurs.2.2, by decide⟩ ⟨zk_X12_256, zv_X12_occurs⟩ (ci := 12) (rfl) rfl ((zM_1 hM).2.1) rfl rfl (Nat.le_of_ble_eq_true rfl) m_30 (Or.inl rfl) ?_
      show Z zm_X12_binds kz Q 43 [(4, zI v1), (3, zI v1), (0, zR 50), (1, zI v1), (2, zI v2)] [zI x_28] (d, G, E_29)
      refine Z.if_eq 48 dX12_binds_43 rfl ⟨fun c_32 => ?_, fun c_32 => ?_⟩
      · replace K := K.1 c_32
        refine Z.aload_n (k := 2) dX12_binds_48 rfl ?_
        refine Y.getR (o := some 98) 47 dX12_binds_49 zl_X12_111 (rfl) (by decide) rfl (zM_1 hM).2.1 (zM_47 hM).1 ?_
        refine Z.iconst (n := -1) dX12_binds_52 ⟨by decide, by decide⟩ ?_
        refine Z.aload_n (k := 2) dX12_binds_53 rfl ?_
        refine Y.getR (o := some 97) 46 dX12_binds_54 zl_X12_108 (rfl) (by decide) rfl (zM_1 hM).2.1 (zM_46 hM).1 ?_
        refine Z.iload_n (k := 1) dX12_binds_57 rfl ?_
        obtain ⟨z_33, K⟩ := K
        refine Y.iald dX12_binds_58 (rfl) ((zM_46 hM).2.2) z_33 ?_
        obtain ⟨z_34, K⟩ := K
        refine Z.isub dX12_binds_59 z_34 ?_
        refine Z.iload (k := 0) dX12_binds_60 rfl ?_
        obtain ⟨z_35, K⟩ := K
        refine Y.iast dX12_binds_62 (rfl) ((zM_47 hM).2.2) z_35 ?_
        generalize eE_36 : zuE E_29 98 (((-1) - (E_29 97 v1))) v1 = E_36
        replace K := K E_36 eE_36.symm
        refine Z.iconst (n := 1) dX12_binds_63 ⟨by decide, by decide⟩ ?_
        exact Z.iret (ty := .boolean) dX12_binds_64 rfl rfl K
      · replace K := K.2 c_32
        refine Z.iconst (n := 0) dX12_binds_46 ⟨by decide, by decide⟩ ?_
        exact Z.iret (ty := .boolean) dX12_binds_47 rfl rfl K
    · replace K := K.2 c_26
      refine Z.iload_n (k := 3) dX12_binds_24 rfl ?_
      refine Z.goto 29 dX12_binds_25 rfl ?_
      refine Z.istore (ls' := [(4, zI v2), (3, zI v1), (0, zR 50), (1, zI v1), (2, zI v2)]) dX12_binds_29 (by decide) rfl ?_
      refine Z.aload_n (k := 2) dX12_binds_31 rfl ?_
      refine Z.aload_n (k := 2) dX12_binds_32 rfl ?_
      refine Y.getR (o := some 97) 46 dX12_binds_33 zl_X12_108 (rfl) (by decide) rfl (zM_1 hM).2.1 (zM_46 hM).1 ?_
      refine Z.iload_n (k := 1) dX12_binds_36 rfl ?_
      obtain ⟨z_37, K⟩ := K
      refine Y.iald dX12_binds_37 (rfl) ((zM_46 hM).2.2) z_37 ?_
      refine Z.iload (k := 0) dX12_binds_38 rfl ?_
      obtain ⟨x_38, E_39, m_40, K⟩ := K
      refine Y.callV (g := zm_X12_occurs) (vs := [zI ((E 97 v1)), zI v2]) (st := []) dX12_binds_40 ⟨zg_X12_occurs.1, zg_X12_occurs.2.1, zg_X12_occurs.2.2, by decide⟩ ⟨zk_X12_256, zv_X12_occurs⟩ (ci := 12) (rfl) rfl ((zM_1 hM).2.1) rfl rfl (Nat.le_of_ble_eq_true rfl) m_40 (Or.inl rfl) ?_
      show Z zm_X12_binds kz Q 43 [(4, zI v2), (3, zI v1), (0, zR 50), (1, zI v1), (2, zI v2)] [zI x_38] (d, G, E_39)
      refine Z.if_eq 48 dX12_binds_43 rfl ⟨fun c_42 => ?_, fun c_42 => ?_⟩
      · replace K := K.1 c_42
        refine Z.aload_n (k := 2) dX12_binds_48 rfl ?_
        refine Y.getR (o := some 98) 47 dX12_binds_49 zl_X12_111 (rfl) (by decide) rfl (zM_1 hM).2.1 (zM_47 hM).1 ?_
        refine Z.iconst (n := -1) dX12_binds_52 ⟨by decide, by decide⟩ ?_
        refine Z.aload_n (k := 2) dX12_binds_53 rfl ?_
        refine Y.getR (o := some 97) 46 dX12_binds_54 zl_X12_108 (rfl) (by decide) rfl (zM_1 hM).2.1 (zM_46 hM).1 ?_
        refine Z.iload_n (k := 1) dX12_binds_57 rfl ?_
        obtain ⟨z_43, K⟩ := K
        refine Y.iald dX12_binds_58 (rfl) ((zM_46 hM).2.2) z_43 ?_
        obtain ⟨z_44, K⟩ := K
        refine Z.isub dX12_binds_59 z_44 ?_
        refine Z.iload (k := 0) dX12_binds_60 rfl ?_
        obtain ⟨z_45, K⟩ := K
        refine Y.iast dX12_binds_62 (rfl) ((zM_47 hM).2.2) z_45 ?_
        generalize eE_46 : zuE E_39 98 (((-1) - (E_39 97 v1))) v2 = E_46
        replace K := K E_46 eE_46.symm
        refine Z.iconst (n := 1) dX12_binds_63 ⟨by decide, by decide⟩ ?_
        exact Z.iret (ty := .boolean) dX12_binds_64 rfl rfl K
      · replace K := K.2 c_42
        refine Z.iconst (n := 0) dX12_binds_46 ⟨by decide, by decide⟩ ?_
        exact Z.iret (ty := .boolean) dX12_binds_47 rfl rfl K
set_option maxRecDepth 20000 in
theorem X12_unites_0 {kz : Nat × Nat} {Q : Option zV → zH → Prop} {d : List Nat} {G : Nat → Int → Option Nat} {E : Nat → Int → Int} {v1 : Int} {v2 : Int} (hM : zK zMt d G) (K : ((0 : Int) ≤ 0 ∧ 0 < (4000 : Int)) ∧ ∀ E_2, E_2 = zuE E 99 0 v1 → ((0 : Int) ≤ 0 ∧ 0 < (4000 : Int)) ∧ ∀ E_4, E_4 = zuE E_2 100 0 v2 → ((0 : Int) ≤ 0 ∧ 0 < (4000 : Int)) ∧ ∀ E_6, E_6 = zuE E_4 101 0 1 → Z zm_X12_unites kz Q 23 [(0, zR 50), (3, zI 1)] [] (d, G, E_6)) : Z zm_X12_unites kz Q 0 [(0, zR 50), (1, zI v1), (2, zI v2)] [] (d, G, E) := by
  refine Z.iconst (n := 1) dX12_unites_0 ⟨by decide, by decide⟩ ?_
  refine Z.istore_n (ls' := [(3, zI 1), (0, zR 50), (1, zI v1), (2, zI v2)]) dX12_unites_1 (by decide) rfl ?_
  refine Z.aload_n (k := 1) dX12_unites_2 rfl ?_
  refine Y.getR (o := some 99) 48 dX12_unites_3 zl_X12_114 (rfl) (by decide) rfl (zM_1 hM).2.1 (zM_48 hM).1 ?_
  refine Z.iconst (n := 0) dX12_unites_6 ⟨by decide, by decide⟩ ?_
  refine Z.iload_n (k := 2) dX12_unites_7 rfl ?_
  obtain ⟨z_1, K⟩ := K
  refine Y.iast dX12_unites_8 (rfl) ((zM_48 hM).2.2) z_1 ?_
  generalize eE_2 : zuE E 99 0 v1 = E_2
  replace K := K E_2 eE_2.symm
  refine Z.aload_n (k := 1) dX12_unites_9 rfl ?_
  refine Y.getR (o := some 100) 49 dX12_unites_10 zl_X12_117 (rfl) (by decide) rfl (zM_1 hM).2.1 (zM_49 hM).1 ?_
  refine Z.iconst (n := 0) dX12_unites_13 ⟨by decide, by decide⟩ ?_
  refine Z.iload_n (k := 3) dX12_unites_14 rfl ?_
  obtain ⟨z_3, K⟩ := K
  refine Y.iast dX12_unites_15 (rfl) ((zM_49 hM).2.2) z_3 ?_
  generalize eE_4 : zuE E_2 100 0 v2 = E_4
  replace K := K E_4 eE_4.symm
  refine Z.aload_n (k := 1) dX12_unites_16 rfl ?_
  refine Y.getR (o := some 101) 50 dX12_unites_17 zl_X12_120 (rfl) (by decide) rfl (zM_1 hM).2.1 (zM_50 hM).1 ?_
  refine Z.iconst (n := 0) dX12_unites_20 ⟨by decide, by decide⟩ ?_
  refine Z.iconst (n := 1) dX12_unites_21 ⟨by decide, by decide⟩ ?_
  obtain ⟨z_5, K⟩ := K
  refine Y.iast dX12_unites_22 (rfl) ((zM_50 hM).2.2) z_5 ?_
  generalize eE_6 : zuE E_4 101 0 1 = E_6
  replace K := K E_6 eE_6.symm
  refine Z.pick (ls' := [(0, zR 50), (3, zI 1)]) [1, 0] rfl ?_
  exact K
set_option maxRecDepth 20000 in
theorem X12_unites_23 {kz : Nat × Nat} {Q : Option zV → zH → Prop} {d : List Nat} {G : Nat → Int → Option Nat} {E : Nat → Int → Int} {v3 : Int} (hM : zK zMt d G) (K : (v3 ≤ 0 → Q (some (zI 1)) (d, G, E)) ∧ (¬ (v3 ≤ 0) → zin (v3 - 1) ∧ ((0 : Int) ≤ (v3 - 1) ∧ (v3 - 1) < (4000 : Int)) ∧ ((E 101 (v3 - 1)) ≠ 0 → ((0 : Int) ≤ (v3 - 1) ∧ (v3 - 1) < (4000 : Int)) ∧ ∃ x_6, zM zm_X12_standsAt [zR 50, zI ((E 99 (v3 - 1)))] (d, G, E) (some (zI x_6)) (d, G, E) ∧ ((0 : Int) ≤ (v3 - 1) ∧ (v3 - 1) < (4000 : Int)) ∧ ∃ x_10, zM zm_X12_standsAt [zR 50, zI ((E 100 (v3 - 1)))] (d, G, E) (some (zI x_10)) (d, G, E) ∧ ((0 : Int) ≤ (v3 - 1) ∧ (v3 - 1) < (4000 : Int)) ∧ ∃ x_14, zM zm_X12_endOf [zR 50, zR 97, zI ((E 99 (v3 - 1)))] (d, G, E) (some (zI x_14)) (d, G, E) ∧ ((0 : Int) ≤ (v3 - 1) ∧ (v3 - 1) < (4000 : Int)) ∧ ∀ E_18, E_18 = zuE E 99 ((v3 - 1)) x_14 → ((0 : Int) ≤ (v3 - 1) ∧ (v3 - 1) < (4000 : Int)) ∧ ∃ x_20, zM zm_X12_endOf [zR 50, zR 97, zI ((E_18 100 (v3 - 1)))] (d, G, E_18) (some (zI x_20)) (d, G, E_18) ∧ ((0 : Int) ≤ (v3 - 1) ∧ (v3 - 1) < (4000 : Int)) ∧ ∀ E_24, E_24 = zuE E_18 100 ((v3 - 1)) x_20 → ((0 : Int) ≤ (v3 - 1) ∧ (v3 - 1) < (4000 : Int)) ∧ zin ((E_24 101 (v3 - 1)) - 1) ∧ ((0 : Int) ≤ (v3 - 1) ∧ (v3 - 1) < (4000 : Int)) ∧ ∀ E_28, E_28 = zuE E_24 101 ((v3 - 1)) (((E_24 101 (v3 - 1)) - 1)) → ((0 : Int) ≤ x_6 ∧ x_6 < (360 : Int)) ∧ ((E_28 97 x_6) < 0 → Z zm_X12_unites kz Q 149 [(0, zR 50), (3, zI v3), (5, zI x_6), (6, zI x_10)] [] (d, G, E_28)) ∧ (¬ ((E_28 97 x_6) < 0) → ((0 : Int) ≤ x_10 ∧ x_10 < (360 : Int)) ∧ (0 ≤ (E_28 97 x_10) → ((0 : Int) ≤ x_6 ∧ x_6 < (360 : Int)) ∧ ((0 : Int) ≤ x_10 ∧ x_10 < (360 : Int)) ∧ ((E_28 97 x_6) = (E_28 97 x_10) → ((0 : Int) ≤ x_6 ∧ x_6 < (360 : Int)) ∧ ((0 : Int) ≤ (E_28 97 x_6) ∧ (E_28 97 x_6) < (16 : Int)) ∧ ((E_28 53 (E_28 97 x_6)) ≤ 0 → Z zm_X12_unites kz Q 23 [(0, zR 50), (3, zI v3)] [] (d, G, E_28)) ∧ (¬ ((E_28 53 (E_28 97 x_6)) ≤ 0) → (x_6 = x_10 → Z zm_X12_unites kz Q 23 [(0, zR 50), (3, zI v3)] [] (d, G, E_28)) ∧ (¬ (x_6 = x_10) → zin (x_6 + 1) ∧ ((0 : Int) ≤ v3 ∧ v3 < (4000 : Int)) ∧ ∀ E_42, E_42 = zuE E_28 99 v3 ((x_6 + 1)) → zin (x_10 + 1) ∧ ((0 : Int) ≤ v3 ∧ v3 < (4000 : Int)) ∧ ∀ E_45, E_45 = zuE E_42 100 v3 ((x_10 + 1)) → ((0 : Int) ≤ x_6 ∧ x_6 < (360 : Int)) ∧ ((0 : Int) ≤ (E_45 97 x_6) ∧ (E_45 97 x_6) < (16 : Int)) ∧ ((0 : Int) ≤ v3 ∧ v3 < (4000 : Int)) ∧ ∀ E_49, E_49 = zuE E_45 101 v3 ((E_45 53 (E_45 97 x_6))) → zin (v3 + 1) ∧ Z zm_X12_unites kz Q 23 [(0, zR 50), (3, zI ((v3 + 1)))] [] (d, G, E_49)))) ∧ (¬ ((E_28 97 x_6) = (E_28 97 x_10)) → Q (some (zI 0)) (d, G, E_28))) ∧ (¬ (0 ≤ (E_28 97 x_10)) → Z zm_X12_unites kz Q 149 [(0, zR 50), (3, zI v3), (5, zI x_6), (6, zI x_10)] [] (d, G, E_28)))) ∧ (¬ ((E 101 (v3 - 1)) ≠ 0) → zin (v3 + (-1)) ∧ Z zm_X12_unites kz Q 23 [(0, zR 50), (3, zI ((v3 + (-1))))] [] (d, G, E)))) : Z zm_X12_unites kz Q 23 [(0, zR 50), (3, zI v3)] [] (d, G, E) := by
  refine Z.iload_n (k := 1) dX12_unites_23 rfl ?_
  refine Z.if_le 264 dX12_unites_24 rfl ⟨fun c_1 => ?_, fun c_1 => ?_⟩
  · replace K := K.1 c_1
    refine Z.iconst (n := 1) dX12_unites_264 ⟨by decide, by decide⟩ ?_
    exact Z.iret (ty := .boolean) dX12_unites_265 rfl rfl K
  · replace K := K.2 c_1
    refine Z.iload_n (k := 1) dX12_unites_27 rfl ?_
    refine Z.iconst (n := 1) dX12_unites_28 ⟨by decide, by decide⟩ ?_
    obtain ⟨z_2, K⟩ := K
    refine Z.isub dX12_unites_29 z_2 ?_
    refine Z.istore (ls' := [(4, zI ((v3 - 1))), (0, zR 50), (3, zI v3)]) dX12_unites_30 (by decide) rfl ?_
    refine Z.aload_n (k := 1) dX12_unites_32 rfl ?_
    refine Y.getR (o := some 101) 50 dX12_unites_33 zl_X12_120 (rfl) (by decide) rfl (zM_1 hM).2.1 (zM_50 hM).1 ?_
    refine Z.iload (k := 0) dX12_unites_36 rfl ?_
    obtain ⟨z_3, K⟩ := K
    refine Y.iald dX12_unites_38 (rfl) ((zM_50 hM).2.2) z_3 ?_
    refine Z.if_ne 48 dX12_unites_39 rfl ⟨fun c_4 => ?_, fun c_4 => ?_⟩
    · replace K := K.1 c_4
      refine Z.aload_n (k := 1) dX12_unites_48 rfl ?_
      refine Z.aload_n (k := 1) dX12_unites_49 rfl ?_
      refine Y.getR (o := some 99) 48 dX12_unites_50 zl_X12_114 (rfl) (by decide) rfl (zM_1 hM).2.1 (zM_48 hM).1 ?_
      refine Z.iload (k := 0) dX12_unites_53 rfl ?_
      obtain ⟨z_5, K⟩ := K
      refine Y.iald dX12_unites_55 (rfl) ((zM_48 hM).2.2) z_5 ?_
      obtain ⟨x_6, m_7, K⟩ := K
      refine Y.callV (g := zm_X12_standsAt) (vs := [zI ((E 99 (v3 - 1)))]) (st := []) dX12_unites_56 ⟨zg_X12_standsAt.1, zg_X12_standsAt.2.1, zg_X12_standsAt.2.2, by decide⟩ ⟨zk_X12_249, zv_X12_standsAt⟩ (ci := 12) (rfl) rfl ((zM_1 hM).2.1) rfl rfl (Nat.le_of_ble_eq_true rfl) m_7 (Or.inl rfl) ?_
      show Z zm_X12_unites kz Q 59 [(4, zI ((v3 - 1))), (0, zR 50), (3, zI v3)] [zI x_6] (d, G, E)
      refine Z.istore (ls' := [(5, zI x_6), (4, zI ((v3 - 1))), (0, zR 50), (3, zI v3)]) dX12_unites_59 (by decide) rfl ?_
      refine Z.aload_n (k := 2) dX12_unites_61 rfl ?_
      refine Z.aload_n (k := 2) dX12_unites_62 rfl ?_
      refine Y.getR (o := some 100) 49 dX12_unites_63 zl_X12_117 (rfl) (by decide) rfl (zM_1 hM).2.1 (zM_49 hM).1 ?_
      refine Z.iload (k := 1) dX12_unites_66 rfl ?_
      obtain ⟨z_9, K⟩ := K
      refine Y.iald dX12_unites_68 (rfl) ((zM_49 hM).2.2) z_9 ?_
      obtain ⟨x_10, m_11, K⟩ := K
      refine Y.callV (g := zm_X12_standsAt) (vs := [zI ((E 100 (v3 - 1)))]) (st := []) dX12_unites_69 ⟨zg_X12_standsAt.1, zg_X12_standsAt.2.1, zg_X12_standsAt.2.2, by decide⟩ ⟨zk_X12_249, zv_X12_standsAt⟩ (ci := 12) (rfl) rfl ((zM_1 hM).2.1) rfl rfl (Nat.le_of_ble_eq_true rfl) m_11 (Or.inl rfl) ?_
      show Z zm_X12_unites kz Q 72 [(5, zI x_6), (4, zI ((v3 - 1))), (0, zR 50), (3, zI v3)] [zI x_10] (d, G, E)
      refine Z.istore (ls' := [(6, zI x_10), (5, zI x_6), (4, zI ((v3 - 1))), (0, zR 50), (3, zI v3)]) dX12_unites_72 (by decide) rfl ?_
      refine Z.aload_n (k := 3) dX12_unites_74 rfl ?_
      refine Y.getR (o := some 99) 48 dX12_unites_75 zl_X12_114 (rfl) (by decide) rfl (zM_1 hM).2.1 (zM_48 hM).1 ?_
      refine Z.iload (k := 2) dX12_unites_78 rfl ?_
      refine Z.aload_n (k := 3) dX12_unites_80 rfl ?_
      refine Z.aload_n (k := 3) dX12_unites_81 rfl ?_
      refine Y.getR (o := some 97) 46 dX12_unites_82 zl_X12_108 (rfl) (by decide) rfl (zM_1 hM).2.1 (zM_46 hM).1 ?_
      refine Z.aload_n (k := 3) dX12_unites_85 rfl ?_
      refine Y.getR (o := some 99) 48 dX12_unites_86 zl_X12_114 (rfl) (by decide) rfl (zM_1 hM).2.1 (zM_48 hM).1 ?_
      refine Z.iload (k := 2) dX12_unites_89 rfl ?_
      obtain ⟨z_13, K⟩ := K
      refine Y.iald dX12_unites_91 (rfl) ((zM_48 hM).2.2) z_13 ?_
      obtain ⟨x_14, m_15, K⟩ := K
      refine Y.callV (g := zm_X12_endOf) (vs := [zR 97, zI ((E 99 (v3 - 1)))]) (st := [zI ((v3 - 1)), zR 99]) dX12_unites_92 ⟨zg_X12_endOf.1, zg_X12_endOf.2.1, zg_X12_endOf.2.2, by decide⟩ ⟨zk_X12_148, zv_X12_endOf⟩ (ci := 12) (rfl) rfl ((zM_1 hM).2.1) rfl rfl (Nat.le_of_ble_eq_true rfl) m_15 (Or.inl rfl) ?_
      show Z zm_X12_unites kz Q 95 [(6, zI x_10), (5, zI x_6), (4, zI ((v3 - 1))), (0, zR 50), (3, zI v3)] [zI x_14, zI ((v3 - 1)), zR 99] (d, G, E)
      obtain ⟨z_17, K⟩ := K
      refine Y.iast dX12_unites_95 (rfl) ((zM_48 hM).2.2) z_17 ?_
      generalize eE_18 : zuE E 99 ((v3 - 1)) x_14 = E_18
      replace K := K E_18 eE_18.symm
      refine Z.aload_n (k := 3) dX12_unites_96 rfl ?_
      refine Y.getR (o := some 100) 49 dX12_unites_97 zl_X12_117 (rfl) (by decide) rfl (zM_1 hM).2.1 (zM_49 hM).1 ?_
      refine Z.iload (k := 2) dX12_unites_100 rfl ?_
      refine Z.aload_n (k := 3) dX12_unites_102 rfl ?_
      refine Z.aload_n (k := 3) dX12_unites_103 rfl ?_
      refine Y.getR (o := some 97) 46 dX12_unites_104 zl_X12_108 (rfl) (by decide) rfl (zM_1 hM).2.1 (zM_46 hM).1 ?_
      refine Z.aload_n (k := 3) dX12_unites_107 rfl ?_
      refine Y.getR (o := some 100) 49 dX12_unites_108 zl_X12_117 (rfl) (by decide) rfl (zM_1 hM).2.1 (zM_49 hM).1 ?_
      refine Z.iload (k := 2) dX12_unites_111 rfl ?_
      obtain ⟨z_19, K⟩ := K
      refine Y.iald dX12_unites_113 (rfl) ((zM_49 hM).2.2) z_19 ?_
      obtain ⟨x_20, m_21, K⟩ := K
      refine Y.callV (g := zm_X12_endOf) (vs := [zR 97, zI ((E_18 100 (v3 - 1)))]) (st := [zI ((v3 - 1)), zR 100]) dX12_unites_114 ⟨zg_X12_endOf.1, zg_X12_endOf.2.1, zg_X12_endOf.2.2, by decide⟩ ⟨zk_X12_148, zv_X12_endOf⟩ (ci := 12) (rfl) rfl ((zM_1 hM).2.1) rfl rfl (Nat.le_of_ble_eq_true rfl) m_21 (Or.inl rfl) ?_
      show Z zm_X12_unites kz Q 117 [(6, zI x_10), (5, zI x_6), (4, zI ((v3 - 1))), (0, zR 50), (3, zI v3)] [zI x_20, zI ((v3 - 1)), zR 100] (d, G, E_18)
      obtain ⟨z_23, K⟩ := K
      refine Y.iast dX12_unites_117 (rfl) ((zM_49 hM).2.2) z_23 ?_
      generalize eE_24 : zuE E_18 100 ((v3 - 1)) x_20 = E_24
      replace K := K E_24 eE_24.symm
      refine Z.aload_n (k := 3) dX12_unites_118 rfl ?_
      refine Y.getR (o := some 101) 50 dX12_unites_119 zl_X12_120 (rfl) (by decide) rfl (zM_1 hM).2.1 (zM_50 hM).1 ?_
      refine Z.iload (k := 2) dX12_unites_122 rfl ?_
      refine Z.dup2_i dX12_unites_124 (fun _ => rfl) (fun _ => rfl) ?_
      obtain ⟨z_25, K⟩ := K
      refine Y.iald dX12_unites_125 (rfl) ((zM_50 hM).2.2) z_25 ?_
      refine Z.iconst (n := 1) dX12_unites_126 ⟨by decide, by decide⟩ ?_
      obtain ⟨z_26, K⟩ := K
      refine Z.isub dX12_unites_127 z_26 ?_
      obtain ⟨z_27, K⟩ := K
      refine Y.iast dX12_unites_128 (rfl) ((zM_50 hM).2.2) z_27 ?_
      generalize eE_28 : zuE E_24 101 ((v3 - 1)) (((E_24 101 (v3 - 1)) - 1)) = E_28
      replace K := K E_28 eE_28.symm
      refine Z.aload_n (k := 3) dX12_unites_129 rfl ?_
      refine Y.getR (o := some 97) 46 dX12_unites_130 zl_X12_108 (rfl) (by decide) rfl (zM_1 hM).2.1 (zM_46 hM).1 ?_
      refine Z.iload (k := 1) dX12_unites_133 rfl ?_
      obtain ⟨z_29, K⟩ := K
      refine Y.iald dX12_unites_135 (rfl) ((zM_46 hM).2.2) z_29 ?_
      refine Z.if_lt 149 dX12_unites_136 rfl ⟨fun c_30 => ?_, fun c_30 => ?_⟩
      · replace K := K.1 c_30
        refine Z.pick (ls' := [(0, zR 50), (3, zI v3), (5, zI x_6), (6, zI x_10)]) [3, 4, 1, 0] rfl ?_
        exact K
      · replace K := K.2 c_30
        refine Z.aload_n (k := 3) dX12_unites_139 rfl ?_
        refine Y.getR (o := some 97) 46 dX12_unites_140 zl_X12_108 (rfl) (by decide) rfl (zM_1 hM).2.1 (zM_46 hM).1 ?_
        refine Z.iload (k := 0) dX12_unites_143 rfl ?_
        obtain ⟨z_31, K⟩ := K
        refine Y.iald dX12_unites_145 (rfl) ((zM_46 hM).2.2) z_31 ?_
        refine Z.if_ge 179 dX12_unites_146 rfl ⟨fun c_32 => ?_, fun c_32 => ?_⟩
        · replace K := K.1 c_32
          refine Z.aload_n (k := 3) dX12_unites_179 rfl ?_
          refine Y.getR (o := some 97) 46 dX12_unites_180 zl_X12_108 (rfl) (by decide) rfl (zM_1 hM).2.1 (zM_46 hM).1 ?_
          refine Z.iload (k := 1) dX12_unites_183 rfl ?_
          obtain ⟨z_33, K⟩ := K
          refine Y.iald dX12_unites_185 (rfl) ((zM_46 hM).2.2) z_33 ?_
          refine Z.aload_n (k := 3) dX12_unites_186 rfl ?_
          refine Y.getR (o := some 97) 46 dX12_unites_187 zl_X12_108 (rfl) (by decide) rfl (zM_1 hM).2.1 (zM_46 hM).1 ?_
          refine Z.iload (k := 0) dX12_unites_190 rfl ?_
          obtain ⟨z_34, K⟩ := K
          refine Y.iald dX12_unites_192 (rfl) ((zM_46 hM).2.2) z_34 ?_
          refine Z.icmp_eq 198 dX12_unites_193 rfl ⟨fun c_35 => ?_, fun c_35 => ?_⟩
          · replace K := K.1 c_35
            refine Z.aload_n (k := 3) dX12_unites_198 rfl ?_
            refine Y.getR (o := some 53) 2 dX12_unites_199 zl_X12_17 (rfl) (by decide) rfl (zM_1 hM).2.1 (zM_2 hM).1 ?_
            refine Z.aload_n (k := 3) dX12_unites_202 rfl ?_
            refine Y.getR (o := some 97) 46 dX12_unites_203 zl_X12_108 (rfl) (by decide) rfl (zM_1 hM).2.1 (zM_46 hM).1 ?_
            refine Z.iload (k := 1) dX12_unites_206 rfl ?_
            obtain ⟨z_36, K⟩ := K
            refine Y.iald dX12_unites_208 (rfl) ((zM_46 hM).2.2) z_36 ?_
            obtain ⟨z_37, K⟩ := K
            refine Y.iald dX12_unites_209 (rfl) ((zM_2 hM).2.2) z_37 ?_
            refine Z.if_le 261 dX12_unites_210 rfl ⟨fun c_38 => ?_, fun c_38 => ?_⟩
            · replace K := K.1 c_38
              refine Z.goto 23 dX12_unites_261 rfl ?_
              refine Z.pick (ls' := [(0, zR 50), (3, zI v3)]) [3, 4] rfl ?_
              exact K
            · replace K := K.2 c_38
              refine Z.iload (k := 1) dX12_unites_213 rfl ?_
              refine Z.iload (k := 0) dX12_unites_215 rfl ?_
              refine Z.icmp_eq 261 dX12_unites_217 rfl ⟨fun c_39 => ?_, fun c_39 => ?_⟩
              · replace K := K.1 c_39
                refine Z.goto 23 dX12_unites_261 rfl ?_
                refine Z.pick (ls' := [(0, zR 50), (3, zI v3)]) [3, 4] rfl ?_
                exact K
              · replace K := K.2 c_39
                refine Z.aload_n (k := 3) dX12_unites_220 rfl ?_
                refine Y.getR (o := some 99) 48 dX12_unites_221 zl_X12_114 (rfl) (by decide) rfl (zM_1 hM).2.1 (zM_48 hM).1 ?_
                refine Z.iload_n (k := 4) dX12_unites_224 rfl ?_
                refine Z.iload (k := 1) dX12_unites_225 rfl ?_
                refine Z.iconst (n := 1) dX12_unites_227 ⟨by decide, by decide⟩ ?_
                obtain ⟨z_40, K⟩ := K
                refine Z.iadd dX12_unites_228 z_40 ?_
                obtain ⟨z_41, K⟩ := K
                refine Y.iast dX12_unites_229 (rfl) ((zM_48 hM).2.2) z_41 ?_
                generalize eE_42 : zuE E_28 99 v3 ((x_6 + 1)) = E_42
                replace K := K E_42 eE_42.symm
                refine Z.aload_n (k := 3) dX12_unites_230 rfl ?_
                refine Y.getR (o := some 100) 49 dX12_unites_231 zl_X12_117 (rfl) (by decide) rfl (zM_1 hM).2.1 (zM_49 hM).1 ?_
                refine Z.iload_n (k := 4) dX12_unites_234 rfl ?_
                refine Z.iload (k := 0) dX12_unites_235 rfl ?_
                refine Z.iconst (n := 1) dX12_unites_237 ⟨by decide, by decide⟩ ?_
                obtain ⟨z_43, K⟩ := K
                refine Z.iadd dX12_unites_238 z_43 ?_
                obtain ⟨z_44, K⟩ := K
                refine Y.iast dX12_unites_239 (rfl) ((zM_49 hM).2.2) z_44 ?_
                generalize eE_45 : zuE E_42 100 v3 ((x_10 + 1)) = E_45
                replace K := K E_45 eE_45.symm
                refine Z.aload_n (k := 3) dX12_unites_240 rfl ?_
                refine Y.getR (o := some 101) 50 dX12_unites_241 zl_X12_120 (rfl) (by decide) rfl (zM_1 hM).2.1 (zM_50 hM).1 ?_
                refine Z.iload_n (k := 4) dX12_unites_244 rfl ?_
                refine Z.aload_n (k := 3) dX12_unites_245 rfl ?_
                refine Y.getR (o := some 53) 2 dX12_unites_246 zl_X12_17 (rfl) (by decide) rfl (zM_1 hM).2.1 (zM_2 hM).1 ?_
                refine Z.aload_n (k := 3) dX12_unites_249 rfl ?_
                refine Y.getR (o := some 97) 46 dX12_unites_250 zl_X12_108 (rfl) (by decide) rfl (zM_1 hM).2.1 (zM_46 hM).1 ?_
                refine Z.iload (k := 1) dX12_unites_253 rfl ?_
                obtain ⟨z_46, K⟩ := K
                refine Y.iald dX12_unites_255 (rfl) ((zM_46 hM).2.2) z_46 ?_
                obtain ⟨z_47, K⟩ := K
                refine Y.iald dX12_unites_256 (rfl) ((zM_2 hM).2.2) z_47 ?_
                obtain ⟨z_48, K⟩ := K
                refine Y.iast dX12_unites_257 (rfl) ((zM_50 hM).2.2) z_48 ?_
                generalize eE_49 : zuE E_45 101 v3 ((E_45 53 (E_45 97 x_6))) = E_49
                replace K := K E_49 eE_49.symm
                obtain ⟨z_50, K⟩ := K
                refine Z.iinc (k := 4) (ls' := [(3, zI ((v3 + 1))), (6, zI x_10), (5, zI x_6), (4, zI ((v3 - 1))), (0, zR 50)]) dX12_unites_258 rfl (by decide) z_50 rfl ?_
                refine Z.goto 23 dX12_unites_261 rfl ?_
                refine Z.pick (ls' := [(0, zR 50), (3, zI ((v3 + 1)))]) [4, 0] rfl ?_
                exact K
          · replace K := K.2 c_35
            refine Z.iconst (n := 0) dX12_unites_196 ⟨by decide, by decide⟩ ?_
            exact Z.iret (ty := .boolean) dX12_unites_197 rfl rfl K
        · replace K := K.2 c_32
          refine Z.pick (ls' := [(0, zR 50), (3, zI v3), (5, zI x_6), (6, zI x_10)]) [3, 4, 1, 0] rfl ?_
          exact K
    · replace K := K.2 c_4
      obtain ⟨z_51, K⟩ := K
      refine Z.iinc (k := 2) (ls' := [(3, zI ((v3 + (-1)))), (4, zI ((v3 - 1))), (0, zR 50)]) dX12_unites_42 rfl (by decide) z_51 rfl ?_
      refine Z.goto 261 dX12_unites_45 rfl ?_
      refine Z.goto 23 dX12_unites_261 rfl ?_
      refine Z.pick (ls' := [(0, zR 50), (3, zI ((v3 + (-1))))]) [2, 0] rfl ?_
      exact K
set_option maxRecDepth 20000 in
theorem X12_unites_149 {kz : Nat × Nat} {Q : Option zV → zH → Prop} {d : List Nat} {G : Nat → Int → Option Nat} {E : Nat → Int → Int} {v3 : Int} {v5 : Int} {v6 : Int} (hM : zK zMt d G) (K : ((0 : Int) ≤ v5 ∧ v5 < (360 : Int)) ∧ ((0 : Int) ≤ v6 ∧ v6 < (360 : Int)) ∧ ((E 97 v5) = (E 97 v6) → Z zm_X12_unites kz Q 23 [(0, zR 50), (3, zI v3)] [] (d, G, E)) ∧ (¬ ((E 97 v5) = (E 97 v6)) → ∃ x_4 E_5, zM zm_X12_binds [zR 50, zI v5, zI v6] (d, G, E) (some (zI x_4)) (d, G, E_5) ∧ (x_4 ≠ 0 → Z zm_X12_unites kz Q 23 [(0, zR 50), (3, zI v3)] [] (d, G, E_5)) ∧ (¬ (x_4 ≠ 0) → Q (some (zI 0)) (d, G, E_5)))) : Z zm_X12_unites kz Q 149 [(0, zR 50), (3, zI v3), (5, zI v5), (6, zI v6)] [] (d, G, E) := by
  refine Z.aload_n (k := 0) dX12_unites_149 rfl ?_
  refine Y.getR (o := some 97) 46 dX12_unites_150 zl_X12_108 (rfl) (by decide) rfl (zM_1 hM).2.1 (zM_46 hM).1 ?_
  refine Z.iload (k := 2) dX12_unites_153 rfl ?_
  obtain ⟨z_1, K⟩ := K
  refine Y.iald dX12_unites_155 (rfl) ((zM_46 hM).2.2) z_1 ?_
  refine Z.aload_n (k := 0) dX12_unites_156 rfl ?_
  refine Y.getR (o := some 97) 46 dX12_unites_157 zl_X12_108 (rfl) (by decide) rfl (zM_1 hM).2.1 (zM_46 hM).1 ?_
  refine Z.iload (k := 3) dX12_unites_160 rfl ?_
  obtain ⟨z_2, K⟩ := K
  refine Y.iald dX12_unites_162 (rfl) ((zM_46 hM).2.2) z_2 ?_
  refine Z.icmp_eq 261 dX12_unites_163 rfl ⟨fun c_3 => ?_, fun c_3 => ?_⟩
  · replace K := K.1 c_3
    refine Z.goto 23 dX12_unites_261 rfl ?_
    refine Z.pick (ls' := [(0, zR 50), (3, zI v3)]) [0, 1] rfl ?_
    exact K
  · replace K := K.2 c_3
    refine Z.aload_n (k := 0) dX12_unites_166 rfl ?_
    refine Z.iload (k := 2) dX12_unites_167 rfl ?_
    refine Z.iload (k := 3) dX12_unites_169 rfl ?_
    obtain ⟨x_4, E_5, m_6, K⟩ := K
    refine Y.callV (g := zm_X12_binds) (vs := [zI v5, zI v6]) (st := []) dX12_unites_171 ⟨zg_X12_binds.1, zg_X12_binds.2.1, zg_X12_binds.2.2, by decide⟩ ⟨zk_X12_253, zv_X12_binds⟩ (ci := 12) (rfl) rfl ((zM_1 hM).2.1) rfl rfl (Nat.le_of_ble_eq_true rfl) m_6 (Or.inl rfl) ?_
    show Z zm_X12_unites kz Q 174 [(0, zR 50), (3, zI v3), (5, zI v5), (6, zI v6)] [zI x_4] (d, G, E_5)
    refine Z.if_ne 261 dX12_unites_174 rfl ⟨fun c_8 => ?_, fun c_8 => ?_⟩
    · replace K := K.1 c_8
      refine Z.goto 23 dX12_unites_261 rfl ?_
      refine Z.pick (ls' := [(0, zR 50), (3, zI v3)]) [0, 1] rfl ?_
      exact K
    · replace K := K.2 c_8
      refine Z.iconst (n := 0) dX12_unites_177 ⟨by decide, by decide⟩ ?_
      exact Z.iret (ty := .boolean) dX12_unites_178 rfl rfl K
set_option maxRecDepth 20000 in
theorem X12_put_0 {kz : Nat × Nat} {Q : Option zV → zH → Prop} {d : List Nat} {G : Nat → Int → Option Nat} {E : Nat → Int → Int} {v1 : Int} (hM : zK zMt d G) (K : (31 ≤ (E 50 52) → Q none (d, G, E)) ∧ (¬ (31 ≤ (E 50 52)) → ((0 : Int) ≤ (E 50 52) ∧ (E 50 52) < (31 : Int)) ∧ ∀ E_3, E_3 = zuE E 102 ((E 50 52)) v1 → zin ((E_3 50 52) + 1) ∧ ∀ E_5, E_5 = zuE E_3 50 52 (((E_3 50 52) + 1)) → Q none (d, G, E_5))) : Z zm_X12_put kz Q 0 [(0, zR 50), (1, zI v1)] [] (d, G, E) := by
  refine Z.aload_n (k := 0) dX12_put_0 rfl ?_
  refine Y.getI 52 dX12_put_1 zl_X12_259 (rfl) (by decide) rfl (zM_1 hM).2.1 ?_
  refine Z.bipush (n := 31) dX12_put_4 ⟨by decide, by decide⟩ (by decide) ?_
  refine Z.icmp_ge 29 dX12_put_6 rfl ⟨fun c_1 => ?_, fun c_1 => ?_⟩
  · replace K := K.1 c_1
    exact Z.vret dX12_put_29 rfl K
  · replace K := K.2 c_1
    refine Z.aload_n (k := 0) dX12_put_9 rfl ?_
    refine Y.getR (o := some 102) 51 dX12_put_10 zl_X12_123 (rfl) (by decide) rfl (zM_1 hM).2.1 (zM_51 hM).1 ?_
    refine Z.aload_n (k := 0) dX12_put_13 rfl ?_
    refine Y.getI 52 dX12_put_14 zl_X12_259 (rfl) (by decide) rfl (zM_1 hM).2.1 ?_
    refine Z.iload_n (k := 1) dX12_put_17 rfl ?_
    obtain ⟨z_2, K⟩ := K
    refine Y.iast dX12_put_18 (rfl) ((zM_51 hM).2.2) z_2 ?_
    generalize eE_3 : zuE E 102 ((E 50 52)) v1 = E_3
    replace K := K E_3 eE_3.symm
    refine Z.aload_n (k := 0) dX12_put_19 rfl ?_
    refine Z.dup_i dX12_put_20 (fun _ => rfl) ?_
    refine Y.getI 52 dX12_put_21 zl_X12_259 (rfl) (by decide) rfl (zM_1 hM).2.1 ?_
    refine Z.iconst (n := 1) dX12_put_24 ⟨by decide, by decide⟩ ?_
    obtain ⟨z_4, K⟩ := K
    refine Z.iadd dX12_put_25 z_4 ?_
    refine Y.putI 52 dX12_put_26 zw_X12_259 (fun q => by cases q) (rfl) rfl (zM_1 hM).2.1 (Or.inl rfl) ?_
    generalize eE_5 : zuE E_3 50 52 (((E_3 50 52) + 1)) = E_5
    replace K := K E_5 eE_5.symm
    exact Z.vret dX12_put_29 rfl K
set_option maxRecDepth 20000 in
theorem X12_write_0 {kz : Nat × Nat} {Q : Option zV → zH → Prop} {d : List Nat} {G : Nat → Int → Option Nat} {E : Nat → Int → Int} {v1 : Int} (hM : zK zMt d G) (K : ((0 : Int) ≤ 0 ∧ 0 < (4000 : Int)) ∧ ∀ E_2, E_2 = zuE E 99 0 v1 → ((0 : Int) ≤ 0 ∧ 0 < (4000 : Int)) ∧ ∀ E_4, E_4 = zuE E_2 101 0 1 → Z zm_X12_write kz Q 16 [(0, zR 50), (2, zI 1)] [] (d, G, E_4)) : Z zm_X12_write kz Q 0 [(0, zR 50), (1, zI v1)] [] (d, G, E) := by
  refine Z.iconst (n := 1) dX12_write_0 ⟨by decide, by decide⟩ ?_
  refine Z.istore_n (ls' := [(2, zI 1), (0, zR 50), (1, zI v1)]) dX12_write_1 (by decide) rfl ?_
  refine Z.aload_n (k := 1) dX12_write_2 rfl ?_
  refine Y.getR (o := some 99) 48 dX12_write_3 zl_X12_114 (rfl) (by decide) rfl (zM_1 hM).2.1 (zM_48 hM).1 ?_
  refine Z.iconst (n := 0) dX12_write_6 ⟨by decide, by decide⟩ ?_
  refine Z.iload_n (k := 2) dX12_write_7 rfl ?_
  obtain ⟨z_1, K⟩ := K
  refine Y.iast dX12_write_8 (rfl) ((zM_48 hM).2.2) z_1 ?_
  generalize eE_2 : zuE E 99 0 v1 = E_2
  replace K := K E_2 eE_2.symm
  refine Z.aload_n (k := 1) dX12_write_9 rfl ?_
  refine Y.getR (o := some 101) 50 dX12_write_10 zl_X12_120 (rfl) (by decide) rfl (zM_1 hM).2.1 (zM_50 hM).1 ?_
  refine Z.iconst (n := 0) dX12_write_13 ⟨by decide, by decide⟩ ?_
  refine Z.iconst (n := 1) dX12_write_14 ⟨by decide, by decide⟩ ?_
  obtain ⟨z_3, K⟩ := K
  refine Y.iast dX12_write_15 (rfl) ((zM_50 hM).2.2) z_3 ?_
  generalize eE_4 : zuE E_2 101 0 1 = E_4
  replace K := K E_4 eE_4.symm
  refine Z.pick (ls' := [(0, zR 50), (2, zI 1)]) [1, 0] rfl ?_
  exact K
set_option maxRecDepth 20000 in
theorem X12_write_16 {kz : Nat × Nat} {Q : Option zV → zH → Prop} {d : List Nat} {G : Nat → Int → Option Nat} {E : Nat → Int → Int} {v2 : Int} (hM : zK zMt d G) (K : (v2 ≤ 0 → Q none (d, G, E)) ∧ (¬ (v2 ≤ 0) → (31 ≤ (E 50 52) → Q none (d, G, E)) ∧ (¬ (31 ≤ (E 50 52)) → zin (v2 - 1) ∧ ((0 : Int) ≤ (v2 - 1) ∧ (v2 - 1) < (4000 : Int)) ∧ ((E 101 (v2 - 1)) ≠ 0 → ((0 : Int) ≤ (v2 - 1) ∧ (v2 - 1) < (4000 : Int)) ∧ ∃ x_7, zM zm_X12_standsAt [zR 50, zI ((E 99 (v2 - 1)))] (d, G, E) (some (zI x_7)) (d, G, E) ∧ ((0 : Int) ≤ (v2 - 1) ∧ (v2 - 1) < (4000 : Int)) ∧ ∃ x_11, zM zm_X12_endOf [zR 50, zR 97, zI ((E 99 (v2 - 1)))] (d, G, E) (some (zI x_11)) (d, G, E) ∧ ((0 : Int) ≤ (v2 - 1) ∧ (v2 - 1) < (4000 : Int)) ∧ ∀ E_15, E_15 = zuE E 99 ((v2 - 1)) x_11 → ((0 : Int) ≤ (v2 - 1) ∧ (v2 - 1) < (4000 : Int)) ∧ zin ((E_15 101 (v2 - 1)) - 1) ∧ ((0 : Int) ≤ (v2 - 1) ∧ (v2 - 1) < (4000 : Int)) ∧ ∀ E_19, E_19 = zuE E_15 101 ((v2 - 1)) (((E_15 101 (v2 - 1)) - 1)) → ((0 : Int) ≤ x_7 ∧ x_7 < (360 : Int)) ∧ ∃ E_21, zM zm_X12_put [zR 50, zI ((E_19 97 x_7))] (d, G, E_19) none (d, G, E_21) ∧ ((0 : Int) ≤ x_7 ∧ x_7 < (360 : Int)) ∧ ((E_21 97 x_7) < 0 → Z zm_X12_write kz Q 16 [(0, zR 50), (2, zI v2)] [] (d, G, E_21)) ∧ (¬ ((E_21 97 x_7) < 0) → ((0 : Int) ≤ x_7 ∧ x_7 < (360 : Int)) ∧ ((0 : Int) ≤ (E_21 97 x_7) ∧ (E_21 97 x_7) < (16 : Int)) ∧ ((E_21 53 (E_21 97 x_7)) ≤ 0 → Z zm_X12_write kz Q 16 [(0, zR 50), (2, zI v2)] [] (d, G, E_21)) ∧ (¬ ((E_21 53 (E_21 97 x_7)) ≤ 0) → zin (x_7 + 1) ∧ ((0 : Int) ≤ v2 ∧ v2 < (4000 : Int)) ∧ ∀ E_31, E_31 = zuE E_21 99 v2 ((x_7 + 1)) → ((0 : Int) ≤ x_7 ∧ x_7 < (360 : Int)) ∧ ((0 : Int) ≤ (E_31 97 x_7) ∧ (E_31 97 x_7) < (16 : Int)) ∧ ((0 : Int) ≤ v2 ∧ v2 < (4000 : Int)) ∧ ∀ E_35, E_35 = zuE E_31 101 v2 ((E_31 53 (E_31 97 x_7))) → zin (v2 + 1) ∧ Z zm_X12_write kz Q 16 [(0, zR 50), (2, zI ((v2 + 1)))] [] (d, G, E_35)))) ∧ (¬ ((E 101 (v2 - 1)) ≠ 0) → zin (v2 + (-1)) ∧ Z zm_X12_write kz Q 16 [(0, zR 50), (2, zI ((v2 + (-1))))] [] (d, G, E))))) : Z zm_X12_write kz Q 16 [(0, zR 50), (2, zI v2)] [] (d, G, E) := by
  refine Z.iload_n (k := 1) dX12_write_16 rfl ?_
  refine Z.if_le 160 dX12_write_17 rfl ⟨fun c_1 => ?_, fun c_1 => ?_⟩
  · replace K := K.1 c_1
    exact Z.vret dX12_write_160 rfl K
  · replace K := K.2 c_1
    refine Z.aload_n (k := 0) dX12_write_20 rfl ?_
    refine Y.getI 52 dX12_write_21 zl_X12_259 (rfl) (by decide) rfl (zM_1 hM).2.1 ?_
    refine Z.bipush (n := 31) dX12_write_24 ⟨by decide, by decide⟩ (by decide) ?_
    refine Z.icmp_ge 160 dX12_write_26 rfl ⟨fun c_2 => ?_, fun c_2 => ?_⟩
    · replace K := K.1 c_2
      exact Z.vret dX12_write_160 rfl K
    · replace K := K.2 c_2
      refine Z.iload_n (k := 1) dX12_write_29 rfl ?_
      refine Z.iconst (n := 1) dX12_write_30 ⟨by decide, by decide⟩ ?_
      obtain ⟨z_3, K⟩ := K
      refine Z.isub dX12_write_31 z_3 ?_
      refine Z.istore_n (ls' := [(3, zI ((v2 - 1))), (0, zR 50), (2, zI v2)]) dX12_write_32 (by decide) rfl ?_
      refine Z.aload_n (k := 1) dX12_write_33 rfl ?_
      refine Y.getR (o := some 101) 50 dX12_write_34 zl_X12_120 (rfl) (by decide) rfl (zM_1 hM).2.1 (zM_50 hM).1 ?_
      refine Z.iload_n (k := 0) dX12_write_37 rfl ?_
      obtain ⟨z_4, K⟩ := K
      refine Y.iald dX12_write_38 (rfl) ((zM_50 hM).2.2) z_4 ?_
      refine Z.if_ne 48 dX12_write_39 rfl ⟨fun c_5 => ?_, fun c_5 => ?_⟩
      · replace K := K.1 c_5
        refine Z.aload_n (k := 1) dX12_write_48 rfl ?_
        refine Z.aload_n (k := 1) dX12_write_49 rfl ?_
        refine Y.getR (o := some 99) 48 dX12_write_50 zl_X12_114 (rfl) (by decide) rfl (zM_1 hM).2.1 (zM_48 hM).1 ?_
        refine Z.iload_n (k := 0) dX12_write_53 rfl ?_
        obtain ⟨z_6, K⟩ := K
        refine Y.iald dX12_write_54 (rfl) ((zM_48 hM).2.2) z_6 ?_
        obtain ⟨x_7, m_8, K⟩ := K
        refine Y.callV (g := zm_X12_standsAt) (vs := [zI ((E 99 (v2 - 1)))]) (st := []) dX12_write_55 ⟨zg_X12_standsAt.1, zg_X12_standsAt.2.1, zg_X12_standsAt.2.2, by decide⟩ ⟨zk_X12_249, zv_X12_standsAt⟩ (ci := 12) (rfl) rfl ((zM_1 hM).2.1) rfl rfl (Nat.le_of_ble_eq_true rfl) m_8 (Or.inl rfl) ?_
        show Z zm_X12_write kz Q 58 [(3, zI ((v2 - 1))), (0, zR 50), (2, zI v2)] [zI x_7] (d, G, E)
        refine Z.istore (ls' := [(4, zI x_7), (3, zI ((v2 - 1))), (0, zR 50), (2, zI v2)]) dX12_write_58 (by decide) rfl ?_
        refine Z.aload_n (k := 2) dX12_write_60 rfl ?_
        refine Y.getR (o := some 99) 48 dX12_write_61 zl_X12_114 (rfl) (by decide) rfl (zM_1 hM).2.1 (zM_48 hM).1 ?_
        refine Z.iload_n (k := 1) dX12_write_64 rfl ?_
        refine Z.aload_n (k := 2) dX12_write_65 rfl ?_
        refine Z.aload_n (k := 2) dX12_write_66 rfl ?_
        refine Y.getR (o := some 97) 46 dX12_write_67 zl_X12_108 (rfl) (by decide) rfl (zM_1 hM).2.1 (zM_46 hM).1 ?_
        refine Z.aload_n (k := 2) dX12_write_70 rfl ?_
        refine Y.getR (o := some 99) 48 dX12_write_71 zl_X12_114 (rfl) (by decide) rfl (zM_1 hM).2.1 (zM_48 hM).1 ?_
        refine Z.iload_n (k := 1) dX12_write_74 rfl ?_
        obtain ⟨z_10, K⟩ := K
        refine Y.iald dX12_write_75 (rfl) ((zM_48 hM).2.2) z_10 ?_
        obtain ⟨x_11, m_12, K⟩ := K
        refine Y.callV (g := zm_X12_endOf) (vs := [zR 97, zI ((E 99 (v2 - 1)))]) (st := [zI ((v2 - 1)), zR 99]) dX12_write_76 ⟨zg_X12_endOf.1, zg_X12_endOf.2.1, zg_X12_endOf.2.2, by decide⟩ ⟨zk_X12_148, zv_X12_endOf⟩ (ci := 12) (rfl) rfl ((zM_1 hM).2.1) rfl rfl (Nat.le_of_ble_eq_true rfl) m_12 (Or.inl rfl) ?_
        show Z zm_X12_write kz Q 79 [(4, zI x_7), (3, zI ((v2 - 1))), (0, zR 50), (2, zI v2)] [zI x_11, zI ((v2 - 1)), zR 99] (d, G, E)
        obtain ⟨z_14, K⟩ := K
        refine Y.iast dX12_write_79 (rfl) ((zM_48 hM).2.2) z_14 ?_
        generalize eE_15 : zuE E 99 ((v2 - 1)) x_11 = E_15
        replace K := K E_15 eE_15.symm
        refine Z.aload_n (k := 2) dX12_write_80 rfl ?_
        refine Y.getR (o := some 101) 50 dX12_write_81 zl_X12_120 (rfl) (by decide) rfl (zM_1 hM).2.1 (zM_50 hM).1 ?_
        refine Z.iload_n (k := 1) dX12_write_84 rfl ?_
        refine Z.dup2_i dX12_write_85 (fun _ => rfl) (fun _ => rfl) ?_
        obtain ⟨z_16, K⟩ := K
        refine Y.iald dX12_write_86 (rfl) ((zM_50 hM).2.2) z_16 ?_
        refine Z.iconst (n := 1) dX12_write_87 ⟨by decide, by decide⟩ ?_
        obtain ⟨z_17, K⟩ := K
        refine Z.isub dX12_write_88 z_17 ?_
        obtain ⟨z_18, K⟩ := K
        refine Y.iast dX12_write_89 (rfl) ((zM_50 hM).2.2) z_18 ?_
        generalize eE_19 : zuE E_15 101 ((v2 - 1)) (((E_15 101 (v2 - 1)) - 1)) = E_19
        replace K := K E_19 eE_19.symm
        refine Z.aload_n (k := 2) dX12_write_90 rfl ?_
        refine Z.aload_n (k := 2) dX12_write_91 rfl ?_
        refine Y.getR (o := some 97) 46 dX12_write_92 zl_X12_108 (rfl) (by decide) rfl (zM_1 hM).2.1 (zM_46 hM).1 ?_
        refine Z.iload (k := 0) dX12_write_95 rfl ?_
        obtain ⟨z_20, K⟩ := K
        refine Y.iald dX12_write_97 (rfl) ((zM_46 hM).2.2) z_20 ?_
        obtain ⟨E_21, m_22, K⟩ := K
        refine Y.callV (g := zm_X12_put) (vs := [zI ((E_19 97 x_7))]) (st := []) dX12_write_98 ⟨zg_X12_put.1, zg_X12_put.2.1, zg_X12_put.2.2, by decide⟩ ⟨zk_X12_262, zv_X12_put⟩ (ci := 12) (rfl) rfl ((zM_1 hM).2.1) rfl rfl (Nat.le_of_ble_eq_true rfl) m_22 (Or.inl rfl) ?_
        show Z zm_X12_write kz Q 101 [(4, zI x_7), (3, zI ((v2 - 1))), (0, zR 50), (2, zI v2)] [] (d, G, E_21)
        refine Z.aload_n (k := 2) dX12_write_101 rfl ?_
        refine Y.getR (o := some 97) 46 dX12_write_102 zl_X12_108 (rfl) (by decide) rfl (zM_1 hM).2.1 (zM_46 hM).1 ?_
        refine Z.iload (k := 0) dX12_write_105 rfl ?_
        obtain ⟨z_24, K⟩ := K
        refine Y.iald dX12_write_107 (rfl) ((zM_46 hM).2.2) z_24 ?_
        refine Z.if_lt 157 dX12_write_108 rfl ⟨fun c_25 => ?_, fun c_25 => ?_⟩
        · replace K := K.1 c_25
          refine Z.goto 16 dX12_write_157 rfl ?_
          refine Z.pick (ls' := [(0, zR 50), (2, zI v2)]) [2, 3] rfl ?_
          exact K
        · replace K := K.2 c_25
          refine Z.aload_n (k := 2) dX12_write_111 rfl ?_
          refine Y.getR (o := some 53) 2 dX12_write_112 zl_X12_17 (rfl) (by decide) rfl (zM_1 hM).2.1 (zM_2 hM).1 ?_
          refine Z.aload_n (k := 2) dX12_write_115 rfl ?_
          refine Y.getR (o := some 97) 46 dX12_write_116 zl_X12_108 (rfl) (by decide) rfl (zM_1 hM).2.1 (zM_46 hM).1 ?_
          refine Z.iload (k := 0) dX12_write_119 rfl ?_
          obtain ⟨z_26, K⟩ := K
          refine Y.iald dX12_write_121 (rfl) ((zM_46 hM).2.2) z_26 ?_
          obtain ⟨z_27, K⟩ := K
          refine Y.iald dX12_write_122 (rfl) ((zM_2 hM).2.2) z_27 ?_
          refine Z.if_le 157 dX12_write_123 rfl ⟨fun c_28 => ?_, fun c_28 => ?_⟩
          · replace K := K.1 c_28
            refine Z.goto 16 dX12_write_157 rfl ?_
            refine Z.pick (ls' := [(0, zR 50), (2, zI v2)]) [2, 3] rfl ?_
            exact K
          · replace K := K.2 c_28
            refine Z.aload_n (k := 2) dX12_write_126 rfl ?_
            refine Y.getR (o := some 99) 48 dX12_write_127 zl_X12_114 (rfl) (by decide) rfl (zM_1 hM).2.1 (zM_48 hM).1 ?_
            refine Z.iload_n (k := 3) dX12_write_130 rfl ?_
            refine Z.iload (k := 0) dX12_write_131 rfl ?_
            refine Z.iconst (n := 1) dX12_write_133 ⟨by decide, by decide⟩ ?_
            obtain ⟨z_29, K⟩ := K
            refine Z.iadd dX12_write_134 z_29 ?_
            obtain ⟨z_30, K⟩ := K
            refine Y.iast dX12_write_135 (rfl) ((zM_48 hM).2.2) z_30 ?_
            generalize eE_31 : zuE E_21 99 v2 ((x_7 + 1)) = E_31
            replace K := K E_31 eE_31.symm
            refine Z.aload_n (k := 2) dX12_write_136 rfl ?_
            refine Y.getR (o := some 101) 50 dX12_write_137 zl_X12_120 (rfl) (by decide) rfl (zM_1 hM).2.1 (zM_50 hM).1 ?_
            refine Z.iload_n (k := 3) dX12_write_140 rfl ?_
            refine Z.aload_n (k := 2) dX12_write_141 rfl ?_
            refine Y.getR (o := some 53) 2 dX12_write_142 zl_X12_17 (rfl) (by decide) rfl (zM_1 hM).2.1 (zM_2 hM).1 ?_
            refine Z.aload_n (k := 2) dX12_write_145 rfl ?_
            refine Y.getR (o := some 97) 46 dX12_write_146 zl_X12_108 (rfl) (by decide) rfl (zM_1 hM).2.1 (zM_46 hM).1 ?_
            refine Z.iload (k := 0) dX12_write_149 rfl ?_
            obtain ⟨z_32, K⟩ := K
            refine Y.iald dX12_write_151 (rfl) ((zM_46 hM).2.2) z_32 ?_
            obtain ⟨z_33, K⟩ := K
            refine Y.iald dX12_write_152 (rfl) ((zM_2 hM).2.2) z_33 ?_
            obtain ⟨z_34, K⟩ := K
            refine Y.iast dX12_write_153 (rfl) ((zM_50 hM).2.2) z_34 ?_
            generalize eE_35 : zuE E_31 101 v2 ((E_31 53 (E_31 97 x_7))) = E_35
            replace K := K E_35 eE_35.symm
            obtain ⟨z_36, K⟩ := K
            refine Z.iinc (k := 3) (ls' := [(2, zI ((v2 + 1))), (4, zI x_7), (3, zI ((v2 - 1))), (0, zR 50)]) dX12_write_154 rfl (by decide) z_36 rfl ?_
            refine Z.goto 16 dX12_write_157 rfl ?_
            refine Z.pick (ls' := [(0, zR 50), (2, zI ((v2 + 1)))]) [3, 0] rfl ?_
            exact K
      · replace K := K.2 c_5
        obtain ⟨z_37, K⟩ := K
        refine Z.iinc (k := 2) (ls' := [(2, zI ((v2 + (-1)))), (3, zI ((v2 - 1))), (0, zR 50)]) dX12_write_42 rfl (by decide) z_37 rfl ?_
        refine Z.goto 157 dX12_write_45 rfl ?_
        refine Z.goto 16 dX12_write_157 rfl ?_
        refine Z.pick (ls' := [(0, zR 50), (2, zI ((v2 + (-1))))]) [2, 0] rfl ?_
        exact K
set_option maxRecDepth 20000 in
theorem X12_comes_0 {kz : Nat × Nat} {Q : Option zV → zH → Prop} {d : List Nat} {G : Nat → Int → Option Nat} {E : Nat → Int → Int} {v1 : Int} (hM : zK zMt d G) (K : (30 < (E 50 52) → Q (some (zI 0)) (d, G, E)) ∧ (¬ (30 < (E 50 52)) → ((E 50 24) ≠ 6 → Z zm_X12_comes kz Q 22 [(0, zR 50), (1, zI v1), (2, zI 0)] [] (d, G, E)) ∧ (¬ ((E 50 24) ≠ 6) → Q (some (zI 0)) (d, G, E)))) : Z zm_X12_comes kz Q 0 [(0, zR 50), (1, zI v1)] [] (d, G, E) := by
  refine Z.aload_n (k := 0) dX12_comes_0 rfl ?_
  refine Y.getI 52 dX12_comes_1 zl_X12_259 (rfl) (by decide) rfl (zM_1 hM).2.1 ?_
  refine Z.bipush (n := 30) dX12_comes_4 ⟨by decide, by decide⟩ (by decide) ?_
  refine Z.icmp_gt 18 dX12_comes_6 rfl ⟨fun c_1 => ?_, fun c_1 => ?_⟩
  · replace K := K.1 c_1
    refine Z.iconst (n := 0) dX12_comes_18 ⟨by decide, by decide⟩ ?_
    exact Z.iret (ty := .boolean) dX12_comes_19 rfl rfl K
  · replace K := K.2 c_1
    refine Z.aload_n (k := 0) dX12_comes_9 rfl ?_
    refine Y.getI 24 dX12_comes_10 zl_X12_167 (rfl) (by decide) rfl (zM_1 hM).2.1 ?_
    refine Z.bipush (n := 6) dX12_comes_13 ⟨by decide, by decide⟩ (by decide) ?_
    refine Z.icmp_ne 20 dX12_comes_15 rfl ⟨fun c_2 => ?_, fun c_2 => ?_⟩
    · replace K := K.1 c_2
      refine Z.iconst (n := 0) dX12_comes_20 ⟨by decide, by decide⟩ ?_
      refine Z.istore_n (ls' := [(2, zI 0), (0, zR 50), (1, zI v1)]) dX12_comes_21 (by decide) rfl ?_
      refine Z.pick (ls' := [(0, zR 50), (1, zI v1), (2, zI 0)]) [1, 2, 0] rfl ?_
      exact K
    · replace K := K.2 c_2
      refine Z.iconst (n := 0) dX12_comes_18 ⟨by decide, by decide⟩ ?_
      exact Z.iret (ty := .boolean) dX12_comes_19 rfl rfl K
set_option maxRecDepth 20000 in
theorem X12_comes_22 {kz : Nat × Nat} {Q : Option zV → zH → Prop} {d : List Nat} {G : Nat → Int → Option Nat} {E : Nat → Int → Int} {v1 : Int} {v2 : Int} (hM : zK zMt d G) (K : ((E 50 52) ≤ v2 → ((0 : Int) ≤ (E 50 24) ∧ (E 50 24) < (6 : Int)) ∧ ∀ E_3, E_3 = zuE E 73 ((E 50 24)) ((E 50 52)) → ((0 : Int) ≤ (E_3 50 24) ∧ (E_3 50 24) < (6 : Int)) ∧ (v1 = 0 ∨ v1 = 1) ∧ ∀ E_6, E_6 = zuE E_3 74 ((E_3 50 24)) v1 → zin ((E_6 50 24) + 1) ∧ ∀ E_8, E_8 = zuE E_6 50 24 (((E_6 50 24) + 1)) → Q (some (zI 1)) (d, G, E_8)) ∧ (¬ ((E 50 52) ≤ v2) → zin (30 * (E 50 24)) ∧ zin ((30 * (E 50 24)) + v2) ∧ ((0 : Int) ≤ v2 ∧ v2 < (31 : Int)) ∧ ((0 : Int) ≤ ((30 * (E 50 24)) + v2) ∧ ((30 * (E 50 24)) + v2) < (180 : Int)) ∧ ∀ E_13, E_13 = zuE E 72 (((30 * (E 50 24)) + v2)) ((E 102 v2)) → zin (v2 + 1) ∧ Z zm_X12_comes kz Q 22 [(0, zR 50), (1, zI v1), (2, zI ((v2 + 1)))] [] (d, G, E_13))) : Z zm_X12_comes kz Q 22 [(0, zR 50), (1, zI v1), (2, zI v2)] [] (d, G, E) := by
  refine Z.iload_n (k := 2) dX12_comes_22 rfl ?_
  refine Z.aload_n (k := 0) dX12_comes_23 rfl ?_
  refine Y.getI 52 dX12_comes_24 zl_X12_259 (rfl) (by decide) rfl (zM_1 hM).2.1 ?_
  refine Z.icmp_ge 56 dX12_comes_27 rfl ⟨fun c_1 => ?_, fun c_1 => ?_⟩
  · replace K := K.1 c_1
    refine Z.aload_n (k := 0) dX12_comes_56 rfl ?_
    refine Y.getR (o := some 73) 22 dX12_comes_57 zl_X12_72 (rfl) (by decide) rfl (zM_1 hM).2.1 (zM_22 hM).1 ?_
    refine Z.aload_n (k := 0) dX12_comes_60 rfl ?_
    refine Y.getI 24 dX12_comes_61 zl_X12_167 (rfl) (by decide) rfl (zM_1 hM).2.1 ?_
    refine Z.aload_n (k := 0) dX12_comes_64 rfl ?_
    refine Y.getI 52 dX12_comes_65 zl_X12_259 (rfl) (by decide) rfl (zM_1 hM).2.1 ?_
    obtain ⟨z_2, K⟩ := K
    refine Y.iast dX12_comes_68 (rfl) ((zM_22 hM).2.2) z_2 ?_
    generalize eE_3 : zuE E 73 ((E 50 24)) ((E 50 52)) = E_3
    replace K := K E_3 eE_3.symm
    refine Z.aload_n (k := 0) dX12_comes_69 rfl ?_
    refine Y.getR (o := some 74) 23 dX12_comes_70 zl_X12_75 (rfl) (by decide) rfl (zM_1 hM).2.1 (zM_23 hM).1 ?_
    refine Z.aload_n (k := 0) dX12_comes_73 rfl ?_
    refine Y.getI 24 dX12_comes_74 zl_X12_167 (rfl) (by decide) rfl (zM_1 hM).2.1 ?_
    refine Z.iload_n (k := 1) dX12_comes_77 rfl ?_
    obtain ⟨z_4, K⟩ := K
    obtain ⟨z_5, K⟩ := K
    refine Y.zast dX12_comes_78 (rfl) ((zM_23 hM).2.2) z_4 z_5 ?_
    generalize eE_6 : zuE E_3 74 ((E_3 50 24)) v1 = E_6
    replace K := K E_6 eE_6.symm
    refine Z.aload_n (k := 0) dX12_comes_79 rfl ?_
    refine Z.dup_i dX12_comes_80 (fun _ => rfl) ?_
    refine Y.getI 24 dX12_comes_81 zl_X12_167 (rfl) (by decide) rfl (zM_1 hM).2.1 ?_
    refine Z.iconst (n := 1) dX12_comes_84 ⟨by decide, by decide⟩ ?_
    obtain ⟨z_7, K⟩ := K
    refine Z.iadd dX12_comes_85 z_7 ?_
    refine Y.putI 24 dX12_comes_86 zw_X12_167 (fun q => by cases q) (rfl) rfl (zM_1 hM).2.1 (Or.inl rfl) ?_
    generalize eE_8 : zuE E_6 50 24 (((E_6 50 24) + 1)) = E_8
    replace K := K E_8 eE_8.symm
    refine Z.iconst (n := 1) dX12_comes_89 ⟨by decide, by decide⟩ ?_
    exact Z.iret (ty := .boolean) dX12_comes_90 rfl rfl K
  · replace K := K.2 c_1
    refine Z.aload_n (k := 0) dX12_comes_30 rfl ?_
    refine Y.getR (o := some 72) 21 dX12_comes_31 zl_X12_69 (rfl) (by decide) rfl (zM_1 hM).2.1 (zM_21 hM).1 ?_
    refine Z.bipush (n := 30) dX12_comes_34 ⟨by decide, by decide⟩ (by decide) ?_
    refine Z.aload_n (k := 0) dX12_comes_36 rfl ?_
    refine Y.getI 24 dX12_comes_37 zl_X12_167 (rfl) (by decide) rfl (zM_1 hM).2.1 ?_
    obtain ⟨z_9, K⟩ := K
    refine Z.imul dX12_comes_40 z_9 ?_
    refine Z.iload_n (k := 2) dX12_comes_41 rfl ?_
    obtain ⟨z_10, K⟩ := K
    refine Z.iadd dX12_comes_42 z_10 ?_
    refine Z.aload_n (k := 0) dX12_comes_43 rfl ?_
    refine Y.getR (o := some 102) 51 dX12_comes_44 zl_X12_123 (rfl) (by decide) rfl (zM_1 hM).2.1 (zM_51 hM).1 ?_
    refine Z.iload_n (k := 2) dX12_comes_47 rfl ?_
    obtain ⟨z_11, K⟩ := K
    refine Y.iald dX12_comes_48 (rfl) ((zM_51 hM).2.2) z_11 ?_
    obtain ⟨z_12, K⟩ := K
    refine Y.iast dX12_comes_49 (rfl) ((zM_21 hM).2.2) z_12 ?_
    generalize eE_13 : zuE E 72 (((30 * (E 50 24)) + v2)) ((E 102 v2)) = E_13
    replace K := K E_13 eE_13.symm
    obtain ⟨z_14, K⟩ := K
    refine Z.iinc (k := 2) (ls' := [(2, zI ((v2 + 1))), (0, zR 50), (1, zI v1)]) dX12_comes_50 rfl (by decide) z_14 rfl ?_
    refine Z.goto 22 dX12_comes_53 rfl ?_
    refine Z.pick (ls' := [(0, zR 50), (1, zI v1), (2, zI ((v2 + 1)))]) [1, 2, 0] rfl ?_
    exact K
set_option maxRecDepth 20000 in
theorem X12_writesAll_0 {kz : Nat × Nat} {Q : Option zV → zH → Prop} {d : List Nat} {G : Nat → Int → Option Nat} {E : Nat → Int → Int} {v1 : Int} {v2 : Int} {v3 : Int} (hM : zK zMt d G) (K : Z zm_X12_writesAll kz Q 3 [(0, zR 50), (1, zI v1), (2, zI v2), (3, zI v3), (4, zI 0)] [] (d, G, E)) : Z zm_X12_writesAll kz Q 0 [(0, zR 50), (1, zI v1), (2, zI v2), (3, zI v3)] [] (d, G, E) := by
  refine Z.iconst (n := 0) dX12_writesAll_0 ⟨by decide, by decide⟩ ?_
  refine Z.istore (ls' := [(4, zI 0), (0, zR 50), (1, zI v1), (2, zI v2), (3, zI v3)]) dX12_writesAll_1 (by decide) rfl ?_
  refine Z.pick (ls' := [(0, zR 50), (1, zI v1), (2, zI v2), (3, zI v3), (4, zI 0)]) [1, 2, 3, 4, 0] rfl ?_
  exact K
set_option maxRecDepth 20000 in
theorem X12_writesAll_3 {kz : Nat × Nat} {Q : Option zV → zH → Prop} {d : List Nat} {G : Nat → Int → Option Nat} {E : Nat → Int → Int} {v1 : Int} {v2 : Int} {v3 : Int} {v4 : Int} (hM : zK zMt d G) (K : ((0 : Int) ≤ v1 ∧ v1 < (150 : Int)) ∧ ((E 61 v1) ≤ v4 → Q (some (zI 1)) (d, G, E)) ∧ (¬ ((E 61 v1) ≤ v4) → (v4 = v3 → zin (v4 + 1) ∧ Z zm_X12_writesAll kz Q 3 [(0, zR 50), (1, zI v1), (2, zI v2), (3, zI v3), (4, zI ((v4 + 1)))] [] (d, G, E)) ∧ (¬ (v4 = v3) → ∀ E_5, E_5 = zuE E 50 52 0 → zin (30 * v4) ∧ zin (v2 + (30 * v4)) ∧ ∃ E_8, zM zm_X12_write [zR 50, zI ((v2 + (30 * v4)))] (d, G, E_5) none (d, G, E_8) ∧ zin (6 * v1) ∧ zin ((6 * v1) + v4) ∧ ((0 : Int) ≤ ((6 * v1) + v4) ∧ ((6 * v1) + v4) < (900 : Int)) ∧ ∃ x_14 E_15, zM zm_X12_comes [zR 50, zI ((E_8 60 ((6 * v1) + v4)))] (d, G, E_8) (some (zI x_14)) (d, G, E_15) ∧ (x_14 ≠ 0 → zin (v4 + 1) ∧ Z zm_X12_writesAll kz Q 3 [(0, zR 50), (1, zI v1), (2, zI v2), (3, zI v3), (4, zI ((v4 + 1)))] [] (d, G, E_15)) ∧ (¬ (x_14 ≠ 0) → Q (some (zI 0)) (d, G, E_15))))) : Z zm_X12_writesAll kz Q 3 [(0, zR 50), (1, zI v1), (2, zI v2), (3, zI v3), (4, zI v4)] [] (d, G, E) := by
  refine Z.iload (k := 4) dX12_writesAll_3 rfl ?_
  refine Z.aload_n (k := 0) dX12_writesAll_5 rfl ?_
  refine Y.getR (o := some 61) 10 dX12_writesAll_6 zl_X12_36 (rfl) (by decide) rfl (zM_1 hM).2.1 (zM_10 hM).1 ?_
  refine Z.iload_n (k := 1) dX12_writesAll_9 rfl ?_
  obtain ⟨z_1, K⟩ := K
  refine Y.iald dX12_writesAll_10 (rfl) ((zM_10 hM).2.2) z_1 ?_
  refine Z.icmp_ge 63 dX12_writesAll_11 rfl ⟨fun c_2 => ?_, fun c_2 => ?_⟩
  · replace K := K.1 c_2
    refine Z.iconst (n := 1) dX12_writesAll_63 ⟨by decide, by decide⟩ ?_
    exact Z.iret (ty := .boolean) dX12_writesAll_64 rfl rfl K
  · replace K := K.2 c_2
    refine Z.iload (k := 4) dX12_writesAll_14 rfl ?_
    refine Z.iload_n (k := 3) dX12_writesAll_16 rfl ?_
    refine Z.icmp_eq 57 dX12_writesAll_17 rfl ⟨fun c_3 => ?_, fun c_3 => ?_⟩
    · replace K := K.1 c_3
      obtain ⟨z_4, K⟩ := K
      refine Z.iinc (k := 4) (ls' := [(4, zI ((v4 + 1))), (0, zR 50), (1, zI v1), (2, zI v2), (3, zI v3)]) dX12_writesAll_57 rfl (by decide) z_4 rfl ?_
      refine Z.goto 3 dX12_writesAll_60 rfl ?_
      refine Z.pick (ls' := [(0, zR 50), (1, zI v1), (2, zI v2), (3, zI v3), (4, zI ((v4 + 1)))]) [1, 2, 3, 4, 0] rfl ?_
      exact K
    · replace K := K.2 c_3
      refine Z.aload_n (k := 0) dX12_writesAll_20 rfl ?_
      refine Z.iconst (n := 0) dX12_writesAll_21 ⟨by decide, by decide⟩ ?_
      refine Y.putI 52 dX12_writesAll_22 zw_X12_259 (fun q => by cases q) (rfl) rfl (zM_1 hM).2.1 (Or.inl rfl) ?_
      generalize eE_5 : zuE E 50 52 0 = E_5
      replace K := K E_5 eE_5.symm
      refine Z.aload_n (k := 0) dX12_writesAll_25 rfl ?_
      refine Z.iload_n (k := 2) dX12_writesAll_26 rfl ?_
      refine Z.bipush (n := 30) dX12_writesAll_27 ⟨by decide, by decide⟩ (by decide) ?_
      refine Z.iload (k := 4) dX12_writesAll_29 rfl ?_
      obtain ⟨z_6, K⟩ := K
      refine Z.imul dX12_writesAll_31 z_6 ?_
      obtain ⟨z_7, K⟩ := K
      refine Z.iadd dX12_writesAll_32 z_7 ?_
      obtain ⟨E_8, m_9, K⟩ := K
      refine Y.callV (g := zm_X12_write) (vs := [zI ((v2 + (30 * v4)))]) (st := []) dX12_writesAll_33 ⟨zg_X12_write.1, zg_X12_write.2.1, zg_X12_write.2.2, by decide⟩ ⟨zk_X12_265, zv_X12_write⟩ (ci := 12) (rfl) rfl ((zM_1 hM).2.1) rfl rfl (Nat.le_of_ble_eq_true rfl) m_9 (Or.inl rfl) ?_
      show Z zm_X12_writesAll kz Q 36 [(0, zR 50), (1, zI v1), (2, zI v2), (3, zI v3), (4, zI v4)] [] (d, G, E_8)
      refine Z.aload_n (k := 0) dX12_writesAll_36 rfl ?_
      refine Z.aload_n (k := 0) dX12_writesAll_37 rfl ?_
      refine Y.getR (o := some 60) 9 dX12_writesAll_38 zl_X12_33 (rfl) (by decide) rfl (zM_1 hM).2.1 (zM_9 hM).1 ?_
      refine Z.bipush (n := 6) dX12_writesAll_41 ⟨by decide, by decide⟩ (by decide) ?_
      refine Z.iload_n (k := 1) dX12_writesAll_43 rfl ?_
      obtain ⟨z_11, K⟩ := K
      refine Z.imul dX12_writesAll_44 z_11 ?_
      refine Z.iload (k := 4) dX12_writesAll_45 rfl ?_
      obtain ⟨z_12, K⟩ := K
      refine Z.iadd dX12_writesAll_47 z_12 ?_
      obtain ⟨z_13, K⟩ := K
      refine Y.zald dX12_writesAll_48 (rfl) ((zM_9 hM).2.2) z_13 ?_
      obtain ⟨x_14, E_15, m_16, K⟩ := K
      refine Y.callV (g := zm_X12_comes) (vs := [zI ((E_8 60 ((6 * v1) + v4)))]) (st := []) dX12_writesAll_49 ⟨zg_X12_comes.1, zg_X12_comes.2.1, zg_X12_comes.2.2, by decide⟩ ⟨zk_X12_268, zv_X12_comes⟩ (ci := 12) (rfl) rfl ((zM_1 hM).2.1) rfl rfl (Nat.le_of_ble_eq_true rfl) m_16 (Or.inl rfl) ?_
      show Z zm_X12_writesAll kz Q 52 [(0, zR 50), (1, zI v1), (2, zI v2), (3, zI v3), (4, zI v4)] [zI x_14] (d, G, E_15)
      refine Z.if_ne 57 dX12_writesAll_52 rfl ⟨fun c_18 => ?_, fun c_18 => ?_⟩
      · replace K := K.1 c_18
        obtain ⟨z_19, K⟩ := K
        refine Z.iinc (k := 4) (ls' := [(4, zI ((v4 + 1))), (0, zR 50), (1, zI v1), (2, zI v2), (3, zI v3)]) dX12_writesAll_57 rfl (by decide) z_19 rfl ?_
        refine Z.goto 3 dX12_writesAll_60 rfl ?_
        refine Z.pick (ls' := [(0, zR 50), (1, zI v1), (2, zI v2), (3, zI v3), (4, zI ((v4 + 1)))]) [1, 2, 3, 4, 0] rfl ?_
        exact K
      · replace K := K.2 c_18
        refine Z.iconst (n := 0) dX12_writesAll_55 ⟨by decide, by decide⟩ ?_
        exact Z.iret (ty := .boolean) dX12_writesAll_56 rfl rfl K
set_option maxRecDepth 20000 in
theorem X12_chosenOf_0 {kz : Nat × Nat} {Q : Option zV → zH → Prop} {d : List Nat} {G : Nat → Int → Option Nat} {E : Nat → Int → Int} {v1 : Int} (hM : zK zMt d G) (K : Z zm_X12_chosenOf kz Q 7 [(0, zR 50), (1, zI v1), (2, zI ((-1))), (3, zI 0), (4, zI 0)] [] (d, G, E)) : Z zm_X12_chosenOf kz Q 0 [(0, zR 50), (1, zI v1)] [] (d, G, E) := by
  refine Z.iconst (n := -1) dX12_chosenOf_0 ⟨by decide, by decide⟩ ?_
  refine Z.istore_n (ls' := [(2, zI ((-1))), (0, zR 50), (1, zI v1)]) dX12_chosenOf_1 (by decide) rfl ?_
  refine Z.iconst (n := 0) dX12_chosenOf_2 ⟨by decide, by decide⟩ ?_
  refine Z.istore_n (ls' := [(3, zI 0), (2, zI ((-1))), (0, zR 50), (1, zI v1)]) dX12_chosenOf_3 (by decide) rfl ?_
  refine Z.iconst (n := 0) dX12_chosenOf_4 ⟨by decide, by decide⟩ ?_
  refine Z.istore (ls' := [(4, zI 0), (3, zI 0), (2, zI ((-1))), (0, zR 50), (1, zI v1)]) dX12_chosenOf_5 (by decide) rfl ?_
  refine Z.pick (ls' := [(0, zR 50), (1, zI v1), (2, zI ((-1))), (3, zI 0), (4, zI 0)]) [3, 4, 2, 1, 0] rfl ?_
  exact K
set_option maxRecDepth 20000 in
theorem X12_chosenOf_7 {kz : Nat × Nat} {Q : Option zV → zH → Prop} {d : List Nat} {G : Nat → Int → Option Nat} {E : Nat → Int → Int} {v1 : Int} {v2 : Int} {v3 : Int} {v4 : Int} (hM : zK zMt d G) (K : ((0 : Int) ≤ v1 ∧ v1 < (150 : Int)) ∧ ((E 61 v1) ≤ v4 → Q (some (zI v2)) (d, G, E)) ∧ (¬ ((E 61 v1) ≤ v4) → zin (6 * v1) ∧ zin ((6 * v1) + v4) ∧ zin (30 * ((6 * v1) + v4)) ∧ zin (6 * v1) ∧ zin ((6 * v1) + v4) ∧ ((0 : Int) ≤ ((6 * v1) + v4) ∧ ((6 * v1) + v4) < (900 : Int)) ∧ zin ((30 * ((6 * v1) + v4)) + (E 59 ((6 * v1) + v4))) ∧ ∃ x_10, zM zm_X12_weightOf [zR 50, zR 58, zI ((30 * ((6 * v1) + v4))), zI (((30 * ((6 * v1) + v4)) + (E 59 ((6 * v1) + v4))))] (d, G, E) (some (zI x_10)) (d, G, E) ∧ zin (6 * v1) ∧ zin ((6 * v1) + v4) ∧ ((0 : Int) ≤ ((6 * v1) + v4) ∧ ((6 * v1) + v4) < (900 : Int)) ∧ ((E 60 ((6 * v1) + v4)) = 0 → zin (v4 + 1) ∧ Z zm_X12_chosenOf kz Q 7 [(0, zR 50), (1, zI v1), (2, zI v2), (3, zI v3), (4, zI ((v4 + 1)))] [] (d, G, E)) ∧ (¬ ((E 60 ((6 * v1) + v4)) = 0) → (v2 = (-1) → zin (v4 + 1) ∧ Z zm_X12_chosenOf kz Q 7 [(0, zR 50), (1, zI v1), (2, zI v4), (3, zI x_10), (4, zI ((v4 + 1)))] [] (d, G, E)) ∧ (¬ (v2 = (-1)) → (x_10 ≤ v3 → zin (v4 + 1) ∧ Z zm_X12_chosenOf kz Q 7 [(0, zR 50), (1, zI v1), (2, zI v2), (3, zI v3), (4, zI ((v4 + 1)))] [] (d, G, E)) ∧ (¬ (x_10 ≤ v3) → zin (v4 + 1) ∧ Z zm_X12_chosenOf kz Q 7 [(0, zR 50), (1, zI v1), (2, zI v4), (3, zI x_10), (4, zI ((v4 + 1)))] [] (d, G, E)))))) : Z zm_X12_chosenOf kz Q 7 [(0, zR 50), (1, zI v1), (2, zI v2), (3, zI v3), (4, zI v4)] [] (d, G, E) := by
  refine Z.iload (k := 4) dX12_chosenOf_7 rfl ?_
  refine Z.aload_n (k := 0) dX12_chosenOf_9 rfl ?_
  refine Y.getR (o := some 61) 10 dX12_chosenOf_10 zl_X12_36 (rfl) (by decide) rfl (zM_1 hM).2.1 (zM_10 hM).1 ?_
  refine Z.iload_n (k := 1) dX12_chosenOf_13 rfl ?_
  obtain ⟨z_1, K⟩ := K
  refine Y.iald dX12_chosenOf_14 (rfl) ((zM_10 hM).2.2) z_1 ?_
  refine Z.icmp_ge 95 dX12_chosenOf_15 rfl ⟨fun c_2 => ?_, fun c_2 => ?_⟩
  · replace K := K.1 c_2
    refine Z.iload_n (k := 2) dX12_chosenOf_95 rfl ?_
    exact Z.iret (ty := .int) dX12_chosenOf_96 rfl rfl K
  · replace K := K.2 c_2
    refine Z.bipush (n := 30) dX12_chosenOf_18 ⟨by decide, by decide⟩ (by decide) ?_
    refine Z.bipush (n := 6) dX12_chosenOf_20 ⟨by decide, by decide⟩ (by decide) ?_
    refine Z.iload_n (k := 1) dX12_chosenOf_22 rfl ?_
    obtain ⟨z_3, K⟩ := K
    refine Z.imul dX12_chosenOf_23 z_3 ?_
    refine Z.iload (k := 4) dX12_chosenOf_24 rfl ?_
    obtain ⟨z_4, K⟩ := K
    refine Z.iadd dX12_chosenOf_26 z_4 ?_
    obtain ⟨z_5, K⟩ := K
    refine Z.imul dX12_chosenOf_27 z_5 ?_
    refine Z.istore (ls' := [(5, zI ((30 * ((6 * v1) + v4)))), (0, zR 50), (1, zI v1), (2, zI v2), (3, zI v3), (4, zI v4)]) dX12_chosenOf_28 (by decide) rfl ?_
    refine Z.aload_n (k := 1) dX12_chosenOf_30 rfl ?_
    refine Z.aload_n (k := 1) dX12_chosenOf_31 rfl ?_
    refine Y.getR (o := some 58) 7 dX12_chosenOf_32 zl_X12_27 (rfl) (by decide) rfl (zM_1 hM).2.1 (zM_7 hM).1 ?_
    refine Z.iload (k := 0) dX12_chosenOf_35 rfl ?_
    refine Z.iload (k := 0) dX12_chosenOf_37 rfl ?_
    refine Z.aload_n (k := 1) dX12_chosenOf_39 rfl ?_
    refine Y.getR (o := some 59) 8 dX12_chosenOf_40 zl_X12_30 (rfl) (by decide) rfl (zM_1 hM).2.1 (zM_8 hM).1 ?_
    refine Z.bipush (n := 6) dX12_chosenOf_43 ⟨by decide, by decide⟩ (by decide) ?_
    refine Z.iload_n (k := 2) dX12_chosenOf_45 rfl ?_
    obtain ⟨z_6, K⟩ := K
    refine Z.imul dX12_chosenOf_46 z_6 ?_
    refine Z.iload (k := 5) dX12_chosenOf_47 rfl ?_
    obtain ⟨z_7, K⟩ := K
    refine Z.iadd dX12_chosenOf_49 z_7 ?_
    obtain ⟨z_8, K⟩ := K
    refine Y.iald dX12_chosenOf_50 (rfl) ((zM_8 hM).2.2) z_8 ?_
    obtain ⟨z_9, K⟩ := K
    refine Z.iadd dX12_chosenOf_51 z_9 ?_
    obtain ⟨x_10, m_11, K⟩ := K
    refine Y.callV (g := zm_X12_weightOf) (vs := [zR 58, zI ((30 * ((6 * v1) + v4))), zI (((30 * ((6 * v1) + v4)) + (E 59 ((6 * v1) + v4))))]) (st := []) dX12_chosenOf_52 ⟨zg_X12_weightOf.1, zg_X12_weightOf.2.1, zg_X12_weightOf.2.2, by decide⟩ ⟨zk_X12_160, zv_X12_weightOf⟩ (ci := 12) (rfl) rfl ((zM_1 hM).2.1) rfl rfl (Nat.le_of_ble_eq_true rfl) m_11 (Or.inl rfl) ?_
    show Z zm_X12_chosenOf kz Q 55 [(5, zI ((30 * ((6 * v1) + v4)))), (0, zR 50), (1, zI v1), (2, zI v2), (3, zI v3), (4, zI v4)] [zI x_10] (d, G, E)
    refine Z.istore (ls' := [(6, zI x_10), (5, zI ((30 * ((6 * v1) + v4)))), (0, zR 50), (1, zI v1), (2, zI v2), (3, zI v3), (4, zI v4)]) dX12_chosenOf_55 (by decide) rfl ?_
    refine Z.aload_n (k := 2) dX12_chosenOf_57 rfl ?_
    refine Y.getR (o := some 60) 9 dX12_chosenOf_58 zl_X12_33 (rfl) (by decide) rfl (zM_1 hM).2.1 (zM_9 hM).1 ?_
    refine Z.bipush (n := 6) dX12_chosenOf_61 ⟨by decide, by decide⟩ (by decide) ?_
    refine Z.iload_n (k := 3) dX12_chosenOf_63 rfl ?_
    obtain ⟨z_13, K⟩ := K
    refine Z.imul dX12_chosenOf_64 z_13 ?_
    refine Z.iload (k := 6) dX12_chosenOf_65 rfl ?_
    obtain ⟨z_14, K⟩ := K
    refine Z.iadd dX12_chosenOf_67 z_14 ?_
    obtain ⟨z_15, K⟩ := K
    refine Y.zald dX12_chosenOf_68 (rfl) ((zM_9 hM).2.2) z_15 ?_
    refine Z.if_eq 89 dX12_chosenOf_69 rfl ⟨fun c_16 => ?_, fun c_16 => ?_⟩
    · replace K := K.1 c_16
      obtain ⟨z_17, K⟩ := K
      refine Z.iinc (k := 6) (ls' := [(4, zI ((v4 + 1))), (6, zI x_10), (5, zI ((30 * ((6 * v1) + v4)))), (0, zR 50), (1, zI v1), (2, zI v2), (3, zI v3)]) dX12_chosenOf_89 rfl (by decide) z_17 rfl ?_
      refine Z.goto 7 dX12_chosenOf_92 rfl ?_
      refine Z.pick (ls' := [(0, zR 50), (1, zI v1), (2, zI v2), (3, zI v3), (4, zI ((v4 + 1)))]) [3, 4, 5, 6, 0] rfl ?_
      exact K
    · replace K := K.2 c_16
      refine Z.iload_n (k := 4) dX12_chosenOf_72 rfl ?_
      refine Z.iconst (n := -1) dX12_chosenOf_73 ⟨by decide, by decide⟩ ?_
      refine Z.icmp_eq 83 dX12_chosenOf_74 rfl ⟨fun c_18 => ?_, fun c_18 => ?_⟩
      · replace K := K.1 c_18
        refine Z.iload (k := 6) dX12_chosenOf_83 rfl ?_
        refine Z.istore_n (ls' := [(2, zI v4), (6, zI x_10), (5, zI ((30 * ((6 * v1) + v4)))), (0, zR 50), (1, zI v1), (3, zI v3), (4, zI v4)]) dX12_chosenOf_85 (by decide) rfl ?_
        refine Z.iload (k := 1) dX12_chosenOf_86 rfl ?_
        refine Z.istore_n (ls' := [(3, zI x_10), (2, zI v4), (6, zI x_10), (5, zI ((30 * ((6 * v1) + v4)))), (0, zR 50), (1, zI v1), (4, zI v4)]) dX12_chosenOf_88 (by decide) rfl ?_
        obtain ⟨z_19, K⟩ := K
        refine Z.iinc (k := 6) (ls' := [(4, zI ((v4 + 1))), (3, zI x_10), (2, zI v4), (6, zI x_10), (5, zI ((30 * ((6 * v1) + v4)))), (0, zR 50), (1, zI v1)]) dX12_chosenOf_89 rfl (by decide) z_19 rfl ?_
        refine Z.goto 7 dX12_chosenOf_92 rfl ?_
        refine Z.pick (ls' := [(0, zR 50), (1, zI v1), (2, zI v4), (3, zI x_10), (4, zI ((v4 + 1)))]) [5, 6, 2, 1, 0] rfl ?_
        exact K
      · replace K := K.2 c_18
        refine Z.iload (k := 0) dX12_chosenOf_77 rfl ?_
        refine Z.iload_n (k := 5) dX12_chosenOf_79 rfl ?_
        refine Z.icmp_le 89 dX12_chosenOf_80 rfl ⟨fun c_20 => ?_, fun c_20 => ?_⟩
        · replace K := K.1 c_20
          obtain ⟨z_21, K⟩ := K
          refine Z.iinc (k := 6) (ls' := [(4, zI ((v4 + 1))), (6, zI x_10), (5, zI ((30 * ((6 * v1) + v4)))), (0, zR 50), (1, zI v1), (2, zI v2), (3, zI v3)]) dX12_chosenOf_89 rfl (by decide) z_21 rfl ?_
          refine Z.goto 7 dX12_chosenOf_92 rfl ?_
          refine Z.pick (ls' := [(0, zR 50), (1, zI v1), (2, zI v2), (3, zI v3), (4, zI ((v4 + 1)))]) [3, 4, 5, 6, 0] rfl ?_
          exact K
        · replace K := K.2 c_20
          refine Z.iload (k := 6) dX12_chosenOf_83 rfl ?_
          refine Z.istore_n (ls' := [(2, zI v4), (6, zI x_10), (5, zI ((30 * ((6 * v1) + v4)))), (0, zR 50), (1, zI v1), (3, zI v3), (4, zI v4)]) dX12_chosenOf_85 (by decide) rfl ?_
          refine Z.iload (k := 1) dX12_chosenOf_86 rfl ?_
          refine Z.istore_n (ls' := [(3, zI x_10), (2, zI v4), (6, zI x_10), (5, zI ((30 * ((6 * v1) + v4)))), (0, zR 50), (1, zI v1), (4, zI v4)]) dX12_chosenOf_88 (by decide) rfl ?_
          obtain ⟨z_22, K⟩ := K
          refine Z.iinc (k := 6) (ls' := [(4, zI ((v4 + 1))), (3, zI x_10), (2, zI v4), (6, zI x_10), (5, zI ((30 * ((6 * v1) + v4)))), (0, zR 50), (1, zI v1)]) dX12_chosenOf_89 rfl (by decide) z_22 rfl ?_
          refine Z.goto 7 dX12_chosenOf_92 rfl ?_
          refine Z.pick (ls' := [(0, zR 50), (1, zI v1), (2, zI v4), (3, zI x_10), (4, zI ((v4 + 1)))]) [5, 6, 2, 1, 0] rfl ?_
          exact K
set_option maxRecDepth 20000 in
theorem X12_isPositive_0 {kz : Nat × Nat} {Q : Option zV → zH → Prop} {d : List Nat} {G : Nat → Int → Option Nat} {E : Nat → Int → Int} {v1 : Int} (hM : zK zMt d G) (K : ∃ x_1, zM zm_X12_chosenOf [zR 50, zI v1] (d, G, E) (some (zI x_1)) (d, G, E) ∧ (x_1 ≠ (-1) → Q (some (zI 0)) (d, G, E)) ∧ (¬ (x_1 ≠ (-1)) → Q (some (zI 1)) (d, G, E))) : Z zm_X12_isPositive kz Q 0 [(0, zR 50), (1, zI v1)] [] (d, G, E) := by
  refine Z.aload_n (k := 0) dX12_isPositive_0 rfl ?_
  refine Z.iload_n (k := 1) dX12_isPositive_1 rfl ?_
  obtain ⟨x_1, m_2, K⟩ := K
  refine Y.callV (g := zm_X12_chosenOf) (vs := [zI v1]) (st := []) dX12_isPositive_2 ⟨zg_X12_chosenOf.1, zg_X12_chosenOf.2.1, zg_X12_chosenOf.2.2, by decide⟩ ⟨zk_X12_272, zv_X12_chosenOf⟩ (ci := 12) (rfl) rfl ((zM_1 hM).2.1) rfl rfl (Nat.le_of_ble_eq_true rfl) m_2 (Or.inl rfl) ?_
  show Z zm_X12_isPositive kz Q 5 [(0, zR 50), (1, zI v1)] [zI x_1] (d, G, E)
  refine Z.iconst (n := -1) dX12_isPositive_5 ⟨by decide, by decide⟩ ?_
  refine Z.icmp_ne 13 dX12_isPositive_6 rfl ⟨fun c_4 => ?_, fun c_4 => ?_⟩
  · replace K := K.1 c_4
    refine Z.iconst (n := 0) dX12_isPositive_13 ⟨by decide, by decide⟩ ?_
    exact Z.iret (ty := .boolean) dX12_isPositive_14 rfl rfl K
  · replace K := K.2 c_4
    refine Z.iconst (n := 1) dX12_isPositive_9 ⟨by decide, by decide⟩ ?_
    refine Z.goto 14 dX12_isPositive_10 rfl ?_
    exact Z.iret (ty := .boolean) dX12_isPositive_14 rfl rfl K
set_option maxRecDepth 20000 in
theorem X12_isLiteral_0 {kz : Nat × Nat} {Q : Option zV → zH → Prop} {d : List Nat} {G : Nat → Int → Option Nat} {E : Nat → Int → Int} {v1 : Int} {v2 : Int} (hM : zK zMt d G) (K : ((0 : Int) ≤ v1 ∧ v1 < (150 : Int)) ∧ zin ((E 61 v1) - 1) ∧ ∃ x_3, zM zm_X12_in [zI v2, zI 0, zI (((E 61 v1) - 1))] (d, G, E) (some (zI x_3)) (d, G, E) ∧ (x_3 = 0 ∨ x_3 = 1) ∧ Q (some (zI x_3)) (d, G, E)) : Z zm_X12_isLiteral kz Q 0 [(0, zR 50), (1, zI v1), (2, zI v2)] [] (d, G, E) := by
  refine Z.iload_n (k := 2) dX12_isLiteral_0 rfl ?_
  refine Z.iconst (n := 0) dX12_isLiteral_1 ⟨by decide, by decide⟩ ?_
  refine Z.aload_n (k := 0) dX12_isLiteral_2 rfl ?_
  refine Y.getR (o := some 61) 10 dX12_isLiteral_3 zl_X12_36 (rfl) (by decide) rfl (zM_1 hM).2.1 (zM_10 hM).1 ?_
  refine Z.iload_n (k := 1) dX12_isLiteral_6 rfl ?_
  obtain ⟨z_1, K⟩ := K
  refine Y.iald dX12_isLiteral_7 (rfl) ((zM_10 hM).2.2) z_1 ?_
  refine Z.iconst (n := 1) dX12_isLiteral_8 ⟨by decide, by decide⟩ ?_
  obtain ⟨z_2, K⟩ := K
  refine Z.isub dX12_isLiteral_9 z_2 ?_
  obtain ⟨x_3, m_4, K⟩ := K
  refine Y.callS (g := zm_X12_in) (vs := [zI v2, zI 0, zI (((E 61 v1) - 1))]) (st := []) dX12_isLiteral_10 ⟨zg_X12_in.1, zg_X12_in.2.1, zg_X12_in.2.2, by decide⟩ ⟨Or.inl zk_X12_138, zs_X12_in⟩ rfl rfl (Nat.le_of_ble_eq_true rfl) m_4 (Or.inl rfl) ?_
  show Z zm_X12_isLiteral kz Q 13 [(0, zR 50), (1, zI v1), (2, zI v2)] [zI x_3] (d, G, E)
  exact Z.iret (ty := .boolean) dX12_isLiteral_13 rfl (by rcases K.1 with e | e <;> rw [e] <;> rfl) K.2
set_option maxRecDepth 20000 in
theorem X12_clash_0 {kz : Nat × Nat} {Q : Option zV → zH → Prop} {d : List Nat} {G : Nat → Int → Option Nat} {E : Nat → Int → Int} {v1 : Int} {v2 : Int} {v3 : Int} (hM : zK zMt d G) (K : ∃ x_1, zM zm_X12_isPositive [zR 50, zI v1] (d, G, E) (some (zI x_1)) (d, G, E) ∧ (x_1 = 0 → Q (some (zI ((-1)))) (d, G, E)) ∧ (¬ (x_1 = 0) → ∃ x_5, zM zm_X12_isLiteral [zR 50, zI v1, zI v2] (d, G, E) (some (zI x_5)) (d, G, E) ∧ (x_5 = 0 → Q (some (zI ((-1)))) (d, G, E)) ∧ (¬ (x_5 = 0) → ∃ x_9, zM zm_X12_isPositive [zR 50, zI v3] (d, G, E) (some (zI x_9)) (d, G, E) ∧ (x_9 = 0 → ∃ x_13, zM zm_X12_chosenOf [zR 50, zI v3] (d, G, E) (some (zI x_13)) (d, G, E) ∧ ∃ E_16, zM zm_X12_take [zR 50, zI v1, zI v3] (d, G, E) none (d, G, E_16) ∧ zin (30 * v2) ∧ zin (30 * x_13) ∧ zin (180 + (30 * x_13)) ∧ ∃ x_22 E_23, zM zm_X12_unites [zR 50, zI ((30 * v2)), zI ((180 + (30 * x_13)))] (d, G, E_16) (some (zI x_22)) (d, G, E_23) ∧ (x_22 ≠ 0 → ∀ E_27, E_27 = zuE E_23 50 24 0 → ((0 : Int) ≤ v1 ∧ v1 < (150 : Int)) ∧ ((0 : Int) ≤ v3 ∧ v3 < (150 : Int)) ∧ zin ((E_27 61 v1) + (E_27 61 v3)) ∧ (8 < ((E_27 61 v1) + (E_27 61 v3)) → Q (some (zI 0)) (d, G, E_27)) ∧ (¬ (8 < ((E_27 61 v1) + (E_27 61 v3))) → ∃ x_32 E_33, zM zm_X12_writesAll [zR 50, zI v1, zI 0, zI v2] (d, G, E_27) (some (zI x_32)) (d, G, E_33) ∧ (x_32 = 0 → Q (some (zI 0)) (d, G, E_33)) ∧ (¬ (x_32 = 0) → ∃ x_37 E_38, zM zm_X12_writesAll [zR 50, zI v3, zI 180, zI x_13] (d, G, E_33) (some (zI x_37)) (d, G, E_38) ∧ (x_37 = 0 → Q (some (zI 0)) (d, G, E_38)) ∧ (¬ (x_37 = 0) → Q (some (zI 1)) (d, G, E_38))))) ∧ (¬ (x_22 ≠ 0) → Q (some (zI ((-1)))) (d, G, E_23))) ∧ (¬ (x_9 = 0) → Q (some (zI ((-1)))) (d, G, E))))) : Z zm_X12_clash kz Q 0 [(0, zR 50), (1, zI v1), (2, zI v2), (3, zI v3)] [] (d, G, E) := by
  refine Z.aload_n (k := 0) dX12_clash_0 rfl ?_
  refine Z.iload_n (k := 1) dX12_clash_1 rfl ?_
  obtain ⟨x_1, m_2, K⟩ := K
  refine Y.callV (g := zm_X12_isPositive) (vs := [zI v1]) (st := []) dX12_clash_2 ⟨zg_X12_isPositive.1, zg_X12_isPositive.2.1, zg_X12_isPositive.2.2, by decide⟩ ⟨zk_X12_275, zv_X12_isPositive⟩ (ci := 12) (rfl) rfl ((zM_1 hM).2.1) rfl rfl (Nat.le_of_ble_eq_true rfl) m_2 (Or.inl rfl) ?_
  show Z zm_X12_clash kz Q 5 [(0, zR 50), (1, zI v1), (2, zI v2), (3, zI v3)] [zI x_1] (d, G, E)
  refine Z.if_eq 25 dX12_clash_5 rfl ⟨fun c_4 => ?_, fun c_4 => ?_⟩
  · replace K := K.1 c_4
    refine Z.iconst (n := -1) dX12_clash_25 ⟨by decide, by decide⟩ ?_
    exact Z.iret (ty := .int) dX12_clash_26 rfl rfl K
  · replace K := K.2 c_4
    refine Z.aload_n (k := 0) dX12_clash_8 rfl ?_
    refine Z.iload_n (k := 1) dX12_clash_9 rfl ?_
    refine Z.iload_n (k := 2) dX12_clash_10 rfl ?_
    obtain ⟨x_5, m_6, K⟩ := K
    refine Y.callV (g := zm_X12_isLiteral) (vs := [zI v1, zI v2]) (st := []) dX12_clash_11 ⟨zg_X12_isLiteral.1, zg_X12_isLiteral.2.1, zg_X12_isLiteral.2.2, by decide⟩ ⟨zk_X12_278, zv_X12_isLiteral⟩ (ci := 12) (rfl) rfl ((zM_1 hM).2.1) rfl rfl (Nat.le_of_ble_eq_true rfl) m_6 (Or.inl rfl) ?_
    show Z zm_X12_clash kz Q 14 [(0, zR 50), (1, zI v1), (2, zI v2), (3, zI v3)] [zI x_5] (d, G, E)
    refine Z.if_eq 25 dX12_clash_14 rfl ⟨fun c_8 => ?_, fun c_8 => ?_⟩
    · replace K := K.1 c_8
      refine Z.iconst (n := -1) dX12_clash_25 ⟨by decide, by decide⟩ ?_
      exact Z.iret (ty := .int) dX12_clash_26 rfl rfl K
    · replace K := K.2 c_8
      refine Z.aload_n (k := 0) dX12_clash_17 rfl ?_
      refine Z.iload_n (k := 3) dX12_clash_18 rfl ?_
      obtain ⟨x_9, m_10, K⟩ := K
      refine Y.callV (g := zm_X12_isPositive) (vs := [zI v3]) (st := []) dX12_clash_19 ⟨zg_X12_isPositive.1, zg_X12_isPositive.2.1, zg_X12_isPositive.2.2, by decide⟩ ⟨zk_X12_275, zv_X12_isPositive⟩ (ci := 12) (rfl) rfl ((zM_1 hM).2.1) rfl rfl (Nat.le_of_ble_eq_true rfl) m_10 (Or.inl rfl) ?_
      show Z zm_X12_clash kz Q 22 [(0, zR 50), (1, zI v1), (2, zI v2), (3, zI v3)] [zI x_9] (d, G, E)
      refine Z.if_eq 27 dX12_clash_22 rfl ⟨fun c_12 => ?_, fun c_12 => ?_⟩
      · replace K := K.1 c_12
        refine Z.aload_n (k := 0) dX12_clash_27 rfl ?_
        refine Z.iload_n (k := 3) dX12_clash_28 rfl ?_
        obtain ⟨x_13, m_14, K⟩ := K
        refine Y.callV (g := zm_X12_chosenOf) (vs := [zI v3]) (st := []) dX12_clash_29 ⟨zg_X12_chosenOf.1, zg_X12_chosenOf.2.1, zg_X12_chosenOf.2.2, by decide⟩ ⟨zk_X12_272, zv_X12_chosenOf⟩ (ci := 12) (rfl) rfl ((zM_1 hM).2.1) rfl rfl (Nat.le_of_ble_eq_true rfl) m_14 (Or.inl rfl) ?_
        show Z zm_X12_clash kz Q 32 [(0, zR 50), (1, zI v1), (2, zI v2), (3, zI v3)] [zI x_13] (d, G, E)
        refine Z.istore (ls' := [(4, zI x_13), (0, zR 50), (1, zI v1), (2, zI v2), (3, zI v3)]) dX12_clash_32 (by decide) rfl ?_
        refine Z.aload_n (k := 1) dX12_clash_34 rfl ?_
        refine Z.iload_n (k := 2) dX12_clash_35 rfl ?_
        refine Z.iload_n (k := 4) dX12_clash_36 rfl ?_
        obtain ⟨E_16, m_17, K⟩ := K
        refine Y.callV (g := zm_X12_take) (vs := [zI v1, zI v3]) (st := []) dX12_clash_37 ⟨zg_X12_take.1, zg_X12_take.2.1, zg_X12_take.2.2, by decide⟩ ⟨zk_X12_281, zv_X12_take⟩ (ci := 12) (rfl) rfl ((zM_1 hM).2.1) rfl rfl (Nat.le_of_ble_eq_true rfl) m_17 (Or.inl rfl) ?_
        show Z zm_X12_clash kz Q 40 [(4, zI x_13), (0, zR 50), (1, zI v1), (2, zI v2), (3, zI v3)] [] (d, G, E_16)
        refine Z.aload_n (k := 1) dX12_clash_40 rfl ?_
        refine Z.bipush (n := 30) dX12_clash_41 ⟨by decide, by decide⟩ (by decide) ?_
        refine Z.iload_n (k := 3) dX12_clash_43 rfl ?_
        obtain ⟨z_19, K⟩ := K
        refine Z.imul dX12_clash_44 z_19 ?_
        refine Z.sipush (n := 180) dX12_clash_45 ⟨by decide, by decide⟩ (by decide) ?_
        refine Z.bipush (n := 30) dX12_clash_48 ⟨by decide, by decide⟩ (by decide) ?_
        refine Z.iload (k := 0) dX12_clash_50 rfl ?_
        obtain ⟨z_20, K⟩ := K
        refine Z.imul dX12_clash_52 z_20 ?_
        obtain ⟨z_21, K⟩ := K
        refine Z.iadd dX12_clash_53 z_21 ?_
        obtain ⟨x_22, E_23, m_24, K⟩ := K
        refine Y.callV (g := zm_X12_unites) (vs := [zI ((30 * v2)), zI ((180 + (30 * x_13)))]) (st := []) dX12_clash_54 ⟨zg_X12_unites.1, zg_X12_unites.2.1, zg_X12_unites.2.2, by decide⟩ ⟨zk_X12_285, zv_X12_unites⟩ (ci := 12) (rfl) rfl ((zM_1 hM).2.1) rfl rfl (Nat.le_of_ble_eq_true rfl) m_24 (Or.inl rfl) ?_
        show Z zm_X12_clash kz Q 57 [(4, zI x_13), (0, zR 50), (1, zI v1), (2, zI v2), (3, zI v3)] [zI x_22] (d, G, E_23)
        refine Z.if_ne 62 dX12_clash_57 rfl ⟨fun c_26 => ?_, fun c_26 => ?_⟩
        · replace K := K.1 c_26
          refine Z.aload_n (k := 1) dX12_clash_62 rfl ?_
          refine Z.iconst (n := 0) dX12_clash_63 ⟨by decide, by decide⟩ ?_
          refine Y.putI 24 dX12_clash_64 zw_X12_167 (fun q => by cases q) (rfl) rfl (zM_1 hM).2.1 (Or.inl rfl) ?_
          generalize eE_27 : zuE E_23 50 24 0 = E_27
          replace K := K E_27 eE_27.symm
          refine Z.aload_n (k := 1) dX12_clash_67 rfl ?_
          refine Y.getR (o := some 61) 10 dX12_clash_68 zl_X12_36 (rfl) (by decide) rfl (zM_1 hM).2.1 (zM_10 hM).1 ?_
          refine Z.iload_n (k := 2) dX12_clash_71 rfl ?_
          obtain ⟨z_28, K⟩ := K
          refine Y.iald dX12_clash_72 (rfl) ((zM_10 hM).2.2) z_28 ?_
          refine Z.aload_n (k := 1) dX12_clash_73 rfl ?_
          refine Y.getR (o := some 61) 10 dX12_clash_74 zl_X12_36 (rfl) (by decide) rfl (zM_1 hM).2.1 (zM_10 hM).1 ?_
          refine Z.iload_n (k := 4) dX12_clash_77 rfl ?_
          obtain ⟨z_29, K⟩ := K
          refine Y.iald dX12_clash_78 (rfl) ((zM_10 hM).2.2) z_29 ?_
          obtain ⟨z_30, K⟩ := K
          refine Z.iadd dX12_clash_79 z_30 ?_
          refine Z.bipush (n := 8) dX12_clash_80 ⟨by decide, by decide⟩ (by decide) ?_
          refine Z.icmp_gt 112 dX12_clash_82 rfl ⟨fun c_31 => ?_, fun c_31 => ?_⟩
          · replace K := K.1 c_31
            refine Z.iconst (n := 0) dX12_clash_112 ⟨by decide, by decide⟩ ?_
            exact Z.iret (ty := .int) dX12_clash_113 rfl rfl K
          · replace K := K.2 c_31
            refine Z.aload_n (k := 1) dX12_clash_85 rfl ?_
            refine Z.iload_n (k := 2) dX12_clash_86 rfl ?_
            refine Z.iconst (n := 0) dX12_clash_87 ⟨by decide, by decide⟩ ?_
            refine Z.iload_n (k := 3) dX12_clash_88 rfl ?_
            obtain ⟨x_32, E_33, m_34, K⟩ := K
            refine Y.callV (g := zm_X12_writesAll) (vs := [zI v1, zI 0, zI v2]) (st := []) dX12_clash_89 ⟨zg_X12_writesAll.1, zg_X12_writesAll.2.1, zg_X12_writesAll.2.2, by decide⟩ ⟨zk_X12_288, zv_X12_writesAll⟩ (ci := 12) (rfl) rfl ((zM_1 hM).2.1) rfl rfl (Nat.le_of_ble_eq_true rfl) m_34 (Or.inl rfl) ?_
            show Z zm_X12_clash kz Q 92 [(4, zI x_13), (0, zR 50), (1, zI v1), (2, zI v2), (3, zI v3)] [zI x_32] (d, G, E_33)
            refine Z.if_eq 112 dX12_clash_92 rfl ⟨fun c_36 => ?_, fun c_36 => ?_⟩
            · replace K := K.1 c_36
              refine Z.iconst (n := 0) dX12_clash_112 ⟨by decide, by decide⟩ ?_
              exact Z.iret (ty := .int) dX12_clash_113 rfl rfl K
            · replace K := K.2 c_36
              refine Z.aload_n (k := 1) dX12_clash_95 rfl ?_
              refine Z.iload_n (k := 4) dX12_clash_96 rfl ?_
              refine Z.sipush (n := 180) dX12_clash_97 ⟨by decide, by decide⟩ (by decide) ?_
              refine Z.iload (k := 0) dX12_clash_100 rfl ?_
              obtain ⟨x_37, E_38, m_39, K⟩ := K
              refine Y.callV (g := zm_X12_writesAll) (vs := [zI v3, zI 180, zI x_13]) (st := []) dX12_clash_102 ⟨zg_X12_writesAll.1, zg_X12_writesAll.2.1, zg_X12_writesAll.2.2, by decide⟩ ⟨zk_X12_288, zv_X12_writesAll⟩ (ci := 12) (rfl) rfl ((zM_1 hM).2.1) rfl rfl (Nat.le_of_ble_eq_true rfl) m_39 (Or.inl rfl) ?_
              show Z zm_X12_clash kz Q 105 [(4, zI x_13), (0, zR 50), (1, zI v1), (2, zI v2), (3, zI v3)] [zI x_37] (d, G, E_38)
              refine Z.if_eq 112 dX12_clash_105 rfl ⟨fun c_41 => ?_, fun c_41 => ?_⟩
              · replace K := K.1 c_41
                refine Z.iconst (n := 0) dX12_clash_112 ⟨by decide, by decide⟩ ?_
                exact Z.iret (ty := .int) dX12_clash_113 rfl rfl K
              · replace K := K.2 c_41
                refine Z.iconst (n := 1) dX12_clash_108 ⟨by decide, by decide⟩ ?_
                refine Z.goto 113 dX12_clash_109 rfl ?_
                exact Z.iret (ty := .int) dX12_clash_113 rfl rfl K
        · replace K := K.2 c_26
          refine Z.iconst (n := -1) dX12_clash_60 ⟨by decide, by decide⟩ ?_
          exact Z.iret (ty := .int) dX12_clash_61 rfl rfl K
      · replace K := K.2 c_12
        refine Z.iconst (n := -1) dX12_clash_25 ⟨by decide, by decide⟩ ?_
        exact Z.iret (ty := .int) dX12_clash_26 rfl rfl K
set_option maxRecDepth 20000 in
theorem X12_factor_0 {kz : Nat × Nat} {Q : Option zV → zH → Prop} {d : List Nat} {G : Nat → Int → Option Nat} {E : Nat → Int → Int} {v1 : Int} {v2 : Int} {v3 : Int} (hM : zK zMt d G) (K : ∃ x_1, zM zm_X12_isPositive [zR 50, zI v1] (d, G, E) (some (zI x_1)) (d, G, E) ∧ (x_1 = 0 → Q (some (zI ((-1)))) (d, G, E)) ∧ (¬ (x_1 = 0) → ∃ x_5, zM zm_X12_isLiteral [zR 50, zI v1, zI v2] (d, G, E) (some (zI x_5)) (d, G, E) ∧ (x_5 = 0 → Q (some (zI ((-1)))) (d, G, E)) ∧ (¬ (x_5 = 0) → ∃ x_9, zM zm_X12_isLiteral [zR 50, zI v1, zI v3] (d, G, E) (some (zI x_9)) (d, G, E) ∧ (x_9 = 0 → Q (some (zI ((-1)))) (d, G, E)) ∧ (¬ (x_9 = 0) → (v2 < v3 → ∃ E_14, zM zm_X12_take [zR 50, zI v1, zI v1] (d, G, E) none (d, G, E_14) ∧ zin (30 * v2) ∧ zin (30 * v3) ∧ ∃ x_19 E_20, zM zm_X12_unites [zR 50, zI ((30 * v2)), zI ((30 * v3))] (d, G, E_14) (some (zI x_19)) (d, G, E_20) ∧ (x_19 ≠ 0 → ∀ E_24, E_24 = zuE E_20 50 24 0 → ∃ x_25 E_26, zM zm_X12_writesAll [zR 50, zI v1, zI 0, zI v3] (d, G, E_24) (some (zI x_25)) (d, G, E_26) ∧ (x_25 = 0 → Q (some (zI 0)) (d, G, E_26)) ∧ (¬ (x_25 = 0) → Q (some (zI 1)) (d, G, E_26))) ∧ (¬ (x_19 ≠ 0) → Q (some (zI ((-1)))) (d, G, E_20))) ∧ (¬ (v2 < v3) → Q (some (zI ((-1)))) (d, G, E)))))) : Z zm_X12_factor kz Q 0 [(0, zR 50), (1, zI v1), (2, zI v2), (3, zI v3)] [] (d, G, E) := by
  refine Z.aload_n (k := 0) dX12_factor_0 rfl ?_
  refine Z.iload_n (k := 1) dX12_factor_1 rfl ?_
  obtain ⟨x_1, m_2, K⟩ := K
  refine Y.callV (g := zm_X12_isPositive) (vs := [zI v1]) (st := []) dX12_factor_2 ⟨zg_X12_isPositive.1, zg_X12_isPositive.2.1, zg_X12_isPositive.2.2, by decide⟩ ⟨zk_X12_275, zv_X12_isPositive⟩ (ci := 12) (rfl) rfl ((zM_1 hM).2.1) rfl rfl (Nat.le_of_ble_eq_true rfl) m_2 (Or.inl rfl) ?_
  show Z zm_X12_factor kz Q 5 [(0, zR 50), (1, zI v1), (2, zI v2), (3, zI v3)] [zI x_1] (d, G, E)
  refine Z.if_eq 31 dX12_factor_5 rfl ⟨fun c_4 => ?_, fun c_4 => ?_⟩
  · replace K := K.1 c_4
    refine Z.iconst (n := -1) dX12_factor_31 ⟨by decide, by decide⟩ ?_
    exact Z.iret (ty := .int) dX12_factor_32 rfl rfl K
  · replace K := K.2 c_4
    refine Z.aload_n (k := 0) dX12_factor_8 rfl ?_
    refine Z.iload_n (k := 1) dX12_factor_9 rfl ?_
    refine Z.iload_n (k := 2) dX12_factor_10 rfl ?_
    obtain ⟨x_5, m_6, K⟩ := K
    refine Y.callV (g := zm_X12_isLiteral) (vs := [zI v1, zI v2]) (st := []) dX12_factor_11 ⟨zg_X12_isLiteral.1, zg_X12_isLiteral.2.1, zg_X12_isLiteral.2.2, by decide⟩ ⟨zk_X12_278, zv_X12_isLiteral⟩ (ci := 12) (rfl) rfl ((zM_1 hM).2.1) rfl rfl (Nat.le_of_ble_eq_true rfl) m_6 (Or.inl rfl) ?_
    show Z zm_X12_factor kz Q 14 [(0, zR 50), (1, zI v1), (2, zI v2), (3, zI v3)] [zI x_5] (d, G, E)
    refine Z.if_eq 31 dX12_factor_14 rfl ⟨fun c_8 => ?_, fun c_8 => ?_⟩
    · replace K := K.1 c_8
      refine Z.iconst (n := -1) dX12_factor_31 ⟨by decide, by decide⟩ ?_
      exact Z.iret (ty := .int) dX12_factor_32 rfl rfl K
    · replace K := K.2 c_8
      refine Z.aload_n (k := 0) dX12_factor_17 rfl ?_
      refine Z.iload_n (k := 1) dX12_factor_18 rfl ?_
      refine Z.iload_n (k := 3) dX12_factor_19 rfl ?_
      obtain ⟨x_9, m_10, K⟩ := K
      refine Y.callV (g := zm_X12_isLiteral) (vs := [zI v1, zI v3]) (st := []) dX12_factor_20 ⟨zg_X12_isLiteral.1, zg_X12_isLiteral.2.1, zg_X12_isLiteral.2.2, by decide⟩ ⟨zk_X12_278, zv_X12_isLiteral⟩ (ci := 12) (rfl) rfl ((zM_1 hM).2.1) rfl rfl (Nat.le_of_ble_eq_true rfl) m_10 (Or.inl rfl) ?_
      show Z zm_X12_factor kz Q 23 [(0, zR 50), (1, zI v1), (2, zI v2), (3, zI v3)] [zI x_9] (d, G, E)
      refine Z.if_eq 31 dX12_factor_23 rfl ⟨fun c_12 => ?_, fun c_12 => ?_⟩
      · replace K := K.1 c_12
        refine Z.iconst (n := -1) dX12_factor_31 ⟨by decide, by decide⟩ ?_
        exact Z.iret (ty := .int) dX12_factor_32 rfl rfl K
      · replace K := K.2 c_12
        refine Z.iload_n (k := 2) dX12_factor_26 rfl ?_
        refine Z.iload_n (k := 3) dX12_factor_27 rfl ?_
        refine Z.icmp_lt 33 dX12_factor_28 rfl ⟨fun c_13 => ?_, fun c_13 => ?_⟩
        · replace K := K.1 c_13
          refine Z.aload_n (k := 0) dX12_factor_33 rfl ?_
          refine Z.iload_n (k := 1) dX12_factor_34 rfl ?_
          refine Z.iload_n (k := 1) dX12_factor_35 rfl ?_
          obtain ⟨E_14, m_15, K⟩ := K
          refine Y.callV (g := zm_X12_take) (vs := [zI v1, zI v1]) (st := []) dX12_factor_36 ⟨zg_X12_take.1, zg_X12_take.2.1, zg_X12_take.2.2, by decide⟩ ⟨zk_X12_281, zv_X12_take⟩ (ci := 12) (rfl) rfl ((zM_1 hM).2.1) rfl rfl (Nat.le_of_ble_eq_true rfl) m_15 (Or.inl rfl) ?_
          show Z zm_X12_factor kz Q 39 [(0, zR 50), (1, zI v1), (2, zI v2), (3, zI v3)] [] (d, G, E_14)
          refine Z.aload_n (k := 0) dX12_factor_39 rfl ?_
          refine Z.bipush (n := 30) dX12_factor_40 ⟨by decide, by decide⟩ (by decide) ?_
          refine Z.iload_n (k := 2) dX12_factor_42 rfl ?_
          obtain ⟨z_17, K⟩ := K
          refine Z.imul dX12_factor_43 z_17 ?_
          refine Z.bipush (n := 30) dX12_factor_44 ⟨by decide, by decide⟩ (by decide) ?_
          refine Z.iload_n (k := 3) dX12_factor_46 rfl ?_
          obtain ⟨z_18, K⟩ := K
          refine Z.imul dX12_factor_47 z_18 ?_
          obtain ⟨x_19, E_20, m_21, K⟩ := K
          refine Y.callV (g := zm_X12_unites) (vs := [zI ((30 * v2)), zI ((30 * v3))]) (st := []) dX12_factor_48 ⟨zg_X12_unites.1, zg_X12_unites.2.1, zg_X12_unites.2.2, by decide⟩ ⟨zk_X12_285, zv_X12_unites⟩ (ci := 12) (rfl) rfl ((zM_1 hM).2.1) rfl rfl (Nat.le_of_ble_eq_true rfl) m_21 (Or.inl rfl) ?_
          show Z zm_X12_factor kz Q 51 [(0, zR 50), (1, zI v1), (2, zI v2), (3, zI v3)] [zI x_19] (d, G, E_20)
          refine Z.if_ne 56 dX12_factor_51 rfl ⟨fun c_23 => ?_, fun c_23 => ?_⟩
          · replace K := K.1 c_23
            refine Z.aload_n (k := 0) dX12_factor_56 rfl ?_
            refine Z.iconst (n := 0) dX12_factor_57 ⟨by decide, by decide⟩ ?_
            refine Y.putI 24 dX12_factor_58 zw_X12_167 (fun q => by cases q) (rfl) rfl (zM_1 hM).2.1 (Or.inl rfl) ?_
            generalize eE_24 : zuE E_20 50 24 0 = E_24
            replace K := K E_24 eE_24.symm
            refine Z.aload_n (k := 0) dX12_factor_61 rfl ?_
            refine Z.iload_n (k := 1) dX12_factor_62 rfl ?_
            refine Z.iconst (n := 0) dX12_factor_63 ⟨by decide, by decide⟩ ?_
            refine Z.iload_n (k := 3) dX12_factor_64 rfl ?_
            obtain ⟨x_25, E_26, m_27, K⟩ := K
            refine Y.callV (g := zm_X12_writesAll) (vs := [zI v1, zI 0, zI v3]) (st := []) dX12_factor_65 ⟨zg_X12_writesAll.1, zg_X12_writesAll.2.1, zg_X12_writesAll.2.2, by decide⟩ ⟨zk_X12_288, zv_X12_writesAll⟩ (ci := 12) (rfl) rfl ((zM_1 hM).2.1) rfl rfl (Nat.le_of_ble_eq_true rfl) m_27 (Or.inl rfl) ?_
            show Z zm_X12_factor kz Q 68 [(0, zR 50), (1, zI v1), (2, zI v2), (3, zI v3)] [zI x_25] (d, G, E_26)
            refine Z.if_eq 75 dX12_factor_68 rfl ⟨fun c_29 => ?_, fun c_29 => ?_⟩
            · replace K := K.1 c_29
              refine Z.iconst (n := 0) dX12_factor_75 ⟨by decide, by decide⟩ ?_
              exact Z.iret (ty := .int) dX12_factor_76 rfl rfl K
            · replace K := K.2 c_29
              refine Z.iconst (n := 1) dX12_factor_71 ⟨by decide, by decide⟩ ?_
              refine Z.goto 76 dX12_factor_72 rfl ?_
              exact Z.iret (ty := .int) dX12_factor_76 rfl rfl K
          · replace K := K.2 c_23
            refine Z.iconst (n := -1) dX12_factor_54 ⟨by decide, by decide⟩ ?_
            exact Z.iret (ty := .int) dX12_factor_55 rfl rfl K
        · replace K := K.2 c_13
          refine Z.iconst (n := -1) dX12_factor_31 ⟨by decide, by decide⟩ ?_
          exact Z.iret (ty := .int) dX12_factor_32 rfl rfl K
set_option maxRecDepth 20000 in
theorem X12_drop_0 {kz : Nat × Nat} {Q : Option zV → zH → Prop} {d : List Nat} {G : Nat → Int → Option Nat} {E : Nat → Int → Int} {v1 : Int} (hM : zK zMt d G) (K : ∃ x_1, zM zm_X12_chosenOf [zR 50, zI v1] (d, G, E) (some (zI x_1)) (d, G, E) ∧ (x_1 = (-1) → Q (some (zI ((-1)))) (d, G, E)) ∧ (¬ (x_1 = (-1)) → zin (180 * v1) ∧ zin (30 * x_1) ∧ zin ((180 * v1) + (30 * x_1)) ∧ ((0 : Int) ≤ ((180 * v1) + (30 * x_1)) ∧ ((180 * v1) + (30 * x_1)) < (27000 : Int)) ∧ ((E 58 ((180 * v1) + (30 * x_1))) = 0 → ∃ E_10, zM zm_X12_take [zR 50, zI v1, zI v1] (d, G, E) none (d, G, E_10) ∧ zin (30 * x_1) ∧ zin ((30 * x_1) + 1) ∧ ∃ x_15, zM zm_X12_endOf [zR 50, zR 97, zI (((30 * x_1) + 1))] (d, G, E_10) (some (zI x_15)) (d, G, E_10) ∧ ∃ x_18 E_19, zM zm_X12_unites [zR 50, zI (((30 * x_1) + 1)), zI x_15] (d, G, E_10) (some (zI x_18)) (d, G, E_19) ∧ (x_18 ≠ 0 → ∀ E_23, E_23 = zuE E_19 50 24 0 → ∃ x_24 E_25, zM zm_X12_writesAll [zR 50, zI v1, zI 0, zI x_1] (d, G, E_23) (some (zI x_24)) (d, G, E_25) ∧ (x_24 = 0 → Q (some (zI 0)) (d, G, E_25)) ∧ (¬ (x_24 = 0) → Q (some (zI 1)) (d, G, E_25))) ∧ (¬ (x_18 ≠ 0) → Q (some (zI ((-1)))) (d, G, E_19))) ∧ (¬ ((E 58 ((180 * v1) + (30 * x_1))) = 0) → Q (some (zI ((-1)))) (d, G, E)))) : Z zm_X12_drop kz Q 0 [(0, zR 50), (1, zI v1)] [] (d, G, E) := by
  refine Z.aload_n (k := 0) dX12_drop_0 rfl ?_
  refine Z.iload_n (k := 1) dX12_drop_1 rfl ?_
  obtain ⟨x_1, m_2, K⟩ := K
  refine Y.callV (g := zm_X12_chosenOf) (vs := [zI v1]) (st := []) dX12_drop_2 ⟨zg_X12_chosenOf.1, zg_X12_chosenOf.2.1, zg_X12_chosenOf.2.2, by decide⟩ ⟨zk_X12_272, zv_X12_chosenOf⟩ (ci := 12) (rfl) rfl ((zM_1 hM).2.1) rfl rfl (Nat.le_of_ble_eq_true rfl) m_2 (Or.inl rfl) ?_
  show Z zm_X12_drop kz Q 5 [(0, zR 50), (1, zI v1)] [zI x_1] (d, G, E)
  refine Z.istore_n (ls' := [(2, zI x_1), (0, zR 50), (1, zI v1)]) dX12_drop_5 (by decide) rfl ?_
  refine Z.iload_n (k := 0) dX12_drop_6 rfl ?_
  refine Z.iconst (n := -1) dX12_drop_7 ⟨by decide, by decide⟩ ?_
  refine Z.icmp_eq 29 dX12_drop_8 rfl ⟨fun c_4 => ?_, fun c_4 => ?_⟩
  · replace K := K.1 c_4
    refine Z.iconst (n := -1) dX12_drop_29 ⟨by decide, by decide⟩ ?_
    exact Z.iret (ty := .int) dX12_drop_30 rfl rfl K
  · replace K := K.2 c_4
    refine Z.aload_n (k := 1) dX12_drop_11 rfl ?_
    refine Y.getR (o := some 58) 7 dX12_drop_12 zl_X12_27 (rfl) (by decide) rfl (zM_1 hM).2.1 (zM_7 hM).1 ?_
    refine Z.sipush (n := 180) dX12_drop_15 ⟨by decide, by decide⟩ (by decide) ?_
    refine Z.iload_n (k := 2) dX12_drop_18 rfl ?_
    obtain ⟨z_5, K⟩ := K
    refine Z.imul dX12_drop_19 z_5 ?_
    refine Z.bipush (n := 30) dX12_drop_20 ⟨by decide, by decide⟩ (by decide) ?_
    refine Z.iload_n (k := 0) dX12_drop_22 rfl ?_
    obtain ⟨z_6, K⟩ := K
    refine Z.imul dX12_drop_23 z_6 ?_
    obtain ⟨z_7, K⟩ := K
    refine Z.iadd dX12_drop_24 z_7 ?_
    obtain ⟨z_8, K⟩ := K
    refine Y.iald dX12_drop_25 (rfl) ((zM_7 hM).2.2) z_8 ?_
    refine Z.if_eq 31 dX12_drop_26 rfl ⟨fun c_9 => ?_, fun c_9 => ?_⟩
    · replace K := K.1 c_9
      refine Z.aload_n (k := 1) dX12_drop_31 rfl ?_
      refine Z.iload_n (k := 2) dX12_drop_32 rfl ?_
      refine Z.iload_n (k := 2) dX12_drop_33 rfl ?_
      obtain ⟨E_10, m_11, K⟩ := K
      refine Y.callV (g := zm_X12_take) (vs := [zI v1, zI v1]) (st := []) dX12_drop_34 ⟨zg_X12_take.1, zg_X12_take.2.1, zg_X12_take.2.2, by decide⟩ ⟨zk_X12_281, zv_X12_take⟩ (ci := 12) (rfl) rfl ((zM_1 hM).2.1) rfl rfl (Nat.le_of_ble_eq_true rfl) m_11 (Or.inl rfl) ?_
      show Z zm_X12_drop kz Q 37 [(2, zI x_1), (0, zR 50), (1, zI v1)] [] (d, G, E_10)
      refine Z.bipush (n := 30) dX12_drop_37 ⟨by decide, by decide⟩ (by decide) ?_
      refine Z.iload_n (k := 0) dX12_drop_39 rfl ?_
      obtain ⟨z_13, K⟩ := K
      refine Z.imul dX12_drop_40 z_13 ?_
      refine Z.iconst (n := 1) dX12_drop_41 ⟨by decide, by decide⟩ ?_
      obtain ⟨z_14, K⟩ := K
      refine Z.iadd dX12_drop_42 z_14 ?_
      refine Z.istore_n (ls' := [(3, zI (((30 * x_1) + 1))), (2, zI x_1), (0, zR 50), (1, zI v1)]) dX12_drop_43 (by decide) rfl ?_
      refine Z.aload_n (k := 2) dX12_drop_44 rfl ?_
      refine Z.iload_n (k := 0) dX12_drop_45 rfl ?_
      refine Z.aload_n (k := 2) dX12_drop_46 rfl ?_
      refine Z.aload_n (k := 2) dX12_drop_47 rfl ?_
      refine Y.getR (o := some 97) 46 dX12_drop_48 zl_X12_108 (rfl) (by decide) rfl (zM_1 hM).2.1 (zM_46 hM).1 ?_
      refine Z.iload_n (k := 0) dX12_drop_51 rfl ?_
      obtain ⟨x_15, m_16, K⟩ := K
      refine Y.callV (g := zm_X12_endOf) (vs := [zR 97, zI (((30 * x_1) + 1))]) (st := [zI (((30 * x_1) + 1)), zR 50]) dX12_drop_52 ⟨zg_X12_endOf.1, zg_X12_endOf.2.1, zg_X12_endOf.2.2, by decide⟩ ⟨zk_X12_148, zv_X12_endOf⟩ (ci := 12) (rfl) rfl ((zM_1 hM).2.1) rfl rfl (Nat.le_of_ble_eq_true rfl) m_16 (Or.inl rfl) ?_
      show Z zm_X12_drop kz Q 55 [(3, zI (((30 * x_1) + 1))), (2, zI x_1), (0, zR 50), (1, zI v1)] [zI x_15, zI (((30 * x_1) + 1)), zR 50] (d, G, E_10)
      obtain ⟨x_18, E_19, m_20, K⟩ := K
      refine Y.callV (g := zm_X12_unites) (vs := [zI (((30 * x_1) + 1)), zI x_15]) (st := []) dX12_drop_55 ⟨zg_X12_unites.1, zg_X12_unites.2.1, zg_X12_unites.2.2, by decide⟩ ⟨zk_X12_285, zv_X12_unites⟩ (ci := 12) (rfl) rfl ((zM_1 hM).2.1) rfl rfl (Nat.le_of_ble_eq_true rfl) m_20 (Or.inl rfl) ?_
      show Z zm_X12_drop kz Q 58 [(3, zI (((30 * x_1) + 1))), (2, zI x_1), (0, zR 50), (1, zI v1)] [zI x_18] (d, G, E_19)
      refine Z.if_ne 63 dX12_drop_58 rfl ⟨fun c_22 => ?_, fun c_22 => ?_⟩
      · replace K := K.1 c_22
        refine Z.aload_n (k := 2) dX12_drop_63 rfl ?_
        refine Z.iconst (n := 0) dX12_drop_64 ⟨by decide, by decide⟩ ?_
        refine Y.putI 24 dX12_drop_65 zw_X12_167 (fun q => by cases q) (rfl) rfl (zM_1 hM).2.1 (Or.inl rfl) ?_
        generalize eE_23 : zuE E_19 50 24 0 = E_23
        replace K := K E_23 eE_23.symm
        refine Z.aload_n (k := 2) dX12_drop_68 rfl ?_
        refine Z.iload_n (k := 3) dX12_drop_69 rfl ?_
        refine Z.iconst (n := 0) dX12_drop_70 ⟨by decide, by decide⟩ ?_
        refine Z.iload_n (k := 1) dX12_drop_71 rfl ?_
        obtain ⟨x_24, E_25, m_26, K⟩ := K
        refine Y.callV (g := zm_X12_writesAll) (vs := [zI v1, zI 0, zI x_1]) (st := []) dX12_drop_72 ⟨zg_X12_writesAll.1, zg_X12_writesAll.2.1, zg_X12_writesAll.2.2, by decide⟩ ⟨zk_X12_288, zv_X12_writesAll⟩ (ci := 12) (rfl) rfl ((zM_1 hM).2.1) rfl rfl (Nat.le_of_ble_eq_true rfl) m_26 (Or.inl rfl) ?_
        show Z zm_X12_drop kz Q 75 [(3, zI (((30 * x_1) + 1))), (2, zI x_1), (0, zR 50), (1, zI v1)] [zI x_24] (d, G, E_25)
        refine Z.if_eq 82 dX12_drop_75 rfl ⟨fun c_28 => ?_, fun c_28 => ?_⟩
        · replace K := K.1 c_28
          refine Z.iconst (n := 0) dX12_drop_82 ⟨by decide, by decide⟩ ?_
          exact Z.iret (ty := .int) dX12_drop_83 rfl rfl K
        · replace K := K.2 c_28
          refine Z.iconst (n := 1) dX12_drop_78 ⟨by decide, by decide⟩ ?_
          refine Z.goto 83 dX12_drop_79 rfl ?_
          exact Z.iret (ty := .int) dX12_drop_83 rfl rfl K
      · replace K := K.2 c_22
        refine Z.iconst (n := -1) dX12_drop_61 ⟨by decide, by decide⟩ ?_
        exact Z.iret (ty := .int) dX12_drop_62 rfl rfl K
    · replace K := K.2 c_9
      refine Z.iconst (n := -1) dX12_drop_29 ⟨by decide, by decide⟩ ?_
      exact Z.iret (ty := .int) dX12_drop_30 rfl rfl K
set_option maxRecDepth 20000 in
theorem X12_writeTurned_0 {kz : Nat × Nat} {Q : Option zV → zH → Prop} {d : List Nat} {G : Nat → Int → Option Nat} {E : Nat → Int → Int} {v1 : Int} {v2 : Int} {v3 : Int} {v4 : Int} (hM : zK zMt d G) (K : Z zm_X12_writeTurned kz Q 3 [(0, zR 50), (1, zI v1), (2, zI v2), (3, zI v3), (4, zI v4), (5, zI v1)] [] (d, G, E)) : Z zm_X12_writeTurned kz Q 0 [(0, zR 50), (1, zI v1), (2, zI v2), (3, zI v3), (4, zI v4)] [] (d, G, E) := by
  refine Z.iload_n (k := 1) dX12_writeTurned_0 rfl ?_
  refine Z.istore (ls' := [(5, zI v1), (0, zR 50), (1, zI v1), (2, zI v2), (3, zI v3), (4, zI v4)]) dX12_writeTurned_1 (by decide) rfl ?_
  refine Z.pick (ls' := [(0, zR 50), (1, zI v1), (2, zI v2), (3, zI v3), (4, zI v4), (5, zI v1)]) [1, 2, 3, 4, 5, 0] rfl ?_
  exact K
set_option maxRecDepth 20000 in
theorem X12_writeTurned_3 {kz : Nat × Nat} {Q : Option zV → zH → Prop} {d : List Nat} {G : Nat → Int → Option Nat} {E : Nat → Int → Int} {v1 : Int} {v2 : Int} {v3 : Int} {v4 : Int} {v5 : Int} (hM : zK zMt d G) (K : zin (v1 + v2) ∧ ((v1 + v2) ≤ v5 → Q none (d, G, E)) ∧ (¬ ((v1 + v2) ≤ v5) → (v5 ≠ v3 → ((0 : Int) ≤ v5 ∧ v5 < (360 : Int)) ∧ (0 ≤ (E 97 v5) → ((0 : Int) ≤ v5 ∧ v5 < (360 : Int)) ∧ ∃ E_7, zM zm_X12_put [zR 50, zI ((E 97 v5))] (d, G, E) none (d, G, E_7) ∧ zin (v5 + 1) ∧ Z zm_X12_writeTurned kz Q 3 [(0, zR 50), (1, zI v1), (2, zI v2), (3, zI v3), (4, zI v4), (5, zI ((v5 + 1)))] [] (d, G, E_7)) ∧ (¬ (0 ≤ (E 97 v5)) → ∃ E_11, zM zm_X12_write [zR 50, zI v5] (d, G, E) none (d, G, E_11) ∧ zin (v5 + 1) ∧ Z zm_X12_writeTurned kz Q 3 [(0, zR 50), (1, zI v1), (2, zI v2), (3, zI v3), (4, zI v4), (5, zI ((v5 + 1)))] [] (d, G, E_11))) ∧ (¬ (v5 ≠ v3) → ∃ E_15, zM zm_X12_write [zR 50, zI v4] (d, G, E) none (d, G, E_15) ∧ ∃ x_18, zM zm_X12_endOf [zR 50, zR 97, zI v5] (d, G, E_15) (some (zI x_18)) (d, G, E_15) ∧ Z zm_X12_writeTurned kz Q 3 [(0, zR 50), (1, zI v1), (2, zI v2), (3, zI v3), (4, zI v4), (5, zI x_18)] [] (d, G, E_15)))) : Z zm_X12_writeTurned kz Q 3 [(0, zR 50), (1, zI v1), (2, zI v2), (3, zI v3), (4, zI v4), (5, zI v5)] [] (d, G, E) := by
  refine Z.iload (k := 5) dX12_writeTurned_3 rfl ?_
  refine Z.iload_n (k := 1) dX12_writeTurned_5 rfl ?_
  refine Z.iload_n (k := 2) dX12_writeTurned_6 rfl ?_
  obtain ⟨z_1, K⟩ := K
  refine Z.iadd dX12_writeTurned_7 z_1 ?_
  refine Z.icmp_ge 74 dX12_writeTurned_8 rfl ⟨fun c_2 => ?_, fun c_2 => ?_⟩
  · replace K := K.1 c_2
    exact Z.vret dX12_writeTurned_74 rfl K
  · replace K := K.2 c_2
    refine Z.iload (k := 5) dX12_writeTurned_11 rfl ?_
    refine Z.iload_n (k := 3) dX12_writeTurned_13 rfl ?_
    refine Z.icmp_ne 38 dX12_writeTurned_14 rfl ⟨fun c_3 => ?_, fun c_3 => ?_⟩
    · replace K := K.1 c_3
      refine Z.aload_n (k := 0) dX12_writeTurned_38 rfl ?_
      refine Y.getR (o := some 97) 46 dX12_writeTurned_39 zl_X12_108 (rfl) (by decide) rfl (zM_1 hM).2.1 (zM_46 hM).1 ?_
      refine Z.iload (k := 5) dX12_writeTurned_42 rfl ?_
      obtain ⟨z_4, K⟩ := K
      refine Y.iald dX12_writeTurned_44 (rfl) ((zM_46 hM).2.2) z_4 ?_
      refine Z.if_ge 57 dX12_writeTurned_45 rfl ⟨fun c_5 => ?_, fun c_5 => ?_⟩
      · replace K := K.1 c_5
        refine Z.aload_n (k := 0) dX12_writeTurned_57 rfl ?_
        refine Z.aload_n (k := 0) dX12_writeTurned_58 rfl ?_
        refine Y.getR (o := some 97) 46 dX12_writeTurned_59 zl_X12_108 (rfl) (by decide) rfl (zM_1 hM).2.1 (zM_46 hM).1 ?_
        refine Z.iload (k := 5) dX12_writeTurned_62 rfl ?_
        obtain ⟨z_6, K⟩ := K
        refine Y.iald dX12_writeTurned_64 (rfl) ((zM_46 hM).2.2) z_6 ?_
        obtain ⟨E_7, m_8, K⟩ := K
        refine Y.callV (g := zm_X12_put) (vs := [zI ((E 97 v5))]) (st := []) dX12_writeTurned_65 ⟨zg_X12_put.1, zg_X12_put.2.1, zg_X12_put.2.2, by decide⟩ ⟨zk_X12_262, zv_X12_put⟩ (ci := 12) (rfl) rfl ((zM_1 hM).2.1) rfl rfl (Nat.le_of_ble_eq_true rfl) m_8 (Or.inl rfl) ?_
        show Z zm_X12_writeTurned kz Q 68 [(0, zR 50), (1, zI v1), (2, zI v2), (3, zI v3), (4, zI v4), (5, zI v5)] [] (d, G, E_7)
        obtain ⟨z_10, K⟩ := K
        refine Z.iinc (k := 5) (ls' := [(5, zI ((v5 + 1))), (0, zR 50), (1, zI v1), (2, zI v2), (3, zI v3), (4, zI v4)]) dX12_writeTurned_68 rfl (by decide) z_10 rfl ?_
        refine Z.goto 3 dX12_writeTurned_71 rfl ?_
        refine Z.pick (ls' := [(0, zR 50), (1, zI v1), (2, zI v2), (3, zI v3), (4, zI v4), (5, zI ((v5 + 1)))]) [1, 2, 3, 4, 5, 0] rfl ?_
        exact K
      · replace K := K.2 c_5
        refine Z.aload_n (k := 0) dX12_writeTurned_48 rfl ?_
        refine Z.iload (k := 5) dX12_writeTurned_49 rfl ?_
        obtain ⟨E_11, m_12, K⟩ := K
        refine Y.callV (g := zm_X12_write) (vs := [zI v5]) (st := []) dX12_writeTurned_51 ⟨zg_X12_write.1, zg_X12_write.2.1, zg_X12_write.2.2, by decide⟩ ⟨zk_X12_265, zv_X12_write⟩ (ci := 12) (rfl) rfl ((zM_1 hM).2.1) rfl rfl (Nat.le_of_ble_eq_true rfl) m_12 (Or.inl rfl) ?_
        show Z zm_X12_writeTurned kz Q 54 [(0, zR 50), (1, zI v1), (2, zI v2), (3, zI v3), (4, zI v4), (5, zI v5)] [] (d, G, E_11)
        refine Z.goto 68 dX12_writeTurned_54 rfl ?_
        obtain ⟨z_14, K⟩ := K
        refine Z.iinc (k := 5) (ls' := [(5, zI ((v5 + 1))), (0, zR 50), (1, zI v1), (2, zI v2), (3, zI v3), (4, zI v4)]) dX12_writeTurned_68 rfl (by decide) z_14 rfl ?_
        refine Z.goto 3 dX12_writeTurned_71 rfl ?_
        refine Z.pick (ls' := [(0, zR 50), (1, zI v1), (2, zI v2), (3, zI v3), (4, zI v4), (5, zI ((v5 + 1)))]) [1, 2, 3, 4, 5, 0] rfl ?_
        exact K
    · replace K := K.2 c_3
      refine Z.aload_n (k := 0) dX12_writeTurned_17 rfl ?_
      refine Z.iload (k := 4) dX12_writeTurned_18 rfl ?_
      obtain ⟨E_15, m_16, K⟩ := K
      refine Y.callV (g := zm_X12_write) (vs := [zI v4]) (st := []) dX12_writeTurned_20 ⟨zg_X12_write.1, zg_X12_write.2.1, zg_X12_write.2.2, by decide⟩ ⟨zk_X12_265, zv_X12_write⟩ (ci := 12) (rfl) rfl ((zM_1 hM).2.1) rfl rfl (Nat.le_of_ble_eq_true rfl) m_16 (Or.inl rfl) ?_
      show Z zm_X12_writeTurned kz Q 23 [(0, zR 50), (1, zI v1), (2, zI v2), (3, zI v3), (4, zI v4), (5, zI v5)] [] (d, G, E_15)
      refine Z.aload_n (k := 0) dX12_writeTurned_23 rfl ?_
      refine Z.aload_n (k := 0) dX12_writeTurned_24 rfl ?_
      refine Y.getR (o := some 97) 46 dX12_writeTurned_25 zl_X12_108 (rfl) (by decide) rfl (zM_1 hM).2.1 (zM_46 hM).1 ?_
      refine Z.iload (k := 5) dX12_writeTurned_28 rfl ?_
      obtain ⟨x_18, m_19, K⟩ := K
      refine Y.callV (g := zm_X12_endOf) (vs := [zR 97, zI v5]) (st := []) dX12_writeTurned_30 ⟨zg_X12_endOf.1, zg_X12_endOf.2.1, zg_X12_endOf.2.2, by decide⟩ ⟨zk_X12_148, zv_X12_endOf⟩ (ci := 12) (rfl) rfl ((zM_1 hM).2.1) rfl rfl (Nat.le_of_ble_eq_true rfl) m_19 (Or.inl rfl) ?_
      show Z zm_X12_writeTurned kz Q 33 [(0, zR 50), (1, zI v1), (2, zI v2), (3, zI v3), (4, zI v4), (5, zI v5)] [zI x_18] (d, G, E_15)
      refine Z.istore (ls' := [(5, zI x_18), (0, zR 50), (1, zI v1), (2, zI v2), (3, zI v3), (4, zI v4)]) dX12_writeTurned_33 (by decide) rfl ?_
      refine Z.goto 3 dX12_writeTurned_35 rfl ?_
      refine Z.pick (ls' := [(0, zR 50), (1, zI v1), (2, zI v2), (3, zI v3), (4, zI v4), (5, zI x_18)]) [1, 2, 3, 4, 5, 0] rfl ?_
      exact K
set_option maxRecDepth 20000 in
theorem X12_turnWrites_0 {kz : Nat × Nat} {Q : Option zV → zH → Prop} {d : List Nat} {G : Nat → Int → Option Nat} {E : Nat → Int → Int} {v1 : Int} {v2 : Int} {v3 : Int} {v4 : Int} {v5 : Int} {v6 : Int} (hM : zK zMt d G) (K : ((0 : Int) ≤ v1 ∧ v1 < (150 : Int)) ∧ zin ((E 61 v1) - 1) ∧ ((0 : Int) ≤ v3 ∧ v3 < (150 : Int)) ∧ zin (((E 61 v1) - 1) + (E 61 v3)) ∧ (6 < (((E 61 v1) - 1) + (E 61 v3)) → Q (some (zI 0)) (d, G, E)) ∧ (¬ (6 < (((E 61 v1) - 1) + (E 61 v3))) → ∃ x_6 E_7, zM zm_X12_writesAll [zR 50, zI v1, zI 0, zI v2] (d, G, E) (some (zI x_6)) (d, G, E_7) ∧ (x_6 ≠ 0 → Z zm_X12_turnWrites kz Q 35 [(0, zR 50), (3, zI v3), (4, zI v4), (5, zI v5), (6, zI v6), (7, zI 0)] [] (d, G, E_7)) ∧ (¬ (x_6 ≠ 0) → Q (some (zI 0)) (d, G, E_7)))) : Z zm_X12_turnWrites kz Q 0 [(0, zR 50), (1, zI v1), (2, zI v2), (3, zI v3), (4, zI v4), (5, zI v5), (6, zI v6)] [] (d, G, E) := by
  refine Z.aload_n (k := 0) dX12_turnWrites_0 rfl ?_
  refine Y.getR (o := some 61) 10 dX12_turnWrites_1 zl_X12_36 (rfl) (by decide) rfl (zM_1 hM).2.1 (zM_10 hM).1 ?_
  refine Z.iload_n (k := 1) dX12_turnWrites_4 rfl ?_
  obtain ⟨z_1, K⟩ := K
  refine Y.iald dX12_turnWrites_5 (rfl) ((zM_10 hM).2.2) z_1 ?_
  refine Z.iconst (n := 1) dX12_turnWrites_6 ⟨by decide, by decide⟩ ?_
  obtain ⟨z_2, K⟩ := K
  refine Z.isub dX12_turnWrites_7 z_2 ?_
  refine Z.aload_n (k := 0) dX12_turnWrites_8 rfl ?_
  refine Y.getR (o := some 61) 10 dX12_turnWrites_9 zl_X12_36 (rfl) (by decide) rfl (zM_1 hM).2.1 (zM_10 hM).1 ?_
  refine Z.iload_n (k := 3) dX12_turnWrites_12 rfl ?_
  obtain ⟨z_3, K⟩ := K
  refine Y.iald dX12_turnWrites_13 (rfl) ((zM_10 hM).2.2) z_3 ?_
  obtain ⟨z_4, K⟩ := K
  refine Z.iadd dX12_turnWrites_14 z_4 ?_
  refine Z.bipush (n := 6) dX12_turnWrites_15 ⟨by decide, by decide⟩ (by decide) ?_
  refine Z.icmp_gt 30 dX12_turnWrites_17 rfl ⟨fun c_5 => ?_, fun c_5 => ?_⟩
  · replace K := K.1 c_5
    refine Z.iconst (n := 0) dX12_turnWrites_30 ⟨by decide, by decide⟩ ?_
    exact Z.iret (ty := .boolean) dX12_turnWrites_31 rfl rfl K
  · replace K := K.2 c_5
    refine Z.aload_n (k := 0) dX12_turnWrites_20 rfl ?_
    refine Z.iload_n (k := 1) dX12_turnWrites_21 rfl ?_
    refine Z.iconst (n := 0) dX12_turnWrites_22 ⟨by decide, by decide⟩ ?_
    refine Z.iload_n (k := 2) dX12_turnWrites_23 rfl ?_
    obtain ⟨x_6, E_7, m_8, K⟩ := K
    refine Y.callV (g := zm_X12_writesAll) (vs := [zI v1, zI 0, zI v2]) (st := []) dX12_turnWrites_24 ⟨zg_X12_writesAll.1, zg_X12_writesAll.2.1, zg_X12_writesAll.2.2, by decide⟩ ⟨zk_X12_288, zv_X12_writesAll⟩ (ci := 12) (rfl) rfl ((zM_1 hM).2.1) rfl rfl (Nat.le_of_ble_eq_true rfl) m_8 (Or.inl rfl) ?_
    show Z zm_X12_turnWrites kz Q 27 [(0, zR 50), (1, zI v1), (2, zI v2), (3, zI v3), (4, zI v4), (5, zI v5), (6, zI v6)] [zI x_6] (d, G, E_7)
    refine Z.if_ne 32 dX12_turnWrites_27 rfl ⟨fun c_10 => ?_, fun c_10 => ?_⟩
    · replace K := K.1 c_10
      refine Z.iconst (n := 0) dX12_turnWrites_32 ⟨by decide, by decide⟩ ?_
      refine Z.istore (ls' := [(7, zI 0), (0, zR 50), (1, zI v1), (2, zI v2), (3, zI v3), (4, zI v4), (5, zI v5), (6, zI v6)]) dX12_turnWrites_33 (by decide) rfl ?_
      refine Z.pick (ls' := [(0, zR 50), (3, zI v3), (4, zI v4), (5, zI v5), (6, zI v6), (7, zI 0)]) [1, 4, 5, 6, 7, 0] rfl ?_
      exact K
    · replace K := K.2 c_10
      refine Z.iconst (n := 0) dX12_turnWrites_30 ⟨by decide, by decide⟩ ?_
      exact Z.iret (ty := .boolean) dX12_turnWrites_31 rfl rfl K
set_option maxRecDepth 20000 in
theorem X12_turnWrites_35 {kz : Nat × Nat} {Q : Option zV → zH → Prop} {d : List Nat} {G : Nat → Int → Option Nat} {E : Nat → Int → Int} {v3 : Int} {v4 : Int} {v5 : Int} {v6 : Int} {v7 : Int} (hM : zK zMt d G) (K : ((0 : Int) ≤ v3 ∧ v3 < (150 : Int)) ∧ ((E 61 v3) ≤ v7 → Q (some (zI 1)) (d, G, E)) ∧ (¬ ((E 61 v3) ≤ v7) → ∀ E_3, E_3 = zuE E 50 52 0 → (v7 ≠ v4 → zin (30 * v7) ∧ zin (180 + (30 * v7)) ∧ ∃ E_7, zM zm_X12_write [zR 50, zI ((180 + (30 * v7)))] (d, G, E_3) none (d, G, E_7) ∧ zin (6 * v3) ∧ zin ((6 * v3) + v7) ∧ ((0 : Int) ≤ ((6 * v3) + v7) ∧ ((6 * v3) + v7) < (900 : Int)) ∧ ∃ x_13 E_14, zM zm_X12_comes [zR 50, zI ((E_7 60 ((6 * v3) + v7)))] (d, G, E_7) (some (zI x_13)) (d, G, E_14) ∧ (x_13 ≠ 0 → zin (v7 + 1) ∧ Z zm_X12_turnWrites kz Q 35 [(0, zR 50), (3, zI v3), (4, zI v4), (5, zI v5), (6, zI v6), (7, zI ((v7 + 1)))] [] (d, G, E_14)) ∧ (¬ (x_13 ≠ 0) → Q (some (zI 0)) (d, G, E_14))) ∧ (¬ (v7 ≠ v4) → zin (30 * v7) ∧ zin (180 + (30 * v7)) ∧ zin (6 * v3) ∧ zin ((6 * v3) + v7) ∧ ((0 : Int) ≤ ((6 * v3) + v7) ∧ ((6 * v3) + v7) < (900 : Int)) ∧ ∃ E_24, zM zm_X12_writeTurned [zR 50, zI ((180 + (30 * v7))), zI ((E_3 59 ((6 * v3) + v7))), zI v5, zI v6] (d, G, E_3) none (d, G, E_24) ∧ zin (6 * v3) ∧ zin ((6 * v3) + v7) ∧ ((0 : Int) ≤ ((6 * v3) + v7) ∧ ((6 * v3) + v7) < (900 : Int)) ∧ ∃ x_30 E_31, zM zm_X12_comes [zR 50, zI ((E_24 60 ((6 * v3) + v7)))] (d, G, E_24) (some (zI x_30)) (d, G, E_31) ∧ (x_30 ≠ 0 → zin (v7 + 1) ∧ Z zm_X12_turnWrites kz Q 35 [(0, zR 50), (3, zI v3), (4, zI v4), (5, zI v5), (6, zI v6), (7, zI ((v7 + 1)))] [] (d, G, E_31)) ∧ (¬ (x_30 ≠ 0) → Q (some (zI 0)) (d, G, E_31))))) : Z zm_X12_turnWrites kz Q 35 [(0, zR 50), (3, zI v3), (4, zI v4), (5, zI v5), (6, zI v6), (7, zI v7)] [] (d, G, E) := by
  refine Z.iload (k := 5) dX12_turnWrites_35 rfl ?_
  refine Z.aload_n (k := 0) dX12_turnWrites_37 rfl ?_
  refine Y.getR (o := some 61) 10 dX12_turnWrites_38 zl_X12_36 (rfl) (by decide) rfl (zM_1 hM).2.1 (zM_10 hM).1 ?_
  refine Z.iload_n (k := 1) dX12_turnWrites_41 rfl ?_
  obtain ⟨z_1, K⟩ := K
  refine Y.iald dX12_turnWrites_42 (rfl) ((zM_10 hM).2.2) z_1 ?_
  refine Z.icmp_ge 130 dX12_turnWrites_43 rfl ⟨fun c_2 => ?_, fun c_2 => ?_⟩
  · replace K := K.1 c_2
    refine Z.iconst (n := 1) dX12_turnWrites_130 ⟨by decide, by decide⟩ ?_
    exact Z.iret (ty := .boolean) dX12_turnWrites_131 rfl rfl K
  · replace K := K.2 c_2
    refine Z.aload_n (k := 0) dX12_turnWrites_46 rfl ?_
    refine Z.iconst (n := 0) dX12_turnWrites_47 ⟨by decide, by decide⟩ ?_
    refine Y.putI 52 dX12_turnWrites_48 zw_X12_259 (fun q => by cases q) (rfl) rfl (zM_1 hM).2.1 (Or.inl rfl) ?_
    generalize eE_3 : zuE E 50 52 0 = E_3
    replace K := K E_3 eE_3.symm
    refine Z.iload (k := 5) dX12_turnWrites_51 rfl ?_
    refine Z.iload (k := 2) dX12_turnWrites_53 rfl ?_
    refine Z.icmp_ne 90 dX12_turnWrites_55 rfl ⟨fun c_4 => ?_, fun c_4 => ?_⟩
    · replace K := K.1 c_4
      refine Z.aload_n (k := 0) dX12_turnWrites_90 rfl ?_
      refine Z.sipush (n := 180) dX12_turnWrites_91 ⟨by decide, by decide⟩ (by decide) ?_
      refine Z.bipush (n := 30) dX12_turnWrites_94 ⟨by decide, by decide⟩ (by decide) ?_
      refine Z.iload (k := 5) dX12_turnWrites_96 rfl ?_
      obtain ⟨z_5, K⟩ := K
      refine Z.imul dX12_turnWrites_98 z_5 ?_
      obtain ⟨z_6, K⟩ := K
      refine Z.iadd dX12_turnWrites_99 z_6 ?_
      obtain ⟨E_7, m_8, K⟩ := K
      refine Y.callV (g := zm_X12_write) (vs := [zI ((180 + (30 * v7)))]) (st := []) dX12_turnWrites_100 ⟨zg_X12_write.1, zg_X12_write.2.1, zg_X12_write.2.2, by decide⟩ ⟨zk_X12_265, zv_X12_write⟩ (ci := 12) (rfl) rfl ((zM_1 hM).2.1) rfl rfl (Nat.le_of_ble_eq_true rfl) m_8 (Or.inl rfl) ?_
      show Z zm_X12_turnWrites kz Q 103 [(0, zR 50), (3, zI v3), (4, zI v4), (5, zI v5), (6, zI v6), (7, zI v7)] [] (d, G, E_7)
      refine Z.aload_n (k := 0) dX12_turnWrites_103 rfl ?_
      refine Z.aload_n (k := 0) dX12_turnWrites_104 rfl ?_
      refine Y.getR (o := some 60) 9 dX12_turnWrites_105 zl_X12_33 (rfl) (by decide) rfl (zM_1 hM).2.1 (zM_9 hM).1 ?_
      refine Z.bipush (n := 6) dX12_turnWrites_108 ⟨by decide, by decide⟩ (by decide) ?_
      refine Z.iload_n (k := 1) dX12_turnWrites_110 rfl ?_
      obtain ⟨z_10, K⟩ := K
      refine Z.imul dX12_turnWrites_111 z_10 ?_
      refine Z.iload (k := 5) dX12_turnWrites_112 rfl ?_
      obtain ⟨z_11, K⟩ := K
      refine Z.iadd dX12_turnWrites_114 z_11 ?_
      obtain ⟨z_12, K⟩ := K
      refine Y.zald dX12_turnWrites_115 (rfl) ((zM_9 hM).2.2) z_12 ?_
      obtain ⟨x_13, E_14, m_15, K⟩ := K
      refine Y.callV (g := zm_X12_comes) (vs := [zI ((E_7 60 ((6 * v3) + v7)))]) (st := []) dX12_turnWrites_116 ⟨zg_X12_comes.1, zg_X12_comes.2.1, zg_X12_comes.2.2, by decide⟩ ⟨zk_X12_268, zv_X12_comes⟩ (ci := 12) (rfl) rfl ((zM_1 hM).2.1) rfl rfl (Nat.le_of_ble_eq_true rfl) m_15 (Or.inl rfl) ?_
      show Z zm_X12_turnWrites kz Q 119 [(0, zR 50), (3, zI v3), (4, zI v4), (5, zI v5), (6, zI v6), (7, zI v7)] [zI x_13] (d, G, E_14)
      refine Z.if_ne 124 dX12_turnWrites_119 rfl ⟨fun c_17 => ?_, fun c_17 => ?_⟩
      · replace K := K.1 c_17
        obtain ⟨z_18, K⟩ := K
        refine Z.iinc (k := 5) (ls' := [(7, zI ((v7 + 1))), (0, zR 50), (3, zI v3), (4, zI v4), (5, zI v5), (6, zI v6)]) dX12_turnWrites_124 rfl (by decide) z_18 rfl ?_
        refine Z.goto 35 dX12_turnWrites_127 rfl ?_
        refine Z.pick (ls' := [(0, zR 50), (3, zI v3), (4, zI v4), (5, zI v5), (6, zI v6), (7, zI ((v7 + 1)))]) [1, 2, 3, 4, 5, 0] rfl ?_
        exact K
      · replace K := K.2 c_17
        refine Z.iconst (n := 0) dX12_turnWrites_122 ⟨by decide, by decide⟩ ?_
        exact Z.iret (ty := .boolean) dX12_turnWrites_123 rfl rfl K
    · replace K := K.2 c_4
      refine Z.aload_n (k := 0) dX12_turnWrites_58 rfl ?_
      refine Z.sipush (n := 180) dX12_turnWrites_59 ⟨by decide, by decide⟩ (by decide) ?_
      refine Z.bipush (n := 30) dX12_turnWrites_62 ⟨by decide, by decide⟩ (by decide) ?_
      refine Z.iload (k := 5) dX12_turnWrites_64 rfl ?_
      obtain ⟨z_19, K⟩ := K
      refine Z.imul dX12_turnWrites_66 z_19 ?_
      obtain ⟨z_20, K⟩ := K
      refine Z.iadd dX12_turnWrites_67 z_20 ?_
      refine Z.aload_n (k := 0) dX12_turnWrites_68 rfl ?_
      refine Y.getR (o := some 59) 8 dX12_turnWrites_69 zl_X12_30 (rfl) (by decide) rfl (zM_1 hM).2.1 (zM_8 hM).1 ?_
      refine Z.bipush (n := 6) dX12_turnWrites_72 ⟨by decide, by decide⟩ (by decide) ?_
      refine Z.iload_n (k := 1) dX12_turnWrites_74 rfl ?_
      obtain ⟨z_21, K⟩ := K
      refine Z.imul dX12_turnWrites_75 z_21 ?_
      refine Z.iload (k := 5) dX12_turnWrites_76 rfl ?_
      obtain ⟨z_22, K⟩ := K
      refine Z.iadd dX12_turnWrites_78 z_22 ?_
      obtain ⟨z_23, K⟩ := K
      refine Y.iald dX12_turnWrites_79 (rfl) ((zM_8 hM).2.2) z_23 ?_
      refine Z.iload (k := 3) dX12_turnWrites_80 rfl ?_
      refine Z.iload (k := 4) dX12_turnWrites_82 rfl ?_
      obtain ⟨E_24, m_25, K⟩ := K
      refine Y.callV (g := zm_X12_writeTurned) (vs := [zI ((180 + (30 * v7))), zI ((E_3 59 ((6 * v3) + v7))), zI v5, zI v6]) (st := []) dX12_turnWrites_84 ⟨zg_X12_writeTurned.1, zg_X12_writeTurned.2.1, zg_X12_writeTurned.2.2, by decide⟩ ⟨zk_X12_295, zv_X12_writeTurned⟩ (ci := 12) (rfl) rfl ((zM_1 hM).2.1) rfl rfl (Nat.le_of_ble_eq_true rfl) m_25 (Or.inl rfl) ?_
      show Z zm_X12_turnWrites kz Q 87 [(0, zR 50), (3, zI v3), (4, zI v4), (5, zI v5), (6, zI v6), (7, zI v7)] [] (d, G, E_24)
      refine Z.goto 103 dX12_turnWrites_87 rfl ?_
      refine Z.aload_n (k := 0) dX12_turnWrites_103 rfl ?_
      refine Z.aload_n (k := 0) dX12_turnWrites_104 rfl ?_
      refine Y.getR (o := some 60) 9 dX12_turnWrites_105 zl_X12_33 (rfl) (by decide) rfl (zM_1 hM).2.1 (zM_9 hM).1 ?_
      refine Z.bipush (n := 6) dX12_turnWrites_108 ⟨by decide, by decide⟩ (by decide) ?_
      refine Z.iload_n (k := 1) dX12_turnWrites_110 rfl ?_
      obtain ⟨z_27, K⟩ := K
      refine Z.imul dX12_turnWrites_111 z_27 ?_
      refine Z.iload (k := 5) dX12_turnWrites_112 rfl ?_
      obtain ⟨z_28, K⟩ := K
      refine Z.iadd dX12_turnWrites_114 z_28 ?_
      obtain ⟨z_29, K⟩ := K
      refine Y.zald dX12_turnWrites_115 (rfl) ((zM_9 hM).2.2) z_29 ?_
      obtain ⟨x_30, E_31, m_32, K⟩ := K
      refine Y.callV (g := zm_X12_comes) (vs := [zI ((E_24 60 ((6 * v3) + v7)))]) (st := []) dX12_turnWrites_116 ⟨zg_X12_comes.1, zg_X12_comes.2.1, zg_X12_comes.2.2, by decide⟩ ⟨zk_X12_268, zv_X12_comes⟩ (ci := 12) (rfl) rfl ((zM_1 hM).2.1) rfl rfl (Nat.le_of_ble_eq_true rfl) m_32 (Or.inl rfl) ?_
      show Z zm_X12_turnWrites kz Q 119 [(0, zR 50), (3, zI v3), (4, zI v4), (5, zI v5), (6, zI v6), (7, zI v7)] [zI x_30] (d, G, E_31)
      refine Z.if_ne 124 dX12_turnWrites_119 rfl ⟨fun c_34 => ?_, fun c_34 => ?_⟩
      · replace K := K.1 c_34
        obtain ⟨z_35, K⟩ := K
        refine Z.iinc (k := 5) (ls' := [(7, zI ((v7 + 1))), (0, zR 50), (3, zI v3), (4, zI v4), (5, zI v5), (6, zI v6)]) dX12_turnWrites_124 rfl (by decide) z_35 rfl ?_
        refine Z.goto 35 dX12_turnWrites_127 rfl ?_
        refine Z.pick (ls' := [(0, zR 50), (3, zI v3), (4, zI v4), (5, zI v5), (6, zI v6), (7, zI ((v7 + 1)))]) [1, 2, 3, 4, 5, 0] rfl ?_
        exact K
      · replace K := K.2 c_34
        refine Z.iconst (n := 0) dX12_turnWrites_122 ⟨by decide, by decide⟩ ?_
        exact Z.iret (ty := .boolean) dX12_turnWrites_123 rfl rfl K
set_option maxRecDepth 20000 in
theorem X12_turn_0 {kz : Nat × Nat} {Q : Option zV → zH → Prop} {d : List Nat} {G : Nat → Int → Option Nat} {E : Nat → Int → Int} {v1 : Int} {v2 : Int} {v3 : Int} {v4 : Int} {v5 : Int} {v6 : Int} (hM : zK zMt d G) (K : ∃ x_1, zM zm_X12_isPositive [zR 50, zI v1] (d, G, E) (some (zI x_1)) (d, G, E) ∧ (x_1 = 0 → Q (some (zI ((-1)))) (d, G, E)) ∧ (¬ (x_1 = 0) → ∃ x_5, zM zm_X12_isLiteral [zR 50, zI v1, zI v2] (d, G, E) (some (zI x_5)) (d, G, E) ∧ (x_5 = 0 → Q (some (zI ((-1)))) (d, G, E)) ∧ (¬ (x_5 = 0) → ∃ x_9, zM zm_X12_in [zI v3, zI 0, zI 1] (d, G, E) (some (zI x_9)) (d, G, E) ∧ (x_9 = 0 → Q (some (zI ((-1)))) (d, G, E)) ∧ (¬ (x_9 = 0) → ∃ x_13, zM zm_X12_isLiteral [zR 50, zI v4, zI v5] (d, G, E) (some (zI x_13)) (d, G, E) ∧ (x_13 = 0 → Q (some (zI ((-1)))) (d, G, E)) ∧ (¬ (x_13 = 0) → zin (6 * v4) ∧ zin ((6 * v4) + v5) ∧ ((0 : Int) ≤ ((6 * v4) + v5) ∧ ((6 * v4) + v5) < (900 : Int)) ∧ zin ((E 59 ((6 * v4) + v5)) - 1) ∧ ∃ x_21, zM zm_X12_in [zI v6, zI 1, zI (((E 59 ((6 * v4) + v5)) - 1))] (d, G, E) (some (zI x_21)) (d, G, E) ∧ (x_21 ≠ 0 → ∃ x_25, zM zm_X12_chosenOf [zR 50, zI v4] (d, G, E) (some (zI x_25)) (d, G, E) ∧ zin (180 * v1) ∧ zin (30 * v2) ∧ zin ((180 * v1) + (30 * v2)) ∧ ((0 : Int) ≤ ((180 * v1) + (30 * v2)) ∧ ((180 * v1) + (30 * v2)) < (27000 : Int)) ∧ ((E 58 ((180 * v1) + (30 * v2))) ≠ 0 → Q (some (zI ((-1)))) (d, G, E)) ∧ (¬ ((E 58 ((180 * v1) + (30 * v2))) ≠ 0) → (x_25 = (-1) → Z zm_X12_turn kz Q 102 [(0, zR 50), (1, zI v1), (2, zI v2), (3, zI v3), (4, zI v4), (5, zI v5), (6, zI v6)] [] (d, G, E)) ∧ (¬ (x_25 = (-1)) → (x_25 ≠ v5 → Q (some (zI ((-1)))) (d, G, E)) ∧ (¬ (x_25 ≠ v5) → Z zm_X12_turn kz Q 102 [(0, zR 50), (1, zI v1), (2, zI v2), (3, zI v3), (4, zI v4), (5, zI v5), (6, zI v6)] [] (d, G, E))))) ∧ (¬ (x_21 ≠ 0) → Q (some (zI ((-1)))) (d, G, E))))))) : Z zm_X12_turn kz Q 0 [(0, zR 50), (1, zI v1), (2, zI v2), (3, zI v3), (4, zI v4), (5, zI v5), (6, zI v6)] [] (d, G, E) := by
  refine Z.aload_n (k := 0) dX12_turn_0 rfl ?_
  refine Z.iload_n (k := 1) dX12_turn_1 rfl ?_
  obtain ⟨x_1, m_2, K⟩ := K
  refine Y.callV (g := zm_X12_isPositive) (vs := [zI v1]) (st := []) dX12_turn_2 ⟨zg_X12_isPositive.1, zg_X12_isPositive.2.1, zg_X12_isPositive.2.2, by decide⟩ ⟨zk_X12_275, zv_X12_isPositive⟩ (ci := 12) (rfl) rfl ((zM_1 hM).2.1) rfl rfl (Nat.le_of_ble_eq_true rfl) m_2 (Or.inl rfl) ?_
  show Z zm_X12_turn kz Q 5 [(0, zR 50), (1, zI v1), (2, zI v2), (3, zI v3), (4, zI v4), (5, zI v5), (6, zI v6)] [zI x_1] (d, G, E)
  refine Z.if_eq 61 dX12_turn_5 rfl ⟨fun c_4 => ?_, fun c_4 => ?_⟩
  · replace K := K.1 c_4
    refine Z.iconst (n := -1) dX12_turn_61 ⟨by decide, by decide⟩ ?_
    exact Z.iret (ty := .int) dX12_turn_62 rfl rfl K
  · replace K := K.2 c_4
    refine Z.aload_n (k := 0) dX12_turn_8 rfl ?_
    refine Z.iload_n (k := 1) dX12_turn_9 rfl ?_
    refine Z.iload_n (k := 2) dX12_turn_10 rfl ?_
    obtain ⟨x_5, m_6, K⟩ := K
    refine Y.callV (g := zm_X12_isLiteral) (vs := [zI v1, zI v2]) (st := []) dX12_turn_11 ⟨zg_X12_isLiteral.1, zg_X12_isLiteral.2.1, zg_X12_isLiteral.2.2, by decide⟩ ⟨zk_X12_278, zv_X12_isLiteral⟩ (ci := 12) (rfl) rfl ((zM_1 hM).2.1) rfl rfl (Nat.le_of_ble_eq_true rfl) m_6 (Or.inl rfl) ?_
    show Z zm_X12_turn kz Q 14 [(0, zR 50), (1, zI v1), (2, zI v2), (3, zI v3), (4, zI v4), (5, zI v5), (6, zI v6)] [zI x_5] (d, G, E)
    refine Z.if_eq 61 dX12_turn_14 rfl ⟨fun c_8 => ?_, fun c_8 => ?_⟩
    · replace K := K.1 c_8
      refine Z.iconst (n := -1) dX12_turn_61 ⟨by decide, by decide⟩ ?_
      exact Z.iret (ty := .int) dX12_turn_62 rfl rfl K
    · replace K := K.2 c_8
      refine Z.iload_n (k := 3) dX12_turn_17 rfl ?_
      refine Z.iconst (n := 0) dX12_turn_18 ⟨by decide, by decide⟩ ?_
      refine Z.iconst (n := 1) dX12_turn_19 ⟨by decide, by decide⟩ ?_
      obtain ⟨x_9, m_10, K⟩ := K
      refine Y.callS (g := zm_X12_in) (vs := [zI v3, zI 0, zI 1]) (st := []) dX12_turn_20 ⟨zg_X12_in.1, zg_X12_in.2.1, zg_X12_in.2.2, by decide⟩ ⟨Or.inl zk_X12_138, zs_X12_in⟩ rfl rfl (Nat.le_of_ble_eq_true rfl) m_10 (Or.inl rfl) ?_
      show Z zm_X12_turn kz Q 23 [(0, zR 50), (1, zI v1), (2, zI v2), (3, zI v3), (4, zI v4), (5, zI v5), (6, zI v6)] [zI x_9] (d, G, E)
      refine Z.if_eq 61 dX12_turn_23 rfl ⟨fun c_12 => ?_, fun c_12 => ?_⟩
      · replace K := K.1 c_12
        refine Z.iconst (n := -1) dX12_turn_61 ⟨by decide, by decide⟩ ?_
        exact Z.iret (ty := .int) dX12_turn_62 rfl rfl K
      · replace K := K.2 c_12
        refine Z.aload_n (k := 0) dX12_turn_26 rfl ?_
        refine Z.iload (k := 4) dX12_turn_27 rfl ?_
        refine Z.iload (k := 5) dX12_turn_29 rfl ?_
        obtain ⟨x_13, m_14, K⟩ := K
        refine Y.callV (g := zm_X12_isLiteral) (vs := [zI v4, zI v5]) (st := []) dX12_turn_31 ⟨zg_X12_isLiteral.1, zg_X12_isLiteral.2.1, zg_X12_isLiteral.2.2, by decide⟩ ⟨zk_X12_278, zv_X12_isLiteral⟩ (ci := 12) (rfl) rfl ((zM_1 hM).2.1) rfl rfl (Nat.le_of_ble_eq_true rfl) m_14 (Or.inl rfl) ?_
        show Z zm_X12_turn kz Q 34 [(0, zR 50), (1, zI v1), (2, zI v2), (3, zI v3), (4, zI v4), (5, zI v5), (6, zI v6)] [zI x_13] (d, G, E)
        refine Z.if_eq 61 dX12_turn_34 rfl ⟨fun c_16 => ?_, fun c_16 => ?_⟩
        · replace K := K.1 c_16
          refine Z.iconst (n := -1) dX12_turn_61 ⟨by decide, by decide⟩ ?_
          exact Z.iret (ty := .int) dX12_turn_62 rfl rfl K
        · replace K := K.2 c_16
          refine Z.iload (k := 6) dX12_turn_37 rfl ?_
          refine Z.iconst (n := 1) dX12_turn_39 ⟨by decide, by decide⟩ ?_
          refine Z.aload_n (k := 0) dX12_turn_40 rfl ?_
          refine Y.getR (o := some 59) 8 dX12_turn_41 zl_X12_30 (rfl) (by decide) rfl (zM_1 hM).2.1 (zM_8 hM).1 ?_
          refine Z.bipush (n := 6) dX12_turn_44 ⟨by decide, by decide⟩ (by decide) ?_
          refine Z.iload (k := 4) dX12_turn_46 rfl ?_
          obtain ⟨z_17, K⟩ := K
          refine Z.imul dX12_turn_48 z_17 ?_
          refine Z.iload (k := 5) dX12_turn_49 rfl ?_
          obtain ⟨z_18, K⟩ := K
          refine Z.iadd dX12_turn_51 z_18 ?_
          obtain ⟨z_19, K⟩ := K
          refine Y.iald dX12_turn_52 (rfl) ((zM_8 hM).2.2) z_19 ?_
          refine Z.iconst (n := 1) dX12_turn_53 ⟨by decide, by decide⟩ ?_
          obtain ⟨z_20, K⟩ := K
          refine Z.isub dX12_turn_54 z_20 ?_
          obtain ⟨x_21, m_22, K⟩ := K
          refine Y.callS (g := zm_X12_in) (vs := [zI v6, zI 1, zI (((E 59 ((6 * v4) + v5)) - 1))]) (st := []) dX12_turn_55 ⟨zg_X12_in.1, zg_X12_in.2.1, zg_X12_in.2.2, by decide⟩ ⟨Or.inl zk_X12_138, zs_X12_in⟩ rfl rfl (Nat.le_of_ble_eq_true rfl) m_22 (Or.inl rfl) ?_
          show Z zm_X12_turn kz Q 58 [(0, zR 50), (1, zI v1), (2, zI v2), (3, zI v3), (4, zI v4), (5, zI v5), (6, zI v6)] [zI x_21] (d, G, E)
          refine Z.if_ne 63 dX12_turn_58 rfl ⟨fun c_24 => ?_, fun c_24 => ?_⟩
          · replace K := K.1 c_24
            refine Z.aload_n (k := 0) dX12_turn_63 rfl ?_
            refine Z.iload (k := 4) dX12_turn_64 rfl ?_
            obtain ⟨x_25, m_26, K⟩ := K
            refine Y.callV (g := zm_X12_chosenOf) (vs := [zI v4]) (st := []) dX12_turn_66 ⟨zg_X12_chosenOf.1, zg_X12_chosenOf.2.1, zg_X12_chosenOf.2.2, by decide⟩ ⟨zk_X12_272, zv_X12_chosenOf⟩ (ci := 12) (rfl) rfl ((zM_1 hM).2.1) rfl rfl (Nat.le_of_ble_eq_true rfl) m_26 (Or.inl rfl) ?_
            show Z zm_X12_turn kz Q 69 [(0, zR 50), (1, zI v1), (2, zI v2), (3, zI v3), (4, zI v4), (5, zI v5), (6, zI v6)] [zI x_25] (d, G, E)
            refine Z.istore (ls' := [(7, zI x_25), (0, zR 50), (1, zI v1), (2, zI v2), (3, zI v3), (4, zI v4), (5, zI v5), (6, zI v6)]) dX12_turn_69 (by decide) rfl ?_
            refine Z.aload_n (k := 1) dX12_turn_71 rfl ?_
            refine Y.getR (o := some 58) 7 dX12_turn_72 zl_X12_27 (rfl) (by decide) rfl (zM_1 hM).2.1 (zM_7 hM).1 ?_
            refine Z.sipush (n := 180) dX12_turn_75 ⟨by decide, by decide⟩ (by decide) ?_
            refine Z.iload_n (k := 2) dX12_turn_78 rfl ?_
            obtain ⟨z_28, K⟩ := K
            refine Z.imul dX12_turn_79 z_28 ?_
            refine Z.bipush (n := 30) dX12_turn_80 ⟨by decide, by decide⟩ (by decide) ?_
            refine Z.iload_n (k := 3) dX12_turn_82 rfl ?_
            obtain ⟨z_29, K⟩ := K
            refine Z.imul dX12_turn_83 z_29 ?_
            obtain ⟨z_30, K⟩ := K
            refine Z.iadd dX12_turn_84 z_30 ?_
            obtain ⟨z_31, K⟩ := K
            refine Y.iald dX12_turn_85 (rfl) ((zM_7 hM).2.2) z_31 ?_
            refine Z.if_ne 125 dX12_turn_86 rfl ⟨fun c_32 => ?_, fun c_32 => ?_⟩
            · replace K := K.1 c_32
              refine Z.iconst (n := -1) dX12_turn_125 ⟨by decide, by decide⟩ ?_
              exact Z.iret (ty := .int) dX12_turn_126 rfl rfl K
            · replace K := K.2 c_32
              refine Z.iload (k := 0) dX12_turn_89 rfl ?_
              refine Z.iconst (n := -1) dX12_turn_91 ⟨by decide, by decide⟩ ?_
              refine Z.icmp_eq 102 dX12_turn_92 rfl ⟨fun c_33 => ?_, fun c_33 => ?_⟩
              · replace K := K.1 c_33
                refine Z.pick (ls' := [(0, zR 50), (1, zI v1), (2, zI v2), (3, zI v3), (4, zI v4), (5, zI v5), (6, zI v6)]) [1, 2, 3, 4, 5, 6, 7] rfl ?_
                exact K
              · replace K := K.2 c_33
                refine Z.iload (k := 0) dX12_turn_95 rfl ?_
                refine Z.iload (k := 6) dX12_turn_97 rfl ?_
                refine Z.icmp_ne 125 dX12_turn_99 rfl ⟨fun c_34 => ?_, fun c_34 => ?_⟩
                · replace K := K.1 c_34
                  refine Z.iconst (n := -1) dX12_turn_125 ⟨by decide, by decide⟩ ?_
                  exact Z.iret (ty := .int) dX12_turn_126 rfl rfl K
                · replace K := K.2 c_34
                  refine Z.pick (ls' := [(0, zR 50), (1, zI v1), (2, zI v2), (3, zI v3), (4, zI v4), (5, zI v5), (6, zI v6)]) [1, 2, 3, 4, 5, 6, 7] rfl ?_
                  exact K
          · replace K := K.2 c_24
            refine Z.iconst (n := -1) dX12_turn_61 ⟨by decide, by decide⟩ ?_
            exact Z.iret (ty := .int) dX12_turn_62 rfl rfl K
set_option maxRecDepth 20000 in
theorem X12_turn_102 {kz : Nat × Nat} {Q : Option zV → zH → Prop} {d : List Nat} {G : Nat → Int → Option Nat} {E : Nat → Int → Int} {v1 : Int} {v2 : Int} {v3 : Int} {v4 : Int} {v5 : Int} {v6 : Int} (hM : zK zMt d G) (K : zin (180 * v4) ∧ zin (30 * v5) ∧ zin ((180 * v4) + (30 * v5)) ∧ zin (((180 * v4) + (30 * v5)) + v6) ∧ ((0 : Int) ≤ (((180 * v4) + (30 * v5)) + v6) ∧ (((180 * v4) + (30 * v5)) + v6) < (27000 : Int)) ∧ (0 ≤ (E 58 (((180 * v4) + (30 * v5)) + v6)) → ∃ E_7, zM zm_X12_take [zR 50, zI v1, zI v4] (d, G, E) none (d, G, E_7) ∧ zin (30 * v2) ∧ zin ((30 * v2) + 1) ∧ ∃ x_12, zM zm_X12_endOf [zR 50, zR 97, zI (((30 * v2) + 1))] (d, G, E_7) (some (zI x_12)) (d, G, E_7) ∧ (v3 ≠ 0 → Z zm_X12_turn kz Q 165 [(0, zR 50), (1, zI v1), (2, zI v2), (3, zI v3), (4, zI v4), (5, zI v5), (6, zI v6), (8, zI (((30 * v2) + 1))), (9, zI x_12)] [zI x_12] (d, G, E_7)) ∧ (¬ (v3 ≠ 0) → Z zm_X12_turn kz Q 165 [(0, zR 50), (1, zI v1), (2, zI v2), (3, zI v3), (4, zI v4), (5, zI v5), (6, zI v6), (8, zI (((30 * v2) + 1))), (9, zI x_12)] [zI (((30 * v2) + 1))] (d, G, E_7))) ∧ (¬ (0 ≤ (E 58 (((180 * v4) + (30 * v5)) + v6))) → Q (some (zI ((-1)))) (d, G, E))) : Z zm_X12_turn kz Q 102 [(0, zR 50), (1, zI v1), (2, zI v2), (3, zI v3), (4, zI v4), (5, zI v5), (6, zI v6)] [] (d, G, E) := by
  refine Z.aload_n (k := 0) dX12_turn_102 rfl ?_
  refine Y.getR (o := some 58) 7 dX12_turn_103 zl_X12_27 (rfl) (by decide) rfl (zM_1 hM).2.1 (zM_7 hM).1 ?_
  refine Z.sipush (n := 180) dX12_turn_106 ⟨by decide, by decide⟩ (by decide) ?_
  refine Z.iload (k := 4) dX12_turn_109 rfl ?_
  obtain ⟨z_1, K⟩ := K
  refine Z.imul dX12_turn_111 z_1 ?_
  refine Z.bipush (n := 30) dX12_turn_112 ⟨by decide, by decide⟩ (by decide) ?_
  refine Z.iload (k := 5) dX12_turn_114 rfl ?_
  obtain ⟨z_2, K⟩ := K
  refine Z.imul dX12_turn_116 z_2 ?_
  obtain ⟨z_3, K⟩ := K
  refine Z.iadd dX12_turn_117 z_3 ?_
  refine Z.iload (k := 6) dX12_turn_118 rfl ?_
  obtain ⟨z_4, K⟩ := K
  refine Z.iadd dX12_turn_120 z_4 ?_
  obtain ⟨z_5, K⟩ := K
  refine Y.iald dX12_turn_121 (rfl) ((zM_7 hM).2.2) z_5 ?_
  refine Z.if_ge 127 dX12_turn_122 rfl ⟨fun c_6 => ?_, fun c_6 => ?_⟩
  · replace K := K.1 c_6
    refine Z.aload_n (k := 0) dX12_turn_127 rfl ?_
    refine Z.iload_n (k := 1) dX12_turn_128 rfl ?_
    refine Z.iload (k := 4) dX12_turn_129 rfl ?_
    obtain ⟨E_7, m_8, K⟩ := K
    refine Y.callV (g := zm_X12_take) (vs := [zI v1, zI v4]) (st := []) dX12_turn_131 ⟨zg_X12_take.1, zg_X12_take.2.1, zg_X12_take.2.2, by decide⟩ ⟨zk_X12_281, zv_X12_take⟩ (ci := 12) (rfl) rfl ((zM_1 hM).2.1) rfl rfl (Nat.le_of_ble_eq_true rfl) m_8 (Or.inl rfl) ?_
    show Z zm_X12_turn kz Q 134 [(0, zR 50), (1, zI v1), (2, zI v2), (3, zI v3), (4, zI v4), (5, zI v5), (6, zI v6)] [] (d, G, E_7)
    refine Z.bipush (n := 30) dX12_turn_134 ⟨by decide, by decide⟩ (by decide) ?_
    refine Z.iload_n (k := 2) dX12_turn_136 rfl ?_
    obtain ⟨z_10, K⟩ := K
    refine Z.imul dX12_turn_137 z_10 ?_
    refine Z.iconst (n := 1) dX12_turn_138 ⟨by decide, by decide⟩ ?_
    obtain ⟨z_11, K⟩ := K
    refine Z.iadd dX12_turn_139 z_11 ?_
    refine Z.istore (ls' := [(8, zI (((30 * v2) + 1))), (0, zR 50), (1, zI v1), (2, zI v2), (3, zI v3), (4, zI v4), (5, zI v5), (6, zI v6)]) dX12_turn_140 (by decide) rfl ?_
    refine Z.aload_n (k := 1) dX12_turn_142 rfl ?_
    refine Z.aload_n (k := 1) dX12_turn_143 rfl ?_
    refine Y.getR (o := some 97) 46 dX12_turn_144 zl_X12_108 (rfl) (by decide) rfl (zM_1 hM).2.1 (zM_46 hM).1 ?_
    refine Z.iload (k := 0) dX12_turn_147 rfl ?_
    obtain ⟨x_12, m_13, K⟩ := K
    refine Y.callV (g := zm_X12_endOf) (vs := [zR 97, zI (((30 * v2) + 1))]) (st := []) dX12_turn_149 ⟨zg_X12_endOf.1, zg_X12_endOf.2.1, zg_X12_endOf.2.2, by decide⟩ ⟨zk_X12_148, zv_X12_endOf⟩ (ci := 12) (rfl) rfl ((zM_1 hM).2.1) rfl rfl (Nat.le_of_ble_eq_true rfl) m_13 (Or.inl rfl) ?_
    show Z zm_X12_turn kz Q 152 [(8, zI (((30 * v2) + 1))), (0, zR 50), (1, zI v1), (2, zI v2), (3, zI v3), (4, zI v4), (5, zI v5), (6, zI v6)] [zI x_12] (d, G, E_7)
    refine Z.istore (ls' := [(9, zI x_12), (8, zI (((30 * v2) + 1))), (0, zR 50), (1, zI v1), (2, zI v2), (3, zI v3), (4, zI v4), (5, zI v5), (6, zI v6)]) dX12_turn_152 (by decide) rfl ?_
    refine Z.iload_n (k := 5) dX12_turn_154 rfl ?_
    refine Z.if_ne 163 dX12_turn_155 rfl ⟨fun c_15 => ?_, fun c_15 => ?_⟩
    · replace K := K.1 c_15
      refine Z.iload (k := 0) dX12_turn_163 rfl ?_
      refine Z.pick (ls' := [(0, zR 50), (1, zI v1), (2, zI v2), (3, zI v3), (4, zI v4), (5, zI v5), (6, zI v6), (8, zI (((30 * v2) + 1))), (9, zI x_12)]) [2, 3, 4, 5, 6, 7, 8, 1, 0] rfl ?_
      exact K
    · replace K := K.2 c_15
      refine Z.iload (k := 1) dX12_turn_158 rfl ?_
      refine Z.goto 165 dX12_turn_160 rfl ?_
      refine Z.pick (ls' := [(0, zR 50), (1, zI v1), (2, zI v2), (3, zI v3), (4, zI v4), (5, zI v5), (6, zI v6), (8, zI (((30 * v2) + 1))), (9, zI x_12)]) [2, 3, 4, 5, 6, 7, 8, 1, 0] rfl ?_
      exact K
  · replace K := K.2 c_6
    refine Z.iconst (n := -1) dX12_turn_125 ⟨by decide, by decide⟩ ?_
    exact Z.iret (ty := .int) dX12_turn_126 rfl rfl K
set_option maxRecDepth 20000 in
theorem X12_turn_165 {kz : Nat × Nat} {Q : Option zV → zH → Prop} {d : List Nat} {G : Nat → Int → Option Nat} {E : Nat → Int → Int} {v1 : Int} {v2 : Int} {v3 : Int} {v4 : Int} {v5 : Int} {v6 : Int} {v8 : Int} {v9 : Int} {s0 : Int} (hM : zK zMt d G) (K : (v3 ≠ 0 → zin (30 * v5) ∧ zin (180 + (30 * v5)) ∧ zin ((180 + (30 * v5)) + v6) ∧ ∃ x_5 E_6, zM zm_X12_unites [zR 50, zI s0, zI (((180 + (30 * v5)) + v6))] (d, G, E) (some (zI x_5)) (d, G, E_6) ∧ (x_5 ≠ 0 → ∀ E_10, E_10 = zuE E_6 50 52 0 → ∃ E_11, zM zm_X12_write [zR 50, zI s0] (d, G, E_10) none (d, G, E_11) ∧ Z zm_X12_turn kz Q 227 [(0, zR 50), (1, zI v1), (2, zI v2), (4, zI v4), (5, zI v5), (11, zI v8), (12, zI (((180 + (30 * v5)) + v6))), (13, zI ((E_11 50 52))), (14, zI 0)] [] (d, G, E_11)) ∧ (¬ (x_5 ≠ 0) → Q (some (zI ((-1)))) (d, G, E_6))) ∧ (¬ (v3 ≠ 0) → zin (30 * v5) ∧ zin (180 + (30 * v5)) ∧ zin ((180 + (30 * v5)) + v6) ∧ ∃ x_17 E_18, zM zm_X12_unites [zR 50, zI s0, zI (((180 + (30 * v5)) + v6))] (d, G, E) (some (zI x_17)) (d, G, E_18) ∧ (x_17 ≠ 0 → ∀ E_22, E_22 = zuE E_18 50 52 0 → ∃ E_23, zM zm_X12_write [zR 50, zI s0] (d, G, E_22) none (d, G, E_23) ∧ Z zm_X12_turn kz Q 227 [(0, zR 50), (1, zI v1), (2, zI v2), (4, zI v4), (5, zI v5), (11, zI v9), (12, zI (((180 + (30 * v5)) + v6))), (13, zI ((E_23 50 52))), (14, zI 0)] [] (d, G, E_23)) ∧ (¬ (x_17 ≠ 0) → Q (some (zI ((-1)))) (d, G, E_18)))) : Z zm_X12_turn kz Q 165 [(0, zR 50), (1, zI v1), (2, zI v2), (3, zI v3), (4, zI v4), (5, zI v5), (6, zI v6), (8, zI v8), (9, zI v9)] [zI s0] (d, G, E) := by
  refine Z.istore (ls' := [(10, zI s0), (0, zR 50), (1, zI v1), (2, zI v2), (3, zI v3), (4, zI v4), (5, zI v5), (6, zI v6), (8, zI v8), (9, zI v9)]) dX12_turn_165 (by decide) rfl ?_
  refine Z.iload_n (k := 4) dX12_turn_167 rfl ?_
  refine Z.if_ne 176 dX12_turn_168 rfl ⟨fun c_1 => ?_, fun c_1 => ?_⟩
  · replace K := K.1 c_1
    refine Z.iload (k := 8) dX12_turn_176 rfl ?_
    refine Z.istore (ls' := [(11, zI v8), (10, zI s0), (0, zR 50), (1, zI v1), (2, zI v2), (3, zI v3), (4, zI v4), (5, zI v5), (6, zI v6), (8, zI v8), (9, zI v9)]) dX12_turn_178 (by decide) rfl ?_
    refine Z.sipush (n := 180) dX12_turn_180 ⟨by decide, by decide⟩ (by decide) ?_
    refine Z.bipush (n := 30) dX12_turn_183 ⟨by decide, by decide⟩ (by decide) ?_
    refine Z.iload (k := 7) dX12_turn_185 rfl ?_
    obtain ⟨z_2, K⟩ := K
    refine Z.imul dX12_turn_187 z_2 ?_
    obtain ⟨z_3, K⟩ := K
    refine Z.iadd dX12_turn_188 z_3 ?_
    refine Z.iload (k := 8) dX12_turn_189 rfl ?_
    obtain ⟨z_4, K⟩ := K
    refine Z.iadd dX12_turn_191 z_4 ?_
    refine Z.istore (ls' := [(12, zI (((180 + (30 * v5)) + v6))), (11, zI v8), (10, zI s0), (0, zR 50), (1, zI v1), (2, zI v2), (3, zI v3), (4, zI v4), (5, zI v5), (6, zI v6), (8, zI v8), (9, zI v9)]) dX12_turn_192 (by decide) rfl ?_
    refine Z.aload_n (k := 3) dX12_turn_194 rfl ?_
    refine Z.iload (k := 2) dX12_turn_195 rfl ?_
    refine Z.iload (k := 0) dX12_turn_197 rfl ?_
    obtain ⟨x_5, E_6, m_7, K⟩ := K
    refine Y.callV (g := zm_X12_unites) (vs := [zI s0, zI (((180 + (30 * v5)) + v6))]) (st := []) dX12_turn_199 ⟨zg_X12_unites.1, zg_X12_unites.2.1, zg_X12_unites.2.2, by decide⟩ ⟨zk_X12_285, zv_X12_unites⟩ (ci := 12) (rfl) rfl ((zM_1 hM).2.1) rfl rfl (Nat.le_of_ble_eq_true rfl) m_7 (Or.inl rfl) ?_
    show Z zm_X12_turn kz Q 202 [(12, zI (((180 + (30 * v5)) + v6))), (11, zI v8), (10, zI s0), (0, zR 50), (1, zI v1), (2, zI v2), (3, zI v3), (4, zI v4), (5, zI v5), (6, zI v6), (8, zI v8), (9, zI v9)] [zI x_5] (d, G, E_6)
    refine Z.if_ne 207 dX12_turn_202 rfl ⟨fun c_9 => ?_, fun c_9 => ?_⟩
    · replace K := K.1 c_9
      refine Z.aload_n (k := 3) dX12_turn_207 rfl ?_
      refine Z.iconst (n := 0) dX12_turn_208 ⟨by decide, by decide⟩ ?_
      refine Y.putI 52 dX12_turn_209 zw_X12_259 (fun q => by cases q) (rfl) rfl (zM_1 hM).2.1 (Or.inl rfl) ?_
      generalize eE_10 : zuE E_6 50 52 0 = E_10
      replace K := K E_10 eE_10.symm
      refine Z.aload_n (k := 3) dX12_turn_212 rfl ?_
      refine Z.iload (k := 2) dX12_turn_213 rfl ?_
      obtain ⟨E_11, m_12, K⟩ := K
      refine Y.callV (g := zm_X12_write) (vs := [zI s0]) (st := []) dX12_turn_215 ⟨zg_X12_write.1, zg_X12_write.2.1, zg_X12_write.2.2, by decide⟩ ⟨zk_X12_265, zv_X12_write⟩ (ci := 12) (rfl) rfl ((zM_1 hM).2.1) rfl rfl (Nat.le_of_ble_eq_true rfl) m_12 (Or.inl rfl) ?_
      show Z zm_X12_turn kz Q 218 [(12, zI (((180 + (30 * v5)) + v6))), (11, zI v8), (10, zI s0), (0, zR 50), (1, zI v1), (2, zI v2), (3, zI v3), (4, zI v4), (5, zI v5), (6, zI v6), (8, zI v8), (9, zI v9)] [] (d, G, E_11)
      refine Z.aload_n (k := 3) dX12_turn_218 rfl ?_
      refine Y.getI 52 dX12_turn_219 zl_X12_259 (rfl) (by decide) rfl (zM_1 hM).2.1 ?_
      refine Z.istore (ls' := [(13, zI ((E_11 50 52))), (12, zI (((180 + (30 * v5)) + v6))), (11, zI v8), (10, zI s0), (0, zR 50), (1, zI v1), (2, zI v2), (3, zI v3), (4, zI v4), (5, zI v5), (6, zI v6), (8, zI v8), (9, zI v9)]) dX12_turn_222 (by decide) rfl ?_
      refine Z.iconst (n := 0) dX12_turn_224 ⟨by decide, by decide⟩ ?_
      refine Z.istore (ls' := [(14, zI 0), (13, zI ((E_11 50 52))), (12, zI (((180 + (30 * v5)) + v6))), (11, zI v8), (10, zI s0), (0, zR 50), (1, zI v1), (2, zI v2), (3, zI v3), (4, zI v4), (5, zI v5), (6, zI v6), (8, zI v8), (9, zI v9)]) dX12_turn_225 (by decide) rfl ?_
      refine Z.pick (ls' := [(0, zR 50), (1, zI v1), (2, zI v2), (4, zI v4), (5, zI v5), (11, zI v8), (12, zI (((180 + (30 * v5)) + v6))), (13, zI ((E_11 50 52))), (14, zI 0)]) [5, 6, 7, 9, 10, 3, 2, 1, 0] rfl ?_
      exact K
    · replace K := K.2 c_9
      refine Z.iconst (n := -1) dX12_turn_205 ⟨by decide, by decide⟩ ?_
      exact Z.iret (ty := .int) dX12_turn_206 rfl rfl K
  · replace K := K.2 c_1
    refine Z.iload (k := 9) dX12_turn_171 rfl ?_
    refine Z.goto 178 dX12_turn_173 rfl ?_
    refine Z.istore (ls' := [(11, zI v9), (10, zI s0), (0, zR 50), (1, zI v1), (2, zI v2), (3, zI v3), (4, zI v4), (5, zI v5), (6, zI v6), (8, zI v8), (9, zI v9)]) dX12_turn_178 (by decide) rfl ?_
    refine Z.sipush (n := 180) dX12_turn_180 ⟨by decide, by decide⟩ (by decide) ?_
    refine Z.bipush (n := 30) dX12_turn_183 ⟨by decide, by decide⟩ (by decide) ?_
    refine Z.iload (k := 7) dX12_turn_185 rfl ?_
    obtain ⟨z_14, K⟩ := K
    refine Z.imul dX12_turn_187 z_14 ?_
    obtain ⟨z_15, K⟩ := K
    refine Z.iadd dX12_turn_188 z_15 ?_
    refine Z.iload (k := 8) dX12_turn_189 rfl ?_
    obtain ⟨z_16, K⟩ := K
    refine Z.iadd dX12_turn_191 z_16 ?_
    refine Z.istore (ls' := [(12, zI (((180 + (30 * v5)) + v6))), (11, zI v9), (10, zI s0), (0, zR 50), (1, zI v1), (2, zI v2), (3, zI v3), (4, zI v4), (5, zI v5), (6, zI v6), (8, zI v8), (9, zI v9)]) dX12_turn_192 (by decide) rfl ?_
    refine Z.aload_n (k := 3) dX12_turn_194 rfl ?_
    refine Z.iload (k := 2) dX12_turn_195 rfl ?_
    refine Z.iload (k := 0) dX12_turn_197 rfl ?_
    obtain ⟨x_17, E_18, m_19, K⟩ := K
    refine Y.callV (g := zm_X12_unites) (vs := [zI s0, zI (((180 + (30 * v5)) + v6))]) (st := []) dX12_turn_199 ⟨zg_X12_unites.1, zg_X12_unites.2.1, zg_X12_unites.2.2, by decide⟩ ⟨zk_X12_285, zv_X12_unites⟩ (ci := 12) (rfl) rfl ((zM_1 hM).2.1) rfl rfl (Nat.le_of_ble_eq_true rfl) m_19 (Or.inl rfl) ?_
    show Z zm_X12_turn kz Q 202 [(12, zI (((180 + (30 * v5)) + v6))), (11, zI v9), (10, zI s0), (0, zR 50), (1, zI v1), (2, zI v2), (3, zI v3), (4, zI v4), (5, zI v5), (6, zI v6), (8, zI v8), (9, zI v9)] [zI x_17] (d, G, E_18)
    refine Z.if_ne 207 dX12_turn_202 rfl ⟨fun c_21 => ?_, fun c_21 => ?_⟩
    · replace K := K.1 c_21
      refine Z.aload_n (k := 3) dX12_turn_207 rfl ?_
      refine Z.iconst (n := 0) dX12_turn_208 ⟨by decide, by decide⟩ ?_
      refine Y.putI 52 dX12_turn_209 zw_X12_259 (fun q => by cases q) (rfl) rfl (zM_1 hM).2.1 (Or.inl rfl) ?_
      generalize eE_22 : zuE E_18 50 52 0 = E_22
      replace K := K E_22 eE_22.symm
      refine Z.aload_n (k := 3) dX12_turn_212 rfl ?_
      refine Z.iload (k := 2) dX12_turn_213 rfl ?_
      obtain ⟨E_23, m_24, K⟩ := K
      refine Y.callV (g := zm_X12_write) (vs := [zI s0]) (st := []) dX12_turn_215 ⟨zg_X12_write.1, zg_X12_write.2.1, zg_X12_write.2.2, by decide⟩ ⟨zk_X12_265, zv_X12_write⟩ (ci := 12) (rfl) rfl ((zM_1 hM).2.1) rfl rfl (Nat.le_of_ble_eq_true rfl) m_24 (Or.inl rfl) ?_
      show Z zm_X12_turn kz Q 218 [(12, zI (((180 + (30 * v5)) + v6))), (11, zI v9), (10, zI s0), (0, zR 50), (1, zI v1), (2, zI v2), (3, zI v3), (4, zI v4), (5, zI v5), (6, zI v6), (8, zI v8), (9, zI v9)] [] (d, G, E_23)
      refine Z.aload_n (k := 3) dX12_turn_218 rfl ?_
      refine Y.getI 52 dX12_turn_219 zl_X12_259 (rfl) (by decide) rfl (zM_1 hM).2.1 ?_
      refine Z.istore (ls' := [(13, zI ((E_23 50 52))), (12, zI (((180 + (30 * v5)) + v6))), (11, zI v9), (10, zI s0), (0, zR 50), (1, zI v1), (2, zI v2), (3, zI v3), (4, zI v4), (5, zI v5), (6, zI v6), (8, zI v8), (9, zI v9)]) dX12_turn_222 (by decide) rfl ?_
      refine Z.iconst (n := 0) dX12_turn_224 ⟨by decide, by decide⟩ ?_
      refine Z.istore (ls' := [(14, zI 0), (13, zI ((E_23 50 52))), (12, zI (((180 + (30 * v5)) + v6))), (11, zI v9), (10, zI s0), (0, zR 50), (1, zI v1), (2, zI v2), (3, zI v3), (4, zI v4), (5, zI v5), (6, zI v6), (8, zI v8), (9, zI v9)]) dX12_turn_225 (by decide) rfl ?_
      refine Z.pick (ls' := [(0, zR 50), (1, zI v1), (2, zI v2), (4, zI v4), (5, zI v5), (11, zI v9), (12, zI (((180 + (30 * v5)) + v6))), (13, zI ((E_23 50 52))), (14, zI 0)]) [5, 6, 7, 9, 10, 3, 2, 1, 0] rfl ?_
      exact K
    · replace K := K.2 c_21
      refine Z.iconst (n := -1) dX12_turn_205 ⟨by decide, by decide⟩ ?_
      exact Z.iret (ty := .int) dX12_turn_206 rfl rfl K
set_option maxRecDepth 20000 in
theorem X12_turn_227 {kz : Nat × Nat} {Q : Option zV → zH → Prop} {d : List Nat} {G : Nat → Int → Option Nat} {E : Nat → Int → Int} {v1 : Int} {v2 : Int} {v4 : Int} {v5 : Int} {v11 : Int} {v12 : Int} {v13 : Int} {v14 : Int} (hM : zK zMt d G) (K : ((E 50 52) ≤ v14 → ∀ E_2, E_2 = zuE E 50 52 0 → ∃ E_3, zM zm_X12_write [zR 50, zI v11] (d, G, E_2) none (d, G, E_3) ∧ (30 < v13 → Q (some (zI 0)) (d, G, E_3)) ∧ (¬ (30 < v13) → ((E_3 50 52) ≤ 30 → ∃ x_8 E_9, zM zm_X12_isGreater [zR 50, zR 102, zI 0, zR 104, zI 0] (d, G, E_3) (some (zI x_8)) (d, G, E_9) ∧ (x_8 = 0 → ∀ E_13, E_13 = zuE E_9 50 24 0 → ∃ x_14 E_15, zM zm_X12_turnWrites [zR 50, zI v1, zI v2, zI v4, zI v5, zI v12, zI v11] (d, G, E_13) (some (zI x_14)) (d, G, E_15) ∧ (x_14 = 0 → Q (some (zI 0)) (d, G, E_15)) ∧ (¬ (x_14 = 0) → Q (some (zI 1)) (d, G, E_15))) ∧ (¬ (x_8 = 0) → Q (some (zI ((-1)))) (d, G, E_9))) ∧ (¬ ((E_3 50 52) ≤ 30) → Q (some (zI 0)) (d, G, E_3)))) ∧ (¬ ((E 50 52) ≤ v14) → ((0 : Int) ≤ v14 ∧ v14 < (31 : Int)) ∧ ((0 : Int) ≤ v14 ∧ v14 < (31 : Int)) ∧ ∀ E_21, E_21 = zuE E 104 v14 ((E 102 v14)) → zin (v14 + 1) ∧ Z zm_X12_turn kz Q 227 [(0, zR 50), (1, zI v1), (2, zI v2), (4, zI v4), (5, zI v5), (11, zI v11), (12, zI v12), (13, zI v13), (14, zI ((v14 + 1)))] [] (d, G, E_21))) : Z zm_X12_turn kz Q 227 [(0, zR 50), (1, zI v1), (2, zI v2), (4, zI v4), (5, zI v5), (11, zI v11), (12, zI v12), (13, zI v13), (14, zI v14)] [] (d, G, E) := by
  refine Z.iload (k := 8) dX12_turn_227 rfl ?_
  refine Z.aload_n (k := 0) dX12_turn_229 rfl ?_
  refine Y.getI 52 dX12_turn_230 zl_X12_259 (rfl) (by decide) rfl (zM_1 hM).2.1 ?_
  refine Z.icmp_ge 256 dX12_turn_233 rfl ⟨fun c_1 => ?_, fun c_1 => ?_⟩
  · replace K := K.1 c_1
    refine Z.aload_n (k := 0) dX12_turn_256 rfl ?_
    refine Z.iconst (n := 0) dX12_turn_257 ⟨by decide, by decide⟩ ?_
    refine Y.putI 52 dX12_turn_258 zw_X12_259 (fun q => by cases q) (rfl) rfl (zM_1 hM).2.1 (Or.inl rfl) ?_
    generalize eE_2 : zuE E 50 52 0 = E_2
    replace K := K E_2 eE_2.symm
    refine Z.aload_n (k := 0) dX12_turn_261 rfl ?_
    refine Z.iload (k := 5) dX12_turn_262 rfl ?_
    obtain ⟨E_3, m_4, K⟩ := K
    refine Y.callV (g := zm_X12_write) (vs := [zI v11]) (st := []) dX12_turn_264 ⟨zg_X12_write.1, zg_X12_write.2.1, zg_X12_write.2.2, by decide⟩ ⟨zk_X12_265, zv_X12_write⟩ (ci := 12) (rfl) rfl ((zM_1 hM).2.1) rfl rfl (Nat.le_of_ble_eq_true rfl) m_4 (Or.inl rfl) ?_
    show Z zm_X12_turn kz Q 267 [(0, zR 50), (1, zI v1), (2, zI v2), (4, zI v4), (5, zI v5), (11, zI v11), (12, zI v12), (13, zI v13), (14, zI v14)] [] (d, G, E_3)
    refine Z.iload (k := 7) dX12_turn_267 rfl ?_
    refine Z.bipush (n := 30) dX12_turn_269 ⟨by decide, by decide⟩ (by decide) ?_
    refine Z.icmp_gt 283 dX12_turn_271 rfl ⟨fun c_6 => ?_, fun c_6 => ?_⟩
    · replace K := K.1 c_6
      refine Z.iconst (n := 0) dX12_turn_283 ⟨by decide, by decide⟩ ?_
      exact Z.iret (ty := .int) dX12_turn_284 rfl rfl K
    · replace K := K.2 c_6
      refine Z.aload_n (k := 0) dX12_turn_274 rfl ?_
      refine Y.getI 52 dX12_turn_275 zl_X12_259 (rfl) (by decide) rfl (zM_1 hM).2.1 ?_
      refine Z.bipush (n := 30) dX12_turn_278 ⟨by decide, by decide⟩ (by decide) ?_
      refine Z.icmp_le 285 dX12_turn_280 rfl ⟨fun c_7 => ?_, fun c_7 => ?_⟩
      · replace K := K.1 c_7
        refine Z.aload_n (k := 0) dX12_turn_285 rfl ?_
        refine Z.aload_n (k := 0) dX12_turn_286 rfl ?_
        refine Y.getR (o := some 102) 51 dX12_turn_287 zl_X12_123 (rfl) (by decide) rfl (zM_1 hM).2.1 (zM_51 hM).1 ?_
        refine Z.iconst (n := 0) dX12_turn_290 ⟨by decide, by decide⟩ ?_
        refine Z.aload_n (k := 0) dX12_turn_291 rfl ?_
        refine Y.getR (o := some 104) 53 dX12_turn_292 zl_X12_126 (rfl) (by decide) rfl (zM_1 hM).2.1 (zM_53 hM).1 ?_
        refine Z.iconst (n := 0) dX12_turn_295 ⟨by decide, by decide⟩ ?_
        obtain ⟨x_8, E_9, m_10, K⟩ := K
        refine Y.callV (g := zm_X12_isGreater) (vs := [zR 102, zI 0, zR 104, zI 0]) (st := []) dX12_turn_296 ⟨zg_X12_isGreater.1, zg_X12_isGreater.2.1, zg_X12_isGreater.2.2, by decide⟩ ⟨zk_X12_170, zv_X12_isGreater⟩ (ci := 12) (rfl) rfl ((zM_1 hM).2.1) rfl rfl (Nat.le_of_ble_eq_true rfl) m_10 (Or.inl rfl) ?_
        show Z zm_X12_turn kz Q 299 [(0, zR 50), (1, zI v1), (2, zI v2), (4, zI v4), (5, zI v5), (11, zI v11), (12, zI v12), (13, zI v13), (14, zI v14)] [zI x_8] (d, G, E_9)
        refine Z.if_eq 304 dX12_turn_299 rfl ⟨fun c_12 => ?_, fun c_12 => ?_⟩
        · replace K := K.1 c_12
          refine Z.aload_n (k := 0) dX12_turn_304 rfl ?_
          refine Z.iconst (n := 0) dX12_turn_305 ⟨by decide, by decide⟩ ?_
          refine Y.putI 24 dX12_turn_306 zw_X12_167 (fun q => by cases q) (rfl) rfl (zM_1 hM).2.1 (Or.inl rfl) ?_
          generalize eE_13 : zuE E_9 50 24 0 = E_13
          replace K := K E_13 eE_13.symm
          refine Z.aload_n (k := 0) dX12_turn_309 rfl ?_
          refine Z.iload_n (k := 1) dX12_turn_310 rfl ?_
          refine Z.iload_n (k := 2) dX12_turn_311 rfl ?_
          refine Z.iload (k := 3) dX12_turn_312 rfl ?_
          refine Z.iload (k := 4) dX12_turn_314 rfl ?_
          refine Z.iload (k := 6) dX12_turn_316 rfl ?_
          refine Z.iload (k := 5) dX12_turn_318 rfl ?_
          obtain ⟨x_14, E_15, m_16, K⟩ := K
          refine Y.callV (g := zm_X12_turnWrites) (vs := [zI v1, zI v2, zI v4, zI v5, zI v12, zI v11]) (st := []) dX12_turn_320 ⟨zg_X12_turnWrites.1, zg_X12_turnWrites.2.1, zg_X12_turnWrites.2.2, by decide⟩ ⟨zk_X12_291, zv_X12_turnWrites⟩ (ci := 12) (rfl) rfl ((zM_1 hM).2.1) rfl rfl (Nat.le_of_ble_eq_true rfl) m_16 (Or.inl rfl) ?_
          show Z zm_X12_turn kz Q 323 [(0, zR 50), (1, zI v1), (2, zI v2), (4, zI v4), (5, zI v5), (11, zI v11), (12, zI v12), (13, zI v13), (14, zI v14)] [zI x_14] (d, G, E_15)
          refine Z.if_eq 330 dX12_turn_323 rfl ⟨fun c_18 => ?_, fun c_18 => ?_⟩
          · replace K := K.1 c_18
            refine Z.iconst (n := 0) dX12_turn_330 ⟨by decide, by decide⟩ ?_
            exact Z.iret (ty := .int) dX12_turn_331 rfl rfl K
          · replace K := K.2 c_18
            refine Z.iconst (n := 1) dX12_turn_326 ⟨by decide, by decide⟩ ?_
            refine Z.goto 331 dX12_turn_327 rfl ?_
            exact Z.iret (ty := .int) dX12_turn_331 rfl rfl K
        · replace K := K.2 c_12
          refine Z.iconst (n := -1) dX12_turn_302 ⟨by decide, by decide⟩ ?_
          exact Z.iret (ty := .int) dX12_turn_303 rfl rfl K
      · replace K := K.2 c_7
        refine Z.iconst (n := 0) dX12_turn_283 ⟨by decide, by decide⟩ ?_
        exact Z.iret (ty := .int) dX12_turn_284 rfl rfl K
  · replace K := K.2 c_1
    refine Z.aload_n (k := 0) dX12_turn_236 rfl ?_
    refine Y.getR (o := some 104) 53 dX12_turn_237 zl_X12_126 (rfl) (by decide) rfl (zM_1 hM).2.1 (zM_53 hM).1 ?_
    refine Z.iload (k := 8) dX12_turn_240 rfl ?_
    refine Z.aload_n (k := 0) dX12_turn_242 rfl ?_
    refine Y.getR (o := some 102) 51 dX12_turn_243 zl_X12_123 (rfl) (by decide) rfl (zM_1 hM).2.1 (zM_51 hM).1 ?_
    refine Z.iload (k := 8) dX12_turn_246 rfl ?_
    obtain ⟨z_19, K⟩ := K
    refine Y.iald dX12_turn_248 (rfl) ((zM_51 hM).2.2) z_19 ?_
    obtain ⟨z_20, K⟩ := K
    refine Y.iast dX12_turn_249 (rfl) ((zM_53 hM).2.2) z_20 ?_
    generalize eE_21 : zuE E 104 v14 ((E 102 v14)) = E_21
    replace K := K E_21 eE_21.symm
    obtain ⟨z_22, K⟩ := K
    refine Z.iinc (k := 8) (ls' := [(14, zI ((v14 + 1))), (0, zR 50), (1, zI v1), (2, zI v2), (4, zI v4), (5, zI v5), (11, zI v11), (12, zI v12), (13, zI v13)]) dX12_turn_250 rfl (by decide) z_22 rfl ?_
    refine Z.goto 227 dX12_turn_253 rfl ?_
    refine Z.pick (ls' := [(0, zR 50), (1, zI v1), (2, zI v2), (4, zI v4), (5, zI v5), (11, zI v11), (12, zI v12), (13, zI v13), (14, zI ((v14 + 1)))]) [1, 2, 3, 4, 5, 6, 7, 8, 0] rfl ?_
    exact K
set_option maxRecDepth 20000 in
theorem X12_makes_0 {kz : Nat × Nat} {Q : Option zV → zH → Prop} {d : List Nat} {G : Nat → Int → Option Nat} {E : Nat → Int → Int} {v1 : Int} {v2 : Int} {v3 : Int} {v4 : Int} {v5 : Int} {v6 : Int} {v7 : Int} (hM : zK zMt d G) (K : (v1 = 1 → ∃ x_2 E_3, zM zm_X12_clash [zR 50, zI v2, zI v3, zI v4] (d, G, E) (some (zI x_2)) (d, G, E_3) ∧ Q (some (zI x_2)) (d, G, E_3)) ∧ (v1 = 2 → ∃ x_7 E_8, zM zm_X12_factor [zR 50, zI v2, zI v3, zI v4] (d, G, E) (some (zI x_7)) (d, G, E_8) ∧ Q (some (zI x_7)) (d, G, E_8)) ∧ (v1 = 3 → ∃ x_12 E_13, zM zm_X12_drop [zR 50, zI v2] (d, G, E) (some (zI x_12)) (d, G, E_13) ∧ Q (some (zI x_12)) (d, G, E_13)) ∧ ((v1 < 1 ∨ 3 < v1) → ∃ x_16 E_17, zM zm_X12_turn [zR 50, zI v2, zI v3, zI v4, zI v5, zI v6, zI v7] (d, G, E) (some (zI x_16)) (d, G, E_17) ∧ Q (some (zI x_16)) (d, G, E_17))) : Z zm_X12_makes kz Q 0 [(0, zR 50), (1, zI v1), (2, zI v2), (3, zI v3), (4, zI v4), (5, zI v5), (6, zI v6), (7, zI v7)] [] (d, G, E) := by
  refine Z.iload_n (k := 1) dX12_makes_0 rfl ?_
  by_cases c_1 : v1 = 1
  · replace K := K.1 c_1
    refine Z.tableIn (off := 27) 28 dX12_makes_1 (by omega) (by omega) (by rw [c_1]; rfl) rfl ?_
    refine Z.aload_n (k := 0) dX12_makes_28 rfl ?_
    refine Z.iload_n (k := 2) dX12_makes_29 rfl ?_
    refine Z.iload_n (k := 3) dX12_makes_30 rfl ?_
    refine Z.iload (k := 4) dX12_makes_31 rfl ?_
    obtain ⟨x_2, E_3, m_4, K⟩ := K
    refine Y.callV (g := zm_X12_clash) (vs := [zI v2, zI v3, zI v4]) (st := []) dX12_makes_33 ⟨zg_X12_clash.1, zg_X12_clash.2.1, zg_X12_clash.2.2, by decide⟩ ⟨zk_X12_299, zv_X12_clash⟩ (ci := 12) (rfl) rfl ((zM_1 hM).2.1) rfl rfl (Nat.le_of_ble_eq_true rfl) m_4 (Or.inl rfl) ?_
    show Z zm_X12_makes kz Q 36 [(0, zR 50), (1, zI v1), (2, zI v2), (3, zI v3), (4, zI v4), (5, zI v5), (6, zI v6), (7, zI v7)] [zI x_2] (d, G, E_3)
    exact Z.iret (ty := .int) dX12_makes_36 rfl rfl K
  replace K := K.2
  by_cases c_6 : v1 = 2
  · replace K := K.1 c_6
    refine Z.tableIn (off := 36) 37 dX12_makes_1 (by omega) (by omega) (by rw [c_6]; rfl) rfl ?_
    refine Z.aload_n (k := 0) dX12_makes_37 rfl ?_
    refine Z.iload_n (k := 2) dX12_makes_38 rfl ?_
    refine Z.iload_n (k := 3) dX12_makes_39 rfl ?_
    refine Z.iload (k := 4) dX12_makes_40 rfl ?_
    obtain ⟨x_7, E_8, m_9, K⟩ := K
    refine Y.callV (g := zm_X12_factor) (vs := [zI v2, zI v3, zI v4]) (st := []) dX12_makes_42 ⟨zg_X12_factor.1, zg_X12_factor.2.1, zg_X12_factor.2.2, by decide⟩ ⟨zk_X12_303, zv_X12_factor⟩ (ci := 12) (rfl) rfl ((zM_1 hM).2.1) rfl rfl (Nat.le_of_ble_eq_true rfl) m_9 (Or.inl rfl) ?_
    show Z zm_X12_makes kz Q 45 [(0, zR 50), (1, zI v1), (2, zI v2), (3, zI v3), (4, zI v4), (5, zI v5), (6, zI v6), (7, zI v7)] [zI x_7] (d, G, E_8)
    exact Z.iret (ty := .int) dX12_makes_45 rfl rfl K
  replace K := K.2
  by_cases c_11 : v1 = 3
  · replace K := K.1 c_11
    refine Z.tableIn (off := 45) 46 dX12_makes_1 (by omega) (by omega) (by rw [c_11]; rfl) rfl ?_
    refine Z.aload_n (k := 0) dX12_makes_46 rfl ?_
    refine Z.iload_n (k := 2) dX12_makes_47 rfl ?_
    obtain ⟨x_12, E_13, m_14, K⟩ := K
    refine Y.callV (g := zm_X12_drop) (vs := [zI v2]) (st := []) dX12_makes_48 ⟨zg_X12_drop.1, zg_X12_drop.2.1, zg_X12_drop.2.2, by decide⟩ ⟨zk_X12_306, zv_X12_drop⟩ (ci := 12) (rfl) rfl ((zM_1 hM).2.1) rfl rfl (Nat.le_of_ble_eq_true rfl) m_14 (Or.inl rfl) ?_
    show Z zm_X12_makes kz Q 51 [(0, zR 50), (1, zI v1), (2, zI v2), (3, zI v3), (4, zI v4), (5, zI v5), (6, zI v6), (7, zI v7)] [zI x_12] (d, G, E_13)
    exact Z.iret (ty := .int) dX12_makes_51 rfl rfl K
  replace K := K.2
  have hd0 : v1 < 1 ∨ 3 < v1 := by omega
  replace K := K hd0
  refine Z.tableOut 52 dX12_makes_1 hd0 rfl ?_
  refine Z.aload_n (k := 0) dX12_makes_52 rfl ?_
  refine Z.iload_n (k := 2) dX12_makes_53 rfl ?_
  refine Z.iload_n (k := 3) dX12_makes_54 rfl ?_
  refine Z.iload (k := 4) dX12_makes_55 rfl ?_
  refine Z.iload (k := 5) dX12_makes_57 rfl ?_
  refine Z.iload (k := 6) dX12_makes_59 rfl ?_
  refine Z.iload (k := 7) dX12_makes_61 rfl ?_
  obtain ⟨x_16, E_17, m_18, K⟩ := K
  refine Y.callV (g := zm_X12_turn) (vs := [zI v2, zI v3, zI v4, zI v5, zI v6, zI v7]) (st := []) dX12_makes_63 ⟨zg_X12_turn.1, zg_X12_turn.2.1, zg_X12_turn.2.2, by decide⟩ ⟨zk_X12_309, zv_X12_turn⟩ (ci := 12) (rfl) rfl ((zM_1 hM).2.1) rfl rfl (Nat.le_of_ble_eq_true rfl) m_18 (Or.inl rfl) ?_
  show Z zm_X12_makes kz Q 66 [(0, zR 50), (1, zI v1), (2, zI v2), (3, zI v3), (4, zI v4), (5, zI v5), (6, zI v6), (7, zI v7)] [zI x_16] (d, G, E_17)
  exact Z.iret (ty := .int) dX12_makes_66 rfl rfl K
set_option maxRecDepth 20000 in
theorem X12_isTakenIn_0 {kz : Nat × Nat} {Q : Option zV → zH → Prop} {d : List Nat} {G : Nat → Int → Option Nat} {E : Nat → Int → Int}  (hM : zK zMt d G) (K : Z zm_X12_isTakenIn kz Q 2 [(0, zR 50), (1, zI 0)] [] (d, G, E)) : Z zm_X12_isTakenIn kz Q 0 [(0, zR 50)] [] (d, G, E) := by
  refine Z.iconst (n := 0) dX12_isTakenIn_0 ⟨by decide, by decide⟩ ?_
  refine Z.istore_n (ls' := [(1, zI 0), (0, zR 50)]) dX12_isTakenIn_1 (by decide) rfl ?_
  refine Z.pick (ls' := [(0, zR 50), (1, zI 0)]) [1, 0] rfl ?_
  exact K
set_option maxRecDepth 20000 in
theorem X12_isTakenIn_2 {kz : Nat × Nat} {Q : Option zV → zH → Prop} {d : List Nat} {G : Nat → Int → Option Nat} {E : Nat → Int → Int} {v1 : Int} (hM : zK zMt d G) (K : ((E 50 6) ≤ v1 → Q (some (zI 0)) (d, G, E)) ∧ (¬ ((E 50 6) ≤ v1) → ((0 : Int) ≤ v1 ∧ v1 < (150 : Int)) ∧ ((E 62 v1) = 2 → zin (v1 + 1) ∧ Z zm_X12_isTakenIn kz Q 2 [(0, zR 50), (1, zI ((v1 + 1)))] [] (d, G, E)) ∧ (¬ ((E 62 v1) = 2) → ∃ x_5 E_6, zM zm_X12_claimTakesWork [zR 50, zI v1] (d, G, E) (some (zI x_5)) (d, G, E_6) ∧ (x_5 = 0 → zin (v1 + 1) ∧ Z zm_X12_isTakenIn kz Q 2 [(0, zR 50), (1, zI ((v1 + 1)))] [] (d, G, E_6)) ∧ (¬ (x_5 = 0) → Q (some (zI 1)) (d, G, E_6))))) : Z zm_X12_isTakenIn kz Q 2 [(0, zR 50), (1, zI v1)] [] (d, G, E) := by
  refine Z.iload_n (k := 1) dX12_isTakenIn_2 rfl ?_
  refine Z.aload_n (k := 0) dX12_isTakenIn_3 rfl ?_
  refine Y.getI 6 dX12_isTakenIn_4 zl_X12_142 (rfl) (by decide) rfl (zM_1 hM).2.1 ?_
  refine Z.icmp_ge 36 dX12_isTakenIn_7 rfl ⟨fun c_1 => ?_, fun c_1 => ?_⟩
  · replace K := K.1 c_1
    refine Z.iconst (n := 0) dX12_isTakenIn_36 ⟨by decide, by decide⟩ ?_
    exact Z.iret (ty := .boolean) dX12_isTakenIn_37 rfl rfl K
  · replace K := K.2 c_1
    refine Z.aload_n (k := 0) dX12_isTakenIn_10 rfl ?_
    refine Y.getR (o := some 62) 11 dX12_isTakenIn_11 zl_X12_39 (rfl) (by decide) rfl (zM_1 hM).2.1 (zM_11 hM).1 ?_
    refine Z.iload_n (k := 1) dX12_isTakenIn_14 rfl ?_
    obtain ⟨z_2, K⟩ := K
    refine Y.iald dX12_isTakenIn_15 (rfl) ((zM_11 hM).2.2) z_2 ?_
    refine Z.iconst (n := 2) dX12_isTakenIn_16 ⟨by decide, by decide⟩ ?_
    refine Z.icmp_eq 30 dX12_isTakenIn_17 rfl ⟨fun c_3 => ?_, fun c_3 => ?_⟩
    · replace K := K.1 c_3
      obtain ⟨z_4, K⟩ := K
      refine Z.iinc (k := 1) (ls' := [(1, zI ((v1 + 1))), (0, zR 50)]) dX12_isTakenIn_30 rfl (by decide) z_4 rfl ?_
      refine Z.goto 2 dX12_isTakenIn_33 rfl ?_
      refine Z.pick (ls' := [(0, zR 50), (1, zI ((v1 + 1)))]) [1, 0] rfl ?_
      exact K
    · replace K := K.2 c_3
      refine Z.aload_n (k := 0) dX12_isTakenIn_20 rfl ?_
      refine Z.iload_n (k := 1) dX12_isTakenIn_21 rfl ?_
      obtain ⟨x_5, E_6, m_7, K⟩ := K
      refine Y.callV (g := zm_X12_claimTakesWork) (vs := [zI v1]) (st := []) dX12_isTakenIn_22 ⟨zg_X12_claimTakesWork.1, zg_X12_claimTakesWork.2.1, zg_X12_claimTakesWork.2.2, by decide⟩ ⟨zk_X12_313, zv_X12_claimTakesWork⟩ (ci := 12) (rfl) rfl ((zM_1 hM).2.1) rfl rfl (Nat.le_of_ble_eq_true rfl) m_7 (Or.inl rfl) ?_
      show Z zm_X12_isTakenIn kz Q 25 [(0, zR 50), (1, zI v1)] [zI x_5] (d, G, E_6)
      refine Z.if_eq 30 dX12_isTakenIn_25 rfl ⟨fun c_9 => ?_, fun c_9 => ?_⟩
      · replace K := K.1 c_9
        obtain ⟨z_10, K⟩ := K
        refine Z.iinc (k := 1) (ls' := [(1, zI ((v1 + 1))), (0, zR 50)]) dX12_isTakenIn_30 rfl (by decide) z_10 rfl ?_
        refine Z.goto 2 dX12_isTakenIn_33 rfl ?_
        refine Z.pick (ls' := [(0, zR 50), (1, zI ((v1 + 1)))]) [1, 0] rfl ?_
        exact K
      · replace K := K.2 c_9
        refine Z.iconst (n := 1) dX12_isTakenIn_28 ⟨by decide, by decide⟩ ?_
        exact Z.iret (ty := .boolean) dX12_isTakenIn_29 rfl rfl K
set_option maxRecDepth 20000 in
theorem X12_layWork_0 {kz : Nat × Nat} {Q : Option zV → zH → Prop} {d : List Nat} {G : Nat → Int → Option Nat} {E : Nat → Int → Int} {v1 : Int} (hM : zK zMt d G) (K : ((0 : Int) ≤ v1 ∧ v1 < (150 : Int)) ∧ ∀ E_2, E_2 = zuE E 61 v1 ((E 50 24)) → Z zm_X12_layWork kz Q 12 [(0, zR 50), (1, zI v1), (2, zI 0)] [] (d, G, E_2)) : Z zm_X12_layWork kz Q 0 [(0, zR 50), (1, zI v1)] [] (d, G, E) := by
  refine Z.aload_n (k := 0) dX12_layWork_0 rfl ?_
  refine Y.getR (o := some 61) 10 dX12_layWork_1 zl_X12_36 (rfl) (by decide) rfl (zM_1 hM).2.1 (zM_10 hM).1 ?_
  refine Z.iload_n (k := 1) dX12_layWork_4 rfl ?_
  refine Z.aload_n (k := 0) dX12_layWork_5 rfl ?_
  refine Y.getI 24 dX12_layWork_6 zl_X12_167 (rfl) (by decide) rfl (zM_1 hM).2.1 ?_
  obtain ⟨z_1, K⟩ := K
  refine Y.iast dX12_layWork_9 (rfl) ((zM_10 hM).2.2) z_1 ?_
  generalize eE_2 : zuE E 61 v1 ((E 50 24)) = E_2
  replace K := K E_2 eE_2.symm
  refine Z.iconst (n := 0) dX12_layWork_10 ⟨by decide, by decide⟩ ?_
  refine Z.istore_n (ls' := [(2, zI 0), (0, zR 50), (1, zI v1)]) dX12_layWork_11 (by decide) rfl ?_
  refine Z.pick (ls' := [(0, zR 50), (1, zI v1), (2, zI 0)]) [1, 2, 0] rfl ?_
  exact K
set_option maxRecDepth 20000 in
theorem X12_layWork_12 {kz : Nat × Nat} {Q : Option zV → zH → Prop} {d : List Nat} {G : Nat → Int → Option Nat} {E : Nat → Int → Int} {v1 : Int} {v2 : Int} (hM : zK zMt d G) (K : ((E 50 24) ≤ v2 → Q none (d, G, E)) ∧ (¬ ((E 50 24) ≤ v2) → zin (6 * v1) ∧ zin ((6 * v1) + v2) ∧ ((0 : Int) ≤ v2 ∧ v2 < (6 : Int)) ∧ ((0 : Int) ≤ ((6 * v1) + v2) ∧ ((6 * v1) + v2) < (900 : Int)) ∧ ∀ E_6, E_6 = zuE E 59 (((6 * v1) + v2)) ((E 73 v2)) → zin (6 * v1) ∧ zin ((6 * v1) + v2) ∧ ((0 : Int) ≤ v2 ∧ v2 < (6 : Int)) ∧ ((0 : Int) ≤ ((6 * v1) + v2) ∧ ((6 * v1) + v2) < (900 : Int)) ∧ ((E_6 74 v2) = 0 ∨ (E_6 74 v2) = 1) ∧ ∀ E_12, E_12 = zuE E_6 60 (((6 * v1) + v2)) ((E_6 74 v2)) → Z zm_X12_layWork kz Q 56 [(0, zR 50), (1, zI v1), (2, zI v2), (3, zI 0)] [] (d, G, E_12))) : Z zm_X12_layWork kz Q 12 [(0, zR 50), (1, zI v1), (2, zI v2)] [] (d, G, E) := by
  refine Z.iload_n (k := 2) dX12_layWork_12 rfl ?_
  refine Z.aload_n (k := 0) dX12_layWork_13 rfl ?_
  refine Y.getI 24 dX12_layWork_14 zl_X12_167 (rfl) (by decide) rfl (zM_1 hM).2.1 ?_
  refine Z.icmp_ge 105 dX12_layWork_17 rfl ⟨fun c_1 => ?_, fun c_1 => ?_⟩
  · replace K := K.1 c_1
    exact Z.vret dX12_layWork_105 rfl K
  · replace K := K.2 c_1
    refine Z.aload_n (k := 0) dX12_layWork_20 rfl ?_
    refine Y.getR (o := some 59) 8 dX12_layWork_21 zl_X12_30 (rfl) (by decide) rfl (zM_1 hM).2.1 (zM_8 hM).1 ?_
    refine Z.bipush (n := 6) dX12_layWork_24 ⟨by decide, by decide⟩ (by decide) ?_
    refine Z.iload_n (k := 1) dX12_layWork_26 rfl ?_
    obtain ⟨z_2, K⟩ := K
    refine Z.imul dX12_layWork_27 z_2 ?_
    refine Z.iload_n (k := 2) dX12_layWork_28 rfl ?_
    obtain ⟨z_3, K⟩ := K
    refine Z.iadd dX12_layWork_29 z_3 ?_
    refine Z.aload_n (k := 0) dX12_layWork_30 rfl ?_
    refine Y.getR (o := some 73) 22 dX12_layWork_31 zl_X12_72 (rfl) (by decide) rfl (zM_1 hM).2.1 (zM_22 hM).1 ?_
    refine Z.iload_n (k := 2) dX12_layWork_34 rfl ?_
    obtain ⟨z_4, K⟩ := K
    refine Y.iald dX12_layWork_35 (rfl) ((zM_22 hM).2.2) z_4 ?_
    obtain ⟨z_5, K⟩ := K
    refine Y.iast dX12_layWork_36 (rfl) ((zM_8 hM).2.2) z_5 ?_
    generalize eE_6 : zuE E 59 (((6 * v1) + v2)) ((E 73 v2)) = E_6
    replace K := K E_6 eE_6.symm
    refine Z.aload_n (k := 0) dX12_layWork_37 rfl ?_
    refine Y.getR (o := some 60) 9 dX12_layWork_38 zl_X12_33 (rfl) (by decide) rfl (zM_1 hM).2.1 (zM_9 hM).1 ?_
    refine Z.bipush (n := 6) dX12_layWork_41 ⟨by decide, by decide⟩ (by decide) ?_
    refine Z.iload_n (k := 1) dX12_layWork_43 rfl ?_
    obtain ⟨z_7, K⟩ := K
    refine Z.imul dX12_layWork_44 z_7 ?_
    refine Z.iload_n (k := 2) dX12_layWork_45 rfl ?_
    obtain ⟨z_8, K⟩ := K
    refine Z.iadd dX12_layWork_46 z_8 ?_
    refine Z.aload_n (k := 0) dX12_layWork_47 rfl ?_
    refine Y.getR (o := some 74) 23 dX12_layWork_48 zl_X12_75 (rfl) (by decide) rfl (zM_1 hM).2.1 (zM_23 hM).1 ?_
    refine Z.iload_n (k := 2) dX12_layWork_51 rfl ?_
    obtain ⟨z_9, K⟩ := K
    refine Y.zald dX12_layWork_52 (rfl) ((zM_23 hM).2.2) z_9 ?_
    obtain ⟨z_10, K⟩ := K
    obtain ⟨z_11, K⟩ := K
    refine Y.zast dX12_layWork_53 (rfl) ((zM_9 hM).2.2) z_10 z_11 ?_
    generalize eE_12 : zuE E_6 60 (((6 * v1) + v2)) ((E_6 74 v2)) = E_12
    replace K := K E_12 eE_12.symm
    refine Z.iconst (n := 0) dX12_layWork_54 ⟨by decide, by decide⟩ ?_
    refine Z.istore_n (ls' := [(3, zI 0), (0, zR 50), (1, zI v1), (2, zI v2)]) dX12_layWork_55 (by decide) rfl ?_
    refine Z.pick (ls' := [(0, zR 50), (1, zI v1), (2, zI v2), (3, zI 0)]) [1, 2, 3, 0] rfl ?_
    exact K
set_option maxRecDepth 20000 in
theorem X12_layWork_56 {kz : Nat × Nat} {Q : Option zV → zH → Prop} {d : List Nat} {G : Nat → Int → Option Nat} {E : Nat → Int → Int} {v1 : Int} {v2 : Int} {v3 : Int} (hM : zK zMt d G) (K : ((0 : Int) ≤ v2 ∧ v2 < (6 : Int)) ∧ ((E 73 v2) ≤ v3 → zin (v2 + 1) ∧ Z zm_X12_layWork kz Q 12 [(0, zR 50), (1, zI v1), (2, zI ((v2 + 1)))] [] (d, G, E)) ∧ (¬ ((E 73 v2) ≤ v3) → zin (6 * v1) ∧ zin ((6 * v1) + v2) ∧ zin (30 * ((6 * v1) + v2)) ∧ zin ((30 * ((6 * v1) + v2)) + v3) ∧ zin (30 * v2) ∧ zin ((30 * v2) + v3) ∧ ((0 : Int) ≤ ((30 * v2) + v3) ∧ ((30 * v2) + v3) < (180 : Int)) ∧ ((0 : Int) ≤ ((30 * ((6 * v1) + v2)) + v3) ∧ ((30 * ((6 * v1) + v2)) + v3) < (27000 : Int)) ∧ ∀ E_12, E_12 = zuE E 58 (((30 * ((6 * v1) + v2)) + v3)) ((E 72 ((30 * v2) + v3))) → zin (v3 + 1) ∧ Z zm_X12_layWork kz Q 56 [(0, zR 50), (1, zI v1), (2, zI v2), (3, zI ((v3 + 1)))] [] (d, G, E_12))) : Z zm_X12_layWork kz Q 56 [(0, zR 50), (1, zI v1), (2, zI v2), (3, zI v3)] [] (d, G, E) := by
  refine Z.iload_n (k := 3) dX12_layWork_56 rfl ?_
  refine Z.aload_n (k := 0) dX12_layWork_57 rfl ?_
  refine Y.getR (o := some 73) 22 dX12_layWork_58 zl_X12_72 (rfl) (by decide) rfl (zM_1 hM).2.1 (zM_22 hM).1 ?_
  refine Z.iload_n (k := 2) dX12_layWork_61 rfl ?_
  obtain ⟨z_1, K⟩ := K
  refine Y.iald dX12_layWork_62 (rfl) ((zM_22 hM).2.2) z_1 ?_
  refine Z.icmp_ge 99 dX12_layWork_63 rfl ⟨fun c_2 => ?_, fun c_2 => ?_⟩
  · replace K := K.1 c_2
    obtain ⟨z_3, K⟩ := K
    refine Z.iinc (k := 2) (ls' := [(2, zI ((v2 + 1))), (0, zR 50), (1, zI v1), (3, zI v3)]) dX12_layWork_99 rfl (by decide) z_3 rfl ?_
    refine Z.goto 12 dX12_layWork_102 rfl ?_
    refine Z.pick (ls' := [(0, zR 50), (1, zI v1), (2, zI ((v2 + 1)))]) [1, 2, 0] rfl ?_
    exact K
  · replace K := K.2 c_2
    refine Z.aload_n (k := 0) dX12_layWork_66 rfl ?_
    refine Y.getR (o := some 58) 7 dX12_layWork_67 zl_X12_27 (rfl) (by decide) rfl (zM_1 hM).2.1 (zM_7 hM).1 ?_
    refine Z.bipush (n := 30) dX12_layWork_70 ⟨by decide, by decide⟩ (by decide) ?_
    refine Z.bipush (n := 6) dX12_layWork_72 ⟨by decide, by decide⟩ (by decide) ?_
    refine Z.iload_n (k := 1) dX12_layWork_74 rfl ?_
    obtain ⟨z_4, K⟩ := K
    refine Z.imul dX12_layWork_75 z_4 ?_
    refine Z.iload_n (k := 2) dX12_layWork_76 rfl ?_
    obtain ⟨z_5, K⟩ := K
    refine Z.iadd dX12_layWork_77 z_5 ?_
    obtain ⟨z_6, K⟩ := K
    refine Z.imul dX12_layWork_78 z_6 ?_
    refine Z.iload_n (k := 3) dX12_layWork_79 rfl ?_
    obtain ⟨z_7, K⟩ := K
    refine Z.iadd dX12_layWork_80 z_7 ?_
    refine Z.aload_n (k := 0) dX12_layWork_81 rfl ?_
    refine Y.getR (o := some 72) 21 dX12_layWork_82 zl_X12_69 (rfl) (by decide) rfl (zM_1 hM).2.1 (zM_21 hM).1 ?_
    refine Z.bipush (n := 30) dX12_layWork_85 ⟨by decide, by decide⟩ (by decide) ?_
    refine Z.iload_n (k := 2) dX12_layWork_87 rfl ?_
    obtain ⟨z_8, K⟩ := K
    refine Z.imul dX12_layWork_88 z_8 ?_
    refine Z.iload_n (k := 3) dX12_layWork_89 rfl ?_
    obtain ⟨z_9, K⟩ := K
    refine Z.iadd dX12_layWork_90 z_9 ?_
    obtain ⟨z_10, K⟩ := K
    refine Y.iald dX12_layWork_91 (rfl) ((zM_21 hM).2.2) z_10 ?_
    obtain ⟨z_11, K⟩ := K
    refine Y.iast dX12_layWork_92 (rfl) ((zM_7 hM).2.2) z_11 ?_
    generalize eE_12 : zuE E 58 (((30 * ((6 * v1) + v2)) + v3)) ((E 72 ((30 * v2) + v3))) = E_12
    replace K := K E_12 eE_12.symm
    obtain ⟨z_13, K⟩ := K
    refine Z.iinc (k := 3) (ls' := [(3, zI ((v3 + 1))), (0, zR 50), (1, zI v1), (2, zI v2)]) dX12_layWork_93 rfl (by decide) z_13 rfl ?_
    refine Z.goto 56 dX12_layWork_96 rfl ?_
    refine Z.pick (ls' := [(0, zR 50), (1, zI v1), (2, zI v2), (3, zI ((v3 + 1)))]) [1, 2, 3, 0] rfl ?_
    exact K
set_option maxRecDepth 20000 in
theorem X12_ends_0 {kz : Nat × Nat} {Q : Option zV → zH → Prop} {d : List Nat} {G : Nat → Int → Option Nat} {E : Nat → Int → Int} {v1 : Int} {v2 : Int} {v3 : Int} {v4 : Int} {v5 : Int} {v6 : Int} {v7 : Int} (hM : zK zMt d G) (K : ∃ x_1 E_2, zM zm_X12_finishes [zR 50] (d, G, E) (some (zI x_1)) (d, G, E_2) ∧ (x_1 ≠ 0 → ∃ x_6, zM zm_X12_isTrivial [zR 50] (d, G, E_2) (some (zI x_6)) (d, G, E_2) ∧ (x_6 ≠ 0 → zin ((E_2 50 44) + 1) ∧ ∀ E_11, E_11 = zuE E_2 50 44 (((E_2 50 44) + 1)) → Q (some (zI ((-1)))) (d, G, E_11)) ∧ (¬ (x_6 ≠ 0) → ∃ x_12 E_13, zM zm_X12_isTakenIn [zR 50] (d, G, E_2) (some (zI x_12)) (d, G, E_13) ∧ (x_12 = 0 → ∃ E_17, zM zm_X12_layWork [zR 50, zI ((E_13 50 6))] (d, G, E_13) none (d, G, E_17) ∧ ((0 : Int) ≤ (E_13 50 6) ∧ (E_13 50 6) < (150 : Int)) ∧ ∀ E_21, E_21 = zuE E_17 62 ((E_13 50 6)) 0 → ((0 : Int) ≤ (E_13 50 6) ∧ (E_13 50 6) < (150 : Int)) ∧ ∀ E_23, E_23 = zuE E_21 63 ((E_13 50 6)) ((-1)) → (v1 ≠ 0 → Z zm_X12_ends kz Q 89 [(0, zR 50), (1, zI v1), (2, zI v2), (3, zI v3), (4, zI v4), (5, zI v5), (6, zI v6), (7, zI v7), (8, zI ((E_13 50 6)))] [zI 0, zI ((E_13 50 6)), zR 64] (d, G, E_23)) ∧ (¬ (v1 ≠ 0) → Z zm_X12_ends kz Q 89 [(0, zR 50), (1, zI v1), (2, zI v2), (3, zI v3), (4, zI v4), (5, zI v5), (6, zI v6), (7, zI v7), (8, zI ((E_13 50 6)))] [zI 1, zI ((E_13 50 6)), zR 64] (d, G, E_23))) ∧ (¬ (x_12 = 0) → zin ((E_13 50 44) + 1) ∧ ∀ E_26, E_26 = zuE E_13 50 44 (((E_13 50 44) + 1)) → Q (some (zI ((-1)))) (d, G, E_26)))) ∧ (¬ (x_1 ≠ 0) → zin ((E_2 50 43) + 1) ∧ ∀ E_28, E_28 = zuE E_2 50 43 (((E_2 50 43) + 1)) → Q (some (zI ((-99)))) (d, G, E_28))) : Z zm_X12_ends kz Q 0 [(0, zR 50), (1, zI v1), (2, zI v2), (3, zI v3), (4, zI v4), (5, zI v5), (6, zI v6), (7, zI v7)] [] (d, G, E) := by
  refine Z.aload_n (k := 0) dX12_ends_0 rfl ?_
  obtain ⟨x_1, E_2, m_3, K⟩ := K
  refine Y.callV (g := zm_X12_finishes) (vs := []) (st := []) dX12_ends_1 ⟨zg_X12_finishes.1, zg_X12_finishes.2.1, zg_X12_finishes.2.2, by decide⟩ ⟨zk_X12_316, zv_X12_finishes⟩ (ci := 12) (rfl) rfl ((zM_1 hM).2.1) rfl rfl (Nat.le_of_ble_eq_true rfl) m_3 (Or.inl rfl) ?_
  show Z zm_X12_ends kz Q 4 [(0, zR 50), (1, zI v1), (2, zI v2), (3, zI v3), (4, zI v4), (5, zI v5), (6, zI v6), (7, zI v7)] [zI x_1] (d, G, E_2)
  refine Z.if_ne 20 dX12_ends_4 rfl ⟨fun c_5 => ?_, fun c_5 => ?_⟩
  · replace K := K.1 c_5
    refine Z.aload_n (k := 0) dX12_ends_20 rfl ?_
    obtain ⟨x_6, m_7, K⟩ := K
    refine Y.callV (g := zm_X12_isTrivial) (vs := []) (st := []) dX12_ends_21 ⟨zg_X12_isTrivial.1, zg_X12_isTrivial.2.1, zg_X12_isTrivial.2.2, by decide⟩ ⟨zk_X12_322, zv_X12_isTrivial⟩ (ci := 12) (rfl) rfl ((zM_1 hM).2.1) rfl rfl (Nat.le_of_ble_eq_true rfl) m_7 (Or.inl rfl) ?_
    show Z zm_X12_ends kz Q 24 [(0, zR 50), (1, zI v1), (2, zI v2), (3, zI v3), (4, zI v4), (5, zI v5), (6, zI v6), (7, zI v7)] [zI x_6] (d, G, E_2)
    refine Z.if_ne 34 dX12_ends_24 rfl ⟨fun c_9 => ?_, fun c_9 => ?_⟩
    · replace K := K.1 c_9
      refine Z.aload_n (k := 0) dX12_ends_34 rfl ?_
      refine Z.dup_i dX12_ends_35 (fun _ => rfl) ?_
      refine Y.getI 44 dX12_ends_36 zl_X12_328 (rfl) (by decide) rfl (zM_1 hM).2.1 ?_
      refine Z.iconst (n := 1) dX12_ends_39 ⟨by decide, by decide⟩ ?_
      obtain ⟨z_10, K⟩ := K
      refine Z.iadd dX12_ends_40 z_10 ?_
      refine Y.putI 44 dX12_ends_41 zw_X12_328 (fun q => by cases q) (rfl) rfl (zM_1 hM).2.1 (Or.inl rfl) ?_
      generalize eE_11 : zuE E_2 50 44 (((E_2 50 44) + 1)) = E_11
      replace K := K E_11 eE_11.symm
      refine Z.iconst (n := -1) dX12_ends_44 ⟨by decide, by decide⟩ ?_
      exact Z.iret (ty := .int) dX12_ends_45 rfl rfl K
    · replace K := K.2 c_9
      refine Z.aload_n (k := 0) dX12_ends_27 rfl ?_
      obtain ⟨x_12, E_13, m_14, K⟩ := K
      refine Y.callV (g := zm_X12_isTakenIn) (vs := []) (st := []) dX12_ends_28 ⟨zg_X12_isTakenIn.1, zg_X12_isTakenIn.2.1, zg_X12_isTakenIn.2.2, by decide⟩ ⟨zk_X12_325, zv_X12_isTakenIn⟩ (ci := 12) (rfl) rfl ((zM_1 hM).2.1) rfl rfl (Nat.le_of_ble_eq_true rfl) m_14 (Or.inl rfl) ?_
      show Z zm_X12_ends kz Q 31 [(0, zR 50), (1, zI v1), (2, zI v2), (3, zI v3), (4, zI v4), (5, zI v5), (6, zI v6), (7, zI v7)] [zI x_12] (d, G, E_13)
      refine Z.if_eq 46 dX12_ends_31 rfl ⟨fun c_16 => ?_, fun c_16 => ?_⟩
      · replace K := K.1 c_16
        refine Z.aload_n (k := 0) dX12_ends_46 rfl ?_
        refine Y.getI 6 dX12_ends_47 zl_X12_142 (rfl) (by decide) rfl (zM_1 hM).2.1 ?_
        refine Z.istore (ls' := [(8, zI ((E_13 50 6))), (0, zR 50), (1, zI v1), (2, zI v2), (3, zI v3), (4, zI v4), (5, zI v5), (6, zI v6), (7, zI v7)]) dX12_ends_50 (by decide) rfl ?_
        refine Z.aload_n (k := 1) dX12_ends_52 rfl ?_
        refine Z.iload (k := 0) dX12_ends_53 rfl ?_
        obtain ⟨E_17, m_18, K⟩ := K
        refine Y.callV (g := zm_X12_layWork) (vs := [zI ((E_13 50 6))]) (st := []) dX12_ends_55 ⟨zg_X12_layWork.1, zg_X12_layWork.2.1, zg_X12_layWork.2.2, by decide⟩ ⟨zk_X12_331, zv_X12_layWork⟩ (ci := 12) (rfl) rfl ((zM_1 hM).2.1) rfl rfl (Nat.le_of_ble_eq_true rfl) m_18 (Or.inl rfl) ?_
        show Z zm_X12_ends kz Q 58 [(8, zI ((E_13 50 6))), (0, zR 50), (1, zI v1), (2, zI v2), (3, zI v3), (4, zI v4), (5, zI v5), (6, zI v6), (7, zI v7)] [] (d, G, E_17)
        refine Z.aload_n (k := 1) dX12_ends_58 rfl ?_
        refine Y.getR (o := some 62) 11 dX12_ends_59 zl_X12_39 (rfl) (by decide) rfl (zM_1 hM).2.1 (zM_11 hM).1 ?_
        refine Z.iload (k := 0) dX12_ends_62 rfl ?_
        refine Z.iconst (n := 0) dX12_ends_64 ⟨by decide, by decide⟩ ?_
        obtain ⟨z_20, K⟩ := K
        refine Y.iast dX12_ends_65 (rfl) ((zM_11 hM).2.2) z_20 ?_
        generalize eE_21 : zuE E_17 62 ((E_13 50 6)) 0 = E_21
        replace K := K E_21 eE_21.symm
        refine Z.aload_n (k := 1) dX12_ends_66 rfl ?_
        refine Y.getR (o := some 63) 12 dX12_ends_67 zl_X12_42 (rfl) (by decide) rfl (zM_1 hM).2.1 (zM_12 hM).1 ?_
        refine Z.iload (k := 0) dX12_ends_70 rfl ?_
        refine Z.iconst (n := -1) dX12_ends_72 ⟨by decide, by decide⟩ ?_
        obtain ⟨z_22, K⟩ := K
        refine Y.iast dX12_ends_73 (rfl) ((zM_12 hM).2.2) z_22 ?_
        generalize eE_23 : zuE E_21 63 ((E_13 50 6)) ((-1)) = E_23
        replace K := K E_23 eE_23.symm
        refine Z.aload_n (k := 1) dX12_ends_74 rfl ?_
        refine Y.getR (o := some 64) 13 dX12_ends_75 zl_X12_45 (rfl) (by decide) rfl (zM_1 hM).2.1 (zM_13 hM).1 ?_
        refine Z.iload (k := 0) dX12_ends_78 rfl ?_
        refine Z.iload_n (k := 2) dX12_ends_80 rfl ?_
        refine Z.if_ne 88 dX12_ends_81 rfl ⟨fun c_24 => ?_, fun c_24 => ?_⟩
        · replace K := K.1 c_24
          refine Z.iconst (n := 0) dX12_ends_88 ⟨by decide, by decide⟩ ?_
          refine Z.pick (ls' := [(0, zR 50), (1, zI v1), (2, zI v2), (3, zI v3), (4, zI v4), (5, zI v5), (6, zI v6), (7, zI v7), (8, zI ((E_13 50 6)))]) [1, 2, 3, 4, 5, 6, 7, 8, 0] rfl ?_
          exact K
        · replace K := K.2 c_24
          refine Z.iconst (n := 1) dX12_ends_84 ⟨by decide, by decide⟩ ?_
          refine Z.goto 89 dX12_ends_85 rfl ?_
          refine Z.pick (ls' := [(0, zR 50), (1, zI v1), (2, zI v2), (3, zI v3), (4, zI v4), (5, zI v5), (6, zI v6), (7, zI v7), (8, zI ((E_13 50 6)))]) [1, 2, 3, 4, 5, 6, 7, 8, 0] rfl ?_
          exact K
      · replace K := K.2 c_16
        refine Z.aload_n (k := 0) dX12_ends_34 rfl ?_
        refine Z.dup_i dX12_ends_35 (fun _ => rfl) ?_
        refine Y.getI 44 dX12_ends_36 zl_X12_328 (rfl) (by decide) rfl (zM_1 hM).2.1 ?_
        refine Z.iconst (n := 1) dX12_ends_39 ⟨by decide, by decide⟩ ?_
        obtain ⟨z_25, K⟩ := K
        refine Z.iadd dX12_ends_40 z_25 ?_
        refine Y.putI 44 dX12_ends_41 zw_X12_328 (fun q => by cases q) (rfl) rfl (zM_1 hM).2.1 (Or.inl rfl) ?_
        generalize eE_26 : zuE E_13 50 44 (((E_13 50 44) + 1)) = E_26
        replace K := K E_26 eE_26.symm
        refine Z.iconst (n := -1) dX12_ends_44 ⟨by decide, by decide⟩ ?_
        exact Z.iret (ty := .int) dX12_ends_45 rfl rfl K
  · replace K := K.2 c_5
    refine Z.aload_n (k := 0) dX12_ends_7 rfl ?_
    refine Z.dup_i dX12_ends_8 (fun _ => rfl) ?_
    refine Y.getI 43 dX12_ends_9 zl_X12_319 (rfl) (by decide) rfl (zM_1 hM).2.1 ?_
    refine Z.iconst (n := 1) dX12_ends_12 ⟨by decide, by decide⟩ ?_
    obtain ⟨z_27, K⟩ := K
    refine Z.iadd dX12_ends_13 z_27 ?_
    refine Y.putI 43 dX12_ends_14 zw_X12_319 (fun q => by cases q) (rfl) rfl (zM_1 hM).2.1 (Or.inl rfl) ?_
    generalize eE_28 : zuE E_2 50 43 (((E_2 50 43) + 1)) = E_28
    replace K := K E_28 eE_28.symm
    refine Z.bipush (n := -99) dX12_ends_17 ⟨by decide, by decide⟩ (by decide) ?_
    exact Z.iret (ty := .int) dX12_ends_19 rfl rfl K
set_option maxRecDepth 20000 in
theorem X12_ends_89 {kz : Nat × Nat} {Q : Option zV → zH → Prop} {d : List Nat} {G : Nat → Int → Option Nat} {E : Nat → Int → Int} {v1 : Int} {v2 : Int} {v3 : Int} {v4 : Int} {v5 : Int} {v6 : Int} {v7 : Int} {v8 : Int} {s0 : Int} {s1 : Int} {t2 : Option Nat} (hM : zK zMt d G) (K : ∃ b_1 n_3, t2 = some b_1 ∧ zkd b_1 = (1, n_3) ∧ b_1 ∈ d ∧ ((0 : Int) ≤ s1 ∧ s1 < (n_3 : Int)) ∧ (s0 = 0 ∨ s0 = 1) ∧ ∀ E_8, E_8 = zuE E b_1 s1 s0 → zin (7 * v8) ∧ ((0 : Int) ≤ (7 * v8) ∧ (7 * v8) < (1050 : Int)) ∧ ∀ E_11, E_11 = zuE E_8 69 ((7 * v8)) v1 → zin (7 * v8) ∧ zin ((7 * v8) + 1) ∧ ((0 : Int) ≤ ((7 * v8) + 1) ∧ ((7 * v8) + 1) < (1050 : Int)) ∧ ∀ E_15, E_15 = zuE E_11 69 (((7 * v8) + 1)) v2 → zin (7 * v8) ∧ zin ((7 * v8) + 2) ∧ ((0 : Int) ≤ ((7 * v8) + 2) ∧ ((7 * v8) + 2) < (1050 : Int)) ∧ ∀ E_19, E_19 = zuE E_15 69 (((7 * v8) + 2)) v3 → zin (7 * v8) ∧ zin ((7 * v8) + 3) ∧ ((0 : Int) ≤ ((7 * v8) + 3) ∧ ((7 * v8) + 3) < (1050 : Int)) ∧ ∀ E_23, E_23 = zuE E_19 69 (((7 * v8) + 3)) v4 → zin (7 * v8) ∧ zin ((7 * v8) + 4) ∧ ((0 : Int) ≤ ((7 * v8) + 4) ∧ ((7 * v8) + 4) < (1050 : Int)) ∧ ∀ E_27, E_27 = zuE E_23 69 (((7 * v8) + 4)) v5 → zin (7 * v8) ∧ zin ((7 * v8) + 5) ∧ ((0 : Int) ≤ ((7 * v8) + 5) ∧ ((7 * v8) + 5) < (1050 : Int)) ∧ ∀ E_31, E_31 = zuE E_27 69 (((7 * v8) + 5)) v6 → zin (7 * v8) ∧ zin ((7 * v8) + 6) ∧ ((0 : Int) ≤ ((7 * v8) + 6) ∧ ((7 * v8) + 6) < (1050 : Int)) ∧ ∀ E_35, E_35 = zuE E_31 69 (((7 * v8) + 6)) v7 → ((0 : Int) ≤ v8 ∧ v8 < (150 : Int)) ∧ ∀ E_37, E_37 = zuE E_35 70 v8 ((E_35 50 40)) → Z zm_X12_ends kz Q 198 [(0, zR 50), (8, zI v8), (9, zI 0)] [] (d, G, E_37)) : Z zm_X12_ends kz Q 89 [(0, zR 50), (1, zI v1), (2, zI v2), (3, zI v3), (4, zI v4), (5, zI v5), (6, zI v6), (7, zI v7), (8, zI v8)] [zI s0, zI s1, zO t2] (d, G, E) := by
  obtain ⟨b_1, n_3, e_2, hk_4, hm_5, K⟩ := K
  rw [e_2]
  obtain ⟨z_6, K⟩ := K
  obtain ⟨z_7, K⟩ := K
  refine Y.zast dX12_ends_89 (hk_4) (hm_5) z_6 z_7 ?_
  generalize eE_8 : zuE E b_1 s1 s0 = E_8
  replace K := K E_8 eE_8.symm
  refine Z.aload_n (k := 0) dX12_ends_90 rfl ?_
  refine Y.getR (o := some 69) 18 dX12_ends_91 zl_X12_60 (rfl) (by decide) rfl (zM_1 hM).2.1 (zM_18 hM).1 ?_
  refine Z.bipush (n := 7) dX12_ends_94 ⟨by decide, by decide⟩ (by decide) ?_
  refine Z.iload (k := 8) dX12_ends_96 rfl ?_
  obtain ⟨z_9, K⟩ := K
  refine Z.imul dX12_ends_98 z_9 ?_
  refine Z.iload_n (k := 1) dX12_ends_99 rfl ?_
  obtain ⟨z_10, K⟩ := K
  refine Y.iast dX12_ends_100 (rfl) ((zM_18 hM).2.2) z_10 ?_
  generalize eE_11 : zuE E_8 69 ((7 * v8)) v1 = E_11
  replace K := K E_11 eE_11.symm
  refine Z.aload_n (k := 0) dX12_ends_101 rfl ?_
  refine Y.getR (o := some 69) 18 dX12_ends_102 zl_X12_60 (rfl) (by decide) rfl (zM_1 hM).2.1 (zM_18 hM).1 ?_
  refine Z.bipush (n := 7) dX12_ends_105 ⟨by decide, by decide⟩ (by decide) ?_
  refine Z.iload (k := 8) dX12_ends_107 rfl ?_
  obtain ⟨z_12, K⟩ := K
  refine Z.imul dX12_ends_109 z_12 ?_
  refine Z.iconst (n := 1) dX12_ends_110 ⟨by decide, by decide⟩ ?_
  obtain ⟨z_13, K⟩ := K
  refine Z.iadd dX12_ends_111 z_13 ?_
  refine Z.iload_n (k := 2) dX12_ends_112 rfl ?_
  obtain ⟨z_14, K⟩ := K
  refine Y.iast dX12_ends_113 (rfl) ((zM_18 hM).2.2) z_14 ?_
  generalize eE_15 : zuE E_11 69 (((7 * v8) + 1)) v2 = E_15
  replace K := K E_15 eE_15.symm
  refine Z.aload_n (k := 0) dX12_ends_114 rfl ?_
  refine Y.getR (o := some 69) 18 dX12_ends_115 zl_X12_60 (rfl) (by decide) rfl (zM_1 hM).2.1 (zM_18 hM).1 ?_
  refine Z.bipush (n := 7) dX12_ends_118 ⟨by decide, by decide⟩ (by decide) ?_
  refine Z.iload (k := 8) dX12_ends_120 rfl ?_
  obtain ⟨z_16, K⟩ := K
  refine Z.imul dX12_ends_122 z_16 ?_
  refine Z.iconst (n := 2) dX12_ends_123 ⟨by decide, by decide⟩ ?_
  obtain ⟨z_17, K⟩ := K
  refine Z.iadd dX12_ends_124 z_17 ?_
  refine Z.iload_n (k := 3) dX12_ends_125 rfl ?_
  obtain ⟨z_18, K⟩ := K
  refine Y.iast dX12_ends_126 (rfl) ((zM_18 hM).2.2) z_18 ?_
  generalize eE_19 : zuE E_15 69 (((7 * v8) + 2)) v3 = E_19
  replace K := K E_19 eE_19.symm
  refine Z.aload_n (k := 0) dX12_ends_127 rfl ?_
  refine Y.getR (o := some 69) 18 dX12_ends_128 zl_X12_60 (rfl) (by decide) rfl (zM_1 hM).2.1 (zM_18 hM).1 ?_
  refine Z.bipush (n := 7) dX12_ends_131 ⟨by decide, by decide⟩ (by decide) ?_
  refine Z.iload (k := 8) dX12_ends_133 rfl ?_
  obtain ⟨z_20, K⟩ := K
  refine Z.imul dX12_ends_135 z_20 ?_
  refine Z.iconst (n := 3) dX12_ends_136 ⟨by decide, by decide⟩ ?_
  obtain ⟨z_21, K⟩ := K
  refine Z.iadd dX12_ends_137 z_21 ?_
  refine Z.iload (k := 4) dX12_ends_138 rfl ?_
  obtain ⟨z_22, K⟩ := K
  refine Y.iast dX12_ends_140 (rfl) ((zM_18 hM).2.2) z_22 ?_
  generalize eE_23 : zuE E_19 69 (((7 * v8) + 3)) v4 = E_23
  replace K := K E_23 eE_23.symm
  refine Z.aload_n (k := 0) dX12_ends_141 rfl ?_
  refine Y.getR (o := some 69) 18 dX12_ends_142 zl_X12_60 (rfl) (by decide) rfl (zM_1 hM).2.1 (zM_18 hM).1 ?_
  refine Z.bipush (n := 7) dX12_ends_145 ⟨by decide, by decide⟩ (by decide) ?_
  refine Z.iload (k := 8) dX12_ends_147 rfl ?_
  obtain ⟨z_24, K⟩ := K
  refine Z.imul dX12_ends_149 z_24 ?_
  refine Z.iconst (n := 4) dX12_ends_150 ⟨by decide, by decide⟩ ?_
  obtain ⟨z_25, K⟩ := K
  refine Z.iadd dX12_ends_151 z_25 ?_
  refine Z.iload (k := 5) dX12_ends_152 rfl ?_
  obtain ⟨z_26, K⟩ := K
  refine Y.iast dX12_ends_154 (rfl) ((zM_18 hM).2.2) z_26 ?_
  generalize eE_27 : zuE E_23 69 (((7 * v8) + 4)) v5 = E_27
  replace K := K E_27 eE_27.symm
  refine Z.aload_n (k := 0) dX12_ends_155 rfl ?_
  refine Y.getR (o := some 69) 18 dX12_ends_156 zl_X12_60 (rfl) (by decide) rfl (zM_1 hM).2.1 (zM_18 hM).1 ?_
  refine Z.bipush (n := 7) dX12_ends_159 ⟨by decide, by decide⟩ (by decide) ?_
  refine Z.iload (k := 8) dX12_ends_161 rfl ?_
  obtain ⟨z_28, K⟩ := K
  refine Z.imul dX12_ends_163 z_28 ?_
  refine Z.iconst (n := 5) dX12_ends_164 ⟨by decide, by decide⟩ ?_
  obtain ⟨z_29, K⟩ := K
  refine Z.iadd dX12_ends_165 z_29 ?_
  refine Z.iload (k := 6) dX12_ends_166 rfl ?_
  obtain ⟨z_30, K⟩ := K
  refine Y.iast dX12_ends_168 (rfl) ((zM_18 hM).2.2) z_30 ?_
  generalize eE_31 : zuE E_27 69 (((7 * v8) + 5)) v6 = E_31
  replace K := K E_31 eE_31.symm
  refine Z.aload_n (k := 0) dX12_ends_169 rfl ?_
  refine Y.getR (o := some 69) 18 dX12_ends_170 zl_X12_60 (rfl) (by decide) rfl (zM_1 hM).2.1 (zM_18 hM).1 ?_
  refine Z.bipush (n := 7) dX12_ends_173 ⟨by decide, by decide⟩ (by decide) ?_
  refine Z.iload (k := 8) dX12_ends_175 rfl ?_
  obtain ⟨z_32, K⟩ := K
  refine Z.imul dX12_ends_177 z_32 ?_
  refine Z.bipush (n := 6) dX12_ends_178 ⟨by decide, by decide⟩ (by decide) ?_
  obtain ⟨z_33, K⟩ := K
  refine Z.iadd dX12_ends_180 z_33 ?_
  refine Z.iload (k := 7) dX12_ends_181 rfl ?_
  obtain ⟨z_34, K⟩ := K
  refine Y.iast dX12_ends_183 (rfl) ((zM_18 hM).2.2) z_34 ?_
  generalize eE_35 : zuE E_31 69 (((7 * v8) + 6)) v7 = E_35
  replace K := K E_35 eE_35.symm
  refine Z.aload_n (k := 0) dX12_ends_184 rfl ?_
  refine Y.getR (o := some 70) 19 dX12_ends_185 zl_X12_63 (rfl) (by decide) rfl (zM_1 hM).2.1 (zM_19 hM).1 ?_
  refine Z.iload (k := 8) dX12_ends_188 rfl ?_
  refine Z.aload_n (k := 0) dX12_ends_190 rfl ?_
  refine Y.getI 40 dX12_ends_191 zl_X12_233 (rfl) (by decide) rfl (zM_1 hM).2.1 ?_
  obtain ⟨z_36, K⟩ := K
  refine Y.iast dX12_ends_194 (rfl) ((zM_19 hM).2.2) z_36 ?_
  generalize eE_37 : zuE E_35 70 v8 ((E_35 50 40)) = E_37
  replace K := K E_37 eE_37.symm
  refine Z.iconst (n := 0) dX12_ends_195 ⟨by decide, by decide⟩ ?_
  refine Z.istore (ls' := [(9, zI 0), (0, zR 50), (1, zI v1), (2, zI v2), (3, zI v3), (4, zI v4), (5, zI v5), (6, zI v6), (7, zI v7), (8, zI v8)]) dX12_ends_196 (by decide) rfl ?_
  refine Z.pick (ls' := [(0, zR 50), (8, zI v8), (9, zI 0)]) [1, 9, 0] rfl ?_
  exact K
set_option maxRecDepth 20000 in
theorem X12_ends_198 {kz : Nat × Nat} {Q : Option zV → zH → Prop} {d : List Nat} {G : Nat → Int → Option Nat} {E : Nat → Int → Int} {v8 : Int} {v9 : Int} (hM : zK zMt d G) (K : zin (4 * (E 50 40)) ∧ ((4 * (E 50 40)) ≤ v9 → zin ((E 50 6) + 1) ∧ ∀ E_4, E_4 = zuE E 50 6 (((E 50 6) + 1)) → Z zm_X12_ends kz Q 248 [(0, zR 50), (8, zI v8), (9, zI 0)] [] (d, G, E_4)) ∧ (¬ ((4 * (E 50 40)) ≤ v9) → zin (32 * v8) ∧ zin ((32 * v8) + v9) ∧ ((0 : Int) ≤ v9 ∧ v9 < (32 : Int)) ∧ ((0 : Int) ≤ ((32 * v8) + v9) ∧ ((32 * v8) + v9) < (4800 : Int)) ∧ ∀ E_9, E_9 = zuE E 71 (((32 * v8) + v9)) ((E 92 v9)) → zin (v9 + 1) ∧ Z zm_X12_ends kz Q 198 [(0, zR 50), (8, zI v8), (9, zI ((v9 + 1)))] [] (d, G, E_9))) : Z zm_X12_ends kz Q 198 [(0, zR 50), (8, zI v8), (9, zI v9)] [] (d, G, E) := by
  refine Z.iload (k := 2) dX12_ends_198 rfl ?_
  refine Z.iconst (n := 4) dX12_ends_200 ⟨by decide, by decide⟩ ?_
  refine Z.aload_n (k := 0) dX12_ends_201 rfl ?_
  refine Y.getI 40 dX12_ends_202 zl_X12_233 (rfl) (by decide) rfl (zM_1 hM).2.1 ?_
  obtain ⟨z_1, K⟩ := K
  refine Z.imul dX12_ends_205 z_1 ?_
  refine Z.icmp_ge 235 dX12_ends_206 rfl ⟨fun c_2 => ?_, fun c_2 => ?_⟩
  · replace K := K.1 c_2
    refine Z.aload_n (k := 0) dX12_ends_235 rfl ?_
    refine Z.dup_i dX12_ends_236 (fun _ => rfl) ?_
    refine Y.getI 6 dX12_ends_237 zl_X12_142 (rfl) (by decide) rfl (zM_1 hM).2.1 ?_
    refine Z.iconst (n := 1) dX12_ends_240 ⟨by decide, by decide⟩ ?_
    obtain ⟨z_3, K⟩ := K
    refine Z.iadd dX12_ends_241 z_3 ?_
    refine Y.putI 6 dX12_ends_242 zw_X12_142 (fun q => by cases q) (rfl) rfl (zM_1 hM).2.1 (Or.inl rfl) ?_
    generalize eE_4 : zuE E 50 6 (((E 50 6) + 1)) = E_4
    replace K := K E_4 eE_4.symm
    refine Z.iconst (n := 0) dX12_ends_245 ⟨by decide, by decide⟩ ?_
    refine Z.istore (ls' := [(9, zI 0), (0, zR 50), (8, zI v8)]) dX12_ends_246 (by decide) rfl ?_
    refine Z.pick (ls' := [(0, zR 50), (8, zI v8), (9, zI 0)]) [1, 2, 0] rfl ?_
    exact K
  · replace K := K.2 c_2
    refine Z.aload_n (k := 0) dX12_ends_209 rfl ?_
    refine Y.getR (o := some 71) 20 dX12_ends_210 zl_X12_66 (rfl) (by decide) rfl (zM_1 hM).2.1 (zM_20 hM).1 ?_
    refine Z.bipush (n := 32) dX12_ends_213 ⟨by decide, by decide⟩ (by decide) ?_
    refine Z.iload (k := 1) dX12_ends_215 rfl ?_
    obtain ⟨z_5, K⟩ := K
    refine Z.imul dX12_ends_217 z_5 ?_
    refine Z.iload (k := 2) dX12_ends_218 rfl ?_
    obtain ⟨z_6, K⟩ := K
    refine Z.iadd dX12_ends_220 z_6 ?_
    refine Z.aload_n (k := 0) dX12_ends_221 rfl ?_
    refine Y.getR (o := some 92) 41 dX12_ends_222 zl_X12_105 (rfl) (by decide) rfl (zM_1 hM).2.1 (zM_41 hM).1 ?_
    refine Z.iload (k := 2) dX12_ends_225 rfl ?_
    obtain ⟨z_7, K⟩ := K
    refine Y.iald dX12_ends_227 (rfl) ((zM_41 hM).2.2) z_7 ?_
    obtain ⟨z_8, K⟩ := K
    refine Y.iast dX12_ends_228 (rfl) ((zM_20 hM).2.2) z_8 ?_
    generalize eE_9 : zuE E 71 (((32 * v8) + v9)) ((E 92 v9)) = E_9
    replace K := K E_9 eE_9.symm
    obtain ⟨z_10, K⟩ := K
    refine Z.iinc (k := 2) (ls' := [(9, zI ((v9 + 1))), (0, zR 50), (8, zI v8)]) dX12_ends_229 rfl (by decide) z_10 rfl ?_
    refine Z.goto 198 dX12_ends_232 rfl ?_
    refine Z.pick (ls' := [(0, zR 50), (8, zI v8), (9, zI ((v9 + 1)))]) [1, 2, 0] rfl ?_
    exact K
set_option maxRecDepth 20000 in
theorem X12_ends_248 {kz : Nat × Nat} {Q : Option zV → zH → Prop} {d : List Nat} {G : Nat → Int → Option Nat} {E : Nat → Int → Int} {v8 : Int} {v9 : Int} (hM : zK zMt d G) (K : (v8 ≤ v9 → ((E 50 24) ≠ 0 → ((E 50 6) ≠ 150 → ∀ E_4, E_4 = zuE E 50 54 ((E 50 54)) → Q (some (zI v8)) (d, G, E_4)) ∧ (¬ ((E 50 6) ≠ 150) → ∀ E_5, E_5 = zuE E 50 54 3 → Q (some (zI v8)) (d, G, E_5))) ∧ (¬ ((E 50 24) ≠ 0) → ∀ E_6, E_6 = zuE E 50 54 1 → Q (some (zI v8)) (d, G, E_6))) ∧ (¬ (v8 ≤ v9) → ((0 : Int) ≤ v9 ∧ v9 < (150 : Int)) ∧ ((E 62 v9) = 2 → zin (v9 + 1) ∧ Z zm_X12_ends kz Q 248 [(0, zR 50), (8, zI v8), (9, zI ((v9 + 1)))] [] (d, G, E)) ∧ (¬ ((E 62 v9) = 2) → ∃ x_10 E_11, zM zm_X12_claimTakes [zR 50, zI v8, zI v9] (d, G, E) (some (zI x_10)) (d, G, E_11) ∧ (x_10 = 0 → zin (v9 + 1) ∧ Z zm_X12_ends kz Q 248 [(0, zR 50), (8, zI v8), (9, zI ((v9 + 1)))] [] (d, G, E_11)) ∧ (¬ (x_10 = 0) → ((0 : Int) ≤ v9 ∧ v9 < (150 : Int)) ∧ ∀ E_17, E_17 = zuE E_11 62 v9 2 → ((0 : Int) ≤ v9 ∧ v9 < (150 : Int)) ∧ ∀ E_19, E_19 = zuE E_17 63 v9 v8 → zin (v9 + 1) ∧ Z zm_X12_ends kz Q 248 [(0, zR 50), (8, zI v8), (9, zI ((v9 + 1)))] [] (d, G, E_19))))) : Z zm_X12_ends kz Q 248 [(0, zR 50), (8, zI v8), (9, zI v9)] [] (d, G, E) := by
  refine Z.iload (k := 2) dX12_ends_248 rfl ?_
  refine Z.iload (k := 1) dX12_ends_250 rfl ?_
  refine Z.icmp_ge 300 dX12_ends_252 rfl ⟨fun c_1 => ?_, fun c_1 => ?_⟩
  · replace K := K.1 c_1
    refine Z.aload_n (k := 0) dX12_ends_300 rfl ?_
    refine Z.aload_n (k := 0) dX12_ends_301 rfl ?_
    refine Y.getI 24 dX12_ends_302 zl_X12_167 (rfl) (by decide) rfl (zM_1 hM).2.1 ?_
    refine Z.if_ne 312 dX12_ends_305 rfl ⟨fun c_2 => ?_, fun c_2 => ?_⟩
    · replace K := K.1 c_2
      refine Z.aload_n (k := 0) dX12_ends_312 rfl ?_
      refine Y.getI 6 dX12_ends_313 zl_X12_142 (rfl) (by decide) rfl (zM_1 hM).2.1 ?_
      refine Z.sipush (n := 150) dX12_ends_316 ⟨by decide, by decide⟩ (by decide) ?_
      refine Z.icmp_ne 326 dX12_ends_319 rfl ⟨fun c_3 => ?_, fun c_3 => ?_⟩
      · replace K := K.1 c_3
        refine Z.aload_n (k := 0) dX12_ends_326 rfl ?_
        refine Y.getI 54 dX12_ends_327 zl_X12_337 (rfl) (by decide) rfl (zM_1 hM).2.1 ?_
        refine Y.putI 54 dX12_ends_330 zw_X12_337 (fun q => by cases q) (rfl) rfl (zM_1 hM).2.1 (Or.inl rfl) ?_
        generalize eE_4 : zuE E 50 54 ((E 50 54)) = E_4
        replace K := K E_4 eE_4.symm
        refine Z.iload (k := 1) dX12_ends_333 rfl ?_
        exact Z.iret (ty := .int) dX12_ends_335 rfl rfl K
      · replace K := K.2 c_3
        refine Z.iconst (n := 3) dX12_ends_322 ⟨by decide, by decide⟩ ?_
        refine Z.goto 330 dX12_ends_323 rfl ?_
        refine Y.putI 54 dX12_ends_330 zw_X12_337 (fun q => by cases q) (rfl) rfl (zM_1 hM).2.1 (Or.inl rfl) ?_
        generalize eE_5 : zuE E 50 54 3 = E_5
        replace K := K E_5 eE_5.symm
        refine Z.iload (k := 1) dX12_ends_333 rfl ?_
        exact Z.iret (ty := .int) dX12_ends_335 rfl rfl K
    · replace K := K.2 c_2
      refine Z.iconst (n := 1) dX12_ends_308 ⟨by decide, by decide⟩ ?_
      refine Z.goto 330 dX12_ends_309 rfl ?_
      refine Y.putI 54 dX12_ends_330 zw_X12_337 (fun q => by cases q) (rfl) rfl (zM_1 hM).2.1 (Or.inl rfl) ?_
      generalize eE_6 : zuE E 50 54 1 = E_6
      replace K := K E_6 eE_6.symm
      refine Z.iload (k := 1) dX12_ends_333 rfl ?_
      exact Z.iret (ty := .int) dX12_ends_335 rfl rfl K
  · replace K := K.2 c_1
    refine Z.aload_n (k := 0) dX12_ends_255 rfl ?_
    refine Y.getR (o := some 62) 11 dX12_ends_256 zl_X12_39 (rfl) (by decide) rfl (zM_1 hM).2.1 (zM_11 hM).1 ?_
    refine Z.iload (k := 2) dX12_ends_259 rfl ?_
    obtain ⟨z_7, K⟩ := K
    refine Y.iald dX12_ends_261 (rfl) ((zM_11 hM).2.2) z_7 ?_
    refine Z.iconst (n := 2) dX12_ends_262 ⟨by decide, by decide⟩ ?_
    refine Z.icmp_eq 294 dX12_ends_263 rfl ⟨fun c_8 => ?_, fun c_8 => ?_⟩
    · replace K := K.1 c_8
      obtain ⟨z_9, K⟩ := K
      refine Z.iinc (k := 2) (ls' := [(9, zI ((v9 + 1))), (0, zR 50), (8, zI v8)]) dX12_ends_294 rfl (by decide) z_9 rfl ?_
      refine Z.goto 248 dX12_ends_297 rfl ?_
      refine Z.pick (ls' := [(0, zR 50), (8, zI v8), (9, zI ((v9 + 1)))]) [1, 2, 0] rfl ?_
      exact K
    · replace K := K.2 c_8
      refine Z.aload_n (k := 0) dX12_ends_266 rfl ?_
      refine Z.iload (k := 1) dX12_ends_267 rfl ?_
      refine Z.iload (k := 2) dX12_ends_269 rfl ?_
      obtain ⟨x_10, E_11, m_12, K⟩ := K
      refine Y.callV (g := zm_X12_claimTakes) (vs := [zI v8, zI v9]) (st := []) dX12_ends_271 ⟨zg_X12_claimTakes.1, zg_X12_claimTakes.2.1, zg_X12_claimTakes.2.2, by decide⟩ ⟨zk_X12_334, zv_X12_claimTakes⟩ (ci := 12) (rfl) rfl ((zM_1 hM).2.1) rfl rfl (Nat.le_of_ble_eq_true rfl) m_12 (Or.inl rfl) ?_
      show Z zm_X12_ends kz Q 274 [(0, zR 50), (8, zI v8), (9, zI v9)] [zI x_10] (d, G, E_11)
      refine Z.if_eq 294 dX12_ends_274 rfl ⟨fun c_14 => ?_, fun c_14 => ?_⟩
      · replace K := K.1 c_14
        obtain ⟨z_15, K⟩ := K
        refine Z.iinc (k := 2) (ls' := [(9, zI ((v9 + 1))), (0, zR 50), (8, zI v8)]) dX12_ends_294 rfl (by decide) z_15 rfl ?_
        refine Z.goto 248 dX12_ends_297 rfl ?_
        refine Z.pick (ls' := [(0, zR 50), (8, zI v8), (9, zI ((v9 + 1)))]) [1, 2, 0] rfl ?_
        exact K
      · replace K := K.2 c_14
        refine Z.aload_n (k := 0) dX12_ends_277 rfl ?_
        refine Y.getR (o := some 62) 11 dX12_ends_278 zl_X12_39 (rfl) (by decide) rfl (zM_1 hM).2.1 (zM_11 hM).1 ?_
        refine Z.iload (k := 2) dX12_ends_281 rfl ?_
        refine Z.iconst (n := 2) dX12_ends_283 ⟨by decide, by decide⟩ ?_
        obtain ⟨z_16, K⟩ := K
        refine Y.iast dX12_ends_284 (rfl) ((zM_11 hM).2.2) z_16 ?_
        generalize eE_17 : zuE E_11 62 v9 2 = E_17
        replace K := K E_17 eE_17.symm
        refine Z.aload_n (k := 0) dX12_ends_285 rfl ?_
        refine Y.getR (o := some 63) 12 dX12_ends_286 zl_X12_42 (rfl) (by decide) rfl (zM_1 hM).2.1 (zM_12 hM).1 ?_
        refine Z.iload (k := 2) dX12_ends_289 rfl ?_
        refine Z.iload (k := 1) dX12_ends_291 rfl ?_
        obtain ⟨z_18, K⟩ := K
        refine Y.iast dX12_ends_293 (rfl) ((zM_12 hM).2.2) z_18 ?_
        generalize eE_19 : zuE E_17 63 v9 v8 = E_19
        replace K := K E_19 eE_19.symm
        obtain ⟨z_20, K⟩ := K
        refine Z.iinc (k := 2) (ls' := [(9, zI ((v9 + 1))), (0, zR 50), (8, zI v8)]) dX12_ends_294 rfl (by decide) z_20 rfl ?_
        refine Z.goto 248 dX12_ends_297 rfl ?_
        refine Z.pick (ls' := [(0, zR 50), (8, zI v8), (9, zI ((v9 + 1)))]) [1, 2, 0] rfl ?_
        exact K
set_option maxRecDepth 20000 in
theorem X12_reads_0 {kz : Nat × Nat} {Q : Option zV → zH → Prop} {d : List Nat} {G : Nat → Int → Option Nat} {E : Nat → Int → Int}  (hM : zK zMt d G) (K : ∀ E_1, E_1 = zuE E 50 24 0 → ∀ E_2, E_2 = zuE E_1 50 56 ((-1)) → Z zm_X12_reads kz Q 12 [(0, zR 50), (1, zI 0)] [] (d, G, E_2)) : Z zm_X12_reads kz Q 0 [(0, zR 50)] [] (d, G, E) := by
  refine Z.aload_n (k := 0) dX12_reads_0 rfl ?_
  refine Z.iconst (n := 0) dX12_reads_1 ⟨by decide, by decide⟩ ?_
  refine Y.putI 24 dX12_reads_2 zw_X12_167 (fun q => by cases q) (rfl) rfl (zM_1 hM).2.1 (Or.inl rfl) ?_
  generalize eE_1 : zuE E 50 24 0 = E_1
  replace K := K E_1 eE_1.symm
  refine Z.iconst (n := 0) dX12_reads_5 ⟨by decide, by decide⟩ ?_
  refine Z.istore_n (ls' := [(1, zI 0), (0, zR 50)]) dX12_reads_6 (by decide) rfl ?_
  refine Z.aload_n (k := 1) dX12_reads_7 rfl ?_
  refine Z.iconst (n := -1) dX12_reads_8 ⟨by decide, by decide⟩ ?_
  refine Y.putI 56 dX12_reads_9 zw_X12_340 (fun q => by cases q) (rfl) rfl (zM_1 hM).2.1 (Or.inl rfl) ?_
  generalize eE_2 : zuE E_1 50 56 ((-1)) = E_2
  replace K := K E_2 eE_2.symm
  refine Z.pick (ls' := [(0, zR 50), (1, zI 0)]) [1, 0] rfl ?_
  exact K
set_option maxRecDepth 20000 in
theorem X12_reads_12 {kz : Nat × Nat} {Q : Option zV → zH → Prop} {d : List Nat} {G : Nat → Int → Option Nat} {E : Nat → Int → Int} {v1 : Int} (hM : zK zMt d G) (K : ((E 50 4) ≤ v1 → Q (some (zI 1)) (d, G, E)) ∧ (¬ ((E 50 4) ≤ v1) → ((0 : Int) ≤ v1 ∧ v1 < (200 : Int)) ∧ ((E 56 v1) < 2000 → ((0 : Int) ≤ v1 ∧ v1 < (200 : Int)) ∧ zin ((E 56 v1) - 1000) ∧ Z zm_X12_reads kz Q 55 [(0, zR 50), (1, zI v1)] [zI (((E 56 v1) - 1000))] (d, G, E)) ∧ (¬ ((E 56 v1) < 2000) → ((0 : Int) ≤ v1 ∧ v1 < (200 : Int)) ∧ zin ((E 56 v1) - 2000) ∧ Z zm_X12_reads kz Q 55 [(0, zR 50), (1, zI v1)] [zI (((E 56 v1) - 2000))] (d, G, E)))) : Z zm_X12_reads kz Q 12 [(0, zR 50), (1, zI v1)] [] (d, G, E) := by
  refine Z.iload_n (k := 1) dX12_reads_12 rfl ?_
  refine Z.aload_n (k := 0) dX12_reads_13 rfl ?_
  refine Y.getI 4 dX12_reads_14 zl_X12_145 (rfl) (by decide) rfl (zM_1 hM).2.1 ?_
  refine Z.icmp_ge 328 dX12_reads_17 rfl ⟨fun c_1 => ?_, fun c_1 => ?_⟩
  · replace K := K.1 c_1
    refine Z.iconst (n := 1) dX12_reads_328 ⟨by decide, by decide⟩ ?_
    exact Z.iret (ty := .boolean) dX12_reads_329 rfl rfl K
  · replace K := K.2 c_1
    refine Z.aload_n (k := 0) dX12_reads_20 rfl ?_
    refine Y.getR (o := some 56) 5 dX12_reads_21 zl_X12_24 (rfl) (by decide) rfl (zM_1 hM).2.1 (zM_5 hM).1 ?_
    refine Z.iload_n (k := 1) dX12_reads_24 rfl ?_
    obtain ⟨z_2, K⟩ := K
    refine Y.iald dX12_reads_25 (rfl) ((zM_5 hM).2.2) z_2 ?_
    refine Z.sipush (n := 2000) dX12_reads_26 ⟨by decide, by decide⟩ (by decide) ?_
    refine Z.icmp_lt 45 dX12_reads_29 rfl ⟨fun c_3 => ?_, fun c_3 => ?_⟩
    · replace K := K.1 c_3
      refine Z.aload_n (k := 0) dX12_reads_45 rfl ?_
      refine Y.getR (o := some 56) 5 dX12_reads_46 zl_X12_24 (rfl) (by decide) rfl (zM_1 hM).2.1 (zM_5 hM).1 ?_
      refine Z.iload_n (k := 1) dX12_reads_49 rfl ?_
      obtain ⟨z_4, K⟩ := K
      refine Y.iald dX12_reads_50 (rfl) ((zM_5 hM).2.2) z_4 ?_
      refine Z.sipush (n := 1000) dX12_reads_51 ⟨by decide, by decide⟩ (by decide) ?_
      obtain ⟨z_5, K⟩ := K
      refine Z.isub dX12_reads_54 z_5 ?_
      exact K
    · replace K := K.2 c_3
      refine Z.aload_n (k := 0) dX12_reads_32 rfl ?_
      refine Y.getR (o := some 56) 5 dX12_reads_33 zl_X12_24 (rfl) (by decide) rfl (zM_1 hM).2.1 (zM_5 hM).1 ?_
      refine Z.iload_n (k := 1) dX12_reads_36 rfl ?_
      obtain ⟨z_6, K⟩ := K
      refine Y.iald dX12_reads_37 (rfl) ((zM_5 hM).2.2) z_6 ?_
      refine Z.sipush (n := 2000) dX12_reads_38 ⟨by decide, by decide⟩ (by decide) ?_
      obtain ⟨z_7, K⟩ := K
      refine Z.isub dX12_reads_41 z_7 ?_
      refine Z.goto 55 dX12_reads_42 rfl ?_
      exact K
set_option maxRecDepth 20000 in
theorem X12_reads_55 {kz : Nat × Nat} {Q : Option zV → zH → Prop} {d : List Nat} {G : Nat → Int → Option Nat} {E : Nat → Int → Int} {v1 : Int} {s0 : Int} (hM : zK zMt d G) (K : ((0 : Int) ≤ v1 ∧ v1 < (200 : Int)) ∧ ((E 56 v1) < 1000 → ∀ E_3, E_3 = zuE E 50 56 v1 → Q (some (zI 0)) (d, G, E_3)) ∧ (¬ ((E 56 v1) < 1000) → zin ((E 50 0) - 1) ∧ ∃ x_5, zM zm_X12_in [zI s0, zI 0, zI (((E 50 0) - 1))] (d, G, E) (some (zI x_5)) (d, G, E) ∧ (x_5 = 0 → ∀ E_9, E_9 = zuE E 50 56 v1 → Q (some (zI 0)) (d, G, E_9)) ∧ (¬ (x_5 = 0) → ((0 : Int) ≤ s0 ∧ s0 < (16 : Int)) ∧ ((E 52 s0) = 0 → ∀ E_12, E_12 = zuE E 50 56 v1 → Q (some (zI 0)) (d, G, E_12)) ∧ (¬ ((E 52 s0) = 0) → ((E 50 24) ≠ 6 → zin (30 * (E 50 24)) ∧ ((0 : Int) ≤ (30 * (E 50 24)) ∧ (30 * (E 50 24)) < (180 : Int)) ∧ ∀ E_16, E_16 = zuE E 72 ((30 * (E 50 24))) s0 → ((0 : Int) ≤ v1 ∧ v1 < (200 : Int)) ∧ ((E_16 56 v1) < 2000 → ((0 : Int) ≤ (E_16 50 24) ∧ (E_16 50 24) < (6 : Int)) ∧ ∀ E_20, E_20 = zuE E_16 74 ((E_16 50 24)) 0 → zin (v1 + 1) ∧ ((0 : Int) ≤ s0 ∧ s0 < (16 : Int)) ∧ Z zm_X12_reads kz Q 159 [(0, zR 50), (1, zI ((v1 + 1))), (3, zI 1), (4, zI ((E_20 53 s0)))] [] (d, G, E_20)) ∧ (¬ ((E_16 56 v1) < 2000) → ((0 : Int) ≤ (E_16 50 24) ∧ (E_16 50 24) < (6 : Int)) ∧ ∀ E_24, E_24 = zuE E_16 74 ((E_16 50 24)) 1 → zin (v1 + 1) ∧ ((0 : Int) ≤ s0 ∧ s0 < (16 : Int)) ∧ Z zm_X12_reads kz Q 159 [(0, zR 50), (1, zI ((v1 + 1))), (3, zI 1), (4, zI ((E_24 53 s0)))] [] (d, G, E_24))) ∧ (¬ ((E 50 24) ≠ 6) → ∀ E_27, E_27 = zuE E 50 56 v1 → Q (some (zI 0)) (d, G, E_27)))))) : Z zm_X12_reads kz Q 55 [(0, zR 50), (1, zI v1)] [zI s0] (d, G, E) := by
  refine Z.istore_n (ls' := [(2, zI s0), (0, zR 50), (1, zI v1)]) dX12_reads_55 (by decide) rfl ?_
  refine Z.aload_n (k := 1) dX12_reads_56 rfl ?_
  refine Y.getR (o := some 56) 5 dX12_reads_57 zl_X12_24 (rfl) (by decide) rfl (zM_1 hM).2.1 (zM_5 hM).1 ?_
  refine Z.iload_n (k := 2) dX12_reads_60 rfl ?_
  obtain ⟨z_1, K⟩ := K
  refine Y.iald dX12_reads_61 (rfl) ((zM_5 hM).2.2) z_1 ?_
  refine Z.sipush (n := 1000) dX12_reads_62 ⟨by decide, by decide⟩ (by decide) ?_
  refine Z.icmp_lt 100 dX12_reads_65 rfl ⟨fun c_2 => ?_, fun c_2 => ?_⟩
  · replace K := K.1 c_2
    refine Z.aload_n (k := 1) dX12_reads_100 rfl ?_
    refine Z.iload_n (k := 2) dX12_reads_101 rfl ?_
    refine Y.putI 56 dX12_reads_102 zw_X12_340 (fun q => by cases q) (rfl) rfl (zM_1 hM).2.1 (Or.inl rfl) ?_
    generalize eE_3 : zuE E 50 56 v1 = E_3
    replace K := K E_3 eE_3.symm
    refine Z.iconst (n := 0) dX12_reads_105 ⟨by decide, by decide⟩ ?_
    exact Z.iret (ty := .boolean) dX12_reads_106 rfl rfl K
  · replace K := K.2 c_2
    refine Z.iload_n (k := 0) dX12_reads_68 rfl ?_
    refine Z.iconst (n := 0) dX12_reads_69 ⟨by decide, by decide⟩ ?_
    refine Z.aload_n (k := 1) dX12_reads_70 rfl ?_
    refine Y.getI 0 dX12_reads_71 zl_X12_7 (rfl) (by decide) rfl (zM_1 hM).2.1 ?_
    refine Z.iconst (n := 1) dX12_reads_74 ⟨by decide, by decide⟩ ?_
    obtain ⟨z_4, K⟩ := K
    refine Z.isub dX12_reads_75 z_4 ?_
    obtain ⟨x_5, m_6, K⟩ := K
    refine Y.callS (g := zm_X12_in) (vs := [zI s0, zI 0, zI (((E 50 0) - 1))]) (st := []) dX12_reads_76 ⟨zg_X12_in.1, zg_X12_in.2.1, zg_X12_in.2.2, by decide⟩ ⟨Or.inl zk_X12_138, zs_X12_in⟩ rfl rfl (Nat.le_of_ble_eq_true rfl) m_6 (Or.inl rfl) ?_
    show Z zm_X12_reads kz Q 79 [(2, zI s0), (0, zR 50), (1, zI v1)] [zI x_5] (d, G, E)
    refine Z.if_eq 100 dX12_reads_79 rfl ⟨fun c_8 => ?_, fun c_8 => ?_⟩
    · replace K := K.1 c_8
      refine Z.aload_n (k := 1) dX12_reads_100 rfl ?_
      refine Z.iload_n (k := 2) dX12_reads_101 rfl ?_
      refine Y.putI 56 dX12_reads_102 zw_X12_340 (fun q => by cases q) (rfl) rfl (zM_1 hM).2.1 (Or.inl rfl) ?_
      generalize eE_9 : zuE E 50 56 v1 = E_9
      replace K := K E_9 eE_9.symm
      refine Z.iconst (n := 0) dX12_reads_105 ⟨by decide, by decide⟩ ?_
      exact Z.iret (ty := .boolean) dX12_reads_106 rfl rfl K
    · replace K := K.2 c_8
      refine Z.aload_n (k := 1) dX12_reads_82 rfl ?_
      refine Y.getR (o := some 52) 1 dX12_reads_83 zl_X12_13 (rfl) (by decide) rfl (zM_1 hM).2.1 (zM_1 hM).1 ?_
      refine Z.iload_n (k := 0) dX12_reads_86 rfl ?_
      obtain ⟨z_10, K⟩ := K
      refine Y.zald dX12_reads_87 (rfl) ((zM_1 hM).2.2) z_10 ?_
      refine Z.if_eq 100 dX12_reads_88 rfl ⟨fun c_11 => ?_, fun c_11 => ?_⟩
      · replace K := K.1 c_11
        refine Z.aload_n (k := 1) dX12_reads_100 rfl ?_
        refine Z.iload_n (k := 2) dX12_reads_101 rfl ?_
        refine Y.putI 56 dX12_reads_102 zw_X12_340 (fun q => by cases q) (rfl) rfl (zM_1 hM).2.1 (Or.inl rfl) ?_
        generalize eE_12 : zuE E 50 56 v1 = E_12
        replace K := K E_12 eE_12.symm
        refine Z.iconst (n := 0) dX12_reads_105 ⟨by decide, by decide⟩ ?_
        exact Z.iret (ty := .boolean) dX12_reads_106 rfl rfl K
      · replace K := K.2 c_11
        refine Z.aload_n (k := 1) dX12_reads_91 rfl ?_
        refine Y.getI 24 dX12_reads_92 zl_X12_167 (rfl) (by decide) rfl (zM_1 hM).2.1 ?_
        refine Z.bipush (n := 6) dX12_reads_95 ⟨by decide, by decide⟩ (by decide) ?_
        refine Z.icmp_ne 107 dX12_reads_97 rfl ⟨fun c_13 => ?_, fun c_13 => ?_⟩
        · replace K := K.1 c_13
          refine Z.aload_n (k := 1) dX12_reads_107 rfl ?_
          refine Y.getR (o := some 72) 21 dX12_reads_108 zl_X12_69 (rfl) (by decide) rfl (zM_1 hM).2.1 (zM_21 hM).1 ?_
          refine Z.bipush (n := 30) dX12_reads_111 ⟨by decide, by decide⟩ (by decide) ?_
          refine Z.aload_n (k := 1) dX12_reads_113 rfl ?_
          refine Y.getI 24 dX12_reads_114 zl_X12_167 (rfl) (by decide) rfl (zM_1 hM).2.1 ?_
          obtain ⟨z_14, K⟩ := K
          refine Z.imul dX12_reads_117 z_14 ?_
          refine Z.iload_n (k := 0) dX12_reads_118 rfl ?_
          obtain ⟨z_15, K⟩ := K
          refine Y.iast dX12_reads_119 (rfl) ((zM_21 hM).2.2) z_15 ?_
          generalize eE_16 : zuE E 72 ((30 * (E 50 24))) s0 = E_16
          replace K := K E_16 eE_16.symm
          refine Z.aload_n (k := 1) dX12_reads_120 rfl ?_
          refine Y.getR (o := some 74) 23 dX12_reads_121 zl_X12_75 (rfl) (by decide) rfl (zM_1 hM).2.1 (zM_23 hM).1 ?_
          refine Z.aload_n (k := 1) dX12_reads_124 rfl ?_
          refine Y.getI 24 dX12_reads_125 zl_X12_167 (rfl) (by decide) rfl (zM_1 hM).2.1 ?_
          refine Z.aload_n (k := 1) dX12_reads_128 rfl ?_
          refine Y.getR (o := some 56) 5 dX12_reads_129 zl_X12_24 (rfl) (by decide) rfl (zM_1 hM).2.1 (zM_5 hM).1 ?_
          refine Z.iload_n (k := 2) dX12_reads_132 rfl ?_
          obtain ⟨z_17, K⟩ := K
          refine Y.iald dX12_reads_133 (rfl) ((zM_5 hM).2.2) z_17 ?_
          refine Z.sipush (n := 2000) dX12_reads_134 ⟨by decide, by decide⟩ (by decide) ?_
          refine Z.icmp_lt 144 dX12_reads_137 rfl ⟨fun c_18 => ?_, fun c_18 => ?_⟩
          · replace K := K.1 c_18
            refine Z.iconst (n := 0) dX12_reads_144 ⟨by decide, by decide⟩ ?_
            obtain ⟨z_19, K⟩ := K
            refine Y.zast dX12_reads_145 (rfl) ((zM_23 hM).2.2) z_19 (by decide) ?_
            generalize eE_20 : zuE E_16 74 ((E_16 50 24)) 0 = E_20
            replace K := K E_20 eE_20.symm
            obtain ⟨z_21, K⟩ := K
            refine Z.iinc (k := 2) (ls' := [(1, zI ((v1 + 1))), (2, zI s0), (0, zR 50)]) dX12_reads_146 rfl (by decide) z_21 rfl ?_
            refine Z.iconst (n := 1) dX12_reads_149 ⟨by decide, by decide⟩ ?_
            refine Z.istore_n (ls' := [(3, zI 1), (1, zI ((v1 + 1))), (2, zI s0), (0, zR 50)]) dX12_reads_150 (by decide) rfl ?_
            refine Z.aload_n (k := 3) dX12_reads_151 rfl ?_
            refine Y.getR (o := some 53) 2 dX12_reads_152 zl_X12_17 (rfl) (by decide) rfl (zM_1 hM).2.1 (zM_2 hM).1 ?_
            refine Z.iload_n (k := 2) dX12_reads_155 rfl ?_
            obtain ⟨z_22, K⟩ := K
            refine Y.iald dX12_reads_156 (rfl) ((zM_2 hM).2.2) z_22 ?_
            refine Z.istore (ls' := [(4, zI ((E_20 53 s0))), (3, zI 1), (1, zI ((v1 + 1))), (2, zI s0), (0, zR 50)]) dX12_reads_157 (by decide) rfl ?_
            refine Z.pick (ls' := [(0, zR 50), (1, zI ((v1 + 1))), (3, zI 1), (4, zI ((E_20 53 s0)))]) [4, 2, 1, 0] rfl ?_
            exact K
          · replace K := K.2 c_18
            refine Z.iconst (n := 1) dX12_reads_140 ⟨by decide, by decide⟩ ?_
            refine Z.goto 145 dX12_reads_141 rfl ?_
            obtain ⟨z_23, K⟩ := K
            refine Y.zast dX12_reads_145 (rfl) ((zM_23 hM).2.2) z_23 (by decide) ?_
            generalize eE_24 : zuE E_16 74 ((E_16 50 24)) 1 = E_24
            replace K := K E_24 eE_24.symm
            obtain ⟨z_25, K⟩ := K
            refine Z.iinc (k := 2) (ls' := [(1, zI ((v1 + 1))), (2, zI s0), (0, zR 50)]) dX12_reads_146 rfl (by decide) z_25 rfl ?_
            refine Z.iconst (n := 1) dX12_reads_149 ⟨by decide, by decide⟩ ?_
            refine Z.istore_n (ls' := [(3, zI 1), (1, zI ((v1 + 1))), (2, zI s0), (0, zR 50)]) dX12_reads_150 (by decide) rfl ?_
            refine Z.aload_n (k := 3) dX12_reads_151 rfl ?_
            refine Y.getR (o := some 53) 2 dX12_reads_152 zl_X12_17 (rfl) (by decide) rfl (zM_1 hM).2.1 (zM_2 hM).1 ?_
            refine Z.iload_n (k := 2) dX12_reads_155 rfl ?_
            obtain ⟨z_26, K⟩ := K
            refine Y.iald dX12_reads_156 (rfl) ((zM_2 hM).2.2) z_26 ?_
            refine Z.istore (ls' := [(4, zI ((E_24 53 s0))), (3, zI 1), (1, zI ((v1 + 1))), (2, zI s0), (0, zR 50)]) dX12_reads_157 (by decide) rfl ?_
            refine Z.pick (ls' := [(0, zR 50), (1, zI ((v1 + 1))), (3, zI 1), (4, zI ((E_24 53 s0)))]) [4, 2, 1, 0] rfl ?_
            exact K
        · replace K := K.2 c_13
          refine Z.aload_n (k := 1) dX12_reads_100 rfl ?_
          refine Z.iload_n (k := 2) dX12_reads_101 rfl ?_
          refine Y.putI 56 dX12_reads_102 zw_X12_340 (fun q => by cases q) (rfl) rfl (zM_1 hM).2.1 (Or.inl rfl) ?_
          generalize eE_27 : zuE E 50 56 v1 = E_27
          replace K := K E_27 eE_27.symm
          refine Z.iconst (n := 0) dX12_reads_105 ⟨by decide, by decide⟩ ?_
          exact Z.iret (ty := .boolean) dX12_reads_106 rfl rfl K
set_option maxRecDepth 20000 in
theorem X12_reads_159 {kz : Nat × Nat} {Q : Option zV → zH → Prop} {d : List Nat} {G : Nat → Int → Option Nat} {E : Nat → Int → Int} {v1 : Int} {v3 : Int} {v4 : Int} (hM : zK zMt d G) (K : (v4 ≤ 0 → ((0 : Int) ≤ (E 50 24) ∧ (E 50 24) < (6 : Int)) ∧ ∀ E_3, E_3 = zuE E 73 ((E 50 24)) v3 → zin ((E_3 50 24) + 1) ∧ ∀ E_5, E_5 = zuE E_3 50 24 (((E_3 50 24) + 1)) → Z zm_X12_reads kz Q 12 [(0, zR 50), (1, zI v1)] [] (d, G, E_5)) ∧ (¬ (v4 ≤ 0) → ((E 50 4) ≤ v1 → Z zm_X12_reads kz Q 230 [(0, zR 50), (1, zI v1), (3, zI v3), (4, zI v4)] [] (d, G, E)) ∧ (¬ ((E 50 4) ≤ v1) → (30 ≤ v3 → Z zm_X12_reads kz Q 230 [(0, zR 50), (1, zI v1), (3, zI v3), (4, zI v4)] [] (d, G, E)) ∧ (¬ (30 ≤ v3) → ((0 : Int) ≤ v1 ∧ v1 < (200 : Int)) ∧ ∃ x_9, zM zm_X12_in [zI ((E 56 v1)), zI ((-20)), zI ((-1))] (d, G, E) (some (zI x_9)) (d, G, E) ∧ (x_9 ≠ 0 → Z zm_X12_reads kz Q 226 [(0, zR 50), (1, zI v1), (3, zI v3), (4, zI v4)] [] (d, G, E)) ∧ (¬ (x_9 ≠ 0) → ((0 : Int) ≤ v1 ∧ v1 < (200 : Int)) ∧ zin ((E 50 0) - 1) ∧ ∃ x_15, zM zm_X12_in [zI ((E 56 v1)), zI 1, zI (((E 50 0) - 1))] (d, G, E) (some (zI x_15)) (d, G, E) ∧ (x_15 = 0 → Z zm_X12_reads kz Q 230 [(0, zR 50), (1, zI v1), (3, zI v3), (4, zI v4)] [] (d, G, E)) ∧ (¬ (x_15 = 0) → ((0 : Int) ≤ v1 ∧ v1 < (200 : Int)) ∧ ((0 : Int) ≤ (E 56 v1) ∧ (E 56 v1) < (16 : Int)) ∧ ((E 52 (E 56 v1)) ≠ 0 → Z zm_X12_reads kz Q 230 [(0, zR 50), (1, zI v1), (3, zI v3), (4, zI v4)] [] (d, G, E)) ∧ (¬ ((E 52 (E 56 v1)) ≠ 0) → Z zm_X12_reads kz Q 226 [(0, zR 50), (1, zI v1), (3, zI v3), (4, zI v4)] [] (d, G, E)))))))) : Z zm_X12_reads kz Q 159 [(0, zR 50), (1, zI v1), (3, zI v3), (4, zI v4)] [] (d, G, E) := by
  refine Z.iload (k := 3) dX12_reads_159 rfl ?_
  refine Z.if_le 305 dX12_reads_161 rfl ⟨fun c_1 => ?_, fun c_1 => ?_⟩
  · replace K := K.1 c_1
    refine Z.aload_n (k := 0) dX12_reads_305 rfl ?_
    refine Y.getR (o := some 73) 22 dX12_reads_306 zl_X12_72 (rfl) (by decide) rfl (zM_1 hM).2.1 (zM_22 hM).1 ?_
    refine Z.aload_n (k := 0) dX12_reads_309 rfl ?_
    refine Y.getI 24 dX12_reads_310 zl_X12_167 (rfl) (by decide) rfl (zM_1 hM).2.1 ?_
    refine Z.iload_n (k := 2) dX12_reads_313 rfl ?_
    obtain ⟨z_2, K⟩ := K
    refine Y.iast dX12_reads_314 (rfl) ((zM_22 hM).2.2) z_2 ?_
    generalize eE_3 : zuE E 73 ((E 50 24)) v3 = E_3
    replace K := K E_3 eE_3.symm
    refine Z.aload_n (k := 0) dX12_reads_315 rfl ?_
    refine Z.dup_i dX12_reads_316 (fun _ => rfl) ?_
    refine Y.getI 24 dX12_reads_317 zl_X12_167 (rfl) (by decide) rfl (zM_1 hM).2.1 ?_
    refine Z.iconst (n := 1) dX12_reads_320 ⟨by decide, by decide⟩ ?_
    obtain ⟨z_4, K⟩ := K
    refine Z.iadd dX12_reads_321 z_4 ?_
    refine Y.putI 24 dX12_reads_322 zw_X12_167 (fun q => by cases q) (rfl) rfl (zM_1 hM).2.1 (Or.inl rfl) ?_
    generalize eE_5 : zuE E_3 50 24 (((E_3 50 24) + 1)) = E_5
    replace K := K E_5 eE_5.symm
    refine Z.goto 12 dX12_reads_325 rfl ?_
    refine Z.pick (ls' := [(0, zR 50), (1, zI v1)]) [0, 1] rfl ?_
    exact K
  · replace K := K.2 c_1
    refine Z.iload_n (k := 1) dX12_reads_164 rfl ?_
    refine Z.aload_n (k := 0) dX12_reads_165 rfl ?_
    refine Y.getI 4 dX12_reads_166 zl_X12_145 (rfl) (by decide) rfl (zM_1 hM).2.1 ?_
    refine Z.icmp_ge 230 dX12_reads_169 rfl ⟨fun c_6 => ?_, fun c_6 => ?_⟩
    · replace K := K.1 c_6
      exact K
    · replace K := K.2 c_6
      refine Z.iload_n (k := 2) dX12_reads_172 rfl ?_
      refine Z.bipush (n := 30) dX12_reads_173 ⟨by decide, by decide⟩ (by decide) ?_
      refine Z.icmp_ge 230 dX12_reads_175 rfl ⟨fun c_7 => ?_, fun c_7 => ?_⟩
      · replace K := K.1 c_7
        exact K
      · replace K := K.2 c_7
        refine Z.aload_n (k := 0) dX12_reads_178 rfl ?_
        refine Y.getR (o := some 56) 5 dX12_reads_179 zl_X12_24 (rfl) (by decide) rfl (zM_1 hM).2.1 (zM_5 hM).1 ?_
        refine Z.iload_n (k := 1) dX12_reads_182 rfl ?_
        obtain ⟨z_8, K⟩ := K
        refine Y.iald dX12_reads_183 (rfl) ((zM_5 hM).2.2) z_8 ?_
        refine Z.bipush (n := -20) dX12_reads_184 ⟨by decide, by decide⟩ (by decide) ?_
        refine Z.iconst (n := -1) dX12_reads_186 ⟨by decide, by decide⟩ ?_
        obtain ⟨x_9, m_10, K⟩ := K
        refine Y.callS (g := zm_X12_in) (vs := [zI ((E 56 v1)), zI ((-20)), zI ((-1))]) (st := []) dX12_reads_187 ⟨zg_X12_in.1, zg_X12_in.2.1, zg_X12_in.2.2, by decide⟩ ⟨Or.inl zk_X12_138, zs_X12_in⟩ rfl rfl (Nat.le_of_ble_eq_true rfl) m_10 (Or.inl rfl) ?_
        show Z zm_X12_reads kz Q 190 [(0, zR 50), (1, zI v1), (3, zI v3), (4, zI v4)] [zI x_9] (d, G, E)
        refine Z.if_ne 226 dX12_reads_190 rfl ⟨fun c_12 => ?_, fun c_12 => ?_⟩
        · replace K := K.1 c_12
          exact K
        · replace K := K.2 c_12
          refine Z.aload_n (k := 0) dX12_reads_193 rfl ?_
          refine Y.getR (o := some 56) 5 dX12_reads_194 zl_X12_24 (rfl) (by decide) rfl (zM_1 hM).2.1 (zM_5 hM).1 ?_
          refine Z.iload_n (k := 1) dX12_reads_197 rfl ?_
          obtain ⟨z_13, K⟩ := K
          refine Y.iald dX12_reads_198 (rfl) ((zM_5 hM).2.2) z_13 ?_
          refine Z.iconst (n := 1) dX12_reads_199 ⟨by decide, by decide⟩ ?_
          refine Z.aload_n (k := 0) dX12_reads_200 rfl ?_
          refine Y.getI 0 dX12_reads_201 zl_X12_7 (rfl) (by decide) rfl (zM_1 hM).2.1 ?_
          refine Z.iconst (n := 1) dX12_reads_204 ⟨by decide, by decide⟩ ?_
          obtain ⟨z_14, K⟩ := K
          refine Z.isub dX12_reads_205 z_14 ?_
          obtain ⟨x_15, m_16, K⟩ := K
          refine Y.callS (g := zm_X12_in) (vs := [zI ((E 56 v1)), zI 1, zI (((E 50 0) - 1))]) (st := []) dX12_reads_206 ⟨zg_X12_in.1, zg_X12_in.2.1, zg_X12_in.2.2, by decide⟩ ⟨Or.inl zk_X12_138, zs_X12_in⟩ rfl rfl (Nat.le_of_ble_eq_true rfl) m_16 (Or.inl rfl) ?_
          show Z zm_X12_reads kz Q 209 [(0, zR 50), (1, zI v1), (3, zI v3), (4, zI v4)] [zI x_15] (d, G, E)
          refine Z.if_eq 230 dX12_reads_209 rfl ⟨fun c_18 => ?_, fun c_18 => ?_⟩
          · replace K := K.1 c_18
            exact K
          · replace K := K.2 c_18
            refine Z.aload_n (k := 0) dX12_reads_212 rfl ?_
            refine Y.getR (o := some 52) 1 dX12_reads_213 zl_X12_13 (rfl) (by decide) rfl (zM_1 hM).2.1 (zM_1 hM).1 ?_
            refine Z.aload_n (k := 0) dX12_reads_216 rfl ?_
            refine Y.getR (o := some 56) 5 dX12_reads_217 zl_X12_24 (rfl) (by decide) rfl (zM_1 hM).2.1 (zM_5 hM).1 ?_
            refine Z.iload_n (k := 1) dX12_reads_220 rfl ?_
            obtain ⟨z_19, K⟩ := K
            refine Y.iald dX12_reads_221 (rfl) ((zM_5 hM).2.2) z_19 ?_
            obtain ⟨z_20, K⟩ := K
            refine Y.zald dX12_reads_222 (rfl) ((zM_1 hM).2.2) z_20 ?_
            refine Z.if_ne 230 dX12_reads_223 rfl ⟨fun c_21 => ?_, fun c_21 => ?_⟩
            · replace K := K.1 c_21
              exact K
            · replace K := K.2 c_21
              exact K
set_option maxRecDepth 20000 in
theorem X12_reads_226 {kz : Nat × Nat} {Q : Option zV → zH → Prop} {d : List Nat} {G : Nat → Int → Option Nat} {E : Nat → Int → Int} {v1 : Int} {v3 : Int} {v4 : Int} (hM : zK zMt d G) (K : zin (30 * (E 50 24)) ∧ zin ((30 * (E 50 24)) + v3) ∧ ((0 : Int) ≤ v1 ∧ v1 < (200 : Int)) ∧ ((0 : Int) ≤ ((30 * (E 50 24)) + v3) ∧ ((30 * (E 50 24)) + v3) < (180 : Int)) ∧ ∀ E_6, E_6 = zuE E 72 (((30 * (E 50 24)) + v3)) ((E 56 v1)) → ((0 : Int) ≤ v1 ∧ v1 < (200 : Int)) ∧ (0 ≤ (E_6 56 v1) → ((0 : Int) ≤ v1 ∧ v1 < (200 : Int)) ∧ ((0 : Int) ≤ (E_6 56 v1) ∧ (E_6 56 v1) < (16 : Int)) ∧ zin ((E_6 53 (E_6 56 v1)) - 1) ∧ zin (v4 + ((E_6 53 (E_6 56 v1)) - 1)) ∧ zin (v3 + 1) ∧ zin (v1 + 1) ∧ Z zm_X12_reads kz Q 159 [(0, zR 50), (1, zI ((v1 + 1))), (3, zI ((v3 + 1))), (4, zI ((v4 + ((E_6 53 (E_6 56 v1)) - 1))))] [] (d, G, E_6)) ∧ (¬ (0 ≤ (E_6 56 v1)) → zin (v4 + (-1)) ∧ zin (v3 + 1) ∧ zin (v1 + 1) ∧ Z zm_X12_reads kz Q 159 [(0, zR 50), (1, zI ((v1 + 1))), (3, zI ((v3 + 1))), (4, zI ((v4 + (-1))))] [] (d, G, E_6))) : Z zm_X12_reads kz Q 226 [(0, zR 50), (1, zI v1), (3, zI v3), (4, zI v4)] [] (d, G, E) := by
  refine Z.iconst (n := 1) dX12_reads_226 ⟨by decide, by decide⟩ ?_
  refine Z.goto 231 dX12_reads_227 rfl ?_
  refine Z.istore (ls' := [(5, zI 1), (0, zR 50), (1, zI v1), (3, zI v3), (4, zI v4)]) dX12_reads_231 (by decide) rfl ?_
  refine Z.iload (k := 0) dX12_reads_233 rfl ?_
  refine Z.if_ne 245 dX12_reads_235 rfl ⟨fun _ => ?_, fun c_1 => absurd (by decide) c_1⟩
  refine Z.aload_n (k := 1) dX12_reads_245 rfl ?_
  refine Y.getR (o := some 72) 21 dX12_reads_246 zl_X12_69 (rfl) (by decide) rfl (zM_1 hM).2.1 (zM_21 hM).1 ?_
  refine Z.bipush (n := 30) dX12_reads_249 ⟨by decide, by decide⟩ (by decide) ?_
  refine Z.aload_n (k := 1) dX12_reads_251 rfl ?_
  refine Y.getI 24 dX12_reads_252 zl_X12_167 (rfl) (by decide) rfl (zM_1 hM).2.1 ?_
  obtain ⟨z_2, K⟩ := K
  refine Z.imul dX12_reads_255 z_2 ?_
  refine Z.iload_n (k := 3) dX12_reads_256 rfl ?_
  obtain ⟨z_3, K⟩ := K
  refine Z.iadd dX12_reads_257 z_3 ?_
  refine Z.aload_n (k := 1) dX12_reads_258 rfl ?_
  refine Y.getR (o := some 56) 5 dX12_reads_259 zl_X12_24 (rfl) (by decide) rfl (zM_1 hM).2.1 (zM_5 hM).1 ?_
  refine Z.iload_n (k := 2) dX12_reads_262 rfl ?_
  obtain ⟨z_4, K⟩ := K
  refine Y.iald dX12_reads_263 (rfl) ((zM_5 hM).2.2) z_4 ?_
  obtain ⟨z_5, K⟩ := K
  refine Y.iast dX12_reads_264 (rfl) ((zM_21 hM).2.2) z_5 ?_
  generalize eE_6 : zuE E 72 (((30 * (E 50 24)) + v3)) ((E 56 v1)) = E_6
  replace K := K E_6 eE_6.symm
  refine Z.iload (k := 4) dX12_reads_265 rfl ?_
  refine Z.aload_n (k := 1) dX12_reads_267 rfl ?_
  refine Y.getR (o := some 56) 5 dX12_reads_268 zl_X12_24 (rfl) (by decide) rfl (zM_1 hM).2.1 (zM_5 hM).1 ?_
  refine Z.iload_n (k := 2) dX12_reads_271 rfl ?_
  obtain ⟨z_7, K⟩ := K
  refine Y.iald dX12_reads_272 (rfl) ((zM_5 hM).2.2) z_7 ?_
  refine Z.if_ge 280 dX12_reads_273 rfl ⟨fun c_8 => ?_, fun c_8 => ?_⟩
  · replace K := K.1 c_8
    refine Z.aload_n (k := 1) dX12_reads_280 rfl ?_
    refine Y.getR (o := some 53) 2 dX12_reads_281 zl_X12_17 (rfl) (by decide) rfl (zM_1 hM).2.1 (zM_2 hM).1 ?_
    refine Z.aload_n (k := 1) dX12_reads_284 rfl ?_
    refine Y.getR (o := some 56) 5 dX12_reads_285 zl_X12_24 (rfl) (by decide) rfl (zM_1 hM).2.1 (zM_5 hM).1 ?_
    refine Z.iload_n (k := 2) dX12_reads_288 rfl ?_
    obtain ⟨z_9, K⟩ := K
    refine Y.iald dX12_reads_289 (rfl) ((zM_5 hM).2.2) z_9 ?_
    obtain ⟨z_10, K⟩ := K
    refine Y.iald dX12_reads_290 (rfl) ((zM_2 hM).2.2) z_10 ?_
    refine Z.iconst (n := 1) dX12_reads_291 ⟨by decide, by decide⟩ ?_
    obtain ⟨z_11, K⟩ := K
    refine Z.isub dX12_reads_292 z_11 ?_
    obtain ⟨z_12, K⟩ := K
    refine Z.iadd dX12_reads_293 z_12 ?_
    refine Z.istore (ls' := [(4, zI ((v4 + ((E_6 53 (E_6 56 v1)) - 1)))), (5, zI 1), (0, zR 50), (1, zI v1), (3, zI v3)]) dX12_reads_294 (by decide) rfl ?_
    obtain ⟨z_13, K⟩ := K
    refine Z.iinc (k := 4) (ls' := [(3, zI ((v3 + 1))), (4, zI ((v4 + ((E_6 53 (E_6 56 v1)) - 1)))), (5, zI 1), (0, zR 50), (1, zI v1)]) dX12_reads_296 rfl (by decide) z_13 rfl ?_
    obtain ⟨z_14, K⟩ := K
    refine Z.iinc (k := 4) (ls' := [(1, zI ((v1 + 1))), (3, zI ((v3 + 1))), (4, zI ((v4 + ((E_6 53 (E_6 56 v1)) - 1)))), (5, zI 1), (0, zR 50)]) dX12_reads_299 rfl (by decide) z_14 rfl ?_
    refine Z.goto 159 dX12_reads_302 rfl ?_
    refine Z.pick (ls' := [(0, zR 50), (1, zI ((v1 + 1))), (3, zI ((v3 + 1))), (4, zI ((v4 + ((E_6 53 (E_6 56 v1)) - 1))))]) [4, 0, 1, 2] rfl ?_
    exact K
  · replace K := K.2 c_8
    refine Z.iconst (n := -1) dX12_reads_276 ⟨by decide, by decide⟩ ?_
    refine Z.goto 293 dX12_reads_277 rfl ?_
    obtain ⟨z_15, K⟩ := K
    refine Z.iadd dX12_reads_293 z_15 ?_
    refine Z.istore (ls' := [(4, zI ((v4 + (-1)))), (5, zI 1), (0, zR 50), (1, zI v1), (3, zI v3)]) dX12_reads_294 (by decide) rfl ?_
    obtain ⟨z_16, K⟩ := K
    refine Z.iinc (k := 4) (ls' := [(3, zI ((v3 + 1))), (4, zI ((v4 + (-1)))), (5, zI 1), (0, zR 50), (1, zI v1)]) dX12_reads_296 rfl (by decide) z_16 rfl ?_
    obtain ⟨z_17, K⟩ := K
    refine Z.iinc (k := 4) (ls' := [(1, zI ((v1 + 1))), (3, zI ((v3 + 1))), (4, zI ((v4 + (-1)))), (5, zI 1), (0, zR 50)]) dX12_reads_299 rfl (by decide) z_17 rfl ?_
    refine Z.goto 159 dX12_reads_302 rfl ?_
    refine Z.pick (ls' := [(0, zR 50), (1, zI ((v1 + 1))), (3, zI ((v3 + 1))), (4, zI ((v4 + (-1))))]) [4, 0, 1, 2] rfl ?_
    exact K
set_option maxRecDepth 20000 in
theorem X12_reads_230 {kz : Nat × Nat} {Q : Option zV → zH → Prop} {d : List Nat} {G : Nat → Int → Option Nat} {E : Nat → Int → Int} {v1 : Int} {v3 : Int} {v4 : Int} (hM : zK zMt d G) (K : ∀ E_2, E_2 = zuE E 50 56 v1 → Q (some (zI 0)) (d, G, E_2)) : Z zm_X12_reads kz Q 230 [(0, zR 50), (1, zI v1), (3, zI v3), (4, zI v4)] [] (d, G, E) := by
  refine Z.iconst (n := 0) dX12_reads_230 ⟨by decide, by decide⟩ ?_
  refine Z.istore (ls' := [(5, zI 0), (0, zR 50), (1, zI v1), (3, zI v3), (4, zI v4)]) dX12_reads_231 (by decide) rfl ?_
  refine Z.iload (k := 0) dX12_reads_233 rfl ?_
  refine Z.if_ne 245 dX12_reads_235 rfl ⟨fun c_1 => absurd c_1 (by decide), fun _ => ?_⟩
  refine Z.aload_n (k := 1) dX12_reads_238 rfl ?_
  refine Z.iload_n (k := 2) dX12_reads_239 rfl ?_
  refine Y.putI 56 dX12_reads_240 zw_X12_340 (fun q => by cases q) (rfl) rfl (zM_1 hM).2.1 (Or.inl rfl) ?_
  generalize eE_2 : zuE E 50 56 v1 = E_2
  replace K := K E_2 eE_2.symm
  refine Z.iconst (n := 0) dX12_reads_243 ⟨by decide, by decide⟩ ?_
  exact Z.iret (ty := .boolean) dX12_reads_244 rfl rfl K
set_option maxRecDepth 20000 in
theorem X12_given_0 {kz : Nat × Nat} {Q : Option zV → zH → Prop} {d : List Nat} {G : Nat → Int → Option Nat} {E : Nat → Int → Int}  (hM : zK zMt d G) (K : ((E 50 54) = 0 → ((E 50 6) ≠ 150 → ∃ x_3 E_4, zM zm_X12_reads [zR 50] (d, G, E) (some (zI x_3)) (d, G, E_4) ∧ ∀ E_7, E_7 = zuE E_4 50 4 0 → (x_3 ≠ 0 → ((0 : Int) ≤ (E_7 50 6) ∧ (E_7 50 6) < (150 : Int)) ∧ ∀ E_10, E_10 = zuE E_7 68 ((E_7 50 6)) ((E_7 50 24)) → Z zm_X12_given kz Q 60 [(0, zR 50), (2, zI 0)] [] (d, G, E_10)) ∧ (¬ (x_3 ≠ 0) → zin ((-100) - (E_7 50 56)) ∧ Q (some (zI (((-100) - (E_7 50 56))))) (d, G, E_7))) ∧ (¬ ((E 50 6) ≠ 150) → Q (some (zI ((-4)))) (d, G, E))) ∧ (¬ ((E 50 54) = 0) → Q (some (zI ((-3)))) (d, G, E))) : Z zm_X12_given kz Q 0 [(0, zR 50)] [] (d, G, E) := by
  refine Z.aload_n (k := 0) dX12_given_0 rfl ?_
  refine Y.getI 54 dX12_given_1 zl_X12_337 (rfl) (by decide) rfl (zM_1 hM).2.1 ?_
  refine Z.if_eq 10 dX12_given_4 rfl ⟨fun c_1 => ?_, fun c_1 => ?_⟩
  · replace K := K.1 c_1
    refine Z.aload_n (k := 0) dX12_given_10 rfl ?_
    refine Y.getI 6 dX12_given_11 zl_X12_142 (rfl) (by decide) rfl (zM_1 hM).2.1 ?_
    refine Z.sipush (n := 150) dX12_given_14 ⟨by decide, by decide⟩ (by decide) ?_
    refine Z.icmp_ne 23 dX12_given_17 rfl ⟨fun c_2 => ?_, fun c_2 => ?_⟩
    · replace K := K.1 c_2
      refine Z.aload_n (k := 0) dX12_given_23 rfl ?_
      obtain ⟨x_3, E_4, m_5, K⟩ := K
      refine Y.callV (g := zm_X12_reads) (vs := []) (st := []) dX12_given_24 ⟨zg_X12_reads.1, zg_X12_reads.2.1, zg_X12_reads.2.2, by decide⟩ ⟨zk_X12_343, zv_X12_reads⟩ (ci := 12) (rfl) rfl ((zM_1 hM).2.1) rfl rfl (Nat.le_of_ble_eq_true rfl) m_5 (Or.inl rfl) ?_
      show Z zm_X12_given kz Q 27 [(0, zR 50)] [zI x_3] (d, G, E_4)
      refine Z.istore_n (ls' := [(1, zI x_3), (0, zR 50)]) dX12_given_27 (by decide) rfl ?_
      refine Z.aload_n (k := 1) dX12_given_28 rfl ?_
      refine Z.iconst (n := 0) dX12_given_29 ⟨by decide, by decide⟩ ?_
      refine Y.putI 4 dX12_given_30 zw_X12_145 (fun q => by cases q) (rfl) rfl (zM_1 hM).2.1 (Or.inl rfl) ?_
      generalize eE_7 : zuE E_4 50 4 0 = E_7
      replace K := K E_7 eE_7.symm
      refine Z.iload_n (k := 0) dX12_given_33 rfl ?_
      refine Z.if_ne 45 dX12_given_34 rfl ⟨fun c_8 => ?_, fun c_8 => ?_⟩
      · replace K := K.1 c_8
        refine Z.aload_n (k := 1) dX12_given_45 rfl ?_
        refine Y.getR (o := some 68) 17 dX12_given_46 zl_X12_57 (rfl) (by decide) rfl (zM_1 hM).2.1 (zM_17 hM).1 ?_
        refine Z.aload_n (k := 1) dX12_given_49 rfl ?_
        refine Y.getI 6 dX12_given_50 zl_X12_142 (rfl) (by decide) rfl (zM_1 hM).2.1 ?_
        refine Z.aload_n (k := 1) dX12_given_53 rfl ?_
        refine Y.getI 24 dX12_given_54 zl_X12_167 (rfl) (by decide) rfl (zM_1 hM).2.1 ?_
        obtain ⟨z_9, K⟩ := K
        refine Y.iast dX12_given_57 (rfl) ((zM_17 hM).2.2) z_9 ?_
        generalize eE_10 : zuE E_7 68 ((E_7 50 6)) ((E_7 50 24)) = E_10
        replace K := K E_10 eE_10.symm
        refine Z.iconst (n := 0) dX12_given_58 ⟨by decide, by decide⟩ ?_
        refine Z.istore_n (ls' := [(2, zI 0), (1, zI x_3), (0, zR 50)]) dX12_given_59 (by decide) rfl ?_
        refine Z.pick (ls' := [(0, zR 50), (2, zI 0)]) [2, 0] rfl ?_
        exact K
      · replace K := K.2 c_8
        refine Z.bipush (n := -100) dX12_given_37 ⟨by decide, by decide⟩ (by decide) ?_
        refine Z.aload_n (k := 1) dX12_given_39 rfl ?_
        refine Y.getI 56 dX12_given_40 zl_X12_340 (rfl) (by decide) rfl (zM_1 hM).2.1 ?_
        obtain ⟨z_11, K⟩ := K
        refine Z.isub dX12_given_43 z_11 ?_
        exact Z.iret (ty := .int) dX12_given_44 rfl rfl K
    · replace K := K.2 c_2
      refine Z.bipush (n := -4) dX12_given_20 ⟨by decide, by decide⟩ (by decide) ?_
      exact Z.iret (ty := .int) dX12_given_22 rfl rfl K
  · replace K := K.2 c_1
    refine Z.bipush (n := -3) dX12_given_7 ⟨by decide, by decide⟩ (by decide) ?_
    exact Z.iret (ty := .int) dX12_given_9 rfl rfl K
set_option maxRecDepth 20000 in
theorem X12_given_60 {kz : Nat × Nat} {Q : Option zV → zH → Prop} {d : List Nat} {G : Nat → Int → Option Nat} {E : Nat → Int → Int} {v2 : Int} (hM : zK zMt d G) (K : ((E 50 24) ≤ v2 → ∃ x_2 E_3, zM zm_X12_ends [zR 50, zI 0, zI 0, zI 0, zI 0, zI 0, zI 0, zI 0] (d, G, E) (some (zI x_2)) (d, G, E_3) ∧ Q (some (zI x_2)) (d, G, E_3)) ∧ (¬ ((E 50 24) ≤ v2) → zin (6 * (E 50 6)) ∧ zin ((6 * (E 50 6)) + v2) ∧ ((0 : Int) ≤ v2 ∧ v2 < (6 : Int)) ∧ ((0 : Int) ≤ ((6 * (E 50 6)) + v2) ∧ ((6 * (E 50 6)) + v2) < (900 : Int)) ∧ ∀ E_10, E_10 = zuE E 66 (((6 * (E 50 6)) + v2)) ((E 73 v2)) → zin (6 * (E_10 50 6)) ∧ zin ((6 * (E_10 50 6)) + v2) ∧ ((0 : Int) ≤ v2 ∧ v2 < (6 : Int)) ∧ ((0 : Int) ≤ ((6 * (E_10 50 6)) + v2) ∧ ((6 * (E_10 50 6)) + v2) < (900 : Int)) ∧ ((E_10 74 v2) = 0 ∨ (E_10 74 v2) = 1) ∧ ∀ E_16, E_16 = zuE E_10 67 (((6 * (E_10 50 6)) + v2)) ((E_10 74 v2)) → Z zm_X12_given kz Q 110 [(0, zR 50), (2, zI v2), (3, zI 0)] [] (d, G, E_16))) : Z zm_X12_given kz Q 60 [(0, zR 50), (2, zI v2)] [] (d, G, E) := by
  refine Z.iload_n (k := 1) dX12_given_60 rfl ?_
  refine Z.aload_n (k := 0) dX12_given_61 rfl ?_
  refine Y.getI 24 dX12_given_62 zl_X12_167 (rfl) (by decide) rfl (zM_1 hM).2.1 ?_
  refine Z.icmp_ge 162 dX12_given_65 rfl ⟨fun c_1 => ?_, fun c_1 => ?_⟩
  · replace K := K.1 c_1
    refine Z.aload_n (k := 0) dX12_given_162 rfl ?_
    refine Z.iconst (n := 0) dX12_given_163 ⟨by decide, by decide⟩ ?_
    refine Z.iconst (n := 0) dX12_given_164 ⟨by decide, by decide⟩ ?_
    refine Z.iconst (n := 0) dX12_given_165 ⟨by decide, by decide⟩ ?_
    refine Z.iconst (n := 0) dX12_given_166 ⟨by decide, by decide⟩ ?_
    refine Z.iconst (n := 0) dX12_given_167 ⟨by decide, by decide⟩ ?_
    refine Z.iconst (n := 0) dX12_given_168 ⟨by decide, by decide⟩ ?_
    refine Z.iconst (n := 0) dX12_given_169 ⟨by decide, by decide⟩ ?_
    obtain ⟨x_2, E_3, m_4, K⟩ := K
    refine Y.callV (g := zm_X12_ends) (vs := [zI 0, zI 0, zI 0, zI 0, zI 0, zI 0, zI 0]) (st := []) dX12_given_170 ⟨zg_X12_ends.1, zg_X12_ends.2.1, zg_X12_ends.2.2, by decide⟩ ⟨zk_X12_346, zv_X12_ends⟩ (ci := 12) (rfl) rfl ((zM_1 hM).2.1) rfl rfl (Nat.le_of_ble_eq_true rfl) m_4 (Or.inl rfl) ?_
    show Z zm_X12_given kz Q 173 [(0, zR 50), (2, zI v2)] [zI x_2] (d, G, E_3)
    exact Z.iret (ty := .int) dX12_given_173 rfl rfl K
  · replace K := K.2 c_1
    refine Z.aload_n (k := 0) dX12_given_68 rfl ?_
    refine Y.getR (o := some 66) 15 dX12_given_69 zl_X12_51 (rfl) (by decide) rfl (zM_1 hM).2.1 (zM_15 hM).1 ?_
    refine Z.bipush (n := 6) dX12_given_72 ⟨by decide, by decide⟩ (by decide) ?_
    refine Z.aload_n (k := 0) dX12_given_74 rfl ?_
    refine Y.getI 6 dX12_given_75 zl_X12_142 (rfl) (by decide) rfl (zM_1 hM).2.1 ?_
    obtain ⟨z_6, K⟩ := K
    refine Z.imul dX12_given_78 z_6 ?_
    refine Z.iload_n (k := 1) dX12_given_79 rfl ?_
    obtain ⟨z_7, K⟩ := K
    refine Z.iadd dX12_given_80 z_7 ?_
    refine Z.aload_n (k := 0) dX12_given_81 rfl ?_
    refine Y.getR (o := some 73) 22 dX12_given_82 zl_X12_72 (rfl) (by decide) rfl (zM_1 hM).2.1 (zM_22 hM).1 ?_
    refine Z.iload_n (k := 1) dX12_given_85 rfl ?_
    obtain ⟨z_8, K⟩ := K
    refine Y.iald dX12_given_86 (rfl) ((zM_22 hM).2.2) z_8 ?_
    obtain ⟨z_9, K⟩ := K
    refine Y.iast dX12_given_87 (rfl) ((zM_15 hM).2.2) z_9 ?_
    generalize eE_10 : zuE E 66 (((6 * (E 50 6)) + v2)) ((E 73 v2)) = E_10
    replace K := K E_10 eE_10.symm
    refine Z.aload_n (k := 0) dX12_given_88 rfl ?_
    refine Y.getR (o := some 67) 16 dX12_given_89 zl_X12_54 (rfl) (by decide) rfl (zM_1 hM).2.1 (zM_16 hM).1 ?_
    refine Z.bipush (n := 6) dX12_given_92 ⟨by decide, by decide⟩ (by decide) ?_
    refine Z.aload_n (k := 0) dX12_given_94 rfl ?_
    refine Y.getI 6 dX12_given_95 zl_X12_142 (rfl) (by decide) rfl (zM_1 hM).2.1 ?_
    obtain ⟨z_11, K⟩ := K
    refine Z.imul dX12_given_98 z_11 ?_
    refine Z.iload_n (k := 1) dX12_given_99 rfl ?_
    obtain ⟨z_12, K⟩ := K
    refine Z.iadd dX12_given_100 z_12 ?_
    refine Z.aload_n (k := 0) dX12_given_101 rfl ?_
    refine Y.getR (o := some 74) 23 dX12_given_102 zl_X12_75 (rfl) (by decide) rfl (zM_1 hM).2.1 (zM_23 hM).1 ?_
    refine Z.iload_n (k := 1) dX12_given_105 rfl ?_
    obtain ⟨z_13, K⟩ := K
    refine Y.zald dX12_given_106 (rfl) ((zM_23 hM).2.2) z_13 ?_
    obtain ⟨z_14, K⟩ := K
    obtain ⟨z_15, K⟩ := K
    refine Y.zast dX12_given_107 (rfl) ((zM_16 hM).2.2) z_14 z_15 ?_
    generalize eE_16 : zuE E_10 67 (((6 * (E_10 50 6)) + v2)) ((E_10 74 v2)) = E_16
    replace K := K E_16 eE_16.symm
    refine Z.iconst (n := 0) dX12_given_108 ⟨by decide, by decide⟩ ?_
    refine Z.istore_n (ls' := [(3, zI 0), (0, zR 50), (2, zI v2)]) dX12_given_109 (by decide) rfl ?_
    refine Z.pick (ls' := [(0, zR 50), (2, zI v2), (3, zI 0)]) [1, 2, 0] rfl ?_
    exact K
set_option maxRecDepth 20000 in
theorem X12_given_110 {kz : Nat × Nat} {Q : Option zV → zH → Prop} {d : List Nat} {G : Nat → Int → Option Nat} {E : Nat → Int → Int} {v2 : Int} {v3 : Int} (hM : zK zMt d G) (K : ((0 : Int) ≤ v2 ∧ v2 < (6 : Int)) ∧ ((E 73 v2) ≤ v3 → zin (v2 + 1) ∧ Z zm_X12_given kz Q 60 [(0, zR 50), (2, zI ((v2 + 1)))] [] (d, G, E)) ∧ (¬ ((E 73 v2) ≤ v3) → zin (6 * (E 50 6)) ∧ zin ((6 * (E 50 6)) + v2) ∧ zin (30 * ((6 * (E 50 6)) + v2)) ∧ zin ((30 * ((6 * (E 50 6)) + v2)) + v3) ∧ zin (30 * v2) ∧ zin ((30 * v2) + v3) ∧ ((0 : Int) ≤ ((30 * v2) + v3) ∧ ((30 * v2) + v3) < (180 : Int)) ∧ ((0 : Int) ≤ ((30 * ((6 * (E 50 6)) + v2)) + v3) ∧ ((30 * ((6 * (E 50 6)) + v2)) + v3) < (27000 : Int)) ∧ ∀ E_12, E_12 = zuE E 65 (((30 * ((6 * (E 50 6)) + v2)) + v3)) ((E 72 ((30 * v2) + v3))) → zin (v3 + 1) ∧ Z zm_X12_given kz Q 110 [(0, zR 50), (2, zI v2), (3, zI ((v3 + 1)))] [] (d, G, E_12))) : Z zm_X12_given kz Q 110 [(0, zR 50), (2, zI v2), (3, zI v3)] [] (d, G, E) := by
  refine Z.iload_n (k := 2) dX12_given_110 rfl ?_
  refine Z.aload_n (k := 0) dX12_given_111 rfl ?_
  refine Y.getR (o := some 73) 22 dX12_given_112 zl_X12_72 (rfl) (by decide) rfl (zM_1 hM).2.1 (zM_22 hM).1 ?_
  refine Z.iload_n (k := 1) dX12_given_115 rfl ?_
  obtain ⟨z_1, K⟩ := K
  refine Y.iald dX12_given_116 (rfl) ((zM_22 hM).2.2) z_1 ?_
  refine Z.icmp_ge 156 dX12_given_117 rfl ⟨fun c_2 => ?_, fun c_2 => ?_⟩
  · replace K := K.1 c_2
    obtain ⟨z_3, K⟩ := K
    refine Z.iinc (k := 1) (ls' := [(2, zI ((v2 + 1))), (0, zR 50), (3, zI v3)]) dX12_given_156 rfl (by decide) z_3 rfl ?_
    refine Z.goto 60 dX12_given_159 rfl ?_
    refine Z.pick (ls' := [(0, zR 50), (2, zI ((v2 + 1)))]) [1, 0] rfl ?_
    exact K
  · replace K := K.2 c_2
    refine Z.aload_n (k := 0) dX12_given_120 rfl ?_
    refine Y.getR (o := some 65) 14 dX12_given_121 zl_X12_48 (rfl) (by decide) rfl (zM_1 hM).2.1 (zM_14 hM).1 ?_
    refine Z.bipush (n := 30) dX12_given_124 ⟨by decide, by decide⟩ (by decide) ?_
    refine Z.bipush (n := 6) dX12_given_126 ⟨by decide, by decide⟩ (by decide) ?_
    refine Z.aload_n (k := 0) dX12_given_128 rfl ?_
    refine Y.getI 6 dX12_given_129 zl_X12_142 (rfl) (by decide) rfl (zM_1 hM).2.1 ?_
    obtain ⟨z_4, K⟩ := K
    refine Z.imul dX12_given_132 z_4 ?_
    refine Z.iload_n (k := 1) dX12_given_133 rfl ?_
    obtain ⟨z_5, K⟩ := K
    refine Z.iadd dX12_given_134 z_5 ?_
    obtain ⟨z_6, K⟩ := K
    refine Z.imul dX12_given_135 z_6 ?_
    refine Z.iload_n (k := 2) dX12_given_136 rfl ?_
    obtain ⟨z_7, K⟩ := K
    refine Z.iadd dX12_given_137 z_7 ?_
    refine Z.aload_n (k := 0) dX12_given_138 rfl ?_
    refine Y.getR (o := some 72) 21 dX12_given_139 zl_X12_69 (rfl) (by decide) rfl (zM_1 hM).2.1 (zM_21 hM).1 ?_
    refine Z.bipush (n := 30) dX12_given_142 ⟨by decide, by decide⟩ (by decide) ?_
    refine Z.iload_n (k := 1) dX12_given_144 rfl ?_
    obtain ⟨z_8, K⟩ := K
    refine Z.imul dX12_given_145 z_8 ?_
    refine Z.iload_n (k := 2) dX12_given_146 rfl ?_
    obtain ⟨z_9, K⟩ := K
    refine Z.iadd dX12_given_147 z_9 ?_
    obtain ⟨z_10, K⟩ := K
    refine Y.iald dX12_given_148 (rfl) ((zM_21 hM).2.2) z_10 ?_
    obtain ⟨z_11, K⟩ := K
    refine Y.iast dX12_given_149 (rfl) ((zM_14 hM).2.2) z_11 ?_
    generalize eE_12 : zuE E 65 (((30 * ((6 * (E 50 6)) + v2)) + v3)) ((E 72 ((30 * v2) + v3))) = E_12
    replace K := K E_12 eE_12.symm
    obtain ⟨z_13, K⟩ := K
    refine Z.iinc (k := 2) (ls' := [(3, zI ((v3 + 1))), (0, zR 50), (2, zI v2)]) dX12_given_150 rfl (by decide) z_13 rfl ?_
    refine Z.goto 110 dX12_given_153 rfl ?_
    refine Z.pick (ls' := [(0, zR 50), (2, zI v2), (3, zI ((v3 + 1)))]) [1, 2, 0] rfl ?_
    exact K
set_option maxRecDepth 20000 in
theorem X12_turns_0 {kz : Nat × Nat} {Q : Option zV → zH → Prop} {d : List Nat} {G : Nat → Int → Option Nat} {E : Nat → Int → Int} {v1 : Int} (hM : zK zMt d G) (K : ∃ x_1, zM zm_X12_in [zI v1, zI 0, zI 20] (d, G, E) (some (zI x_1)) (d, G, E) ∧ (x_1 ≠ 0 → ∀ E_5, E_5 = zuE E 50 57 v1 → Q (some (zI ((E 50 57)))) (d, G, E_5)) ∧ (¬ (x_1 ≠ 0) → Q (some (zI ((-2)))) (d, G, E))) : Z zm_X12_turns kz Q 0 [(0, zR 50), (1, zI v1)] [] (d, G, E) := by
  refine Z.iload_n (k := 1) dX12_turns_0 rfl ?_
  refine Z.iconst (n := 0) dX12_turns_1 ⟨by decide, by decide⟩ ?_
  refine Z.bipush (n := 20) dX12_turns_2 ⟨by decide, by decide⟩ (by decide) ?_
  obtain ⟨x_1, m_2, K⟩ := K
  refine Y.callS (g := zm_X12_in) (vs := [zI v1, zI 0, zI 20]) (st := []) dX12_turns_4 ⟨zg_X12_in.1, zg_X12_in.2.1, zg_X12_in.2.2, by decide⟩ ⟨Or.inl zk_X12_138, zs_X12_in⟩ rfl rfl (Nat.le_of_ble_eq_true rfl) m_2 (Or.inl rfl) ?_
  show Z zm_X12_turns kz Q 7 [(0, zR 50), (1, zI v1)] [zI x_1] (d, G, E)
  refine Z.if_ne 13 dX12_turns_7 rfl ⟨fun c_4 => ?_, fun c_4 => ?_⟩
  · replace K := K.1 c_4
    refine Z.aload_n (k := 0) dX12_turns_13 rfl ?_
    refine Y.getI 57 dX12_turns_14 zl_X12_129 (rfl) (by decide) rfl (zM_1 hM).2.1 ?_
    refine Z.istore_n (ls' := [(2, zI ((E 50 57))), (0, zR 50), (1, zI v1)]) dX12_turns_17 (by decide) rfl ?_
    refine Z.aload_n (k := 1) dX12_turns_18 rfl ?_
    refine Z.iload_n (k := 2) dX12_turns_19 rfl ?_
    refine Y.putI 57 dX12_turns_20 zw_X12_129 (fun q => by cases q) (rfl) rfl (zM_1 hM).2.1 (Or.inl rfl) ?_
    generalize eE_5 : zuE E 50 57 v1 = E_5
    replace K := K E_5 eE_5.symm
    refine Z.iload_n (k := 0) dX12_turns_23 rfl ?_
    exact Z.iret (ty := .int) dX12_turns_24 rfl rfl K
  · replace K := K.2 c_4
    refine Z.bipush (n := -2) dX12_turns_10 ⟨by decide, by decide⟩ (by decide) ?_
    exact Z.iret (ty := .int) dX12_turns_12 rfl rfl K
set_option maxRecDepth 20000 in
theorem X12_fuel_0 {kz : Nat × Nat} {Q : Option zV → zH → Prop} {d : List Nat} {G : Nat → Int → Option Nat} {E : Nat → Int → Int} {v1 : Int} (hM : zK zMt d G) (K : ∃ x_1, zM zm_X12_in [zI v1, zI 0, zI 4000] (d, G, E) (some (zI x_1)) (d, G, E) ∧ (x_1 ≠ 0 → ∀ E_5, E_5 = zuE E 50 58 v1 → Q (some (zI ((E 50 58)))) (d, G, E_5)) ∧ (¬ (x_1 ≠ 0) → Q (some (zI ((-2)))) (d, G, E))) : Z zm_X12_fuel kz Q 0 [(0, zR 50), (1, zI v1)] [] (d, G, E) := by
  refine Z.iload_n (k := 1) dX12_fuel_0 rfl ?_
  refine Z.iconst (n := 0) dX12_fuel_1 ⟨by decide, by decide⟩ ?_
  refine Z.sipush (n := 4000) dX12_fuel_2 ⟨by decide, by decide⟩ (by decide) ?_
  obtain ⟨x_1, m_2, K⟩ := K
  refine Y.callS (g := zm_X12_in) (vs := [zI v1, zI 0, zI 4000]) (st := []) dX12_fuel_5 ⟨zg_X12_in.1, zg_X12_in.2.1, zg_X12_in.2.2, by decide⟩ ⟨Or.inl zk_X12_138, zs_X12_in⟩ rfl rfl (Nat.le_of_ble_eq_true rfl) m_2 (Or.inl rfl) ?_
  show Z zm_X12_fuel kz Q 8 [(0, zR 50), (1, zI v1)] [zI x_1] (d, G, E)
  refine Z.if_ne 14 dX12_fuel_8 rfl ⟨fun c_4 => ?_, fun c_4 => ?_⟩
  · replace K := K.1 c_4
    refine Z.aload_n (k := 0) dX12_fuel_14 rfl ?_
    refine Y.getI 58 dX12_fuel_15 zl_X12_132 (rfl) (by decide) rfl (zM_1 hM).2.1 ?_
    refine Z.istore_n (ls' := [(2, zI ((E 50 58))), (0, zR 50), (1, zI v1)]) dX12_fuel_18 (by decide) rfl ?_
    refine Z.aload_n (k := 1) dX12_fuel_19 rfl ?_
    refine Z.iload_n (k := 2) dX12_fuel_20 rfl ?_
    refine Y.putI 58 dX12_fuel_21 zw_X12_132 (fun q => by cases q) (rfl) rfl (zM_1 hM).2.1 (Or.inl rfl) ?_
    generalize eE_5 : zuE E 50 58 v1 = E_5
    replace K := K E_5 eE_5.symm
    refine Z.iload_n (k := 0) dX12_fuel_24 rfl ?_
    exact Z.iret (ty := .int) dX12_fuel_25 rfl rfl K
  · replace K := K.2 c_4
    refine Z.bipush (n := -2) dX12_fuel_11 ⟨by decide, by decide⟩ (by decide) ?_
    exact Z.iret (ty := .int) dX12_fuel_13 rfl rfl K
set_option maxRecDepth 20000 in
theorem X12_tries_0 {kz : Nat × Nat} {Q : Option zV → zH → Prop} {d : List Nat} {G : Nat → Int → Option Nat} {E : Nat → Int → Int} {v1 : Int} {v2 : Int} {v3 : Int} {v4 : Int} {v5 : Int} {v6 : Int} {v7 : Int} (hM : zK zMt d G) (K : ∃ x_1 E_2, zM zm_X12_makes [zR 50, zI v1, zI v2, zI v3, zI v4, zI v5, zI v6, zI v7] (d, G, E) (some (zI x_1)) (d, G, E_2) ∧ (0 ≤ x_1 → zin ((E_2 50 45) + (E_2 50 42)) ∧ (((E_2 50 45) + (E_2 50 42)) < (E_2 50 58) → zin ((E_2 50 45) + 1) ∧ ∀ E_9, E_9 = zuE E_2 50 45 (((E_2 50 45) + 1)) → (x_1 ≠ 0 → ∃ x_11 E_12, zM zm_X12_ends [zR 50, zI v1, zI v2, zI v3, zI v4, zI v5, zI v6, zI v7] (d, G, E_9) (some (zI x_11)) (d, G, E_12) ∧ Q none (d, G, E_12)) ∧ (¬ (x_1 ≠ 0) → zin ((E_9 50 43) + 1) ∧ ∀ E_16, E_16 = zuE E_9 50 43 (((E_9 50 43) + 1)) → Q none (d, G, E_16))) ∧ (¬ (((E_2 50 45) + (E_2 50 42)) < (E_2 50 58)) → ∀ E_17, E_17 = zuE E_2 50 54 3 → Q none (d, G, E_17))) ∧ (¬ (0 ≤ x_1) → Q none (d, G, E_2))) : Z zm_X12_tries kz Q 0 [(0, zR 50), (1, zI v1), (2, zI v2), (3, zI v3), (4, zI v4), (5, zI v5), (6, zI v6), (7, zI v7)] [] (d, G, E) := by
  refine Z.aload_n (k := 0) dX12_tries_0 rfl ?_
  refine Z.iload_n (k := 1) dX12_tries_1 rfl ?_
  refine Z.iload_n (k := 2) dX12_tries_2 rfl ?_
  refine Z.iload_n (k := 3) dX12_tries_3 rfl ?_
  refine Z.iload (k := 4) dX12_tries_4 rfl ?_
  refine Z.iload (k := 5) dX12_tries_6 rfl ?_
  refine Z.iload (k := 6) dX12_tries_8 rfl ?_
  refine Z.iload (k := 7) dX12_tries_10 rfl ?_
  obtain ⟨x_1, E_2, m_3, K⟩ := K
  refine Y.callV (g := zm_X12_makes) (vs := [zI v1, zI v2, zI v3, zI v4, zI v5, zI v6, zI v7]) (st := []) dX12_tries_12 ⟨zg_X12_makes.1, zg_X12_makes.2.1, zg_X12_makes.2.2, by decide⟩ ⟨zk_X12_350, zv_X12_makes⟩ (ci := 12) (rfl) rfl ((zM_1 hM).2.1) rfl rfl (Nat.le_of_ble_eq_true rfl) m_3 (Or.inl rfl) ?_
  show Z zm_X12_tries kz Q 15 [(0, zR 50), (1, zI v1), (2, zI v2), (3, zI v3), (4, zI v4), (5, zI v5), (6, zI v6), (7, zI v7)] [zI x_1] (d, G, E_2)
  refine Z.istore (ls' := [(8, zI x_1), (0, zR 50), (1, zI v1), (2, zI v2), (3, zI v3), (4, zI v4), (5, zI v5), (6, zI v6), (7, zI v7)]) dX12_tries_15 (by decide) rfl ?_
  refine Z.iload (k := 0) dX12_tries_17 rfl ?_
  refine Z.if_ge 23 dX12_tries_19 rfl ⟨fun c_5 => ?_, fun c_5 => ?_⟩
  · replace K := K.1 c_5
    refine Z.aload_n (k := 1) dX12_tries_23 rfl ?_
    refine Y.getI 45 dX12_tries_24 zl_X12_353 (rfl) (by decide) rfl (zM_1 hM).2.1 ?_
    refine Z.aload_n (k := 1) dX12_tries_27 rfl ?_
    refine Y.getI 42 dX12_tries_28 zl_X12_246 (rfl) (by decide) rfl (zM_1 hM).2.1 ?_
    obtain ⟨z_6, K⟩ := K
    refine Z.iadd dX12_tries_31 z_6 ?_
    refine Z.aload_n (k := 1) dX12_tries_32 rfl ?_
    refine Y.getI 58 dX12_tries_33 zl_X12_132 (rfl) (by decide) rfl (zM_1 hM).2.1 ?_
    refine Z.icmp_lt 45 dX12_tries_36 rfl ⟨fun c_7 => ?_, fun c_7 => ?_⟩
    · replace K := K.1 c_7
      refine Z.aload_n (k := 1) dX12_tries_45 rfl ?_
      refine Z.dup_i dX12_tries_46 (fun _ => rfl) ?_
      refine Y.getI 45 dX12_tries_47 zl_X12_353 (rfl) (by decide) rfl (zM_1 hM).2.1 ?_
      refine Z.iconst (n := 1) dX12_tries_50 ⟨by decide, by decide⟩ ?_
      obtain ⟨z_8, K⟩ := K
      refine Z.iadd dX12_tries_51 z_8 ?_
      refine Y.putI 45 dX12_tries_52 zw_X12_353 (fun q => by cases q) (rfl) rfl (zM_1 hM).2.1 (Or.inl rfl) ?_
      generalize eE_9 : zuE E_2 50 45 (((E_2 50 45) + 1)) = E_9
      replace K := K E_9 eE_9.symm
      refine Z.iload (k := 0) dX12_tries_55 rfl ?_
      refine Z.if_ne 71 dX12_tries_57 rfl ⟨fun c_10 => ?_, fun c_10 => ?_⟩
      · replace K := K.1 c_10
        refine Z.aload_n (k := 1) dX12_tries_71 rfl ?_
        refine Z.iload_n (k := 2) dX12_tries_72 rfl ?_
        refine Z.iload_n (k := 3) dX12_tries_73 rfl ?_
        refine Z.iload_n (k := 4) dX12_tries_74 rfl ?_
        refine Z.iload (k := 5) dX12_tries_75 rfl ?_
        refine Z.iload (k := 6) dX12_tries_77 rfl ?_
        refine Z.iload (k := 7) dX12_tries_79 rfl ?_
        refine Z.iload (k := 8) dX12_tries_81 rfl ?_
        obtain ⟨x_11, E_12, m_13, K⟩ := K
        refine Y.callV (g := zm_X12_ends) (vs := [zI v1, zI v2, zI v3, zI v4, zI v5, zI v6, zI v7]) (st := []) dX12_tries_83 ⟨zg_X12_ends.1, zg_X12_ends.2.1, zg_X12_ends.2.2, by decide⟩ ⟨zk_X12_346, zv_X12_ends⟩ (ci := 12) (rfl) rfl ((zM_1 hM).2.1) rfl rfl (Nat.le_of_ble_eq_true rfl) m_13 (Or.inl rfl) ?_
        show Z zm_X12_tries kz Q 86 [(8, zI x_1), (0, zR 50), (1, zI v1), (2, zI v2), (3, zI v3), (4, zI v4), (5, zI v5), (6, zI v6), (7, zI v7)] [zI x_11] (d, G, E_12)
        refine Z.istore (ls' := [(9, zI x_11), (8, zI x_1), (0, zR 50), (1, zI v1), (2, zI v2), (3, zI v3), (4, zI v4), (5, zI v5), (6, zI v6), (7, zI v7)]) dX12_tries_86 (by decide) rfl ?_
        exact Z.vret dX12_tries_88 rfl K
      · replace K := K.2 c_10
        refine Z.aload_n (k := 1) dX12_tries_60 rfl ?_
        refine Z.dup_i dX12_tries_61 (fun _ => rfl) ?_
        refine Y.getI 43 dX12_tries_62 zl_X12_319 (rfl) (by decide) rfl (zM_1 hM).2.1 ?_
        refine Z.iconst (n := 1) dX12_tries_65 ⟨by decide, by decide⟩ ?_
        obtain ⟨z_15, K⟩ := K
        refine Z.iadd dX12_tries_66 z_15 ?_
        refine Y.putI 43 dX12_tries_67 zw_X12_319 (fun q => by cases q) (rfl) rfl (zM_1 hM).2.1 (Or.inl rfl) ?_
        generalize eE_16 : zuE E_9 50 43 (((E_9 50 43) + 1)) = E_16
        replace K := K E_16 eE_16.symm
        exact Z.vret dX12_tries_70 rfl K
    · replace K := K.2 c_7
      refine Z.aload_n (k := 1) dX12_tries_39 rfl ?_
      refine Z.iconst (n := 3) dX12_tries_40 ⟨by decide, by decide⟩ ?_
      refine Y.putI 54 dX12_tries_41 zw_X12_337 (fun q => by cases q) (rfl) rfl (zM_1 hM).2.1 (Or.inl rfl) ?_
      generalize eE_17 : zuE E_2 50 54 3 = E_17
      replace K := K E_17 eE_17.symm
      exact Z.vret dX12_tries_44 rfl K
  · replace K := K.2 c_5
    exact Z.vret dX12_tries_22 rfl K
set_option maxRecDepth 20000 in
theorem X12_goesOn_0 {kz : Nat × Nat} {Q : Option zV → zH → Prop} {d : List Nat} {G : Nat → Int → Option Nat} {E : Nat → Int → Int} {v1 : Int} {v2 : Int} (hM : zK zMt d G) (K : ((E 50 54) ≠ 0 → Q (some (zI 0)) (d, G, E)) ∧ (¬ ((E 50 54) ≠ 0) → ((0 : Int) ≤ v1 ∧ v1 < (150 : Int)) ∧ ((E 62 v1) = 2 → Q (some (zI 0)) (d, G, E)) ∧ (¬ ((E 62 v1) = 2) → ((0 : Int) ≤ v2 ∧ v2 < (150 : Int)) ∧ ((E 62 v2) = 2 → Q (some (zI 0)) (d, G, E)) ∧ (¬ ((E 62 v2) = 2) → Q (some (zI 1)) (d, G, E))))) : Z zm_X12_goesOn kz Q 0 [(0, zR 50), (1, zI v1), (2, zI v2)] [] (d, G, E) := by
  refine Z.aload_n (k := 0) dX12_goesOn_0 rfl ?_
  refine Y.getI 54 dX12_goesOn_1 zl_X12_337 (rfl) (by decide) rfl (zM_1 hM).2.1 ?_
  refine Z.if_ne 31 dX12_goesOn_4 rfl ⟨fun c_1 => ?_, fun c_1 => ?_⟩
  · replace K := K.1 c_1
    refine Z.iconst (n := 0) dX12_goesOn_31 ⟨by decide, by decide⟩ ?_
    exact Z.iret (ty := .boolean) dX12_goesOn_32 rfl rfl K
  · replace K := K.2 c_1
    refine Z.aload_n (k := 0) dX12_goesOn_7 rfl ?_
    refine Y.getR (o := some 62) 11 dX12_goesOn_8 zl_X12_39 (rfl) (by decide) rfl (zM_1 hM).2.1 (zM_11 hM).1 ?_
    refine Z.iload_n (k := 1) dX12_goesOn_11 rfl ?_
    obtain ⟨z_2, K⟩ := K
    refine Y.iald dX12_goesOn_12 (rfl) ((zM_11 hM).2.2) z_2 ?_
    refine Z.iconst (n := 2) dX12_goesOn_13 ⟨by decide, by decide⟩ ?_
    refine Z.icmp_eq 31 dX12_goesOn_14 rfl ⟨fun c_3 => ?_, fun c_3 => ?_⟩
    · replace K := K.1 c_3
      refine Z.iconst (n := 0) dX12_goesOn_31 ⟨by decide, by decide⟩ ?_
      exact Z.iret (ty := .boolean) dX12_goesOn_32 rfl rfl K
    · replace K := K.2 c_3
      refine Z.aload_n (k := 0) dX12_goesOn_17 rfl ?_
      refine Y.getR (o := some 62) 11 dX12_goesOn_18 zl_X12_39 (rfl) (by decide) rfl (zM_1 hM).2.1 (zM_11 hM).1 ?_
      refine Z.iload_n (k := 2) dX12_goesOn_21 rfl ?_
      obtain ⟨z_4, K⟩ := K
      refine Y.iald dX12_goesOn_22 (rfl) ((zM_11 hM).2.2) z_4 ?_
      refine Z.iconst (n := 2) dX12_goesOn_23 ⟨by decide, by decide⟩ ?_
      refine Z.icmp_eq 31 dX12_goesOn_24 rfl ⟨fun c_5 => ?_, fun c_5 => ?_⟩
      · replace K := K.1 c_5
        refine Z.iconst (n := 0) dX12_goesOn_31 ⟨by decide, by decide⟩ ?_
        exact Z.iret (ty := .boolean) dX12_goesOn_32 rfl rfl K
      · replace K := K.2 c_5
        refine Z.iconst (n := 1) dX12_goesOn_27 ⟨by decide, by decide⟩ ?_
        refine Z.goto 32 dX12_goesOn_28 rfl ?_
        exact Z.iret (ty := .boolean) dX12_goesOn_32 rfl rfl K
set_option maxRecDepth 20000 in
theorem X12_clashes_0 {kz : Nat × Nat} {Q : Option zV → zH → Prop} {d : List Nat} {G : Nat → Int → Option Nat} {E : Nat → Int → Int} {v1 : Int} {v2 : Int} {v3 : Int} {v4 : Int} (hM : zK zMt d G) (K : Z zm_X12_clashes kz Q 3 [(0, zR 50), (1, zI v1), (2, zI v2), (3, zI v3), (4, zI v4), (5, zI 0)] [] (d, G, E)) : Z zm_X12_clashes kz Q 0 [(0, zR 50), (1, zI v1), (2, zI v2), (3, zI v3), (4, zI v4)] [] (d, G, E) := by
  refine Z.iconst (n := 0) dX12_clashes_0 ⟨by decide, by decide⟩ ?_
  refine Z.istore (ls' := [(5, zI 0), (0, zR 50), (1, zI v1), (2, zI v2), (3, zI v3), (4, zI v4)]) dX12_clashes_1 (by decide) rfl ?_
  refine Z.pick (ls' := [(0, zR 50), (1, zI v1), (2, zI v2), (3, zI v3), (4, zI v4), (5, zI 0)]) [1, 2, 3, 4, 5, 0] rfl ?_
  exact K
set_option maxRecDepth 20000 in
theorem X12_clashes_3 {kz : Nat × Nat} {Q : Option zV → zH → Prop} {d : List Nat} {G : Nat → Int → Option Nat} {E : Nat → Int → Int} {v1 : Int} {v2 : Int} {v3 : Int} {v4 : Int} {v5 : Int} (hM : zK zMt d G) (K : ((0 : Int) ≤ v1 ∧ v1 < (150 : Int)) ∧ ((E 61 v1) ≤ v5 → Q none (d, G, E)) ∧ (¬ ((E 61 v1) ≤ v5) → ∃ x_3, zM zm_X12_goesOn [zR 50, zI v3, zI v4] (d, G, E) (some (zI x_3)) (d, G, E) ∧ (x_3 = 0 → Q none (d, G, E)) ∧ (¬ (x_3 = 0) → ∃ E_7, zM zm_X12_tries [zR 50, zI 1, zI v1, zI v5, zI v2, zI 0, zI 0, zI 0] (d, G, E) none (d, G, E_7) ∧ zin (v5 + 1) ∧ Z zm_X12_clashes kz Q 3 [(0, zR 50), (1, zI v1), (2, zI v2), (3, zI v3), (4, zI v4), (5, zI ((v5 + 1)))] [] (d, G, E_7)))) : Z zm_X12_clashes kz Q 3 [(0, zR 50), (1, zI v1), (2, zI v2), (3, zI v3), (4, zI v4), (5, zI v5)] [] (d, G, E) := by
  refine Z.iload (k := 5) dX12_clashes_3 rfl ?_
  refine Z.aload_n (k := 0) dX12_clashes_5 rfl ?_
  refine Y.getR (o := some 61) 10 dX12_clashes_6 zl_X12_36 (rfl) (by decide) rfl (zM_1 hM).2.1 (zM_10 hM).1 ?_
  refine Z.iload_n (k := 1) dX12_clashes_9 rfl ?_
  obtain ⟨z_1, K⟩ := K
  refine Y.iald dX12_clashes_10 (rfl) ((zM_10 hM).2.2) z_1 ?_
  refine Z.icmp_ge 42 dX12_clashes_11 rfl ⟨fun c_2 => ?_, fun c_2 => ?_⟩
  · replace K := K.1 c_2
    exact Z.vret dX12_clashes_42 rfl K
  · replace K := K.2 c_2
    refine Z.aload_n (k := 0) dX12_clashes_14 rfl ?_
    refine Z.iload_n (k := 3) dX12_clashes_15 rfl ?_
    refine Z.iload (k := 4) dX12_clashes_16 rfl ?_
    obtain ⟨x_3, m_4, K⟩ := K
    refine Y.callV (g := zm_X12_goesOn) (vs := [zI v3, zI v4]) (st := []) dX12_clashes_18 ⟨zg_X12_goesOn.1, zg_X12_goesOn.2.1, zg_X12_goesOn.2.2, by decide⟩ ⟨zk_X12_356, zv_X12_goesOn⟩ (ci := 12) (rfl) rfl ((zM_1 hM).2.1) rfl rfl (Nat.le_of_ble_eq_true rfl) m_4 (Or.inl rfl) ?_
    show Z zm_X12_clashes kz Q 21 [(0, zR 50), (1, zI v1), (2, zI v2), (3, zI v3), (4, zI v4), (5, zI v5)] [zI x_3] (d, G, E)
    refine Z.if_eq 42 dX12_clashes_21 rfl ⟨fun c_6 => ?_, fun c_6 => ?_⟩
    · replace K := K.1 c_6
      exact Z.vret dX12_clashes_42 rfl K
    · replace K := K.2 c_6
      refine Z.aload_n (k := 0) dX12_clashes_24 rfl ?_
      refine Z.iconst (n := 1) dX12_clashes_25 ⟨by decide, by decide⟩ ?_
      refine Z.iload_n (k := 1) dX12_clashes_26 rfl ?_
      refine Z.iload (k := 5) dX12_clashes_27 rfl ?_
      refine Z.iload_n (k := 2) dX12_clashes_29 rfl ?_
      refine Z.iconst (n := 0) dX12_clashes_30 ⟨by decide, by decide⟩ ?_
      refine Z.iconst (n := 0) dX12_clashes_31 ⟨by decide, by decide⟩ ?_
      refine Z.iconst (n := 0) dX12_clashes_32 ⟨by decide, by decide⟩ ?_
      obtain ⟨E_7, m_8, K⟩ := K
      refine Y.callV (g := zm_X12_tries) (vs := [zI 1, zI v1, zI v5, zI v2, zI 0, zI 0, zI 0]) (st := []) dX12_clashes_33 ⟨zg_X12_tries.1, zg_X12_tries.2.1, zg_X12_tries.2.2, by decide⟩ ⟨zk_X12_359, zv_X12_tries⟩ (ci := 12) (rfl) rfl ((zM_1 hM).2.1) rfl rfl (Nat.le_of_ble_eq_true rfl) m_8 (Or.inl rfl) ?_
      show Z zm_X12_clashes kz Q 36 [(0, zR 50), (1, zI v1), (2, zI v2), (3, zI v3), (4, zI v4), (5, zI v5)] [] (d, G, E_7)
      obtain ⟨z_10, K⟩ := K
      refine Z.iinc (k := 5) (ls' := [(5, zI ((v5 + 1))), (0, zR 50), (1, zI v1), (2, zI v2), (3, zI v3), (4, zI v4)]) dX12_clashes_36 rfl (by decide) z_10 rfl ?_
      refine Z.goto 3 dX12_clashes_39 rfl ?_
      refine Z.pick (ls' := [(0, zR 50), (1, zI v1), (2, zI v2), (3, zI v3), (4, zI v4), (5, zI ((v5 + 1)))]) [1, 2, 3, 4, 5, 0] rfl ?_
      exact K
set_option maxRecDepth 20000 in
theorem X12_allTurns_0 {kz : Nat × Nat} {Q : Option zV → zH → Prop} {d : List Nat} {G : Nat → Int → Option Nat} {E : Nat → Int → Int} {v1 : Int} {v2 : Int} {v3 : Int} {v4 : Int} (hM : zK zMt d G) (K : Z zm_X12_allTurns kz Q 3 [(0, zR 50), (1, zI v1), (2, zI v2), (3, zI v3), (4, zI v4), (5, zI 0)] [] (d, G, E)) : Z zm_X12_allTurns kz Q 0 [(0, zR 50), (1, zI v1), (2, zI v2), (3, zI v3), (4, zI v4)] [] (d, G, E) := by
  refine Z.iconst (n := 0) dX12_allTurns_0 ⟨by decide, by decide⟩ ?_
  refine Z.istore (ls' := [(5, zI 0), (0, zR 50), (1, zI v1), (2, zI v2), (3, zI v3), (4, zI v4)]) dX12_allTurns_1 (by decide) rfl ?_
  refine Z.pick (ls' := [(0, zR 50), (1, zI v1), (2, zI v2), (3, zI v3), (4, zI v4), (5, zI 0)]) [1, 2, 3, 4, 5, 0] rfl ?_
  exact K
set_option maxRecDepth 20000 in
theorem X12_allTurns_3 {kz : Nat × Nat} {Q : Option zV → zH → Prop} {d : List Nat} {G : Nat → Int → Option Nat} {E : Nat → Int → Int} {v1 : Int} {v2 : Int} {v3 : Int} {v4 : Int} {v5 : Int} (hM : zK zMt d G) (K : ((0 : Int) ≤ v1 ∧ v1 < (150 : Int)) ∧ ((E 61 v1) ≤ v5 → Q none (d, G, E)) ∧ (¬ ((E 61 v1) ≤ v5) → ∃ x_3, zM zm_X12_goesOn [zR 50, zI v3, zI v4] (d, G, E) (some (zI x_3)) (d, G, E) ∧ (x_3 = 0 → Q none (d, G, E)) ∧ (¬ (x_3 = 0) → Z zm_X12_allTurns kz Q 27 [(0, zR 50), (1, zI v1), (2, zI v2), (3, zI v3), (4, zI v4), (5, zI v5), (6, zI 0)] [] (d, G, E)))) : Z zm_X12_allTurns kz Q 3 [(0, zR 50), (1, zI v1), (2, zI v2), (3, zI v3), (4, zI v4), (5, zI v5)] [] (d, G, E) := by
  refine Z.iload (k := 5) dX12_allTurns_3 rfl ?_
  refine Z.aload_n (k := 0) dX12_allTurns_5 rfl ?_
  refine Y.getR (o := some 61) 10 dX12_allTurns_6 zl_X12_36 (rfl) (by decide) rfl (zM_1 hM).2.1 (zM_10 hM).1 ?_
  refine Z.iload_n (k := 1) dX12_allTurns_9 rfl ?_
  obtain ⟨z_1, K⟩ := K
  refine Y.iald dX12_allTurns_10 (rfl) ((zM_10 hM).2.2) z_1 ?_
  refine Z.icmp_ge 136 dX12_allTurns_11 rfl ⟨fun c_2 => ?_, fun c_2 => ?_⟩
  · replace K := K.1 c_2
    exact Z.vret dX12_allTurns_136 rfl K
  · replace K := K.2 c_2
    refine Z.aload_n (k := 0) dX12_allTurns_14 rfl ?_
    refine Z.iload_n (k := 3) dX12_allTurns_15 rfl ?_
    refine Z.iload (k := 4) dX12_allTurns_16 rfl ?_
    obtain ⟨x_3, m_4, K⟩ := K
    refine Y.callV (g := zm_X12_goesOn) (vs := [zI v3, zI v4]) (st := []) dX12_allTurns_18 ⟨zg_X12_goesOn.1, zg_X12_goesOn.2.1, zg_X12_goesOn.2.2, by decide⟩ ⟨zk_X12_356, zv_X12_goesOn⟩ (ci := 12) (rfl) rfl ((zM_1 hM).2.1) rfl rfl (Nat.le_of_ble_eq_true rfl) m_4 (Or.inl rfl) ?_
    show Z zm_X12_allTurns kz Q 21 [(0, zR 50), (1, zI v1), (2, zI v2), (3, zI v3), (4, zI v4), (5, zI v5)] [zI x_3] (d, G, E)
    refine Z.if_eq 136 dX12_allTurns_21 rfl ⟨fun c_6 => ?_, fun c_6 => ?_⟩
    · replace K := K.1 c_6
      exact Z.vret dX12_allTurns_136 rfl K
    · replace K := K.2 c_6
      refine Z.iconst (n := 0) dX12_allTurns_24 ⟨by decide, by decide⟩ ?_
      refine Z.istore (ls' := [(6, zI 0), (0, zR 50), (1, zI v1), (2, zI v2), (3, zI v3), (4, zI v4), (5, zI v5)]) dX12_allTurns_25 (by decide) rfl ?_
      refine Z.pick (ls' := [(0, zR 50), (1, zI v1), (2, zI v2), (3, zI v3), (4, zI v4), (5, zI v5), (6, zI 0)]) [1, 2, 3, 4, 5, 6, 0] rfl ?_
      exact K
set_option maxRecDepth 20000 in
theorem X12_allTurns_27 {kz : Nat × Nat} {Q : Option zV → zH → Prop} {d : List Nat} {G : Nat → Int → Option Nat} {E : Nat → Int → Int} {v1 : Int} {v2 : Int} {v3 : Int} {v4 : Int} {v5 : Int} {v6 : Int} (hM : zK zMt d G) (K : (2 ≤ v6 → zin (v5 + 1) ∧ Z zm_X12_allTurns kz Q 3 [(0, zR 50), (1, zI v1), (2, zI v2), (3, zI v3), (4, zI v4), (5, zI ((v5 + 1)))] [] (d, G, E)) ∧ (¬ (2 ≤ v6) → ∃ x_3, zM zm_X12_goesOn [zR 50, zI v3, zI v4] (d, G, E) (some (zI x_3)) (d, G, E) ∧ (x_3 = 0 → zin (v5 + 1) ∧ Z zm_X12_allTurns kz Q 3 [(0, zR 50), (1, zI v1), (2, zI v2), (3, zI v3), (4, zI v4), (5, zI ((v5 + 1)))] [] (d, G, E)) ∧ (¬ (x_3 = 0) → Z zm_X12_allTurns kz Q 46 [(0, zR 50), (1, zI v1), (2, zI v2), (3, zI v3), (4, zI v4), (5, zI v5), (6, zI v6), (7, zI 0)] [] (d, G, E)))) : Z zm_X12_allTurns kz Q 27 [(0, zR 50), (1, zI v1), (2, zI v2), (3, zI v3), (4, zI v4), (5, zI v5), (6, zI v6)] [] (d, G, E) := by
  refine Z.iload (k := 6) dX12_allTurns_27 rfl ?_
  refine Z.iconst (n := 2) dX12_allTurns_29 ⟨by decide, by decide⟩ ?_
  refine Z.icmp_ge 130 dX12_allTurns_30 rfl ⟨fun c_1 => ?_, fun c_1 => ?_⟩
  · replace K := K.1 c_1
    obtain ⟨z_2, K⟩ := K
    refine Z.iinc (k := 5) (ls' := [(5, zI ((v5 + 1))), (0, zR 50), (1, zI v1), (2, zI v2), (3, zI v3), (4, zI v4), (6, zI v6)]) dX12_allTurns_130 rfl (by decide) z_2 rfl ?_
    refine Z.goto 3 dX12_allTurns_133 rfl ?_
    refine Z.pick (ls' := [(0, zR 50), (1, zI v1), (2, zI v2), (3, zI v3), (4, zI v4), (5, zI ((v5 + 1)))]) [1, 2, 3, 4, 5, 0] rfl ?_
    exact K
  · replace K := K.2 c_1
    refine Z.aload_n (k := 0) dX12_allTurns_33 rfl ?_
    refine Z.iload_n (k := 3) dX12_allTurns_34 rfl ?_
    refine Z.iload (k := 4) dX12_allTurns_35 rfl ?_
    obtain ⟨x_3, m_4, K⟩ := K
    refine Y.callV (g := zm_X12_goesOn) (vs := [zI v3, zI v4]) (st := []) dX12_allTurns_37 ⟨zg_X12_goesOn.1, zg_X12_goesOn.2.1, zg_X12_goesOn.2.2, by decide⟩ ⟨zk_X12_356, zv_X12_goesOn⟩ (ci := 12) (rfl) rfl ((zM_1 hM).2.1) rfl rfl (Nat.le_of_ble_eq_true rfl) m_4 (Or.inl rfl) ?_
    show Z zm_X12_allTurns kz Q 40 [(0, zR 50), (1, zI v1), (2, zI v2), (3, zI v3), (4, zI v4), (5, zI v5), (6, zI v6)] [zI x_3] (d, G, E)
    refine Z.if_eq 130 dX12_allTurns_40 rfl ⟨fun c_6 => ?_, fun c_6 => ?_⟩
    · replace K := K.1 c_6
      obtain ⟨z_7, K⟩ := K
      refine Z.iinc (k := 5) (ls' := [(5, zI ((v5 + 1))), (0, zR 50), (1, zI v1), (2, zI v2), (3, zI v3), (4, zI v4), (6, zI v6)]) dX12_allTurns_130 rfl (by decide) z_7 rfl ?_
      refine Z.goto 3 dX12_allTurns_133 rfl ?_
      refine Z.pick (ls' := [(0, zR 50), (1, zI v1), (2, zI v2), (3, zI v3), (4, zI v4), (5, zI ((v5 + 1)))]) [1, 2, 3, 4, 5, 0] rfl ?_
      exact K
    · replace K := K.2 c_6
      refine Z.iconst (n := 0) dX12_allTurns_43 ⟨by decide, by decide⟩ ?_
      refine Z.istore (ls' := [(7, zI 0), (0, zR 50), (1, zI v1), (2, zI v2), (3, zI v3), (4, zI v4), (5, zI v5), (6, zI v6)]) dX12_allTurns_44 (by decide) rfl ?_
      refine Z.pick (ls' := [(0, zR 50), (1, zI v1), (2, zI v2), (3, zI v3), (4, zI v4), (5, zI v5), (6, zI v6), (7, zI 0)]) [1, 2, 3, 4, 5, 6, 7, 0] rfl ?_
      exact K
set_option maxRecDepth 20000 in
theorem X12_allTurns_46 {kz : Nat × Nat} {Q : Option zV → zH → Prop} {d : List Nat} {G : Nat → Int → Option Nat} {E : Nat → Int → Int} {v1 : Int} {v2 : Int} {v3 : Int} {v4 : Int} {v5 : Int} {v6 : Int} {v7 : Int} (hM : zK zMt d G) (K : ((0 : Int) ≤ v2 ∧ v2 < (150 : Int)) ∧ ((E 61 v2) ≤ v7 → zin (v6 + 1) ∧ Z zm_X12_allTurns kz Q 27 [(0, zR 50), (1, zI v1), (2, zI v2), (3, zI v3), (4, zI v4), (5, zI v5), (6, zI ((v6 + 1)))] [] (d, G, E)) ∧ (¬ ((E 61 v2) ≤ v7) → ∃ x_4, zM zm_X12_goesOn [zR 50, zI v3, zI v4] (d, G, E) (some (zI x_4)) (d, G, E) ∧ (x_4 = 0 → zin (v6 + 1) ∧ Z zm_X12_allTurns kz Q 27 [(0, zR 50), (1, zI v1), (2, zI v2), (3, zI v3), (4, zI v4), (5, zI v5), (6, zI ((v6 + 1)))] [] (d, G, E)) ∧ (¬ (x_4 = 0) → Z zm_X12_allTurns kz Q 70 [(0, zR 50), (1, zI v1), (2, zI v2), (3, zI v3), (4, zI v4), (5, zI v5), (6, zI v6), (7, zI v7), (8, zI 1)] [] (d, G, E)))) : Z zm_X12_allTurns kz Q 46 [(0, zR 50), (1, zI v1), (2, zI v2), (3, zI v3), (4, zI v4), (5, zI v5), (6, zI v6), (7, zI v7)] [] (d, G, E) := by
  refine Z.iload (k := 7) dX12_allTurns_46 rfl ?_
  refine Z.aload_n (k := 0) dX12_allTurns_48 rfl ?_
  refine Y.getR (o := some 61) 10 dX12_allTurns_49 zl_X12_36 (rfl) (by decide) rfl (zM_1 hM).2.1 (zM_10 hM).1 ?_
  refine Z.iload_n (k := 2) dX12_allTurns_52 rfl ?_
  obtain ⟨z_1, K⟩ := K
  refine Y.iald dX12_allTurns_53 (rfl) ((zM_10 hM).2.2) z_1 ?_
  refine Z.icmp_ge 124 dX12_allTurns_54 rfl ⟨fun c_2 => ?_, fun c_2 => ?_⟩
  · replace K := K.1 c_2
    obtain ⟨z_3, K⟩ := K
    refine Z.iinc (k := 6) (ls' := [(6, zI ((v6 + 1))), (0, zR 50), (1, zI v1), (2, zI v2), (3, zI v3), (4, zI v4), (5, zI v5), (7, zI v7)]) dX12_allTurns_124 rfl (by decide) z_3 rfl ?_
    refine Z.goto 27 dX12_allTurns_127 rfl ?_
    refine Z.pick (ls' := [(0, zR 50), (1, zI v1), (2, zI v2), (3, zI v3), (4, zI v4), (5, zI v5), (6, zI ((v6 + 1)))]) [1, 2, 3, 4, 5, 6, 0] rfl ?_
    exact K
  · replace K := K.2 c_2
    refine Z.aload_n (k := 0) dX12_allTurns_57 rfl ?_
    refine Z.iload_n (k := 3) dX12_allTurns_58 rfl ?_
    refine Z.iload (k := 4) dX12_allTurns_59 rfl ?_
    obtain ⟨x_4, m_5, K⟩ := K
    refine Y.callV (g := zm_X12_goesOn) (vs := [zI v3, zI v4]) (st := []) dX12_allTurns_61 ⟨zg_X12_goesOn.1, zg_X12_goesOn.2.1, zg_X12_goesOn.2.2, by decide⟩ ⟨zk_X12_356, zv_X12_goesOn⟩ (ci := 12) (rfl) rfl ((zM_1 hM).2.1) rfl rfl (Nat.le_of_ble_eq_true rfl) m_5 (Or.inl rfl) ?_
    show Z zm_X12_allTurns kz Q 64 [(0, zR 50), (1, zI v1), (2, zI v2), (3, zI v3), (4, zI v4), (5, zI v5), (6, zI v6), (7, zI v7)] [zI x_4] (d, G, E)
    refine Z.if_eq 124 dX12_allTurns_64 rfl ⟨fun c_7 => ?_, fun c_7 => ?_⟩
    · replace K := K.1 c_7
      obtain ⟨z_8, K⟩ := K
      refine Z.iinc (k := 6) (ls' := [(6, zI ((v6 + 1))), (0, zR 50), (1, zI v1), (2, zI v2), (3, zI v3), (4, zI v4), (5, zI v5), (7, zI v7)]) dX12_allTurns_124 rfl (by decide) z_8 rfl ?_
      refine Z.goto 27 dX12_allTurns_127 rfl ?_
      refine Z.pick (ls' := [(0, zR 50), (1, zI v1), (2, zI v2), (3, zI v3), (4, zI v4), (5, zI v5), (6, zI ((v6 + 1)))]) [1, 2, 3, 4, 5, 6, 0] rfl ?_
      exact K
    · replace K := K.2 c_7
      refine Z.iconst (n := 1) dX12_allTurns_67 ⟨by decide, by decide⟩ ?_
      refine Z.istore (ls' := [(8, zI 1), (0, zR 50), (1, zI v1), (2, zI v2), (3, zI v3), (4, zI v4), (5, zI v5), (6, zI v6), (7, zI v7)]) dX12_allTurns_68 (by decide) rfl ?_
      refine Z.pick (ls' := [(0, zR 50), (1, zI v1), (2, zI v2), (3, zI v3), (4, zI v4), (5, zI v5), (6, zI v6), (7, zI v7), (8, zI 1)]) [1, 2, 3, 4, 5, 6, 7, 8, 0] rfl ?_
      exact K
set_option maxRecDepth 20000 in
theorem X12_allTurns_70 {kz : Nat × Nat} {Q : Option zV → zH → Prop} {d : List Nat} {G : Nat → Int → Option Nat} {E : Nat → Int → Int} {v1 : Int} {v2 : Int} {v3 : Int} {v4 : Int} {v5 : Int} {v6 : Int} {v7 : Int} {v8 : Int} (hM : zK zMt d G) (K : zin (6 * v2) ∧ zin ((6 * v2) + v7) ∧ ((0 : Int) ≤ ((6 * v2) + v7) ∧ ((6 * v2) + v7) < (900 : Int)) ∧ ((E 59 ((6 * v2) + v7)) ≤ v8 → zin (v7 + 1) ∧ Z zm_X12_allTurns kz Q 46 [(0, zR 50), (1, zI v1), (2, zI v2), (3, zI v3), (4, zI v4), (5, zI v5), (6, zI v6), (7, zI ((v7 + 1)))] [] (d, G, E)) ∧ (¬ ((E 59 ((6 * v2) + v7)) ≤ v8) → ∃ x_6, zM zm_X12_goesOn [zR 50, zI v3, zI v4] (d, G, E) (some (zI x_6)) (d, G, E) ∧ (x_6 = 0 → zin (v7 + 1) ∧ Z zm_X12_allTurns kz Q 46 [(0, zR 50), (1, zI v1), (2, zI v2), (3, zI v3), (4, zI v4), (5, zI v5), (6, zI v6), (7, zI ((v7 + 1)))] [] (d, G, E)) ∧ (¬ (x_6 = 0) → ∃ E_11, zM zm_X12_tries [zR 50, zI 4, zI v1, zI v5, zI v6, zI v2, zI v7, zI v8] (d, G, E) none (d, G, E_11) ∧ zin (v8 + 1) ∧ Z zm_X12_allTurns kz Q 70 [(0, zR 50), (1, zI v1), (2, zI v2), (3, zI v3), (4, zI v4), (5, zI v5), (6, zI v6), (7, zI v7), (8, zI ((v8 + 1)))] [] (d, G, E_11)))) : Z zm_X12_allTurns kz Q 70 [(0, zR 50), (1, zI v1), (2, zI v2), (3, zI v3), (4, zI v4), (5, zI v5), (6, zI v6), (7, zI v7), (8, zI v8)] [] (d, G, E) := by
  refine Z.iload (k := 8) dX12_allTurns_70 rfl ?_
  refine Z.aload_n (k := 0) dX12_allTurns_72 rfl ?_
  refine Y.getR (o := some 59) 8 dX12_allTurns_73 zl_X12_30 (rfl) (by decide) rfl (zM_1 hM).2.1 (zM_8 hM).1 ?_
  refine Z.bipush (n := 6) dX12_allTurns_76 ⟨by decide, by decide⟩ (by decide) ?_
  refine Z.iload_n (k := 2) dX12_allTurns_78 rfl ?_
  obtain ⟨z_1, K⟩ := K
  refine Z.imul dX12_allTurns_79 z_1 ?_
  refine Z.iload (k := 7) dX12_allTurns_80 rfl ?_
  obtain ⟨z_2, K⟩ := K
  refine Z.iadd dX12_allTurns_82 z_2 ?_
  obtain ⟨z_3, K⟩ := K
  refine Y.iald dX12_allTurns_83 (rfl) ((zM_8 hM).2.2) z_3 ?_
  refine Z.icmp_ge 118 dX12_allTurns_84 rfl ⟨fun c_4 => ?_, fun c_4 => ?_⟩
  · replace K := K.1 c_4
    obtain ⟨z_5, K⟩ := K
    refine Z.iinc (k := 7) (ls' := [(7, zI ((v7 + 1))), (0, zR 50), (1, zI v1), (2, zI v2), (3, zI v3), (4, zI v4), (5, zI v5), (6, zI v6), (8, zI v8)]) dX12_allTurns_118 rfl (by decide) z_5 rfl ?_
    refine Z.goto 46 dX12_allTurns_121 rfl ?_
    refine Z.pick (ls' := [(0, zR 50), (1, zI v1), (2, zI v2), (3, zI v3), (4, zI v4), (5, zI v5), (6, zI v6), (7, zI ((v7 + 1)))]) [1, 2, 3, 4, 5, 6, 7, 0] rfl ?_
    exact K
  · replace K := K.2 c_4
    refine Z.aload_n (k := 0) dX12_allTurns_87 rfl ?_
    refine Z.iload_n (k := 3) dX12_allTurns_88 rfl ?_
    refine Z.iload (k := 4) dX12_allTurns_89 rfl ?_
    obtain ⟨x_6, m_7, K⟩ := K
    refine Y.callV (g := zm_X12_goesOn) (vs := [zI v3, zI v4]) (st := []) dX12_allTurns_91 ⟨zg_X12_goesOn.1, zg_X12_goesOn.2.1, zg_X12_goesOn.2.2, by decide⟩ ⟨zk_X12_356, zv_X12_goesOn⟩ (ci := 12) (rfl) rfl ((zM_1 hM).2.1) rfl rfl (Nat.le_of_ble_eq_true rfl) m_7 (Or.inl rfl) ?_
    show Z zm_X12_allTurns kz Q 94 [(0, zR 50), (1, zI v1), (2, zI v2), (3, zI v3), (4, zI v4), (5, zI v5), (6, zI v6), (7, zI v7), (8, zI v8)] [zI x_6] (d, G, E)
    refine Z.if_eq 118 dX12_allTurns_94 rfl ⟨fun c_9 => ?_, fun c_9 => ?_⟩
    · replace K := K.1 c_9
      obtain ⟨z_10, K⟩ := K
      refine Z.iinc (k := 7) (ls' := [(7, zI ((v7 + 1))), (0, zR 50), (1, zI v1), (2, zI v2), (3, zI v3), (4, zI v4), (5, zI v5), (6, zI v6), (8, zI v8)]) dX12_allTurns_118 rfl (by decide) z_10 rfl ?_
      refine Z.goto 46 dX12_allTurns_121 rfl ?_
      refine Z.pick (ls' := [(0, zR 50), (1, zI v1), (2, zI v2), (3, zI v3), (4, zI v4), (5, zI v5), (6, zI v6), (7, zI ((v7 + 1)))]) [1, 2, 3, 4, 5, 6, 7, 0] rfl ?_
      exact K
    · replace K := K.2 c_9
      refine Z.aload_n (k := 0) dX12_allTurns_97 rfl ?_
      refine Z.iconst (n := 4) dX12_allTurns_98 ⟨by decide, by decide⟩ ?_
      refine Z.iload_n (k := 1) dX12_allTurns_99 rfl ?_
      refine Z.iload (k := 5) dX12_allTurns_100 rfl ?_
      refine Z.iload (k := 6) dX12_allTurns_102 rfl ?_
      refine Z.iload_n (k := 2) dX12_allTurns_104 rfl ?_
      refine Z.iload (k := 7) dX12_allTurns_105 rfl ?_
      refine Z.iload (k := 8) dX12_allTurns_107 rfl ?_
      obtain ⟨E_11, m_12, K⟩ := K
      refine Y.callV (g := zm_X12_tries) (vs := [zI 4, zI v1, zI v5, zI v6, zI v2, zI v7, zI v8]) (st := []) dX12_allTurns_109 ⟨zg_X12_tries.1, zg_X12_tries.2.1, zg_X12_tries.2.2, by decide⟩ ⟨zk_X12_359, zv_X12_tries⟩ (ci := 12) (rfl) rfl ((zM_1 hM).2.1) rfl rfl (Nat.le_of_ble_eq_true rfl) m_12 (Or.inl rfl) ?_
      show Z zm_X12_allTurns kz Q 112 [(0, zR 50), (1, zI v1), (2, zI v2), (3, zI v3), (4, zI v4), (5, zI v5), (6, zI v6), (7, zI v7), (8, zI v8)] [] (d, G, E_11)
      obtain ⟨z_14, K⟩ := K
      refine Z.iinc (k := 8) (ls' := [(8, zI ((v8 + 1))), (0, zR 50), (1, zI v1), (2, zI v2), (3, zI v3), (4, zI v4), (5, zI v5), (6, zI v6), (7, zI v7)]) dX12_allTurns_112 rfl (by decide) z_14 rfl ?_
      refine Z.goto 70 dX12_allTurns_115 rfl ?_
      refine Z.pick (ls' := [(0, zR 50), (1, zI v1), (2, zI v2), (3, zI v3), (4, zI v4), (5, zI v5), (6, zI v6), (7, zI v7), (8, zI ((v8 + 1)))]) [1, 2, 3, 4, 5, 6, 7, 8, 0] rfl ?_
      exact K
set_option maxRecDepth 20000 in
theorem X12_works_0 {kz : Nat × Nat} {Q : Option zV → zH → Prop} {d : List Nat} {G : Nat → Int → Option Nat} {E : Nat → Int → Int} {v1 : Int} (hM : zK zMt d G) (K : Z zm_X12_works kz Q 2 [(0, zR 50), (1, zI v1), (2, zI 0)] [] (d, G, E)) : Z zm_X12_works kz Q 0 [(0, zR 50), (1, zI v1)] [] (d, G, E) := by
  refine Z.iconst (n := 0) dX12_works_0 ⟨by decide, by decide⟩ ?_
  refine Z.istore_n (ls' := [(2, zI 0), (0, zR 50), (1, zI v1)]) dX12_works_1 (by decide) rfl ?_
  refine Z.pick (ls' := [(0, zR 50), (1, zI v1), (2, zI 0)]) [1, 2, 0] rfl ?_
  exact K
set_option maxRecDepth 20000 in
theorem X12_works_2 {kz : Nat × Nat} {Q : Option zV → zH → Prop} {d : List Nat} {G : Nat → Int → Option Nat} {E : Nat → Int → Int} {v1 : Int} {v2 : Int} (hM : zK zMt d G) (K : ((E 50 6) ≤ v2 → Z zm_X12_works kz Q 79 [(0, zR 50), (1, zI v1), (2, zI 0)] [] (d, G, E)) ∧ (¬ ((E 50 6) ≤ v2) → ∃ x_2, zM zm_X12_goesOn [zR 50, zI v1, zI v1] (d, G, E) (some (zI x_2)) (d, G, E) ∧ (x_2 = 0 → Z zm_X12_works kz Q 79 [(0, zR 50), (1, zI v1), (2, zI 0)] [] (d, G, E)) ∧ (¬ (x_2 = 0) → ((0 : Int) ≤ v2 ∧ v2 < (150 : Int)) ∧ ((E 62 v2) ≠ 1 → zin (v2 + 1) ∧ Z zm_X12_works kz Q 2 [(0, zR 50), (1, zI v1), (2, zI ((v2 + 1)))] [] (d, G, E)) ∧ (¬ ((E 62 v2) ≠ 1) → ∃ E_9, zM zm_X12_clashes [zR 50, zI v1, zI v2, zI v1, zI v2] (d, G, E) none (d, G, E_9) ∧ (v2 = v1 → ∃ E_13, zM zm_X12_allTurns [zR 50, zI v1, zI v2, zI v1, zI v2] (d, G, E_9) none (d, G, E_13) ∧ (v2 = v1 → zin (v2 + 1) ∧ Z zm_X12_works kz Q 2 [(0, zR 50), (1, zI v1), (2, zI ((v2 + 1)))] [] (d, G, E_13)) ∧ (¬ (v2 = v1) → ∃ E_18, zM zm_X12_allTurns [zR 50, zI v2, zI v1, zI v1, zI v2] (d, G, E_13) none (d, G, E_18) ∧ zin (v2 + 1) ∧ Z zm_X12_works kz Q 2 [(0, zR 50), (1, zI v1), (2, zI ((v2 + 1)))] [] (d, G, E_18))) ∧ (¬ (v2 = v1) → ∃ E_22, zM zm_X12_clashes [zR 50, zI v2, zI v1, zI v1, zI v2] (d, G, E_9) none (d, G, E_22) ∧ ∃ E_25, zM zm_X12_allTurns [zR 50, zI v1, zI v2, zI v1, zI v2] (d, G, E_22) none (d, G, E_25) ∧ (v2 = v1 → zin (v2 + 1) ∧ Z zm_X12_works kz Q 2 [(0, zR 50), (1, zI v1), (2, zI ((v2 + 1)))] [] (d, G, E_25)) ∧ (¬ (v2 = v1) → ∃ E_30, zM zm_X12_allTurns [zR 50, zI v2, zI v1, zI v1, zI v2] (d, G, E_25) none (d, G, E_30) ∧ zin (v2 + 1) ∧ Z zm_X12_works kz Q 2 [(0, zR 50), (1, zI v1), (2, zI ((v2 + 1)))] [] (d, G, E_30))))))) : Z zm_X12_works kz Q 2 [(0, zR 50), (1, zI v1), (2, zI v2)] [] (d, G, E) := by
  refine Z.iload_n (k := 2) dX12_works_2 rfl ?_
  refine Z.aload_n (k := 0) dX12_works_3 rfl ?_
  refine Y.getI 6 dX12_works_4 zl_X12_142 (rfl) (by decide) rfl (zM_1 hM).2.1 ?_
  refine Z.icmp_ge 77 dX12_works_7 rfl ⟨fun c_1 => ?_, fun c_1 => ?_⟩
  · replace K := K.1 c_1
    refine Z.iconst (n := 0) dX12_works_77 ⟨by decide, by decide⟩ ?_
    refine Z.istore_n (ls' := [(2, zI 0), (0, zR 50), (1, zI v1)]) dX12_works_78 (by decide) rfl ?_
    refine Z.pick (ls' := [(0, zR 50), (1, zI v1), (2, zI 0)]) [1, 2, 0] rfl ?_
    exact K
  · replace K := K.2 c_1
    refine Z.aload_n (k := 0) dX12_works_10 rfl ?_
    refine Z.iload_n (k := 1) dX12_works_11 rfl ?_
    refine Z.iload_n (k := 1) dX12_works_12 rfl ?_
    obtain ⟨x_2, m_3, K⟩ := K
    refine Y.callV (g := zm_X12_goesOn) (vs := [zI v1, zI v1]) (st := []) dX12_works_13 ⟨zg_X12_goesOn.1, zg_X12_goesOn.2.1, zg_X12_goesOn.2.2, by decide⟩ ⟨zk_X12_356, zv_X12_goesOn⟩ (ci := 12) (rfl) rfl ((zM_1 hM).2.1) rfl rfl (Nat.le_of_ble_eq_true rfl) m_3 (Or.inl rfl) ?_
    show Z zm_X12_works kz Q 16 [(0, zR 50), (1, zI v1), (2, zI v2)] [zI x_2] (d, G, E)
    refine Z.if_eq 77 dX12_works_16 rfl ⟨fun c_5 => ?_, fun c_5 => ?_⟩
    · replace K := K.1 c_5
      refine Z.iconst (n := 0) dX12_works_77 ⟨by decide, by decide⟩ ?_
      refine Z.istore_n (ls' := [(2, zI 0), (0, zR 50), (1, zI v1)]) dX12_works_78 (by decide) rfl ?_
      refine Z.pick (ls' := [(0, zR 50), (1, zI v1), (2, zI 0)]) [1, 2, 0] rfl ?_
      exact K
    · replace K := K.2 c_5
      refine Z.aload_n (k := 0) dX12_works_19 rfl ?_
      refine Y.getR (o := some 62) 11 dX12_works_20 zl_X12_39 (rfl) (by decide) rfl (zM_1 hM).2.1 (zM_11 hM).1 ?_
      refine Z.iload_n (k := 2) dX12_works_23 rfl ?_
      obtain ⟨z_6, K⟩ := K
      refine Y.iald dX12_works_24 (rfl) ((zM_11 hM).2.2) z_6 ?_
      refine Z.iconst (n := 1) dX12_works_25 ⟨by decide, by decide⟩ ?_
      refine Z.icmp_ne 71 dX12_works_26 rfl ⟨fun c_7 => ?_, fun c_7 => ?_⟩
      · replace K := K.1 c_7
        obtain ⟨z_8, K⟩ := K
        refine Z.iinc (k := 2) (ls' := [(2, zI ((v2 + 1))), (0, zR 50), (1, zI v1)]) dX12_works_71 rfl (by decide) z_8 rfl ?_
        refine Z.goto 2 dX12_works_74 rfl ?_
        refine Z.pick (ls' := [(0, zR 50), (1, zI v1), (2, zI ((v2 + 1)))]) [1, 2, 0] rfl ?_
        exact K
      · replace K := K.2 c_7
        refine Z.aload_n (k := 0) dX12_works_29 rfl ?_
        refine Z.iload_n (k := 1) dX12_works_30 rfl ?_
        refine Z.iload_n (k := 2) dX12_works_31 rfl ?_
        refine Z.iload_n (k := 1) dX12_works_32 rfl ?_
        refine Z.iload_n (k := 2) dX12_works_33 rfl ?_
        obtain ⟨E_9, m_10, K⟩ := K
        refine Y.callV (g := zm_X12_clashes) (vs := [zI v1, zI v2, zI v1, zI v2]) (st := []) dX12_works_34 ⟨zg_X12_clashes.1, zg_X12_clashes.2.1, zg_X12_clashes.2.2, by decide⟩ ⟨zk_X12_362, zv_X12_clashes⟩ (ci := 12) (rfl) rfl ((zM_1 hM).2.1) rfl rfl (Nat.le_of_ble_eq_true rfl) m_10 (Or.inl rfl) ?_
        show Z zm_X12_works kz Q 37 [(0, zR 50), (1, zI v1), (2, zI v2)] [] (d, G, E_9)
        refine Z.iload_n (k := 2) dX12_works_37 rfl ?_
        refine Z.iload_n (k := 1) dX12_works_38 rfl ?_
        refine Z.icmp_eq 50 dX12_works_39 rfl ⟨fun c_12 => ?_, fun c_12 => ?_⟩
        · replace K := K.1 c_12
          refine Z.aload_n (k := 0) dX12_works_50 rfl ?_
          refine Z.iload_n (k := 1) dX12_works_51 rfl ?_
          refine Z.iload_n (k := 2) dX12_works_52 rfl ?_
          refine Z.iload_n (k := 1) dX12_works_53 rfl ?_
          refine Z.iload_n (k := 2) dX12_works_54 rfl ?_
          obtain ⟨E_13, m_14, K⟩ := K
          refine Y.callV (g := zm_X12_allTurns) (vs := [zI v1, zI v2, zI v1, zI v2]) (st := []) dX12_works_55 ⟨zg_X12_allTurns.1, zg_X12_allTurns.2.1, zg_X12_allTurns.2.2, by decide⟩ ⟨zk_X12_365, zv_X12_allTurns⟩ (ci := 12) (rfl) rfl ((zM_1 hM).2.1) rfl rfl (Nat.le_of_ble_eq_true rfl) m_14 (Or.inl rfl) ?_
          show Z zm_X12_works kz Q 58 [(0, zR 50), (1, zI v1), (2, zI v2)] [] (d, G, E_13)
          refine Z.iload_n (k := 2) dX12_works_58 rfl ?_
          refine Z.iload_n (k := 1) dX12_works_59 rfl ?_
          refine Z.icmp_eq 71 dX12_works_60 rfl ⟨fun c_16 => ?_, fun c_16 => ?_⟩
          · replace K := K.1 c_16
            obtain ⟨z_17, K⟩ := K
            refine Z.iinc (k := 2) (ls' := [(2, zI ((v2 + 1))), (0, zR 50), (1, zI v1)]) dX12_works_71 rfl (by decide) z_17 rfl ?_
            refine Z.goto 2 dX12_works_74 rfl ?_
            refine Z.pick (ls' := [(0, zR 50), (1, zI v1), (2, zI ((v2 + 1)))]) [1, 2, 0] rfl ?_
            exact K
          · replace K := K.2 c_16
            refine Z.aload_n (k := 0) dX12_works_63 rfl ?_
            refine Z.iload_n (k := 2) dX12_works_64 rfl ?_
            refine Z.iload_n (k := 1) dX12_works_65 rfl ?_
            refine Z.iload_n (k := 1) dX12_works_66 rfl ?_
            refine Z.iload_n (k := 2) dX12_works_67 rfl ?_
            obtain ⟨E_18, m_19, K⟩ := K
            refine Y.callV (g := zm_X12_allTurns) (vs := [zI v2, zI v1, zI v1, zI v2]) (st := []) dX12_works_68 ⟨zg_X12_allTurns.1, zg_X12_allTurns.2.1, zg_X12_allTurns.2.2, by decide⟩ ⟨zk_X12_365, zv_X12_allTurns⟩ (ci := 12) (rfl) rfl ((zM_1 hM).2.1) rfl rfl (Nat.le_of_ble_eq_true rfl) m_19 (Or.inl rfl) ?_
            show Z zm_X12_works kz Q 71 [(0, zR 50), (1, zI v1), (2, zI v2)] [] (d, G, E_18)
            obtain ⟨z_21, K⟩ := K
            refine Z.iinc (k := 2) (ls' := [(2, zI ((v2 + 1))), (0, zR 50), (1, zI v1)]) dX12_works_71 rfl (by decide) z_21 rfl ?_
            refine Z.goto 2 dX12_works_74 rfl ?_
            refine Z.pick (ls' := [(0, zR 50), (1, zI v1), (2, zI ((v2 + 1)))]) [1, 2, 0] rfl ?_
            exact K
        · replace K := K.2 c_12
          refine Z.aload_n (k := 0) dX12_works_42 rfl ?_
          refine Z.iload_n (k := 2) dX12_works_43 rfl ?_
          refine Z.iload_n (k := 1) dX12_works_44 rfl ?_
          refine Z.iload_n (k := 1) dX12_works_45 rfl ?_
          refine Z.iload_n (k := 2) dX12_works_46 rfl ?_
          obtain ⟨E_22, m_23, K⟩ := K
          refine Y.callV (g := zm_X12_clashes) (vs := [zI v2, zI v1, zI v1, zI v2]) (st := []) dX12_works_47 ⟨zg_X12_clashes.1, zg_X12_clashes.2.1, zg_X12_clashes.2.2, by decide⟩ ⟨zk_X12_362, zv_X12_clashes⟩ (ci := 12) (rfl) rfl ((zM_1 hM).2.1) rfl rfl (Nat.le_of_ble_eq_true rfl) m_23 (Or.inl rfl) ?_
          show Z zm_X12_works kz Q 50 [(0, zR 50), (1, zI v1), (2, zI v2)] [] (d, G, E_22)
          refine Z.aload_n (k := 0) dX12_works_50 rfl ?_
          refine Z.iload_n (k := 1) dX12_works_51 rfl ?_
          refine Z.iload_n (k := 2) dX12_works_52 rfl ?_
          refine Z.iload_n (k := 1) dX12_works_53 rfl ?_
          refine Z.iload_n (k := 2) dX12_works_54 rfl ?_
          obtain ⟨E_25, m_26, K⟩ := K
          refine Y.callV (g := zm_X12_allTurns) (vs := [zI v1, zI v2, zI v1, zI v2]) (st := []) dX12_works_55 ⟨zg_X12_allTurns.1, zg_X12_allTurns.2.1, zg_X12_allTurns.2.2, by decide⟩ ⟨zk_X12_365, zv_X12_allTurns⟩ (ci := 12) (rfl) rfl ((zM_1 hM).2.1) rfl rfl (Nat.le_of_ble_eq_true rfl) m_26 (Or.inl rfl) ?_
          show Z zm_X12_works kz Q 58 [(0, zR 50), (1, zI v1), (2, zI v2)] [] (d, G, E_25)
          refine Z.iload_n (k := 2) dX12_works_58 rfl ?_
          refine Z.iload_n (k := 1) dX12_works_59 rfl ?_
          refine Z.icmp_eq 71 dX12_works_60 rfl ⟨fun c_28 => ?_, fun c_28 => ?_⟩
          · replace K := K.1 c_28
            obtain ⟨z_29, K⟩ := K
            refine Z.iinc (k := 2) (ls' := [(2, zI ((v2 + 1))), (0, zR 50), (1, zI v1)]) dX12_works_71 rfl (by decide) z_29 rfl ?_
            refine Z.goto 2 dX12_works_74 rfl ?_
            refine Z.pick (ls' := [(0, zR 50), (1, zI v1), (2, zI ((v2 + 1)))]) [1, 2, 0] rfl ?_
            exact K
          · replace K := K.2 c_28
            refine Z.aload_n (k := 0) dX12_works_63 rfl ?_
            refine Z.iload_n (k := 2) dX12_works_64 rfl ?_
            refine Z.iload_n (k := 1) dX12_works_65 rfl ?_
            refine Z.iload_n (k := 1) dX12_works_66 rfl ?_
            refine Z.iload_n (k := 2) dX12_works_67 rfl ?_
            obtain ⟨E_30, m_31, K⟩ := K
            refine Y.callV (g := zm_X12_allTurns) (vs := [zI v2, zI v1, zI v1, zI v2]) (st := []) dX12_works_68 ⟨zg_X12_allTurns.1, zg_X12_allTurns.2.1, zg_X12_allTurns.2.2, by decide⟩ ⟨zk_X12_365, zv_X12_allTurns⟩ (ci := 12) (rfl) rfl ((zM_1 hM).2.1) rfl rfl (Nat.le_of_ble_eq_true rfl) m_31 (Or.inl rfl) ?_
            show Z zm_X12_works kz Q 71 [(0, zR 50), (1, zI v1), (2, zI v2)] [] (d, G, E_30)
            obtain ⟨z_33, K⟩ := K
            refine Z.iinc (k := 2) (ls' := [(2, zI ((v2 + 1))), (0, zR 50), (1, zI v1)]) dX12_works_71 rfl (by decide) z_33 rfl ?_
            refine Z.goto 2 dX12_works_74 rfl ?_
            refine Z.pick (ls' := [(0, zR 50), (1, zI v1), (2, zI ((v2 + 1)))]) [1, 2, 0] rfl ?_
            exact K
set_option maxRecDepth 20000 in
theorem X12_works_79 {kz : Nat × Nat} {Q : Option zV → zH → Prop} {d : List Nat} {G : Nat → Int → Option Nat} {E : Nat → Int → Int} {v1 : Int} {v2 : Int} (hM : zK zMt d G) (K : ((0 : Int) ≤ v1 ∧ v1 < (150 : Int)) ∧ ((E 61 v1) ≤ v2 → ∃ x_3, zM zm_X12_goesOn [zR 50, zI v1, zI v1] (d, G, E) (some (zI x_3)) (d, G, E) ∧ (x_3 = 0 → Q none (d, G, E)) ∧ (¬ (x_3 = 0) → ∃ E_7, zM zm_X12_tries [zR 50, zI 3, zI v1, zI 0, zI 0, zI 0, zI 0, zI 0] (d, G, E) none (d, G, E_7) ∧ Q none (d, G, E_7))) ∧ (¬ ((E 61 v1) ≤ v2) → ∃ x_10, zM zm_X12_goesOn [zR 50, zI v1, zI v1] (d, G, E) (some (zI x_10)) (d, G, E) ∧ (x_10 = 0 → ∃ x_14, zM zm_X12_goesOn [zR 50, zI v1, zI v1] (d, G, E) (some (zI x_14)) (d, G, E) ∧ (x_14 = 0 → Q none (d, G, E)) ∧ (¬ (x_14 = 0) → ∃ E_18, zM zm_X12_tries [zR 50, zI 3, zI v1, zI 0, zI 0, zI 0, zI 0, zI 0] (d, G, E) none (d, G, E_18) ∧ Q none (d, G, E_18))) ∧ (¬ (x_10 = 0) → zin (v2 + 1) ∧ Z zm_X12_works kz Q 102 [(0, zR 50), (1, zI v1), (2, zI v2), (3, zI ((v2 + 1)))] [] (d, G, E)))) : Z zm_X12_works kz Q 79 [(0, zR 50), (1, zI v1), (2, zI v2)] [] (d, G, E) := by
  refine Z.iload_n (k := 2) dX12_works_79 rfl ?_
  refine Z.aload_n (k := 0) dX12_works_80 rfl ?_
  refine Y.getR (o := some 61) 10 dX12_works_81 zl_X12_36 (rfl) (by decide) rfl (zM_1 hM).2.1 (zM_10 hM).1 ?_
  refine Z.iload_n (k := 1) dX12_works_84 rfl ?_
  obtain ⟨z_1, K⟩ := K
  refine Y.iald dX12_works_85 (rfl) ((zM_10 hM).2.2) z_1 ?_
  refine Z.icmp_ge 144 dX12_works_86 rfl ⟨fun c_2 => ?_, fun c_2 => ?_⟩
  · replace K := K.1 c_2
    refine Z.aload_n (k := 0) dX12_works_144 rfl ?_
    refine Z.iload_n (k := 1) dX12_works_145 rfl ?_
    refine Z.iload_n (k := 1) dX12_works_146 rfl ?_
    obtain ⟨x_3, m_4, K⟩ := K
    refine Y.callV (g := zm_X12_goesOn) (vs := [zI v1, zI v1]) (st := []) dX12_works_147 ⟨zg_X12_goesOn.1, zg_X12_goesOn.2.1, zg_X12_goesOn.2.2, by decide⟩ ⟨zk_X12_356, zv_X12_goesOn⟩ (ci := 12) (rfl) rfl ((zM_1 hM).2.1) rfl rfl (Nat.le_of_ble_eq_true rfl) m_4 (Or.inl rfl) ?_
    show Z zm_X12_works kz Q 150 [(0, zR 50), (1, zI v1), (2, zI v2)] [zI x_3] (d, G, E)
    refine Z.if_eq 164 dX12_works_150 rfl ⟨fun c_6 => ?_, fun c_6 => ?_⟩
    · replace K := K.1 c_6
      exact Z.vret dX12_works_164 rfl K
    · replace K := K.2 c_6
      refine Z.aload_n (k := 0) dX12_works_153 rfl ?_
      refine Z.iconst (n := 3) dX12_works_154 ⟨by decide, by decide⟩ ?_
      refine Z.iload_n (k := 1) dX12_works_155 rfl ?_
      refine Z.iconst (n := 0) dX12_works_156 ⟨by decide, by decide⟩ ?_
      refine Z.iconst (n := 0) dX12_works_157 ⟨by decide, by decide⟩ ?_
      refine Z.iconst (n := 0) dX12_works_158 ⟨by decide, by decide⟩ ?_
      refine Z.iconst (n := 0) dX12_works_159 ⟨by decide, by decide⟩ ?_
      refine Z.iconst (n := 0) dX12_works_160 ⟨by decide, by decide⟩ ?_
      obtain ⟨E_7, m_8, K⟩ := K
      refine Y.callV (g := zm_X12_tries) (vs := [zI 3, zI v1, zI 0, zI 0, zI 0, zI 0, zI 0]) (st := []) dX12_works_161 ⟨zg_X12_tries.1, zg_X12_tries.2.1, zg_X12_tries.2.2, by decide⟩ ⟨zk_X12_359, zv_X12_tries⟩ (ci := 12) (rfl) rfl ((zM_1 hM).2.1) rfl rfl (Nat.le_of_ble_eq_true rfl) m_8 (Or.inl rfl) ?_
      show Z zm_X12_works kz Q 164 [(0, zR 50), (1, zI v1), (2, zI v2)] [] (d, G, E_7)
      exact Z.vret dX12_works_164 rfl K
  · replace K := K.2 c_2
    refine Z.aload_n (k := 0) dX12_works_89 rfl ?_
    refine Z.iload_n (k := 1) dX12_works_90 rfl ?_
    refine Z.iload_n (k := 1) dX12_works_91 rfl ?_
    obtain ⟨x_10, m_11, K⟩ := K
    refine Y.callV (g := zm_X12_goesOn) (vs := [zI v1, zI v1]) (st := []) dX12_works_92 ⟨zg_X12_goesOn.1, zg_X12_goesOn.2.1, zg_X12_goesOn.2.2, by decide⟩ ⟨zk_X12_356, zv_X12_goesOn⟩ (ci := 12) (rfl) rfl ((zM_1 hM).2.1) rfl rfl (Nat.le_of_ble_eq_true rfl) m_11 (Or.inl rfl) ?_
    show Z zm_X12_works kz Q 95 [(0, zR 50), (1, zI v1), (2, zI v2)] [zI x_10] (d, G, E)
    refine Z.if_eq 144 dX12_works_95 rfl ⟨fun c_13 => ?_, fun c_13 => ?_⟩
    · replace K := K.1 c_13
      refine Z.aload_n (k := 0) dX12_works_144 rfl ?_
      refine Z.iload_n (k := 1) dX12_works_145 rfl ?_
      refine Z.iload_n (k := 1) dX12_works_146 rfl ?_
      obtain ⟨x_14, m_15, K⟩ := K
      refine Y.callV (g := zm_X12_goesOn) (vs := [zI v1, zI v1]) (st := []) dX12_works_147 ⟨zg_X12_goesOn.1, zg_X12_goesOn.2.1, zg_X12_goesOn.2.2, by decide⟩ ⟨zk_X12_356, zv_X12_goesOn⟩ (ci := 12) (rfl) rfl ((zM_1 hM).2.1) rfl rfl (Nat.le_of_ble_eq_true rfl) m_15 (Or.inl rfl) ?_
      show Z zm_X12_works kz Q 150 [(0, zR 50), (1, zI v1), (2, zI v2)] [zI x_14] (d, G, E)
      refine Z.if_eq 164 dX12_works_150 rfl ⟨fun c_17 => ?_, fun c_17 => ?_⟩
      · replace K := K.1 c_17
        exact Z.vret dX12_works_164 rfl K
      · replace K := K.2 c_17
        refine Z.aload_n (k := 0) dX12_works_153 rfl ?_
        refine Z.iconst (n := 3) dX12_works_154 ⟨by decide, by decide⟩ ?_
        refine Z.iload_n (k := 1) dX12_works_155 rfl ?_
        refine Z.iconst (n := 0) dX12_works_156 ⟨by decide, by decide⟩ ?_
        refine Z.iconst (n := 0) dX12_works_157 ⟨by decide, by decide⟩ ?_
        refine Z.iconst (n := 0) dX12_works_158 ⟨by decide, by decide⟩ ?_
        refine Z.iconst (n := 0) dX12_works_159 ⟨by decide, by decide⟩ ?_
        refine Z.iconst (n := 0) dX12_works_160 ⟨by decide, by decide⟩ ?_
        obtain ⟨E_18, m_19, K⟩ := K
        refine Y.callV (g := zm_X12_tries) (vs := [zI 3, zI v1, zI 0, zI 0, zI 0, zI 0, zI 0]) (st := []) dX12_works_161 ⟨zg_X12_tries.1, zg_X12_tries.2.1, zg_X12_tries.2.2, by decide⟩ ⟨zk_X12_359, zv_X12_tries⟩ (ci := 12) (rfl) rfl ((zM_1 hM).2.1) rfl rfl (Nat.le_of_ble_eq_true rfl) m_19 (Or.inl rfl) ?_
        show Z zm_X12_works kz Q 164 [(0, zR 50), (1, zI v1), (2, zI v2)] [] (d, G, E_18)
        exact Z.vret dX12_works_164 rfl K
    · replace K := K.2 c_13
      refine Z.iload_n (k := 2) dX12_works_98 rfl ?_
      refine Z.iconst (n := 1) dX12_works_99 ⟨by decide, by decide⟩ ?_
      obtain ⟨z_21, K⟩ := K
      refine Z.iadd dX12_works_100 z_21 ?_
      refine Z.istore_n (ls' := [(3, zI ((v2 + 1))), (0, zR 50), (1, zI v1), (2, zI v2)]) dX12_works_101 (by decide) rfl ?_
      refine Z.pick (ls' := [(0, zR 50), (1, zI v1), (2, zI v2), (3, zI ((v2 + 1)))]) [1, 2, 3, 0] rfl ?_
      exact K
set_option maxRecDepth 20000 in
theorem X12_works_102 {kz : Nat × Nat} {Q : Option zV → zH → Prop} {d : List Nat} {G : Nat → Int → Option Nat} {E : Nat → Int → Int} {v1 : Int} {v2 : Int} {v3 : Int} (hM : zK zMt d G) (K : ((0 : Int) ≤ v1 ∧ v1 < (150 : Int)) ∧ ((E 61 v1) ≤ v3 → zin (v2 + 1) ∧ Z zm_X12_works kz Q 79 [(0, zR 50), (1, zI v1), (2, zI ((v2 + 1)))] [] (d, G, E)) ∧ (¬ ((E 61 v1) ≤ v3) → ∃ x_4, zM zm_X12_goesOn [zR 50, zI v1, zI v1] (d, G, E) (some (zI x_4)) (d, G, E) ∧ (x_4 = 0 → zin (v2 + 1) ∧ Z zm_X12_works kz Q 79 [(0, zR 50), (1, zI v1), (2, zI ((v2 + 1)))] [] (d, G, E)) ∧ (¬ (x_4 = 0) → ∃ E_9, zM zm_X12_tries [zR 50, zI 2, zI v1, zI v2, zI v3, zI 0, zI 0, zI 0] (d, G, E) none (d, G, E_9) ∧ zin (v3 + 1) ∧ Z zm_X12_works kz Q 102 [(0, zR 50), (1, zI v1), (2, zI v2), (3, zI ((v3 + 1)))] [] (d, G, E_9)))) : Z zm_X12_works kz Q 102 [(0, zR 50), (1, zI v1), (2, zI v2), (3, zI v3)] [] (d, G, E) := by
  refine Z.iload_n (k := 3) dX12_works_102 rfl ?_
  refine Z.aload_n (k := 0) dX12_works_103 rfl ?_
  refine Y.getR (o := some 61) 10 dX12_works_104 zl_X12_36 (rfl) (by decide) rfl (zM_1 hM).2.1 (zM_10 hM).1 ?_
  refine Z.iload_n (k := 1) dX12_works_107 rfl ?_
  obtain ⟨z_1, K⟩ := K
  refine Y.iald dX12_works_108 (rfl) ((zM_10 hM).2.2) z_1 ?_
  refine Z.icmp_ge 138 dX12_works_109 rfl ⟨fun c_2 => ?_, fun c_2 => ?_⟩
  · replace K := K.1 c_2
    obtain ⟨z_3, K⟩ := K
    refine Z.iinc (k := 2) (ls' := [(2, zI ((v2 + 1))), (0, zR 50), (1, zI v1), (3, zI v3)]) dX12_works_138 rfl (by decide) z_3 rfl ?_
    refine Z.goto 79 dX12_works_141 rfl ?_
    refine Z.pick (ls' := [(0, zR 50), (1, zI v1), (2, zI ((v2 + 1)))]) [1, 2, 0] rfl ?_
    exact K
  · replace K := K.2 c_2
    refine Z.aload_n (k := 0) dX12_works_112 rfl ?_
    refine Z.iload_n (k := 1) dX12_works_113 rfl ?_
    refine Z.iload_n (k := 1) dX12_works_114 rfl ?_
    obtain ⟨x_4, m_5, K⟩ := K
    refine Y.callV (g := zm_X12_goesOn) (vs := [zI v1, zI v1]) (st := []) dX12_works_115 ⟨zg_X12_goesOn.1, zg_X12_goesOn.2.1, zg_X12_goesOn.2.2, by decide⟩ ⟨zk_X12_356, zv_X12_goesOn⟩ (ci := 12) (rfl) rfl ((zM_1 hM).2.1) rfl rfl (Nat.le_of_ble_eq_true rfl) m_5 (Or.inl rfl) ?_
    show Z zm_X12_works kz Q 118 [(0, zR 50), (1, zI v1), (2, zI v2), (3, zI v3)] [zI x_4] (d, G, E)
    refine Z.if_eq 138 dX12_works_118 rfl ⟨fun c_7 => ?_, fun c_7 => ?_⟩
    · replace K := K.1 c_7
      obtain ⟨z_8, K⟩ := K
      refine Z.iinc (k := 2) (ls' := [(2, zI ((v2 + 1))), (0, zR 50), (1, zI v1), (3, zI v3)]) dX12_works_138 rfl (by decide) z_8 rfl ?_
      refine Z.goto 79 dX12_works_141 rfl ?_
      refine Z.pick (ls' := [(0, zR 50), (1, zI v1), (2, zI ((v2 + 1)))]) [1, 2, 0] rfl ?_
      exact K
    · replace K := K.2 c_7
      refine Z.aload_n (k := 0) dX12_works_121 rfl ?_
      refine Z.iconst (n := 2) dX12_works_122 ⟨by decide, by decide⟩ ?_
      refine Z.iload_n (k := 1) dX12_works_123 rfl ?_
      refine Z.iload_n (k := 2) dX12_works_124 rfl ?_
      refine Z.iload_n (k := 3) dX12_works_125 rfl ?_
      refine Z.iconst (n := 0) dX12_works_126 ⟨by decide, by decide⟩ ?_
      refine Z.iconst (n := 0) dX12_works_127 ⟨by decide, by decide⟩ ?_
      refine Z.iconst (n := 0) dX12_works_128 ⟨by decide, by decide⟩ ?_
      obtain ⟨E_9, m_10, K⟩ := K
      refine Y.callV (g := zm_X12_tries) (vs := [zI 2, zI v1, zI v2, zI v3, zI 0, zI 0, zI 0]) (st := []) dX12_works_129 ⟨zg_X12_tries.1, zg_X12_tries.2.1, zg_X12_tries.2.2, by decide⟩ ⟨zk_X12_359, zv_X12_tries⟩ (ci := 12) (rfl) rfl ((zM_1 hM).2.1) rfl rfl (Nat.le_of_ble_eq_true rfl) m_10 (Or.inl rfl) ?_
      show Z zm_X12_works kz Q 132 [(0, zR 50), (1, zI v1), (2, zI v2), (3, zI v3)] [] (d, G, E_9)
      obtain ⟨z_12, K⟩ := K
      refine Z.iinc (k := 3) (ls' := [(3, zI ((v3 + 1))), (0, zR 50), (1, zI v1), (2, zI v2)]) dX12_works_132 rfl (by decide) z_12 rfl ?_
      refine Z.goto 102 dX12_works_135 rfl ?_
      refine Z.pick (ls' := [(0, zR 50), (1, zI v1), (2, zI v2), (3, zI ((v3 + 1)))]) [1, 2, 3, 0] rfl ?_
      exact K
set_option maxRecDepth 20000 in
theorem X12_weightOfClaim_0 {kz : Nat × Nat} {Q : Option zV → zH → Prop} {d : List Nat} {G : Nat → Int → Option Nat} {E : Nat → Int → Int} {v1 : Int} (hM : zK zMt d G) (K : Z zm_X12_weightOfClaim kz Q 4 [(0, zR 50), (1, zI v1), (2, zI 0), (3, zI 0)] [] (d, G, E)) : Z zm_X12_weightOfClaim kz Q 0 [(0, zR 50), (1, zI v1)] [] (d, G, E) := by
  refine Z.iconst (n := 0) dX12_weightOfClaim_0 ⟨by decide, by decide⟩ ?_
  refine Z.istore_n (ls' := [(2, zI 0), (0, zR 50), (1, zI v1)]) dX12_weightOfClaim_1 (by decide) rfl ?_
  refine Z.iconst (n := 0) dX12_weightOfClaim_2 ⟨by decide, by decide⟩ ?_
  refine Z.istore_n (ls' := [(3, zI 0), (2, zI 0), (0, zR 50), (1, zI v1)]) dX12_weightOfClaim_3 (by decide) rfl ?_
  refine Z.pick (ls' := [(0, zR 50), (1, zI v1), (2, zI 0), (3, zI 0)]) [2, 3, 1, 0] rfl ?_
  exact K
set_option maxRecDepth 20000 in
theorem X12_weightOfClaim_4 {kz : Nat × Nat} {Q : Option zV → zH → Prop} {d : List Nat} {G : Nat → Int → Option Nat} {E : Nat → Int → Int} {v1 : Int} {v2 : Int} {v3 : Int} (hM : zK zMt d G) (K : ((0 : Int) ≤ v1 ∧ v1 < (150 : Int)) ∧ ((E 61 v1) ≤ v3 → Q (some (zI v2)) (d, G, E)) ∧ (¬ ((E 61 v1) ≤ v3) → zin (6 * v1) ∧ zin ((6 * v1) + v3) ∧ zin (30 * ((6 * v1) + v3)) ∧ zin (6 * v1) ∧ zin ((6 * v1) + v3) ∧ ((0 : Int) ≤ ((6 * v1) + v3) ∧ ((6 * v1) + v3) < (900 : Int)) ∧ zin ((30 * ((6 * v1) + v3)) + (E 59 ((6 * v1) + v3))) ∧ ∃ x_10, zM zm_X12_weightOf [zR 50, zR 58, zI ((30 * ((6 * v1) + v3))), zI (((30 * ((6 * v1) + v3)) + (E 59 ((6 * v1) + v3))))] (d, G, E) (some (zI x_10)) (d, G, E) ∧ zin (v2 + x_10) ∧ zin (v3 + 1) ∧ Z zm_X12_weightOfClaim kz Q 4 [(0, zR 50), (1, zI v1), (2, zI ((v2 + x_10))), (3, zI ((v3 + 1)))] [] (d, G, E))) : Z zm_X12_weightOfClaim kz Q 4 [(0, zR 50), (1, zI v1), (2, zI v2), (3, zI v3)] [] (d, G, E) := by
  refine Z.iload_n (k := 3) dX12_weightOfClaim_4 rfl ?_
  refine Z.aload_n (k := 0) dX12_weightOfClaim_5 rfl ?_
  refine Y.getR (o := some 61) 10 dX12_weightOfClaim_6 zl_X12_36 (rfl) (by decide) rfl (zM_1 hM).2.1 (zM_10 hM).1 ?_
  refine Z.iload_n (k := 1) dX12_weightOfClaim_9 rfl ?_
  obtain ⟨z_1, K⟩ := K
  refine Y.iald dX12_weightOfClaim_10 (rfl) ((zM_10 hM).2.2) z_1 ?_
  refine Z.icmp_ge 58 dX12_weightOfClaim_11 rfl ⟨fun c_2 => ?_, fun c_2 => ?_⟩
  · replace K := K.1 c_2
    refine Z.iload_n (k := 2) dX12_weightOfClaim_58 rfl ?_
    exact Z.iret (ty := .int) dX12_weightOfClaim_59 rfl rfl K
  · replace K := K.2 c_2
    refine Z.bipush (n := 30) dX12_weightOfClaim_14 ⟨by decide, by decide⟩ (by decide) ?_
    refine Z.bipush (n := 6) dX12_weightOfClaim_16 ⟨by decide, by decide⟩ (by decide) ?_
    refine Z.iload_n (k := 1) dX12_weightOfClaim_18 rfl ?_
    obtain ⟨z_3, K⟩ := K
    refine Z.imul dX12_weightOfClaim_19 z_3 ?_
    refine Z.iload_n (k := 3) dX12_weightOfClaim_20 rfl ?_
    obtain ⟨z_4, K⟩ := K
    refine Z.iadd dX12_weightOfClaim_21 z_4 ?_
    obtain ⟨z_5, K⟩ := K
    refine Z.imul dX12_weightOfClaim_22 z_5 ?_
    refine Z.istore (ls' := [(4, zI ((30 * ((6 * v1) + v3)))), (0, zR 50), (1, zI v1), (2, zI v2), (3, zI v3)]) dX12_weightOfClaim_23 (by decide) rfl ?_
    refine Z.iload_n (k := 3) dX12_weightOfClaim_25 rfl ?_
    refine Z.aload_n (k := 1) dX12_weightOfClaim_26 rfl ?_
    refine Z.aload_n (k := 1) dX12_weightOfClaim_27 rfl ?_
    refine Y.getR (o := some 58) 7 dX12_weightOfClaim_28 zl_X12_27 (rfl) (by decide) rfl (zM_1 hM).2.1 (zM_7 hM).1 ?_
    refine Z.iload (k := 0) dX12_weightOfClaim_31 rfl ?_
    refine Z.iload (k := 0) dX12_weightOfClaim_33 rfl ?_
    refine Z.aload_n (k := 1) dX12_weightOfClaim_35 rfl ?_
    refine Y.getR (o := some 59) 8 dX12_weightOfClaim_36 zl_X12_30 (rfl) (by decide) rfl (zM_1 hM).2.1 (zM_8 hM).1 ?_
    refine Z.bipush (n := 6) dX12_weightOfClaim_39 ⟨by decide, by decide⟩ (by decide) ?_
    refine Z.iload_n (k := 2) dX12_weightOfClaim_41 rfl ?_
    obtain ⟨z_6, K⟩ := K
    refine Z.imul dX12_weightOfClaim_42 z_6 ?_
    refine Z.iload_n (k := 4) dX12_weightOfClaim_43 rfl ?_
    obtain ⟨z_7, K⟩ := K
    refine Z.iadd dX12_weightOfClaim_44 z_7 ?_
    obtain ⟨z_8, K⟩ := K
    refine Y.iald dX12_weightOfClaim_45 (rfl) ((zM_8 hM).2.2) z_8 ?_
    obtain ⟨z_9, K⟩ := K
    refine Z.iadd dX12_weightOfClaim_46 z_9 ?_
    obtain ⟨x_10, m_11, K⟩ := K
    refine Y.callV (g := zm_X12_weightOf) (vs := [zR 58, zI ((30 * ((6 * v1) + v3))), zI (((30 * ((6 * v1) + v3)) + (E 59 ((6 * v1) + v3))))]) (st := [zI v2]) dX12_weightOfClaim_47 ⟨zg_X12_weightOf.1, zg_X12_weightOf.2.1, zg_X12_weightOf.2.2, by decide⟩ ⟨zk_X12_160, zv_X12_weightOf⟩ (ci := 12) (rfl) rfl ((zM_1 hM).2.1) rfl rfl (Nat.le_of_ble_eq_true rfl) m_11 (Or.inl rfl) ?_
    show Z zm_X12_weightOfClaim kz Q 50 [(4, zI ((30 * ((6 * v1) + v3)))), (0, zR 50), (1, zI v1), (2, zI v2), (3, zI v3)] [zI x_10, zI v2] (d, G, E)
    obtain ⟨z_13, K⟩ := K
    refine Z.iadd dX12_weightOfClaim_50 z_13 ?_
    refine Z.istore_n (ls' := [(2, zI ((v2 + x_10))), (4, zI ((30 * ((6 * v1) + v3)))), (0, zR 50), (1, zI v1), (3, zI v3)]) dX12_weightOfClaim_51 (by decide) rfl ?_
    obtain ⟨z_14, K⟩ := K
    refine Z.iinc (k := 4) (ls' := [(3, zI ((v3 + 1))), (2, zI ((v2 + x_10))), (4, zI ((30 * ((6 * v1) + v3)))), (0, zR 50), (1, zI v1)]) dX12_weightOfClaim_52 rfl (by decide) z_14 rfl ?_
    refine Z.goto 4 dX12_weightOfClaim_55 rfl ?_
    refine Z.pick (ls' := [(0, zR 50), (1, zI v1), (2, zI ((v2 + x_10))), (3, zI ((v3 + 1)))]) [3, 4, 1, 0] rfl ?_
    exact K
set_option maxRecDepth 20000 in
theorem X12_pick_0 {kz : Nat × Nat} {Q : Option zV → zH → Prop} {d : List Nat} {G : Nat → Int → Option Nat} {E : Nat → Int → Int}  (hM : zK zMt d G) (K : zin ((E 50 55) + 1) ∧ zin ((E 50 57) + 1) ∧ (0 : Int) ≤ ((E 50 55) + 1) ∧ (0 : Int) < ((E 50 57) + 1) ∧ ((((E 50 55) + 1) % ((E 50 57) + 1)) ≠ 0 → Z zm_X12_pick kz Q 29 [(0, zR 50), (1, zI 0), (2, zI ((-1))), (3, zI 0), (4, zI 0)] [] (d, G, E)) ∧ (¬ ((((E 50 55) + 1) % ((E 50 57) + 1)) ≠ 0) → Z zm_X12_pick kz Q 29 [(0, zR 50), (1, zI 1), (2, zI ((-1))), (3, zI 0), (4, zI 0)] [] (d, G, E))) : Z zm_X12_pick kz Q 0 [(0, zR 50)] [] (d, G, E) := by
  refine Z.aload_n (k := 0) dX12_pick_0 rfl ?_
  refine Y.getI 55 dX12_pick_1 zl_X12_368 (rfl) (by decide) rfl (zM_1 hM).2.1 ?_
  refine Z.iconst (n := 1) dX12_pick_4 ⟨by decide, by decide⟩ ?_
  obtain ⟨z_1, K⟩ := K
  refine Z.iadd dX12_pick_5 z_1 ?_
  refine Z.aload_n (k := 0) dX12_pick_6 rfl ?_
  refine Y.getI 57 dX12_pick_7 zl_X12_129 (rfl) (by decide) rfl (zM_1 hM).2.1 ?_
  refine Z.iconst (n := 1) dX12_pick_10 ⟨by decide, by decide⟩ ?_
  obtain ⟨z_2, K⟩ := K
  refine Z.iadd dX12_pick_11 z_2 ?_
  obtain ⟨z_3, z_4, K⟩ := K
  refine Z.irem dX12_pick_12 z_3 z_4 ?_
  refine Z.if_ne 20 dX12_pick_13 rfl ⟨fun c_5 => ?_, fun c_5 => ?_⟩
  · replace K := K.1 c_5
    refine Z.iconst (n := 0) dX12_pick_20 ⟨by decide, by decide⟩ ?_
    refine Z.istore_n (ls' := [(1, zI 0), (0, zR 50)]) dX12_pick_21 (by decide) rfl ?_
    refine Z.iconst (n := -1) dX12_pick_22 ⟨by decide, by decide⟩ ?_
    refine Z.istore_n (ls' := [(2, zI ((-1))), (1, zI 0), (0, zR 50)]) dX12_pick_23 (by decide) rfl ?_
    refine Z.iconst (n := 0) dX12_pick_24 ⟨by decide, by decide⟩ ?_
    refine Z.istore_n (ls' := [(3, zI 0), (2, zI ((-1))), (1, zI 0), (0, zR 50)]) dX12_pick_25 (by decide) rfl ?_
    refine Z.iconst (n := 0) dX12_pick_26 ⟨by decide, by decide⟩ ?_
    refine Z.istore (ls' := [(4, zI 0), (3, zI 0), (2, zI ((-1))), (1, zI 0), (0, zR 50)]) dX12_pick_27 (by decide) rfl ?_
    refine Z.pick (ls' := [(0, zR 50), (1, zI 0), (2, zI ((-1))), (3, zI 0), (4, zI 0)]) [4, 3, 2, 1, 0] rfl ?_
    exact K
  · replace K := K.2 c_5
    refine Z.iconst (n := 1) dX12_pick_16 ⟨by decide, by decide⟩ ?_
    refine Z.goto 21 dX12_pick_17 rfl ?_
    refine Z.istore_n (ls' := [(1, zI 1), (0, zR 50)]) dX12_pick_21 (by decide) rfl ?_
    refine Z.iconst (n := -1) dX12_pick_22 ⟨by decide, by decide⟩ ?_
    refine Z.istore_n (ls' := [(2, zI ((-1))), (1, zI 1), (0, zR 50)]) dX12_pick_23 (by decide) rfl ?_
    refine Z.iconst (n := 0) dX12_pick_24 ⟨by decide, by decide⟩ ?_
    refine Z.istore_n (ls' := [(3, zI 0), (2, zI ((-1))), (1, zI 1), (0, zR 50)]) dX12_pick_25 (by decide) rfl ?_
    refine Z.iconst (n := 0) dX12_pick_26 ⟨by decide, by decide⟩ ?_
    refine Z.istore (ls' := [(4, zI 0), (3, zI 0), (2, zI ((-1))), (1, zI 1), (0, zR 50)]) dX12_pick_27 (by decide) rfl ?_
    refine Z.pick (ls' := [(0, zR 50), (1, zI 1), (2, zI ((-1))), (3, zI 0), (4, zI 0)]) [4, 3, 2, 1, 0] rfl ?_
    exact K
set_option maxRecDepth 20000 in
theorem X12_pick_29 {kz : Nat × Nat} {Q : Option zV → zH → Prop} {d : List Nat} {G : Nat → Int → Option Nat} {E : Nat → Int → Int} {v1 : Int} {v2 : Int} {v3 : Int} {v4 : Int} (hM : zK zMt d G) (K : ((E 50 6) ≤ v4 → Q (some (zI v2)) (d, G, E)) ∧ (¬ ((E 50 6) ≤ v4) → ((0 : Int) ≤ v4 ∧ v4 < (150 : Int)) ∧ ((E 62 v4) ≠ 0 → zin (v4 + 1) ∧ Z zm_X12_pick kz Q 29 [(0, zR 50), (1, zI v1), (2, zI v2), (3, zI v3), (4, zI ((v4 + 1)))] [] (d, G, E)) ∧ (¬ ((E 62 v4) ≠ 0) → ∃ x_5, zM zm_X12_weightOfClaim [zR 50, zI v4] (d, G, E) (some (zI x_5)) (d, G, E) ∧ (v2 = (-1) → zin (v4 + 1) ∧ Z zm_X12_pick kz Q 29 [(0, zR 50), (1, zI v1), (2, zI v4), (3, zI x_5), (4, zI ((v4 + 1)))] [] (d, G, E)) ∧ (¬ (v2 = (-1)) → (v1 ≠ 0 → zin (v4 + 1) ∧ Z zm_X12_pick kz Q 29 [(0, zR 50), (1, zI v1), (2, zI v2), (3, zI v3), (4, zI ((v4 + 1)))] [] (d, G, E)) ∧ (¬ (v1 ≠ 0) → (v3 ≤ x_5 → zin (v4 + 1) ∧ Z zm_X12_pick kz Q 29 [(0, zR 50), (1, zI v1), (2, zI v2), (3, zI v3), (4, zI ((v4 + 1)))] [] (d, G, E)) ∧ (¬ (v3 ≤ x_5) → zin (v4 + 1) ∧ Z zm_X12_pick kz Q 29 [(0, zR 50), (1, zI v1), (2, zI v4), (3, zI x_5), (4, zI ((v4 + 1)))] [] (d, G, E))))))) : Z zm_X12_pick kz Q 29 [(0, zR 50), (1, zI v1), (2, zI v2), (3, zI v3), (4, zI v4)] [] (d, G, E) := by
  refine Z.iload (k := 4) dX12_pick_29 rfl ?_
  refine Z.aload_n (k := 0) dX12_pick_31 rfl ?_
  refine Y.getI 6 dX12_pick_32 zl_X12_142 (rfl) (by decide) rfl (zM_1 hM).2.1 ?_
  refine Z.icmp_ge 83 dX12_pick_35 rfl ⟨fun c_1 => ?_, fun c_1 => ?_⟩
  · replace K := K.1 c_1
    refine Z.iload_n (k := 2) dX12_pick_83 rfl ?_
    exact Z.iret (ty := .int) dX12_pick_84 rfl rfl K
  · replace K := K.2 c_1
    refine Z.aload_n (k := 0) dX12_pick_38 rfl ?_
    refine Y.getR (o := some 62) 11 dX12_pick_39 zl_X12_39 (rfl) (by decide) rfl (zM_1 hM).2.1 (zM_11 hM).1 ?_
    refine Z.iload (k := 4) dX12_pick_42 rfl ?_
    obtain ⟨z_2, K⟩ := K
    refine Y.iald dX12_pick_44 (rfl) ((zM_11 hM).2.2) z_2 ?_
    refine Z.if_ne 77 dX12_pick_45 rfl ⟨fun c_3 => ?_, fun c_3 => ?_⟩
    · replace K := K.1 c_3
      obtain ⟨z_4, K⟩ := K
      refine Z.iinc (k := 4) (ls' := [(4, zI ((v4 + 1))), (0, zR 50), (1, zI v1), (2, zI v2), (3, zI v3)]) dX12_pick_77 rfl (by decide) z_4 rfl ?_
      refine Z.goto 29 dX12_pick_80 rfl ?_
      refine Z.pick (ls' := [(0, zR 50), (1, zI v1), (2, zI v2), (3, zI v3), (4, zI ((v4 + 1)))]) [1, 2, 3, 4, 0] rfl ?_
      exact K
    · replace K := K.2 c_3
      refine Z.aload_n (k := 0) dX12_pick_48 rfl ?_
      refine Z.iload (k := 4) dX12_pick_49 rfl ?_
      obtain ⟨x_5, m_6, K⟩ := K
      refine Y.callV (g := zm_X12_weightOfClaim) (vs := [zI v4]) (st := []) dX12_pick_51 ⟨zg_X12_weightOfClaim.1, zg_X12_weightOfClaim.2.1, zg_X12_weightOfClaim.2.2, by decide⟩ ⟨zk_X12_371, zv_X12_weightOfClaim⟩ (ci := 12) (rfl) rfl ((zM_1 hM).2.1) rfl rfl (Nat.le_of_ble_eq_true rfl) m_6 (Or.inl rfl) ?_
      show Z zm_X12_pick kz Q 54 [(0, zR 50), (1, zI v1), (2, zI v2), (3, zI v3), (4, zI v4)] [zI x_5] (d, G, E)
      refine Z.istore (ls' := [(5, zI x_5), (0, zR 50), (1, zI v1), (2, zI v2), (3, zI v3), (4, zI v4)]) dX12_pick_54 (by decide) rfl ?_
      refine Z.iload_n (k := 3) dX12_pick_56 rfl ?_
      refine Z.iconst (n := -1) dX12_pick_57 ⟨by decide, by decide⟩ ?_
      refine Z.icmp_eq 71 dX12_pick_58 rfl ⟨fun c_8 => ?_, fun c_8 => ?_⟩
      · replace K := K.1 c_8
        refine Z.iload (k := 5) dX12_pick_71 rfl ?_
        refine Z.istore_n (ls' := [(2, zI v4), (5, zI x_5), (0, zR 50), (1, zI v1), (3, zI v3), (4, zI v4)]) dX12_pick_73 (by decide) rfl ?_
        refine Z.iload (k := 1) dX12_pick_74 rfl ?_
        refine Z.istore_n (ls' := [(3, zI x_5), (2, zI v4), (5, zI x_5), (0, zR 50), (1, zI v1), (4, zI v4)]) dX12_pick_76 (by decide) rfl ?_
        obtain ⟨z_9, K⟩ := K
        refine Z.iinc (k := 5) (ls' := [(4, zI ((v4 + 1))), (3, zI x_5), (2, zI v4), (5, zI x_5), (0, zR 50), (1, zI v1)]) dX12_pick_77 rfl (by decide) z_9 rfl ?_
        refine Z.goto 29 dX12_pick_80 rfl ?_
        refine Z.pick (ls' := [(0, zR 50), (1, zI v1), (2, zI v4), (3, zI x_5), (4, zI ((v4 + 1)))]) [4, 5, 2, 1, 0] rfl ?_
        exact K
      · replace K := K.2 c_8
        refine Z.iload_n (k := 2) dX12_pick_61 rfl ?_
        refine Z.if_ne 77 dX12_pick_62 rfl ⟨fun c_10 => ?_, fun c_10 => ?_⟩
        · replace K := K.1 c_10
          obtain ⟨z_11, K⟩ := K
          refine Z.iinc (k := 5) (ls' := [(4, zI ((v4 + 1))), (5, zI x_5), (0, zR 50), (1, zI v1), (2, zI v2), (3, zI v3)]) dX12_pick_77 rfl (by decide) z_11 rfl ?_
          refine Z.goto 29 dX12_pick_80 rfl ?_
          refine Z.pick (ls' := [(0, zR 50), (1, zI v1), (2, zI v2), (3, zI v3), (4, zI ((v4 + 1)))]) [2, 3, 4, 5, 0] rfl ?_
          exact K
        · replace K := K.2 c_10
          refine Z.iload (k := 0) dX12_pick_65 rfl ?_
          refine Z.iload_n (k := 4) dX12_pick_67 rfl ?_
          refine Z.icmp_ge 77 dX12_pick_68 rfl ⟨fun c_12 => ?_, fun c_12 => ?_⟩
          · replace K := K.1 c_12
            obtain ⟨z_13, K⟩ := K
            refine Z.iinc (k := 5) (ls' := [(4, zI ((v4 + 1))), (5, zI x_5), (0, zR 50), (1, zI v1), (2, zI v2), (3, zI v3)]) dX12_pick_77 rfl (by decide) z_13 rfl ?_
            refine Z.goto 29 dX12_pick_80 rfl ?_
            refine Z.pick (ls' := [(0, zR 50), (1, zI v1), (2, zI v2), (3, zI v3), (4, zI ((v4 + 1)))]) [2, 3, 4, 5, 0] rfl ?_
            exact K
          · replace K := K.2 c_12
            refine Z.iload (k := 5) dX12_pick_71 rfl ?_
            refine Z.istore_n (ls' := [(2, zI v4), (5, zI x_5), (0, zR 50), (1, zI v1), (3, zI v3), (4, zI v4)]) dX12_pick_73 (by decide) rfl ?_
            refine Z.iload (k := 1) dX12_pick_74 rfl ?_
            refine Z.istore_n (ls' := [(3, zI x_5), (2, zI v4), (5, zI x_5), (0, zR 50), (1, zI v1), (4, zI v4)]) dX12_pick_76 (by decide) rfl ?_
            obtain ⟨z_14, K⟩ := K
            refine Z.iinc (k := 5) (ls' := [(4, zI ((v4 + 1))), (3, zI x_5), (2, zI v4), (5, zI x_5), (0, zR 50), (1, zI v1)]) dX12_pick_77 rfl (by decide) z_14 rfl ?_
            refine Z.goto 29 dX12_pick_80 rfl ?_
            refine Z.pick (ls' := [(0, zR 50), (1, zI v1), (2, zI v4), (3, zI x_5), (4, zI ((v4 + 1)))]) [4, 5, 2, 1, 0] rfl ?_
            exact K
set_option maxRecDepth 20000 in
theorem X12_run_0 {kz : Nat × Nat} {Q : Option zV → zH → Prop} {d : List Nat} {G : Nat → Int → Option Nat} {E : Nat → Int → Int} {v1 : Int} (hM : zK zMt d G) (K : ∃ x_1, zM zm_X12_in [zI v1, zI 1, zI 200] (d, G, E) (some (zI x_1)) (d, G, E) ∧ (x_1 ≠ 0 → Z zm_X12_run kz Q 16 [(0, zR 50), (1, zI v1), (2, zI 0)] [] (d, G, E)) ∧ (¬ (x_1 ≠ 0) → Q (some (zI ((-2)))) (d, G, E))) : Z zm_X12_run kz Q 0 [(0, zR 50), (1, zI v1)] [] (d, G, E) := by
  refine Z.iload_n (k := 1) dX12_run_0 rfl ?_
  refine Z.iconst (n := 1) dX12_run_1 ⟨by decide, by decide⟩ ?_
  refine Z.sipush (n := 200) dX12_run_2 ⟨by decide, by decide⟩ (by decide) ?_
  obtain ⟨x_1, m_2, K⟩ := K
  refine Y.callS (g := zm_X12_in) (vs := [zI v1, zI 1, zI 200]) (st := []) dX12_run_5 ⟨zg_X12_in.1, zg_X12_in.2.1, zg_X12_in.2.2, by decide⟩ ⟨Or.inl zk_X12_138, zs_X12_in⟩ rfl rfl (Nat.le_of_ble_eq_true rfl) m_2 (Or.inl rfl) ?_
  show Z zm_X12_run kz Q 8 [(0, zR 50), (1, zI v1)] [zI x_1] (d, G, E)
  refine Z.if_ne 14 dX12_run_8 rfl ⟨fun c_4 => ?_, fun c_4 => ?_⟩
  · replace K := K.1 c_4
    refine Z.iconst (n := 0) dX12_run_14 ⟨by decide, by decide⟩ ?_
    refine Z.istore_n (ls' := [(2, zI 0), (0, zR 50), (1, zI v1)]) dX12_run_15 (by decide) rfl ?_
    refine Z.pick (ls' := [(0, zR 50), (1, zI v1), (2, zI 0)]) [1, 2, 0] rfl ?_
    exact K
  · replace K := K.2 c_4
    refine Z.bipush (n := -2) dX12_run_11 ⟨by decide, by decide⟩ (by decide) ?_
    exact Z.iret (ty := .int) dX12_run_13 rfl rfl K
set_option maxRecDepth 20000 in
theorem X12_run_16 {kz : Nat × Nat} {Q : Option zV → zH → Prop} {d : List Nat} {G : Nat → Int → Option Nat} {E : Nat → Int → Int} {v1 : Int} {v2 : Int} (hM : zK zMt d G) (K : (v1 ≤ v2 → Q (some (zI ((E 50 54)))) (d, G, E)) ∧ (¬ (v1 ≤ v2) → ((E 50 54) ≠ 0 → Q (some (zI ((E 50 54)))) (d, G, E)) ∧ (¬ ((E 50 54) ≠ 0) → ∃ x_3, zM zm_X12_pick [zR 50] (d, G, E) (some (zI x_3)) (d, G, E) ∧ (x_3 ≠ (-1) → zin ((E 50 55) + 1) ∧ ∀ E_8, E_8 = zuE E 50 55 (((E 50 55) + 1)) → ((0 : Int) ≤ x_3 ∧ x_3 < (150 : Int)) ∧ ∀ E_10, E_10 = zuE E_8 62 x_3 1 → ∃ E_11, zM zm_X12_works [zR 50, zI x_3] (d, G, E_10) none (d, G, E_11) ∧ zin (v2 + 1) ∧ Z zm_X12_run kz Q 16 [(0, zR 50), (1, zI v1), (2, zI ((v2 + 1)))] [] (d, G, E_11)) ∧ (¬ (x_3 ≠ (-1)) → ∀ E_15, E_15 = zuE E 50 54 2 → zin (v2 + 1) ∧ Z zm_X12_run kz Q 16 [(0, zR 50), (1, zI v1), (2, zI ((v2 + 1)))] [] (d, G, E_15))))) : Z zm_X12_run kz Q 16 [(0, zR 50), (1, zI v1), (2, zI v2)] [] (d, G, E) := by
  refine Z.iload_n (k := 2) dX12_run_16 rfl ?_
  refine Z.iload_n (k := 1) dX12_run_17 rfl ?_
  refine Z.icmp_ge 74 dX12_run_18 rfl ⟨fun c_1 => ?_, fun c_1 => ?_⟩
  · replace K := K.1 c_1
    refine Z.aload_n (k := 0) dX12_run_74 rfl ?_
    refine Y.getI 54 dX12_run_75 zl_X12_337 (rfl) (by decide) rfl (zM_1 hM).2.1 ?_
    exact Z.iret (ty := .int) dX12_run_78 rfl rfl K
  · replace K := K.2 c_1
    refine Z.aload_n (k := 0) dX12_run_21 rfl ?_
    refine Y.getI 54 dX12_run_22 zl_X12_337 (rfl) (by decide) rfl (zM_1 hM).2.1 ?_
    refine Z.if_ne 74 dX12_run_25 rfl ⟨fun c_2 => ?_, fun c_2 => ?_⟩
    · replace K := K.1 c_2
      refine Z.aload_n (k := 0) dX12_run_74 rfl ?_
      refine Y.getI 54 dX12_run_75 zl_X12_337 (rfl) (by decide) rfl (zM_1 hM).2.1 ?_
      exact Z.iret (ty := .int) dX12_run_78 rfl rfl K
    · replace K := K.2 c_2
      refine Z.aload_n (k := 0) dX12_run_28 rfl ?_
      obtain ⟨x_3, m_4, K⟩ := K
      refine Y.callV (g := zm_X12_pick) (vs := []) (st := []) dX12_run_29 ⟨zg_X12_pick.1, zg_X12_pick.2.1, zg_X12_pick.2.2, by decide⟩ ⟨zk_X12_374, zv_X12_pick⟩ (ci := 12) (rfl) rfl ((zM_1 hM).2.1) rfl rfl (Nat.le_of_ble_eq_true rfl) m_4 (Or.inl rfl) ?_
      show Z zm_X12_run kz Q 32 [(0, zR 50), (1, zI v1), (2, zI v2)] [zI x_3] (d, G, E)
      refine Z.istore_n (ls' := [(3, zI x_3), (0, zR 50), (1, zI v1), (2, zI v2)]) dX12_run_32 (by decide) rfl ?_
      refine Z.iload_n (k := 0) dX12_run_33 rfl ?_
      refine Z.iconst (n := -1) dX12_run_34 ⟨by decide, by decide⟩ ?_
      refine Z.icmp_ne 46 dX12_run_35 rfl ⟨fun c_6 => ?_, fun c_6 => ?_⟩
      · replace K := K.1 c_6
        refine Z.aload_n (k := 1) dX12_run_46 rfl ?_
        refine Z.dup_i dX12_run_47 (fun _ => rfl) ?_
        refine Y.getI 55 dX12_run_48 zl_X12_368 (rfl) (by decide) rfl (zM_1 hM).2.1 ?_
        refine Z.iconst (n := 1) dX12_run_51 ⟨by decide, by decide⟩ ?_
        obtain ⟨z_7, K⟩ := K
        refine Z.iadd dX12_run_52 z_7 ?_
        refine Y.putI 55 dX12_run_53 zw_X12_368 (fun q => by cases q) (rfl) rfl (zM_1 hM).2.1 (Or.inl rfl) ?_
        generalize eE_8 : zuE E 50 55 (((E 50 55) + 1)) = E_8
        replace K := K E_8 eE_8.symm
        refine Z.aload_n (k := 1) dX12_run_56 rfl ?_
        refine Y.getR (o := some 62) 11 dX12_run_57 zl_X12_39 (rfl) (by decide) rfl (zM_1 hM).2.1 (zM_11 hM).1 ?_
        refine Z.iload_n (k := 0) dX12_run_60 rfl ?_
        refine Z.iconst (n := 1) dX12_run_61 ⟨by decide, by decide⟩ ?_
        obtain ⟨z_9, K⟩ := K
        refine Y.iast dX12_run_62 (rfl) ((zM_11 hM).2.2) z_9 ?_
        generalize eE_10 : zuE E_8 62 x_3 1 = E_10
        replace K := K E_10 eE_10.symm
        refine Z.aload_n (k := 1) dX12_run_63 rfl ?_
        refine Z.iload_n (k := 0) dX12_run_64 rfl ?_
        obtain ⟨E_11, m_12, K⟩ := K
        refine Y.callV (g := zm_X12_works) (vs := [zI x_3]) (st := []) dX12_run_65 ⟨zg_X12_works.1, zg_X12_works.2.1, zg_X12_works.2.2, by decide⟩ ⟨zk_X12_378, zv_X12_works⟩ (ci := 12) (rfl) rfl ((zM_1 hM).2.1) rfl rfl (Nat.le_of_ble_eq_true rfl) m_12 (Or.inl rfl) ?_
        show Z zm_X12_run kz Q 68 [(3, zI x_3), (0, zR 50), (1, zI v1), (2, zI v2)] [] (d, G, E_11)
        obtain ⟨z_14, K⟩ := K
        refine Z.iinc (k := 3) (ls' := [(2, zI ((v2 + 1))), (3, zI x_3), (0, zR 50), (1, zI v1)]) dX12_run_68 rfl (by decide) z_14 rfl ?_
        refine Z.goto 16 dX12_run_71 rfl ?_
        refine Z.pick (ls' := [(0, zR 50), (1, zI v1), (2, zI ((v2 + 1)))]) [2, 3, 0] rfl ?_
        exact K
      · replace K := K.2 c_6
        refine Z.aload_n (k := 1) dX12_run_38 rfl ?_
        refine Z.iconst (n := 2) dX12_run_39 ⟨by decide, by decide⟩ ?_
        refine Y.putI 54 dX12_run_40 zw_X12_337 (fun q => by cases q) (rfl) rfl (zM_1 hM).2.1 (Or.inl rfl) ?_
        generalize eE_15 : zuE E 50 54 2 = E_15
        replace K := K E_15 eE_15.symm
        refine Z.goto 68 dX12_run_43 rfl ?_
        obtain ⟨z_16, K⟩ := K
        refine Z.iinc (k := 3) (ls' := [(2, zI ((v2 + 1))), (3, zI x_3), (0, zR 50), (1, zI v1)]) dX12_run_68 rfl (by decide) z_16 rfl ?_
        refine Z.goto 16 dX12_run_71 rfl ?_
        refine Z.pick (ls' := [(0, zR 50), (1, zI v1), (2, zI ((v2 + 1)))]) [2, 3, 0] rfl ?_
        exact K
set_option maxRecDepth 20000 in
theorem X12_clear_0 {kz : Nat × Nat} {Q : Option zV → zH → Prop} {d : List Nat} {G : Nat → Int → Option Nat} {E : Nat → Int → Int}  (hM : zK zMt d G) (K : ∀ E_1, E_1 = zuE E 50 6 0 → ∀ E_2, E_2 = zuE E_1 50 54 0 → ∀ E_3, E_3 = zuE E_2 50 55 0 → Q (some (zI ((E 50 6)))) (d, G, E_3)) : Z zm_X12_clear kz Q 0 [(0, zR 50)] [] (d, G, E) := by
  refine Z.aload_n (k := 0) dX12_clear_0 rfl ?_
  refine Y.getI 6 dX12_clear_1 zl_X12_142 (rfl) (by decide) rfl (zM_1 hM).2.1 ?_
  refine Z.istore_n (ls' := [(1, zI ((E 50 6))), (0, zR 50)]) dX12_clear_4 (by decide) rfl ?_
  refine Z.aload_n (k := 1) dX12_clear_5 rfl ?_
  refine Z.iconst (n := 0) dX12_clear_6 ⟨by decide, by decide⟩ ?_
  refine Y.putI 6 dX12_clear_7 zw_X12_142 (fun q => by cases q) (rfl) rfl (zM_1 hM).2.1 (Or.inl rfl) ?_
  generalize eE_1 : zuE E 50 6 0 = E_1
  replace K := K E_1 eE_1.symm
  refine Z.aload_n (k := 1) dX12_clear_10 rfl ?_
  refine Z.iconst (n := 0) dX12_clear_11 ⟨by decide, by decide⟩ ?_
  refine Y.putI 54 dX12_clear_12 zw_X12_337 (fun q => by cases q) (rfl) rfl (zM_1 hM).2.1 (Or.inl rfl) ?_
  generalize eE_2 : zuE E_1 50 54 0 = E_2
  replace K := K E_2 eE_2.symm
  refine Z.aload_n (k := 1) dX12_clear_15 rfl ?_
  refine Z.iconst (n := 0) dX12_clear_16 ⟨by decide, by decide⟩ ?_
  refine Y.putI 55 dX12_clear_17 zw_X12_368 (fun q => by cases q) (rfl) rfl (zM_1 hM).2.1 (Or.inl rfl) ?_
  generalize eE_3 : zuE E_2 50 55 0 = E_3
  replace K := K E_3 eE_3.symm
  refine Z.iload_n (k := 0) dX12_clear_20 rfl ?_
  exact Z.iret (ty := .int) dX12_clear_21 rfl rfl K
set_option maxRecDepth 20000 in
theorem X12_hasNumber_0 {kz : Nat × Nat} {Q : Option zV → zH → Prop} {d : List Nat} {G : Nat → Int → Option Nat} {E : Nat → Int → Int} {v0 : Int} {v1 : Int} (hM : zK zMt d G) (K : (v0 = 1 → ∃ x_2, zM zm_X12_in [zI v1, zI 1, zI 3] (d, G, E) (some (zI x_2)) (d, G, E) ∧ (x_2 = 0 ∨ x_2 = 1) ∧ Q (some (zI x_2)) (d, G, E)) ∧ (v0 = 2 → ∃ x_6, zM zm_X12_in [zI v1, zI 1, zI 3] (d, G, E) (some (zI x_6)) (d, G, E) ∧ (x_6 = 0 ∨ x_6 = 1) ∧ Q (some (zI x_6)) (d, G, E)) ∧ (v0 = 3 → (v1 ≠ 1 → Q (some (zI 0)) (d, G, E)) ∧ (¬ (v1 ≠ 1) → Q (some (zI 1)) (d, G, E))) ∧ (v0 = 4 → ∃ x_12, zM zm_X12_in [zI v1, zI 1, zI 6] (d, G, E) (some (zI x_12)) (d, G, E) ∧ (x_12 = 0 ∨ x_12 = 1) ∧ Q (some (zI x_12)) (d, G, E)) ∧ ((v0 < 1 ∨ 4 < v0) → Q (some (zI 0)) (d, G, E))) : Z zm_X12_hasNumber kz Q 0 [(0, zI v0), (1, zI v1)] [] (d, G, E) := by
  refine Z.iload_n (k := 0) dX12_hasNumber_0 rfl ?_
  by_cases c_1 : v0 = 1
  · replace K := K.1 c_1
    refine Z.tableIn (off := 31) 32 dX12_hasNumber_1 (by omega) (by omega) (by rw [c_1]; rfl) rfl ?_
    refine Z.iload_n (k := 1) dX12_hasNumber_32 rfl ?_
    refine Z.iconst (n := 1) dX12_hasNumber_33 ⟨by decide, by decide⟩ ?_
    refine Z.iconst (n := 3) dX12_hasNumber_34 ⟨by decide, by decide⟩ ?_
    obtain ⟨x_2, m_3, K⟩ := K
    refine Y.callS (g := zm_X12_in) (vs := [zI v1, zI 1, zI 3]) (st := []) dX12_hasNumber_35 ⟨zg_X12_in.1, zg_X12_in.2.1, zg_X12_in.2.2, by decide⟩ ⟨Or.inl zk_X12_138, zs_X12_in⟩ rfl rfl (Nat.le_of_ble_eq_true rfl) m_3 (Or.inl rfl) ?_
    show Z zm_X12_hasNumber kz Q 38 [(0, zI v0), (1, zI v1)] [zI x_2] (d, G, E)
    exact Z.iret (ty := .boolean) dX12_hasNumber_38 rfl (by rcases K.1 with e | e <;> rw [e] <;> rfl) K.2
  replace K := K.2
  by_cases c_5 : v0 = 2
  · replace K := K.1 c_5
    refine Z.tableIn (off := 31) 32 dX12_hasNumber_1 (by omega) (by omega) (by rw [c_5]; rfl) rfl ?_
    refine Z.iload_n (k := 1) dX12_hasNumber_32 rfl ?_
    refine Z.iconst (n := 1) dX12_hasNumber_33 ⟨by decide, by decide⟩ ?_
    refine Z.iconst (n := 3) dX12_hasNumber_34 ⟨by decide, by decide⟩ ?_
    obtain ⟨x_6, m_7, K⟩ := K
    refine Y.callS (g := zm_X12_in) (vs := [zI v1, zI 1, zI 3]) (st := []) dX12_hasNumber_35 ⟨zg_X12_in.1, zg_X12_in.2.1, zg_X12_in.2.2, by decide⟩ ⟨Or.inl zk_X12_138, zs_X12_in⟩ rfl rfl (Nat.le_of_ble_eq_true rfl) m_7 (Or.inl rfl) ?_
    show Z zm_X12_hasNumber kz Q 38 [(0, zI v0), (1, zI v1)] [zI x_6] (d, G, E)
    exact Z.iret (ty := .boolean) dX12_hasNumber_38 rfl (by rcases K.1 with e | e <;> rw [e] <;> rfl) K.2
  replace K := K.2
  by_cases c_9 : v0 = 3
  · replace K := K.1 c_9
    refine Z.tableIn (off := 38) 39 dX12_hasNumber_1 (by omega) (by omega) (by rw [c_9]; rfl) rfl ?_
    refine Z.iload_n (k := 1) dX12_hasNumber_39 rfl ?_
    refine Z.iconst (n := 1) dX12_hasNumber_40 ⟨by decide, by decide⟩ ?_
    refine Z.icmp_ne 48 dX12_hasNumber_41 rfl ⟨fun c_10 => ?_, fun c_10 => ?_⟩
    · replace K := K.1 c_10
      refine Z.iconst (n := 0) dX12_hasNumber_48 ⟨by decide, by decide⟩ ?_
      exact Z.iret (ty := .boolean) dX12_hasNumber_49 rfl rfl K
    · replace K := K.2 c_10
      refine Z.iconst (n := 1) dX12_hasNumber_44 ⟨by decide, by decide⟩ ?_
      refine Z.goto 49 dX12_hasNumber_45 rfl ?_
      exact Z.iret (ty := .boolean) dX12_hasNumber_49 rfl rfl K
  replace K := K.2
  by_cases c_11 : v0 = 4
  · replace K := K.1 c_11
    refine Z.tableIn (off := 49) 50 dX12_hasNumber_1 (by omega) (by omega) (by rw [c_11]; rfl) rfl ?_
    refine Z.iload_n (k := 1) dX12_hasNumber_50 rfl ?_
    refine Z.iconst (n := 1) dX12_hasNumber_51 ⟨by decide, by decide⟩ ?_
    refine Z.bipush (n := 6) dX12_hasNumber_52 ⟨by decide, by decide⟩ (by decide) ?_
    obtain ⟨x_12, m_13, K⟩ := K
    refine Y.callS (g := zm_X12_in) (vs := [zI v1, zI 1, zI 6]) (st := []) dX12_hasNumber_54 ⟨zg_X12_in.1, zg_X12_in.2.1, zg_X12_in.2.2, by decide⟩ ⟨Or.inl zk_X12_138, zs_X12_in⟩ rfl rfl (Nat.le_of_ble_eq_true rfl) m_13 (Or.inl rfl) ?_
    show Z zm_X12_hasNumber kz Q 57 [(0, zI v0), (1, zI v1)] [zI x_12] (d, G, E)
    exact Z.iret (ty := .boolean) dX12_hasNumber_57 rfl (by rcases K.1 with e | e <;> rw [e] <;> rfl) K.2
  replace K := K.2
  have hd0 : v0 < 1 ∨ 4 < v0 := by omega
  replace K := K hd0
  refine Z.tableOut 58 dX12_hasNumber_1 hd0 rfl ?_
  refine Z.iconst (n := 0) dX12_hasNumber_58 ⟨by decide, by decide⟩ ?_
  exact Z.iret (ty := .boolean) dX12_hasNumber_59 rfl rfl K
set_option maxRecDepth 20000 in
theorem X12_isClaim_0 {kz : Nat × Nat} {Q : Option zV → zH → Prop} {d : List Nat} {G : Nat → Int → Option Nat} {E : Nat → Int → Int} {v1 : Int} (hM : zK zMt d G) (K : zin ((E 50 6) - 1) ∧ ∃ x_2, zM zm_X12_in [zI v1, zI 0, zI (((E 50 6) - 1))] (d, G, E) (some (zI x_2)) (d, G, E) ∧ (x_2 = 0 ∨ x_2 = 1) ∧ Q (some (zI x_2)) (d, G, E)) : Z zm_X12_isClaim kz Q 0 [(0, zR 50), (1, zI v1)] [] (d, G, E) := by
  refine Z.iload_n (k := 1) dX12_isClaim_0 rfl ?_
  refine Z.iconst (n := 0) dX12_isClaim_1 ⟨by decide, by decide⟩ ?_
  refine Z.aload_n (k := 0) dX12_isClaim_2 rfl ?_
  refine Y.getI 6 dX12_isClaim_3 zl_X12_142 (rfl) (by decide) rfl (zM_1 hM).2.1 ?_
  refine Z.iconst (n := 1) dX12_isClaim_6 ⟨by decide, by decide⟩ ?_
  obtain ⟨z_1, K⟩ := K
  refine Z.isub dX12_isClaim_7 z_1 ?_
  obtain ⟨x_2, m_3, K⟩ := K
  refine Y.callS (g := zm_X12_in) (vs := [zI v1, zI 0, zI (((E 50 6) - 1))]) (st := []) dX12_isClaim_8 ⟨zg_X12_in.1, zg_X12_in.2.1, zg_X12_in.2.2, by decide⟩ ⟨Or.inl zk_X12_138, zs_X12_in⟩ rfl rfl (Nat.le_of_ble_eq_true rfl) m_3 (Or.inl rfl) ?_
  show Z zm_X12_isClaim kz Q 11 [(0, zR 50), (1, zI v1)] [zI x_2] (d, G, E)
  exact Z.iret (ty := .boolean) dX12_isClaim_11 rfl (by rcases K.1 with e | e <;> rw [e] <;> rfl) K.2
set_option maxRecDepth 20000 in
theorem X12_step_0 {kz : Nat × Nat} {Q : Option zV → zH → Prop} {d : List Nat} {G : Nat → Int → Option Nat} {E : Nat → Int → Int} {v1 : Int} {v2 : Int} (hM : zK zMt d G) (K : ∃ x_1, zM zm_X12_isClaim [zR 50, zI v1] (d, G, E) (some (zI x_1)) (d, G, E) ∧ (x_1 ≠ 0 → (v2 ≠ 0 → ∃ x_6, zM zm_X12_in [zI v2, zI 1, zI 6] (d, G, E) (some (zI x_6)) (d, G, E) ∧ (x_6 = 0 → (v2 ≠ 10 → ((0 : Int) ≤ v1 ∧ v1 < (150 : Int)) ∧ zin (4 * (E 70 v1)) ∧ zin (10 + (4 * (E 70 v1))) ∧ ∃ x_14, zM zm_X12_in [zI v2, zI 11, zI ((10 + (4 * (E 70 v1))))] (d, G, E) (some (zI x_14)) (d, G, E) ∧ (x_14 = 0 → Q (some (zI ((-2147483648)))) (d, G, E)) ∧ (¬ (x_14 = 0) → zin (32 * v1) ∧ zin ((32 * v1) + v2) ∧ zin (((32 * v1) + v2) - 11) ∧ ((0 : Int) ≤ (((32 * v1) + v2) - 11) ∧ (((32 * v1) + v2) - 11) < (4800 : Int)) ∧ Q (some (zI ((E 71 (((32 * v1) + v2) - 11))))) (d, G, E))) ∧ (¬ (v2 ≠ 10) → ((0 : Int) ≤ v1 ∧ v1 < (150 : Int)) ∧ Q (some (zI ((E 70 v1)))) (d, G, E))) ∧ (¬ (x_6 = 0) → zin (7 * v1) ∧ ((0 : Int) ≤ (7 * v1) ∧ (7 * v1) < (1050 : Int)) ∧ ∃ x_25, zM zm_X12_hasNumber [zI ((E 69 (7 * v1))), zI v2] (d, G, E) (some (zI x_25)) (d, G, E) ∧ (x_25 = 0 → Q (some (zI 0)) (d, G, E)) ∧ (¬ (x_25 = 0) → zin (7 * v1) ∧ zin ((7 * v1) + v2) ∧ ((0 : Int) ≤ ((7 * v1) + v2) ∧ ((7 * v1) + v2) < (1050 : Int)) ∧ Q (some (zI ((E 69 ((7 * v1) + v2))))) (d, G, E)))) ∧ (¬ (v2 ≠ 0) → zin (7 * v1) ∧ ((0 : Int) ≤ (7 * v1) ∧ (7 * v1) < (1050 : Int)) ∧ Q (some (zI ((E 69 (7 * v1))))) (d, G, E))) ∧ (¬ (x_1 ≠ 0) → Q (some (zI ((-2147483648)))) (d, G, E))) : Z zm_X12_step kz Q 0 [(0, zR 50), (1, zI v1), (2, zI v2)] [] (d, G, E) := by
  refine Z.aload_n (k := 0) dX12_step_0 rfl ?_
  refine Z.iload_n (k := 1) dX12_step_1 rfl ?_
  obtain ⟨x_1, m_2, K⟩ := K
  refine Y.callV (g := zm_X12_isClaim) (vs := [zI v1]) (st := []) dX12_step_2 ⟨zg_X12_isClaim.1, zg_X12_isClaim.2.1, zg_X12_isClaim.2.2, by decide⟩ ⟨zk_X12_380, zv_X12_isClaim⟩ (ci := 12) (rfl) rfl ((zM_1 hM).2.1) rfl rfl (Nat.le_of_ble_eq_true rfl) m_2 (Or.inl rfl) ?_
  show Z zm_X12_step kz Q 5 [(0, zR 50), (1, zI v1), (2, zI v2)] [zI x_1] (d, G, E)
  refine Z.if_ne 12 dX12_step_5 rfl ⟨fun c_4 => ?_, fun c_4 => ?_⟩
  · replace K := K.1 c_4
    refine Z.iload_n (k := 2) dX12_step_12 rfl ?_
    refine Z.if_ne 26 dX12_step_13 rfl ⟨fun c_5 => ?_, fun c_5 => ?_⟩
    · replace K := K.1 c_5
      refine Z.iload_n (k := 2) dX12_step_26 rfl ?_
      refine Z.iconst (n := 1) dX12_step_27 ⟨by decide, by decide⟩ ?_
      refine Z.bipush (n := 6) dX12_step_28 ⟨by decide, by decide⟩ (by decide) ?_
      obtain ⟨x_6, m_7, K⟩ := K
      refine Y.callS (g := zm_X12_in) (vs := [zI v2, zI 1, zI 6]) (st := []) dX12_step_30 ⟨zg_X12_in.1, zg_X12_in.2.1, zg_X12_in.2.2, by decide⟩ ⟨Or.inl zk_X12_138, zs_X12_in⟩ rfl rfl (Nat.le_of_ble_eq_true rfl) m_7 (Or.inl rfl) ?_
      show Z zm_X12_step kz Q 33 [(0, zR 50), (1, zI v1), (2, zI v2)] [zI x_6] (d, G, E)
      refine Z.if_eq 68 dX12_step_33 rfl ⟨fun c_9 => ?_, fun c_9 => ?_⟩
      · replace K := K.1 c_9
        refine Z.iload_n (k := 2) dX12_step_68 rfl ?_
        refine Z.bipush (n := 10) dX12_step_69 ⟨by decide, by decide⟩ (by decide) ?_
        refine Z.icmp_ne 81 dX12_step_71 rfl ⟨fun c_10 => ?_, fun c_10 => ?_⟩
        · replace K := K.1 c_10
          refine Z.iload_n (k := 2) dX12_step_81 rfl ?_
          refine Z.bipush (n := 11) dX12_step_82 ⟨by decide, by decide⟩ (by decide) ?_
          refine Z.bipush (n := 10) dX12_step_84 ⟨by decide, by decide⟩ (by decide) ?_
          refine Z.iconst (n := 4) dX12_step_86 ⟨by decide, by decide⟩ ?_
          refine Z.aload_n (k := 0) dX12_step_87 rfl ?_
          refine Y.getR (o := some 70) 19 dX12_step_88 zl_X12_63 (rfl) (by decide) rfl (zM_1 hM).2.1 (zM_19 hM).1 ?_
          refine Z.iload_n (k := 1) dX12_step_91 rfl ?_
          obtain ⟨z_11, K⟩ := K
          refine Y.iald dX12_step_92 (rfl) ((zM_19 hM).2.2) z_11 ?_
          obtain ⟨z_12, K⟩ := K
          refine Z.imul dX12_step_93 z_12 ?_
          obtain ⟨z_13, K⟩ := K
          refine Z.iadd dX12_step_94 z_13 ?_
          obtain ⟨x_14, m_15, K⟩ := K
          refine Y.callS (g := zm_X12_in) (vs := [zI v2, zI 11, zI ((10 + (4 * (E 70 v1))))]) (st := []) dX12_step_95 ⟨zg_X12_in.1, zg_X12_in.2.1, zg_X12_in.2.2, by decide⟩ ⟨Or.inl zk_X12_138, zs_X12_in⟩ rfl rfl (Nat.le_of_ble_eq_true rfl) m_15 (Or.inl rfl) ?_
          show Z zm_X12_step kz Q 98 [(0, zR 50), (1, zI v1), (2, zI v2)] [zI x_14] (d, G, E)
          refine Z.if_eq 118 dX12_step_98 rfl ⟨fun c_17 => ?_, fun c_17 => ?_⟩
          · replace K := K.1 c_17
            refine Z.ldc_w (n := -2147483648) dX12_step_118 ⟨by decide, by decide⟩ zq_X12_383 ?_
            exact Z.iret (ty := .int) dX12_step_121 rfl rfl K
          · replace K := K.2 c_17
            refine Z.aload_n (k := 0) dX12_step_101 rfl ?_
            refine Y.getR (o := some 71) 20 dX12_step_102 zl_X12_66 (rfl) (by decide) rfl (zM_1 hM).2.1 (zM_20 hM).1 ?_
            refine Z.bipush (n := 32) dX12_step_105 ⟨by decide, by decide⟩ (by decide) ?_
            refine Z.iload_n (k := 1) dX12_step_107 rfl ?_
            obtain ⟨z_18, K⟩ := K
            refine Z.imul dX12_step_108 z_18 ?_
            refine Z.iload_n (k := 2) dX12_step_109 rfl ?_
            obtain ⟨z_19, K⟩ := K
            refine Z.iadd dX12_step_110 z_19 ?_
            refine Z.bipush (n := 11) dX12_step_111 ⟨by decide, by decide⟩ (by decide) ?_
            obtain ⟨z_20, K⟩ := K
            refine Z.isub dX12_step_113 z_20 ?_
            obtain ⟨z_21, K⟩ := K
            refine Y.iald dX12_step_114 (rfl) ((zM_20 hM).2.2) z_21 ?_
            refine Z.goto 121 dX12_step_115 rfl ?_
            exact Z.iret (ty := .int) dX12_step_121 rfl rfl K
        · replace K := K.2 c_10
          refine Z.aload_n (k := 0) dX12_step_74 rfl ?_
          refine Y.getR (o := some 70) 19 dX12_step_75 zl_X12_63 (rfl) (by decide) rfl (zM_1 hM).2.1 (zM_19 hM).1 ?_
          refine Z.iload_n (k := 1) dX12_step_78 rfl ?_
          obtain ⟨z_22, K⟩ := K
          refine Y.iald dX12_step_79 (rfl) ((zM_19 hM).2.2) z_22 ?_
          exact Z.iret (ty := .int) dX12_step_80 rfl rfl K
      · replace K := K.2 c_9
        refine Z.aload_n (k := 0) dX12_step_36 rfl ?_
        refine Y.getR (o := some 69) 18 dX12_step_37 zl_X12_60 (rfl) (by decide) rfl (zM_1 hM).2.1 (zM_18 hM).1 ?_
        refine Z.bipush (n := 7) dX12_step_40 ⟨by decide, by decide⟩ (by decide) ?_
        refine Z.iload_n (k := 1) dX12_step_42 rfl ?_
        obtain ⟨z_23, K⟩ := K
        refine Z.imul dX12_step_43 z_23 ?_
        obtain ⟨z_24, K⟩ := K
        refine Y.iald dX12_step_44 (rfl) ((zM_18 hM).2.2) z_24 ?_
        refine Z.iload_n (k := 2) dX12_step_45 rfl ?_
        obtain ⟨x_25, m_26, K⟩ := K
        refine Y.callS (g := zm_X12_hasNumber) (vs := [zI ((E 69 (7 * v1))), zI v2]) (st := []) dX12_step_46 ⟨zg_X12_hasNumber.1, zg_X12_hasNumber.2.1, zg_X12_hasNumber.2.2, by decide⟩ ⟨Or.inl zk_X12_384, zs_X12_hasNumber⟩ rfl rfl (Nat.le_of_ble_eq_true rfl) m_26 (Or.inl rfl) ?_
        show Z zm_X12_step kz Q 49 [(0, zR 50), (1, zI v1), (2, zI v2)] [zI x_25] (d, G, E)
        refine Z.if_eq 66 dX12_step_49 rfl ⟨fun c_28 => ?_, fun c_28 => ?_⟩
        · replace K := K.1 c_28
          refine Z.iconst (n := 0) dX12_step_66 ⟨by decide, by decide⟩ ?_
          exact Z.iret (ty := .int) dX12_step_67 rfl rfl K
        · replace K := K.2 c_28
          refine Z.aload_n (k := 0) dX12_step_52 rfl ?_
          refine Y.getR (o := some 69) 18 dX12_step_53 zl_X12_60 (rfl) (by decide) rfl (zM_1 hM).2.1 (zM_18 hM).1 ?_
          refine Z.bipush (n := 7) dX12_step_56 ⟨by decide, by decide⟩ (by decide) ?_
          refine Z.iload_n (k := 1) dX12_step_58 rfl ?_
          obtain ⟨z_29, K⟩ := K
          refine Z.imul dX12_step_59 z_29 ?_
          refine Z.iload_n (k := 2) dX12_step_60 rfl ?_
          obtain ⟨z_30, K⟩ := K
          refine Z.iadd dX12_step_61 z_30 ?_
          obtain ⟨z_31, K⟩ := K
          refine Y.iald dX12_step_62 (rfl) ((zM_18 hM).2.2) z_31 ?_
          refine Z.goto 67 dX12_step_63 rfl ?_
          exact Z.iret (ty := .int) dX12_step_67 rfl rfl K
    · replace K := K.2 c_5
      refine Z.aload_n (k := 0) dX12_step_16 rfl ?_
      refine Y.getR (o := some 69) 18 dX12_step_17 zl_X12_60 (rfl) (by decide) rfl (zM_1 hM).2.1 (zM_18 hM).1 ?_
      refine Z.bipush (n := 7) dX12_step_20 ⟨by decide, by decide⟩ (by decide) ?_
      refine Z.iload_n (k := 1) dX12_step_22 rfl ?_
      obtain ⟨z_32, K⟩ := K
      refine Z.imul dX12_step_23 z_32 ?_
      obtain ⟨z_33, K⟩ := K
      refine Y.iald dX12_step_24 (rfl) ((zM_18 hM).2.2) z_33 ?_
      exact Z.iret (ty := .int) dX12_step_25 rfl rfl K
  · replace K := K.2 c_4
    refine Z.ldc_w (n := -2147483648) dX12_step_8 ⟨by decide, by decide⟩ zq_X12_383 ?_
    exact Z.iret (ty := .int) dX12_step_11 rfl rfl K
set_option maxRecDepth 20000 in
theorem X12_forge_0 {kz : Nat × Nat} {Q : Option zV → zH → Prop} {d : List Nat} {G : Nat → Int → Option Nat} {E : Nat → Int → Int} {v1 : Int} {v2 : Int} {v3 : Int} (hM : zK zMt d G) (K : ∃ x_1, zM zm_X12_isClaim [zR 50, zI v1] (d, G, E) (some (zI x_1)) (d, G, E) ∧ (x_1 ≠ 0 → zin (7 * v1) ∧ ((0 : Int) ≤ (7 * v1) ∧ (7 * v1) < (1050 : Int)) ∧ ∃ x_7, zM zm_X12_hasNumber [zI ((E 69 (7 * v1))), zI v2] (d, G, E) (some (zI x_7)) (d, G, E) ∧ (x_7 = 0 → ((0 : Int) ≤ v1 ∧ v1 < (150 : Int)) ∧ zin (4 * (E 70 v1)) ∧ zin (10 + (4 * (E 70 v1))) ∧ ∃ x_14, zM zm_X12_in [zI v2, zI 11, zI ((10 + (4 * (E 70 v1))))] (d, G, E) (some (zI x_14)) (d, G, E) ∧ (x_14 = 0 → Q (some (zI ((-2)))) (d, G, E)) ∧ (¬ (x_14 = 0) → zin (32 * v1) ∧ zin ((32 * v1) + v2) ∧ zin (((32 * v1) + v2) - 11) ∧ ((0 : Int) ≤ (((32 * v1) + v2) - 11) ∧ (((32 * v1) + v2) - 11) < (4800 : Int)) ∧ ∀ E_22, E_22 = zuE E 71 ((((32 * v1) + v2) - 11)) v3 → Q (some (zI 1)) (d, G, E_22))) ∧ (¬ (x_7 = 0) → zin (7 * v1) ∧ zin ((7 * v1) + v2) ∧ ((0 : Int) ≤ ((7 * v1) + v2) ∧ ((7 * v1) + v2) < (1050 : Int)) ∧ ∀ E_26, E_26 = zuE E 69 (((7 * v1) + v2)) v3 → Q (some (zI 1)) (d, G, E_26))) ∧ (¬ (x_1 ≠ 0) → Q (some (zI ((-2)))) (d, G, E))) : Z zm_X12_forge kz Q 0 [(0, zR 50), (1, zI v1), (2, zI v2), (3, zI v3)] [] (d, G, E) := by
  refine Z.aload_n (k := 0) dX12_forge_0 rfl ?_
  refine Z.iload_n (k := 1) dX12_forge_1 rfl ?_
  obtain ⟨x_1, m_2, K⟩ := K
  refine Y.callV (g := zm_X12_isClaim) (vs := [zI v1]) (st := []) dX12_forge_2 ⟨zg_X12_isClaim.1, zg_X12_isClaim.2.1, zg_X12_isClaim.2.2, by decide⟩ ⟨zk_X12_380, zv_X12_isClaim⟩ (ci := 12) (rfl) rfl ((zM_1 hM).2.1) rfl rfl (Nat.le_of_ble_eq_true rfl) m_2 (Or.inl rfl) ?_
  show Z zm_X12_forge kz Q 5 [(0, zR 50), (1, zI v1), (2, zI v2), (3, zI v3)] [zI x_1] (d, G, E)
  refine Z.if_ne 11 dX12_forge_5 rfl ⟨fun c_4 => ?_, fun c_4 => ?_⟩
  · replace K := K.1 c_4
    refine Z.aload_n (k := 0) dX12_forge_11 rfl ?_
    refine Y.getR (o := some 69) 18 dX12_forge_12 zl_X12_60 (rfl) (by decide) rfl (zM_1 hM).2.1 (zM_18 hM).1 ?_
    refine Z.bipush (n := 7) dX12_forge_15 ⟨by decide, by decide⟩ (by decide) ?_
    refine Z.iload_n (k := 1) dX12_forge_17 rfl ?_
    obtain ⟨z_5, K⟩ := K
    refine Z.imul dX12_forge_18 z_5 ?_
    obtain ⟨z_6, K⟩ := K
    refine Y.iald dX12_forge_19 (rfl) ((zM_18 hM).2.2) z_6 ?_
    refine Z.iload_n (k := 2) dX12_forge_20 rfl ?_
    obtain ⟨x_7, m_8, K⟩ := K
    refine Y.callS (g := zm_X12_hasNumber) (vs := [zI ((E 69 (7 * v1))), zI v2]) (st := []) dX12_forge_21 ⟨zg_X12_hasNumber.1, zg_X12_hasNumber.2.1, zg_X12_hasNumber.2.2, by decide⟩ ⟨Or.inl zk_X12_384, zs_X12_hasNumber⟩ rfl rfl (Nat.le_of_ble_eq_true rfl) m_8 (Or.inl rfl) ?_
    show Z zm_X12_forge kz Q 24 [(0, zR 50), (1, zI v1), (2, zI v2), (3, zI v3)] [zI x_7] (d, G, E)
    refine Z.if_eq 41 dX12_forge_24 rfl ⟨fun c_10 => ?_, fun c_10 => ?_⟩
    · replace K := K.1 c_10
      refine Z.iload_n (k := 2) dX12_forge_41 rfl ?_
      refine Z.bipush (n := 11) dX12_forge_42 ⟨by decide, by decide⟩ (by decide) ?_
      refine Z.bipush (n := 10) dX12_forge_44 ⟨by decide, by decide⟩ (by decide) ?_
      refine Z.iconst (n := 4) dX12_forge_46 ⟨by decide, by decide⟩ ?_
      refine Z.aload_n (k := 0) dX12_forge_47 rfl ?_
      refine Y.getR (o := some 70) 19 dX12_forge_48 zl_X12_63 (rfl) (by decide) rfl (zM_1 hM).2.1 (zM_19 hM).1 ?_
      refine Z.iload_n (k := 1) dX12_forge_51 rfl ?_
      obtain ⟨z_11, K⟩ := K
      refine Y.iald dX12_forge_52 (rfl) ((zM_19 hM).2.2) z_11 ?_
      obtain ⟨z_12, K⟩ := K
      refine Z.imul dX12_forge_53 z_12 ?_
      obtain ⟨z_13, K⟩ := K
      refine Z.iadd dX12_forge_54 z_13 ?_
      obtain ⟨x_14, m_15, K⟩ := K
      refine Y.callS (g := zm_X12_in) (vs := [zI v2, zI 11, zI ((10 + (4 * (E 70 v1))))]) (st := []) dX12_forge_55 ⟨zg_X12_in.1, zg_X12_in.2.1, zg_X12_in.2.2, by decide⟩ ⟨Or.inl zk_X12_138, zs_X12_in⟩ rfl rfl (Nat.le_of_ble_eq_true rfl) m_15 (Or.inl rfl) ?_
      show Z zm_X12_forge kz Q 58 [(0, zR 50), (1, zI v1), (2, zI v2), (3, zI v3)] [zI x_14] (d, G, E)
      refine Z.if_eq 78 dX12_forge_58 rfl ⟨fun c_17 => ?_, fun c_17 => ?_⟩
      · replace K := K.1 c_17
        refine Z.bipush (n := -2) dX12_forge_78 ⟨by decide, by decide⟩ (by decide) ?_
        exact Z.iret (ty := .int) dX12_forge_80 rfl rfl K
      · replace K := K.2 c_17
        refine Z.aload_n (k := 0) dX12_forge_61 rfl ?_
        refine Y.getR (o := some 71) 20 dX12_forge_62 zl_X12_66 (rfl) (by decide) rfl (zM_1 hM).2.1 (zM_20 hM).1 ?_
        refine Z.bipush (n := 32) dX12_forge_65 ⟨by decide, by decide⟩ (by decide) ?_
        refine Z.iload_n (k := 1) dX12_forge_67 rfl ?_
        obtain ⟨z_18, K⟩ := K
        refine Z.imul dX12_forge_68 z_18 ?_
        refine Z.iload_n (k := 2) dX12_forge_69 rfl ?_
        obtain ⟨z_19, K⟩ := K
        refine Z.iadd dX12_forge_70 z_19 ?_
        refine Z.bipush (n := 11) dX12_forge_71 ⟨by decide, by decide⟩ (by decide) ?_
        obtain ⟨z_20, K⟩ := K
        refine Z.isub dX12_forge_73 z_20 ?_
        refine Z.iload_n (k := 3) dX12_forge_74 rfl ?_
        obtain ⟨z_21, K⟩ := K
        refine Y.iast dX12_forge_75 (rfl) ((zM_20 hM).2.2) z_21 ?_
        generalize eE_22 : zuE E 71 ((((32 * v1) + v2) - 11)) v3 = E_22
        replace K := K E_22 eE_22.symm
        refine Z.iconst (n := 1) dX12_forge_76 ⟨by decide, by decide⟩ ?_
        exact Z.iret (ty := .int) dX12_forge_77 rfl rfl K
    · replace K := K.2 c_10
      refine Z.aload_n (k := 0) dX12_forge_27 rfl ?_
      refine Y.getR (o := some 69) 18 dX12_forge_28 zl_X12_60 (rfl) (by decide) rfl (zM_1 hM).2.1 (zM_18 hM).1 ?_
      refine Z.bipush (n := 7) dX12_forge_31 ⟨by decide, by decide⟩ (by decide) ?_
      refine Z.iload_n (k := 1) dX12_forge_33 rfl ?_
      obtain ⟨z_23, K⟩ := K
      refine Z.imul dX12_forge_34 z_23 ?_
      refine Z.iload_n (k := 2) dX12_forge_35 rfl ?_
      obtain ⟨z_24, K⟩ := K
      refine Z.iadd dX12_forge_36 z_24 ?_
      refine Z.iload_n (k := 3) dX12_forge_37 rfl ?_
      obtain ⟨z_25, K⟩ := K
      refine Y.iast dX12_forge_38 (rfl) ((zM_18 hM).2.2) z_25 ?_
      generalize eE_26 : zuE E 69 (((7 * v1) + v2)) v3 = E_26
      replace K := K E_26 eE_26.symm
      refine Z.iconst (n := 1) dX12_forge_39 ⟨by decide, by decide⟩ ?_
      exact Z.iret (ty := .int) dX12_forge_40 rfl rfl K
  · replace K := K.2 c_4
    refine Z.bipush (n := -2) dX12_forge_8 ⟨by decide, by decide⟩ (by decide) ?_
    exact Z.iret (ty := .int) dX12_forge_10 rfl rfl K
set_option maxRecDepth 20000 in
theorem X12_namesEarlier_0 {kz : Nat × Nat} {Q : Option zV → zH → Prop} {d : List Nat} {G : Nat → Int → Option Nat} {E : Nat → Int → Int} {v1 : Int} (hM : zK zMt d G) (K : zin (7 * v1) ∧ ((0 : Int) ≤ (7 * v1) ∧ (7 * v1) < (1050 : Int)) ∧ ((E 69 (7 * v1)) = 1 → zin ((7 * v1) + 1) ∧ ((0 : Int) ≤ ((7 * v1) + 1) ∧ ((7 * v1) + 1) < (1050 : Int)) ∧ zin (v1 - 1) ∧ ∃ x_7, zM zm_X12_in [zI ((E 69 ((7 * v1) + 1))), zI 0, zI ((v1 - 1))] (d, G, E) (some (zI x_7)) (d, G, E) ∧ (x_7 = 0 → Q (some (zI 0)) (d, G, E)) ∧ (¬ (x_7 = 0) → zin ((7 * v1) + 3) ∧ ((0 : Int) ≤ ((7 * v1) + 3) ∧ ((7 * v1) + 3) < (1050 : Int)) ∧ zin (v1 - 1) ∧ ∃ x_14, zM zm_X12_in [zI ((E 69 ((7 * v1) + 3))), zI 0, zI ((v1 - 1))] (d, G, E) (some (zI x_14)) (d, G, E) ∧ (x_14 = 0 → Q (some (zI 0)) (d, G, E)) ∧ (¬ (x_14 = 0) → Q (some (zI 1)) (d, G, E)))) ∧ ((E 69 (7 * v1)) = 2 → zin ((7 * v1) + 1) ∧ ((0 : Int) ≤ ((7 * v1) + 1) ∧ ((7 * v1) + 1) < (1050 : Int)) ∧ zin (v1 - 1) ∧ ∃ x_22, zM zm_X12_in [zI ((E 69 ((7 * v1) + 1))), zI 0, zI ((v1 - 1))] (d, G, E) (some (zI x_22)) (d, G, E) ∧ (x_22 = 0 ∨ x_22 = 1) ∧ Q (some (zI x_22)) (d, G, E)) ∧ ((E 69 (7 * v1)) = 3 → zin ((7 * v1) + 1) ∧ ((0 : Int) ≤ ((7 * v1) + 1) ∧ ((7 * v1) + 1) < (1050 : Int)) ∧ zin (v1 - 1) ∧ ∃ x_29, zM zm_X12_in [zI ((E 69 ((7 * v1) + 1))), zI 0, zI ((v1 - 1))] (d, G, E) (some (zI x_29)) (d, G, E) ∧ (x_29 = 0 ∨ x_29 = 1) ∧ Q (some (zI x_29)) (d, G, E)) ∧ ((E 69 (7 * v1)) = 4 → zin ((7 * v1) + 1) ∧ ((0 : Int) ≤ ((7 * v1) + 1) ∧ ((7 * v1) + 1) < (1050 : Int)) ∧ zin (v1 - 1) ∧ ∃ x_36, zM zm_X12_in [zI ((E 69 ((7 * v1) + 1))), zI 0, zI ((v1 - 1))] (d, G, E) (some (zI x_36)) (d, G, E) ∧ (x_36 = 0 → Q (some (zI 0)) (d, G, E)) ∧ (¬ (x_36 = 0) → zin ((7 * v1) + 4) ∧ ((0 : Int) ≤ ((7 * v1) + 4) ∧ ((7 * v1) + 4) < (1050 : Int)) ∧ zin (v1 - 1) ∧ ∃ x_43, zM zm_X12_in [zI ((E 69 ((7 * v1) + 4))), zI 0, zI ((v1 - 1))] (d, G, E) (some (zI x_43)) (d, G, E) ∧ (x_43 = 0 → Q (some (zI 0)) (d, G, E)) ∧ (¬ (x_43 = 0) → Q (some (zI 1)) (d, G, E)))) ∧ (((E 69 (7 * v1)) < 1 ∨ 4 < (E 69 (7 * v1))) → Q (some (zI 0)) (d, G, E))) : Z zm_X12_namesEarlier kz Q 0 [(0, zR 50), (1, zI v1)] [] (d, G, E) := by
  refine Z.bipush (n := 7) dX12_namesEarlier_0 ⟨by decide, by decide⟩ (by decide) ?_
  refine Z.iload_n (k := 1) dX12_namesEarlier_2 rfl ?_
  obtain ⟨z_1, K⟩ := K
  refine Z.imul dX12_namesEarlier_3 z_1 ?_
  refine Z.istore_n (ls' := [(2, zI ((7 * v1))), (0, zR 50), (1, zI v1)]) dX12_namesEarlier_4 (by decide) rfl ?_
  refine Z.aload_n (k := 1) dX12_namesEarlier_5 rfl ?_
  refine Y.getR (o := some 69) 18 dX12_namesEarlier_6 zl_X12_60 (rfl) (by decide) rfl (zM_1 hM).2.1 (zM_18 hM).1 ?_
  refine Z.iload_n (k := 0) dX12_namesEarlier_9 rfl ?_
  obtain ⟨z_2, K⟩ := K
  refine Y.iald dX12_namesEarlier_10 (rfl) ((zM_18 hM).2.2) z_2 ?_
  by_cases c_3 : (E 69 (7 * v1)) = 1
  · replace K := K.1 c_3
    refine Z.tableIn (off := 29) 40 dX12_namesEarlier_11 (by omega) (by omega) (by rw [c_3]; rfl) rfl ?_
    refine Z.aload_n (k := 1) dX12_namesEarlier_40 rfl ?_
    refine Y.getR (o := some 69) 18 dX12_namesEarlier_41 zl_X12_60 (rfl) (by decide) rfl (zM_1 hM).2.1 (zM_18 hM).1 ?_
    refine Z.iload_n (k := 0) dX12_namesEarlier_44 rfl ?_
    refine Z.iconst (n := 1) dX12_namesEarlier_45 ⟨by decide, by decide⟩ ?_
    obtain ⟨z_4, K⟩ := K
    refine Z.iadd dX12_namesEarlier_46 z_4 ?_
    obtain ⟨z_5, K⟩ := K
    refine Y.iald dX12_namesEarlier_47 (rfl) ((zM_18 hM).2.2) z_5 ?_
    refine Z.iconst (n := 0) dX12_namesEarlier_48 ⟨by decide, by decide⟩ ?_
    refine Z.iload_n (k := 2) dX12_namesEarlier_49 rfl ?_
    refine Z.iconst (n := 1) dX12_namesEarlier_50 ⟨by decide, by decide⟩ ?_
    obtain ⟨z_6, K⟩ := K
    refine Z.isub dX12_namesEarlier_51 z_6 ?_
    obtain ⟨x_7, m_8, K⟩ := K
    refine Y.callS (g := zm_X12_in) (vs := [zI ((E 69 ((7 * v1) + 1))), zI 0, zI ((v1 - 1))]) (st := []) dX12_namesEarlier_52 ⟨zg_X12_in.1, zg_X12_in.2.1, zg_X12_in.2.2, by decide⟩ ⟨Or.inl zk_X12_138, zs_X12_in⟩ rfl rfl (Nat.le_of_ble_eq_true rfl) m_8 (Or.inl rfl) ?_
    show Z zm_X12_namesEarlier kz Q 55 [(2, zI ((7 * v1))), (0, zR 50), (1, zI v1)] [zI x_7] (d, G, E)
    refine Z.if_eq 80 dX12_namesEarlier_55 rfl ⟨fun c_10 => ?_, fun c_10 => ?_⟩
    · replace K := K.1 c_10
      refine Z.iconst (n := 0) dX12_namesEarlier_80 ⟨by decide, by decide⟩ ?_
      exact Z.iret (ty := .boolean) dX12_namesEarlier_81 rfl rfl K
    · replace K := K.2 c_10
      refine Z.aload_n (k := 1) dX12_namesEarlier_58 rfl ?_
      refine Y.getR (o := some 69) 18 dX12_namesEarlier_59 zl_X12_60 (rfl) (by decide) rfl (zM_1 hM).2.1 (zM_18 hM).1 ?_
      refine Z.iload_n (k := 0) dX12_namesEarlier_62 rfl ?_
      refine Z.iconst (n := 3) dX12_namesEarlier_63 ⟨by decide, by decide⟩ ?_
      obtain ⟨z_11, K⟩ := K
      refine Z.iadd dX12_namesEarlier_64 z_11 ?_
      obtain ⟨z_12, K⟩ := K
      refine Y.iald dX12_namesEarlier_65 (rfl) ((zM_18 hM).2.2) z_12 ?_
      refine Z.iconst (n := 0) dX12_namesEarlier_66 ⟨by decide, by decide⟩ ?_
      refine Z.iload_n (k := 2) dX12_namesEarlier_67 rfl ?_
      refine Z.iconst (n := 1) dX12_namesEarlier_68 ⟨by decide, by decide⟩ ?_
      obtain ⟨z_13, K⟩ := K
      refine Z.isub dX12_namesEarlier_69 z_13 ?_
      obtain ⟨x_14, m_15, K⟩ := K
      refine Y.callS (g := zm_X12_in) (vs := [zI ((E 69 ((7 * v1) + 3))), zI 0, zI ((v1 - 1))]) (st := []) dX12_namesEarlier_70 ⟨zg_X12_in.1, zg_X12_in.2.1, zg_X12_in.2.2, by decide⟩ ⟨Or.inl zk_X12_138, zs_X12_in⟩ rfl rfl (Nat.le_of_ble_eq_true rfl) m_15 (Or.inl rfl) ?_
      show Z zm_X12_namesEarlier kz Q 73 [(2, zI ((7 * v1))), (0, zR 50), (1, zI v1)] [zI x_14] (d, G, E)
      refine Z.if_eq 80 dX12_namesEarlier_73 rfl ⟨fun c_17 => ?_, fun c_17 => ?_⟩
      · replace K := K.1 c_17
        refine Z.iconst (n := 0) dX12_namesEarlier_80 ⟨by decide, by decide⟩ ?_
        exact Z.iret (ty := .boolean) dX12_namesEarlier_81 rfl rfl K
      · replace K := K.2 c_17
        refine Z.iconst (n := 1) dX12_namesEarlier_76 ⟨by decide, by decide⟩ ?_
        refine Z.goto 81 dX12_namesEarlier_77 rfl ?_
        exact Z.iret (ty := .boolean) dX12_namesEarlier_81 rfl rfl K
  replace K := K.2
  by_cases c_18 : (E 69 (7 * v1)) = 2
  · replace K := K.1 c_18
    refine Z.tableIn (off := 71) 82 dX12_namesEarlier_11 (by omega) (by omega) (by rw [c_18]; rfl) rfl ?_
    refine Z.aload_n (k := 1) dX12_namesEarlier_82 rfl ?_
    refine Y.getR (o := some 69) 18 dX12_namesEarlier_83 zl_X12_60 (rfl) (by decide) rfl (zM_1 hM).2.1 (zM_18 hM).1 ?_
    refine Z.iload_n (k := 0) dX12_namesEarlier_86 rfl ?_
    refine Z.iconst (n := 1) dX12_namesEarlier_87 ⟨by decide, by decide⟩ ?_
    obtain ⟨z_19, K⟩ := K
    refine Z.iadd dX12_namesEarlier_88 z_19 ?_
    obtain ⟨z_20, K⟩ := K
    refine Y.iald dX12_namesEarlier_89 (rfl) ((zM_18 hM).2.2) z_20 ?_
    refine Z.iconst (n := 0) dX12_namesEarlier_90 ⟨by decide, by decide⟩ ?_
    refine Z.iload_n (k := 2) dX12_namesEarlier_91 rfl ?_
    refine Z.iconst (n := 1) dX12_namesEarlier_92 ⟨by decide, by decide⟩ ?_
    obtain ⟨z_21, K⟩ := K
    refine Z.isub dX12_namesEarlier_93 z_21 ?_
    obtain ⟨x_22, m_23, K⟩ := K
    refine Y.callS (g := zm_X12_in) (vs := [zI ((E 69 ((7 * v1) + 1))), zI 0, zI ((v1 - 1))]) (st := []) dX12_namesEarlier_94 ⟨zg_X12_in.1, zg_X12_in.2.1, zg_X12_in.2.2, by decide⟩ ⟨Or.inl zk_X12_138, zs_X12_in⟩ rfl rfl (Nat.le_of_ble_eq_true rfl) m_23 (Or.inl rfl) ?_
    show Z zm_X12_namesEarlier kz Q 97 [(2, zI ((7 * v1))), (0, zR 50), (1, zI v1)] [zI x_22] (d, G, E)
    exact Z.iret (ty := .boolean) dX12_namesEarlier_97 rfl (by rcases K.1 with e | e <;> rw [e] <;> rfl) K.2
  replace K := K.2
  by_cases c_25 : (E 69 (7 * v1)) = 3
  · replace K := K.1 c_25
    refine Z.tableIn (off := 71) 82 dX12_namesEarlier_11 (by omega) (by omega) (by rw [c_25]; rfl) rfl ?_
    refine Z.aload_n (k := 1) dX12_namesEarlier_82 rfl ?_
    refine Y.getR (o := some 69) 18 dX12_namesEarlier_83 zl_X12_60 (rfl) (by decide) rfl (zM_1 hM).2.1 (zM_18 hM).1 ?_
    refine Z.iload_n (k := 0) dX12_namesEarlier_86 rfl ?_
    refine Z.iconst (n := 1) dX12_namesEarlier_87 ⟨by decide, by decide⟩ ?_
    obtain ⟨z_26, K⟩ := K
    refine Z.iadd dX12_namesEarlier_88 z_26 ?_
    obtain ⟨z_27, K⟩ := K
    refine Y.iald dX12_namesEarlier_89 (rfl) ((zM_18 hM).2.2) z_27 ?_
    refine Z.iconst (n := 0) dX12_namesEarlier_90 ⟨by decide, by decide⟩ ?_
    refine Z.iload_n (k := 2) dX12_namesEarlier_91 rfl ?_
    refine Z.iconst (n := 1) dX12_namesEarlier_92 ⟨by decide, by decide⟩ ?_
    obtain ⟨z_28, K⟩ := K
    refine Z.isub dX12_namesEarlier_93 z_28 ?_
    obtain ⟨x_29, m_30, K⟩ := K
    refine Y.callS (g := zm_X12_in) (vs := [zI ((E 69 ((7 * v1) + 1))), zI 0, zI ((v1 - 1))]) (st := []) dX12_namesEarlier_94 ⟨zg_X12_in.1, zg_X12_in.2.1, zg_X12_in.2.2, by decide⟩ ⟨Or.inl zk_X12_138, zs_X12_in⟩ rfl rfl (Nat.le_of_ble_eq_true rfl) m_30 (Or.inl rfl) ?_
    show Z zm_X12_namesEarlier kz Q 97 [(2, zI ((7 * v1))), (0, zR 50), (1, zI v1)] [zI x_29] (d, G, E)
    exact Z.iret (ty := .boolean) dX12_namesEarlier_97 rfl (by rcases K.1 with e | e <;> rw [e] <;> rfl) K.2
  replace K := K.2
  by_cases c_32 : (E 69 (7 * v1)) = 4
  · replace K := K.1 c_32
    refine Z.tableIn (off := 87) 98 dX12_namesEarlier_11 (by omega) (by omega) (by rw [c_32]; rfl) rfl ?_
    refine Z.aload_n (k := 1) dX12_namesEarlier_98 rfl ?_
    refine Y.getR (o := some 69) 18 dX12_namesEarlier_99 zl_X12_60 (rfl) (by decide) rfl (zM_1 hM).2.1 (zM_18 hM).1 ?_
    refine Z.iload_n (k := 0) dX12_namesEarlier_102 rfl ?_
    refine Z.iconst (n := 1) dX12_namesEarlier_103 ⟨by decide, by decide⟩ ?_
    obtain ⟨z_33, K⟩ := K
    refine Z.iadd dX12_namesEarlier_104 z_33 ?_
    obtain ⟨z_34, K⟩ := K
    refine Y.iald dX12_namesEarlier_105 (rfl) ((zM_18 hM).2.2) z_34 ?_
    refine Z.iconst (n := 0) dX12_namesEarlier_106 ⟨by decide, by decide⟩ ?_
    refine Z.iload_n (k := 2) dX12_namesEarlier_107 rfl ?_
    refine Z.iconst (n := 1) dX12_namesEarlier_108 ⟨by decide, by decide⟩ ?_
    obtain ⟨z_35, K⟩ := K
    refine Z.isub dX12_namesEarlier_109 z_35 ?_
    obtain ⟨x_36, m_37, K⟩ := K
    refine Y.callS (g := zm_X12_in) (vs := [zI ((E 69 ((7 * v1) + 1))), zI 0, zI ((v1 - 1))]) (st := []) dX12_namesEarlier_110 ⟨zg_X12_in.1, zg_X12_in.2.1, zg_X12_in.2.2, by decide⟩ ⟨Or.inl zk_X12_138, zs_X12_in⟩ rfl rfl (Nat.le_of_ble_eq_true rfl) m_37 (Or.inl rfl) ?_
    show Z zm_X12_namesEarlier kz Q 113 [(2, zI ((7 * v1))), (0, zR 50), (1, zI v1)] [zI x_36] (d, G, E)
    refine Z.if_eq 138 dX12_namesEarlier_113 rfl ⟨fun c_39 => ?_, fun c_39 => ?_⟩
    · replace K := K.1 c_39
      refine Z.iconst (n := 0) dX12_namesEarlier_138 ⟨by decide, by decide⟩ ?_
      exact Z.iret (ty := .boolean) dX12_namesEarlier_139 rfl rfl K
    · replace K := K.2 c_39
      refine Z.aload_n (k := 1) dX12_namesEarlier_116 rfl ?_
      refine Y.getR (o := some 69) 18 dX12_namesEarlier_117 zl_X12_60 (rfl) (by decide) rfl (zM_1 hM).2.1 (zM_18 hM).1 ?_
      refine Z.iload_n (k := 0) dX12_namesEarlier_120 rfl ?_
      refine Z.iconst (n := 4) dX12_namesEarlier_121 ⟨by decide, by decide⟩ ?_
      obtain ⟨z_40, K⟩ := K
      refine Z.iadd dX12_namesEarlier_122 z_40 ?_
      obtain ⟨z_41, K⟩ := K
      refine Y.iald dX12_namesEarlier_123 (rfl) ((zM_18 hM).2.2) z_41 ?_
      refine Z.iconst (n := 0) dX12_namesEarlier_124 ⟨by decide, by decide⟩ ?_
      refine Z.iload_n (k := 2) dX12_namesEarlier_125 rfl ?_
      refine Z.iconst (n := 1) dX12_namesEarlier_126 ⟨by decide, by decide⟩ ?_
      obtain ⟨z_42, K⟩ := K
      refine Z.isub dX12_namesEarlier_127 z_42 ?_
      obtain ⟨x_43, m_44, K⟩ := K
      refine Y.callS (g := zm_X12_in) (vs := [zI ((E 69 ((7 * v1) + 4))), zI 0, zI ((v1 - 1))]) (st := []) dX12_namesEarlier_128 ⟨zg_X12_in.1, zg_X12_in.2.1, zg_X12_in.2.2, by decide⟩ ⟨Or.inl zk_X12_138, zs_X12_in⟩ rfl rfl (Nat.le_of_ble_eq_true rfl) m_44 (Or.inl rfl) ?_
      show Z zm_X12_namesEarlier kz Q 131 [(2, zI ((7 * v1))), (0, zR 50), (1, zI v1)] [zI x_43] (d, G, E)
      refine Z.if_eq 138 dX12_namesEarlier_131 rfl ⟨fun c_46 => ?_, fun c_46 => ?_⟩
      · replace K := K.1 c_46
        refine Z.iconst (n := 0) dX12_namesEarlier_138 ⟨by decide, by decide⟩ ?_
        exact Z.iret (ty := .boolean) dX12_namesEarlier_139 rfl rfl K
      · replace K := K.2 c_46
        refine Z.iconst (n := 1) dX12_namesEarlier_134 ⟨by decide, by decide⟩ ?_
        refine Z.goto 139 dX12_namesEarlier_135 rfl ?_
        exact Z.iret (ty := .boolean) dX12_namesEarlier_139 rfl rfl K
  replace K := K.2
  have hd0 : (E 69 (7 * v1)) < 1 ∨ 4 < (E 69 (7 * v1)) := by omega
  replace K := K hd0
  refine Z.tableOut 140 dX12_namesEarlier_11 hd0 rfl ?_
  refine Z.iconst (n := 0) dX12_namesEarlier_140 ⟨by decide, by decide⟩ ?_
  exact Z.iret (ty := .boolean) dX12_namesEarlier_141 rfl rfl K
set_option maxRecDepth 20000 in
theorem X12_makesAgain_0 {kz : Nat × Nat} {Q : Option zV → zH → Prop} {d : List Nat} {G : Nat → Int → Option Nat} {E : Nat → Int → Int} {v1 : Int} (hM : zK zMt d G) (K : zin (7 * v1) ∧ ((0 : Int) ≤ (7 * v1) ∧ (7 * v1) < (1050 : Int)) ∧ ((E 69 (7 * v1)) ≠ 0 → ∃ x_4, zM zm_X12_namesEarlier [zR 50, zI v1] (d, G, E) (some (zI x_4)) (d, G, E) ∧ (x_4 = 0 → Q (some (zI 0)) (d, G, E)) ∧ (¬ (x_4 = 0) → ((0 : Int) ≤ (7 * v1) ∧ (7 * v1) < (1050 : Int)) ∧ zin ((7 * v1) + 1) ∧ ((0 : Int) ≤ ((7 * v1) + 1) ∧ ((7 * v1) + 1) < (1050 : Int)) ∧ zin ((7 * v1) + 2) ∧ ((0 : Int) ≤ ((7 * v1) + 2) ∧ ((7 * v1) + 2) < (1050 : Int)) ∧ zin ((7 * v1) + 3) ∧ ((0 : Int) ≤ ((7 * v1) + 3) ∧ ((7 * v1) + 3) < (1050 : Int)) ∧ zin ((7 * v1) + 4) ∧ ((0 : Int) ≤ ((7 * v1) + 4) ∧ ((7 * v1) + 4) < (1050 : Int)) ∧ zin ((7 * v1) + 5) ∧ ((0 : Int) ≤ ((7 * v1) + 5) ∧ ((7 * v1) + 5) < (1050 : Int)) ∧ zin ((7 * v1) + 6) ∧ ((0 : Int) ≤ ((7 * v1) + 6) ∧ ((7 * v1) + 6) < (1050 : Int)) ∧ ∃ x_21 E_22, zM zm_X12_makes [zR 50, zI ((E 69 (7 * v1))), zI ((E 69 ((7 * v1) + 1))), zI ((E 69 ((7 * v1) + 2))), zI ((E 69 ((7 * v1) + 3))), zI ((E 69 ((7 * v1) + 4))), zI ((E 69 ((7 * v1) + 5))), zI ((E 69 ((7 * v1) + 6)))] (d, G, E) (some (zI x_21)) (d, G, E_22) ∧ (x_21 ≠ 1 → Q (some (zI 0)) (d, G, E_22)) ∧ (¬ (x_21 ≠ 1) → Q (some (zI 1)) (d, G, E_22)))) ∧ (¬ ((E 69 (7 * v1)) ≠ 0) → ((0 : Int) ≤ v1 ∧ v1 < (150 : Int)) ∧ ∀ E_27, E_27 = zuE E 50 24 ((E 68 v1)) → Z zm_X12_makesAgain kz Q 26 [(0, zR 50), (1, zI v1), (3, zI 0)] [] (d, G, E_27))) : Z zm_X12_makesAgain kz Q 0 [(0, zR 50), (1, zI v1)] [] (d, G, E) := by
  refine Z.bipush (n := 7) dX12_makesAgain_0 ⟨by decide, by decide⟩ (by decide) ?_
  refine Z.iload_n (k := 1) dX12_makesAgain_2 rfl ?_
  obtain ⟨z_1, K⟩ := K
  refine Z.imul dX12_makesAgain_3 z_1 ?_
  refine Z.istore_n (ls' := [(2, zI ((7 * v1))), (0, zR 50), (1, zI v1)]) dX12_makesAgain_4 (by decide) rfl ?_
  refine Z.aload_n (k := 1) dX12_makesAgain_5 rfl ?_
  refine Y.getR (o := some 69) 18 dX12_makesAgain_6 zl_X12_60 (rfl) (by decide) rfl (zM_1 hM).2.1 (zM_18 hM).1 ?_
  refine Z.iload_n (k := 0) dX12_makesAgain_9 rfl ?_
  obtain ⟨z_2, K⟩ := K
  refine Y.iald dX12_makesAgain_10 (rfl) ((zM_18 hM).2.2) z_2 ?_
  refine Z.if_ne 130 dX12_makesAgain_11 rfl ⟨fun c_3 => ?_, fun c_3 => ?_⟩
  · replace K := K.1 c_3
    refine Z.aload_n (k := 1) dX12_makesAgain_130 rfl ?_
    refine Z.iload_n (k := 2) dX12_makesAgain_131 rfl ?_
    obtain ⟨x_4, m_5, K⟩ := K
    refine Y.callV (g := zm_X12_namesEarlier) (vs := [zI v1]) (st := []) dX12_makesAgain_132 ⟨zg_X12_namesEarlier.1, zg_X12_namesEarlier.2.1, zg_X12_namesEarlier.2.2, by decide⟩ ⟨zk_X12_387, zv_X12_namesEarlier⟩ (ci := 12) (rfl) rfl ((zM_1 hM).2.1) rfl rfl (Nat.le_of_ble_eq_true rfl) m_5 (Or.inl rfl) ?_
    show Z zm_X12_makesAgain kz Q 135 [(2, zI ((7 * v1))), (0, zR 50), (1, zI v1)] [zI x_4] (d, G, E)
    refine Z.if_eq 205 dX12_makesAgain_135 rfl ⟨fun c_7 => ?_, fun c_7 => ?_⟩
    · replace K := K.1 c_7
      refine Z.iconst (n := 0) dX12_makesAgain_205 ⟨by decide, by decide⟩ ?_
      exact Z.iret (ty := .boolean) dX12_makesAgain_206 rfl rfl K
    · replace K := K.2 c_7
      refine Z.aload_n (k := 1) dX12_makesAgain_138 rfl ?_
      refine Z.aload_n (k := 1) dX12_makesAgain_139 rfl ?_
      refine Y.getR (o := some 69) 18 dX12_makesAgain_140 zl_X12_60 (rfl) (by decide) rfl (zM_1 hM).2.1 (zM_18 hM).1 ?_
      refine Z.iload_n (k := 0) dX12_makesAgain_143 rfl ?_
      obtain ⟨z_8, K⟩ := K
      refine Y.iald dX12_makesAgain_144 (rfl) ((zM_18 hM).2.2) z_8 ?_
      refine Z.aload_n (k := 1) dX12_makesAgain_145 rfl ?_
      refine Y.getR (o := some 69) 18 dX12_makesAgain_146 zl_X12_60 (rfl) (by decide) rfl (zM_1 hM).2.1 (zM_18 hM).1 ?_
      refine Z.iload_n (k := 0) dX12_makesAgain_149 rfl ?_
      refine Z.iconst (n := 1) dX12_makesAgain_150 ⟨by decide, by decide⟩ ?_
      obtain ⟨z_9, K⟩ := K
      refine Z.iadd dX12_makesAgain_151 z_9 ?_
      obtain ⟨z_10, K⟩ := K
      refine Y.iald dX12_makesAgain_152 (rfl) ((zM_18 hM).2.2) z_10 ?_
      refine Z.aload_n (k := 1) dX12_makesAgain_153 rfl ?_
      refine Y.getR (o := some 69) 18 dX12_makesAgain_154 zl_X12_60 (rfl) (by decide) rfl (zM_1 hM).2.1 (zM_18 hM).1 ?_
      refine Z.iload_n (k := 0) dX12_makesAgain_157 rfl ?_
      refine Z.iconst (n := 2) dX12_makesAgain_158 ⟨by decide, by decide⟩ ?_
      obtain ⟨z_11, K⟩ := K
      refine Z.iadd dX12_makesAgain_159 z_11 ?_
      obtain ⟨z_12, K⟩ := K
      refine Y.iald dX12_makesAgain_160 (rfl) ((zM_18 hM).2.2) z_12 ?_
      refine Z.aload_n (k := 1) dX12_makesAgain_161 rfl ?_
      refine Y.getR (o := some 69) 18 dX12_makesAgain_162 zl_X12_60 (rfl) (by decide) rfl (zM_1 hM).2.1 (zM_18 hM).1 ?_
      refine Z.iload_n (k := 0) dX12_makesAgain_165 rfl ?_
      refine Z.iconst (n := 3) dX12_makesAgain_166 ⟨by decide, by decide⟩ ?_
      obtain ⟨z_13, K⟩ := K
      refine Z.iadd dX12_makesAgain_167 z_13 ?_
      obtain ⟨z_14, K⟩ := K
      refine Y.iald dX12_makesAgain_168 (rfl) ((zM_18 hM).2.2) z_14 ?_
      refine Z.aload_n (k := 1) dX12_makesAgain_169 rfl ?_
      refine Y.getR (o := some 69) 18 dX12_makesAgain_170 zl_X12_60 (rfl) (by decide) rfl (zM_1 hM).2.1 (zM_18 hM).1 ?_
      refine Z.iload_n (k := 0) dX12_makesAgain_173 rfl ?_
      refine Z.iconst (n := 4) dX12_makesAgain_174 ⟨by decide, by decide⟩ ?_
      obtain ⟨z_15, K⟩ := K
      refine Z.iadd dX12_makesAgain_175 z_15 ?_
      obtain ⟨z_16, K⟩ := K
      refine Y.iald dX12_makesAgain_176 (rfl) ((zM_18 hM).2.2) z_16 ?_
      refine Z.aload_n (k := 1) dX12_makesAgain_177 rfl ?_
      refine Y.getR (o := some 69) 18 dX12_makesAgain_178 zl_X12_60 (rfl) (by decide) rfl (zM_1 hM).2.1 (zM_18 hM).1 ?_
      refine Z.iload_n (k := 0) dX12_makesAgain_181 rfl ?_
      refine Z.iconst (n := 5) dX12_makesAgain_182 ⟨by decide, by decide⟩ ?_
      obtain ⟨z_17, K⟩ := K
      refine Z.iadd dX12_makesAgain_183 z_17 ?_
      obtain ⟨z_18, K⟩ := K
      refine Y.iald dX12_makesAgain_184 (rfl) ((zM_18 hM).2.2) z_18 ?_
      refine Z.aload_n (k := 1) dX12_makesAgain_185 rfl ?_
      refine Y.getR (o := some 69) 18 dX12_makesAgain_186 zl_X12_60 (rfl) (by decide) rfl (zM_1 hM).2.1 (zM_18 hM).1 ?_
      refine Z.iload_n (k := 0) dX12_makesAgain_189 rfl ?_
      refine Z.bipush (n := 6) dX12_makesAgain_190 ⟨by decide, by decide⟩ (by decide) ?_
      obtain ⟨z_19, K⟩ := K
      refine Z.iadd dX12_makesAgain_192 z_19 ?_
      obtain ⟨z_20, K⟩ := K
      refine Y.iald dX12_makesAgain_193 (rfl) ((zM_18 hM).2.2) z_20 ?_
      obtain ⟨x_21, E_22, m_23, K⟩ := K
      refine Y.callV (g := zm_X12_makes) (vs := [zI ((E 69 (7 * v1))), zI ((E 69 ((7 * v1) + 1))), zI ((E 69 ((7 * v1) + 2))), zI ((E 69 ((7 * v1) + 3))), zI ((E 69 ((7 * v1) + 4))), zI ((E 69 ((7 * v1) + 5))), zI ((E 69 ((7 * v1) + 6)))]) (st := []) dX12_makesAgain_194 ⟨zg_X12_makes.1, zg_X12_makes.2.1, zg_X12_makes.2.2, by decide⟩ ⟨zk_X12_350, zv_X12_makes⟩ (ci := 12) (rfl) rfl ((zM_1 hM).2.1) rfl rfl (Nat.le_of_ble_eq_true rfl) m_23 (Or.inl rfl) ?_
      show Z zm_X12_makesAgain kz Q 197 [(2, zI ((7 * v1))), (0, zR 50), (1, zI v1)] [zI x_21] (d, G, E_22)
      refine Z.iconst (n := 1) dX12_makesAgain_197 ⟨by decide, by decide⟩ ?_
      refine Z.icmp_ne 205 dX12_makesAgain_198 rfl ⟨fun c_25 => ?_, fun c_25 => ?_⟩
      · replace K := K.1 c_25
        refine Z.iconst (n := 0) dX12_makesAgain_205 ⟨by decide, by decide⟩ ?_
        exact Z.iret (ty := .boolean) dX12_makesAgain_206 rfl rfl K
      · replace K := K.2 c_25
        refine Z.iconst (n := 1) dX12_makesAgain_201 ⟨by decide, by decide⟩ ?_
        refine Z.goto 206 dX12_makesAgain_202 rfl ?_
        exact Z.iret (ty := .boolean) dX12_makesAgain_206 rfl rfl K
  · replace K := K.2 c_3
    refine Z.aload_n (k := 1) dX12_makesAgain_14 rfl ?_
    refine Z.aload_n (k := 1) dX12_makesAgain_15 rfl ?_
    refine Y.getR (o := some 68) 17 dX12_makesAgain_16 zl_X12_57 (rfl) (by decide) rfl (zM_1 hM).2.1 (zM_17 hM).1 ?_
    refine Z.iload_n (k := 2) dX12_makesAgain_19 rfl ?_
    obtain ⟨z_26, K⟩ := K
    refine Y.iald dX12_makesAgain_20 (rfl) ((zM_17 hM).2.2) z_26 ?_
    refine Y.putI 24 dX12_makesAgain_21 zw_X12_167 (fun q => by cases q) (rfl) rfl (zM_1 hM).2.1 (Or.inl rfl) ?_
    generalize eE_27 : zuE E 50 24 ((E 68 v1)) = E_27
    replace K := K E_27 eE_27.symm
    refine Z.iconst (n := 0) dX12_makesAgain_24 ⟨by decide, by decide⟩ ?_
    refine Z.istore_n (ls' := [(3, zI 0), (2, zI ((7 * v1))), (0, zR 50), (1, zI v1)]) dX12_makesAgain_25 (by decide) rfl ?_
    refine Z.pick (ls' := [(0, zR 50), (1, zI v1), (3, zI 0)]) [2, 3, 0] rfl ?_
    exact K
set_option maxRecDepth 20000 in
theorem X12_makesAgain_26 {kz : Nat × Nat} {Q : Option zV → zH → Prop} {d : List Nat} {G : Nat → Int → Option Nat} {E : Nat → Int → Int} {v1 : Int} {v3 : Int} (hM : zK zMt d G) (K : ((E 50 24) ≤ v3 → ((0 : Int) ≤ v1 ∧ v1 < (150 : Int)) ∧ ((E 64 v1) = 0 ∨ (E 64 v1) = 1) ∧ Q (some (zI ((E 64 v1)))) (d, G, E)) ∧ (¬ ((E 50 24) ≤ v3) → zin (6 * v1) ∧ zin ((6 * v1) + v3) ∧ ((0 : Int) ≤ ((6 * v1) + v3) ∧ ((6 * v1) + v3) < (900 : Int)) ∧ ((0 : Int) ≤ v3 ∧ v3 < (6 : Int)) ∧ ∀ E_7, E_7 = zuE E 73 v3 ((E 66 ((6 * v1) + v3))) → zin (6 * v1) ∧ zin ((6 * v1) + v3) ∧ ((0 : Int) ≤ ((6 * v1) + v3) ∧ ((6 * v1) + v3) < (900 : Int)) ∧ ((0 : Int) ≤ v3 ∧ v3 < (6 : Int)) ∧ ((E_7 67 ((6 * v1) + v3)) = 0 ∨ (E_7 67 ((6 * v1) + v3)) = 1) ∧ ∀ E_13, E_13 = zuE E_7 74 v3 ((E_7 67 ((6 * v1) + v3))) → Z zm_X12_makesAgain kz Q 71 [(0, zR 50), (1, zI v1), (3, zI v3), (4, zI 0)] [] (d, G, E_13))) : Z zm_X12_makesAgain kz Q 26 [(0, zR 50), (1, zI v1), (3, zI v3)] [] (d, G, E) := by
  refine Z.iload_n (k := 2) dX12_makesAgain_26 rfl ?_
  refine Z.aload_n (k := 0) dX12_makesAgain_27 rfl ?_
  refine Y.getI 24 dX12_makesAgain_28 zl_X12_167 (rfl) (by decide) rfl (zM_1 hM).2.1 ?_
  refine Z.icmp_ge 123 dX12_makesAgain_31 rfl ⟨fun c_1 => ?_, fun c_1 => ?_⟩
  · replace K := K.1 c_1
    refine Z.aload_n (k := 0) dX12_makesAgain_123 rfl ?_
    refine Y.getR (o := some 64) 13 dX12_makesAgain_124 zl_X12_45 (rfl) (by decide) rfl (zM_1 hM).2.1 (zM_13 hM).1 ?_
    refine Z.iload_n (k := 1) dX12_makesAgain_127 rfl ?_
    obtain ⟨z_2, K⟩ := K
    refine Y.zald dX12_makesAgain_128 (rfl) ((zM_13 hM).2.2) z_2 ?_
    exact Z.iret (ty := .boolean) dX12_makesAgain_129 rfl (by rcases K.1 with e | e <;> rw [e] <;> rfl) K.2
  · replace K := K.2 c_1
    refine Z.aload_n (k := 0) dX12_makesAgain_34 rfl ?_
    refine Y.getR (o := some 73) 22 dX12_makesAgain_35 zl_X12_72 (rfl) (by decide) rfl (zM_1 hM).2.1 (zM_22 hM).1 ?_
    refine Z.iload_n (k := 2) dX12_makesAgain_38 rfl ?_
    refine Z.aload_n (k := 0) dX12_makesAgain_39 rfl ?_
    refine Y.getR (o := some 66) 15 dX12_makesAgain_40 zl_X12_51 (rfl) (by decide) rfl (zM_1 hM).2.1 (zM_15 hM).1 ?_
    refine Z.bipush (n := 6) dX12_makesAgain_43 ⟨by decide, by decide⟩ (by decide) ?_
    refine Z.iload_n (k := 1) dX12_makesAgain_45 rfl ?_
    obtain ⟨z_3, K⟩ := K
    refine Z.imul dX12_makesAgain_46 z_3 ?_
    refine Z.iload_n (k := 2) dX12_makesAgain_47 rfl ?_
    obtain ⟨z_4, K⟩ := K
    refine Z.iadd dX12_makesAgain_48 z_4 ?_
    obtain ⟨z_5, K⟩ := K
    refine Y.iald dX12_makesAgain_49 (rfl) ((zM_15 hM).2.2) z_5 ?_
    obtain ⟨z_6, K⟩ := K
    refine Y.iast dX12_makesAgain_50 (rfl) ((zM_22 hM).2.2) z_6 ?_
    generalize eE_7 : zuE E 73 v3 ((E 66 ((6 * v1) + v3))) = E_7
    replace K := K E_7 eE_7.symm
    refine Z.aload_n (k := 0) dX12_makesAgain_51 rfl ?_
    refine Y.getR (o := some 74) 23 dX12_makesAgain_52 zl_X12_75 (rfl) (by decide) rfl (zM_1 hM).2.1 (zM_23 hM).1 ?_
    refine Z.iload_n (k := 2) dX12_makesAgain_55 rfl ?_
    refine Z.aload_n (k := 0) dX12_makesAgain_56 rfl ?_
    refine Y.getR (o := some 67) 16 dX12_makesAgain_57 zl_X12_54 (rfl) (by decide) rfl (zM_1 hM).2.1 (zM_16 hM).1 ?_
    refine Z.bipush (n := 6) dX12_makesAgain_60 ⟨by decide, by decide⟩ (by decide) ?_
    refine Z.iload_n (k := 1) dX12_makesAgain_62 rfl ?_
    obtain ⟨z_8, K⟩ := K
    refine Z.imul dX12_makesAgain_63 z_8 ?_
    refine Z.iload_n (k := 2) dX12_makesAgain_64 rfl ?_
    obtain ⟨z_9, K⟩ := K
    refine Z.iadd dX12_makesAgain_65 z_9 ?_
    obtain ⟨z_10, K⟩ := K
    refine Y.zald dX12_makesAgain_66 (rfl) ((zM_16 hM).2.2) z_10 ?_
    obtain ⟨z_11, K⟩ := K
    obtain ⟨z_12, K⟩ := K
    refine Y.zast dX12_makesAgain_67 (rfl) ((zM_23 hM).2.2) z_11 z_12 ?_
    generalize eE_13 : zuE E_7 74 v3 ((E_7 67 ((6 * v1) + v3))) = E_13
    replace K := K E_13 eE_13.symm
    refine Z.iconst (n := 0) dX12_makesAgain_68 ⟨by decide, by decide⟩ ?_
    refine Z.istore (ls' := [(4, zI 0), (0, zR 50), (1, zI v1), (3, zI v3)]) dX12_makesAgain_69 (by decide) rfl ?_
    refine Z.pick (ls' := [(0, zR 50), (1, zI v1), (3, zI v3), (4, zI 0)]) [1, 2, 3, 0] rfl ?_
    exact K
set_option maxRecDepth 20000 in
theorem X12_makesAgain_71 {kz : Nat × Nat} {Q : Option zV → zH → Prop} {d : List Nat} {G : Nat → Int → Option Nat} {E : Nat → Int → Int} {v1 : Int} {v3 : Int} {v4 : Int} (hM : zK zMt d G) (K : ((0 : Int) ≤ v3 ∧ v3 < (6 : Int)) ∧ ((E 73 v3) ≤ v4 → zin (v3 + 1) ∧ Z zm_X12_makesAgain kz Q 26 [(0, zR 50), (1, zI v1), (3, zI ((v3 + 1)))] [] (d, G, E)) ∧ (¬ ((E 73 v3) ≤ v4) → zin (30 * v3) ∧ zin ((30 * v3) + v4) ∧ zin (6 * v1) ∧ zin ((6 * v1) + v3) ∧ zin (30 * ((6 * v1) + v3)) ∧ zin ((30 * ((6 * v1) + v3)) + v4) ∧ ((0 : Int) ≤ ((30 * ((6 * v1) + v3)) + v4) ∧ ((30 * ((6 * v1) + v3)) + v4) < (27000 : Int)) ∧ ((0 : Int) ≤ ((30 * v3) + v4) ∧ ((30 * v3) + v4) < (180 : Int)) ∧ ∀ E_12, E_12 = zuE E 72 (((30 * v3) + v4)) ((E 65 ((30 * ((6 * v1) + v3)) + v4))) → zin (v4 + 1) ∧ Z zm_X12_makesAgain kz Q 71 [(0, zR 50), (1, zI v1), (3, zI v3), (4, zI ((v4 + 1)))] [] (d, G, E_12))) : Z zm_X12_makesAgain kz Q 71 [(0, zR 50), (1, zI v1), (3, zI v3), (4, zI v4)] [] (d, G, E) := by
  refine Z.iload (k := 3) dX12_makesAgain_71 rfl ?_
  refine Z.aload_n (k := 0) dX12_makesAgain_73 rfl ?_
  refine Y.getR (o := some 73) 22 dX12_makesAgain_74 zl_X12_72 (rfl) (by decide) rfl (zM_1 hM).2.1 (zM_22 hM).1 ?_
  refine Z.iload_n (k := 2) dX12_makesAgain_77 rfl ?_
  obtain ⟨z_1, K⟩ := K
  refine Y.iald dX12_makesAgain_78 (rfl) ((zM_22 hM).2.2) z_1 ?_
  refine Z.icmp_ge 117 dX12_makesAgain_79 rfl ⟨fun c_2 => ?_, fun c_2 => ?_⟩
  · replace K := K.1 c_2
    obtain ⟨z_3, K⟩ := K
    refine Z.iinc (k := 2) (ls' := [(3, zI ((v3 + 1))), (0, zR 50), (1, zI v1), (4, zI v4)]) dX12_makesAgain_117 rfl (by decide) z_3 rfl ?_
    refine Z.goto 26 dX12_makesAgain_120 rfl ?_
    refine Z.pick (ls' := [(0, zR 50), (1, zI v1), (3, zI ((v3 + 1)))]) [1, 2, 0] rfl ?_
    exact K
  · replace K := K.2 c_2
    refine Z.aload_n (k := 0) dX12_makesAgain_82 rfl ?_
    refine Y.getR (o := some 72) 21 dX12_makesAgain_83 zl_X12_69 (rfl) (by decide) rfl (zM_1 hM).2.1 (zM_21 hM).1 ?_
    refine Z.bipush (n := 30) dX12_makesAgain_86 ⟨by decide, by decide⟩ (by decide) ?_
    refine Z.iload_n (k := 2) dX12_makesAgain_88 rfl ?_
    obtain ⟨z_4, K⟩ := K
    refine Z.imul dX12_makesAgain_89 z_4 ?_
    refine Z.iload (k := 3) dX12_makesAgain_90 rfl ?_
    obtain ⟨z_5, K⟩ := K
    refine Z.iadd dX12_makesAgain_92 z_5 ?_
    refine Z.aload_n (k := 0) dX12_makesAgain_93 rfl ?_
    refine Y.getR (o := some 65) 14 dX12_makesAgain_94 zl_X12_48 (rfl) (by decide) rfl (zM_1 hM).2.1 (zM_14 hM).1 ?_
    refine Z.bipush (n := 30) dX12_makesAgain_97 ⟨by decide, by decide⟩ (by decide) ?_
    refine Z.bipush (n := 6) dX12_makesAgain_99 ⟨by decide, by decide⟩ (by decide) ?_
    refine Z.iload_n (k := 1) dX12_makesAgain_101 rfl ?_
    obtain ⟨z_6, K⟩ := K
    refine Z.imul dX12_makesAgain_102 z_6 ?_
    refine Z.iload_n (k := 2) dX12_makesAgain_103 rfl ?_
    obtain ⟨z_7, K⟩ := K
    refine Z.iadd dX12_makesAgain_104 z_7 ?_
    obtain ⟨z_8, K⟩ := K
    refine Z.imul dX12_makesAgain_105 z_8 ?_
    refine Z.iload (k := 3) dX12_makesAgain_106 rfl ?_
    obtain ⟨z_9, K⟩ := K
    refine Z.iadd dX12_makesAgain_108 z_9 ?_
    obtain ⟨z_10, K⟩ := K
    refine Y.iald dX12_makesAgain_109 (rfl) ((zM_14 hM).2.2) z_10 ?_
    obtain ⟨z_11, K⟩ := K
    refine Y.iast dX12_makesAgain_110 (rfl) ((zM_21 hM).2.2) z_11 ?_
    generalize eE_12 : zuE E 72 (((30 * v3) + v4)) ((E 65 ((30 * ((6 * v1) + v3)) + v4))) = E_12
    replace K := K E_12 eE_12.symm
    obtain ⟨z_13, K⟩ := K
    refine Z.iinc (k := 3) (ls' := [(4, zI ((v4 + 1))), (0, zR 50), (1, zI v1), (3, zI v3)]) dX12_makesAgain_111 rfl (by decide) z_13 rfl ?_
    refine Z.goto 71 dX12_makesAgain_114 rfl ?_
    refine Z.pick (ls' := [(0, zR 50), (1, zI v1), (3, zI v3), (4, zI ((v4 + 1)))]) [1, 2, 3, 0] rfl ?_
    exact K
set_option maxRecDepth 20000 in
theorem X12_rewritesAgain_0 {kz : Nat × Nat} {Q : Option zV → zH → Prop} {d : List Nat} {G : Nat → Int → Option Nat} {E : Nat → Int → Int} {v1 : Int} (hM : zK zMt d G) (K : Z zm_X12_rewritesAgain kz Q 2 [(0, zR 50), (1, zI v1), (2, zI 0)] [] (d, G, E)) : Z zm_X12_rewritesAgain kz Q 0 [(0, zR 50), (1, zI v1)] [] (d, G, E) := by
  refine Z.iconst (n := 0) dX12_rewritesAgain_0 ⟨by decide, by decide⟩ ?_
  refine Z.istore_n (ls' := [(2, zI 0), (0, zR 50), (1, zI v1)]) dX12_rewritesAgain_1 (by decide) rfl ?_
  refine Z.pick (ls' := [(0, zR 50), (1, zI v1), (2, zI 0)]) [1, 2, 0] rfl ?_
  exact K
set_option maxRecDepth 20000 in
theorem X12_rewritesAgain_2 {kz : Nat × Nat} {Q : Option zV → zH → Prop} {d : List Nat} {G : Nat → Int → Option Nat} {E : Nat → Int → Int} {v1 : Int} {v2 : Int} (hM : zK zMt d G) (K : ((0 : Int) ≤ v1 ∧ v1 < (150 : Int)) ∧ ((E 70 v1) ≤ v2 → Q (some (zI 1)) (d, G, E)) ∧ (¬ ((E 70 v1) ≤ v2) → zin (32 * v1) ∧ zin (4 * v2) ∧ zin ((32 * v1) + (4 * v2)) ∧ ((0 : Int) ≤ ((32 * v1) + (4 * v2)) ∧ ((32 * v1) + (4 * v2)) < (4800 : Int)) ∧ zin (((32 * v1) + (4 * v2)) + 1) ∧ ((0 : Int) ≤ (((32 * v1) + (4 * v2)) + 1) ∧ (((32 * v1) + (4 * v2)) + 1) < (4800 : Int)) ∧ zin (((32 * v1) + (4 * v2)) + 2) ∧ ((0 : Int) ≤ (((32 * v1) + (4 * v2)) + 2) ∧ (((32 * v1) + (4 * v2)) + 2) < (4800 : Int)) ∧ zin (((32 * v1) + (4 * v2)) + 3) ∧ ((0 : Int) ≤ (((32 * v1) + (4 * v2)) + 3) ∧ (((32 * v1) + (4 * v2)) + 3) < (4800 : Int)) ∧ zin (v1 - 1) ∧ ∃ x_14, zM zm_X12_in [zI ((E 71 ((32 * v1) + (4 * v2)))), zI 0, zI ((v1 - 1))] (d, G, E) (some (zI x_14)) (d, G, E) ∧ (x_14 = 0 → Z zm_X12_rewritesAgain kz Q 141 [(0, zR 50), (1, zI v1), (2, zI v2), (4, zI ((E 71 ((32 * v1) + (4 * v2))))), (5, zI ((E 71 (((32 * v1) + (4 * v2)) + 1)))), (6, zI ((E 71 (((32 * v1) + (4 * v2)) + 2)))), (7, zI ((E 71 (((32 * v1) + (4 * v2)) + 3))))] [] (d, G, E)) ∧ (¬ (x_14 = 0) → ∃ x_18, zM zm_X12_isEquation [zR 50, zI ((E 71 ((32 * v1) + (4 * v2))))] (d, G, E) (some (zI x_18)) (d, G, E) ∧ (x_18 = 0 → Z zm_X12_rewritesAgain kz Q 141 [(0, zR 50), (1, zI v1), (2, zI v2), (4, zI ((E 71 ((32 * v1) + (4 * v2))))), (5, zI ((E 71 (((32 * v1) + (4 * v2)) + 1)))), (6, zI ((E 71 (((32 * v1) + (4 * v2)) + 2)))), (7, zI ((E 71 (((32 * v1) + (4 * v2)) + 3))))] [] (d, G, E)) ∧ (¬ (x_18 = 0) → ∃ x_22, zM zm_X12_in [zI ((E 71 (((32 * v1) + (4 * v2)) + 1))), zI 0, zI 1] (d, G, E) (some (zI x_22)) (d, G, E) ∧ (x_22 = 0 → Z zm_X12_rewritesAgain kz Q 141 [(0, zR 50), (1, zI v1), (2, zI v2), (4, zI ((E 71 ((32 * v1) + (4 * v2))))), (5, zI ((E 71 (((32 * v1) + (4 * v2)) + 1)))), (6, zI ((E 71 (((32 * v1) + (4 * v2)) + 2)))), (7, zI ((E 71 (((32 * v1) + (4 * v2)) + 3))))] [] (d, G, E)) ∧ (¬ (x_22 = 0) → zin ((E 50 24) - 1) ∧ ∃ x_27, zM zm_X12_in [zI ((E 71 (((32 * v1) + (4 * v2)) + 2))), zI 0, zI (((E 50 24) - 1))] (d, G, E) (some (zI x_27)) (d, G, E) ∧ (x_27 = 0 → Z zm_X12_rewritesAgain kz Q 141 [(0, zR 50), (1, zI v1), (2, zI v2), (4, zI ((E 71 ((32 * v1) + (4 * v2))))), (5, zI ((E 71 (((32 * v1) + (4 * v2)) + 1)))), (6, zI ((E 71 (((32 * v1) + (4 * v2)) + 2)))), (7, zI ((E 71 (((32 * v1) + (4 * v2)) + 3))))] [] (d, G, E)) ∧ (¬ (x_27 = 0) → ∃ x_31, zM zm_X12_in [zI ((E 71 (((32 * v1) + (4 * v2)) + 2))), zI 0, zI 5] (d, G, E) (some (zI x_31)) (d, G, E) ∧ (x_31 = 0 → Z zm_X12_rewritesAgain kz Q 128 [(0, zR 50), (1, zI v1), (2, zI v2), (4, zI ((E 71 ((32 * v1) + (4 * v2))))), (5, zI ((E 71 (((32 * v1) + (4 * v2)) + 1)))), (6, zI ((E 71 (((32 * v1) + (4 * v2)) + 2)))), (7, zI ((E 71 (((32 * v1) + (4 * v2)) + 3))))] [zI 0, zR 73, zI 1, zI ((E 71 (((32 * v1) + (4 * v2)) + 3)))] (d, G, E)) ∧ (¬ (x_31 = 0) → Z zm_X12_rewritesAgain kz Q 128 [(0, zR 50), (1, zI v1), (2, zI v2), (4, zI ((E 71 ((32 * v1) + (4 * v2))))), (5, zI ((E 71 (((32 * v1) + (4 * v2)) + 1)))), (6, zI ((E 71 (((32 * v1) + (4 * v2)) + 2)))), (7, zI ((E 71 (((32 * v1) + (4 * v2)) + 3))))] [zI ((E 71 (((32 * v1) + (4 * v2)) + 2))), zR 73, zI 1, zI ((E 71 (((32 * v1) + (4 * v2)) + 3)))] (d, G, E)))))))) : Z zm_X12_rewritesAgain kz Q 2 [(0, zR 50), (1, zI v1), (2, zI v2)] [] (d, G, E) := by
  refine Z.iload_n (k := 2) dX12_rewritesAgain_2 rfl ?_
  refine Z.aload_n (k := 0) dX12_rewritesAgain_3 rfl ?_
  refine Y.getR (o := some 70) 19 dX12_rewritesAgain_4 zl_X12_63 (rfl) (by decide) rfl (zM_1 hM).2.1 (zM_19 hM).1 ?_
  refine Z.iload_n (k := 1) dX12_rewritesAgain_7 rfl ?_
  obtain ⟨z_1, K⟩ := K
  refine Y.iald dX12_rewritesAgain_8 (rfl) ((zM_19 hM).2.2) z_1 ?_
  refine Z.icmp_ge 203 dX12_rewritesAgain_9 rfl ⟨fun c_2 => ?_, fun c_2 => ?_⟩
  · replace K := K.1 c_2
    refine Z.iconst (n := 1) dX12_rewritesAgain_203 ⟨by decide, by decide⟩ ?_
    exact Z.iret (ty := .boolean) dX12_rewritesAgain_204 rfl rfl K
  · replace K := K.2 c_2
    refine Z.bipush (n := 32) dX12_rewritesAgain_12 ⟨by decide, by decide⟩ (by decide) ?_
    refine Z.iload_n (k := 1) dX12_rewritesAgain_14 rfl ?_
    obtain ⟨z_3, K⟩ := K
    refine Z.imul dX12_rewritesAgain_15 z_3 ?_
    refine Z.iconst (n := 4) dX12_rewritesAgain_16 ⟨by decide, by decide⟩ ?_
    refine Z.iload_n (k := 2) dX12_rewritesAgain_17 rfl ?_
    obtain ⟨z_4, K⟩ := K
    refine Z.imul dX12_rewritesAgain_18 z_4 ?_
    obtain ⟨z_5, K⟩ := K
    refine Z.iadd dX12_rewritesAgain_19 z_5 ?_
    refine Z.istore_n (ls' := [(3, zI (((32 * v1) + (4 * v2)))), (0, zR 50), (1, zI v1), (2, zI v2)]) dX12_rewritesAgain_20 (by decide) rfl ?_
    refine Z.aload_n (k := 1) dX12_rewritesAgain_21 rfl ?_
    refine Y.getR (o := some 71) 20 dX12_rewritesAgain_22 zl_X12_66 (rfl) (by decide) rfl (zM_1 hM).2.1 (zM_20 hM).1 ?_
    refine Z.iload_n (k := 0) dX12_rewritesAgain_25 rfl ?_
    obtain ⟨z_6, K⟩ := K
    refine Y.iald dX12_rewritesAgain_26 (rfl) ((zM_20 hM).2.2) z_6 ?_
    refine Z.istore (ls' := [(4, zI ((E 71 ((32 * v1) + (4 * v2))))), (3, zI (((32 * v1) + (4 * v2)))), (0, zR 50), (1, zI v1), (2, zI v2)]) dX12_rewritesAgain_27 (by decide) rfl ?_
    refine Z.aload_n (k := 2) dX12_rewritesAgain_29 rfl ?_
    refine Y.getR (o := some 71) 20 dX12_rewritesAgain_30 zl_X12_66 (rfl) (by decide) rfl (zM_1 hM).2.1 (zM_20 hM).1 ?_
    refine Z.iload_n (k := 1) dX12_rewritesAgain_33 rfl ?_
    refine Z.iconst (n := 1) dX12_rewritesAgain_34 ⟨by decide, by decide⟩ ?_
    obtain ⟨z_7, K⟩ := K
    refine Z.iadd dX12_rewritesAgain_35 z_7 ?_
    obtain ⟨z_8, K⟩ := K
    refine Y.iald dX12_rewritesAgain_36 (rfl) ((zM_20 hM).2.2) z_8 ?_
    refine Z.istore (ls' := [(5, zI ((E 71 (((32 * v1) + (4 * v2)) + 1)))), (4, zI ((E 71 ((32 * v1) + (4 * v2))))), (3, zI (((32 * v1) + (4 * v2)))), (0, zR 50), (1, zI v1), (2, zI v2)]) dX12_rewritesAgain_37 (by decide) rfl ?_
    refine Z.aload_n (k := 3) dX12_rewritesAgain_39 rfl ?_
    refine Y.getR (o := some 71) 20 dX12_rewritesAgain_40 zl_X12_66 (rfl) (by decide) rfl (zM_1 hM).2.1 (zM_20 hM).1 ?_
    refine Z.iload_n (k := 2) dX12_rewritesAgain_43 rfl ?_
    refine Z.iconst (n := 2) dX12_rewritesAgain_44 ⟨by decide, by decide⟩ ?_
    obtain ⟨z_9, K⟩ := K
    refine Z.iadd dX12_rewritesAgain_45 z_9 ?_
    obtain ⟨z_10, K⟩ := K
    refine Y.iald dX12_rewritesAgain_46 (rfl) ((zM_20 hM).2.2) z_10 ?_
    refine Z.istore (ls' := [(6, zI ((E 71 (((32 * v1) + (4 * v2)) + 2)))), (5, zI ((E 71 (((32 * v1) + (4 * v2)) + 1)))), (4, zI ((E 71 ((32 * v1) + (4 * v2))))), (3, zI (((32 * v1) + (4 * v2)))), (0, zR 50), (1, zI v1), (2, zI v2)]) dX12_rewritesAgain_47 (by decide) rfl ?_
    refine Z.aload_n (k := 4) dX12_rewritesAgain_49 rfl ?_
    refine Y.getR (o := some 71) 20 dX12_rewritesAgain_50 zl_X12_66 (rfl) (by decide) rfl (zM_1 hM).2.1 (zM_20 hM).1 ?_
    refine Z.iload_n (k := 3) dX12_rewritesAgain_53 rfl ?_
    refine Z.iconst (n := 3) dX12_rewritesAgain_54 ⟨by decide, by decide⟩ ?_
    obtain ⟨z_11, K⟩ := K
    refine Z.iadd dX12_rewritesAgain_55 z_11 ?_
    obtain ⟨z_12, K⟩ := K
    refine Y.iald dX12_rewritesAgain_56 (rfl) ((zM_20 hM).2.2) z_12 ?_
    refine Z.istore (ls' := [(7, zI ((E 71 (((32 * v1) + (4 * v2)) + 3)))), (6, zI ((E 71 (((32 * v1) + (4 * v2)) + 2)))), (5, zI ((E 71 (((32 * v1) + (4 * v2)) + 1)))), (4, zI ((E 71 ((32 * v1) + (4 * v2))))), (3, zI (((32 * v1) + (4 * v2)))), (0, zR 50), (1, zI v1), (2, zI v2)]) dX12_rewritesAgain_57 (by decide) rfl ?_
    refine Z.iload (k := 3) dX12_rewritesAgain_59 rfl ?_
    refine Z.iconst (n := 0) dX12_rewritesAgain_61 ⟨by decide, by decide⟩ ?_
    refine Z.iload_n (k := 6) dX12_rewritesAgain_62 rfl ?_
    refine Z.iconst (n := 1) dX12_rewritesAgain_63 ⟨by decide, by decide⟩ ?_
    obtain ⟨z_13, K⟩ := K
    refine Z.isub dX12_rewritesAgain_64 z_13 ?_
    obtain ⟨x_14, m_15, K⟩ := K
    refine Y.callS (g := zm_X12_in) (vs := [zI ((E 71 ((32 * v1) + (4 * v2)))), zI 0, zI ((v1 - 1))]) (st := []) dX12_rewritesAgain_65 ⟨zg_X12_in.1, zg_X12_in.2.1, zg_X12_in.2.2, by decide⟩ ⟨Or.inl zk_X12_138, zs_X12_in⟩ rfl rfl (Nat.le_of_ble_eq_true rfl) m_15 (Or.inl rfl) ?_
    show Z zm_X12_rewritesAgain kz Q 68 [(7, zI ((E 71 (((32 * v1) + (4 * v2)) + 3)))), (6, zI ((E 71 (((32 * v1) + (4 * v2)) + 2)))), (5, zI ((E 71 (((32 * v1) + (4 * v2)) + 1)))), (4, zI ((E 71 ((32 * v1) + (4 * v2))))), (3, zI (((32 * v1) + (4 * v2)))), (0, zR 50), (1, zI v1), (2, zI v2)] [zI x_14] (d, G, E)
    refine Z.if_eq 141 dX12_rewritesAgain_68 rfl ⟨fun c_17 => ?_, fun c_17 => ?_⟩
    · replace K := K.1 c_17
      refine Z.pick (ls' := [(0, zR 50), (1, zI v1), (2, zI v2), (4, zI ((E 71 ((32 * v1) + (4 * v2))))), (5, zI ((E 71 (((32 * v1) + (4 * v2)) + 1)))), (6, zI ((E 71 (((32 * v1) + (4 * v2)) + 2)))), (7, zI ((E 71 (((32 * v1) + (4 * v2)) + 3))))]) [5, 6, 7, 3, 2, 1, 0] rfl ?_
      exact K
    · replace K := K.2 c_17
      refine Z.aload_n (k := 5) dX12_rewritesAgain_71 rfl ?_
      refine Z.iload (k := 3) dX12_rewritesAgain_72 rfl ?_
      obtain ⟨x_18, m_19, K⟩ := K
      refine Y.callV (g := zm_X12_isEquation) (vs := [zI ((E 71 ((32 * v1) + (4 * v2))))]) (st := []) dX12_rewritesAgain_74 ⟨zg_X12_isEquation.1, zg_X12_isEquation.2.1, zg_X12_isEquation.2.2, by decide⟩ ⟨zk_X12_227, zv_X12_isEquation⟩ (ci := 12) (rfl) rfl ((zM_1 hM).2.1) rfl rfl (Nat.le_of_ble_eq_true rfl) m_19 (Or.inl rfl) ?_
      show Z zm_X12_rewritesAgain kz Q 77 [(7, zI ((E 71 (((32 * v1) + (4 * v2)) + 3)))), (6, zI ((E 71 (((32 * v1) + (4 * v2)) + 2)))), (5, zI ((E 71 (((32 * v1) + (4 * v2)) + 1)))), (4, zI ((E 71 ((32 * v1) + (4 * v2))))), (3, zI (((32 * v1) + (4 * v2)))), (0, zR 50), (1, zI v1), (2, zI v2)] [zI x_18] (d, G, E)
      refine Z.if_eq 141 dX12_rewritesAgain_77 rfl ⟨fun c_21 => ?_, fun c_21 => ?_⟩
      · replace K := K.1 c_21
        refine Z.pick (ls' := [(0, zR 50), (1, zI v1), (2, zI v2), (4, zI ((E 71 ((32 * v1) + (4 * v2))))), (5, zI ((E 71 (((32 * v1) + (4 * v2)) + 1)))), (6, zI ((E 71 (((32 * v1) + (4 * v2)) + 2)))), (7, zI ((E 71 (((32 * v1) + (4 * v2)) + 3))))]) [5, 6, 7, 3, 2, 1, 0] rfl ?_
        exact K
      · replace K := K.2 c_21
        refine Z.iload (k := 2) dX12_rewritesAgain_80 rfl ?_
        refine Z.iconst (n := 0) dX12_rewritesAgain_82 ⟨by decide, by decide⟩ ?_
        refine Z.iconst (n := 1) dX12_rewritesAgain_83 ⟨by decide, by decide⟩ ?_
        obtain ⟨x_22, m_23, K⟩ := K
        refine Y.callS (g := zm_X12_in) (vs := [zI ((E 71 (((32 * v1) + (4 * v2)) + 1))), zI 0, zI 1]) (st := []) dX12_rewritesAgain_84 ⟨zg_X12_in.1, zg_X12_in.2.1, zg_X12_in.2.2, by decide⟩ ⟨Or.inl zk_X12_138, zs_X12_in⟩ rfl rfl (Nat.le_of_ble_eq_true rfl) m_23 (Or.inl rfl) ?_
        show Z zm_X12_rewritesAgain kz Q 87 [(7, zI ((E 71 (((32 * v1) + (4 * v2)) + 3)))), (6, zI ((E 71 (((32 * v1) + (4 * v2)) + 2)))), (5, zI ((E 71 (((32 * v1) + (4 * v2)) + 1)))), (4, zI ((E 71 ((32 * v1) + (4 * v2))))), (3, zI (((32 * v1) + (4 * v2)))), (0, zR 50), (1, zI v1), (2, zI v2)] [zI x_22] (d, G, E)
        refine Z.if_eq 141 dX12_rewritesAgain_87 rfl ⟨fun c_25 => ?_, fun c_25 => ?_⟩
        · replace K := K.1 c_25
          refine Z.pick (ls' := [(0, zR 50), (1, zI v1), (2, zI v2), (4, zI ((E 71 ((32 * v1) + (4 * v2))))), (5, zI ((E 71 (((32 * v1) + (4 * v2)) + 1)))), (6, zI ((E 71 (((32 * v1) + (4 * v2)) + 2)))), (7, zI ((E 71 (((32 * v1) + (4 * v2)) + 3))))]) [5, 6, 7, 3, 2, 1, 0] rfl ?_
          exact K
        · replace K := K.2 c_25
          refine Z.iload (k := 1) dX12_rewritesAgain_90 rfl ?_
          refine Z.iconst (n := 0) dX12_rewritesAgain_92 ⟨by decide, by decide⟩ ?_
          refine Z.aload_n (k := 5) dX12_rewritesAgain_93 rfl ?_
          refine Y.getI 24 dX12_rewritesAgain_94 zl_X12_167 (rfl) (by decide) rfl (zM_1 hM).2.1 ?_
          refine Z.iconst (n := 1) dX12_rewritesAgain_97 ⟨by decide, by decide⟩ ?_
          obtain ⟨z_26, K⟩ := K
          refine Z.isub dX12_rewritesAgain_98 z_26 ?_
          obtain ⟨x_27, m_28, K⟩ := K
          refine Y.callS (g := zm_X12_in) (vs := [zI ((E 71 (((32 * v1) + (4 * v2)) + 2))), zI 0, zI (((E 50 24) - 1))]) (st := []) dX12_rewritesAgain_99 ⟨zg_X12_in.1, zg_X12_in.2.1, zg_X12_in.2.2, by decide⟩ ⟨Or.inl zk_X12_138, zs_X12_in⟩ rfl rfl (Nat.le_of_ble_eq_true rfl) m_28 (Or.inl rfl) ?_
          show Z zm_X12_rewritesAgain kz Q 102 [(7, zI ((E 71 (((32 * v1) + (4 * v2)) + 3)))), (6, zI ((E 71 (((32 * v1) + (4 * v2)) + 2)))), (5, zI ((E 71 (((32 * v1) + (4 * v2)) + 1)))), (4, zI ((E 71 ((32 * v1) + (4 * v2))))), (3, zI (((32 * v1) + (4 * v2)))), (0, zR 50), (1, zI v1), (2, zI v2)] [zI x_27] (d, G, E)
          refine Z.if_eq 141 dX12_rewritesAgain_102 rfl ⟨fun c_30 => ?_, fun c_30 => ?_⟩
          · replace K := K.1 c_30
            refine Z.pick (ls' := [(0, zR 50), (1, zI v1), (2, zI v2), (4, zI ((E 71 ((32 * v1) + (4 * v2))))), (5, zI ((E 71 (((32 * v1) + (4 * v2)) + 1)))), (6, zI ((E 71 (((32 * v1) + (4 * v2)) + 2)))), (7, zI ((E 71 (((32 * v1) + (4 * v2)) + 3))))]) [5, 6, 7, 3, 2, 1, 0] rfl ?_
            exact K
          · replace K := K.2 c_30
            refine Z.iload (k := 0) dX12_rewritesAgain_105 rfl ?_
            refine Z.iconst (n := 1) dX12_rewritesAgain_107 ⟨by decide, by decide⟩ ?_
            refine Z.aload_n (k := 5) dX12_rewritesAgain_108 rfl ?_
            refine Y.getR (o := some 73) 22 dX12_rewritesAgain_109 zl_X12_72 (rfl) (by decide) rfl (zM_1 hM).2.1 (zM_22 hM).1 ?_
            refine Z.iload (k := 1) dX12_rewritesAgain_112 rfl ?_
            refine Z.iconst (n := 0) dX12_rewritesAgain_114 ⟨by decide, by decide⟩ ?_
            refine Z.iconst (n := 5) dX12_rewritesAgain_115 ⟨by decide, by decide⟩ ?_
            obtain ⟨x_31, m_32, K⟩ := K
            refine Y.callS (g := zm_X12_in) (vs := [zI ((E 71 (((32 * v1) + (4 * v2)) + 2))), zI 0, zI 5]) (st := [zR 73, zI 1, zI ((E 71 (((32 * v1) + (4 * v2)) + 3)))]) dX12_rewritesAgain_116 ⟨zg_X12_in.1, zg_X12_in.2.1, zg_X12_in.2.2, by decide⟩ ⟨Or.inl zk_X12_138, zs_X12_in⟩ rfl rfl (Nat.le_of_ble_eq_true rfl) m_32 (Or.inl rfl) ?_
            show Z zm_X12_rewritesAgain kz Q 119 [(7, zI ((E 71 (((32 * v1) + (4 * v2)) + 3)))), (6, zI ((E 71 (((32 * v1) + (4 * v2)) + 2)))), (5, zI ((E 71 (((32 * v1) + (4 * v2)) + 1)))), (4, zI ((E 71 ((32 * v1) + (4 * v2))))), (3, zI (((32 * v1) + (4 * v2)))), (0, zR 50), (1, zI v1), (2, zI v2)] [zI x_31, zR 73, zI 1, zI ((E 71 (((32 * v1) + (4 * v2)) + 3)))] (d, G, E)
            refine Z.if_eq 127 dX12_rewritesAgain_119 rfl ⟨fun c_34 => ?_, fun c_34 => ?_⟩
            · replace K := K.1 c_34
              refine Z.iconst (n := 0) dX12_rewritesAgain_127 ⟨by decide, by decide⟩ ?_
              refine Z.pick (ls' := [(0, zR 50), (1, zI v1), (2, zI v2), (4, zI ((E 71 ((32 * v1) + (4 * v2))))), (5, zI ((E 71 (((32 * v1) + (4 * v2)) + 1)))), (6, zI ((E 71 (((32 * v1) + (4 * v2)) + 2)))), (7, zI ((E 71 (((32 * v1) + (4 * v2)) + 3))))]) [5, 6, 7, 3, 2, 1, 0] rfl ?_
              exact K
            · replace K := K.2 c_34
              refine Z.iload (k := 1) dX12_rewritesAgain_122 rfl ?_
              refine Z.goto 128 dX12_rewritesAgain_124 rfl ?_
              refine Z.pick (ls' := [(0, zR 50), (1, zI v1), (2, zI v2), (4, zI ((E 71 ((32 * v1) + (4 * v2))))), (5, zI ((E 71 (((32 * v1) + (4 * v2)) + 1)))), (6, zI ((E 71 (((32 * v1) + (4 * v2)) + 2)))), (7, zI ((E 71 (((32 * v1) + (4 * v2)) + 3))))]) [5, 6, 7, 3, 2, 1, 0] rfl ?_
              exact K
set_option maxRecDepth 20000 in
theorem X12_rewritesAgain_128 {kz : Nat × Nat} {Q : Option zV → zH → Prop} {d : List Nat} {G : Nat → Int → Option Nat} {E : Nat → Int → Int} {v1 : Int} {v2 : Int} {v4 : Int} {v5 : Int} {v6 : Int} {v7 : Int} {s0 : Int} {t1 : Option Nat} {s2 : Int} {s3 : Int} (hM : zK zMt d G) (K : ∃ b_1 n_3, t1 = some b_1 ∧ zkd b_1 = (0, n_3) ∧ b_1 ∈ d ∧ ((0 : Int) ≤ s0 ∧ s0 < (n_3 : Int)) ∧ zin ((E b_1 s0) - 1) ∧ ∃ x_8, zM zm_X12_in [zI s3, zI s2, zI (((E b_1 s0) - 1))] (d, G, E) (some (zI x_8)) (d, G, E) ∧ (x_8 = 0 → Z zm_X12_rewritesAgain kz Q 141 [(0, zR 50), (1, zI v1), (2, zI v2), (4, zI v4), (5, zI v5), (6, zI v6), (7, zI v7)] [] (d, G, E)) ∧ (¬ (x_8 = 0) → zin (30 * v6) ∧ zin ((30 * v6) + v7) ∧ ((0 : Int) ≤ ((30 * v6) + v7) ∧ ((30 * v6) + v7) < (180 : Int)) ∧ ((E 72 ((30 * v6) + v7)) < 0 → Q (some (zI 0)) (d, G, E)) ∧ (¬ ((E 72 ((30 * v6) + v7)) < 0) → ∃ x_17 E_18, zM zm_X12_rewrites [zR 50, zI v4, zI v5, zI v6, zI v7] (d, G, E) (some (zI x_17)) (d, G, E_18) ∧ (x_17 = 0 → Q (some (zI 0)) (d, G, E_18)) ∧ (¬ (x_17 = 0) → ∃ x_22 E_23, zM zm_X12_lays [zR 50, zI v6, zI v7] (d, G, E_18) (some (zI x_22)) (d, G, E_23) ∧ (x_22 ≠ 0 → ∃ E_27, zM zm_X12_clean [zR 50] (d, G, E_23) none (d, G, E_27) ∧ zin (v2 + 1) ∧ Z zm_X12_rewritesAgain kz Q 2 [(0, zR 50), (1, zI v1), (2, zI ((v2 + 1)))] [] (d, G, E_27)) ∧ (¬ (x_22 ≠ 0) → Q (some (zI 0)) (d, G, E_23)))))) : Z zm_X12_rewritesAgain kz Q 128 [(0, zR 50), (1, zI v1), (2, zI v2), (4, zI v4), (5, zI v5), (6, zI v6), (7, zI v7)] [zI s0, zO t1, zI s2, zI s3] (d, G, E) := by
  obtain ⟨b_1, n_3, e_2, hk_4, hm_5, K⟩ := K
  rw [e_2]
  obtain ⟨z_6, K⟩ := K
  refine Y.iald dX12_rewritesAgain_128 (hk_4) (hm_5) z_6 ?_
  refine Z.iconst (n := 1) dX12_rewritesAgain_129 ⟨by decide, by decide⟩ ?_
  obtain ⟨z_7, K⟩ := K
  refine Z.isub dX12_rewritesAgain_130 z_7 ?_
  obtain ⟨x_8, m_9, K⟩ := K
  refine Y.callS (g := zm_X12_in) (vs := [zI s3, zI s2, zI (((E b_1 s0) - 1))]) (st := []) dX12_rewritesAgain_131 ⟨zg_X12_in.1, zg_X12_in.2.1, zg_X12_in.2.2, by decide⟩ ⟨Or.inl zk_X12_138, zs_X12_in⟩ rfl rfl (Nat.le_of_ble_eq_true rfl) m_9 (Or.inl rfl) ?_
  show Z zm_X12_rewritesAgain kz Q 134 [(0, zR 50), (1, zI v1), (2, zI v2), (4, zI v4), (5, zI v5), (6, zI v6), (7, zI v7)] [zI x_8] (d, G, E)
  refine Z.if_eq 141 dX12_rewritesAgain_134 rfl ⟨fun c_11 => ?_, fun c_11 => ?_⟩
  · replace K := K.1 c_11
    exact K
  · replace K := K.2 c_11
    refine Z.iconst (n := 1) dX12_rewritesAgain_137 ⟨by decide, by decide⟩ ?_
    refine Z.goto 142 dX12_rewritesAgain_138 rfl ?_
    refine Z.istore (ls' := [(8, zI 1), (0, zR 50), (1, zI v1), (2, zI v2), (4, zI v4), (5, zI v5), (6, zI v6), (7, zI v7)]) dX12_rewritesAgain_142 (by decide) rfl ?_
    refine Z.iload (k := 0) dX12_rewritesAgain_144 rfl ?_
    refine Z.if_eq 191 dX12_rewritesAgain_146 rfl ⟨fun c_12 => absurd c_12 (by decide), fun _ => ?_⟩
    refine Z.aload_n (k := 1) dX12_rewritesAgain_149 rfl ?_
    refine Y.getR (o := some 72) 21 dX12_rewritesAgain_150 zl_X12_69 (rfl) (by decide) rfl (zM_1 hM).2.1 (zM_21 hM).1 ?_
    refine Z.bipush (n := 30) dX12_rewritesAgain_153 ⟨by decide, by decide⟩ (by decide) ?_
    refine Z.iload (k := 6) dX12_rewritesAgain_155 rfl ?_
    obtain ⟨z_13, K⟩ := K
    refine Z.imul dX12_rewritesAgain_157 z_13 ?_
    refine Z.iload (k := 7) dX12_rewritesAgain_158 rfl ?_
    obtain ⟨z_14, K⟩ := K
    refine Z.iadd dX12_rewritesAgain_160 z_14 ?_
    obtain ⟨z_15, K⟩ := K
    refine Y.iald dX12_rewritesAgain_161 (rfl) ((zM_21 hM).2.2) z_15 ?_
    refine Z.if_lt 191 dX12_rewritesAgain_162 rfl ⟨fun c_16 => ?_, fun c_16 => ?_⟩
    · replace K := K.1 c_16
      refine Z.iconst (n := 0) dX12_rewritesAgain_191 ⟨by decide, by decide⟩ ?_
      exact Z.iret (ty := .boolean) dX12_rewritesAgain_192 rfl rfl K
    · replace K := K.2 c_16
      refine Z.aload_n (k := 1) dX12_rewritesAgain_165 rfl ?_
      refine Z.iload (k := 4) dX12_rewritesAgain_166 rfl ?_
      refine Z.iload (k := 5) dX12_rewritesAgain_168 rfl ?_
      refine Z.iload (k := 6) dX12_rewritesAgain_170 rfl ?_
      refine Z.iload (k := 7) dX12_rewritesAgain_172 rfl ?_
      obtain ⟨x_17, E_18, m_19, K⟩ := K
      refine Y.callV (g := zm_X12_rewrites) (vs := [zI v4, zI v5, zI v6, zI v7]) (st := []) dX12_rewritesAgain_174 ⟨zg_X12_rewrites.1, zg_X12_rewrites.2.1, zg_X12_rewrites.2.2, by decide⟩ ⟨zk_X12_230, zv_X12_rewrites⟩ (ci := 12) (rfl) rfl ((zM_1 hM).2.1) rfl rfl (Nat.le_of_ble_eq_true rfl) m_19 (Or.inl rfl) ?_
      show Z zm_X12_rewritesAgain kz Q 177 [(8, zI 1), (0, zR 50), (1, zI v1), (2, zI v2), (4, zI v4), (5, zI v5), (6, zI v6), (7, zI v7)] [zI x_17] (d, G, E_18)
      refine Z.if_eq 191 dX12_rewritesAgain_177 rfl ⟨fun c_21 => ?_, fun c_21 => ?_⟩
      · replace K := K.1 c_21
        refine Z.iconst (n := 0) dX12_rewritesAgain_191 ⟨by decide, by decide⟩ ?_
        exact Z.iret (ty := .boolean) dX12_rewritesAgain_192 rfl rfl K
      · replace K := K.2 c_21
        refine Z.aload_n (k := 1) dX12_rewritesAgain_180 rfl ?_
        refine Z.iload (k := 6) dX12_rewritesAgain_181 rfl ?_
        refine Z.iload (k := 7) dX12_rewritesAgain_183 rfl ?_
        obtain ⟨x_22, E_23, m_24, K⟩ := K
        refine Y.callV (g := zm_X12_lays) (vs := [zI v6, zI v7]) (st := []) dX12_rewritesAgain_185 ⟨zg_X12_lays.1, zg_X12_lays.2.1, zg_X12_lays.2.2, by decide⟩ ⟨zk_X12_243, zv_X12_lays⟩ (ci := 12) (rfl) rfl ((zM_1 hM).2.1) rfl rfl (Nat.le_of_ble_eq_true rfl) m_24 (Or.inl rfl) ?_
        show Z zm_X12_rewritesAgain kz Q 188 [(8, zI 1), (0, zR 50), (1, zI v1), (2, zI v2), (4, zI v4), (5, zI v5), (6, zI v6), (7, zI v7)] [zI x_22] (d, G, E_23)
        refine Z.if_ne 193 dX12_rewritesAgain_188 rfl ⟨fun c_26 => ?_, fun c_26 => ?_⟩
        · replace K := K.1 c_26
          refine Z.aload_n (k := 1) dX12_rewritesAgain_193 rfl ?_
          obtain ⟨E_27, m_28, K⟩ := K
          refine Y.callV (g := zm_X12_clean) (vs := []) (st := []) dX12_rewritesAgain_194 ⟨zg_X12_clean.1, zg_X12_clean.2.1, zg_X12_clean.2.2, by decide⟩ ⟨zk_X12_236, zv_X12_clean⟩ (ci := 12) (rfl) rfl ((zM_1 hM).2.1) rfl rfl (Nat.le_of_ble_eq_true rfl) m_28 (Or.inl rfl) ?_
          show Z zm_X12_rewritesAgain kz Q 197 [(8, zI 1), (0, zR 50), (1, zI v1), (2, zI v2), (4, zI v4), (5, zI v5), (6, zI v6), (7, zI v7)] [] (d, G, E_27)
          obtain ⟨z_30, K⟩ := K
          refine Z.iinc (k := 3) (ls' := [(2, zI ((v2 + 1))), (8, zI 1), (0, zR 50), (1, zI v1), (4, zI v4), (5, zI v5), (6, zI v6), (7, zI v7)]) dX12_rewritesAgain_197 rfl (by decide) z_30 rfl ?_
          refine Z.goto 2 dX12_rewritesAgain_200 rfl ?_
          refine Z.pick (ls' := [(0, zR 50), (1, zI v1), (2, zI ((v2 + 1)))]) [2, 3, 0] rfl ?_
          exact K
        · replace K := K.2 c_26
          refine Z.iconst (n := 0) dX12_rewritesAgain_191 ⟨by decide, by decide⟩ ?_
          exact Z.iret (ty := .boolean) dX12_rewritesAgain_192 rfl rfl K
set_option maxRecDepth 20000 in
theorem X12_rewritesAgain_141 {kz : Nat × Nat} {Q : Option zV → zH → Prop} {d : List Nat} {G : Nat → Int → Option Nat} {E : Nat → Int → Int} {v1 : Int} {v2 : Int} {v4 : Int} {v5 : Int} {v6 : Int} {v7 : Int} (hM : zK zMt d G) (K : Q (some (zI 0)) (d, G, E)) : Z zm_X12_rewritesAgain kz Q 141 [(0, zR 50), (1, zI v1), (2, zI v2), (4, zI v4), (5, zI v5), (6, zI v6), (7, zI v7)] [] (d, G, E) := by
  refine Z.iconst (n := 0) dX12_rewritesAgain_141 ⟨by decide, by decide⟩ ?_
  refine Z.istore (ls' := [(8, zI 0), (0, zR 50), (1, zI v1), (2, zI v2), (4, zI v4), (5, zI v5), (6, zI v6), (7, zI v7)]) dX12_rewritesAgain_142 (by decide) rfl ?_
  refine Z.iload (k := 0) dX12_rewritesAgain_144 rfl ?_
  refine Z.if_eq 191 dX12_rewritesAgain_146 rfl ⟨fun _ => ?_, fun c_1 => absurd (by decide) c_1⟩
  refine Z.iconst (n := 0) dX12_rewritesAgain_191 ⟨by decide, by decide⟩ ?_
  exact Z.iret (ty := .boolean) dX12_rewritesAgain_192 rfl rfl K
set_option maxRecDepth 20000 in
theorem X12_isWork_0 {kz : Nat × Nat} {Q : Option zV → zH → Prop} {d : List Nat} {G : Nat → Int → Option Nat} {E : Nat → Int → Int} {v1 : Int} (hM : zK zMt d G) (K : ((0 : Int) ≤ v1 ∧ v1 < (150 : Int)) ∧ ((E 50 24) ≠ (E 61 v1) → Z zm_X12_isWork kz Q 21 [(0, zR 50), (1, zI v1), (2, zI 0), (3, zI 0)] [] (d, G, E)) ∧ (¬ ((E 50 24) ≠ (E 61 v1)) → Z zm_X12_isWork kz Q 21 [(0, zR 50), (1, zI v1), (2, zI 1), (3, zI 0)] [] (d, G, E))) : Z zm_X12_isWork kz Q 0 [(0, zR 50), (1, zI v1)] [] (d, G, E) := by
  refine Z.aload_n (k := 0) dX12_isWork_0 rfl ?_
  refine Y.getI 24 dX12_isWork_1 zl_X12_167 (rfl) (by decide) rfl (zM_1 hM).2.1 ?_
  refine Z.aload_n (k := 0) dX12_isWork_4 rfl ?_
  refine Y.getR (o := some 61) 10 dX12_isWork_5 zl_X12_36 (rfl) (by decide) rfl (zM_1 hM).2.1 (zM_10 hM).1 ?_
  refine Z.iload_n (k := 1) dX12_isWork_8 rfl ?_
  obtain ⟨z_1, K⟩ := K
  refine Y.iald dX12_isWork_9 (rfl) ((zM_10 hM).2.2) z_1 ?_
  refine Z.icmp_ne 17 dX12_isWork_10 rfl ⟨fun c_2 => ?_, fun c_2 => ?_⟩
  · replace K := K.1 c_2
    refine Z.iconst (n := 0) dX12_isWork_17 ⟨by decide, by decide⟩ ?_
    refine Z.istore_n (ls' := [(2, zI 0), (0, zR 50), (1, zI v1)]) dX12_isWork_18 (by decide) rfl ?_
    refine Z.iconst (n := 0) dX12_isWork_19 ⟨by decide, by decide⟩ ?_
    refine Z.istore_n (ls' := [(3, zI 0), (2, zI 0), (0, zR 50), (1, zI v1)]) dX12_isWork_20 (by decide) rfl ?_
    refine Z.pick (ls' := [(0, zR 50), (1, zI v1), (2, zI 0), (3, zI 0)]) [2, 3, 1, 0] rfl ?_
    exact K
  · replace K := K.2 c_2
    refine Z.iconst (n := 1) dX12_isWork_13 ⟨by decide, by decide⟩ ?_
    refine Z.goto 18 dX12_isWork_14 rfl ?_
    refine Z.istore_n (ls' := [(2, zI 1), (0, zR 50), (1, zI v1)]) dX12_isWork_18 (by decide) rfl ?_
    refine Z.iconst (n := 0) dX12_isWork_19 ⟨by decide, by decide⟩ ?_
    refine Z.istore_n (ls' := [(3, zI 0), (2, zI 1), (0, zR 50), (1, zI v1)]) dX12_isWork_20 (by decide) rfl ?_
    refine Z.pick (ls' := [(0, zR 50), (1, zI v1), (2, zI 1), (3, zI 0)]) [2, 3, 1, 0] rfl ?_
    exact K
set_option maxRecDepth 20000 in
theorem X12_isWork_21 {kz : Nat × Nat} {Q : Option zV → zH → Prop} {d : List Nat} {G : Nat → Int → Option Nat} {E : Nat → Int → Int} {v1 : Int} {v2 : Int} {v3 : Int} (hM : zK zMt d G) (K : ((E 50 24) ≤ v3 → (v2 = 0 ∨ v2 = 1) ∧ Q (some (zI v2)) (d, G, E)) ∧ (¬ ((E 50 24) ≤ v3) → (v2 = 0 → (v2 = 0 ∨ v2 = 1) ∧ Q (some (zI v2)) (d, G, E)) ∧ (¬ (v2 = 0) → zin (6 * v1) ∧ zin ((6 * v1) + v3) ∧ ((0 : Int) ≤ v3 ∧ v3 < (6 : Int)) ∧ ((0 : Int) ≤ ((6 * v1) + v3) ∧ ((6 * v1) + v3) < (900 : Int)) ∧ ((E 74 v3) ≠ (E 60 ((6 * v1) + v3)) → zin (v3 + 1) ∧ Z zm_X12_isWork kz Q 21 [(0, zR 50), (1, zI v1), (2, zI 0), (3, zI ((v3 + 1)))] [] (d, G, E)) ∧ (¬ ((E 74 v3) ≠ (E 60 ((6 * v1) + v3))) → ((0 : Int) ≤ v3 ∧ v3 < (6 : Int)) ∧ ((0 : Int) ≤ ((6 * v1) + v3) ∧ ((6 * v1) + v3) < (900 : Int)) ∧ ((E 73 v3) ≠ (E 59 ((6 * v1) + v3)) → zin (v3 + 1) ∧ Z zm_X12_isWork kz Q 21 [(0, zR 50), (1, zI v1), (2, zI 0), (3, zI ((v3 + 1)))] [] (d, G, E)) ∧ (¬ ((E 73 v3) ≠ (E 59 ((6 * v1) + v3))) → zin (30 * v3) ∧ zin (30 * ((6 * v1) + v3)) ∧ ((0 : Int) ≤ ((6 * v1) + v3) ∧ ((6 * v1) + v3) < (900 : Int)) ∧ ∃ x_16, zM zm_X12_isLike [zR 72, zI ((30 * v3)), zR 58, zI ((30 * ((6 * v1) + v3))), zI ((E 59 ((6 * v1) + v3)))] (d, G, E) (some (zI x_16)) (d, G, E) ∧ (x_16 = 0 → zin (v3 + 1) ∧ Z zm_X12_isWork kz Q 21 [(0, zR 50), (1, zI v1), (2, zI 0), (3, zI ((v3 + 1)))] [] (d, G, E)) ∧ (¬ (x_16 = 0) → zin (v3 + 1) ∧ Z zm_X12_isWork kz Q 21 [(0, zR 50), (1, zI v1), (2, zI 1), (3, zI ((v3 + 1)))] [] (d, G, E))))))) : Z zm_X12_isWork kz Q 21 [(0, zR 50), (1, zI v1), (2, zI v2), (3, zI v3)] [] (d, G, E) := by
  refine Z.iload_n (k := 3) dX12_isWork_21 rfl ?_
  refine Z.aload_n (k := 0) dX12_isWork_22 rfl ?_
  refine Y.getI 24 dX12_isWork_23 zl_X12_167 (rfl) (by decide) rfl (zM_1 hM).2.1 ?_
  refine Z.icmp_ge 115 dX12_isWork_26 rfl ⟨fun c_1 => ?_, fun c_1 => ?_⟩
  · replace K := K.1 c_1
    refine Z.iload_n (k := 2) dX12_isWork_115 rfl ?_
    exact Z.iret (ty := .boolean) dX12_isWork_116 rfl (by rcases K.1 with e | e <;> rw [e] <;> rfl) K.2
  · replace K := K.2 c_1
    refine Z.iload_n (k := 2) dX12_isWork_29 rfl ?_
    refine Z.if_eq 115 dX12_isWork_30 rfl ⟨fun c_2 => ?_, fun c_2 => ?_⟩
    · replace K := K.1 c_2
      refine Z.iload_n (k := 2) dX12_isWork_115 rfl ?_
      exact Z.iret (ty := .boolean) dX12_isWork_116 rfl (by rcases K.1 with e | e <;> rw [e] <;> rfl) K.2
    · replace K := K.2 c_2
      refine Z.bipush (n := 6) dX12_isWork_33 ⟨by decide, by decide⟩ (by decide) ?_
      refine Z.iload_n (k := 1) dX12_isWork_35 rfl ?_
      obtain ⟨z_3, K⟩ := K
      refine Z.imul dX12_isWork_36 z_3 ?_
      refine Z.iload_n (k := 3) dX12_isWork_37 rfl ?_
      obtain ⟨z_4, K⟩ := K
      refine Z.iadd dX12_isWork_38 z_4 ?_
      refine Z.istore (ls' := [(4, zI (((6 * v1) + v3))), (0, zR 50), (1, zI v1), (2, zI v2), (3, zI v3)]) dX12_isWork_39 (by decide) rfl ?_
      refine Z.aload_n (k := 1) dX12_isWork_41 rfl ?_
      refine Y.getR (o := some 74) 23 dX12_isWork_42 zl_X12_75 (rfl) (by decide) rfl (zM_1 hM).2.1 (zM_23 hM).1 ?_
      refine Z.iload_n (k := 4) dX12_isWork_45 rfl ?_
      obtain ⟨z_5, K⟩ := K
      refine Y.zald dX12_isWork_46 (rfl) ((zM_23 hM).2.2) z_5 ?_
      refine Z.aload_n (k := 1) dX12_isWork_47 rfl ?_
      refine Y.getR (o := some 60) 9 dX12_isWork_48 zl_X12_33 (rfl) (by decide) rfl (zM_1 hM).2.1 (zM_9 hM).1 ?_
      refine Z.iload (k := 0) dX12_isWork_51 rfl ?_
      obtain ⟨z_6, K⟩ := K
      refine Y.zald dX12_isWork_53 (rfl) ((zM_9 hM).2.2) z_6 ?_
      refine Z.icmp_ne 107 dX12_isWork_54 rfl ⟨fun c_7 => ?_, fun c_7 => ?_⟩
      · replace K := K.1 c_7
        refine Z.iconst (n := 0) dX12_isWork_107 ⟨by decide, by decide⟩ ?_
        refine Z.istore_n (ls' := [(2, zI 0), (4, zI (((6 * v1) + v3))), (0, zR 50), (1, zI v1), (3, zI v3)]) dX12_isWork_108 (by decide) rfl ?_
        obtain ⟨z_8, K⟩ := K
        refine Z.iinc (k := 4) (ls' := [(3, zI ((v3 + 1))), (2, zI 0), (4, zI (((6 * v1) + v3))), (0, zR 50), (1, zI v1)]) dX12_isWork_109 rfl (by decide) z_8 rfl ?_
        refine Z.goto 21 dX12_isWork_112 rfl ?_
        refine Z.pick (ls' := [(0, zR 50), (1, zI v1), (2, zI 0), (3, zI ((v3 + 1)))]) [3, 4, 1, 0] rfl ?_
        exact K
      · replace K := K.2 c_7
        refine Z.aload_n (k := 1) dX12_isWork_57 rfl ?_
        refine Y.getR (o := some 73) 22 dX12_isWork_58 zl_X12_72 (rfl) (by decide) rfl (zM_1 hM).2.1 (zM_22 hM).1 ?_
        refine Z.iload_n (k := 4) dX12_isWork_61 rfl ?_
        obtain ⟨z_9, K⟩ := K
        refine Y.iald dX12_isWork_62 (rfl) ((zM_22 hM).2.2) z_9 ?_
        refine Z.aload_n (k := 1) dX12_isWork_63 rfl ?_
        refine Y.getR (o := some 59) 8 dX12_isWork_64 zl_X12_30 (rfl) (by decide) rfl (zM_1 hM).2.1 (zM_8 hM).1 ?_
        refine Z.iload (k := 0) dX12_isWork_67 rfl ?_
        obtain ⟨z_10, K⟩ := K
        refine Y.iald dX12_isWork_69 (rfl) ((zM_8 hM).2.2) z_10 ?_
        refine Z.icmp_ne 107 dX12_isWork_70 rfl ⟨fun c_11 => ?_, fun c_11 => ?_⟩
        · replace K := K.1 c_11
          refine Z.iconst (n := 0) dX12_isWork_107 ⟨by decide, by decide⟩ ?_
          refine Z.istore_n (ls' := [(2, zI 0), (4, zI (((6 * v1) + v3))), (0, zR 50), (1, zI v1), (3, zI v3)]) dX12_isWork_108 (by decide) rfl ?_
          obtain ⟨z_12, K⟩ := K
          refine Z.iinc (k := 4) (ls' := [(3, zI ((v3 + 1))), (2, zI 0), (4, zI (((6 * v1) + v3))), (0, zR 50), (1, zI v1)]) dX12_isWork_109 rfl (by decide) z_12 rfl ?_
          refine Z.goto 21 dX12_isWork_112 rfl ?_
          refine Z.pick (ls' := [(0, zR 50), (1, zI v1), (2, zI 0), (3, zI ((v3 + 1)))]) [3, 4, 1, 0] rfl ?_
          exact K
        · replace K := K.2 c_11
          refine Z.aload_n (k := 1) dX12_isWork_73 rfl ?_
          refine Y.getR (o := some 72) 21 dX12_isWork_74 zl_X12_69 (rfl) (by decide) rfl (zM_1 hM).2.1 (zM_21 hM).1 ?_
          refine Z.bipush (n := 30) dX12_isWork_77 ⟨by decide, by decide⟩ (by decide) ?_
          refine Z.iload_n (k := 4) dX12_isWork_79 rfl ?_
          obtain ⟨z_13, K⟩ := K
          refine Z.imul dX12_isWork_80 z_13 ?_
          refine Z.aload_n (k := 1) dX12_isWork_81 rfl ?_
          refine Y.getR (o := some 58) 7 dX12_isWork_82 zl_X12_27 (rfl) (by decide) rfl (zM_1 hM).2.1 (zM_7 hM).1 ?_
          refine Z.bipush (n := 30) dX12_isWork_85 ⟨by decide, by decide⟩ (by decide) ?_
          refine Z.iload (k := 0) dX12_isWork_87 rfl ?_
          obtain ⟨z_14, K⟩ := K
          refine Z.imul dX12_isWork_89 z_14 ?_
          refine Z.aload_n (k := 1) dX12_isWork_90 rfl ?_
          refine Y.getR (o := some 59) 8 dX12_isWork_91 zl_X12_30 (rfl) (by decide) rfl (zM_1 hM).2.1 (zM_8 hM).1 ?_
          refine Z.iload (k := 0) dX12_isWork_94 rfl ?_
          obtain ⟨z_15, K⟩ := K
          refine Y.iald dX12_isWork_96 (rfl) ((zM_8 hM).2.2) z_15 ?_
          obtain ⟨x_16, m_17, K⟩ := K
          refine Y.callS (g := zm_X12_isLike) (vs := [zR 72, zI ((30 * v3)), zR 58, zI ((30 * ((6 * v1) + v3))), zI ((E 59 ((6 * v1) + v3)))]) (st := []) dX12_isWork_97 ⟨zg_X12_isLike.1, zg_X12_isLike.2.1, zg_X12_isLike.2.2, by decide⟩ ⟨Or.inl zk_X12_152, zs_X12_isLike⟩ rfl rfl (Nat.le_of_ble_eq_true rfl) m_17 (Or.inl rfl) ?_
          show Z zm_X12_isWork kz Q 100 [(4, zI (((6 * v1) + v3))), (0, zR 50), (1, zI v1), (2, zI v2), (3, zI v3)] [zI x_16] (d, G, E)
          refine Z.if_eq 107 dX12_isWork_100 rfl ⟨fun c_19 => ?_, fun c_19 => ?_⟩
          · replace K := K.1 c_19
            refine Z.iconst (n := 0) dX12_isWork_107 ⟨by decide, by decide⟩ ?_
            refine Z.istore_n (ls' := [(2, zI 0), (4, zI (((6 * v1) + v3))), (0, zR 50), (1, zI v1), (3, zI v3)]) dX12_isWork_108 (by decide) rfl ?_
            obtain ⟨z_20, K⟩ := K
            refine Z.iinc (k := 4) (ls' := [(3, zI ((v3 + 1))), (2, zI 0), (4, zI (((6 * v1) + v3))), (0, zR 50), (1, zI v1)]) dX12_isWork_109 rfl (by decide) z_20 rfl ?_
            refine Z.goto 21 dX12_isWork_112 rfl ?_
            refine Z.pick (ls' := [(0, zR 50), (1, zI v1), (2, zI 0), (3, zI ((v3 + 1)))]) [3, 4, 1, 0] rfl ?_
            exact K
          · replace K := K.2 c_19
            refine Z.iconst (n := 1) dX12_isWork_103 ⟨by decide, by decide⟩ ?_
            refine Z.goto 108 dX12_isWork_104 rfl ?_
            refine Z.istore_n (ls' := [(2, zI 1), (4, zI (((6 * v1) + v3))), (0, zR 50), (1, zI v1), (3, zI v3)]) dX12_isWork_108 (by decide) rfl ?_
            obtain ⟨z_21, K⟩ := K
            refine Z.iinc (k := 4) (ls' := [(3, zI ((v3 + 1))), (2, zI 1), (4, zI (((6 * v1) + v3))), (0, zR 50), (1, zI v1)]) dX12_isWork_109 rfl (by decide) z_21 rfl ?_
            refine Z.goto 21 dX12_isWork_112 rfl ?_
            refine Z.pick (ls' := [(0, zR 50), (1, zI v1), (2, zI 1), (3, zI ((v3 + 1)))]) [3, 4, 1, 0] rfl ?_
            exact K
set_option maxRecDepth 20000 in
theorem X12_judge_0 {kz : Nat × Nat} {Q : Option zV → zH → Prop} {d : List Nat} {G : Nat → Int → Option Nat} {E : Nat → Int → Int} {v1 : Int} (hM : zK zMt d G) (K : ∃ x_1, zM zm_X12_isClaim [zR 50, zI v1] (d, G, E) (some (zI x_1)) (d, G, E) ∧ (x_1 ≠ 0 → ∃ x_5 E_6, zM zm_X12_makesAgain [zR 50, zI v1] (d, G, E) (some (zI x_5)) (d, G, E_6) ∧ (x_5 ≠ 0 → ∃ E_10, zM zm_X12_clean [zR 50] (d, G, E_6) none (d, G, E_10) ∧ (20 < (E_10 50 28) → Q (some (zI 0)) (d, G, E_10)) ∧ (¬ (20 < (E_10 50 28)) → ∃ x_14 E_15, zM zm_X12_rewritesAgain [zR 50, zI v1] (d, G, E_10) (some (zI x_14)) (d, G, E_15) ∧ (x_14 = 0 → Q (some (zI 0)) (d, G, E_15)) ∧ (¬ (x_14 = 0) → ∃ x_19, zM zm_X12_isWork [zR 50, zI v1] (d, G, E_15) (some (zI x_19)) (d, G, E_15) ∧ (x_19 = 0 → Q (some (zI 0)) (d, G, E_15)) ∧ (¬ (x_19 = 0) → Q (some (zI 1)) (d, G, E_15))))) ∧ (¬ (x_5 ≠ 0) → Q (some (zI 0)) (d, G, E_6))) ∧ (¬ (x_1 ≠ 0) → Q (some (zI ((-2)))) (d, G, E))) : Z zm_X12_judge kz Q 0 [(0, zR 50), (1, zI v1)] [] (d, G, E) := by
  refine Z.aload_n (k := 0) dX12_judge_0 rfl ?_
  refine Z.iload_n (k := 1) dX12_judge_1 rfl ?_
  obtain ⟨x_1, m_2, K⟩ := K
  refine Y.callV (g := zm_X12_isClaim) (vs := [zI v1]) (st := []) dX12_judge_2 ⟨zg_X12_isClaim.1, zg_X12_isClaim.2.1, zg_X12_isClaim.2.2, by decide⟩ ⟨zk_X12_380, zv_X12_isClaim⟩ (ci := 12) (rfl) rfl ((zM_1 hM).2.1) rfl rfl (Nat.le_of_ble_eq_true rfl) m_2 (Or.inl rfl) ?_
  show Z zm_X12_judge kz Q 5 [(0, zR 50), (1, zI v1)] [zI x_1] (d, G, E)
  refine Z.if_ne 11 dX12_judge_5 rfl ⟨fun c_4 => ?_, fun c_4 => ?_⟩
  · replace K := K.1 c_4
    refine Z.aload_n (k := 0) dX12_judge_11 rfl ?_
    refine Z.iload_n (k := 1) dX12_judge_12 rfl ?_
    obtain ⟨x_5, E_6, m_7, K⟩ := K
    refine Y.callV (g := zm_X12_makesAgain) (vs := [zI v1]) (st := []) dX12_judge_13 ⟨zg_X12_makesAgain.1, zg_X12_makesAgain.2.1, zg_X12_makesAgain.2.2, by decide⟩ ⟨zk_X12_390, zv_X12_makesAgain⟩ (ci := 12) (rfl) rfl ((zM_1 hM).2.1) rfl rfl (Nat.le_of_ble_eq_true rfl) m_7 (Or.inl rfl) ?_
    show Z zm_X12_judge kz Q 16 [(0, zR 50), (1, zI v1)] [zI x_5] (d, G, E_6)
    refine Z.if_ne 21 dX12_judge_16 rfl ⟨fun c_9 => ?_, fun c_9 => ?_⟩
    · replace K := K.1 c_9
      refine Z.aload_n (k := 0) dX12_judge_21 rfl ?_
      obtain ⟨E_10, m_11, K⟩ := K
      refine Y.callV (g := zm_X12_clean) (vs := []) (st := []) dX12_judge_22 ⟨zg_X12_clean.1, zg_X12_clean.2.1, zg_X12_clean.2.2, by decide⟩ ⟨zk_X12_236, zv_X12_clean⟩ (ci := 12) (rfl) rfl ((zM_1 hM).2.1) rfl rfl (Nat.le_of_ble_eq_true rfl) m_11 (Or.inl rfl) ?_
      show Z zm_X12_judge kz Q 25 [(0, zR 50), (1, zI v1)] [] (d, G, E_10)
      refine Z.aload_n (k := 0) dX12_judge_25 rfl ?_
      refine Y.getI 28 dX12_judge_26 zl_X12_185 (rfl) (by decide) rfl (zM_1 hM).2.1 ?_
      refine Z.bipush (n := 20) dX12_judge_29 ⟨by decide, by decide⟩ (by decide) ?_
      refine Z.icmp_gt 54 dX12_judge_31 rfl ⟨fun c_13 => ?_, fun c_13 => ?_⟩
      · replace K := K.1 c_13
        refine Z.iconst (n := 0) dX12_judge_54 ⟨by decide, by decide⟩ ?_
        exact Z.iret (ty := .int) dX12_judge_55 rfl rfl K
      · replace K := K.2 c_13
        refine Z.aload_n (k := 0) dX12_judge_34 rfl ?_
        refine Z.iload_n (k := 1) dX12_judge_35 rfl ?_
        obtain ⟨x_14, E_15, m_16, K⟩ := K
        refine Y.callV (g := zm_X12_rewritesAgain) (vs := [zI v1]) (st := []) dX12_judge_36 ⟨zg_X12_rewritesAgain.1, zg_X12_rewritesAgain.2.1, zg_X12_rewritesAgain.2.2, by decide⟩ ⟨zk_X12_393, zv_X12_rewritesAgain⟩ (ci := 12) (rfl) rfl ((zM_1 hM).2.1) rfl rfl (Nat.le_of_ble_eq_true rfl) m_16 (Or.inl rfl) ?_
        show Z zm_X12_judge kz Q 39 [(0, zR 50), (1, zI v1)] [zI x_14] (d, G, E_15)
        refine Z.if_eq 54 dX12_judge_39 rfl ⟨fun c_18 => ?_, fun c_18 => ?_⟩
        · replace K := K.1 c_18
          refine Z.iconst (n := 0) dX12_judge_54 ⟨by decide, by decide⟩ ?_
          exact Z.iret (ty := .int) dX12_judge_55 rfl rfl K
        · replace K := K.2 c_18
          refine Z.aload_n (k := 0) dX12_judge_42 rfl ?_
          refine Z.iload_n (k := 1) dX12_judge_43 rfl ?_
          obtain ⟨x_19, m_20, K⟩ := K
          refine Y.callV (g := zm_X12_isWork) (vs := [zI v1]) (st := []) dX12_judge_44 ⟨zg_X12_isWork.1, zg_X12_isWork.2.1, zg_X12_isWork.2.2, by decide⟩ ⟨zk_X12_396, zv_X12_isWork⟩ (ci := 12) (rfl) rfl ((zM_1 hM).2.1) rfl rfl (Nat.le_of_ble_eq_true rfl) m_20 (Or.inl rfl) ?_
          show Z zm_X12_judge kz Q 47 [(0, zR 50), (1, zI v1)] [zI x_19] (d, G, E_15)
          refine Z.if_eq 54 dX12_judge_47 rfl ⟨fun c_22 => ?_, fun c_22 => ?_⟩
          · replace K := K.1 c_22
            refine Z.iconst (n := 0) dX12_judge_54 ⟨by decide, by decide⟩ ?_
            exact Z.iret (ty := .int) dX12_judge_55 rfl rfl K
          · replace K := K.2 c_22
            refine Z.iconst (n := 1) dX12_judge_50 ⟨by decide, by decide⟩ ?_
            refine Z.goto 55 dX12_judge_51 rfl ?_
            exact Z.iret (ty := .int) dX12_judge_55 rfl rfl K
    · replace K := K.2 c_9
      refine Z.iconst (n := 0) dX12_judge_19 ⟨by decide, by decide⟩ ?_
      exact Z.iret (ty := .int) dX12_judge_20 rfl rfl K
  · replace K := K.2 c_4
    refine Z.bipush (n := -2) dX12_judge_8 ⟨by decide, by decide⟩ (by decide) ?_
    exact Z.iret (ty := .int) dX12_judge_10 rfl rfl K
set_option maxRecDepth 20000 in
theorem X12_names_0 {kz : Nat × Nat} {Q : Option zV → zH → Prop} {d : List Nat} {G : Nat → Int → Option Nat} {E : Nat → Int → Int} {v1 : Int} (hM : zK zMt d G) (K : ∃ x_1, zM zm_X12_isClaim [zR 50, zI v1] (d, G, E) (some (zI x_1)) (d, G, E) ∧ (x_1 = 0 → Q none (d, G, E)) ∧ (¬ (x_1 = 0) → ((0 : Int) ≤ v1 ∧ v1 < (150 : Int)) ∧ ((E 110 v1) ≠ 0 → Q none (d, G, E)) ∧ (¬ ((E 110 v1) ≠ 0) → ((0 : Int) ≤ v1 ∧ v1 < (150 : Int)) ∧ ∀ E_8, E_8 = zuE E 110 v1 1 → ∀ E_9, E_9 = zuE E_8 50 60 1 → Q none (d, G, E_9)))) : Z zm_X12_names kz Q 0 [(0, zR 50), (1, zI v1)] [] (d, G, E) := by
  refine Z.aload_n (k := 0) dX12_names_0 rfl ?_
  refine Z.iload_n (k := 1) dX12_names_1 rfl ?_
  obtain ⟨x_1, m_2, K⟩ := K
  refine Y.callV (g := zm_X12_isClaim) (vs := [zI v1]) (st := []) dX12_names_2 ⟨zg_X12_isClaim.1, zg_X12_isClaim.2.1, zg_X12_isClaim.2.2, by decide⟩ ⟨zk_X12_380, zv_X12_isClaim⟩ (ci := 12) (rfl) rfl ((zM_1 hM).2.1) rfl rfl (Nat.le_of_ble_eq_true rfl) m_2 (Or.inl rfl) ?_
  show Z zm_X12_names kz Q 5 [(0, zR 50), (1, zI v1)] [zI x_1] (d, G, E)
  refine Z.if_eq 29 dX12_names_5 rfl ⟨fun c_4 => ?_, fun c_4 => ?_⟩
  · replace K := K.1 c_4
    exact Z.vret dX12_names_29 rfl K
  · replace K := K.2 c_4
    refine Z.aload_n (k := 0) dX12_names_8 rfl ?_
    refine Y.getR (o := some 110) 59 dX12_names_9 zl_X12_135 (rfl) (by decide) rfl (zM_1 hM).2.1 (zM_59 hM).1 ?_
    refine Z.iload_n (k := 1) dX12_names_12 rfl ?_
    obtain ⟨z_5, K⟩ := K
    refine Y.zald dX12_names_13 (rfl) ((zM_59 hM).2.2) z_5 ?_
    refine Z.if_ne 29 dX12_names_14 rfl ⟨fun c_6 => ?_, fun c_6 => ?_⟩
    · replace K := K.1 c_6
      exact Z.vret dX12_names_29 rfl K
    · replace K := K.2 c_6
      refine Z.aload_n (k := 0) dX12_names_17 rfl ?_
      refine Y.getR (o := some 110) 59 dX12_names_18 zl_X12_135 (rfl) (by decide) rfl (zM_1 hM).2.1 (zM_59 hM).1 ?_
      refine Z.iload_n (k := 1) dX12_names_21 rfl ?_
      refine Z.iconst (n := 1) dX12_names_22 ⟨by decide, by decide⟩ ?_
      obtain ⟨z_7, K⟩ := K
      refine Y.zast dX12_names_23 (rfl) ((zM_59 hM).2.2) z_7 (by decide) ?_
      generalize eE_8 : zuE E 110 v1 1 = E_8
      replace K := K E_8 eE_8.symm
      refine Z.aload_n (k := 0) dX12_names_24 rfl ?_
      refine Z.iconst (n := 1) dX12_names_25 ⟨by decide, by decide⟩ ?_
      refine Y.putI 60 dX12_names_26 zw_X12_399 (fun q => by cases q) (rfl) rfl (zM_1 hM).2.1 (Or.inr ⟨rfl, by decide⟩) ?_
      generalize eE_9 : zuE E_8 50 60 1 = E_9
      replace K := K E_9 eE_9.symm
      exact Z.vret dX12_names_29 rfl K
set_option maxRecDepth 20000 in
theorem X12_proof_0 {kz : Nat × Nat} {Q : Option zV → zH → Prop} {d : List Nat} {G : Nat → Int → Option Nat} {E : Nat → Int → Int} {v1 : Int} (hM : zK zMt d G) (K : ((E 50 54) = 1 → Z zm_X12_proof kz Q 12 [(0, zR 50), (1, zI v1), (2, zI 0)] [] (d, G, E)) ∧ (¬ ((E 50 54) = 1) → Q (some (zI ((-1)))) (d, G, E))) : Z zm_X12_proof kz Q 0 [(0, zR 50), (1, zI v1)] [] (d, G, E) := by
  refine Z.aload_n (k := 0) dX12_proof_0 rfl ?_
  refine Y.getI 54 dX12_proof_1 zl_X12_337 (rfl) (by decide) rfl (zM_1 hM).2.1 ?_
  refine Z.iconst (n := 1) dX12_proof_4 ⟨by decide, by decide⟩ ?_
  refine Z.icmp_eq 10 dX12_proof_5 rfl ⟨fun c_1 => ?_, fun c_1 => ?_⟩
  · replace K := K.1 c_1
    refine Z.iconst (n := 0) dX12_proof_10 ⟨by decide, by decide⟩ ?_
    refine Z.istore_n (ls' := [(2, zI 0), (0, zR 50), (1, zI v1)]) dX12_proof_11 (by decide) rfl ?_
    refine Z.pick (ls' := [(0, zR 50), (1, zI v1), (2, zI 0)]) [1, 2, 0] rfl ?_
    exact K
  · replace K := K.2 c_1
    refine Z.iconst (n := -1) dX12_proof_8 ⟨by decide, by decide⟩ ?_
    exact Z.iret (ty := .int) dX12_proof_9 rfl rfl K
set_option maxRecDepth 20000 in
theorem X12_proof_12 {kz : Nat × Nat} {Q : Option zV → zH → Prop} {d : List Nat} {G : Nat → Int → Option Nat} {E : Nat → Int → Int} {v1 : Int} {v2 : Int} (hM : zK zMt d G) (K : ((E 50 6) ≤ v2 → ∀ E_2, E_2 = zuE E 50 60 1 → Z zm_X12_proof kz Q 51 [(0, zR 50), (1, zI v1)] [] (d, G, E_2)) ∧ (¬ ((E 50 6) ≤ v2) → ((0 : Int) ≤ v2 ∧ v2 < (150 : Int)) ∧ ((E 61 v2) ≠ 0 → ((0 : Int) ≤ v2 ∧ v2 < (150 : Int)) ∧ ∀ E_6, E_6 = zuE E 110 v2 0 → zin (v2 + 1) ∧ Z zm_X12_proof kz Q 12 [(0, zR 50), (1, zI v1), (2, zI ((v2 + 1)))] [] (d, G, E_6)) ∧ (¬ ((E 61 v2) ≠ 0) → ((0 : Int) ≤ v2 ∧ v2 < (150 : Int)) ∧ ∀ E_9, E_9 = zuE E 110 v2 1 → zin (v2 + 1) ∧ Z zm_X12_proof kz Q 12 [(0, zR 50), (1, zI v1), (2, zI ((v2 + 1)))] [] (d, G, E_9)))) : Z zm_X12_proof kz Q 12 [(0, zR 50), (1, zI v1), (2, zI v2)] [] (d, G, E) := by
  refine Z.iload_n (k := 2) dX12_proof_12 rfl ?_
  refine Z.aload_n (k := 0) dX12_proof_13 rfl ?_
  refine Y.getI 6 dX12_proof_14 zl_X12_142 (rfl) (by decide) rfl (zM_1 hM).2.1 ?_
  refine Z.icmp_ge 46 dX12_proof_17 rfl ⟨fun c_1 => ?_, fun c_1 => ?_⟩
  · replace K := K.1 c_1
    refine Z.aload_n (k := 0) dX12_proof_46 rfl ?_
    refine Z.iconst (n := 1) dX12_proof_47 ⟨by decide, by decide⟩ ?_
    refine Y.putI 60 dX12_proof_48 zw_X12_399 (fun q => by cases q) (rfl) rfl (zM_1 hM).2.1 (Or.inr ⟨rfl, by decide⟩) ?_
    generalize eE_2 : zuE E 50 60 1 = E_2
    replace K := K E_2 eE_2.symm
    refine Z.pick (ls' := [(0, zR 50), (1, zI v1)]) [0, 1] rfl ?_
    exact K
  · replace K := K.2 c_1
    refine Z.aload_n (k := 0) dX12_proof_20 rfl ?_
    refine Y.getR (o := some 110) 59 dX12_proof_21 zl_X12_135 (rfl) (by decide) rfl (zM_1 hM).2.1 (zM_59 hM).1 ?_
    refine Z.iload_n (k := 2) dX12_proof_24 rfl ?_
    refine Z.aload_n (k := 0) dX12_proof_25 rfl ?_
    refine Y.getR (o := some 61) 10 dX12_proof_26 zl_X12_36 (rfl) (by decide) rfl (zM_1 hM).2.1 (zM_10 hM).1 ?_
    refine Z.iload_n (k := 2) dX12_proof_29 rfl ?_
    obtain ⟨z_3, K⟩ := K
    refine Y.iald dX12_proof_30 (rfl) ((zM_10 hM).2.2) z_3 ?_
    refine Z.if_ne 38 dX12_proof_31 rfl ⟨fun c_4 => ?_, fun c_4 => ?_⟩
    · replace K := K.1 c_4
      refine Z.iconst (n := 0) dX12_proof_38 ⟨by decide, by decide⟩ ?_
      obtain ⟨z_5, K⟩ := K
      refine Y.zast dX12_proof_39 (rfl) ((zM_59 hM).2.2) z_5 (by decide) ?_
      generalize eE_6 : zuE E 110 v2 0 = E_6
      replace K := K E_6 eE_6.symm
      obtain ⟨z_7, K⟩ := K
      refine Z.iinc (k := 2) (ls' := [(2, zI ((v2 + 1))), (0, zR 50), (1, zI v1)]) dX12_proof_40 rfl (by decide) z_7 rfl ?_
      refine Z.goto 12 dX12_proof_43 rfl ?_
      refine Z.pick (ls' := [(0, zR 50), (1, zI v1), (2, zI ((v2 + 1)))]) [1, 2, 0] rfl ?_
      exact K
    · replace K := K.2 c_4
      refine Z.iconst (n := 1) dX12_proof_34 ⟨by decide, by decide⟩ ?_
      refine Z.goto 39 dX12_proof_35 rfl ?_
      obtain ⟨z_8, K⟩ := K
      refine Y.zast dX12_proof_39 (rfl) ((zM_59 hM).2.2) z_8 (by decide) ?_
      generalize eE_9 : zuE E 110 v2 1 = E_9
      replace K := K E_9 eE_9.symm
      obtain ⟨z_10, K⟩ := K
      refine Z.iinc (k := 2) (ls' := [(2, zI ((v2 + 1))), (0, zR 50), (1, zI v1)]) dX12_proof_40 rfl (by decide) z_10 rfl ?_
      refine Z.goto 12 dX12_proof_43 rfl ?_
      refine Z.pick (ls' := [(0, zR 50), (1, zI v1), (2, zI ((v2 + 1)))]) [1, 2, 0] rfl ?_
      exact K
set_option maxRecDepth 20000 in
theorem X12_proof_51 {kz : Nat × Nat} {Q : Option zV → zH → Prop} {d : List Nat} {G : Nat → Int → Option Nat} {E : Nat → Int → Int} {v1 : Int} (hM : zK zMt d G) (K : ((E 50 60) = 0 → Z zm_X12_proof kz Q 208 [(0, zR 50), (1, zI v1), (2, zI v1), (3, zI 0)] [] (d, G, E)) ∧ (¬ ((E 50 60) = 0) → ∀ E_2, E_2 = zuE E 50 60 0 → zin ((E_2 50 6) - 1) ∧ Z zm_X12_proof kz Q 70 [(0, zR 50), (1, zI v1), (2, zI (((E_2 50 6) - 1)))] [] (d, G, E_2))) : Z zm_X12_proof kz Q 51 [(0, zR 50), (1, zI v1)] [] (d, G, E) := by
  refine Z.aload_n (k := 0) dX12_proof_51 rfl ?_
  refine Y.getI 60 dX12_proof_52 zl_X12_399 (rfl) (by decide) rfl (zM_1 hM).2.1 ?_
  refine Z.if_eq 204 dX12_proof_55 rfl ⟨fun c_1 => ?_, fun c_1 => ?_⟩
  · replace K := K.1 c_1
    refine Z.iload_n (k := 1) dX12_proof_204 rfl ?_
    refine Z.istore_n (ls' := [(2, zI v1), (0, zR 50), (1, zI v1)]) dX12_proof_205 (by decide) rfl ?_
    refine Z.iconst (n := 0) dX12_proof_206 ⟨by decide, by decide⟩ ?_
    refine Z.istore_n (ls' := [(3, zI 0), (2, zI v1), (0, zR 50), (1, zI v1)]) dX12_proof_207 (by decide) rfl ?_
    refine Z.pick (ls' := [(0, zR 50), (1, zI v1), (2, zI v1), (3, zI 0)]) [2, 3, 1, 0] rfl ?_
    exact K
  · replace K := K.2 c_1
    refine Z.aload_n (k := 0) dX12_proof_58 rfl ?_
    refine Z.iconst (n := 0) dX12_proof_59 ⟨by decide, by decide⟩ ?_
    refine Y.putI 60 dX12_proof_60 zw_X12_399 (fun q => by cases q) (rfl) rfl (zM_1 hM).2.1 (Or.inr ⟨rfl, by decide⟩) ?_
    generalize eE_2 : zuE E 50 60 0 = E_2
    replace K := K E_2 eE_2.symm
    refine Z.aload_n (k := 0) dX12_proof_63 rfl ?_
    refine Y.getI 6 dX12_proof_64 zl_X12_142 (rfl) (by decide) rfl (zM_1 hM).2.1 ?_
    refine Z.iconst (n := 1) dX12_proof_67 ⟨by decide, by decide⟩ ?_
    obtain ⟨z_3, K⟩ := K
    refine Z.isub dX12_proof_68 z_3 ?_
    refine Z.istore_n (ls' := [(2, zI (((E_2 50 6) - 1))), (0, zR 50), (1, zI v1)]) dX12_proof_69 (by decide) rfl ?_
    refine Z.pick (ls' := [(0, zR 50), (1, zI v1), (2, zI (((E_2 50 6) - 1)))]) [1, 2, 0] rfl ?_
    exact K
set_option maxRecDepth 20000 in
theorem X12_proof_70 {kz : Nat × Nat} {Q : Option zV → zH → Prop} {d : List Nat} {G : Nat → Int → Option Nat} {E : Nat → Int → Int} {v1 : Int} {v2 : Int} (hM : zK zMt d G) (K : (v2 < 0 → Z zm_X12_proof kz Q 51 [(0, zR 50), (1, zI v1)] [] (d, G, E)) ∧ (¬ (v2 < 0) → zin (7 * v2) ∧ ((0 : Int) ≤ v2 ∧ v2 < (150 : Int)) ∧ ((E 110 v2) = 0 → zin (v2 + (-1)) ∧ Z zm_X12_proof kz Q 70 [(0, zR 50), (1, zI v1), (2, zI ((v2 + (-1))))] [] (d, G, E)) ∧ (¬ ((E 110 v2) = 0) → ((0 : Int) ≤ (7 * v2) ∧ (7 * v2) < (1050 : Int)) ∧ ∃ x_7, zM zm_X12_hasNumber [zI ((E 69 (7 * v2))), zI 1] (d, G, E) (some (zI x_7)) (d, G, E) ∧ (x_7 = 0 → ((0 : Int) ≤ (7 * v2) ∧ (7 * v2) < (1050 : Int)) ∧ ((E 69 (7 * v2)) ≠ 1 → ((0 : Int) ≤ (7 * v2) ∧ (7 * v2) < (1050 : Int)) ∧ ((E 69 (7 * v2)) ≠ 4 → Z zm_X12_proof kz Q 160 [(0, zR 50), (1, zI v1), (2, zI v2), (4, zI 0)] [] (d, G, E)) ∧ (¬ ((E 69 (7 * v2)) ≠ 4) → zin ((7 * v2) + 4) ∧ ((0 : Int) ≤ ((7 * v2) + 4) ∧ ((7 * v2) + 4) < (1050 : Int)) ∧ ∃ E_17, zM zm_X12_names [zR 50, zI ((E 69 ((7 * v2) + 4)))] (d, G, E) none (d, G, E_17) ∧ Z zm_X12_proof kz Q 160 [(0, zR 50), (1, zI v1), (2, zI v2), (4, zI 0)] [] (d, G, E_17))) ∧ (¬ ((E 69 (7 * v2)) ≠ 1) → zin ((7 * v2) + 3) ∧ ((0 : Int) ≤ ((7 * v2) + 3) ∧ ((7 * v2) + 3) < (1050 : Int)) ∧ ∃ E_22, zM zm_X12_names [zR 50, zI ((E 69 ((7 * v2) + 3)))] (d, G, E) none (d, G, E_22) ∧ ((0 : Int) ≤ (7 * v2) ∧ (7 * v2) < (1050 : Int)) ∧ ((E_22 69 (7 * v2)) ≠ 4 → Z zm_X12_proof kz Q 160 [(0, zR 50), (1, zI v1), (2, zI v2), (4, zI 0)] [] (d, G, E_22)) ∧ (¬ ((E_22 69 (7 * v2)) ≠ 4) → zin ((7 * v2) + 4) ∧ ((0 : Int) ≤ ((7 * v2) + 4) ∧ ((7 * v2) + 4) < (1050 : Int)) ∧ ∃ E_29, zM zm_X12_names [zR 50, zI ((E_22 69 ((7 * v2) + 4)))] (d, G, E_22) none (d, G, E_29) ∧ Z zm_X12_proof kz Q 160 [(0, zR 50), (1, zI v1), (2, zI v2), (4, zI 0)] [] (d, G, E_29)))) ∧ (¬ (x_7 = 0) → zin ((7 * v2) + 1) ∧ ((0 : Int) ≤ ((7 * v2) + 1) ∧ ((7 * v2) + 1) < (1050 : Int)) ∧ ∃ E_34, zM zm_X12_names [zR 50, zI ((E 69 ((7 * v2) + 1)))] (d, G, E) none (d, G, E_34) ∧ ((0 : Int) ≤ (7 * v2) ∧ (7 * v2) < (1050 : Int)) ∧ ((E_34 69 (7 * v2)) ≠ 1 → ((0 : Int) ≤ (7 * v2) ∧ (7 * v2) < (1050 : Int)) ∧ ((E_34 69 (7 * v2)) ≠ 4 → Z zm_X12_proof kz Q 160 [(0, zR 50), (1, zI v1), (2, zI v2), (4, zI 0)] [] (d, G, E_34)) ∧ (¬ ((E_34 69 (7 * v2)) ≠ 4) → zin ((7 * v2) + 4) ∧ ((0 : Int) ≤ ((7 * v2) + 4) ∧ ((7 * v2) + 4) < (1050 : Int)) ∧ ∃ E_43, zM zm_X12_names [zR 50, zI ((E_34 69 ((7 * v2) + 4)))] (d, G, E_34) none (d, G, E_43) ∧ Z zm_X12_proof kz Q 160 [(0, zR 50), (1, zI v1), (2, zI v2), (4, zI 0)] [] (d, G, E_43))) ∧ (¬ ((E_34 69 (7 * v2)) ≠ 1) → zin ((7 * v2) + 3) ∧ ((0 : Int) ≤ ((7 * v2) + 3) ∧ ((7 * v2) + 3) < (1050 : Int)) ∧ ∃ E_48, zM zm_X12_names [zR 50, zI ((E_34 69 ((7 * v2) + 3)))] (d, G, E_34) none (d, G, E_48) ∧ ((0 : Int) ≤ (7 * v2) ∧ (7 * v2) < (1050 : Int)) ∧ ((E_48 69 (7 * v2)) ≠ 4 → Z zm_X12_proof kz Q 160 [(0, zR 50), (1, zI v1), (2, zI v2), (4, zI 0)] [] (d, G, E_48)) ∧ (¬ ((E_48 69 (7 * v2)) ≠ 4) → zin ((7 * v2) + 4) ∧ ((0 : Int) ≤ ((7 * v2) + 4) ∧ ((7 * v2) + 4) < (1050 : Int)) ∧ ∃ E_55, zM zm_X12_names [zR 50, zI ((E_48 69 ((7 * v2) + 4)))] (d, G, E_48) none (d, G, E_55) ∧ Z zm_X12_proof kz Q 160 [(0, zR 50), (1, zI v1), (2, zI v2), (4, zI 0)] [] (d, G, E_55))))))) : Z zm_X12_proof kz Q 70 [(0, zR 50), (1, zI v1), (2, zI v2)] [] (d, G, E) := by
  refine Z.iload_n (k := 2) dX12_proof_70 rfl ?_
  refine Z.if_lt 201 dX12_proof_71 rfl ⟨fun c_1 => ?_, fun c_1 => ?_⟩
  · replace K := K.1 c_1
    refine Z.goto 51 dX12_proof_201 rfl ?_
    refine Z.pick (ls' := [(0, zR 50), (1, zI v1)]) [0, 1] rfl ?_
    exact K
  · replace K := K.2 c_1
    refine Z.bipush (n := 7) dX12_proof_74 ⟨by decide, by decide⟩ (by decide) ?_
    refine Z.iload_n (k := 2) dX12_proof_76 rfl ?_
    obtain ⟨z_2, K⟩ := K
    refine Z.imul dX12_proof_77 z_2 ?_
    refine Z.istore_n (ls' := [(3, zI ((7 * v2))), (0, zR 50), (1, zI v1), (2, zI v2)]) dX12_proof_78 (by decide) rfl ?_
    refine Z.aload_n (k := 1) dX12_proof_79 rfl ?_
    refine Y.getR (o := some 110) 59 dX12_proof_80 zl_X12_135 (rfl) (by decide) rfl (zM_1 hM).2.1 (zM_59 hM).1 ?_
    refine Z.iload_n (k := 3) dX12_proof_83 rfl ?_
    obtain ⟨z_3, K⟩ := K
    refine Y.zald dX12_proof_84 (rfl) ((zM_59 hM).2.2) z_3 ?_
    refine Z.if_eq 195 dX12_proof_85 rfl ⟨fun c_4 => ?_, fun c_4 => ?_⟩
    · replace K := K.1 c_4
      obtain ⟨z_5, K⟩ := K
      refine Z.iinc (k := 3) (ls' := [(2, zI ((v2 + (-1)))), (3, zI ((7 * v2))), (0, zR 50), (1, zI v1)]) dX12_proof_195 rfl (by decide) z_5 rfl ?_
      refine Z.goto 70 dX12_proof_198 rfl ?_
      refine Z.pick (ls' := [(0, zR 50), (1, zI v1), (2, zI ((v2 + (-1))))]) [2, 3, 0] rfl ?_
      exact K
    · replace K := K.2 c_4
      refine Z.aload_n (k := 1) dX12_proof_88 rfl ?_
      refine Y.getR (o := some 69) 18 dX12_proof_89 zl_X12_60 (rfl) (by decide) rfl (zM_1 hM).2.1 (zM_18 hM).1 ?_
      refine Z.iload_n (k := 0) dX12_proof_92 rfl ?_
      obtain ⟨z_6, K⟩ := K
      refine Y.iald dX12_proof_93 (rfl) ((zM_18 hM).2.2) z_6 ?_
      refine Z.iconst (n := 1) dX12_proof_94 ⟨by decide, by decide⟩ ?_
      obtain ⟨x_7, m_8, K⟩ := K
      refine Y.callS (g := zm_X12_hasNumber) (vs := [zI ((E 69 (7 * v2))), zI 1]) (st := []) dX12_proof_95 ⟨zg_X12_hasNumber.1, zg_X12_hasNumber.2.1, zg_X12_hasNumber.2.2, by decide⟩ ⟨Or.inl zk_X12_384, zs_X12_hasNumber⟩ rfl rfl (Nat.le_of_ble_eq_true rfl) m_8 (Or.inl rfl) ?_
      show Z zm_X12_proof kz Q 98 [(3, zI ((7 * v2))), (0, zR 50), (1, zI v1), (2, zI v2)] [zI x_7] (d, G, E)
      refine Z.if_eq 113 dX12_proof_98 rfl ⟨fun c_10 => ?_, fun c_10 => ?_⟩
      · replace K := K.1 c_10
        refine Z.aload_n (k := 1) dX12_proof_113 rfl ?_
        refine Y.getR (o := some 69) 18 dX12_proof_114 zl_X12_60 (rfl) (by decide) rfl (zM_1 hM).2.1 (zM_18 hM).1 ?_
        refine Z.iload_n (k := 0) dX12_proof_117 rfl ?_
        obtain ⟨z_11, K⟩ := K
        refine Y.iald dX12_proof_118 (rfl) ((zM_18 hM).2.2) z_11 ?_
        refine Z.iconst (n := 1) dX12_proof_119 ⟨by decide, by decide⟩ ?_
        refine Z.icmp_ne 135 dX12_proof_120 rfl ⟨fun c_12 => ?_, fun c_12 => ?_⟩
        · replace K := K.1 c_12
          refine Z.aload_n (k := 1) dX12_proof_135 rfl ?_
          refine Y.getR (o := some 69) 18 dX12_proof_136 zl_X12_60 (rfl) (by decide) rfl (zM_1 hM).2.1 (zM_18 hM).1 ?_
          refine Z.iload_n (k := 0) dX12_proof_139 rfl ?_
          obtain ⟨z_13, K⟩ := K
          refine Y.iald dX12_proof_140 (rfl) ((zM_18 hM).2.2) z_13 ?_
          refine Z.iconst (n := 4) dX12_proof_141 ⟨by decide, by decide⟩ ?_
          refine Z.icmp_ne 157 dX12_proof_142 rfl ⟨fun c_14 => ?_, fun c_14 => ?_⟩
          · replace K := K.1 c_14
            refine Z.iconst (n := 0) dX12_proof_157 ⟨by decide, by decide⟩ ?_
            refine Z.istore (ls' := [(4, zI 0), (3, zI ((7 * v2))), (0, zR 50), (1, zI v1), (2, zI v2)]) dX12_proof_158 (by decide) rfl ?_
            refine Z.pick (ls' := [(0, zR 50), (1, zI v1), (2, zI v2), (4, zI 0)]) [2, 3, 4, 0] rfl ?_
            exact K
          · replace K := K.2 c_14
            refine Z.aload_n (k := 1) dX12_proof_145 rfl ?_
            refine Z.aload_n (k := 1) dX12_proof_146 rfl ?_
            refine Y.getR (o := some 69) 18 dX12_proof_147 zl_X12_60 (rfl) (by decide) rfl (zM_1 hM).2.1 (zM_18 hM).1 ?_
            refine Z.iload_n (k := 0) dX12_proof_150 rfl ?_
            refine Z.iconst (n := 4) dX12_proof_151 ⟨by decide, by decide⟩ ?_
            obtain ⟨z_15, K⟩ := K
            refine Z.iadd dX12_proof_152 z_15 ?_
            obtain ⟨z_16, K⟩ := K
            refine Y.iald dX12_proof_153 (rfl) ((zM_18 hM).2.2) z_16 ?_
            obtain ⟨E_17, m_18, K⟩ := K
            refine Y.callV (g := zm_X12_names) (vs := [zI ((E 69 ((7 * v2) + 4)))]) (st := []) dX12_proof_154 ⟨zg_X12_names.1, zg_X12_names.2.1, zg_X12_names.2.2, by decide⟩ ⟨zk_X12_403, zv_X12_names⟩ (ci := 12) (rfl) rfl ((zM_1 hM).2.1) rfl rfl (Nat.le_of_ble_eq_true rfl) m_18 (Or.inl rfl) ?_
            show Z zm_X12_proof kz Q 157 [(3, zI ((7 * v2))), (0, zR 50), (1, zI v1), (2, zI v2)] [] (d, G, E_17)
            refine Z.iconst (n := 0) dX12_proof_157 ⟨by decide, by decide⟩ ?_
            refine Z.istore (ls' := [(4, zI 0), (3, zI ((7 * v2))), (0, zR 50), (1, zI v1), (2, zI v2)]) dX12_proof_158 (by decide) rfl ?_
            refine Z.pick (ls' := [(0, zR 50), (1, zI v1), (2, zI v2), (4, zI 0)]) [2, 3, 4, 0] rfl ?_
            exact K
        · replace K := K.2 c_12
          refine Z.aload_n (k := 1) dX12_proof_123 rfl ?_
          refine Z.aload_n (k := 1) dX12_proof_124 rfl ?_
          refine Y.getR (o := some 69) 18 dX12_proof_125 zl_X12_60 (rfl) (by decide) rfl (zM_1 hM).2.1 (zM_18 hM).1 ?_
          refine Z.iload_n (k := 0) dX12_proof_128 rfl ?_
          refine Z.iconst (n := 3) dX12_proof_129 ⟨by decide, by decide⟩ ?_
          obtain ⟨z_20, K⟩ := K
          refine Z.iadd dX12_proof_130 z_20 ?_
          obtain ⟨z_21, K⟩ := K
          refine Y.iald dX12_proof_131 (rfl) ((zM_18 hM).2.2) z_21 ?_
          obtain ⟨E_22, m_23, K⟩ := K
          refine Y.callV (g := zm_X12_names) (vs := [zI ((E 69 ((7 * v2) + 3)))]) (st := []) dX12_proof_132 ⟨zg_X12_names.1, zg_X12_names.2.1, zg_X12_names.2.2, by decide⟩ ⟨zk_X12_403, zv_X12_names⟩ (ci := 12) (rfl) rfl ((zM_1 hM).2.1) rfl rfl (Nat.le_of_ble_eq_true rfl) m_23 (Or.inl rfl) ?_
          show Z zm_X12_proof kz Q 135 [(3, zI ((7 * v2))), (0, zR 50), (1, zI v1), (2, zI v2)] [] (d, G, E_22)
          refine Z.aload_n (k := 1) dX12_proof_135 rfl ?_
          refine Y.getR (o := some 69) 18 dX12_proof_136 zl_X12_60 (rfl) (by decide) rfl (zM_1 hM).2.1 (zM_18 hM).1 ?_
          refine Z.iload_n (k := 0) dX12_proof_139 rfl ?_
          obtain ⟨z_25, K⟩ := K
          refine Y.iald dX12_proof_140 (rfl) ((zM_18 hM).2.2) z_25 ?_
          refine Z.iconst (n := 4) dX12_proof_141 ⟨by decide, by decide⟩ ?_
          refine Z.icmp_ne 157 dX12_proof_142 rfl ⟨fun c_26 => ?_, fun c_26 => ?_⟩
          · replace K := K.1 c_26
            refine Z.iconst (n := 0) dX12_proof_157 ⟨by decide, by decide⟩ ?_
            refine Z.istore (ls' := [(4, zI 0), (3, zI ((7 * v2))), (0, zR 50), (1, zI v1), (2, zI v2)]) dX12_proof_158 (by decide) rfl ?_
            refine Z.pick (ls' := [(0, zR 50), (1, zI v1), (2, zI v2), (4, zI 0)]) [2, 3, 4, 0] rfl ?_
            exact K
          · replace K := K.2 c_26
            refine Z.aload_n (k := 1) dX12_proof_145 rfl ?_
            refine Z.aload_n (k := 1) dX12_proof_146 rfl ?_
            refine Y.getR (o := some 69) 18 dX12_proof_147 zl_X12_60 (rfl) (by decide) rfl (zM_1 hM).2.1 (zM_18 hM).1 ?_
            refine Z.iload_n (k := 0) dX12_proof_150 rfl ?_
            refine Z.iconst (n := 4) dX12_proof_151 ⟨by decide, by decide⟩ ?_
            obtain ⟨z_27, K⟩ := K
            refine Z.iadd dX12_proof_152 z_27 ?_
            obtain ⟨z_28, K⟩ := K
            refine Y.iald dX12_proof_153 (rfl) ((zM_18 hM).2.2) z_28 ?_
            obtain ⟨E_29, m_30, K⟩ := K
            refine Y.callV (g := zm_X12_names) (vs := [zI ((E_22 69 ((7 * v2) + 4)))]) (st := []) dX12_proof_154 ⟨zg_X12_names.1, zg_X12_names.2.1, zg_X12_names.2.2, by decide⟩ ⟨zk_X12_403, zv_X12_names⟩ (ci := 12) (rfl) rfl ((zM_1 hM).2.1) rfl rfl (Nat.le_of_ble_eq_true rfl) m_30 (Or.inl rfl) ?_
            show Z zm_X12_proof kz Q 157 [(3, zI ((7 * v2))), (0, zR 50), (1, zI v1), (2, zI v2)] [] (d, G, E_29)
            refine Z.iconst (n := 0) dX12_proof_157 ⟨by decide, by decide⟩ ?_
            refine Z.istore (ls' := [(4, zI 0), (3, zI ((7 * v2))), (0, zR 50), (1, zI v1), (2, zI v2)]) dX12_proof_158 (by decide) rfl ?_
            refine Z.pick (ls' := [(0, zR 50), (1, zI v1), (2, zI v2), (4, zI 0)]) [2, 3, 4, 0] rfl ?_
            exact K
      · replace K := K.2 c_10
        refine Z.aload_n (k := 1) dX12_proof_101 rfl ?_
        refine Z.aload_n (k := 1) dX12_proof_102 rfl ?_
        refine Y.getR (o := some 69) 18 dX12_proof_103 zl_X12_60 (rfl) (by decide) rfl (zM_1 hM).2.1 (zM_18 hM).1 ?_
        refine Z.iload_n (k := 0) dX12_proof_106 rfl ?_
        refine Z.iconst (n := 1) dX12_proof_107 ⟨by decide, by decide⟩ ?_
        obtain ⟨z_32, K⟩ := K
        refine Z.iadd dX12_proof_108 z_32 ?_
        obtain ⟨z_33, K⟩ := K
        refine Y.iald dX12_proof_109 (rfl) ((zM_18 hM).2.2) z_33 ?_
        obtain ⟨E_34, m_35, K⟩ := K
        refine Y.callV (g := zm_X12_names) (vs := [zI ((E 69 ((7 * v2) + 1)))]) (st := []) dX12_proof_110 ⟨zg_X12_names.1, zg_X12_names.2.1, zg_X12_names.2.2, by decide⟩ ⟨zk_X12_403, zv_X12_names⟩ (ci := 12) (rfl) rfl ((zM_1 hM).2.1) rfl rfl (Nat.le_of_ble_eq_true rfl) m_35 (Or.inl rfl) ?_
        show Z zm_X12_proof kz Q 113 [(3, zI ((7 * v2))), (0, zR 50), (1, zI v1), (2, zI v2)] [] (d, G, E_34)
        refine Z.aload_n (k := 1) dX12_proof_113 rfl ?_
        refine Y.getR (o := some 69) 18 dX12_proof_114 zl_X12_60 (rfl) (by decide) rfl (zM_1 hM).2.1 (zM_18 hM).1 ?_
        refine Z.iload_n (k := 0) dX12_proof_117 rfl ?_
        obtain ⟨z_37, K⟩ := K
        refine Y.iald dX12_proof_118 (rfl) ((zM_18 hM).2.2) z_37 ?_
        refine Z.iconst (n := 1) dX12_proof_119 ⟨by decide, by decide⟩ ?_
        refine Z.icmp_ne 135 dX12_proof_120 rfl ⟨fun c_38 => ?_, fun c_38 => ?_⟩
        · replace K := K.1 c_38
          refine Z.aload_n (k := 1) dX12_proof_135 rfl ?_
          refine Y.getR (o := some 69) 18 dX12_proof_136 zl_X12_60 (rfl) (by decide) rfl (zM_1 hM).2.1 (zM_18 hM).1 ?_
          refine Z.iload_n (k := 0) dX12_proof_139 rfl ?_
          obtain ⟨z_39, K⟩ := K
          refine Y.iald dX12_proof_140 (rfl) ((zM_18 hM).2.2) z_39 ?_
          refine Z.iconst (n := 4) dX12_proof_141 ⟨by decide, by decide⟩ ?_
          refine Z.icmp_ne 157 dX12_proof_142 rfl ⟨fun c_40 => ?_, fun c_40 => ?_⟩
          · replace K := K.1 c_40
            refine Z.iconst (n := 0) dX12_proof_157 ⟨by decide, by decide⟩ ?_
            refine Z.istore (ls' := [(4, zI 0), (3, zI ((7 * v2))), (0, zR 50), (1, zI v1), (2, zI v2)]) dX12_proof_158 (by decide) rfl ?_
            refine Z.pick (ls' := [(0, zR 50), (1, zI v1), (2, zI v2), (4, zI 0)]) [2, 3, 4, 0] rfl ?_
            exact K
          · replace K := K.2 c_40
            refine Z.aload_n (k := 1) dX12_proof_145 rfl ?_
            refine Z.aload_n (k := 1) dX12_proof_146 rfl ?_
            refine Y.getR (o := some 69) 18 dX12_proof_147 zl_X12_60 (rfl) (by decide) rfl (zM_1 hM).2.1 (zM_18 hM).1 ?_
            refine Z.iload_n (k := 0) dX12_proof_150 rfl ?_
            refine Z.iconst (n := 4) dX12_proof_151 ⟨by decide, by decide⟩ ?_
            obtain ⟨z_41, K⟩ := K
            refine Z.iadd dX12_proof_152 z_41 ?_
            obtain ⟨z_42, K⟩ := K
            refine Y.iald dX12_proof_153 (rfl) ((zM_18 hM).2.2) z_42 ?_
            obtain ⟨E_43, m_44, K⟩ := K
            refine Y.callV (g := zm_X12_names) (vs := [zI ((E_34 69 ((7 * v2) + 4)))]) (st := []) dX12_proof_154 ⟨zg_X12_names.1, zg_X12_names.2.1, zg_X12_names.2.2, by decide⟩ ⟨zk_X12_403, zv_X12_names⟩ (ci := 12) (rfl) rfl ((zM_1 hM).2.1) rfl rfl (Nat.le_of_ble_eq_true rfl) m_44 (Or.inl rfl) ?_
            show Z zm_X12_proof kz Q 157 [(3, zI ((7 * v2))), (0, zR 50), (1, zI v1), (2, zI v2)] [] (d, G, E_43)
            refine Z.iconst (n := 0) dX12_proof_157 ⟨by decide, by decide⟩ ?_
            refine Z.istore (ls' := [(4, zI 0), (3, zI ((7 * v2))), (0, zR 50), (1, zI v1), (2, zI v2)]) dX12_proof_158 (by decide) rfl ?_
            refine Z.pick (ls' := [(0, zR 50), (1, zI v1), (2, zI v2), (4, zI 0)]) [2, 3, 4, 0] rfl ?_
            exact K
        · replace K := K.2 c_38
          refine Z.aload_n (k := 1) dX12_proof_123 rfl ?_
          refine Z.aload_n (k := 1) dX12_proof_124 rfl ?_
          refine Y.getR (o := some 69) 18 dX12_proof_125 zl_X12_60 (rfl) (by decide) rfl (zM_1 hM).2.1 (zM_18 hM).1 ?_
          refine Z.iload_n (k := 0) dX12_proof_128 rfl ?_
          refine Z.iconst (n := 3) dX12_proof_129 ⟨by decide, by decide⟩ ?_
          obtain ⟨z_46, K⟩ := K
          refine Z.iadd dX12_proof_130 z_46 ?_
          obtain ⟨z_47, K⟩ := K
          refine Y.iald dX12_proof_131 (rfl) ((zM_18 hM).2.2) z_47 ?_
          obtain ⟨E_48, m_49, K⟩ := K
          refine Y.callV (g := zm_X12_names) (vs := [zI ((E_34 69 ((7 * v2) + 3)))]) (st := []) dX12_proof_132 ⟨zg_X12_names.1, zg_X12_names.2.1, zg_X12_names.2.2, by decide⟩ ⟨zk_X12_403, zv_X12_names⟩ (ci := 12) (rfl) rfl ((zM_1 hM).2.1) rfl rfl (Nat.le_of_ble_eq_true rfl) m_49 (Or.inl rfl) ?_
          show Z zm_X12_proof kz Q 135 [(3, zI ((7 * v2))), (0, zR 50), (1, zI v1), (2, zI v2)] [] (d, G, E_48)
          refine Z.aload_n (k := 1) dX12_proof_135 rfl ?_
          refine Y.getR (o := some 69) 18 dX12_proof_136 zl_X12_60 (rfl) (by decide) rfl (zM_1 hM).2.1 (zM_18 hM).1 ?_
          refine Z.iload_n (k := 0) dX12_proof_139 rfl ?_
          obtain ⟨z_51, K⟩ := K
          refine Y.iald dX12_proof_140 (rfl) ((zM_18 hM).2.2) z_51 ?_
          refine Z.iconst (n := 4) dX12_proof_141 ⟨by decide, by decide⟩ ?_
          refine Z.icmp_ne 157 dX12_proof_142 rfl ⟨fun c_52 => ?_, fun c_52 => ?_⟩
          · replace K := K.1 c_52
            refine Z.iconst (n := 0) dX12_proof_157 ⟨by decide, by decide⟩ ?_
            refine Z.istore (ls' := [(4, zI 0), (3, zI ((7 * v2))), (0, zR 50), (1, zI v1), (2, zI v2)]) dX12_proof_158 (by decide) rfl ?_
            refine Z.pick (ls' := [(0, zR 50), (1, zI v1), (2, zI v2), (4, zI 0)]) [2, 3, 4, 0] rfl ?_
            exact K
          · replace K := K.2 c_52
            refine Z.aload_n (k := 1) dX12_proof_145 rfl ?_
            refine Z.aload_n (k := 1) dX12_proof_146 rfl ?_
            refine Y.getR (o := some 69) 18 dX12_proof_147 zl_X12_60 (rfl) (by decide) rfl (zM_1 hM).2.1 (zM_18 hM).1 ?_
            refine Z.iload_n (k := 0) dX12_proof_150 rfl ?_
            refine Z.iconst (n := 4) dX12_proof_151 ⟨by decide, by decide⟩ ?_
            obtain ⟨z_53, K⟩ := K
            refine Z.iadd dX12_proof_152 z_53 ?_
            obtain ⟨z_54, K⟩ := K
            refine Y.iald dX12_proof_153 (rfl) ((zM_18 hM).2.2) z_54 ?_
            obtain ⟨E_55, m_56, K⟩ := K
            refine Y.callV (g := zm_X12_names) (vs := [zI ((E_48 69 ((7 * v2) + 4)))]) (st := []) dX12_proof_154 ⟨zg_X12_names.1, zg_X12_names.2.1, zg_X12_names.2.2, by decide⟩ ⟨zk_X12_403, zv_X12_names⟩ (ci := 12) (rfl) rfl ((zM_1 hM).2.1) rfl rfl (Nat.le_of_ble_eq_true rfl) m_56 (Or.inl rfl) ?_
            show Z zm_X12_proof kz Q 157 [(3, zI ((7 * v2))), (0, zR 50), (1, zI v1), (2, zI v2)] [] (d, G, E_55)
            refine Z.iconst (n := 0) dX12_proof_157 ⟨by decide, by decide⟩ ?_
            refine Z.istore (ls' := [(4, zI 0), (3, zI ((7 * v2))), (0, zR 50), (1, zI v1), (2, zI v2)]) dX12_proof_158 (by decide) rfl ?_
            refine Z.pick (ls' := [(0, zR 50), (1, zI v1), (2, zI v2), (4, zI 0)]) [2, 3, 4, 0] rfl ?_
            exact K
set_option maxRecDepth 20000 in
theorem X12_proof_160 {kz : Nat × Nat} {Q : Option zV → zH → Prop} {d : List Nat} {G : Nat → Int → Option Nat} {E : Nat → Int → Int} {v1 : Int} {v2 : Int} {v4 : Int} (hM : zK zMt d G) (K : ((0 : Int) ≤ v2 ∧ v2 < (150 : Int)) ∧ ((E 70 v2) ≤ v4 → zin (v2 + (-1)) ∧ Z zm_X12_proof kz Q 70 [(0, zR 50), (1, zI v1), (2, zI ((v2 + (-1))))] [] (d, G, E)) ∧ (¬ ((E 70 v2) ≤ v4) → zin (32 * v2) ∧ zin (4 * v4) ∧ zin ((32 * v2) + (4 * v4)) ∧ ((0 : Int) ≤ ((32 * v2) + (4 * v4)) ∧ ((32 * v2) + (4 * v4)) < (4800 : Int)) ∧ ∃ E_8, zM zm_X12_names [zR 50, zI ((E 71 ((32 * v2) + (4 * v4))))] (d, G, E) none (d, G, E_8) ∧ zin (v4 + 1) ∧ Z zm_X12_proof kz Q 160 [(0, zR 50), (1, zI v1), (2, zI v2), (4, zI ((v4 + 1)))] [] (d, G, E_8))) : Z zm_X12_proof kz Q 160 [(0, zR 50), (1, zI v1), (2, zI v2), (4, zI v4)] [] (d, G, E) := by
  refine Z.iload (k := 3) dX12_proof_160 rfl ?_
  refine Z.aload_n (k := 0) dX12_proof_162 rfl ?_
  refine Y.getR (o := some 70) 19 dX12_proof_163 zl_X12_63 (rfl) (by decide) rfl (zM_1 hM).2.1 (zM_19 hM).1 ?_
  refine Z.iload_n (k := 2) dX12_proof_166 rfl ?_
  obtain ⟨z_1, K⟩ := K
  refine Y.iald dX12_proof_167 (rfl) ((zM_19 hM).2.2) z_1 ?_
  refine Z.icmp_ge 195 dX12_proof_168 rfl ⟨fun c_2 => ?_, fun c_2 => ?_⟩
  · replace K := K.1 c_2
    obtain ⟨z_3, K⟩ := K
    refine Z.iinc (k := 2) (ls' := [(2, zI ((v2 + (-1)))), (0, zR 50), (1, zI v1), (4, zI v4)]) dX12_proof_195 rfl (by decide) z_3 rfl ?_
    refine Z.goto 70 dX12_proof_198 rfl ?_
    refine Z.pick (ls' := [(0, zR 50), (1, zI v1), (2, zI ((v2 + (-1))))]) [1, 2, 0] rfl ?_
    exact K
  · replace K := K.2 c_2
    refine Z.aload_n (k := 0) dX12_proof_171 rfl ?_
    refine Z.aload_n (k := 0) dX12_proof_172 rfl ?_
    refine Y.getR (o := some 71) 20 dX12_proof_173 zl_X12_66 (rfl) (by decide) rfl (zM_1 hM).2.1 (zM_20 hM).1 ?_
    refine Z.bipush (n := 32) dX12_proof_176 ⟨by decide, by decide⟩ (by decide) ?_
    refine Z.iload_n (k := 2) dX12_proof_178 rfl ?_
    obtain ⟨z_4, K⟩ := K
    refine Z.imul dX12_proof_179 z_4 ?_
    refine Z.iconst (n := 4) dX12_proof_180 ⟨by decide, by decide⟩ ?_
    refine Z.iload (k := 3) dX12_proof_181 rfl ?_
    obtain ⟨z_5, K⟩ := K
    refine Z.imul dX12_proof_183 z_5 ?_
    obtain ⟨z_6, K⟩ := K
    refine Z.iadd dX12_proof_184 z_6 ?_
    obtain ⟨z_7, K⟩ := K
    refine Y.iald dX12_proof_185 (rfl) ((zM_20 hM).2.2) z_7 ?_
    obtain ⟨E_8, m_9, K⟩ := K
    refine Y.callV (g := zm_X12_names) (vs := [zI ((E 71 ((32 * v2) + (4 * v4))))]) (st := []) dX12_proof_186 ⟨zg_X12_names.1, zg_X12_names.2.1, zg_X12_names.2.2, by decide⟩ ⟨zk_X12_403, zv_X12_names⟩ (ci := 12) (rfl) rfl ((zM_1 hM).2.1) rfl rfl (Nat.le_of_ble_eq_true rfl) m_9 (Or.inl rfl) ?_
    show Z zm_X12_proof kz Q 189 [(0, zR 50), (1, zI v1), (2, zI v2), (4, zI v4)] [] (d, G, E_8)
    obtain ⟨z_11, K⟩ := K
    refine Z.iinc (k := 3) (ls' := [(4, zI ((v4 + 1))), (0, zR 50), (1, zI v1), (2, zI v2)]) dX12_proof_189 rfl (by decide) z_11 rfl ?_
    refine Z.goto 160 dX12_proof_192 rfl ?_
    refine Z.pick (ls' := [(0, zR 50), (1, zI v1), (2, zI v2), (4, zI ((v4 + 1)))]) [1, 2, 3, 0] rfl ?_
    exact K
set_option maxRecDepth 20000 in
theorem X12_proof_208 {kz : Nat × Nat} {Q : Option zV → zH → Prop} {d : List Nat} {G : Nat → Int → Option Nat} {E : Nat → Int → Int} {v1 : Int} {v2 : Int} {v3 : Int} (hM : zK zMt d G) (K : ((E 50 6) ≤ v3 → Q (some (zI ((-1)))) (d, G, E)) ∧ (¬ ((E 50 6) ≤ v3) → (v1 < 0 → Q (some (zI ((-1)))) (d, G, E)) ∧ (¬ (v1 < 0) → ((0 : Int) ≤ v3 ∧ v3 < (150 : Int)) ∧ ((E 110 v3) = 0 → zin (v3 + 1) ∧ Z zm_X12_proof kz Q 208 [(0, zR 50), (1, zI v1), (2, zI v2), (3, zI ((v3 + 1)))] [] (d, G, E)) ∧ (¬ ((E 110 v3) = 0) → (v2 ≠ 0 → zin (v2 + (-1)) ∧ zin (v3 + 1) ∧ Z zm_X12_proof kz Q 208 [(0, zR 50), (1, zI v1), (2, zI ((v2 + (-1)))), (3, zI ((v3 + 1)))] [] (d, G, E)) ∧ (¬ (v2 ≠ 0) → Q (some (zI v3)) (d, G, E)))))) : Z zm_X12_proof kz Q 208 [(0, zR 50), (1, zI v1), (2, zI v2), (3, zI v3)] [] (d, G, E) := by
  refine Z.iload_n (k := 3) dX12_proof_208 rfl ?_
  refine Z.aload_n (k := 0) dX12_proof_209 rfl ?_
  refine Y.getI 6 dX12_proof_210 zl_X12_142 (rfl) (by decide) rfl (zM_1 hM).2.1 ?_
  refine Z.icmp_ge 244 dX12_proof_213 rfl ⟨fun c_1 => ?_, fun c_1 => ?_⟩
  · replace K := K.1 c_1
    refine Z.iconst (n := -1) dX12_proof_244 ⟨by decide, by decide⟩ ?_
    exact Z.iret (ty := .int) dX12_proof_245 rfl rfl K
  · replace K := K.2 c_1
    refine Z.iload_n (k := 1) dX12_proof_216 rfl ?_
    refine Z.if_lt 244 dX12_proof_217 rfl ⟨fun c_2 => ?_, fun c_2 => ?_⟩
    · replace K := K.1 c_2
      refine Z.iconst (n := -1) dX12_proof_244 ⟨by decide, by decide⟩ ?_
      exact Z.iret (ty := .int) dX12_proof_245 rfl rfl K
    · replace K := K.2 c_2
      refine Z.aload_n (k := 0) dX12_proof_220 rfl ?_
      refine Y.getR (o := some 110) 59 dX12_proof_221 zl_X12_135 (rfl) (by decide) rfl (zM_1 hM).2.1 (zM_59 hM).1 ?_
      refine Z.iload_n (k := 3) dX12_proof_224 rfl ?_
      obtain ⟨z_3, K⟩ := K
      refine Y.zald dX12_proof_225 (rfl) ((zM_59 hM).2.2) z_3 ?_
      refine Z.if_eq 238 dX12_proof_226 rfl ⟨fun c_4 => ?_, fun c_4 => ?_⟩
      · replace K := K.1 c_4
        obtain ⟨z_5, K⟩ := K
        refine Z.iinc (k := 3) (ls' := [(3, zI ((v3 + 1))), (0, zR 50), (1, zI v1), (2, zI v2)]) dX12_proof_238 rfl (by decide) z_5 rfl ?_
        refine Z.goto 208 dX12_proof_241 rfl ?_
        refine Z.pick (ls' := [(0, zR 50), (1, zI v1), (2, zI v2), (3, zI ((v3 + 1)))]) [1, 2, 3, 0] rfl ?_
        exact K
      · replace K := K.2 c_4
        refine Z.iload_n (k := 2) dX12_proof_229 rfl ?_
        refine Z.if_ne 235 dX12_proof_230 rfl ⟨fun c_6 => ?_, fun c_6 => ?_⟩
        · replace K := K.1 c_6
          obtain ⟨z_7, K⟩ := K
          refine Z.iinc (k := 2) (ls' := [(2, zI ((v2 + (-1)))), (0, zR 50), (1, zI v1), (3, zI v3)]) dX12_proof_235 rfl (by decide) z_7 rfl ?_
          obtain ⟨z_8, K⟩ := K
          refine Z.iinc (k := 3) (ls' := [(3, zI ((v3 + 1))), (2, zI ((v2 + (-1)))), (0, zR 50), (1, zI v1)]) dX12_proof_238 rfl (by decide) z_8 rfl ?_
          refine Z.goto 208 dX12_proof_241 rfl ?_
          refine Z.pick (ls' := [(0, zR 50), (1, zI v1), (2, zI ((v2 + (-1)))), (3, zI ((v3 + 1)))]) [2, 3, 1, 0] rfl ?_
          exact K
        · replace K := K.2 c_6
          refine Z.iload_n (k := 3) dX12_proof_233 rfl ?_
          exact Z.iret (ty := .int) dX12_proof_234 rfl rfl K
set_option maxRecDepth 20000 in
theorem X12_lettersOf_0 {kz : Nat × Nat} {Q : Option zV → zH → Prop} {d : List Nat} {G : Nat → Int → Option Nat} {E : Nat → Int → Int} {v1 : Int} (hM : zK zMt d G) (K : Z zm_X12_lettersOf kz Q 4 [(0, zR 50), (1, zI v1), (2, zI 0), (3, zI 0)] [] (d, G, E)) : Z zm_X12_lettersOf kz Q 0 [(0, zR 50), (1, zI v1)] [] (d, G, E) := by
  refine Z.iconst (n := 0) dX12_lettersOf_0 ⟨by decide, by decide⟩ ?_
  refine Z.istore_n (ls' := [(2, zI 0), (0, zR 50), (1, zI v1)]) dX12_lettersOf_1 (by decide) rfl ?_
  refine Z.iconst (n := 0) dX12_lettersOf_2 ⟨by decide, by decide⟩ ?_
  refine Z.istore_n (ls' := [(3, zI 0), (2, zI 0), (0, zR 50), (1, zI v1)]) dX12_lettersOf_3 (by decide) rfl ?_
  refine Z.pick (ls' := [(0, zR 50), (1, zI v1), (2, zI 0), (3, zI 0)]) [2, 3, 1, 0] rfl ?_
  exact K
set_option maxRecDepth 20000 in
theorem X12_lettersOf_4 {kz : Nat × Nat} {Q : Option zV → zH → Prop} {d : List Nat} {G : Nat → Int → Option Nat} {E : Nat → Int → Int} {v1 : Int} {v2 : Int} {v3 : Int} (hM : zK zMt d G) (K : ((0 : Int) ≤ v1 ∧ v1 < (150 : Int)) ∧ ((E 61 v1) ≤ v3 → Q (some (zI v2)) (d, G, E)) ∧ (¬ ((E 61 v1) ≤ v3) → zin (6 * v1) ∧ zin ((6 * v1) + v3) ∧ zin (30 * ((6 * v1) + v3)) ∧ Z zm_X12_lettersOf kz Q 29 [(0, zR 50), (1, zI v1), (2, zI v2), (3, zI v3), (4, zI ((30 * ((6 * v1) + v3)))), (5, zI ((30 * ((6 * v1) + v3))))] [] (d, G, E))) : Z zm_X12_lettersOf kz Q 4 [(0, zR 50), (1, zI v1), (2, zI v2), (3, zI v3)] [] (d, G, E) := by
  refine Z.iload_n (k := 3) dX12_lettersOf_4 rfl ?_
  refine Z.aload_n (k := 0) dX12_lettersOf_5 rfl ?_
  refine Y.getR (o := some 61) 10 dX12_lettersOf_6 zl_X12_36 (rfl) (by decide) rfl (zM_1 hM).2.1 (zM_10 hM).1 ?_
  refine Z.iload_n (k := 1) dX12_lettersOf_9 rfl ?_
  obtain ⟨z_1, K⟩ := K
  refine Y.iald dX12_lettersOf_10 (rfl) ((zM_10 hM).2.2) z_1 ?_
  refine Z.icmp_ge 85 dX12_lettersOf_11 rfl ⟨fun c_2 => ?_, fun c_2 => ?_⟩
  · replace K := K.1 c_2
    refine Z.iload_n (k := 2) dX12_lettersOf_85 rfl ?_
    exact Z.iret (ty := .int) dX12_lettersOf_86 rfl rfl K
  · replace K := K.2 c_2
    refine Z.bipush (n := 30) dX12_lettersOf_14 ⟨by decide, by decide⟩ (by decide) ?_
    refine Z.bipush (n := 6) dX12_lettersOf_16 ⟨by decide, by decide⟩ (by decide) ?_
    refine Z.iload_n (k := 1) dX12_lettersOf_18 rfl ?_
    obtain ⟨z_3, K⟩ := K
    refine Z.imul dX12_lettersOf_19 z_3 ?_
    refine Z.iload_n (k := 3) dX12_lettersOf_20 rfl ?_
    obtain ⟨z_4, K⟩ := K
    refine Z.iadd dX12_lettersOf_21 z_4 ?_
    obtain ⟨z_5, K⟩ := K
    refine Z.imul dX12_lettersOf_22 z_5 ?_
    refine Z.istore (ls' := [(4, zI ((30 * ((6 * v1) + v3)))), (0, zR 50), (1, zI v1), (2, zI v2), (3, zI v3)]) dX12_lettersOf_23 (by decide) rfl ?_
    refine Z.iload (k := 0) dX12_lettersOf_25 rfl ?_
    refine Z.istore (ls' := [(5, zI ((30 * ((6 * v1) + v3)))), (4, zI ((30 * ((6 * v1) + v3)))), (0, zR 50), (1, zI v1), (2, zI v2), (3, zI v3)]) dX12_lettersOf_27 (by decide) rfl ?_
    refine Z.pick (ls' := [(0, zR 50), (1, zI v1), (2, zI v2), (3, zI v3), (4, zI ((30 * ((6 * v1) + v3)))), (5, zI ((30 * ((6 * v1) + v3))))]) [2, 3, 4, 5, 1, 0] rfl ?_
    exact K
set_option maxRecDepth 20000 in
theorem X12_lettersOf_29 {kz : Nat × Nat} {Q : Option zV → zH → Prop} {d : List Nat} {G : Nat → Int → Option Nat} {E : Nat → Int → Int} {v1 : Int} {v2 : Int} {v3 : Int} {v4 : Int} {v5 : Int} (hM : zK zMt d G) (K : zin (6 * v1) ∧ zin ((6 * v1) + v3) ∧ ((0 : Int) ≤ ((6 * v1) + v3) ∧ ((6 * v1) + v3) < (900 : Int)) ∧ zin (v4 + (E 59 ((6 * v1) + v3))) ∧ ((v4 + (E 59 ((6 * v1) + v3))) ≤ v5 → zin (v3 + 1) ∧ Z zm_X12_lettersOf kz Q 4 [(0, zR 50), (1, zI v1), (2, zI v2), (3, zI ((v3 + 1)))] [] (d, G, E)) ∧ (¬ ((v4 + (E 59 ((6 * v1) + v3))) ≤ v5) → ((0 : Int) ≤ v5 ∧ v5 < (27000 : Int)) ∧ zin (-(E 58 v5)) ∧ ((-(E 58 v5)) ≤ v2 → zin (v5 + 1) ∧ Z zm_X12_lettersOf kz Q 29 [(0, zR 50), (1, zI v1), (2, zI v2), (3, zI v3), (4, zI v4), (5, zI ((v5 + 1)))] [] (d, G, E)) ∧ (¬ ((-(E 58 v5)) ≤ v2) → ((0 : Int) ≤ v5 ∧ v5 < (27000 : Int)) ∧ zin (-(E 58 v5)) ∧ zin (v5 + 1) ∧ Z zm_X12_lettersOf kz Q 29 [(0, zR 50), (1, zI v1), (2, zI ((-(E 58 v5)))), (3, zI v3), (4, zI v4), (5, zI ((v5 + 1)))] [] (d, G, E)))) : Z zm_X12_lettersOf kz Q 29 [(0, zR 50), (1, zI v1), (2, zI v2), (3, zI v3), (4, zI v4), (5, zI v5)] [] (d, G, E) := by
  refine Z.iload (k := 5) dX12_lettersOf_29 rfl ?_
  refine Z.iload (k := 4) dX12_lettersOf_31 rfl ?_
  refine Z.aload_n (k := 0) dX12_lettersOf_33 rfl ?_
  refine Y.getR (o := some 59) 8 dX12_lettersOf_34 zl_X12_30 (rfl) (by decide) rfl (zM_1 hM).2.1 (zM_8 hM).1 ?_
  refine Z.bipush (n := 6) dX12_lettersOf_37 ⟨by decide, by decide⟩ (by decide) ?_
  refine Z.iload_n (k := 1) dX12_lettersOf_39 rfl ?_
  obtain ⟨z_1, K⟩ := K
  refine Z.imul dX12_lettersOf_40 z_1 ?_
  refine Z.iload_n (k := 3) dX12_lettersOf_41 rfl ?_
  obtain ⟨z_2, K⟩ := K
  refine Z.iadd dX12_lettersOf_42 z_2 ?_
  obtain ⟨z_3, K⟩ := K
  refine Y.iald dX12_lettersOf_43 (rfl) ((zM_8 hM).2.2) z_3 ?_
  obtain ⟨z_4, K⟩ := K
  refine Z.iadd dX12_lettersOf_44 z_4 ?_
  refine Z.icmp_ge 79 dX12_lettersOf_45 rfl ⟨fun c_5 => ?_, fun c_5 => ?_⟩
  · replace K := K.1 c_5
    obtain ⟨z_6, K⟩ := K
    refine Z.iinc (k := 3) (ls' := [(3, zI ((v3 + 1))), (0, zR 50), (1, zI v1), (2, zI v2), (4, zI v4), (5, zI v5)]) dX12_lettersOf_79 rfl (by decide) z_6 rfl ?_
    refine Z.goto 4 dX12_lettersOf_82 rfl ?_
    refine Z.pick (ls' := [(0, zR 50), (1, zI v1), (2, zI v2), (3, zI ((v3 + 1)))]) [1, 2, 3, 0] rfl ?_
    exact K
  · replace K := K.2 c_5
    refine Z.aload_n (k := 0) dX12_lettersOf_48 rfl ?_
    refine Y.getR (o := some 58) 7 dX12_lettersOf_49 zl_X12_27 (rfl) (by decide) rfl (zM_1 hM).2.1 (zM_7 hM).1 ?_
    refine Z.iload (k := 5) dX12_lettersOf_52 rfl ?_
    obtain ⟨z_7, K⟩ := K
    refine Y.iald dX12_lettersOf_54 (rfl) ((zM_7 hM).2.2) z_7 ?_
    obtain ⟨z_8, K⟩ := K
    refine Z.ineg dX12_lettersOf_55 z_8 ?_
    refine Z.iload_n (k := 2) dX12_lettersOf_56 rfl ?_
    refine Z.icmp_le 71 dX12_lettersOf_57 rfl ⟨fun c_9 => ?_, fun c_9 => ?_⟩
    · replace K := K.1 c_9
      refine Z.iload_n (k := 2) dX12_lettersOf_71 rfl ?_
      refine Z.istore_n (ls' := [(2, zI v2), (0, zR 50), (1, zI v1), (3, zI v3), (4, zI v4), (5, zI v5)]) dX12_lettersOf_72 (by decide) rfl ?_
      obtain ⟨z_10, K⟩ := K
      refine Z.iinc (k := 5) (ls' := [(5, zI ((v5 + 1))), (2, zI v2), (0, zR 50), (1, zI v1), (3, zI v3), (4, zI v4)]) dX12_lettersOf_73 rfl (by decide) z_10 rfl ?_
      refine Z.goto 29 dX12_lettersOf_76 rfl ?_
      refine Z.pick (ls' := [(0, zR 50), (1, zI v1), (2, zI v2), (3, zI v3), (4, zI v4), (5, zI ((v5 + 1)))]) [2, 3, 1, 4, 5, 0] rfl ?_
      exact K
    · replace K := K.2 c_9
      refine Z.aload_n (k := 0) dX12_lettersOf_60 rfl ?_
      refine Y.getR (o := some 58) 7 dX12_lettersOf_61 zl_X12_27 (rfl) (by decide) rfl (zM_1 hM).2.1 (zM_7 hM).1 ?_
      refine Z.iload (k := 5) dX12_lettersOf_64 rfl ?_
      obtain ⟨z_11, K⟩ := K
      refine Y.iald dX12_lettersOf_66 (rfl) ((zM_7 hM).2.2) z_11 ?_
      obtain ⟨z_12, K⟩ := K
      refine Z.ineg dX12_lettersOf_67 z_12 ?_
      refine Z.goto 72 dX12_lettersOf_68 rfl ?_
      refine Z.istore_n (ls' := [(2, zI ((-(E 58 v5)))), (0, zR 50), (1, zI v1), (3, zI v3), (4, zI v4), (5, zI v5)]) dX12_lettersOf_72 (by decide) rfl ?_
      obtain ⟨z_13, K⟩ := K
      refine Z.iinc (k := 5) (ls' := [(5, zI ((v5 + 1))), (2, zI ((-(E 58 v5)))), (0, zR 50), (1, zI v1), (3, zI v3), (4, zI v4)]) dX12_lettersOf_73 rfl (by decide) z_13 rfl ?_
      refine Z.goto 29 dX12_lettersOf_76 rfl ?_
      refine Z.pick (ls' := [(0, zR 50), (1, zI v1), (2, zI ((-(E 58 v5)))), (3, zI v3), (4, zI v4), (5, zI ((v5 + 1)))]) [2, 3, 1, 4, 5, 0] rfl ?_
      exact K
set_option maxRecDepth 20000 in
theorem X12_claim_0 {kz : Nat × Nat} {Q : Option zV → zH → Prop} {d : List Nat} {G : Nat → Int → Option Nat} {E : Nat → Int → Int} {v1 : Int} {v2 : Int} (hM : zK zMt d G) (K : ∃ x_1, zM zm_X12_isClaim [zR 50, zI v1] (d, G, E) (some (zI x_1)) (d, G, E) ∧ (x_1 ≠ 0 → (v2 = 0 → ((0 : Int) ≤ v1 ∧ v1 < (150 : Int)) ∧ Q (some (zI ((E 61 v1)))) (d, G, E)) ∧ (v2 = 1 → ∃ x_8, zM zm_X12_weightOfClaim [zR 50, zI v1] (d, G, E) (some (zI x_8)) (d, G, E) ∧ Q (some (zI x_8)) (d, G, E)) ∧ (v2 = 2 → ((0 : Int) ≤ v1 ∧ v1 < (150 : Int)) ∧ Q (some (zI ((E 62 v1)))) (d, G, E)) ∧ (v2 = 3 → ((0 : Int) ≤ v1 ∧ v1 < (150 : Int)) ∧ Q (some (zI ((E 63 v1)))) (d, G, E)) ∧ (v2 = 4 → ∃ x_16, zM zm_X12_chosenOf [zR 50, zI v1] (d, G, E) (some (zI x_16)) (d, G, E) ∧ Q (some (zI x_16)) (d, G, E)) ∧ (v2 = 5 → ∃ x_20, zM zm_X12_lettersOf [zR 50, zI v1] (d, G, E) (some (zI x_20)) (d, G, E) ∧ Q (some (zI x_20)) (d, G, E)) ∧ ((v2 < 0 ∨ 5 < v2) → Q (some (zI ((-2)))) (d, G, E))) ∧ (¬ (x_1 ≠ 0) → Q (some (zI ((-2)))) (d, G, E))) : Z zm_X12_claim kz Q 0 [(0, zR 50), (1, zI v1), (2, zI v2)] [] (d, G, E) := by
  refine Z.aload_n (k := 0) dX12_claim_0 rfl ?_
  refine Z.iload_n (k := 1) dX12_claim_1 rfl ?_
  obtain ⟨x_1, m_2, K⟩ := K
  refine Y.callV (g := zm_X12_isClaim) (vs := [zI v1]) (st := []) dX12_claim_2 ⟨zg_X12_isClaim.1, zg_X12_isClaim.2.1, zg_X12_isClaim.2.2, by decide⟩ ⟨zk_X12_380, zv_X12_isClaim⟩ (ci := 12) (rfl) rfl ((zM_1 hM).2.1) rfl rfl (Nat.le_of_ble_eq_true rfl) m_2 (Or.inl rfl) ?_
  show Z zm_X12_claim kz Q 5 [(0, zR 50), (1, zI v1), (2, zI v2)] [zI x_1] (d, G, E)
  refine Z.if_ne 11 dX12_claim_5 rfl ⟨fun c_4 => ?_, fun c_4 => ?_⟩
  · replace K := K.1 c_4
    refine Z.iload_n (k := 2) dX12_claim_11 rfl ?_
    by_cases c_5 : v2 = 0
    · replace K := K.1 c_5
      refine Z.tableIn (off := 40) 52 dX12_claim_12 (by omega) (by omega) (by rw [c_5]; rfl) rfl ?_
      refine Z.aload_n (k := 0) dX12_claim_52 rfl ?_
      refine Y.getR (o := some 61) 10 dX12_claim_53 zl_X12_36 (rfl) (by decide) rfl (zM_1 hM).2.1 (zM_10 hM).1 ?_
      refine Z.iload_n (k := 1) dX12_claim_56 rfl ?_
      obtain ⟨z_6, K⟩ := K
      refine Y.iald dX12_claim_57 (rfl) ((zM_10 hM).2.2) z_6 ?_
      exact Z.iret (ty := .int) dX12_claim_58 rfl rfl K
    replace K := K.2
    by_cases c_7 : v2 = 1
    · replace K := K.1 c_7
      refine Z.tableIn (off := 47) 59 dX12_claim_12 (by omega) (by omega) (by rw [c_7]; rfl) rfl ?_
      refine Z.aload_n (k := 0) dX12_claim_59 rfl ?_
      refine Z.iload_n (k := 1) dX12_claim_60 rfl ?_
      obtain ⟨x_8, m_9, K⟩ := K
      refine Y.callV (g := zm_X12_weightOfClaim) (vs := [zI v1]) (st := []) dX12_claim_61 ⟨zg_X12_weightOfClaim.1, zg_X12_weightOfClaim.2.1, zg_X12_weightOfClaim.2.2, by decide⟩ ⟨zk_X12_371, zv_X12_weightOfClaim⟩ (ci := 12) (rfl) rfl ((zM_1 hM).2.1) rfl rfl (Nat.le_of_ble_eq_true rfl) m_9 (Or.inl rfl) ?_
      show Z zm_X12_claim kz Q 64 [(0, zR 50), (1, zI v1), (2, zI v2)] [zI x_8] (d, G, E)
      exact Z.iret (ty := .int) dX12_claim_64 rfl rfl K
    replace K := K.2
    by_cases c_11 : v2 = 2
    · replace K := K.1 c_11
      refine Z.tableIn (off := 53) 65 dX12_claim_12 (by omega) (by omega) (by rw [c_11]; rfl) rfl ?_
      refine Z.aload_n (k := 0) dX12_claim_65 rfl ?_
      refine Y.getR (o := some 62) 11 dX12_claim_66 zl_X12_39 (rfl) (by decide) rfl (zM_1 hM).2.1 (zM_11 hM).1 ?_
      refine Z.iload_n (k := 1) dX12_claim_69 rfl ?_
      obtain ⟨z_12, K⟩ := K
      refine Y.iald dX12_claim_70 (rfl) ((zM_11 hM).2.2) z_12 ?_
      exact Z.iret (ty := .int) dX12_claim_71 rfl rfl K
    replace K := K.2
    by_cases c_13 : v2 = 3
    · replace K := K.1 c_13
      refine Z.tableIn (off := 60) 72 dX12_claim_12 (by omega) (by omega) (by rw [c_13]; rfl) rfl ?_
      refine Z.aload_n (k := 0) dX12_claim_72 rfl ?_
      refine Y.getR (o := some 63) 12 dX12_claim_73 zl_X12_42 (rfl) (by decide) rfl (zM_1 hM).2.1 (zM_12 hM).1 ?_
      refine Z.iload_n (k := 1) dX12_claim_76 rfl ?_
      obtain ⟨z_14, K⟩ := K
      refine Y.iald dX12_claim_77 (rfl) ((zM_12 hM).2.2) z_14 ?_
      exact Z.iret (ty := .int) dX12_claim_78 rfl rfl K
    replace K := K.2
    by_cases c_15 : v2 = 4
    · replace K := K.1 c_15
      refine Z.tableIn (off := 67) 79 dX12_claim_12 (by omega) (by omega) (by rw [c_15]; rfl) rfl ?_
      refine Z.aload_n (k := 0) dX12_claim_79 rfl ?_
      refine Z.iload_n (k := 1) dX12_claim_80 rfl ?_
      obtain ⟨x_16, m_17, K⟩ := K
      refine Y.callV (g := zm_X12_chosenOf) (vs := [zI v1]) (st := []) dX12_claim_81 ⟨zg_X12_chosenOf.1, zg_X12_chosenOf.2.1, zg_X12_chosenOf.2.2, by decide⟩ ⟨zk_X12_272, zv_X12_chosenOf⟩ (ci := 12) (rfl) rfl ((zM_1 hM).2.1) rfl rfl (Nat.le_of_ble_eq_true rfl) m_17 (Or.inl rfl) ?_
      show Z zm_X12_claim kz Q 84 [(0, zR 50), (1, zI v1), (2, zI v2)] [zI x_16] (d, G, E)
      exact Z.iret (ty := .int) dX12_claim_84 rfl rfl K
    replace K := K.2
    by_cases c_19 : v2 = 5
    · replace K := K.1 c_19
      refine Z.tableIn (off := 73) 85 dX12_claim_12 (by omega) (by omega) (by rw [c_19]; rfl) rfl ?_
      refine Z.aload_n (k := 0) dX12_claim_85 rfl ?_
      refine Z.iload_n (k := 1) dX12_claim_86 rfl ?_
      obtain ⟨x_20, m_21, K⟩ := K
      refine Y.callV (g := zm_X12_lettersOf) (vs := [zI v1]) (st := []) dX12_claim_87 ⟨zg_X12_lettersOf.1, zg_X12_lettersOf.2.1, zg_X12_lettersOf.2.2, by decide⟩ ⟨zk_X12_406, zv_X12_lettersOf⟩ (ci := 12) (rfl) rfl ((zM_1 hM).2.1) rfl rfl (Nat.le_of_ble_eq_true rfl) m_21 (Or.inl rfl) ?_
      show Z zm_X12_claim kz Q 90 [(0, zR 50), (1, zI v1), (2, zI v2)] [zI x_20] (d, G, E)
      exact Z.iret (ty := .int) dX12_claim_90 rfl rfl K
    replace K := K.2
    have hd0 : v2 < 0 ∨ 5 < v2 := by omega
    replace K := K hd0
    refine Z.tableOut 91 dX12_claim_12 hd0 rfl ?_
    refine Z.bipush (n := -2) dX12_claim_91 ⟨by decide, by decide⟩ (by decide) ?_
    exact Z.iret (ty := .int) dX12_claim_93 rfl rfl K
  · replace K := K.2 c_4
    refine Z.bipush (n := -2) dX12_claim_8 ⟨by decide, by decide⟩ (by decide) ?_
    exact Z.iret (ty := .int) dX12_claim_10 rfl rfl K
set_option maxRecDepth 20000 in
theorem X12_literal_0 {kz : Nat × Nat} {Q : Option zV → zH → Prop} {d : List Nat} {G : Nat → Int → Option Nat} {E : Nat → Int → Int} {v1 : Int} {v2 : Int} {v3 : Int} (hM : zK zMt d G) (K : ∃ x_1, zM zm_X12_isClaim [zR 50, zI v1] (d, G, E) (some (zI x_1)) (d, G, E) ∧ (x_1 = 0 → Q (some (zI ((-2147483648)))) (d, G, E)) ∧ (¬ (x_1 = 0) → ∃ x_5, zM zm_X12_isLiteral [zR 50, zI v1, zI v2] (d, G, E) (some (zI x_5)) (d, G, E) ∧ (x_5 ≠ 0 → zin (6 * v1) ∧ zin ((6 * v1) + v2) ∧ (v3 ≠ 0 → (v3 ≠ 1 → ((0 : Int) ≤ ((6 * v1) + v2) ∧ ((6 * v1) + v2) < (900 : Int)) ∧ zin (1 + (E 59 ((6 * v1) + v2))) ∧ ∃ x_15, zM zm_X12_in [zI v3, zI 2, zI ((1 + (E 59 ((6 * v1) + v2))))] (d, G, E) (some (zI x_15)) (d, G, E) ∧ (x_15 = 0 → Q (some (zI ((-2147483648)))) (d, G, E)) ∧ (¬ (x_15 = 0) → zin (30 * ((6 * v1) + v2)) ∧ zin ((30 * ((6 * v1) + v2)) + v3) ∧ zin (((30 * ((6 * v1) + v2)) + v3) - 2) ∧ ((0 : Int) ≤ (((30 * ((6 * v1) + v2)) + v3) - 2) ∧ (((30 * ((6 * v1) + v2)) + v3) - 2) < (27000 : Int)) ∧ Q (some (zI ((E 58 (((30 * ((6 * v1) + v2)) + v3) - 2))))) (d, G, E))) ∧ (¬ (v3 ≠ 1) → ((0 : Int) ≤ ((6 * v1) + v2) ∧ ((6 * v1) + v2) < (900 : Int)) ∧ Q (some (zI ((E 59 ((6 * v1) + v2))))) (d, G, E))) ∧ (¬ (v3 ≠ 0) → ((0 : Int) ≤ ((6 * v1) + v2) ∧ ((6 * v1) + v2) < (900 : Int)) ∧ ((E 60 ((6 * v1) + v2)) = 0 → Q (some (zI 0)) (d, G, E)) ∧ (¬ ((E 60 ((6 * v1) + v2)) = 0) → Q (some (zI 1)) (d, G, E)))) ∧ (¬ (x_5 ≠ 0) → Q (some (zI ((-2147483648)))) (d, G, E)))) : Z zm_X12_literal kz Q 0 [(0, zR 50), (1, zI v1), (2, zI v2), (3, zI v3)] [] (d, G, E) := by
  refine Z.aload_n (k := 0) dX12_literal_0 rfl ?_
  refine Z.iload_n (k := 1) dX12_literal_1 rfl ?_
  obtain ⟨x_1, m_2, K⟩ := K
  refine Y.callV (g := zm_X12_isClaim) (vs := [zI v1]) (st := []) dX12_literal_2 ⟨zg_X12_isClaim.1, zg_X12_isClaim.2.1, zg_X12_isClaim.2.2, by decide⟩ ⟨zk_X12_380, zv_X12_isClaim⟩ (ci := 12) (rfl) rfl ((zM_1 hM).2.1) rfl rfl (Nat.le_of_ble_eq_true rfl) m_2 (Or.inl rfl) ?_
  show Z zm_X12_literal kz Q 5 [(0, zR 50), (1, zI v1), (2, zI v2), (3, zI v3)] [zI x_1] (d, G, E)
  refine Z.if_eq 17 dX12_literal_5 rfl ⟨fun c_4 => ?_, fun c_4 => ?_⟩
  · replace K := K.1 c_4
    refine Z.ldc_w (n := -2147483648) dX12_literal_17 ⟨by decide, by decide⟩ zq_X12_383 ?_
    exact Z.iret (ty := .int) dX12_literal_20 rfl rfl K
  · replace K := K.2 c_4
    refine Z.aload_n (k := 0) dX12_literal_8 rfl ?_
    refine Z.iload_n (k := 1) dX12_literal_9 rfl ?_
    refine Z.iload_n (k := 2) dX12_literal_10 rfl ?_
    obtain ⟨x_5, m_6, K⟩ := K
    refine Y.callV (g := zm_X12_isLiteral) (vs := [zI v1, zI v2]) (st := []) dX12_literal_11 ⟨zg_X12_isLiteral.1, zg_X12_isLiteral.2.1, zg_X12_isLiteral.2.2, by decide⟩ ⟨zk_X12_278, zv_X12_isLiteral⟩ (ci := 12) (rfl) rfl ((zM_1 hM).2.1) rfl rfl (Nat.le_of_ble_eq_true rfl) m_6 (Or.inl rfl) ?_
    show Z zm_X12_literal kz Q 14 [(0, zR 50), (1, zI v1), (2, zI v2), (3, zI v3)] [zI x_5] (d, G, E)
    refine Z.if_ne 21 dX12_literal_14 rfl ⟨fun c_8 => ?_, fun c_8 => ?_⟩
    · replace K := K.1 c_8
      refine Z.bipush (n := 6) dX12_literal_21 ⟨by decide, by decide⟩ (by decide) ?_
      refine Z.iload_n (k := 1) dX12_literal_23 rfl ?_
      obtain ⟨z_9, K⟩ := K
      refine Z.imul dX12_literal_24 z_9 ?_
      refine Z.iload_n (k := 2) dX12_literal_25 rfl ?_
      obtain ⟨z_10, K⟩ := K
      refine Z.iadd dX12_literal_26 z_10 ?_
      refine Z.istore (ls' := [(4, zI (((6 * v1) + v2))), (0, zR 50), (1, zI v1), (2, zI v2), (3, zI v3)]) dX12_literal_27 (by decide) rfl ?_
      refine Z.iload_n (k := 4) dX12_literal_29 rfl ?_
      refine Z.if_ne 49 dX12_literal_30 rfl ⟨fun c_11 => ?_, fun c_11 => ?_⟩
      · replace K := K.1 c_11
        refine Z.iload_n (k := 4) dX12_literal_49 rfl ?_
        refine Z.iconst (n := 1) dX12_literal_50 ⟨by decide, by decide⟩ ?_
        refine Z.icmp_ne 62 dX12_literal_51 rfl ⟨fun c_12 => ?_, fun c_12 => ?_⟩
        · replace K := K.1 c_12
          refine Z.iload_n (k := 4) dX12_literal_62 rfl ?_
          refine Z.iconst (n := 2) dX12_literal_63 ⟨by decide, by decide⟩ ?_
          refine Z.iconst (n := 1) dX12_literal_64 ⟨by decide, by decide⟩ ?_
          refine Z.aload_n (k := 1) dX12_literal_65 rfl ?_
          refine Y.getR (o := some 59) 8 dX12_literal_66 zl_X12_30 (rfl) (by decide) rfl (zM_1 hM).2.1 (zM_8 hM).1 ?_
          refine Z.iload (k := 0) dX12_literal_69 rfl ?_
          obtain ⟨z_13, K⟩ := K
          refine Y.iald dX12_literal_71 (rfl) ((zM_8 hM).2.2) z_13 ?_
          obtain ⟨z_14, K⟩ := K
          refine Z.iadd dX12_literal_72 z_14 ?_
          obtain ⟨x_15, m_16, K⟩ := K
          refine Y.callS (g := zm_X12_in) (vs := [zI v3, zI 2, zI ((1 + (E 59 ((6 * v1) + v2))))]) (st := []) dX12_literal_73 ⟨zg_X12_in.1, zg_X12_in.2.1, zg_X12_in.2.2, by decide⟩ ⟨Or.inl zk_X12_138, zs_X12_in⟩ rfl rfl (Nat.le_of_ble_eq_true rfl) m_16 (Or.inl rfl) ?_
          show Z zm_X12_literal kz Q 76 [(4, zI (((6 * v1) + v2))), (0, zR 50), (1, zI v1), (2, zI v2), (3, zI v3)] [zI x_15] (d, G, E)
          refine Z.if_eq 96 dX12_literal_76 rfl ⟨fun c_18 => ?_, fun c_18 => ?_⟩
          · replace K := K.1 c_18
            refine Z.ldc_w (n := -2147483648) dX12_literal_96 ⟨by decide, by decide⟩ zq_X12_383 ?_
            exact Z.iret (ty := .int) dX12_literal_99 rfl rfl K
          · replace K := K.2 c_18
            refine Z.aload_n (k := 1) dX12_literal_79 rfl ?_
            refine Y.getR (o := some 58) 7 dX12_literal_80 zl_X12_27 (rfl) (by decide) rfl (zM_1 hM).2.1 (zM_7 hM).1 ?_
            refine Z.bipush (n := 30) dX12_literal_83 ⟨by decide, by decide⟩ (by decide) ?_
            refine Z.iload (k := 0) dX12_literal_85 rfl ?_
            obtain ⟨z_19, K⟩ := K
            refine Z.imul dX12_literal_87 z_19 ?_
            refine Z.iload_n (k := 4) dX12_literal_88 rfl ?_
            obtain ⟨z_20, K⟩ := K
            refine Z.iadd dX12_literal_89 z_20 ?_
            refine Z.iconst (n := 2) dX12_literal_90 ⟨by decide, by decide⟩ ?_
            obtain ⟨z_21, K⟩ := K
            refine Z.isub dX12_literal_91 z_21 ?_
            obtain ⟨z_22, K⟩ := K
            refine Y.iald dX12_literal_92 (rfl) ((zM_7 hM).2.2) z_22 ?_
            refine Z.goto 99 dX12_literal_93 rfl ?_
            exact Z.iret (ty := .int) dX12_literal_99 rfl rfl K
        · replace K := K.2 c_12
          refine Z.aload_n (k := 1) dX12_literal_54 rfl ?_
          refine Y.getR (o := some 59) 8 dX12_literal_55 zl_X12_30 (rfl) (by decide) rfl (zM_1 hM).2.1 (zM_8 hM).1 ?_
          refine Z.iload (k := 0) dX12_literal_58 rfl ?_
          obtain ⟨z_23, K⟩ := K
          refine Y.iald dX12_literal_60 (rfl) ((zM_8 hM).2.2) z_23 ?_
          exact Z.iret (ty := .int) dX12_literal_61 rfl rfl K
      · replace K := K.2 c_11
        refine Z.aload_n (k := 1) dX12_literal_33 rfl ?_
        refine Y.getR (o := some 60) 9 dX12_literal_34 zl_X12_33 (rfl) (by decide) rfl (zM_1 hM).2.1 (zM_9 hM).1 ?_
        refine Z.iload (k := 0) dX12_literal_37 rfl ?_
        obtain ⟨z_24, K⟩ := K
        refine Y.zald dX12_literal_39 (rfl) ((zM_9 hM).2.2) z_24 ?_
        refine Z.if_eq 47 dX12_literal_40 rfl ⟨fun c_25 => ?_, fun c_25 => ?_⟩
        · replace K := K.1 c_25
          refine Z.iconst (n := 0) dX12_literal_47 ⟨by decide, by decide⟩ ?_
          exact Z.iret (ty := .int) dX12_literal_48 rfl rfl K
        · replace K := K.2 c_25
          refine Z.iconst (n := 1) dX12_literal_43 ⟨by decide, by decide⟩ ?_
          refine Z.goto 48 dX12_literal_44 rfl ?_
          exact Z.iret (ty := .int) dX12_literal_48 rfl rfl K
    · replace K := K.2 c_8
      refine Z.ldc_w (n := -2147483648) dX12_literal_17 ⟨by decide, by decide⟩ zq_X12_383 ?_
      exact Z.iret (ty := .int) dX12_literal_20 rfl rfl K
set_option maxRecDepth 20000 in
theorem X12_order_0 {kz : Nat × Nat} {Q : Option zV → zH → Prop} {d : List Nat} {G : Nat → Int → Option Nat} {E : Nat → Int → Int} {v1 : Int} {v2 : Int} {v3 : Int} {v4 : Int} (hM : zK zMt d G) (K : ∃ x_1, zM zm_X12_isClaim [zR 50, zI v1] (d, G, E) (some (zI x_1)) (d, G, E) ∧ (x_1 = 0 → Q (some (zI ((-2)))) (d, G, E)) ∧ (¬ (x_1 = 0) → ∃ x_5, zM zm_X12_isClaim [zR 50, zI v3] (d, G, E) (some (zI x_5)) (d, G, E) ∧ (x_5 = 0 → Q (some (zI ((-2)))) (d, G, E)) ∧ (¬ (x_5 = 0) → ∃ x_9, zM zm_X12_isLiteral [zR 50, zI v1, zI v2] (d, G, E) (some (zI x_9)) (d, G, E) ∧ (x_9 = 0 → Q (some (zI ((-2)))) (d, G, E)) ∧ (¬ (x_9 = 0) → ∃ x_13, zM zm_X12_isLiteral [zR 50, zI v3, zI v4] (d, G, E) (some (zI x_13)) (d, G, E) ∧ (x_13 ≠ 0 → zin (6 * v1) ∧ zin ((6 * v1) + v2) ∧ zin (30 * ((6 * v1) + v2)) ∧ zin (6 * v3) ∧ zin ((6 * v3) + v4) ∧ zin (30 * ((6 * v3) + v4)) ∧ ((0 : Int) ≤ (30 * ((6 * v1) + v2)) ∧ (30 * ((6 * v1) + v2)) < (27000 : Int)) ∧ ((0 : Int) ≤ (E 58 (30 * ((6 * v1) + v2))) ∧ (E 58 (30 * ((6 * v1) + v2))) < (16 : Int)) ∧ ((E 53 (E 58 (30 * ((6 * v1) + v2)))) = 0 → Q (some (zI ((-2)))) (d, G, E)) ∧ (¬ ((E 53 (E 58 (30 * ((6 * v1) + v2)))) = 0) → ((0 : Int) ≤ (30 * ((6 * v3) + v4)) ∧ (30 * ((6 * v3) + v4)) < (27000 : Int)) ∧ ((0 : Int) ≤ (E 58 (30 * ((6 * v3) + v4))) ∧ (E 58 (30 * ((6 * v3) + v4))) < (16 : Int)) ∧ ((E 53 (E 58 (30 * ((6 * v3) + v4)))) ≠ 0 → zin ((30 * ((6 * v1) + v2)) + 1) ∧ zin ((30 * ((6 * v3) + v4)) + 1) ∧ ∃ x_31, zM zm_X12_areLike [zR 50, zR 58, zI (((30 * ((6 * v1) + v2)) + 1)), zR 58, zI (((30 * ((6 * v3) + v4)) + 1))] (d, G, E) (some (zI x_31)) (d, G, E) ∧ (x_31 = 0 → zin ((30 * ((6 * v1) + v2)) + 1) ∧ zin ((30 * ((6 * v3) + v4)) + 1) ∧ ∃ x_37 E_38, zM zm_X12_isGreater [zR 50, zR 58, zI (((30 * ((6 * v1) + v2)) + 1)), zR 58, zI (((30 * ((6 * v3) + v4)) + 1))] (d, G, E) (some (zI x_37)) (d, G, E_38) ∧ (x_37 = 0 → zin ((30 * ((6 * v3) + v4)) + 1) ∧ zin ((30 * ((6 * v1) + v2)) + 1) ∧ ∃ x_44 E_45, zM zm_X12_isGreater [zR 50, zR 58, zI (((30 * ((6 * v3) + v4)) + 1)), zR 58, zI (((30 * ((6 * v1) + v2)) + 1))] (d, G, E_38) (some (zI x_44)) (d, G, E_45) ∧ (x_44 = 0 → Q (some (zI 0)) (d, G, E_45)) ∧ (¬ (x_44 = 0) → Q (some (zI ((-1)))) (d, G, E_45))) ∧ (¬ (x_37 = 0) → Q (some (zI 1)) (d, G, E_38))) ∧ (¬ (x_31 = 0) → Q (some (zI 2)) (d, G, E))) ∧ (¬ ((E 53 (E 58 (30 * ((6 * v3) + v4)))) ≠ 0) → Q (some (zI ((-2)))) (d, G, E)))) ∧ (¬ (x_13 ≠ 0) → Q (some (zI ((-2)))) (d, G, E)))))) : Z zm_X12_order kz Q 0 [(0, zR 50), (1, zI v1), (2, zI v2), (3, zI v3), (4, zI v4)] [] (d, G, E) := by
  refine Z.aload_n (k := 0) dX12_order_0 rfl ?_
  refine Z.iload_n (k := 1) dX12_order_1 rfl ?_
  obtain ⟨x_1, m_2, K⟩ := K
  refine Y.callV (g := zm_X12_isClaim) (vs := [zI v1]) (st := []) dX12_order_2 ⟨zg_X12_isClaim.1, zg_X12_isClaim.2.1, zg_X12_isClaim.2.2, by decide⟩ ⟨zk_X12_380, zv_X12_isClaim⟩ (ci := 12) (rfl) rfl ((zM_1 hM).2.1) rfl rfl (Nat.le_of_ble_eq_true rfl) m_2 (Or.inl rfl) ?_
  show Z zm_X12_order kz Q 5 [(0, zR 50), (1, zI v1), (2, zI v2), (3, zI v3), (4, zI v4)] [zI x_1] (d, G, E)
  refine Z.if_eq 35 dX12_order_5 rfl ⟨fun c_4 => ?_, fun c_4 => ?_⟩
  · replace K := K.1 c_4
    refine Z.bipush (n := -2) dX12_order_35 ⟨by decide, by decide⟩ (by decide) ?_
    exact Z.iret (ty := .int) dX12_order_37 rfl rfl K
  · replace K := K.2 c_4
    refine Z.aload_n (k := 0) dX12_order_8 rfl ?_
    refine Z.iload_n (k := 3) dX12_order_9 rfl ?_
    obtain ⟨x_5, m_6, K⟩ := K
    refine Y.callV (g := zm_X12_isClaim) (vs := [zI v3]) (st := []) dX12_order_10 ⟨zg_X12_isClaim.1, zg_X12_isClaim.2.1, zg_X12_isClaim.2.2, by decide⟩ ⟨zk_X12_380, zv_X12_isClaim⟩ (ci := 12) (rfl) rfl ((zM_1 hM).2.1) rfl rfl (Nat.le_of_ble_eq_true rfl) m_6 (Or.inl rfl) ?_
    show Z zm_X12_order kz Q 13 [(0, zR 50), (1, zI v1), (2, zI v2), (3, zI v3), (4, zI v4)] [zI x_5] (d, G, E)
    refine Z.if_eq 35 dX12_order_13 rfl ⟨fun c_8 => ?_, fun c_8 => ?_⟩
    · replace K := K.1 c_8
      refine Z.bipush (n := -2) dX12_order_35 ⟨by decide, by decide⟩ (by decide) ?_
      exact Z.iret (ty := .int) dX12_order_37 rfl rfl K
    · replace K := K.2 c_8
      refine Z.aload_n (k := 0) dX12_order_16 rfl ?_
      refine Z.iload_n (k := 1) dX12_order_17 rfl ?_
      refine Z.iload_n (k := 2) dX12_order_18 rfl ?_
      obtain ⟨x_9, m_10, K⟩ := K
      refine Y.callV (g := zm_X12_isLiteral) (vs := [zI v1, zI v2]) (st := []) dX12_order_19 ⟨zg_X12_isLiteral.1, zg_X12_isLiteral.2.1, zg_X12_isLiteral.2.2, by decide⟩ ⟨zk_X12_278, zv_X12_isLiteral⟩ (ci := 12) (rfl) rfl ((zM_1 hM).2.1) rfl rfl (Nat.le_of_ble_eq_true rfl) m_10 (Or.inl rfl) ?_
      show Z zm_X12_order kz Q 22 [(0, zR 50), (1, zI v1), (2, zI v2), (3, zI v3), (4, zI v4)] [zI x_9] (d, G, E)
      refine Z.if_eq 35 dX12_order_22 rfl ⟨fun c_12 => ?_, fun c_12 => ?_⟩
      · replace K := K.1 c_12
        refine Z.bipush (n := -2) dX12_order_35 ⟨by decide, by decide⟩ (by decide) ?_
        exact Z.iret (ty := .int) dX12_order_37 rfl rfl K
      · replace K := K.2 c_12
        refine Z.aload_n (k := 0) dX12_order_25 rfl ?_
        refine Z.iload_n (k := 3) dX12_order_26 rfl ?_
        refine Z.iload (k := 4) dX12_order_27 rfl ?_
        obtain ⟨x_13, m_14, K⟩ := K
        refine Y.callV (g := zm_X12_isLiteral) (vs := [zI v3, zI v4]) (st := []) dX12_order_29 ⟨zg_X12_isLiteral.1, zg_X12_isLiteral.2.1, zg_X12_isLiteral.2.2, by decide⟩ ⟨zk_X12_278, zv_X12_isLiteral⟩ (ci := 12) (rfl) rfl ((zM_1 hM).2.1) rfl rfl (Nat.le_of_ble_eq_true rfl) m_14 (Or.inl rfl) ?_
        show Z zm_X12_order kz Q 32 [(0, zR 50), (1, zI v1), (2, zI v2), (3, zI v3), (4, zI v4)] [zI x_13] (d, G, E)
        refine Z.if_ne 38 dX12_order_32 rfl ⟨fun c_16 => ?_, fun c_16 => ?_⟩
        · replace K := K.1 c_16
          refine Z.bipush (n := 30) dX12_order_38 ⟨by decide, by decide⟩ (by decide) ?_
          refine Z.bipush (n := 6) dX12_order_40 ⟨by decide, by decide⟩ (by decide) ?_
          refine Z.iload_n (k := 1) dX12_order_42 rfl ?_
          obtain ⟨z_17, K⟩ := K
          refine Z.imul dX12_order_43 z_17 ?_
          refine Z.iload_n (k := 2) dX12_order_44 rfl ?_
          obtain ⟨z_18, K⟩ := K
          refine Z.iadd dX12_order_45 z_18 ?_
          obtain ⟨z_19, K⟩ := K
          refine Z.imul dX12_order_46 z_19 ?_
          refine Z.istore (ls' := [(5, zI ((30 * ((6 * v1) + v2)))), (0, zR 50), (1, zI v1), (2, zI v2), (3, zI v3), (4, zI v4)]) dX12_order_47 (by decide) rfl ?_
          refine Z.bipush (n := 30) dX12_order_49 ⟨by decide, by decide⟩ (by decide) ?_
          refine Z.bipush (n := 6) dX12_order_51 ⟨by decide, by decide⟩ (by decide) ?_
          refine Z.iload_n (k := 4) dX12_order_53 rfl ?_
          obtain ⟨z_20, K⟩ := K
          refine Z.imul dX12_order_54 z_20 ?_
          refine Z.iload (k := 5) dX12_order_55 rfl ?_
          obtain ⟨z_21, K⟩ := K
          refine Z.iadd dX12_order_57 z_21 ?_
          obtain ⟨z_22, K⟩ := K
          refine Z.imul dX12_order_58 z_22 ?_
          refine Z.istore (ls' := [(6, zI ((30 * ((6 * v3) + v4)))), (5, zI ((30 * ((6 * v1) + v2)))), (0, zR 50), (1, zI v1), (2, zI v2), (3, zI v3), (4, zI v4)]) dX12_order_59 (by decide) rfl ?_
          refine Z.aload_n (k := 2) dX12_order_61 rfl ?_
          refine Y.getR (o := some 53) 2 dX12_order_62 zl_X12_17 (rfl) (by decide) rfl (zM_1 hM).2.1 (zM_2 hM).1 ?_
          refine Z.aload_n (k := 2) dX12_order_65 rfl ?_
          refine Y.getR (o := some 58) 7 dX12_order_66 zl_X12_27 (rfl) (by decide) rfl (zM_1 hM).2.1 (zM_7 hM).1 ?_
          refine Z.iload (k := 1) dX12_order_69 rfl ?_
          obtain ⟨z_23, K⟩ := K
          refine Y.iald dX12_order_71 (rfl) ((zM_7 hM).2.2) z_23 ?_
          obtain ⟨z_24, K⟩ := K
          refine Y.iald dX12_order_72 (rfl) ((zM_2 hM).2.2) z_24 ?_
          refine Z.if_eq 91 dX12_order_73 rfl ⟨fun c_25 => ?_, fun c_25 => ?_⟩
          · replace K := K.1 c_25
            refine Z.bipush (n := -2) dX12_order_91 ⟨by decide, by decide⟩ (by decide) ?_
            exact Z.iret (ty := .int) dX12_order_93 rfl rfl K
          · replace K := K.2 c_25
            refine Z.aload_n (k := 2) dX12_order_76 rfl ?_
            refine Y.getR (o := some 53) 2 dX12_order_77 zl_X12_17 (rfl) (by decide) rfl (zM_1 hM).2.1 (zM_2 hM).1 ?_
            refine Z.aload_n (k := 2) dX12_order_80 rfl ?_
            refine Y.getR (o := some 58) 7 dX12_order_81 zl_X12_27 (rfl) (by decide) rfl (zM_1 hM).2.1 (zM_7 hM).1 ?_
            refine Z.iload (k := 0) dX12_order_84 rfl ?_
            obtain ⟨z_26, K⟩ := K
            refine Y.iald dX12_order_86 (rfl) ((zM_7 hM).2.2) z_26 ?_
            obtain ⟨z_27, K⟩ := K
            refine Y.iald dX12_order_87 (rfl) ((zM_2 hM).2.2) z_27 ?_
            refine Z.if_ne 94 dX12_order_88 rfl ⟨fun c_28 => ?_, fun c_28 => ?_⟩
            · replace K := K.1 c_28
              refine Z.aload_n (k := 2) dX12_order_94 rfl ?_
              refine Z.aload_n (k := 2) dX12_order_95 rfl ?_
              refine Y.getR (o := some 58) 7 dX12_order_96 zl_X12_27 (rfl) (by decide) rfl (zM_1 hM).2.1 (zM_7 hM).1 ?_
              refine Z.iload (k := 1) dX12_order_99 rfl ?_
              refine Z.iconst (n := 1) dX12_order_101 ⟨by decide, by decide⟩ ?_
              obtain ⟨z_29, K⟩ := K
              refine Z.iadd dX12_order_102 z_29 ?_
              refine Z.aload_n (k := 2) dX12_order_103 rfl ?_
              refine Y.getR (o := some 58) 7 dX12_order_104 zl_X12_27 (rfl) (by decide) rfl (zM_1 hM).2.1 (zM_7 hM).1 ?_
              refine Z.iload (k := 0) dX12_order_107 rfl ?_
              refine Z.iconst (n := 1) dX12_order_109 ⟨by decide, by decide⟩ ?_
              obtain ⟨z_30, K⟩ := K
              refine Z.iadd dX12_order_110 z_30 ?_
              obtain ⟨x_31, m_32, K⟩ := K
              refine Y.callV (g := zm_X12_areLike) (vs := [zR 58, zI (((30 * ((6 * v1) + v2)) + 1)), zR 58, zI (((30 * ((6 * v3) + v4)) + 1))]) (st := []) dX12_order_111 ⟨zg_X12_areLike.1, zg_X12_areLike.2.1, zg_X12_areLike.2.2, by decide⟩ ⟨zk_X12_164, zv_X12_areLike⟩ (ci := 12) (rfl) rfl ((zM_1 hM).2.1) rfl rfl (Nat.le_of_ble_eq_true rfl) m_32 (Or.inl rfl) ?_
              show Z zm_X12_order kz Q 114 [(6, zI ((30 * ((6 * v3) + v4)))), (5, zI ((30 * ((6 * v1) + v2)))), (0, zR 50), (1, zI v1), (2, zI v2), (3, zI v3), (4, zI v4)] [zI x_31] (d, G, E)
              refine Z.if_eq 119 dX12_order_114 rfl ⟨fun c_34 => ?_, fun c_34 => ?_⟩
              · replace K := K.1 c_34
                refine Z.aload_n (k := 2) dX12_order_119 rfl ?_
                refine Z.aload_n (k := 2) dX12_order_120 rfl ?_
                refine Y.getR (o := some 58) 7 dX12_order_121 zl_X12_27 (rfl) (by decide) rfl (zM_1 hM).2.1 (zM_7 hM).1 ?_
                refine Z.iload (k := 1) dX12_order_124 rfl ?_
                refine Z.iconst (n := 1) dX12_order_126 ⟨by decide, by decide⟩ ?_
                obtain ⟨z_35, K⟩ := K
                refine Z.iadd dX12_order_127 z_35 ?_
                refine Z.aload_n (k := 2) dX12_order_128 rfl ?_
                refine Y.getR (o := some 58) 7 dX12_order_129 zl_X12_27 (rfl) (by decide) rfl (zM_1 hM).2.1 (zM_7 hM).1 ?_
                refine Z.iload (k := 0) dX12_order_132 rfl ?_
                refine Z.iconst (n := 1) dX12_order_134 ⟨by decide, by decide⟩ ?_
                obtain ⟨z_36, K⟩ := K
                refine Z.iadd dX12_order_135 z_36 ?_
                obtain ⟨x_37, E_38, m_39, K⟩ := K
                refine Y.callV (g := zm_X12_isGreater) (vs := [zR 58, zI (((30 * ((6 * v1) + v2)) + 1)), zR 58, zI (((30 * ((6 * v3) + v4)) + 1))]) (st := []) dX12_order_136 ⟨zg_X12_isGreater.1, zg_X12_isGreater.2.1, zg_X12_isGreater.2.2, by decide⟩ ⟨zk_X12_170, zv_X12_isGreater⟩ (ci := 12) (rfl) rfl ((zM_1 hM).2.1) rfl rfl (Nat.le_of_ble_eq_true rfl) m_39 (Or.inl rfl) ?_
                show Z zm_X12_order kz Q 139 [(6, zI ((30 * ((6 * v3) + v4)))), (5, zI ((30 * ((6 * v1) + v2)))), (0, zR 50), (1, zI v1), (2, zI v2), (3, zI v3), (4, zI v4)] [zI x_37] (d, G, E_38)
                refine Z.if_eq 146 dX12_order_139 rfl ⟨fun c_41 => ?_, fun c_41 => ?_⟩
                · replace K := K.1 c_41
                  refine Z.aload_n (k := 2) dX12_order_146 rfl ?_
                  refine Z.aload_n (k := 2) dX12_order_147 rfl ?_
                  refine Y.getR (o := some 58) 7 dX12_order_148 zl_X12_27 (rfl) (by decide) rfl (zM_1 hM).2.1 (zM_7 hM).1 ?_
                  refine Z.iload (k := 0) dX12_order_151 rfl ?_
                  refine Z.iconst (n := 1) dX12_order_153 ⟨by decide, by decide⟩ ?_
                  obtain ⟨z_42, K⟩ := K
                  refine Z.iadd dX12_order_154 z_42 ?_
                  refine Z.aload_n (k := 2) dX12_order_155 rfl ?_
                  refine Y.getR (o := some 58) 7 dX12_order_156 zl_X12_27 (rfl) (by decide) rfl (zM_1 hM).2.1 (zM_7 hM).1 ?_
                  refine Z.iload (k := 1) dX12_order_159 rfl ?_
                  refine Z.iconst (n := 1) dX12_order_161 ⟨by decide, by decide⟩ ?_
                  obtain ⟨z_43, K⟩ := K
                  refine Z.iadd dX12_order_162 z_43 ?_
                  obtain ⟨x_44, E_45, m_46, K⟩ := K
                  refine Y.callV (g := zm_X12_isGreater) (vs := [zR 58, zI (((30 * ((6 * v3) + v4)) + 1)), zR 58, zI (((30 * ((6 * v1) + v2)) + 1))]) (st := []) dX12_order_163 ⟨zg_X12_isGreater.1, zg_X12_isGreater.2.1, zg_X12_isGreater.2.2, by decide⟩ ⟨zk_X12_170, zv_X12_isGreater⟩ (ci := 12) (rfl) rfl ((zM_1 hM).2.1) rfl rfl (Nat.le_of_ble_eq_true rfl) m_46 (Or.inl rfl) ?_
                  show Z zm_X12_order kz Q 166 [(6, zI ((30 * ((6 * v3) + v4)))), (5, zI ((30 * ((6 * v1) + v2)))), (0, zR 50), (1, zI v1), (2, zI v2), (3, zI v3), (4, zI v4)] [zI x_44] (d, G, E_45)
                  refine Z.if_eq 173 dX12_order_166 rfl ⟨fun c_48 => ?_, fun c_48 => ?_⟩
                  · replace K := K.1 c_48
                    refine Z.iconst (n := 0) dX12_order_173 ⟨by decide, by decide⟩ ?_
                    exact Z.iret (ty := .int) dX12_order_174 rfl rfl K
                  · replace K := K.2 c_48
                    refine Z.iconst (n := -1) dX12_order_169 ⟨by decide, by decide⟩ ?_
                    refine Z.goto 174 dX12_order_170 rfl ?_
                    exact Z.iret (ty := .int) dX12_order_174 rfl rfl K
                · replace K := K.2 c_41
                  refine Z.iconst (n := 1) dX12_order_142 ⟨by decide, by decide⟩ ?_
                  refine Z.goto 174 dX12_order_143 rfl ?_
                  exact Z.iret (ty := .int) dX12_order_174 rfl rfl K
              · replace K := K.2 c_34
                refine Z.iconst (n := 2) dX12_order_117 ⟨by decide, by decide⟩ ?_
                exact Z.iret (ty := .int) dX12_order_118 rfl rfl K
            · replace K := K.2 c_28
              refine Z.bipush (n := -2) dX12_order_91 ⟨by decide, by decide⟩ (by decide) ?_
              exact Z.iret (ty := .int) dX12_order_93 rfl rfl K
        · replace K := K.2 c_16
          refine Z.bipush (n := -2) dX12_order_35 ⟨by decide, by decide⟩ (by decide) ?_
          exact Z.iret (ty := .int) dX12_order_37 rfl rfl K
set_option maxRecDepth 20000 in
theorem X12_takesIn_0 {kz : Nat × Nat} {Q : Option zV → zH → Prop} {d : List Nat} {G : Nat → Int → Option Nat} {E : Nat → Int → Int} {v1 : Int} {v2 : Int} (hM : zK zMt d G) (K : ∃ x_1, zM zm_X12_isClaim [zR 50, zI v1] (d, G, E) (some (zI x_1)) (d, G, E) ∧ (x_1 = 0 → Q (some (zI ((-2)))) (d, G, E)) ∧ (¬ (x_1 = 0) → ∃ x_5, zM zm_X12_isClaim [zR 50, zI v2] (d, G, E) (some (zI x_5)) (d, G, E) ∧ (x_5 = 0 → Q (some (zI ((-2)))) (d, G, E)) ∧ (¬ (x_5 = 0) → ∃ x_9 E_10, zM zm_X12_claimTakes [zR 50, zI v1, zI v2] (d, G, E) (some (zI x_9)) (d, G, E_10) ∧ (x_9 = 0 → Q (some (zI 0)) (d, G, E_10)) ∧ (¬ (x_9 = 0) → Q (some (zI 1)) (d, G, E_10))))) : Z zm_X12_takesIn kz Q 0 [(0, zR 50), (1, zI v1), (2, zI v2)] [] (d, G, E) := by
  refine Z.aload_n (k := 0) dX12_takesIn_0 rfl ?_
  refine Z.iload_n (k := 1) dX12_takesIn_1 rfl ?_
  obtain ⟨x_1, m_2, K⟩ := K
  refine Y.callV (g := zm_X12_isClaim) (vs := [zI v1]) (st := []) dX12_takesIn_2 ⟨zg_X12_isClaim.1, zg_X12_isClaim.2.1, zg_X12_isClaim.2.2, by decide⟩ ⟨zk_X12_380, zv_X12_isClaim⟩ (ci := 12) (rfl) rfl ((zM_1 hM).2.1) rfl rfl (Nat.le_of_ble_eq_true rfl) m_2 (Or.inl rfl) ?_
  show Z zm_X12_takesIn kz Q 5 [(0, zR 50), (1, zI v1), (2, zI v2)] [zI x_1] (d, G, E)
  refine Z.if_eq 33 dX12_takesIn_5 rfl ⟨fun c_4 => ?_, fun c_4 => ?_⟩
  · replace K := K.1 c_4
    refine Z.bipush (n := -2) dX12_takesIn_33 ⟨by decide, by decide⟩ (by decide) ?_
    exact Z.iret (ty := .int) dX12_takesIn_35 rfl rfl K
  · replace K := K.2 c_4
    refine Z.aload_n (k := 0) dX12_takesIn_8 rfl ?_
    refine Z.iload_n (k := 2) dX12_takesIn_9 rfl ?_
    obtain ⟨x_5, m_6, K⟩ := K
    refine Y.callV (g := zm_X12_isClaim) (vs := [zI v2]) (st := []) dX12_takesIn_10 ⟨zg_X12_isClaim.1, zg_X12_isClaim.2.1, zg_X12_isClaim.2.2, by decide⟩ ⟨zk_X12_380, zv_X12_isClaim⟩ (ci := 12) (rfl) rfl ((zM_1 hM).2.1) rfl rfl (Nat.le_of_ble_eq_true rfl) m_6 (Or.inl rfl) ?_
    show Z zm_X12_takesIn kz Q 13 [(0, zR 50), (1, zI v1), (2, zI v2)] [zI x_5] (d, G, E)
    refine Z.if_eq 33 dX12_takesIn_13 rfl ⟨fun c_8 => ?_, fun c_8 => ?_⟩
    · replace K := K.1 c_8
      refine Z.bipush (n := -2) dX12_takesIn_33 ⟨by decide, by decide⟩ (by decide) ?_
      exact Z.iret (ty := .int) dX12_takesIn_35 rfl rfl K
    · replace K := K.2 c_8
      refine Z.aload_n (k := 0) dX12_takesIn_16 rfl ?_
      refine Z.iload_n (k := 1) dX12_takesIn_17 rfl ?_
      refine Z.iload_n (k := 2) dX12_takesIn_18 rfl ?_
      obtain ⟨x_9, E_10, m_11, K⟩ := K
      refine Y.callV (g := zm_X12_claimTakes) (vs := [zI v1, zI v2]) (st := []) dX12_takesIn_19 ⟨zg_X12_claimTakes.1, zg_X12_claimTakes.2.1, zg_X12_claimTakes.2.2, by decide⟩ ⟨zk_X12_334, zv_X12_claimTakes⟩ (ci := 12) (rfl) rfl ((zM_1 hM).2.1) rfl rfl (Nat.le_of_ble_eq_true rfl) m_11 (Or.inl rfl) ?_
      show Z zm_X12_takesIn kz Q 22 [(0, zR 50), (1, zI v1), (2, zI v2)] [zI x_9] (d, G, E_10)
      refine Z.if_eq 29 dX12_takesIn_22 rfl ⟨fun c_13 => ?_, fun c_13 => ?_⟩
      · replace K := K.1 c_13
        refine Z.iconst (n := 0) dX12_takesIn_29 ⟨by decide, by decide⟩ ?_
        refine Z.goto 35 dX12_takesIn_30 rfl ?_
        exact Z.iret (ty := .int) dX12_takesIn_35 rfl rfl K
      · replace K := K.2 c_13
        refine Z.iconst (n := 1) dX12_takesIn_25 ⟨by decide, by decide⟩ ?_
        refine Z.goto 35 dX12_takesIn_26 rfl ?_
        exact Z.iret (ty := .int) dX12_takesIn_35 rfl rfl K
set_option maxRecDepth 20000 in
theorem X12_inStatus_0 {kz : Nat × Nat} {Q : Option zV → zH → Prop} {d : List Nat} {G : Nat → Int → Option Nat} {E : Nat → Int → Int} {v1 : Int} (hM : zK zMt d G) (K : Z zm_X12_inStatus kz Q 4 [(0, zR 50), (1, zI v1), (2, zI 0), (3, zI 0)] [] (d, G, E)) : Z zm_X12_inStatus kz Q 0 [(0, zR 50), (1, zI v1)] [] (d, G, E) := by
  refine Z.iconst (n := 0) dX12_inStatus_0 ⟨by decide, by decide⟩ ?_
  refine Z.istore_n (ls' := [(2, zI 0), (0, zR 50), (1, zI v1)]) dX12_inStatus_1 (by decide) rfl ?_
  refine Z.iconst (n := 0) dX12_inStatus_2 ⟨by decide, by decide⟩ ?_
  refine Z.istore_n (ls' := [(3, zI 0), (2, zI 0), (0, zR 50), (1, zI v1)]) dX12_inStatus_3 (by decide) rfl ?_
  refine Z.pick (ls' := [(0, zR 50), (1, zI v1), (2, zI 0), (3, zI 0)]) [2, 3, 1, 0] rfl ?_
  exact K
set_option maxRecDepth 20000 in
theorem X12_inStatus_4 {kz : Nat × Nat} {Q : Option zV → zH → Prop} {d : List Nat} {G : Nat → Int → Option Nat} {E : Nat → Int → Int} {v1 : Int} {v2 : Int} {v3 : Int} (hM : zK zMt d G) (K : ((E 50 6) ≤ v3 → Q (some (zI v2)) (d, G, E)) ∧ (¬ ((E 50 6) ≤ v3) → ((0 : Int) ≤ v3 ∧ v3 < (150 : Int)) ∧ ((E 62 v3) ≠ v1 → zin (v2 + 0) ∧ zin (v3 + 1) ∧ Z zm_X12_inStatus kz Q 4 [(0, zR 50), (1, zI v1), (2, zI ((v2 + 0))), (3, zI ((v3 + 1)))] [] (d, G, E)) ∧ (¬ ((E 62 v3) ≠ v1) → zin (v2 + 1) ∧ zin (v3 + 1) ∧ Z zm_X12_inStatus kz Q 4 [(0, zR 50), (1, zI v1), (2, zI ((v2 + 1))), (3, zI ((v3 + 1)))] [] (d, G, E)))) : Z zm_X12_inStatus kz Q 4 [(0, zR 50), (1, zI v1), (2, zI v2), (3, zI v3)] [] (d, G, E) := by
  refine Z.iload_n (k := 3) dX12_inStatus_4 rfl ?_
  refine Z.aload_n (k := 0) dX12_inStatus_5 rfl ?_
  refine Y.getI 6 dX12_inStatus_6 zl_X12_142 (rfl) (by decide) rfl (zM_1 hM).2.1 ?_
  refine Z.icmp_ge 36 dX12_inStatus_9 rfl ⟨fun c_1 => ?_, fun c_1 => ?_⟩
  · replace K := K.1 c_1
    refine Z.iload_n (k := 2) dX12_inStatus_36 rfl ?_
    exact Z.iret (ty := .int) dX12_inStatus_37 rfl rfl K
  · replace K := K.2 c_1
    refine Z.iload_n (k := 2) dX12_inStatus_12 rfl ?_
    refine Z.aload_n (k := 0) dX12_inStatus_13 rfl ?_
    refine Y.getR (o := some 62) 11 dX12_inStatus_14 zl_X12_39 (rfl) (by decide) rfl (zM_1 hM).2.1 (zM_11 hM).1 ?_
    refine Z.iload_n (k := 3) dX12_inStatus_17 rfl ?_
    obtain ⟨z_2, K⟩ := K
    refine Y.iald dX12_inStatus_18 (rfl) ((zM_11 hM).2.2) z_2 ?_
    refine Z.iload_n (k := 1) dX12_inStatus_19 rfl ?_
    refine Z.icmp_ne 27 dX12_inStatus_20 rfl ⟨fun c_3 => ?_, fun c_3 => ?_⟩
    · replace K := K.1 c_3
      refine Z.iconst (n := 0) dX12_inStatus_27 ⟨by decide, by decide⟩ ?_
      obtain ⟨z_4, K⟩ := K
      refine Z.iadd dX12_inStatus_28 z_4 ?_
      refine Z.istore_n (ls' := [(2, zI ((v2 + 0))), (0, zR 50), (1, zI v1), (3, zI v3)]) dX12_inStatus_29 (by decide) rfl ?_
      obtain ⟨z_5, K⟩ := K
      refine Z.iinc (k := 3) (ls' := [(3, zI ((v3 + 1))), (2, zI ((v2 + 0))), (0, zR 50), (1, zI v1)]) dX12_inStatus_30 rfl (by decide) z_5 rfl ?_
      refine Z.goto 4 dX12_inStatus_33 rfl ?_
      refine Z.pick (ls' := [(0, zR 50), (1, zI v1), (2, zI ((v2 + 0))), (3, zI ((v3 + 1)))]) [2, 3, 1, 0] rfl ?_
      exact K
    · replace K := K.2 c_3
      refine Z.iconst (n := 1) dX12_inStatus_23 ⟨by decide, by decide⟩ ?_
      refine Z.goto 28 dX12_inStatus_24 rfl ?_
      obtain ⟨z_6, K⟩ := K
      refine Z.iadd dX12_inStatus_28 z_6 ?_
      refine Z.istore_n (ls' := [(2, zI ((v2 + 1))), (0, zR 50), (1, zI v1), (3, zI v3)]) dX12_inStatus_29 (by decide) rfl ?_
      obtain ⟨z_7, K⟩ := K
      refine Z.iinc (k := 3) (ls' := [(3, zI ((v3 + 1))), (2, zI ((v2 + 1))), (0, zR 50), (1, zI v1)]) dX12_inStatus_30 rfl (by decide) z_7 rfl ?_
      refine Z.goto 4 dX12_inStatus_33 rfl ?_
      refine Z.pick (ls' := [(0, zR 50), (1, zI v1), (2, zI ((v2 + 1))), (3, zI ((v3 + 1)))]) [2, 3, 1, 0] rfl ?_
      exact K
set_option maxRecDepth 20000 in
theorem X12_count_0 {kz : Nat × Nat} {Q : Option zV → zH → Prop} {d : List Nat} {G : Nat → Int → Option Nat} {E : Nat → Int → Int} {v1 : Int} (hM : zK zMt d G) (K : (v1 = 0 → Q (some (zI ((E 50 0)))) (d, G, E)) ∧ (v1 = 1 → Q (some (zI ((E 50 6)))) (d, G, E)) ∧ (v1 = 2 → ∃ x_4, zM zm_X12_inStatus [zR 50, zI 0] (d, G, E) (some (zI x_4)) (d, G, E) ∧ Q (some (zI x_4)) (d, G, E)) ∧ (v1 = 3 → ∃ x_8, zM zm_X12_inStatus [zR 50, zI 1] (d, G, E) (some (zI x_8)) (d, G, E) ∧ Q (some (zI x_8)) (d, G, E)) ∧ (v1 = 4 → ∃ x_12, zM zm_X12_inStatus [zR 50, zI 2] (d, G, E) (some (zI x_12)) (d, G, E) ∧ Q (some (zI x_12)) (d, G, E)) ∧ (v1 = 5 → Q (some (zI ((E 50 44)))) (d, G, E)) ∧ (v1 = 6 → Q (some (zI ((E 50 43)))) (d, G, E)) ∧ (v1 = 7 → Q (some (zI ((E 50 45)))) (d, G, E)) ∧ (v1 = 8 → Q (some (zI ((E 50 42)))) (d, G, E)) ∧ (v1 = 9 → Q (some (zI ((E 50 55)))) (d, G, E)) ∧ (v1 = 10 → Q (some (zI ((E 50 54)))) (d, G, E)) ∧ (v1 = 11 → Q (some (zI ((E 50 4)))) (d, G, E)) ∧ ((v1 < 0 ∨ 11 < v1) → Q (some (zI ((-2)))) (d, G, E))) : Z zm_X12_count kz Q 0 [(0, zR 50), (1, zI v1)] [] (d, G, E) := by
  refine Z.iload_n (k := 1) dX12_count_0 rfl ?_
  by_cases c_1 : v1 = 0
  · replace K := K.1 c_1
    refine Z.tableIn (off := 63) 64 dX12_count_1 (by omega) (by omega) (by rw [c_1]; rfl) rfl ?_
    refine Z.aload_n (k := 0) dX12_count_64 rfl ?_
    refine Y.getI 0 dX12_count_65 zl_X12_7 (rfl) (by decide) rfl (zM_1 hM).2.1 ?_
    exact Z.iret (ty := .int) dX12_count_68 rfl rfl K
  replace K := K.2
  by_cases c_2 : v1 = 1
  · replace K := K.1 c_2
    refine Z.tableIn (off := 68) 69 dX12_count_1 (by omega) (by omega) (by rw [c_2]; rfl) rfl ?_
    refine Z.aload_n (k := 0) dX12_count_69 rfl ?_
    refine Y.getI 6 dX12_count_70 zl_X12_142 (rfl) (by decide) rfl (zM_1 hM).2.1 ?_
    exact Z.iret (ty := .int) dX12_count_73 rfl rfl K
  replace K := K.2
  by_cases c_3 : v1 = 2
  · replace K := K.1 c_3
    refine Z.tableIn (off := 73) 74 dX12_count_1 (by omega) (by omega) (by rw [c_3]; rfl) rfl ?_
    refine Z.aload_n (k := 0) dX12_count_74 rfl ?_
    refine Z.iconst (n := 0) dX12_count_75 ⟨by decide, by decide⟩ ?_
    obtain ⟨x_4, m_5, K⟩ := K
    refine Y.callV (g := zm_X12_inStatus) (vs := [zI 0]) (st := []) dX12_count_76 ⟨zg_X12_inStatus.1, zg_X12_inStatus.2.1, zg_X12_inStatus.2.2, by decide⟩ ⟨zk_X12_409, zv_X12_inStatus⟩ (ci := 12) (rfl) rfl ((zM_1 hM).2.1) rfl rfl (Nat.le_of_ble_eq_true rfl) m_5 (Or.inl rfl) ?_
    show Z zm_X12_count kz Q 79 [(0, zR 50), (1, zI v1)] [zI x_4] (d, G, E)
    exact Z.iret (ty := .int) dX12_count_79 rfl rfl K
  replace K := K.2
  by_cases c_7 : v1 = 3
  · replace K := K.1 c_7
    refine Z.tableIn (off := 79) 80 dX12_count_1 (by omega) (by omega) (by rw [c_7]; rfl) rfl ?_
    refine Z.aload_n (k := 0) dX12_count_80 rfl ?_
    refine Z.iconst (n := 1) dX12_count_81 ⟨by decide, by decide⟩ ?_
    obtain ⟨x_8, m_9, K⟩ := K
    refine Y.callV (g := zm_X12_inStatus) (vs := [zI 1]) (st := []) dX12_count_82 ⟨zg_X12_inStatus.1, zg_X12_inStatus.2.1, zg_X12_inStatus.2.2, by decide⟩ ⟨zk_X12_409, zv_X12_inStatus⟩ (ci := 12) (rfl) rfl ((zM_1 hM).2.1) rfl rfl (Nat.le_of_ble_eq_true rfl) m_9 (Or.inl rfl) ?_
    show Z zm_X12_count kz Q 85 [(0, zR 50), (1, zI v1)] [zI x_8] (d, G, E)
    exact Z.iret (ty := .int) dX12_count_85 rfl rfl K
  replace K := K.2
  by_cases c_11 : v1 = 4
  · replace K := K.1 c_11
    refine Z.tableIn (off := 85) 86 dX12_count_1 (by omega) (by omega) (by rw [c_11]; rfl) rfl ?_
    refine Z.aload_n (k := 0) dX12_count_86 rfl ?_
    refine Z.iconst (n := 2) dX12_count_87 ⟨by decide, by decide⟩ ?_
    obtain ⟨x_12, m_13, K⟩ := K
    refine Y.callV (g := zm_X12_inStatus) (vs := [zI 2]) (st := []) dX12_count_88 ⟨zg_X12_inStatus.1, zg_X12_inStatus.2.1, zg_X12_inStatus.2.2, by decide⟩ ⟨zk_X12_409, zv_X12_inStatus⟩ (ci := 12) (rfl) rfl ((zM_1 hM).2.1) rfl rfl (Nat.le_of_ble_eq_true rfl) m_13 (Or.inl rfl) ?_
    show Z zm_X12_count kz Q 91 [(0, zR 50), (1, zI v1)] [zI x_12] (d, G, E)
    exact Z.iret (ty := .int) dX12_count_91 rfl rfl K
  replace K := K.2
  by_cases c_15 : v1 = 5
  · replace K := K.1 c_15
    refine Z.tableIn (off := 91) 92 dX12_count_1 (by omega) (by omega) (by rw [c_15]; rfl) rfl ?_
    refine Z.aload_n (k := 0) dX12_count_92 rfl ?_
    refine Y.getI 44 dX12_count_93 zl_X12_328 (rfl) (by decide) rfl (zM_1 hM).2.1 ?_
    exact Z.iret (ty := .int) dX12_count_96 rfl rfl K
  replace K := K.2
  by_cases c_16 : v1 = 6
  · replace K := K.1 c_16
    refine Z.tableIn (off := 96) 97 dX12_count_1 (by omega) (by omega) (by rw [c_16]; rfl) rfl ?_
    refine Z.aload_n (k := 0) dX12_count_97 rfl ?_
    refine Y.getI 43 dX12_count_98 zl_X12_319 (rfl) (by decide) rfl (zM_1 hM).2.1 ?_
    exact Z.iret (ty := .int) dX12_count_101 rfl rfl K
  replace K := K.2
  by_cases c_17 : v1 = 7
  · replace K := K.1 c_17
    refine Z.tableIn (off := 101) 102 dX12_count_1 (by omega) (by omega) (by rw [c_17]; rfl) rfl ?_
    refine Z.aload_n (k := 0) dX12_count_102 rfl ?_
    refine Y.getI 45 dX12_count_103 zl_X12_353 (rfl) (by decide) rfl (zM_1 hM).2.1 ?_
    exact Z.iret (ty := .int) dX12_count_106 rfl rfl K
  replace K := K.2
  by_cases c_18 : v1 = 8
  · replace K := K.1 c_18
    refine Z.tableIn (off := 106) 107 dX12_count_1 (by omega) (by omega) (by rw [c_18]; rfl) rfl ?_
    refine Z.aload_n (k := 0) dX12_count_107 rfl ?_
    refine Y.getI 42 dX12_count_108 zl_X12_246 (rfl) (by decide) rfl (zM_1 hM).2.1 ?_
    exact Z.iret (ty := .int) dX12_count_111 rfl rfl K
  replace K := K.2
  by_cases c_19 : v1 = 9
  · replace K := K.1 c_19
    refine Z.tableIn (off := 111) 112 dX12_count_1 (by omega) (by omega) (by rw [c_19]; rfl) rfl ?_
    refine Z.aload_n (k := 0) dX12_count_112 rfl ?_
    refine Y.getI 55 dX12_count_113 zl_X12_368 (rfl) (by decide) rfl (zM_1 hM).2.1 ?_
    exact Z.iret (ty := .int) dX12_count_116 rfl rfl K
  replace K := K.2
  by_cases c_20 : v1 = 10
  · replace K := K.1 c_20
    refine Z.tableIn (off := 116) 117 dX12_count_1 (by omega) (by omega) (by rw [c_20]; rfl) rfl ?_
    refine Z.aload_n (k := 0) dX12_count_117 rfl ?_
    refine Y.getI 54 dX12_count_118 zl_X12_337 (rfl) (by decide) rfl (zM_1 hM).2.1 ?_
    exact Z.iret (ty := .int) dX12_count_121 rfl rfl K
  replace K := K.2
  by_cases c_21 : v1 = 11
  · replace K := K.1 c_21
    refine Z.tableIn (off := 121) 122 dX12_count_1 (by omega) (by omega) (by rw [c_21]; rfl) rfl ?_
    refine Z.aload_n (k := 0) dX12_count_122 rfl ?_
    refine Y.getI 4 dX12_count_123 zl_X12_145 (rfl) (by decide) rfl (zM_1 hM).2.1 ?_
    exact Z.iret (ty := .int) dX12_count_126 rfl rfl K
  replace K := K.2
  have hd0 : v1 < 0 ∨ 11 < v1 := by omega
  replace K := K hd0
  refine Z.tableOut 127 dX12_count_1 hd0 rfl ?_
  refine Z.bipush (n := -2) dX12_count_127 ⟨by decide, by decide⟩ (by decide) ?_
  exact Z.iret (ty := .int) dX12_count_129 rfl rfl K
set_option maxRecDepth 20000 in
theorem X12_digest_0 {kz : Nat × Nat} {Q : Option zV → zH → Prop} {d : List Nat} {G : Nat → Int → Option Nat} {E : Nat → Int → Int}  (hM : zK zMt d G) (K : Z zm_X12_digest kz Q 6 [(0, zR 50), (1, zL 17), (3, zI 0)] [] (d, G, E)) : Z zm_X12_digest kz Q 0 [(0, zR 50)] [] (d, G, E) := by
  refine Z.ldc2 (x := 17) dX12_digest_0 zq_X12_412 ?_
  refine Z.lstore_n (ls' := [(1, zL 17), (0, zR 50)]) dX12_digest_3 (by decide) rfl ?_
  refine Z.iconst (n := 0) dX12_digest_4 ⟨by decide, by decide⟩ ?_
  refine Z.istore_n (ls' := [(3, zI 0), (1, zL 17), (0, zR 50)]) dX12_digest_5 (by decide) rfl ?_
  refine Z.pick (ls' := [(0, zR 50), (1, zL 17), (3, zI 0)]) [2, 1, 0] rfl ?_
  exact K
set_option maxRecDepth 20000 in
theorem X12_digest_6 {kz : Nat × Nat} {Q : Option zV → zH → Prop} {d : List Nat} {G : Nat → Int → Option Nat} {E : Nat → Int → Int} {v1 : Int64} {v3 : Int} (hM : zK zMt d G) (K : (12 ≤ v3 → Z zm_X12_digest kz Q 33 [(0, zR 50), (1, zL v1), (3, zI 0)] [] (d, G, E)) ∧ (¬ (12 ≤ v3) → ∃ x_2, zM zm_X12_count [zR 50, zI v3] (d, G, E) (some (zI x_2)) (d, G, E) ∧ zin (v3 + 1) ∧ Z zm_X12_digest kz Q 6 [(0, zR 50), (1, zL (((31 * v1) + (Int64.ofInt x_2)))), (3, zI ((v3 + 1)))] [] (d, G, E))) : Z zm_X12_digest kz Q 6 [(0, zR 50), (1, zL v1), (3, zI v3)] [] (d, G, E) := by
  refine Z.iload_n (k := 2) dX12_digest_6 rfl ?_
  refine Z.bipush (n := 12) dX12_digest_7 ⟨by decide, by decide⟩ (by decide) ?_
  refine Z.icmp_ge 31 dX12_digest_9 rfl ⟨fun c_1 => ?_, fun c_1 => ?_⟩
  · replace K := K.1 c_1
    refine Z.iconst (n := 0) dX12_digest_31 ⟨by decide, by decide⟩ ?_
    refine Z.istore_n (ls' := [(3, zI 0), (0, zR 50), (1, zL v1)]) dX12_digest_32 (by decide) rfl ?_
    refine Z.pick (ls' := [(0, zR 50), (1, zL v1), (3, zI 0)]) [1, 2, 0] rfl ?_
    exact K
  · replace K := K.2 c_1
    refine Z.ldc2 (x := 31) dX12_digest_12 zq_X12_414 ?_
    refine Z.lload_n (k := 1) dX12_digest_15 rfl ?_
    refine Z.lmul dX12_digest_16 ?_
    refine Z.aload_n (k := 0) dX12_digest_17 rfl ?_
    refine Z.iload_n (k := 2) dX12_digest_18 rfl ?_
    obtain ⟨x_2, m_3, K⟩ := K
    refine Y.callV (g := zm_X12_count) (vs := [zI v3]) (st := [zL ((31 * v1))]) dX12_digest_19 ⟨zg_X12_count.1, zg_X12_count.2.1, zg_X12_count.2.2, by decide⟩ ⟨zk_X12_416, zv_X12_count⟩ (ci := 12) (rfl) rfl ((zM_1 hM).2.1) rfl rfl (Nat.le_of_ble_eq_true rfl) m_3 (Or.inl rfl) ?_
    show Z zm_X12_digest kz Q 22 [(0, zR 50), (1, zL v1), (3, zI v3)] [zI x_2, zL ((31 * v1))] (d, G, E)
    refine Z.i2l dX12_digest_22 ?_
    refine Z.ladd dX12_digest_23 ?_
    refine Z.lstore_n (ls' := [(1, zL (((31 * v1) + (Int64.ofInt x_2)))), (0, zR 50), (3, zI v3)]) dX12_digest_24 (by decide) rfl ?_
    obtain ⟨z_5, K⟩ := K
    refine Z.iinc (k := 2) (ls' := [(3, zI ((v3 + 1))), (1, zL (((31 * v1) + (Int64.ofInt x_2)))), (0, zR 50)]) dX12_digest_25 rfl (by decide) z_5 rfl ?_
    refine Z.goto 6 dX12_digest_28 rfl ?_
    refine Z.pick (ls' := [(0, zR 50), (1, zL (((31 * v1) + (Int64.ofInt x_2)))), (3, zI ((v3 + 1)))]) [2, 1, 0] rfl ?_
    exact K
set_option maxRecDepth 20000 in
theorem X12_digest_33 {kz : Nat × Nat} {Q : Option zV → zH → Prop} {d : List Nat} {G : Nat → Int → Option Nat} {E : Nat → Int → Int} {v1 : Int64} {v3 : Int} (hM : zK zMt d G) (K : ((E 50 6) ≤ v3 → Q (some (zL v1)) (d, G, E)) ∧ (¬ ((E 50 6) ≤ v3) → Z zm_X12_digest kz Q 44 [(0, zR 50), (1, zL v1), (3, zI v3), (4, zI 0)] [] (d, G, E))) : Z zm_X12_digest kz Q 33 [(0, zR 50), (1, zL v1), (3, zI v3)] [] (d, G, E) := by
  refine Z.iload_n (k := 2) dX12_digest_33 rfl ?_
  refine Z.aload_n (k := 0) dX12_digest_34 rfl ?_
  refine Y.getI 6 dX12_digest_35 zl_X12_142 (rfl) (by decide) rfl (zM_1 hM).2.1 ?_
  refine Z.icmp_ge 215 dX12_digest_38 rfl ⟨fun c_1 => ?_, fun c_1 => ?_⟩
  · replace K := K.1 c_1
    refine Z.lload_n (k := 1) dX12_digest_215 rfl ?_
    exact Z.lret dX12_digest_216 rfl K
  · replace K := K.2 c_1
    refine Z.iconst (n := 0) dX12_digest_41 ⟨by decide, by decide⟩ ?_
    refine Z.istore (ls' := [(4, zI 0), (0, zR 50), (1, zL v1), (3, zI v3)]) dX12_digest_42 (by decide) rfl ?_
    refine Z.pick (ls' := [(0, zR 50), (1, zL v1), (3, zI v3), (4, zI 0)]) [1, 2, 3, 0] rfl ?_
    exact K
set_option maxRecDepth 20000 in
theorem X12_digest_44 {kz : Nat × Nat} {Q : Option zV → zH → Prop} {d : List Nat} {G : Nat → Int → Option Nat} {E : Nat → Int → Int} {v1 : Int64} {v3 : Int} {v4 : Int} (hM : zK zMt d G) (K : (6 ≤ v4 → Z zm_X12_digest kz Q 75 [(0, zR 50), (1, zL v1), (3, zI v3), (4, zI 0)] [] (d, G, E)) ∧ (¬ (6 ≤ v4) → ∃ x_2, zM zm_X12_claim [zR 50, zI v3, zI v4] (d, G, E) (some (zI x_2)) (d, G, E) ∧ zin (v4 + 1) ∧ Z zm_X12_digest kz Q 44 [(0, zR 50), (1, zL (((31 * v1) + (Int64.ofInt x_2)))), (3, zI v3), (4, zI ((v4 + 1)))] [] (d, G, E))) : Z zm_X12_digest kz Q 44 [(0, zR 50), (1, zL v1), (3, zI v3), (4, zI v4)] [] (d, G, E) := by
  refine Z.iload (k := 3) dX12_digest_44 rfl ?_
  refine Z.bipush (n := 6) dX12_digest_46 ⟨by decide, by decide⟩ (by decide) ?_
  refine Z.icmp_ge 72 dX12_digest_48 rfl ⟨fun c_1 => ?_, fun c_1 => ?_⟩
  · replace K := K.1 c_1
    refine Z.iconst (n := 0) dX12_digest_72 ⟨by decide, by decide⟩ ?_
    refine Z.istore (ls' := [(4, zI 0), (0, zR 50), (1, zL v1), (3, zI v3)]) dX12_digest_73 (by decide) rfl ?_
    refine Z.pick (ls' := [(0, zR 50), (1, zL v1), (3, zI v3), (4, zI 0)]) [1, 2, 3, 0] rfl ?_
    exact K
  · replace K := K.2 c_1
    refine Z.ldc2 (x := 31) dX12_digest_51 zq_X12_414 ?_
    refine Z.lload_n (k := 1) dX12_digest_54 rfl ?_
    refine Z.lmul dX12_digest_55 ?_
    refine Z.aload_n (k := 0) dX12_digest_56 rfl ?_
    refine Z.iload_n (k := 2) dX12_digest_57 rfl ?_
    refine Z.iload (k := 3) dX12_digest_58 rfl ?_
    obtain ⟨x_2, m_3, K⟩ := K
    refine Y.callV (g := zm_X12_claim) (vs := [zI v3, zI v4]) (st := [zL ((31 * v1))]) dX12_digest_60 ⟨zg_X12_claim.1, zg_X12_claim.2.1, zg_X12_claim.2.2, by decide⟩ ⟨zk_X12_419, zv_X12_claim⟩ (ci := 12) (rfl) rfl ((zM_1 hM).2.1) rfl rfl (Nat.le_of_ble_eq_true rfl) m_3 (Or.inl rfl) ?_
    show Z zm_X12_digest kz Q 63 [(0, zR 50), (1, zL v1), (3, zI v3), (4, zI v4)] [zI x_2, zL ((31 * v1))] (d, G, E)
    refine Z.i2l dX12_digest_63 ?_
    refine Z.ladd dX12_digest_64 ?_
    refine Z.lstore_n (ls' := [(1, zL (((31 * v1) + (Int64.ofInt x_2)))), (0, zR 50), (3, zI v3), (4, zI v4)]) dX12_digest_65 (by decide) rfl ?_
    obtain ⟨z_5, K⟩ := K
    refine Z.iinc (k := 3) (ls' := [(4, zI ((v4 + 1))), (1, zL (((31 * v1) + (Int64.ofInt x_2)))), (0, zR 50), (3, zI v3)]) dX12_digest_66 rfl (by decide) z_5 rfl ?_
    refine Z.goto 44 dX12_digest_69 rfl ?_
    refine Z.pick (ls' := [(0, zR 50), (1, zL (((31 * v1) + (Int64.ofInt x_2)))), (3, zI v3), (4, zI ((v4 + 1)))]) [2, 1, 3, 0] rfl ?_
    exact K
set_option maxRecDepth 20000 in
theorem X12_digest_75 {kz : Nat × Nat} {Q : Option zV → zH → Prop} {d : List Nat} {G : Nat → Int → Option Nat} {E : Nat → Int → Int} {v1 : Int64} {v3 : Int} {v4 : Int} (hM : zK zMt d G) (K : ((0 : Int) ≤ v3 ∧ v3 < (150 : Int)) ∧ ((E 61 v3) ≤ v4 → Z zm_X12_digest kz Q 140 [(0, zR 50), (1, zL v1), (3, zI v3), (4, zI 0)] [] (d, G, E)) ∧ (¬ ((E 61 v3) ≤ v4) → Z zm_X12_digest kz Q 89 [(0, zR 50), (1, zL v1), (3, zI v3), (4, zI v4), (5, zI 0)] [] (d, G, E))) : Z zm_X12_digest kz Q 75 [(0, zR 50), (1, zL v1), (3, zI v3), (4, zI v4)] [] (d, G, E) := by
  refine Z.iload (k := 3) dX12_digest_75 rfl ?_
  refine Z.aload_n (k := 0) dX12_digest_77 rfl ?_
  refine Y.getR (o := some 61) 10 dX12_digest_78 zl_X12_36 (rfl) (by decide) rfl (zM_1 hM).2.1 (zM_10 hM).1 ?_
  refine Z.iload_n (k := 2) dX12_digest_81 rfl ?_
  obtain ⟨z_1, K⟩ := K
  refine Y.iald dX12_digest_82 (rfl) ((zM_10 hM).2.2) z_1 ?_
  refine Z.icmp_ge 137 dX12_digest_83 rfl ⟨fun c_2 => ?_, fun c_2 => ?_⟩
  · replace K := K.1 c_2
    refine Z.iconst (n := 0) dX12_digest_137 ⟨by decide, by decide⟩ ?_
    refine Z.istore (ls' := [(4, zI 0), (0, zR 50), (1, zL v1), (3, zI v3)]) dX12_digest_138 (by decide) rfl ?_
    refine Z.pick (ls' := [(0, zR 50), (1, zL v1), (3, zI v3), (4, zI 0)]) [1, 2, 3, 0] rfl ?_
    exact K
  · replace K := K.2 c_2
    refine Z.iconst (n := 0) dX12_digest_86 ⟨by decide, by decide⟩ ?_
    refine Z.istore (ls' := [(5, zI 0), (0, zR 50), (1, zL v1), (3, zI v3), (4, zI v4)]) dX12_digest_87 (by decide) rfl ?_
    refine Z.pick (ls' := [(0, zR 50), (1, zL v1), (3, zI v3), (4, zI v4), (5, zI 0)]) [1, 2, 3, 4, 0] rfl ?_
    exact K
set_option maxRecDepth 20000 in
theorem X12_digest_89 {kz : Nat × Nat} {Q : Option zV → zH → Prop} {d : List Nat} {G : Nat → Int → Option Nat} {E : Nat → Int → Int} {v1 : Int64} {v3 : Int} {v4 : Int} {v5 : Int} (hM : zK zMt d G) (K : zin (6 * v3) ∧ zin ((6 * v3) + v4) ∧ ((0 : Int) ≤ ((6 * v3) + v4) ∧ ((6 * v3) + v4) < (900 : Int)) ∧ zin (2 + (E 59 ((6 * v3) + v4))) ∧ ((2 + (E 59 ((6 * v3) + v4))) ≤ v5 → zin (v4 + 1) ∧ Z zm_X12_digest kz Q 75 [(0, zR 50), (1, zL v1), (3, zI v3), (4, zI ((v4 + 1)))] [] (d, G, E)) ∧ (¬ ((2 + (E 59 ((6 * v3) + v4))) ≤ v5) → ∃ x_7, zM zm_X12_literal [zR 50, zI v3, zI v4, zI v5] (d, G, E) (some (zI x_7)) (d, G, E) ∧ zin (v5 + 1) ∧ Z zm_X12_digest kz Q 89 [(0, zR 50), (1, zL (((31 * v1) + (Int64.ofInt x_7)))), (3, zI v3), (4, zI v4), (5, zI ((v5 + 1)))] [] (d, G, E))) : Z zm_X12_digest kz Q 89 [(0, zR 50), (1, zL v1), (3, zI v3), (4, zI v4), (5, zI v5)] [] (d, G, E) := by
  refine Z.iload (k := 4) dX12_digest_89 rfl ?_
  refine Z.iconst (n := 2) dX12_digest_91 ⟨by decide, by decide⟩ ?_
  refine Z.aload_n (k := 0) dX12_digest_92 rfl ?_
  refine Y.getR (o := some 59) 8 dX12_digest_93 zl_X12_30 (rfl) (by decide) rfl (zM_1 hM).2.1 (zM_8 hM).1 ?_
  refine Z.bipush (n := 6) dX12_digest_96 ⟨by decide, by decide⟩ (by decide) ?_
  refine Z.iload_n (k := 2) dX12_digest_98 rfl ?_
  obtain ⟨z_1, K⟩ := K
  refine Z.imul dX12_digest_99 z_1 ?_
  refine Z.iload (k := 3) dX12_digest_100 rfl ?_
  obtain ⟨z_2, K⟩ := K
  refine Z.iadd dX12_digest_102 z_2 ?_
  obtain ⟨z_3, K⟩ := K
  refine Y.iald dX12_digest_103 (rfl) ((zM_8 hM).2.2) z_3 ?_
  obtain ⟨z_4, K⟩ := K
  refine Z.iadd dX12_digest_104 z_4 ?_
  refine Z.icmp_ge 131 dX12_digest_105 rfl ⟨fun c_5 => ?_, fun c_5 => ?_⟩
  · replace K := K.1 c_5
    obtain ⟨z_6, K⟩ := K
    refine Z.iinc (k := 3) (ls' := [(4, zI ((v4 + 1))), (0, zR 50), (1, zL v1), (3, zI v3), (5, zI v5)]) dX12_digest_131 rfl (by decide) z_6 rfl ?_
    refine Z.goto 75 dX12_digest_134 rfl ?_
    refine Z.pick (ls' := [(0, zR 50), (1, zL v1), (3, zI v3), (4, zI ((v4 + 1)))]) [1, 2, 3, 0] rfl ?_
    exact K
  · replace K := K.2 c_5
    refine Z.ldc2 (x := 31) dX12_digest_108 zq_X12_414 ?_
    refine Z.lload_n (k := 1) dX12_digest_111 rfl ?_
    refine Z.lmul dX12_digest_112 ?_
    refine Z.aload_n (k := 0) dX12_digest_113 rfl ?_
    refine Z.iload_n (k := 2) dX12_digest_114 rfl ?_
    refine Z.iload (k := 3) dX12_digest_115 rfl ?_
    refine Z.iload (k := 4) dX12_digest_117 rfl ?_
    obtain ⟨x_7, m_8, K⟩ := K
    refine Y.callV (g := zm_X12_literal) (vs := [zI v3, zI v4, zI v5]) (st := [zL ((31 * v1))]) dX12_digest_119 ⟨zg_X12_literal.1, zg_X12_literal.2.1, zg_X12_literal.2.2, by decide⟩ ⟨zk_X12_422, zv_X12_literal⟩ (ci := 12) (rfl) rfl ((zM_1 hM).2.1) rfl rfl (Nat.le_of_ble_eq_true rfl) m_8 (Or.inl rfl) ?_
    show Z zm_X12_digest kz Q 122 [(0, zR 50), (1, zL v1), (3, zI v3), (4, zI v4), (5, zI v5)] [zI x_7, zL ((31 * v1))] (d, G, E)
    refine Z.i2l dX12_digest_122 ?_
    refine Z.ladd dX12_digest_123 ?_
    refine Z.lstore_n (ls' := [(1, zL (((31 * v1) + (Int64.ofInt x_7)))), (0, zR 50), (3, zI v3), (4, zI v4), (5, zI v5)]) dX12_digest_124 (by decide) rfl ?_
    obtain ⟨z_10, K⟩ := K
    refine Z.iinc (k := 4) (ls' := [(5, zI ((v5 + 1))), (1, zL (((31 * v1) + (Int64.ofInt x_7)))), (0, zR 50), (3, zI v3), (4, zI v4)]) dX12_digest_125 rfl (by decide) z_10 rfl ?_
    refine Z.goto 89 dX12_digest_128 rfl ?_
    refine Z.pick (ls' := [(0, zR 50), (1, zL (((31 * v1) + (Int64.ofInt x_7)))), (3, zI v3), (4, zI v4), (5, zI ((v5 + 1)))]) [2, 1, 3, 4, 0] rfl ?_
    exact K
set_option maxRecDepth 20000 in
theorem X12_digest_140 {kz : Nat × Nat} {Q : Option zV → zH → Prop} {d : List Nat} {G : Nat → Int → Option Nat} {E : Nat → Int → Int} {v1 : Int64} {v3 : Int} {v4 : Int} (hM : zK zMt d G) (K : (7 ≤ v4 → Z zm_X12_digest kz Q 172 [(0, zR 50), (1, zL v1), (3, zI v3), (4, zI 10)] [] (d, G, E)) ∧ (¬ (7 ≤ v4) → ∃ x_2, zM zm_X12_step [zR 50, zI v3, zI v4] (d, G, E) (some (zI x_2)) (d, G, E) ∧ zin (v4 + 1) ∧ Z zm_X12_digest kz Q 140 [(0, zR 50), (1, zL (((31 * v1) + (Int64.ofInt x_2)))), (3, zI v3), (4, zI ((v4 + 1)))] [] (d, G, E))) : Z zm_X12_digest kz Q 140 [(0, zR 50), (1, zL v1), (3, zI v3), (4, zI v4)] [] (d, G, E) := by
  refine Z.iload (k := 3) dX12_digest_140 rfl ?_
  refine Z.bipush (n := 7) dX12_digest_142 ⟨by decide, by decide⟩ (by decide) ?_
  refine Z.icmp_ge 168 dX12_digest_144 rfl ⟨fun c_1 => ?_, fun c_1 => ?_⟩
  · replace K := K.1 c_1
    refine Z.bipush (n := 10) dX12_digest_168 ⟨by decide, by decide⟩ (by decide) ?_
    refine Z.istore (ls' := [(4, zI 10), (0, zR 50), (1, zL v1), (3, zI v3)]) dX12_digest_170 (by decide) rfl ?_
    refine Z.pick (ls' := [(0, zR 50), (1, zL v1), (3, zI v3), (4, zI 10)]) [1, 2, 3, 0] rfl ?_
    exact K
  · replace K := K.2 c_1
    refine Z.ldc2 (x := 31) dX12_digest_147 zq_X12_414 ?_
    refine Z.lload_n (k := 1) dX12_digest_150 rfl ?_
    refine Z.lmul dX12_digest_151 ?_
    refine Z.aload_n (k := 0) dX12_digest_152 rfl ?_
    refine Z.iload_n (k := 2) dX12_digest_153 rfl ?_
    refine Z.iload (k := 3) dX12_digest_154 rfl ?_
    obtain ⟨x_2, m_3, K⟩ := K
    refine Y.callV (g := zm_X12_step) (vs := [zI v3, zI v4]) (st := [zL ((31 * v1))]) dX12_digest_156 ⟨zg_X12_step.1, zg_X12_step.2.1, zg_X12_step.2.2, by decide⟩ ⟨zk_X12_425, zv_X12_step⟩ (ci := 12) (rfl) rfl ((zM_1 hM).2.1) rfl rfl (Nat.le_of_ble_eq_true rfl) m_3 (Or.inl rfl) ?_
    show Z zm_X12_digest kz Q 159 [(0, zR 50), (1, zL v1), (3, zI v3), (4, zI v4)] [zI x_2, zL ((31 * v1))] (d, G, E)
    refine Z.i2l dX12_digest_159 ?_
    refine Z.ladd dX12_digest_160 ?_
    refine Z.lstore_n (ls' := [(1, zL (((31 * v1) + (Int64.ofInt x_2)))), (0, zR 50), (3, zI v3), (4, zI v4)]) dX12_digest_161 (by decide) rfl ?_
    obtain ⟨z_5, K⟩ := K
    refine Z.iinc (k := 3) (ls' := [(4, zI ((v4 + 1))), (1, zL (((31 * v1) + (Int64.ofInt x_2)))), (0, zR 50), (3, zI v3)]) dX12_digest_162 rfl (by decide) z_5 rfl ?_
    refine Z.goto 140 dX12_digest_165 rfl ?_
    refine Z.pick (ls' := [(0, zR 50), (1, zL (((31 * v1) + (Int64.ofInt x_2)))), (3, zI v3), (4, zI ((v4 + 1)))]) [2, 1, 3, 0] rfl ?_
    exact K
set_option maxRecDepth 20000 in
theorem X12_digest_172 {kz : Nat × Nat} {Q : Option zV → zH → Prop} {d : List Nat} {G : Nat → Int → Option Nat} {E : Nat → Int → Int} {v1 : Int64} {v3 : Int} {v4 : Int} (hM : zK zMt d G) (K : ((0 : Int) ≤ v3 ∧ v3 < (150 : Int)) ∧ zin (4 * (E 70 v3)) ∧ zin (11 + (4 * (E 70 v3))) ∧ ((11 + (4 * (E 70 v3))) ≤ v4 → zin (v3 + 1) ∧ Z zm_X12_digest kz Q 33 [(0, zR 50), (1, zL v1), (3, zI ((v3 + 1)))] [] (d, G, E)) ∧ (¬ ((11 + (4 * (E 70 v3))) ≤ v4) → ∃ x_6, zM zm_X12_step [zR 50, zI v3, zI v4] (d, G, E) (some (zI x_6)) (d, G, E) ∧ zin (v4 + 1) ∧ Z zm_X12_digest kz Q 172 [(0, zR 50), (1, zL (((31 * v1) + (Int64.ofInt x_6)))), (3, zI v3), (4, zI ((v4 + 1)))] [] (d, G, E))) : Z zm_X12_digest kz Q 172 [(0, zR 50), (1, zL v1), (3, zI v3), (4, zI v4)] [] (d, G, E) := by
  refine Z.iload (k := 3) dX12_digest_172 rfl ?_
  refine Z.bipush (n := 11) dX12_digest_174 ⟨by decide, by decide⟩ (by decide) ?_
  refine Z.iconst (n := 4) dX12_digest_176 ⟨by decide, by decide⟩ ?_
  refine Z.aload_n (k := 0) dX12_digest_177 rfl ?_
  refine Y.getR (o := some 70) 19 dX12_digest_178 zl_X12_63 (rfl) (by decide) rfl (zM_1 hM).2.1 (zM_19 hM).1 ?_
  refine Z.iload_n (k := 2) dX12_digest_181 rfl ?_
  obtain ⟨z_1, K⟩ := K
  refine Y.iald dX12_digest_182 (rfl) ((zM_19 hM).2.2) z_1 ?_
  obtain ⟨z_2, K⟩ := K
  refine Z.imul dX12_digest_183 z_2 ?_
  obtain ⟨z_3, K⟩ := K
  refine Z.iadd dX12_digest_184 z_3 ?_
  refine Z.icmp_ge 209 dX12_digest_185 rfl ⟨fun c_4 => ?_, fun c_4 => ?_⟩
  · replace K := K.1 c_4
    obtain ⟨z_5, K⟩ := K
    refine Z.iinc (k := 2) (ls' := [(3, zI ((v3 + 1))), (0, zR 50), (1, zL v1), (4, zI v4)]) dX12_digest_209 rfl (by decide) z_5 rfl ?_
    refine Z.goto 33 dX12_digest_212 rfl ?_
    refine Z.pick (ls' := [(0, zR 50), (1, zL v1), (3, zI ((v3 + 1)))]) [1, 2, 0] rfl ?_
    exact K
  · replace K := K.2 c_4
    refine Z.ldc2 (x := 31) dX12_digest_188 zq_X12_414 ?_
    refine Z.lload_n (k := 1) dX12_digest_191 rfl ?_
    refine Z.lmul dX12_digest_192 ?_
    refine Z.aload_n (k := 0) dX12_digest_193 rfl ?_
    refine Z.iload_n (k := 2) dX12_digest_194 rfl ?_
    refine Z.iload (k := 3) dX12_digest_195 rfl ?_
    obtain ⟨x_6, m_7, K⟩ := K
    refine Y.callV (g := zm_X12_step) (vs := [zI v3, zI v4]) (st := [zL ((31 * v1))]) dX12_digest_197 ⟨zg_X12_step.1, zg_X12_step.2.1, zg_X12_step.2.2, by decide⟩ ⟨zk_X12_425, zv_X12_step⟩ (ci := 12) (rfl) rfl ((zM_1 hM).2.1) rfl rfl (Nat.le_of_ble_eq_true rfl) m_7 (Or.inl rfl) ?_
    show Z zm_X12_digest kz Q 200 [(0, zR 50), (1, zL v1), (3, zI v3), (4, zI v4)] [zI x_6, zL ((31 * v1))] (d, G, E)
    refine Z.i2l dX12_digest_200 ?_
    refine Z.ladd dX12_digest_201 ?_
    refine Z.lstore_n (ls' := [(1, zL (((31 * v1) + (Int64.ofInt x_6)))), (0, zR 50), (3, zI v3), (4, zI v4)]) dX12_digest_202 (by decide) rfl ?_
    obtain ⟨z_9, K⟩ := K
    refine Z.iinc (k := 3) (ls' := [(4, zI ((v4 + 1))), (1, zL (((31 * v1) + (Int64.ofInt x_6)))), (0, zR 50), (3, zI v3)]) dX12_digest_203 rfl (by decide) z_9 rfl ?_
    refine Z.goto 172 dX12_digest_206 rfl ?_
    refine Z.pick (ls' := [(0, zR 50), (1, zL (((31 * v1) + (Int64.ofInt x_6)))), (3, zI v3), (4, zI ((v4 + 1)))]) [2, 1, 3, 0] rfl ?_
    exact K
