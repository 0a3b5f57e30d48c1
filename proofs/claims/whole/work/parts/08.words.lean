theorem xw_91 : Jvm.Cond.initialized "WakingLayers" ∈ x_ws := x_in 91 (by decide +kernel) rfl
theorem xw_92 : Jvm.Cond.initialized "WakingLayers$Sheets" ∈ x_ws := x_in 92 (by decide +kernel) rfl
theorem xw_93 : Jvm.Cond.initialized "WakingLayers$Tape" ∈ x_ws := x_in 93 (by decide +kernel) rfl
theorem xw_94 : Jvm.Cond.initialized "WakingLayers$Program" ∈ x_ws := x_in 94 (by decide +kernel) rfl
theorem xw_95 : Jvm.Cond.initialized "WakingLayers$Layer" ∈ x_ws := x_in 95 (by decide +kernel) rfl
theorem xw_96 : Jvm.Cond.initialized "WakingLayers$Body" ∈ x_ws := x_in 96 (by decide +kernel) rfl
theorem xw_97 : Jvm.Cond.initialized "WakingLayers$Reader" ∈ x_ws := x_in 97 (by decide +kernel) rfl
theorem xw_98 : Jvm.Cond.initialized "WakingLayers$Circumstances" ∈ x_ws := x_in 98 (by decide +kernel) rfl
theorem xw_99 : Jvm.Cond.initialized "WakingLayers$Rows" ∈ x_ws := x_in 99 (by decide +kernel) rfl
theorem xw_100 : Jvm.Cond.initialized "WakingLayers$Runner" ∈ x_ws := x_in 100 (by decide +kernel) rfl
theorem xw_101 : Jvm.Cond.initialized "WakingLayers$SmallWorld" ∈ x_ws := x_in 101 (by decide +kernel) rfl
theorem xw_102 : Jvm.Cond.initialized "WakingLayers$Asker" ∈ x_ws := x_in 102 (by decide +kernel) rfl
theorem xw_103 : Jvm.Cond.initialized "WakingLayersModel" ∈ x_ws := x_in 103 (by decide +kernel) rfl
theorem xw_104 : Jvm.Cond.initialized "java/lang/System" ∈ x_ws := x_in 104 (by decide +kernel) rfl
theorem xw_105 : Jvm.Cond.initialized "java/lang/String" ∈ x_ws := x_in 105 (by decide +kernel) rfl
theorem xw_106 : Jvm.Cond.initialized "java/lang/StringLatin1" ∈ x_ws := x_in 106 (by decide +kernel) rfl
theorem xw_107 : Jvm.Cond.initialized "jdk/internal/util/Preconditions" ∈ x_ws := x_in 107 (by decide +kernel) rfl
theorem xw_109 : Jvm.Cond.initialized "java/lang/Integer" ∈ x_ws := x_in 109 (by decide +kernel) rfl
theorem xw_126 : Jvm.Cond.fieldLink "WakingLayers$Sheets" (9 : Nat) "WakingLayers$Sheets" "laid" "[Z" ∈ x_ws := x_in 126 (by decide +kernel) rfl
theorem xw_127 : Jvm.Cond.fieldLink "WakingLayers$Sheets" (13 : Nat) "WakingLayers$Sheets" "lanes" "[I" ∈ x_ws := x_in 127 (by decide +kernel) rfl
theorem xw_128 : Jvm.Cond.fieldLink "WakingLayers$Sheets" (17 : Nat) "WakingLayers$Sheets" "lengths" "[I" ∈ x_ws := x_in 128 (by decide +kernel) rfl
theorem xw_129 : Jvm.Cond.fieldLink "WakingLayers$Sheets" (22 : Nat) "WakingLayers$Sheets" "items" "[[I" ∈ x_ws := x_in 129 (by decide +kernel) rfl
theorem xw_147 : Jvm.Cond.fieldLink "WakingLayers$Tape" (9 : Nat) "WakingLayers$Tape" "bytes" "[I" ∈ x_ws := x_in 147 (by decide +kernel) rfl
theorem xw_148 : Jvm.Cond.fieldLink "WakingLayers$Tape" (13 : Nat) "WakingLayers$Tape" "length" "I" ∈ x_ws := x_in 148 (by decide +kernel) rfl
theorem xw_149 : Jvm.Cond.fieldLink "WakingLayers$Tape" (26 : Nat) "WakingLayers$Tape" "sort" "I" ∈ x_ws := x_in 149 (by decide +kernel) rfl
theorem xw_150 : Jvm.Cond.fieldLink "WakingLayers$Tape" (23 : Nat) "WakingLayers$Tape" "start" "I" ∈ x_ws := x_in 150 (by decide +kernel) rfl
theorem xw_151 : Jvm.Cond.fieldLink "WakingLayers$Tape" (17 : Nat) "WakingLayers$Tape" "end" "I" ∈ x_ws := x_in 151 (by decide +kernel) rfl
theorem xw_152 : Jvm.Cond.fieldLink "WakingLayers$Tape" (40 : Nat) "WakingLayers$Tape" "value" "I" ∈ x_ws := x_in 152 (by decide +kernel) rfl
theorem xw_181 : Jvm.Cond.fieldLink "WakingLayers$Layer" (7 : Nat) "WakingLayers$Layer" "sort" "I" ∈ x_ws := x_in 181 (by decide +kernel) rfl
theorem xw_182 : Jvm.Cond.fieldLink "WakingLayers$Rows" (72 : Nat) "WakingLayers$Layer" "sort" "I" ∈ x_ws := x_in 182 (by decide +kernel) rfl
theorem xw_183 : Jvm.Cond.fieldLink "WakingLayers$Asker" (23 : Nat) "WakingLayers$Layer" "sort" "I" ∈ x_ws := x_in 183 (by decide +kernel) rfl
theorem xw_184 : Jvm.Cond.fieldLink "WakingLayers" (154 : Nat) "WakingLayers$Layer" "sort" "I" ∈ x_ws := x_in 184 (by decide +kernel) rfl
theorem xw_185 : Jvm.Cond.fieldLink "WakingLayers$Runner" (124 : Nat) "WakingLayers$Layer" "sort" "I" ∈ x_ws := x_in 185 (by decide +kernel) rfl
theorem xw_186 : Jvm.Cond.fieldLink "WakingLayers$Circumstances" (53 : Nat) "WakingLayers$Layer" "sort" "I" ∈ x_ws := x_in 186 (by decide +kernel) rfl
theorem xw_187 : Jvm.Cond.fieldLink "WakingLayers$Layer" (13 : Nat) "WakingLayers$Layer" "rank" "I" ∈ x_ws := x_in 187 (by decide +kernel) rfl
theorem xw_188 : Jvm.Cond.fieldLink "WakingLayers$Rows" (69 : Nat) "WakingLayers$Layer" "rank" "I" ∈ x_ws := x_in 188 (by decide +kernel) rfl
theorem xw_189 : Jvm.Cond.fieldLink "WakingLayers" (159 : Nat) "WakingLayers$Layer" "rank" "I" ∈ x_ws := x_in 189 (by decide +kernel) rfl
theorem xw_190 : Jvm.Cond.fieldLink "WakingLayers$Asker" (78 : Nat) "WakingLayers$Layer" "rank" "I" ∈ x_ws := x_in 190 (by decide +kernel) rfl
theorem xw_191 : Jvm.Cond.fieldLink "WakingLayers$Layer" (16 : Nat) "WakingLayers$Layer" "needs" "I" ∈ x_ws := x_in 191 (by decide +kernel) rfl
theorem xw_192 : Jvm.Cond.fieldLink "WakingLayers$Asker" (29 : Nat) "WakingLayers$Layer" "needs" "I" ∈ x_ws := x_in 192 (by decide +kernel) rfl
theorem xw_193 : Jvm.Cond.fieldLink "WakingLayers$Reader" (147 : Nat) "WakingLayers$Layer" "needs" "I" ∈ x_ws := x_in 193 (by decide +kernel) rfl
theorem xw_194 : Jvm.Cond.fieldLink "WakingLayers" (162 : Nat) "WakingLayers$Layer" "needs" "I" ∈ x_ws := x_in 194 (by decide +kernel) rfl
theorem xw_195 : Jvm.Cond.fieldLink "WakingLayers$Circumstances" (66 : Nat) "WakingLayers$Layer" "needs" "I" ∈ x_ws := x_in 195 (by decide +kernel) rfl
theorem xw_196 : Jvm.Cond.fieldLink "WakingLayers$Layer" (19 : Nat) "WakingLayers$Layer" "bars" "I" ∈ x_ws := x_in 196 (by decide +kernel) rfl
theorem xw_197 : Jvm.Cond.fieldLink "WakingLayers" (165 : Nat) "WakingLayers$Layer" "bars" "I" ∈ x_ws := x_in 197 (by decide +kernel) rfl
theorem xw_198 : Jvm.Cond.fieldLink "WakingLayers$Reader" (152 : Nat) "WakingLayers$Layer" "bars" "I" ∈ x_ws := x_in 198 (by decide +kernel) rfl
theorem xw_199 : Jvm.Cond.fieldLink "WakingLayers$Circumstances" (69 : Nat) "WakingLayers$Layer" "bars" "I" ∈ x_ws := x_in 199 (by decide +kernel) rfl
theorem xw_200 : Jvm.Cond.fieldLink "WakingLayers$Layer" (22 : Nat) "WakingLayers$Layer" "tested" "Z" ∈ x_ws := x_in 200 (by decide +kernel) rfl
theorem xw_201 : Jvm.Cond.fieldLink "WakingLayers$Layer" (26 : Nat) "WakingLayers$Layer" "testFact" "I" ∈ x_ws := x_in 201 (by decide +kernel) rfl
theorem xw_202 : Jvm.Cond.fieldLink "WakingLayers$Layer" (29 : Nat) "WakingLayers$Layer" "testSign" "C" ∈ x_ws := x_in 202 (by decide +kernel) rfl
theorem xw_203 : Jvm.Cond.fieldLink "WakingLayers$Layer" (33 : Nat) "WakingLayers$Layer" "testBound" "I" ∈ x_ws := x_in 203 (by decide +kernel) rfl
theorem xw_226 : Jvm.Cond.fieldLink "WakingLayers$Body" (9 : Nat) "WakingLayers$Body" "acts" "[I" ∈ x_ws := x_in 226 (by decide +kernel) rfl
theorem xw_227 : Jvm.Cond.fieldLink "WakingLayers$Runner" (102 : Nat) "WakingLayers$Body" "acts" "[I" ∈ x_ws := x_in 227 (by decide +kernel) rfl
theorem xw_228 : Jvm.Cond.fieldLink "WakingLayers$Body" (13 : Nat) "WakingLayers$Body" "firstNumbers" "[I" ∈ x_ws := x_in 228 (by decide +kernel) rfl
theorem xw_229 : Jvm.Cond.fieldLink "WakingLayers$Runner" (99 : Nat) "WakingLayers$Body" "firstNumbers" "[I" ∈ x_ws := x_in 229 (by decide +kernel) rfl
theorem xw_230 : Jvm.Cond.fieldLink "WakingLayers$Body" (16 : Nat) "WakingLayers$Body" "secondNumbers" "[I" ∈ x_ws := x_in 230 (by decide +kernel) rfl
theorem xw_231 : Jvm.Cond.fieldLink "WakingLayers$Runner" (109 : Nat) "WakingLayers$Body" "secondNumbers" "[I" ∈ x_ws := x_in 231 (by decide +kernel) rfl
theorem xw_232 : Jvm.Cond.fieldLink "WakingLayers$Body" (32 : Nat) "WakingLayers$Body" "actCount" "I" ∈ x_ws := x_in 232 (by decide +kernel) rfl
theorem xw_233 : Jvm.Cond.fieldLink "WakingLayers$Runner" (92 : Nat) "WakingLayers$Body" "actCount" "I" ∈ x_ws := x_in 233 (by decide +kernel) rfl
theorem xw_234 : Jvm.Cond.fieldLink "WakingLayers$Reader" (182 : Nat) "WakingLayers$Body" "actCount" "I" ∈ x_ws := x_in 234 (by decide +kernel) rfl
theorem xw_235 : Jvm.Cond.fieldLink "WakingLayers$Body" (19 : Nat) "WakingLayers$Body" "layer" "I" ∈ x_ws := x_in 235 (by decide +kernel) rfl
theorem xw_236 : Jvm.Cond.fieldLink "WakingLayers$Rows" (97 : Nat) "WakingLayers$Body" "layer" "I" ∈ x_ws := x_in 236 (by decide +kernel) rfl
theorem xw_237 : Jvm.Cond.fieldLink "WakingLayers$Program" (58 : Nat) "WakingLayers$Body" "layer" "I" ∈ x_ws := x_in 237 (by decide +kernel) rfl
theorem xw_238 : Jvm.Cond.fieldLink "WakingLayers$Body" (29 : Nat) "WakingLayers$Body" "way" "I" ∈ x_ws := x_in 238 (by decide +kernel) rfl
theorem xw_239 : Jvm.Cond.fieldLink "WakingLayers$Runner" (78 : Nat) "WakingLayers$Body" "way" "I" ∈ x_ws := x_in 239 (by decide +kernel) rfl
theorem xw_240 : Jvm.Cond.fieldLink "WakingLayers$Rows" (100 : Nat) "WakingLayers$Body" "way" "I" ∈ x_ws := x_in 240 (by decide +kernel) rfl
theorem xw_241 : Jvm.Cond.fieldLink "WakingLayers$Reader" (179 : Nat) "WakingLayers$Body" "way" "I" ∈ x_ws := x_in 241 (by decide +kernel) rfl
theorem xw_242 : Jvm.Cond.fieldLink "WakingLayers$Body" (23 : Nat) "WakingLayers$Body" "kind" "I" ∈ x_ws := x_in 242 (by decide +kernel) rfl
theorem xw_243 : Jvm.Cond.fieldLink "WakingLayers$Body" (26 : Nat) "WakingLayers$Body" "routine" "I" ∈ x_ws := x_in 243 (by decide +kernel) rfl
theorem xw_261 : Jvm.Cond.fieldLink "WakingLayers$Program" (9 : Nat) "WakingLayers$Program" "kindUnder" "[I" ∈ x_ws := x_in 261 (by decide +kernel) rfl
theorem xw_262 : Jvm.Cond.fieldLink "WakingLayers$Rows" (90 : Nat) "WakingLayers$Program" "kindUnder" "[I" ∈ x_ws := x_in 262 (by decide +kernel) rfl
theorem xw_263 : Jvm.Cond.fieldLink "WakingLayers$Program" (13 : Nat) "WakingLayers$Program" "thingKind" "[I" ∈ x_ws := x_in 263 (by decide +kernel) rfl
theorem xw_264 : Jvm.Cond.fieldLink "WakingLayers$Rows" (26 : Nat) "WakingLayers$Program" "thingKind" "[I" ∈ x_ws := x_in 264 (by decide +kernel) rfl
theorem xw_265 : Jvm.Cond.fieldLink "WakingLayers$Program" (16 : Nat) "WakingLayers$Program" "thingValue" "[I" ∈ x_ws := x_in 265 (by decide +kernel) rfl
theorem xw_266 : Jvm.Cond.fieldLink "WakingLayers$Runner" (106 : Nat) "WakingLayers$Program" "thingValue" "[I" ∈ x_ws := x_in 266 (by decide +kernel) rfl
theorem xw_268 : Jvm.Cond.fieldLink "WakingLayers$Rows" (54 : Nat) "WakingLayers$Program" "layers" "[LWakingLayers$Layer;" ∈ x_ws := x_in 268 (by decide +kernel) rfl
theorem xw_269 : Jvm.Cond.fieldLink "WakingLayers$Reader" (111 : Nat) "WakingLayers$Program" "layers" "[LWakingLayers$Layer;" ∈ x_ws := x_in 269 (by decide +kernel) rfl
theorem xw_270 : Jvm.Cond.fieldLink "WakingLayers$Asker" (39 : Nat) "WakingLayers$Program" "layers" "[LWakingLayers$Layer;" ∈ x_ws := x_in 270 (by decide +kernel) rfl
theorem xw_271 : Jvm.Cond.fieldLink "WakingLayers" (150 : Nat) "WakingLayers$Program" "layers" "[LWakingLayers$Layer;" ∈ x_ws := x_in 271 (by decide +kernel) rfl
theorem xw_272 : Jvm.Cond.fieldLink "WakingLayers$Runner" (120 : Nat) "WakingLayers$Program" "layers" "[LWakingLayers$Layer;" ∈ x_ws := x_in 272 (by decide +kernel) rfl
theorem xw_273 : Jvm.Cond.fieldLink "WakingLayers$Circumstances" (49 : Nat) "WakingLayers$Program" "layers" "[LWakingLayers$Layer;" ∈ x_ws := x_in 273 (by decide +kernel) rfl
theorem xw_274 : Jvm.Cond.fieldLink "WakingLayers$Program" (27 : Nat) "WakingLayers$Program" "bodies" "[LWakingLayers$Body;" ∈ x_ws := x_in 274 (by decide +kernel) rfl
theorem xw_275 : Jvm.Cond.fieldLink "WakingLayers$Rows" (82 : Nat) "WakingLayers$Program" "bodies" "[LWakingLayers$Body;" ∈ x_ws := x_in 275 (by decide +kernel) rfl
theorem xw_276 : Jvm.Cond.fieldLink "WakingLayers$Runner" (74 : Nat) "WakingLayers$Program" "bodies" "[LWakingLayers$Body;" ∈ x_ws := x_in 276 (by decide +kernel) rfl
theorem xw_277 : Jvm.Cond.fieldLink "WakingLayers$Reader" (158 : Nat) "WakingLayers$Program" "bodies" "[LWakingLayers$Body;" ∈ x_ws := x_in 277 (by decide +kernel) rfl
theorem xw_278 : Jvm.Cond.fieldLink "WakingLayers$Program" (40 : Nat) "WakingLayers$Program" "kindCount" "I" ∈ x_ws := x_in 278 (by decide +kernel) rfl
theorem xw_279 : Jvm.Cond.fieldLink "WakingLayers$Reader" (75 : Nat) "WakingLayers$Program" "kindCount" "I" ∈ x_ws := x_in 279 (by decide +kernel) rfl
theorem xw_280 : Jvm.Cond.fieldLink "WakingLayers" (265 : Nat) "WakingLayers$Program" "kindCount" "I" ∈ x_ws := x_in 280 (by decide +kernel) rfl
theorem xw_281 : Jvm.Cond.fieldLink "WakingLayers$Program" (33 : Nat) "WakingLayers$Program" "thingCount" "I" ∈ x_ws := x_in 281 (by decide +kernel) rfl
theorem xw_282 : Jvm.Cond.fieldLink "WakingLayers$Reader" (102 : Nat) "WakingLayers$Program" "thingCount" "I" ∈ x_ws := x_in 282 (by decide +kernel) rfl
theorem xw_283 : Jvm.Cond.fieldLink "WakingLayers" (268 : Nat) "WakingLayers$Program" "thingCount" "I" ∈ x_ws := x_in 283 (by decide +kernel) rfl
theorem xw_284 : Jvm.Cond.fieldLink "WakingLayers$Rows" (37 : Nat) "WakingLayers$Program" "layerCount" "I" ∈ x_ws := x_in 284 (by decide +kernel) rfl
theorem xw_285 : Jvm.Cond.fieldLink "WakingLayers$Program" (37 : Nat) "WakingLayers$Program" "layerCount" "I" ∈ x_ws := x_in 285 (by decide +kernel) rfl
theorem xw_286 : Jvm.Cond.fieldLink "WakingLayers$Reader" (108 : Nat) "WakingLayers$Program" "layerCount" "I" ∈ x_ws := x_in 286 (by decide +kernel) rfl
theorem xw_287 : Jvm.Cond.fieldLink "WakingLayers$Circumstances" (44 : Nat) "WakingLayers$Program" "layerCount" "I" ∈ x_ws := x_in 287 (by decide +kernel) rfl
theorem xw_288 : Jvm.Cond.fieldLink "WakingLayers" (271 : Nat) "WakingLayers$Program" "layerCount" "I" ∈ x_ws := x_in 288 (by decide +kernel) rfl
theorem xw_289 : Jvm.Cond.fieldLink "WakingLayers$Rows" (79 : Nat) "WakingLayers$Program" "bodyCount" "I" ∈ x_ws := x_in 289 (by decide +kernel) rfl
theorem xw_290 : Jvm.Cond.fieldLink "WakingLayers$Program" (52 : Nat) "WakingLayers$Program" "bodyCount" "I" ∈ x_ws := x_in 290 (by decide +kernel) rfl
theorem xw_291 : Jvm.Cond.fieldLink "WakingLayers" (139 : Nat) "WakingLayers$Program" "bodyCount" "I" ∈ x_ws := x_in 291 (by decide +kernel) rfl
theorem xw_292 : Jvm.Cond.fieldLink "WakingLayers$Reader" (155 : Nat) "WakingLayers$Program" "bodyCount" "I" ∈ x_ws := x_in 292 (by decide +kernel) rfl
theorem xw_293 : Jvm.Cond.fieldLink "WakingLayers$Program" (43 : Nat) "WakingLayers$Program" "keptKinds" "I" ∈ x_ws := x_in 293 (by decide +kernel) rfl
theorem xw_294 : Jvm.Cond.fieldLink "WakingLayers$Program" (46 : Nat) "WakingLayers$Program" "keptThings" "I" ∈ x_ws := x_in 294 (by decide +kernel) rfl
theorem xw_295 : Jvm.Cond.fieldLink "WakingLayers$Program" (49 : Nat) "WakingLayers$Program" "keptLayers" "I" ∈ x_ws := x_in 295 (by decide +kernel) rfl
theorem xw_296 : Jvm.Cond.fieldLink "WakingLayers$Program" (55 : Nat) "WakingLayers$Program" "keptBodies" "I" ∈ x_ws := x_in 296 (by decide +kernel) rfl
theorem xw_330 : Jvm.Cond.fieldLink "WakingLayers$Reader" (9 : Nat) "WakingLayers$Reader" "tape" "LWakingLayers$Tape;" ∈ x_ws := x_in 330 (by decide +kernel) rfl
theorem xw_331 : Jvm.Cond.fieldLink "WakingLayers$Reader" (15 : Nat) "WakingLayers$Reader" "program" "LWakingLayers$Program;" ∈ x_ws := x_in 331 (by decide +kernel) rfl
theorem xw_332 : Jvm.Cond.fieldLink "WakingLayers$Reader" (23 : Nat) "WakingLayers$Reader" "faulty" "Z" ∈ x_ws := x_in 332 (by decide +kernel) rfl
theorem xw_333 : Jvm.Cond.fieldLink "WakingLayers$Reader" (50 : Nat) "WakingLayers$Reader" "faultPlace" "I" ∈ x_ws := x_in 333 (by decide +kernel) rfl
theorem xw_334 : Jvm.Cond.fieldLink "WakingLayers$Reader" (19 : Nat) "WakingLayers$Reader" "faultNumber" "I" ∈ x_ws := x_in 334 (by decide +kernel) rfl
theorem xw_352 : Jvm.Cond.fieldLink "WakingLayers$Circumstances" (21 : Nat) "WakingLayers$Circumstances" "program" "LWakingLayers$Program;" ∈ x_ws := x_in 352 (by decide +kernel) rfl
theorem xw_353 : Jvm.Cond.fieldLink "WakingLayers$Circumstances" (11 : Nat) "WakingLayers$Circumstances" "told" "[I" ∈ x_ws := x_in 353 (by decide +kernel) rfl
theorem xw_354 : Jvm.Cond.fieldLink "WakingLayers$Circumstances" (15 : Nat) "WakingLayers$Circumstances" "wokenLayers" "[I" ∈ x_ws := x_in 354 (by decide +kernel) rfl
theorem xw_355 : Jvm.Cond.fieldLink "WakingLayers$Circumstances" (18 : Nat) "WakingLayers$Circumstances" "wokenThings" "[I" ∈ x_ws := x_in 355 (by decide +kernel) rfl
theorem xw_356 : Jvm.Cond.fieldLink "WakingLayers$Circumstances" (25 : Nat) "WakingLayers$Circumstances" "open" "I" ∈ x_ws := x_in 356 (by decide +kernel) rfl
theorem xw_357 : Jvm.Cond.fieldLink "WakingLayers$Circumstances" (29 : Nat) "WakingLayers$Circumstances" "found" "I" ∈ x_ws := x_in 357 (by decide +kernel) rfl
theorem xw_377 : Jvm.Cond.fieldLink "WakingLayers$Rows" (18 : Nat) "WakingLayers$Rows" "program" "LWakingLayers$Program;" ∈ x_ws := x_in 377 (by decide +kernel) rfl
theorem xw_378 : Jvm.Cond.fieldLink "WakingLayers$Rows" (22 : Nat) "WakingLayers$Rows" "circumstances" "LWakingLayers$Circumstances;" ∈ x_ws := x_in 378 (by decide +kernel) rfl
theorem xw_379 : Jvm.Cond.fieldLink "WakingLayers$Rows" (9 : Nat) "WakingLayers$Rows" "weights" "[I" ∈ x_ws := x_in 379 (by decide +kernel) rfl
theorem xw_380 : Jvm.Cond.fieldLink "WakingLayers$Rows" (15 : Nat) "WakingLayers$Rows" "fitting" "[I" ∈ x_ws := x_in 380 (by decide +kernel) rfl
theorem xw_381 : Jvm.Cond.fieldLink "WakingLayers$Rows" (33 : Nat) "WakingLayers$Rows" "fittingCount" "I" ∈ x_ws := x_in 381 (by decide +kernel) rfl
theorem xw_400 : Jvm.Cond.fieldLink "WakingLayers$Runner" (28 : Nat) "WakingLayers$Runner" "program" "LWakingLayers$Program;" ∈ x_ws := x_in 400 (by decide +kernel) rfl
theorem xw_401 : Jvm.Cond.fieldLink "WakingLayers$Runner" (32 : Nat) "WakingLayers$Runner" "circumstances" "LWakingLayers$Circumstances;" ∈ x_ws := x_in 401 (by decide +kernel) rfl
theorem xw_402 : Jvm.Cond.fieldLink "WakingLayers$Runner" (36 : Nat) "WakingLayers$Runner" "rows" "LWakingLayers$Rows;" ∈ x_ws := x_in 402 (by decide +kernel) rfl
theorem xw_403 : Jvm.Cond.fieldLink "WakingLayers$Runner" (15 : Nat) "WakingLayers$Runner" "rowAt" "[[I" ∈ x_ws := x_in 403 (by decide +kernel) rfl
theorem xw_404 : Jvm.Cond.fieldLink "WakingLayers$Runner" (18 : Nat) "WakingLayers$Runner" "rowLengthAt" "[I" ∈ x_ws := x_in 404 (by decide +kernel) rfl
theorem xw_405 : Jvm.Cond.fieldLink "WakingLayers$Runner" (22 : Nat) "WakingLayers$Runner" "thingAt" "[I" ∈ x_ws := x_in 405 (by decide +kernel) rfl
theorem xw_406 : Jvm.Cond.fieldLink "WakingLayers$Runner" (25 : Nat) "WakingLayers$Runner" "begun" "[I" ∈ x_ws := x_in 406 (by decide +kernel) rfl
theorem xw_407 : Jvm.Cond.fieldLink "WakingLayers$Runner" (40 : Nat) "WakingLayers$Runner" "begunCount" "I" ∈ x_ws := x_in 407 (by decide +kernel) rfl
theorem xw_408 : Jvm.Cond.fieldLink "WakingLayers$Runner" (45 : Nat) "WakingLayers$Runner" "spent" "Z" ∈ x_ws := x_in 408 (by decide +kernel) rfl
theorem xw_435 : Jvm.Cond.fieldLink "WakingLayers$SmallWorld" (25 : Nat) "WakingLayers$SmallWorld" "circumstances" "LWakingLayers$Circumstances;" ∈ x_ws := x_in 435 (by decide +kernel) rfl
theorem xw_436 : Jvm.Cond.fieldLink "WakingLayers$SmallWorld" (29 : Nat) "WakingLayers$SmallWorld" "runner" "LWakingLayers$Runner;" ∈ x_ws := x_in 436 (by decide +kernel) rfl
theorem xw_437 : Jvm.Cond.fieldLink "WakingLayers$SmallWorld" (11 : Nat) "WakingLayers$SmallWorld" "facts" "[I" ∈ x_ws := x_in 437 (by decide +kernel) rfl
theorem xw_438 : Jvm.Cond.fieldLink "WakingLayers$SmallWorld" (17 : Nat) "WakingLayers$SmallWorld" "gathered" "[Z" ∈ x_ws := x_in 438 (by decide +kernel) rfl
theorem xw_456 : Jvm.Cond.fieldLink "WakingLayers$Asker" (15 : Nat) "WakingLayers$Asker" "program" "LWakingLayers$Program;" ∈ x_ws := x_in 456 (by decide +kernel) rfl
theorem xw_457 : Jvm.Cond.fieldLink "WakingLayers$Asker" (19 : Nat) "WakingLayers$Asker" "circumstances" "LWakingLayers$Circumstances;" ∈ x_ws := x_in 457 (by decide +kernel) rfl
theorem xw_458 : Jvm.Cond.fieldLink "WakingLayers$Asker" (11 : Nat) "WakingLayers$Asker" "traced" "[I" ∈ x_ws := x_in 458 (by decide +kernel) rfl
theorem xw_459 : Jvm.Cond.fieldLink "WakingLayers$Asker" (35 : Nat) "WakingLayers$Asker" "tracedCount" "I" ∈ x_ws := x_in 459 (by decide +kernel) rfl
theorem xw_469 : Jvm.Cond.fieldLink "WakingLayers" (10 : Nat) "WakingLayers" "sheets" "LWakingLayers$Sheets;" ∈ x_ws := x_in 469 (by decide +kernel) rfl
theorem xw_470 : Jvm.Cond.fieldLink "WakingLayers" (19 : Nat) "WakingLayers" "tape" "LWakingLayers$Tape;" ∈ x_ws := x_in 470 (by decide +kernel) rfl
theorem xw_471 : Jvm.Cond.fieldLink "WakingLayers" (26 : Nat) "WakingLayers" "program" "LWakingLayers$Program;" ∈ x_ws := x_in 471 (by decide +kernel) rfl
theorem xw_472 : Jvm.Cond.fieldLink "WakingLayers" (35 : Nat) "WakingLayers" "reader" "LWakingLayers$Reader;" ∈ x_ws := x_in 472 (by decide +kernel) rfl
theorem xw_473 : Jvm.Cond.fieldLink "WakingLayers" (44 : Nat) "WakingLayers" "circumstances" "LWakingLayers$Circumstances;" ∈ x_ws := x_in 473 (by decide +kernel) rfl
theorem xw_474 : Jvm.Cond.fieldLink "WakingLayers" (53 : Nat) "WakingLayers" "rows" "LWakingLayers$Rows;" ∈ x_ws := x_in 474 (by decide +kernel) rfl
theorem xw_475 : Jvm.Cond.fieldLink "WakingLayers" (57 : Nat) "WakingLayers" "shownRow" "[I" ∈ x_ws := x_in 475 (by decide +kernel) rfl
theorem xw_476 : Jvm.Cond.fieldLink "WakingLayers" (66 : Nat) "WakingLayers" "runner" "LWakingLayers$Runner;" ∈ x_ws := x_in 476 (by decide +kernel) rfl
theorem xw_477 : Jvm.Cond.fieldLink "WakingLayers" (75 : Nat) "WakingLayers" "smallWorld" "LWakingLayers$SmallWorld;" ∈ x_ws := x_in 477 (by decide +kernel) rfl
theorem xw_478 : Jvm.Cond.fieldLink "WakingLayers" (82 : Nat) "WakingLayers" "asker" "LWakingLayers$Asker;" ∈ x_ws := x_in 478 (by decide +kernel) rfl
theorem xw_479 : Jvm.Cond.fieldLink "WakingLayers" (285 : Nat) "WakingLayers" "latestFinding" "I" ∈ x_ws := x_in 479 (by decide +kernel) rfl
theorem xw_506 : Jvm.Cond.code ({ cls := "WakingLayers", name := "sheet", desc := "(III)I" } : Jvm.MethodName) prog_1_method_2_code (4 : Nat) (Option.some Jvm.ClassFile.FieldType.int) ∈ x_ws := x_in 506 (by decide +kernel) rfl
theorem xw_507 : Jvm.Cond.methodLink "WakingLayers" (86 : Nat) ({ cls := "WakingLayers$Sheets", name := "isSheet", desc := "(I)Z" } : Jvm.MethodName) ∈ x_ws := x_in 507 (by decide +kernel) rfl
theorem xw_508 : Jvm.Cond.static ({ cls := "WakingLayers$Sheets", name := "isSheet", desc := "(I)Z" } : Jvm.MethodName) ∈ x_ws := x_in 508 (by decide +kernel) rfl
theorem xw_509 : Jvm.Cond.code ({ cls := "WakingLayers$Sheets", name := "isSheet", desc := "(I)Z" } : Jvm.MethodName) prog_10_method_2_code (1 : Nat) (Option.some Jvm.ClassFile.FieldType.boolean) ∈ x_ws := x_in 509 (by decide +kernel) rfl
theorem xw_510 : Jvm.Cond.methodLink "WakingLayers" (90 : Nat) ({ cls := "WakingLayers$Sheets", name := "isLane", desc := "(I)Z" } : Jvm.MethodName) ∈ x_ws := x_in 510 (by decide +kernel) rfl
theorem xw_511 : Jvm.Cond.static ({ cls := "WakingLayers$Sheets", name := "isLane", desc := "(I)Z" } : Jvm.MethodName) ∈ x_ws := x_in 511 (by decide +kernel) rfl
theorem xw_512 : Jvm.Cond.code ({ cls := "WakingLayers$Sheets", name := "isLane", desc := "(I)Z" } : Jvm.MethodName) prog_10_method_3_code (1 : Nat) (Option.some Jvm.ClassFile.FieldType.boolean) ∈ x_ws := x_in 512 (by decide +kernel) rfl
theorem xw_513 : Jvm.Cond.constant "WakingLayers" (93 : Nat) (-1000001 : Int32) ∈ x_ws := x_in 513 (by decide +kernel) rfl
theorem xw_514 : Jvm.Cond.methodLink "WakingLayers" (94 : Nat) ({ cls := "WakingLayers", name := "finding", desc := "(I)I" } : Jvm.MethodName) ∈ x_ws := x_in 514 (by decide +kernel) rfl
theorem xw_516 : Jvm.Cond.instanceMethod ({ cls := "WakingLayers", name := "finding", desc := "(I)I" } : Jvm.MethodName) ∈ x_ws := x_in 516 (by decide +kernel) rfl
theorem xw_517 : Jvm.Cond.code ({ cls := "WakingLayers", name := "finding", desc := "(I)I" } : Jvm.MethodName) prog_1_method_26_code (2 : Nat) (Option.some Jvm.ClassFile.FieldType.int) ∈ x_ws := x_in 517 (by decide +kernel) rfl
theorem xw_518 : Jvm.Cond.constant "WakingLayers" (288 : Nat) (-1000010 : Int32) ∈ x_ws := x_in 518 (by decide +kernel) rfl
theorem xw_519 : Jvm.Cond.methodLink "WakingLayers" (98 : Nat) ({ cls := "WakingLayers$Sheets", name := "lay", desc := "(III)V" } : Jvm.MethodName) ∈ x_ws := x_in 519 (by decide +kernel) rfl
theorem xw_520 : Jvm.Cond.instanceMethod ({ cls := "WakingLayers$Sheets", name := "lay", desc := "(III)V" } : Jvm.MethodName) ∈ x_ws := x_in 520 (by decide +kernel) rfl
theorem xw_521 : Jvm.Cond.selects "WakingLayers$Sheets" ({ cls := "WakingLayers$Sheets", name := "lay", desc := "(III)V" } : Jvm.MethodName) ({ cls := "WakingLayers$Sheets", name := "lay", desc := "(III)V" } : Jvm.MethodName) ∈ x_ws := x_in 521 (by decide +kernel) rfl
theorem xw_522 : Jvm.Cond.code ({ cls := "WakingLayers$Sheets", name := "lay", desc := "(III)V" } : Jvm.MethodName) prog_10_method_7_code (5 : Nat) (Option.none : Option Jvm.ClassFile.FieldType) ∈ x_ws := x_in 522 (by decide +kernel) rfl
theorem xw_523 : Jvm.Cond.methodLink "WakingLayers" (102 : Nat) ({ cls := "WakingLayers", name := "withoutFinding", desc := "(I)I" } : Jvm.MethodName) ∈ x_ws := x_in 523 (by decide +kernel) rfl
theorem xw_525 : Jvm.Cond.instanceMethod ({ cls := "WakingLayers", name := "withoutFinding", desc := "(I)I" } : Jvm.MethodName) ∈ x_ws := x_in 525 (by decide +kernel) rfl
theorem xw_526 : Jvm.Cond.code ({ cls := "WakingLayers", name := "withoutFinding", desc := "(I)I" } : Jvm.MethodName) prog_1_method_27_code (2 : Nat) (Option.some Jvm.ClassFile.FieldType.int) ∈ x_ws := x_in 526 (by decide +kernel) rfl
theorem xw_530 : Jvm.Cond.code ({ cls := "WakingLayers", name := "set", desc := "(III)I" } : Jvm.MethodName) prog_1_method_3_code (4 : Nat) (Option.some Jvm.ClassFile.FieldType.int) ∈ x_ws := x_in 530 (by decide +kernel) rfl
theorem xw_531 : Jvm.Cond.methodLink "WakingLayers" (105 : Nat) ({ cls := "WakingLayers$Sheets", name := "isMissing", desc := "(I)Z" } : Jvm.MethodName) ∈ x_ws := x_in 531 (by decide +kernel) rfl
theorem xw_532 : Jvm.Cond.instanceMethod ({ cls := "WakingLayers$Sheets", name := "isMissing", desc := "(I)Z" } : Jvm.MethodName) ∈ x_ws := x_in 532 (by decide +kernel) rfl
theorem xw_533 : Jvm.Cond.selects "WakingLayers$Sheets" ({ cls := "WakingLayers$Sheets", name := "isMissing", desc := "(I)Z" } : Jvm.MethodName) ({ cls := "WakingLayers$Sheets", name := "isMissing", desc := "(I)Z" } : Jvm.MethodName) ∈ x_ws := x_in 533 (by decide +kernel) rfl
theorem xw_534 : Jvm.Cond.code ({ cls := "WakingLayers$Sheets", name := "isMissing", desc := "(I)Z" } : Jvm.MethodName) prog_10_method_4_code (2 : Nat) (Option.some Jvm.ClassFile.FieldType.boolean) ∈ x_ws := x_in 534 (by decide +kernel) rfl
theorem xw_535 : Jvm.Cond.methodLink "WakingLayers" (108 : Nat) ({ cls := "WakingLayers$Sheets", name := "hasPlaces", desc := "(III)Z" } : Jvm.MethodName) ∈ x_ws := x_in 535 (by decide +kernel) rfl
theorem xw_536 : Jvm.Cond.instanceMethod ({ cls := "WakingLayers$Sheets", name := "hasPlaces", desc := "(III)Z" } : Jvm.MethodName) ∈ x_ws := x_in 536 (by decide +kernel) rfl
theorem xw_537 : Jvm.Cond.selects "WakingLayers$Sheets" ({ cls := "WakingLayers$Sheets", name := "hasPlaces", desc := "(III)Z" } : Jvm.MethodName) ({ cls := "WakingLayers$Sheets", name := "hasPlaces", desc := "(III)Z" } : Jvm.MethodName) ∈ x_ws := x_in 537 (by decide +kernel) rfl
theorem xw_538 : Jvm.Cond.code ({ cls := "WakingLayers$Sheets", name := "hasPlaces", desc := "(III)Z" } : Jvm.MethodName) prog_10_method_6_code (5 : Nat) (Option.some Jvm.ClassFile.FieldType.boolean) ∈ x_ws := x_in 538 (by decide +kernel) rfl
theorem xw_539 : Jvm.Cond.methodLink "WakingLayers" (112 : Nat) ({ cls := "WakingLayers$Sheets", name := "put", desc := "(III)I" } : Jvm.MethodName) ∈ x_ws := x_in 539 (by decide +kernel) rfl
theorem xw_540 : Jvm.Cond.instanceMethod ({ cls := "WakingLayers$Sheets", name := "put", desc := "(III)I" } : Jvm.MethodName) ∈ x_ws := x_in 540 (by decide +kernel) rfl
theorem xw_541 : Jvm.Cond.selects "WakingLayers$Sheets" ({ cls := "WakingLayers$Sheets", name := "put", desc := "(III)I" } : Jvm.MethodName) ({ cls := "WakingLayers$Sheets", name := "put", desc := "(III)I" } : Jvm.MethodName) ∈ x_ws := x_in 541 (by decide +kernel) rfl
theorem xw_542 : Jvm.Cond.code ({ cls := "WakingLayers$Sheets", name := "put", desc := "(III)I" } : Jvm.MethodName) prog_10_method_8_code (5 : Nat) (Option.some Jvm.ClassFile.FieldType.int) ∈ x_ws := x_in 542 (by decide +kernel) rfl
theorem xw_546 : Jvm.Cond.code ({ cls := "WakingLayers", name := "copy", desc := "(IIIII)I" } : Jvm.MethodName) prog_1_method_4_code (6 : Nat) (Option.some Jvm.ClassFile.FieldType.int) ∈ x_ws := x_in 546 (by decide +kernel) rfl
theorem xw_547 : Jvm.Cond.methodLink "WakingLayers" (116 : Nat) ({ cls := "WakingLayers$Sheets", name := "haveOneLane", desc := "(II)Z" } : Jvm.MethodName) ∈ x_ws := x_in 547 (by decide +kernel) rfl
theorem xw_548 : Jvm.Cond.instanceMethod ({ cls := "WakingLayers$Sheets", name := "haveOneLane", desc := "(II)Z" } : Jvm.MethodName) ∈ x_ws := x_in 548 (by decide +kernel) rfl
theorem xw_549 : Jvm.Cond.selects "WakingLayers$Sheets" ({ cls := "WakingLayers$Sheets", name := "haveOneLane", desc := "(II)Z" } : Jvm.MethodName) ({ cls := "WakingLayers$Sheets", name := "haveOneLane", desc := "(II)Z" } : Jvm.MethodName) ∈ x_ws := x_in 549 (by decide +kernel) rfl
theorem xw_550 : Jvm.Cond.code ({ cls := "WakingLayers$Sheets", name := "haveOneLane", desc := "(II)Z" } : Jvm.MethodName) prog_10_method_5_code (3 : Nat) (Option.some Jvm.ClassFile.FieldType.boolean) ∈ x_ws := x_in 550 (by decide +kernel) rfl
theorem xw_551 : Jvm.Cond.methodLink "WakingLayers" (120 : Nat) ({ cls := "WakingLayers$Sheets", name := "move", desc := "(IIIII)V" } : Jvm.MethodName) ∈ x_ws := x_in 551 (by decide +kernel) rfl
theorem xw_552 : Jvm.Cond.instanceMethod ({ cls := "WakingLayers$Sheets", name := "move", desc := "(IIIII)V" } : Jvm.MethodName) ∈ x_ws := x_in 552 (by decide +kernel) rfl
theorem xw_553 : Jvm.Cond.selects "WakingLayers$Sheets" ({ cls := "WakingLayers$Sheets", name := "move", desc := "(IIIII)V" } : Jvm.MethodName) ({ cls := "WakingLayers$Sheets", name := "move", desc := "(IIIII)V" } : Jvm.MethodName) ∈ x_ws := x_in 553 (by decide +kernel) rfl
theorem xw_554 : Jvm.Cond.code ({ cls := "WakingLayers$Sheets", name := "move", desc := "(IIIII)V" } : Jvm.MethodName) prog_10_method_10_code (6 : Nat) (Option.none : Option Jvm.ClassFile.FieldType) ∈ x_ws := x_in 554 (by decide +kernel) rfl
theorem xw_555 : Jvm.Cond.methodLink "WakingLayers$Sheets" (25 : Nat) ({ cls := "java/lang/System", name := "arraycopy", desc := "(Ljava/lang/Object;ILjava/lang/Object;II)V" } : Jvm.MethodName) ∈ x_ws := x_in 555 (by decide +kernel) rfl
theorem xw_556 : Jvm.Cond.static ({ cls := "java/lang/System", name := "arraycopy", desc := "(Ljava/lang/Object;ILjava/lang/Object;II)V" } : Jvm.MethodName) ∈ x_ws := x_in 556 (by decide +kernel) rfl
theorem xw_557 : Jvm.Cond.native ({ cls := "java/lang/System", name := "arraycopy", desc := "(Ljava/lang/Object;ILjava/lang/Object;II)V" } : Jvm.MethodName) ∈ x_ws := x_in 557 (by decide +kernel) rfl
theorem xw_561 : Jvm.Cond.code ({ cls := "WakingLayers", name := "drop", desc := "(I)I" } : Jvm.MethodName) prog_1_method_5_code (2 : Nat) (Option.some Jvm.ClassFile.FieldType.int) ∈ x_ws := x_in 561 (by decide +kernel) rfl
theorem xw_562 : Jvm.Cond.methodLink "WakingLayers" (124 : Nat) ({ cls := "WakingLayers$Sheets", name := "lose", desc := "(I)I" } : Jvm.MethodName) ∈ x_ws := x_in 562 (by decide +kernel) rfl
theorem xw_563 : Jvm.Cond.instanceMethod ({ cls := "WakingLayers$Sheets", name := "lose", desc := "(I)I" } : Jvm.MethodName) ∈ x_ws := x_in 563 (by decide +kernel) rfl
theorem xw_564 : Jvm.Cond.selects "WakingLayers$Sheets" ({ cls := "WakingLayers$Sheets", name := "lose", desc := "(I)I" } : Jvm.MethodName) ({ cls := "WakingLayers$Sheets", name := "lose", desc := "(I)I" } : Jvm.MethodName) ∈ x_ws := x_in 564 (by decide +kernel) rfl
theorem xw_565 : Jvm.Cond.code ({ cls := "WakingLayers$Sheets", name := "lose", desc := "(I)I" } : Jvm.MethodName) prog_10_method_11_code (2 : Nat) (Option.some Jvm.ClassFile.FieldType.int) ∈ x_ws := x_in 565 (by decide +kernel) rfl
theorem xw_569 : Jvm.Cond.code ({ cls := "WakingLayers", name := "feed", desc := "(JI)I" } : Jvm.MethodName) prog_1_method_6_code (4 : Nat) (Option.some Jvm.ClassFile.FieldType.int) ∈ x_ws := x_in 569 (by decide +kernel) rfl
theorem xw_570 : Jvm.Cond.methodLink "WakingLayers" (127 : Nat) ({ cls := "WakingLayers$Tape", name := "hasRoom", desc := "(I)Z" } : Jvm.MethodName) ∈ x_ws := x_in 570 (by decide +kernel) rfl
theorem xw_571 : Jvm.Cond.instanceMethod ({ cls := "WakingLayers$Tape", name := "hasRoom", desc := "(I)Z" } : Jvm.MethodName) ∈ x_ws := x_in 571 (by decide +kernel) rfl
theorem xw_572 : Jvm.Cond.selects "WakingLayers$Tape" ({ cls := "WakingLayers$Tape", name := "hasRoom", desc := "(I)Z" } : Jvm.MethodName) ({ cls := "WakingLayers$Tape", name := "hasRoom", desc := "(I)Z" } : Jvm.MethodName) ∈ x_ws := x_in 572 (by decide +kernel) rfl
theorem xw_573 : Jvm.Cond.code ({ cls := "WakingLayers$Tape", name := "hasRoom", desc := "(I)Z" } : Jvm.MethodName) prog_12_method_3_code (2 : Nat) (Option.some Jvm.ClassFile.FieldType.boolean) ∈ x_ws := x_in 573 (by decide +kernel) rfl
theorem xw_574 : Jvm.Cond.constant "WakingLayers" (130 : Nat) (-1000003 : Int32) ∈ x_ws := x_in 574 (by decide +kernel) rfl
theorem xw_575 : Jvm.Cond.methodLink "WakingLayers" (131 : Nat) ({ cls := "WakingLayers$Tape", name := "append", desc := "(JI)I" } : Jvm.MethodName) ∈ x_ws := x_in 575 (by decide +kernel) rfl
theorem xw_576 : Jvm.Cond.instanceMethod ({ cls := "WakingLayers$Tape", name := "append", desc := "(JI)I" } : Jvm.MethodName) ∈ x_ws := x_in 576 (by decide +kernel) rfl
theorem xw_577 : Jvm.Cond.selects "WakingLayers$Tape" ({ cls := "WakingLayers$Tape", name := "append", desc := "(JI)I" } : Jvm.MethodName) ({ cls := "WakingLayers$Tape", name := "append", desc := "(JI)I" } : Jvm.MethodName) ∈ x_ws := x_in 577 (by decide +kernel) rfl
theorem xw_578 : Jvm.Cond.code ({ cls := "WakingLayers$Tape", name := "append", desc := "(JI)I" } : Jvm.MethodName) prog_12_method_4_code (5 : Nat) (Option.some Jvm.ClassFile.FieldType.int) ∈ x_ws := x_in 578 (by decide +kernel) rfl
theorem xw_582 : Jvm.Cond.code ({ cls := "WakingLayers", name := "read", desc := "()I" } : Jvm.MethodName) prog_1_method_7_code (2 : Nat) (Option.some Jvm.ClassFile.FieldType.int) ∈ x_ws := x_in 582 (by decide +kernel) rfl
theorem xw_583 : Jvm.Cond.methodLink "WakingLayers" (135 : Nat) ({ cls := "WakingLayers$Reader", name := "readTape", desc := "()I" } : Jvm.MethodName) ∈ x_ws := x_in 583 (by decide +kernel) rfl
theorem xw_584 : Jvm.Cond.instanceMethod ({ cls := "WakingLayers$Reader", name := "readTape", desc := "()I" } : Jvm.MethodName) ∈ x_ws := x_in 584 (by decide +kernel) rfl
theorem xw_585 : Jvm.Cond.selects "WakingLayers$Reader" ({ cls := "WakingLayers$Reader", name := "readTape", desc := "()I" } : Jvm.MethodName) ({ cls := "WakingLayers$Reader", name := "readTape", desc := "()I" } : Jvm.MethodName) ∈ x_ws := x_in 585 (by decide +kernel) rfl
theorem xw_586 : Jvm.Cond.code ({ cls := "WakingLayers$Reader", name := "readTape", desc := "()I" } : Jvm.MethodName) prog_7_method_3_code (2 : Nat) (Option.some Jvm.ClassFile.FieldType.int) ∈ x_ws := x_in 586 (by decide +kernel) rfl
theorem xw_587 : Jvm.Cond.methodLink "WakingLayers$Reader" (27 : Nat) ({ cls := "WakingLayers$Program", name := "keepCounts", desc := "()V" } : Jvm.MethodName) ∈ x_ws := x_in 587 (by decide +kernel) rfl
theorem xw_588 : Jvm.Cond.instanceMethod ({ cls := "WakingLayers$Program", name := "keepCounts", desc := "()V" } : Jvm.MethodName) ∈ x_ws := x_in 588 (by decide +kernel) rfl
theorem xw_589 : Jvm.Cond.selects "WakingLayers$Program" ({ cls := "WakingLayers$Program", name := "keepCounts", desc := "()V" } : Jvm.MethodName) ({ cls := "WakingLayers$Program", name := "keepCounts", desc := "()V" } : Jvm.MethodName) ∈ x_ws := x_in 589 (by decide +kernel) rfl
theorem xw_590 : Jvm.Cond.code ({ cls := "WakingLayers$Program", name := "keepCounts", desc := "()V" } : Jvm.MethodName) prog_6_method_6_code (1 : Nat) (Option.none : Option Jvm.ClassFile.FieldType) ∈ x_ws := x_in 590 (by decide +kernel) rfl
theorem xw_591 : Jvm.Cond.methodLink "WakingLayers$Reader" (32 : Nat) ({ cls := "WakingLayers$Tape", name := "firstToken", desc := "()V" } : Jvm.MethodName) ∈ x_ws := x_in 591 (by decide +kernel) rfl
theorem xw_592 : Jvm.Cond.instanceMethod ({ cls := "WakingLayers$Tape", name := "firstToken", desc := "()V" } : Jvm.MethodName) ∈ x_ws := x_in 592 (by decide +kernel) rfl
theorem xw_593 : Jvm.Cond.selects "WakingLayers$Tape" ({ cls := "WakingLayers$Tape", name := "firstToken", desc := "()V" } : Jvm.MethodName) ({ cls := "WakingLayers$Tape", name := "firstToken", desc := "()V" } : Jvm.MethodName) ∈ x_ws := x_in 593 (by decide +kernel) rfl
theorem xw_594 : Jvm.Cond.code ({ cls := "WakingLayers$Tape", name := "firstToken", desc := "()V" } : Jvm.MethodName) prog_12_method_6_code (1 : Nat) (Option.none : Option Jvm.ClassFile.FieldType) ∈ x_ws := x_in 594 (by decide +kernel) rfl
theorem xw_595 : Jvm.Cond.methodLink "WakingLayers$Tape" (20 : Nat) ({ cls := "WakingLayers$Tape", name := "nextToken", desc := "()V" } : Jvm.MethodName) ∈ x_ws := x_in 595 (by decide +kernel) rfl
theorem xw_596 : Jvm.Cond.instanceMethod ({ cls := "WakingLayers$Tape", name := "nextToken", desc := "()V" } : Jvm.MethodName) ∈ x_ws := x_in 596 (by decide +kernel) rfl
theorem xw_597 : Jvm.Cond.selects "WakingLayers$Tape" ({ cls := "WakingLayers$Tape", name := "nextToken", desc := "()V" } : Jvm.MethodName) ({ cls := "WakingLayers$Tape", name := "nextToken", desc := "()V" } : Jvm.MethodName) ∈ x_ws := x_in 597 (by decide +kernel) rfl
theorem xw_598 : Jvm.Cond.code ({ cls := "WakingLayers$Tape", name := "nextToken", desc := "()V" } : Jvm.MethodName) prog_12_method_7_code (1 : Nat) (Option.none : Option Jvm.ClassFile.FieldType) ∈ x_ws := x_in 598 (by decide +kernel) rfl
theorem xw_599 : Jvm.Cond.methodLink "WakingLayers$Tape" (29 : Nat) ({ cls := "WakingLayers$Tape", name := "sortOf", desc := "(I)I" } : Jvm.MethodName) ∈ x_ws := x_in 599 (by decide +kernel) rfl
theorem xw_600 : Jvm.Cond.static ({ cls := "WakingLayers$Tape", name := "sortOf", desc := "(I)I" } : Jvm.MethodName) ∈ x_ws := x_in 600 (by decide +kernel) rfl
theorem xw_601 : Jvm.Cond.code ({ cls := "WakingLayers$Tape", name := "sortOf", desc := "(I)I" } : Jvm.MethodName) prog_12_method_8_code (2 : Nat) (Option.some Jvm.ClassFile.FieldType.int) ∈ x_ws := x_in 601 (by decide +kernel) rfl
theorem xw_602 : Jvm.Cond.methodLink "WakingLayers$Tape" (33 : Nat) ({ cls := "WakingLayers$Tape", name := "endOfRun", desc := "(CC)I" } : Jvm.MethodName) ∈ x_ws := x_in 602 (by decide +kernel) rfl
theorem xw_604 : Jvm.Cond.instanceMethod ({ cls := "WakingLayers$Tape", name := "endOfRun", desc := "(CC)I" } : Jvm.MethodName) ∈ x_ws := x_in 604 (by decide +kernel) rfl
theorem xw_605 : Jvm.Cond.code ({ cls := "WakingLayers$Tape", name := "endOfRun", desc := "(CC)I" } : Jvm.MethodName) prog_12_method_9_code (4 : Nat) (Option.some Jvm.ClassFile.FieldType.int) ∈ x_ws := x_in 605 (by decide +kernel) rfl
theorem xw_606 : Jvm.Cond.methodLink "WakingLayers$Tape" (37 : Nat) ({ cls := "WakingLayers$Tape", name := "valueNumber", desc := "()V" } : Jvm.MethodName) ∈ x_ws := x_in 606 (by decide +kernel) rfl
theorem xw_608 : Jvm.Cond.instanceMethod ({ cls := "WakingLayers$Tape", name := "valueNumber", desc := "()V" } : Jvm.MethodName) ∈ x_ws := x_in 608 (by decide +kernel) rfl
theorem xw_609 : Jvm.Cond.code ({ cls := "WakingLayers$Tape", name := "valueNumber", desc := "()V" } : Jvm.MethodName) prog_12_method_10_code (2 : Nat) (Option.none : Option Jvm.ClassFile.FieldType) ∈ x_ws := x_in 609 (by decide +kernel) rfl
theorem xw_610 : Jvm.Cond.methodLink "WakingLayers$Reader" (37 : Nat) ({ cls := "WakingLayers$Tape", name := "atEnd", desc := "()Z" } : Jvm.MethodName) ∈ x_ws := x_in 610 (by decide +kernel) rfl
theorem xw_611 : Jvm.Cond.instanceMethod ({ cls := "WakingLayers$Tape", name := "atEnd", desc := "()Z" } : Jvm.MethodName) ∈ x_ws := x_in 611 (by decide +kernel) rfl
theorem xw_612 : Jvm.Cond.selects "WakingLayers$Tape" ({ cls := "WakingLayers$Tape", name := "atEnd", desc := "()Z" } : Jvm.MethodName) ({ cls := "WakingLayers$Tape", name := "atEnd", desc := "()Z" } : Jvm.MethodName) ∈ x_ws := x_in 612 (by decide +kernel) rfl
theorem xw_613 : Jvm.Cond.code ({ cls := "WakingLayers$Tape", name := "atEnd", desc := "()Z" } : Jvm.MethodName) prog_12_method_12_code (1 : Nat) (Option.some Jvm.ClassFile.FieldType.boolean) ∈ x_ws := x_in 613 (by decide +kernel) rfl
theorem xw_614 : Jvm.Cond.methodLink "WakingLayers$Reader" (41 : Nat) ({ cls := "WakingLayers$Reader", name := "readTelling", desc := "()V" } : Jvm.MethodName) ∈ x_ws := x_in 614 (by decide +kernel) rfl
theorem xw_616 : Jvm.Cond.instanceMethod ({ cls := "WakingLayers$Reader", name := "readTelling", desc := "()V" } : Jvm.MethodName) ∈ x_ws := x_in 616 (by decide +kernel) rfl
theorem xw_617 : Jvm.Cond.code ({ cls := "WakingLayers$Reader", name := "readTelling", desc := "()V" } : Jvm.MethodName) prog_7_method_4_code (1 : Nat) (Option.none : Option Jvm.ClassFile.FieldType) ∈ x_ws := x_in 617 (by decide +kernel) rfl
theorem xw_619 : Jvm.Cond.methodLink "WakingLayers$Reader" (55 : Nat) ({ cls := "WakingLayers$Tape", name := "nameAmong", desc := "(Ljava/lang/String;)I" } : Jvm.MethodName) ∈ x_ws := x_in 619 (by decide +kernel) rfl
theorem xw_620 : Jvm.Cond.instanceMethod ({ cls := "WakingLayers$Tape", name := "nameAmong", desc := "(Ljava/lang/String;)I" } : Jvm.MethodName) ∈ x_ws := x_in 620 (by decide +kernel) rfl
theorem xw_621 : Jvm.Cond.selects "WakingLayers$Tape" ({ cls := "WakingLayers$Tape", name := "nameAmong", desc := "(Ljava/lang/String;)I" } : Jvm.MethodName) ({ cls := "WakingLayers$Tape", name := "nameAmong", desc := "(Ljava/lang/String;)I" } : Jvm.MethodName) ∈ x_ws := x_in 621 (by decide +kernel) rfl
theorem xw_622 : Jvm.Cond.code ({ cls := "WakingLayers$Tape", name := "nameAmong", desc := "(Ljava/lang/String;)I" } : Jvm.MethodName) prog_12_method_17_code (5 : Nat) (Option.some Jvm.ClassFile.FieldType.int) ∈ x_ws := x_in 622 (by decide +kernel) rfl
theorem xw_623 : Jvm.Cond.methodLink "WakingLayers$Tape" (43 : Nat) ({ cls := "java/lang/String", name := "length", desc := "()I" } : Jvm.MethodName) ∈ x_ws := x_in 623 (by decide +kernel) rfl
theorem xw_624 : Jvm.Cond.instanceMethod ({ cls := "java/lang/String", name := "length", desc := "()I" } : Jvm.MethodName) ∈ x_ws := x_in 624 (by decide +kernel) rfl
theorem xw_625 : Jvm.Cond.selects "java/lang/String" ({ cls := "java/lang/String", name := "length", desc := "()I" } : Jvm.MethodName) ({ cls := "java/lang/String", name := "length", desc := "()I" } : Jvm.MethodName) ∈ x_ws := x_in 625 (by decide +kernel) rfl
theorem xw_626 : Jvm.Cond.code ({ cls := "java/lang/String", name := "length", desc := "()I" } : Jvm.MethodName) prog_16_method_54_code (1 : Nat) (Option.some Jvm.ClassFile.FieldType.int) ∈ x_ws := x_in 626 (by decide +kernel) rfl
theorem xw_627 : Jvm.Cond.methodLink "java/lang/String" (335 : Nat) ({ cls := "java/lang/String", name := "coder", desc := "()B" } : Jvm.MethodName) ∈ x_ws := x_in 627 (by decide +kernel) rfl
theorem xw_628 : Jvm.Cond.instanceMethod ({ cls := "java/lang/String", name := "coder", desc := "()B" } : Jvm.MethodName) ∈ x_ws := x_in 628 (by decide +kernel) rfl
theorem xw_629 : Jvm.Cond.selects "java/lang/String" ({ cls := "java/lang/String", name := "coder", desc := "()B" } : Jvm.MethodName) ({ cls := "java/lang/String", name := "coder", desc := "()B" } : Jvm.MethodName) ∈ x_ws := x_in 629 (by decide +kernel) rfl
theorem xw_630 : Jvm.Cond.code ({ cls := "java/lang/String", name := "coder", desc := "()B" } : Jvm.MethodName) prog_16_method_152_code (1 : Nat) (Option.some Jvm.ClassFile.FieldType.byte) ∈ x_ws := x_in 630 (by decide +kernel) rfl
theorem xw_631 : Jvm.Cond.fieldLink "java/lang/String" (38 : Nat) "java/lang/String" "COMPACT_STRINGS" "Z" ∈ x_ws := x_in 631 (by decide +kernel) rfl
theorem xw_633 : Jvm.Cond.methodLink "WakingLayers$Tape" (52 : Nat) ({ cls := "java/lang/String", name := "charAt", desc := "(I)C" } : Jvm.MethodName) ∈ x_ws := x_in 633 (by decide +kernel) rfl
theorem xw_634 : Jvm.Cond.instanceMethod ({ cls := "java/lang/String", name := "charAt", desc := "(I)C" } : Jvm.MethodName) ∈ x_ws := x_in 634 (by decide +kernel) rfl
theorem xw_635 : Jvm.Cond.selects "java/lang/String" ({ cls := "java/lang/String", name := "charAt", desc := "(I)C" } : Jvm.MethodName) ({ cls := "java/lang/String", name := "charAt", desc := "(I)C" } : Jvm.MethodName) ∈ x_ws := x_in 635 (by decide +kernel) rfl
theorem xw_636 : Jvm.Cond.code ({ cls := "java/lang/String", name := "charAt", desc := "(I)C" } : Jvm.MethodName) prog_16_method_56_code (2 : Nat) (Option.some Jvm.ClassFile.FieldType.char) ∈ x_ws := x_in 636 (by decide +kernel) rfl
theorem xw_637 : Jvm.Cond.methodLink "java/lang/String" (492 : Nat) ({ cls := "java/lang/String", name := "isLatin1", desc := "()Z" } : Jvm.MethodName) ∈ x_ws := x_in 637 (by decide +kernel) rfl
theorem xw_638 : Jvm.Cond.instanceMethod ({ cls := "java/lang/String", name := "isLatin1", desc := "()Z" } : Jvm.MethodName) ∈ x_ws := x_in 638 (by decide +kernel) rfl
theorem xw_639 : Jvm.Cond.selects "java/lang/String" ({ cls := "java/lang/String", name := "isLatin1", desc := "()Z" } : Jvm.MethodName) ({ cls := "java/lang/String", name := "isLatin1", desc := "()Z" } : Jvm.MethodName) ∈ x_ws := x_in 639 (by decide +kernel) rfl
theorem xw_640 : Jvm.Cond.code ({ cls := "java/lang/String", name := "isLatin1", desc := "()Z" } : Jvm.MethodName) prog_16_method_154_code (1 : Nat) (Option.some Jvm.ClassFile.FieldType.boolean) ∈ x_ws := x_in 640 (by decide +kernel) rfl
theorem xw_641 : Jvm.Cond.methodLink "java/lang/String" (495 : Nat) ({ cls := "java/lang/StringLatin1", name := "charAt", desc := "([BI)C" } : Jvm.MethodName) ∈ x_ws := x_in 641 (by decide +kernel) rfl
theorem xw_642 : Jvm.Cond.static ({ cls := "java/lang/StringLatin1", name := "charAt", desc := "([BI)C" } : Jvm.MethodName) ∈ x_ws := x_in 642 (by decide +kernel) rfl
theorem xw_643 : Jvm.Cond.code ({ cls := "java/lang/StringLatin1", name := "charAt", desc := "([BI)C" } : Jvm.MethodName) prog_17_method_2_code (2 : Nat) (Option.some Jvm.ClassFile.FieldType.char) ∈ x_ws := x_in 643 (by decide +kernel) rfl
theorem xw_644 : Jvm.Cond.methodLink "java/lang/StringLatin1" (9 : Nat) ({ cls := "java/lang/String", name := "checkIndex", desc := "(II)V" } : Jvm.MethodName) ∈ x_ws := x_in 644 (by decide +kernel) rfl
theorem xw_645 : Jvm.Cond.static ({ cls := "java/lang/String", name := "checkIndex", desc := "(II)V" } : Jvm.MethodName) ∈ x_ws := x_in 645 (by decide +kernel) rfl
theorem xw_646 : Jvm.Cond.code ({ cls := "java/lang/String", name := "checkIndex", desc := "(II)V" } : Jvm.MethodName) prog_16_method_155_code (2 : Nat) (Option.none : Option Jvm.ClassFile.FieldType) ∈ x_ws := x_in 646 (by decide +kernel) rfl
theorem xw_647 : Jvm.Cond.fieldLink "java/lang/String" (1053 : Nat) "jdk/internal/util/Preconditions" "SIOOBE_FORMATTER" "Ljava/util/function/BiFunction;" ∈ x_ws := x_in 647 (by decide +kernel) rfl
theorem xw_649 : Jvm.Cond.methodLink "java/lang/String" (1059 : Nat) ({ cls := "jdk/internal/util/Preconditions", name := "checkIndex", desc := "(IILjava/util/function/BiFunction;)I" } : Jvm.MethodName) ∈ x_ws := x_in 649 (by decide +kernel) rfl
theorem xw_650 : Jvm.Cond.static ({ cls := "jdk/internal/util/Preconditions", name := "checkIndex", desc := "(IILjava/util/function/BiFunction;)I" } : Jvm.MethodName) ∈ x_ws := x_in 650 (by decide +kernel) rfl
theorem xw_651 : Jvm.Cond.code ({ cls := "jdk/internal/util/Preconditions", name := "checkIndex", desc := "(IILjava/util/function/BiFunction;)I" } : Jvm.MethodName) prog_20_method_11_code (3 : Nat) (Option.some Jvm.ClassFile.FieldType.int) ∈ x_ws := x_in 651 (by decide +kernel) rfl
theorem xw_671 : Jvm.Cond.methodLink "WakingLayers$Tape" (48 : Nat) ({ cls := "WakingLayers$Tape", name := "matches", desc := "(Ljava/lang/String;I)Z" } : Jvm.MethodName) ∈ x_ws := x_in 671 (by decide +kernel) rfl
theorem xw_673 : Jvm.Cond.instanceMethod ({ cls := "WakingLayers$Tape", name := "matches", desc := "(Ljava/lang/String;I)Z" } : Jvm.MethodName) ∈ x_ws := x_in 673 (by decide +kernel) rfl
theorem xw_674 : Jvm.Cond.code ({ cls := "WakingLayers$Tape", name := "matches", desc := "(Ljava/lang/String;I)Z" } : Jvm.MethodName) prog_12_method_18_code (4 : Nat) (Option.some Jvm.ClassFile.FieldType.boolean) ∈ x_ws := x_in 674 (by decide +kernel) rfl
theorem xw_675 : Jvm.Cond.methodLink "WakingLayers$Reader" (59 : Nat) ({ cls := "WakingLayers$Reader", name := "readKind", desc := "()V" } : Jvm.MethodName) ∈ x_ws := x_in 675 (by decide +kernel) rfl
theorem xw_677 : Jvm.Cond.instanceMethod ({ cls := "WakingLayers$Reader", name := "readKind", desc := "()V" } : Jvm.MethodName) ∈ x_ws := x_in 677 (by decide +kernel) rfl
theorem xw_678 : Jvm.Cond.code ({ cls := "WakingLayers$Reader", name := "readKind", desc := "()V" } : Jvm.MethodName) prog_7_method_5_code (2 : Nat) (Option.none : Option Jvm.ClassFile.FieldType) ∈ x_ws := x_in 678 (by decide +kernel) rfl
theorem xw_679 : Jvm.Cond.methodLink "WakingLayers$Reader" (78 : Nat) ({ cls := "WakingLayers$Reader", name := "takeFirstWord", desc := "(II)V" } : Jvm.MethodName) ∈ x_ws := x_in 679 (by decide +kernel) rfl
theorem xw_681 : Jvm.Cond.instanceMethod ({ cls := "WakingLayers$Reader", name := "takeFirstWord", desc := "(II)V" } : Jvm.MethodName) ∈ x_ws := x_in 681 (by decide +kernel) rfl
theorem xw_682 : Jvm.Cond.code ({ cls := "WakingLayers$Reader", name := "takeFirstWord", desc := "(II)V" } : Jvm.MethodName) prog_7_method_12_code (3 : Nat) (Option.none : Option Jvm.ClassFile.FieldType) ∈ x_ws := x_in 682 (by decide +kernel) rfl
theorem xw_683 : Jvm.Cond.methodLink "WakingLayers$Reader" (71 : Nat) ({ cls := "WakingLayers$Reader", name := "refuse", desc := "(I)V" } : Jvm.MethodName) ∈ x_ws := x_in 683 (by decide +kernel) rfl
theorem xw_685 : Jvm.Cond.instanceMethod ({ cls := "WakingLayers$Reader", name := "refuse", desc := "(I)V" } : Jvm.MethodName) ∈ x_ws := x_in 685 (by decide +kernel) rfl
theorem xw_686 : Jvm.Cond.code ({ cls := "WakingLayers$Reader", name := "refuse", desc := "(I)V" } : Jvm.MethodName) prog_7_method_18_code (2 : Nat) (Option.none : Option Jvm.ClassFile.FieldType) ∈ x_ws := x_in 686 (by decide +kernel) rfl
theorem xw_687 : Jvm.Cond.methodLink "WakingLayers$Reader" (204 : Nat) ({ cls := "WakingLayers$Tape", name := "tokenStart", desc := "()I" } : Jvm.MethodName) ∈ x_ws := x_in 687 (by decide +kernel) rfl
theorem xw_688 : Jvm.Cond.instanceMethod ({ cls := "WakingLayers$Tape", name := "tokenStart", desc := "()I" } : Jvm.MethodName) ∈ x_ws := x_in 688 (by decide +kernel) rfl
theorem xw_689 : Jvm.Cond.selects "WakingLayers$Tape" ({ cls := "WakingLayers$Tape", name := "tokenStart", desc := "()I" } : Jvm.MethodName) ({ cls := "WakingLayers$Tape", name := "tokenStart", desc := "()I" } : Jvm.MethodName) ∈ x_ws := x_in 689 (by decide +kernel) rfl
theorem xw_690 : Jvm.Cond.code ({ cls := "WakingLayers$Tape", name := "tokenStart", desc := "()I" } : Jvm.MethodName) prog_12_method_11_code (1 : Nat) (Option.some Jvm.ClassFile.FieldType.int) ∈ x_ws := x_in 690 (by decide +kernel) rfl
theorem xw_691 : Jvm.Cond.methodLink "WakingLayers$Reader" (88 : Nat) ({ cls := "WakingLayers$Tape", name := "nextToken", desc := "()V" } : Jvm.MethodName) ∈ x_ws := x_in 691 (by decide +kernel) rfl
theorem xw_693 : Jvm.Cond.methodLink "WakingLayers$Reader" (84 : Nat) ({ cls := "WakingLayers$Tape", name := "atName", desc := "(Ljava/lang/String;)Z" } : Jvm.MethodName) ∈ x_ws := x_in 693 (by decide +kernel) rfl
theorem xw_694 : Jvm.Cond.instanceMethod ({ cls := "WakingLayers$Tape", name := "atName", desc := "(Ljava/lang/String;)Z" } : Jvm.MethodName) ∈ x_ws := x_in 694 (by decide +kernel) rfl
theorem xw_695 : Jvm.Cond.selects "WakingLayers$Tape" ({ cls := "WakingLayers$Tape", name := "atName", desc := "(Ljava/lang/String;)Z" } : Jvm.MethodName) ({ cls := "WakingLayers$Tape", name := "atName", desc := "(Ljava/lang/String;)Z" } : Jvm.MethodName) ∈ x_ws := x_in 695 (by decide +kernel) rfl
theorem xw_696 : Jvm.Cond.code ({ cls := "WakingLayers$Tape", name := "atName", desc := "(Ljava/lang/String;)Z" } : Jvm.MethodName) prog_12_method_16_code (2 : Nat) (Option.some Jvm.ClassFile.FieldType.boolean) ∈ x_ws := x_in 696 (by decide +kernel) rfl
theorem xw_697 : Jvm.Cond.methodLink "WakingLayers$Reader" (91 : Nat) ({ cls := "WakingLayers$Reader", name := "takeNumber", desc := "(I)I" } : Jvm.MethodName) ∈ x_ws := x_in 697 (by decide +kernel) rfl
theorem xw_699 : Jvm.Cond.instanceMethod ({ cls := "WakingLayers$Reader", name := "takeNumber", desc := "(I)I" } : Jvm.MethodName) ∈ x_ws := x_in 699 (by decide +kernel) rfl
theorem xw_700 : Jvm.Cond.code ({ cls := "WakingLayers$Reader", name := "takeNumber", desc := "(I)I" } : Jvm.MethodName) prog_7_method_15_code (3 : Nat) (Option.some Jvm.ClassFile.FieldType.int) ∈ x_ws := x_in 700 (by decide +kernel) rfl
theorem xw_701 : Jvm.Cond.methodLink "WakingLayers$Reader" (125 : Nat) ({ cls := "WakingLayers$Tape", name := "atNumber", desc := "()Z" } : Jvm.MethodName) ∈ x_ws := x_in 701 (by decide +kernel) rfl
theorem xw_702 : Jvm.Cond.instanceMethod ({ cls := "WakingLayers$Tape", name := "atNumber", desc := "()Z" } : Jvm.MethodName) ∈ x_ws := x_in 702 (by decide +kernel) rfl
theorem xw_703 : Jvm.Cond.selects "WakingLayers$Tape" ({ cls := "WakingLayers$Tape", name := "atNumber", desc := "()Z" } : Jvm.MethodName) ({ cls := "WakingLayers$Tape", name := "atNumber", desc := "()Z" } : Jvm.MethodName) ∈ x_ws := x_in 703 (by decide +kernel) rfl
theorem xw_704 : Jvm.Cond.code ({ cls := "WakingLayers$Tape", name := "atNumber", desc := "()Z" } : Jvm.MethodName) prog_12_method_13_code (1 : Nat) (Option.some Jvm.ClassFile.FieldType.boolean) ∈ x_ws := x_in 704 (by decide +kernel) rfl
theorem xw_705 : Jvm.Cond.methodLink "WakingLayers$Reader" (194 : Nat) ({ cls := "WakingLayers$Tape", name := "number", desc := "()I" } : Jvm.MethodName) ∈ x_ws := x_in 705 (by decide +kernel) rfl
theorem xw_706 : Jvm.Cond.instanceMethod ({ cls := "WakingLayers$Tape", name := "number", desc := "()I" } : Jvm.MethodName) ∈ x_ws := x_in 706 (by decide +kernel) rfl
theorem xw_707 : Jvm.Cond.selects "WakingLayers$Tape" ({ cls := "WakingLayers$Tape", name := "number", desc := "()I" } : Jvm.MethodName) ({ cls := "WakingLayers$Tape", name := "number", desc := "()I" } : Jvm.MethodName) ∈ x_ws := x_in 707 (by decide +kernel) rfl
theorem xw_708 : Jvm.Cond.code ({ cls := "WakingLayers$Tape", name := "number", desc := "()I" } : Jvm.MethodName) prog_12_method_14_code (1 : Nat) (Option.some Jvm.ClassFile.FieldType.int) ∈ x_ws := x_in 708 (by decide +kernel) rfl
theorem xw_709 : Jvm.Cond.methodLink "WakingLayers$Reader" (95 : Nat) ({ cls := "WakingLayers$Reader", name := "takeSign", desc := "(C)V" } : Jvm.MethodName) ∈ x_ws := x_in 709 (by decide +kernel) rfl
theorem xw_711 : Jvm.Cond.instanceMethod ({ cls := "WakingLayers$Reader", name := "takeSign", desc := "(C)V" } : Jvm.MethodName) ∈ x_ws := x_in 711 (by decide +kernel) rfl
theorem xw_712 : Jvm.Cond.code ({ cls := "WakingLayers$Reader", name := "takeSign", desc := "(C)V" } : Jvm.MethodName) prog_7_method_17_code (2 : Nat) (Option.none : Option Jvm.ClassFile.FieldType) ∈ x_ws := x_in 712 (by decide +kernel) rfl
theorem xw_713 : Jvm.Cond.methodLink "WakingLayers$Reader" (137 : Nat) ({ cls := "WakingLayers$Tape", name := "atSign", desc := "(C)Z" } : Jvm.MethodName) ∈ x_ws := x_in 713 (by decide +kernel) rfl
theorem xw_714 : Jvm.Cond.instanceMethod ({ cls := "WakingLayers$Tape", name := "atSign", desc := "(C)Z" } : Jvm.MethodName) ∈ x_ws := x_in 714 (by decide +kernel) rfl
theorem xw_715 : Jvm.Cond.selects "WakingLayers$Tape" ({ cls := "WakingLayers$Tape", name := "atSign", desc := "(C)Z" } : Jvm.MethodName) ({ cls := "WakingLayers$Tape", name := "atSign", desc := "(C)Z" } : Jvm.MethodName) ∈ x_ws := x_in 715 (by decide +kernel) rfl
theorem xw_716 : Jvm.Cond.code ({ cls := "WakingLayers$Tape", name := "atSign", desc := "(C)Z" } : Jvm.MethodName) prog_12_method_15_code (2 : Nat) (Option.some Jvm.ClassFile.FieldType.boolean) ∈ x_ws := x_in 716 (by decide +kernel) rfl
theorem xw_717 : Jvm.Cond.methodLink "WakingLayers$Reader" (99 : Nat) ({ cls := "WakingLayers$Program", name := "addKind", desc := "(I)V" } : Jvm.MethodName) ∈ x_ws := x_in 717 (by decide +kernel) rfl
theorem xw_718 : Jvm.Cond.instanceMethod ({ cls := "WakingLayers$Program", name := "addKind", desc := "(I)V" } : Jvm.MethodName) ∈ x_ws := x_in 718 (by decide +kernel) rfl
theorem xw_719 : Jvm.Cond.selects "WakingLayers$Program" ({ cls := "WakingLayers$Program", name := "addKind", desc := "(I)V" } : Jvm.MethodName) ({ cls := "WakingLayers$Program", name := "addKind", desc := "(I)V" } : Jvm.MethodName) ∈ x_ws := x_in 719 (by decide +kernel) rfl
theorem xw_720 : Jvm.Cond.code ({ cls := "WakingLayers$Program", name := "addKind", desc := "(I)V" } : Jvm.MethodName) prog_6_method_4_code (2 : Nat) (Option.none : Option Jvm.ClassFile.FieldType) ∈ x_ws := x_in 720 (by decide +kernel) rfl
theorem xw_721 : Jvm.Cond.methodLink "WakingLayers$Reader" (62 : Nat) ({ cls := "WakingLayers$Reader", name := "readThing", desc := "()V" } : Jvm.MethodName) ∈ x_ws := x_in 721 (by decide +kernel) rfl
theorem xw_723 : Jvm.Cond.instanceMethod ({ cls := "WakingLayers$Reader", name := "readThing", desc := "()V" } : Jvm.MethodName) ∈ x_ws := x_in 723 (by decide +kernel) rfl
theorem xw_724 : Jvm.Cond.code ({ cls := "WakingLayers$Reader", name := "readThing", desc := "()V" } : Jvm.MethodName) prog_7_method_6_code (3 : Nat) (Option.none : Option Jvm.ClassFile.FieldType) ∈ x_ws := x_in 724 (by decide +kernel) rfl
theorem xw_725 : Jvm.Cond.methodLink "WakingLayers$Reader" (105 : Nat) ({ cls := "WakingLayers$Program", name := "addThing", desc := "(II)V" } : Jvm.MethodName) ∈ x_ws := x_in 725 (by decide +kernel) rfl
theorem xw_726 : Jvm.Cond.instanceMethod ({ cls := "WakingLayers$Program", name := "addThing", desc := "(II)V" } : Jvm.MethodName) ∈ x_ws := x_in 726 (by decide +kernel) rfl
theorem xw_727 : Jvm.Cond.selects "WakingLayers$Program" ({ cls := "WakingLayers$Program", name := "addThing", desc := "(II)V" } : Jvm.MethodName) ({ cls := "WakingLayers$Program", name := "addThing", desc := "(II)V" } : Jvm.MethodName) ∈ x_ws := x_in 727 (by decide +kernel) rfl
theorem xw_728 : Jvm.Cond.code ({ cls := "WakingLayers$Program", name := "addThing", desc := "(II)V" } : Jvm.MethodName) prog_6_method_5_code (3 : Nat) (Option.none : Option Jvm.ClassFile.FieldType) ∈ x_ws := x_in 728 (by decide +kernel) rfl
theorem xw_729 : Jvm.Cond.methodLink "WakingLayers$Reader" (65 : Nat) ({ cls := "WakingLayers$Reader", name := "readLayer", desc := "()V" } : Jvm.MethodName) ∈ x_ws := x_in 729 (by decide +kernel) rfl
theorem xw_731 : Jvm.Cond.instanceMethod ({ cls := "WakingLayers$Reader", name := "readLayer", desc := "()V" } : Jvm.MethodName) ∈ x_ws := x_in 731 (by decide +kernel) rfl
theorem xw_732 : Jvm.Cond.code ({ cls := "WakingLayers$Reader", name := "readLayer", desc := "()V" } : Jvm.MethodName) prog_7_method_7_code (4 : Nat) (Option.none : Option Jvm.ClassFile.FieldType) ∈ x_ws := x_in 732 (by decide +kernel) rfl
theorem xw_734 : Jvm.Cond.methodLink "WakingLayers$Reader" (117 : Nat) ({ cls := "WakingLayers$Reader", name := "takeWord", desc := "(Ljava/lang/String;)I" } : Jvm.MethodName) ∈ x_ws := x_in 734 (by decide +kernel) rfl
theorem xw_736 : Jvm.Cond.instanceMethod ({ cls := "WakingLayers$Reader", name := "takeWord", desc := "(Ljava/lang/String;)I" } : Jvm.MethodName) ∈ x_ws := x_in 736 (by decide +kernel) rfl
theorem xw_737 : Jvm.Cond.code ({ cls := "WakingLayers$Reader", name := "takeWord", desc := "(Ljava/lang/String;)I" } : Jvm.MethodName) prog_7_method_16_code (3 : Nat) (Option.some Jvm.ClassFile.FieldType.int) ∈ x_ws := x_in 737 (by decide +kernel) rfl
theorem xw_738 : Jvm.Cond.methodLink "WakingLayers$Reader" (120 : Nat) ({ cls := "WakingLayers$Layer", name := "begin", desc := "(II)V" } : Jvm.MethodName) ∈ x_ws := x_in 738 (by decide +kernel) rfl
theorem xw_739 : Jvm.Cond.instanceMethod ({ cls := "WakingLayers$Layer", name := "begin", desc := "(II)V" } : Jvm.MethodName) ∈ x_ws := x_in 739 (by decide +kernel) rfl
theorem xw_740 : Jvm.Cond.selects "WakingLayers$Layer" ({ cls := "WakingLayers$Layer", name := "begin", desc := "(II)V" } : Jvm.MethodName) ({ cls := "WakingLayers$Layer", name := "begin", desc := "(II)V" } : Jvm.MethodName) ∈ x_ws := x_in 740 (by decide +kernel) rfl
theorem xw_741 : Jvm.Cond.code ({ cls := "WakingLayers$Layer", name := "begin", desc := "(II)V" } : Jvm.MethodName) prog_5_method_2_code (3 : Nat) (Option.none : Option Jvm.ClassFile.FieldType) ∈ x_ws := x_in 741 (by decide +kernel) rfl
theorem xw_742 : Jvm.Cond.methodLink "WakingLayers$Reader" (128 : Nat) ({ cls := "WakingLayers$Reader", name := "readTest", desc := "(LWakingLayers$Layer;)V" } : Jvm.MethodName) ∈ x_ws := x_in 742 (by decide +kernel) rfl
theorem xw_744 : Jvm.Cond.instanceMethod ({ cls := "WakingLayers$Reader", name := "readTest", desc := "(LWakingLayers$Layer;)V" } : Jvm.MethodName) ∈ x_ws := x_in 744 (by decide +kernel) rfl
theorem xw_745 : Jvm.Cond.code ({ cls := "WakingLayers$Reader", name := "readTest", desc := "(LWakingLayers$Layer;)V" } : Jvm.MethodName) prog_7_method_8_code (4 : Nat) (Option.none : Option Jvm.ClassFile.FieldType) ∈ x_ws := x_in 745 (by decide +kernel) rfl
theorem xw_746 : Jvm.Cond.methodLink "WakingLayers$Reader" (141 : Nat) ({ cls := "WakingLayers$Layer", name := "beginTest", desc := "(ICI)V" } : Jvm.MethodName) ∈ x_ws := x_in 746 (by decide +kernel) rfl
theorem xw_747 : Jvm.Cond.instanceMethod ({ cls := "WakingLayers$Layer", name := "beginTest", desc := "(ICI)V" } : Jvm.MethodName) ∈ x_ws := x_in 747 (by decide +kernel) rfl
theorem xw_748 : Jvm.Cond.selects "WakingLayers$Layer" ({ cls := "WakingLayers$Layer", name := "beginTest", desc := "(ICI)V" } : Jvm.MethodName) ({ cls := "WakingLayers$Layer", name := "beginTest", desc := "(ICI)V" } : Jvm.MethodName) ∈ x_ws := x_in 748 (by decide +kernel) rfl
theorem xw_749 : Jvm.Cond.code ({ cls := "WakingLayers$Layer", name := "beginTest", desc := "(ICI)V" } : Jvm.MethodName) prog_5_method_3_code (4 : Nat) (Option.none : Option Jvm.ClassFile.FieldType) ∈ x_ws := x_in 749 (by decide +kernel) rfl
theorem xw_750 : Jvm.Cond.methodLink "WakingLayers$Reader" (132 : Nat) ({ cls := "WakingLayers$Reader", name := "readNeedsAndBars", desc := "(LWakingLayers$Layer;)V" } : Jvm.MethodName) ∈ x_ws := x_in 750 (by decide +kernel) rfl
theorem xw_752 : Jvm.Cond.instanceMethod ({ cls := "WakingLayers$Reader", name := "readNeedsAndBars", desc := "(LWakingLayers$Layer;)V" } : Jvm.MethodName) ∈ x_ws := x_in 752 (by decide +kernel) rfl
theorem xw_753 : Jvm.Cond.code ({ cls := "WakingLayers$Reader", name := "readNeedsAndBars", desc := "(LWakingLayers$Layer;)V" } : Jvm.MethodName) prog_7_method_9_code (3 : Nat) (Option.none : Option Jvm.ClassFile.FieldType) ∈ x_ws := x_in 753 (by decide +kernel) rfl
theorem xw_756 : Jvm.Cond.methodLink "WakingLayers$Reader" (68 : Nat) ({ cls := "WakingLayers$Reader", name := "readBody", desc := "()V" } : Jvm.MethodName) ∈ x_ws := x_in 756 (by decide +kernel) rfl
theorem xw_758 : Jvm.Cond.instanceMethod ({ cls := "WakingLayers$Reader", name := "readBody", desc := "()V" } : Jvm.MethodName) ∈ x_ws := x_in 758 (by decide +kernel) rfl
theorem xw_759 : Jvm.Cond.code ({ cls := "WakingLayers$Reader", name := "readBody", desc := "()V" } : Jvm.MethodName) prog_7_method_10_code (7 : Nat) (Option.none : Option Jvm.ClassFile.FieldType) ∈ x_ws := x_in 759 (by decide +kernel) rfl
theorem xw_760 : Jvm.Cond.methodLink "WakingLayers$Reader" (162 : Nat) ({ cls := "WakingLayers$Reader", name := "takeOwner", desc := "()I" } : Jvm.MethodName) ∈ x_ws := x_in 760 (by decide +kernel) rfl
theorem xw_762 : Jvm.Cond.instanceMethod ({ cls := "WakingLayers$Reader", name := "takeOwner", desc := "()I" } : Jvm.MethodName) ∈ x_ws := x_in 762 (by decide +kernel) rfl
theorem xw_763 : Jvm.Cond.code ({ cls := "WakingLayers$Reader", name := "takeOwner", desc := "()I" } : Jvm.MethodName) prog_7_method_13_code (1 : Nat) (Option.some Jvm.ClassFile.FieldType.int) ∈ x_ws := x_in 763 (by decide +kernel) rfl
theorem xw_766 : Jvm.Cond.methodLink "WakingLayers$Reader" (168 : Nat) ({ cls := "WakingLayers$Body", name := "begin", desc := "(IIII)V" } : Jvm.MethodName) ∈ x_ws := x_in 766 (by decide +kernel) rfl
theorem xw_767 : Jvm.Cond.instanceMethod ({ cls := "WakingLayers$Body", name := "begin", desc := "(IIII)V" } : Jvm.MethodName) ∈ x_ws := x_in 767 (by decide +kernel) rfl
theorem xw_768 : Jvm.Cond.selects "WakingLayers$Body" ({ cls := "WakingLayers$Body", name := "begin", desc := "(IIII)V" } : Jvm.MethodName) ({ cls := "WakingLayers$Body", name := "begin", desc := "(IIII)V" } : Jvm.MethodName) ∈ x_ws := x_in 768 (by decide +kernel) rfl
theorem xw_769 : Jvm.Cond.code ({ cls := "WakingLayers$Body", name := "begin", desc := "(IIII)V" } : Jvm.MethodName) prog_3_method_2_code (5 : Nat) (Option.none : Option Jvm.ClassFile.FieldType) ∈ x_ws := x_in 769 (by decide +kernel) rfl
theorem xw_770 : Jvm.Cond.methodLink "WakingLayers$Reader" (173 : Nat) ({ cls := "WakingLayers$Reader", name := "readAct", desc := "(LWakingLayers$Body;)V" } : Jvm.MethodName) ∈ x_ws := x_in 770 (by decide +kernel) rfl
theorem xw_772 : Jvm.Cond.instanceMethod ({ cls := "WakingLayers$Reader", name := "readAct", desc := "(LWakingLayers$Body;)V" } : Jvm.MethodName) ∈ x_ws := x_in 772 (by decide +kernel) rfl
theorem xw_773 : Jvm.Cond.code ({ cls := "WakingLayers$Reader", name := "readAct", desc := "(LWakingLayers$Body;)V" } : Jvm.MethodName) prog_7_method_11_code (5 : Nat) (Option.none : Option Jvm.ClassFile.FieldType) ∈ x_ws := x_in 773 (by decide +kernel) rfl
theorem xw_775 : Jvm.Cond.methodLink "WakingLayers$Reader" (185 : Nat) ({ cls := "WakingLayers$Reader", name := "refuseUnwoken", desc := "()V" } : Jvm.MethodName) ∈ x_ws := x_in 775 (by decide +kernel) rfl
theorem xw_777 : Jvm.Cond.instanceMethod ({ cls := "WakingLayers$Reader", name := "refuseUnwoken", desc := "()V" } : Jvm.MethodName) ∈ x_ws := x_in 777 (by decide +kernel) rfl
theorem xw_778 : Jvm.Cond.code ({ cls := "WakingLayers$Reader", name := "refuseUnwoken", desc := "()V" } : Jvm.MethodName) prog_7_method_14_code (1 : Nat) (Option.none : Option Jvm.ClassFile.FieldType) ∈ x_ws := x_in 778 (by decide +kernel) rfl
theorem xw_779 : Jvm.Cond.methodLink "WakingLayers$Reader" (197 : Nat) ({ cls := "WakingLayers$Program", name := "isLayer", desc := "(I)Z" } : Jvm.MethodName) ∈ x_ws := x_in 779 (by decide +kernel) rfl
theorem xw_780 : Jvm.Cond.instanceMethod ({ cls := "WakingLayers$Program", name := "isLayer", desc := "(I)Z" } : Jvm.MethodName) ∈ x_ws := x_in 780 (by decide +kernel) rfl
theorem xw_781 : Jvm.Cond.selects "WakingLayers$Program" ({ cls := "WakingLayers$Program", name := "isLayer", desc := "(I)Z" } : Jvm.MethodName) ({ cls := "WakingLayers$Program", name := "isLayer", desc := "(I)Z" } : Jvm.MethodName) ∈ x_ws := x_in 781 (by decide +kernel) rfl
theorem xw_782 : Jvm.Cond.code ({ cls := "WakingLayers$Program", name := "isLayer", desc := "(I)Z" } : Jvm.MethodName) prog_6_method_3_code (2 : Nat) (Option.some Jvm.ClassFile.FieldType.boolean) ∈ x_ws := x_in 782 (by decide +kernel) rfl
theorem xw_783 : Jvm.Cond.methodLink "WakingLayers$Reader" (201 : Nat) ({ cls := "WakingLayers$Layer", name := "isWoken", desc := "()Z" } : Jvm.MethodName) ∈ x_ws := x_in 783 (by decide +kernel) rfl
theorem xw_784 : Jvm.Cond.instanceMethod ({ cls := "WakingLayers$Layer", name := "isWoken", desc := "()Z" } : Jvm.MethodName) ∈ x_ws := x_in 784 (by decide +kernel) rfl
theorem xw_785 : Jvm.Cond.selects "WakingLayers$Layer" ({ cls := "WakingLayers$Layer", name := "isWoken", desc := "()Z" } : Jvm.MethodName) ({ cls := "WakingLayers$Layer", name := "isWoken", desc := "()Z" } : Jvm.MethodName) ∈ x_ws := x_in 785 (by decide +kernel) rfl
theorem xw_786 : Jvm.Cond.code ({ cls := "WakingLayers$Layer", name := "isWoken", desc := "()Z" } : Jvm.MethodName) prog_5_method_4_code (1 : Nat) (Option.some Jvm.ClassFile.FieldType.boolean) ∈ x_ws := x_in 786 (by decide +kernel) rfl
theorem xw_787 : Jvm.Cond.methodLink "WakingLayers$Reader" (188 : Nat) ({ cls := "WakingLayers$Body", name := "addAct", desc := "(III)V" } : Jvm.MethodName) ∈ x_ws := x_in 787 (by decide +kernel) rfl
theorem xw_788 : Jvm.Cond.instanceMethod ({ cls := "WakingLayers$Body", name := "addAct", desc := "(III)V" } : Jvm.MethodName) ∈ x_ws := x_in 788 (by decide +kernel) rfl
theorem xw_789 : Jvm.Cond.selects "WakingLayers$Body" ({ cls := "WakingLayers$Body", name := "addAct", desc := "(III)V" } : Jvm.MethodName) ({ cls := "WakingLayers$Body", name := "addAct", desc := "(III)V" } : Jvm.MethodName) ∈ x_ws := x_in 789 (by decide +kernel) rfl
theorem xw_790 : Jvm.Cond.code ({ cls := "WakingLayers$Body", name := "addAct", desc := "(III)V" } : Jvm.MethodName) prog_3_method_3_code (4 : Nat) (Option.none : Option Jvm.ClassFile.FieldType) ∈ x_ws := x_in 790 (by decide +kernel) rfl
theorem xw_791 : Jvm.Cond.methodLink "WakingLayers$Reader" (44 : Nat) ({ cls := "WakingLayers$Program", name := "restoreCounts", desc := "()V" } : Jvm.MethodName) ∈ x_ws := x_in 791 (by decide +kernel) rfl
theorem xw_792 : Jvm.Cond.instanceMethod ({ cls := "WakingLayers$Program", name := "restoreCounts", desc := "()V" } : Jvm.MethodName) ∈ x_ws := x_in 792 (by decide +kernel) rfl
theorem xw_793 : Jvm.Cond.selects "WakingLayers$Program" ({ cls := "WakingLayers$Program", name := "restoreCounts", desc := "()V" } : Jvm.MethodName) ({ cls := "WakingLayers$Program", name := "restoreCounts", desc := "()V" } : Jvm.MethodName) ∈ x_ws := x_in 793 (by decide +kernel) rfl
theorem xw_794 : Jvm.Cond.code ({ cls := "WakingLayers$Program", name := "restoreCounts", desc := "()V" } : Jvm.MethodName) prog_6_method_7_code (1 : Nat) (Option.none : Option Jvm.ClassFile.FieldType) ∈ x_ws := x_in 794 (by decide +kernel) rfl
theorem xw_795 : Jvm.Cond.methodLink "WakingLayers$Reader" (47 : Nat) ({ cls := "WakingLayers$Tape", name := "clear", desc := "()V" } : Jvm.MethodName) ∈ x_ws := x_in 795 (by decide +kernel) rfl
theorem xw_796 : Jvm.Cond.instanceMethod ({ cls := "WakingLayers$Tape", name := "clear", desc := "()V" } : Jvm.MethodName) ∈ x_ws := x_in 796 (by decide +kernel) rfl
theorem xw_797 : Jvm.Cond.selects "WakingLayers$Tape" ({ cls := "WakingLayers$Tape", name := "clear", desc := "()V" } : Jvm.MethodName) ({ cls := "WakingLayers$Tape", name := "clear", desc := "()V" } : Jvm.MethodName) ∈ x_ws := x_in 797 (by decide +kernel) rfl
theorem xw_798 : Jvm.Cond.code ({ cls := "WakingLayers$Tape", name := "clear", desc := "()V" } : Jvm.MethodName) prog_12_method_5_code (1 : Nat) (Option.none : Option Jvm.ClassFile.FieldType) ∈ x_ws := x_in 798 (by decide +kernel) rfl
theorem xw_799 : Jvm.Cond.constant "WakingLayers" (143 : Nat) (-1000100 : Int32) ∈ x_ws := x_in 799 (by decide +kernel) rfl
theorem xw_804 : Jvm.Cond.code ({ cls := "WakingLayers", name := "fault", desc := "()I" } : Jvm.MethodName) prog_1_method_8_code (1 : Nat) (Option.some Jvm.ClassFile.FieldType.int) ∈ x_ws := x_in 804 (by decide +kernel) rfl
theorem xw_805 : Jvm.Cond.methodLink "WakingLayers" (144 : Nat) ({ cls := "WakingLayers$Reader", name := "latestFault", desc := "()I" } : Jvm.MethodName) ∈ x_ws := x_in 805 (by decide +kernel) rfl
theorem xw_806 : Jvm.Cond.instanceMethod ({ cls := "WakingLayers$Reader", name := "latestFault", desc := "()I" } : Jvm.MethodName) ∈ x_ws := x_in 806 (by decide +kernel) rfl
theorem xw_807 : Jvm.Cond.selects "WakingLayers$Reader" ({ cls := "WakingLayers$Reader", name := "latestFault", desc := "()I" } : Jvm.MethodName) ({ cls := "WakingLayers$Reader", name := "latestFault", desc := "()I" } : Jvm.MethodName) ∈ x_ws := x_in 807 (by decide +kernel) rfl
theorem xw_808 : Jvm.Cond.code ({ cls := "WakingLayers$Reader", name := "latestFault", desc := "()I" } : Jvm.MethodName) prog_7_method_2_code (1 : Nat) (Option.some Jvm.ClassFile.FieldType.int) ∈ x_ws := x_in 808 (by decide +kernel) rfl
theorem xw_812 : Jvm.Cond.code ({ cls := "WakingLayers", name := "layer", desc := "(II)I" } : Jvm.MethodName) prog_1_method_9_code (4 : Nat) (Option.some Jvm.ClassFile.FieldType.int) ∈ x_ws := x_in 812 (by decide +kernel) rfl
theorem xw_813 : Jvm.Cond.methodLink "WakingLayers" (147 : Nat) ({ cls := "WakingLayers$Program", name := "isLayer", desc := "(I)Z" } : Jvm.MethodName) ∈ x_ws := x_in 813 (by decide +kernel) rfl
theorem xw_814 : Jvm.Cond.methodLink "WakingLayers" (168 : Nat) ({ cls := "WakingLayers$Circumstances", name := "isAwake", desc := "(I)Z" } : Jvm.MethodName) ∈ x_ws := x_in 814 (by decide +kernel) rfl
theorem xw_815 : Jvm.Cond.instanceMethod ({ cls := "WakingLayers$Circumstances", name := "isAwake", desc := "(I)Z" } : Jvm.MethodName) ∈ x_ws := x_in 815 (by decide +kernel) rfl
theorem xw_816 : Jvm.Cond.selects "WakingLayers$Circumstances" ({ cls := "WakingLayers$Circumstances", name := "isAwake", desc := "(I)Z" } : Jvm.MethodName) ({ cls := "WakingLayers$Circumstances", name := "isAwake", desc := "(I)Z" } : Jvm.MethodName) ∈ x_ws := x_in 816 (by decide +kernel) rfl
theorem xw_817 : Jvm.Cond.code ({ cls := "WakingLayers$Circumstances", name := "isAwake", desc := "(I)Z" } : Jvm.MethodName) prog_4_method_14_code (2 : Nat) (Option.some Jvm.ClassFile.FieldType.boolean) ∈ x_ws := x_in 817 (by decide +kernel) rfl
theorem xw_818 : Jvm.Cond.methodLink "WakingLayers$Circumstances" (41 : Nat) ({ cls := "WakingLayers$Circumstances", name := "awakeSet", desc := "()I" } : Jvm.MethodName) ∈ x_ws := x_in 818 (by decide +kernel) rfl
theorem xw_819 : Jvm.Cond.instanceMethod ({ cls := "WakingLayers$Circumstances", name := "awakeSet", desc := "()I" } : Jvm.MethodName) ∈ x_ws := x_in 819 (by decide +kernel) rfl
theorem xw_820 : Jvm.Cond.selects "WakingLayers$Circumstances" ({ cls := "WakingLayers$Circumstances", name := "awakeSet", desc := "()I" } : Jvm.MethodName) ({ cls := "WakingLayers$Circumstances", name := "awakeSet", desc := "()I" } : Jvm.MethodName) ∈ x_ws := x_in 820 (by decide +kernel) rfl
theorem xw_821 : Jvm.Cond.code ({ cls := "WakingLayers$Circumstances", name := "awakeSet", desc := "()I" } : Jvm.MethodName) prog_4_method_13_code (1 : Nat) (Option.some Jvm.ClassFile.FieldType.int) ∈ x_ws := x_in 821 (by decide +kernel) rfl
theorem xw_822 : Jvm.Cond.methodLink "WakingLayers$Circumstances" (37 : Nat) ({ cls := "WakingLayers$Circumstances", name := "awakeUnasked", desc := "()I" } : Jvm.MethodName) ∈ x_ws := x_in 822 (by decide +kernel) rfl
theorem xw_824 : Jvm.Cond.instanceMethod ({ cls := "WakingLayers$Circumstances", name := "awakeUnasked", desc := "()I" } : Jvm.MethodName) ∈ x_ws := x_in 824 (by decide +kernel) rfl
theorem xw_825 : Jvm.Cond.code ({ cls := "WakingLayers$Circumstances", name := "awakeUnasked", desc := "()I" } : Jvm.MethodName) prog_4_method_15_code (3 : Nat) (Option.some Jvm.ClassFile.FieldType.int) ∈ x_ws := x_in 825 (by decide +kernel) rfl
theorem xw_826 : Jvm.Cond.methodLink "WakingLayers" (171 : Nat) ({ cls := "WakingLayers$Circumstances", name := "openOf", desc := "(I)I" } : Jvm.MethodName) ∈ x_ws := x_in 826 (by decide +kernel) rfl
theorem xw_827 : Jvm.Cond.instanceMethod ({ cls := "WakingLayers$Circumstances", name := "openOf", desc := "(I)I" } : Jvm.MethodName) ∈ x_ws := x_in 827 (by decide +kernel) rfl
theorem xw_828 : Jvm.Cond.selects "WakingLayers$Circumstances" ({ cls := "WakingLayers$Circumstances", name := "openOf", desc := "(I)I" } : Jvm.MethodName) ({ cls := "WakingLayers$Circumstances", name := "openOf", desc := "(I)I" } : Jvm.MethodName) ∈ x_ws := x_in 828 (by decide +kernel) rfl
theorem xw_829 : Jvm.Cond.code ({ cls := "WakingLayers$Circumstances", name := "openOf", desc := "(I)I" } : Jvm.MethodName) prog_4_method_5_code (4 : Nat) (Option.some Jvm.ClassFile.FieldType.int) ∈ x_ws := x_in 829 (by decide +kernel) rfl
theorem xw_833 : Jvm.Cond.code ({ cls := "WakingLayers", name := "fact", desc := "(II)I" } : Jvm.MethodName) prog_1_method_10_code (3 : Nat) (Option.some Jvm.ClassFile.FieldType.int) ∈ x_ws := x_in 833 (by decide +kernel) rfl
theorem xw_834 : Jvm.Cond.methodLink "WakingLayers" (174 : Nat) ({ cls := "WakingLayers$Circumstances", name := "isFactValue", desc := "(I)Z" } : Jvm.MethodName) ∈ x_ws := x_in 834 (by decide +kernel) rfl
theorem xw_835 : Jvm.Cond.static ({ cls := "WakingLayers$Circumstances", name := "isFactValue", desc := "(I)Z" } : Jvm.MethodName) ∈ x_ws := x_in 835 (by decide +kernel) rfl
theorem xw_836 : Jvm.Cond.code ({ cls := "WakingLayers$Circumstances", name := "isFactValue", desc := "(I)Z" } : Jvm.MethodName) prog_4_method_2_code (1 : Nat) (Option.some Jvm.ClassFile.FieldType.boolean) ∈ x_ws := x_in 836 (by decide +kernel) rfl
theorem xw_837 : Jvm.Cond.methodLink "WakingLayers" (177 : Nat) ({ cls := "WakingLayers$Circumstances", name := "tell", desc := "(II)I" } : Jvm.MethodName) ∈ x_ws := x_in 837 (by decide +kernel) rfl
theorem xw_838 : Jvm.Cond.instanceMethod ({ cls := "WakingLayers$Circumstances", name := "tell", desc := "(II)I" } : Jvm.MethodName) ∈ x_ws := x_in 838 (by decide +kernel) rfl
theorem xw_839 : Jvm.Cond.selects "WakingLayers$Circumstances" ({ cls := "WakingLayers$Circumstances", name := "tell", desc := "(II)I" } : Jvm.MethodName) ({ cls := "WakingLayers$Circumstances", name := "tell", desc := "(II)I" } : Jvm.MethodName) ∈ x_ws := x_in 839 (by decide +kernel) rfl
theorem xw_840 : Jvm.Cond.code ({ cls := "WakingLayers$Circumstances", name := "tell", desc := "(II)I" } : Jvm.MethodName) prog_4_method_3_code (4 : Nat) (Option.some Jvm.ClassFile.FieldType.int) ∈ x_ws := x_in 840 (by decide +kernel) rfl
theorem xw_844 : Jvm.Cond.code ({ cls := "WakingLayers", name := "facts", desc := "(III)I" } : Jvm.MethodName) prog_1_method_11_code (5 : Nat) (Option.some Jvm.ClassFile.FieldType.int) ∈ x_ws := x_in 844 (by decide +kernel) rfl
theorem xw_845 : Jvm.Cond.methodLink "WakingLayers" (181 : Nat) ({ cls := "WakingLayers$Sheets", name := "item", desc := "(II)I" } : Jvm.MethodName) ∈ x_ws := x_in 845 (by decide +kernel) rfl
theorem xw_846 : Jvm.Cond.instanceMethod ({ cls := "WakingLayers$Sheets", name := "item", desc := "(II)I" } : Jvm.MethodName) ∈ x_ws := x_in 846 (by decide +kernel) rfl
theorem xw_847 : Jvm.Cond.selects "WakingLayers$Sheets" ({ cls := "WakingLayers$Sheets", name := "item", desc := "(II)I" } : Jvm.MethodName) ({ cls := "WakingLayers$Sheets", name := "item", desc := "(II)I" } : Jvm.MethodName) ∈ x_ws := x_in 847 (by decide +kernel) rfl
theorem xw_848 : Jvm.Cond.code ({ cls := "WakingLayers$Sheets", name := "item", desc := "(II)I" } : Jvm.MethodName) prog_10_method_9_code (3 : Nat) (Option.some Jvm.ClassFile.FieldType.int) ∈ x_ws := x_in 848 (by decide +kernel) rfl
theorem xw_852 : Jvm.Cond.code ({ cls := "WakingLayers", name := "point", desc := "()I" } : Jvm.MethodName) prog_1_method_12_code (1 : Nat) (Option.some Jvm.ClassFile.FieldType.int) ∈ x_ws := x_in 852 (by decide +kernel) rfl
theorem xw_853 : Jvm.Cond.methodLink "WakingLayers" (184 : Nat) ({ cls := "WakingLayers$Circumstances", name := "takePoint", desc := "()I" } : Jvm.MethodName) ∈ x_ws := x_in 853 (by decide +kernel) rfl
theorem xw_854 : Jvm.Cond.instanceMethod ({ cls := "WakingLayers$Circumstances", name := "takePoint", desc := "()I" } : Jvm.MethodName) ∈ x_ws := x_in 854 (by decide +kernel) rfl
theorem xw_855 : Jvm.Cond.selects "WakingLayers$Circumstances" ({ cls := "WakingLayers$Circumstances", name := "takePoint", desc := "()I" } : Jvm.MethodName) ({ cls := "WakingLayers$Circumstances", name := "takePoint", desc := "()I" } : Jvm.MethodName) ∈ x_ws := x_in 855 (by decide +kernel) rfl
theorem xw_856 : Jvm.Cond.code ({ cls := "WakingLayers$Circumstances", name := "takePoint", desc := "()I" } : Jvm.MethodName) prog_4_method_16_code (1 : Nat) (Option.some Jvm.ClassFile.FieldType.int) ∈ x_ws := x_in 856 (by decide +kernel) rfl
theorem xw_857 : Jvm.Cond.methodLink "WakingLayers$Circumstances" (58 : Nat) ({ cls := "WakingLayers$Circumstances", name := "foundAtPoint", desc := "([I)I" } : Jvm.MethodName) ∈ x_ws := x_in 857 (by decide +kernel) rfl
theorem xw_858 : Jvm.Cond.instanceMethod ({ cls := "WakingLayers$Circumstances", name := "foundAtPoint", desc := "([I)I" } : Jvm.MethodName) ∈ x_ws := x_in 858 (by decide +kernel) rfl
theorem xw_859 : Jvm.Cond.selects "WakingLayers$Circumstances" ({ cls := "WakingLayers$Circumstances", name := "foundAtPoint", desc := "([I)I" } : Jvm.MethodName) ({ cls := "WakingLayers$Circumstances", name := "foundAtPoint", desc := "([I)I" } : Jvm.MethodName) ∈ x_ws := x_in 859 (by decide +kernel) rfl
theorem xw_860 : Jvm.Cond.code ({ cls := "WakingLayers$Circumstances", name := "foundAtPoint", desc := "([I)I" } : Jvm.MethodName) prog_4_method_17_code (7 : Nat) (Option.some Jvm.ClassFile.FieldType.int) ∈ x_ws := x_in 860 (by decide +kernel) rfl
theorem xw_861 : Jvm.Cond.methodLink "WakingLayers$Circumstances" (62 : Nat) ({ cls := "WakingLayers$Layer", name := "testHolds", desc := "([I)Z" } : Jvm.MethodName) ∈ x_ws := x_in 861 (by decide +kernel) rfl
theorem xw_862 : Jvm.Cond.instanceMethod ({ cls := "WakingLayers$Layer", name := "testHolds", desc := "([I)Z" } : Jvm.MethodName) ∈ x_ws := x_in 862 (by decide +kernel) rfl
theorem xw_863 : Jvm.Cond.selects "WakingLayers$Layer" ({ cls := "WakingLayers$Layer", name := "testHolds", desc := "([I)Z" } : Jvm.MethodName) ({ cls := "WakingLayers$Layer", name := "testHolds", desc := "([I)Z" } : Jvm.MethodName) ∈ x_ws := x_in 863 (by decide +kernel) rfl
theorem xw_864 : Jvm.Cond.code ({ cls := "WakingLayers$Layer", name := "testHolds", desc := "([I)Z" } : Jvm.MethodName) prog_5_method_5_code (3 : Nat) (Option.some Jvm.ClassFile.FieldType.boolean) ∈ x_ws := x_in 864 (by decide +kernel) rfl
theorem xw_865 : Jvm.Cond.methodLink "WakingLayers$Circumstances" (32 : Nat) ({ cls := "WakingLayers$Circumstances", name := "settled", desc := "(I)I" } : Jvm.MethodName) ∈ x_ws := x_in 865 (by decide +kernel) rfl
theorem xw_866 : Jvm.Cond.instanceMethod ({ cls := "WakingLayers$Circumstances", name := "settled", desc := "(I)I" } : Jvm.MethodName) ∈ x_ws := x_in 866 (by decide +kernel) rfl
theorem xw_867 : Jvm.Cond.selects "WakingLayers$Circumstances" ({ cls := "WakingLayers$Circumstances", name := "settled", desc := "(I)I" } : Jvm.MethodName) ({ cls := "WakingLayers$Circumstances", name := "settled", desc := "(I)I" } : Jvm.MethodName) ∈ x_ws := x_in 867 (by decide +kernel) rfl
theorem xw_868 : Jvm.Cond.code ({ cls := "WakingLayers$Circumstances", name := "settled", desc := "(I)I" } : Jvm.MethodName) prog_4_method_18_code (5 : Nat) (Option.some Jvm.ClassFile.FieldType.int) ∈ x_ws := x_in 868 (by decide +kernel) rfl
theorem xw_872 : Jvm.Cond.code ({ cls := "WakingLayers", name := "wake", desc := "(II)I" } : Jvm.MethodName) prog_1_method_13_code (4 : Nat) (Option.some Jvm.ClassFile.FieldType.int) ∈ x_ws := x_in 872 (by decide +kernel) rfl
theorem xw_873 : Jvm.Cond.methodLink "WakingLayers" (187 : Nat) ({ cls := "WakingLayers$Layer", name := "isWoken", desc := "()Z" } : Jvm.MethodName) ∈ x_ws := x_in 873 (by decide +kernel) rfl
theorem xw_874 : Jvm.Cond.methodLink "WakingLayers" (191 : Nat) ({ cls := "WakingLayers$Program", name := "isThing", desc := "(I)Z" } : Jvm.MethodName) ∈ x_ws := x_in 874 (by decide +kernel) rfl
theorem xw_875 : Jvm.Cond.instanceMethod ({ cls := "WakingLayers$Program", name := "isThing", desc := "(I)Z" } : Jvm.MethodName) ∈ x_ws := x_in 875 (by decide +kernel) rfl
theorem xw_876 : Jvm.Cond.selects "WakingLayers$Program" ({ cls := "WakingLayers$Program", name := "isThing", desc := "(I)Z" } : Jvm.MethodName) ({ cls := "WakingLayers$Program", name := "isThing", desc := "(I)Z" } : Jvm.MethodName) ∈ x_ws := x_in 876 (by decide +kernel) rfl
theorem xw_877 : Jvm.Cond.code ({ cls := "WakingLayers$Program", name := "isThing", desc := "(I)Z" } : Jvm.MethodName) prog_6_method_2_code (2 : Nat) (Option.some Jvm.ClassFile.FieldType.boolean) ∈ x_ws := x_in 877 (by decide +kernel) rfl
theorem xw_878 : Jvm.Cond.constant "WakingLayers" (194 : Nat) (-1000000 : Int32) ∈ x_ws := x_in 878 (by decide +kernel) rfl
theorem xw_879 : Jvm.Cond.methodLink "WakingLayers" (195 : Nat) ({ cls := "WakingLayers$Circumstances", name := "openWaking", desc := "(II)Z" } : Jvm.MethodName) ∈ x_ws := x_in 879 (by decide +kernel) rfl
theorem xw_880 : Jvm.Cond.instanceMethod ({ cls := "WakingLayers$Circumstances", name := "openWaking", desc := "(II)Z" } : Jvm.MethodName) ∈ x_ws := x_in 880 (by decide +kernel) rfl
theorem xw_881 : Jvm.Cond.selects "WakingLayers$Circumstances" ({ cls := "WakingLayers$Circumstances", name := "openWaking", desc := "(II)Z" } : Jvm.MethodName) ({ cls := "WakingLayers$Circumstances", name := "openWaking", desc := "(II)Z" } : Jvm.MethodName) ∈ x_ws := x_in 881 (by decide +kernel) rfl
theorem xw_882 : Jvm.Cond.code ({ cls := "WakingLayers$Circumstances", name := "openWaking", desc := "(II)Z" } : Jvm.MethodName) prog_4_method_6_code (3 : Nat) (Option.some Jvm.ClassFile.FieldType.boolean) ∈ x_ws := x_in 882 (by decide +kernel) rfl
theorem xw_883 : Jvm.Cond.methodLink "WakingLayers" (198 : Nat) ({ cls := "WakingLayers$Circumstances", name := "openCount", desc := "()I" } : Jvm.MethodName) ∈ x_ws := x_in 883 (by decide +kernel) rfl
theorem xw_884 : Jvm.Cond.instanceMethod ({ cls := "WakingLayers$Circumstances", name := "openCount", desc := "()I" } : Jvm.MethodName) ∈ x_ws := x_in 884 (by decide +kernel) rfl
theorem xw_885 : Jvm.Cond.selects "WakingLayers$Circumstances" ({ cls := "WakingLayers$Circumstances", name := "openCount", desc := "()I" } : Jvm.MethodName) ({ cls := "WakingLayers$Circumstances", name := "openCount", desc := "()I" } : Jvm.MethodName) ∈ x_ws := x_in 885 (by decide +kernel) rfl
theorem xw_886 : Jvm.Cond.code ({ cls := "WakingLayers$Circumstances", name := "openCount", desc := "()I" } : Jvm.MethodName) prog_4_method_4_code (1 : Nat) (Option.some Jvm.ClassFile.FieldType.int) ∈ x_ws := x_in 886 (by decide +kernel) rfl
theorem xw_890 : Jvm.Cond.code ({ cls := "WakingLayers", name := "sleep", desc := "(I)I" } : Jvm.MethodName) prog_1_method_14_code (2 : Nat) (Option.some Jvm.ClassFile.FieldType.int) ∈ x_ws := x_in 890 (by decide +kernel) rfl
theorem xw_891 : Jvm.Cond.methodLink "WakingLayers" (201 : Nat) ({ cls := "WakingLayers$Circumstances", name := "closeLatest", desc := "(I)Z" } : Jvm.MethodName) ∈ x_ws := x_in 891 (by decide +kernel) rfl
theorem xw_892 : Jvm.Cond.instanceMethod ({ cls := "WakingLayers$Circumstances", name := "closeLatest", desc := "(I)Z" } : Jvm.MethodName) ∈ x_ws := x_in 892 (by decide +kernel) rfl
theorem xw_893 : Jvm.Cond.selects "WakingLayers$Circumstances" ({ cls := "WakingLayers$Circumstances", name := "closeLatest", desc := "(I)Z" } : Jvm.MethodName) ({ cls := "WakingLayers$Circumstances", name := "closeLatest", desc := "(I)Z" } : Jvm.MethodName) ∈ x_ws := x_in 893 (by decide +kernel) rfl
theorem xw_894 : Jvm.Cond.code ({ cls := "WakingLayers$Circumstances", name := "closeLatest", desc := "(I)Z" } : Jvm.MethodName) prog_4_method_7_code (4 : Nat) (Option.some Jvm.ClassFile.FieldType.boolean) ∈ x_ws := x_in 894 (by decide +kernel) rfl
theorem xw_895 : Jvm.Cond.constant "WakingLayers" (204 : Nat) (-1000002 : Int32) ∈ x_ws := x_in 895 (by decide +kernel) rfl
theorem xw_899 : Jvm.Cond.code ({ cls := "WakingLayers", name := "row", desc := "(III)I" } : Jvm.MethodName) prog_1_method_15_code (5 : Nat) (Option.some Jvm.ClassFile.FieldType.int) ∈ x_ws := x_in 899 (by decide +kernel) rfl
theorem xw_900 : Jvm.Cond.methodLink "WakingLayers" (205 : Nat) ({ cls := "WakingLayers", name := "isRoutine", desc := "(I)Z" } : Jvm.MethodName) ∈ x_ws := x_in 900 (by decide +kernel) rfl
theorem xw_901 : Jvm.Cond.static ({ cls := "WakingLayers", name := "isRoutine", desc := "(I)Z" } : Jvm.MethodName) ∈ x_ws := x_in 901 (by decide +kernel) rfl
theorem xw_902 : Jvm.Cond.code ({ cls := "WakingLayers", name := "isRoutine", desc := "(I)Z" } : Jvm.MethodName) prog_1_method_29_code (1 : Nat) (Option.some Jvm.ClassFile.FieldType.boolean) ∈ x_ws := x_in 902 (by decide +kernel) rfl
theorem xw_903 : Jvm.Cond.methodLink "WakingLayers" (208 : Nat) ({ cls := "WakingLayers$Rows", name := "fill", desc := "([III)I" } : Jvm.MethodName) ∈ x_ws := x_in 903 (by decide +kernel) rfl
theorem xw_904 : Jvm.Cond.instanceMethod ({ cls := "WakingLayers$Rows", name := "fill", desc := "([III)I" } : Jvm.MethodName) ∈ x_ws := x_in 904 (by decide +kernel) rfl
theorem xw_905 : Jvm.Cond.selects "WakingLayers$Rows" ({ cls := "WakingLayers$Rows", name := "fill", desc := "([III)I" } : Jvm.MethodName) ({ cls := "WakingLayers$Rows", name := "fill", desc := "([III)I" } : Jvm.MethodName) ∈ x_ws := x_in 905 (by decide +kernel) rfl
theorem xw_906 : Jvm.Cond.code ({ cls := "WakingLayers$Rows", name := "fill", desc := "([III)I" } : Jvm.MethodName) prog_8_method_2_code (7 : Nat) (Option.some Jvm.ClassFile.FieldType.int) ∈ x_ws := x_in 906 (by decide +kernel) rfl
theorem xw_907 : Jvm.Cond.methodLink "WakingLayers$Rows" (29 : Nat) ({ cls := "WakingLayers$Rows", name := "gatherFitting", desc := "(II)V" } : Jvm.MethodName) ∈ x_ws := x_in 907 (by decide +kernel) rfl
theorem xw_909 : Jvm.Cond.instanceMethod ({ cls := "WakingLayers$Rows", name := "gatherFitting", desc := "(II)V" } : Jvm.MethodName) ∈ x_ws := x_in 909 (by decide +kernel) rfl
theorem xw_910 : Jvm.Cond.code ({ cls := "WakingLayers$Rows", name := "gatherFitting", desc := "(II)V" } : Jvm.MethodName) prog_8_method_5_code (6 : Nat) (Option.none : Option Jvm.ClassFile.FieldType) ∈ x_ws := x_in 910 (by decide +kernel) rfl
theorem xw_911 : Jvm.Cond.methodLink "WakingLayers$Rows" (86 : Nat) ({ cls := "WakingLayers$Body", name := "isFor", desc := "(II)Z" } : Jvm.MethodName) ∈ x_ws := x_in 911 (by decide +kernel) rfl
theorem xw_912 : Jvm.Cond.instanceMethod ({ cls := "WakingLayers$Body", name := "isFor", desc := "(II)Z" } : Jvm.MethodName) ∈ x_ws := x_in 912 (by decide +kernel) rfl
theorem xw_913 : Jvm.Cond.selects "WakingLayers$Body" ({ cls := "WakingLayers$Body", name := "isFor", desc := "(II)Z" } : Jvm.MethodName) ({ cls := "WakingLayers$Body", name := "isFor", desc := "(II)Z" } : Jvm.MethodName) ∈ x_ws := x_in 913 (by decide +kernel) rfl
theorem xw_914 : Jvm.Cond.code ({ cls := "WakingLayers$Body", name := "isFor", desc := "(II)Z" } : Jvm.MethodName) prog_3_method_4_code (3 : Nat) (Option.some Jvm.ClassFile.FieldType.boolean) ∈ x_ws := x_in 914 (by decide +kernel) rfl
theorem xw_915 : Jvm.Cond.methodLink "WakingLayers$Rows" (40 : Nat) ({ cls := "WakingLayers$Rows", name := "weight", desc := "(II)I" } : Jvm.MethodName) ∈ x_ws := x_in 915 (by decide +kernel) rfl
theorem xw_917 : Jvm.Cond.instanceMethod ({ cls := "WakingLayers$Rows", name := "weight", desc := "(II)I" } : Jvm.MethodName) ∈ x_ws := x_in 917 (by decide +kernel) rfl
theorem xw_918 : Jvm.Cond.code ({ cls := "WakingLayers$Rows", name := "weight", desc := "(II)I" } : Jvm.MethodName) prog_8_method_3_code (5 : Nat) (Option.some Jvm.ClassFile.FieldType.int) ∈ x_ws := x_in 918 (by decide +kernel) rfl
theorem xw_919 : Jvm.Cond.methodLink "WakingLayers$Rows" (58 : Nat) ({ cls := "WakingLayers$Layer", name := "isWoken", desc := "()Z" } : Jvm.MethodName) ∈ x_ws := x_in 919 (by decide +kernel) rfl
theorem xw_920 : Jvm.Cond.methodLink "WakingLayers$Rows" (64 : Nat) ({ cls := "WakingLayers$Circumstances", name := "latestOpen", desc := "(II)I" } : Jvm.MethodName) ∈ x_ws := x_in 920 (by decide +kernel) rfl
theorem xw_921 : Jvm.Cond.instanceMethod ({ cls := "WakingLayers$Circumstances", name := "latestOpen", desc := "(II)I" } : Jvm.MethodName) ∈ x_ws := x_in 921 (by decide +kernel) rfl
theorem xw_922 : Jvm.Cond.selects "WakingLayers$Circumstances" ({ cls := "WakingLayers$Circumstances", name := "latestOpen", desc := "(II)I" } : Jvm.MethodName) ({ cls := "WakingLayers$Circumstances", name := "latestOpen", desc := "(II)I" } : Jvm.MethodName) ∈ x_ws := x_in 922 (by decide +kernel) rfl
theorem xw_923 : Jvm.Cond.code ({ cls := "WakingLayers$Circumstances", name := "latestOpen", desc := "(II)I" } : Jvm.MethodName) prog_4_method_9_code (5 : Nat) (Option.some Jvm.ClassFile.FieldType.int) ∈ x_ws := x_in 923 (by decide +kernel) rfl
theorem xw_924 : Jvm.Cond.constant "WakingLayers$Circumstances" (36 : Nat) (-1000000 : Int32) ∈ x_ws := x_in 924 (by decide +kernel) rfl
theorem xw_925 : Jvm.Cond.methodLink "WakingLayers$Rows" (75 : Nat) ({ cls := "WakingLayers$Circumstances", name := "isFound", desc := "(I)Z" } : Jvm.MethodName) ∈ x_ws := x_in 925 (by decide +kernel) rfl
theorem xw_926 : Jvm.Cond.instanceMethod ({ cls := "WakingLayers$Circumstances", name := "isFound", desc := "(I)Z" } : Jvm.MethodName) ∈ x_ws := x_in 926 (by decide +kernel) rfl
theorem xw_927 : Jvm.Cond.selects "WakingLayers$Circumstances" ({ cls := "WakingLayers$Circumstances", name := "isFound", desc := "(I)Z" } : Jvm.MethodName) ({ cls := "WakingLayers$Circumstances", name := "isFound", desc := "(I)Z" } : Jvm.MethodName) ∈ x_ws := x_in 927 (by decide +kernel) rfl
theorem xw_928 : Jvm.Cond.code ({ cls := "WakingLayers$Circumstances", name := "isFound", desc := "(I)Z" } : Jvm.MethodName) prog_4_method_10_code (2 : Nat) (Option.some Jvm.ClassFile.FieldType.boolean) ∈ x_ws := x_in 928 (by decide +kernel) rfl
theorem xw_929 : Jvm.Cond.methodLink "WakingLayers$Rows" (44 : Nat) ({ cls := "WakingLayers$Rows", name := "takeHeaviest", desc := "()I" } : Jvm.MethodName) ∈ x_ws := x_in 929 (by decide +kernel) rfl
theorem xw_931 : Jvm.Cond.instanceMethod ({ cls := "WakingLayers$Rows", name := "takeHeaviest", desc := "()I" } : Jvm.MethodName) ∈ x_ws := x_in 931 (by decide +kernel) rfl
theorem xw_932 : Jvm.Cond.code ({ cls := "WakingLayers$Rows", name := "takeHeaviest", desc := "()I" } : Jvm.MethodName) prog_8_method_4_code (4 : Nat) (Option.some Jvm.ClassFile.FieldType.int) ∈ x_ws := x_in 932 (by decide +kernel) rfl
theorem xw_933 : Jvm.Cond.methodLink "WakingLayers$Rows" (48 : Nat) ({ cls := "WakingLayers$Rows", name := "addBodies", desc := "([III)I" } : Jvm.MethodName) ∈ x_ws := x_in 933 (by decide +kernel) rfl
theorem xw_935 : Jvm.Cond.instanceMethod ({ cls := "WakingLayers$Rows", name := "addBodies", desc := "([III)I" } : Jvm.MethodName) ∈ x_ws := x_in 935 (by decide +kernel) rfl
theorem xw_936 : Jvm.Cond.code ({ cls := "WakingLayers$Rows", name := "addBodies", desc := "([III)I" } : Jvm.MethodName) prog_8_method_6_code (6 : Nat) (Option.some Jvm.ClassFile.FieldType.int) ∈ x_ws := x_in 936 (by decide +kernel) rfl
theorem xw_937 : Jvm.Cond.methodLink "WakingLayers$Rows" (93 : Nat) ({ cls := "WakingLayers$Rows", name := "isEnded", desc := "([II)Z" } : Jvm.MethodName) ∈ x_ws := x_in 937 (by decide +kernel) rfl
theorem xw_939 : Jvm.Cond.instanceMethod ({ cls := "WakingLayers$Rows", name := "isEnded", desc := "([II)Z" } : Jvm.MethodName) ∈ x_ws := x_in 939 (by decide +kernel) rfl
theorem xw_940 : Jvm.Cond.code ({ cls := "WakingLayers$Rows", name := "isEnded", desc := "([II)Z" } : Jvm.MethodName) prog_8_method_7_code (3 : Nat) (Option.some Jvm.ClassFile.FieldType.boolean) ∈ x_ws := x_in 940 (by decide +kernel) rfl
theorem xw_944 : Jvm.Cond.code ({ cls := "WakingLayers", name := "call", desc := "(III)I" } : Jvm.MethodName) prog_1_method_16_code (4 : Nat) (Option.some Jvm.ClassFile.FieldType.int) ∈ x_ws := x_in 944 (by decide +kernel) rfl
theorem xw_945 : Jvm.Cond.methodLink "WakingLayers" (212 : Nat) ({ cls := "WakingLayers", name := "isCall", desc := "(III)Z" } : Jvm.MethodName) ∈ x_ws := x_in 945 (by decide +kernel) rfl
theorem xw_947 : Jvm.Cond.instanceMethod ({ cls := "WakingLayers", name := "isCall", desc := "(III)Z" } : Jvm.MethodName) ∈ x_ws := x_in 947 (by decide +kernel) rfl
theorem xw_948 : Jvm.Cond.code ({ cls := "WakingLayers", name := "isCall", desc := "(III)Z" } : Jvm.MethodName) prog_1_method_28_code (4 : Nat) (Option.some Jvm.ClassFile.FieldType.boolean) ∈ x_ws := x_in 948 (by decide +kernel) rfl
theorem xw_949 : Jvm.Cond.constant "WakingLayers" (289 : Nat) (1000003 : Int32) ∈ x_ws := x_in 949 (by decide +kernel) rfl
theorem xw_950 : Jvm.Cond.methodLink "WakingLayers" (215 : Nat) ({ cls := "WakingLayers$Runner", name := "callOutermost", desc := "(III)I" } : Jvm.MethodName) ∈ x_ws := x_in 950 (by decide +kernel) rfl
theorem xw_951 : Jvm.Cond.instanceMethod ({ cls := "WakingLayers$Runner", name := "callOutermost", desc := "(III)I" } : Jvm.MethodName) ∈ x_ws := x_in 951 (by decide +kernel) rfl
theorem xw_952 : Jvm.Cond.selects "WakingLayers$Runner" ({ cls := "WakingLayers$Runner", name := "callOutermost", desc := "(III)I" } : Jvm.MethodName) ({ cls := "WakingLayers$Runner", name := "callOutermost", desc := "(III)I" } : Jvm.MethodName) ∈ x_ws := x_in 952 (by decide +kernel) rfl
theorem xw_953 : Jvm.Cond.code ({ cls := "WakingLayers$Runner", name := "callOutermost", desc := "(III)I" } : Jvm.MethodName) prog_9_method_4_code (4 : Nat) (Option.some Jvm.ClassFile.FieldType.int) ∈ x_ws := x_in 953 (by decide +kernel) rfl
theorem xw_954 : Jvm.Cond.methodLink "WakingLayers$Runner" (49 : Nat) ({ cls := "WakingLayers$Runner", name := "callAt", desc := "(IIII)I" } : Jvm.MethodName) ∈ x_ws := x_in 954 (by decide +kernel) rfl
theorem xw_956 : Jvm.Cond.instanceMethod ({ cls := "WakingLayers$Runner", name := "callAt", desc := "(IIII)I" } : Jvm.MethodName) ∈ x_ws := x_in 956 (by decide +kernel) rfl
theorem xw_957 : Jvm.Cond.code ({ cls := "WakingLayers$Runner", name := "callAt", desc := "(IIII)I" } : Jvm.MethodName) prog_9_method_5_code (5 : Nat) (Option.some Jvm.ClassFile.FieldType.int) ∈ x_ws := x_in 957 (by decide +kernel) rfl
theorem xw_958 : Jvm.Cond.constant "WakingLayers$Runner" (53 : Nat) (-1000004 : Int32) ∈ x_ws := x_in 958 (by decide +kernel) rfl
theorem xw_959 : Jvm.Cond.methodLink "WakingLayers$Runner" (54 : Nat) ({ cls := "WakingLayers$Rows", name := "fill", desc := "([III)I" } : Jvm.MethodName) ∈ x_ws := x_in 959 (by decide +kernel) rfl
theorem xw_960 : Jvm.Cond.methodLink "WakingLayers$Runner" (60 : Nat) ({ cls := "WakingLayers$Runner", name := "runFrom", desc := "(III)I" } : Jvm.MethodName) ∈ x_ws := x_in 960 (by decide +kernel) rfl
theorem xw_962 : Jvm.Cond.instanceMethod ({ cls := "WakingLayers$Runner", name := "runFrom", desc := "(III)I" } : Jvm.MethodName) ∈ x_ws := x_in 962 (by decide +kernel) rfl
theorem xw_963 : Jvm.Cond.code ({ cls := "WakingLayers$Runner", name := "runFrom", desc := "(III)I" } : Jvm.MethodName) prog_9_method_6_code (6 : Nat) (Option.some Jvm.ClassFile.FieldType.int) ∈ x_ws := x_in 963 (by decide +kernel) rfl
theorem xw_964 : Jvm.Cond.methodLink "WakingLayers$Runner" (64 : Nat) ({ cls := "WakingLayers$Runner", name := "noteBegun", desc := "(I)V" } : Jvm.MethodName) ∈ x_ws := x_in 964 (by decide +kernel) rfl
theorem xw_966 : Jvm.Cond.instanceMethod ({ cls := "WakingLayers$Runner", name := "noteBegun", desc := "(I)V" } : Jvm.MethodName) ∈ x_ws := x_in 966 (by decide +kernel) rfl
theorem xw_967 : Jvm.Cond.code ({ cls := "WakingLayers$Runner", name := "noteBegun", desc := "(I)V" } : Jvm.MethodName) prog_9_method_8_code (2 : Nat) (Option.none : Option Jvm.ClassFile.FieldType) ∈ x_ws := x_in 967 (by decide +kernel) rfl
theorem xw_968 : Jvm.Cond.methodLink "WakingLayers$Runner" (68 : Nat) ({ cls := "WakingLayers$Circumstances", name := "openCount", desc := "()I" } : Jvm.MethodName) ∈ x_ws := x_in 968 (by decide +kernel) rfl
theorem xw_969 : Jvm.Cond.methodLink "WakingLayers$Runner" (83 : Nat) ({ cls := "WakingLayers$Runner", name := "doActs", desc := "(III)I" } : Jvm.MethodName) ∈ x_ws := x_in 969 (by decide +kernel) rfl
theorem xw_971 : Jvm.Cond.instanceMethod ({ cls := "WakingLayers$Runner", name := "doActs", desc := "(III)I" } : Jvm.MethodName) ∈ x_ws := x_in 971 (by decide +kernel) rfl
theorem xw_972 : Jvm.Cond.code ({ cls := "WakingLayers$Runner", name := "doActs", desc := "(III)I" } : Jvm.MethodName) prog_9_method_9_code (7 : Nat) (Option.some Jvm.ClassFile.FieldType.int) ∈ x_ws := x_in 972 (by decide +kernel) rfl
theorem xw_973 : Jvm.Cond.methodLink "WakingLayers$Runner" (95 : Nat) ({ cls := "WakingLayers$Runner", name := "doAct", desc := "(LWakingLayers$Body;IIII)I" } : Jvm.MethodName) ∈ x_ws := x_in 973 (by decide +kernel) rfl
theorem xw_975 : Jvm.Cond.instanceMethod ({ cls := "WakingLayers$Runner", name := "doAct", desc := "(LWakingLayers$Body;IIII)I" } : Jvm.MethodName) ∈ x_ws := x_in 975 (by decide +kernel) rfl
theorem xw_976 : Jvm.Cond.code ({ cls := "WakingLayers$Runner", name := "doAct", desc := "(LWakingLayers$Body;IIII)I" } : Jvm.MethodName) prog_9_method_10_code (7 : Nat) (Option.some Jvm.ClassFile.FieldType.int) ∈ x_ws := x_in 976 (by decide +kernel) rfl
theorem xw_977 : Jvm.Cond.constant "WakingLayers$Runner" (105 : Nat) (1000003 : Int32) ∈ x_ws := x_in 977 (by decide +kernel) rfl
theorem xw_978 : Jvm.Cond.methodLink "WakingLayers$Runner" (112 : Nat) ({ cls := "WakingLayers$Runner", name := "wokenThing", desc := "(II)I" } : Jvm.MethodName) ∈ x_ws := x_in 978 (by decide +kernel) rfl
theorem xw_980 : Jvm.Cond.instanceMethod ({ cls := "WakingLayers$Runner", name := "wokenThing", desc := "(II)I" } : Jvm.MethodName) ∈ x_ws := x_in 980 (by decide +kernel) rfl
theorem xw_981 : Jvm.Cond.code ({ cls := "WakingLayers$Runner", name := "wokenThing", desc := "(II)I" } : Jvm.MethodName) prog_9_method_11_code (3 : Nat) (Option.some Jvm.ClassFile.FieldType.int) ∈ x_ws := x_in 981 (by decide +kernel) rfl
theorem xw_982 : Jvm.Cond.constant "WakingLayers$Runner" (44 : Nat) (-1000000 : Int32) ∈ x_ws := x_in 982 (by decide +kernel) rfl
theorem xw_983 : Jvm.Cond.methodLink "WakingLayers$Runner" (116 : Nat) ({ cls := "WakingLayers$Circumstances", name := "openWaking", desc := "(II)Z" } : Jvm.MethodName) ∈ x_ws := x_in 983 (by decide +kernel) rfl
theorem xw_984 : Jvm.Cond.methodLink "WakingLayers$Runner" (86 : Nat) ({ cls := "WakingLayers$Runner", name := "runBehind", desc := "(III)I" } : Jvm.MethodName) ∈ x_ws := x_in 984 (by decide +kernel) rfl
theorem xw_986 : Jvm.Cond.instanceMethod ({ cls := "WakingLayers$Runner", name := "runBehind", desc := "(III)I" } : Jvm.MethodName) ∈ x_ws := x_in 986 (by decide +kernel) rfl
theorem xw_987 : Jvm.Cond.code ({ cls := "WakingLayers$Runner", name := "runBehind", desc := "(III)I" } : Jvm.MethodName) prog_9_method_7_code (5 : Nat) (Option.some Jvm.ClassFile.FieldType.int) ∈ x_ws := x_in 987 (by decide +kernel) rfl
theorem xw_988 : Jvm.Cond.methodLink "WakingLayers$Runner" (89 : Nat) ({ cls := "WakingLayers$Circumstances", name := "closeDownTo", desc := "(I)V" } : Jvm.MethodName) ∈ x_ws := x_in 988 (by decide +kernel) rfl
theorem xw_989 : Jvm.Cond.instanceMethod ({ cls := "WakingLayers$Circumstances", name := "closeDownTo", desc := "(I)V" } : Jvm.MethodName) ∈ x_ws := x_in 989 (by decide +kernel) rfl
theorem xw_990 : Jvm.Cond.selects "WakingLayers$Circumstances" ({ cls := "WakingLayers$Circumstances", name := "closeDownTo", desc := "(I)V" } : Jvm.MethodName) ({ cls := "WakingLayers$Circumstances", name := "closeDownTo", desc := "(I)V" } : Jvm.MethodName) ∈ x_ws := x_in 990 (by decide +kernel) rfl
theorem xw_991 : Jvm.Cond.code ({ cls := "WakingLayers$Circumstances", name := "closeDownTo", desc := "(I)V" } : Jvm.MethodName) prog_4_method_8_code (2 : Nat) (Option.none : Option Jvm.ClassFile.FieldType) ∈ x_ws := x_in 991 (by decide +kernel) rfl
theorem xw_995 : Jvm.Cond.code ({ cls := "WakingLayers", name := "ran", desc := "(I)I" } : Jvm.MethodName) prog_1_method_17_code (2 : Nat) (Option.some Jvm.ClassFile.FieldType.int) ∈ x_ws := x_in 995 (by decide +kernel) rfl
theorem xw_996 : Jvm.Cond.methodLink "WakingLayers" (218 : Nat) ({ cls := "WakingLayers$Runner", name := "begunCount", desc := "()I" } : Jvm.MethodName) ∈ x_ws := x_in 996 (by decide +kernel) rfl
theorem xw_997 : Jvm.Cond.instanceMethod ({ cls := "WakingLayers$Runner", name := "begunCount", desc := "()I" } : Jvm.MethodName) ∈ x_ws := x_in 997 (by decide +kernel) rfl
theorem xw_998 : Jvm.Cond.selects "WakingLayers$Runner" ({ cls := "WakingLayers$Runner", name := "begunCount", desc := "()I" } : Jvm.MethodName) ({ cls := "WakingLayers$Runner", name := "begunCount", desc := "()I" } : Jvm.MethodName) ∈ x_ws := x_in 998 (by decide +kernel) rfl
theorem xw_999 : Jvm.Cond.code ({ cls := "WakingLayers$Runner", name := "begunCount", desc := "()I" } : Jvm.MethodName) prog_9_method_2_code (1 : Nat) (Option.some Jvm.ClassFile.FieldType.int) ∈ x_ws := x_in 999 (by decide +kernel) rfl
theorem xw_1000 : Jvm.Cond.methodLink "WakingLayers" (221 : Nat) ({ cls := "WakingLayers$Runner", name := "begunAt", desc := "(I)I" } : Jvm.MethodName) ∈ x_ws := x_in 1000 (by decide +kernel) rfl
theorem xw_1001 : Jvm.Cond.instanceMethod ({ cls := "WakingLayers$Runner", name := "begunAt", desc := "(I)I" } : Jvm.MethodName) ∈ x_ws := x_in 1001 (by decide +kernel) rfl
theorem xw_1002 : Jvm.Cond.selects "WakingLayers$Runner" ({ cls := "WakingLayers$Runner", name := "begunAt", desc := "(I)I" } : Jvm.MethodName) ({ cls := "WakingLayers$Runner", name := "begunAt", desc := "(I)I" } : Jvm.MethodName) ∈ x_ws := x_in 1002 (by decide +kernel) rfl
theorem xw_1003 : Jvm.Cond.code ({ cls := "WakingLayers$Runner", name := "begunAt", desc := "(I)I" } : Jvm.MethodName) prog_9_method_3_code (2 : Nat) (Option.some Jvm.ClassFile.FieldType.int) ∈ x_ws := x_in 1003 (by decide +kernel) rfl
theorem xw_1007 : Jvm.Cond.code ({ cls := "WakingLayers", name := "together", desc := "(II)I" } : Jvm.MethodName) prog_1_method_18_code (4 : Nat) (Option.some Jvm.ClassFile.FieldType.int) ∈ x_ws := x_in 1007 (by decide +kernel) rfl
theorem xw_1008 : Jvm.Cond.methodLink "WakingLayers" (224 : Nat) ({ cls := "WakingLayers$SmallWorld", name := "isGreatest", desc := "(I)Z" } : Jvm.MethodName) ∈ x_ws := x_in 1008 (by decide +kernel) rfl
theorem xw_1009 : Jvm.Cond.static ({ cls := "WakingLayers$SmallWorld", name := "isGreatest", desc := "(I)Z" } : Jvm.MethodName) ∈ x_ws := x_in 1009 (by decide +kernel) rfl
theorem xw_1010 : Jvm.Cond.code ({ cls := "WakingLayers$SmallWorld", name := "isGreatest", desc := "(I)Z" } : Jvm.MethodName) prog_11_method_2_code (1 : Nat) (Option.some Jvm.ClassFile.FieldType.boolean) ∈ x_ws := x_in 1010 (by decide +kernel) rfl
theorem xw_1011 : Jvm.Cond.methodLink "WakingLayers" (227 : Nat) ({ cls := "WakingLayers$SmallWorld", name := "gather", desc := "(I)I" } : Jvm.MethodName) ∈ x_ws := x_in 1011 (by decide +kernel) rfl
theorem xw_1012 : Jvm.Cond.instanceMethod ({ cls := "WakingLayers$SmallWorld", name := "gather", desc := "(I)I" } : Jvm.MethodName) ∈ x_ws := x_in 1012 (by decide +kernel) rfl
theorem xw_1013 : Jvm.Cond.selects "WakingLayers$SmallWorld" ({ cls := "WakingLayers$SmallWorld", name := "gather", desc := "(I)I" } : Jvm.MethodName) ({ cls := "WakingLayers$SmallWorld", name := "gather", desc := "(I)I" } : Jvm.MethodName) ∈ x_ws := x_in 1013 (by decide +kernel) rfl
theorem xw_1014 : Jvm.Cond.code ({ cls := "WakingLayers$SmallWorld", name := "gather", desc := "(I)I" } : Jvm.MethodName) prog_11_method_3_code (6 : Nat) (Option.some Jvm.ClassFile.FieldType.int) ∈ x_ws := x_in 1014 (by decide +kernel) rfl
theorem xw_1015 : Jvm.Cond.methodLink "WakingLayers$SmallWorld" (33 : Nat) ({ cls := "WakingLayers$SmallWorld", name := "factsOfWorld", desc := "(II)[I" } : Jvm.MethodName) ∈ x_ws := x_in 1015 (by decide +kernel) rfl
theorem xw_1017 : Jvm.Cond.instanceMethod ({ cls := "WakingLayers$SmallWorld", name := "factsOfWorld", desc := "(II)[I" } : Jvm.MethodName) ∈ x_ws := x_in 1017 (by decide +kernel) rfl
theorem xw_1018 : Jvm.Cond.code ({ cls := "WakingLayers$SmallWorld", name := "factsOfWorld", desc := "(II)[I" } : Jvm.MethodName) prog_11_method_4_code (5 : Nat) (Option.some (Jvm.ClassFile.FieldType.array Jvm.ClassFile.FieldType.int)) ∈ x_ws := x_in 1018 (by decide +kernel) rfl
theorem xw_1019 : Jvm.Cond.methodLink "WakingLayers$SmallWorld" (37 : Nat) ({ cls := "WakingLayers$Circumstances", name := "foundAtPoint", desc := "([I)I" } : Jvm.MethodName) ∈ x_ws := x_in 1019 (by decide +kernel) rfl
theorem xw_1020 : Jvm.Cond.methodLink "WakingLayers" (230 : Nat) ({ cls := "WakingLayers$SmallWorld", name := "gatheredAt", desc := "(I)I" } : Jvm.MethodName) ∈ x_ws := x_in 1020 (by decide +kernel) rfl
theorem xw_1021 : Jvm.Cond.instanceMethod ({ cls := "WakingLayers$SmallWorld", name := "gatheredAt", desc := "(I)I" } : Jvm.MethodName) ∈ x_ws := x_in 1021 (by decide +kernel) rfl
theorem xw_1022 : Jvm.Cond.selects "WakingLayers$SmallWorld" ({ cls := "WakingLayers$SmallWorld", name := "gatheredAt", desc := "(I)I" } : Jvm.MethodName) ({ cls := "WakingLayers$SmallWorld", name := "gatheredAt", desc := "(I)I" } : Jvm.MethodName) ∈ x_ws := x_in 1022 (by decide +kernel) rfl
theorem xw_1023 : Jvm.Cond.code ({ cls := "WakingLayers$SmallWorld", name := "gatheredAt", desc := "(I)I" } : Jvm.MethodName) prog_11_method_5_code (4 : Nat) (Option.some Jvm.ClassFile.FieldType.int) ∈ x_ws := x_in 1023 (by decide +kernel) rfl
theorem xw_1024 : Jvm.Cond.constant "WakingLayers$SmallWorld" (41 : Nat) (-1000000 : Int32) ∈ x_ws := x_in 1024 (by decide +kernel) rfl
theorem xw_1028 : Jvm.Cond.code ({ cls := "WakingLayers", name := "same", desc := "(IIIII)I" } : Jvm.MethodName) prog_1_method_19_code (6 : Nat) (Option.some Jvm.ClassFile.FieldType.int) ∈ x_ws := x_in 1028 (by decide +kernel) rfl
theorem xw_1029 : Jvm.Cond.methodLink "WakingLayers" (233 : Nat) ({ cls := "WakingLayers$SmallWorld", name := "changesNothing", desc := "(IIII)Z" } : Jvm.MethodName) ∈ x_ws := x_in 1029 (by decide +kernel) rfl
theorem xw_1030 : Jvm.Cond.instanceMethod ({ cls := "WakingLayers$SmallWorld", name := "changesNothing", desc := "(IIII)Z" } : Jvm.MethodName) ∈ x_ws := x_in 1030 (by decide +kernel) rfl
theorem xw_1031 : Jvm.Cond.selects "WakingLayers$SmallWorld" ({ cls := "WakingLayers$SmallWorld", name := "changesNothing", desc := "(IIII)Z" } : Jvm.MethodName) ({ cls := "WakingLayers$SmallWorld", name := "changesNothing", desc := "(IIII)Z" } : Jvm.MethodName) ∈ x_ws := x_in 1031 (by decide +kernel) rfl
theorem xw_1032 : Jvm.Cond.code ({ cls := "WakingLayers$SmallWorld", name := "changesNothing", desc := "(IIII)Z" } : Jvm.MethodName) prog_11_method_6_code (11 : Nat) (Option.some Jvm.ClassFile.FieldType.boolean) ∈ x_ws := x_in 1032 (by decide +kernel) rfl
theorem xw_1033 : Jvm.Cond.methodLink "WakingLayers$SmallWorld" (42 : Nat) ({ cls := "WakingLayers$Circumstances", name := "foundSet", desc := "()I" } : Jvm.MethodName) ∈ x_ws := x_in 1033 (by decide +kernel) rfl
theorem xw_1034 : Jvm.Cond.instanceMethod ({ cls := "WakingLayers$Circumstances", name := "foundSet", desc := "()I" } : Jvm.MethodName) ∈ x_ws := x_in 1034 (by decide +kernel) rfl
theorem xw_1035 : Jvm.Cond.selects "WakingLayers$Circumstances" ({ cls := "WakingLayers$Circumstances", name := "foundSet", desc := "()I" } : Jvm.MethodName) ({ cls := "WakingLayers$Circumstances", name := "foundSet", desc := "()I" } : Jvm.MethodName) ∈ x_ws := x_in 1035 (by decide +kernel) rfl
theorem xw_1036 : Jvm.Cond.code ({ cls := "WakingLayers$Circumstances", name := "foundSet", desc := "()I" } : Jvm.MethodName) prog_4_method_11_code (1 : Nat) (Option.some Jvm.ClassFile.FieldType.int) ∈ x_ws := x_in 1036 (by decide +kernel) rfl
theorem xw_1037 : Jvm.Cond.methodLink "WakingLayers$SmallWorld" (46 : Nat) ({ cls := "WakingLayers$Circumstances", name := "setFound", desc := "(I)V" } : Jvm.MethodName) ∈ x_ws := x_in 1037 (by decide +kernel) rfl
theorem xw_1038 : Jvm.Cond.instanceMethod ({ cls := "WakingLayers$Circumstances", name := "setFound", desc := "(I)V" } : Jvm.MethodName) ∈ x_ws := x_in 1038 (by decide +kernel) rfl
theorem xw_1039 : Jvm.Cond.selects "WakingLayers$Circumstances" ({ cls := "WakingLayers$Circumstances", name := "setFound", desc := "(I)V" } : Jvm.MethodName) ({ cls := "WakingLayers$Circumstances", name := "setFound", desc := "(I)V" } : Jvm.MethodName) ∈ x_ws := x_in 1039 (by decide +kernel) rfl
theorem xw_1040 : Jvm.Cond.code ({ cls := "WakingLayers$Circumstances", name := "setFound", desc := "(I)V" } : Jvm.MethodName) prog_4_method_12_code (2 : Nat) (Option.none : Option Jvm.ClassFile.FieldType) ∈ x_ws := x_in 1040 (by decide +kernel) rfl
theorem xw_1041 : Jvm.Cond.methodLink "WakingLayers$SmallWorld" (50 : Nat) ({ cls := "WakingLayers$Runner", name := "callOutermost", desc := "(III)I" } : Jvm.MethodName) ∈ x_ws := x_in 1041 (by decide +kernel) rfl
theorem xw_1042 : Jvm.Cond.methodLink "WakingLayers$SmallWorld" (56 : Nat) ({ cls := "WakingLayers$Circumstances", name := "settled", desc := "(I)I" } : Jvm.MethodName) ∈ x_ws := x_in 1042 (by decide +kernel) rfl
theorem xw_1046 : Jvm.Cond.code ({ cls := "WakingLayers", name := "kind", desc := "(I)I" } : Jvm.MethodName) prog_1_method_20_code (2 : Nat) (Option.some Jvm.ClassFile.FieldType.int) ∈ x_ws := x_in 1046 (by decide +kernel) rfl
theorem xw_1047 : Jvm.Cond.methodLink "WakingLayers" (237 : Nat) ({ cls := "WakingLayers$Asker", name := "kindOf", desc := "(LWakingLayers$Layer;)I" } : Jvm.MethodName) ∈ x_ws := x_in 1047 (by decide +kernel) rfl
theorem xw_1048 : Jvm.Cond.static ({ cls := "WakingLayers$Asker", name := "kindOf", desc := "(LWakingLayers$Layer;)I" } : Jvm.MethodName) ∈ x_ws := x_in 1048 (by decide +kernel) rfl
theorem xw_1049 : Jvm.Cond.code ({ cls := "WakingLayers$Asker", name := "kindOf", desc := "(LWakingLayers$Layer;)I" } : Jvm.MethodName) prog_2_method_4_code (1 : Nat) (Option.some Jvm.ClassFile.FieldType.int) ∈ x_ws := x_in 1049 (by decide +kernel) rfl
theorem xw_1053 : Jvm.Cond.code ({ cls := "WakingLayers", name := "as", desc := "(II)I" } : Jvm.MethodName) prog_1_method_21_code (3 : Nat) (Option.some Jvm.ClassFile.FieldType.int) ∈ x_ws := x_in 1053 (by decide +kernel) rfl
theorem xw_1054 : Jvm.Cond.methodLink "WakingLayers" (241 : Nat) ({ cls := "WakingLayers$Asker", name := "isKind", desc := "(I)Z" } : Jvm.MethodName) ∈ x_ws := x_in 1054 (by decide +kernel) rfl
theorem xw_1055 : Jvm.Cond.static ({ cls := "WakingLayers$Asker", name := "isKind", desc := "(I)Z" } : Jvm.MethodName) ∈ x_ws := x_in 1055 (by decide +kernel) rfl
theorem xw_1056 : Jvm.Cond.code ({ cls := "WakingLayers$Asker", name := "isKind", desc := "(I)Z" } : Jvm.MethodName) prog_2_method_2_code (1 : Nat) (Option.some Jvm.ClassFile.FieldType.boolean) ∈ x_ws := x_in 1056 (by decide +kernel) rfl
theorem xw_1057 : Jvm.Cond.methodLink "WakingLayers" (244 : Nat) ({ cls := "WakingLayers$Asker", name := "isOne", desc := "(II)Z" } : Jvm.MethodName) ∈ x_ws := x_in 1057 (by decide +kernel) rfl
theorem xw_1058 : Jvm.Cond.static ({ cls := "WakingLayers$Asker", name := "isOne", desc := "(II)Z" } : Jvm.MethodName) ∈ x_ws := x_in 1058 (by decide +kernel) rfl
theorem xw_1059 : Jvm.Cond.code ({ cls := "WakingLayers$Asker", name := "isOne", desc := "(II)Z" } : Jvm.MethodName) prog_2_method_5_code (4 : Nat) (Option.some Jvm.ClassFile.FieldType.boolean) ∈ x_ws := x_in 1059 (by decide +kernel) rfl
theorem xw_1060 : Jvm.Cond.fieldLink "WakingLayers$Asker" (32 : Nat) "WakingLayers$Asker" "ABOVE" "[I" ∈ x_ws := x_in 1060 (by decide +kernel) rfl
theorem xw_1065 : Jvm.Cond.code ({ cls := "WakingLayers", name := "ask", desc := "(II)I" } : Jvm.MethodName) prog_1_method_22_code (3 : Nat) (Option.some Jvm.ClassFile.FieldType.int) ∈ x_ws := x_in 1065 (by decide +kernel) rfl
theorem xw_1066 : Jvm.Cond.methodLink "WakingLayers" (247 : Nat) ({ cls := "WakingLayers$Asker", name := "isAsk", desc := "(I)Z" } : Jvm.MethodName) ∈ x_ws := x_in 1066 (by decide +kernel) rfl
theorem xw_1067 : Jvm.Cond.static ({ cls := "WakingLayers$Asker", name := "isAsk", desc := "(I)Z" } : Jvm.MethodName) ∈ x_ws := x_in 1067 (by decide +kernel) rfl
theorem xw_1068 : Jvm.Cond.code ({ cls := "WakingLayers$Asker", name := "isAsk", desc := "(I)Z" } : Jvm.MethodName) prog_2_method_3_code (1 : Nat) (Option.some Jvm.ClassFile.FieldType.boolean) ∈ x_ws := x_in 1068 (by decide +kernel) rfl
theorem xw_1069 : Jvm.Cond.methodLink "WakingLayers" (250 : Nat) ({ cls := "WakingLayers$Asker", name := "clearTrace", desc := "()V" } : Jvm.MethodName) ∈ x_ws := x_in 1069 (by decide +kernel) rfl
theorem xw_1070 : Jvm.Cond.instanceMethod ({ cls := "WakingLayers$Asker", name := "clearTrace", desc := "()V" } : Jvm.MethodName) ∈ x_ws := x_in 1070 (by decide +kernel) rfl
theorem xw_1071 : Jvm.Cond.selects "WakingLayers$Asker" ({ cls := "WakingLayers$Asker", name := "clearTrace", desc := "()V" } : Jvm.MethodName) ({ cls := "WakingLayers$Asker", name := "clearTrace", desc := "()V" } : Jvm.MethodName) ∈ x_ws := x_in 1071 (by decide +kernel) rfl
theorem xw_1072 : Jvm.Cond.code ({ cls := "WakingLayers$Asker", name := "clearTrace", desc := "()V" } : Jvm.MethodName) prog_2_method_7_code (1 : Nat) (Option.none : Option Jvm.ClassFile.FieldType) ∈ x_ws := x_in 1072 (by decide +kernel) rfl
theorem xw_1073 : Jvm.Cond.methodLink "WakingLayers" (253 : Nat) ({ cls := "WakingLayers$Asker", name := "sizeOf", desc := "(I)I" } : Jvm.MethodName) ∈ x_ws := x_in 1073 (by decide +kernel) rfl
theorem xw_1074 : Jvm.Cond.instanceMethod ({ cls := "WakingLayers$Asker", name := "sizeOf", desc := "(I)I" } : Jvm.MethodName) ∈ x_ws := x_in 1074 (by decide +kernel) rfl
theorem xw_1075 : Jvm.Cond.selects "WakingLayers$Asker" ({ cls := "WakingLayers$Asker", name := "sizeOf", desc := "(I)I" } : Jvm.MethodName) ({ cls := "WakingLayers$Asker", name := "sizeOf", desc := "(I)I" } : Jvm.MethodName) ∈ x_ws := x_in 1075 (by decide +kernel) rfl
theorem xw_1076 : Jvm.Cond.code ({ cls := "WakingLayers$Asker", name := "sizeOf", desc := "(I)I" } : Jvm.MethodName) prog_2_method_8_code (2 : Nat) (Option.some Jvm.ClassFile.FieldType.int) ∈ x_ws := x_in 1076 (by decide +kernel) rfl
theorem xw_1077 : Jvm.Cond.methodLink "WakingLayers$Asker" (45 : Nat) ({ cls := "WakingLayers$Asker", name := "kindOf", desc := "(LWakingLayers$Layer;)I" } : Jvm.MethodName) ∈ x_ws := x_in 1077 (by decide +kernel) rfl
theorem xw_1078 : Jvm.Cond.methodLink "WakingLayers$Asker" (49 : Nat) ({ cls := "WakingLayers$Asker", name := "sizeOfSpanned", desc := "(I)I" } : Jvm.MethodName) ∈ x_ws := x_in 1078 (by decide +kernel) rfl
theorem xw_1080 : Jvm.Cond.instanceMethod ({ cls := "WakingLayers$Asker", name := "sizeOfSpanned", desc := "(I)I" } : Jvm.MethodName) ∈ x_ws := x_in 1080 (by decide +kernel) rfl
theorem xw_1081 : Jvm.Cond.code ({ cls := "WakingLayers$Asker", name := "sizeOfSpanned", desc := "(I)I" } : Jvm.MethodName) prog_2_method_11_code (2 : Nat) (Option.some Jvm.ClassFile.FieldType.int) ∈ x_ws := x_in 1081 (by decide +kernel) rfl
theorem xw_1082 : Jvm.Cond.methodLink "WakingLayers$Asker" (74 : Nat) ({ cls := "WakingLayers$Asker", name := "leave", desc := "(I)V" } : Jvm.MethodName) ∈ x_ws := x_in 1082 (by decide +kernel) rfl
theorem xw_1084 : Jvm.Cond.instanceMethod ({ cls := "WakingLayers$Asker", name := "leave", desc := "(I)V" } : Jvm.MethodName) ∈ x_ws := x_in 1084 (by decide +kernel) rfl
theorem xw_1085 : Jvm.Cond.code ({ cls := "WakingLayers$Asker", name := "leave", desc := "(I)V" } : Jvm.MethodName) prog_2_method_18_code (2 : Nat) (Option.none : Option Jvm.ClassFile.FieldType) ∈ x_ws := x_in 1085 (by decide +kernel) rfl
theorem xw_1086 : Jvm.Cond.methodLink "WakingLayers$Asker" (62 : Nat) ({ cls := "WakingLayers$Asker", name := "lentSize", desc := "(I)I" } : Jvm.MethodName) ∈ x_ws := x_in 1086 (by decide +kernel) rfl
theorem xw_1088 : Jvm.Cond.instanceMethod ({ cls := "WakingLayers$Asker", name := "lentSize", desc := "(I)I" } : Jvm.MethodName) ∈ x_ws := x_in 1088 (by decide +kernel) rfl
theorem xw_1089 : Jvm.Cond.code ({ cls := "WakingLayers$Asker", name := "lentSize", desc := "(I)I" } : Jvm.MethodName) prog_2_method_10_code (2 : Nat) (Option.some Jvm.ClassFile.FieldType.int) ∈ x_ws := x_in 1089 (by decide +kernel) rfl
theorem xw_1090 : Jvm.Cond.methodLink "WakingLayers$Asker" (81 : Nat) ({ cls := "WakingLayers$Circumstances", name := "openOf", desc := "(I)I" } : Jvm.MethodName) ∈ x_ws := x_in 1090 (by decide +kernel) rfl
theorem xw_1091 : Jvm.Cond.methodLink "WakingLayers$Asker" (53 : Nat) ({ cls := "WakingLayers$Asker", name := "sizeOfOwned", desc := "(I)I" } : Jvm.MethodName) ∈ x_ws := x_in 1091 (by decide +kernel) rfl
theorem xw_1093 : Jvm.Cond.instanceMethod ({ cls := "WakingLayers$Asker", name := "sizeOfOwned", desc := "(I)I" } : Jvm.MethodName) ∈ x_ws := x_in 1093 (by decide +kernel) rfl
theorem xw_1094 : Jvm.Cond.code ({ cls := "WakingLayers$Asker", name := "sizeOfOwned", desc := "(I)I" } : Jvm.MethodName) prog_2_method_12_code (2 : Nat) (Option.some Jvm.ClassFile.FieldType.int) ∈ x_ws := x_in 1094 (by decide +kernel) rfl
theorem xw_1095 : Jvm.Cond.methodLink "WakingLayers$Asker" (56 : Nat) ({ cls := "WakingLayers$Asker", name := "sizeOfAsked", desc := "(I)I" } : Jvm.MethodName) ∈ x_ws := x_in 1095 (by decide +kernel) rfl
theorem xw_1097 : Jvm.Cond.instanceMethod ({ cls := "WakingLayers$Asker", name := "sizeOfAsked", desc := "(I)I" } : Jvm.MethodName) ∈ x_ws := x_in 1097 (by decide +kernel) rfl
theorem xw_1098 : Jvm.Cond.code ({ cls := "WakingLayers$Asker", name := "sizeOfAsked", desc := "(I)I" } : Jvm.MethodName) prog_2_method_13_code (2 : Nat) (Option.some Jvm.ClassFile.FieldType.int) ∈ x_ws := x_in 1098 (by decide +kernel) rfl
theorem xw_1099 : Jvm.Cond.methodLink "WakingLayers$Asker" (86 : Nat) ({ cls := "WakingLayers$Asker", name := "markOf", desc := "(I)I" } : Jvm.MethodName) ∈ x_ws := x_in 1099 (by decide +kernel) rfl
theorem xw_1100 : Jvm.Cond.instanceMethod ({ cls := "WakingLayers$Asker", name := "markOf", desc := "(I)I" } : Jvm.MethodName) ∈ x_ws := x_in 1100 (by decide +kernel) rfl
theorem xw_1101 : Jvm.Cond.selects "WakingLayers$Asker" ({ cls := "WakingLayers$Asker", name := "markOf", desc := "(I)I" } : Jvm.MethodName) ({ cls := "WakingLayers$Asker", name := "markOf", desc := "(I)I" } : Jvm.MethodName) ∈ x_ws := x_in 1101 (by decide +kernel) rfl
theorem xw_1102 : Jvm.Cond.code ({ cls := "WakingLayers$Asker", name := "markOf", desc := "(I)I" } : Jvm.MethodName) prog_2_method_9_code (2 : Nat) (Option.some Jvm.ClassFile.FieldType.int) ∈ x_ws := x_in 1102 (by decide +kernel) rfl
theorem xw_1103 : Jvm.Cond.methodLink "WakingLayers$Asker" (65 : Nat) ({ cls := "WakingLayers$Asker", name := "markOfAsked", desc := "(I)I" } : Jvm.MethodName) ∈ x_ws := x_in 1103 (by decide +kernel) rfl
theorem xw_1105 : Jvm.Cond.instanceMethod ({ cls := "WakingLayers$Asker", name := "markOfAsked", desc := "(I)I" } : Jvm.MethodName) ∈ x_ws := x_in 1105 (by decide +kernel) rfl
theorem xw_1106 : Jvm.Cond.code ({ cls := "WakingLayers$Asker", name := "markOfAsked", desc := "(I)I" } : Jvm.MethodName) prog_2_method_16_code (2 : Nat) (Option.some Jvm.ClassFile.FieldType.int) ∈ x_ws := x_in 1106 (by decide +kernel) rfl
theorem xw_1107 : Jvm.Cond.methodLink "WakingLayers$Asker" (71 : Nat) ({ cls := "WakingLayers$Asker", name := "lentMark", desc := "(I)I" } : Jvm.MethodName) ∈ x_ws := x_in 1107 (by decide +kernel) rfl
theorem xw_1109 : Jvm.Cond.instanceMethod ({ cls := "WakingLayers$Asker", name := "lentMark", desc := "(I)I" } : Jvm.MethodName) ∈ x_ws := x_in 1109 (by decide +kernel) rfl
theorem xw_1110 : Jvm.Cond.code ({ cls := "WakingLayers$Asker", name := "lentMark", desc := "(I)I" } : Jvm.MethodName) prog_2_method_15_code (2 : Nat) (Option.some Jvm.ClassFile.FieldType.int) ∈ x_ws := x_in 1110 (by decide +kernel) rfl
theorem xw_1111 : Jvm.Cond.methodLink "WakingLayers$Asker" (94 : Nat) ({ cls := "WakingLayers$Program", name := "bodiesOf", desc := "(I)I" } : Jvm.MethodName) ∈ x_ws := x_in 1111 (by decide +kernel) rfl
theorem xw_1112 : Jvm.Cond.instanceMethod ({ cls := "WakingLayers$Program", name := "bodiesOf", desc := "(I)I" } : Jvm.MethodName) ∈ x_ws := x_in 1112 (by decide +kernel) rfl
theorem xw_1113 : Jvm.Cond.selects "WakingLayers$Program" ({ cls := "WakingLayers$Program", name := "bodiesOf", desc := "(I)I" } : Jvm.MethodName) ({ cls := "WakingLayers$Program", name := "bodiesOf", desc := "(I)I" } : Jvm.MethodName) ∈ x_ws := x_in 1113 (by decide +kernel) rfl
theorem xw_1114 : Jvm.Cond.code ({ cls := "WakingLayers$Program", name := "bodiesOf", desc := "(I)I" } : Jvm.MethodName) prog_6_method_8_code (4 : Nat) (Option.some Jvm.ClassFile.FieldType.int) ∈ x_ws := x_in 1114 (by decide +kernel) rfl
theorem xw_1115 : Jvm.Cond.methodLink "WakingLayers$Asker" (97 : Nat) ({ cls := "WakingLayers$Circumstances", name := "isFound", desc := "(I)Z" } : Jvm.MethodName) ∈ x_ws := x_in 1115 (by decide +kernel) rfl
theorem xw_1116 : Jvm.Cond.methodLink "WakingLayers$Asker" (68 : Nat) ({ cls := "WakingLayers$Asker", name := "markOfEver", desc := "(I)I" } : Jvm.MethodName) ∈ x_ws := x_in 1116 (by decide +kernel) rfl
theorem xw_1118 : Jvm.Cond.instanceMethod ({ cls := "WakingLayers$Asker", name := "markOfEver", desc := "(I)I" } : Jvm.MethodName) ∈ x_ws := x_in 1118 (by decide +kernel) rfl
theorem xw_1119 : Jvm.Cond.code ({ cls := "WakingLayers$Asker", name := "markOfEver", desc := "(I)I" } : Jvm.MethodName) prog_2_method_17_code (2 : Nat) (Option.some Jvm.ClassFile.FieldType.int) ∈ x_ws := x_in 1119 (by decide +kernel) rfl
theorem xw_1120 : Jvm.Cond.methodLink "WakingLayers$Asker" (101 : Nat) ({ cls := "WakingLayers$Asker", name := "sizeOf", desc := "(I)I" } : Jvm.MethodName) ∈ x_ws := x_in 1120 (by decide +kernel) rfl
theorem xw_1121 : Jvm.Cond.methodLink "WakingLayers$Asker" (59 : Nat) ({ cls := "WakingLayers$Asker", name := "sizeOfNeeding", desc := "(I)I" } : Jvm.MethodName) ∈ x_ws := x_in 1121 (by decide +kernel) rfl
theorem xw_1123 : Jvm.Cond.instanceMethod ({ cls := "WakingLayers$Asker", name := "sizeOfNeeding", desc := "(I)I" } : Jvm.MethodName) ∈ x_ws := x_in 1123 (by decide +kernel) rfl
theorem xw_1124 : Jvm.Cond.code ({ cls := "WakingLayers$Asker", name := "sizeOfNeeding", desc := "(I)I" } : Jvm.MethodName) prog_2_method_14_code (2 : Nat) (Option.some Jvm.ClassFile.FieldType.int) ∈ x_ws := x_in 1124 (by decide +kernel) rfl
theorem xw_1125 : Jvm.Cond.methodLink "WakingLayers$Asker" (89 : Nat) ({ cls := "java/lang/Integer", name := "bitCount", desc := "(I)I" } : Jvm.MethodName) ∈ x_ws := x_in 1125 (by decide +kernel) rfl
theorem xw_1126 : Jvm.Cond.static ({ cls := "java/lang/Integer", name := "bitCount", desc := "(I)I" } : Jvm.MethodName) ∈ x_ws := x_in 1126 (by decide +kernel) rfl
theorem xw_1127 : Jvm.Cond.code ({ cls := "java/lang/Integer", name := "bitCount", desc := "(I)I" } : Jvm.MethodName) prog_15_method_49_code (1 : Nat) (Option.some Jvm.ClassFile.FieldType.int) ∈ x_ws := x_in 1127 (by decide +kernel) rfl
theorem xw_1128 : Jvm.Cond.constant "java/lang/Integer" (265 : Nat) (1431655765 : Int32) ∈ x_ws := x_in 1128 (by decide +kernel) rfl
theorem xw_1129 : Jvm.Cond.constant "java/lang/Integer" (266 : Nat) (858993459 : Int32) ∈ x_ws := x_in 1129 (by decide +kernel) rfl
theorem xw_1130 : Jvm.Cond.constant "java/lang/Integer" (267 : Nat) (252645135 : Int32) ∈ x_ws := x_in 1130 (by decide +kernel) rfl
theorem xw_1131 : Jvm.Cond.methodLink "WakingLayers" (256 : Nat) ({ cls := "WakingLayers$Asker", name := "markOf", desc := "(I)I" } : Jvm.MethodName) ∈ x_ws := x_in 1131 (by decide +kernel) rfl
theorem xw_1135 : Jvm.Cond.code ({ cls := "WakingLayers", name := "trace", desc := "(I)I" } : Jvm.MethodName) prog_1_method_23_code (2 : Nat) (Option.some Jvm.ClassFile.FieldType.int) ∈ x_ws := x_in 1135 (by decide +kernel) rfl
theorem xw_1136 : Jvm.Cond.methodLink "WakingLayers" (259 : Nat) ({ cls := "WakingLayers$Asker", name := "tracedAt", desc := "(I)I" } : Jvm.MethodName) ∈ x_ws := x_in 1136 (by decide +kernel) rfl
theorem xw_1137 : Jvm.Cond.instanceMethod ({ cls := "WakingLayers$Asker", name := "tracedAt", desc := "(I)I" } : Jvm.MethodName) ∈ x_ws := x_in 1137 (by decide +kernel) rfl
theorem xw_1138 : Jvm.Cond.selects "WakingLayers$Asker" ({ cls := "WakingLayers$Asker", name := "tracedAt", desc := "(I)I" } : Jvm.MethodName) ({ cls := "WakingLayers$Asker", name := "tracedAt", desc := "(I)I" } : Jvm.MethodName) ∈ x_ws := x_in 1138 (by decide +kernel) rfl
theorem xw_1139 : Jvm.Cond.code ({ cls := "WakingLayers$Asker", name := "tracedAt", desc := "(I)I" } : Jvm.MethodName) prog_2_method_6_code (2 : Nat) (Option.some Jvm.ClassFile.FieldType.int) ∈ x_ws := x_in 1139 (by decide +kernel) rfl
theorem xw_1140 : Jvm.Cond.constant "WakingLayers$Asker" (38 : Nat) (-1000000 : Int32) ∈ x_ws := x_in 1140 (by decide +kernel) rfl
theorem xw_1144 : Jvm.Cond.code ({ cls := "WakingLayers", name := "count", desc := "(I)I" } : Jvm.MethodName) prog_1_method_24_code (2 : Nat) (Option.some Jvm.ClassFile.FieldType.int) ∈ x_ws := x_in 1144 (by decide +kernel) rfl
theorem xw_1145 : Jvm.Cond.methodLink "WakingLayers" (262 : Nat) ({ cls := "WakingLayers$Sheets", name := "laidCount", desc := "()I" } : Jvm.MethodName) ∈ x_ws := x_in 1145 (by decide +kernel) rfl
theorem xw_1146 : Jvm.Cond.instanceMethod ({ cls := "WakingLayers$Sheets", name := "laidCount", desc := "()I" } : Jvm.MethodName) ∈ x_ws := x_in 1146 (by decide +kernel) rfl
theorem xw_1147 : Jvm.Cond.selects "WakingLayers$Sheets" ({ cls := "WakingLayers$Sheets", name := "laidCount", desc := "()I" } : Jvm.MethodName) ({ cls := "WakingLayers$Sheets", name := "laidCount", desc := "()I" } : Jvm.MethodName) ∈ x_ws := x_in 1147 (by decide +kernel) rfl
theorem xw_1148 : Jvm.Cond.code ({ cls := "WakingLayers$Sheets", name := "laidCount", desc := "()I" } : Jvm.MethodName) prog_10_method_12_code (3 : Nat) (Option.some Jvm.ClassFile.FieldType.int) ∈ x_ws := x_in 1148 (by decide +kernel) rfl
theorem xw_1149 : Jvm.Cond.methodLink "WakingLayers" (274 : Nat) ({ cls := "WakingLayers$Circumstances", name := "awakeSet", desc := "()I" } : Jvm.MethodName) ∈ x_ws := x_in 1149 (by decide +kernel) rfl
theorem xw_1150 : Jvm.Cond.methodLink "WakingLayers" (277 : Nat) ({ cls := "java/lang/Integer", name := "bitCount", desc := "(I)I" } : Jvm.MethodName) ∈ x_ws := x_in 1150 (by decide +kernel) rfl
theorem xw_1151 : Jvm.Cond.methodLink "WakingLayers" (282 : Nat) ({ cls := "WakingLayers$Tape", name := "length", desc := "()I" } : Jvm.MethodName) ∈ x_ws := x_in 1151 (by decide +kernel) rfl
theorem xw_1152 : Jvm.Cond.instanceMethod ({ cls := "WakingLayers$Tape", name := "length", desc := "()I" } : Jvm.MethodName) ∈ x_ws := x_in 1152 (by decide +kernel) rfl
theorem xw_1153 : Jvm.Cond.selects "WakingLayers$Tape" ({ cls := "WakingLayers$Tape", name := "length", desc := "()I" } : Jvm.MethodName) ({ cls := "WakingLayers$Tape", name := "length", desc := "()I" } : Jvm.MethodName) ∈ x_ws := x_in 1153 (by decide +kernel) rfl
theorem xw_1154 : Jvm.Cond.code ({ cls := "WakingLayers$Tape", name := "length", desc := "()I" } : Jvm.MethodName) prog_12_method_2_code (1 : Nat) (Option.some Jvm.ClassFile.FieldType.int) ∈ x_ws := x_in 1154 (by decide +kernel) rfl
theorem xw_1158 : Jvm.Cond.code ({ cls := "WakingLayers", name := "status", desc := "()I" } : Jvm.MethodName) prog_1_method_25_code (1 : Nat) (Option.some Jvm.ClassFile.FieldType.int) ∈ x_ws := x_in 1158 (by decide +kernel) rfl
theorem xw_1165 : Jvm.Cond.fieldLink "WakingLayersModel" (131 : Nat) "WakingLayersModel" "thrown" "I" ∈ x_ws := x_in 1165 (by decide +kernel) rfl
theorem xw_1166 : Jvm.Cond.fieldLink "WakingLayersModel" (135 : Nat) "WakingLayersModel" "status" "I" ∈ x_ws := x_in 1166 (by decide +kernel) rfl
theorem xw_1167 : Jvm.Cond.fieldLink "WakingLayersModel" (7 : Nat) "WakingLayersModel" "lane" "[I" ∈ x_ws := x_in 1167 (by decide +kernel) rfl
theorem xw_1168 : Jvm.Cond.fieldLink "WakingLayersModel" (13 : Nat) "WakingLayersModel" "many" "[I" ∈ x_ws := x_in 1168 (by decide +kernel) rfl
theorem xw_1169 : Jvm.Cond.fieldLink "WakingLayersModel" (16 : Nat) "WakingLayersModel" "item" "[I" ∈ x_ws := x_in 1169 (by decide +kernel) rfl
theorem xw_1170 : Jvm.Cond.fieldLink "WakingLayersModel" (282 : Nat) "WakingLayersModel" "kinds" "I" ∈ x_ws := x_in 1170 (by decide +kernel) rfl
theorem xw_1171 : Jvm.Cond.fieldLink "WakingLayersModel" (19 : Nat) "WakingLayersModel" "under" "[I" ∈ x_ws := x_in 1171 (by decide +kernel) rfl
theorem xw_1172 : Jvm.Cond.fieldLink "WakingLayersModel" (285 : Nat) "WakingLayersModel" "things" "I" ∈ x_ws := x_in 1172 (by decide +kernel) rfl
theorem xw_1173 : Jvm.Cond.fieldLink "WakingLayersModel" (22 : Nat) "WakingLayersModel" "thingKind" "[I" ∈ x_ws := x_in 1173 (by decide +kernel) rfl
theorem xw_1174 : Jvm.Cond.fieldLink "WakingLayersModel" (25 : Nat) "WakingLayersModel" "thingValue" "[I" ∈ x_ws := x_in 1174 (by decide +kernel) rfl
theorem xw_1175 : Jvm.Cond.fieldLink "WakingLayersModel" (288 : Nat) "WakingLayersModel" "layers" "I" ∈ x_ws := x_in 1175 (by decide +kernel) rfl
theorem xw_1176 : Jvm.Cond.fieldLink "WakingLayersModel" (28 : Nat) "WakingLayersModel" "sort" "[I" ∈ x_ws := x_in 1176 (by decide +kernel) rfl
theorem xw_1177 : Jvm.Cond.fieldLink "WakingLayersModel" (31 : Nat) "WakingLayersModel" "rank" "[I" ∈ x_ws := x_in 1177 (by decide +kernel) rfl
theorem xw_1178 : Jvm.Cond.fieldLink "WakingLayersModel" (34 : Nat) "WakingLayersModel" "testFact" "[I" ∈ x_ws := x_in 1178 (by decide +kernel) rfl
theorem xw_1179 : Jvm.Cond.fieldLink "WakingLayersModel" (37 : Nat) "WakingLayersModel" "testSign" "[I" ∈ x_ws := x_in 1179 (by decide +kernel) rfl
theorem xw_1180 : Jvm.Cond.fieldLink "WakingLayersModel" (40 : Nat) "WakingLayersModel" "testNumber" "[I" ∈ x_ws := x_in 1180 (by decide +kernel) rfl
theorem xw_1181 : Jvm.Cond.fieldLink "WakingLayersModel" (43 : Nat) "WakingLayersModel" "needs" "[I" ∈ x_ws := x_in 1181 (by decide +kernel) rfl
theorem xw_1182 : Jvm.Cond.fieldLink "WakingLayersModel" (46 : Nat) "WakingLayersModel" "bars" "[I" ∈ x_ws := x_in 1182 (by decide +kernel) rfl
theorem xw_1183 : Jvm.Cond.fieldLink "WakingLayersModel" (291 : Nat) "WakingLayersModel" "bodies" "I" ∈ x_ws := x_in 1183 (by decide +kernel) rfl
theorem xw_1184 : Jvm.Cond.fieldLink "WakingLayersModel" (49 : Nat) "WakingLayersModel" "bodyLayer" "[I" ∈ x_ws := x_in 1184 (by decide +kernel) rfl
theorem xw_1185 : Jvm.Cond.fieldLink "WakingLayersModel" (52 : Nat) "WakingLayersModel" "bodyKind" "[I" ∈ x_ws := x_in 1185 (by decide +kernel) rfl
theorem xw_1186 : Jvm.Cond.fieldLink "WakingLayersModel" (55 : Nat) "WakingLayersModel" "bodyRoutine" "[I" ∈ x_ws := x_in 1186 (by decide +kernel) rfl
theorem xw_1187 : Jvm.Cond.fieldLink "WakingLayersModel" (58 : Nat) "WakingLayersModel" "way" "[I" ∈ x_ws := x_in 1187 (by decide +kernel) rfl
theorem xw_1188 : Jvm.Cond.fieldLink "WakingLayersModel" (61 : Nat) "WakingLayersModel" "acts" "[I" ∈ x_ws := x_in 1188 (by decide +kernel) rfl
theorem xw_1189 : Jvm.Cond.fieldLink "WakingLayersModel" (64 : Nat) "WakingLayersModel" "act" "[I" ∈ x_ws := x_in 1189 (by decide +kernel) rfl
theorem xw_1190 : Jvm.Cond.fieldLink "WakingLayersModel" (67 : Nat) "WakingLayersModel" "tape" "[I" ∈ x_ws := x_in 1190 (by decide +kernel) rfl
theorem xw_1191 : Jvm.Cond.fieldLink "WakingLayersModel" (158 : Nat) "WakingLayersModel" "taped" "I" ∈ x_ws := x_in 1191 (by decide +kernel) rfl
theorem xw_1192 : Jvm.Cond.fieldLink "WakingLayersModel" (312 : Nat) "WakingLayersModel" "latest" "I" ∈ x_ws := x_in 1192 (by decide +kernel) rfl
theorem xw_1193 : Jvm.Cond.fieldLink "WakingLayersModel" (164 : Nat) "WakingLayersModel" "size" "I" ∈ x_ws := x_in 1193 (by decide +kernel) rfl
theorem xw_1194 : Jvm.Cond.fieldLink "WakingLayersModel" (168 : Nat) "WakingLayersModel" "cursor" "I" ∈ x_ws := x_in 1194 (by decide +kernel) rfl
theorem xw_1195 : Jvm.Cond.fieldLink "WakingLayersModel" (177 : Nat) "WakingLayersModel" "token" "I" ∈ x_ws := x_in 1195 (by decide +kernel) rfl
theorem xw_1196 : Jvm.Cond.fieldLink "WakingLayersModel" (174 : Nat) "WakingLayersModel" "from" "I" ∈ x_ws := x_in 1196 (by decide +kernel) rfl
theorem xw_1197 : Jvm.Cond.fieldLink "WakingLayersModel" (189 : Nat) "WakingLayersModel" "till" "I" ∈ x_ws := x_in 1197 (by decide +kernel) rfl
theorem xw_1198 : Jvm.Cond.fieldLink "WakingLayersModel" (192 : Nat) "WakingLayersModel" "fault" "I" ∈ x_ws := x_in 1198 (by decide +kernel) rfl
theorem xw_1199 : Jvm.Cond.fieldLink "WakingLayersModel" (195 : Nat) "WakingLayersModel" "faultAt" "I" ∈ x_ws := x_in 1199 (by decide +kernel) rfl
theorem xw_1200 : Jvm.Cond.fieldLink "WakingLayersModel" (243 : Nat) "WakingLayersModel" "newKinds" "I" ∈ x_ws := x_in 1200 (by decide +kernel) rfl
theorem xw_1201 : Jvm.Cond.fieldLink "WakingLayersModel" (251 : Nat) "WakingLayersModel" "newThings" "I" ∈ x_ws := x_in 1201 (by decide +kernel) rfl
theorem xw_1202 : Jvm.Cond.fieldLink "WakingLayersModel" (254 : Nat) "WakingLayersModel" "newLayers" "I" ∈ x_ws := x_in 1202 (by decide +kernel) rfl
theorem xw_1203 : Jvm.Cond.fieldLink "WakingLayersModel" (271 : Nat) "WakingLayersModel" "newBodies" "I" ∈ x_ws := x_in 1203 (by decide +kernel) rfl
theorem xw_1204 : Jvm.Cond.fieldLink "WakingLayersModel" (70 : Nat) "WakingLayersModel" "told" "[I" ∈ x_ws := x_in 1204 (by decide +kernel) rfl
theorem xw_1205 : Jvm.Cond.fieldLink "WakingLayersModel" (73 : Nat) "WakingLayersModel" "hold" "[I" ∈ x_ws := x_in 1205 (by decide +kernel) rfl
theorem xw_1206 : Jvm.Cond.fieldLink "WakingLayersModel" (316 : Nat) "WakingLayersModel" "open" "I" ∈ x_ws := x_in 1206 (by decide +kernel) rfl
theorem xw_1207 : Jvm.Cond.fieldLink "WakingLayersModel" (76 : Nat) "WakingLayersModel" "openLayer" "[I" ∈ x_ws := x_in 1207 (by decide +kernel) rfl
theorem xw_1208 : Jvm.Cond.fieldLink "WakingLayersModel" (79 : Nat) "WakingLayersModel" "openThing" "[I" ∈ x_ws := x_in 1208 (by decide +kernel) rfl
theorem xw_1209 : Jvm.Cond.fieldLink "WakingLayersModel" (319 : Nat) "WakingLayersModel" "found" "I" ∈ x_ws := x_in 1209 (by decide +kernel) rfl
theorem xw_1210 : Jvm.Cond.fieldLink "WakingLayersModel" (82 : Nat) "WakingLayersModel" "rowSize" "[I" ∈ x_ws := x_in 1210 (by decide +kernel) rfl
theorem xw_1211 : Jvm.Cond.fieldLink "WakingLayersModel" (85 : Nat) "WakingLayersModel" "rowBody" "[I" ∈ x_ws := x_in 1211 (by decide +kernel) rfl
theorem xw_1212 : Jvm.Cond.fieldLink "WakingLayersModel" (88 : Nat) "WakingLayersModel" "callThing" "[I" ∈ x_ws := x_in 1212 (by decide +kernel) rfl
theorem xw_1213 : Jvm.Cond.fieldLink "WakingLayersModel" (378 : Nat) "WakingLayersModel" "piled" "I" ∈ x_ws := x_in 1213 (by decide +kernel) rfl
theorem xw_1214 : Jvm.Cond.fieldLink "WakingLayersModel" (91 : Nat) "WakingLayersModel" "pileCall" "[I" ∈ x_ws := x_in 1214 (by decide +kernel) rfl
theorem xw_1215 : Jvm.Cond.fieldLink "WakingLayersModel" (94 : Nat) "WakingLayersModel" "pileAt" "[I" ∈ x_ws := x_in 1215 (by decide +kernel) rfl
theorem xw_1216 : Jvm.Cond.fieldLink "WakingLayersModel" (97 : Nat) "WakingLayersModel" "pileHad" "[I" ∈ x_ws := x_in 1216 (by decide +kernel) rfl
theorem xw_1217 : Jvm.Cond.fieldLink "WakingLayersModel" (100 : Nat) "WakingLayersModel" "pileNumber" "[I" ∈ x_ws := x_in 1217 (by decide +kernel) rfl
theorem xw_1218 : Jvm.Cond.fieldLink "WakingLayersModel" (103 : Nat) "WakingLayersModel" "pileAct" "[I" ∈ x_ws := x_in 1218 (by decide +kernel) rfl
theorem xw_1219 : Jvm.Cond.fieldLink "WakingLayersModel" (106 : Nat) "WakingLayersModel" "pileWakes" "[I" ∈ x_ws := x_in 1219 (by decide +kernel) rfl
theorem xw_1220 : Jvm.Cond.fieldLink "WakingLayersModel" (109 : Nat) "WakingLayersModel" "pileWaits" "[I" ∈ x_ws := x_in 1220 (by decide +kernel) rfl
theorem xw_1221 : Jvm.Cond.fieldLink "WakingLayersModel" (112 : Nat) "WakingLayersModel" "pileFails" "[Z" ∈ x_ws := x_in 1221 (by decide +kernel) rfl
theorem xw_1222 : Jvm.Cond.fieldLink "WakingLayersModel" (397 : Nat) "WakingLayersModel" "begun" "I" ∈ x_ws := x_in 1222 (by decide +kernel) rfl
theorem xw_1223 : Jvm.Cond.fieldLink "WakingLayersModel" (116 : Nat) "WakingLayersModel" "began" "[I" ∈ x_ws := x_in 1223 (by decide +kernel) rfl
theorem xw_1224 : Jvm.Cond.fieldLink "WakingLayersModel" (400 : Nat) "WakingLayersModel" "spent" "Z" ∈ x_ws := x_in 1224 (by decide +kernel) rfl
theorem xw_1225 : Jvm.Cond.fieldLink "WakingLayersModel" (388 : Nat) "WakingLayersModel" "back" "Z" ∈ x_ws := x_in 1225 (by decide +kernel) rfl
theorem xw_1226 : Jvm.Cond.fieldLink "WakingLayersModel" (384 : Nat) "WakingLayersModel" "failed" "Z" ∈ x_ws := x_in 1226 (by decide +kernel) rfl
theorem xw_1227 : Jvm.Cond.fieldLink "WakingLayersModel" (381 : Nat) "WakingLayersModel" "value" "I" ∈ x_ws := x_in 1227 (by decide +kernel) rfl
theorem xw_1228 : Jvm.Cond.fieldLink "WakingLayersModel" (391 : Nat) "WakingLayersModel" "call" "I" ∈ x_ws := x_in 1228 (by decide +kernel) rfl
theorem xw_1229 : Jvm.Cond.fieldLink "WakingLayersModel" (394 : Nat) "WakingLayersModel" "place" "I" ∈ x_ws := x_in 1229 (by decide +kernel) rfl
theorem xw_1230 : Jvm.Cond.fieldLink "WakingLayersModel" (433 : Nat) "WakingLayersModel" "ranMany" "I" ∈ x_ws := x_in 1230 (by decide +kernel) rfl
theorem xw_1231 : Jvm.Cond.fieldLink "WakingLayersModel" (119 : Nat) "WakingLayersModel" "ranBody" "[I" ∈ x_ws := x_in 1231 (by decide +kernel) rfl
theorem xw_1232 : Jvm.Cond.fieldLink "WakingLayersModel" (122 : Nat) "WakingLayersModel" "keptHold" "[I" ∈ x_ws := x_in 1232 (by decide +kernel) rfl
theorem xw_1233 : Jvm.Cond.fieldLink "WakingLayersModel" (438 : Nat) "WakingLayersModel" "keptFound" "I" ∈ x_ws := x_in 1233 (by decide +kernel) rfl
theorem xw_1234 : Jvm.Cond.fieldLink "WakingLayersModel" (125 : Nat) "WakingLayersModel" "isSet" "[Z" ∈ x_ws := x_in 1234 (by decide +kernel) rfl
theorem xw_1235 : Jvm.Cond.fieldLink "WakingLayersModel" (128 : Nat) "WakingLayersModel" "trace" "[I" ∈ x_ws := x_in 1235 (by decide +kernel) rfl
theorem xw_1236 : Jvm.Cond.fieldLink "WakingLayersModel" (460 : Nat) "WakingLayersModel" "traced" "I" ∈ x_ws := x_in 1236 (by decide +kernel) rfl
theorem xw_1385 : Jvm.Cond.code ({ cls := "WakingLayersModel", name := "sheet", desc := "(III)I" } : Jvm.MethodName) prog_14_method_6_code (5 : Nat) (Option.some Jvm.ClassFile.FieldType.int) ∈ x_ws := x_in 1385 (by decide +kernel) rfl
theorem xw_1386 : Jvm.Cond.methodLink "WakingLayersModel" (145 : Nat) ({ cls := "WakingLayersModel", name := "isSheet", desc := "(I)Z" } : Jvm.MethodName) ∈ x_ws := x_in 1386 (by decide +kernel) rfl
theorem xw_1387 : Jvm.Cond.static ({ cls := "WakingLayersModel", name := "isSheet", desc := "(I)Z" } : Jvm.MethodName) ∈ x_ws := x_in 1387 (by decide +kernel) rfl
theorem xw_1388 : Jvm.Cond.code ({ cls := "WakingLayersModel", name := "isSheet", desc := "(I)Z" } : Jvm.MethodName) prog_14_method_5_code (1 : Nat) (Option.some Jvm.ClassFile.FieldType.boolean) ∈ x_ws := x_in 1388 (by decide +kernel) rfl
theorem xw_1389 : Jvm.Cond.constantLong "WakingLayersModel" (139 : Nat) (7 : Int64) ∈ x_ws := x_in 1389 (by decide +kernel) rfl
theorem xw_1390 : Jvm.Cond.methodLink "WakingLayersModel" (141 : Nat) ({ cls := "WakingLayersModel", name := "in", desc := "(JJJ)Z" } : Jvm.MethodName) ∈ x_ws := x_in 1390 (by decide +kernel) rfl
theorem xw_1391 : Jvm.Cond.static ({ cls := "WakingLayersModel", name := "in", desc := "(JJJ)Z" } : Jvm.MethodName) ∈ x_ws := x_in 1391 (by decide +kernel) rfl
theorem xw_1392 : Jvm.Cond.code ({ cls := "WakingLayersModel", name := "in", desc := "(JJJ)Z" } : Jvm.MethodName) prog_14_method_3_code (6 : Nat) (Option.some Jvm.ClassFile.FieldType.boolean) ∈ x_ws := x_in 1392 (by decide +kernel) rfl
theorem xw_1393 : Jvm.Cond.constantLong "WakingLayersModel" (149 : Nat) (2 : Int64) ∈ x_ws := x_in 1393 (by decide +kernel) rfl
theorem xw_1394 : Jvm.Cond.constant "WakingLayersModel" (151 : Nat) (-1000001 : Int32) ∈ x_ws := x_in 1394 (by decide +kernel) rfl
theorem xw_1395 : Jvm.Cond.methodLink "WakingLayersModel" (152 : Nat) ({ cls := "WakingLayersModel", name := "finding", desc := "(I)I" } : Jvm.MethodName) ∈ x_ws := x_in 1395 (by decide +kernel) rfl
theorem xw_1397 : Jvm.Cond.instanceMethod ({ cls := "WakingLayersModel", name := "finding", desc := "(I)I" } : Jvm.MethodName) ∈ x_ws := x_in 1397 (by decide +kernel) rfl
theorem xw_1398 : Jvm.Cond.code ({ cls := "WakingLayersModel", name := "finding", desc := "(I)I" } : Jvm.MethodName) prog_14_method_4_code (2 : Nat) (Option.some Jvm.ClassFile.FieldType.int) ∈ x_ws := x_in 1398 (by decide +kernel) rfl
theorem xw_1399 : Jvm.Cond.constant "WakingLayersModel" (138 : Nat) (-1000010 : Int32) ∈ x_ws := x_in 1399 (by decide +kernel) rfl
theorem xw_1403 : Jvm.Cond.code ({ cls := "WakingLayersModel", name := "set", desc := "(III)I" } : Jvm.MethodName) prog_14_method_7_code (4 : Nat) (Option.some Jvm.ClassFile.FieldType.int) ∈ x_ws := x_in 1403 (by decide +kernel) rfl
theorem xw_1407 : Jvm.Cond.code ({ cls := "WakingLayersModel", name := "copy", desc := "(IIIII)I" } : Jvm.MethodName) prog_14_method_8_code (9 : Nat) (Option.some Jvm.ClassFile.FieldType.int) ∈ x_ws := x_in 1407 (by decide +kernel) rfl
theorem xw_1411 : Jvm.Cond.code ({ cls := "WakingLayersModel", name := "drop", desc := "(I)I" } : Jvm.MethodName) prog_14_method_9_code (2 : Nat) (Option.some Jvm.ClassFile.FieldType.int) ∈ x_ws := x_in 1411 (by decide +kernel) rfl
theorem xw_1415 : Jvm.Cond.code ({ cls := "WakingLayersModel", name := "feed", desc := "(JI)I" } : Jvm.MethodName) prog_14_method_10_code (5 : Nat) (Option.some Jvm.ClassFile.FieldType.int) ∈ x_ws := x_in 1415 (by decide +kernel) rfl
theorem xw_1416 : Jvm.Cond.constantLong "WakingLayersModel" (156 : Nat) (8 : Int64) ∈ x_ws := x_in 1416 (by decide +kernel) rfl
theorem xw_1417 : Jvm.Cond.constant "WakingLayersModel" (161 : Nat) (-1000003 : Int32) ∈ x_ws := x_in 1417 (by decide +kernel) rfl
theorem xw_1418 : Jvm.Cond.constantLong "WakingLayersModel" (162 : Nat) (255 : Int64) ∈ x_ws := x_in 1418 (by decide +kernel) rfl
theorem xw_1422 : Jvm.Cond.code ({ cls := "WakingLayersModel", name := "read", desc := "()I" } : Jvm.MethodName) prog_14_method_29_code (3 : Nat) (Option.some Jvm.ClassFile.FieldType.int) ∈ x_ws := x_in 1422 (by decide +kernel) rfl
theorem xw_1423 : Jvm.Cond.methodLink "WakingLayersModel" (202 : Nat) ({ cls := "WakingLayersModel", name := "step", desc := "()V" } : Jvm.MethodName) ∈ x_ws := x_in 1423 (by decide +kernel) rfl
theorem xw_1425 : Jvm.Cond.instanceMethod ({ cls := "WakingLayersModel", name := "step", desc := "()V" } : Jvm.MethodName) ∈ x_ws := x_in 1425 (by decide +kernel) rfl
theorem xw_1426 : Jvm.Cond.code ({ cls := "WakingLayersModel", name := "step", desc := "()V" } : Jvm.MethodName) prog_14_method_15_code (2 : Nat) (Option.none : Option Jvm.ClassFile.FieldType) ∈ x_ws := x_in 1426 (by decide +kernel) rfl
theorem xw_1427 : Jvm.Cond.methodLink "WakingLayersModel" (171 : Nat) ({ cls := "WakingLayersModel", name := "byteAt", desc := "(I)I" } : Jvm.MethodName) ∈ x_ws := x_in 1427 (by decide +kernel) rfl
theorem xw_1429 : Jvm.Cond.instanceMethod ({ cls := "WakingLayersModel", name := "byteAt", desc := "(I)I" } : Jvm.MethodName) ∈ x_ws := x_in 1429 (by decide +kernel) rfl
theorem xw_1430 : Jvm.Cond.code ({ cls := "WakingLayersModel", name := "byteAt", desc := "(I)I" } : Jvm.MethodName) prog_14_method_11_code (2 : Nat) (Option.some Jvm.ClassFile.FieldType.int) ∈ x_ws := x_in 1430 (by decide +kernel) rfl
theorem xw_1431 : Jvm.Cond.constant "WakingLayersModel" (167 : Nat) (-1000000 : Int32) ∈ x_ws := x_in 1431 (by decide +kernel) rfl
theorem xw_1432 : Jvm.Cond.methodLink "WakingLayersModel" (180 : Nat) ({ cls := "WakingLayersModel", name := "isLetter", desc := "(I)Z" } : Jvm.MethodName) ∈ x_ws := x_in 1432 (by decide +kernel) rfl
theorem xw_1433 : Jvm.Cond.static ({ cls := "WakingLayersModel", name := "isLetter", desc := "(I)Z" } : Jvm.MethodName) ∈ x_ws := x_in 1433 (by decide +kernel) rfl
theorem xw_1434 : Jvm.Cond.code ({ cls := "WakingLayersModel", name := "isLetter", desc := "(I)Z" } : Jvm.MethodName) prog_14_method_12_code (1 : Nat) (Option.some Jvm.ClassFile.FieldType.boolean) ∈ x_ws := x_in 1434 (by decide +kernel) rfl
theorem xw_1435 : Jvm.Cond.methodLink "WakingLayersModel" (183 : Nat) ({ cls := "WakingLayersModel", name := "isFigure", desc := "(I)Z" } : Jvm.MethodName) ∈ x_ws := x_in 1435 (by decide +kernel) rfl
theorem xw_1436 : Jvm.Cond.static ({ cls := "WakingLayersModel", name := "isFigure", desc := "(I)Z" } : Jvm.MethodName) ∈ x_ws := x_in 1436 (by decide +kernel) rfl
theorem xw_1437 : Jvm.Cond.code ({ cls := "WakingLayersModel", name := "isFigure", desc := "(I)Z" } : Jvm.MethodName) prog_14_method_13_code (1 : Nat) (Option.some Jvm.ClassFile.FieldType.boolean) ∈ x_ws := x_in 1437 (by decide +kernel) rfl
theorem xw_1438 : Jvm.Cond.methodLink "WakingLayersModel" (186 : Nat) ({ cls := "WakingLayersModel", name := "isSign", desc := "(I)Z" } : Jvm.MethodName) ∈ x_ws := x_in 1438 (by decide +kernel) rfl
theorem xw_1439 : Jvm.Cond.static ({ cls := "WakingLayersModel", name := "isSign", desc := "(I)Z" } : Jvm.MethodName) ∈ x_ws := x_in 1439 (by decide +kernel) rfl
theorem xw_1440 : Jvm.Cond.code ({ cls := "WakingLayersModel", name := "isSign", desc := "(I)Z" } : Jvm.MethodName) prog_14_method_14_code (1 : Nat) (Option.some Jvm.ClassFile.FieldType.boolean) ∈ x_ws := x_in 1440 (by decide +kernel) rfl
theorem xw_1441 : Jvm.Cond.methodLink "WakingLayersModel" (209 : Nat) ({ cls := "WakingLayersModel", name := "word", desc := "()J" } : Jvm.MethodName) ∈ x_ws := x_in 1441 (by decide +kernel) rfl
theorem xw_1443 : Jvm.Cond.instanceMethod ({ cls := "WakingLayersModel", name := "word", desc := "()J" } : Jvm.MethodName) ∈ x_ws := x_in 1443 (by decide +kernel) rfl
theorem xw_1444 : Jvm.Cond.code ({ cls := "WakingLayersModel", name := "word", desc := "()J" } : Jvm.MethodName) prog_14_method_19_code (4 : Nat) (Option.some Jvm.ClassFile.FieldType.long) ∈ x_ws := x_in 1444 (by decide +kernel) rfl
theorem xw_1445 : Jvm.Cond.constantLong "WakingLayersModel" (294 : Nat) (1802071652 : Int64) ∈ x_ws := x_in 1445 (by decide +kernel) rfl
theorem xw_1446 : Jvm.Cond.constantLong "WakingLayersModel" (215 : Nat) (499967946343 : Int64) ∈ x_ws := x_in 1446 (by decide +kernel) rfl
theorem xw_1447 : Jvm.Cond.constantLong "WakingLayersModel" (296 : Nat) (465491813746 : Int64) ∈ x_ws := x_in 1447 (by decide +kernel) rfl
theorem xw_1448 : Jvm.Cond.constantLong "WakingLayersModel" (298 : Nat) (1651467385 : Int64) ∈ x_ws := x_in 1448 (by decide +kernel) rfl
theorem xw_1449 : Jvm.Cond.methodLink "WakingLayersModel" (198 : Nat) ({ cls := "WakingLayersModel", name := "bad", desc := "(I)V" } : Jvm.MethodName) ∈ x_ws := x_in 1449 (by decide +kernel) rfl
theorem xw_1451 : Jvm.Cond.instanceMethod ({ cls := "WakingLayersModel", name := "bad", desc := "(I)V" } : Jvm.MethodName) ∈ x_ws := x_in 1451 (by decide +kernel) rfl
theorem xw_1452 : Jvm.Cond.code ({ cls := "WakingLayersModel", name := "bad", desc := "(I)V" } : Jvm.MethodName) prog_14_method_16_code (2 : Nat) (Option.none : Option Jvm.ClassFile.FieldType) ∈ x_ws := x_in 1452 (by decide +kernel) rfl
theorem xw_1453 : Jvm.Cond.methodLink "WakingLayersModel" (205 : Nat) ({ cls := "WakingLayersModel", name := "must", desc := "(Z)V" } : Jvm.MethodName) ∈ x_ws := x_in 1453 (by decide +kernel) rfl
theorem xw_1455 : Jvm.Cond.instanceMethod ({ cls := "WakingLayersModel", name := "must", desc := "(Z)V" } : Jvm.MethodName) ∈ x_ws := x_in 1455 (by decide +kernel) rfl
theorem xw_1456 : Jvm.Cond.code ({ cls := "WakingLayersModel", name := "must", desc := "(Z)V" } : Jvm.MethodName) prog_14_method_17_code (2 : Nat) (Option.none : Option Jvm.ClassFile.FieldType) ∈ x_ws := x_in 1456 (by decide +kernel) rfl
theorem xw_1457 : Jvm.Cond.methodLink "WakingLayersModel" (300 : Nat) ({ cls := "WakingLayersModel", name := "readKind", desc := "()V" } : Jvm.MethodName) ∈ x_ws := x_in 1457 (by decide +kernel) rfl
theorem xw_1459 : Jvm.Cond.instanceMethod ({ cls := "WakingLayersModel", name := "readKind", desc := "()V" } : Jvm.MethodName) ∈ x_ws := x_in 1459 (by decide +kernel) rfl
theorem xw_1460 : Jvm.Cond.code ({ cls := "WakingLayersModel", name := "readKind", desc := "()V" } : Jvm.MethodName) prog_14_method_24_code (1 : Nat) (Option.none : Option Jvm.ClassFile.FieldType) ∈ x_ws := x_in 1460 (by decide +kernel) rfl
theorem xw_1461 : Jvm.Cond.constantLong "WakingLayersModel" (246 : Nat) (504363246962 : Int64) ∈ x_ws := x_in 1461 (by decide +kernel) rfl
theorem xw_1462 : Jvm.Cond.methodLink "WakingLayersModel" (248 : Nat) ({ cls := "WakingLayersModel", name := "numberTo", desc := "(I)I" } : Jvm.MethodName) ∈ x_ws := x_in 1462 (by decide +kernel) rfl
theorem xw_1464 : Jvm.Cond.instanceMethod ({ cls := "WakingLayersModel", name := "numberTo", desc := "(I)I" } : Jvm.MethodName) ∈ x_ws := x_in 1464 (by decide +kernel) rfl
theorem xw_1465 : Jvm.Cond.code ({ cls := "WakingLayersModel", name := "numberTo", desc := "(I)I" } : Jvm.MethodName) prog_14_method_20_code (4 : Nat) (Option.some Jvm.ClassFile.FieldType.int) ∈ x_ws := x_in 1465 (by decide +kernel) rfl
theorem xw_1466 : Jvm.Cond.methodLink "WakingLayersModel" (303 : Nat) ({ cls := "WakingLayersModel", name := "readThing", desc := "()V" } : Jvm.MethodName) ∈ x_ws := x_in 1466 (by decide +kernel) rfl
theorem xw_1468 : Jvm.Cond.instanceMethod ({ cls := "WakingLayersModel", name := "readThing", desc := "()V" } : Jvm.MethodName) ∈ x_ws := x_in 1468 (by decide +kernel) rfl
theorem xw_1469 : Jvm.Cond.code ({ cls := "WakingLayersModel", name := "readThing", desc := "()V" } : Jvm.MethodName) prog_14_method_25_code (1 : Nat) (Option.none : Option Jvm.ClassFile.FieldType) ∈ x_ws := x_in 1469 (by decide +kernel) rfl
theorem xw_1470 : Jvm.Cond.methodLink "WakingLayersModel" (306 : Nat) ({ cls := "WakingLayersModel", name := "readLayer", desc := "()V" } : Jvm.MethodName) ∈ x_ws := x_in 1470 (by decide +kernel) rfl
theorem xw_1472 : Jvm.Cond.instanceMethod ({ cls := "WakingLayersModel", name := "readLayer", desc := "()V" } : Jvm.MethodName) ∈ x_ws := x_in 1472 (by decide +kernel) rfl
theorem xw_1473 : Jvm.Cond.code ({ cls := "WakingLayersModel", name := "readLayer", desc := "()V" } : Jvm.MethodName) prog_14_method_26_code (4 : Nat) (Option.none : Option Jvm.ClassFile.FieldType) ∈ x_ws := x_in 1473 (by decide +kernel) rfl
theorem xw_1474 : Jvm.Cond.methodLink "WakingLayersModel" (257 : Nat) ({ cls := "WakingLayersModel", name := "sortOfWord", desc := "()I" } : Jvm.MethodName) ∈ x_ws := x_in 1474 (by decide +kernel) rfl
theorem xw_1476 : Jvm.Cond.instanceMethod ({ cls := "WakingLayersModel", name := "sortOfWord", desc := "()I" } : Jvm.MethodName) ∈ x_ws := x_in 1476 (by decide +kernel) rfl
theorem xw_1477 : Jvm.Cond.code ({ cls := "WakingLayersModel", name := "sortOfWord", desc := "()I" } : Jvm.MethodName) prog_14_method_21_code (3 : Nat) (Option.some Jvm.ClassFile.FieldType.int) ∈ x_ws := x_in 1477 (by decide +kernel) rfl
theorem xw_1478 : Jvm.Cond.constantLong "WakingLayersModel" (213 : Nat) (1936744814 : Int64) ∈ x_ws := x_in 1478 (by decide +kernel) rfl
theorem xw_1479 : Jvm.Cond.constantLong "WakingLayersModel" (217 : Nat) (6386539 : Int64) ∈ x_ws := x_in 1479 (by decide +kernel) rfl
theorem xw_1480 : Jvm.Cond.constantLong "WakingLayersModel" (219 : Nat) (1702258034 : Int64) ∈ x_ws := x_in 1480 (by decide +kernel) rfl
theorem xw_1481 : Jvm.Cond.methodLink "WakingLayersModel" (261 : Nat) ({ cls := "WakingLayersModel", name := "is", desc := "(I)Z" } : Jvm.MethodName) ∈ x_ws := x_in 1481 (by decide +kernel) rfl
theorem xw_1483 : Jvm.Cond.instanceMethod ({ cls := "WakingLayersModel", name := "is", desc := "(I)Z" } : Jvm.MethodName) ∈ x_ws := x_in 1483 (by decide +kernel) rfl
theorem xw_1484 : Jvm.Cond.code ({ cls := "WakingLayersModel", name := "is", desc := "(I)Z" } : Jvm.MethodName) prog_14_method_18_code (2 : Nat) (Option.some Jvm.ClassFile.FieldType.boolean) ∈ x_ws := x_in 1484 (by decide +kernel) rfl
theorem xw_1485 : Jvm.Cond.constantLong "WakingLayersModel" (264 : Nat) (1852138852 : Int64) ∈ x_ws := x_in 1485 (by decide +kernel) rfl
theorem xw_1486 : Jvm.Cond.constantLong "WakingLayersModel" (266 : Nat) (6447474 : Int64) ∈ x_ws := x_in 1486 (by decide +kernel) rfl
theorem xw_1487 : Jvm.Cond.methodLink "WakingLayersModel" (309 : Nat) ({ cls := "WakingLayersModel", name := "readBody", desc := "()V" } : Jvm.MethodName) ∈ x_ws := x_in 1487 (by decide +kernel) rfl
theorem xw_1489 : Jvm.Cond.instanceMethod ({ cls := "WakingLayersModel", name := "readBody", desc := "()V" } : Jvm.MethodName) ∈ x_ws := x_in 1489 (by decide +kernel) rfl
theorem xw_1490 : Jvm.Cond.code ({ cls := "WakingLayersModel", name := "readBody", desc := "()V" } : Jvm.MethodName) prog_14_method_28_code (2 : Nat) (Option.none : Option Jvm.ClassFile.FieldType) ∈ x_ws := x_in 1490 (by decide +kernel) rfl
theorem xw_1491 : Jvm.Cond.constantLong "WakingLayersModel" (274 : Nat) (482854660462 : Int64) ∈ x_ws := x_in 1491 (by decide +kernel) rfl
theorem xw_1492 : Jvm.Cond.methodLink "WakingLayersModel" (276 : Nat) ({ cls := "WakingLayersModel", name := "wayOfWord", desc := "()I" } : Jvm.MethodName) ∈ x_ws := x_in 1492 (by decide +kernel) rfl
theorem xw_1494 : Jvm.Cond.instanceMethod ({ cls := "WakingLayersModel", name := "wayOfWord", desc := "()I" } : Jvm.MethodName) ∈ x_ws := x_in 1494 (by decide +kernel) rfl
theorem xw_1495 : Jvm.Cond.code ({ cls := "WakingLayersModel", name := "wayOfWord", desc := "()I" } : Jvm.MethodName) prog_14_method_22_code (3 : Nat) (Option.some Jvm.ClassFile.FieldType.int) ∈ x_ws := x_in 1495 (by decide +kernel) rfl
theorem xw_1496 : Jvm.Cond.constantLong "WakingLayersModel" (221 : Nat) (108187649798757 : Int64) ∈ x_ws := x_in 1496 (by decide +kernel) rfl
theorem xw_1497 : Jvm.Cond.constantLong "WakingLayersModel" (223 : Nat) (108187682958948 : Int64) ∈ x_ws := x_in 1497 (by decide +kernel) rfl
theorem xw_1498 : Jvm.Cond.constantLong "WakingLayersModel" (225 : Nat) (107144124132964 : Int64) ∈ x_ws := x_in 1498 (by decide +kernel) rfl
theorem xw_1499 : Jvm.Cond.constantLong "WakingLayersModel" (227 : Nat) (29676314707714404 : Int64) ∈ x_ws := x_in 1499 (by decide +kernel) rfl
theorem xw_1500 : Jvm.Cond.methodLink "WakingLayersModel" (268 : Nat) ({ cls := "WakingLayersModel", name := "actOfWord", desc := "(I)I" } : Jvm.MethodName) ∈ x_ws := x_in 1500 (by decide +kernel) rfl
theorem xw_1502 : Jvm.Cond.instanceMethod ({ cls := "WakingLayersModel", name := "actOfWord", desc := "(I)I" } : Jvm.MethodName) ∈ x_ws := x_in 1502 (by decide +kernel) rfl
theorem xw_1503 : Jvm.Cond.code ({ cls := "WakingLayersModel", name := "actOfWord", desc := "(I)I" } : Jvm.MethodName) prog_14_method_23_code (5 : Nat) (Option.some Jvm.ClassFile.FieldType.int) ∈ x_ws := x_in 1503 (by decide +kernel) rfl
theorem xw_1504 : Jvm.Cond.constantLong "WakingLayersModel" (229 : Nat) (6382692 : Int64) ∈ x_ws := x_in 1504 (by decide +kernel) rfl
theorem xw_1505 : Jvm.Cond.constantLong "WakingLayersModel" (231 : Nat) (7173484 : Int64) ∈ x_ws := x_in 1505 (by decide +kernel) rfl
theorem xw_1506 : Jvm.Cond.constantLong "WakingLayersModel" (233 : Nat) (7305070 : Int64) ∈ x_ws := x_in 1506 (by decide +kernel) rfl
theorem xw_1507 : Jvm.Cond.constantLong "WakingLayersModel" (235 : Nat) (31651020126119268 : Int64) ∈ x_ws := x_in 1507 (by decide +kernel) rfl
theorem xw_1508 : Jvm.Cond.constantLong "WakingLayersModel" (237 : Nat) (1667329132 : Int64) ∈ x_ws := x_in 1508 (by decide +kernel) rfl
theorem xw_1509 : Jvm.Cond.constantLong "WakingLayersModel" (239 : Nat) (2002873189 : Int64) ∈ x_ws := x_in 1509 (by decide +kernel) rfl
theorem xw_1510 : Jvm.Cond.constantLong "WakingLayersModel" (241 : Nat) (1717660012 : Int64) ∈ x_ws := x_in 1510 (by decide +kernel) rfl
theorem xw_1511 : Jvm.Cond.methodLink "WakingLayersModel" (279 : Nat) ({ cls := "WakingLayersModel", name := "readAct", desc := "(I)V" } : Jvm.MethodName) ∈ x_ws := x_in 1511 (by decide +kernel) rfl
theorem xw_1513 : Jvm.Cond.instanceMethod ({ cls := "WakingLayersModel", name := "readAct", desc := "(I)V" } : Jvm.MethodName) ∈ x_ws := x_in 1513 (by decide +kernel) rfl
theorem xw_1514 : Jvm.Cond.code ({ cls := "WakingLayersModel", name := "readAct", desc := "(I)V" } : Jvm.MethodName) prog_14_method_27_code (6 : Nat) (Option.none : Option Jvm.ClassFile.FieldType) ∈ x_ws := x_in 1514 (by decide +kernel) rfl
theorem xw_1515 : Jvm.Cond.constant "WakingLayersModel" (315 : Nat) (-1000100 : Int32) ∈ x_ws := x_in 1515 (by decide +kernel) rfl
theorem xw_1519 : Jvm.Cond.code ({ cls := "WakingLayersModel", name := "fault", desc := "()I" } : Jvm.MethodName) prog_14_method_30_code (1 : Nat) (Option.some Jvm.ClassFile.FieldType.int) ∈ x_ws := x_in 1519 (by decide +kernel) rfl
theorem xw_1523 : Jvm.Cond.code ({ cls := "WakingLayersModel", name := "layer", desc := "(II)I" } : Jvm.MethodName) prog_14_method_39_code (3 : Nat) (Option.some Jvm.ClassFile.FieldType.int) ∈ x_ws := x_in 1523 (by decide +kernel) rfl
theorem xw_1524 : Jvm.Cond.methodLink "WakingLayersModel" (337 : Nat) ({ cls := "WakingLayersModel", name := "isLayer", desc := "(I)Z" } : Jvm.MethodName) ∈ x_ws := x_in 1524 (by decide +kernel) rfl
theorem xw_1526 : Jvm.Cond.instanceMethod ({ cls := "WakingLayersModel", name := "isLayer", desc := "(I)Z" } : Jvm.MethodName) ∈ x_ws := x_in 1526 (by decide +kernel) rfl
theorem xw_1527 : Jvm.Cond.code ({ cls := "WakingLayersModel", name := "isLayer", desc := "(I)Z" } : Jvm.MethodName) prog_14_method_31_code (2 : Nat) (Option.some Jvm.ClassFile.FieldType.boolean) ∈ x_ws := x_in 1527 (by decide +kernel) rfl
theorem xw_1528 : Jvm.Cond.constantLong "WakingLayersModel" (340 : Nat) (5 : Int64) ∈ x_ws := x_in 1528 (by decide +kernel) rfl
theorem xw_1529 : Jvm.Cond.methodLink "WakingLayersModel" (325 : Nat) ({ cls := "WakingLayersModel", name := "isAwake", desc := "(I)Z" } : Jvm.MethodName) ∈ x_ws := x_in 1529 (by decide +kernel) rfl
theorem xw_1531 : Jvm.Cond.instanceMethod ({ cls := "WakingLayersModel", name := "isAwake", desc := "(I)Z" } : Jvm.MethodName) ∈ x_ws := x_in 1531 (by decide +kernel) rfl
theorem xw_1532 : Jvm.Cond.code ({ cls := "WakingLayersModel", name := "isAwake", desc := "(I)Z" } : Jvm.MethodName) prog_14_method_34_code (2 : Nat) (Option.some Jvm.ClassFile.FieldType.boolean) ∈ x_ws := x_in 1532 (by decide +kernel) rfl
theorem xw_1533 : Jvm.Cond.methodLink "WakingLayersModel" (322 : Nat) ({ cls := "WakingLayersModel", name := "openOf", desc := "(I)I" } : Jvm.MethodName) ∈ x_ws := x_in 1533 (by decide +kernel) rfl
theorem xw_1535 : Jvm.Cond.instanceMethod ({ cls := "WakingLayersModel", name := "openOf", desc := "(I)I" } : Jvm.MethodName) ∈ x_ws := x_in 1535 (by decide +kernel) rfl
theorem xw_1536 : Jvm.Cond.code ({ cls := "WakingLayersModel", name := "openOf", desc := "(I)I" } : Jvm.MethodName) prog_14_method_33_code (4 : Nat) (Option.some Jvm.ClassFile.FieldType.int) ∈ x_ws := x_in 1536 (by decide +kernel) rfl
theorem xw_1540 : Jvm.Cond.code ({ cls := "WakingLayersModel", name := "fact", desc := "(II)I" } : Jvm.MethodName) prog_14_method_40_code (4 : Nat) (Option.some Jvm.ClassFile.FieldType.int) ∈ x_ws := x_in 1540 (by decide +kernel) rfl
theorem xw_1541 : Jvm.Cond.constantLong "WakingLayersModel" (342 : Nat) (3 : Int64) ∈ x_ws := x_in 1541 (by decide +kernel) rfl
theorem xw_1542 : Jvm.Cond.constantLong "WakingLayersModel" (344 : Nat) (9 : Int64) ∈ x_ws := x_in 1542 (by decide +kernel) rfl
theorem xw_1546 : Jvm.Cond.code ({ cls := "WakingLayersModel", name := "facts", desc := "(III)I" } : Jvm.MethodName) prog_14_method_41_code (5 : Nat) (Option.some Jvm.ClassFile.FieldType.int) ∈ x_ws := x_in 1546 (by decide +kernel) rfl
theorem xw_1547 : Jvm.Cond.constantLong "WakingLayersModel" (346 : Nat) (4 : Int64) ∈ x_ws := x_in 1547 (by decide +kernel) rfl
theorem xw_1551 : Jvm.Cond.code ({ cls := "WakingLayersModel", name := "point", desc := "()I" } : Jvm.MethodName) prog_14_method_42_code (2 : Nat) (Option.some Jvm.ClassFile.FieldType.int) ∈ x_ws := x_in 1551 (by decide +kernel) rfl
theorem xw_1552 : Jvm.Cond.methodLink "WakingLayersModel" (348 : Nat) ({ cls := "WakingLayersModel", name := "find", desc := "()V" } : Jvm.MethodName) ∈ x_ws := x_in 1552 (by decide +kernel) rfl
theorem xw_1554 : Jvm.Cond.instanceMethod ({ cls := "WakingLayersModel", name := "find", desc := "()V" } : Jvm.MethodName) ∈ x_ws := x_in 1554 (by decide +kernel) rfl
theorem xw_1555 : Jvm.Cond.code ({ cls := "WakingLayersModel", name := "find", desc := "()V" } : Jvm.MethodName) prog_14_method_38_code (3 : Nat) (Option.none : Option Jvm.ClassFile.FieldType) ∈ x_ws := x_in 1555 (by decide +kernel) rfl
theorem xw_1556 : Jvm.Cond.methodLink "WakingLayersModel" (331 : Nat) ({ cls := "WakingLayersModel", name := "holdsTest", desc := "(I)Z" } : Jvm.MethodName) ∈ x_ws := x_in 1556 (by decide +kernel) rfl
theorem xw_1558 : Jvm.Cond.instanceMethod ({ cls := "WakingLayersModel", name := "holdsTest", desc := "(I)Z" } : Jvm.MethodName) ∈ x_ws := x_in 1558 (by decide +kernel) rfl
theorem xw_1559 : Jvm.Cond.code ({ cls := "WakingLayersModel", name := "holdsTest", desc := "(I)Z" } : Jvm.MethodName) prog_14_method_37_code (3 : Nat) (Option.some Jvm.ClassFile.FieldType.boolean) ∈ x_ws := x_in 1559 (by decide +kernel) rfl
theorem xw_1560 : Jvm.Cond.methodLink "WakingLayersModel" (328 : Nat) ({ cls := "WakingLayersModel", name := "hasNeeds", desc := "(I)Z" } : Jvm.MethodName) ∈ x_ws := x_in 1560 (by decide +kernel) rfl
theorem xw_1562 : Jvm.Cond.instanceMethod ({ cls := "WakingLayersModel", name := "hasNeeds", desc := "(I)Z" } : Jvm.MethodName) ∈ x_ws := x_in 1562 (by decide +kernel) rfl
theorem xw_1563 : Jvm.Cond.code ({ cls := "WakingLayersModel", name := "hasNeeds", desc := "(I)Z" } : Jvm.MethodName) prog_14_method_35_code (4 : Nat) (Option.some Jvm.ClassFile.FieldType.boolean) ∈ x_ws := x_in 1563 (by decide +kernel) rfl
theorem xw_1564 : Jvm.Cond.methodLink "WakingLayersModel" (334 : Nat) ({ cls := "WakingLayersModel", name := "lose", desc := "()V" } : Jvm.MethodName) ∈ x_ws := x_in 1564 (by decide +kernel) rfl
theorem xw_1566 : Jvm.Cond.instanceMethod ({ cls := "WakingLayersModel", name := "lose", desc := "()V" } : Jvm.MethodName) ∈ x_ws := x_in 1566 (by decide +kernel) rfl
theorem xw_1567 : Jvm.Cond.code ({ cls := "WakingLayersModel", name := "lose", desc := "()V" } : Jvm.MethodName) prog_14_method_36_code (3 : Nat) (Option.none : Option Jvm.ClassFile.FieldType) ∈ x_ws := x_in 1567 (by decide +kernel) rfl
theorem xw_1571 : Jvm.Cond.code ({ cls := "WakingLayersModel", name := "wake", desc := "(II)I" } : Jvm.MethodName) prog_14_method_43_code (3 : Nat) (Option.some Jvm.ClassFile.FieldType.int) ∈ x_ws := x_in 1571 (by decide +kernel) rfl
theorem xw_1572 : Jvm.Cond.methodLink "WakingLayersModel" (351 : Nat) ({ cls := "WakingLayersModel", name := "isThing", desc := "(I)Z" } : Jvm.MethodName) ∈ x_ws := x_in 1572 (by decide +kernel) rfl
theorem xw_1574 : Jvm.Cond.instanceMethod ({ cls := "WakingLayersModel", name := "isThing", desc := "(I)Z" } : Jvm.MethodName) ∈ x_ws := x_in 1574 (by decide +kernel) rfl
theorem xw_1575 : Jvm.Cond.code ({ cls := "WakingLayersModel", name := "isThing", desc := "(I)Z" } : Jvm.MethodName) prog_14_method_32_code (2 : Nat) (Option.some Jvm.ClassFile.FieldType.boolean) ∈ x_ws := x_in 1575 (by decide +kernel) rfl
theorem xw_1579 : Jvm.Cond.code ({ cls := "WakingLayersModel", name := "sleep", desc := "(I)I" } : Jvm.MethodName) prog_14_method_45_code (3 : Nat) (Option.some Jvm.ClassFile.FieldType.int) ∈ x_ws := x_in 1579 (by decide +kernel) rfl
theorem xw_1580 : Jvm.Cond.methodLink "WakingLayersModel" (354 : Nat) ({ cls := "WakingLayersModel", name := "close", desc := "(I)V" } : Jvm.MethodName) ∈ x_ws := x_in 1580 (by decide +kernel) rfl
theorem xw_1582 : Jvm.Cond.instanceMethod ({ cls := "WakingLayersModel", name := "close", desc := "(I)V" } : Jvm.MethodName) ∈ x_ws := x_in 1582 (by decide +kernel) rfl
theorem xw_1583 : Jvm.Cond.code ({ cls := "WakingLayersModel", name := "close", desc := "(I)V" } : Jvm.MethodName) prog_14_method_44_code (3 : Nat) (Option.none : Option Jvm.ClassFile.FieldType) ∈ x_ws := x_in 1583 (by decide +kernel) rfl
theorem xw_1584 : Jvm.Cond.constant "WakingLayersModel" (357 : Nat) (-1000002 : Int32) ∈ x_ws := x_in 1584 (by decide +kernel) rfl
theorem xw_1588 : Jvm.Cond.code ({ cls := "WakingLayersModel", name := "row", desc := "(III)I" } : Jvm.MethodName) prog_14_method_51_code (4 : Nat) (Option.some Jvm.ClassFile.FieldType.int) ∈ x_ws := x_in 1588 (by decide +kernel) rfl
theorem xw_1589 : Jvm.Cond.methodLink "WakingLayersModel" (374 : Nat) ({ cls := "WakingLayersModel", name := "layRow", desc := "(III)V" } : Jvm.MethodName) ∈ x_ws := x_in 1589 (by decide +kernel) rfl
theorem xw_1591 : Jvm.Cond.instanceMethod ({ cls := "WakingLayersModel", name := "layRow", desc := "(III)V" } : Jvm.MethodName) ∈ x_ws := x_in 1591 (by decide +kernel) rfl
theorem xw_1592 : Jvm.Cond.code ({ cls := "WakingLayersModel", name := "layRow", desc := "(III)V" } : Jvm.MethodName) prog_14_method_50_code (10 : Nat) (Option.none : Option Jvm.ClassFile.FieldType) ∈ x_ws := x_in 1592 (by decide +kernel) rfl
theorem xw_1593 : Jvm.Cond.methodLink "WakingLayersModel" (362 : Nat) ({ cls := "WakingLayersModel", name := "isAwakeFor", desc := "(II)Z" } : Jvm.MethodName) ∈ x_ws := x_in 1593 (by decide +kernel) rfl
theorem xw_1595 : Jvm.Cond.instanceMethod ({ cls := "WakingLayersModel", name := "isAwakeFor", desc := "(II)Z" } : Jvm.MethodName) ∈ x_ws := x_in 1595 (by decide +kernel) rfl
theorem xw_1596 : Jvm.Cond.code ({ cls := "WakingLayersModel", name := "isAwakeFor", desc := "(II)Z" } : Jvm.MethodName) prog_14_method_47_code (3 : Nat) (Option.some Jvm.ClassFile.FieldType.boolean) ∈ x_ws := x_in 1596 (by decide +kernel) rfl
theorem xw_1597 : Jvm.Cond.methodLink "WakingLayersModel" (358 : Nat) ({ cls := "WakingLayersModel", name := "latestOf", desc := "(II)I" } : Jvm.MethodName) ∈ x_ws := x_in 1597 (by decide +kernel) rfl
theorem xw_1599 : Jvm.Cond.instanceMethod ({ cls := "WakingLayersModel", name := "latestOf", desc := "(II)I" } : Jvm.MethodName) ∈ x_ws := x_in 1599 (by decide +kernel) rfl
theorem xw_1600 : Jvm.Cond.code ({ cls := "WakingLayersModel", name := "latestOf", desc := "(II)I" } : Jvm.MethodName) prog_14_method_46_code (5 : Nat) (Option.some Jvm.ClassFile.FieldType.int) ∈ x_ws := x_in 1600 (by decide +kernel) rfl
theorem xw_1601 : Jvm.Cond.methodLink "WakingLayersModel" (366 : Nat) ({ cls := "WakingLayersModel", name := "isAhead", desc := "(III)Z" } : Jvm.MethodName) ∈ x_ws := x_in 1601 (by decide +kernel) rfl
theorem xw_1603 : Jvm.Cond.instanceMethod ({ cls := "WakingLayersModel", name := "isAhead", desc := "(III)Z" } : Jvm.MethodName) ∈ x_ws := x_in 1603 (by decide +kernel) rfl
theorem xw_1604 : Jvm.Cond.code ({ cls := "WakingLayersModel", name := "isAhead", desc := "(III)Z" } : Jvm.MethodName) prog_14_method_48_code (4 : Nat) (Option.some Jvm.ClassFile.FieldType.boolean) ∈ x_ws := x_in 1604 (by decide +kernel) rfl
theorem xw_1605 : Jvm.Cond.methodLink "WakingLayersModel" (370 : Nat) ({ cls := "WakingLayersModel", name := "lay", desc := "(IIII)Z" } : Jvm.MethodName) ∈ x_ws := x_in 1605 (by decide +kernel) rfl
theorem xw_1607 : Jvm.Cond.instanceMethod ({ cls := "WakingLayersModel", name := "lay", desc := "(IIII)Z" } : Jvm.MethodName) ∈ x_ws := x_in 1607 (by decide +kernel) rfl
theorem xw_1608 : Jvm.Cond.code ({ cls := "WakingLayersModel", name := "lay", desc := "(IIII)Z" } : Jvm.MethodName) prog_14_method_49_code (7 : Nat) (Option.some Jvm.ClassFile.FieldType.boolean) ∈ x_ws := x_in 1608 (by decide +kernel) rfl
theorem xw_1612 : Jvm.Cond.code ({ cls := "WakingLayersModel", name := "call", desc := "(III)I" } : Jvm.MethodName) prog_14_method_60_code (6 : Nat) (Option.some Jvm.ClassFile.FieldType.int) ∈ x_ws := x_in 1612 (by decide +kernel) rfl
theorem xw_1613 : Jvm.Cond.methodLink "WakingLayersModel" (426 : Nat) ({ cls := "WakingLayersModel", name := "isNumber", desc := "(I)Z" } : Jvm.MethodName) ∈ x_ws := x_in 1613 (by decide +kernel) rfl
theorem xw_1615 : Jvm.Cond.instanceMethod ({ cls := "WakingLayersModel", name := "isNumber", desc := "(I)Z" } : Jvm.MethodName) ∈ x_ws := x_in 1615 (by decide +kernel) rfl
theorem xw_1616 : Jvm.Cond.code ({ cls := "WakingLayersModel", name := "isNumber", desc := "(I)Z" } : Jvm.MethodName) prog_14_method_59_code (2 : Nat) (Option.some Jvm.ClassFile.FieldType.boolean) ∈ x_ws := x_in 1616 (by decide +kernel) rfl
theorem xw_1617 : Jvm.Cond.constantLong "WakingLayersModel" (424 : Nat) (1000002 : Int64) ∈ x_ws := x_in 1617 (by decide +kernel) rfl
theorem xw_1618 : Jvm.Cond.methodLink "WakingLayersModel" (429 : Nat) ({ cls := "WakingLayersModel", name := "outermost", desc := "(III)I" } : Jvm.MethodName) ∈ x_ws := x_in 1618 (by decide +kernel) rfl
theorem xw_1620 : Jvm.Cond.instanceMethod ({ cls := "WakingLayersModel", name := "outermost", desc := "(III)I" } : Jvm.MethodName) ∈ x_ws := x_in 1620 (by decide +kernel) rfl
theorem xw_1621 : Jvm.Cond.code ({ cls := "WakingLayersModel", name := "outermost", desc := "(III)I" } : Jvm.MethodName) prog_14_method_58_code (5 : Nat) (Option.some Jvm.ClassFile.FieldType.int) ∈ x_ws := x_in 1621 (by decide +kernel) rfl
theorem xw_1622 : Jvm.Cond.methodLink "WakingLayersModel" (413 : Nat) ({ cls := "WakingLayersModel", name := "comeBack", desc := "()Z" } : Jvm.MethodName) ∈ x_ws := x_in 1622 (by decide +kernel) rfl
theorem xw_1624 : Jvm.Cond.instanceMethod ({ cls := "WakingLayersModel", name := "comeBack", desc := "()Z" } : Jvm.MethodName) ∈ x_ws := x_in 1624 (by decide +kernel) rfl
theorem xw_1625 : Jvm.Cond.code ({ cls := "WakingLayersModel", name := "comeBack", desc := "()Z" } : Jvm.MethodName) prog_14_method_56_code (4 : Nat) (Option.some Jvm.ClassFile.FieldType.boolean) ∈ x_ws := x_in 1625 (by decide +kernel) rfl
theorem xw_1626 : Jvm.Cond.methodLink "WakingLayersModel" (403 : Nat) ({ cls := "WakingLayersModel", name := "topBody", desc := "()I" } : Jvm.MethodName) ∈ x_ws := x_in 1626 (by decide +kernel) rfl
theorem xw_1628 : Jvm.Cond.instanceMethod ({ cls := "WakingLayersModel", name := "topBody", desc := "()I" } : Jvm.MethodName) ∈ x_ws := x_in 1628 (by decide +kernel) rfl
theorem xw_1629 : Jvm.Cond.code ({ cls := "WakingLayersModel", name := "topBody", desc := "()I" } : Jvm.MethodName) prog_14_method_52_code (1 : Nat) (Option.some Jvm.ClassFile.FieldType.int) ∈ x_ws := x_in 1629 (by decide +kernel) rfl
theorem xw_1630 : Jvm.Cond.methodLink "WakingLayersModel" (409 : Nat) ({ cls := "WakingLayersModel", name := "over", desc := "(Z)V" } : Jvm.MethodName) ∈ x_ws := x_in 1630 (by decide +kernel) rfl
theorem xw_1632 : Jvm.Cond.instanceMethod ({ cls := "WakingLayersModel", name := "over", desc := "(Z)V" } : Jvm.MethodName) ∈ x_ws := x_in 1632 (by decide +kernel) rfl
theorem xw_1633 : Jvm.Cond.code ({ cls := "WakingLayersModel", name := "over", desc := "(Z)V" } : Jvm.MethodName) prog_14_method_53_code (3 : Nat) (Option.none : Option Jvm.ClassFile.FieldType) ∈ x_ws := x_in 1633 (by decide +kernel) rfl
theorem xw_1634 : Jvm.Cond.methodLink "WakingLayersModel" (417 : Nat) ({ cls := "WakingLayersModel", name := "begin", desc := "()Z" } : Jvm.MethodName) ∈ x_ws := x_in 1634 (by decide +kernel) rfl
theorem xw_1636 : Jvm.Cond.instanceMethod ({ cls := "WakingLayersModel", name := "begin", desc := "()Z" } : Jvm.MethodName) ∈ x_ws := x_in 1636 (by decide +kernel) rfl
theorem xw_1637 : Jvm.Cond.code ({ cls := "WakingLayersModel", name := "begin", desc := "()Z" } : Jvm.MethodName) prog_14_method_55_code (1 : Nat) (Option.some Jvm.ClassFile.FieldType.boolean) ∈ x_ws := x_in 1637 (by decide +kernel) rfl
theorem xw_1638 : Jvm.Cond.methodLink "WakingLayersModel" (406 : Nat) ({ cls := "WakingLayersModel", name := "goNext", desc := "()V" } : Jvm.MethodName) ∈ x_ws := x_in 1638 (by decide +kernel) rfl
theorem xw_1640 : Jvm.Cond.instanceMethod ({ cls := "WakingLayersModel", name := "goNext", desc := "()V" } : Jvm.MethodName) ∈ x_ws := x_in 1640 (by decide +kernel) rfl
theorem xw_1641 : Jvm.Cond.code ({ cls := "WakingLayersModel", name := "goNext", desc := "()V" } : Jvm.MethodName) prog_14_method_54_code (2 : Nat) (Option.none : Option Jvm.ClassFile.FieldType) ∈ x_ws := x_in 1641 (by decide +kernel) rfl
theorem xw_1642 : Jvm.Cond.methodLink "WakingLayersModel" (420 : Nat) ({ cls := "WakingLayersModel", name := "doActs", desc := "()V" } : Jvm.MethodName) ∈ x_ws := x_in 1642 (by decide +kernel) rfl
theorem xw_1644 : Jvm.Cond.instanceMethod ({ cls := "WakingLayersModel", name := "doActs", desc := "()V" } : Jvm.MethodName) ∈ x_ws := x_in 1644 (by decide +kernel) rfl
theorem xw_1645 : Jvm.Cond.code ({ cls := "WakingLayersModel", name := "doActs", desc := "()V" } : Jvm.MethodName) prog_14_method_57_code (6 : Nat) (Option.none : Option Jvm.ClassFile.FieldType) ∈ x_ws := x_in 1645 (by decide +kernel) rfl
theorem xw_1646 : Jvm.Cond.constant "WakingLayersModel" (412 : Nat) (1000003 : Int32) ∈ x_ws := x_in 1646 (by decide +kernel) rfl
theorem xw_1647 : Jvm.Cond.constant "WakingLayersModel" (423 : Nat) (-1000004 : Int32) ∈ x_ws := x_in 1647 (by decide +kernel) rfl
theorem xw_1651 : Jvm.Cond.code ({ cls := "WakingLayersModel", name := "ran", desc := "(I)I" } : Jvm.MethodName) prog_14_method_61_code (2 : Nat) (Option.some Jvm.ClassFile.FieldType.int) ∈ x_ws := x_in 1651 (by decide +kernel) rfl
theorem xw_1652 : Jvm.Cond.constantLong "WakingLayersModel" (436 : Nat) (39 : Int64) ∈ x_ws := x_in 1652 (by decide +kernel) rfl
theorem xw_1656 : Jvm.Cond.code ({ cls := "WakingLayersModel", name := "together", desc := "(II)I" } : Jvm.MethodName) prog_14_method_66_code (5 : Nat) (Option.some Jvm.ClassFile.FieldType.int) ∈ x_ws := x_in 1656 (by decide +kernel) rfl
theorem xw_1657 : Jvm.Cond.methodLink "WakingLayersModel" (441 : Nat) ({ cls := "WakingLayersModel", name := "keep", desc := "()V" } : Jvm.MethodName) ∈ x_ws := x_in 1657 (by decide +kernel) rfl
theorem xw_1659 : Jvm.Cond.instanceMethod ({ cls := "WakingLayersModel", name := "keep", desc := "()V" } : Jvm.MethodName) ∈ x_ws := x_in 1659 (by decide +kernel) rfl
theorem xw_1660 : Jvm.Cond.code ({ cls := "WakingLayersModel", name := "keep", desc := "()V" } : Jvm.MethodName) prog_14_method_62_code (2 : Nat) (Option.none : Option Jvm.ClassFile.FieldType) ∈ x_ws := x_in 1660 (by decide +kernel) rfl
theorem xw_1661 : Jvm.Cond.methodLink "WakingLayersModel" (444 : Nat) ({ cls := "WakingLayersModel", name := "worlds", desc := "(I)I" } : Jvm.MethodName) ∈ x_ws := x_in 1661 (by decide +kernel) rfl
theorem xw_1662 : Jvm.Cond.static ({ cls := "WakingLayersModel", name := "worlds", desc := "(I)I" } : Jvm.MethodName) ∈ x_ws := x_in 1662 (by decide +kernel) rfl
theorem xw_1663 : Jvm.Cond.code ({ cls := "WakingLayersModel", name := "worlds", desc := "(I)I" } : Jvm.MethodName) prog_14_method_65_code (1 : Nat) (Option.some Jvm.ClassFile.FieldType.int) ∈ x_ws := x_in 1663 (by decide +kernel) rfl
theorem xw_1664 : Jvm.Cond.methodLink "WakingLayersModel" (447 : Nat) ({ cls := "WakingLayersModel", name := "makeWorld", desc := "(II)V" } : Jvm.MethodName) ∈ x_ws := x_in 1664 (by decide +kernel) rfl
theorem xw_1666 : Jvm.Cond.instanceMethod ({ cls := "WakingLayersModel", name := "makeWorld", desc := "(II)V" } : Jvm.MethodName) ∈ x_ws := x_in 1666 (by decide +kernel) rfl
theorem xw_1667 : Jvm.Cond.code ({ cls := "WakingLayersModel", name := "makeWorld", desc := "(II)V" } : Jvm.MethodName) prog_14_method_64_code (5 : Nat) (Option.none : Option Jvm.ClassFile.FieldType) ∈ x_ws := x_in 1667 (by decide +kernel) rfl
theorem xw_1668 : Jvm.Cond.methodLink "WakingLayersModel" (451 : Nat) ({ cls := "WakingLayersModel", name := "bringBack", desc := "()V" } : Jvm.MethodName) ∈ x_ws := x_in 1668 (by decide +kernel) rfl
theorem xw_1670 : Jvm.Cond.instanceMethod ({ cls := "WakingLayersModel", name := "bringBack", desc := "()V" } : Jvm.MethodName) ∈ x_ws := x_in 1670 (by decide +kernel) rfl
theorem xw_1671 : Jvm.Cond.code ({ cls := "WakingLayersModel", name := "bringBack", desc := "()V" } : Jvm.MethodName) prog_14_method_63_code (2 : Nat) (Option.none : Option Jvm.ClassFile.FieldType) ∈ x_ws := x_in 1671 (by decide +kernel) rfl
theorem xw_1675 : Jvm.Cond.code ({ cls := "WakingLayersModel", name := "same", desc := "(IIIII)I" } : Jvm.MethodName) prog_14_method_67_code (10 : Nat) (Option.some Jvm.ClassFile.FieldType.int) ∈ x_ws := x_in 1675 (by decide +kernel) rfl
theorem xw_1679 : Jvm.Cond.code ({ cls := "WakingLayersModel", name := "kind", desc := "(I)I" } : Jvm.MethodName) prog_14_method_70_code (2 : Nat) (Option.some Jvm.ClassFile.FieldType.int) ∈ x_ws := x_in 1679 (by decide +kernel) rfl
theorem xw_1680 : Jvm.Cond.methodLink "WakingLayersModel" (454 : Nat) ({ cls := "WakingLayersModel", name := "kindOf", desc := "(I)I" } : Jvm.MethodName) ∈ x_ws := x_in 1680 (by decide +kernel) rfl
theorem xw_1682 : Jvm.Cond.instanceMethod ({ cls := "WakingLayersModel", name := "kindOf", desc := "(I)I" } : Jvm.MethodName) ∈ x_ws := x_in 1682 (by decide +kernel) rfl
theorem xw_1683 : Jvm.Cond.code ({ cls := "WakingLayersModel", name := "kindOf", desc := "(I)I" } : Jvm.MethodName) prog_14_method_68_code (2 : Nat) (Option.some Jvm.ClassFile.FieldType.int) ∈ x_ws := x_in 1683 (by decide +kernel) rfl
theorem xw_1687 : Jvm.Cond.code ({ cls := "WakingLayersModel", name := "as", desc := "(II)I" } : Jvm.MethodName) prog_14_method_71_code (3 : Nat) (Option.some Jvm.ClassFile.FieldType.int) ∈ x_ws := x_in 1687 (by decide +kernel) rfl
theorem xw_1688 : Jvm.Cond.methodLink "WakingLayersModel" (457 : Nat) ({ cls := "WakingLayersModel", name := "isOf", desc := "(II)Z" } : Jvm.MethodName) ∈ x_ws := x_in 1688 (by decide +kernel) rfl
theorem xw_1689 : Jvm.Cond.static ({ cls := "WakingLayersModel", name := "isOf", desc := "(II)Z" } : Jvm.MethodName) ∈ x_ws := x_in 1689 (by decide +kernel) rfl
theorem xw_1690 : Jvm.Cond.code ({ cls := "WakingLayersModel", name := "isOf", desc := "(II)Z" } : Jvm.MethodName) prog_14_method_69_code (2 : Nat) (Option.some Jvm.ClassFile.FieldType.boolean) ∈ x_ws := x_in 1690 (by decide +kernel) rfl
theorem xw_1694 : Jvm.Cond.code ({ cls := "WakingLayersModel", name := "ask", desc := "(II)I" } : Jvm.MethodName) prog_14_method_77_code (4 : Nat) (Option.some Jvm.ClassFile.FieldType.int) ∈ x_ws := x_in 1694 (by decide +kernel) rfl
theorem xw_1695 : Jvm.Cond.methodLink "WakingLayersModel" (469 : Nat) ({ cls := "WakingLayersModel", name := "markOf", desc := "(II)I" } : Jvm.MethodName) ∈ x_ws := x_in 1695 (by decide +kernel) rfl
theorem xw_1697 : Jvm.Cond.instanceMethod ({ cls := "WakingLayersModel", name := "markOf", desc := "(II)I" } : Jvm.MethodName) ∈ x_ws := x_in 1697 (by decide +kernel) rfl
theorem xw_1698 : Jvm.Cond.code ({ cls := "WakingLayersModel", name := "markOf", desc := "(II)I" } : Jvm.MethodName) prog_14_method_73_code (5 : Nat) (Option.some Jvm.ClassFile.FieldType.int) ∈ x_ws := x_in 1698 (by decide +kernel) rfl
theorem xw_1699 : Jvm.Cond.methodLink "WakingLayersModel" (463 : Nat) ({ cls := "WakingLayersModel", name := "leaves", desc := "(I)V" } : Jvm.MethodName) ∈ x_ws := x_in 1699 (by decide +kernel) rfl
theorem xw_1701 : Jvm.Cond.instanceMethod ({ cls := "WakingLayersModel", name := "leaves", desc := "(I)V" } : Jvm.MethodName) ∈ x_ws := x_in 1701 (by decide +kernel) rfl
theorem xw_1702 : Jvm.Cond.code ({ cls := "WakingLayersModel", name := "leaves", desc := "(I)V" } : Jvm.MethodName) prog_14_method_72_code (2 : Nat) (Option.none : Option Jvm.ClassFile.FieldType) ∈ x_ws := x_in 1702 (by decide +kernel) rfl
theorem xw_1703 : Jvm.Cond.methodLink "WakingLayersModel" (466 : Nat) ({ cls := "WakingLayersModel", name := "sizeOf", desc := "(II)I" } : Jvm.MethodName) ∈ x_ws := x_in 1703 (by decide +kernel) rfl
theorem xw_1705 : Jvm.Cond.instanceMethod ({ cls := "WakingLayersModel", name := "sizeOf", desc := "(II)I" } : Jvm.MethodName) ∈ x_ws := x_in 1705 (by decide +kernel) rfl
theorem xw_1706 : Jvm.Cond.code ({ cls := "WakingLayersModel", name := "sizeOf", desc := "(II)I" } : Jvm.MethodName) prog_14_method_75_code (4 : Nat) (Option.some Jvm.ClassFile.FieldType.int) ∈ x_ws := x_in 1706 (by decide +kernel) rfl
theorem xw_1707 : Jvm.Cond.methodLink "WakingLayersModel" (475 : Nat) ({ cls := "WakingLayersModel", name := "askedSize", desc := "(II)I" } : Jvm.MethodName) ∈ x_ws := x_in 1707 (by decide +kernel) rfl
theorem xw_1709 : Jvm.Cond.instanceMethod ({ cls := "WakingLayersModel", name := "askedSize", desc := "(II)I" } : Jvm.MethodName) ∈ x_ws := x_in 1709 (by decide +kernel) rfl
theorem xw_1710 : Jvm.Cond.code ({ cls := "WakingLayersModel", name := "askedSize", desc := "(II)I" } : Jvm.MethodName) prog_14_method_76_code (3 : Nat) (Option.some Jvm.ClassFile.FieldType.int) ∈ x_ws := x_in 1710 (by decide +kernel) rfl
theorem xw_1711 : Jvm.Cond.methodLink "WakingLayersModel" (472 : Nat) ({ cls := "WakingLayersModel", name := "bits", desc := "(I)I" } : Jvm.MethodName) ∈ x_ws := x_in 1711 (by decide +kernel) rfl
theorem xw_1712 : Jvm.Cond.static ({ cls := "WakingLayersModel", name := "bits", desc := "(I)I" } : Jvm.MethodName) ∈ x_ws := x_in 1712 (by decide +kernel) rfl
theorem xw_1713 : Jvm.Cond.code ({ cls := "WakingLayersModel", name := "bits", desc := "(I)I" } : Jvm.MethodName) prog_14_method_74_code (3 : Nat) (Option.some Jvm.ClassFile.FieldType.int) ∈ x_ws := x_in 1713 (by decide +kernel) rfl
theorem xw_1717 : Jvm.Cond.code ({ cls := "WakingLayersModel", name := "trace", desc := "(I)I" } : Jvm.MethodName) prog_14_method_78_code (2 : Nat) (Option.some Jvm.ClassFile.FieldType.int) ∈ x_ws := x_in 1717 (by decide +kernel) rfl
theorem xw_1721 : Jvm.Cond.code ({ cls := "WakingLayersModel", name := "count", desc := "(I)I" } : Jvm.MethodName) prog_14_method_79_code (4 : Nat) (Option.some Jvm.ClassFile.FieldType.int) ∈ x_ws := x_in 1721 (by decide +kernel) rfl
theorem xw_1725 : Jvm.Cond.code ({ cls := "WakingLayersModel", name := "status", desc := "()I" } : Jvm.MethodName) prog_14_method_80_code (1 : Nat) (Option.some Jvm.ClassFile.FieldType.int) ∈ x_ws := x_in 1725 (by decide +kernel) rfl
theorem xw_1727 : Jvm.Cond.fieldLink "java/lang/String" (9 : Nat) "java/lang/String" "value" "[B" ∈ x_ws := x_in 1727 (by decide +kernel) rfl
theorem xw_1728 : Jvm.Cond.fieldLink "java/lang/String" (15 : Nat) "java/lang/String" "coder" "B" ∈ x_ws := x_in 1728 (by decide +kernel) rfl
