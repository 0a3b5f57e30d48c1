theorem xc_91 : Jvm.Cond.initialized "WakingLayers" ∈ x_ws := x_in 91 (by decide +kernel) rfl
theorem xc_92 : Jvm.Cond.initialized "WakingLayers$Sheets" ∈ x_ws := x_in 92 (by decide +kernel) rfl
theorem xc_93 : Jvm.Cond.initialized "WakingLayers$Tape" ∈ x_ws := x_in 93 (by decide +kernel) rfl
theorem xc_94 : Jvm.Cond.initialized "WakingLayers$Program" ∈ x_ws := x_in 94 (by decide +kernel) rfl
theorem xc_95 : Jvm.Cond.initialized "WakingLayers$Layer" ∈ x_ws := x_in 95 (by decide +kernel) rfl
theorem xc_96 : Jvm.Cond.initialized "WakingLayers$Body" ∈ x_ws := x_in 96 (by decide +kernel) rfl
theorem xc_97 : Jvm.Cond.initialized "WakingLayers$Reader" ∈ x_ws := x_in 97 (by decide +kernel) rfl
theorem xc_98 : Jvm.Cond.initialized "WakingLayers$Circumstances" ∈ x_ws := x_in 98 (by decide +kernel) rfl
theorem xc_99 : Jvm.Cond.initialized "WakingLayers$Rows" ∈ x_ws := x_in 99 (by decide +kernel) rfl
theorem xc_100 : Jvm.Cond.initialized "WakingLayers$Runner" ∈ x_ws := x_in 100 (by decide +kernel) rfl
theorem xc_101 : Jvm.Cond.initialized "WakingLayers$SmallWorld" ∈ x_ws := x_in 101 (by decide +kernel) rfl
theorem xc_102 : Jvm.Cond.initialized "WakingLayers$Asker" ∈ x_ws := x_in 102 (by decide +kernel) rfl
theorem xc_103 : Jvm.Cond.initialized "WakingLayersModel" ∈ x_ws := x_in 103 (by decide +kernel) rfl
theorem xc_114 : Jvm.Cond.code ({ cls := "WakingLayers", name := "<init>", desc := "()V" } : Jvm.MethodName) prog_1_method_1_code (1 : Nat) (Option.none : Option Jvm.ClassFile.FieldType) ∈ x_ws := x_in 114 (by decide +kernel) rfl
theorem xc_115 : Jvm.Cond.methodLink "WakingLayers" (1 : Nat) ({ cls := "java/lang/Object", name := "<init>", desc := "()V" } : Jvm.MethodName) ∈ x_ws := x_in 115 (by decide +kernel) rfl
theorem xc_116 : Jvm.Cond.instanceMethod ({ cls := "java/lang/Object", name := "<init>", desc := "()V" } : Jvm.MethodName) ∈ x_ws := x_in 116 (by decide +kernel) rfl
theorem xc_117 : Jvm.Cond.code ({ cls := "java/lang/Object", name := "<init>", desc := "()V" } : Jvm.MethodName) object_method_1_code (1 : Nat) (Option.none : Option Jvm.ClassFile.FieldType) ∈ x_ws := x_in 117 (by decide +kernel) rfl
theorem xc_118 : Jvm.Cond.classLink "WakingLayers" (7 : Nat) "WakingLayers$Sheets" ∈ x_ws := x_in 118 (by decide +kernel) rfl
theorem xc_119 : Jvm.Cond.instantiable "WakingLayers$Sheets" (4 : Nat) ∈ x_ws := x_in 119 (by decide +kernel) rfl
theorem xc_121 : Jvm.Cond.instanceMethod ({ cls := "WakingLayers$Sheets", name := "<init>", desc := "()V" } : Jvm.MethodName) ∈ x_ws := x_in 121 (by decide +kernel) rfl
theorem xc_122 : Jvm.Cond.code ({ cls := "WakingLayers$Sheets", name := "<init>", desc := "()V" } : Jvm.MethodName) prog_10_method_1_code (1 : Nat) (Option.none : Option Jvm.ClassFile.FieldType) ∈ x_ws := x_in 122 (by decide +kernel) rfl
theorem xc_123 : Jvm.Cond.methodLink "WakingLayers$Sheets" (1 : Nat) ({ cls := "java/lang/Object", name := "<init>", desc := "()V" } : Jvm.MethodName) ∈ x_ws := x_in 123 (by decide +kernel) rfl
theorem xc_124 : Jvm.Cond.classLink "WakingLayers$Sheets" (20 : Nat) "[[I" ∈ x_ws := x_in 124 (by decide +kernel) rfl
theorem xc_126 : Jvm.Cond.fieldLink "WakingLayers$Sheets" (9 : Nat) "WakingLayers$Sheets" "laid" "[Z" ∈ x_ws := x_in 126 (by decide +kernel) rfl
theorem xc_127 : Jvm.Cond.fieldLink "WakingLayers$Sheets" (13 : Nat) "WakingLayers$Sheets" "lanes" "[I" ∈ x_ws := x_in 127 (by decide +kernel) rfl
theorem xc_128 : Jvm.Cond.fieldLink "WakingLayers$Sheets" (17 : Nat) "WakingLayers$Sheets" "lengths" "[I" ∈ x_ws := x_in 128 (by decide +kernel) rfl
theorem xc_129 : Jvm.Cond.fieldLink "WakingLayers$Sheets" (22 : Nat) "WakingLayers$Sheets" "items" "[[I" ∈ x_ws := x_in 129 (by decide +kernel) rfl
theorem xc_139 : Jvm.Cond.arrayClass Jvm.ClassFile.FieldType.boolean ∈ x_ws := x_in 139 (by decide +kernel) rfl
theorem xc_140 : Jvm.Cond.arrayClass Jvm.ClassFile.FieldType.int ∈ x_ws := x_in 140 (by decide +kernel) rfl
theorem xc_141 : Jvm.Cond.classLink "WakingLayers" (16 : Nat) "WakingLayers$Tape" ∈ x_ws := x_in 141 (by decide +kernel) rfl
theorem xc_142 : Jvm.Cond.instantiable "WakingLayers$Tape" (6 : Nat) ∈ x_ws := x_in 142 (by decide +kernel) rfl
theorem xc_144 : Jvm.Cond.instanceMethod ({ cls := "WakingLayers$Tape", name := "<init>", desc := "()V" } : Jvm.MethodName) ∈ x_ws := x_in 144 (by decide +kernel) rfl
theorem xc_145 : Jvm.Cond.code ({ cls := "WakingLayers$Tape", name := "<init>", desc := "()V" } : Jvm.MethodName) prog_12_method_1_code (1 : Nat) (Option.none : Option Jvm.ClassFile.FieldType) ∈ x_ws := x_in 145 (by decide +kernel) rfl
theorem xc_146 : Jvm.Cond.methodLink "WakingLayers$Tape" (1 : Nat) ({ cls := "java/lang/Object", name := "<init>", desc := "()V" } : Jvm.MethodName) ∈ x_ws := x_in 146 (by decide +kernel) rfl
theorem xc_147 : Jvm.Cond.fieldLink "WakingLayers$Tape" (9 : Nat) "WakingLayers$Tape" "bytes" "[I" ∈ x_ws := x_in 147 (by decide +kernel) rfl
theorem xc_166 : Jvm.Cond.classLink "WakingLayers" (23 : Nat) "WakingLayers$Program" ∈ x_ws := x_in 166 (by decide +kernel) rfl
theorem xc_167 : Jvm.Cond.instantiable "WakingLayers$Program" (13 : Nat) ∈ x_ws := x_in 167 (by decide +kernel) rfl
theorem xc_168 : Jvm.Cond.methodLink "WakingLayers" (25 : Nat) ({ cls := "WakingLayers$Program", name := "<init>", desc := "()V" } : Jvm.MethodName) ∈ x_ws := x_in 168 (by decide +kernel) rfl
theorem xc_169 : Jvm.Cond.instanceMethod ({ cls := "WakingLayers$Program", name := "<init>", desc := "()V" } : Jvm.MethodName) ∈ x_ws := x_in 169 (by decide +kernel) rfl
theorem xc_170 : Jvm.Cond.code ({ cls := "WakingLayers$Program", name := "<init>", desc := "()V" } : Jvm.MethodName) prog_6_method_1_code (2 : Nat) (Option.none : Option Jvm.ClassFile.FieldType) ∈ x_ws := x_in 170 (by decide +kernel) rfl
theorem xc_171 : Jvm.Cond.methodLink "WakingLayers$Program" (1 : Nat) ({ cls := "java/lang/Object", name := "<init>", desc := "()V" } : Jvm.MethodName) ∈ x_ws := x_in 171 (by decide +kernel) rfl
theorem xc_172 : Jvm.Cond.classLink "WakingLayers$Program" (19 : Nat) "WakingLayers$Layer" ∈ x_ws := x_in 172 (by decide +kernel) rfl
theorem xc_174 : Jvm.Cond.classLink "WakingLayers$Program" (25 : Nat) "WakingLayers$Body" ∈ x_ws := x_in 174 (by decide +kernel) rfl
theorem xc_176 : Jvm.Cond.instantiable "WakingLayers$Layer" (8 : Nat) ∈ x_ws := x_in 176 (by decide +kernel) rfl
theorem xc_178 : Jvm.Cond.instanceMethod ({ cls := "WakingLayers$Layer", name := "<init>", desc := "()V" } : Jvm.MethodName) ∈ x_ws := x_in 178 (by decide +kernel) rfl
theorem xc_179 : Jvm.Cond.code ({ cls := "WakingLayers$Layer", name := "<init>", desc := "()V" } : Jvm.MethodName) prog_5_method_1_code (1 : Nat) (Option.none : Option Jvm.ClassFile.FieldType) ∈ x_ws := x_in 179 (by decide +kernel) rfl
theorem xc_180 : Jvm.Cond.methodLink "WakingLayers$Layer" (1 : Nat) ({ cls := "java/lang/Object", name := "<init>", desc := "()V" } : Jvm.MethodName) ∈ x_ws := x_in 180 (by decide +kernel) rfl
theorem xc_221 : Jvm.Cond.instantiable "WakingLayers$Body" (8 : Nat) ∈ x_ws := x_in 221 (by decide +kernel) rfl
theorem xc_223 : Jvm.Cond.instanceMethod ({ cls := "WakingLayers$Body", name := "<init>", desc := "()V" } : Jvm.MethodName) ∈ x_ws := x_in 223 (by decide +kernel) rfl
theorem xc_224 : Jvm.Cond.code ({ cls := "WakingLayers$Body", name := "<init>", desc := "()V" } : Jvm.MethodName) prog_3_method_1_code (1 : Nat) (Option.none : Option Jvm.ClassFile.FieldType) ∈ x_ws := x_in 224 (by decide +kernel) rfl
theorem xc_225 : Jvm.Cond.methodLink "WakingLayers$Body" (1 : Nat) ({ cls := "java/lang/Object", name := "<init>", desc := "()V" } : Jvm.MethodName) ∈ x_ws := x_in 225 (by decide +kernel) rfl
theorem xc_226 : Jvm.Cond.fieldLink "WakingLayers$Body" (9 : Nat) "WakingLayers$Body" "acts" "[I" ∈ x_ws := x_in 226 (by decide +kernel) rfl
theorem xc_228 : Jvm.Cond.fieldLink "WakingLayers$Body" (13 : Nat) "WakingLayers$Body" "firstNumbers" "[I" ∈ x_ws := x_in 228 (by decide +kernel) rfl
theorem xc_230 : Jvm.Cond.fieldLink "WakingLayers$Body" (16 : Nat) "WakingLayers$Body" "secondNumbers" "[I" ∈ x_ws := x_in 230 (by decide +kernel) rfl
theorem xc_261 : Jvm.Cond.fieldLink "WakingLayers$Program" (9 : Nat) "WakingLayers$Program" "kindUnder" "[I" ∈ x_ws := x_in 261 (by decide +kernel) rfl
theorem xc_263 : Jvm.Cond.fieldLink "WakingLayers$Program" (13 : Nat) "WakingLayers$Program" "thingKind" "[I" ∈ x_ws := x_in 263 (by decide +kernel) rfl
theorem xc_265 : Jvm.Cond.fieldLink "WakingLayers$Program" (16 : Nat) "WakingLayers$Program" "thingValue" "[I" ∈ x_ws := x_in 265 (by decide +kernel) rfl
theorem xc_267 : Jvm.Cond.fieldLink "WakingLayers$Program" (21 : Nat) "WakingLayers$Program" "layers" "[LWakingLayers$Layer;" ∈ x_ws := x_in 267 (by decide +kernel) rfl
theorem xc_274 : Jvm.Cond.fieldLink "WakingLayers$Program" (27 : Nat) "WakingLayers$Program" "bodies" "[LWakingLayers$Body;" ∈ x_ws := x_in 274 (by decide +kernel) rfl
theorem xc_324 : Jvm.Cond.classLink "WakingLayers" (30 : Nat) "WakingLayers$Reader" ∈ x_ws := x_in 324 (by decide +kernel) rfl
theorem xc_325 : Jvm.Cond.instantiable "WakingLayers$Reader" (5 : Nat) ∈ x_ws := x_in 325 (by decide +kernel) rfl
theorem xc_326 : Jvm.Cond.methodLink "WakingLayers" (32 : Nat) ({ cls := "WakingLayers$Reader", name := "<init>", desc := "(LWakingLayers$Tape;LWakingLayers$Program;)V" } : Jvm.MethodName) ∈ x_ws := x_in 326 (by decide +kernel) rfl
theorem xc_327 : Jvm.Cond.instanceMethod ({ cls := "WakingLayers$Reader", name := "<init>", desc := "(LWakingLayers$Tape;LWakingLayers$Program;)V" } : Jvm.MethodName) ∈ x_ws := x_in 327 (by decide +kernel) rfl
theorem xc_328 : Jvm.Cond.code ({ cls := "WakingLayers$Reader", name := "<init>", desc := "(LWakingLayers$Tape;LWakingLayers$Program;)V" } : Jvm.MethodName) prog_7_method_1_code (3 : Nat) (Option.none : Option Jvm.ClassFile.FieldType) ∈ x_ws := x_in 328 (by decide +kernel) rfl
theorem xc_329 : Jvm.Cond.methodLink "WakingLayers$Reader" (3 : Nat) ({ cls := "java/lang/Object", name := "<init>", desc := "()V" } : Jvm.MethodName) ∈ x_ws := x_in 329 (by decide +kernel) rfl
theorem xc_330 : Jvm.Cond.fieldLink "WakingLayers$Reader" (9 : Nat) "WakingLayers$Reader" "tape" "LWakingLayers$Tape;" ∈ x_ws := x_in 330 (by decide +kernel) rfl
theorem xc_331 : Jvm.Cond.fieldLink "WakingLayers$Reader" (15 : Nat) "WakingLayers$Reader" "program" "LWakingLayers$Program;" ∈ x_ws := x_in 331 (by decide +kernel) rfl
theorem xc_346 : Jvm.Cond.classLink "WakingLayers" (39 : Nat) "WakingLayers$Circumstances" ∈ x_ws := x_in 346 (by decide +kernel) rfl
theorem xc_347 : Jvm.Cond.instantiable "WakingLayers$Circumstances" (6 : Nat) ∈ x_ws := x_in 347 (by decide +kernel) rfl
theorem xc_348 : Jvm.Cond.methodLink "WakingLayers" (41 : Nat) ({ cls := "WakingLayers$Circumstances", name := "<init>", desc := "(LWakingLayers$Program;)V" } : Jvm.MethodName) ∈ x_ws := x_in 348 (by decide +kernel) rfl
theorem xc_349 : Jvm.Cond.instanceMethod ({ cls := "WakingLayers$Circumstances", name := "<init>", desc := "(LWakingLayers$Program;)V" } : Jvm.MethodName) ∈ x_ws := x_in 349 (by decide +kernel) rfl
theorem xc_350 : Jvm.Cond.code ({ cls := "WakingLayers$Circumstances", name := "<init>", desc := "(LWakingLayers$Program;)V" } : Jvm.MethodName) prog_4_method_1_code (2 : Nat) (Option.none : Option Jvm.ClassFile.FieldType) ∈ x_ws := x_in 350 (by decide +kernel) rfl
theorem xc_351 : Jvm.Cond.methodLink "WakingLayers$Circumstances" (3 : Nat) ({ cls := "java/lang/Object", name := "<init>", desc := "()V" } : Jvm.MethodName) ∈ x_ws := x_in 351 (by decide +kernel) rfl
theorem xc_352 : Jvm.Cond.fieldLink "WakingLayers$Circumstances" (21 : Nat) "WakingLayers$Circumstances" "program" "LWakingLayers$Program;" ∈ x_ws := x_in 352 (by decide +kernel) rfl
theorem xc_353 : Jvm.Cond.fieldLink "WakingLayers$Circumstances" (11 : Nat) "WakingLayers$Circumstances" "told" "[I" ∈ x_ws := x_in 353 (by decide +kernel) rfl
theorem xc_354 : Jvm.Cond.fieldLink "WakingLayers$Circumstances" (15 : Nat) "WakingLayers$Circumstances" "wokenLayers" "[I" ∈ x_ws := x_in 354 (by decide +kernel) rfl
theorem xc_355 : Jvm.Cond.fieldLink "WakingLayers$Circumstances" (18 : Nat) "WakingLayers$Circumstances" "wokenThings" "[I" ∈ x_ws := x_in 355 (by decide +kernel) rfl
theorem xc_371 : Jvm.Cond.classLink "WakingLayers" (48 : Nat) "WakingLayers$Rows" ∈ x_ws := x_in 371 (by decide +kernel) rfl
theorem xc_372 : Jvm.Cond.instantiable "WakingLayers$Rows" (5 : Nat) ∈ x_ws := x_in 372 (by decide +kernel) rfl
theorem xc_373 : Jvm.Cond.methodLink "WakingLayers" (50 : Nat) ({ cls := "WakingLayers$Rows", name := "<init>", desc := "(LWakingLayers$Program;LWakingLayers$Circumstances;)V" } : Jvm.MethodName) ∈ x_ws := x_in 373 (by decide +kernel) rfl
theorem xc_374 : Jvm.Cond.instanceMethod ({ cls := "WakingLayers$Rows", name := "<init>", desc := "(LWakingLayers$Program;LWakingLayers$Circumstances;)V" } : Jvm.MethodName) ∈ x_ws := x_in 374 (by decide +kernel) rfl
theorem xc_375 : Jvm.Cond.code ({ cls := "WakingLayers$Rows", name := "<init>", desc := "(LWakingLayers$Program;LWakingLayers$Circumstances;)V" } : Jvm.MethodName) prog_8_method_1_code (3 : Nat) (Option.none : Option Jvm.ClassFile.FieldType) ∈ x_ws := x_in 375 (by decide +kernel) rfl
theorem xc_376 : Jvm.Cond.methodLink "WakingLayers$Rows" (1 : Nat) ({ cls := "java/lang/Object", name := "<init>", desc := "()V" } : Jvm.MethodName) ∈ x_ws := x_in 376 (by decide +kernel) rfl
theorem xc_377 : Jvm.Cond.fieldLink "WakingLayers$Rows" (18 : Nat) "WakingLayers$Rows" "program" "LWakingLayers$Program;" ∈ x_ws := x_in 377 (by decide +kernel) rfl
theorem xc_378 : Jvm.Cond.fieldLink "WakingLayers$Rows" (22 : Nat) "WakingLayers$Rows" "circumstances" "LWakingLayers$Circumstances;" ∈ x_ws := x_in 378 (by decide +kernel) rfl
theorem xc_379 : Jvm.Cond.fieldLink "WakingLayers$Rows" (9 : Nat) "WakingLayers$Rows" "weights" "[I" ∈ x_ws := x_in 379 (by decide +kernel) rfl
theorem xc_380 : Jvm.Cond.fieldLink "WakingLayers$Rows" (15 : Nat) "WakingLayers$Rows" "fitting" "[I" ∈ x_ws := x_in 380 (by decide +kernel) rfl
theorem xc_393 : Jvm.Cond.classLink "WakingLayers" (61 : Nat) "WakingLayers$Runner" ∈ x_ws := x_in 393 (by decide +kernel) rfl
theorem xc_394 : Jvm.Cond.instantiable "WakingLayers$Runner" (9 : Nat) ∈ x_ws := x_in 394 (by decide +kernel) rfl
theorem xc_395 : Jvm.Cond.methodLink "WakingLayers" (63 : Nat) ({ cls := "WakingLayers$Runner", name := "<init>", desc := "(LWakingLayers$Program;LWakingLayers$Circumstances;LWakingLayers$Rows;)V" } : Jvm.MethodName) ∈ x_ws := x_in 395 (by decide +kernel) rfl
theorem xc_396 : Jvm.Cond.instanceMethod ({ cls := "WakingLayers$Runner", name := "<init>", desc := "(LWakingLayers$Program;LWakingLayers$Circumstances;LWakingLayers$Rows;)V" } : Jvm.MethodName) ∈ x_ws := x_in 396 (by decide +kernel) rfl
theorem xc_397 : Jvm.Cond.code ({ cls := "WakingLayers$Runner", name := "<init>", desc := "(LWakingLayers$Program;LWakingLayers$Circumstances;LWakingLayers$Rows;)V" } : Jvm.MethodName) prog_9_method_1_code (4 : Nat) (Option.none : Option Jvm.ClassFile.FieldType) ∈ x_ws := x_in 397 (by decide +kernel) rfl
theorem xc_398 : Jvm.Cond.methodLink "WakingLayers$Runner" (3 : Nat) ({ cls := "java/lang/Object", name := "<init>", desc := "()V" } : Jvm.MethodName) ∈ x_ws := x_in 398 (by decide +kernel) rfl
theorem xc_399 : Jvm.Cond.classLink "WakingLayers$Runner" (13 : Nat) "[[I" ∈ x_ws := x_in 399 (by decide +kernel) rfl
theorem xc_400 : Jvm.Cond.fieldLink "WakingLayers$Runner" (28 : Nat) "WakingLayers$Runner" "program" "LWakingLayers$Program;" ∈ x_ws := x_in 400 (by decide +kernel) rfl
theorem xc_401 : Jvm.Cond.fieldLink "WakingLayers$Runner" (32 : Nat) "WakingLayers$Runner" "circumstances" "LWakingLayers$Circumstances;" ∈ x_ws := x_in 401 (by decide +kernel) rfl
theorem xc_402 : Jvm.Cond.fieldLink "WakingLayers$Runner" (36 : Nat) "WakingLayers$Runner" "rows" "LWakingLayers$Rows;" ∈ x_ws := x_in 402 (by decide +kernel) rfl
theorem xc_403 : Jvm.Cond.fieldLink "WakingLayers$Runner" (15 : Nat) "WakingLayers$Runner" "rowAt" "[[I" ∈ x_ws := x_in 403 (by decide +kernel) rfl
theorem xc_404 : Jvm.Cond.fieldLink "WakingLayers$Runner" (18 : Nat) "WakingLayers$Runner" "rowLengthAt" "[I" ∈ x_ws := x_in 404 (by decide +kernel) rfl
theorem xc_405 : Jvm.Cond.fieldLink "WakingLayers$Runner" (22 : Nat) "WakingLayers$Runner" "thingAt" "[I" ∈ x_ws := x_in 405 (by decide +kernel) rfl
theorem xc_406 : Jvm.Cond.fieldLink "WakingLayers$Runner" (25 : Nat) "WakingLayers$Runner" "begun" "[I" ∈ x_ws := x_in 406 (by decide +kernel) rfl
theorem xc_428 : Jvm.Cond.classLink "WakingLayers" (70 : Nat) "WakingLayers$SmallWorld" ∈ x_ws := x_in 428 (by decide +kernel) rfl
theorem xc_429 : Jvm.Cond.instantiable "WakingLayers$SmallWorld" (5 : Nat) ∈ x_ws := x_in 429 (by decide +kernel) rfl
theorem xc_430 : Jvm.Cond.methodLink "WakingLayers" (72 : Nat) ({ cls := "WakingLayers$SmallWorld", name := "<init>", desc := "(LWakingLayers$Program;LWakingLayers$Circumstances;LWakingLayers$Runner;)V" } : Jvm.MethodName) ∈ x_ws := x_in 430 (by decide +kernel) rfl
theorem xc_431 : Jvm.Cond.instanceMethod ({ cls := "WakingLayers$SmallWorld", name := "<init>", desc := "(LWakingLayers$Program;LWakingLayers$Circumstances;LWakingLayers$Runner;)V" } : Jvm.MethodName) ∈ x_ws := x_in 431 (by decide +kernel) rfl
theorem xc_432 : Jvm.Cond.code ({ cls := "WakingLayers$SmallWorld", name := "<init>", desc := "(LWakingLayers$Program;LWakingLayers$Circumstances;LWakingLayers$Runner;)V" } : Jvm.MethodName) prog_11_method_1_code (4 : Nat) (Option.none : Option Jvm.ClassFile.FieldType) ∈ x_ws := x_in 432 (by decide +kernel) rfl
theorem xc_433 : Jvm.Cond.methodLink "WakingLayers$SmallWorld" (3 : Nat) ({ cls := "java/lang/Object", name := "<init>", desc := "()V" } : Jvm.MethodName) ∈ x_ws := x_in 433 (by decide +kernel) rfl
theorem xc_434 : Jvm.Cond.fieldLink "WakingLayers$SmallWorld" (21 : Nat) "WakingLayers$SmallWorld" "program" "LWakingLayers$Program;" ∈ x_ws := x_in 434 (by decide +kernel) rfl
theorem xc_435 : Jvm.Cond.fieldLink "WakingLayers$SmallWorld" (25 : Nat) "WakingLayers$SmallWorld" "circumstances" "LWakingLayers$Circumstances;" ∈ x_ws := x_in 435 (by decide +kernel) rfl
theorem xc_436 : Jvm.Cond.fieldLink "WakingLayers$SmallWorld" (29 : Nat) "WakingLayers$SmallWorld" "runner" "LWakingLayers$Runner;" ∈ x_ws := x_in 436 (by decide +kernel) rfl
theorem xc_437 : Jvm.Cond.fieldLink "WakingLayers$SmallWorld" (11 : Nat) "WakingLayers$SmallWorld" "facts" "[I" ∈ x_ws := x_in 437 (by decide +kernel) rfl
theorem xc_438 : Jvm.Cond.fieldLink "WakingLayers$SmallWorld" (17 : Nat) "WakingLayers$SmallWorld" "gathered" "[Z" ∈ x_ws := x_in 438 (by decide +kernel) rfl
theorem xc_450 : Jvm.Cond.classLink "WakingLayers" (79 : Nat) "WakingLayers$Asker" ∈ x_ws := x_in 450 (by decide +kernel) rfl
theorem xc_451 : Jvm.Cond.instantiable "WakingLayers$Asker" (4 : Nat) ∈ x_ws := x_in 451 (by decide +kernel) rfl
theorem xc_452 : Jvm.Cond.methodLink "WakingLayers" (81 : Nat) ({ cls := "WakingLayers$Asker", name := "<init>", desc := "(LWakingLayers$Program;LWakingLayers$Circumstances;)V" } : Jvm.MethodName) ∈ x_ws := x_in 452 (by decide +kernel) rfl
theorem xc_453 : Jvm.Cond.instanceMethod ({ cls := "WakingLayers$Asker", name := "<init>", desc := "(LWakingLayers$Program;LWakingLayers$Circumstances;)V" } : Jvm.MethodName) ∈ x_ws := x_in 453 (by decide +kernel) rfl
theorem xc_454 : Jvm.Cond.code ({ cls := "WakingLayers$Asker", name := "<init>", desc := "(LWakingLayers$Program;LWakingLayers$Circumstances;)V" } : Jvm.MethodName) prog_2_method_1_code (3 : Nat) (Option.none : Option Jvm.ClassFile.FieldType) ∈ x_ws := x_in 454 (by decide +kernel) rfl
theorem xc_455 : Jvm.Cond.methodLink "WakingLayers$Asker" (3 : Nat) ({ cls := "java/lang/Object", name := "<init>", desc := "()V" } : Jvm.MethodName) ∈ x_ws := x_in 455 (by decide +kernel) rfl
theorem xc_456 : Jvm.Cond.fieldLink "WakingLayers$Asker" (15 : Nat) "WakingLayers$Asker" "program" "LWakingLayers$Program;" ∈ x_ws := x_in 456 (by decide +kernel) rfl
theorem xc_457 : Jvm.Cond.fieldLink "WakingLayers$Asker" (19 : Nat) "WakingLayers$Asker" "circumstances" "LWakingLayers$Circumstances;" ∈ x_ws := x_in 457 (by decide +kernel) rfl
theorem xc_458 : Jvm.Cond.fieldLink "WakingLayers$Asker" (11 : Nat) "WakingLayers$Asker" "traced" "[I" ∈ x_ws := x_in 458 (by decide +kernel) rfl
theorem xc_469 : Jvm.Cond.fieldLink "WakingLayers" (10 : Nat) "WakingLayers" "sheets" "LWakingLayers$Sheets;" ∈ x_ws := x_in 469 (by decide +kernel) rfl
theorem xc_470 : Jvm.Cond.fieldLink "WakingLayers" (19 : Nat) "WakingLayers" "tape" "LWakingLayers$Tape;" ∈ x_ws := x_in 470 (by decide +kernel) rfl
theorem xc_471 : Jvm.Cond.fieldLink "WakingLayers" (26 : Nat) "WakingLayers" "program" "LWakingLayers$Program;" ∈ x_ws := x_in 471 (by decide +kernel) rfl
theorem xc_472 : Jvm.Cond.fieldLink "WakingLayers" (35 : Nat) "WakingLayers" "reader" "LWakingLayers$Reader;" ∈ x_ws := x_in 472 (by decide +kernel) rfl
theorem xc_473 : Jvm.Cond.fieldLink "WakingLayers" (44 : Nat) "WakingLayers" "circumstances" "LWakingLayers$Circumstances;" ∈ x_ws := x_in 473 (by decide +kernel) rfl
theorem xc_474 : Jvm.Cond.fieldLink "WakingLayers" (53 : Nat) "WakingLayers" "rows" "LWakingLayers$Rows;" ∈ x_ws := x_in 474 (by decide +kernel) rfl
theorem xc_475 : Jvm.Cond.fieldLink "WakingLayers" (57 : Nat) "WakingLayers" "shownRow" "[I" ∈ x_ws := x_in 475 (by decide +kernel) rfl
theorem xc_476 : Jvm.Cond.fieldLink "WakingLayers" (66 : Nat) "WakingLayers" "runner" "LWakingLayers$Runner;" ∈ x_ws := x_in 476 (by decide +kernel) rfl
theorem xc_477 : Jvm.Cond.fieldLink "WakingLayers" (75 : Nat) "WakingLayers" "smallWorld" "LWakingLayers$SmallWorld;" ∈ x_ws := x_in 477 (by decide +kernel) rfl
theorem xc_478 : Jvm.Cond.fieldLink "WakingLayers" (82 : Nat) "WakingLayers" "asker" "LWakingLayers$Asker;" ∈ x_ws := x_in 478 (by decide +kernel) rfl
theorem xc_1163 : Jvm.Cond.code ({ cls := "WakingLayersModel", name := "<init>", desc := "()V" } : Jvm.MethodName) prog_14_method_1_code (1 : Nat) (Option.none : Option Jvm.ClassFile.FieldType) ∈ x_ws := x_in 1163 (by decide +kernel) rfl
theorem xc_1164 : Jvm.Cond.methodLink "WakingLayersModel" (1 : Nat) ({ cls := "java/lang/Object", name := "<init>", desc := "()V" } : Jvm.MethodName) ∈ x_ws := x_in 1164 (by decide +kernel) rfl
theorem xc_1167 : Jvm.Cond.fieldLink "WakingLayersModel" (7 : Nat) "WakingLayersModel" "lane" "[I" ∈ x_ws := x_in 1167 (by decide +kernel) rfl
theorem xc_1168 : Jvm.Cond.fieldLink "WakingLayersModel" (13 : Nat) "WakingLayersModel" "many" "[I" ∈ x_ws := x_in 1168 (by decide +kernel) rfl
theorem xc_1169 : Jvm.Cond.fieldLink "WakingLayersModel" (16 : Nat) "WakingLayersModel" "item" "[I" ∈ x_ws := x_in 1169 (by decide +kernel) rfl
theorem xc_1171 : Jvm.Cond.fieldLink "WakingLayersModel" (19 : Nat) "WakingLayersModel" "under" "[I" ∈ x_ws := x_in 1171 (by decide +kernel) rfl
theorem xc_1173 : Jvm.Cond.fieldLink "WakingLayersModel" (22 : Nat) "WakingLayersModel" "thingKind" "[I" ∈ x_ws := x_in 1173 (by decide +kernel) rfl
theorem xc_1174 : Jvm.Cond.fieldLink "WakingLayersModel" (25 : Nat) "WakingLayersModel" "thingValue" "[I" ∈ x_ws := x_in 1174 (by decide +kernel) rfl
theorem xc_1176 : Jvm.Cond.fieldLink "WakingLayersModel" (28 : Nat) "WakingLayersModel" "sort" "[I" ∈ x_ws := x_in 1176 (by decide +kernel) rfl
theorem xc_1177 : Jvm.Cond.fieldLink "WakingLayersModel" (31 : Nat) "WakingLayersModel" "rank" "[I" ∈ x_ws := x_in 1177 (by decide +kernel) rfl
theorem xc_1178 : Jvm.Cond.fieldLink "WakingLayersModel" (34 : Nat) "WakingLayersModel" "testFact" "[I" ∈ x_ws := x_in 1178 (by decide +kernel) rfl
theorem xc_1179 : Jvm.Cond.fieldLink "WakingLayersModel" (37 : Nat) "WakingLayersModel" "testSign" "[I" ∈ x_ws := x_in 1179 (by decide +kernel) rfl
theorem xc_1180 : Jvm.Cond.fieldLink "WakingLayersModel" (40 : Nat) "WakingLayersModel" "testNumber" "[I" ∈ x_ws := x_in 1180 (by decide +kernel) rfl
theorem xc_1181 : Jvm.Cond.fieldLink "WakingLayersModel" (43 : Nat) "WakingLayersModel" "needs" "[I" ∈ x_ws := x_in 1181 (by decide +kernel) rfl
theorem xc_1182 : Jvm.Cond.fieldLink "WakingLayersModel" (46 : Nat) "WakingLayersModel" "bars" "[I" ∈ x_ws := x_in 1182 (by decide +kernel) rfl
theorem xc_1184 : Jvm.Cond.fieldLink "WakingLayersModel" (49 : Nat) "WakingLayersModel" "bodyLayer" "[I" ∈ x_ws := x_in 1184 (by decide +kernel) rfl
theorem xc_1185 : Jvm.Cond.fieldLink "WakingLayersModel" (52 : Nat) "WakingLayersModel" "bodyKind" "[I" ∈ x_ws := x_in 1185 (by decide +kernel) rfl
theorem xc_1186 : Jvm.Cond.fieldLink "WakingLayersModel" (55 : Nat) "WakingLayersModel" "bodyRoutine" "[I" ∈ x_ws := x_in 1186 (by decide +kernel) rfl
theorem xc_1187 : Jvm.Cond.fieldLink "WakingLayersModel" (58 : Nat) "WakingLayersModel" "way" "[I" ∈ x_ws := x_in 1187 (by decide +kernel) rfl
theorem xc_1188 : Jvm.Cond.fieldLink "WakingLayersModel" (61 : Nat) "WakingLayersModel" "acts" "[I" ∈ x_ws := x_in 1188 (by decide +kernel) rfl
theorem xc_1189 : Jvm.Cond.fieldLink "WakingLayersModel" (64 : Nat) "WakingLayersModel" "act" "[I" ∈ x_ws := x_in 1189 (by decide +kernel) rfl
theorem xc_1190 : Jvm.Cond.fieldLink "WakingLayersModel" (67 : Nat) "WakingLayersModel" "tape" "[I" ∈ x_ws := x_in 1190 (by decide +kernel) rfl
theorem xc_1204 : Jvm.Cond.fieldLink "WakingLayersModel" (70 : Nat) "WakingLayersModel" "told" "[I" ∈ x_ws := x_in 1204 (by decide +kernel) rfl
theorem xc_1205 : Jvm.Cond.fieldLink "WakingLayersModel" (73 : Nat) "WakingLayersModel" "hold" "[I" ∈ x_ws := x_in 1205 (by decide +kernel) rfl
theorem xc_1207 : Jvm.Cond.fieldLink "WakingLayersModel" (76 : Nat) "WakingLayersModel" "openLayer" "[I" ∈ x_ws := x_in 1207 (by decide +kernel) rfl
theorem xc_1208 : Jvm.Cond.fieldLink "WakingLayersModel" (79 : Nat) "WakingLayersModel" "openThing" "[I" ∈ x_ws := x_in 1208 (by decide +kernel) rfl
theorem xc_1210 : Jvm.Cond.fieldLink "WakingLayersModel" (82 : Nat) "WakingLayersModel" "rowSize" "[I" ∈ x_ws := x_in 1210 (by decide +kernel) rfl
theorem xc_1211 : Jvm.Cond.fieldLink "WakingLayersModel" (85 : Nat) "WakingLayersModel" "rowBody" "[I" ∈ x_ws := x_in 1211 (by decide +kernel) rfl
theorem xc_1212 : Jvm.Cond.fieldLink "WakingLayersModel" (88 : Nat) "WakingLayersModel" "callThing" "[I" ∈ x_ws := x_in 1212 (by decide +kernel) rfl
theorem xc_1214 : Jvm.Cond.fieldLink "WakingLayersModel" (91 : Nat) "WakingLayersModel" "pileCall" "[I" ∈ x_ws := x_in 1214 (by decide +kernel) rfl
theorem xc_1215 : Jvm.Cond.fieldLink "WakingLayersModel" (94 : Nat) "WakingLayersModel" "pileAt" "[I" ∈ x_ws := x_in 1215 (by decide +kernel) rfl
theorem xc_1216 : Jvm.Cond.fieldLink "WakingLayersModel" (97 : Nat) "WakingLayersModel" "pileHad" "[I" ∈ x_ws := x_in 1216 (by decide +kernel) rfl
theorem xc_1217 : Jvm.Cond.fieldLink "WakingLayersModel" (100 : Nat) "WakingLayersModel" "pileNumber" "[I" ∈ x_ws := x_in 1217 (by decide +kernel) rfl
theorem xc_1218 : Jvm.Cond.fieldLink "WakingLayersModel" (103 : Nat) "WakingLayersModel" "pileAct" "[I" ∈ x_ws := x_in 1218 (by decide +kernel) rfl
theorem xc_1219 : Jvm.Cond.fieldLink "WakingLayersModel" (106 : Nat) "WakingLayersModel" "pileWakes" "[I" ∈ x_ws := x_in 1219 (by decide +kernel) rfl
theorem xc_1220 : Jvm.Cond.fieldLink "WakingLayersModel" (109 : Nat) "WakingLayersModel" "pileWaits" "[I" ∈ x_ws := x_in 1220 (by decide +kernel) rfl
theorem xc_1221 : Jvm.Cond.fieldLink "WakingLayersModel" (112 : Nat) "WakingLayersModel" "pileFails" "[Z" ∈ x_ws := x_in 1221 (by decide +kernel) rfl
theorem xc_1223 : Jvm.Cond.fieldLink "WakingLayersModel" (116 : Nat) "WakingLayersModel" "began" "[I" ∈ x_ws := x_in 1223 (by decide +kernel) rfl
theorem xc_1231 : Jvm.Cond.fieldLink "WakingLayersModel" (119 : Nat) "WakingLayersModel" "ranBody" "[I" ∈ x_ws := x_in 1231 (by decide +kernel) rfl
theorem xc_1232 : Jvm.Cond.fieldLink "WakingLayersModel" (122 : Nat) "WakingLayersModel" "keptHold" "[I" ∈ x_ws := x_in 1232 (by decide +kernel) rfl
theorem xc_1234 : Jvm.Cond.fieldLink "WakingLayersModel" (125 : Nat) "WakingLayersModel" "isSet" "[Z" ∈ x_ws := x_in 1234 (by decide +kernel) rfl
theorem xc_1235 : Jvm.Cond.fieldLink "WakingLayersModel" (128 : Nat) "WakingLayersModel" "trace" "[I" ∈ x_ws := x_in 1235 (by decide +kernel) rfl
theorem ffc_1_9 : x_FF RX1 9 1 0 RX1 TX1 8 := ⟨rfl, by decide, cin_1, by decide, xc_226, rfl⟩
theorem ffc_1_13 : x_FF RX1 13 1 1 RX1 TX1 8 := ⟨rfl, by decide, cin_1, by decide, xc_228, rfl⟩
theorem ffc_1_16 : x_FF RX1 16 1 2 RX1 TX1 8 := ⟨rfl, by decide, cin_1, by decide, xc_230, rfl⟩
theorem ffc_0_11 : x_FF RX0 11 0 2 RX0 TX0 4 := ⟨rfl, by decide, cin_0, by decide, xc_458, rfl⟩
theorem ffc_0_15 : x_FF RX0 15 0 0 RX0 TX0 4 := ⟨rfl, by decide, cin_0, by decide, xc_456, rfl⟩
theorem ffc_0_19 : x_FF RX0 19 0 1 RX0 TX0 4 := ⟨rfl, by decide, cin_0, by decide, xc_457, rfl⟩
theorem ffc_2_11 : x_FF RX2 11 2 1 RX2 TX2 6 := ⟨rfl, by decide, cin_2, by decide, xc_353, rfl⟩
theorem ffc_2_15 : x_FF RX2 15 2 2 RX2 TX2 6 := ⟨rfl, by decide, cin_2, by decide, xc_354, rfl⟩
theorem ffc_2_18 : x_FF RX2 18 2 3 RX2 TX2 6 := ⟨rfl, by decide, cin_2, by decide, xc_355, rfl⟩
theorem ffc_2_21 : x_FF RX2 21 2 0 RX2 TX2 6 := ⟨rfl, by decide, cin_2, by decide, xc_352, rfl⟩
theorem ffc_4_9 : x_FF RX4 9 4 0 RX4 TX4 13 := ⟨rfl, by decide, cin_4, by decide, xc_261, rfl⟩
theorem ffc_4_13 : x_FF RX4 13 4 1 RX4 TX4 13 := ⟨rfl, by decide, cin_4, by decide, xc_263, rfl⟩
theorem ffc_4_16 : x_FF RX4 16 4 2 RX4 TX4 13 := ⟨rfl, by decide, cin_4, by decide, xc_265, rfl⟩
theorem ffc_4_21 : x_FF RX4 21 4 3 RX4 TX4 13 := ⟨rfl, by decide, cin_4, by decide, xc_267, rfl⟩
theorem ffc_4_27 : x_FF RX4 27 4 4 RX4 TX4 13 := ⟨rfl, by decide, cin_4, by decide, xc_274, rfl⟩
theorem ffc_5_9 : x_FF RX5 9 5 0 RX5 TX5 5 := ⟨rfl, by decide, cin_5, by decide, xc_330, rfl⟩
theorem ffc_5_15 : x_FF RX5 15 5 1 RX5 TX5 5 := ⟨rfl, by decide, cin_5, by decide, xc_331, rfl⟩
theorem ffc_6_9 : x_FF RX6 9 6 2 RX6 TX6 5 := ⟨rfl, by decide, cin_6, by decide, xc_379, rfl⟩
theorem ffc_6_15 : x_FF RX6 15 6 3 RX6 TX6 5 := ⟨rfl, by decide, cin_6, by decide, xc_380, rfl⟩
theorem ffc_6_18 : x_FF RX6 18 6 0 RX6 TX6 5 := ⟨rfl, by decide, cin_6, by decide, xc_377, rfl⟩
theorem ffc_6_22 : x_FF RX6 22 6 1 RX6 TX6 5 := ⟨rfl, by decide, cin_6, by decide, xc_378, rfl⟩
theorem ffc_7_15 : x_FF RX7 15 7 3 RX7 TX7 9 := ⟨rfl, by decide, cin_7, by decide, xc_403, rfl⟩
theorem ffc_7_18 : x_FF RX7 18 7 4 RX7 TX7 9 := ⟨rfl, by decide, cin_7, by decide, xc_404, rfl⟩
theorem ffc_7_22 : x_FF RX7 22 7 5 RX7 TX7 9 := ⟨rfl, by decide, cin_7, by decide, xc_405, rfl⟩
theorem ffc_7_25 : x_FF RX7 25 7 6 RX7 TX7 9 := ⟨rfl, by decide, cin_7, by decide, xc_406, rfl⟩
theorem ffc_7_28 : x_FF RX7 28 7 0 RX7 TX7 9 := ⟨rfl, by decide, cin_7, by decide, xc_400, rfl⟩
theorem ffc_7_32 : x_FF RX7 32 7 1 RX7 TX7 9 := ⟨rfl, by decide, cin_7, by decide, xc_401, rfl⟩
theorem ffc_7_36 : x_FF RX7 36 7 2 RX7 TX7 9 := ⟨rfl, by decide, cin_7, by decide, xc_402, rfl⟩
theorem ffc_8_9 : x_FF RX8 9 8 0 RX8 TX8 4 := ⟨rfl, by decide, cin_8, by decide, xc_126, rfl⟩
theorem ffc_8_13 : x_FF RX8 13 8 1 RX8 TX8 4 := ⟨rfl, by decide, cin_8, by decide, xc_127, rfl⟩
theorem ffc_8_17 : x_FF RX8 17 8 2 RX8 TX8 4 := ⟨rfl, by decide, cin_8, by decide, xc_128, rfl⟩
theorem ffc_8_22 : x_FF RX8 22 8 3 RX8 TX8 4 := ⟨rfl, by decide, cin_8, by decide, xc_129, rfl⟩
theorem ffc_9_11 : x_FF RX9 11 9 3 RX9 TX9 5 := ⟨rfl, by decide, cin_9, by decide, xc_437, rfl⟩
theorem ffc_9_17 : x_FF RX9 17 9 4 RX9 TX9 5 := ⟨rfl, by decide, cin_9, by decide, xc_438, rfl⟩
theorem ffc_9_21 : x_FF RX9 21 9 0 RX9 TX9 5 := ⟨rfl, by decide, cin_9, by decide, xc_434, rfl⟩
theorem ffc_9_25 : x_FF RX9 25 9 1 RX9 TX9 5 := ⟨rfl, by decide, cin_9, by decide, xc_435, rfl⟩
theorem ffc_9_29 : x_FF RX9 29 9 2 RX9 TX9 5 := ⟨rfl, by decide, cin_9, by decide, xc_436, rfl⟩
theorem ffc_10_9 : x_FF RX10 9 10 0 RX10 TX10 6 := ⟨rfl, by decide, cin_10, by decide, xc_147, rfl⟩
theorem ffc_11_10 : x_FF RX11 10 11 0 RX11 TX11 11 := ⟨rfl, by decide, cin_11, by decide, xc_469, rfl⟩
theorem ffc_11_19 : x_FF RX11 19 11 1 RX11 TX11 11 := ⟨rfl, by decide, cin_11, by decide, xc_470, rfl⟩
theorem ffc_11_26 : x_FF RX11 26 11 2 RX11 TX11 11 := ⟨rfl, by decide, cin_11, by decide, xc_471, rfl⟩
theorem ffc_11_35 : x_FF RX11 35 11 3 RX11 TX11 11 := ⟨rfl, by decide, cin_11, by decide, xc_472, rfl⟩
theorem ffc_11_44 : x_FF RX11 44 11 4 RX11 TX11 11 := ⟨rfl, by decide, cin_11, by decide, xc_473, rfl⟩
theorem ffc_11_53 : x_FF RX11 53 11 5 RX11 TX11 11 := ⟨rfl, by decide, cin_11, by decide, xc_474, rfl⟩
theorem ffc_11_57 : x_FF RX11 57 11 6 RX11 TX11 11 := ⟨rfl, by decide, cin_11, by decide, xc_475, rfl⟩
theorem ffc_11_66 : x_FF RX11 66 11 7 RX11 TX11 11 := ⟨rfl, by decide, cin_11, by decide, xc_476, rfl⟩
theorem ffc_11_75 : x_FF RX11 75 11 8 RX11 TX11 11 := ⟨rfl, by decide, cin_11, by decide, xc_477, rfl⟩
theorem ffc_11_82 : x_FF RX11 82 11 9 RX11 TX11 11 := ⟨rfl, by decide, cin_11, by decide, xc_478, rfl⟩
theorem ffc_12_7 : x_FF RX12 7 12 2 RX12 TX12 72 := ⟨rfl, by decide, cin_12, by decide, xc_1167, rfl⟩
theorem ffc_12_13 : x_FF RX12 13 12 3 RX12 TX12 72 := ⟨rfl, by decide, cin_12, by decide, xc_1168, rfl⟩
theorem ffc_12_16 : x_FF RX12 16 12 4 RX12 TX12 72 := ⟨rfl, by decide, cin_12, by decide, xc_1169, rfl⟩
theorem ffc_12_19 : x_FF RX12 19 12 6 RX12 TX12 72 := ⟨rfl, by decide, cin_12, by decide, xc_1171, rfl⟩
theorem ffc_12_22 : x_FF RX12 22 12 8 RX12 TX12 72 := ⟨rfl, by decide, cin_12, by decide, xc_1173, rfl⟩
theorem ffc_12_25 : x_FF RX12 25 12 9 RX12 TX12 72 := ⟨rfl, by decide, cin_12, by decide, xc_1174, rfl⟩
theorem ffc_12_28 : x_FF RX12 28 12 11 RX12 TX12 72 := ⟨rfl, by decide, cin_12, by decide, xc_1176, rfl⟩
theorem ffc_12_31 : x_FF RX12 31 12 12 RX12 TX12 72 := ⟨rfl, by decide, cin_12, by decide, xc_1177, rfl⟩
theorem ffc_12_34 : x_FF RX12 34 12 13 RX12 TX12 72 := ⟨rfl, by decide, cin_12, by decide, xc_1178, rfl⟩
theorem ffc_12_37 : x_FF RX12 37 12 14 RX12 TX12 72 := ⟨rfl, by decide, cin_12, by decide, xc_1179, rfl⟩
theorem ffc_12_40 : x_FF RX12 40 12 15 RX12 TX12 72 := ⟨rfl, by decide, cin_12, by decide, xc_1180, rfl⟩
theorem ffc_12_43 : x_FF RX12 43 12 16 RX12 TX12 72 := ⟨rfl, by decide, cin_12, by decide, xc_1181, rfl⟩
theorem ffc_12_46 : x_FF RX12 46 12 17 RX12 TX12 72 := ⟨rfl, by decide, cin_12, by decide, xc_1182, rfl⟩
theorem ffc_12_49 : x_FF RX12 49 12 19 RX12 TX12 72 := ⟨rfl, by decide, cin_12, by decide, xc_1184, rfl⟩
theorem ffc_12_52 : x_FF RX12 52 12 20 RX12 TX12 72 := ⟨rfl, by decide, cin_12, by decide, xc_1185, rfl⟩
theorem ffc_12_55 : x_FF RX12 55 12 21 RX12 TX12 72 := ⟨rfl, by decide, cin_12, by decide, xc_1186, rfl⟩
theorem ffc_12_58 : x_FF RX12 58 12 22 RX12 TX12 72 := ⟨rfl, by decide, cin_12, by decide, xc_1187, rfl⟩
theorem ffc_12_61 : x_FF RX12 61 12 23 RX12 TX12 72 := ⟨rfl, by decide, cin_12, by decide, xc_1188, rfl⟩
theorem ffc_12_64 : x_FF RX12 64 12 24 RX12 TX12 72 := ⟨rfl, by decide, cin_12, by decide, xc_1189, rfl⟩
theorem ffc_12_67 : x_FF RX12 67 12 25 RX12 TX12 72 := ⟨rfl, by decide, cin_12, by decide, xc_1190, rfl⟩
theorem ffc_12_70 : x_FF RX12 70 12 39 RX12 TX12 72 := ⟨rfl, by decide, cin_12, by decide, xc_1204, rfl⟩
theorem ffc_12_73 : x_FF RX12 73 12 40 RX12 TX12 72 := ⟨rfl, by decide, cin_12, by decide, xc_1205, rfl⟩
theorem ffc_12_76 : x_FF RX12 76 12 42 RX12 TX12 72 := ⟨rfl, by decide, cin_12, by decide, xc_1207, rfl⟩
theorem ffc_12_79 : x_FF RX12 79 12 43 RX12 TX12 72 := ⟨rfl, by decide, cin_12, by decide, xc_1208, rfl⟩
theorem ffc_12_82 : x_FF RX12 82 12 45 RX12 TX12 72 := ⟨rfl, by decide, cin_12, by decide, xc_1210, rfl⟩
theorem ffc_12_85 : x_FF RX12 85 12 46 RX12 TX12 72 := ⟨rfl, by decide, cin_12, by decide, xc_1211, rfl⟩
theorem ffc_12_88 : x_FF RX12 88 12 47 RX12 TX12 72 := ⟨rfl, by decide, cin_12, by decide, xc_1212, rfl⟩
theorem ffc_12_91 : x_FF RX12 91 12 49 RX12 TX12 72 := ⟨rfl, by decide, cin_12, by decide, xc_1214, rfl⟩
theorem ffc_12_94 : x_FF RX12 94 12 50 RX12 TX12 72 := ⟨rfl, by decide, cin_12, by decide, xc_1215, rfl⟩
theorem ffc_12_97 : x_FF RX12 97 12 51 RX12 TX12 72 := ⟨rfl, by decide, cin_12, by decide, xc_1216, rfl⟩
theorem ffc_12_100 : x_FF RX12 100 12 52 RX12 TX12 72 := ⟨rfl, by decide, cin_12, by decide, xc_1217, rfl⟩
theorem ffc_12_103 : x_FF RX12 103 12 53 RX12 TX12 72 := ⟨rfl, by decide, cin_12, by decide, xc_1218, rfl⟩
theorem ffc_12_106 : x_FF RX12 106 12 54 RX12 TX12 72 := ⟨rfl, by decide, cin_12, by decide, xc_1219, rfl⟩
theorem ffc_12_109 : x_FF RX12 109 12 55 RX12 TX12 72 := ⟨rfl, by decide, cin_12, by decide, xc_1220, rfl⟩
theorem ffc_12_112 : x_FF RX12 112 12 56 RX12 TX12 72 := ⟨rfl, by decide, cin_12, by decide, xc_1221, rfl⟩
theorem ffc_12_116 : x_FF RX12 116 12 58 RX12 TX12 72 := ⟨rfl, by decide, cin_12, by decide, xc_1223, rfl⟩
theorem ffc_12_119 : x_FF RX12 119 12 66 RX12 TX12 72 := ⟨rfl, by decide, cin_12, by decide, xc_1231, rfl⟩
theorem ffc_12_122 : x_FF RX12 122 12 67 RX12 TX12 72 := ⟨rfl, by decide, cin_12, by decide, xc_1232, rfl⟩
theorem ffc_12_125 : x_FF RX12 125 12 69 RX12 TX12 72 := ⟨rfl, by decide, cin_12, by decide, xc_1234, rfl⟩
theorem ffc_12_128 : x_FF RX12 128 12 70 RX12 TX12 72 := ⟨rfl, by decide, cin_12, by decide, xc_1235, rfl⟩
def m3_init : xM := (yX3_init, cX3_init, 1, none)
theorem ok3_init : x_ok m3_init := ⟨xc_179, by decide +kernel, ⟨by decide +kernel, by decide +kernel⟩, xc_95, by decide⟩
def f3_init (lim : Nat × Nat) (v0 : Nat) (σ : xS) : Option xS :=
  (c_ret lim σ)
set_option maxHeartbeats 4000000 in
set_option maxRecDepth 100000 in
theorem l_f3_init (G : xG) (base d : Nat) (hd : 1 ≤ d) (lim : Nat × Nat) (v0 : Nat) (σ : xS) : Kx G base m3_init d lim [.ref v0] σ (f3_init lim v0 σ) := by
  refine kx_enter ok3_init rfl [some (.ref v0)] rfl (Nat.le_of_ble_eq_true rfl) ?_
  unfold f3_init
  refine cx_blk (pc' := 1) (L' := [some (.ref v0)]) (st' := [.ref v0]) [.aload_n 0] (by decide +kernel) rfl rfl ?_
  refine cx_obj (by omega) xc_180 xc_116 xc_117 (Nat.le_of_ble_eq_true rfl) (by decide +kernel) ?_
  exact cx_vret rfl (by decide +kernel)
def m1_init : xM := (yX1_init, cX1_init, 1, none)
theorem ok1_init : x_ok m1_init := ⟨xc_224, by decide +kernel, ⟨by decide +kernel, by decide +kernel⟩, xc_96, by decide⟩
def f1_init (lim : Nat × Nat) (v0 : Nat) (σ : xS) : Option xS :=
  (c_newa lim σ 13 (6 : Int32) fun σ1 =>
(c_putr σ1 v0 0 σ.1 1 fun σ2 =>
(c_newa lim σ2 13 (6 : Int32) fun σ3 =>
(c_putr σ3 v0 1 σ2.1 1 fun σ4 =>
(c_newa lim σ4 13 (6 : Int32) fun σ5 =>
(c_putr σ5 v0 2 σ4.1 1 fun σ6 =>
(c_ret lim σ6)))))))
set_option maxHeartbeats 4000000 in
set_option maxRecDepth 100000 in
theorem l_f1_init (G : xG) (base d : Nat) (hd : 1 ≤ d) (lim : Nat × Nat) (v0 : Nat) (σ : xS) : Kx G base m1_init d lim [.ref v0] σ (f1_init lim v0 σ) := by
  refine kx_enter ok1_init rfl [some (.ref v0)] rfl (Nat.le_of_ble_eq_true rfl) ?_
  unfold f1_init
  refine cx_blk (pc' := 1) (L' := [some (.ref v0)]) (st' := [.ref v0]) [.aload_n 0] (by decide +kernel) rfl rfl ?_
  refine cx_obj (by omega) xc_225 xc_116 xc_117 (Nat.le_of_ble_eq_true rfl) (by decide +kernel) ?_
  refine cx_blk (pc' := 7) (L' := [some (.ref v0)]) (st' := [.int (6 : Int32), .ref v0]) [.aload_n 0, .bipush 6] (by decide +kernel) rfl rfl ?_
  refine cx_newi xc_140 (by decide +kernel) (fun σ1 => ?_)
  refine cx_putr ffc_1_9 rfl rfl tyX1_ok nmX1 rfl (tyX1_ok 0 (by decide)) (fun _ => ⟨rfl, rfl⟩) (by decide +kernel) (fun σ2 => ?_)
  refine cx_blk (pc' := 15) (L' := [some (.ref v0)]) (st' := [.int (6 : Int32), .ref v0]) [.aload_n 0, .bipush 6] (by decide +kernel) rfl rfl ?_
  refine cx_newi xc_140 (by decide +kernel) (fun σ3 => ?_)
  refine cx_putr ffc_1_13 rfl rfl tyX1_ok nmX1 rfl (tyX1_ok 1 (by decide)) (fun _ => ⟨rfl, rfl⟩) (by decide +kernel) (fun σ4 => ?_)
  refine cx_blk (pc' := 23) (L' := [some (.ref v0)]) (st' := [.int (6 : Int32), .ref v0]) [.aload_n 0, .bipush 6] (by decide +kernel) rfl rfl ?_
  refine cx_newi xc_140 (by decide +kernel) (fun σ5 => ?_)
  refine cx_putr ffc_1_16 rfl rfl tyX1_ok nmX1 rfl (tyX1_ok 2 (by decide)) (fun _ => ⟨rfl, rfl⟩) (by decide +kernel) (fun σ6 => ?_)
  exact cx_vret rfl (by decide +kernel)
def m0_init : xM := (yX0_init, cX0_init, 3, none)
theorem ok0_init : x_ok m0_init := ⟨xc_454, by decide +kernel, ⟨by decide +kernel, by decide +kernel⟩, xc_102, by decide⟩
def f0_init (lim : Nat × Nat) (v0 v1 v2 : Nat) (σ : xS) : Option xS :=
  (c_newa lim σ 13 (16 : Int32) fun σ1 =>
(c_putr σ1 v0 2 σ.1 0 fun σ2 =>
(c_putr σ2 v0 0 v1 0 fun σ3 =>
(c_putr σ3 v0 1 v2 0 fun σ4 =>
(c_ret lim σ4)))))
set_option maxHeartbeats 4000000 in
set_option maxRecDepth 100000 in
theorem l_f0_init (G : xG) (base d : Nat) (hd : 1 ≤ d) (lim : Nat × Nat) (v0 v1 v2 : Nat) (σ : xS) : Kx G base m0_init d lim [.ref v0, .ref v1, .ref v2] σ (f0_init lim v0 v1 v2 σ) := by
  refine kx_enter ok0_init rfl [some (.ref v0), some (.ref v1), some (.ref v2)] rfl (Nat.le_of_ble_eq_true rfl) ?_
  unfold f0_init
  refine cx_blk (pc' := 1) (L' := [some (.ref v0), some (.ref v1), some (.ref v2)]) (st' := [.ref v0]) [.aload_n 0] (by decide +kernel) rfl rfl ?_
  refine cx_obj (by omega) xc_455 xc_116 xc_117 (Nat.le_of_ble_eq_true rfl) (by decide +kernel) ?_
  refine cx_blk (pc' := 7) (L' := [some (.ref v0), some (.ref v1), some (.ref v2)]) (st' := [.int (16 : Int32), .ref v0]) [.aload_n 0, .bipush 16] (by decide +kernel) rfl rfl ?_
  refine cx_newi xc_140 (by decide +kernel) (fun σ1 => ?_)
  refine cx_putr ffc_0_11 rfl rfl tyX0_ok nmX0 rfl (tyX0_ok 2 (by decide)) (fun _ => ⟨rfl, rfl⟩) (by decide +kernel) (fun σ2 => ?_)
  refine cx_blk (pc' := 14) (L' := [some (.ref v0), some (.ref v1), some (.ref v2)]) (st' := [.ref v1, .ref v0]) [.aload_n 0, .aload_n 1] (by decide +kernel) rfl rfl ?_
  refine cx_putr ffc_0_15 rfl rfl tyX0_ok nmX0 rfl (tyX0_ok 0 (by decide)) (fun _ => ⟨rfl, rfl⟩) (by decide +kernel) (fun σ3 => ?_)
  refine cx_blk (pc' := 19) (L' := [some (.ref v0), some (.ref v1), some (.ref v2)]) (st' := [.ref v2, .ref v0]) [.aload_n 0, .aload_n 2] (by decide +kernel) rfl rfl ?_
  refine cx_putr ffc_0_19 rfl rfl tyX0_ok nmX0 rfl (tyX0_ok 1 (by decide)) (fun _ => ⟨rfl, rfl⟩) (by decide +kernel) (fun σ4 => ?_)
  exact cx_vret rfl (by decide +kernel)
def m2_init : xM := (yX2_init, cX2_init, 2, none)
theorem ok2_init : x_ok m2_init := ⟨xc_350, by decide +kernel, ⟨by decide +kernel, by decide +kernel⟩, xc_98, by decide⟩
def f2_init (lim : Nat × Nat) (v0 v1 : Nat) (σ : xS) : Option xS :=
  (c_newa lim σ 13 (4 : Int32) fun σ1 =>
(c_putr σ1 v0 1 σ.1 2 fun σ2 =>
(c_newa lim σ2 13 (16 : Int32) fun σ3 =>
(c_putr σ3 v0 2 σ2.1 2 fun σ4 =>
(c_newa lim σ4 13 (16 : Int32) fun σ5 =>
(c_putr σ5 v0 3 σ4.1 2 fun σ6 =>
(c_putr σ6 v0 0 v1 2 fun σ7 =>
(c_ret lim σ7))))))))
set_option maxHeartbeats 4000000 in
set_option maxRecDepth 100000 in
theorem l_f2_init (G : xG) (base d : Nat) (hd : 1 ≤ d) (lim : Nat × Nat) (v0 v1 : Nat) (σ : xS) : Kx G base m2_init d lim [.ref v0, .ref v1] σ (f2_init lim v0 v1 σ) := by
  refine kx_enter ok2_init rfl [some (.ref v0), some (.ref v1)] rfl (Nat.le_of_ble_eq_true rfl) ?_
  unfold f2_init
  refine cx_blk (pc' := 1) (L' := [some (.ref v0), some (.ref v1)]) (st' := [.ref v0]) [.aload_n 0] (by decide +kernel) rfl rfl ?_
  refine cx_obj (by omega) xc_351 xc_116 xc_117 (Nat.le_of_ble_eq_true rfl) (by decide +kernel) ?_
  refine cx_blk (pc' := 6) (L' := [some (.ref v0), some (.ref v1)]) (st' := [.int (4 : Int32), .ref v0]) [.aload_n 0, .iconst 4] (by decide +kernel) rfl rfl ?_
  refine cx_newi xc_140 (by decide +kernel) (fun σ1 => ?_)
  refine cx_putr ffc_2_11 rfl rfl tyX2_ok nmX2 rfl (tyX2_ok 1 (by decide)) (fun _ => ⟨rfl, rfl⟩) (by decide +kernel) (fun σ2 => ?_)
  refine cx_blk (pc' := 14) (L' := [some (.ref v0), some (.ref v1)]) (st' := [.int (16 : Int32), .ref v0]) [.aload_n 0, .bipush 16] (by decide +kernel) rfl rfl ?_
  refine cx_newi xc_140 (by decide +kernel) (fun σ3 => ?_)
  refine cx_putr ffc_2_15 rfl rfl tyX2_ok nmX2 rfl (tyX2_ok 2 (by decide)) (fun _ => ⟨rfl, rfl⟩) (by decide +kernel) (fun σ4 => ?_)
  refine cx_blk (pc' := 22) (L' := [some (.ref v0), some (.ref v1)]) (st' := [.int (16 : Int32), .ref v0]) [.aload_n 0, .bipush 16] (by decide +kernel) rfl rfl ?_
  refine cx_newi xc_140 (by decide +kernel) (fun σ5 => ?_)
  refine cx_putr ffc_2_18 rfl rfl tyX2_ok nmX2 rfl (tyX2_ok 3 (by decide)) (fun _ => ⟨rfl, rfl⟩) (by decide +kernel) (fun σ6 => ?_)
  refine cx_blk (pc' := 29) (L' := [some (.ref v0), some (.ref v1)]) (st' := [.ref v1, .ref v0]) [.aload_n 0, .aload_n 1] (by decide +kernel) rfl rfl ?_
  refine cx_putr ffc_2_21 rfl rfl tyX2_ok nmX2 rfl (tyX2_ok 0 (by decide)) (fun _ => ⟨rfl, rfl⟩) (by decide +kernel) (fun σ7 => ?_)
  exact cx_vret rfl (by decide +kernel)
def m4_init : xM := (yX4_init, cX4_init, 2, none)
theorem ok4_init : x_ok m4_init := ⟨xc_170, by decide +kernel, ⟨by decide +kernel, by decide +kernel⟩, xc_94, by decide⟩
def f4_init_l48 (lim : Nat × Nat) (v0 : Nat) (kx48 : Int32 → xS → Option xS) : Nat → Int32 → xS → Option xS
  | 0, _, _ => none
  | n + 1, i1, σ =>
  (if (8 : Int32) ≤ i1 then
(kx48 i1 σ)
else
(c_getr σ v0 3 4 fun r11 =>
(c_new lim σ 3 8 fun σ12 =>
(c_call 0 0 lim σ12 (fun lim1 => f3_init lim1 σ.1 σ12) fun σ13 =>
(c_aast σ13 r11 i1 σ.1 16 3 fun σ14 =>
(f4_init_l48 lim v0 kx48 n ((i1 + (1 : Int32))) σ14))))))
set_option maxHeartbeats 4000000 in
set_option maxRecDepth 100000 in
theorem l_f4_init_l48 (G : xG) (base d n0 s0 : Nat) (hd : 2 ≤ d) (lim : Nat × Nat) (v0 : Nat) (kx48 : Int32 → xS → Option xS) (hx48 : ∀ (i1 : Int32) (σ : xS), Cx G base m4_init d n0 s0 lim 73 [some (.ref v0), some (.int i1)] [] σ (kx48 i1 σ)) : ∀ (n : Nat) (i1 : Int32) (σ : xS), Cx G base m4_init d n0 s0 lim 48 [some (.ref v0), some (.int i1)] [] σ (f4_init_l48 lim v0 kx48 n i1 σ) := by
  intro n
  induction n with
  | zero => intro i1 σ; exact cx_none
  | succ n h48 =>
    intro i1 σ
    unfold f4_init_l48
    refine cx_blk (pc' := 51) (L' := [some (.ref v0), some (.int i1)]) (st' := [.int (8 : Int32), .int i1]) [.iload_n 1, .bipush 8] (by decide +kernel) rfl rfl ?_
    refine cx_ic_ge 73 (off := 22) (by decide +kernel) (by decide) ?_ ?_
    · exact hx48 i1 σ
    · refine cx_blk (pc' := 55) (L' := [some (.ref v0), some (.int i1)]) (st' := [.ref v0]) [.aload_n 0] (by decide +kernel) rfl rfl ?_
      refine cx_getr ffc_4_21 rfl (by decide +kernel) (fun r11 => ?_)
      refine cx_blk (pc' := 59) (L' := [some (.ref v0), some (.int i1)]) (st' := [.int i1, .ref r11]) [.iload_n 1] (by decide +kernel) rfl rfl ?_
      refine cx_new (ci := 3) (ty0 := tyX3) rfl (by decide) cin_3 tyX3_ok (by decide +kernel) xc_172 xc_176 xc_95 (by decide +kernel) (fun σ12 => ?_)
      refine cx_blk (pc' := 63) (L' := [some (.ref v0), some (.int i1)]) (st' := [.ref σ.1, .ref σ.1, .int i1, .ref r11]) [.dup] (by decide +kernel) rfl rfl ?_
      refine cx_call (M' := m3_init) (d1 := 1) (n := 0) (As := []) (rest := [.ref σ.1, .int i1, .ref r11]) (by omega) (fun s args hts hO => ⟨Or.inr ⟨_, hO.2.2.2.2.2.1⟩, xc_178, rfl, by decide +kernel, ok3_init, rfl⟩) rfl (Nat.le_of_ble_eq_true rfl) (fun lim1 => l_f3_init G base 1 (by omega) lim1 σ.1 σ12) rfl (by decide +kernel) (fun σ13 => ?_)
      refine cx_aast (tk := 3) (by decide) rfl (by decide) rfl (by decide +kernel) (fun σ14 => ?_)
      refine cx_blk (pc' := 70) (L' := [some (.ref v0), some (.int (i1 + (1 : Int32)))]) (st' := []) [.iinc 1 1] (by decide +kernel) rfl rfl ?_
      refine cx_goto 48 (off := -22) (by decide +kernel) (by decide) ?_
      exact h48 ((i1 + (1 : Int32))) σ14
def f4_init_l75 (lim : Nat × Nat) (v0 : Nat) (kx75 : Int32 → xS → Option xS) : Nat → Int32 → xS → Option xS
  | 0, _, _ => none
  | n + 1, i1, σ =>
  (if (24 : Int32) ≤ i1 then
(kx75 i1 σ)
else
(c_getr σ v0 4 4 fun r17 =>
(c_new lim σ 1 8 fun σ18 =>
(c_call 3 18 lim σ18 (fun lim1 => f1_init lim1 σ.1 σ18) fun σ19 =>
(c_aast σ19 r17 i1 σ.1 15 1 fun σ20 =>
(f4_init_l75 lim v0 kx75 n ((i1 + (1 : Int32))) σ20))))))
set_option maxHeartbeats 4000000 in
set_option maxRecDepth 100000 in
theorem l_f4_init_l75 (G : xG) (base d n0 s0 : Nat) (hd : 2 ≤ d) (lim : Nat × Nat) (v0 : Nat) (kx75 : Int32 → xS → Option xS) (hx75 : ∀ (i1 : Int32) (σ : xS), Cx G base m4_init d n0 s0 lim 100 [some (.ref v0), some (.int i1)] [] σ (kx75 i1 σ)) : ∀ (n : Nat) (i1 : Int32) (σ : xS), Cx G base m4_init d n0 s0 lim 75 [some (.ref v0), some (.int i1)] [] σ (f4_init_l75 lim v0 kx75 n i1 σ) := by
  intro n
  induction n with
  | zero => intro i1 σ; exact cx_none
  | succ n h75 =>
    intro i1 σ
    unfold f4_init_l75
    refine cx_blk (pc' := 78) (L' := [some (.ref v0), some (.int i1)]) (st' := [.int (24 : Int32), .int i1]) [.iload_n 1, .bipush 24] (by decide +kernel) rfl rfl ?_
    refine cx_ic_ge 100 (off := 22) (by decide +kernel) (by decide) ?_ ?_
    · exact hx75 i1 σ
    · refine cx_blk (pc' := 82) (L' := [some (.ref v0), some (.int i1)]) (st' := [.ref v0]) [.aload_n 0] (by decide +kernel) rfl rfl ?_
      refine cx_getr ffc_4_27 rfl (by decide +kernel) (fun r17 => ?_)
      refine cx_blk (pc' := 86) (L' := [some (.ref v0), some (.int i1)]) (st' := [.int i1, .ref r17]) [.iload_n 1] (by decide +kernel) rfl rfl ?_
      refine cx_new (ci := 1) (ty0 := tyX1) rfl (by decide) cin_1 tyX1_ok (by decide +kernel) xc_174 xc_221 xc_96 (by decide +kernel) (fun σ18 => ?_)
      refine cx_blk (pc' := 90) (L' := [some (.ref v0), some (.int i1)]) (st' := [.ref σ.1, .ref σ.1, .int i1, .ref r17]) [.dup] (by decide +kernel) rfl rfl ?_
      refine cx_call (M' := m1_init) (d1 := 1) (n := 0) (As := []) (rest := [.ref σ.1, .int i1, .ref r17]) (by omega) (fun s args hts hO => ⟨Or.inr ⟨_, hO.2.2.2.2.2.2⟩, xc_223, rfl, by decide +kernel, ok1_init, rfl⟩) rfl (Nat.le_of_ble_eq_true rfl) (fun lim1 => l_f1_init G base 1 (by omega) lim1 σ.1 σ18) rfl (by decide +kernel) (fun σ19 => ?_)
      refine cx_aast (tk := 2) (by decide) rfl (by decide) rfl (by decide +kernel) (fun σ20 => ?_)
      refine cx_blk (pc' := 97) (L' := [some (.ref v0), some (.int (i1 + (1 : Int32)))]) (st' := []) [.iinc 1 1] (by decide +kernel) rfl rfl ?_
      refine cx_goto 75 (off := -22) (by decide +kernel) (by decide) ?_
      exact h75 ((i1 + (1 : Int32))) σ20
def f4_init (lim : Nat × Nat) (v0 : Nat) (σ : xS) : Option xS :=
  (c_newa lim σ 13 (8 : Int32) fun σ1 =>
(c_putr σ1 v0 0 σ.1 4 fun σ2 =>
(c_newa lim σ2 13 (8 : Int32) fun σ3 =>
(c_putr σ3 v0 1 σ2.1 4 fun σ4 =>
(c_newa lim σ4 13 (8 : Int32) fun σ5 =>
(c_putr σ5 v0 2 σ4.1 4 fun σ6 =>
(c_newa lim σ6 16 (8 : Int32) fun σ7 =>
(c_putr σ7 v0 3 σ6.1 4 fun σ8 =>
(c_newa lim σ8 15 (24 : Int32) fun σ9 =>
(c_putr σ9 v0 4 σ8.1 4 fun σ10 =>
(f4_init_l48 lim v0 (fun y16 σ15 =>
(f4_init_l75 lim v0 (fun y22 σ21 =>
(c_ret lim σ21)) 1000 ((0 : Int32)) σ15)) 1000 ((0 : Int32)) σ10)))))))))))
set_option maxHeartbeats 4000000 in
set_option maxRecDepth 100000 in
theorem l_f4_init (G : xG) (base d : Nat) (hd : 2 ≤ d) (lim : Nat × Nat) (v0 : Nat) (σ : xS) : Kx G base m4_init d lim [.ref v0] σ (f4_init lim v0 σ) := by
  refine kx_enter ok4_init rfl [some (.ref v0), none] rfl (Nat.le_of_ble_eq_true rfl) ?_
  unfold f4_init
  refine cx_blk (pc' := 1) (L' := [some (.ref v0), none]) (st' := [.ref v0]) [.aload_n 0] (by decide +kernel) rfl rfl ?_
  refine cx_obj (by omega) xc_171 xc_116 xc_117 (Nat.le_of_ble_eq_true rfl) (by decide +kernel) ?_
  refine cx_blk (pc' := 7) (L' := [some (.ref v0), none]) (st' := [.int (8 : Int32), .ref v0]) [.aload_n 0, .bipush 8] (by decide +kernel) rfl rfl ?_
  refine cx_newi xc_140 (by decide +kernel) (fun σ1 => ?_)
  refine cx_putr ffc_4_9 rfl rfl tyX4_ok nmX4 rfl (tyX4_ok 0 (by decide)) (fun _ => ⟨rfl, rfl⟩) (by decide +kernel) (fun σ2 => ?_)
  refine cx_blk (pc' := 15) (L' := [some (.ref v0), none]) (st' := [.int (8 : Int32), .ref v0]) [.aload_n 0, .bipush 8] (by decide +kernel) rfl rfl ?_
  refine cx_newi xc_140 (by decide +kernel) (fun σ3 => ?_)
  refine cx_putr ffc_4_13 rfl rfl tyX4_ok nmX4 rfl (tyX4_ok 1 (by decide)) (fun _ => ⟨rfl, rfl⟩) (by decide +kernel) (fun σ4 => ?_)
  refine cx_blk (pc' := 23) (L' := [some (.ref v0), none]) (st' := [.int (8 : Int32), .ref v0]) [.aload_n 0, .bipush 8] (by decide +kernel) rfl rfl ?_
  refine cx_newi xc_140 (by decide +kernel) (fun σ5 => ?_)
  refine cx_putr ffc_4_16 rfl rfl tyX4_ok nmX4 rfl (tyX4_ok 2 (by decide)) (fun _ => ⟨rfl, rfl⟩) (by decide +kernel) (fun σ6 => ?_)
  refine cx_blk (pc' := 31) (L' := [some (.ref v0), none]) (st' := [.int (8 : Int32), .ref v0]) [.aload_n 0, .bipush 8] (by decide +kernel) rfl rfl ?_
  refine cx_newL xc_172 (by decide +kernel) (fun σ7 => ?_)
  refine cx_putr ffc_4_21 rfl rfl tyX4_ok nmX4 rfl (tyX4_ok 3 (by decide)) (fun _ => ⟨rfl, rfl⟩) (by decide +kernel) (fun σ8 => ?_)
  refine cx_blk (pc' := 40) (L' := [some (.ref v0), none]) (st' := [.int (24 : Int32), .ref v0]) [.aload_n 0, .bipush 24] (by decide +kernel) rfl rfl ?_
  refine cx_newB xc_174 (by decide +kernel) (fun σ9 => ?_)
  refine cx_putr ffc_4_27 rfl rfl tyX4_ok nmX4 rfl (tyX4_ok 4 (by decide)) (fun _ => ⟨rfl, rfl⟩) (by decide +kernel) (fun σ10 => ?_)
  refine cx_blk (pc' := 48) (L' := [some (.ref v0), some (.int (0 : Int32))]) (st' := []) [.iconst 0, .istore_n 1] (by decide +kernel) rfl rfl ?_
  refine l_f4_init_l48 G base d _ _ hd lim v0 _ ?_ 1000 ((0 : Int32)) σ10
  intro y16 σ15
  refine cx_blk (pc' := 75) (L' := [some (.ref v0), some (.int (0 : Int32))]) (st' := []) [.iconst 0, .istore_n 1] (by decide +kernel) rfl rfl ?_
  refine l_f4_init_l75 G base d _ _ hd lim v0 _ ?_ 1000 ((0 : Int32)) σ15
  intro y22 σ21
  exact cx_vret rfl (by decide +kernel)
def m5_init : xM := (yX5_init, cX5_init, 3, none)
theorem ok5_init : x_ok m5_init := ⟨xc_328, by decide +kernel, ⟨by decide +kernel, by decide +kernel⟩, xc_97, by decide⟩
def f5_init (lim : Nat × Nat) (v0 v1 v2 : Nat) (σ : xS) : Option xS :=
  (c_putr σ v0 0 v1 5 fun σ1 =>
(c_putr σ1 v0 1 v2 5 fun σ2 =>
(c_ret lim σ2)))
set_option maxHeartbeats 4000000 in
set_option maxRecDepth 100000 in
theorem l_f5_init (G : xG) (base d : Nat) (hd : 1 ≤ d) (lim : Nat × Nat) (v0 v1 v2 : Nat) (σ : xS) : Kx G base m5_init d lim [.ref v0, .ref v1, .ref v2] σ (f5_init lim v0 v1 v2 σ) := by
  refine kx_enter ok5_init rfl [some (.ref v0), some (.ref v1), some (.ref v2)] rfl (Nat.le_of_ble_eq_true rfl) ?_
  unfold f5_init
  refine cx_blk (pc' := 1) (L' := [some (.ref v0), some (.ref v1), some (.ref v2)]) (st' := [.ref v0]) [.aload_n 0] (by decide +kernel) rfl rfl ?_
  refine cx_obj (by omega) xc_329 xc_116 xc_117 (Nat.le_of_ble_eq_true rfl) (by decide +kernel) ?_
  refine cx_blk (pc' := 6) (L' := [some (.ref v0), some (.ref v1), some (.ref v2)]) (st' := [.ref v1, .ref v0]) [.aload_n 0, .aload_n 1] (by decide +kernel) rfl rfl ?_
  refine cx_putr ffc_5_9 rfl rfl tyX5_ok nmX5 rfl (tyX5_ok 0 (by decide)) (fun _ => ⟨rfl, rfl⟩) (by decide +kernel) (fun σ1 => ?_)
  refine cx_blk (pc' := 11) (L' := [some (.ref v0), some (.ref v1), some (.ref v2)]) (st' := [.ref v2, .ref v0]) [.aload_n 0, .aload_n 2] (by decide +kernel) rfl rfl ?_
  refine cx_putr ffc_5_15 rfl rfl tyX5_ok nmX5 rfl (tyX5_ok 1 (by decide)) (fun _ => ⟨rfl, rfl⟩) (by decide +kernel) (fun σ2 => ?_)
  exact cx_vret rfl (by decide +kernel)
def m6_init : xM := (yX6_init, cX6_init, 3, none)
theorem ok6_init : x_ok m6_init := ⟨xc_375, by decide +kernel, ⟨by decide +kernel, by decide +kernel⟩, xc_99, by decide⟩
def f6_init (lim : Nat × Nat) (v0 v1 v2 : Nat) (σ : xS) : Option xS :=
  (c_newa lim σ 13 (8 : Int32) fun σ1 =>
(c_putr σ1 v0 2 σ.1 6 fun σ2 =>
(c_newa lim σ2 13 (24 : Int32) fun σ3 =>
(c_putr σ3 v0 3 σ2.1 6 fun σ4 =>
(c_putr σ4 v0 0 v1 6 fun σ5 =>
(c_putr σ5 v0 1 v2 6 fun σ6 =>
(c_ret lim σ6)))))))
set_option maxHeartbeats 4000000 in
set_option maxRecDepth 100000 in
theorem l_f6_init (G : xG) (base d : Nat) (hd : 1 ≤ d) (lim : Nat × Nat) (v0 v1 v2 : Nat) (σ : xS) : Kx G base m6_init d lim [.ref v0, .ref v1, .ref v2] σ (f6_init lim v0 v1 v2 σ) := by
  refine kx_enter ok6_init rfl [some (.ref v0), some (.ref v1), some (.ref v2)] rfl (Nat.le_of_ble_eq_true rfl) ?_
  unfold f6_init
  refine cx_blk (pc' := 1) (L' := [some (.ref v0), some (.ref v1), some (.ref v2)]) (st' := [.ref v0]) [.aload_n 0] (by decide +kernel) rfl rfl ?_
  refine cx_obj (by omega) xc_376 xc_116 xc_117 (Nat.le_of_ble_eq_true rfl) (by decide +kernel) ?_
  refine cx_blk (pc' := 7) (L' := [some (.ref v0), some (.ref v1), some (.ref v2)]) (st' := [.int (8 : Int32), .ref v0]) [.aload_n 0, .bipush 8] (by decide +kernel) rfl rfl ?_
  refine cx_newi xc_140 (by decide +kernel) (fun σ1 => ?_)
  refine cx_putr ffc_6_9 rfl rfl tyX6_ok nmX6 rfl (tyX6_ok 2 (by decide)) (fun _ => ⟨rfl, rfl⟩) (by decide +kernel) (fun σ2 => ?_)
  refine cx_blk (pc' := 15) (L' := [some (.ref v0), some (.ref v1), some (.ref v2)]) (st' := [.int (24 : Int32), .ref v0]) [.aload_n 0, .bipush 24] (by decide +kernel) rfl rfl ?_
  refine cx_newi xc_140 (by decide +kernel) (fun σ3 => ?_)
  refine cx_putr ffc_6_15 rfl rfl tyX6_ok nmX6 rfl (tyX6_ok 3 (by decide)) (fun _ => ⟨rfl, rfl⟩) (by decide +kernel) (fun σ4 => ?_)
  refine cx_blk (pc' := 22) (L' := [some (.ref v0), some (.ref v1), some (.ref v2)]) (st' := [.ref v1, .ref v0]) [.aload_n 0, .aload_n 1] (by decide +kernel) rfl rfl ?_
  refine cx_putr ffc_6_18 rfl rfl tyX6_ok nmX6 rfl (tyX6_ok 0 (by decide)) (fun _ => ⟨rfl, rfl⟩) (by decide +kernel) (fun σ5 => ?_)
  refine cx_blk (pc' := 27) (L' := [some (.ref v0), some (.ref v1), some (.ref v2)]) (st' := [.ref v2, .ref v0]) [.aload_n 0, .aload_n 2] (by decide +kernel) rfl rfl ?_
  refine cx_putr ffc_6_22 rfl rfl tyX6_ok nmX6 rfl (tyX6_ok 1 (by decide)) (fun _ => ⟨rfl, rfl⟩) (by decide +kernel) (fun σ6 => ?_)
  exact cx_vret rfl (by decide +kernel)
def m7_init : xM := (yX7_init, cX7_init, 4, none)
theorem ok7_init : x_ok m7_init := ⟨xc_397, by decide +kernel, ⟨by decide +kernel, by decide +kernel⟩, xc_100, by decide⟩
def f7_init (lim : Nat × Nat) (v0 v1 v2 v3 : Nat) (σ : xS) : Option xS :=
  (c_multi lim σ (6 : Int32) (24 : Int32) fun σ1 =>
(c_putr σ1 v0 3 σ.1 7 fun σ2 =>
(c_newa lim σ2 13 (6 : Int32) fun σ3 =>
(c_putr σ3 v0 4 σ2.1 7 fun σ4 =>
(c_newa lim σ4 13 (6 : Int32) fun σ5 =>
(c_putr σ5 v0 5 σ4.1 7 fun σ6 =>
(c_newa lim σ6 13 (40 : Int32) fun σ7 =>
(c_putr σ7 v0 6 σ6.1 7 fun σ8 =>
(c_putr σ8 v0 0 v1 7 fun σ9 =>
(c_putr σ9 v0 1 v2 7 fun σ10 =>
(c_putr σ10 v0 2 v3 7 fun σ11 =>
(c_ret lim σ11))))))))))))
set_option maxHeartbeats 4000000 in
set_option maxRecDepth 100000 in
theorem l_f7_init (G : xG) (base d : Nat) (hd : 1 ≤ d) (lim : Nat × Nat) (v0 v1 v2 v3 : Nat) (σ : xS) : Kx G base m7_init d lim [.ref v0, .ref v1, .ref v2, .ref v3] σ (f7_init lim v0 v1 v2 v3 σ) := by
  refine kx_enter ok7_init rfl [some (.ref v0), some (.ref v1), some (.ref v2), some (.ref v3)] rfl (Nat.le_of_ble_eq_true rfl) ?_
  unfold f7_init
  refine cx_blk (pc' := 1) (L' := [some (.ref v0), some (.ref v1), some (.ref v2), some (.ref v3)]) (st' := [.ref v0]) [.aload_n 0] (by decide +kernel) rfl rfl ?_
  refine cx_obj (by omega) xc_398 xc_116 xc_117 (Nat.le_of_ble_eq_true rfl) (by decide +kernel) ?_
  refine cx_blk (pc' := 9) (L' := [some (.ref v0), some (.ref v1), some (.ref v2), some (.ref v3)]) (st' := [.int (24 : Int32), .int (6 : Int32), .ref v0]) [.aload_n 0, .bipush 6, .bipush 24] (by decide +kernel) rfl rfl ?_
  refine cx_multi xc_140 xc_399 (by decide +kernel) (fun σ1 => ?_)
  refine cx_putr ffc_7_15 rfl rfl tyX7_ok nmX7 rfl (tyX7_ok 3 (by decide)) (fun _ => ⟨rfl, rfl⟩) (by decide +kernel) (fun σ2 => ?_)
  refine cx_blk (pc' := 19) (L' := [some (.ref v0), some (.ref v1), some (.ref v2), some (.ref v3)]) (st' := [.int (6 : Int32), .ref v0]) [.aload_n 0, .bipush 6] (by decide +kernel) rfl rfl ?_
  refine cx_newi xc_140 (by decide +kernel) (fun σ3 => ?_)
  refine cx_putr ffc_7_18 rfl rfl tyX7_ok nmX7 rfl (tyX7_ok 4 (by decide)) (fun _ => ⟨rfl, rfl⟩) (by decide +kernel) (fun σ4 => ?_)
  refine cx_blk (pc' := 27) (L' := [some (.ref v0), some (.ref v1), some (.ref v2), some (.ref v3)]) (st' := [.int (6 : Int32), .ref v0]) [.aload_n 0, .bipush 6] (by decide +kernel) rfl rfl ?_
  refine cx_newi xc_140 (by decide +kernel) (fun σ5 => ?_)
  refine cx_putr ffc_7_22 rfl rfl tyX7_ok nmX7 rfl (tyX7_ok 5 (by decide)) (fun _ => ⟨rfl, rfl⟩) (by decide +kernel) (fun σ6 => ?_)
  refine cx_blk (pc' := 35) (L' := [some (.ref v0), some (.ref v1), some (.ref v2), some (.ref v3)]) (st' := [.int (40 : Int32), .ref v0]) [.aload_n 0, .bipush 40] (by decide +kernel) rfl rfl ?_
  refine cx_newi xc_140 (by decide +kernel) (fun σ7 => ?_)
  refine cx_putr ffc_7_25 rfl rfl tyX7_ok nmX7 rfl (tyX7_ok 6 (by decide)) (fun _ => ⟨rfl, rfl⟩) (by decide +kernel) (fun σ8 => ?_)
  refine cx_blk (pc' := 42) (L' := [some (.ref v0), some (.ref v1), some (.ref v2), some (.ref v3)]) (st' := [.ref v1, .ref v0]) [.aload_n 0, .aload_n 1] (by decide +kernel) rfl rfl ?_
  refine cx_putr ffc_7_28 rfl rfl tyX7_ok nmX7 rfl (tyX7_ok 0 (by decide)) (fun _ => ⟨rfl, rfl⟩) (by decide +kernel) (fun σ9 => ?_)
  refine cx_blk (pc' := 47) (L' := [some (.ref v0), some (.ref v1), some (.ref v2), some (.ref v3)]) (st' := [.ref v2, .ref v0]) [.aload_n 0, .aload_n 2] (by decide +kernel) rfl rfl ?_
  refine cx_putr ffc_7_32 rfl rfl tyX7_ok nmX7 rfl (tyX7_ok 1 (by decide)) (fun _ => ⟨rfl, rfl⟩) (by decide +kernel) (fun σ10 => ?_)
  refine cx_blk (pc' := 52) (L' := [some (.ref v0), some (.ref v1), some (.ref v2), some (.ref v3)]) (st' := [.ref v3, .ref v0]) [.aload_n 0, .aload_n 3] (by decide +kernel) rfl rfl ?_
  refine cx_putr ffc_7_36 rfl rfl tyX7_ok nmX7 rfl (tyX7_ok 2 (by decide)) (fun _ => ⟨rfl, rfl⟩) (by decide +kernel) (fun σ11 => ?_)
  exact cx_vret rfl (by decide +kernel)
def m8_init : xM := (yX8_init, cX8_init, 1, none)
theorem ok8_init : x_ok m8_init := ⟨xc_122, by decide +kernel, ⟨by decide +kernel, by decide +kernel⟩, xc_92, by decide⟩
def f8_init (lim : Nat × Nat) (v0 : Nat) (σ : xS) : Option xS :=
  (c_newa lim σ 14 (8 : Int32) fun σ1 =>
(c_putr σ1 v0 0 σ.1 8 fun σ2 =>
(c_newa lim σ2 13 (8 : Int32) fun σ3 =>
(c_putr σ3 v0 1 σ2.1 8 fun σ4 =>
(c_newa lim σ4 13 (8 : Int32) fun σ5 =>
(c_putr σ5 v0 2 σ4.1 8 fun σ6 =>
(c_multi lim σ6 (8 : Int32) (40 : Int32) fun σ7 =>
(c_putr σ7 v0 3 σ6.1 8 fun σ8 =>
(c_ret lim σ8)))))))))
set_option maxHeartbeats 4000000 in
set_option maxRecDepth 100000 in
theorem l_f8_init (G : xG) (base d : Nat) (hd : 1 ≤ d) (lim : Nat × Nat) (v0 : Nat) (σ : xS) : Kx G base m8_init d lim [.ref v0] σ (f8_init lim v0 σ) := by
  refine kx_enter ok8_init rfl [some (.ref v0)] rfl (Nat.le_of_ble_eq_true rfl) ?_
  unfold f8_init
  refine cx_blk (pc' := 1) (L' := [some (.ref v0)]) (st' := [.ref v0]) [.aload_n 0] (by decide +kernel) rfl rfl ?_
  refine cx_obj (by omega) xc_123 xc_116 xc_117 (Nat.le_of_ble_eq_true rfl) (by decide +kernel) ?_
  refine cx_blk (pc' := 7) (L' := [some (.ref v0)]) (st' := [.int (8 : Int32), .ref v0]) [.aload_n 0, .bipush 8] (by decide +kernel) rfl rfl ?_
  refine cx_newz xc_139 (by decide +kernel) (fun σ1 => ?_)
  refine cx_putr ffc_8_9 rfl rfl tyX8_ok nmX8 rfl (tyX8_ok 0 (by decide)) (fun _ => ⟨rfl, rfl⟩) (by decide +kernel) (fun σ2 => ?_)
  refine cx_blk (pc' := 15) (L' := [some (.ref v0)]) (st' := [.int (8 : Int32), .ref v0]) [.aload_n 0, .bipush 8] (by decide +kernel) rfl rfl ?_
  refine cx_newi xc_140 (by decide +kernel) (fun σ3 => ?_)
  refine cx_putr ffc_8_13 rfl rfl tyX8_ok nmX8 rfl (tyX8_ok 1 (by decide)) (fun _ => ⟨rfl, rfl⟩) (by decide +kernel) (fun σ4 => ?_)
  refine cx_blk (pc' := 23) (L' := [some (.ref v0)]) (st' := [.int (8 : Int32), .ref v0]) [.aload_n 0, .bipush 8] (by decide +kernel) rfl rfl ?_
  refine cx_newi xc_140 (by decide +kernel) (fun σ5 => ?_)
  refine cx_putr ffc_8_17 rfl rfl tyX8_ok nmX8 rfl (tyX8_ok 2 (by decide)) (fun _ => ⟨rfl, rfl⟩) (by decide +kernel) (fun σ6 => ?_)
  refine cx_blk (pc' := 33) (L' := [some (.ref v0)]) (st' := [.int (40 : Int32), .int (8 : Int32), .ref v0]) [.aload_n 0, .bipush 8, .bipush 40] (by decide +kernel) rfl rfl ?_
  refine cx_multi xc_140 xc_124 (by decide +kernel) (fun σ7 => ?_)
  refine cx_putr ffc_8_22 rfl rfl tyX8_ok nmX8 rfl (tyX8_ok 3 (by decide)) (fun _ => ⟨rfl, rfl⟩) (by decide +kernel) (fun σ8 => ?_)
  exact cx_vret rfl (by decide +kernel)
def m9_init : xM := (yX9_init, cX9_init, 4, none)
theorem ok9_init : x_ok m9_init := ⟨xc_432, by decide +kernel, ⟨by decide +kernel, by decide +kernel⟩, xc_101, by decide⟩
def f9_init (lim : Nat × Nat) (v0 v1 v2 v3 : Nat) (σ : xS) : Option xS :=
  (c_newa lim σ 13 (4 : Int32) fun σ1 =>
(c_putr σ1 v0 3 σ.1 9 fun σ2 =>
(c_newa lim σ2 14 (256 : Int32) fun σ3 =>
(c_putr σ3 v0 4 σ2.1 9 fun σ4 =>
(c_putr σ4 v0 0 v1 9 fun σ5 =>
(c_putr σ5 v0 1 v2 9 fun σ6 =>
(c_putr σ6 v0 2 v3 9 fun σ7 =>
(c_ret lim σ7))))))))
set_option maxHeartbeats 4000000 in
set_option maxRecDepth 100000 in
theorem l_f9_init (G : xG) (base d : Nat) (hd : 1 ≤ d) (lim : Nat × Nat) (v0 v1 v2 v3 : Nat) (σ : xS) : Kx G base m9_init d lim [.ref v0, .ref v1, .ref v2, .ref v3] σ (f9_init lim v0 v1 v2 v3 σ) := by
  refine kx_enter ok9_init rfl [some (.ref v0), some (.ref v1), some (.ref v2), some (.ref v3)] rfl (Nat.le_of_ble_eq_true rfl) ?_
  unfold f9_init
  refine cx_blk (pc' := 1) (L' := [some (.ref v0), some (.ref v1), some (.ref v2), some (.ref v3)]) (st' := [.ref v0]) [.aload_n 0] (by decide +kernel) rfl rfl ?_
  refine cx_obj (by omega) xc_433 xc_116 xc_117 (Nat.le_of_ble_eq_true rfl) (by decide +kernel) ?_
  refine cx_blk (pc' := 6) (L' := [some (.ref v0), some (.ref v1), some (.ref v2), some (.ref v3)]) (st' := [.int (4 : Int32), .ref v0]) [.aload_n 0, .iconst 4] (by decide +kernel) rfl rfl ?_
  refine cx_newi xc_140 (by decide +kernel) (fun σ1 => ?_)
  refine cx_putr ffc_9_11 rfl rfl tyX9_ok nmX9 rfl (tyX9_ok 3 (by decide)) (fun _ => ⟨rfl, rfl⟩) (by decide +kernel) (fun σ2 => ?_)
  refine cx_blk (pc' := 15) (L' := [some (.ref v0), some (.ref v1), some (.ref v2), some (.ref v3)]) (st' := [.int (256 : Int32), .ref v0]) [.aload_n 0, .sipush 256] (by decide +kernel) rfl rfl ?_
  refine cx_newz xc_139 (by decide +kernel) (fun σ3 => ?_)
  refine cx_putr ffc_9_17 rfl rfl tyX9_ok nmX9 rfl (tyX9_ok 4 (by decide)) (fun _ => ⟨rfl, rfl⟩) (by decide +kernel) (fun σ4 => ?_)
  refine cx_blk (pc' := 22) (L' := [some (.ref v0), some (.ref v1), some (.ref v2), some (.ref v3)]) (st' := [.ref v1, .ref v0]) [.aload_n 0, .aload_n 1] (by decide +kernel) rfl rfl ?_
  refine cx_putr ffc_9_21 rfl rfl tyX9_ok nmX9 rfl (tyX9_ok 0 (by decide)) (fun _ => ⟨rfl, rfl⟩) (by decide +kernel) (fun σ5 => ?_)
  refine cx_blk (pc' := 27) (L' := [some (.ref v0), some (.ref v1), some (.ref v2), some (.ref v3)]) (st' := [.ref v2, .ref v0]) [.aload_n 0, .aload_n 2] (by decide +kernel) rfl rfl ?_
  refine cx_putr ffc_9_25 rfl rfl tyX9_ok nmX9 rfl (tyX9_ok 1 (by decide)) (fun _ => ⟨rfl, rfl⟩) (by decide +kernel) (fun σ6 => ?_)
  refine cx_blk (pc' := 32) (L' := [some (.ref v0), some (.ref v1), some (.ref v2), some (.ref v3)]) (st' := [.ref v3, .ref v0]) [.aload_n 0, .aload_n 3] (by decide +kernel) rfl rfl ?_
  refine cx_putr ffc_9_29 rfl rfl tyX9_ok nmX9 rfl (tyX9_ok 2 (by decide)) (fun _ => ⟨rfl, rfl⟩) (by decide +kernel) (fun σ7 => ?_)
  exact cx_vret rfl (by decide +kernel)
def m10_init : xM := (yX10_init, cX10_init, 1, none)
theorem ok10_init : x_ok m10_init := ⟨xc_145, by decide +kernel, ⟨by decide +kernel, by decide +kernel⟩, xc_93, by decide⟩
def f10_init (lim : Nat × Nat) (v0 : Nat) (σ : xS) : Option xS :=
  (c_newa lim σ 13 (600 : Int32) fun σ1 =>
(c_putr σ1 v0 0 σ.1 10 fun σ2 =>
(c_ret lim σ2)))
set_option maxHeartbeats 4000000 in
set_option maxRecDepth 100000 in
theorem l_f10_init (G : xG) (base d : Nat) (hd : 1 ≤ d) (lim : Nat × Nat) (v0 : Nat) (σ : xS) : Kx G base m10_init d lim [.ref v0] σ (f10_init lim v0 σ) := by
  refine kx_enter ok10_init rfl [some (.ref v0)] rfl (Nat.le_of_ble_eq_true rfl) ?_
  unfold f10_init
  refine cx_blk (pc' := 1) (L' := [some (.ref v0)]) (st' := [.ref v0]) [.aload_n 0] (by decide +kernel) rfl rfl ?_
  refine cx_obj (by omega) xc_146 xc_116 xc_117 (Nat.le_of_ble_eq_true rfl) (by decide +kernel) ?_
  refine cx_blk (pc' := 8) (L' := [some (.ref v0)]) (st' := [.int (600 : Int32), .ref v0]) [.aload_n 0, .sipush 600] (by decide +kernel) rfl rfl ?_
  refine cx_newi xc_140 (by decide +kernel) (fun σ1 => ?_)
  refine cx_putr ffc_10_9 rfl rfl tyX10_ok nmX10 rfl (tyX10_ok 0 (by decide)) (fun _ => ⟨rfl, rfl⟩) (by decide +kernel) (fun σ2 => ?_)
  exact cx_vret rfl (by decide +kernel)
def m11_init : xM := (yX11_init, cX11_init, 1, none)
theorem ok11_init : x_ok m11_init := ⟨xc_114, by decide +kernel, ⟨by decide +kernel, by decide +kernel⟩, xc_91, by decide⟩
def f11_init (lim : Nat × Nat) (v0 : Nat) (σ : xS) : Option xS :=
  (c_new lim σ 8 4 fun σ1 =>
(c_call 12 352 lim σ1 (fun lim1 => f8_init lim1 σ.1 σ1) fun σ2 =>
(c_putr σ2 v0 0 σ.1 11 fun σ3 =>
(c_new lim σ3 10 6 fun σ4 =>
(c_call 1 600 lim σ4 (fun lim1 => f10_init lim1 σ3.1 σ4) fun σ5 =>
(c_putr σ5 v0 1 σ3.1 11 fun σ6 =>
(c_new lim σ6 4 13 fun σ7 =>
(c_call 109 744 lim σ7 (fun lim1 => f4_init lim1 σ6.1 σ7) fun σ8 =>
(c_putr σ8 v0 2 σ6.1 11 fun σ9 =>
(c_new lim σ9 5 5 fun σ10 =>
(c_getr σ10 v0 1 11 fun r11 =>
(c_getr σ10 v0 2 11 fun r12 =>
(c_call 0 0 lim σ10 (fun lim1 => f5_init lim1 σ9.1 r11 r12 σ10) fun σ13 =>
(c_putr σ13 v0 3 σ9.1 11 fun σ14 =>
(c_new lim σ14 2 6 fun σ15 =>
(c_getr σ15 v0 2 11 fun r16 =>
(c_call 3 36 lim σ15 (fun lim1 => f2_init lim1 σ14.1 r16 σ15) fun σ17 =>
(c_putr σ17 v0 4 σ14.1 11 fun σ18 =>
(c_new lim σ18 6 5 fun σ19 =>
(c_getr σ19 v0 2 11 fun r20 =>
(c_getr σ19 v0 4 11 fun r21 =>
(c_call 2 32 lim σ19 (fun lim1 => f6_init lim1 σ18.1 r20 r21 σ19) fun σ22 =>
(c_putr σ22 v0 5 σ18.1 11 fun σ23 =>
(c_newa lim σ23 13 (24 : Int32) fun σ24 =>
(c_putr σ24 v0 6 σ23.1 11 fun σ25 =>
(c_new lim σ25 7 9 fun σ26 =>
(c_getr σ26 v0 2 11 fun r27 =>
(c_getr σ26 v0 4 11 fun r28 =>
(c_getr σ26 v0 5 11 fun r29 =>
(c_call 10 202 lim σ26 (fun lim1 => f7_init lim1 σ25.1 r27 r28 r29 σ26) fun σ30 =>
(c_putr σ30 v0 7 σ25.1 11 fun σ31 =>
(c_new lim σ31 9 5 fun σ32 =>
(c_getr σ32 v0 2 11 fun r33 =>
(c_getr σ32 v0 4 11 fun r34 =>
(c_new lim σ32 7 9 fun σ35 =>
(c_getr σ35 v0 2 11 fun r36 =>
(c_getr σ35 v0 4 11 fun r37 =>
(c_getr σ35 v0 5 11 fun r38 =>
(c_call 10 202 lim σ35 (fun lim1 => f7_init lim1 σ32.1 r36 r37 r38 σ35) fun σ39 =>
(c_call 2 260 lim σ39 (fun lim1 => f9_init lim1 σ31.1 r33 r34 σ32.1 σ39) fun σ40 =>
(c_putr σ40 v0 8 σ31.1 11 fun σ41 =>
(c_new lim σ41 0 4 fun σ42 =>
(c_getr σ42 v0 2 11 fun r43 =>
(c_getr σ42 v0 4 11 fun r44 =>
(c_call 1 16 lim σ42 (fun lim1 => f0_init lim1 σ41.1 r43 r44 σ42) fun σ45 =>
(c_putr σ45 v0 9 σ41.1 11 fun σ46 =>
(c_ret lim σ46)))))))))))))))))))))))))))))))))))))))))))))))
set_option maxHeartbeats 4000000 in
set_option maxRecDepth 100000 in
theorem l_f11_init (G : xG) (base d : Nat) (hd : 3 ≤ d) (lim : Nat × Nat) (v0 : Nat) (σ : xS) : Kx G base m11_init d lim [.ref v0] σ (f11_init lim v0 σ) := by
  refine kx_enter ok11_init rfl [some (.ref v0)] rfl (Nat.le_of_ble_eq_true rfl) ?_
  unfold f11_init
  refine cx_blk (pc' := 1) (L' := [some (.ref v0)]) (st' := [.ref v0]) [.aload_n 0] (by decide +kernel) rfl rfl ?_
  refine cx_obj (by omega) xc_115 xc_116 xc_117 (Nat.le_of_ble_eq_true rfl) (by decide +kernel) ?_
  refine cx_blk (pc' := 5) (L' := [some (.ref v0)]) (st' := [.ref v0]) [.aload_n 0] (by decide +kernel) rfl rfl ?_
  refine cx_new (ci := 8) (ty0 := tyX8) rfl (by decide) cin_8 tyX8_ok (by decide +kernel) xc_118 xc_119 xc_92 (by decide +kernel) (fun σ1 => ?_)
  refine cx_blk (pc' := 9) (L' := [some (.ref v0)]) (st' := [.ref σ.1, .ref σ.1, .ref v0]) [.dup] (by decide +kernel) rfl rfl ?_
  refine cx_call (M' := m8_init) (d1 := 1) (n := 0) (As := []) (rest := [.ref σ.1, .ref v0]) (by omega) (fun s args hts hO => ⟨Or.inr ⟨_, hO.2.2.2.1⟩, xc_121, rfl, by decide +kernel, ok8_init, rfl⟩) rfl (Nat.le_of_ble_eq_true rfl) (fun lim1 => l_f8_init G base 1 (by omega) lim1 σ.1 σ1) rfl (by decide +kernel) (fun σ2 => ?_)
  refine cx_putr ffc_11_10 rfl rfl tyX11_ok nmX11 rfl (tyX11_ok 0 (by decide)) (fun _ => ⟨rfl, rfl⟩) (by decide +kernel) (fun σ3 => ?_)
  refine cx_blk (pc' := 16) (L' := [some (.ref v0)]) (st' := [.ref v0]) [.aload_n 0] (by decide +kernel) rfl rfl ?_
  refine cx_new (ci := 10) (ty0 := tyX10) rfl (by decide) cin_10 tyX10_ok (by decide +kernel) xc_141 xc_142 xc_93 (by decide +kernel) (fun σ4 => ?_)
  refine cx_blk (pc' := 20) (L' := [some (.ref v0)]) (st' := [.ref σ3.1, .ref σ3.1, .ref v0]) [.dup] (by decide +kernel) rfl rfl ?_
  refine cx_call (M' := m10_init) (d1 := 1) (n := 0) (As := []) (rest := [.ref σ3.1, .ref v0]) (by omega) (fun s args hts hO => ⟨Or.inr ⟨_, hO.2.2.2.2.1⟩, xc_144, rfl, by decide +kernel, ok10_init, rfl⟩) rfl (Nat.le_of_ble_eq_true rfl) (fun lim1 => l_f10_init G base 1 (by omega) lim1 σ3.1 σ4) rfl (by decide +kernel) (fun σ5 => ?_)
  refine cx_putr ffc_11_19 rfl rfl tyX11_ok nmX11 rfl (tyX11_ok 1 (by decide)) (fun _ => ⟨rfl, rfl⟩) (by decide +kernel) (fun σ6 => ?_)
  refine cx_blk (pc' := 27) (L' := [some (.ref v0)]) (st' := [.ref v0]) [.aload_n 0] (by decide +kernel) rfl rfl ?_
  refine cx_new (ci := 4) (ty0 := tyX4) rfl (by decide) cin_4 tyX4_ok (by decide +kernel) xc_166 xc_167 xc_94 (by decide +kernel) (fun σ7 => ?_)
  refine cx_blk (pc' := 31) (L' := [some (.ref v0)]) (st' := [.ref σ6.1, .ref σ6.1, .ref v0]) [.dup] (by decide +kernel) rfl rfl ?_
  refine cx_call (M' := m4_init) (d1 := 2) (n := 0) (As := []) (rest := [.ref σ6.1, .ref v0]) (by omega) (fun s args hts hO => ⟨Or.inl (hts _ xc_168), xc_169, rfl, by decide +kernel, ok4_init, rfl⟩) rfl (Nat.le_of_ble_eq_true rfl) (fun lim1 => l_f4_init G base 2 (by omega) lim1 σ6.1 σ7) rfl (by decide +kernel) (fun σ8 => ?_)
  refine cx_putr ffc_11_26 rfl rfl tyX11_ok nmX11 rfl (tyX11_ok 2 (by decide)) (fun _ => ⟨rfl, rfl⟩) (by decide +kernel) (fun σ9 => ?_)
  refine cx_blk (pc' := 38) (L' := [some (.ref v0)]) (st' := [.ref v0]) [.aload_n 0] (by decide +kernel) rfl rfl ?_
  refine cx_new (ci := 5) (ty0 := tyX5) rfl (by decide) cin_5 tyX5_ok (by decide +kernel) xc_324 xc_325 xc_97 (by decide +kernel) (fun σ10 => ?_)
  refine cx_blk (pc' := 43) (L' := [some (.ref v0)]) (st' := [.ref v0, .ref σ9.1, .ref σ9.1, .ref v0]) [.dup, .aload_n 0] (by decide +kernel) rfl rfl ?_
  refine cx_getr ffc_11_19 rfl (by decide +kernel) (fun r11 => ?_)
  refine cx_blk (pc' := 47) (L' := [some (.ref v0)]) (st' := [.ref v0, .ref r11, .ref σ9.1, .ref σ9.1, .ref v0]) [.aload_n 0] (by decide +kernel) rfl rfl ?_
  refine cx_getr ffc_11_26 rfl (by decide +kernel) (fun r12 => ?_)
  refine cx_call (M' := m5_init) (d1 := 1) (n := 2) (As := [.ref r11, .ref r12]) (rest := [.ref σ9.1, .ref v0]) (by omega) (fun s args hts hO => ⟨Or.inl (hts _ xc_326), xc_327, rfl, by decide +kernel, ok5_init, rfl⟩) rfl (Nat.le_of_ble_eq_true rfl) (fun lim1 => l_f5_init G base 1 (by omega) lim1 σ9.1 r11 r12 σ10) rfl (by decide +kernel) (fun σ13 => ?_)
  refine cx_putr ffc_11_35 rfl rfl tyX11_ok nmX11 rfl (tyX11_ok 3 (by decide)) (fun _ => ⟨rfl, rfl⟩) (by decide +kernel) (fun σ14 => ?_)
  refine cx_blk (pc' := 57) (L' := [some (.ref v0)]) (st' := [.ref v0]) [.aload_n 0] (by decide +kernel) rfl rfl ?_
  refine cx_new (ci := 2) (ty0 := tyX2) rfl (by decide) cin_2 tyX2_ok (by decide +kernel) xc_346 xc_347 xc_98 (by decide +kernel) (fun σ15 => ?_)
  refine cx_blk (pc' := 62) (L' := [some (.ref v0)]) (st' := [.ref v0, .ref σ14.1, .ref σ14.1, .ref v0]) [.dup, .aload_n 0] (by decide +kernel) rfl rfl ?_
  refine cx_getr ffc_11_26 rfl (by decide +kernel) (fun r16 => ?_)
  refine cx_call (M' := m2_init) (d1 := 1) (n := 1) (As := [.ref r16]) (rest := [.ref σ14.1, .ref v0]) (by omega) (fun s args hts hO => ⟨Or.inl (hts _ xc_348), xc_349, rfl, by decide +kernel, ok2_init, rfl⟩) rfl (Nat.le_of_ble_eq_true rfl) (fun lim1 => l_f2_init G base 1 (by omega) lim1 σ14.1 r16 σ15) rfl (by decide +kernel) (fun σ17 => ?_)
  refine cx_putr ffc_11_44 rfl rfl tyX11_ok nmX11 rfl (tyX11_ok 4 (by decide)) (fun _ => ⟨rfl, rfl⟩) (by decide +kernel) (fun σ18 => ?_)
  refine cx_blk (pc' := 72) (L' := [some (.ref v0)]) (st' := [.ref v0]) [.aload_n 0] (by decide +kernel) rfl rfl ?_
  refine cx_new (ci := 6) (ty0 := tyX6) rfl (by decide) cin_6 tyX6_ok (by decide +kernel) xc_371 xc_372 xc_99 (by decide +kernel) (fun σ19 => ?_)
  refine cx_blk (pc' := 77) (L' := [some (.ref v0)]) (st' := [.ref v0, .ref σ18.1, .ref σ18.1, .ref v0]) [.dup, .aload_n 0] (by decide +kernel) rfl rfl ?_
  refine cx_getr ffc_11_26 rfl (by decide +kernel) (fun r20 => ?_)
  refine cx_blk (pc' := 81) (L' := [some (.ref v0)]) (st' := [.ref v0, .ref r20, .ref σ18.1, .ref σ18.1, .ref v0]) [.aload_n 0] (by decide +kernel) rfl rfl ?_
  refine cx_getr ffc_11_44 rfl (by decide +kernel) (fun r21 => ?_)
  refine cx_call (M' := m6_init) (d1 := 1) (n := 2) (As := [.ref r20, .ref r21]) (rest := [.ref σ18.1, .ref v0]) (by omega) (fun s args hts hO => ⟨Or.inl (hts _ xc_373), xc_374, rfl, by decide +kernel, ok6_init, rfl⟩) rfl (Nat.le_of_ble_eq_true rfl) (fun lim1 => l_f6_init G base 1 (by omega) lim1 σ18.1 r20 r21 σ19) rfl (by decide +kernel) (fun σ22 => ?_)
  refine cx_putr ffc_11_53 rfl rfl tyX11_ok nmX11 rfl (tyX11_ok 5 (by decide)) (fun _ => ⟨rfl, rfl⟩) (by decide +kernel) (fun σ23 => ?_)
  refine cx_blk (pc' := 93) (L' := [some (.ref v0)]) (st' := [.int (24 : Int32), .ref v0]) [.aload_n 0, .bipush 24] (by decide +kernel) rfl rfl ?_
  refine cx_newi xc_140 (by decide +kernel) (fun σ24 => ?_)
  refine cx_putr ffc_11_57 rfl rfl tyX11_ok nmX11 rfl (tyX11_ok 6 (by decide)) (fun _ => ⟨rfl, rfl⟩) (by decide +kernel) (fun σ25 => ?_)
  refine cx_blk (pc' := 99) (L' := [some (.ref v0)]) (st' := [.ref v0]) [.aload_n 0] (by decide +kernel) rfl rfl ?_
  refine cx_new (ci := 7) (ty0 := tyX7) rfl (by decide) cin_7 tyX7_ok (by decide +kernel) xc_393 xc_394 xc_100 (by decide +kernel) (fun σ26 => ?_)
  refine cx_blk (pc' := 104) (L' := [some (.ref v0)]) (st' := [.ref v0, .ref σ25.1, .ref σ25.1, .ref v0]) [.dup, .aload_n 0] (by decide +kernel) rfl rfl ?_
  refine cx_getr ffc_11_26 rfl (by decide +kernel) (fun r27 => ?_)
  refine cx_blk (pc' := 108) (L' := [some (.ref v0)]) (st' := [.ref v0, .ref r27, .ref σ25.1, .ref σ25.1, .ref v0]) [.aload_n 0] (by decide +kernel) rfl rfl ?_
  refine cx_getr ffc_11_44 rfl (by decide +kernel) (fun r28 => ?_)
  refine cx_blk (pc' := 112) (L' := [some (.ref v0)]) (st' := [.ref v0, .ref r28, .ref r27, .ref σ25.1, .ref σ25.1, .ref v0]) [.aload_n 0] (by decide +kernel) rfl rfl ?_
  refine cx_getr ffc_11_53 rfl (by decide +kernel) (fun r29 => ?_)
  refine cx_call (M' := m7_init) (d1 := 1) (n := 3) (As := [.ref r27, .ref r28, .ref r29]) (rest := [.ref σ25.1, .ref v0]) (by omega) (fun s args hts hO => ⟨Or.inl (hts _ xc_395), xc_396, rfl, by decide +kernel, ok7_init, rfl⟩) rfl (Nat.le_of_ble_eq_true rfl) (fun lim1 => l_f7_init G base 1 (by omega) lim1 σ25.1 r27 r28 r29 σ26) rfl (by decide +kernel) (fun σ30 => ?_)
  refine cx_putr ffc_11_66 rfl rfl tyX11_ok nmX11 rfl (tyX11_ok 7 (by decide)) (fun _ => ⟨rfl, rfl⟩) (by decide +kernel) (fun σ31 => ?_)
  refine cx_blk (pc' := 122) (L' := [some (.ref v0)]) (st' := [.ref v0]) [.aload_n 0] (by decide +kernel) rfl rfl ?_
  refine cx_new (ci := 9) (ty0 := tyX9) rfl (by decide) cin_9 tyX9_ok (by decide +kernel) xc_428 xc_429 xc_101 (by decide +kernel) (fun σ32 => ?_)
  refine cx_blk (pc' := 127) (L' := [some (.ref v0)]) (st' := [.ref v0, .ref σ31.1, .ref σ31.1, .ref v0]) [.dup, .aload_n 0] (by decide +kernel) rfl rfl ?_
  refine cx_getr ffc_11_26 rfl (by decide +kernel) (fun r33 => ?_)
  refine cx_blk (pc' := 131) (L' := [some (.ref v0)]) (st' := [.ref v0, .ref r33, .ref σ31.1, .ref σ31.1, .ref v0]) [.aload_n 0] (by decide +kernel) rfl rfl ?_
  refine cx_getr ffc_11_44 rfl (by decide +kernel) (fun r34 => ?_)
  refine cx_new (ci := 7) (ty0 := tyX7) rfl (by decide) cin_7 tyX7_ok (by decide +kernel) xc_393 xc_394 xc_100 (by decide +kernel) (fun σ35 => ?_)
  refine cx_blk (pc' := 139) (L' := [some (.ref v0)]) (st' := [.ref v0, .ref σ32.1, .ref σ32.1, .ref r34, .ref r33, .ref σ31.1, .ref σ31.1, .ref v0]) [.dup, .aload_n 0] (by decide +kernel) rfl rfl ?_
  refine cx_getr ffc_11_26 rfl (by decide +kernel) (fun r36 => ?_)
  refine cx_blk (pc' := 143) (L' := [some (.ref v0)]) (st' := [.ref v0, .ref r36, .ref σ32.1, .ref σ32.1, .ref r34, .ref r33, .ref σ31.1, .ref σ31.1, .ref v0]) [.aload_n 0] (by decide +kernel) rfl rfl ?_
  refine cx_getr ffc_11_44 rfl (by decide +kernel) (fun r37 => ?_)
  refine cx_blk (pc' := 147) (L' := [some (.ref v0)]) (st' := [.ref v0, .ref r37, .ref r36, .ref σ32.1, .ref σ32.1, .ref r34, .ref r33, .ref σ31.1, .ref σ31.1, .ref v0]) [.aload_n 0] (by decide +kernel) rfl rfl ?_
  refine cx_getr ffc_11_53 rfl (by decide +kernel) (fun r38 => ?_)
  refine cx_call (M' := m7_init) (d1 := 1) (n := 3) (As := [.ref r36, .ref r37, .ref r38]) (rest := [.ref σ32.1, .ref r34, .ref r33, .ref σ31.1, .ref σ31.1, .ref v0]) (by omega) (fun s args hts hO => ⟨Or.inl (hts _ xc_395), xc_396, rfl, by decide +kernel, ok7_init, rfl⟩) rfl (Nat.le_of_ble_eq_true rfl) (fun lim1 => l_f7_init G base 1 (by omega) lim1 σ32.1 r36 r37 r38 σ35) rfl (by decide +kernel) (fun σ39 => ?_)
  refine cx_call (M' := m9_init) (d1 := 1) (n := 3) (As := [.ref r33, .ref r34, .ref σ32.1]) (rest := [.ref σ31.1, .ref v0]) (by omega) (fun s args hts hO => ⟨Or.inl (hts _ xc_430), xc_431, rfl, by decide +kernel, ok9_init, rfl⟩) rfl (Nat.le_of_ble_eq_true rfl) (fun lim1 => l_f9_init G base 1 (by omega) lim1 σ31.1 r33 r34 σ32.1 σ39) rfl (by decide +kernel) (fun σ40 => ?_)
  refine cx_putr ffc_11_75 rfl rfl tyX11_ok nmX11 rfl (tyX11_ok 8 (by decide)) (fun _ => ⟨rfl, rfl⟩) (by decide +kernel) (fun σ41 => ?_)
  refine cx_blk (pc' := 160) (L' := [some (.ref v0)]) (st' := [.ref v0]) [.aload_n 0] (by decide +kernel) rfl rfl ?_
  refine cx_new (ci := 0) (ty0 := tyX0) rfl (by decide) cin_0 tyX0_ok (by decide +kernel) xc_450 xc_451 xc_102 (by decide +kernel) (fun σ42 => ?_)
  refine cx_blk (pc' := 165) (L' := [some (.ref v0)]) (st' := [.ref v0, .ref σ41.1, .ref σ41.1, .ref v0]) [.dup, .aload_n 0] (by decide +kernel) rfl rfl ?_
  refine cx_getr ffc_11_26 rfl (by decide +kernel) (fun r43 => ?_)
  refine cx_blk (pc' := 169) (L' := [some (.ref v0)]) (st' := [.ref v0, .ref r43, .ref σ41.1, .ref σ41.1, .ref v0]) [.aload_n 0] (by decide +kernel) rfl rfl ?_
  refine cx_getr ffc_11_44 rfl (by decide +kernel) (fun r44 => ?_)
  refine cx_call (M' := m0_init) (d1 := 1) (n := 2) (As := [.ref r43, .ref r44]) (rest := [.ref σ41.1, .ref v0]) (by omega) (fun s args hts hO => ⟨Or.inl (hts _ xc_452), xc_453, rfl, by decide +kernel, ok0_init, rfl⟩) rfl (Nat.le_of_ble_eq_true rfl) (fun lim1 => l_f0_init G base 1 (by omega) lim1 σ41.1 r43 r44 σ42) rfl (by decide +kernel) (fun σ45 => ?_)
  refine cx_putr ffc_11_82 rfl rfl tyX11_ok nmX11 rfl (tyX11_ok 9 (by decide)) (fun _ => ⟨rfl, rfl⟩) (by decide +kernel) (fun σ46 => ?_)
  exact cx_vret rfl (by decide +kernel)
def m12_init : xM := (yX12_init, cX12_init, 1, none)
theorem ok12_init : x_ok m12_init := ⟨xc_1163, by decide +kernel, ⟨by decide +kernel, by decide +kernel⟩, xc_103, by decide⟩
def f12_init (lim : Nat × Nat) (v0 : Nat) (σ : xS) : Option xS :=
  (c_newa lim σ 13 (8 : Int32) fun σ1 =>
(c_iast σ1 σ.1 (0 : Int32) (-1 : Int32) fun σ2 =>
(c_iast σ2 σ.1 (1 : Int32) (-1 : Int32) fun σ3 =>
(c_iast σ3 σ.1 (2 : Int32) (-1 : Int32) fun σ4 =>
(c_iast σ4 σ.1 (3 : Int32) (-1 : Int32) fun σ5 =>
(c_iast σ5 σ.1 (4 : Int32) (-1 : Int32) fun σ6 =>
(c_iast σ6 σ.1 (5 : Int32) (-1 : Int32) fun σ7 =>
(c_iast σ7 σ.1 (6 : Int32) (-1 : Int32) fun σ8 =>
(c_iast σ8 σ.1 (7 : Int32) (-1 : Int32) fun σ9 =>
(c_putr σ9 v0 2 σ.1 12 fun σ10 =>
(c_newa lim σ10 13 (8 : Int32) fun σ11 =>
(c_putr σ11 v0 3 σ10.1 12 fun σ12 =>
(c_newa lim σ12 13 (320 : Int32) fun σ13 =>
(c_putr σ13 v0 4 σ12.1 12 fun σ14 =>
(c_newa lim σ14 13 (8 : Int32) fun σ15 =>
(c_putr σ15 v0 6 σ14.1 12 fun σ16 =>
(c_newa lim σ16 13 (8 : Int32) fun σ17 =>
(c_putr σ17 v0 8 σ16.1 12 fun σ18 =>
(c_newa lim σ18 13 (8 : Int32) fun σ19 =>
(c_putr σ19 v0 9 σ18.1 12 fun σ20 =>
(c_newa lim σ20 13 (8 : Int32) fun σ21 =>
(c_putr σ21 v0 11 σ20.1 12 fun σ22 =>
(c_newa lim σ22 13 (8 : Int32) fun σ23 =>
(c_putr σ23 v0 12 σ22.1 12 fun σ24 =>
(c_newa lim σ24 13 (8 : Int32) fun σ25 =>
(c_putr σ25 v0 13 σ24.1 12 fun σ26 =>
(c_newa lim σ26 13 (8 : Int32) fun σ27 =>
(c_putr σ27 v0 14 σ26.1 12 fun σ28 =>
(c_newa lim σ28 13 (8 : Int32) fun σ29 =>
(c_putr σ29 v0 15 σ28.1 12 fun σ30 =>
(c_newa lim σ30 13 (8 : Int32) fun σ31 =>
(c_putr σ31 v0 16 σ30.1 12 fun σ32 =>
(c_newa lim σ32 13 (8 : Int32) fun σ33 =>
(c_putr σ33 v0 17 σ32.1 12 fun σ34 =>
(c_newa lim σ34 13 (24 : Int32) fun σ35 =>
(c_putr σ35 v0 19 σ34.1 12 fun σ36 =>
(c_newa lim σ36 13 (24 : Int32) fun σ37 =>
(c_putr σ37 v0 20 σ36.1 12 fun σ38 =>
(c_newa lim σ38 13 (24 : Int32) fun σ39 =>
(c_putr σ39 v0 21 σ38.1 12 fun σ40 =>
(c_newa lim σ40 13 (24 : Int32) fun σ41 =>
(c_putr σ41 v0 22 σ40.1 12 fun σ42 =>
(c_newa lim σ42 13 (24 : Int32) fun σ43 =>
(c_putr σ43 v0 23 σ42.1 12 fun σ44 =>
(c_newa lim σ44 13 (432 : Int32) fun σ45 =>
(c_putr σ45 v0 24 σ44.1 12 fun σ46 =>
(c_newa lim σ46 13 (600 : Int32) fun σ47 =>
(c_putr σ47 v0 25 σ46.1 12 fun σ48 =>
(c_newa lim σ48 13 (4 : Int32) fun σ49 =>
(c_putr σ49 v0 39 σ48.1 12 fun σ50 =>
(c_newa lim σ50 13 (4 : Int32) fun σ51 =>
(c_putr σ51 v0 40 σ50.1 12 fun σ52 =>
(c_newa lim σ52 13 (16 : Int32) fun σ53 =>
(c_putr σ53 v0 42 σ52.1 12 fun σ54 =>
(c_newa lim σ54 13 (16 : Int32) fun σ55 =>
(c_putr σ55 v0 43 σ54.1 12 fun σ56 =>
(c_newa lim σ56 13 (7 : Int32) fun σ57 =>
(c_putr σ57 v0 45 σ56.1 12 fun σ58 =>
(c_newa lim σ58 13 (168 : Int32) fun σ59 =>
(c_putr σ59 v0 46 σ58.1 12 fun σ60 =>
(c_newa lim σ60 13 (7 : Int32) fun σ61 =>
(c_putr σ61 v0 47 σ60.1 12 fun σ62 =>
(c_newa lim σ62 13 (61 : Int32) fun σ63 =>
(c_putr σ63 v0 49 σ62.1 12 fun σ64 =>
(c_newa lim σ64 13 (61 : Int32) fun σ65 =>
(c_putr σ65 v0 50 σ64.1 12 fun σ66 =>
(c_newa lim σ66 13 (61 : Int32) fun σ67 =>
(c_putr σ67 v0 51 σ66.1 12 fun σ68 =>
(c_newa lim σ68 13 (61 : Int32) fun σ69 =>
(c_putr σ69 v0 52 σ68.1 12 fun σ70 =>
(c_newa lim σ70 13 (61 : Int32) fun σ71 =>
(c_putr σ71 v0 53 σ70.1 12 fun σ72 =>
(c_newa lim σ72 13 (61 : Int32) fun σ73 =>
(c_putr σ73 v0 54 σ72.1 12 fun σ74 =>
(c_newa lim σ74 13 (61 : Int32) fun σ75 =>
(c_putr σ75 v0 55 σ74.1 12 fun σ76 =>
(c_newa lim σ76 14 (61 : Int32) fun σ77 =>
(c_putr σ77 v0 56 σ76.1 12 fun σ78 =>
(c_newa lim σ78 13 (40 : Int32) fun σ79 =>
(c_putr σ79 v0 58 σ78.1 12 fun σ80 =>
(c_newa lim σ80 13 (40 : Int32) fun σ81 =>
(c_putr σ81 v0 66 σ80.1 12 fun σ82 =>
(c_newa lim σ82 13 (4 : Int32) fun σ83 =>
(c_putr σ83 v0 67 σ82.1 12 fun σ84 =>
(c_newa lim σ84 14 (256 : Int32) fun σ85 =>
(c_putr σ85 v0 69 σ84.1 12 fun σ86 =>
(c_newa lim σ86 13 (16 : Int32) fun σ87 =>
(c_putr σ87 v0 70 σ86.1 12 fun σ88 =>
(c_ret lim σ88)))))))))))))))))))))))))))))))))))))))))))))))))))))))))))))))))))))))))))))))))))))))))
set_option maxHeartbeats 4000000 in
set_option maxRecDepth 100000 in
theorem l_f12_init (G : xG) (base d : Nat) (hd : 1 ≤ d) (lim : Nat × Nat) (v0 : Nat) (σ : xS) : Kx G base m12_init d lim [.ref v0] σ (f12_init lim v0 σ) := by
  refine kx_enter ok12_init rfl [some (.ref v0)] rfl (Nat.le_of_ble_eq_true rfl) ?_
  unfold f12_init
  refine cx_blk (pc' := 1) (L' := [some (.ref v0)]) (st' := [.ref v0]) [.aload_n 0] (by decide +kernel) rfl rfl ?_
  refine cx_obj (by omega) xc_1164 xc_116 xc_117 (Nat.le_of_ble_eq_true rfl) (by decide +kernel) ?_
  refine cx_blk (pc' := 7) (L' := [some (.ref v0)]) (st' := [.int (8 : Int32), .ref v0]) [.aload_n 0, .bipush 8] (by decide +kernel) rfl rfl ?_
  refine cx_newi xc_140 (by decide +kernel) (fun σ1 => ?_)
  refine cx_blk (pc' := 12) (L' := [some (.ref v0)]) (st' := [.int (-1 : Int32), .int (0 : Int32), .ref σ.1, .ref σ.1, .ref v0]) [.dup, .iconst 0, .iconst (-1)] (by decide +kernel) rfl rfl ?_
  refine cx_iast (by decide +kernel) (fun σ2 => ?_)
  refine cx_blk (pc' := 16) (L' := [some (.ref v0)]) (st' := [.int (-1 : Int32), .int (1 : Int32), .ref σ.1, .ref σ.1, .ref v0]) [.dup, .iconst 1, .iconst (-1)] (by decide +kernel) rfl rfl ?_
  refine cx_iast (by decide +kernel) (fun σ3 => ?_)
  refine cx_blk (pc' := 20) (L' := [some (.ref v0)]) (st' := [.int (-1 : Int32), .int (2 : Int32), .ref σ.1, .ref σ.1, .ref v0]) [.dup, .iconst 2, .iconst (-1)] (by decide +kernel) rfl rfl ?_
  refine cx_iast (by decide +kernel) (fun σ4 => ?_)
  refine cx_blk (pc' := 24) (L' := [some (.ref v0)]) (st' := [.int (-1 : Int32), .int (3 : Int32), .ref σ.1, .ref σ.1, .ref v0]) [.dup, .iconst 3, .iconst (-1)] (by decide +kernel) rfl rfl ?_
  refine cx_iast (by decide +kernel) (fun σ5 => ?_)
  refine cx_blk (pc' := 28) (L' := [some (.ref v0)]) (st' := [.int (-1 : Int32), .int (4 : Int32), .ref σ.1, .ref σ.1, .ref v0]) [.dup, .iconst 4, .iconst (-1)] (by decide +kernel) rfl rfl ?_
  refine cx_iast (by decide +kernel) (fun σ6 => ?_)
  refine cx_blk (pc' := 32) (L' := [some (.ref v0)]) (st' := [.int (-1 : Int32), .int (5 : Int32), .ref σ.1, .ref σ.1, .ref v0]) [.dup, .iconst 5, .iconst (-1)] (by decide +kernel) rfl rfl ?_
  refine cx_iast (by decide +kernel) (fun σ7 => ?_)
  refine cx_blk (pc' := 37) (L' := [some (.ref v0)]) (st' := [.int (-1 : Int32), .int (6 : Int32), .ref σ.1, .ref σ.1, .ref v0]) [.dup, .bipush 6, .iconst (-1)] (by decide +kernel) rfl rfl ?_
  refine cx_iast (by decide +kernel) (fun σ8 => ?_)
  refine cx_blk (pc' := 42) (L' := [some (.ref v0)]) (st' := [.int (-1 : Int32), .int (7 : Int32), .ref σ.1, .ref σ.1, .ref v0]) [.dup, .bipush 7, .iconst (-1)] (by decide +kernel) rfl rfl ?_
  refine cx_iast (by decide +kernel) (fun σ9 => ?_)
  refine cx_putr ffc_12_7 rfl rfl tyX12_ok nmX12 rfl (tyX12_ok 2 (by decide)) (fun _ => ⟨rfl, rfl⟩) (by decide +kernel) (fun σ10 => ?_)
  refine cx_blk (pc' := 49) (L' := [some (.ref v0)]) (st' := [.int (8 : Int32), .ref v0]) [.aload_n 0, .bipush 8] (by decide +kernel) rfl rfl ?_
  refine cx_newi xc_140 (by decide +kernel) (fun σ11 => ?_)
  refine cx_putr ffc_12_13 rfl rfl tyX12_ok nmX12 rfl (tyX12_ok 3 (by decide)) (fun _ => ⟨rfl, rfl⟩) (by decide +kernel) (fun σ12 => ?_)
  refine cx_blk (pc' := 58) (L' := [some (.ref v0)]) (st' := [.int (320 : Int32), .ref v0]) [.aload_n 0, .sipush 320] (by decide +kernel) rfl rfl ?_
  refine cx_newi xc_140 (by decide +kernel) (fun σ13 => ?_)
  refine cx_putr ffc_12_16 rfl rfl tyX12_ok nmX12 rfl (tyX12_ok 4 (by decide)) (fun _ => ⟨rfl, rfl⟩) (by decide +kernel) (fun σ14 => ?_)
  refine cx_blk (pc' := 66) (L' := [some (.ref v0)]) (st' := [.int (8 : Int32), .ref v0]) [.aload_n 0, .bipush 8] (by decide +kernel) rfl rfl ?_
  refine cx_newi xc_140 (by decide +kernel) (fun σ15 => ?_)
  refine cx_putr ffc_12_19 rfl rfl tyX12_ok nmX12 rfl (tyX12_ok 6 (by decide)) (fun _ => ⟨rfl, rfl⟩) (by decide +kernel) (fun σ16 => ?_)
  refine cx_blk (pc' := 74) (L' := [some (.ref v0)]) (st' := [.int (8 : Int32), .ref v0]) [.aload_n 0, .bipush 8] (by decide +kernel) rfl rfl ?_
  refine cx_newi xc_140 (by decide +kernel) (fun σ17 => ?_)
  refine cx_putr ffc_12_22 rfl rfl tyX12_ok nmX12 rfl (tyX12_ok 8 (by decide)) (fun _ => ⟨rfl, rfl⟩) (by decide +kernel) (fun σ18 => ?_)
  refine cx_blk (pc' := 82) (L' := [some (.ref v0)]) (st' := [.int (8 : Int32), .ref v0]) [.aload_n 0, .bipush 8] (by decide +kernel) rfl rfl ?_
  refine cx_newi xc_140 (by decide +kernel) (fun σ19 => ?_)
  refine cx_putr ffc_12_25 rfl rfl tyX12_ok nmX12 rfl (tyX12_ok 9 (by decide)) (fun _ => ⟨rfl, rfl⟩) (by decide +kernel) (fun σ20 => ?_)
  refine cx_blk (pc' := 90) (L' := [some (.ref v0)]) (st' := [.int (8 : Int32), .ref v0]) [.aload_n 0, .bipush 8] (by decide +kernel) rfl rfl ?_
  refine cx_newi xc_140 (by decide +kernel) (fun σ21 => ?_)
  refine cx_putr ffc_12_28 rfl rfl tyX12_ok nmX12 rfl (tyX12_ok 11 (by decide)) (fun _ => ⟨rfl, rfl⟩) (by decide +kernel) (fun σ22 => ?_)
  refine cx_blk (pc' := 98) (L' := [some (.ref v0)]) (st' := [.int (8 : Int32), .ref v0]) [.aload_n 0, .bipush 8] (by decide +kernel) rfl rfl ?_
  refine cx_newi xc_140 (by decide +kernel) (fun σ23 => ?_)
  refine cx_putr ffc_12_31 rfl rfl tyX12_ok nmX12 rfl (tyX12_ok 12 (by decide)) (fun _ => ⟨rfl, rfl⟩) (by decide +kernel) (fun σ24 => ?_)
  refine cx_blk (pc' := 106) (L' := [some (.ref v0)]) (st' := [.int (8 : Int32), .ref v0]) [.aload_n 0, .bipush 8] (by decide +kernel) rfl rfl ?_
  refine cx_newi xc_140 (by decide +kernel) (fun σ25 => ?_)
  refine cx_putr ffc_12_34 rfl rfl tyX12_ok nmX12 rfl (tyX12_ok 13 (by decide)) (fun _ => ⟨rfl, rfl⟩) (by decide +kernel) (fun σ26 => ?_)
  refine cx_blk (pc' := 114) (L' := [some (.ref v0)]) (st' := [.int (8 : Int32), .ref v0]) [.aload_n 0, .bipush 8] (by decide +kernel) rfl rfl ?_
  refine cx_newi xc_140 (by decide +kernel) (fun σ27 => ?_)
  refine cx_putr ffc_12_37 rfl rfl tyX12_ok nmX12 rfl (tyX12_ok 14 (by decide)) (fun _ => ⟨rfl, rfl⟩) (by decide +kernel) (fun σ28 => ?_)
  refine cx_blk (pc' := 122) (L' := [some (.ref v0)]) (st' := [.int (8 : Int32), .ref v0]) [.aload_n 0, .bipush 8] (by decide +kernel) rfl rfl ?_
  refine cx_newi xc_140 (by decide +kernel) (fun σ29 => ?_)
  refine cx_putr ffc_12_40 rfl rfl tyX12_ok nmX12 rfl (tyX12_ok 15 (by decide)) (fun _ => ⟨rfl, rfl⟩) (by decide +kernel) (fun σ30 => ?_)
  refine cx_blk (pc' := 130) (L' := [some (.ref v0)]) (st' := [.int (8 : Int32), .ref v0]) [.aload_n 0, .bipush 8] (by decide +kernel) rfl rfl ?_
  refine cx_newi xc_140 (by decide +kernel) (fun σ31 => ?_)
  refine cx_putr ffc_12_43 rfl rfl tyX12_ok nmX12 rfl (tyX12_ok 16 (by decide)) (fun _ => ⟨rfl, rfl⟩) (by decide +kernel) (fun σ32 => ?_)
  refine cx_blk (pc' := 138) (L' := [some (.ref v0)]) (st' := [.int (8 : Int32), .ref v0]) [.aload_n 0, .bipush 8] (by decide +kernel) rfl rfl ?_
  refine cx_newi xc_140 (by decide +kernel) (fun σ33 => ?_)
  refine cx_putr ffc_12_46 rfl rfl tyX12_ok nmX12 rfl (tyX12_ok 17 (by decide)) (fun _ => ⟨rfl, rfl⟩) (by decide +kernel) (fun σ34 => ?_)
  refine cx_blk (pc' := 146) (L' := [some (.ref v0)]) (st' := [.int (24 : Int32), .ref v0]) [.aload_n 0, .bipush 24] (by decide +kernel) rfl rfl ?_
  refine cx_newi xc_140 (by decide +kernel) (fun σ35 => ?_)
  refine cx_putr ffc_12_49 rfl rfl tyX12_ok nmX12 rfl (tyX12_ok 19 (by decide)) (fun _ => ⟨rfl, rfl⟩) (by decide +kernel) (fun σ36 => ?_)
  refine cx_blk (pc' := 154) (L' := [some (.ref v0)]) (st' := [.int (24 : Int32), .ref v0]) [.aload_n 0, .bipush 24] (by decide +kernel) rfl rfl ?_
  refine cx_newi xc_140 (by decide +kernel) (fun σ37 => ?_)
  refine cx_putr ffc_12_52 rfl rfl tyX12_ok nmX12 rfl (tyX12_ok 20 (by decide)) (fun _ => ⟨rfl, rfl⟩) (by decide +kernel) (fun σ38 => ?_)
  refine cx_blk (pc' := 162) (L' := [some (.ref v0)]) (st' := [.int (24 : Int32), .ref v0]) [.aload_n 0, .bipush 24] (by decide +kernel) rfl rfl ?_
  refine cx_newi xc_140 (by decide +kernel) (fun σ39 => ?_)
  refine cx_putr ffc_12_55 rfl rfl tyX12_ok nmX12 rfl (tyX12_ok 21 (by decide)) (fun _ => ⟨rfl, rfl⟩) (by decide +kernel) (fun σ40 => ?_)
  refine cx_blk (pc' := 170) (L' := [some (.ref v0)]) (st' := [.int (24 : Int32), .ref v0]) [.aload_n 0, .bipush 24] (by decide +kernel) rfl rfl ?_
  refine cx_newi xc_140 (by decide +kernel) (fun σ41 => ?_)
  refine cx_putr ffc_12_58 rfl rfl tyX12_ok nmX12 rfl (tyX12_ok 22 (by decide)) (fun _ => ⟨rfl, rfl⟩) (by decide +kernel) (fun σ42 => ?_)
  refine cx_blk (pc' := 178) (L' := [some (.ref v0)]) (st' := [.int (24 : Int32), .ref v0]) [.aload_n 0, .bipush 24] (by decide +kernel) rfl rfl ?_
  refine cx_newi xc_140 (by decide +kernel) (fun σ43 => ?_)
  refine cx_putr ffc_12_61 rfl rfl tyX12_ok nmX12 rfl (tyX12_ok 23 (by decide)) (fun _ => ⟨rfl, rfl⟩) (by decide +kernel) (fun σ44 => ?_)
  refine cx_blk (pc' := 187) (L' := [some (.ref v0)]) (st' := [.int (432 : Int32), .ref v0]) [.aload_n 0, .sipush 432] (by decide +kernel) rfl rfl ?_
  refine cx_newi xc_140 (by decide +kernel) (fun σ45 => ?_)
  refine cx_putr ffc_12_64 rfl rfl tyX12_ok nmX12 rfl (tyX12_ok 24 (by decide)) (fun _ => ⟨rfl, rfl⟩) (by decide +kernel) (fun σ46 => ?_)
  refine cx_blk (pc' := 196) (L' := [some (.ref v0)]) (st' := [.int (600 : Int32), .ref v0]) [.aload_n 0, .sipush 600] (by decide +kernel) rfl rfl ?_
  refine cx_newi xc_140 (by decide +kernel) (fun σ47 => ?_)
  refine cx_putr ffc_12_67 rfl rfl tyX12_ok nmX12 rfl (tyX12_ok 25 (by decide)) (fun _ => ⟨rfl, rfl⟩) (by decide +kernel) (fun σ48 => ?_)
  refine cx_blk (pc' := 203) (L' := [some (.ref v0)]) (st' := [.int (4 : Int32), .ref v0]) [.aload_n 0, .iconst 4] (by decide +kernel) rfl rfl ?_
  refine cx_newi xc_140 (by decide +kernel) (fun σ49 => ?_)
  refine cx_putr ffc_12_70 rfl rfl tyX12_ok nmX12 rfl (tyX12_ok 39 (by decide)) (fun _ => ⟨rfl, rfl⟩) (by decide +kernel) (fun σ50 => ?_)
  refine cx_blk (pc' := 210) (L' := [some (.ref v0)]) (st' := [.int (4 : Int32), .ref v0]) [.aload_n 0, .iconst 4] (by decide +kernel) rfl rfl ?_
  refine cx_newi xc_140 (by decide +kernel) (fun σ51 => ?_)
  refine cx_putr ffc_12_73 rfl rfl tyX12_ok nmX12 rfl (tyX12_ok 40 (by decide)) (fun _ => ⟨rfl, rfl⟩) (by decide +kernel) (fun σ52 => ?_)
  refine cx_blk (pc' := 218) (L' := [some (.ref v0)]) (st' := [.int (16 : Int32), .ref v0]) [.aload_n 0, .bipush 16] (by decide +kernel) rfl rfl ?_
  refine cx_newi xc_140 (by decide +kernel) (fun σ53 => ?_)
  refine cx_putr ffc_12_76 rfl rfl tyX12_ok nmX12 rfl (tyX12_ok 42 (by decide)) (fun _ => ⟨rfl, rfl⟩) (by decide +kernel) (fun σ54 => ?_)
  refine cx_blk (pc' := 226) (L' := [some (.ref v0)]) (st' := [.int (16 : Int32), .ref v0]) [.aload_n 0, .bipush 16] (by decide +kernel) rfl rfl ?_
  refine cx_newi xc_140 (by decide +kernel) (fun σ55 => ?_)
  refine cx_putr ffc_12_79 rfl rfl tyX12_ok nmX12 rfl (tyX12_ok 43 (by decide)) (fun _ => ⟨rfl, rfl⟩) (by decide +kernel) (fun σ56 => ?_)
  refine cx_blk (pc' := 234) (L' := [some (.ref v0)]) (st' := [.int (7 : Int32), .ref v0]) [.aload_n 0, .bipush 7] (by decide +kernel) rfl rfl ?_
  refine cx_newi xc_140 (by decide +kernel) (fun σ57 => ?_)
  refine cx_putr ffc_12_82 rfl rfl tyX12_ok nmX12 rfl (tyX12_ok 45 (by decide)) (fun _ => ⟨rfl, rfl⟩) (by decide +kernel) (fun σ58 => ?_)
  refine cx_blk (pc' := 243) (L' := [some (.ref v0)]) (st' := [.int (168 : Int32), .ref v0]) [.aload_n 0, .sipush 168] (by decide +kernel) rfl rfl ?_
  refine cx_newi xc_140 (by decide +kernel) (fun σ59 => ?_)
  refine cx_putr ffc_12_85 rfl rfl tyX12_ok nmX12 rfl (tyX12_ok 46 (by decide)) (fun _ => ⟨rfl, rfl⟩) (by decide +kernel) (fun σ60 => ?_)
  refine cx_blk (pc' := 251) (L' := [some (.ref v0)]) (st' := [.int (7 : Int32), .ref v0]) [.aload_n 0, .bipush 7] (by decide +kernel) rfl rfl ?_
  refine cx_newi xc_140 (by decide +kernel) (fun σ61 => ?_)
  refine cx_putr ffc_12_88 rfl rfl tyX12_ok nmX12 rfl (tyX12_ok 47 (by decide)) (fun _ => ⟨rfl, rfl⟩) (by decide +kernel) (fun σ62 => ?_)
  refine cx_blk (pc' := 259) (L' := [some (.ref v0)]) (st' := [.int (61 : Int32), .ref v0]) [.aload_n 0, .bipush 61] (by decide +kernel) rfl rfl ?_
  refine cx_newi xc_140 (by decide +kernel) (fun σ63 => ?_)
  refine cx_putr ffc_12_91 rfl rfl tyX12_ok nmX12 rfl (tyX12_ok 49 (by decide)) (fun _ => ⟨rfl, rfl⟩) (by decide +kernel) (fun σ64 => ?_)
  refine cx_blk (pc' := 267) (L' := [some (.ref v0)]) (st' := [.int (61 : Int32), .ref v0]) [.aload_n 0, .bipush 61] (by decide +kernel) rfl rfl ?_
  refine cx_newi xc_140 (by decide +kernel) (fun σ65 => ?_)
  refine cx_putr ffc_12_94 rfl rfl tyX12_ok nmX12 rfl (tyX12_ok 50 (by decide)) (fun _ => ⟨rfl, rfl⟩) (by decide +kernel) (fun σ66 => ?_)
  refine cx_blk (pc' := 275) (L' := [some (.ref v0)]) (st' := [.int (61 : Int32), .ref v0]) [.aload_n 0, .bipush 61] (by decide +kernel) rfl rfl ?_
  refine cx_newi xc_140 (by decide +kernel) (fun σ67 => ?_)
  refine cx_putr ffc_12_97 rfl rfl tyX12_ok nmX12 rfl (tyX12_ok 51 (by decide)) (fun _ => ⟨rfl, rfl⟩) (by decide +kernel) (fun σ68 => ?_)
  refine cx_blk (pc' := 283) (L' := [some (.ref v0)]) (st' := [.int (61 : Int32), .ref v0]) [.aload_n 0, .bipush 61] (by decide +kernel) rfl rfl ?_
  refine cx_newi xc_140 (by decide +kernel) (fun σ69 => ?_)
  refine cx_putr ffc_12_100 rfl rfl tyX12_ok nmX12 rfl (tyX12_ok 52 (by decide)) (fun _ => ⟨rfl, rfl⟩) (by decide +kernel) (fun σ70 => ?_)
  refine cx_blk (pc' := 291) (L' := [some (.ref v0)]) (st' := [.int (61 : Int32), .ref v0]) [.aload_n 0, .bipush 61] (by decide +kernel) rfl rfl ?_
  refine cx_newi xc_140 (by decide +kernel) (fun σ71 => ?_)
  refine cx_putr ffc_12_103 rfl rfl tyX12_ok nmX12 rfl (tyX12_ok 53 (by decide)) (fun _ => ⟨rfl, rfl⟩) (by decide +kernel) (fun σ72 => ?_)
  refine cx_blk (pc' := 299) (L' := [some (.ref v0)]) (st' := [.int (61 : Int32), .ref v0]) [.aload_n 0, .bipush 61] (by decide +kernel) rfl rfl ?_
  refine cx_newi xc_140 (by decide +kernel) (fun σ73 => ?_)
  refine cx_putr ffc_12_106 rfl rfl tyX12_ok nmX12 rfl (tyX12_ok 54 (by decide)) (fun _ => ⟨rfl, rfl⟩) (by decide +kernel) (fun σ74 => ?_)
  refine cx_blk (pc' := 307) (L' := [some (.ref v0)]) (st' := [.int (61 : Int32), .ref v0]) [.aload_n 0, .bipush 61] (by decide +kernel) rfl rfl ?_
  refine cx_newi xc_140 (by decide +kernel) (fun σ75 => ?_)
  refine cx_putr ffc_12_109 rfl rfl tyX12_ok nmX12 rfl (tyX12_ok 55 (by decide)) (fun _ => ⟨rfl, rfl⟩) (by decide +kernel) (fun σ76 => ?_)
  refine cx_blk (pc' := 315) (L' := [some (.ref v0)]) (st' := [.int (61 : Int32), .ref v0]) [.aload_n 0, .bipush 61] (by decide +kernel) rfl rfl ?_
  refine cx_newz xc_139 (by decide +kernel) (fun σ77 => ?_)
  refine cx_putr ffc_12_112 rfl rfl tyX12_ok nmX12 rfl (tyX12_ok 56 (by decide)) (fun _ => ⟨rfl, rfl⟩) (by decide +kernel) (fun σ78 => ?_)
  refine cx_blk (pc' := 323) (L' := [some (.ref v0)]) (st' := [.int (40 : Int32), .ref v0]) [.aload_n 0, .bipush 40] (by decide +kernel) rfl rfl ?_
  refine cx_newi xc_140 (by decide +kernel) (fun σ79 => ?_)
  refine cx_putr ffc_12_116 rfl rfl tyX12_ok nmX12 rfl (tyX12_ok 58 (by decide)) (fun _ => ⟨rfl, rfl⟩) (by decide +kernel) (fun σ80 => ?_)
  refine cx_blk (pc' := 331) (L' := [some (.ref v0)]) (st' := [.int (40 : Int32), .ref v0]) [.aload_n 0, .bipush 40] (by decide +kernel) rfl rfl ?_
  refine cx_newi xc_140 (by decide +kernel) (fun σ81 => ?_)
  refine cx_putr ffc_12_119 rfl rfl tyX12_ok nmX12 rfl (tyX12_ok 66 (by decide)) (fun _ => ⟨rfl, rfl⟩) (by decide +kernel) (fun σ82 => ?_)
  refine cx_blk (pc' := 338) (L' := [some (.ref v0)]) (st' := [.int (4 : Int32), .ref v0]) [.aload_n 0, .iconst 4] (by decide +kernel) rfl rfl ?_
  refine cx_newi xc_140 (by decide +kernel) (fun σ83 => ?_)
  refine cx_putr ffc_12_122 rfl rfl tyX12_ok nmX12 rfl (tyX12_ok 67 (by decide)) (fun _ => ⟨rfl, rfl⟩) (by decide +kernel) (fun σ84 => ?_)
  refine cx_blk (pc' := 347) (L' := [some (.ref v0)]) (st' := [.int (256 : Int32), .ref v0]) [.aload_n 0, .sipush 256] (by decide +kernel) rfl rfl ?_
  refine cx_newz xc_139 (by decide +kernel) (fun σ85 => ?_)
  refine cx_putr ffc_12_125 rfl rfl tyX12_ok nmX12 rfl (tyX12_ok 69 (by decide)) (fun _ => ⟨rfl, rfl⟩) (by decide +kernel) (fun σ86 => ?_)
  refine cx_blk (pc' := 355) (L' := [some (.ref v0)]) (st' := [.int (16 : Int32), .ref v0]) [.aload_n 0, .bipush 16] (by decide +kernel) rfl rfl ?_
  refine cx_newi xc_140 (by decide +kernel) (fun σ87 => ?_)
  refine cx_putr ffc_12_128 rfl rfl tyX12_ok nmX12 rfl (tyX12_ok 70 (by decide)) (fun _ => ⟨rfl, rfl⟩) (by decide +kernel) (fun σ88 => ?_)
  exact cx_vret rfl (by decide +kernel)
