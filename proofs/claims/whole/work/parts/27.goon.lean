/-! goOnTo, and the constructor, by program -/
theorem t_0 : (Cond.selects "CanoeSides" (⟨"CanoeSides", "goOnTo", "(LCanoeSides$River;)V"⟩ : MethodName) (⟨"CanoeSides", "goOnTo", "(LCanoeSides$River;)V"⟩ : MethodName)) ∈ TB := tb_of 0 (by decide +kernel) rfl
theorem t_109 : (Jvm.Cond.methodLink "CanoeSides" (1 : Nat) ({ cls := "java/lang/Object", name := "<init>", desc := "()V" } : Jvm.MethodName)) ∈ TB := tb_of 109 (by decide +kernel) rfl
theorem t_112 : (Jvm.Cond.classLink "CanoeSides" (20 : Nat) "CanoeSides$River") ∈ TB := tb_of 112 (by decide +kernel) rfl
theorem t_114 : (Jvm.Cond.methodLink "CanoeSides" (22 : Nat) ({ cls := "CanoeSides$River", name := "<init>", desc := "()V" } : Jvm.MethodName)) ∈ TB := tb_of 114 (by decide +kernel) rfl
theorem t_146 : (Jvm.Cond.fieldLinkNest "CanoeSides" (298 : Nat) "CanoeSides$River" "startSpot" "I" "CanoeSides") ∈ NB := nb_of 146 (by decide +kernel) rfl
theorem t_194 : (Jvm.Cond.classLink "CanoeSides" (27 : Nat) "CanoeSides$Waters") ∈ TB := tb_of 194 (by decide +kernel) rfl
theorem t_195 : (Jvm.Cond.instantiable "CanoeSides$Waters" (3 : Nat)) ∈ TB := tb_of 195 (by decide +kernel) rfl
theorem t_196 : (Jvm.Cond.methodLinkNest "CanoeSides" (29 : Nat) ({ cls := "CanoeSides$Waters", name := "<init>", desc := "()V" } : Jvm.MethodName) "CanoeSides") ∈ NB := nb_of 196 (by decide +kernel) rfl
theorem t_197 : (Jvm.Cond.instanceMethod ({ cls := "CanoeSides$Waters", name := "<init>", desc := "()V" } : Jvm.MethodName)) ∈ TB := tb_of 197 (by decide +kernel) rfl
theorem t_198 : (Jvm.Cond.code ({ cls := "CanoeSides$Waters", name := "<init>", desc := "()V" } : Jvm.MethodName) prog_11_method_1_code (1 : Nat) (Option.none : Option Jvm.ClassFile.FieldType)) ∈ TB := tb_of 198 (by decide +kernel) rfl
theorem t_210 : (Jvm.Cond.classLink "CanoeSides" (34 : Nat) "CanoeSides$Crew") ∈ TB := tb_of 210 (by decide +kernel) rfl
theorem t_211 : (Jvm.Cond.instantiable "CanoeSides$Crew" (3 : Nat)) ∈ TB := tb_of 211 (by decide +kernel) rfl
theorem t_212 : (Jvm.Cond.methodLink "CanoeSides" (36 : Nat) ({ cls := "CanoeSides$Crew", name := "<init>", desc := "(LCanoeSides$Waters;)V" } : Jvm.MethodName)) ∈ TB := tb_of 212 (by decide +kernel) rfl
theorem t_213 : (Jvm.Cond.instanceMethod ({ cls := "CanoeSides$Crew", name := "<init>", desc := "(LCanoeSides$Waters;)V" } : Jvm.MethodName)) ∈ TB := tb_of 213 (by decide +kernel) rfl
theorem t_214 : (Jvm.Cond.code ({ cls := "CanoeSides$Crew", name := "<init>", desc := "(LCanoeSides$Waters;)V" } : Jvm.MethodName) prog_4_method_1_code (2 : Nat) (Option.none : Option Jvm.ClassFile.FieldType)) ∈ TB := tb_of 214 (by decide +kernel) rfl
theorem t_228 : (Jvm.Cond.classLink "CanoeSides" (46 : Nat) "CanoeSides$Boat") ∈ TB := tb_of 228 (by decide +kernel) rfl
theorem t_229 : (Jvm.Cond.instantiable "CanoeSides$Boat" (3 : Nat)) ∈ TB := tb_of 229 (by decide +kernel) rfl
theorem t_230 : (Jvm.Cond.methodLinkNest "CanoeSides" (48 : Nat) ({ cls := "CanoeSides$Boat", name := "<init>", desc := "()V" } : Jvm.MethodName) "CanoeSides") ∈ NB := nb_of 230 (by decide +kernel) rfl
theorem t_231 : (Jvm.Cond.instanceMethod ({ cls := "CanoeSides$Boat", name := "<init>", desc := "()V" } : Jvm.MethodName)) ∈ TB := tb_of 231 (by decide +kernel) rfl
theorem t_232 : (Jvm.Cond.code ({ cls := "CanoeSides$Boat", name := "<init>", desc := "()V" } : Jvm.MethodName) prog_2_method_1_code (1 : Nat) (Option.none : Option Jvm.ClassFile.FieldType)) ∈ TB := tb_of 232 (by decide +kernel) rfl
theorem t_248 : (Jvm.Cond.classLink "CanoeSides" (57 : Nat) "CanoeSides$Log") ∈ TB := tb_of 248 (by decide +kernel) rfl
theorem t_249 : (Jvm.Cond.instantiable "CanoeSides$Log" (3 : Nat)) ∈ TB := tb_of 249 (by decide +kernel) rfl
theorem t_250 : (Jvm.Cond.methodLinkNest "CanoeSides" (59 : Nat) ({ cls := "CanoeSides$Log", name := "<init>", desc := "()V" } : Jvm.MethodName) "CanoeSides") ∈ NB := nb_of 250 (by decide +kernel) rfl
theorem t_251 : (Jvm.Cond.instanceMethod ({ cls := "CanoeSides$Log", name := "<init>", desc := "()V" } : Jvm.MethodName)) ∈ TB := tb_of 251 (by decide +kernel) rfl
theorem t_252 : (Jvm.Cond.code ({ cls := "CanoeSides$Log", name := "<init>", desc := "()V" } : Jvm.MethodName) prog_7_method_1_code (1 : Nat) (Option.none : Option Jvm.ClassFile.FieldType)) ∈ TB := tb_of 252 (by decide +kernel) rfl
theorem t_265 : (Jvm.Cond.classLink "CanoeSides" (64 : Nat) "CanoeSides$Lines") ∈ TB := tb_of 265 (by decide +kernel) rfl
theorem t_266 : (Jvm.Cond.instantiable "CanoeSides$Lines" (6 : Nat)) ∈ TB := tb_of 266 (by decide +kernel) rfl
theorem t_267 : (Jvm.Cond.methodLinkNest "CanoeSides" (66 : Nat) ({ cls := "CanoeSides$Lines", name := "<init>", desc := "()V" } : Jvm.MethodName) "CanoeSides") ∈ NB := nb_of 267 (by decide +kernel) rfl
theorem t_268 : (Jvm.Cond.instanceMethod ({ cls := "CanoeSides$Lines", name := "<init>", desc := "()V" } : Jvm.MethodName)) ∈ TB := tb_of 268 (by decide +kernel) rfl
theorem t_269 : (Jvm.Cond.code ({ cls := "CanoeSides$Lines", name := "<init>", desc := "()V" } : Jvm.MethodName) prog_6_method_1_code (1 : Nat) (Option.none : Option Jvm.ClassFile.FieldType)) ∈ TB := tb_of 269 (by decide +kernel) rfl
theorem t_292 : (Jvm.Cond.classLink "CanoeSides" (71 : Nat) "CanoeSides$Search") ∈ TB := tb_of 292 (by decide +kernel) rfl
theorem t_293 : (Jvm.Cond.instantiable "CanoeSides$Search" (7 : Nat)) ∈ TB := tb_of 293 (by decide +kernel) rfl
theorem t_294 : (Jvm.Cond.methodLinkNest "CanoeSides" (73 : Nat) ({ cls := "CanoeSides$Search", name := "<init>", desc := "()V" } : Jvm.MethodName) "CanoeSides") ∈ NB := nb_of 294 (by decide +kernel) rfl
theorem t_295 : (Jvm.Cond.instanceMethod ({ cls := "CanoeSides$Search", name := "<init>", desc := "()V" } : Jvm.MethodName)) ∈ TB := tb_of 295 (by decide +kernel) rfl
theorem t_296 : (Jvm.Cond.code ({ cls := "CanoeSides$Search", name := "<init>", desc := "()V" } : Jvm.MethodName) prog_10_method_1_code (1 : Nat) (Option.none : Option Jvm.ClassFile.FieldType)) ∈ TB := tb_of 296 (by decide +kernel) rfl
theorem t_321 : (Jvm.Cond.classLink "CanoeSides" (78 : Nat) "CanoeSides$Calling") ∈ TB := tb_of 321 (by decide +kernel) rfl
theorem t_322 : (Jvm.Cond.instantiable "CanoeSides$Calling" (9 : Nat)) ∈ TB := tb_of 322 (by decide +kernel) rfl
theorem t_323 : (Jvm.Cond.methodLinkNest "CanoeSides" (80 : Nat) ({ cls := "CanoeSides$Calling", name := "<init>", desc := "()V" } : Jvm.MethodName) "CanoeSides") ∈ NB := nb_of 323 (by decide +kernel) rfl
theorem t_324 : (Jvm.Cond.instanceMethod ({ cls := "CanoeSides$Calling", name := "<init>", desc := "()V" } : Jvm.MethodName)) ∈ TB := tb_of 324 (by decide +kernel) rfl
theorem t_325 : (Jvm.Cond.code ({ cls := "CanoeSides$Calling", name := "<init>", desc := "()V" } : Jvm.MethodName) prog_3_method_1_code (1 : Nat) (Option.none : Option Jvm.ClassFile.FieldType)) ∈ TB := tb_of 325 (by decide +kernel) rfl
theorem t_357 : (Jvm.Cond.classLink "CanoeSides" (85 : Nat) "CanoeSides$Gusts") ∈ TB := tb_of 357 (by decide +kernel) rfl
theorem t_358 : (Jvm.Cond.instantiable "CanoeSides$Gusts" (4 : Nat)) ∈ TB := tb_of 358 (by decide +kernel) rfl
theorem t_359 : (Jvm.Cond.methodLinkNest "CanoeSides" (87 : Nat) ({ cls := "CanoeSides$Gusts", name := "<init>", desc := "()V" } : Jvm.MethodName) "CanoeSides") ∈ NB := nb_of 359 (by decide +kernel) rfl
theorem t_360 : (Jvm.Cond.instanceMethod ({ cls := "CanoeSides$Gusts", name := "<init>", desc := "()V" } : Jvm.MethodName)) ∈ TB := tb_of 360 (by decide +kernel) rfl
theorem t_361 : (Jvm.Cond.code ({ cls := "CanoeSides$Gusts", name := "<init>", desc := "()V" } : Jvm.MethodName) prog_5_method_1_code (1 : Nat) (Option.none : Option Jvm.ClassFile.FieldType)) ∈ TB := tb_of 361 (by decide +kernel) rfl
theorem t_378 : (Jvm.Cond.methodLink "CanoeSides" (92 : Nat) ({ cls := "CanoeSides", name := "goOnTo", desc := "(LCanoeSides$River;)V" } : Jvm.MethodName)) ∈ TB := tb_of 378 (by decide +kernel) rfl
theorem t_380 : (Jvm.Cond.instanceMethod ({ cls := "CanoeSides", name := "goOnTo", desc := "(LCanoeSides$River;)V" } : Jvm.MethodName)) ∈ TB := tb_of 380 (by decide +kernel) rfl
theorem t_381 : (Jvm.Cond.code ({ cls := "CanoeSides", name := "goOnTo", desc := "(LCanoeSides$River;)V" } : Jvm.MethodName) prog_1_method_41_code (3 : Nat) (Option.none : Option Jvm.ClassFile.FieldType)) ∈ TB := tb_of 381 (by decide +kernel) rfl
theorem t_382 : (Jvm.Cond.methodLink "CanoeSides" (295 : Nat) ({ cls := "CanoeSides$Waters", name := "chart", desc := "(LCanoeSides$River;)V" } : Jvm.MethodName)) ∈ TB := tb_of 382 (by decide +kernel) rfl
theorem t_383 : (Jvm.Cond.instanceMethod ({ cls := "CanoeSides$Waters", name := "chart", desc := "(LCanoeSides$River;)V" } : Jvm.MethodName)) ∈ TB := tb_of 383 (by decide +kernel) rfl
theorem t_384 : (Jvm.Cond.selects "CanoeSides$Waters" ({ cls := "CanoeSides$Waters", name := "chart", desc := "(LCanoeSides$River;)V" } : Jvm.MethodName) ({ cls := "CanoeSides$Waters", name := "chart", desc := "(LCanoeSides$River;)V" } : Jvm.MethodName)) ∈ TB := tb_of 384 (by decide +kernel) rfl
theorem t_385 : (Jvm.Cond.code ({ cls := "CanoeSides$Waters", name := "chart", desc := "(LCanoeSides$River;)V" } : Jvm.MethodName) prog_11_method_2_code (4 : Nat) (Option.none : Option Jvm.ClassFile.FieldType)) ∈ TB := tb_of 385 (by decide +kernel) rfl
theorem t_418 : (Jvm.Cond.methodLink "CanoeSides" (234 : Nat) ({ cls := "CanoeSides$Crew", name := "take", desc := "(LCanoeSides$River;I)V" } : Jvm.MethodName)) ∈ TB := tb_of 418 (by decide +kernel) rfl
theorem t_419 : (Jvm.Cond.instanceMethod ({ cls := "CanoeSides$Crew", name := "take", desc := "(LCanoeSides$River;I)V" } : Jvm.MethodName)) ∈ TB := tb_of 419 (by decide +kernel) rfl
theorem t_420 : (Jvm.Cond.selects "CanoeSides$Crew" ({ cls := "CanoeSides$Crew", name := "take", desc := "(LCanoeSides$River;I)V" } : Jvm.MethodName) ({ cls := "CanoeSides$Crew", name := "take", desc := "(LCanoeSides$River;I)V" } : Jvm.MethodName)) ∈ TB := tb_of 420 (by decide +kernel) rfl
theorem t_421 : (Jvm.Cond.code ({ cls := "CanoeSides$Crew", name := "take", desc := "(LCanoeSides$River;I)V" } : Jvm.MethodName) prog_4_method_2_code (9 : Nat) (Option.none : Option Jvm.ClassFile.FieldType)) ∈ TB := tb_of 421 (by decide +kernel) rfl
theorem t_432 : (Jvm.Cond.methodLink "CanoeSides" (283 : Nat) ({ cls := "CanoeSides$Log", name := "forget", desc := "()V" } : Jvm.MethodName)) ∈ TB := tb_of 432 (by decide +kernel) rfl
theorem t_433 : (Jvm.Cond.instanceMethod ({ cls := "CanoeSides$Log", name := "forget", desc := "()V" } : Jvm.MethodName)) ∈ TB := tb_of 433 (by decide +kernel) rfl
theorem t_434 : (Jvm.Cond.selects "CanoeSides$Log" ({ cls := "CanoeSides$Log", name := "forget", desc := "()V" } : Jvm.MethodName) ({ cls := "CanoeSides$Log", name := "forget", desc := "()V" } : Jvm.MethodName)) ∈ TB := tb_of 434 (by decide +kernel) rfl
theorem t_435 : (Jvm.Cond.code ({ cls := "CanoeSides$Log", name := "forget", desc := "()V" } : Jvm.MethodName) prog_7_method_4_code (1 : Nat) (Option.none : Option Jvm.ClassFile.FieldType)) ∈ TB := tb_of 435 (by decide +kernel) rfl
theorem t_440 : (Jvm.Cond.methodLink "CanoeSides" (301 : Nat) ({ cls := "CanoeSides$Search", name := "forget", desc := "()V" } : Jvm.MethodName)) ∈ TB := tb_of 440 (by decide +kernel) rfl
theorem t_441 : (Jvm.Cond.instanceMethod ({ cls := "CanoeSides$Search", name := "forget", desc := "()V" } : Jvm.MethodName)) ∈ TB := tb_of 441 (by decide +kernel) rfl
theorem t_442 : (Jvm.Cond.selects "CanoeSides$Search" ({ cls := "CanoeSides$Search", name := "forget", desc := "()V" } : Jvm.MethodName) ({ cls := "CanoeSides$Search", name := "forget", desc := "()V" } : Jvm.MethodName)) ∈ TB := tb_of 442 (by decide +kernel) rfl
theorem t_443 : (Jvm.Cond.code ({ cls := "CanoeSides$Search", name := "forget", desc := "()V" } : Jvm.MethodName) prog_10_method_2_code (1 : Nat) (Option.none : Option Jvm.ClassFile.FieldType)) ∈ TB := tb_of 443 (by decide +kernel) rfl
theorem t_444 : (Jvm.Cond.methodLink "CanoeSides" (302 : Nat) ({ cls := "CanoeSides$Calling", name := "forget", desc := "()V" } : Jvm.MethodName)) ∈ TB := tb_of 444 (by decide +kernel) rfl
theorem t_445 : (Jvm.Cond.instanceMethod ({ cls := "CanoeSides$Calling", name := "forget", desc := "()V" } : Jvm.MethodName)) ∈ TB := tb_of 445 (by decide +kernel) rfl
theorem t_446 : (Jvm.Cond.selects "CanoeSides$Calling" ({ cls := "CanoeSides$Calling", name := "forget", desc := "()V" } : Jvm.MethodName) ({ cls := "CanoeSides$Calling", name := "forget", desc := "()V" } : Jvm.MethodName)) ∈ TB := tb_of 446 (by decide +kernel) rfl
theorem t_447 : (Jvm.Cond.code ({ cls := "CanoeSides$Calling", name := "forget", desc := "()V" } : Jvm.MethodName) prog_3_method_2_code (1 : Nat) (Option.none : Option Jvm.ClassFile.FieldType)) ∈ TB := tb_of 447 (by decide +kernel) rfl
theorem t_448 : (Jvm.Cond.methodLink "CanoeSides" (303 : Nat) ({ cls := "CanoeSides$Gusts", name := "forget", desc := "()V" } : Jvm.MethodName)) ∈ TB := tb_of 448 (by decide +kernel) rfl
theorem t_449 : (Jvm.Cond.instanceMethod ({ cls := "CanoeSides$Gusts", name := "forget", desc := "()V" } : Jvm.MethodName)) ∈ TB := tb_of 449 (by decide +kernel) rfl
theorem t_450 : (Jvm.Cond.selects "CanoeSides$Gusts" ({ cls := "CanoeSides$Gusts", name := "forget", desc := "()V" } : Jvm.MethodName) ({ cls := "CanoeSides$Gusts", name := "forget", desc := "()V" } : Jvm.MethodName)) ∈ TB := tb_of 450 (by decide +kernel) rfl
theorem t_451 : (Jvm.Cond.code ({ cls := "CanoeSides$Gusts", name := "forget", desc := "()V" } : Jvm.MethodName) prog_5_method_2_code (1 : Nat) (Option.none : Option Jvm.ClassFile.FieldType)) ∈ TB := tb_of 451 (by decide +kernel) rfl
theorem t_458 : (Jvm.Cond.fieldLink "CanoeSides" (43 : Nat) "CanoeSides" "three" "LCanoeSides$Crew;") ∈ TB := tb_of 458 (by decide +kernel) rfl
theorem t_460 : (Jvm.Cond.fieldLink "CanoeSides" (53 : Nat) "CanoeSides" "images" "[LCanoeSides$Boat;") ∈ TB := tb_of 460 (by decide +kernel) rfl
abbrev WCg : Wl := [(0, .inl (10, [some (some 2), none, none, some (some 80), some (some 15), some (some 20), some (some 25), some (some 30), some (some 33), some (some 35), some (some 60), some (some 40), some (some 45), some (some 55)])), (2, .inr (.inl (0, 250))), (10, .inl (7, [none, none, some (some 11), none, none, none, none, none, none, none, none, none, some (some 12)])), (11, .inr (.inl (0, 48))), (12, .inr (.inl (0, 8))), (15, .inl (9, [some (some 16), some (some 17), none])), (16, .inr (.inl (0, 1920))), (17, .inr (.inl (0, 48))), (20, .inl (2, [some (some 15), some (some 21), some (some 22)])), (21, .inr (.inl (0, 16))), (22, .inr (.inl (0, 16))), (25, .inl (2, [some (some 15), some (some 26), some (some 27)])), (26, .inr (.inl (0, 16))), (27, .inr (.inl (0, 16))), (30, .inl (0, [none, none, none])), (33, .inr (.inr (2, 31))), (35, .inl (5, [some (some 36), none, none])), (36, .inr (.inl (0, 50))), (40, .inl (8, [some (some 41), some (some 42), some (some 43), none, none, none, none])), (41, .inr (.inl (0, 3456))), (42, .inr (.inl (0, 3456))), (43, .inr (.inl (0, 60))), (45, .inl (1, [some (some 46), some (some 47), some (some 48), some (some 49), none, none, none, none, none])), (46, .inr (.inl (0, 3456))), (47, .inr (.inl (0, 3456))), (48, .inr (.inl (0, 3456))), (49, .inr (.inl (0, 3456))), (55, .inl (3, [some (some 56), none, none, none])), (56, .inr (.inl (0, 384))), (60, .inl (4, [some (some 61), some (some 62), some (some 63), some (some 64), none, none])), (61, .inr (.inl (0, 4))), (62, .inr (.inl (0, 40))), (63, .inr (.inl (0, 20))), (64, .inr (.inl (0, 20)))]
theorem nd_Cg : nd WCg = true := by decide +kernel
abbrev WC_init_0 : Wl := [(0, .inl (10, [some none, none, none, some none, some none, some none, some none, some none, some none, some none, some none, some none, some none, some none]))]
theorem nd_C_init_0 : nd WC_init_0 = true := by decide +kernel
abbrev WC_init_1 : Wl := [(0, .inl (10, [some none, none, none, some none, some none, some none, some none, some none, some none, some none, some none, some none, some none, some none])), (2, .inr (.inl (0, 250)))]
theorem nd_C_init_1 : nd WC_init_1 = true := by decide +kernel
abbrev WC_init_2 : Wl := [(0, .inl (10, [some (some 2), none, none, some none, some none, some none, some none, some none, some none, some none, some none, some none, some none, some none])), (2, .inr (.inl (0, 250)))]
theorem nd_C_init_2 : nd WC_init_2 = true := by decide +kernel
abbrev WC_init_3 : Wl := [(0, .inl (10, [some (some 2), none, none, some none, some none, some none, some none, some none, some none, some none, some none, some none, some none, some none])), (2, .inr (.inl (0, 250))), (10, .inl (7, [none, none, some none, none, none, none, none, none, none, none, none, none, some none]))]
theorem nd_C_init_3 : nd WC_init_3 = true := by decide +kernel
abbrev WC_init_r28 : Wl := [(0, .inl (10, [some (some 2), none, none, some none, some none, some none, some none, some none, some none, some none, some none, some none, some none, some none])), (2, .inr (.inl (0, 250)))]
theorem nd_C_init_r28 : nd WC_init_r28 = true := by decide +kernel
abbrev WC_init_4 : Wl := [(0, .inl (10, [some (some 2), none, none, some none, some none, some none, some none, some none, some none, some none, some none, some none, some none, some none])), (2, .inr (.inl (0, 250))), (10, .inl (7, [none, none, some (some 11), none, none, none, none, none, none, none, none, none, some (some 12)])), (11, .inr (.inl (0, 48))), (12, .inr (.inl (0, 8)))]
theorem nd_C_init_4 : nd WC_init_4 = true := by decide +kernel
abbrev WC_init_5 : Wl := [(0, .inl (10, [some (some 2), none, none, some (some 10), some none, some none, some none, some none, some none, some none, some none, some none, some none, some none])), (2, .inr (.inl (0, 250))), (10, .inl (7, [none, none, some (some 11), none, none, none, none, none, none, none, none, none, some (some 12)])), (11, .inr (.inl (0, 48))), (12, .inr (.inl (0, 8)))]
theorem nd_C_init_5 : nd WC_init_5 = true := by decide +kernel
abbrev WC_init_6 : Wl := [(0, .inl (10, [some (some 2), none, none, some (some 10), some none, some none, some none, some none, some none, some none, some none, some none, some none, some none])), (2, .inr (.inl (0, 250))), (10, .inl (7, [none, none, some (some 11), none, none, none, none, none, none, none, none, none, some (some 12)])), (11, .inr (.inl (0, 48))), (12, .inr (.inl (0, 8))), (15, .inl (9, [some none, some none, none]))]
theorem nd_C_init_6 : nd WC_init_6 = true := by decide +kernel
abbrev WC_init_r39 : Wl := [(0, .inl (10, [some (some 2), none, none, some (some 10), some none, some none, some none, some none, some none, some none, some none, some none, some none, some none])), (2, .inr (.inl (0, 250))), (10, .inl (7, [none, none, some (some 11), none, none, none, none, none, none, none, none, none, some (some 12)])), (11, .inr (.inl (0, 48))), (12, .inr (.inl (0, 8)))]
theorem nd_C_init_r39 : nd WC_init_r39 = true := by decide +kernel
abbrev WC_init_7 : Wl := [(0, .inl (10, [some (some 2), none, none, some (some 10), some none, some none, some none, some none, some none, some none, some none, some none, some none, some none])), (2, .inr (.inl (0, 250))), (10, .inl (7, [none, none, some (some 11), none, none, none, none, none, none, none, none, none, some (some 12)])), (11, .inr (.inl (0, 48))), (12, .inr (.inl (0, 8))), (15, .inl (9, [some (some 16), some (some 17), none])), (16, .inr (.inl (0, 1920))), (17, .inr (.inl (0, 48)))]
theorem nd_C_init_7 : nd WC_init_7 = true := by decide +kernel
abbrev WC_init_8 : Wl := [(0, .inl (10, [some (some 2), none, none, some (some 10), some (some 15), some none, some none, some none, some none, some none, some none, some none, some none, some none])), (2, .inr (.inl (0, 250))), (10, .inl (7, [none, none, some (some 11), none, none, none, none, none, none, none, none, none, some (some 12)])), (11, .inr (.inl (0, 48))), (12, .inr (.inl (0, 8))), (15, .inl (9, [some (some 16), some (some 17), none])), (16, .inr (.inl (0, 1920))), (17, .inr (.inl (0, 48)))]
theorem nd_C_init_8 : nd WC_init_8 = true := by decide +kernel
abbrev WC_init_9 : Wl := [(0, .inl (10, [some (some 2), none, none, some (some 10), some (some 15), some none, some none, some none, some none, some none, some none, some none, some none, some none])), (2, .inr (.inl (0, 250))), (10, .inl (7, [none, none, some (some 11), none, none, none, none, none, none, none, none, none, some (some 12)])), (11, .inr (.inl (0, 48))), (12, .inr (.inl (0, 8))), (15, .inl (9, [some (some 16), some (some 17), none])), (16, .inr (.inl (0, 1920))), (17, .inr (.inl (0, 48))), (20, .inl (2, [some none, some none, some none]))]
theorem nd_C_init_9 : nd WC_init_9 = true := by decide +kernel
abbrev WC_init_r54 : Wl := [(0, .inl (10, [some (some 2), none, none, some (some 10), some (some 15), some none, some none, some none, some none, some none, some none, some none, some none, some none])), (2, .inr (.inl (0, 250))), (10, .inl (7, [none, none, some (some 11), none, none, none, none, none, none, none, none, none, some (some 12)])), (11, .inr (.inl (0, 48))), (12, .inr (.inl (0, 8))), (15, .inl (9, [some (some 16), some (some 17), none])), (16, .inr (.inl (0, 1920))), (17, .inr (.inl (0, 48)))]
theorem nd_C_init_r54 : nd WC_init_r54 = true := by decide +kernel
abbrev WC_init_10 : Wl := [(0, .inl (10, [some (some 2), none, none, some (some 10), some (some 15), some none, some none, some none, some none, some none, some none, some none, some none, some none])), (2, .inr (.inl (0, 250))), (10, .inl (7, [none, none, some (some 11), none, none, none, none, none, none, none, none, none, some (some 12)])), (11, .inr (.inl (0, 48))), (12, .inr (.inl (0, 8))), (15, .inl (9, [some (some 16), some (some 17), none])), (16, .inr (.inl (0, 1920))), (17, .inr (.inl (0, 48))), (20, .inl (2, [some (some 15), some (some 21), some (some 22)])), (21, .inr (.inl (0, 16))), (22, .inr (.inl (0, 16)))]
theorem nd_C_init_10 : nd WC_init_10 = true := by decide +kernel
abbrev WC_init_11 : Wl := [(0, .inl (10, [some (some 2), none, none, some (some 10), some (some 15), some (some 20), some none, some none, some none, some none, some none, some none, some none, some none])), (2, .inr (.inl (0, 250))), (10, .inl (7, [none, none, some (some 11), none, none, none, none, none, none, none, none, none, some (some 12)])), (11, .inr (.inl (0, 48))), (12, .inr (.inl (0, 8))), (15, .inl (9, [some (some 16), some (some 17), none])), (16, .inr (.inl (0, 1920))), (17, .inr (.inl (0, 48))), (20, .inl (2, [some (some 15), some (some 21), some (some 22)])), (21, .inr (.inl (0, 16))), (22, .inr (.inl (0, 16)))]
theorem nd_C_init_11 : nd WC_init_11 = true := by decide +kernel
abbrev WC_init_12 : Wl := [(0, .inl (10, [some (some 2), none, none, some (some 10), some (some 15), some (some 20), some none, some none, some none, some none, some none, some none, some none, some none])), (2, .inr (.inl (0, 250))), (10, .inl (7, [none, none, some (some 11), none, none, none, none, none, none, none, none, none, some (some 12)])), (11, .inr (.inl (0, 48))), (12, .inr (.inl (0, 8))), (15, .inl (9, [some (some 16), some (some 17), none])), (16, .inr (.inl (0, 1920))), (17, .inr (.inl (0, 48))), (20, .inl (2, [some (some 15), some (some 21), some (some 22)])), (21, .inr (.inl (0, 16))), (22, .inr (.inl (0, 16))), (25, .inl (2, [some none, some none, some none]))]
theorem nd_C_init_12 : nd WC_init_12 = true := by decide +kernel
abbrev WC_init_r69 : Wl := [(0, .inl (10, [some (some 2), none, none, some (some 10), some (some 15), some (some 20), some none, some none, some none, some none, some none, some none, some none, some none])), (2, .inr (.inl (0, 250))), (10, .inl (7, [none, none, some (some 11), none, none, none, none, none, none, none, none, none, some (some 12)])), (11, .inr (.inl (0, 48))), (12, .inr (.inl (0, 8))), (15, .inl (9, [some (some 16), some (some 17), none])), (16, .inr (.inl (0, 1920))), (17, .inr (.inl (0, 48))), (20, .inl (2, [some (some 15), some (some 21), some (some 22)])), (21, .inr (.inl (0, 16))), (22, .inr (.inl (0, 16)))]
theorem nd_C_init_r69 : nd WC_init_r69 = true := by decide +kernel
abbrev WC_init_13 : Wl := [(0, .inl (10, [some (some 2), none, none, some (some 10), some (some 15), some (some 20), some none, some none, some none, some none, some none, some none, some none, some none])), (2, .inr (.inl (0, 250))), (10, .inl (7, [none, none, some (some 11), none, none, none, none, none, none, none, none, none, some (some 12)])), (11, .inr (.inl (0, 48))), (12, .inr (.inl (0, 8))), (15, .inl (9, [some (some 16), some (some 17), none])), (16, .inr (.inl (0, 1920))), (17, .inr (.inl (0, 48))), (20, .inl (2, [some (some 15), some (some 21), some (some 22)])), (21, .inr (.inl (0, 16))), (22, .inr (.inl (0, 16))), (25, .inl (2, [some (some 15), some (some 26), some (some 27)])), (26, .inr (.inl (0, 16))), (27, .inr (.inl (0, 16)))]
theorem nd_C_init_13 : nd WC_init_13 = true := by decide +kernel
abbrev WC_init_14 : Wl := [(0, .inl (10, [some (some 2), none, none, some (some 10), some (some 15), some (some 20), some (some 25), some none, some none, some none, some none, some none, some none, some none])), (2, .inr (.inl (0, 250))), (10, .inl (7, [none, none, some (some 11), none, none, none, none, none, none, none, none, none, some (some 12)])), (11, .inr (.inl (0, 48))), (12, .inr (.inl (0, 8))), (15, .inl (9, [some (some 16), some (some 17), none])), (16, .inr (.inl (0, 1920))), (17, .inr (.inl (0, 48))), (20, .inl (2, [some (some 15), some (some 21), some (some 22)])), (21, .inr (.inl (0, 16))), (22, .inr (.inl (0, 16))), (25, .inl (2, [some (some 15), some (some 26), some (some 27)])), (26, .inr (.inl (0, 16))), (27, .inr (.inl (0, 16)))]
theorem nd_C_init_14 : nd WC_init_14 = true := by decide +kernel
abbrev WC_init_15 : Wl := [(0, .inl (10, [some (some 2), none, none, some (some 10), some (some 15), some (some 20), some (some 25), some none, some none, some none, some none, some none, some none, some none])), (2, .inr (.inl (0, 250))), (10, .inl (7, [none, none, some (some 11), none, none, none, none, none, none, none, none, none, some (some 12)])), (11, .inr (.inl (0, 48))), (12, .inr (.inl (0, 8))), (15, .inl (9, [some (some 16), some (some 17), none])), (16, .inr (.inl (0, 1920))), (17, .inr (.inl (0, 48))), (20, .inl (2, [some (some 15), some (some 21), some (some 22)])), (21, .inr (.inl (0, 16))), (22, .inr (.inl (0, 16))), (25, .inl (2, [some (some 15), some (some 26), some (some 27)])), (26, .inr (.inl (0, 16))), (27, .inr (.inl (0, 16))), (30, .inl (0, [none, none, none]))]
theorem nd_C_init_15 : nd WC_init_15 = true := by decide +kernel
abbrev WC_init_r80 : Wl := [(0, .inl (10, [some (some 2), none, none, some (some 10), some (some 15), some (some 20), some (some 25), some none, some none, some none, some none, some none, some none, some none])), (2, .inr (.inl (0, 250))), (10, .inl (7, [none, none, some (some 11), none, none, none, none, none, none, none, none, none, some (some 12)])), (11, .inr (.inl (0, 48))), (12, .inr (.inl (0, 8))), (15, .inl (9, [some (some 16), some (some 17), none])), (16, .inr (.inl (0, 1920))), (17, .inr (.inl (0, 48))), (20, .inl (2, [some (some 15), some (some 21), some (some 22)])), (21, .inr (.inl (0, 16))), (22, .inr (.inl (0, 16))), (25, .inl (2, [some (some 15), some (some 26), some (some 27)])), (26, .inr (.inl (0, 16))), (27, .inr (.inl (0, 16)))]
theorem nd_C_init_r80 : nd WC_init_r80 = true := by decide +kernel
abbrev WC_init_16 : Wl := [(0, .inl (10, [some (some 2), none, none, some (some 10), some (some 15), some (some 20), some (some 25), some none, some none, some none, some none, some none, some none, some none])), (2, .inr (.inl (0, 250))), (10, .inl (7, [none, none, some (some 11), none, none, none, none, none, none, none, none, none, some (some 12)])), (11, .inr (.inl (0, 48))), (12, .inr (.inl (0, 8))), (15, .inl (9, [some (some 16), some (some 17), none])), (16, .inr (.inl (0, 1920))), (17, .inr (.inl (0, 48))), (20, .inl (2, [some (some 15), some (some 21), some (some 22)])), (21, .inr (.inl (0, 16))), (22, .inr (.inl (0, 16))), (25, .inl (2, [some (some 15), some (some 26), some (some 27)])), (26, .inr (.inl (0, 16))), (27, .inr (.inl (0, 16))), (30, .inl (0, [none, none, none]))]
theorem nd_C_init_16 : nd WC_init_16 = true := by decide +kernel
abbrev WC_init_17 : Wl := [(0, .inl (10, [some (some 2), none, none, some (some 10), some (some 15), some (some 20), some (some 25), some (some 30), some none, some none, some none, some none, some none, some none])), (2, .inr (.inl (0, 250))), (10, .inl (7, [none, none, some (some 11), none, none, none, none, none, none, none, none, none, some (some 12)])), (11, .inr (.inl (0, 48))), (12, .inr (.inl (0, 8))), (15, .inl (9, [some (some 16), some (some 17), none])), (16, .inr (.inl (0, 1920))), (17, .inr (.inl (0, 48))), (20, .inl (2, [some (some 15), some (some 21), some (some 22)])), (21, .inr (.inl (0, 16))), (22, .inr (.inl (0, 16))), (25, .inl (2, [some (some 15), some (some 26), some (some 27)])), (26, .inr (.inl (0, 16))), (27, .inr (.inl (0, 16))), (30, .inl (0, [none, none, none]))]
theorem nd_C_init_17 : nd WC_init_17 = true := by decide +kernel
abbrev WC_init_18 : Wl := [(0, .inl (10, [some (some 2), none, none, some (some 10), some (some 15), some (some 20), some (some 25), some (some 30), some none, some none, some none, some none, some none, some none])), (2, .inr (.inl (0, 250))), (10, .inl (7, [none, none, some (some 11), none, none, none, none, none, none, none, none, none, some (some 12)])), (11, .inr (.inl (0, 48))), (12, .inr (.inl (0, 8))), (15, .inl (9, [some (some 16), some (some 17), none])), (16, .inr (.inl (0, 1920))), (17, .inr (.inl (0, 48))), (20, .inl (2, [some (some 15), some (some 21), some (some 22)])), (21, .inr (.inl (0, 16))), (22, .inr (.inl (0, 16))), (25, .inl (2, [some (some 15), some (some 26), some (some 27)])), (26, .inr (.inl (0, 16))), (27, .inr (.inl (0, 16))), (30, .inl (0, [none, none, none])), (33, .inr (.inr (2, 31)))]
theorem nd_C_init_18 : nd WC_init_18 = true := by decide +kernel
abbrev WC_init_19 : Wl := [(0, .inl (10, [some (some 2), none, none, some (some 10), some (some 15), some (some 20), some (some 25), some (some 30), some (some 33), some none, some none, some none, some none, some none])), (2, .inr (.inl (0, 250))), (10, .inl (7, [none, none, some (some 11), none, none, none, none, none, none, none, none, none, some (some 12)])), (11, .inr (.inl (0, 48))), (12, .inr (.inl (0, 8))), (15, .inl (9, [some (some 16), some (some 17), none])), (16, .inr (.inl (0, 1920))), (17, .inr (.inl (0, 48))), (20, .inl (2, [some (some 15), some (some 21), some (some 22)])), (21, .inr (.inl (0, 16))), (22, .inr (.inl (0, 16))), (25, .inl (2, [some (some 15), some (some 26), some (some 27)])), (26, .inr (.inl (0, 16))), (27, .inr (.inl (0, 16))), (30, .inl (0, [none, none, none])), (33, .inr (.inr (2, 31)))]
theorem nd_C_init_19 : nd WC_init_19 = true := by decide +kernel
abbrev WC_init_20 : Wl := [(0, .inl (10, [some (some 2), none, none, some (some 10), some (some 15), some (some 20), some (some 25), some (some 30), some (some 33), some none, some none, some none, some none, some none])), (2, .inr (.inl (0, 250))), (10, .inl (7, [none, none, some (some 11), none, none, none, none, none, none, none, none, none, some (some 12)])), (11, .inr (.inl (0, 48))), (12, .inr (.inl (0, 8))), (15, .inl (9, [some (some 16), some (some 17), none])), (16, .inr (.inl (0, 1920))), (17, .inr (.inl (0, 48))), (20, .inl (2, [some (some 15), some (some 21), some (some 22)])), (21, .inr (.inl (0, 16))), (22, .inr (.inl (0, 16))), (25, .inl (2, [some (some 15), some (some 26), some (some 27)])), (26, .inr (.inl (0, 16))), (27, .inr (.inl (0, 16))), (30, .inl (0, [none, none, none])), (33, .inr (.inr (2, 31))), (35, .inl (5, [some none, none, none]))]
theorem nd_C_init_20 : nd WC_init_20 = true := by decide +kernel
abbrev WC_init_r99 : Wl := [(0, .inl (10, [some (some 2), none, none, some (some 10), some (some 15), some (some 20), some (some 25), some (some 30), some (some 33), some none, some none, some none, some none, some none])), (2, .inr (.inl (0, 250))), (10, .inl (7, [none, none, some (some 11), none, none, none, none, none, none, none, none, none, some (some 12)])), (11, .inr (.inl (0, 48))), (12, .inr (.inl (0, 8))), (15, .inl (9, [some (some 16), some (some 17), none])), (16, .inr (.inl (0, 1920))), (17, .inr (.inl (0, 48))), (20, .inl (2, [some (some 15), some (some 21), some (some 22)])), (21, .inr (.inl (0, 16))), (22, .inr (.inl (0, 16))), (25, .inl (2, [some (some 15), some (some 26), some (some 27)])), (26, .inr (.inl (0, 16))), (27, .inr (.inl (0, 16))), (30, .inl (0, [none, none, none])), (33, .inr (.inr (2, 31)))]
theorem nd_C_init_r99 : nd WC_init_r99 = true := by decide +kernel
abbrev WC_init_21 : Wl := [(0, .inl (10, [some (some 2), none, none, some (some 10), some (some 15), some (some 20), some (some 25), some (some 30), some (some 33), some none, some none, some none, some none, some none])), (2, .inr (.inl (0, 250))), (10, .inl (7, [none, none, some (some 11), none, none, none, none, none, none, none, none, none, some (some 12)])), (11, .inr (.inl (0, 48))), (12, .inr (.inl (0, 8))), (15, .inl (9, [some (some 16), some (some 17), none])), (16, .inr (.inl (0, 1920))), (17, .inr (.inl (0, 48))), (20, .inl (2, [some (some 15), some (some 21), some (some 22)])), (21, .inr (.inl (0, 16))), (22, .inr (.inl (0, 16))), (25, .inl (2, [some (some 15), some (some 26), some (some 27)])), (26, .inr (.inl (0, 16))), (27, .inr (.inl (0, 16))), (30, .inl (0, [none, none, none])), (33, .inr (.inr (2, 31))), (35, .inl (5, [some (some 36), none, none])), (36, .inr (.inl (0, 50)))]
theorem nd_C_init_21 : nd WC_init_21 = true := by decide +kernel
abbrev WC_init_22 : Wl := [(0, .inl (10, [some (some 2), none, none, some (some 10), some (some 15), some (some 20), some (some 25), some (some 30), some (some 33), some (some 35), some none, some none, some none, some none])), (2, .inr (.inl (0, 250))), (10, .inl (7, [none, none, some (some 11), none, none, none, none, none, none, none, none, none, some (some 12)])), (11, .inr (.inl (0, 48))), (12, .inr (.inl (0, 8))), (15, .inl (9, [some (some 16), some (some 17), none])), (16, .inr (.inl (0, 1920))), (17, .inr (.inl (0, 48))), (20, .inl (2, [some (some 15), some (some 21), some (some 22)])), (21, .inr (.inl (0, 16))), (22, .inr (.inl (0, 16))), (25, .inl (2, [some (some 15), some (some 26), some (some 27)])), (26, .inr (.inl (0, 16))), (27, .inr (.inl (0, 16))), (30, .inl (0, [none, none, none])), (33, .inr (.inr (2, 31))), (35, .inl (5, [some (some 36), none, none])), (36, .inr (.inl (0, 50)))]
theorem nd_C_init_22 : nd WC_init_22 = true := by decide +kernel
abbrev WC_init_23 : Wl := [(0, .inl (10, [some (some 2), none, none, some (some 10), some (some 15), some (some 20), some (some 25), some (some 30), some (some 33), some (some 35), some none, some none, some none, some none])), (2, .inr (.inl (0, 250))), (10, .inl (7, [none, none, some (some 11), none, none, none, none, none, none, none, none, none, some (some 12)])), (11, .inr (.inl (0, 48))), (12, .inr (.inl (0, 8))), (15, .inl (9, [some (some 16), some (some 17), none])), (16, .inr (.inl (0, 1920))), (17, .inr (.inl (0, 48))), (20, .inl (2, [some (some 15), some (some 21), some (some 22)])), (21, .inr (.inl (0, 16))), (22, .inr (.inl (0, 16))), (25, .inl (2, [some (some 15), some (some 26), some (some 27)])), (26, .inr (.inl (0, 16))), (27, .inr (.inl (0, 16))), (30, .inl (0, [none, none, none])), (33, .inr (.inr (2, 31))), (35, .inl (5, [some (some 36), none, none])), (36, .inr (.inl (0, 50))), (60, .inl (4, [some none, some none, some none, some none, none, none]))]
theorem nd_C_init_23 : nd WC_init_23 = true := by decide +kernel
abbrev WC_init_r110 : Wl := [(0, .inl (10, [some (some 2), none, none, some (some 10), some (some 15), some (some 20), some (some 25), some (some 30), some (some 33), some (some 35), some none, some none, some none, some none])), (2, .inr (.inl (0, 250))), (10, .inl (7, [none, none, some (some 11), none, none, none, none, none, none, none, none, none, some (some 12)])), (11, .inr (.inl (0, 48))), (12, .inr (.inl (0, 8))), (15, .inl (9, [some (some 16), some (some 17), none])), (16, .inr (.inl (0, 1920))), (17, .inr (.inl (0, 48))), (20, .inl (2, [some (some 15), some (some 21), some (some 22)])), (21, .inr (.inl (0, 16))), (22, .inr (.inl (0, 16))), (25, .inl (2, [some (some 15), some (some 26), some (some 27)])), (26, .inr (.inl (0, 16))), (27, .inr (.inl (0, 16))), (30, .inl (0, [none, none, none])), (33, .inr (.inr (2, 31))), (35, .inl (5, [some (some 36), none, none])), (36, .inr (.inl (0, 50)))]
theorem nd_C_init_r110 : nd WC_init_r110 = true := by decide +kernel
abbrev WC_init_24 : Wl := [(0, .inl (10, [some (some 2), none, none, some (some 10), some (some 15), some (some 20), some (some 25), some (some 30), some (some 33), some (some 35), some none, some none, some none, some none])), (2, .inr (.inl (0, 250))), (10, .inl (7, [none, none, some (some 11), none, none, none, none, none, none, none, none, none, some (some 12)])), (11, .inr (.inl (0, 48))), (12, .inr (.inl (0, 8))), (15, .inl (9, [some (some 16), some (some 17), none])), (16, .inr (.inl (0, 1920))), (17, .inr (.inl (0, 48))), (20, .inl (2, [some (some 15), some (some 21), some (some 22)])), (21, .inr (.inl (0, 16))), (22, .inr (.inl (0, 16))), (25, .inl (2, [some (some 15), some (some 26), some (some 27)])), (26, .inr (.inl (0, 16))), (27, .inr (.inl (0, 16))), (30, .inl (0, [none, none, none])), (33, .inr (.inr (2, 31))), (35, .inl (5, [some (some 36), none, none])), (36, .inr (.inl (0, 50))), (60, .inl (4, [some (some 61), some (some 62), some (some 63), some (some 64), none, none])), (61, .inr (.inl (0, 4))), (62, .inr (.inl (0, 40))), (63, .inr (.inl (0, 20))), (64, .inr (.inl (0, 20)))]
theorem nd_C_init_24 : nd WC_init_24 = true := by decide +kernel
abbrev WC_init_25 : Wl := [(0, .inl (10, [some (some 2), none, none, some (some 10), some (some 15), some (some 20), some (some 25), some (some 30), some (some 33), some (some 35), some (some 60), some none, some none, some none])), (2, .inr (.inl (0, 250))), (10, .inl (7, [none, none, some (some 11), none, none, none, none, none, none, none, none, none, some (some 12)])), (11, .inr (.inl (0, 48))), (12, .inr (.inl (0, 8))), (15, .inl (9, [some (some 16), some (some 17), none])), (16, .inr (.inl (0, 1920))), (17, .inr (.inl (0, 48))), (20, .inl (2, [some (some 15), some (some 21), some (some 22)])), (21, .inr (.inl (0, 16))), (22, .inr (.inl (0, 16))), (25, .inl (2, [some (some 15), some (some 26), some (some 27)])), (26, .inr (.inl (0, 16))), (27, .inr (.inl (0, 16))), (30, .inl (0, [none, none, none])), (33, .inr (.inr (2, 31))), (35, .inl (5, [some (some 36), none, none])), (36, .inr (.inl (0, 50))), (60, .inl (4, [some (some 61), some (some 62), some (some 63), some (some 64), none, none])), (61, .inr (.inl (0, 4))), (62, .inr (.inl (0, 40))), (63, .inr (.inl (0, 20))), (64, .inr (.inl (0, 20)))]
theorem nd_C_init_25 : nd WC_init_25 = true := by decide +kernel
abbrev WC_init_26 : Wl := [(0, .inl (10, [some (some 2), none, none, some (some 10), some (some 15), some (some 20), some (some 25), some (some 30), some (some 33), some (some 35), some (some 60), some none, some none, some none])), (2, .inr (.inl (0, 250))), (10, .inl (7, [none, none, some (some 11), none, none, none, none, none, none, none, none, none, some (some 12)])), (11, .inr (.inl (0, 48))), (12, .inr (.inl (0, 8))), (15, .inl (9, [some (some 16), some (some 17), none])), (16, .inr (.inl (0, 1920))), (17, .inr (.inl (0, 48))), (20, .inl (2, [some (some 15), some (some 21), some (some 22)])), (21, .inr (.inl (0, 16))), (22, .inr (.inl (0, 16))), (25, .inl (2, [some (some 15), some (some 26), some (some 27)])), (26, .inr (.inl (0, 16))), (27, .inr (.inl (0, 16))), (30, .inl (0, [none, none, none])), (33, .inr (.inr (2, 31))), (35, .inl (5, [some (some 36), none, none])), (36, .inr (.inl (0, 50))), (60, .inl (4, [some (some 61), some (some 62), some (some 63), some (some 64), none, none])), (61, .inr (.inl (0, 4))), (62, .inr (.inl (0, 40))), (63, .inr (.inl (0, 20))), (64, .inr (.inl (0, 20))), (40, .inl (8, [some none, some none, some none, none, none, none, none]))]
theorem nd_C_init_26 : nd WC_init_26 = true := by decide +kernel
abbrev WC_init_r121 : Wl := [(0, .inl (10, [some (some 2), none, none, some (some 10), some (some 15), some (some 20), some (some 25), some (some 30), some (some 33), some (some 35), some (some 60), some none, some none, some none])), (2, .inr (.inl (0, 250))), (10, .inl (7, [none, none, some (some 11), none, none, none, none, none, none, none, none, none, some (some 12)])), (11, .inr (.inl (0, 48))), (12, .inr (.inl (0, 8))), (15, .inl (9, [some (some 16), some (some 17), none])), (16, .inr (.inl (0, 1920))), (17, .inr (.inl (0, 48))), (20, .inl (2, [some (some 15), some (some 21), some (some 22)])), (21, .inr (.inl (0, 16))), (22, .inr (.inl (0, 16))), (25, .inl (2, [some (some 15), some (some 26), some (some 27)])), (26, .inr (.inl (0, 16))), (27, .inr (.inl (0, 16))), (30, .inl (0, [none, none, none])), (33, .inr (.inr (2, 31))), (35, .inl (5, [some (some 36), none, none])), (36, .inr (.inl (0, 50))), (60, .inl (4, [some (some 61), some (some 62), some (some 63), some (some 64), none, none])), (61, .inr (.inl (0, 4))), (62, .inr (.inl (0, 40))), (63, .inr (.inl (0, 20))), (64, .inr (.inl (0, 20)))]
theorem nd_C_init_r121 : nd WC_init_r121 = true := by decide +kernel
abbrev WC_init_27 : Wl := [(0, .inl (10, [some (some 2), none, none, some (some 10), some (some 15), some (some 20), some (some 25), some (some 30), some (some 33), some (some 35), some (some 60), some none, some none, some none])), (2, .inr (.inl (0, 250))), (10, .inl (7, [none, none, some (some 11), none, none, none, none, none, none, none, none, none, some (some 12)])), (11, .inr (.inl (0, 48))), (12, .inr (.inl (0, 8))), (15, .inl (9, [some (some 16), some (some 17), none])), (16, .inr (.inl (0, 1920))), (17, .inr (.inl (0, 48))), (20, .inl (2, [some (some 15), some (some 21), some (some 22)])), (21, .inr (.inl (0, 16))), (22, .inr (.inl (0, 16))), (25, .inl (2, [some (some 15), some (some 26), some (some 27)])), (26, .inr (.inl (0, 16))), (27, .inr (.inl (0, 16))), (30, .inl (0, [none, none, none])), (33, .inr (.inr (2, 31))), (35, .inl (5, [some (some 36), none, none])), (36, .inr (.inl (0, 50))), (60, .inl (4, [some (some 61), some (some 62), some (some 63), some (some 64), none, none])), (61, .inr (.inl (0, 4))), (62, .inr (.inl (0, 40))), (63, .inr (.inl (0, 20))), (64, .inr (.inl (0, 20))), (40, .inl (8, [some (some 41), some (some 42), some (some 43), none, none, none, none])), (41, .inr (.inl (0, 3456))), (42, .inr (.inl (0, 3456))), (43, .inr (.inl (0, 60)))]
theorem nd_C_init_27 : nd WC_init_27 = true := by decide +kernel
abbrev WC_init_28 : Wl := [(0, .inl (10, [some (some 2), none, none, some (some 10), some (some 15), some (some 20), some (some 25), some (some 30), some (some 33), some (some 35), some (some 60), some (some 40), some none, some none])), (2, .inr (.inl (0, 250))), (10, .inl (7, [none, none, some (some 11), none, none, none, none, none, none, none, none, none, some (some 12)])), (11, .inr (.inl (0, 48))), (12, .inr (.inl (0, 8))), (15, .inl (9, [some (some 16), some (some 17), none])), (16, .inr (.inl (0, 1920))), (17, .inr (.inl (0, 48))), (20, .inl (2, [some (some 15), some (some 21), some (some 22)])), (21, .inr (.inl (0, 16))), (22, .inr (.inl (0, 16))), (25, .inl (2, [some (some 15), some (some 26), some (some 27)])), (26, .inr (.inl (0, 16))), (27, .inr (.inl (0, 16))), (30, .inl (0, [none, none, none])), (33, .inr (.inr (2, 31))), (35, .inl (5, [some (some 36), none, none])), (36, .inr (.inl (0, 50))), (60, .inl (4, [some (some 61), some (some 62), some (some 63), some (some 64), none, none])), (61, .inr (.inl (0, 4))), (62, .inr (.inl (0, 40))), (63, .inr (.inl (0, 20))), (64, .inr (.inl (0, 20))), (40, .inl (8, [some (some 41), some (some 42), some (some 43), none, none, none, none])), (41, .inr (.inl (0, 3456))), (42, .inr (.inl (0, 3456))), (43, .inr (.inl (0, 60)))]
theorem nd_C_init_28 : nd WC_init_28 = true := by decide +kernel
abbrev WC_init_29 : Wl := [(0, .inl (10, [some (some 2), none, none, some (some 10), some (some 15), some (some 20), some (some 25), some (some 30), some (some 33), some (some 35), some (some 60), some (some 40), some none, some none])), (2, .inr (.inl (0, 250))), (10, .inl (7, [none, none, some (some 11), none, none, none, none, none, none, none, none, none, some (some 12)])), (11, .inr (.inl (0, 48))), (12, .inr (.inl (0, 8))), (15, .inl (9, [some (some 16), some (some 17), none])), (16, .inr (.inl (0, 1920))), (17, .inr (.inl (0, 48))), (20, .inl (2, [some (some 15), some (some 21), some (some 22)])), (21, .inr (.inl (0, 16))), (22, .inr (.inl (0, 16))), (25, .inl (2, [some (some 15), some (some 26), some (some 27)])), (26, .inr (.inl (0, 16))), (27, .inr (.inl (0, 16))), (30, .inl (0, [none, none, none])), (33, .inr (.inr (2, 31))), (35, .inl (5, [some (some 36), none, none])), (36, .inr (.inl (0, 50))), (60, .inl (4, [some (some 61), some (some 62), some (some 63), some (some 64), none, none])), (61, .inr (.inl (0, 4))), (62, .inr (.inl (0, 40))), (63, .inr (.inl (0, 20))), (64, .inr (.inl (0, 20))), (40, .inl (8, [some (some 41), some (some 42), some (some 43), none, none, none, none])), (41, .inr (.inl (0, 3456))), (42, .inr (.inl (0, 3456))), (43, .inr (.inl (0, 60))), (45, .inl (1, [some none, some none, some none, some none, none, none, none, none, none]))]
theorem nd_C_init_29 : nd WC_init_29 = true := by decide +kernel
abbrev WC_init_r132 : Wl := [(0, .inl (10, [some (some 2), none, none, some (some 10), some (some 15), some (some 20), some (some 25), some (some 30), some (some 33), some (some 35), some (some 60), some (some 40), some none, some none])), (2, .inr (.inl (0, 250))), (10, .inl (7, [none, none, some (some 11), none, none, none, none, none, none, none, none, none, some (some 12)])), (11, .inr (.inl (0, 48))), (12, .inr (.inl (0, 8))), (15, .inl (9, [some (some 16), some (some 17), none])), (16, .inr (.inl (0, 1920))), (17, .inr (.inl (0, 48))), (20, .inl (2, [some (some 15), some (some 21), some (some 22)])), (21, .inr (.inl (0, 16))), (22, .inr (.inl (0, 16))), (25, .inl (2, [some (some 15), some (some 26), some (some 27)])), (26, .inr (.inl (0, 16))), (27, .inr (.inl (0, 16))), (30, .inl (0, [none, none, none])), (33, .inr (.inr (2, 31))), (35, .inl (5, [some (some 36), none, none])), (36, .inr (.inl (0, 50))), (60, .inl (4, [some (some 61), some (some 62), some (some 63), some (some 64), none, none])), (61, .inr (.inl (0, 4))), (62, .inr (.inl (0, 40))), (63, .inr (.inl (0, 20))), (64, .inr (.inl (0, 20))), (40, .inl (8, [some (some 41), some (some 42), some (some 43), none, none, none, none])), (41, .inr (.inl (0, 3456))), (42, .inr (.inl (0, 3456))), (43, .inr (.inl (0, 60)))]
theorem nd_C_init_r132 : nd WC_init_r132 = true := by decide +kernel
abbrev WC_init_30 : Wl := [(0, .inl (10, [some (some 2), none, none, some (some 10), some (some 15), some (some 20), some (some 25), some (some 30), some (some 33), some (some 35), some (some 60), some (some 40), some none, some none])), (2, .inr (.inl (0, 250))), (10, .inl (7, [none, none, some (some 11), none, none, none, none, none, none, none, none, none, some (some 12)])), (11, .inr (.inl (0, 48))), (12, .inr (.inl (0, 8))), (15, .inl (9, [some (some 16), some (some 17), none])), (16, .inr (.inl (0, 1920))), (17, .inr (.inl (0, 48))), (20, .inl (2, [some (some 15), some (some 21), some (some 22)])), (21, .inr (.inl (0, 16))), (22, .inr (.inl (0, 16))), (25, .inl (2, [some (some 15), some (some 26), some (some 27)])), (26, .inr (.inl (0, 16))), (27, .inr (.inl (0, 16))), (30, .inl (0, [none, none, none])), (33, .inr (.inr (2, 31))), (35, .inl (5, [some (some 36), none, none])), (36, .inr (.inl (0, 50))), (60, .inl (4, [some (some 61), some (some 62), some (some 63), some (some 64), none, none])), (61, .inr (.inl (0, 4))), (62, .inr (.inl (0, 40))), (63, .inr (.inl (0, 20))), (64, .inr (.inl (0, 20))), (40, .inl (8, [some (some 41), some (some 42), some (some 43), none, none, none, none])), (41, .inr (.inl (0, 3456))), (42, .inr (.inl (0, 3456))), (43, .inr (.inl (0, 60))), (45, .inl (1, [some (some 46), some (some 47), some (some 48), some (some 49), none, none, none, none, none])), (46, .inr (.inl (0, 3456))), (47, .inr (.inl (0, 3456))), (48, .inr (.inl (0, 3456))), (49, .inr (.inl (0, 3456)))]
theorem nd_C_init_30 : nd WC_init_30 = true := by decide +kernel
abbrev WC_init_31 : Wl := [(0, .inl (10, [some (some 2), none, none, some (some 10), some (some 15), some (some 20), some (some 25), some (some 30), some (some 33), some (some 35), some (some 60), some (some 40), some (some 45), some none])), (2, .inr (.inl (0, 250))), (10, .inl (7, [none, none, some (some 11), none, none, none, none, none, none, none, none, none, some (some 12)])), (11, .inr (.inl (0, 48))), (12, .inr (.inl (0, 8))), (15, .inl (9, [some (some 16), some (some 17), none])), (16, .inr (.inl (0, 1920))), (17, .inr (.inl (0, 48))), (20, .inl (2, [some (some 15), some (some 21), some (some 22)])), (21, .inr (.inl (0, 16))), (22, .inr (.inl (0, 16))), (25, .inl (2, [some (some 15), some (some 26), some (some 27)])), (26, .inr (.inl (0, 16))), (27, .inr (.inl (0, 16))), (30, .inl (0, [none, none, none])), (33, .inr (.inr (2, 31))), (35, .inl (5, [some (some 36), none, none])), (36, .inr (.inl (0, 50))), (60, .inl (4, [some (some 61), some (some 62), some (some 63), some (some 64), none, none])), (61, .inr (.inl (0, 4))), (62, .inr (.inl (0, 40))), (63, .inr (.inl (0, 20))), (64, .inr (.inl (0, 20))), (40, .inl (8, [some (some 41), some (some 42), some (some 43), none, none, none, none])), (41, .inr (.inl (0, 3456))), (42, .inr (.inl (0, 3456))), (43, .inr (.inl (0, 60))), (45, .inl (1, [some (some 46), some (some 47), some (some 48), some (some 49), none, none, none, none, none])), (46, .inr (.inl (0, 3456))), (47, .inr (.inl (0, 3456))), (48, .inr (.inl (0, 3456))), (49, .inr (.inl (0, 3456)))]
theorem nd_C_init_31 : nd WC_init_31 = true := by decide +kernel
abbrev WC_init_32 : Wl := [(0, .inl (10, [some (some 2), none, none, some (some 10), some (some 15), some (some 20), some (some 25), some (some 30), some (some 33), some (some 35), some (some 60), some (some 40), some (some 45), some none])), (2, .inr (.inl (0, 250))), (10, .inl (7, [none, none, some (some 11), none, none, none, none, none, none, none, none, none, some (some 12)])), (11, .inr (.inl (0, 48))), (12, .inr (.inl (0, 8))), (15, .inl (9, [some (some 16), some (some 17), none])), (16, .inr (.inl (0, 1920))), (17, .inr (.inl (0, 48))), (20, .inl (2, [some (some 15), some (some 21), some (some 22)])), (21, .inr (.inl (0, 16))), (22, .inr (.inl (0, 16))), (25, .inl (2, [some (some 15), some (some 26), some (some 27)])), (26, .inr (.inl (0, 16))), (27, .inr (.inl (0, 16))), (30, .inl (0, [none, none, none])), (33, .inr (.inr (2, 31))), (35, .inl (5, [some (some 36), none, none])), (36, .inr (.inl (0, 50))), (60, .inl (4, [some (some 61), some (some 62), some (some 63), some (some 64), none, none])), (61, .inr (.inl (0, 4))), (62, .inr (.inl (0, 40))), (63, .inr (.inl (0, 20))), (64, .inr (.inl (0, 20))), (40, .inl (8, [some (some 41), some (some 42), some (some 43), none, none, none, none])), (41, .inr (.inl (0, 3456))), (42, .inr (.inl (0, 3456))), (43, .inr (.inl (0, 60))), (45, .inl (1, [some (some 46), some (some 47), some (some 48), some (some 49), none, none, none, none, none])), (46, .inr (.inl (0, 3456))), (47, .inr (.inl (0, 3456))), (48, .inr (.inl (0, 3456))), (49, .inr (.inl (0, 3456))), (55, .inl (3, [some none, none, none, none]))]
theorem nd_C_init_32 : nd WC_init_32 = true := by decide +kernel
abbrev WC_init_r143 : Wl := [(0, .inl (10, [some (some 2), none, none, some (some 10), some (some 15), some (some 20), some (some 25), some (some 30), some (some 33), some (some 35), some (some 60), some (some 40), some (some 45), some none])), (2, .inr (.inl (0, 250))), (10, .inl (7, [none, none, some (some 11), none, none, none, none, none, none, none, none, none, some (some 12)])), (11, .inr (.inl (0, 48))), (12, .inr (.inl (0, 8))), (15, .inl (9, [some (some 16), some (some 17), none])), (16, .inr (.inl (0, 1920))), (17, .inr (.inl (0, 48))), (20, .inl (2, [some (some 15), some (some 21), some (some 22)])), (21, .inr (.inl (0, 16))), (22, .inr (.inl (0, 16))), (25, .inl (2, [some (some 15), some (some 26), some (some 27)])), (26, .inr (.inl (0, 16))), (27, .inr (.inl (0, 16))), (30, .inl (0, [none, none, none])), (33, .inr (.inr (2, 31))), (35, .inl (5, [some (some 36), none, none])), (36, .inr (.inl (0, 50))), (60, .inl (4, [some (some 61), some (some 62), some (some 63), some (some 64), none, none])), (61, .inr (.inl (0, 4))), (62, .inr (.inl (0, 40))), (63, .inr (.inl (0, 20))), (64, .inr (.inl (0, 20))), (40, .inl (8, [some (some 41), some (some 42), some (some 43), none, none, none, none])), (41, .inr (.inl (0, 3456))), (42, .inr (.inl (0, 3456))), (43, .inr (.inl (0, 60))), (45, .inl (1, [some (some 46), some (some 47), some (some 48), some (some 49), none, none, none, none, none])), (46, .inr (.inl (0, 3456))), (47, .inr (.inl (0, 3456))), (48, .inr (.inl (0, 3456))), (49, .inr (.inl (0, 3456)))]
theorem nd_C_init_r143 : nd WC_init_r143 = true := by decide +kernel
abbrev WC_init_33 : Wl := [(0, .inl (10, [some (some 2), none, none, some (some 10), some (some 15), some (some 20), some (some 25), some (some 30), some (some 33), some (some 35), some (some 60), some (some 40), some (some 45), some none])), (2, .inr (.inl (0, 250))), (10, .inl (7, [none, none, some (some 11), none, none, none, none, none, none, none, none, none, some (some 12)])), (11, .inr (.inl (0, 48))), (12, .inr (.inl (0, 8))), (15, .inl (9, [some (some 16), some (some 17), none])), (16, .inr (.inl (0, 1920))), (17, .inr (.inl (0, 48))), (20, .inl (2, [some (some 15), some (some 21), some (some 22)])), (21, .inr (.inl (0, 16))), (22, .inr (.inl (0, 16))), (25, .inl (2, [some (some 15), some (some 26), some (some 27)])), (26, .inr (.inl (0, 16))), (27, .inr (.inl (0, 16))), (30, .inl (0, [none, none, none])), (33, .inr (.inr (2, 31))), (35, .inl (5, [some (some 36), none, none])), (36, .inr (.inl (0, 50))), (60, .inl (4, [some (some 61), some (some 62), some (some 63), some (some 64), none, none])), (61, .inr (.inl (0, 4))), (62, .inr (.inl (0, 40))), (63, .inr (.inl (0, 20))), (64, .inr (.inl (0, 20))), (40, .inl (8, [some (some 41), some (some 42), some (some 43), none, none, none, none])), (41, .inr (.inl (0, 3456))), (42, .inr (.inl (0, 3456))), (43, .inr (.inl (0, 60))), (45, .inl (1, [some (some 46), some (some 47), some (some 48), some (some 49), none, none, none, none, none])), (46, .inr (.inl (0, 3456))), (47, .inr (.inl (0, 3456))), (48, .inr (.inl (0, 3456))), (49, .inr (.inl (0, 3456))), (55, .inl (3, [some (some 56), none, none, none])), (56, .inr (.inl (0, 384)))]
theorem nd_C_init_33 : nd WC_init_33 = true := by decide +kernel
abbrev WC_init_34 : Wl := [(0, .inl (10, [some (some 2), none, none, some (some 10), some (some 15), some (some 20), some (some 25), some (some 30), some (some 33), some (some 35), some (some 60), some (some 40), some (some 45), some (some 55)])), (2, .inr (.inl (0, 250))), (10, .inl (7, [none, none, some (some 11), none, none, none, none, none, none, none, none, none, some (some 12)])), (11, .inr (.inl (0, 48))), (12, .inr (.inl (0, 8))), (15, .inl (9, [some (some 16), some (some 17), none])), (16, .inr (.inl (0, 1920))), (17, .inr (.inl (0, 48))), (20, .inl (2, [some (some 15), some (some 21), some (some 22)])), (21, .inr (.inl (0, 16))), (22, .inr (.inl (0, 16))), (25, .inl (2, [some (some 15), some (some 26), some (some 27)])), (26, .inr (.inl (0, 16))), (27, .inr (.inl (0, 16))), (30, .inl (0, [none, none, none])), (33, .inr (.inr (2, 31))), (35, .inl (5, [some (some 36), none, none])), (36, .inr (.inl (0, 50))), (60, .inl (4, [some (some 61), some (some 62), some (some 63), some (some 64), none, none])), (61, .inr (.inl (0, 4))), (62, .inr (.inl (0, 40))), (63, .inr (.inl (0, 20))), (64, .inr (.inl (0, 20))), (40, .inl (8, [some (some 41), some (some 42), some (some 43), none, none, none, none])), (41, .inr (.inl (0, 3456))), (42, .inr (.inl (0, 3456))), (43, .inr (.inl (0, 60))), (45, .inl (1, [some (some 46), some (some 47), some (some 48), some (some 49), none, none, none, none, none])), (46, .inr (.inl (0, 3456))), (47, .inr (.inl (0, 3456))), (48, .inr (.inl (0, 3456))), (49, .inr (.inl (0, 3456))), (55, .inl (3, [some (some 56), none, none, none])), (56, .inr (.inl (0, 384)))]
theorem nd_C_init_34 : nd WC_init_34 = true := by decide +kernel
abbrev WC_init_35 : Wl := [(0, .inl (10, [some (some 2), none, none, some (some 80), some (some 15), some (some 20), some (some 25), some (some 30), some (some 33), some (some 35), some (some 60), some (some 40), some (some 45), some (some 55)])), (2, .inr (.inl (0, 250))), (10, .inl (7, [none, none, some (some 11), none, none, none, none, none, none, none, none, none, some (some 12)])), (11, .inr (.inl (0, 48))), (12, .inr (.inl (0, 8))), (15, .inl (9, [some (some 16), some (some 17), none])), (16, .inr (.inl (0, 1920))), (17, .inr (.inl (0, 48))), (20, .inl (2, [some (some 15), some (some 21), some (some 22)])), (21, .inr (.inl (0, 16))), (22, .inr (.inl (0, 16))), (25, .inl (2, [some (some 15), some (some 26), some (some 27)])), (26, .inr (.inl (0, 16))), (27, .inr (.inl (0, 16))), (30, .inl (0, [none, none, none])), (33, .inr (.inr (2, 31))), (35, .inl (5, [some (some 36), none, none])), (36, .inr (.inl (0, 50))), (60, .inl (4, [some (some 61), some (some 62), some (some 63), some (some 64), none, none])), (61, .inr (.inl (0, 4))), (62, .inr (.inl (0, 40))), (63, .inr (.inl (0, 20))), (64, .inr (.inl (0, 20))), (40, .inl (8, [some (some 41), some (some 42), some (some 43), none, none, none, none])), (41, .inr (.inl (0, 3456))), (42, .inr (.inl (0, 3456))), (43, .inr (.inl (0, 60))), (45, .inl (1, [some (some 46), some (some 47), some (some 48), some (some 49), none, none, none, none, none])), (46, .inr (.inl (0, 3456))), (47, .inr (.inl (0, 3456))), (48, .inr (.inl (0, 3456))), (49, .inr (.inl (0, 3456))), (55, .inl (3, [some (some 56), none, none, none])), (56, .inr (.inl (0, 384)))]
theorem nd_C_init_35 : nd WC_init_35 = true := by decide +kernel
theorem sb_CrewR_C : subW WCrewR WC = true := by decide +kernel
theorem sb_WatersR_C : subW WWatersR WC = true := by decide +kernel
section INN
variable {p : Program} {l : Launch} {e : Env} {R : Room} {s : State} {m : MethodId} {args : Array Value} {below : List Frame} {meth : Method} {c : Code} {K : KT} {A : Nat → Prop} {rs : Wl} {nL cells slots : Nat} {Q : State → Prop} {pc : Nat} {L : List (Nat × Value)} {st : List Value} {ad : Nat → Nat} {h : Hp} {cc : ByteArray} {own : String}
theorem g_initNN (C0 : Cx p s m args meth c cc own nL K A) {y : MethodName} {b : ByteArray} {nC idx : Nat} {host : String} {rm : Room} {rs0 rs1 : Wl} {As rst st0 : List Value} {r mc ms : Nat} {h1 : Hp} (rest : Wl) (new keep ls : List Nat)
    (hM : ConN l y b nC rm K rs0 ad h (.ref (ad r) :: As) rs1 keep h1 mc ms) (n : Nat) (hy1 : y.name = "<init>") (hw : Cond.methodLinkNest own idx y host ∈ NB ∧ Cond.instanceMethod y ∈ TB ∧ Cond.initialized y.cls ∈ TB ∧ Cond.code y b nC none ∈ TB) (hd : cwd y n) (hR : rm.frames + 1 ≤ R.frames ∧ 8 + (nC + 11) + rm.locals ≤ R.locals ∧ rm.cells = mc ∧ rm.slots = ms ∧ cells + mc ≤ R.cells ∧ slots + ms ≤ R.slots)
    (hs : subW rs0 rs = true) (hn0 : nd rs0 = true) (hn : nd rs = true) (hrest : subW rest rs = true) (hnr : nd rest = true) (hap : rest.all (fun x => rs0.all (fun y => decide (x.1 ≠ y.1))) = true) (hls : rs1.map (fun x => x.1) = ls) (hdis : rest.all (fun x => decide (x.1 ∉ ls)) = true) (hfr : allR rest (fun r => decide (r ∉ new)) = true) (hcov : allR rs1 (fun r => decide (r ∈ keep) || decide (r ∈ new)) = true) (hkn : keep.all (fun r => decide (r ∉ new)) = true)
    (hst : st0 = As.reverse ++ .ref (ad r) :: rst) (hlen : As.length = n) (hcat : (rst.map fun v => v.category).sum ≤ 8) (hdg : decode cc pc = .ok (.invokespecial idx, 3))
    (k : ∀ ad' : Nat → Nat, (∀ y, y ∉ new → ad' y = ad y) → G p l e R s m args below meth c K A (rest ++ rs1) nL (cells + mc) (slots + ms) Q (pc + 3) L rst ad' (mx ls h1 h)) : G p l e R s m args below meth c K A rs nL cells slots Q pc L st0 ad h := by
  intro H locs lx g1 g2 g3 g4
  have ht := C0.2.2.2.2.1
  have hr := va_runIN (e := e) (below := below) (meth := meth) (As := As) (rest := rst) (Ts := TB) (nL := nL) (H := H) (locs := locs) (cells := cells) (slots := slots) (g := F0 m pc lx st0) ⟨C0.1, C0.2.1, C0.2.2.1, C0.2.2.2.1, ht⟩ (hM H.size) ⟨va_cnB n ht (TB_in hw.2.2.2) rfl hR.2.2.1 hR.2.2.2.1 (C0.2.2.2.2.2.2.2.1.1 _ hw.1) (ht _ hw.2.2.1) hd ⟨hR.1, hR.2.1⟩, hy1, ht _ hw.2.1⟩
    ⟨Pre_blind _ _ _ _ _ _, fun U hU hW => ⟨rfl, pre_of C0 hs hn0 g1 g2 g3 hU hW⟩⟩ rfl hlen g4.1 hst (lv_room hcat) hdg ⟨hR.2.2.2.2.1, hR.2.2.2.2.2⟩
  refine va_callv hr g3 (fun q _ hq => A_sub C0 hs g2 g3 q hq) (A_sub C0 hs g2 g3) ?_
  intro ad1 t H1 locs1 htp hvm hp hb hz hk hS
  obtain ⟨hkeep, hpost, hD1⟩ := hb
  obtain ⟨f1, f2⟩ := post_N (ad1 := ad1) (h1 := h1) C0 hs hrest hn hnr hap hls hdis hfr hcov hkn g1 g2 g3 hk hkeep (htp ▸ hpost.1) hD1
  exact k _ (fun y hy => by simp [hy]) H1 locs1 lx f1 f2 hS g4
end INN
def ConW (l : Launch) (y : MethodName) (b : ByteArray) (n : Nat) (rm : Room) (K : KT) (rs : Wl) (ad : Nat → Nat) (h : Hp) (av : List Value) (rs1 : Wl) (h1 : Hp) : Prop :=
  ∀ sz : Nat, Met l y (.code y b n none :: TB) rm (va_Pc av (Pre K rs ad h sz)) (va_Qv (fun (_ : Unit) => True) (fun _ t => Post K rs1 ad h1 t) (va_A (wd K.2.1 ad h rs) sz)) 0 0 (va_A (wd K.2.1 ad h rs) sz)
theorem g_callvW {p : Program} {l : Launch} {e : Env} {R : Room} {s : State} {m : MethodId} {args : Array Value} {below : List Frame} {meth : Method} {c : Code} {K : KT} {A : Nat → Prop} {rs : Wl} {nL cells slots : Nat} {Q : State → Prop} {pc : Nat} {L : List (Nat × Value)} {ad : Nat → Nat} {h : Hp} {cc : ByteArray} {own : String} (C0 : Cx p s m args meth c cc own nL K A) {rs0 rs1 rsN : Wl} {st0 rest : List Value} {h1 : Hp} (hn : nd rs = true) (ls : List Nat) (hls : rs1.map (fun x => x.1) = ls) (hls0 : rs0.map (fun x => x.1) = ls) (hs : subW rs0 rs = true)
    (hN : rsN.all (fun x => subW [x] rs1 || (subW [x] rs && decide (x.1 ∉ ls))) = true) (haddr : rsN.map (fun x => x.1) = rs.map (fun x => x.1))
    (hr : RunI p l e R s m args below meth c K A rs nL cells slots pc L ad h rs0 st0 rest (fun sz => va_Qv (fun (_ : Unit) => True) (fun _ t => Post K rs1 ad h1 t) (va_A (wd K.2.1 ad h rs0) sz)))
    (k : G p l e R s m args below meth c K A rsN nL cells slots Q (pc + 3) L rest ad (mx ls h1 h)) : G p l e R s m args below meth c K A rs nL cells slots Q pc L st0 ad h := by
  intro H locs lx g1 g2 g3 g4
  obtain ⟨a, hr⟩ := hr H locs lx g1 g2 g3 g4
  refine va_callv hr g3 (fun q _ hq => A_sub C0 hs g2 g3 q hq) (A_sub C0 hs g2 g3) ?_
  intro u t H1 locs1 ht hvm hp hb hz hk hS
  refine k H1 locs1 lx ?_ (vaD_addr g2 (wd_addr _ _ _ _ _ _ haddr)) hS g4
  refine join_core g1 hk (ht ▸ hb.1) ?_
  intro q hq
  obtain ⟨x, hx, rfl⟩ := List.mem_map.mp hq
  have hx2 := List.all_eq_true.mp hN x hx
  simp only [Bool.or_eq_true, Bool.and_eq_true, decide_eq_true_eq] at hx2
  rcases hx2 with hx2 | ⟨hx2, hx3⟩
  · left
    have hx4 := subW_mem hx2 List.mem_cons_self
    have hm : x.1 ∈ ls := hls ▸ List.mem_map.mpr ⟨x, hx4, rfl⟩
    exact List.mem_map.mpr ⟨x, hx4, by simp [wc, mx, hm]⟩
  · right
    have hx4 := subW_mem hx2 List.mem_cons_self
    refine ⟨List.mem_map.mpr ⟨x, hx4, by simp [wc, mx, hx3]⟩, ?_⟩
    intro q' hq' he
    obtain ⟨z, hz, rfl⟩ := List.mem_map.mp hq'
    obtain ⟨i, hi⟩ := List.getElem?_of_mem (subW_mem hs hz)
    obtain ⟨j, hj⟩ := List.getElem?_of_mem hx4
    have e1 := g2.1 i j _ _ (wd_at (dA := K.2.1) (ad := ad) (h := h) hi) (wd_at (dA := K.2.1) (ad := ad) (h := h) hj) he
    subst e1
    rw [hi] at hj
    have e2 : z = x := Option.some.inj hj
    exact hx3 (hls0 ▸ List.mem_map.mpr ⟨x, e2 ▸ hz, rfl⟩)
def K_C_goOnTo_L43 (N : Nat) (x2 : Int32) (h : Hp) : Option ((Int32 × Hp) ⊕ (Hp)) :=
   if 2 ≤ x2 then ( some (.inr h)) else (sA 2 x2 <| nm (hset h 33 (Int32.toNatClampNeg x2) 0) <| fun h58 => nm (x2 + 1) <| fun v59 => some (.inl (v59, h58)))
def K_C_goOnTo (N : Nat) (h : Hp) : Option (Hp) :=
  bd (K_Waters_chart N h) <| fun h10 => nm (mx [15, 16, 17, 10, 11, 12] h10 h) <| fun h10m => bd (K_Crew_take N 0 h10m) <| fun h19 => nm (mx [20, 21, 22, 15, 16, 17, 10, 11, 12] h19 h10m) <| fun h19m => nm (hset h19m 30 0 (h19m 10 7)) <| fun h30 => nm (hset h30 30 1 0) <| fun h38 => bd (loopN (fun z_ : Int32 × Hp => K_C_goOnTo_L43 N z_.1 z_.2) N (0, h38)) <| fun t43 => bd (K_Log_forget t43) <| fun h69 => nm (mx [35, 36] h69 t43) <| fun h69m => bd (K_Lines_empty h69m) <| fun h76 => nm (mx [60, 61, 62, 63, 64, 20, 21, 22, 15, 16, 17] h76 h69m) <| fun h76m => bd (K_Search_forget h76m) <| fun h83 => nm (mx [40, 41, 42, 43, 10, 11, 12, 20, 21, 22, 15, 16, 17] h83 h76m) <| fun h83m => bd (K_Calling_forget h83m) <| fun h90 => nm (mx [45, 46, 47, 48, 49, 10, 11, 12, 20, 21, 22, 15, 16, 17] h90 h83m) <| fun h90m => bd (K_Gusts_forget h90m) <| fun h97 => nm (mx [55, 56, 10, 11, 12, 20, 21, 22, 15, 16, 17] h97 h90m) <| fun h97m => some h97m
abbrev y_C_goOnTo : MethodName := ⟨"CanoeSides", "goOnTo", "(LCanoeSides$River;)V"⟩
abbrev rm_C_goOnTo : Room := { frames := 4, cells := 0, slots := 0, locals := 96 }
theorem cd_C_goOnTo : cwd y_C_goOnTo 1 := by decide +kernel
theorem d_C_goOnTo_0 : decode prog_1_method_41_code 0 = .ok (.aload_n 0, 1) := by decide +kernel
theorem d_C_goOnTo_1 : decode prog_1_method_41_code 1 = .ok (.aload_n 1, 1) := by decide +kernel
theorem d_C_goOnTo_2 : decode prog_1_method_41_code 2 = .ok (.putfield 23, 3) := by decide +kernel
theorem d_C_goOnTo_5 : decode prog_1_method_41_code 5 = .ok (.aload_n 0, 1) := by decide +kernel
theorem d_C_goOnTo_6 : decode prog_1_method_41_code 6 = .ok (.getfield 30, 3) := by decide +kernel
theorem d_C_goOnTo_9 : decode prog_1_method_41_code 9 = .ok (.aload_n 1, 1) := by decide +kernel
theorem d_C_goOnTo_10 : decode prog_1_method_41_code 10 = .ok (.invokevirtual 295, 3) := by decide +kernel
theorem d_C_goOnTo_13 : decode prog_1_method_41_code 13 = .ok (.aload_n 0, 1) := by decide +kernel
theorem d_C_goOnTo_14 : decode prog_1_method_41_code 14 = .ok (.getfield 39, 3) := by decide +kernel
theorem d_C_goOnTo_17 : decode prog_1_method_41_code 17 = .ok (.aload_n 1, 1) := by decide +kernel
theorem d_C_goOnTo_18 : decode prog_1_method_41_code 18 = .ok (.iconst 0, 1) := by decide +kernel
theorem d_C_goOnTo_19 : decode prog_1_method_41_code 19 = .ok (.invokevirtual 234, 3) := by decide +kernel
theorem d_C_goOnTo_22 : decode prog_1_method_41_code 22 = .ok (.aload_n 0, 1) := by decide +kernel
theorem d_C_goOnTo_23 : decode prog_1_method_41_code 23 = .ok (.getfield 49, 3) := by decide +kernel
theorem d_C_goOnTo_26 : decode prog_1_method_41_code 26 = .ok (.aload_n 1, 1) := by decide +kernel
theorem d_C_goOnTo_27 : decode prog_1_method_41_code 27 = .ok (.getfield 298, 3) := by decide +kernel
theorem d_C_goOnTo_30 : decode prog_1_method_41_code 30 = .ok (.putfield 152, 3) := by decide +kernel
theorem d_C_goOnTo_33 : decode prog_1_method_41_code 33 = .ok (.aload_n 0, 1) := by decide +kernel
theorem d_C_goOnTo_34 : decode prog_1_method_41_code 34 = .ok (.getfield 49, 3) := by decide +kernel
theorem d_C_goOnTo_37 : decode prog_1_method_41_code 37 = .ok (.iconst 0, 1) := by decide +kernel
theorem d_C_goOnTo_38 : decode prog_1_method_41_code 38 = .ok (.putfield 183, 3) := by decide +kernel
theorem d_C_goOnTo_41 : decode prog_1_method_41_code 41 = .ok (.iconst 0, 1) := by decide +kernel
theorem d_C_goOnTo_42 : decode prog_1_method_41_code 42 = .ok (.istore_n 2, 1) := by decide +kernel
theorem d_C_goOnTo_43 : decode prog_1_method_41_code 43 = .ok (.iload_n 2, 1) := by decide +kernel
theorem d_C_goOnTo_44 : decode prog_1_method_41_code 44 = .ok (.aload_n 0, 1) := by decide +kernel
theorem d_C_goOnTo_45 : decode prog_1_method_41_code 45 = .ok (.getfield 53, 3) := by decide +kernel
theorem d_C_goOnTo_48 : decode prog_1_method_41_code 48 = .ok (.arraylength, 1) := by decide +kernel
theorem d_C_goOnTo_49 : decode prog_1_method_41_code 49 = .ok (.if_icmp .ge 16, 3) := by decide +kernel
theorem d_C_goOnTo_52 : decode prog_1_method_41_code 52 = .ok (.aload_n 0, 1) := by decide +kernel
theorem d_C_goOnTo_53 : decode prog_1_method_41_code 53 = .ok (.getfield 53, 3) := by decide +kernel
theorem d_C_goOnTo_56 : decode prog_1_method_41_code 56 = .ok (.iload_n 2, 1) := by decide +kernel
theorem d_C_goOnTo_57 : decode prog_1_method_41_code 57 = .ok (.aconst_null, 1) := by decide +kernel
theorem d_C_goOnTo_58 : decode prog_1_method_41_code 58 = .ok (.aastore, 1) := by decide +kernel
theorem d_C_goOnTo_59 : decode prog_1_method_41_code 59 = .ok (.iinc 2 1, 3) := by decide +kernel
theorem d_C_goOnTo_62 : decode prog_1_method_41_code 62 = .ok (.goto (-19), 3) := by decide +kernel
theorem d_C_goOnTo_65 : decode prog_1_method_41_code 65 = .ok (.aload_n 0, 1) := by decide +kernel
theorem d_C_goOnTo_66 : decode prog_1_method_41_code 66 = .ok (.getfield 60, 3) := by decide +kernel
theorem d_C_goOnTo_69 : decode prog_1_method_41_code 69 = .ok (.invokevirtual 283, 3) := by decide +kernel
theorem d_C_goOnTo_72 : decode prog_1_method_41_code 72 = .ok (.aload_n 0, 1) := by decide +kernel
theorem d_C_goOnTo_73 : decode prog_1_method_41_code 73 = .ok (.getfield 67, 3) := by decide +kernel
theorem d_C_goOnTo_76 : decode prog_1_method_41_code 76 = .ok (.invokevirtual 272, 3) := by decide +kernel
theorem d_C_goOnTo_79 : decode prog_1_method_41_code 79 = .ok (.aload_n 0, 1) := by decide +kernel
theorem d_C_goOnTo_80 : decode prog_1_method_41_code 80 = .ok (.getfield 74, 3) := by decide +kernel
theorem d_C_goOnTo_83 : decode prog_1_method_41_code 83 = .ok (.invokevirtual 301, 3) := by decide +kernel
theorem d_C_goOnTo_86 : decode prog_1_method_41_code 86 = .ok (.aload_n 0, 1) := by decide +kernel
theorem d_C_goOnTo_87 : decode prog_1_method_41_code 87 = .ok (.getfield 81, 3) := by decide +kernel
theorem d_C_goOnTo_90 : decode prog_1_method_41_code 90 = .ok (.invokevirtual 302, 3) := by decide +kernel
theorem d_C_goOnTo_93 : decode prog_1_method_41_code 93 = .ok (.aload_n 0, 1) := by decide +kernel
theorem d_C_goOnTo_94 : decode prog_1_method_41_code 94 = .ok (.getfield 88, 3) := by decide +kernel
theorem d_C_goOnTo_97 : decode prog_1_method_41_code 97 = .ok (.invokevirtual 303, 3) := by decide +kernel
theorem d_C_goOnTo_100 : decode prog_1_method_41_code 100 = .ok (.return_, 1) := by decide +kernel
theorem w_C_goOnTo_L43 {p : Program} {l : Launch} {e : Env} {s : State} {m : MethodId} {args : Array Value} {below : List Frame} {meth : Method} {c : Code} {K : KT} {A : Nat → Prop} {Q : State → Prop} (C0 : Cx p s m args meth c prog_1_method_41_code "CanoeSides" 3 K A) (hr : meth.sig.returnType = (Option.none : Option Jvm.ClassFile.FieldType)) {ad : Nat → Nat} (N : Nat) (x2 : Int32) (h : Hp) {x_ : (Int32 × Hp) ⊕ (Hp)} (hE : K_C_goOnTo_L43 N x2 h = some x_) (hk1 : ∀ z_, x_ = .inl z_ → G p l e rm_C_goOnTo s m args below meth c K A WC 3 0 0 Q 43 [(0, .ref (ad 0)), (2, .int z_.1)] [] ad z_.2) (hk3 : ∀ z_, x_ = .inr z_ → G p l e rm_C_goOnTo s m args below meth c K A WC 3 0 0 Q 65 [(0, .ref (ad 0))] [] ad z_) : G p l e rm_C_goOnTo s m args below meth c K A WC 3 0 0 Q 43 [(0, .ref (ad 0)), (2, .int x2)] [] ad h := by
  unfold K_C_goOnTo_L43 at hE
  refine g_iload_n C0 1 d_C_goOnTo_43 rfl rfl ?_
  refine g_aload_n C0 0 d_C_goOnTo_44 rfl rfl ?_
  refine g_getr C0 CK_10 8 (by decide) t_460 0 rfl rfl d_C_goOnTo_45 ?_
  refine g_qlen C0 15 rfl (v := 2) (by decide) d_C_goOnTo_48 ?_
  have hB := ite_some hE
  refine g_icmp_ge C0 (tgt := 65) d_C_goOnTo_49 (by decide) (fun c_ => ?_) (fun c_ => ?_)
  · replace hE := hB.1 c_
    refine g_sub [0] (L' := [(0, .ref (ad 0))]) rfl ?_
    exact hk3 _ (Option.some.inj hE).symm
  · replace hE := hB.2 c_
    refine g_aload_n C0 0 d_C_goOnTo_52 rfl rfl ?_
    refine g_getr C0 CK_10 8 (by decide) t_460 0 rfl rfl d_C_goOnTo_53 ?_
    refine g_iload_n C0 1 d_C_goOnTo_56 rfl rfl ?_
    refine g_null C0 d_C_goOnTo_57 ?_
    obtain ⟨q58, hE⟩ := sA_some hE
    obtain ⟨h58, e58, hE⟩ := nm_some hE
    refine g_aastN C0 15 rfl nd_C q58 d_C_goOnTo_58 ?_
    refine g_heap e58 ?_
    obtain ⟨v59, e59, hE⟩ := nm_some hE
    refine g_iinc C0 1 [(2, .int v59), (0, .ref (ad 0))] d_C_goOnTo_59 rfl (by rw [e59]; rfl) (by decide) rfl ?_
    refine g_goto C0 (tgt := 43) d_C_goOnTo_62 (by decide) ?_
    refine g_sub [1, 0] (L' := [(0, .ref (ad 0)), (2, .int v59)]) rfl ?_
    exact hk1 _ (Option.some.inj hE).symm
theorem w_C_goOnTo {p : Program} {l : Launch} {e : Env} {s : State} {m : MethodId} {args : Array Value} {below : List Frame} {meth : Method} {c : Code} {K : KT} {A : Nat → Prop} (C0 : Cx p s m args meth c prog_1_method_41_code "CanoeSides" 3 K A) (hr : meth.sig.returnType = (Option.none : Option Jvm.ClassFile.FieldType)) {ad : Nat → Nat} (N : Nat) (h : Hp) {res : Hp} (hE : K_C_goOnTo N h = some res) : G p l e rm_C_goOnTo s m args below meth c K A WCg 3 0 0 (QV s args below K A WC 0 0 ad res) 0 [(0, .ref (ad 0)), (1, .ref (ad 10))] [] ad h := by
  unfold K_C_goOnTo at hE
  refine g_aload_n C0 0 d_C_goOnTo_0 rfl rfl ?_
  refine g_aload_n C0 1 d_C_goOnTo_1 rfl rfl ?_
  refine g_putr C0 CK_10 CT_10 3 (by decide) t_455 rfl (CT_10.1 3 (by decide)) nd_Cg 0 rfl rfl WC rfl (by decide) rfl d_C_goOnTo_2 ?_
  refine g_aload_n C0 0 d_C_goOnTo_5 rfl rfl ?_
  refine g_getr C0 CK_10 4 (by decide) t_456 0 rfl rfl d_C_goOnTo_6 ?_
  refine g_aload_n C0 1 d_C_goOnTo_9 rfl rfl ?_
  obtain ⟨h10, z10, hE⟩ := bd_some hE
  refine g_callv C0 nd_C [15, 16, 17, 10, 11, 12] rfl (sb_WatersR_C) (runV C0 (m_Waters_chart l K ad h N z10) 1 rfl ⟨t_382, t_383, t_384, t_88, t_385⟩ cd_Waters_chart (by decide) 5 rfl rfl (sb_WatersR_C) nd_WatersR rfl rfl (Nat.le_of_ble_eq_true rfl) d_C_goOnTo_10) ?_
  obtain ⟨h10m, e10, hE⟩ := nm_some hE
  refine g_heap e10 ?_
  refine g_aload_n C0 0 d_C_goOnTo_13 rfl rfl ?_
  refine g_getr C0 CK_10 5 (by decide) t_457 0 rfl rfl d_C_goOnTo_14 ?_
  refine g_aload_n C0 1 d_C_goOnTo_17 rfl rfl ?_
  refine g_iconst C0 (v := 0) d_C_goOnTo_18 (by decide) ?_
  obtain ⟨h19, z19, hE⟩ := bd_some hE
  refine g_callv C0 nd_C [20, 21, 22, 15, 16, 17, 10, 11, 12] rfl (sb_CrewR_C) (runV C0 (m_Crew_take l K ad h10m N 0 z19) 2 rfl ⟨t_418, t_419, t_420, t_89, t_421⟩ cd_Crew_take (by decide) 8 rfl rfl (sb_CrewR_C) nd_CrewR rfl rfl (Nat.le_of_ble_eq_true rfl) d_C_goOnTo_19) ?_
  obtain ⟨h19m, e19, hE⟩ := nm_some hE
  refine g_heap e19 ?_
  refine g_aload_n C0 0 d_C_goOnTo_22 rfl rfl ?_
  refine g_getr C0 CK_10 7 (by decide) t_459 0 rfl rfl d_C_goOnTo_23 ?_
  refine g_aload_n C0 1 d_C_goOnTo_26 rfl rfl ?_
  refine g_getiN C0 CK_7 7 (by decide) t_146 2 rfl rfl d_C_goOnTo_27 ?_
  obtain ⟨h30, e30, hE⟩ := nm_some hE
  refine g_putiN C0 CK_0 CT_0 0 (by decide) t_235 rfl (by decide +kernel) nd_C 14 rfl rfl d_C_goOnTo_30 ?_
  refine g_heap e30 ?_
  refine g_aload_n C0 0 d_C_goOnTo_33 rfl rfl ?_
  refine g_getr C0 CK_10 7 (by decide) t_459 0 rfl rfl d_C_goOnTo_34 ?_
  refine g_iconst C0 (v := 0) d_C_goOnTo_37 (by decide) ?_
  obtain ⟨h38, e38, hE⟩ := nm_some hE
  refine g_putiN C0 CK_0 CT_0 1 (by decide) t_237 rfl (by decide +kernel) nd_C 14 rfl rfl d_C_goOnTo_38 ?_
  refine g_heap e38 ?_
  refine g_iconst C0 (v := 0) d_C_goOnTo_41 (by decide) ?_
  refine g_istore_n C0 [(2, .int 0), (0, .ref (ad 0)), (1, .ref (ad 10))] d_C_goOnTo_42 rfl (by decide) rfl ?_
  refine g_sub [1, 0] (L' := [(0, .ref (ad 0)), (2, .int 0)]) rfl ?_
  obtain ⟨t43, z43, hE⟩ := bd_some hE
  refine loopG (fun z_ : Int32 × Hp => K_C_goOnTo_L43 N z_.1 z_.2) (fun z_ : Int32 × Hp => G p l e rm_C_goOnTo s m args below meth c K A WC 3 0 0 _ 43 [(0, .ref (ad 0)), (2, .int z_.1)] [] ad z_.2) (fun z_ : Hp => G p l e rm_C_goOnTo s m args below meth c K A WC 3 0 0 _ 65 [(0, .ref (ad 0))] [] ad z_) (fun z_ x_ hz k1 k2 => w_C_goOnTo_L43 C0 hr N z_.1 z_.2 hz k1 k2) _ _ _ z43 ?_
  try dsimp only
  refine g_aload_n C0 0 d_C_goOnTo_65 rfl rfl ?_
  refine g_getr C0 CK_10 9 (by decide) t_461 0 rfl rfl d_C_goOnTo_66 ?_
  obtain ⟨h69, z69, hE⟩ := bd_some hE
  refine g_callv C0 nd_C [35, 36] rfl (sb_Log_C) (runV C0 (m_Log_forget l K ad t43 z69) 0 rfl ⟨t_432, t_433, t_434, t_91, t_435⟩ cd_Log_forget (by decide) 16 rfl rfl (sb_Log_C) nd_Log rfl rfl (Nat.le_of_ble_eq_true rfl) d_C_goOnTo_69) ?_
  obtain ⟨h69m, e69, hE⟩ := nm_some hE
  refine g_heap e69 ?_
  refine g_aload_n C0 0 d_C_goOnTo_72 rfl rfl ?_
  refine g_getr C0 CK_10 10 (by decide) t_462 0 rfl rfl d_C_goOnTo_73 ?_
  obtain ⟨h76, z76, hE⟩ := bd_some hE
  refine g_callv C0 nd_C [60, 61, 62, 63, 64, 20, 21, 22, 15, 16, 17] rfl (sb_Lines_C) (runV C0 (m_Lines_empty l K ad h69m z76) 0 rfl ⟨t_436, t_437, t_438, t_92, t_439⟩ cd_Lines_empty (by decide) 29 rfl rfl (sb_Lines_C) nd_Lines rfl rfl (Nat.le_of_ble_eq_true rfl) d_C_goOnTo_76) ?_
  obtain ⟨h76m, e76, hE⟩ := nm_some hE
  refine g_heap e76 ?_
  refine g_aload_n C0 0 d_C_goOnTo_79 rfl rfl ?_
  refine g_getr C0 CK_10 11 (by decide) t_463 0 rfl rfl d_C_goOnTo_80 ?_
  obtain ⟨h83, z83, hE⟩ := bd_some hE
  refine g_callv C0 nd_C [40, 41, 42, 43, 10, 11, 12, 20, 21, 22, 15, 16, 17] rfl (sb_Search_C) (runV C0 (m_Search_forget l K ad h76m z83) 0 rfl ⟨t_440, t_441, t_442, t_93, t_443⟩ cd_Search_forget (by decide) 18 rfl rfl (sb_Search_C) nd_Search rfl rfl (Nat.le_of_ble_eq_true rfl) d_C_goOnTo_83) ?_
  obtain ⟨h83m, e83, hE⟩ := nm_some hE
  refine g_heap e83 ?_
  refine g_aload_n C0 0 d_C_goOnTo_86 rfl rfl ?_
  refine g_getr C0 CK_10 12 (by decide) t_464 0 rfl rfl d_C_goOnTo_87 ?_
  obtain ⟨h90, z90, hE⟩ := bd_some hE
  refine g_callv C0 nd_C [45, 46, 47, 48, 49, 10, 11, 12, 20, 21, 22, 15, 16, 17] rfl (sb_Calling_C) (runV C0 (m_Calling_forget l K ad h83m z90) 0 rfl ⟨t_444, t_445, t_446, t_94, t_447⟩ cd_Calling_forget (by decide) 22 rfl rfl (sb_Calling_C) nd_Calling rfl rfl (Nat.le_of_ble_eq_true rfl) d_C_goOnTo_90) ?_
  obtain ⟨h90m, e90, hE⟩ := nm_some hE
  refine g_heap e90 ?_
  refine g_aload_n C0 0 d_C_goOnTo_93 rfl rfl ?_
  refine g_getr C0 CK_10 13 (by decide) t_465 0 rfl rfl d_C_goOnTo_94 ?_
  obtain ⟨h97, z97, hE⟩ := bd_some hE
  refine g_callv C0 nd_C [55, 56, 10, 11, 12, 20, 21, 22, 15, 16, 17] rfl (sb_Gusts_C) (runV C0 (m_Gusts_forget l K ad h90m z97) 0 rfl ⟨t_448, t_449, t_450, t_95, t_451⟩ cd_Gusts_forget (by decide) 27 rfl rfl (sb_Gusts_C) nd_Gusts rfl rfl (Nat.le_of_ble_eq_true rfl) d_C_goOnTo_97) ?_
  obtain ⟨h97m, e97, hE⟩ := nm_some hE
  refine g_heap e97 ?_
  obtain rfl := Option.some.inj hE
  exact g_vret C0 hr d_C_goOnTo_100
theorem m_C_goOnTo (l : Launch) (K : KT) (ad : Nat → Nat) (h : Hp) (N : Nat) {res : Hp} (hE : K_C_goOnTo N h = some res) : ConW l y_C_goOnTo prog_1_method_41_code 3 rm_C_goOnTo K WCg ad h [.ref (ad 0), .ref (ad 10)] WC res := fun sz =>
  con_start [(0, .ref (ad 0)), (1, .ref (ad 10))] (by decide +kernel) rfl (Nat.le_of_ble_eq_true rfl) (fun p e s m args below meth c C0 hr hnm hsz => w_C_goOnTo C0 hr N h hE)
def K_C_init (N : Nat) (h : Hp) : Option Hp :=
  nm (hrow h 2 (fun _ => 0)) <| fun h8 => nm (hset h8 0 1 0) <| fun h15 => nm (hset h15 0 2 (-1)) <| fun h20 => nm (hrow h20 10 (fun _ => 0)) <| fun h24 => bd (K_River_init h24) <| fun h28 => nm (mx [10, 11, 12] h28 h24) <| fun h28m => nm (hrow h28m 15 (fun _ => 0)) <| fun h35 => bd (K_Waters_init h35) <| fun h39 => nm (mx [15, 16, 17] h39 h35) <| fun h39m => nm (hrow h39m 20 (fun _ => 0)) <| fun h46 => bd (K_Crew_init h46) <| fun h54 => nm (mx [20, 21, 22] h54 h46) <| fun h54m => nm (hrow h54m 25 (fun _ => 0)) <| fun h61 => bd (K_Three_init h61) <| fun h69 => nm (mx [25, 26, 27] h69 h61) <| fun h69m => nm (hrow h69m 30 (fun _ => 0)) <| fun h76 => bd (K_Boat_init h76) <| fun h80 => nm (mx [30] h80 h76) <| fun h80m => nm (hrow h80m 33 (fun _ => 0)) <| fun h88 => nm (hrow h88 35 (fun _ => 0)) <| fun h95 => bd (K_Log_init h95) <| fun h99 => nm (mx [35, 36] h99 h95) <| fun h99m => nm (hrow h99m 60 (fun _ => 0)) <| fun h106 => bd (K_Lines_init h106) <| fun h110 => nm (mx [60, 61, 62, 63, 64] h110 h106) <| fun h110m => nm (hrow h110m 40 (fun _ => 0)) <| fun h117 => bd (K_Search_init h117) <| fun h121 => nm (mx [40, 41, 42, 43] h121 h117) <| fun h121m => nm (hrow h121m 45 (fun _ => 0)) <| fun h128 => bd (K_Calling_init h128) <| fun h132 => nm (mx [45, 46, 47, 48, 49] h132 h128) <| fun h132m => nm (hrow h132m 55 (fun _ => 0)) <| fun h139 => bd (K_Gusts_init h139) <| fun h143 => nm (mx [55, 56] h143 h139) <| fun h143m => bd (K_C_goOnTo N h143m) <| fun h154 => nm (mx [0, 2, 10, 11, 12, 15, 16, 17, 20, 21, 22, 25, 26, 27, 30, 33, 35, 36, 40, 41, 42, 43, 45, 46, 47, 48, 49, 55, 56, 60, 61, 62, 63, 64] h154 h143m) <| fun h154m => some h154m
abbrev y_C_init : MethodName := ⟨"CanoeSides", "<init>", "()V"⟩
theorem cd_C_init : cwd y_C_init 0 := by decide +kernel
theorem d_C_init_0 : decode prog_1_method_1_code 0 = .ok (.aload_n 0, 1) := by decide +kernel
theorem d_C_init_1 : decode prog_1_method_1_code 1 = .ok (.invokespecial 1, 3) := by decide +kernel
theorem d_C_init_4 : decode prog_1_method_1_code 4 = .ok (.aload_n 0, 1) := by decide +kernel
theorem d_C_init_5 : decode prog_1_method_1_code 5 = .ok (.sipush 250, 3) := by decide +kernel
theorem d_C_init_8 : decode prog_1_method_1_code 8 = .ok (.newarray .int, 2) := by decide +kernel
theorem d_C_init_10 : decode prog_1_method_1_code 10 = .ok (.putfield 9, 3) := by decide +kernel
theorem d_C_init_13 : decode prog_1_method_1_code 13 = .ok (.aload_n 0, 1) := by decide +kernel
theorem d_C_init_14 : decode prog_1_method_1_code 14 = .ok (.iconst 0, 1) := by decide +kernel
theorem d_C_init_15 : decode prog_1_method_1_code 15 = .ok (.putfield 13, 3) := by decide +kernel
theorem d_C_init_18 : decode prog_1_method_1_code 18 = .ok (.aload_n 0, 1) := by decide +kernel
theorem d_C_init_19 : decode prog_1_method_1_code 19 = .ok (.iconst (-1), 1) := by decide +kernel
theorem d_C_init_20 : decode prog_1_method_1_code 20 = .ok (.putfield 17, 3) := by decide +kernel
theorem d_C_init_23 : decode prog_1_method_1_code 23 = .ok (.aload_n 0, 1) := by decide +kernel
theorem d_C_init_24 : decode prog_1_method_1_code 24 = .ok (.new 20, 3) := by decide +kernel
theorem d_C_init_27 : decode prog_1_method_1_code 27 = .ok (.dup, 1) := by decide +kernel
theorem d_C_init_28 : decode prog_1_method_1_code 28 = .ok (.invokespecial 22, 3) := by decide +kernel
theorem d_C_init_31 : decode prog_1_method_1_code 31 = .ok (.putfield 23, 3) := by decide +kernel
theorem d_C_init_34 : decode prog_1_method_1_code 34 = .ok (.aload_n 0, 1) := by decide +kernel
theorem d_C_init_35 : decode prog_1_method_1_code 35 = .ok (.new 27, 3) := by decide +kernel
theorem d_C_init_38 : decode prog_1_method_1_code 38 = .ok (.dup, 1) := by decide +kernel
theorem d_C_init_39 : decode prog_1_method_1_code 39 = .ok (.invokespecial 29, 3) := by decide +kernel
theorem d_C_init_42 : decode prog_1_method_1_code 42 = .ok (.putfield 30, 3) := by decide +kernel
theorem d_C_init_45 : decode prog_1_method_1_code 45 = .ok (.aload_n 0, 1) := by decide +kernel
theorem d_C_init_46 : decode prog_1_method_1_code 46 = .ok (.new 34, 3) := by decide +kernel
theorem d_C_init_49 : decode prog_1_method_1_code 49 = .ok (.dup, 1) := by decide +kernel
theorem d_C_init_50 : decode prog_1_method_1_code 50 = .ok (.aload_n 0, 1) := by decide +kernel
theorem d_C_init_51 : decode prog_1_method_1_code 51 = .ok (.getfield 30, 3) := by decide +kernel
theorem d_C_init_54 : decode prog_1_method_1_code 54 = .ok (.invokespecial 36, 3) := by decide +kernel
theorem d_C_init_57 : decode prog_1_method_1_code 57 = .ok (.putfield 39, 3) := by decide +kernel
theorem d_C_init_60 : decode prog_1_method_1_code 60 = .ok (.aload_n 0, 1) := by decide +kernel
theorem d_C_init_61 : decode prog_1_method_1_code 61 = .ok (.new 34, 3) := by decide +kernel
theorem d_C_init_64 : decode prog_1_method_1_code 64 = .ok (.dup, 1) := by decide +kernel
theorem d_C_init_65 : decode prog_1_method_1_code 65 = .ok (.aload_n 0, 1) := by decide +kernel
theorem d_C_init_66 : decode prog_1_method_1_code 66 = .ok (.getfield 30, 3) := by decide +kernel
theorem d_C_init_69 : decode prog_1_method_1_code 69 = .ok (.invokespecial 36, 3) := by decide +kernel
theorem d_C_init_72 : decode prog_1_method_1_code 72 = .ok (.putfield 43, 3) := by decide +kernel
theorem d_C_init_75 : decode prog_1_method_1_code 75 = .ok (.aload_n 0, 1) := by decide +kernel
theorem d_C_init_76 : decode prog_1_method_1_code 76 = .ok (.new 46, 3) := by decide +kernel
theorem d_C_init_79 : decode prog_1_method_1_code 79 = .ok (.dup, 1) := by decide +kernel
theorem d_C_init_80 : decode prog_1_method_1_code 80 = .ok (.invokespecial 48, 3) := by decide +kernel
theorem d_C_init_83 : decode prog_1_method_1_code 83 = .ok (.putfield 49, 3) := by decide +kernel
theorem d_C_init_86 : decode prog_1_method_1_code 86 = .ok (.aload_n 0, 1) := by decide +kernel
theorem d_C_init_87 : decode prog_1_method_1_code 87 = .ok (.iconst 2, 1) := by decide +kernel
theorem d_C_init_88 : decode prog_1_method_1_code 88 = .ok (.anewarray 46, 3) := by decide +kernel
theorem d_C_init_91 : decode prog_1_method_1_code 91 = .ok (.putfield 53, 3) := by decide +kernel
theorem d_C_init_94 : decode prog_1_method_1_code 94 = .ok (.aload_n 0, 1) := by decide +kernel
theorem d_C_init_95 : decode prog_1_method_1_code 95 = .ok (.new 57, 3) := by decide +kernel
theorem d_C_init_98 : decode prog_1_method_1_code 98 = .ok (.dup, 1) := by decide +kernel
theorem d_C_init_99 : decode prog_1_method_1_code 99 = .ok (.invokespecial 59, 3) := by decide +kernel
theorem d_C_init_102 : decode prog_1_method_1_code 102 = .ok (.putfield 60, 3) := by decide +kernel
theorem d_C_init_105 : decode prog_1_method_1_code 105 = .ok (.aload_n 0, 1) := by decide +kernel
theorem d_C_init_106 : decode prog_1_method_1_code 106 = .ok (.new 64, 3) := by decide +kernel
theorem d_C_init_109 : decode prog_1_method_1_code 109 = .ok (.dup, 1) := by decide +kernel
theorem d_C_init_110 : decode prog_1_method_1_code 110 = .ok (.invokespecial 66, 3) := by decide +kernel
theorem d_C_init_113 : decode prog_1_method_1_code 113 = .ok (.putfield 67, 3) := by decide +kernel
theorem d_C_init_116 : decode prog_1_method_1_code 116 = .ok (.aload_n 0, 1) := by decide +kernel
theorem d_C_init_117 : decode prog_1_method_1_code 117 = .ok (.new 71, 3) := by decide +kernel
theorem d_C_init_120 : decode prog_1_method_1_code 120 = .ok (.dup, 1) := by decide +kernel
theorem d_C_init_121 : decode prog_1_method_1_code 121 = .ok (.invokespecial 73, 3) := by decide +kernel
theorem d_C_init_124 : decode prog_1_method_1_code 124 = .ok (.putfield 74, 3) := by decide +kernel
theorem d_C_init_127 : decode prog_1_method_1_code 127 = .ok (.aload_n 0, 1) := by decide +kernel
theorem d_C_init_128 : decode prog_1_method_1_code 128 = .ok (.new 78, 3) := by decide +kernel
theorem d_C_init_131 : decode prog_1_method_1_code 131 = .ok (.dup, 1) := by decide +kernel
theorem d_C_init_132 : decode prog_1_method_1_code 132 = .ok (.invokespecial 80, 3) := by decide +kernel
theorem d_C_init_135 : decode prog_1_method_1_code 135 = .ok (.putfield 81, 3) := by decide +kernel
theorem d_C_init_138 : decode prog_1_method_1_code 138 = .ok (.aload_n 0, 1) := by decide +kernel
theorem d_C_init_139 : decode prog_1_method_1_code 139 = .ok (.new 85, 3) := by decide +kernel
theorem d_C_init_142 : decode prog_1_method_1_code 142 = .ok (.dup, 1) := by decide +kernel
theorem d_C_init_143 : decode prog_1_method_1_code 143 = .ok (.invokespecial 87, 3) := by decide +kernel
theorem d_C_init_146 : decode prog_1_method_1_code 146 = .ok (.putfield 88, 3) := by decide +kernel
theorem d_C_init_149 : decode prog_1_method_1_code 149 = .ok (.aload_n 0, 1) := by decide +kernel
theorem d_C_init_150 : decode prog_1_method_1_code 150 = .ok (.aload_n 0, 1) := by decide +kernel
theorem d_C_init_151 : decode prog_1_method_1_code 151 = .ok (.getfield 23, 3) := by decide +kernel
theorem d_C_init_154 : decode prog_1_method_1_code 154 = .ok (.invokevirtual 92, 3) := by decide +kernel
theorem d_C_init_157 : decode prog_1_method_1_code 157 = .ok (.return_, 1) := by decide +kernel
abbrev rm_C_init : Room := { frames := 5, cells := 33, slots := 23708, locals := 118 }
theorem w_C_init {p : Program} {l : Launch} {e : Env} {s : State} {m : MethodId} {args : Array Value} {below : List Frame} {meth : Method} {c : Code} {K : KT} {A : Nat → Prop} (C0 : Cx p s m args meth c prog_1_method_1_code "CanoeSides" 1 K A) (hr : meth.sig.returnType = none) (hnm : meth.name = "<init>") {ad : Nat → Nat} (N : Nat) (h : Hp) {res : Hp} (hE : K_C_init N h = some res) : G p l e rm_C_init s m args below meth c K A WC_init_0 1 0 0 (QVN s args below K A WC_init_34 [0] ad res 33 23708) 0 [(0, .ref (ad 0))] [] ad h := by
  unfold K_C_init at hE
  refine g_aload_n C0 0 d_C_init_0 rfl rfl ?_
  refine g_objInit C0 t_109 tO.1 tO.2 (Nat.le_of_ble_eq_true rfl) (Nat.le_of_ble_eq_true rfl) d_C_init_1 ?_
  refine g_aload_n C0 0 d_C_init_4 rfl rfl ?_
  refine g_sipush C0 (v := 250) d_C_init_5 (by decide) ?_
  obtain ⟨h8, e8, hE⟩ := nm_some hE
  refine g_newa C0 2 0 250 t_193 rfl rfl (fun _ => Iff.rfl) rfl (by decide +kernel) (by decide) (by decide) (by decide) (by decide) (by decide) d_C_init_8 (fun ad8 hag8 => ?_)
  rw [← hag8 0 (by decide)]
  refine g_heap e8 ?_
  refine (?_ : G p l e rm_C_init s m args below meth c K A WC_init_1 1 1 250 _ 10 [(0, .ref (ad8 0))] [.ref (ad8 2), .ref (ad8 0)] ad8 h8)
  refine g_putrF C0 CK_10 CT_10 0 (by decide) t_452 rfl hnm rfl (CT_10.1 0 (by decide)) nd_C_init_1 0 rfl rfl WC_init_2 rfl (by decide) rfl d_C_init_10 ?_
  refine g_aload_n C0 0 d_C_init_13 rfl rfl ?_
  refine g_iconst C0 (v := 0) d_C_init_14 (by decide) ?_
  obtain ⟨h15, e15, hE⟩ := nm_some hE
  refine g_puti C0 CK_10 CT_10 1 (by decide) t_453 rfl (by decide +kernel) nd_C_init_2 0 rfl rfl d_C_init_15 ?_
  refine g_heap e15 ?_
  refine g_aload_n C0 0 d_C_init_18 rfl rfl ?_
  refine g_iconst C0 (v := (-1)) d_C_init_19 (by decide) ?_
  obtain ⟨h20, e20, hE⟩ := nm_some hE
  refine g_puti C0 CK_10 CT_10 2 (by decide) t_454 rfl (by decide +kernel) nd_C_init_2 0 rfl rfl d_C_init_20 ?_
  refine g_heap e20 ?_
  refine g_aload_n C0 0 d_C_init_23 rfl rfl ?_
  obtain ⟨h24, e24, hE⟩ := nm_some hE
  refine g_new C0 CK_7 CT_7.1 10 [none, none, some none, none, none, none, none, none, none, none, none, none, some none] ⟨t_112, t_113, t_86⟩ (by decide +kernel) raw_7 (by decide +kernel) (by decide) (by decide) d_C_init_24 (fun ad24 hag24 => ?_)
  rw [← hag24 0 (by decide)]
  refine g_heap e24 ?_
  refine (?_ : G p l e rm_C_init s m args below meth c K A WC_init_3 1 2 263 _ 27 [(0, .ref (ad24 0))] [.ref (ad24 10), .ref (ad24 0)] ad24 h24)
  refine g_dup C0 d_C_init_27 rfl ?_
  obtain ⟨h28, z28, hE⟩ := bd_some hE
  obtain ⟨h28m, e28, hE⟩ := nm_some hE
  refine g_initN C0 WC_init_r28 [11, 12] [10] [10, 11, 12] (m_River_init l K ad24 h24 z28) 0 rfl ⟨t_114, t_115, t_86, t_116⟩ cd_River_init (by decide) (by decide +kernel) nd_River_init_0 nd_C_init_3 (by decide +kernel) nd_C_init_r28 (by decide +kernel) rfl (by decide +kernel) (by decide +kernel) (by decide +kernel) (by decide +kernel) rfl rfl (Nat.le_of_ble_eq_true rfl) d_C_init_28 (fun ad28 hag28 => ?_)
  rw [← hag28 0 (by decide)]
  rw [← hag28 10 (by decide)]
  refine g_heap e28 ?_
  refine (?_ : G p l e rm_C_init s m args below meth c K A WC_init_4 1 4 319 _ 31 [(0, .ref (ad28 0))] [.ref (ad28 10), .ref (ad28 0)] ad28 h28m)
  refine g_putr C0 CK_10 CT_10 3 (by decide) t_455 rfl (CT_10.1 3 (by decide)) nd_C_init_4 0 rfl rfl WC_init_5 rfl (by decide) rfl d_C_init_31 ?_
  refine g_aload_n C0 0 d_C_init_34 rfl rfl ?_
  obtain ⟨h35, e35, hE⟩ := nm_some hE
  refine g_new C0 CK_9 CT_9.1 15 [some none, some none, none] ⟨t_194, t_195, t_88⟩ (by decide +kernel) raw_9 (by decide +kernel) (by decide) (by decide) d_C_init_35 (fun ad35 hag35 => ?_)
  rw [← hag35 0 (by decide)]
  refine g_heap e35 ?_
  refine (?_ : G p l e rm_C_init s m args below meth c K A WC_init_6 1 5 322 _ 38 [(0, .ref (ad35 0))] [.ref (ad35 15), .ref (ad35 0)] ad35 h35)
  refine g_dup C0 d_C_init_38 rfl ?_
  obtain ⟨h39, z39, hE⟩ := bd_some hE
  obtain ⟨h39m, e39, hE⟩ := nm_some hE
  refine g_initNN C0 WC_init_r39 [16, 17] [15] [15, 16, 17] (m_Waters_init l K ad35 h35 z39) 0 rfl ⟨t_196, t_197, t_88, t_198⟩ cd_Waters_init (by decide) (by decide +kernel) nd_Waters_init_0 nd_C_init_6 (by decide +kernel) nd_C_init_r39 (by decide +kernel) rfl (by decide +kernel) (by decide +kernel) (by decide +kernel) (by decide +kernel) rfl rfl (Nat.le_of_ble_eq_true rfl) d_C_init_39 (fun ad39 hag39 => ?_)
  rw [← hag39 0 (by decide)]
  rw [← hag39 15 (by decide)]
  refine g_heap e39 ?_
  refine (?_ : G p l e rm_C_init s m args below meth c K A WC_init_7 1 7 2290 _ 42 [(0, .ref (ad39 0))] [.ref (ad39 15), .ref (ad39 0)] ad39 h39m)
  refine g_putrF C0 CK_10 CT_10 4 (by decide) t_456 rfl hnm rfl (CT_10.1 4 (by decide)) nd_C_init_7 0 rfl rfl WC_init_8 rfl (by decide) rfl d_C_init_42 ?_
  refine g_aload_n C0 0 d_C_init_45 rfl rfl ?_
  obtain ⟨h46, e46, hE⟩ := nm_some hE
  refine g_new C0 CK_2 CT_2.1 20 [some none, some none, some none] ⟨t_210, t_211, t_89⟩ (by decide +kernel) raw_2 (by decide +kernel) (by decide) (by decide) d_C_init_46 (fun ad46 hag46 => ?_)
  rw [← hag46 0 (by decide)]
  refine g_heap e46 ?_
  refine (?_ : G p l e rm_C_init s m args below meth c K A WC_init_9 1 8 2293 _ 49 [(0, .ref (ad46 0))] [.ref (ad46 20), .ref (ad46 0)] ad46 h46)
  refine g_dup C0 d_C_init_49 rfl ?_
  refine g_aload_n C0 0 d_C_init_50 rfl rfl ?_
  refine g_getr C0 CK_10 4 (by decide) t_456 0 rfl rfl d_C_init_51 ?_
  obtain ⟨h54, z54, hE⟩ := bd_some hE
  obtain ⟨h54m, e54, hE⟩ := nm_some hE
  refine g_initN C0 WC_init_r54 [21, 22] [20, 15] [20, 21, 22] (m_Crew_init l K ad46 h46 z54) 1 rfl ⟨t_212, t_213, t_89, t_214⟩ cd_Crew_init (by decide) (by decide +kernel) nd_Crew_init_0 nd_C_init_9 (by decide +kernel) nd_C_init_r54 (by decide +kernel) rfl (by decide +kernel) (by decide +kernel) (by decide +kernel) (by decide +kernel) rfl rfl (Nat.le_of_ble_eq_true rfl) d_C_init_54 (fun ad54 hag54 => ?_)
  rw [← hag54 0 (by decide)]
  rw [← hag54 20 (by decide)]
  refine g_heap e54 ?_
  refine (?_ : G p l e rm_C_init s m args below meth c K A WC_init_10 1 10 2325 _ 57 [(0, .ref (ad54 0))] [.ref (ad54 20), .ref (ad54 0)] ad54 h54m)
  refine g_putrF C0 CK_10 CT_10 5 (by decide) t_457 rfl hnm rfl (CT_10.1 5 (by decide)) nd_C_init_10 0 rfl rfl WC_init_11 rfl (by decide) rfl d_C_init_57 ?_
  refine g_aload_n C0 0 d_C_init_60 rfl rfl ?_
  obtain ⟨h61, e61, hE⟩ := nm_some hE
  refine g_new C0 CK_2 CT_2.1 25 [some none, some none, some none] ⟨t_210, t_211, t_89⟩ (by decide +kernel) raw_2 (by decide +kernel) (by decide) (by decide) d_C_init_61 (fun ad61 hag61 => ?_)
  rw [← hag61 0 (by decide)]
  refine g_heap e61 ?_
  refine (?_ : G p l e rm_C_init s m args below meth c K A WC_init_12 1 11 2328 _ 64 [(0, .ref (ad61 0))] [.ref (ad61 25), .ref (ad61 0)] ad61 h61)
  refine g_dup C0 d_C_init_64 rfl ?_
  refine g_aload_n C0 0 d_C_init_65 rfl rfl ?_
  refine g_getr C0 CK_10 4 (by decide) t_456 0 rfl rfl d_C_init_66 ?_
  obtain ⟨h69, z69, hE⟩ := bd_some hE
  obtain ⟨h69m, e69, hE⟩ := nm_some hE
  refine g_initN C0 WC_init_r69 [26, 27] [25, 15] [25, 26, 27] (m_Three_init l K ad61 h61 z69) 1 rfl ⟨t_212, t_213, t_89, t_214⟩ cd_Crew_init (by decide) (by decide +kernel) nd_Three_init_0 nd_C_init_12 (by decide +kernel) nd_C_init_r69 (by decide +kernel) rfl (by decide +kernel) (by decide +kernel) (by decide +kernel) (by decide +kernel) rfl rfl (Nat.le_of_ble_eq_true rfl) d_C_init_69 (fun ad69 hag69 => ?_)
  rw [← hag69 0 (by decide)]
  rw [← hag69 25 (by decide)]
  refine g_heap e69 ?_
  refine (?_ : G p l e rm_C_init s m args below meth c K A WC_init_13 1 13 2360 _ 72 [(0, .ref (ad69 0))] [.ref (ad69 25), .ref (ad69 0)] ad69 h69m)
  refine g_putrF C0 CK_10 CT_10 6 (by decide) t_458 rfl hnm rfl (CT_10.1 6 (by decide)) nd_C_init_13 0 rfl rfl WC_init_14 rfl (by decide) rfl d_C_init_72 ?_
  refine g_aload_n C0 0 d_C_init_75 rfl rfl ?_
  obtain ⟨h76, e76, hE⟩ := nm_some hE
  refine g_new C0 CK_0 CT_0.1 30 [none, none, none] ⟨t_228, t_229, t_90⟩ (by decide +kernel) raw_0 (by decide +kernel) (by decide) (by decide) d_C_init_76 (fun ad76 hag76 => ?_)
  rw [← hag76 0 (by decide)]
  refine g_heap e76 ?_
  refine (?_ : G p l e rm_C_init s m args below meth c K A WC_init_15 1 14 2363 _ 79 [(0, .ref (ad76 0))] [.ref (ad76 30), .ref (ad76 0)] ad76 h76)
  refine g_dup C0 d_C_init_79 rfl ?_
  obtain ⟨h80, z80, hE⟩ := bd_some hE
  obtain ⟨h80m, e80, hE⟩ := nm_some hE
  refine g_initNN C0 WC_init_r80 [] [30] [30] (m_Boat_init l K ad76 h76 z80) 0 rfl ⟨t_230, t_231, t_90, t_232⟩ cd_Boat_init (by decide) (by decide +kernel) nd_Boat_init_0 nd_C_init_15 (by decide +kernel) nd_C_init_r80 (by decide +kernel) rfl (by decide +kernel) (by decide +kernel) (by decide +kernel) (by decide +kernel) rfl rfl (Nat.le_of_ble_eq_true rfl) d_C_init_80 (fun ad80 hag80 => ?_)
  rw [← hag80 0 (by decide)]
  rw [← hag80 30 (by decide)]
  refine g_heap e80 ?_
  refine (?_ : G p l e rm_C_init s m args below meth c K A WC_init_16 1 14 2363 _ 83 [(0, .ref (ad80 0))] [.ref (ad80 30), .ref (ad80 0)] ad80 h80m)
  refine g_putrF C0 CK_10 CT_10 7 (by decide) t_459 rfl hnm rfl (CT_10.1 7 (by decide)) nd_C_init_16 0 rfl rfl WC_init_17 rfl (by decide) rfl d_C_init_83 ?_
  refine g_aload_n C0 0 d_C_init_86 rfl rfl ?_
  refine g_iconst C0 (v := 2) d_C_init_87 (by decide) ?_
  obtain ⟨h88, e88, hE⟩ := nm_some hE
  refine g_newq C0 33 2 31 t_228 (by decide +kernel) (fun i _ => by omega) (by decide) (by decide) (by decide) (by decide) (by decide) d_C_init_88 (fun ad88 hag88 => ?_)
  rw [← hag88 0 (by decide)]
  refine g_heap e88 ?_
  refine (?_ : G p l e rm_C_init s m args below meth c K A WC_init_18 1 15 2365 _ 91 [(0, .ref (ad88 0))] [.ref (ad88 33), .ref (ad88 0)] ad88 h88)
  refine g_putrF C0 CK_10 CT_10 8 (by decide) t_460 rfl hnm rfl (CT_10.1 8 (by decide)) nd_C_init_18 0 rfl rfl WC_init_19 rfl (by decide) rfl d_C_init_91 ?_
  refine g_aload_n C0 0 d_C_init_94 rfl rfl ?_
  obtain ⟨h95, e95, hE⟩ := nm_some hE
  refine g_new C0 CK_5 CT_5.1 35 [some none, none, none] ⟨t_248, t_249, t_91⟩ (by decide +kernel) raw_5 (by decide +kernel) (by decide) (by decide) d_C_init_95 (fun ad95 hag95 => ?_)
  rw [← hag95 0 (by decide)]
  refine g_heap e95 ?_
  refine (?_ : G p l e rm_C_init s m args below meth c K A WC_init_20 1 16 2368 _ 98 [(0, .ref (ad95 0))] [.ref (ad95 35), .ref (ad95 0)] ad95 h95)
  refine g_dup C0 d_C_init_98 rfl ?_
  obtain ⟨h99, z99, hE⟩ := bd_some hE
  obtain ⟨h99m, e99, hE⟩ := nm_some hE
  refine g_initNN C0 WC_init_r99 [36] [35] [35, 36] (m_Log_init l K ad95 h95 z99) 0 rfl ⟨t_250, t_251, t_91, t_252⟩ cd_Log_init (by decide) (by decide +kernel) nd_Log_init_0 nd_C_init_20 (by decide +kernel) nd_C_init_r99 (by decide +kernel) rfl (by decide +kernel) (by decide +kernel) (by decide +kernel) (by decide +kernel) rfl rfl (Nat.le_of_ble_eq_true rfl) d_C_init_99 (fun ad99 hag99 => ?_)
  rw [← hag99 0 (by decide)]
  rw [← hag99 35 (by decide)]
  refine g_heap e99 ?_
  refine (?_ : G p l e rm_C_init s m args below meth c K A WC_init_21 1 17 2418 _ 102 [(0, .ref (ad99 0))] [.ref (ad99 35), .ref (ad99 0)] ad99 h99m)
  refine g_putrF C0 CK_10 CT_10 9 (by decide) t_461 rfl hnm rfl (CT_10.1 9 (by decide)) nd_C_init_21 0 rfl rfl WC_init_22 rfl (by decide) rfl d_C_init_102 ?_
  refine g_aload_n C0 0 d_C_init_105 rfl rfl ?_
  obtain ⟨h106, e106, hE⟩ := nm_some hE
  refine g_new C0 CK_4 CT_4.1 60 [some none, some none, some none, some none, none, none] ⟨t_265, t_266, t_92⟩ (by decide +kernel) raw_4 (by decide +kernel) (by decide) (by decide) d_C_init_106 (fun ad106 hag106 => ?_)
  rw [← hag106 0 (by decide)]
  refine g_heap e106 ?_
  refine (?_ : G p l e rm_C_init s m args below meth c K A WC_init_23 1 18 2424 _ 109 [(0, .ref (ad106 0))] [.ref (ad106 60), .ref (ad106 0)] ad106 h106)
  refine g_dup C0 d_C_init_109 rfl ?_
  obtain ⟨h110, z110, hE⟩ := bd_some hE
  obtain ⟨h110m, e110, hE⟩ := nm_some hE
  refine g_initNN C0 WC_init_r110 [61, 62, 63, 64] [60] [60, 61, 62, 63, 64] (m_Lines_init l K ad106 h106 z110) 0 rfl ⟨t_267, t_268, t_92, t_269⟩ cd_Lines_init (by decide) (by decide +kernel) nd_Lines_init_0 nd_C_init_23 (by decide +kernel) nd_C_init_r110 (by decide +kernel) rfl (by decide +kernel) (by decide +kernel) (by decide +kernel) (by decide +kernel) rfl rfl (Nat.le_of_ble_eq_true rfl) d_C_init_110 (fun ad110 hag110 => ?_)
  rw [← hag110 0 (by decide)]
  rw [← hag110 60 (by decide)]
  refine g_heap e110 ?_
  refine (?_ : G p l e rm_C_init s m args below meth c K A WC_init_24 1 22 2508 _ 113 [(0, .ref (ad110 0))] [.ref (ad110 60), .ref (ad110 0)] ad110 h110m)
  refine g_putrF C0 CK_10 CT_10 10 (by decide) t_462 rfl hnm rfl (CT_10.1 10 (by decide)) nd_C_init_24 0 rfl rfl WC_init_25 rfl (by decide) rfl d_C_init_113 ?_
  refine g_aload_n C0 0 d_C_init_116 rfl rfl ?_
  obtain ⟨h117, e117, hE⟩ := nm_some hE
  refine g_new C0 CK_8 CT_8.1 40 [some none, some none, some none, none, none, none, none] ⟨t_292, t_293, t_93⟩ (by decide +kernel) raw_8 (by decide +kernel) (by decide) (by decide) d_C_init_117 (fun ad117 hag117 => ?_)
  rw [← hag117 0 (by decide)]
  refine g_heap e117 ?_
  refine (?_ : G p l e rm_C_init s m args below meth c K A WC_init_26 1 23 2515 _ 120 [(0, .ref (ad117 0))] [.ref (ad117 40), .ref (ad117 0)] ad117 h117)
  refine g_dup C0 d_C_init_120 rfl ?_
  obtain ⟨h121, z121, hE⟩ := bd_some hE
  obtain ⟨h121m, e121, hE⟩ := nm_some hE
  refine g_initNN C0 WC_init_r121 [41, 42, 43] [40] [40, 41, 42, 43] (m_Search_init l K ad117 h117 z121) 0 rfl ⟨t_294, t_295, t_93, t_296⟩ cd_Search_init (by decide) (by decide +kernel) nd_Search_init_0 nd_C_init_26 (by decide +kernel) nd_C_init_r121 (by decide +kernel) rfl (by decide +kernel) (by decide +kernel) (by decide +kernel) (by decide +kernel) rfl rfl (Nat.le_of_ble_eq_true rfl) d_C_init_121 (fun ad121 hag121 => ?_)
  rw [← hag121 0 (by decide)]
  rw [← hag121 40 (by decide)]
  refine g_heap e121 ?_
  refine (?_ : G p l e rm_C_init s m args below meth c K A WC_init_27 1 26 9487 _ 124 [(0, .ref (ad121 0))] [.ref (ad121 40), .ref (ad121 0)] ad121 h121m)
  refine g_putrF C0 CK_10 CT_10 11 (by decide) t_463 rfl hnm rfl (CT_10.1 11 (by decide)) nd_C_init_27 0 rfl rfl WC_init_28 rfl (by decide) rfl d_C_init_124 ?_
  refine g_aload_n C0 0 d_C_init_127 rfl rfl ?_
  obtain ⟨h128, e128, hE⟩ := nm_some hE
  refine g_new C0 CK_1 CT_1.1 45 [some none, some none, some none, some none, none, none, none, none, none] ⟨t_321, t_322, t_94⟩ (by decide +kernel) raw_1 (by decide +kernel) (by decide) (by decide) d_C_init_128 (fun ad128 hag128 => ?_)
  rw [← hag128 0 (by decide)]
  refine g_heap e128 ?_
  refine (?_ : G p l e rm_C_init s m args below meth c K A WC_init_29 1 27 9496 _ 131 [(0, .ref (ad128 0))] [.ref (ad128 45), .ref (ad128 0)] ad128 h128)
  refine g_dup C0 d_C_init_131 rfl ?_
  obtain ⟨h132, z132, hE⟩ := bd_some hE
  obtain ⟨h132m, e132, hE⟩ := nm_some hE
  refine g_initNN C0 WC_init_r132 [46, 47, 48, 49] [45] [45, 46, 47, 48, 49] (m_Calling_init l K ad128 h128 z132) 0 rfl ⟨t_323, t_324, t_94, t_325⟩ cd_Calling_init (by decide) (by decide +kernel) nd_Calling_init_0 nd_C_init_29 (by decide +kernel) nd_C_init_r132 (by decide +kernel) rfl (by decide +kernel) (by decide +kernel) (by decide +kernel) (by decide +kernel) rfl rfl (Nat.le_of_ble_eq_true rfl) d_C_init_132 (fun ad132 hag132 => ?_)
  rw [← hag132 0 (by decide)]
  rw [← hag132 45 (by decide)]
  refine g_heap e132 ?_
  refine (?_ : G p l e rm_C_init s m args below meth c K A WC_init_30 1 31 23320 _ 135 [(0, .ref (ad132 0))] [.ref (ad132 45), .ref (ad132 0)] ad132 h132m)
  refine g_putrF C0 CK_10 CT_10 12 (by decide) t_464 rfl hnm rfl (CT_10.1 12 (by decide)) nd_C_init_30 0 rfl rfl WC_init_31 rfl (by decide) rfl d_C_init_135 ?_
  refine g_aload_n C0 0 d_C_init_138 rfl rfl ?_
  obtain ⟨h139, e139, hE⟩ := nm_some hE
  refine g_new C0 CK_3 CT_3.1 55 [some none, none, none, none] ⟨t_357, t_358, t_95⟩ (by decide +kernel) raw_3 (by decide +kernel) (by decide) (by decide) d_C_init_139 (fun ad139 hag139 => ?_)
  rw [← hag139 0 (by decide)]
  refine g_heap e139 ?_
  refine (?_ : G p l e rm_C_init s m args below meth c K A WC_init_32 1 32 23324 _ 142 [(0, .ref (ad139 0))] [.ref (ad139 55), .ref (ad139 0)] ad139 h139)
  refine g_dup C0 d_C_init_142 rfl ?_
  obtain ⟨h143, z143, hE⟩ := bd_some hE
  obtain ⟨h143m, e143, hE⟩ := nm_some hE
  refine g_initNN C0 WC_init_r143 [56] [55] [55, 56] (m_Gusts_init l K ad139 h139 z143) 0 rfl ⟨t_359, t_360, t_95, t_361⟩ cd_Gusts_init (by decide) (by decide +kernel) nd_Gusts_init_0 nd_C_init_32 (by decide +kernel) nd_C_init_r143 (by decide +kernel) rfl (by decide +kernel) (by decide +kernel) (by decide +kernel) (by decide +kernel) rfl rfl (Nat.le_of_ble_eq_true rfl) d_C_init_143 (fun ad143 hag143 => ?_)
  rw [← hag143 0 (by decide)]
  rw [← hag143 55 (by decide)]
  refine g_heap e143 ?_
  refine (?_ : G p l e rm_C_init s m args below meth c K A WC_init_33 1 33 23708 _ 146 [(0, .ref (ad143 0))] [.ref (ad143 55), .ref (ad143 0)] ad143 h143m)
  refine g_putrF C0 CK_10 CT_10 13 (by decide) t_465 rfl hnm rfl (CT_10.1 13 (by decide)) nd_C_init_33 0 rfl rfl WC_init_34 rfl (by decide) rfl d_C_init_146 ?_
  refine g_aload_n C0 0 d_C_init_149 rfl rfl ?_
  refine g_aload_n C0 0 d_C_init_150 rfl rfl ?_
  refine g_getr C0 CK_10 3 (by decide) t_455 0 rfl rfl d_C_init_151 ?_
  obtain ⟨adg, hg80, hagg⟩ : ∃ adg : Nat → Nat, adg 80 = ad143 10 ∧ ∀ y, y ≠ 80 → adg y = ad143 y := ⟨fun y => if y = 80 then ad143 10 else ad143 y, by simp, fun y hy => by simp [hy]⟩
  have hi2 : (fun i => if i < 2 then (if h143m 33 i = 0 then none else some (adg (31 + i))) else none) = (fun i => if i < 2 then (if h143m 33 i = 0 then none else some (ad143 (31 + i))) else none) := by
    funext i
    by_cases hi : i < 2
    · rw [if_pos hi, if_pos hi, hagg (31 + i) (by omega)]
    · rw [if_neg hi, if_neg hi]
  refine g_recast (rs' := WC_init_35) (ad' := adg) (h' := h143m) (by simp [wd, wc, ent, fl, hg80, hagg, hi2]) ?_
  rw [← hagg 0 (by decide)]
  rw [← hagg 10 (by decide)]
  obtain ⟨h154, z154, hE⟩ := bd_some hE
  obtain ⟨h154m, e154, hE⟩ := nm_some hE
  refine g_callvW C0 nd_C_init_35 [0, 2, 10, 11, 12, 15, 16, 17, 20, 21, 22, 25, 26, 27, 30, 33, 35, 36, 40, 41, 42, 43, 45, 46, 47, 48, 49, 55, 56, 60, 61, 62, 63, 64] rfl rfl (rsN := WC_init_34) (by decide +kernel) (by decide +kernel) rfl (runV C0 (m_C_goOnTo l K adg h143m N z154) 1 rfl ⟨t_378, t_380, t_0, t_85, t_381⟩ cd_C_goOnTo (by decide) 0 rfl rfl (by decide +kernel) nd_Cg rfl rfl (Nat.le_of_ble_eq_true rfl) d_C_init_154) ?_
  refine g_heap e154 ?_
  obtain rfl := Option.some.inj hE
  exact g_vretN C0 (List.forall_mem_cons.mpr ⟨(hagg 0 (by decide)).trans (((((((((((((((((((((((hag143 0 (by decide))).trans (hag139 0 (by decide))).trans (hag132 0 (by decide))).trans (hag128 0 (by decide))).trans (hag121 0 (by decide))).trans (hag117 0 (by decide))).trans (hag110 0 (by decide))).trans (hag106 0 (by decide))).trans (hag99 0 (by decide))).trans (hag95 0 (by decide))).trans (hag88 0 (by decide))).trans (hag80 0 (by decide))).trans (hag76 0 (by decide))).trans (hag69 0 (by decide))).trans (hag61 0 (by decide))).trans (hag54 0 (by decide))).trans (hag46 0 (by decide))).trans (hag39 0 (by decide))).trans (hag35 0 (by decide))).trans (hag28 0 (by decide))).trans (hag24 0 (by decide))).trans (hag8 0 (by decide))), fun _ h => absurd h List.not_mem_nil⟩) hr d_C_init_157
theorem m_C_init (l : Launch) (K : KT) (ad : Nat → Nat) (h : Hp) (N : Nat) {res : Hp} (hE : K_C_init N h = some res) : ConN l y_C_init prog_1_method_1_code 1 rm_C_init K WC_init_0 ad h [.ref (ad 0)] WC_init_34 [0] res 33 23708 := fun sz =>
  con_startN [(0, .ref (ad 0))] (by decide +kernel) rfl (Nat.le_of_ble_eq_true rfl) (fun p e s m args below meth c C0 hr hnm hsz => w_C_init C0 hr hnm N h hE)
