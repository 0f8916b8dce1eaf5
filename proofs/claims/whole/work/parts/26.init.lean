/-! constructors, by program -/
theorem tO : Cond.instanceMethod objectInit ∈ TB ∧ Cond.code objectInit ⟨#[0xb1]⟩ 1 none ∈ TB := ⟨tb_of 110 (by decide +kernel) rfl, tb_of 111 (by decide +kernel) rfl⟩
theorem t_113 : (Jvm.Cond.instantiable "CanoeSides$River" (13 : Nat)) ∈ TB := tb_of 113 (by decide +kernel) rfl
theorem t_115 : (Jvm.Cond.instanceMethod ({ cls := "CanoeSides$River", name := "<init>", desc := "()V" } : Jvm.MethodName)) ∈ TB := tb_of 115 (by decide +kernel) rfl
theorem t_116 : (Jvm.Cond.code ({ cls := "CanoeSides$River", name := "<init>", desc := "()V" } : Jvm.MethodName) prog_9_method_1_code (1 : Nat) (Option.none : Option Jvm.ClassFile.FieldType)) ∈ TB := tb_of 116 (by decide +kernel) rfl
theorem t_117 : (Jvm.Cond.methodLink "CanoeSides$River" (3 : Nat) ({ cls := "java/lang/Object", name := "<init>", desc := "()V" } : Jvm.MethodName)) ∈ TB := tb_of 117 (by decide +kernel) rfl
theorem t_118 : (Jvm.Cond.methodLink "CanoeSides$River" (52 : Nat) ({ cls := "java/util/Arrays", name := "fill", desc := "([II)V" } : Jvm.MethodName)) ∈ TB := tb_of 118 (by decide +kernel) rfl
theorem t_128 : (Jvm.Cond.fieldLink "CanoeSides$River" (22 : Nat) "CanoeSides$River" "strengthInFront" "I") ∈ TB := tb_of 128 (by decide +kernel) rfl
theorem t_132 : (Jvm.Cond.fieldLink "CanoeSides$River" (25 : Nat) "CanoeSides$River" "strengthBehind" "I") ∈ TB := tb_of 132 (by decide +kernel) rfl
theorem t_136 : (Jvm.Cond.fieldLink "CanoeSides$River" (28 : Nat) "CanoeSides$River" "turnPart" "I") ∈ TB := tb_of 136 (by decide +kernel) rfl
theorem t_140 : (Jvm.Cond.fieldLink "CanoeSides$River" (31 : Nat) "CanoeSides$River" "pushPart" "I") ∈ TB := tb_of 140 (by decide +kernel) rfl
theorem t_144 : (Jvm.Cond.fieldLink "CanoeSides$River" (34 : Nat) "CanoeSides$River" "startSpot" "I") ∈ TB := tb_of 144 (by decide +kernel) rfl
theorem t_160 : (Jvm.Cond.fieldLink "CanoeSides$River" (46 : Nat) "CanoeSides$River" "windEvery" "I") ∈ TB := tb_of 160 (by decide +kernel) rfl
theorem t_193 : (Jvm.Cond.arrayClass Jvm.ClassFile.FieldType.int) ∈ TB := tb_of 193 (by decide +kernel) rfl
theorem t_199 : (Jvm.Cond.methodLink "CanoeSides$Waters" (3 : Nat) ({ cls := "java/lang/Object", name := "<init>", desc := "()V" } : Jvm.MethodName)) ∈ TB := tb_of 199 (by decide +kernel) rfl
theorem t_215 : (Jvm.Cond.methodLink "CanoeSides$Crew" (3 : Nat) ({ cls := "java/lang/Object", name := "<init>", desc := "()V" } : Jvm.MethodName)) ∈ TB := tb_of 215 (by decide +kernel) rfl
theorem t_233 : (Jvm.Cond.methodLink "CanoeSides$Boat" (3 : Nat) ({ cls := "java/lang/Object", name := "<init>", desc := "()V" } : Jvm.MethodName)) ∈ TB := tb_of 233 (by decide +kernel) rfl
theorem t_253 : (Jvm.Cond.methodLink "CanoeSides$Log" (3 : Nat) ({ cls := "java/lang/Object", name := "<init>", desc := "()V" } : Jvm.MethodName)) ∈ TB := tb_of 253 (by decide +kernel) rfl
theorem t_270 : (Jvm.Cond.methodLink "CanoeSides$Lines" (3 : Nat) ({ cls := "java/lang/Object", name := "<init>", desc := "()V" } : Jvm.MethodName)) ∈ TB := tb_of 270 (by decide +kernel) rfl
theorem t_297 : (Jvm.Cond.methodLink "CanoeSides$Search" (3 : Nat) ({ cls := "java/lang/Object", name := "<init>", desc := "()V" } : Jvm.MethodName)) ∈ TB := tb_of 297 (by decide +kernel) rfl
theorem t_326 : (Jvm.Cond.methodLink "CanoeSides$Calling" (3 : Nat) ({ cls := "java/lang/Object", name := "<init>", desc := "()V" } : Jvm.MethodName)) ∈ TB := tb_of 326 (by decide +kernel) rfl
theorem t_362 : (Jvm.Cond.methodLink "CanoeSides$Gusts" (3 : Nat) ({ cls := "java/lang/Object", name := "<init>", desc := "()V" } : Jvm.MethodName)) ∈ TB := tb_of 362 (by decide +kernel) rfl
theorem t_513 : (Jvm.Cond.methodLink "CanoeSides$Reader" (3 : Nat) ({ cls := "java/lang/Object", name := "<init>", desc := "()V" } : Jvm.MethodName)) ∈ TB := tb_of 513 (by decide +kernel) rfl
theorem t_514 : (Jvm.Cond.classLink "CanoeSides$Reader" (9 : Nat) "CanoeSides$River") ∈ TB := tb_of 514 (by decide +kernel) rfl
theorem t_515 : (Jvm.Cond.methodLink "CanoeSides$Reader" (11 : Nat) ({ cls := "CanoeSides$River", name := "<init>", desc := "()V" } : Jvm.MethodName)) ∈ TB := tb_of 515 (by decide +kernel) rfl
theorem t_516 : (Jvm.Cond.methodLink "CanoeSides$Reader" (38 : Nat) ({ cls := "java/lang/Math", name := "min", desc := "(II)I" } : Jvm.MethodName)) ∈ TB := tb_of 516 (by decide +kernel) rfl
theorem t_1084 : (Jvm.Cond.methodLink "CanoeSidesModel" (1 : Nat) ({ cls := "java/lang/Object", name := "<init>", desc := "()V" } : Jvm.MethodName)) ∈ TB := tb_of 1084 (by decide +kernel) rfl
theorem t_1085 : (Jvm.Cond.constant "CanoeSidesModel" (39 : Nat) (55296 : Int32)) ∈ TB := tb_of 1085 (by decide +kernel) rfl
theorem t_1190 : (Jvm.Cond.arrayClass Jvm.ClassFile.FieldType.boolean) ∈ TB := tb_of 1190 (by decide +kernel) rfl
theorem raw_0 : ∀ f : Nat → Int32, (∀ j, f j = 0) → ∀ (ad : Nat → Nat) (j : Nat), j < 3 → defaultValue (tyX0 j) = vp_V (fl ad f 0 [none, none, none]) j := by
  intro f hf ad j hj
  exact match j, hj with
  | 0, _ => by show _ = Value.int (f 0); rw [hf]; rfl
  | 1, _ => by show _ = Value.int (f 1); rw [hf]; rfl
  | 2, _ => by show _ = Value.int (f 2); rw [hf]; rfl
  | j + 3, hj => absurd hj (by omega)
theorem raw_1 : ∀ f : Nat → Int32, (∀ j, f j = 0) → ∀ (ad : Nat → Nat) (j : Nat), j < 9 → defaultValue (tyX1 j) = vp_V (fl ad f 0 [some none, some none, some none, some none, none, none, none, none, none]) j := by
  intro f hf ad j hj
  exact match j, hj with
  | 0, _ => rfl
  | 1, _ => rfl
  | 2, _ => rfl
  | 3, _ => rfl
  | 4, _ => by show _ = Value.int (f 4); rw [hf]; rfl
  | 5, _ => by show _ = Value.int (f 5); rw [hf]; rfl
  | 6, _ => by show _ = Value.int (f 6); rw [hf]; rfl
  | 7, _ => by show _ = Value.int (f 7); rw [hf]; rfl
  | 8, _ => by show _ = Value.int (f 8); rw [hf]; rfl
  | j + 9, hj => absurd hj (by omega)
theorem raw_2 : ∀ f : Nat → Int32, (∀ j, f j = 0) → ∀ (ad : Nat → Nat) (j : Nat), j < 3 → defaultValue (tyX2 j) = vp_V (fl ad f 0 [some none, some none, some none]) j := by
  intro f hf ad j hj
  exact match j, hj with
  | 0, _ => rfl
  | 1, _ => rfl
  | 2, _ => rfl
  | j + 3, hj => absurd hj (by omega)
theorem raw_3 : ∀ f : Nat → Int32, (∀ j, f j = 0) → ∀ (ad : Nat → Nat) (j : Nat), j < 4 → defaultValue (tyX3 j) = vp_V (fl ad f 0 [some none, none, none, none]) j := by
  intro f hf ad j hj
  exact match j, hj with
  | 0, _ => rfl
  | 1, _ => by show _ = Value.int (f 1); rw [hf]; rfl
  | 2, _ => by show _ = Value.int (f 2); rw [hf]; rfl
  | 3, _ => by show _ = Value.int (f 3); rw [hf]; rfl
  | j + 4, hj => absurd hj (by omega)
theorem raw_4 : ∀ f : Nat → Int32, (∀ j, f j = 0) → ∀ (ad : Nat → Nat) (j : Nat), j < 6 → defaultValue (tyX4 j) = vp_V (fl ad f 0 [some none, some none, some none, some none, none, none]) j := by
  intro f hf ad j hj
  exact match j, hj with
  | 0, _ => rfl
  | 1, _ => rfl
  | 2, _ => rfl
  | 3, _ => rfl
  | 4, _ => by show _ = Value.int (f 4); rw [hf]; rfl
  | 5, _ => by show _ = Value.int (f 5); rw [hf]; rfl
  | j + 6, hj => absurd hj (by omega)
theorem raw_5 : ∀ f : Nat → Int32, (∀ j, f j = 0) → ∀ (ad : Nat → Nat) (j : Nat), j < 3 → defaultValue (tyX5 j) = vp_V (fl ad f 0 [some none, none, none]) j := by
  intro f hf ad j hj
  exact match j, hj with
  | 0, _ => rfl
  | 1, _ => by show _ = Value.int (f 1); rw [hf]; rfl
  | 2, _ => by show _ = Value.int (f 2); rw [hf]; rfl
  | j + 3, hj => absurd hj (by omega)
theorem raw_6 : ∀ f : Nat → Int32, (∀ j, f j = 0) → ∀ (ad : Nat → Nat) (j : Nat), j < 8 → defaultValue (tyX6 j) = vp_V (fl ad f 0 [some none, none, some none, none, none, none, none, none]) j := by
  intro f hf ad j hj
  exact match j, hj with
  | 0, _ => rfl
  | 1, _ => by show _ = Value.int (f 1); rw [hf]; rfl
  | 2, _ => rfl
  | 3, _ => by show _ = Value.int (f 3); rw [hf]; rfl
  | 4, _ => by show _ = Value.int (f 4); rw [hf]; rfl
  | 5, _ => by show _ = Value.int (f 5); rw [hf]; rfl
  | 6, _ => by show _ = Value.int (f 6); rw [hf]; rfl
  | 7, _ => by show _ = Value.int (f 7); rw [hf]; rfl
  | j + 8, hj => absurd hj (by omega)
theorem raw_7 : ∀ f : Nat → Int32, (∀ j, f j = 0) → ∀ (ad : Nat → Nat) (j : Nat), j < 13 → defaultValue (tyX7 j) = vp_V (fl ad f 0 [none, none, some none, none, none, none, none, none, none, none, none, none, some none]) j := by
  intro f hf ad j hj
  exact match j, hj with
  | 0, _ => by show _ = Value.int (f 0); rw [hf]; rfl
  | 1, _ => by show _ = Value.int (f 1); rw [hf]; rfl
  | 2, _ => rfl
  | 3, _ => by show _ = Value.int (f 3); rw [hf]; rfl
  | 4, _ => by show _ = Value.int (f 4); rw [hf]; rfl
  | 5, _ => by show _ = Value.int (f 5); rw [hf]; rfl
  | 6, _ => by show _ = Value.int (f 6); rw [hf]; rfl
  | 7, _ => by show _ = Value.int (f 7); rw [hf]; rfl
  | 8, _ => by show _ = Value.int (f 8); rw [hf]; rfl
  | 9, _ => by show _ = Value.int (f 9); rw [hf]; rfl
  | 10, _ => by show _ = Value.int (f 10); rw [hf]; rfl
  | 11, _ => by show _ = Value.int (f 11); rw [hf]; rfl
  | 12, _ => rfl
  | j + 13, hj => absurd hj (by omega)
theorem raw_8 : ∀ f : Nat → Int32, (∀ j, f j = 0) → ∀ (ad : Nat → Nat) (j : Nat), j < 7 → defaultValue (tyX8 j) = vp_V (fl ad f 0 [some none, some none, some none, none, none, none, none]) j := by
  intro f hf ad j hj
  exact match j, hj with
  | 0, _ => rfl
  | 1, _ => rfl
  | 2, _ => rfl
  | 3, _ => by show _ = Value.int (f 3); rw [hf]; rfl
  | 4, _ => by show _ = Value.int (f 4); rw [hf]; rfl
  | 5, _ => by show _ = Value.int (f 5); rw [hf]; rfl
  | 6, _ => by show _ = Value.int (f 6); rw [hf]; rfl
  | j + 7, hj => absurd hj (by omega)
theorem raw_9 : ∀ f : Nat → Int32, (∀ j, f j = 0) → ∀ (ad : Nat → Nat) (j : Nat), j < 3 → defaultValue (tyX9 j) = vp_V (fl ad f 0 [some none, some none, none]) j := by
  intro f hf ad j hj
  exact match j, hj with
  | 0, _ => rfl
  | 1, _ => rfl
  | 2, _ => by show _ = Value.int (f 2); rw [hf]; rfl
  | j + 3, hj => absurd hj (by omega)
theorem raw_10 : ∀ f : Nat → Int32, (∀ j, f j = 0) → ∀ (ad : Nat → Nat) (j : Nat), j < 14 → defaultValue (tyX10 j) = vp_V (fl ad f 0 [some none, none, none, some none, some none, some none, some none, some none, some none, some none, some none, some none, some none, some none]) j := by
  intro f hf ad j hj
  exact match j, hj with
  | 0, _ => rfl
  | 1, _ => by show _ = Value.int (f 1); rw [hf]; rfl
  | 2, _ => by show _ = Value.int (f 2); rw [hf]; rfl
  | 3, _ => rfl
  | 4, _ => rfl
  | 5, _ => rfl
  | 6, _ => rfl
  | 7, _ => rfl
  | 8, _ => rfl
  | 9, _ => rfl
  | 10, _ => rfl
  | 11, _ => rfl
  | 12, _ => rfl
  | 13, _ => rfl
  | j + 14, hj => absurd hj (by omega)
theorem raw_11 : ∀ f : Nat → Int32, (∀ j, f j = 0) → ∀ (ad : Nat → Nat) (j : Nat), j < 33 → defaultValue (tyX11 j) = vp_V (fl ad f 0 [some none, some none, some none, some none, some none, none, some none, none, none, none, none, none, none, none, none, some none, none, some none, none, none, some none, some none, none, none, some none, some none, none, none, none, some none, some none, some none, none]) j := by
  intro f hf ad j hj
  exact match j, hj with
  | 0, _ => rfl
  | 1, _ => rfl
  | 2, _ => rfl
  | 3, _ => rfl
  | 4, _ => rfl
  | 5, _ => by show _ = Value.int (f 5); rw [hf]; rfl
  | 6, _ => rfl
  | 7, _ => by show _ = Value.int (f 7); rw [hf]; rfl
  | 8, _ => by show _ = Value.int (f 8); rw [hf]; rfl
  | 9, _ => by show _ = Value.int (f 9); rw [hf]; rfl
  | 10, _ => by show _ = Value.int (f 10); rw [hf]; rfl
  | 11, _ => by show _ = Value.int (f 11); rw [hf]; rfl
  | 12, _ => by show _ = Value.int (f 12); rw [hf]; rfl
  | 13, _ => by show _ = Value.int (f 13); rw [hf]; rfl
  | 14, _ => by show _ = Value.int (f 14); rw [hf]; rfl
  | 15, _ => rfl
  | 16, _ => by show _ = Value.int (f 16); rw [hf]; rfl
  | 17, _ => rfl
  | 18, _ => by show _ = Value.int (f 18); rw [hf]; rfl
  | 19, _ => by show _ = Value.int (f 19); rw [hf]; rfl
  | 20, _ => rfl
  | 21, _ => rfl
  | 22, _ => by show _ = Value.int (f 22); rw [hf]; rfl
  | 23, _ => by show _ = Value.int (f 23); rw [hf]; rfl
  | 24, _ => rfl
  | 25, _ => rfl
  | 26, _ => by show _ = Value.int (f 26); rw [hf]; rfl
  | 27, _ => by show _ = Value.int (f 27); rw [hf]; rfl
  | 28, _ => by show _ = Value.int (f 28); rw [hf]; rfl
  | 29, _ => rfl
  | 30, _ => rfl
  | 31, _ => rfl
  | 32, _ => by show _ = Value.int (f 32); rw [hf]; rfl
  | j + 33, hj => absurd hj (by omega)
abbrev WRiver_init_0 : Wl := [(10, .inl (7, [none, none, some none, none, none, none, none, none, none, none, none, none, some none]))]
theorem nd_River_init_0 : nd WRiver_init_0 = true := by decide +kernel
abbrev WRiver_init_1 : Wl := [(10, .inl (7, [none, none, some none, none, none, none, none, none, none, none, none, none, some none])), (11, .inr (.inl (0, 48)))]
theorem nd_River_init_1 : nd WRiver_init_1 = true := by decide +kernel
abbrev WRiver_init_2 : Wl := [(10, .inl (7, [none, none, some (some 11), none, none, none, none, none, none, none, none, none, some none])), (11, .inr (.inl (0, 48)))]
theorem nd_River_init_2 : nd WRiver_init_2 = true := by decide +kernel
abbrev WRiver_init_3 : Wl := [(10, .inl (7, [none, none, some (some 11), none, none, none, none, none, none, none, none, none, some none])), (11, .inr (.inl (0, 48))), (12, .inr (.inl (0, 8)))]
theorem nd_River_init_3 : nd WRiver_init_3 = true := by decide +kernel
abbrev WRiver_init_4 : Wl := [(10, .inl (7, [none, none, some (some 11), none, none, none, none, none, none, none, none, none, some (some 12)])), (11, .inr (.inl (0, 48))), (12, .inr (.inl (0, 8)))]
theorem nd_River_init_4 : nd WRiver_init_4 = true := by decide +kernel
abbrev WWaters_init_0 : Wl := [(15, .inl (9, [some none, some none, none]))]
theorem nd_Waters_init_0 : nd WWaters_init_0 = true := by decide +kernel
abbrev WWaters_init_1 : Wl := [(15, .inl (9, [some none, some none, none])), (16, .inr (.inl (0, 1920)))]
theorem nd_Waters_init_1 : nd WWaters_init_1 = true := by decide +kernel
abbrev WWaters_init_2 : Wl := [(15, .inl (9, [some (some 16), some none, none])), (16, .inr (.inl (0, 1920)))]
theorem nd_Waters_init_2 : nd WWaters_init_2 = true := by decide +kernel
abbrev WWaters_init_3 : Wl := [(15, .inl (9, [some (some 16), some none, none])), (16, .inr (.inl (0, 1920))), (17, .inr (.inl (0, 48)))]
theorem nd_Waters_init_3 : nd WWaters_init_3 = true := by decide +kernel
abbrev WWaters_init_4 : Wl := [(15, .inl (9, [some (some 16), some (some 17), none])), (16, .inr (.inl (0, 1920))), (17, .inr (.inl (0, 48)))]
theorem nd_Waters_init_4 : nd WWaters_init_4 = true := by decide +kernel
abbrev WCrew_init_0 : Wl := [(20, .inl (2, [some none, some none, some none]))]
theorem nd_Crew_init_0 : nd WCrew_init_0 = true := by decide +kernel
abbrev WCrew_init_1 : Wl := [(20, .inl (2, [some none, some none, some none])), (21, .inr (.inl (0, 16)))]
theorem nd_Crew_init_1 : nd WCrew_init_1 = true := by decide +kernel
abbrev WCrew_init_2 : Wl := [(20, .inl (2, [some none, some (some 21), some none])), (21, .inr (.inl (0, 16)))]
theorem nd_Crew_init_2 : nd WCrew_init_2 = true := by decide +kernel
abbrev WCrew_init_3 : Wl := [(20, .inl (2, [some none, some (some 21), some none])), (21, .inr (.inl (0, 16))), (22, .inr (.inl (0, 16)))]
theorem nd_Crew_init_3 : nd WCrew_init_3 = true := by decide +kernel
abbrev WCrew_init_4 : Wl := [(20, .inl (2, [some none, some (some 21), some (some 22)])), (21, .inr (.inl (0, 16))), (22, .inr (.inl (0, 16)))]
theorem nd_Crew_init_4 : nd WCrew_init_4 = true := by decide +kernel
abbrev WCrew_init_5 : Wl := [(20, .inl (2, [some (some 15), some (some 21), some (some 22)])), (21, .inr (.inl (0, 16))), (22, .inr (.inl (0, 16)))]
theorem nd_Crew_init_5 : nd WCrew_init_5 = true := by decide +kernel
abbrev WThree_init_0 : Wl := [(25, .inl (2, [some none, some none, some none]))]
theorem nd_Three_init_0 : nd WThree_init_0 = true := by decide +kernel
abbrev WThree_init_1 : Wl := [(25, .inl (2, [some none, some none, some none])), (26, .inr (.inl (0, 16)))]
theorem nd_Three_init_1 : nd WThree_init_1 = true := by decide +kernel
abbrev WThree_init_2 : Wl := [(25, .inl (2, [some none, some (some 26), some none])), (26, .inr (.inl (0, 16)))]
theorem nd_Three_init_2 : nd WThree_init_2 = true := by decide +kernel
abbrev WThree_init_3 : Wl := [(25, .inl (2, [some none, some (some 26), some none])), (26, .inr (.inl (0, 16))), (27, .inr (.inl (0, 16)))]
theorem nd_Three_init_3 : nd WThree_init_3 = true := by decide +kernel
abbrev WThree_init_4 : Wl := [(25, .inl (2, [some none, some (some 26), some (some 27)])), (26, .inr (.inl (0, 16))), (27, .inr (.inl (0, 16)))]
theorem nd_Three_init_4 : nd WThree_init_4 = true := by decide +kernel
abbrev WThree_init_5 : Wl := [(25, .inl (2, [some (some 15), some (some 26), some (some 27)])), (26, .inr (.inl (0, 16))), (27, .inr (.inl (0, 16)))]
theorem nd_Three_init_5 : nd WThree_init_5 = true := by decide +kernel
abbrev WBoat_init_0 : Wl := [(30, .inl (0, [none, none, none]))]
theorem nd_Boat_init_0 : nd WBoat_init_0 = true := by decide +kernel
abbrev WLog_init_0 : Wl := [(35, .inl (5, [some none, none, none]))]
theorem nd_Log_init_0 : nd WLog_init_0 = true := by decide +kernel
abbrev WLog_init_1 : Wl := [(35, .inl (5, [some none, none, none])), (36, .inr (.inl (0, 50)))]
theorem nd_Log_init_1 : nd WLog_init_1 = true := by decide +kernel
abbrev WLog_init_2 : Wl := [(35, .inl (5, [some (some 36), none, none])), (36, .inr (.inl (0, 50)))]
theorem nd_Log_init_2 : nd WLog_init_2 = true := by decide +kernel
abbrev WLines_init_0 : Wl := [(60, .inl (4, [some none, some none, some none, some none, none, none]))]
theorem nd_Lines_init_0 : nd WLines_init_0 = true := by decide +kernel
abbrev WLines_init_1 : Wl := [(60, .inl (4, [some none, some none, some none, some none, none, none])), (61, .inr (.inl (0, 4)))]
theorem nd_Lines_init_1 : nd WLines_init_1 = true := by decide +kernel
abbrev WLines_init_2 : Wl := [(60, .inl (4, [some (some 61), some none, some none, some none, none, none])), (61, .inr (.inl (0, 4)))]
theorem nd_Lines_init_2 : nd WLines_init_2 = true := by decide +kernel
abbrev WLines_init_3 : Wl := [(60, .inl (4, [some (some 61), some none, some none, some none, none, none])), (61, .inr (.inl (0, 4))), (62, .inr (.inl (0, 40)))]
theorem nd_Lines_init_3 : nd WLines_init_3 = true := by decide +kernel
abbrev WLines_init_4 : Wl := [(60, .inl (4, [some (some 61), some (some 62), some none, some none, none, none])), (61, .inr (.inl (0, 4))), (62, .inr (.inl (0, 40)))]
theorem nd_Lines_init_4 : nd WLines_init_4 = true := by decide +kernel
abbrev WLines_init_5 : Wl := [(60, .inl (4, [some (some 61), some (some 62), some none, some none, none, none])), (61, .inr (.inl (0, 4))), (62, .inr (.inl (0, 40))), (63, .inr (.inl (0, 20)))]
theorem nd_Lines_init_5 : nd WLines_init_5 = true := by decide +kernel
abbrev WLines_init_6 : Wl := [(60, .inl (4, [some (some 61), some (some 62), some (some 63), some none, none, none])), (61, .inr (.inl (0, 4))), (62, .inr (.inl (0, 40))), (63, .inr (.inl (0, 20)))]
theorem nd_Lines_init_6 : nd WLines_init_6 = true := by decide +kernel
abbrev WLines_init_7 : Wl := [(60, .inl (4, [some (some 61), some (some 62), some (some 63), some none, none, none])), (61, .inr (.inl (0, 4))), (62, .inr (.inl (0, 40))), (63, .inr (.inl (0, 20))), (64, .inr (.inl (0, 20)))]
theorem nd_Lines_init_7 : nd WLines_init_7 = true := by decide +kernel
abbrev WLines_init_8 : Wl := [(60, .inl (4, [some (some 61), some (some 62), some (some 63), some (some 64), none, none])), (61, .inr (.inl (0, 4))), (62, .inr (.inl (0, 40))), (63, .inr (.inl (0, 20))), (64, .inr (.inl (0, 20)))]
theorem nd_Lines_init_8 : nd WLines_init_8 = true := by decide +kernel
abbrev WSearch_init_0 : Wl := [(40, .inl (8, [some none, some none, some none, none, none, none, none]))]
theorem nd_Search_init_0 : nd WSearch_init_0 = true := by decide +kernel
abbrev WSearch_init_1 : Wl := [(40, .inl (8, [some none, some none, some none, none, none, none, none])), (41, .inr (.inl (0, 3456)))]
theorem nd_Search_init_1 : nd WSearch_init_1 = true := by decide +kernel
abbrev WSearch_init_2 : Wl := [(40, .inl (8, [some (some 41), some none, some none, none, none, none, none])), (41, .inr (.inl (0, 3456)))]
theorem nd_Search_init_2 : nd WSearch_init_2 = true := by decide +kernel
abbrev WSearch_init_3 : Wl := [(40, .inl (8, [some (some 41), some none, some none, none, none, none, none])), (41, .inr (.inl (0, 3456))), (42, .inr (.inl (0, 3456)))]
theorem nd_Search_init_3 : nd WSearch_init_3 = true := by decide +kernel
abbrev WSearch_init_4 : Wl := [(40, .inl (8, [some (some 41), some (some 42), some none, none, none, none, none])), (41, .inr (.inl (0, 3456))), (42, .inr (.inl (0, 3456)))]
theorem nd_Search_init_4 : nd WSearch_init_4 = true := by decide +kernel
abbrev WSearch_init_5 : Wl := [(40, .inl (8, [some (some 41), some (some 42), some none, none, none, none, none])), (41, .inr (.inl (0, 3456))), (42, .inr (.inl (0, 3456))), (43, .inr (.inl (0, 60)))]
theorem nd_Search_init_5 : nd WSearch_init_5 = true := by decide +kernel
abbrev WSearch_init_6 : Wl := [(40, .inl (8, [some (some 41), some (some 42), some (some 43), none, none, none, none])), (41, .inr (.inl (0, 3456))), (42, .inr (.inl (0, 3456))), (43, .inr (.inl (0, 60)))]
theorem nd_Search_init_6 : nd WSearch_init_6 = true := by decide +kernel
abbrev WCalling_init_0 : Wl := [(45, .inl (1, [some none, some none, some none, some none, none, none, none, none, none]))]
theorem nd_Calling_init_0 : nd WCalling_init_0 = true := by decide +kernel
abbrev WCalling_init_1 : Wl := [(45, .inl (1, [some none, some none, some none, some none, none, none, none, none, none])), (46, .inr (.inl (0, 3456)))]
theorem nd_Calling_init_1 : nd WCalling_init_1 = true := by decide +kernel
abbrev WCalling_init_2 : Wl := [(45, .inl (1, [some (some 46), some none, some none, some none, none, none, none, none, none])), (46, .inr (.inl (0, 3456)))]
theorem nd_Calling_init_2 : nd WCalling_init_2 = true := by decide +kernel
abbrev WCalling_init_3 : Wl := [(45, .inl (1, [some (some 46), some none, some none, some none, none, none, none, none, none])), (46, .inr (.inl (0, 3456))), (47, .inr (.inl (0, 3456)))]
theorem nd_Calling_init_3 : nd WCalling_init_3 = true := by decide +kernel
abbrev WCalling_init_4 : Wl := [(45, .inl (1, [some (some 46), some (some 47), some none, some none, none, none, none, none, none])), (46, .inr (.inl (0, 3456))), (47, .inr (.inl (0, 3456)))]
theorem nd_Calling_init_4 : nd WCalling_init_4 = true := by decide +kernel
abbrev WCalling_init_5 : Wl := [(45, .inl (1, [some (some 46), some (some 47), some none, some none, none, none, none, none, none])), (46, .inr (.inl (0, 3456))), (47, .inr (.inl (0, 3456))), (48, .inr (.inl (0, 3456)))]
theorem nd_Calling_init_5 : nd WCalling_init_5 = true := by decide +kernel
abbrev WCalling_init_6 : Wl := [(45, .inl (1, [some (some 46), some (some 47), some (some 48), some none, none, none, none, none, none])), (46, .inr (.inl (0, 3456))), (47, .inr (.inl (0, 3456))), (48, .inr (.inl (0, 3456)))]
theorem nd_Calling_init_6 : nd WCalling_init_6 = true := by decide +kernel
abbrev WCalling_init_7 : Wl := [(45, .inl (1, [some (some 46), some (some 47), some (some 48), some none, none, none, none, none, none])), (46, .inr (.inl (0, 3456))), (47, .inr (.inl (0, 3456))), (48, .inr (.inl (0, 3456))), (49, .inr (.inl (0, 3456)))]
theorem nd_Calling_init_7 : nd WCalling_init_7 = true := by decide +kernel
abbrev WCalling_init_8 : Wl := [(45, .inl (1, [some (some 46), some (some 47), some (some 48), some (some 49), none, none, none, none, none])), (46, .inr (.inl (0, 3456))), (47, .inr (.inl (0, 3456))), (48, .inr (.inl (0, 3456))), (49, .inr (.inl (0, 3456)))]
theorem nd_Calling_init_8 : nd WCalling_init_8 = true := by decide +kernel
abbrev WGusts_init_0 : Wl := [(55, .inl (3, [some none, none, none, none]))]
theorem nd_Gusts_init_0 : nd WGusts_init_0 = true := by decide +kernel
abbrev WGusts_init_1 : Wl := [(55, .inl (3, [some none, none, none, none])), (56, .inr (.inl (0, 384)))]
theorem nd_Gusts_init_1 : nd WGusts_init_1 = true := by decide +kernel
abbrev WGusts_init_2 : Wl := [(55, .inl (3, [some (some 56), none, none, none])), (56, .inr (.inl (0, 384)))]
theorem nd_Gusts_init_2 : nd WGusts_init_2 = true := by decide +kernel
abbrev WReader_init_0 : Wl := [(70, .inl (6, [some none, none, some none, none, none, none, none, none])), (2, .inr (.inl (0, 250)))]
theorem nd_Reader_init_0 : nd WReader_init_0 = true := by decide +kernel
abbrev WReader_init_1 : Wl := [(70, .inl (6, [some none, none, some none, none, none, none, none, none])), (2, .inr (.inl (0, 250))), (10, .inl (7, [none, none, some none, none, none, none, none, none, none, none, none, none, some none]))]
theorem nd_Reader_init_1 : nd WReader_init_1 = true := by decide +kernel
abbrev WReader_init_r9 : Wl := [(70, .inl (6, [some none, none, some none, none, none, none, none, none])), (2, .inr (.inl (0, 250)))]
theorem nd_Reader_init_r9 : nd WReader_init_r9 = true := by decide +kernel
abbrev WReader_init_2 : Wl := [(70, .inl (6, [some none, none, some none, none, none, none, none, none])), (2, .inr (.inl (0, 250))), (10, .inl (7, [none, none, some (some 11), none, none, none, none, none, none, none, none, none, some (some 12)])), (11, .inr (.inl (0, 48))), (12, .inr (.inl (0, 8)))]
theorem nd_Reader_init_2 : nd WReader_init_2 = true := by decide +kernel
abbrev WReader_init_3 : Wl := [(70, .inl (6, [some none, none, some (some 10), none, none, none, none, none])), (2, .inr (.inl (0, 250))), (10, .inl (7, [none, none, some (some 11), none, none, none, none, none, none, none, none, none, some (some 12)])), (11, .inr (.inl (0, 48))), (12, .inr (.inl (0, 8)))]
theorem nd_Reader_init_3 : nd WReader_init_3 = true := by decide +kernel
abbrev WReader_init_4 : Wl := [(70, .inl (6, [some (some 2), none, some (some 10), none, none, none, none, none])), (2, .inr (.inl (0, 250))), (10, .inl (7, [none, none, some (some 11), none, none, none, none, none, none, none, none, none, some (some 12)])), (11, .inr (.inl (0, 48))), (12, .inr (.inl (0, 8)))]
theorem nd_Reader_init_4 : nd WReader_init_4 = true := by decide +kernel
abbrev WM_init_0 : Wl := [(100, .inl (11, [some none, some none, some none, some none, some none, none, some none, none, none, none, none, none, none, none, none, some none, none, some none, none, none, some none, some none, none, none, some none, some none, none, none, none, some none, some none, some none, none]))]
theorem nd_M_init_0 : nd WM_init_0 = true := by decide +kernel
abbrev WM_init_1 : Wl := [(100, .inl (11, [some none, some none, some none, some none, some none, none, some none, none, none, none, none, none, none, none, none, some none, none, some none, none, none, some none, some none, none, none, some none, some none, none, none, none, some none, some none, some none, none])), (101, .inr (.inl (0, 12)))]
theorem nd_M_init_1 : nd WM_init_1 = true := by decide +kernel
abbrev WM_init_2 : Wl := [(100, .inl (11, [some (some 101), some none, some none, some none, some none, none, some none, none, none, none, none, none, none, none, none, some none, none, some none, none, none, some none, some none, none, none, some none, some none, none, none, none, some none, some none, some none, none])), (101, .inr (.inl (0, 12)))]
theorem nd_M_init_2 : nd WM_init_2 = true := by decide +kernel
abbrev WM_init_3 : Wl := [(100, .inl (11, [some (some 101), some none, some none, some none, some none, none, some none, none, none, none, none, none, none, none, none, some none, none, some none, none, none, some none, some none, none, none, some none, some none, none, none, none, some none, some none, some none, none])), (101, .inr (.inl (0, 12))), (102, .inr (.inl (1, 2)))]
theorem nd_M_init_3 : nd WM_init_3 = true := by decide +kernel
abbrev WM_init_4 : Wl := [(100, .inl (11, [some (some 101), some (some 102), some none, some none, some none, none, some none, none, none, none, none, none, none, none, none, some none, none, some none, none, none, some none, some none, none, none, some none, some none, none, none, none, some none, some none, some none, none])), (101, .inr (.inl (0, 12))), (102, .inr (.inl (1, 2)))]
theorem nd_M_init_4 : nd WM_init_4 = true := by decide +kernel
abbrev WM_init_5 : Wl := [(100, .inl (11, [some (some 101), some (some 102), some none, some none, some none, none, some none, none, none, none, none, none, none, none, none, some none, none, some none, none, none, some none, some none, none, none, some none, some none, none, none, none, some none, some none, some none, none])), (101, .inr (.inl (0, 12))), (102, .inr (.inl (1, 2))), (103, .inr (.inl (0, 96)))]
theorem nd_M_init_5 : nd WM_init_5 = true := by decide +kernel
abbrev WM_init_6 : Wl := [(100, .inl (11, [some (some 101), some (some 102), some (some 103), some none, some none, none, some none, none, none, none, none, none, none, none, none, some none, none, some none, none, none, some none, some none, none, none, some none, some none, none, none, none, some none, some none, some none, none])), (101, .inr (.inl (0, 12))), (102, .inr (.inl (1, 2))), (103, .inr (.inl (0, 96)))]
theorem nd_M_init_6 : nd WM_init_6 = true := by decide +kernel
abbrev WM_init_7 : Wl := [(100, .inl (11, [some (some 101), some (some 102), some (some 103), some none, some none, none, some none, none, none, none, none, none, none, none, none, some none, none, some none, none, none, some none, some none, none, none, some none, some none, none, none, none, some none, some none, some none, none])), (101, .inr (.inl (0, 12))), (102, .inr (.inl (1, 2))), (103, .inr (.inl (0, 96))), (104, .inr (.inl (0, 24)))]
theorem nd_M_init_7 : nd WM_init_7 = true := by decide +kernel
abbrev WM_init_8 : Wl := [(100, .inl (11, [some (some 101), some (some 102), some (some 103), some (some 104), some none, none, some none, none, none, none, none, none, none, none, none, some none, none, some none, none, none, some none, some none, none, none, some none, some none, none, none, none, some none, some none, some none, none])), (101, .inr (.inl (0, 12))), (102, .inr (.inl (1, 2))), (103, .inr (.inl (0, 96))), (104, .inr (.inl (0, 24)))]
theorem nd_M_init_8 : nd WM_init_8 = true := by decide +kernel
abbrev WM_init_9 : Wl := [(100, .inl (11, [some (some 101), some (some 102), some (some 103), some (some 104), some none, none, some none, none, none, none, none, none, none, none, none, some none, none, some none, none, none, some none, some none, none, none, some none, some none, none, none, none, some none, some none, some none, none])), (101, .inr (.inl (0, 12))), (102, .inr (.inl (1, 2))), (103, .inr (.inl (0, 96))), (104, .inr (.inl (0, 24))), (105, .inr (.inl (0, 16)))]
theorem nd_M_init_9 : nd WM_init_9 = true := by decide +kernel
abbrev WM_init_10 : Wl := [(100, .inl (11, [some (some 101), some (some 102), some (some 103), some (some 104), some (some 105), none, some none, none, none, none, none, none, none, none, none, some none, none, some none, none, none, some none, some none, none, none, some none, some none, none, none, none, some none, some none, some none, none])), (101, .inr (.inl (0, 12))), (102, .inr (.inl (1, 2))), (103, .inr (.inl (0, 96))), (104, .inr (.inl (0, 24))), (105, .inr (.inl (0, 16)))]
theorem nd_M_init_10 : nd WM_init_10 = true := by decide +kernel
abbrev WM_init_11 : Wl := [(100, .inl (11, [some (some 101), some (some 102), some (some 103), some (some 104), some (some 105), none, some none, none, none, none, none, none, none, none, none, some none, none, some none, none, none, some none, some none, none, none, some none, some none, none, none, none, some none, some none, some none, none])), (101, .inr (.inl (0, 12))), (102, .inr (.inl (1, 2))), (103, .inr (.inl (0, 96))), (104, .inr (.inl (0, 24))), (105, .inr (.inl (0, 16))), (106, .inr (.inl (0, 250)))]
theorem nd_M_init_11 : nd WM_init_11 = true := by decide +kernel
abbrev WM_init_12 : Wl := [(100, .inl (11, [some (some 101), some (some 102), some (some 103), some (some 104), some (some 105), none, some (some 106), none, none, none, none, none, none, none, none, some none, none, some none, none, none, some none, some none, none, none, some none, some none, none, none, none, some none, some none, some none, none])), (101, .inr (.inl (0, 12))), (102, .inr (.inl (1, 2))), (103, .inr (.inl (0, 96))), (104, .inr (.inl (0, 24))), (105, .inr (.inl (0, 16))), (106, .inr (.inl (0, 250)))]
theorem nd_M_init_12 : nd WM_init_12 = true := by decide +kernel
abbrev WM_init_13 : Wl := [(100, .inl (11, [some (some 101), some (some 102), some (some 103), some (some 104), some (some 105), none, some (some 106), none, none, none, none, none, none, none, none, some none, none, some none, none, none, some none, some none, none, none, some none, some none, none, none, none, some none, some none, some none, none])), (101, .inr (.inl (0, 12))), (102, .inr (.inl (1, 2))), (103, .inr (.inl (0, 96))), (104, .inr (.inl (0, 24))), (105, .inr (.inl (0, 16))), (106, .inr (.inl (0, 250))), (107, .inr (.inl (0, 150)))]
theorem nd_M_init_13 : nd WM_init_13 = true := by decide +kernel
abbrev WM_init_14 : Wl := [(100, .inl (11, [some (some 101), some (some 102), some (some 103), some (some 104), some (some 105), none, some (some 106), none, none, none, none, none, none, none, none, some (some 107), none, some none, none, none, some none, some none, none, none, some none, some none, none, none, none, some none, some none, some none, none])), (101, .inr (.inl (0, 12))), (102, .inr (.inl (1, 2))), (103, .inr (.inl (0, 96))), (104, .inr (.inl (0, 24))), (105, .inr (.inl (0, 16))), (106, .inr (.inl (0, 250))), (107, .inr (.inl (0, 150)))]
theorem nd_M_init_14 : nd WM_init_14 = true := by decide +kernel
abbrev WM_init_15 : Wl := [(100, .inl (11, [some (some 101), some (some 102), some (some 103), some (some 104), some (some 105), none, some (some 106), none, none, none, none, none, none, none, none, some (some 107), none, some none, none, none, some none, some none, none, none, some none, some none, none, none, none, some none, some none, some none, none])), (101, .inr (.inl (0, 12))), (102, .inr (.inl (1, 2))), (103, .inr (.inl (0, 96))), (104, .inr (.inl (0, 24))), (105, .inr (.inl (0, 16))), (106, .inr (.inl (0, 250))), (107, .inr (.inl (0, 150))), (108, .inr (.inl (0, 3456)))]
theorem nd_M_init_15 : nd WM_init_15 = true := by decide +kernel
abbrev WM_init_16 : Wl := [(100, .inl (11, [some (some 101), some (some 102), some (some 103), some (some 104), some (some 105), none, some (some 106), none, none, none, none, none, none, none, none, some (some 107), none, some (some 108), none, none, some none, some none, none, none, some none, some none, none, none, none, some none, some none, some none, none])), (101, .inr (.inl (0, 12))), (102, .inr (.inl (1, 2))), (103, .inr (.inl (0, 96))), (104, .inr (.inl (0, 24))), (105, .inr (.inl (0, 16))), (106, .inr (.inl (0, 250))), (107, .inr (.inl (0, 150))), (108, .inr (.inl (0, 3456)))]
theorem nd_M_init_16 : nd WM_init_16 = true := by decide +kernel
abbrev WM_init_17 : Wl := [(100, .inl (11, [some (some 101), some (some 102), some (some 103), some (some 104), some (some 105), none, some (some 106), none, none, none, none, none, none, none, none, some (some 107), none, some (some 108), none, none, some none, some none, none, none, some none, some none, none, none, none, some none, some none, some none, none])), (101, .inr (.inl (0, 12))), (102, .inr (.inl (1, 2))), (103, .inr (.inl (0, 96))), (104, .inr (.inl (0, 24))), (105, .inr (.inl (0, 16))), (106, .inr (.inl (0, 250))), (107, .inr (.inl (0, 150))), (108, .inr (.inl (0, 3456))), (109, .inr (.inl (0, 55296)))]
theorem nd_M_init_17 : nd WM_init_17 = true := by decide +kernel
abbrev WM_init_18 : Wl := [(100, .inl (11, [some (some 101), some (some 102), some (some 103), some (some 104), some (some 105), none, some (some 106), none, none, none, none, none, none, none, none, some (some 107), none, some (some 108), none, none, some (some 109), some none, none, none, some none, some none, none, none, none, some none, some none, some none, none])), (101, .inr (.inl (0, 12))), (102, .inr (.inl (1, 2))), (103, .inr (.inl (0, 96))), (104, .inr (.inl (0, 24))), (105, .inr (.inl (0, 16))), (106, .inr (.inl (0, 250))), (107, .inr (.inl (0, 150))), (108, .inr (.inl (0, 3456))), (109, .inr (.inl (0, 55296)))]
theorem nd_M_init_18 : nd WM_init_18 = true := by decide +kernel
abbrev WM_init_19 : Wl := [(100, .inl (11, [some (some 101), some (some 102), some (some 103), some (some 104), some (some 105), none, some (some 106), none, none, none, none, none, none, none, none, some (some 107), none, some (some 108), none, none, some (some 109), some none, none, none, some none, some none, none, none, none, some none, some none, some none, none])), (101, .inr (.inl (0, 12))), (102, .inr (.inl (1, 2))), (103, .inr (.inl (0, 96))), (104, .inr (.inl (0, 24))), (105, .inr (.inl (0, 16))), (106, .inr (.inl (0, 250))), (107, .inr (.inl (0, 150))), (108, .inr (.inl (0, 3456))), (109, .inr (.inl (0, 55296))), (110, .inr (.inl (0, 55296)))]
theorem nd_M_init_19 : nd WM_init_19 = true := by decide +kernel
abbrev WM_init_20 : Wl := [(100, .inl (11, [some (some 101), some (some 102), some (some 103), some (some 104), some (some 105), none, some (some 106), none, none, none, none, none, none, none, none, some (some 107), none, some (some 108), none, none, some (some 109), some (some 110), none, none, some none, some none, none, none, none, some none, some none, some none, none])), (101, .inr (.inl (0, 12))), (102, .inr (.inl (1, 2))), (103, .inr (.inl (0, 96))), (104, .inr (.inl (0, 24))), (105, .inr (.inl (0, 16))), (106, .inr (.inl (0, 250))), (107, .inr (.inl (0, 150))), (108, .inr (.inl (0, 3456))), (109, .inr (.inl (0, 55296))), (110, .inr (.inl (0, 55296)))]
theorem nd_M_init_20 : nd WM_init_20 = true := by decide +kernel
abbrev WM_init_21 : Wl := [(100, .inl (11, [some (some 101), some (some 102), some (some 103), some (some 104), some (some 105), none, some (some 106), none, none, none, none, none, none, none, none, some (some 107), none, some (some 108), none, none, some (some 109), some (some 110), none, none, some none, some none, none, none, none, some none, some none, some none, none])), (101, .inr (.inl (0, 12))), (102, .inr (.inl (1, 2))), (103, .inr (.inl (0, 96))), (104, .inr (.inl (0, 24))), (105, .inr (.inl (0, 16))), (106, .inr (.inl (0, 250))), (107, .inr (.inl (0, 150))), (108, .inr (.inl (0, 3456))), (109, .inr (.inl (0, 55296))), (110, .inr (.inl (0, 55296))), (111, .inr (.inl (0, 384)))]
theorem nd_M_init_21 : nd WM_init_21 = true := by decide +kernel
abbrev WM_init_22 : Wl := [(100, .inl (11, [some (some 101), some (some 102), some (some 103), some (some 104), some (some 105), none, some (some 106), none, none, none, none, none, none, none, none, some (some 107), none, some (some 108), none, none, some (some 109), some (some 110), none, none, some (some 111), some none, none, none, none, some none, some none, some none, none])), (101, .inr (.inl (0, 12))), (102, .inr (.inl (1, 2))), (103, .inr (.inl (0, 96))), (104, .inr (.inl (0, 24))), (105, .inr (.inl (0, 16))), (106, .inr (.inl (0, 250))), (107, .inr (.inl (0, 150))), (108, .inr (.inl (0, 3456))), (109, .inr (.inl (0, 55296))), (110, .inr (.inl (0, 55296))), (111, .inr (.inl (0, 384)))]
theorem nd_M_init_22 : nd WM_init_22 = true := by decide +kernel
abbrev WM_init_23 : Wl := [(100, .inl (11, [some (some 101), some (some 102), some (some 103), some (some 104), some (some 105), none, some (some 106), none, none, none, none, none, none, none, none, some (some 107), none, some (some 108), none, none, some (some 109), some (some 110), none, none, some (some 111), some none, none, none, none, some none, some none, some none, none])), (101, .inr (.inl (0, 12))), (102, .inr (.inl (1, 2))), (103, .inr (.inl (0, 96))), (104, .inr (.inl (0, 24))), (105, .inr (.inl (0, 16))), (106, .inr (.inl (0, 250))), (107, .inr (.inl (0, 150))), (108, .inr (.inl (0, 3456))), (109, .inr (.inl (0, 55296))), (110, .inr (.inl (0, 55296))), (111, .inr (.inl (0, 384))), (112, .inr (.inl (0, 4)))]
theorem nd_M_init_23 : nd WM_init_23 = true := by decide +kernel
abbrev WM_init_24 : Wl := [(100, .inl (11, [some (some 101), some (some 102), some (some 103), some (some 104), some (some 105), none, some (some 106), none, none, none, none, none, none, none, none, some (some 107), none, some (some 108), none, none, some (some 109), some (some 110), none, none, some (some 111), some (some 112), none, none, none, some none, some none, some none, none])), (101, .inr (.inl (0, 12))), (102, .inr (.inl (1, 2))), (103, .inr (.inl (0, 96))), (104, .inr (.inl (0, 24))), (105, .inr (.inl (0, 16))), (106, .inr (.inl (0, 250))), (107, .inr (.inl (0, 150))), (108, .inr (.inl (0, 3456))), (109, .inr (.inl (0, 55296))), (110, .inr (.inl (0, 55296))), (111, .inr (.inl (0, 384))), (112, .inr (.inl (0, 4)))]
theorem nd_M_init_24 : nd WM_init_24 = true := by decide +kernel
abbrev WM_init_25 : Wl := [(100, .inl (11, [some (some 101), some (some 102), some (some 103), some (some 104), some (some 105), none, some (some 106), none, none, none, none, none, none, none, none, some (some 107), none, some (some 108), none, none, some (some 109), some (some 110), none, none, some (some 111), some (some 112), none, none, none, some none, some none, some none, none])), (101, .inr (.inl (0, 12))), (102, .inr (.inl (1, 2))), (103, .inr (.inl (0, 96))), (104, .inr (.inl (0, 24))), (105, .inr (.inl (0, 16))), (106, .inr (.inl (0, 250))), (107, .inr (.inl (0, 150))), (108, .inr (.inl (0, 3456))), (109, .inr (.inl (0, 55296))), (110, .inr (.inl (0, 55296))), (111, .inr (.inl (0, 384))), (112, .inr (.inl (0, 4))), (113, .inr (.inl (0, 2)))]
theorem nd_M_init_25 : nd WM_init_25 = true := by decide +kernel
abbrev WM_init_26 : Wl := [(100, .inl (11, [some (some 101), some (some 102), some (some 103), some (some 104), some (some 105), none, some (some 106), none, none, none, none, none, none, none, none, some (some 107), none, some (some 108), none, none, some (some 109), some (some 110), none, none, some (some 111), some (some 112), none, none, none, some (some 113), some none, some none, none])), (101, .inr (.inl (0, 12))), (102, .inr (.inl (1, 2))), (103, .inr (.inl (0, 96))), (104, .inr (.inl (0, 24))), (105, .inr (.inl (0, 16))), (106, .inr (.inl (0, 250))), (107, .inr (.inl (0, 150))), (108, .inr (.inl (0, 3456))), (109, .inr (.inl (0, 55296))), (110, .inr (.inl (0, 55296))), (111, .inr (.inl (0, 384))), (112, .inr (.inl (0, 4))), (113, .inr (.inl (0, 2)))]
theorem nd_M_init_26 : nd WM_init_26 = true := by decide +kernel
abbrev WM_init_27 : Wl := [(100, .inl (11, [some (some 101), some (some 102), some (some 103), some (some 104), some (some 105), none, some (some 106), none, none, none, none, none, none, none, none, some (some 107), none, some (some 108), none, none, some (some 109), some (some 110), none, none, some (some 111), some (some 112), none, none, none, some (some 113), some none, some none, none])), (101, .inr (.inl (0, 12))), (102, .inr (.inl (1, 2))), (103, .inr (.inl (0, 96))), (104, .inr (.inl (0, 24))), (105, .inr (.inl (0, 16))), (106, .inr (.inl (0, 250))), (107, .inr (.inl (0, 150))), (108, .inr (.inl (0, 3456))), (109, .inr (.inl (0, 55296))), (110, .inr (.inl (0, 55296))), (111, .inr (.inl (0, 384))), (112, .inr (.inl (0, 4))), (113, .inr (.inl (0, 2))), (114, .inr (.inl (0, 20)))]
theorem nd_M_init_27 : nd WM_init_27 = true := by decide +kernel
abbrev WM_init_28 : Wl := [(100, .inl (11, [some (some 101), some (some 102), some (some 103), some (some 104), some (some 105), none, some (some 106), none, none, none, none, none, none, none, none, some (some 107), none, some (some 108), none, none, some (some 109), some (some 110), none, none, some (some 111), some (some 112), none, none, none, some (some 113), some (some 114), some none, none])), (101, .inr (.inl (0, 12))), (102, .inr (.inl (1, 2))), (103, .inr (.inl (0, 96))), (104, .inr (.inl (0, 24))), (105, .inr (.inl (0, 16))), (106, .inr (.inl (0, 250))), (107, .inr (.inl (0, 150))), (108, .inr (.inl (0, 3456))), (109, .inr (.inl (0, 55296))), (110, .inr (.inl (0, 55296))), (111, .inr (.inl (0, 384))), (112, .inr (.inl (0, 4))), (113, .inr (.inl (0, 2))), (114, .inr (.inl (0, 20)))]
theorem nd_M_init_28 : nd WM_init_28 = true := by decide +kernel
abbrev WM_init_29 : Wl := [(100, .inl (11, [some (some 101), some (some 102), some (some 103), some (some 104), some (some 105), none, some (some 106), none, none, none, none, none, none, none, none, some (some 107), none, some (some 108), none, none, some (some 109), some (some 110), none, none, some (some 111), some (some 112), none, none, none, some (some 113), some (some 114), some none, none])), (101, .inr (.inl (0, 12))), (102, .inr (.inl (1, 2))), (103, .inr (.inl (0, 96))), (104, .inr (.inl (0, 24))), (105, .inr (.inl (0, 16))), (106, .inr (.inl (0, 250))), (107, .inr (.inl (0, 150))), (108, .inr (.inl (0, 3456))), (109, .inr (.inl (0, 55296))), (110, .inr (.inl (0, 55296))), (111, .inr (.inl (0, 384))), (112, .inr (.inl (0, 4))), (113, .inr (.inl (0, 2))), (114, .inr (.inl (0, 20))), (115, .inr (.inl (0, 20)))]
theorem nd_M_init_29 : nd WM_init_29 = true := by decide +kernel
abbrev WM_init_30 : Wl := [(100, .inl (11, [some (some 101), some (some 102), some (some 103), some (some 104), some (some 105), none, some (some 106), none, none, none, none, none, none, none, none, some (some 107), none, some (some 108), none, none, some (some 109), some (some 110), none, none, some (some 111), some (some 112), none, none, none, some (some 113), some (some 114), some (some 115), none])), (101, .inr (.inl (0, 12))), (102, .inr (.inl (1, 2))), (103, .inr (.inl (0, 96))), (104, .inr (.inl (0, 24))), (105, .inr (.inl (0, 16))), (106, .inr (.inl (0, 250))), (107, .inr (.inl (0, 150))), (108, .inr (.inl (0, 3456))), (109, .inr (.inl (0, 55296))), (110, .inr (.inl (0, 55296))), (111, .inr (.inl (0, 384))), (112, .inr (.inl (0, 4))), (113, .inr (.inl (0, 2))), (114, .inr (.inl (0, 20))), (115, .inr (.inl (0, 20)))]
theorem nd_M_init_30 : nd WM_init_30 = true := by decide +kernel
theorem sb_M_M_init_30 : subW WM WM_init_30 = true := by decide +kernel
def K_River_init (h : Hp) : Option Hp :=
  nm (hset h 10 0 0) <| fun h6 => nm (hset h6 10 1 0) <| fun h11 => nm (hrow h11 11 (fun _ => 0)) <| fun h17 => nm (hset h17 10 3 2) <| fun h24 => nm (hset h24 10 4 2) <| fun h29 => nm (hset h29 10 5 2) <| fun h34 => nm (hset h34 10 6 2) <| fun h39 => nm (hset h39 10 7 0) <| fun h44 => nm (hset h44 10 8 (-1)) <| fun h49 => nm (hset h49 10 9 (-1)) <| fun h54 => nm (hset h54 10 10 (-1)) <| fun h59 => nm (hset h59 10 11 0) <| fun h64 => nm (hrow h64 12 (fun _ => 0)) <| fun h70 => sA 8 0 <| nm (hset h70 12 (Int32.toNatClampNeg 0) 0) <| fun h75 => sA 8 1 <| nm (hset h75 12 (Int32.toNatClampNeg 1) 1) <| fun h79 => sA 8 2 <| nm (hset h79 12 (Int32.toNatClampNeg 2) 2) <| fun h83 => sA 8 3 <| nm (hset h83 12 (Int32.toNatClampNeg 3) 3) <| fun h87 => sA 8 4 <| nm (hset h87 12 (Int32.toNatClampNeg 4) 0) <| fun h91 => sA 8 5 <| nm (hset h91 12 (Int32.toNatClampNeg 5) 1) <| fun h95 => sA 8 6 <| nm (hset h95 12 (Int32.toNatClampNeg 6) 2) <| fun h100 => sA 8 7 <| nm (hset h100 12 (Int32.toNatClampNeg 7) 3) <| fun h105 => nm (hrow h105 11 (filled 48 (h105 11) 1)) <| fun h114 => some h114
def K_Waters_init (h : Hp) : Option Hp :=
  nm (hrow h 16 (fun _ => 0)) <| fun h8 => nm (hrow h8 17 (fun _ => 0)) <| fun h16 => nm (hset h16 15 2 1) <| fun h23 => some h23
def K_Crew_init (h : Hp) : Option Hp :=
  nm (hrow h 21 (fun _ => 0)) <| fun h7 => nm (hrow h7 22 (fun _ => 0)) <| fun h15 => some h15
def K_Three_init (h : Hp) : Option Hp :=
  nm (hrow h 26 (fun _ => 0)) <| fun h7 => nm (hrow h7 27 (fun _ => 0)) <| fun h15 => some h15
def K_Boat_init (h : Hp) : Option Hp :=
  nm (hset h 30 0 0) <| fun h6 => nm (hset h6 30 1 0) <| fun h11 => nm (hset h11 30 2 0) <| fun h16 => some h16
def K_Log_init (h : Hp) : Option Hp :=
  nm (hrow h 36 (fun _ => 0)) <| fun h7 => nm (hset h7 35 1 0) <| fun h14 => nm (hset h14 35 2 0) <| fun h19 => some h19
def K_Lines_init (h : Hp) : Option Hp :=
  nm (hrow h 61 (fun _ => 0)) <| fun h6 => nm (hrow h6 62 (fun _ => 0)) <| fun h14 => nm (hrow h14 63 (fun _ => 0)) <| fun h22 => nm (hrow h22 64 (fun _ => 0)) <| fun h30 => nm (hset h30 60 4 0) <| fun h37 => nm (hset h37 60 5 0) <| fun h42 => some h42
def K_Search_init (h : Hp) : Option Hp :=
  nm (hrow h 41 (fun _ => 0)) <| fun h8 => nm (hrow h8 42 (fun _ => 0)) <| fun h17 => nm (hrow h17 43 (fun _ => 0)) <| fun h25 => nm (hset h25 40 3 0) <| fun h32 => nm (hset h32 40 4 (-1)) <| fun h37 => nm (hset h37 40 5 (-1)) <| fun h42 => nm (hset h42 40 6 (-1)) <| fun h47 => some h47
def K_Calling_init (h : Hp) : Option Hp :=
  nm (hrow h 46 (fun _ => 0)) <| fun h8 => nm (hrow h8 47 (fun _ => 0)) <| fun h17 => nm (hrow h17 48 (fun _ => 0)) <| fun h26 => nm (hrow h26 49 (fun _ => 0)) <| fun h35 => nm (hset h35 45 4 0) <| fun h42 => nm (hset h42 45 5 99) <| fun h48 => nm (hset h48 45 6 (-1)) <| fun h53 => nm (hset h53 45 7 (-1)) <| fun h58 => nm (hset h58 45 8 (-1)) <| fun h63 => some h63
def K_Gusts_init (h : Hp) : Option Hp :=
  nm (hrow h 56 (fun _ => 0)) <| fun h8 => nm (hset h8 55 1 (-1)) <| fun h15 => nm (hset h15 55 2 (-1)) <| fun h20 => nm (hset h20 55 3 (-1)) <| fun h25 => some h25
def K_Reader_init (b0 : Int32) (h : Hp) : Option Hp :=
  nm (hrow h 10 (fun _ => 0)) <| fun h5 => bd (K_River_init h5) <| fun h9 => nm (mx [10, 11, 12] h9 h5) <| fun h9m => nm (hset h9m 70 3 0) <| fun h17 => nm (hset h17 70 4 0) <| fun h22 => nm (hset h22 70 5 0) <| fun h27 => nm (hset h27 70 6 0) <| fun h32 => nm (hset h32 70 7 (-1)) <| fun h37 => nm (hset h37 70 1 (if 250 < b0 then 250 else b0)) <| fun h52 => some h52
def K_M_init (N : Nat) (h : Hp) : Option Hp :=
  nm (hrow h 101 (fun _ => 0)) <| fun h7 => nm (hrow h7 102 (fun _ => 0)) <| fun h14 => nm (hrow h14 103 (fun _ => 0)) <| fun h22 => nm (hrow h22 104 (fun _ => 0)) <| fun h30 => nm (hrow h30 105 (fun _ => 0)) <| fun h38 => nm (hrow h38 106 (fun _ => 0)) <| fun h47 => nm (hset h47 100 11 (-1)) <| fun h54 => nm (hrow h54 107 (fun _ => 0)) <| fun h61 => nm (hrow h61 108 (fun _ => 0)) <| fun h70 => nm (hrow h70 109 (fun _ => 0)) <| fun h78 => nm (hrow h78 110 (fun _ => 0)) <| fun h86 => nm (hrow h86 111 (fun _ => 0)) <| fun h95 => nm (hrow h95 112 (fun _ => 0)) <| fun h102 => nm (hrow h102 113 (fun _ => 0)) <| fun h109 => nm (hrow h109 114 (fun _ => 0)) <| fun h117 => nm (hrow h117 115 (fun _ => 0)) <| fun h125 => bd (K_M_tellNothing N 0 h125) <| fun h132 => nm (mx [100, 101, 102, 103, 104, 105, 106, 107, 108, 109, 110, 111, 112, 113, 114, 115] h132 h125) <| fun h132m => bd (K_M_tellNothing N 1 h132m) <| fun h137 => nm (mx [100, 101, 102, 103, 104, 105, 106, 107, 108, 109, 110, 111, 112, 113, 114, 115] h137 h132m) <| fun h137m => some h137m
abbrev y_River_init : MethodName := ⟨"CanoeSides$River", "<init>", "()V"⟩
theorem cd_River_init : cwd y_River_init 0 := by decide +kernel
theorem d_River_init_0 : decode prog_9_method_1_code 0 = .ok (.aload_n 0, 1) := by decide +kernel
theorem d_River_init_1 : decode prog_9_method_1_code 1 = .ok (.invokespecial 3, 3) := by decide +kernel
theorem d_River_init_4 : decode prog_9_method_1_code 4 = .ok (.aload_n 0, 1) := by decide +kernel
theorem d_River_init_5 : decode prog_9_method_1_code 5 = .ok (.iconst 0, 1) := by decide +kernel
theorem d_River_init_6 : decode prog_9_method_1_code 6 = .ok (.putfield 9, 3) := by decide +kernel
theorem d_River_init_9 : decode prog_9_method_1_code 9 = .ok (.aload_n 0, 1) := by decide +kernel
theorem d_River_init_10 : decode prog_9_method_1_code 10 = .ok (.iconst 0, 1) := by decide +kernel
theorem d_River_init_11 : decode prog_9_method_1_code 11 = .ok (.putfield 15, 3) := by decide +kernel
theorem d_River_init_14 : decode prog_9_method_1_code 14 = .ok (.aload_n 0, 1) := by decide +kernel
theorem d_River_init_15 : decode prog_9_method_1_code 15 = .ok (.bipush 48, 2) := by decide +kernel
theorem d_River_init_17 : decode prog_9_method_1_code 17 = .ok (.newarray .int, 2) := by decide +kernel
theorem d_River_init_19 : decode prog_9_method_1_code 19 = .ok (.putfield 18, 3) := by decide +kernel
theorem d_River_init_22 : decode prog_9_method_1_code 22 = .ok (.aload_n 0, 1) := by decide +kernel
theorem d_River_init_23 : decode prog_9_method_1_code 23 = .ok (.iconst 2, 1) := by decide +kernel
theorem d_River_init_24 : decode prog_9_method_1_code 24 = .ok (.putfield 22, 3) := by decide +kernel
theorem d_River_init_27 : decode prog_9_method_1_code 27 = .ok (.aload_n 0, 1) := by decide +kernel
theorem d_River_init_28 : decode prog_9_method_1_code 28 = .ok (.iconst 2, 1) := by decide +kernel
theorem d_River_init_29 : decode prog_9_method_1_code 29 = .ok (.putfield 25, 3) := by decide +kernel
theorem d_River_init_32 : decode prog_9_method_1_code 32 = .ok (.aload_n 0, 1) := by decide +kernel
theorem d_River_init_33 : decode prog_9_method_1_code 33 = .ok (.iconst 2, 1) := by decide +kernel
theorem d_River_init_34 : decode prog_9_method_1_code 34 = .ok (.putfield 28, 3) := by decide +kernel
theorem d_River_init_37 : decode prog_9_method_1_code 37 = .ok (.aload_n 0, 1) := by decide +kernel
theorem d_River_init_38 : decode prog_9_method_1_code 38 = .ok (.iconst 2, 1) := by decide +kernel
theorem d_River_init_39 : decode prog_9_method_1_code 39 = .ok (.putfield 31, 3) := by decide +kernel
theorem d_River_init_42 : decode prog_9_method_1_code 42 = .ok (.aload_n 0, 1) := by decide +kernel
theorem d_River_init_43 : decode prog_9_method_1_code 43 = .ok (.iconst 0, 1) := by decide +kernel
theorem d_River_init_44 : decode prog_9_method_1_code 44 = .ok (.putfield 34, 3) := by decide +kernel
theorem d_River_init_47 : decode prog_9_method_1_code 47 = .ok (.aload_n 0, 1) := by decide +kernel
theorem d_River_init_48 : decode prog_9_method_1_code 48 = .ok (.iconst (-1), 1) := by decide +kernel
theorem d_River_init_49 : decode prog_9_method_1_code 49 = .ok (.putfield 37, 3) := by decide +kernel
theorem d_River_init_52 : decode prog_9_method_1_code 52 = .ok (.aload_n 0, 1) := by decide +kernel
theorem d_River_init_53 : decode prog_9_method_1_code 53 = .ok (.iconst (-1), 1) := by decide +kernel
theorem d_River_init_54 : decode prog_9_method_1_code 54 = .ok (.putfield 40, 3) := by decide +kernel
theorem d_River_init_57 : decode prog_9_method_1_code 57 = .ok (.aload_n 0, 1) := by decide +kernel
theorem d_River_init_58 : decode prog_9_method_1_code 58 = .ok (.iconst (-1), 1) := by decide +kernel
theorem d_River_init_59 : decode prog_9_method_1_code 59 = .ok (.putfield 43, 3) := by decide +kernel
theorem d_River_init_62 : decode prog_9_method_1_code 62 = .ok (.aload_n 0, 1) := by decide +kernel
theorem d_River_init_63 : decode prog_9_method_1_code 63 = .ok (.iconst 0, 1) := by decide +kernel
theorem d_River_init_64 : decode prog_9_method_1_code 64 = .ok (.putfield 46, 3) := by decide +kernel
theorem d_River_init_67 : decode prog_9_method_1_code 67 = .ok (.aload_n 0, 1) := by decide +kernel
theorem d_River_init_68 : decode prog_9_method_1_code 68 = .ok (.bipush 8, 2) := by decide +kernel
theorem d_River_init_70 : decode prog_9_method_1_code 70 = .ok (.newarray .int, 2) := by decide +kernel
theorem d_River_init_72 : decode prog_9_method_1_code 72 = .ok (.dup, 1) := by decide +kernel
theorem d_River_init_73 : decode prog_9_method_1_code 73 = .ok (.iconst 0, 1) := by decide +kernel
theorem d_River_init_74 : decode prog_9_method_1_code 74 = .ok (.iconst 0, 1) := by decide +kernel
theorem d_River_init_75 : decode prog_9_method_1_code 75 = .ok (.iastore, 1) := by decide +kernel
theorem d_River_init_76 : decode prog_9_method_1_code 76 = .ok (.dup, 1) := by decide +kernel
theorem d_River_init_77 : decode prog_9_method_1_code 77 = .ok (.iconst 1, 1) := by decide +kernel
theorem d_River_init_78 : decode prog_9_method_1_code 78 = .ok (.iconst 1, 1) := by decide +kernel
theorem d_River_init_79 : decode prog_9_method_1_code 79 = .ok (.iastore, 1) := by decide +kernel
theorem d_River_init_80 : decode prog_9_method_1_code 80 = .ok (.dup, 1) := by decide +kernel
theorem d_River_init_81 : decode prog_9_method_1_code 81 = .ok (.iconst 2, 1) := by decide +kernel
theorem d_River_init_82 : decode prog_9_method_1_code 82 = .ok (.iconst 2, 1) := by decide +kernel
theorem d_River_init_83 : decode prog_9_method_1_code 83 = .ok (.iastore, 1) := by decide +kernel
theorem d_River_init_84 : decode prog_9_method_1_code 84 = .ok (.dup, 1) := by decide +kernel
theorem d_River_init_85 : decode prog_9_method_1_code 85 = .ok (.iconst 3, 1) := by decide +kernel
theorem d_River_init_86 : decode prog_9_method_1_code 86 = .ok (.iconst 3, 1) := by decide +kernel
theorem d_River_init_87 : decode prog_9_method_1_code 87 = .ok (.iastore, 1) := by decide +kernel
theorem d_River_init_88 : decode prog_9_method_1_code 88 = .ok (.dup, 1) := by decide +kernel
theorem d_River_init_89 : decode prog_9_method_1_code 89 = .ok (.iconst 4, 1) := by decide +kernel
theorem d_River_init_90 : decode prog_9_method_1_code 90 = .ok (.iconst 0, 1) := by decide +kernel
theorem d_River_init_91 : decode prog_9_method_1_code 91 = .ok (.iastore, 1) := by decide +kernel
theorem d_River_init_92 : decode prog_9_method_1_code 92 = .ok (.dup, 1) := by decide +kernel
theorem d_River_init_93 : decode prog_9_method_1_code 93 = .ok (.iconst 5, 1) := by decide +kernel
theorem d_River_init_94 : decode prog_9_method_1_code 94 = .ok (.iconst 1, 1) := by decide +kernel
theorem d_River_init_95 : decode prog_9_method_1_code 95 = .ok (.iastore, 1) := by decide +kernel
theorem d_River_init_96 : decode prog_9_method_1_code 96 = .ok (.dup, 1) := by decide +kernel
theorem d_River_init_97 : decode prog_9_method_1_code 97 = .ok (.bipush 6, 2) := by decide +kernel
theorem d_River_init_99 : decode prog_9_method_1_code 99 = .ok (.iconst 2, 1) := by decide +kernel
theorem d_River_init_100 : decode prog_9_method_1_code 100 = .ok (.iastore, 1) := by decide +kernel
theorem d_River_init_101 : decode prog_9_method_1_code 101 = .ok (.dup, 1) := by decide +kernel
theorem d_River_init_102 : decode prog_9_method_1_code 102 = .ok (.bipush 7, 2) := by decide +kernel
theorem d_River_init_104 : decode prog_9_method_1_code 104 = .ok (.iconst 3, 1) := by decide +kernel
theorem d_River_init_105 : decode prog_9_method_1_code 105 = .ok (.iastore, 1) := by decide +kernel
theorem d_River_init_106 : decode prog_9_method_1_code 106 = .ok (.putfield 49, 3) := by decide +kernel
theorem d_River_init_109 : decode prog_9_method_1_code 109 = .ok (.aload_n 0, 1) := by decide +kernel
theorem d_River_init_110 : decode prog_9_method_1_code 110 = .ok (.getfield 18, 3) := by decide +kernel
theorem d_River_init_113 : decode prog_9_method_1_code 113 = .ok (.iconst 1, 1) := by decide +kernel
theorem d_River_init_114 : decode prog_9_method_1_code 114 = .ok (.invokestatic 52, 3) := by decide +kernel
theorem d_River_init_117 : decode prog_9_method_1_code 117 = .ok (.return_, 1) := by decide +kernel
abbrev rm_River_init : Room := { frames := 1, cells := 2, slots := 56, locals := 23 }
theorem w_River_init {p : Program} {l : Launch} {e : Env} {s : State} {m : MethodId} {args : Array Value} {below : List Frame} {meth : Method} {c : Code} {K : KT} {A : Nat → Prop} (C0 : Cx p s m args meth c prog_9_method_1_code "CanoeSides$River" 1 K A) (hr : meth.sig.returnType = none) (hnm : meth.name = "<init>") {ad : Nat → Nat} (h : Hp) {res : Hp} (hE : K_River_init h = some res) : G p l e rm_River_init s m args below meth c K A WRiver_init_0 1 0 0 (QVN s args below K A WRiver_init_4 [10] ad res 2 56) 0 [(0, .ref (ad 10))] [] ad h := by
  unfold K_River_init at hE
  refine g_aload_n C0 0 d_River_init_0 rfl rfl ?_
  refine g_objInit C0 t_117 tO.1 tO.2 (Nat.le_of_ble_eq_true rfl) (Nat.le_of_ble_eq_true rfl) d_River_init_1 ?_
  refine g_aload_n C0 0 d_River_init_4 rfl rfl ?_
  refine g_iconst C0 (v := 0) d_River_init_5 (by decide) ?_
  obtain ⟨h6, e6, hE⟩ := nm_some hE
  refine g_puti C0 CK_7 CT_7 0 (by decide) t_121 rfl (by decide +kernel) nd_River_init_0 0 rfl rfl d_River_init_6 ?_
  refine g_heap e6 ?_
  refine g_aload_n C0 0 d_River_init_9 rfl rfl ?_
  refine g_iconst C0 (v := 0) d_River_init_10 (by decide) ?_
  obtain ⟨h11, e11, hE⟩ := nm_some hE
  refine g_puti C0 CK_7 CT_7 1 (by decide) t_124 rfl (by decide +kernel) nd_River_init_0 0 rfl rfl d_River_init_11 ?_
  refine g_heap e11 ?_
  refine g_aload_n C0 0 d_River_init_14 rfl rfl ?_
  refine g_bipush C0 (v := 48) d_River_init_15 (by decide) ?_
  obtain ⟨h17, e17, hE⟩ := nm_some hE
  refine g_newa C0 11 0 48 t_193 rfl rfl (fun _ => Iff.rfl) rfl (by decide +kernel) (by decide) (by decide) (by decide) (by decide) (by decide) d_River_init_17 (fun ad17 hag17 => ?_)
  rw [← hag17 10 (by decide)]
  refine g_heap e17 ?_
  refine (?_ : G p l e rm_River_init s m args below meth c K A WRiver_init_1 1 1 48 _ 19 [(0, .ref (ad17 10))] [.ref (ad17 11), .ref (ad17 10)] ad17 h17)
  refine g_putrF C0 CK_7 CT_7 2 (by decide) t_127 rfl hnm rfl (CT_7.1 2 (by decide)) nd_River_init_1 0 rfl rfl WRiver_init_2 rfl (by decide) rfl d_River_init_19 ?_
  refine g_aload_n C0 0 d_River_init_22 rfl rfl ?_
  refine g_iconst C0 (v := 2) d_River_init_23 (by decide) ?_
  obtain ⟨h24, e24, hE⟩ := nm_some hE
  refine g_puti C0 CK_7 CT_7 3 (by decide) t_128 rfl (by decide +kernel) nd_River_init_2 0 rfl rfl d_River_init_24 ?_
  refine g_heap e24 ?_
  refine g_aload_n C0 0 d_River_init_27 rfl rfl ?_
  refine g_iconst C0 (v := 2) d_River_init_28 (by decide) ?_
  obtain ⟨h29, e29, hE⟩ := nm_some hE
  refine g_puti C0 CK_7 CT_7 4 (by decide) t_132 rfl (by decide +kernel) nd_River_init_2 0 rfl rfl d_River_init_29 ?_
  refine g_heap e29 ?_
  refine g_aload_n C0 0 d_River_init_32 rfl rfl ?_
  refine g_iconst C0 (v := 2) d_River_init_33 (by decide) ?_
  obtain ⟨h34, e34, hE⟩ := nm_some hE
  refine g_puti C0 CK_7 CT_7 5 (by decide) t_136 rfl (by decide +kernel) nd_River_init_2 0 rfl rfl d_River_init_34 ?_
  refine g_heap e34 ?_
  refine g_aload_n C0 0 d_River_init_37 rfl rfl ?_
  refine g_iconst C0 (v := 2) d_River_init_38 (by decide) ?_
  obtain ⟨h39, e39, hE⟩ := nm_some hE
  refine g_puti C0 CK_7 CT_7 6 (by decide) t_140 rfl (by decide +kernel) nd_River_init_2 0 rfl rfl d_River_init_39 ?_
  refine g_heap e39 ?_
  refine g_aload_n C0 0 d_River_init_42 rfl rfl ?_
  refine g_iconst C0 (v := 0) d_River_init_43 (by decide) ?_
  obtain ⟨h44, e44, hE⟩ := nm_some hE
  refine g_puti C0 CK_7 CT_7 7 (by decide) t_144 rfl (by decide +kernel) nd_River_init_2 0 rfl rfl d_River_init_44 ?_
  refine g_heap e44 ?_
  refine g_aload_n C0 0 d_River_init_47 rfl rfl ?_
  refine g_iconst C0 (v := (-1)) d_River_init_48 (by decide) ?_
  obtain ⟨h49, e49, hE⟩ := nm_some hE
  refine g_puti C0 CK_7 CT_7 8 (by decide) t_147 rfl (by decide +kernel) nd_River_init_2 0 rfl rfl d_River_init_49 ?_
  refine g_heap e49 ?_
  refine g_aload_n C0 0 d_River_init_52 rfl rfl ?_
  refine g_iconst C0 (v := (-1)) d_River_init_53 (by decide) ?_
  obtain ⟨h54, e54, hE⟩ := nm_some hE
  refine g_puti C0 CK_7 CT_7 9 (by decide) t_153 rfl (by decide +kernel) nd_River_init_2 0 rfl rfl d_River_init_54 ?_
  refine g_heap e54 ?_
  refine g_aload_n C0 0 d_River_init_57 rfl rfl ?_
  refine g_iconst C0 (v := (-1)) d_River_init_58 (by decide) ?_
  obtain ⟨h59, e59, hE⟩ := nm_some hE
  refine g_puti C0 CK_7 CT_7 10 (by decide) t_156 rfl (by decide +kernel) nd_River_init_2 0 rfl rfl d_River_init_59 ?_
  refine g_heap e59 ?_
  refine g_aload_n C0 0 d_River_init_62 rfl rfl ?_
  refine g_iconst C0 (v := 0) d_River_init_63 (by decide) ?_
  obtain ⟨h64, e64, hE⟩ := nm_some hE
  refine g_puti C0 CK_7 CT_7 11 (by decide) t_160 rfl (by decide +kernel) nd_River_init_2 0 rfl rfl d_River_init_64 ?_
  refine g_heap e64 ?_
  refine g_aload_n C0 0 d_River_init_67 rfl rfl ?_
  refine g_bipush C0 (v := 8) d_River_init_68 (by decide) ?_
  obtain ⟨h70, e70, hE⟩ := nm_some hE
  refine g_newa C0 12 0 8 t_193 rfl rfl (fun _ => Iff.rfl) rfl (by decide +kernel) (by decide) (by decide) (by decide) (by decide) (by decide) d_River_init_70 (fun ad70 hag70 => ?_)
  rw [← hag70 10 (by decide)]
  refine g_heap e70 ?_
  refine (?_ : G p l e rm_River_init s m args below meth c K A WRiver_init_3 1 2 56 _ 72 [(0, .ref (ad70 10))] [.ref (ad70 12), .ref (ad70 10)] ad70 h70)
  refine g_dup C0 d_River_init_72 rfl ?_
  refine g_iconst C0 (v := 0) d_River_init_73 (by decide) ?_
  refine g_iconst C0 (v := 0) d_River_init_74 (by decide) ?_
  obtain ⟨q75, hE⟩ := sA_some hE
  obtain ⟨h75, e75, hE⟩ := nm_some hE
  refine g_iast C0 2 rfl nd_River_init_3 q75 d_River_init_75 ?_
  refine g_heap e75 ?_
  refine g_dup C0 d_River_init_76 rfl ?_
  refine g_iconst C0 (v := 1) d_River_init_77 (by decide) ?_
  refine g_iconst C0 (v := 1) d_River_init_78 (by decide) ?_
  obtain ⟨q79, hE⟩ := sA_some hE
  obtain ⟨h79, e79, hE⟩ := nm_some hE
  refine g_iast C0 2 rfl nd_River_init_3 q79 d_River_init_79 ?_
  refine g_heap e79 ?_
  refine g_dup C0 d_River_init_80 rfl ?_
  refine g_iconst C0 (v := 2) d_River_init_81 (by decide) ?_
  refine g_iconst C0 (v := 2) d_River_init_82 (by decide) ?_
  obtain ⟨q83, hE⟩ := sA_some hE
  obtain ⟨h83, e83, hE⟩ := nm_some hE
  refine g_iast C0 2 rfl nd_River_init_3 q83 d_River_init_83 ?_
  refine g_heap e83 ?_
  refine g_dup C0 d_River_init_84 rfl ?_
  refine g_iconst C0 (v := 3) d_River_init_85 (by decide) ?_
  refine g_iconst C0 (v := 3) d_River_init_86 (by decide) ?_
  obtain ⟨q87, hE⟩ := sA_some hE
  obtain ⟨h87, e87, hE⟩ := nm_some hE
  refine g_iast C0 2 rfl nd_River_init_3 q87 d_River_init_87 ?_
  refine g_heap e87 ?_
  refine g_dup C0 d_River_init_88 rfl ?_
  refine g_iconst C0 (v := 4) d_River_init_89 (by decide) ?_
  refine g_iconst C0 (v := 0) d_River_init_90 (by decide) ?_
  obtain ⟨q91, hE⟩ := sA_some hE
  obtain ⟨h91, e91, hE⟩ := nm_some hE
  refine g_iast C0 2 rfl nd_River_init_3 q91 d_River_init_91 ?_
  refine g_heap e91 ?_
  refine g_dup C0 d_River_init_92 rfl ?_
  refine g_iconst C0 (v := 5) d_River_init_93 (by decide) ?_
  refine g_iconst C0 (v := 1) d_River_init_94 (by decide) ?_
  obtain ⟨q95, hE⟩ := sA_some hE
  obtain ⟨h95, e95, hE⟩ := nm_some hE
  refine g_iast C0 2 rfl nd_River_init_3 q95 d_River_init_95 ?_
  refine g_heap e95 ?_
  refine g_dup C0 d_River_init_96 rfl ?_
  refine g_bipush C0 (v := 6) d_River_init_97 (by decide) ?_
  refine g_iconst C0 (v := 2) d_River_init_99 (by decide) ?_
  obtain ⟨q100, hE⟩ := sA_some hE
  obtain ⟨h100, e100, hE⟩ := nm_some hE
  refine g_iast C0 2 rfl nd_River_init_3 q100 d_River_init_100 ?_
  refine g_heap e100 ?_
  refine g_dup C0 d_River_init_101 rfl ?_
  refine g_bipush C0 (v := 7) d_River_init_102 (by decide) ?_
  refine g_iconst C0 (v := 3) d_River_init_104 (by decide) ?_
  obtain ⟨q105, hE⟩ := sA_some hE
  obtain ⟨h105, e105, hE⟩ := nm_some hE
  refine g_iast C0 2 rfl nd_River_init_3 q105 d_River_init_105 ?_
  refine g_heap e105 ?_
  refine g_putrF C0 CK_7 CT_7 12 (by decide) t_164 rfl hnm rfl (CT_7.1 12 (by decide)) nd_River_init_3 0 rfl rfl WRiver_init_4 rfl (by decide) rfl d_River_init_106 ?_
  refine g_aload_n C0 0 d_River_init_109 rfl rfl ?_
  refine g_getr C0 CK_7 2 (by decide) t_127 0 rfl rfl d_River_init_110 ?_
  refine g_iconst C0 (v := 1) d_River_init_113 (by decide) ?_
  obtain ⟨h114, e114, hE⟩ := nm_some hE
  refine g_fill C0 t_118 (by decide) 1 rfl (by decide) nd_River_init_4 (Nat.le_of_ble_eq_true rfl) d_River_init_114 ?_
  refine g_heap e114 ?_
  obtain rfl := Option.some.inj hE
  exact g_vretN C0 (List.forall_mem_cons.mpr ⟨((hag70 10 (by decide))).trans (hag17 10 (by decide)), fun _ h => absurd h List.not_mem_nil⟩) hr d_River_init_117
theorem m_River_init (l : Launch) (K : KT) (ad : Nat → Nat) (h : Hp) {res : Hp} (hE : K_River_init h = some res) : ConN l y_River_init prog_9_method_1_code 1 rm_River_init K WRiver_init_0 ad h [.ref (ad 10)] WRiver_init_4 [10] res 2 56 := fun sz =>
  con_startN [(0, .ref (ad 10))] (by decide +kernel) rfl (Nat.le_of_ble_eq_true rfl) (fun p e s m args below meth c C0 hr hnm hsz => w_River_init C0 hr hnm h hE)
abbrev y_Waters_init : MethodName := ⟨"CanoeSides$Waters", "<init>", "()V"⟩
theorem cd_Waters_init : cwd y_Waters_init 0 := by decide +kernel
theorem d_Waters_init_0 : decode prog_11_method_1_code 0 = .ok (.aload_n 0, 1) := by decide +kernel
theorem d_Waters_init_1 : decode prog_11_method_1_code 1 = .ok (.invokespecial 3, 3) := by decide +kernel
theorem d_Waters_init_4 : decode prog_11_method_1_code 4 = .ok (.aload_n 0, 1) := by decide +kernel
theorem d_Waters_init_5 : decode prog_11_method_1_code 5 = .ok (.sipush 1920, 3) := by decide +kernel
theorem d_Waters_init_8 : decode prog_11_method_1_code 8 = .ok (.newarray .int, 2) := by decide +kernel
theorem d_Waters_init_10 : decode prog_11_method_1_code 10 = .ok (.putfield 11, 3) := by decide +kernel
theorem d_Waters_init_13 : decode prog_11_method_1_code 13 = .ok (.aload_n 0, 1) := by decide +kernel
theorem d_Waters_init_14 : decode prog_11_method_1_code 14 = .ok (.bipush 48, 2) := by decide +kernel
theorem d_Waters_init_16 : decode prog_11_method_1_code 16 = .ok (.newarray .int, 2) := by decide +kernel
theorem d_Waters_init_18 : decode prog_11_method_1_code 18 = .ok (.putfield 15, 3) := by decide +kernel
theorem d_Waters_init_21 : decode prog_11_method_1_code 21 = .ok (.aload_n 0, 1) := by decide +kernel
theorem d_Waters_init_22 : decode prog_11_method_1_code 22 = .ok (.iconst 1, 1) := by decide +kernel
theorem d_Waters_init_23 : decode prog_11_method_1_code 23 = .ok (.putfield 18, 3) := by decide +kernel
theorem d_Waters_init_26 : decode prog_11_method_1_code 26 = .ok (.return_, 1) := by decide +kernel
abbrev rm_Waters_init : Room := { frames := 1, cells := 2, slots := 1968, locals := 20 }
theorem w_Waters_init {p : Program} {l : Launch} {e : Env} {s : State} {m : MethodId} {args : Array Value} {below : List Frame} {meth : Method} {c : Code} {K : KT} {A : Nat → Prop} (C0 : Cx p s m args meth c prog_11_method_1_code "CanoeSides$Waters" 1 K A) (hr : meth.sig.returnType = none) (hnm : meth.name = "<init>") {ad : Nat → Nat} (h : Hp) {res : Hp} (hE : K_Waters_init h = some res) : G p l e rm_Waters_init s m args below meth c K A WWaters_init_0 1 0 0 (QVN s args below K A WWaters_init_4 [15] ad res 2 1968) 0 [(0, .ref (ad 15))] [] ad h := by
  unfold K_Waters_init at hE
  refine g_aload_n C0 0 d_Waters_init_0 rfl rfl ?_
  refine g_objInit C0 t_199 tO.1 tO.2 (Nat.le_of_ble_eq_true rfl) (Nat.le_of_ble_eq_true rfl) d_Waters_init_1 ?_
  refine g_aload_n C0 0 d_Waters_init_4 rfl rfl ?_
  refine g_sipush C0 (v := 1920) d_Waters_init_5 (by decide) ?_
  obtain ⟨h8, e8, hE⟩ := nm_some hE
  refine g_newa C0 16 0 1920 t_193 rfl rfl (fun _ => Iff.rfl) rfl (by decide +kernel) (by decide) (by decide) (by decide) (by decide) (by decide) d_Waters_init_8 (fun ad8 hag8 => ?_)
  rw [← hag8 15 (by decide)]
  refine g_heap e8 ?_
  refine (?_ : G p l e rm_Waters_init s m args below meth c K A WWaters_init_1 1 1 1920 _ 10 [(0, .ref (ad8 15))] [.ref (ad8 16), .ref (ad8 15)] ad8 h8)
  refine g_putrF C0 CK_9 CT_9 0 (by decide) t_200 rfl hnm rfl (CT_9.1 0 (by decide)) nd_Waters_init_1 0 rfl rfl WWaters_init_2 rfl (by decide) rfl d_Waters_init_10 ?_
  refine g_aload_n C0 0 d_Waters_init_13 rfl rfl ?_
  refine g_bipush C0 (v := 48) d_Waters_init_14 (by decide) ?_
  obtain ⟨h16, e16, hE⟩ := nm_some hE
  refine g_newa C0 17 0 48 t_193 rfl rfl (fun _ => Iff.rfl) rfl (by decide +kernel) (by decide) (by decide) (by decide) (by decide) (by decide) d_Waters_init_16 (fun ad16 hag16 => ?_)
  rw [← hag16 15 (by decide)]
  refine g_heap e16 ?_
  refine (?_ : G p l e rm_Waters_init s m args below meth c K A WWaters_init_3 1 2 1968 _ 18 [(0, .ref (ad16 15))] [.ref (ad16 17), .ref (ad16 15)] ad16 h16)
  refine g_putrF C0 CK_9 CT_9 1 (by decide) t_201 rfl hnm rfl (CT_9.1 1 (by decide)) nd_Waters_init_3 0 rfl rfl WWaters_init_4 rfl (by decide) rfl d_Waters_init_18 ?_
  refine g_aload_n C0 0 d_Waters_init_21 rfl rfl ?_
  refine g_iconst C0 (v := 1) d_Waters_init_22 (by decide) ?_
  obtain ⟨h23, e23, hE⟩ := nm_some hE
  refine g_puti C0 CK_9 CT_9 2 (by decide) t_202 rfl (by decide +kernel) nd_Waters_init_4 0 rfl rfl d_Waters_init_23 ?_
  refine g_heap e23 ?_
  obtain rfl := Option.some.inj hE
  exact g_vretN C0 (List.forall_mem_cons.mpr ⟨((hag16 15 (by decide))).trans (hag8 15 (by decide)), fun _ h => absurd h List.not_mem_nil⟩) hr d_Waters_init_26
theorem m_Waters_init (l : Launch) (K : KT) (ad : Nat → Nat) (h : Hp) {res : Hp} (hE : K_Waters_init h = some res) : ConN l y_Waters_init prog_11_method_1_code 1 rm_Waters_init K WWaters_init_0 ad h [.ref (ad 15)] WWaters_init_4 [15] res 2 1968 := fun sz =>
  con_startN [(0, .ref (ad 15))] (by decide +kernel) rfl (Nat.le_of_ble_eq_true rfl) (fun p e s m args below meth c C0 hr hnm hsz => w_Waters_init C0 hr hnm h hE)
abbrev y_Crew_init : MethodName := ⟨"CanoeSides$Crew", "<init>", "(LCanoeSides$Waters;)V"⟩
theorem cd_Crew_init : cwd y_Crew_init 1 := by decide +kernel
theorem d_Crew_init_0 : decode prog_4_method_1_code 0 = .ok (.aload_n 0, 1) := by decide +kernel
theorem d_Crew_init_1 : decode prog_4_method_1_code 1 = .ok (.invokespecial 3, 3) := by decide +kernel
theorem d_Crew_init_4 : decode prog_4_method_1_code 4 = .ok (.aload_n 0, 1) := by decide +kernel
theorem d_Crew_init_5 : decode prog_4_method_1_code 5 = .ok (.bipush 16, 2) := by decide +kernel
theorem d_Crew_init_7 : decode prog_4_method_1_code 7 = .ok (.newarray .int, 2) := by decide +kernel
theorem d_Crew_init_9 : decode prog_4_method_1_code 9 = .ok (.putfield 9, 3) := by decide +kernel
theorem d_Crew_init_12 : decode prog_4_method_1_code 12 = .ok (.aload_n 0, 1) := by decide +kernel
theorem d_Crew_init_13 : decode prog_4_method_1_code 13 = .ok (.bipush 16, 2) := by decide +kernel
theorem d_Crew_init_15 : decode prog_4_method_1_code 15 = .ok (.newarray .int, 2) := by decide +kernel
theorem d_Crew_init_17 : decode prog_4_method_1_code 17 = .ok (.putfield 15, 3) := by decide +kernel
theorem d_Crew_init_20 : decode prog_4_method_1_code 20 = .ok (.aload_n 0, 1) := by decide +kernel
theorem d_Crew_init_21 : decode prog_4_method_1_code 21 = .ok (.aload_n 1, 1) := by decide +kernel
theorem d_Crew_init_22 : decode prog_4_method_1_code 22 = .ok (.putfield 18, 3) := by decide +kernel
theorem d_Crew_init_25 : decode prog_4_method_1_code 25 = .ok (.return_, 1) := by decide +kernel
abbrev rm_Crew_init : Room := { frames := 1, cells := 2, slots := 32, locals := 20 }
theorem w_Crew_init {p : Program} {l : Launch} {e : Env} {s : State} {m : MethodId} {args : Array Value} {below : List Frame} {meth : Method} {c : Code} {K : KT} {A : Nat → Prop} (C0 : Cx p s m args meth c prog_4_method_1_code "CanoeSides$Crew" 2 K A) (hr : meth.sig.returnType = none) (hnm : meth.name = "<init>") {ad : Nat → Nat} (h : Hp) {res : Hp} (hE : K_Crew_init h = some res) : G p l e rm_Crew_init s m args below meth c K A WCrew_init_0 2 0 0 (QVN s args below K A WCrew_init_5 [20, 15] ad res 2 32) 0 [(0, .ref (ad 20)), (1, .ref (ad 15))] [] ad h := by
  unfold K_Crew_init at hE
  refine g_aload_n C0 0 d_Crew_init_0 rfl rfl ?_
  refine g_objInit C0 t_215 tO.1 tO.2 (Nat.le_of_ble_eq_true rfl) (Nat.le_of_ble_eq_true rfl) d_Crew_init_1 ?_
  refine g_aload_n C0 0 d_Crew_init_4 rfl rfl ?_
  refine g_bipush C0 (v := 16) d_Crew_init_5 (by decide) ?_
  obtain ⟨h7, e7, hE⟩ := nm_some hE
  refine g_newa C0 21 0 16 t_193 rfl rfl (fun _ => Iff.rfl) rfl (by decide +kernel) (by decide) (by decide) (by decide) (by decide) (by decide) d_Crew_init_7 (fun ad7 hag7 => ?_)
  rw [← hag7 20 (by decide)]
  rw [← hag7 15 (by decide)]
  refine g_heap e7 ?_
  refine (?_ : G p l e rm_Crew_init s m args below meth c K A WCrew_init_1 2 1 16 _ 9 [(0, .ref (ad7 20)), (1, .ref (ad7 15))] [.ref (ad7 21), .ref (ad7 20)] ad7 h7)
  refine g_putrF C0 CK_2 CT_2 1 (by decide) t_219 rfl hnm rfl (CT_2.1 1 (by decide)) nd_Crew_init_1 0 rfl rfl WCrew_init_2 rfl (by decide) rfl d_Crew_init_9 ?_
  refine g_aload_n C0 0 d_Crew_init_12 rfl rfl ?_
  refine g_bipush C0 (v := 16) d_Crew_init_13 (by decide) ?_
  obtain ⟨h15, e15, hE⟩ := nm_some hE
  refine g_newa C0 22 0 16 t_193 rfl rfl (fun _ => Iff.rfl) rfl (by decide +kernel) (by decide) (by decide) (by decide) (by decide) (by decide) d_Crew_init_15 (fun ad15 hag15 => ?_)
  rw [← hag15 20 (by decide)]
  rw [← hag15 15 (by decide)]
  refine g_heap e15 ?_
  refine (?_ : G p l e rm_Crew_init s m args below meth c K A WCrew_init_3 2 2 32 _ 17 [(0, .ref (ad15 20)), (1, .ref (ad15 15))] [.ref (ad15 22), .ref (ad15 20)] ad15 h15)
  refine g_putrF C0 CK_2 CT_2 2 (by decide) t_220 rfl hnm rfl (CT_2.1 2 (by decide)) nd_Crew_init_3 0 rfl rfl WCrew_init_4 rfl (by decide) rfl d_Crew_init_17 ?_
  refine g_aload_n C0 0 d_Crew_init_20 rfl rfl ?_
  refine g_aload_n C0 1 d_Crew_init_21 rfl rfl ?_
  refine g_putrF C0 CK_2 CT_2 0 (by decide) t_216 rfl hnm rfl (CT_2.1 0 (by decide)) nd_Crew_init_4 0 rfl rfl WCrew_init_5 rfl (by decide) rfl d_Crew_init_22 ?_
  obtain rfl := Option.some.inj hE
  exact g_vretN C0 (List.forall_mem_cons.mpr ⟨((hag15 20 (by decide))).trans (hag7 20 (by decide)), List.forall_mem_cons.mpr ⟨((hag15 15 (by decide))).trans (hag7 15 (by decide)), fun _ h => absurd h List.not_mem_nil⟩⟩) hr d_Crew_init_25
theorem m_Crew_init (l : Launch) (K : KT) (ad : Nat → Nat) (h : Hp) {res : Hp} (hE : K_Crew_init h = some res) : ConN l y_Crew_init prog_4_method_1_code 2 rm_Crew_init K WCrew_init_0 ad h [.ref (ad 20), .ref (ad 15)] WCrew_init_5 [20, 15] res 2 32 := fun sz =>
  con_startN [(0, .ref (ad 20)), (1, .ref (ad 15))] (by decide +kernel) rfl (Nat.le_of_ble_eq_true rfl) (fun p e s m args below meth c C0 hr hnm hsz => w_Crew_init C0 hr hnm h hE)
theorem w_Three_init {p : Program} {l : Launch} {e : Env} {s : State} {m : MethodId} {args : Array Value} {below : List Frame} {meth : Method} {c : Code} {K : KT} {A : Nat → Prop} (C0 : Cx p s m args meth c prog_4_method_1_code "CanoeSides$Crew" 2 K A) (hr : meth.sig.returnType = none) (hnm : meth.name = "<init>") {ad : Nat → Nat} (h : Hp) {res : Hp} (hE : K_Three_init h = some res) : G p l e rm_Crew_init s m args below meth c K A WThree_init_0 2 0 0 (QVN s args below K A WThree_init_5 [25, 15] ad res 2 32) 0 [(0, .ref (ad 25)), (1, .ref (ad 15))] [] ad h := by
  unfold K_Three_init at hE
  refine g_aload_n C0 0 d_Crew_init_0 rfl rfl ?_
  refine g_objInit C0 t_215 tO.1 tO.2 (Nat.le_of_ble_eq_true rfl) (Nat.le_of_ble_eq_true rfl) d_Crew_init_1 ?_
  refine g_aload_n C0 0 d_Crew_init_4 rfl rfl ?_
  refine g_bipush C0 (v := 16) d_Crew_init_5 (by decide) ?_
  obtain ⟨h7, e7, hE⟩ := nm_some hE
  refine g_newa C0 26 0 16 t_193 rfl rfl (fun _ => Iff.rfl) rfl (by decide +kernel) (by decide) (by decide) (by decide) (by decide) (by decide) d_Crew_init_7 (fun ad7 hag7 => ?_)
  rw [← hag7 25 (by decide)]
  rw [← hag7 15 (by decide)]
  refine g_heap e7 ?_
  refine (?_ : G p l e rm_Crew_init s m args below meth c K A WThree_init_1 2 1 16 _ 9 [(0, .ref (ad7 25)), (1, .ref (ad7 15))] [.ref (ad7 26), .ref (ad7 25)] ad7 h7)
  refine g_putrF C0 CK_2 CT_2 1 (by decide) t_219 rfl hnm rfl (CT_2.1 1 (by decide)) nd_Three_init_1 0 rfl rfl WThree_init_2 rfl (by decide) rfl d_Crew_init_9 ?_
  refine g_aload_n C0 0 d_Crew_init_12 rfl rfl ?_
  refine g_bipush C0 (v := 16) d_Crew_init_13 (by decide) ?_
  obtain ⟨h15, e15, hE⟩ := nm_some hE
  refine g_newa C0 27 0 16 t_193 rfl rfl (fun _ => Iff.rfl) rfl (by decide +kernel) (by decide) (by decide) (by decide) (by decide) (by decide) d_Crew_init_15 (fun ad15 hag15 => ?_)
  rw [← hag15 25 (by decide)]
  rw [← hag15 15 (by decide)]
  refine g_heap e15 ?_
  refine (?_ : G p l e rm_Crew_init s m args below meth c K A WThree_init_3 2 2 32 _ 17 [(0, .ref (ad15 25)), (1, .ref (ad15 15))] [.ref (ad15 27), .ref (ad15 25)] ad15 h15)
  refine g_putrF C0 CK_2 CT_2 2 (by decide) t_220 rfl hnm rfl (CT_2.1 2 (by decide)) nd_Three_init_3 0 rfl rfl WThree_init_4 rfl (by decide) rfl d_Crew_init_17 ?_
  refine g_aload_n C0 0 d_Crew_init_20 rfl rfl ?_
  refine g_aload_n C0 1 d_Crew_init_21 rfl rfl ?_
  refine g_putrF C0 CK_2 CT_2 0 (by decide) t_216 rfl hnm rfl (CT_2.1 0 (by decide)) nd_Three_init_4 0 rfl rfl WThree_init_5 rfl (by decide) rfl d_Crew_init_22 ?_
  obtain rfl := Option.some.inj hE
  exact g_vretN C0 (List.forall_mem_cons.mpr ⟨((hag15 25 (by decide))).trans (hag7 25 (by decide)), List.forall_mem_cons.mpr ⟨((hag15 15 (by decide))).trans (hag7 15 (by decide)), fun _ h => absurd h List.not_mem_nil⟩⟩) hr d_Crew_init_25
theorem m_Three_init (l : Launch) (K : KT) (ad : Nat → Nat) (h : Hp) {res : Hp} (hE : K_Three_init h = some res) : ConN l y_Crew_init prog_4_method_1_code 2 rm_Crew_init K WThree_init_0 ad h [.ref (ad 25), .ref (ad 15)] WThree_init_5 [25, 15] res 2 32 := fun sz =>
  con_startN [(0, .ref (ad 25)), (1, .ref (ad 15))] (by decide +kernel) rfl (Nat.le_of_ble_eq_true rfl) (fun p e s m args below meth c C0 hr hnm hsz => w_Three_init C0 hr hnm h hE)
abbrev y_Boat_init : MethodName := ⟨"CanoeSides$Boat", "<init>", "()V"⟩
theorem cd_Boat_init : cwd y_Boat_init 0 := by decide +kernel
theorem d_Boat_init_0 : decode prog_2_method_1_code 0 = .ok (.aload_n 0, 1) := by decide +kernel
theorem d_Boat_init_1 : decode prog_2_method_1_code 1 = .ok (.invokespecial 3, 3) := by decide +kernel
theorem d_Boat_init_4 : decode prog_2_method_1_code 4 = .ok (.aload_n 0, 1) := by decide +kernel
theorem d_Boat_init_5 : decode prog_2_method_1_code 5 = .ok (.iconst 0, 1) := by decide +kernel
theorem d_Boat_init_6 : decode prog_2_method_1_code 6 = .ok (.putfield 9, 3) := by decide +kernel
theorem d_Boat_init_9 : decode prog_2_method_1_code 9 = .ok (.aload_n 0, 1) := by decide +kernel
theorem d_Boat_init_10 : decode prog_2_method_1_code 10 = .ok (.iconst 0, 1) := by decide +kernel
theorem d_Boat_init_11 : decode prog_2_method_1_code 11 = .ok (.putfield 15, 3) := by decide +kernel
theorem d_Boat_init_14 : decode prog_2_method_1_code 14 = .ok (.aload_n 0, 1) := by decide +kernel
theorem d_Boat_init_15 : decode prog_2_method_1_code 15 = .ok (.iconst 0, 1) := by decide +kernel
theorem d_Boat_init_16 : decode prog_2_method_1_code 16 = .ok (.putfield 18, 3) := by decide +kernel
theorem d_Boat_init_19 : decode prog_2_method_1_code 19 = .ok (.return_, 1) := by decide +kernel
abbrev rm_Boat_init : Room := { frames := 1, cells := 0, slots := 0, locals := 20 }
theorem w_Boat_init {p : Program} {l : Launch} {e : Env} {s : State} {m : MethodId} {args : Array Value} {below : List Frame} {meth : Method} {c : Code} {K : KT} {A : Nat → Prop} (C0 : Cx p s m args meth c prog_2_method_1_code "CanoeSides$Boat" 1 K A) (hr : meth.sig.returnType = none) (hnm : meth.name = "<init>") {ad : Nat → Nat} (h : Hp) {res : Hp} (hE : K_Boat_init h = some res) : G p l e rm_Boat_init s m args below meth c K A WBoat_init_0 1 0 0 (QVN s args below K A WBoat_init_0 [30] ad res 0 0) 0 [(0, .ref (ad 30))] [] ad h := by
  unfold K_Boat_init at hE
  refine g_aload_n C0 0 d_Boat_init_0 rfl rfl ?_
  refine g_objInit C0 t_233 tO.1 tO.2 (Nat.le_of_ble_eq_true rfl) (Nat.le_of_ble_eq_true rfl) d_Boat_init_1 ?_
  refine g_aload_n C0 0 d_Boat_init_4 rfl rfl ?_
  refine g_iconst C0 (v := 0) d_Boat_init_5 (by decide) ?_
  obtain ⟨h6, e6, hE⟩ := nm_some hE
  refine g_puti C0 CK_0 CT_0 0 (by decide) t_234 rfl (by decide +kernel) nd_Boat_init_0 0 rfl rfl d_Boat_init_6 ?_
  refine g_heap e6 ?_
  refine g_aload_n C0 0 d_Boat_init_9 rfl rfl ?_
  refine g_iconst C0 (v := 0) d_Boat_init_10 (by decide) ?_
  obtain ⟨h11, e11, hE⟩ := nm_some hE
  refine g_puti C0 CK_0 CT_0 1 (by decide) t_236 rfl (by decide +kernel) nd_Boat_init_0 0 rfl rfl d_Boat_init_11 ?_
  refine g_heap e11 ?_
  refine g_aload_n C0 0 d_Boat_init_14 rfl rfl ?_
  refine g_iconst C0 (v := 0) d_Boat_init_15 (by decide) ?_
  obtain ⟨h16, e16, hE⟩ := nm_some hE
  refine g_puti C0 CK_0 CT_0 2 (by decide) t_238 rfl (by decide +kernel) nd_Boat_init_0 0 rfl rfl d_Boat_init_16 ?_
  refine g_heap e16 ?_
  obtain rfl := Option.some.inj hE
  exact g_vretN C0 (List.forall_mem_cons.mpr ⟨rfl, fun _ h => absurd h List.not_mem_nil⟩) hr d_Boat_init_19
theorem m_Boat_init (l : Launch) (K : KT) (ad : Nat → Nat) (h : Hp) {res : Hp} (hE : K_Boat_init h = some res) : ConN l y_Boat_init prog_2_method_1_code 1 rm_Boat_init K WBoat_init_0 ad h [.ref (ad 30)] WBoat_init_0 [30] res 0 0 := fun sz =>
  con_startN [(0, .ref (ad 30))] (by decide +kernel) rfl (Nat.le_of_ble_eq_true rfl) (fun p e s m args below meth c C0 hr hnm hsz => w_Boat_init C0 hr hnm h hE)
abbrev y_Log_init : MethodName := ⟨"CanoeSides$Log", "<init>", "()V"⟩
theorem cd_Log_init : cwd y_Log_init 0 := by decide +kernel
theorem d_Log_init_0 : decode prog_7_method_1_code 0 = .ok (.aload_n 0, 1) := by decide +kernel
theorem d_Log_init_1 : decode prog_7_method_1_code 1 = .ok (.invokespecial 3, 3) := by decide +kernel
theorem d_Log_init_4 : decode prog_7_method_1_code 4 = .ok (.aload_n 0, 1) := by decide +kernel
theorem d_Log_init_5 : decode prog_7_method_1_code 5 = .ok (.bipush 50, 2) := by decide +kernel
theorem d_Log_init_7 : decode prog_7_method_1_code 7 = .ok (.newarray .int, 2) := by decide +kernel
theorem d_Log_init_9 : decode prog_7_method_1_code 9 = .ok (.putfield 9, 3) := by decide +kernel
theorem d_Log_init_12 : decode prog_7_method_1_code 12 = .ok (.aload_n 0, 1) := by decide +kernel
theorem d_Log_init_13 : decode prog_7_method_1_code 13 = .ok (.iconst 0, 1) := by decide +kernel
theorem d_Log_init_14 : decode prog_7_method_1_code 14 = .ok (.putfield 15, 3) := by decide +kernel
theorem d_Log_init_17 : decode prog_7_method_1_code 17 = .ok (.aload_n 0, 1) := by decide +kernel
theorem d_Log_init_18 : decode prog_7_method_1_code 18 = .ok (.iconst 0, 1) := by decide +kernel
theorem d_Log_init_19 : decode prog_7_method_1_code 19 = .ok (.putfield 19, 3) := by decide +kernel
theorem d_Log_init_22 : decode prog_7_method_1_code 22 = .ok (.return_, 1) := by decide +kernel
abbrev rm_Log_init : Room := { frames := 1, cells := 1, slots := 50, locals := 20 }
theorem w_Log_init {p : Program} {l : Launch} {e : Env} {s : State} {m : MethodId} {args : Array Value} {below : List Frame} {meth : Method} {c : Code} {K : KT} {A : Nat → Prop} (C0 : Cx p s m args meth c prog_7_method_1_code "CanoeSides$Log" 1 K A) (hr : meth.sig.returnType = none) (hnm : meth.name = "<init>") {ad : Nat → Nat} (h : Hp) {res : Hp} (hE : K_Log_init h = some res) : G p l e rm_Log_init s m args below meth c K A WLog_init_0 1 0 0 (QVN s args below K A WLog_init_2 [35] ad res 1 50) 0 [(0, .ref (ad 35))] [] ad h := by
  unfold K_Log_init at hE
  refine g_aload_n C0 0 d_Log_init_0 rfl rfl ?_
  refine g_objInit C0 t_253 tO.1 tO.2 (Nat.le_of_ble_eq_true rfl) (Nat.le_of_ble_eq_true rfl) d_Log_init_1 ?_
  refine g_aload_n C0 0 d_Log_init_4 rfl rfl ?_
  refine g_bipush C0 (v := 50) d_Log_init_5 (by decide) ?_
  obtain ⟨h7, e7, hE⟩ := nm_some hE
  refine g_newa C0 36 0 50 t_193 rfl rfl (fun _ => Iff.rfl) rfl (by decide +kernel) (by decide) (by decide) (by decide) (by decide) (by decide) d_Log_init_7 (fun ad7 hag7 => ?_)
  rw [← hag7 35 (by decide)]
  refine g_heap e7 ?_
  refine (?_ : G p l e rm_Log_init s m args below meth c K A WLog_init_1 1 1 50 _ 9 [(0, .ref (ad7 35))] [.ref (ad7 36), .ref (ad7 35)] ad7 h7)
  refine g_putrF C0 CK_5 CT_5 0 (by decide) t_254 rfl hnm rfl (CT_5.1 0 (by decide)) nd_Log_init_1 0 rfl rfl WLog_init_2 rfl (by decide) rfl d_Log_init_9 ?_
  refine g_aload_n C0 0 d_Log_init_12 rfl rfl ?_
  refine g_iconst C0 (v := 0) d_Log_init_13 (by decide) ?_
  obtain ⟨h14, e14, hE⟩ := nm_some hE
  refine g_puti C0 CK_5 CT_5 1 (by decide) t_255 rfl (by decide +kernel) nd_Log_init_2 0 rfl rfl d_Log_init_14 ?_
  refine g_heap e14 ?_
  refine g_aload_n C0 0 d_Log_init_17 rfl rfl ?_
  refine g_iconst C0 (v := 0) d_Log_init_18 (by decide) ?_
  obtain ⟨h19, e19, hE⟩ := nm_some hE
  refine g_puti C0 CK_5 CT_5 2 (by decide) t_256 rfl (by decide +kernel) nd_Log_init_2 0 rfl rfl d_Log_init_19 ?_
  refine g_heap e19 ?_
  obtain rfl := Option.some.inj hE
  exact g_vretN C0 (List.forall_mem_cons.mpr ⟨(hag7 35 (by decide)), fun _ h => absurd h List.not_mem_nil⟩) hr d_Log_init_22
theorem m_Log_init (l : Launch) (K : KT) (ad : Nat → Nat) (h : Hp) {res : Hp} (hE : K_Log_init h = some res) : ConN l y_Log_init prog_7_method_1_code 1 rm_Log_init K WLog_init_0 ad h [.ref (ad 35)] WLog_init_2 [35] res 1 50 := fun sz =>
  con_startN [(0, .ref (ad 35))] (by decide +kernel) rfl (Nat.le_of_ble_eq_true rfl) (fun p e s m args below meth c C0 hr hnm hsz => w_Log_init C0 hr hnm h hE)
abbrev y_Lines_init : MethodName := ⟨"CanoeSides$Lines", "<init>", "()V"⟩
theorem cd_Lines_init : cwd y_Lines_init 0 := by decide +kernel
theorem d_Lines_init_0 : decode prog_6_method_1_code 0 = .ok (.aload_n 0, 1) := by decide +kernel
theorem d_Lines_init_1 : decode prog_6_method_1_code 1 = .ok (.invokespecial 3, 3) := by decide +kernel
theorem d_Lines_init_4 : decode prog_6_method_1_code 4 = .ok (.aload_n 0, 1) := by decide +kernel
theorem d_Lines_init_5 : decode prog_6_method_1_code 5 = .ok (.iconst 4, 1) := by decide +kernel
theorem d_Lines_init_6 : decode prog_6_method_1_code 6 = .ok (.newarray .int, 2) := by decide +kernel
theorem d_Lines_init_8 : decode prog_6_method_1_code 8 = .ok (.putfield 9, 3) := by decide +kernel
theorem d_Lines_init_11 : decode prog_6_method_1_code 11 = .ok (.aload_n 0, 1) := by decide +kernel
theorem d_Lines_init_12 : decode prog_6_method_1_code 12 = .ok (.bipush 40, 2) := by decide +kernel
theorem d_Lines_init_14 : decode prog_6_method_1_code 14 = .ok (.newarray .int, 2) := by decide +kernel
theorem d_Lines_init_16 : decode prog_6_method_1_code 16 = .ok (.putfield 15, 3) := by decide +kernel
theorem d_Lines_init_19 : decode prog_6_method_1_code 19 = .ok (.aload_n 0, 1) := by decide +kernel
theorem d_Lines_init_20 : decode prog_6_method_1_code 20 = .ok (.bipush 20, 2) := by decide +kernel
theorem d_Lines_init_22 : decode prog_6_method_1_code 22 = .ok (.newarray .int, 2) := by decide +kernel
theorem d_Lines_init_24 : decode prog_6_method_1_code 24 = .ok (.putfield 18, 3) := by decide +kernel
theorem d_Lines_init_27 : decode prog_6_method_1_code 27 = .ok (.aload_n 0, 1) := by decide +kernel
theorem d_Lines_init_28 : decode prog_6_method_1_code 28 = .ok (.bipush 20, 2) := by decide +kernel
theorem d_Lines_init_30 : decode prog_6_method_1_code 30 = .ok (.newarray .int, 2) := by decide +kernel
theorem d_Lines_init_32 : decode prog_6_method_1_code 32 = .ok (.putfield 21, 3) := by decide +kernel
theorem d_Lines_init_35 : decode prog_6_method_1_code 35 = .ok (.aload_n 0, 1) := by decide +kernel
theorem d_Lines_init_36 : decode prog_6_method_1_code 36 = .ok (.iconst 0, 1) := by decide +kernel
theorem d_Lines_init_37 : decode prog_6_method_1_code 37 = .ok (.putfield 24, 3) := by decide +kernel
theorem d_Lines_init_40 : decode prog_6_method_1_code 40 = .ok (.aload_n 0, 1) := by decide +kernel
theorem d_Lines_init_41 : decode prog_6_method_1_code 41 = .ok (.iconst 0, 1) := by decide +kernel
theorem d_Lines_init_42 : decode prog_6_method_1_code 42 = .ok (.putfield 28, 3) := by decide +kernel
theorem d_Lines_init_45 : decode prog_6_method_1_code 45 = .ok (.return_, 1) := by decide +kernel
abbrev rm_Lines_init : Room := { frames := 1, cells := 4, slots := 84, locals := 20 }
theorem w_Lines_init {p : Program} {l : Launch} {e : Env} {s : State} {m : MethodId} {args : Array Value} {below : List Frame} {meth : Method} {c : Code} {K : KT} {A : Nat → Prop} (C0 : Cx p s m args meth c prog_6_method_1_code "CanoeSides$Lines" 1 K A) (hr : meth.sig.returnType = none) (hnm : meth.name = "<init>") {ad : Nat → Nat} (h : Hp) {res : Hp} (hE : K_Lines_init h = some res) : G p l e rm_Lines_init s m args below meth c K A WLines_init_0 1 0 0 (QVN s args below K A WLines_init_8 [60] ad res 4 84) 0 [(0, .ref (ad 60))] [] ad h := by
  unfold K_Lines_init at hE
  refine g_aload_n C0 0 d_Lines_init_0 rfl rfl ?_
  refine g_objInit C0 t_270 tO.1 tO.2 (Nat.le_of_ble_eq_true rfl) (Nat.le_of_ble_eq_true rfl) d_Lines_init_1 ?_
  refine g_aload_n C0 0 d_Lines_init_4 rfl rfl ?_
  refine g_iconst C0 (v := 4) d_Lines_init_5 (by decide) ?_
  obtain ⟨h6, e6, hE⟩ := nm_some hE
  refine g_newa C0 61 0 4 t_193 rfl rfl (fun _ => Iff.rfl) rfl (by decide +kernel) (by decide) (by decide) (by decide) (by decide) (by decide) d_Lines_init_6 (fun ad6 hag6 => ?_)
  rw [← hag6 60 (by decide)]
  refine g_heap e6 ?_
  refine (?_ : G p l e rm_Lines_init s m args below meth c K A WLines_init_1 1 1 4 _ 8 [(0, .ref (ad6 60))] [.ref (ad6 61), .ref (ad6 60)] ad6 h6)
  refine g_putrF C0 CK_4 CT_4 0 (by decide) t_271 rfl hnm rfl (CT_4.1 0 (by decide)) nd_Lines_init_1 0 rfl rfl WLines_init_2 rfl (by decide) rfl d_Lines_init_8 ?_
  refine g_aload_n C0 0 d_Lines_init_11 rfl rfl ?_
  refine g_bipush C0 (v := 40) d_Lines_init_12 (by decide) ?_
  obtain ⟨h14, e14, hE⟩ := nm_some hE
  refine g_newa C0 62 0 40 t_193 rfl rfl (fun _ => Iff.rfl) rfl (by decide +kernel) (by decide) (by decide) (by decide) (by decide) (by decide) d_Lines_init_14 (fun ad14 hag14 => ?_)
  rw [← hag14 60 (by decide)]
  refine g_heap e14 ?_
  refine (?_ : G p l e rm_Lines_init s m args below meth c K A WLines_init_3 1 2 44 _ 16 [(0, .ref (ad14 60))] [.ref (ad14 62), .ref (ad14 60)] ad14 h14)
  refine g_putrF C0 CK_4 CT_4 1 (by decide) t_272 rfl hnm rfl (CT_4.1 1 (by decide)) nd_Lines_init_3 0 rfl rfl WLines_init_4 rfl (by decide) rfl d_Lines_init_16 ?_
  refine g_aload_n C0 0 d_Lines_init_19 rfl rfl ?_
  refine g_bipush C0 (v := 20) d_Lines_init_20 (by decide) ?_
  obtain ⟨h22, e22, hE⟩ := nm_some hE
  refine g_newa C0 63 0 20 t_193 rfl rfl (fun _ => Iff.rfl) rfl (by decide +kernel) (by decide) (by decide) (by decide) (by decide) (by decide) d_Lines_init_22 (fun ad22 hag22 => ?_)
  rw [← hag22 60 (by decide)]
  refine g_heap e22 ?_
  refine (?_ : G p l e rm_Lines_init s m args below meth c K A WLines_init_5 1 3 64 _ 24 [(0, .ref (ad22 60))] [.ref (ad22 63), .ref (ad22 60)] ad22 h22)
  refine g_putrF C0 CK_4 CT_4 2 (by decide) t_273 rfl hnm rfl (CT_4.1 2 (by decide)) nd_Lines_init_5 0 rfl rfl WLines_init_6 rfl (by decide) rfl d_Lines_init_24 ?_
  refine g_aload_n C0 0 d_Lines_init_27 rfl rfl ?_
  refine g_bipush C0 (v := 20) d_Lines_init_28 (by decide) ?_
  obtain ⟨h30, e30, hE⟩ := nm_some hE
  refine g_newa C0 64 0 20 t_193 rfl rfl (fun _ => Iff.rfl) rfl (by decide +kernel) (by decide) (by decide) (by decide) (by decide) (by decide) d_Lines_init_30 (fun ad30 hag30 => ?_)
  rw [← hag30 60 (by decide)]
  refine g_heap e30 ?_
  refine (?_ : G p l e rm_Lines_init s m args below meth c K A WLines_init_7 1 4 84 _ 32 [(0, .ref (ad30 60))] [.ref (ad30 64), .ref (ad30 60)] ad30 h30)
  refine g_putrF C0 CK_4 CT_4 3 (by decide) t_274 rfl hnm rfl (CT_4.1 3 (by decide)) nd_Lines_init_7 0 rfl rfl WLines_init_8 rfl (by decide) rfl d_Lines_init_32 ?_
  refine g_aload_n C0 0 d_Lines_init_35 rfl rfl ?_
  refine g_iconst C0 (v := 0) d_Lines_init_36 (by decide) ?_
  obtain ⟨h37, e37, hE⟩ := nm_some hE
  refine g_puti C0 CK_4 CT_4 4 (by decide) t_275 rfl (by decide +kernel) nd_Lines_init_8 0 rfl rfl d_Lines_init_37 ?_
  refine g_heap e37 ?_
  refine g_aload_n C0 0 d_Lines_init_40 rfl rfl ?_
  refine g_iconst C0 (v := 0) d_Lines_init_41 (by decide) ?_
  obtain ⟨h42, e42, hE⟩ := nm_some hE
  refine g_puti C0 CK_4 CT_4 5 (by decide) t_277 rfl (by decide +kernel) nd_Lines_init_8 0 rfl rfl d_Lines_init_42 ?_
  refine g_heap e42 ?_
  obtain rfl := Option.some.inj hE
  exact g_vretN C0 (List.forall_mem_cons.mpr ⟨((((hag30 60 (by decide))).trans (hag22 60 (by decide))).trans (hag14 60 (by decide))).trans (hag6 60 (by decide)), fun _ h => absurd h List.not_mem_nil⟩) hr d_Lines_init_45
theorem m_Lines_init (l : Launch) (K : KT) (ad : Nat → Nat) (h : Hp) {res : Hp} (hE : K_Lines_init h = some res) : ConN l y_Lines_init prog_6_method_1_code 1 rm_Lines_init K WLines_init_0 ad h [.ref (ad 60)] WLines_init_8 [60] res 4 84 := fun sz =>
  con_startN [(0, .ref (ad 60))] (by decide +kernel) rfl (Nat.le_of_ble_eq_true rfl) (fun p e s m args below meth c C0 hr hnm hsz => w_Lines_init C0 hr hnm h hE)
abbrev y_Search_init : MethodName := ⟨"CanoeSides$Search", "<init>", "()V"⟩
theorem cd_Search_init : cwd y_Search_init 0 := by decide +kernel
theorem d_Search_init_0 : decode prog_10_method_1_code 0 = .ok (.aload_n 0, 1) := by decide +kernel
theorem d_Search_init_1 : decode prog_10_method_1_code 1 = .ok (.invokespecial 3, 3) := by decide +kernel
theorem d_Search_init_4 : decode prog_10_method_1_code 4 = .ok (.aload_n 0, 1) := by decide +kernel
theorem d_Search_init_5 : decode prog_10_method_1_code 5 = .ok (.sipush 3456, 3) := by decide +kernel
theorem d_Search_init_8 : decode prog_10_method_1_code 8 = .ok (.newarray .int, 2) := by decide +kernel
theorem d_Search_init_10 : decode prog_10_method_1_code 10 = .ok (.putfield 9, 3) := by decide +kernel
theorem d_Search_init_13 : decode prog_10_method_1_code 13 = .ok (.aload_n 0, 1) := by decide +kernel
theorem d_Search_init_14 : decode prog_10_method_1_code 14 = .ok (.sipush 3456, 3) := by decide +kernel
theorem d_Search_init_17 : decode prog_10_method_1_code 17 = .ok (.newarray .int, 2) := by decide +kernel
theorem d_Search_init_19 : decode prog_10_method_1_code 19 = .ok (.putfield 15, 3) := by decide +kernel
theorem d_Search_init_22 : decode prog_10_method_1_code 22 = .ok (.aload_n 0, 1) := by decide +kernel
theorem d_Search_init_23 : decode prog_10_method_1_code 23 = .ok (.bipush 60, 2) := by decide +kernel
theorem d_Search_init_25 : decode prog_10_method_1_code 25 = .ok (.newarray .int, 2) := by decide +kernel
theorem d_Search_init_27 : decode prog_10_method_1_code 27 = .ok (.putfield 18, 3) := by decide +kernel
theorem d_Search_init_30 : decode prog_10_method_1_code 30 = .ok (.aload_n 0, 1) := by decide +kernel
theorem d_Search_init_31 : decode prog_10_method_1_code 31 = .ok (.iconst 0, 1) := by decide +kernel
theorem d_Search_init_32 : decode prog_10_method_1_code 32 = .ok (.putfield 21, 3) := by decide +kernel
theorem d_Search_init_35 : decode prog_10_method_1_code 35 = .ok (.aload_n 0, 1) := by decide +kernel
theorem d_Search_init_36 : decode prog_10_method_1_code 36 = .ok (.iconst (-1), 1) := by decide +kernel
theorem d_Search_init_37 : decode prog_10_method_1_code 37 = .ok (.putfield 25, 3) := by decide +kernel
theorem d_Search_init_40 : decode prog_10_method_1_code 40 = .ok (.aload_n 0, 1) := by decide +kernel
theorem d_Search_init_41 : decode prog_10_method_1_code 41 = .ok (.iconst (-1), 1) := by decide +kernel
theorem d_Search_init_42 : decode prog_10_method_1_code 42 = .ok (.putfield 28, 3) := by decide +kernel
theorem d_Search_init_45 : decode prog_10_method_1_code 45 = .ok (.aload_n 0, 1) := by decide +kernel
theorem d_Search_init_46 : decode prog_10_method_1_code 46 = .ok (.iconst (-1), 1) := by decide +kernel
theorem d_Search_init_47 : decode prog_10_method_1_code 47 = .ok (.putfield 31, 3) := by decide +kernel
theorem d_Search_init_50 : decode prog_10_method_1_code 50 = .ok (.return_, 1) := by decide +kernel
abbrev rm_Search_init : Room := { frames := 1, cells := 3, slots := 6972, locals := 20 }
theorem w_Search_init {p : Program} {l : Launch} {e : Env} {s : State} {m : MethodId} {args : Array Value} {below : List Frame} {meth : Method} {c : Code} {K : KT} {A : Nat → Prop} (C0 : Cx p s m args meth c prog_10_method_1_code "CanoeSides$Search" 1 K A) (hr : meth.sig.returnType = none) (hnm : meth.name = "<init>") {ad : Nat → Nat} (h : Hp) {res : Hp} (hE : K_Search_init h = some res) : G p l e rm_Search_init s m args below meth c K A WSearch_init_0 1 0 0 (QVN s args below K A WSearch_init_6 [40] ad res 3 6972) 0 [(0, .ref (ad 40))] [] ad h := by
  unfold K_Search_init at hE
  refine g_aload_n C0 0 d_Search_init_0 rfl rfl ?_
  refine g_objInit C0 t_297 tO.1 tO.2 (Nat.le_of_ble_eq_true rfl) (Nat.le_of_ble_eq_true rfl) d_Search_init_1 ?_
  refine g_aload_n C0 0 d_Search_init_4 rfl rfl ?_
  refine g_sipush C0 (v := 3456) d_Search_init_5 (by decide) ?_
  obtain ⟨h8, e8, hE⟩ := nm_some hE
  refine g_newa C0 41 0 3456 t_193 rfl rfl (fun _ => Iff.rfl) rfl (by decide +kernel) (by decide) (by decide) (by decide) (by decide) (by decide) d_Search_init_8 (fun ad8 hag8 => ?_)
  rw [← hag8 40 (by decide)]
  refine g_heap e8 ?_
  refine (?_ : G p l e rm_Search_init s m args below meth c K A WSearch_init_1 1 1 3456 _ 10 [(0, .ref (ad8 40))] [.ref (ad8 41), .ref (ad8 40)] ad8 h8)
  refine g_putrF C0 CK_8 CT_8 0 (by decide) t_298 rfl hnm rfl (CT_8.1 0 (by decide)) nd_Search_init_1 0 rfl rfl WSearch_init_2 rfl (by decide) rfl d_Search_init_10 ?_
  refine g_aload_n C0 0 d_Search_init_13 rfl rfl ?_
  refine g_sipush C0 (v := 3456) d_Search_init_14 (by decide) ?_
  obtain ⟨h17, e17, hE⟩ := nm_some hE
  refine g_newa C0 42 0 3456 t_193 rfl rfl (fun _ => Iff.rfl) rfl (by decide +kernel) (by decide) (by decide) (by decide) (by decide) (by decide) d_Search_init_17 (fun ad17 hag17 => ?_)
  rw [← hag17 40 (by decide)]
  refine g_heap e17 ?_
  refine (?_ : G p l e rm_Search_init s m args below meth c K A WSearch_init_3 1 2 6912 _ 19 [(0, .ref (ad17 40))] [.ref (ad17 42), .ref (ad17 40)] ad17 h17)
  refine g_putrF C0 CK_8 CT_8 1 (by decide) t_299 rfl hnm rfl (CT_8.1 1 (by decide)) nd_Search_init_3 0 rfl rfl WSearch_init_4 rfl (by decide) rfl d_Search_init_19 ?_
  refine g_aload_n C0 0 d_Search_init_22 rfl rfl ?_
  refine g_bipush C0 (v := 60) d_Search_init_23 (by decide) ?_
  obtain ⟨h25, e25, hE⟩ := nm_some hE
  refine g_newa C0 43 0 60 t_193 rfl rfl (fun _ => Iff.rfl) rfl (by decide +kernel) (by decide) (by decide) (by decide) (by decide) (by decide) d_Search_init_25 (fun ad25 hag25 => ?_)
  rw [← hag25 40 (by decide)]
  refine g_heap e25 ?_
  refine (?_ : G p l e rm_Search_init s m args below meth c K A WSearch_init_5 1 3 6972 _ 27 [(0, .ref (ad25 40))] [.ref (ad25 43), .ref (ad25 40)] ad25 h25)
  refine g_putrF C0 CK_8 CT_8 2 (by decide) t_300 rfl hnm rfl (CT_8.1 2 (by decide)) nd_Search_init_5 0 rfl rfl WSearch_init_6 rfl (by decide) rfl d_Search_init_27 ?_
  refine g_aload_n C0 0 d_Search_init_30 rfl rfl ?_
  refine g_iconst C0 (v := 0) d_Search_init_31 (by decide) ?_
  obtain ⟨h32, e32, hE⟩ := nm_some hE
  refine g_puti C0 CK_8 CT_8 3 (by decide) t_301 rfl (by decide +kernel) nd_Search_init_6 0 rfl rfl d_Search_init_32 ?_
  refine g_heap e32 ?_
  refine g_aload_n C0 0 d_Search_init_35 rfl rfl ?_
  refine g_iconst C0 (v := (-1)) d_Search_init_36 (by decide) ?_
  obtain ⟨h37, e37, hE⟩ := nm_some hE
  refine g_puti C0 CK_8 CT_8 4 (by decide) t_302 rfl (by decide +kernel) nd_Search_init_6 0 rfl rfl d_Search_init_37 ?_
  refine g_heap e37 ?_
  refine g_aload_n C0 0 d_Search_init_40 rfl rfl ?_
  refine g_iconst C0 (v := (-1)) d_Search_init_41 (by decide) ?_
  obtain ⟨h42, e42, hE⟩ := nm_some hE
  refine g_puti C0 CK_8 CT_8 5 (by decide) t_303 rfl (by decide +kernel) nd_Search_init_6 0 rfl rfl d_Search_init_42 ?_
  refine g_heap e42 ?_
  refine g_aload_n C0 0 d_Search_init_45 rfl rfl ?_
  refine g_iconst C0 (v := (-1)) d_Search_init_46 (by decide) ?_
  obtain ⟨h47, e47, hE⟩ := nm_some hE
  refine g_puti C0 CK_8 CT_8 6 (by decide) t_305 rfl (by decide +kernel) nd_Search_init_6 0 rfl rfl d_Search_init_47 ?_
  refine g_heap e47 ?_
  obtain rfl := Option.some.inj hE
  exact g_vretN C0 (List.forall_mem_cons.mpr ⟨(((hag25 40 (by decide))).trans (hag17 40 (by decide))).trans (hag8 40 (by decide)), fun _ h => absurd h List.not_mem_nil⟩) hr d_Search_init_50
theorem m_Search_init (l : Launch) (K : KT) (ad : Nat → Nat) (h : Hp) {res : Hp} (hE : K_Search_init h = some res) : ConN l y_Search_init prog_10_method_1_code 1 rm_Search_init K WSearch_init_0 ad h [.ref (ad 40)] WSearch_init_6 [40] res 3 6972 := fun sz =>
  con_startN [(0, .ref (ad 40))] (by decide +kernel) rfl (Nat.le_of_ble_eq_true rfl) (fun p e s m args below meth c C0 hr hnm hsz => w_Search_init C0 hr hnm h hE)
abbrev y_Calling_init : MethodName := ⟨"CanoeSides$Calling", "<init>", "()V"⟩
theorem cd_Calling_init : cwd y_Calling_init 0 := by decide +kernel
theorem d_Calling_init_0 : decode prog_3_method_1_code 0 = .ok (.aload_n 0, 1) := by decide +kernel
theorem d_Calling_init_1 : decode prog_3_method_1_code 1 = .ok (.invokespecial 3, 3) := by decide +kernel
theorem d_Calling_init_4 : decode prog_3_method_1_code 4 = .ok (.aload_n 0, 1) := by decide +kernel
theorem d_Calling_init_5 : decode prog_3_method_1_code 5 = .ok (.sipush 3456, 3) := by decide +kernel
theorem d_Calling_init_8 : decode prog_3_method_1_code 8 = .ok (.newarray .int, 2) := by decide +kernel
theorem d_Calling_init_10 : decode prog_3_method_1_code 10 = .ok (.putfield 9, 3) := by decide +kernel
theorem d_Calling_init_13 : decode prog_3_method_1_code 13 = .ok (.aload_n 0, 1) := by decide +kernel
theorem d_Calling_init_14 : decode prog_3_method_1_code 14 = .ok (.sipush 3456, 3) := by decide +kernel
theorem d_Calling_init_17 : decode prog_3_method_1_code 17 = .ok (.newarray .int, 2) := by decide +kernel
theorem d_Calling_init_19 : decode prog_3_method_1_code 19 = .ok (.putfield 15, 3) := by decide +kernel
theorem d_Calling_init_22 : decode prog_3_method_1_code 22 = .ok (.aload_n 0, 1) := by decide +kernel
theorem d_Calling_init_23 : decode prog_3_method_1_code 23 = .ok (.sipush 3456, 3) := by decide +kernel
theorem d_Calling_init_26 : decode prog_3_method_1_code 26 = .ok (.newarray .int, 2) := by decide +kernel
theorem d_Calling_init_28 : decode prog_3_method_1_code 28 = .ok (.putfield 18, 3) := by decide +kernel
theorem d_Calling_init_31 : decode prog_3_method_1_code 31 = .ok (.aload_n 0, 1) := by decide +kernel
theorem d_Calling_init_32 : decode prog_3_method_1_code 32 = .ok (.sipush 3456, 3) := by decide +kernel
theorem d_Calling_init_35 : decode prog_3_method_1_code 35 = .ok (.newarray .int, 2) := by decide +kernel
theorem d_Calling_init_37 : decode prog_3_method_1_code 37 = .ok (.putfield 21, 3) := by decide +kernel
theorem d_Calling_init_40 : decode prog_3_method_1_code 40 = .ok (.aload_n 0, 1) := by decide +kernel
theorem d_Calling_init_41 : decode prog_3_method_1_code 41 = .ok (.iconst 0, 1) := by decide +kernel
theorem d_Calling_init_42 : decode prog_3_method_1_code 42 = .ok (.putfield 24, 3) := by decide +kernel
theorem d_Calling_init_45 : decode prog_3_method_1_code 45 = .ok (.aload_n 0, 1) := by decide +kernel
theorem d_Calling_init_46 : decode prog_3_method_1_code 46 = .ok (.bipush 99, 2) := by decide +kernel
theorem d_Calling_init_48 : decode prog_3_method_1_code 48 = .ok (.putfield 28, 3) := by decide +kernel
theorem d_Calling_init_51 : decode prog_3_method_1_code 51 = .ok (.aload_n 0, 1) := by decide +kernel
theorem d_Calling_init_52 : decode prog_3_method_1_code 52 = .ok (.iconst (-1), 1) := by decide +kernel
theorem d_Calling_init_53 : decode prog_3_method_1_code 53 = .ok (.putfield 31, 3) := by decide +kernel
theorem d_Calling_init_56 : decode prog_3_method_1_code 56 = .ok (.aload_n 0, 1) := by decide +kernel
theorem d_Calling_init_57 : decode prog_3_method_1_code 57 = .ok (.iconst (-1), 1) := by decide +kernel
theorem d_Calling_init_58 : decode prog_3_method_1_code 58 = .ok (.putfield 34, 3) := by decide +kernel
theorem d_Calling_init_61 : decode prog_3_method_1_code 61 = .ok (.aload_n 0, 1) := by decide +kernel
theorem d_Calling_init_62 : decode prog_3_method_1_code 62 = .ok (.iconst (-1), 1) := by decide +kernel
theorem d_Calling_init_63 : decode prog_3_method_1_code 63 = .ok (.putfield 37, 3) := by decide +kernel
theorem d_Calling_init_66 : decode prog_3_method_1_code 66 = .ok (.return_, 1) := by decide +kernel
abbrev rm_Calling_init : Room := { frames := 1, cells := 4, slots := 13824, locals := 20 }
theorem w_Calling_init {p : Program} {l : Launch} {e : Env} {s : State} {m : MethodId} {args : Array Value} {below : List Frame} {meth : Method} {c : Code} {K : KT} {A : Nat → Prop} (C0 : Cx p s m args meth c prog_3_method_1_code "CanoeSides$Calling" 1 K A) (hr : meth.sig.returnType = none) (hnm : meth.name = "<init>") {ad : Nat → Nat} (h : Hp) {res : Hp} (hE : K_Calling_init h = some res) : G p l e rm_Calling_init s m args below meth c K A WCalling_init_0 1 0 0 (QVN s args below K A WCalling_init_8 [45] ad res 4 13824) 0 [(0, .ref (ad 45))] [] ad h := by
  unfold K_Calling_init at hE
  refine g_aload_n C0 0 d_Calling_init_0 rfl rfl ?_
  refine g_objInit C0 t_326 tO.1 tO.2 (Nat.le_of_ble_eq_true rfl) (Nat.le_of_ble_eq_true rfl) d_Calling_init_1 ?_
  refine g_aload_n C0 0 d_Calling_init_4 rfl rfl ?_
  refine g_sipush C0 (v := 3456) d_Calling_init_5 (by decide) ?_
  obtain ⟨h8, e8, hE⟩ := nm_some hE
  refine g_newa C0 46 0 3456 t_193 rfl rfl (fun _ => Iff.rfl) rfl (by decide +kernel) (by decide) (by decide) (by decide) (by decide) (by decide) d_Calling_init_8 (fun ad8 hag8 => ?_)
  rw [← hag8 45 (by decide)]
  refine g_heap e8 ?_
  refine (?_ : G p l e rm_Calling_init s m args below meth c K A WCalling_init_1 1 1 3456 _ 10 [(0, .ref (ad8 45))] [.ref (ad8 46), .ref (ad8 45)] ad8 h8)
  refine g_putrF C0 CK_1 CT_1 0 (by decide) t_327 rfl hnm rfl (CT_1.1 0 (by decide)) nd_Calling_init_1 0 rfl rfl WCalling_init_2 rfl (by decide) rfl d_Calling_init_10 ?_
  refine g_aload_n C0 0 d_Calling_init_13 rfl rfl ?_
  refine g_sipush C0 (v := 3456) d_Calling_init_14 (by decide) ?_
  obtain ⟨h17, e17, hE⟩ := nm_some hE
  refine g_newa C0 47 0 3456 t_193 rfl rfl (fun _ => Iff.rfl) rfl (by decide +kernel) (by decide) (by decide) (by decide) (by decide) (by decide) d_Calling_init_17 (fun ad17 hag17 => ?_)
  rw [← hag17 45 (by decide)]
  refine g_heap e17 ?_
  refine (?_ : G p l e rm_Calling_init s m args below meth c K A WCalling_init_3 1 2 6912 _ 19 [(0, .ref (ad17 45))] [.ref (ad17 47), .ref (ad17 45)] ad17 h17)
  refine g_putrF C0 CK_1 CT_1 1 (by decide) t_328 rfl hnm rfl (CT_1.1 1 (by decide)) nd_Calling_init_3 0 rfl rfl WCalling_init_4 rfl (by decide) rfl d_Calling_init_19 ?_
  refine g_aload_n C0 0 d_Calling_init_22 rfl rfl ?_
  refine g_sipush C0 (v := 3456) d_Calling_init_23 (by decide) ?_
  obtain ⟨h26, e26, hE⟩ := nm_some hE
  refine g_newa C0 48 0 3456 t_193 rfl rfl (fun _ => Iff.rfl) rfl (by decide +kernel) (by decide) (by decide) (by decide) (by decide) (by decide) d_Calling_init_26 (fun ad26 hag26 => ?_)
  rw [← hag26 45 (by decide)]
  refine g_heap e26 ?_
  refine (?_ : G p l e rm_Calling_init s m args below meth c K A WCalling_init_5 1 3 10368 _ 28 [(0, .ref (ad26 45))] [.ref (ad26 48), .ref (ad26 45)] ad26 h26)
  refine g_putrF C0 CK_1 CT_1 2 (by decide) t_329 rfl hnm rfl (CT_1.1 2 (by decide)) nd_Calling_init_5 0 rfl rfl WCalling_init_6 rfl (by decide) rfl d_Calling_init_28 ?_
  refine g_aload_n C0 0 d_Calling_init_31 rfl rfl ?_
  refine g_sipush C0 (v := 3456) d_Calling_init_32 (by decide) ?_
  obtain ⟨h35, e35, hE⟩ := nm_some hE
  refine g_newa C0 49 0 3456 t_193 rfl rfl (fun _ => Iff.rfl) rfl (by decide +kernel) (by decide) (by decide) (by decide) (by decide) (by decide) d_Calling_init_35 (fun ad35 hag35 => ?_)
  rw [← hag35 45 (by decide)]
  refine g_heap e35 ?_
  refine (?_ : G p l e rm_Calling_init s m args below meth c K A WCalling_init_7 1 4 13824 _ 37 [(0, .ref (ad35 45))] [.ref (ad35 49), .ref (ad35 45)] ad35 h35)
  refine g_putrF C0 CK_1 CT_1 3 (by decide) t_330 rfl hnm rfl (CT_1.1 3 (by decide)) nd_Calling_init_7 0 rfl rfl WCalling_init_8 rfl (by decide) rfl d_Calling_init_37 ?_
  refine g_aload_n C0 0 d_Calling_init_40 rfl rfl ?_
  refine g_iconst C0 (v := 0) d_Calling_init_41 (by decide) ?_
  obtain ⟨h42, e42, hE⟩ := nm_some hE
  refine g_puti C0 CK_1 CT_1 4 (by decide) t_331 rfl (by decide +kernel) nd_Calling_init_8 0 rfl rfl d_Calling_init_42 ?_
  refine g_heap e42 ?_
  refine g_aload_n C0 0 d_Calling_init_45 rfl rfl ?_
  refine g_bipush C0 (v := 99) d_Calling_init_46 (by decide) ?_
  obtain ⟨h48, e48, hE⟩ := nm_some hE
  refine g_puti C0 CK_1 CT_1 5 (by decide) t_332 rfl (by decide +kernel) nd_Calling_init_8 0 rfl rfl d_Calling_init_48 ?_
  refine g_heap e48 ?_
  refine g_aload_n C0 0 d_Calling_init_51 rfl rfl ?_
  refine g_iconst C0 (v := (-1)) d_Calling_init_52 (by decide) ?_
  obtain ⟨h53, e53, hE⟩ := nm_some hE
  refine g_puti C0 CK_1 CT_1 6 (by decide) t_333 rfl (by decide +kernel) nd_Calling_init_8 0 rfl rfl d_Calling_init_53 ?_
  refine g_heap e53 ?_
  refine g_aload_n C0 0 d_Calling_init_56 rfl rfl ?_
  refine g_iconst C0 (v := (-1)) d_Calling_init_57 (by decide) ?_
  obtain ⟨h58, e58, hE⟩ := nm_some hE
  refine g_puti C0 CK_1 CT_1 7 (by decide) t_335 rfl (by decide +kernel) nd_Calling_init_8 0 rfl rfl d_Calling_init_58 ?_
  refine g_heap e58 ?_
  refine g_aload_n C0 0 d_Calling_init_61 rfl rfl ?_
  refine g_iconst C0 (v := (-1)) d_Calling_init_62 (by decide) ?_
  obtain ⟨h63, e63, hE⟩ := nm_some hE
  refine g_puti C0 CK_1 CT_1 8 (by decide) t_337 rfl (by decide +kernel) nd_Calling_init_8 0 rfl rfl d_Calling_init_63 ?_
  refine g_heap e63 ?_
  obtain rfl := Option.some.inj hE
  exact g_vretN C0 (List.forall_mem_cons.mpr ⟨((((hag35 45 (by decide))).trans (hag26 45 (by decide))).trans (hag17 45 (by decide))).trans (hag8 45 (by decide)), fun _ h => absurd h List.not_mem_nil⟩) hr d_Calling_init_66
theorem m_Calling_init (l : Launch) (K : KT) (ad : Nat → Nat) (h : Hp) {res : Hp} (hE : K_Calling_init h = some res) : ConN l y_Calling_init prog_3_method_1_code 1 rm_Calling_init K WCalling_init_0 ad h [.ref (ad 45)] WCalling_init_8 [45] res 4 13824 := fun sz =>
  con_startN [(0, .ref (ad 45))] (by decide +kernel) rfl (Nat.le_of_ble_eq_true rfl) (fun p e s m args below meth c C0 hr hnm hsz => w_Calling_init C0 hr hnm h hE)
abbrev y_Gusts_init : MethodName := ⟨"CanoeSides$Gusts", "<init>", "()V"⟩
theorem cd_Gusts_init : cwd y_Gusts_init 0 := by decide +kernel
theorem d_Gusts_init_0 : decode prog_5_method_1_code 0 = .ok (.aload_n 0, 1) := by decide +kernel
theorem d_Gusts_init_1 : decode prog_5_method_1_code 1 = .ok (.invokespecial 3, 3) := by decide +kernel
theorem d_Gusts_init_4 : decode prog_5_method_1_code 4 = .ok (.aload_n 0, 1) := by decide +kernel
theorem d_Gusts_init_5 : decode prog_5_method_1_code 5 = .ok (.sipush 384, 3) := by decide +kernel
theorem d_Gusts_init_8 : decode prog_5_method_1_code 8 = .ok (.newarray .int, 2) := by decide +kernel
theorem d_Gusts_init_10 : decode prog_5_method_1_code 10 = .ok (.putfield 9, 3) := by decide +kernel
theorem d_Gusts_init_13 : decode prog_5_method_1_code 13 = .ok (.aload_n 0, 1) := by decide +kernel
theorem d_Gusts_init_14 : decode prog_5_method_1_code 14 = .ok (.iconst (-1), 1) := by decide +kernel
theorem d_Gusts_init_15 : decode prog_5_method_1_code 15 = .ok (.putfield 15, 3) := by decide +kernel
theorem d_Gusts_init_18 : decode prog_5_method_1_code 18 = .ok (.aload_n 0, 1) := by decide +kernel
theorem d_Gusts_init_19 : decode prog_5_method_1_code 19 = .ok (.iconst (-1), 1) := by decide +kernel
theorem d_Gusts_init_20 : decode prog_5_method_1_code 20 = .ok (.putfield 19, 3) := by decide +kernel
theorem d_Gusts_init_23 : decode prog_5_method_1_code 23 = .ok (.aload_n 0, 1) := by decide +kernel
theorem d_Gusts_init_24 : decode prog_5_method_1_code 24 = .ok (.iconst (-1), 1) := by decide +kernel
theorem d_Gusts_init_25 : decode prog_5_method_1_code 25 = .ok (.putfield 22, 3) := by decide +kernel
theorem d_Gusts_init_28 : decode prog_5_method_1_code 28 = .ok (.return_, 1) := by decide +kernel
abbrev rm_Gusts_init : Room := { frames := 1, cells := 1, slots := 384, locals := 20 }
theorem w_Gusts_init {p : Program} {l : Launch} {e : Env} {s : State} {m : MethodId} {args : Array Value} {below : List Frame} {meth : Method} {c : Code} {K : KT} {A : Nat → Prop} (C0 : Cx p s m args meth c prog_5_method_1_code "CanoeSides$Gusts" 1 K A) (hr : meth.sig.returnType = none) (hnm : meth.name = "<init>") {ad : Nat → Nat} (h : Hp) {res : Hp} (hE : K_Gusts_init h = some res) : G p l e rm_Gusts_init s m args below meth c K A WGusts_init_0 1 0 0 (QVN s args below K A WGusts_init_2 [55] ad res 1 384) 0 [(0, .ref (ad 55))] [] ad h := by
  unfold K_Gusts_init at hE
  refine g_aload_n C0 0 d_Gusts_init_0 rfl rfl ?_
  refine g_objInit C0 t_362 tO.1 tO.2 (Nat.le_of_ble_eq_true rfl) (Nat.le_of_ble_eq_true rfl) d_Gusts_init_1 ?_
  refine g_aload_n C0 0 d_Gusts_init_4 rfl rfl ?_
  refine g_sipush C0 (v := 384) d_Gusts_init_5 (by decide) ?_
  obtain ⟨h8, e8, hE⟩ := nm_some hE
  refine g_newa C0 56 0 384 t_193 rfl rfl (fun _ => Iff.rfl) rfl (by decide +kernel) (by decide) (by decide) (by decide) (by decide) (by decide) d_Gusts_init_8 (fun ad8 hag8 => ?_)
  rw [← hag8 55 (by decide)]
  refine g_heap e8 ?_
  refine (?_ : G p l e rm_Gusts_init s m args below meth c K A WGusts_init_1 1 1 384 _ 10 [(0, .ref (ad8 55))] [.ref (ad8 56), .ref (ad8 55)] ad8 h8)
  refine g_putrF C0 CK_3 CT_3 0 (by decide) t_363 rfl hnm rfl (CT_3.1 0 (by decide)) nd_Gusts_init_1 0 rfl rfl WGusts_init_2 rfl (by decide) rfl d_Gusts_init_10 ?_
  refine g_aload_n C0 0 d_Gusts_init_13 rfl rfl ?_
  refine g_iconst C0 (v := (-1)) d_Gusts_init_14 (by decide) ?_
  obtain ⟨h15, e15, hE⟩ := nm_some hE
  refine g_puti C0 CK_3 CT_3 1 (by decide) t_364 rfl (by decide +kernel) nd_Gusts_init_2 0 rfl rfl d_Gusts_init_15 ?_
  refine g_heap e15 ?_
  refine g_aload_n C0 0 d_Gusts_init_18 rfl rfl ?_
  refine g_iconst C0 (v := (-1)) d_Gusts_init_19 (by decide) ?_
  obtain ⟨h20, e20, hE⟩ := nm_some hE
  refine g_puti C0 CK_3 CT_3 2 (by decide) t_366 rfl (by decide +kernel) nd_Gusts_init_2 0 rfl rfl d_Gusts_init_20 ?_
  refine g_heap e20 ?_
  refine g_aload_n C0 0 d_Gusts_init_23 rfl rfl ?_
  refine g_iconst C0 (v := (-1)) d_Gusts_init_24 (by decide) ?_
  obtain ⟨h25, e25, hE⟩ := nm_some hE
  refine g_puti C0 CK_3 CT_3 3 (by decide) t_368 rfl (by decide +kernel) nd_Gusts_init_2 0 rfl rfl d_Gusts_init_25 ?_
  refine g_heap e25 ?_
  obtain rfl := Option.some.inj hE
  exact g_vretN C0 (List.forall_mem_cons.mpr ⟨(hag8 55 (by decide)), fun _ h => absurd h List.not_mem_nil⟩) hr d_Gusts_init_28
theorem m_Gusts_init (l : Launch) (K : KT) (ad : Nat → Nat) (h : Hp) {res : Hp} (hE : K_Gusts_init h = some res) : ConN l y_Gusts_init prog_5_method_1_code 1 rm_Gusts_init K WGusts_init_0 ad h [.ref (ad 55)] WGusts_init_2 [55] res 1 384 := fun sz =>
  con_startN [(0, .ref (ad 55))] (by decide +kernel) rfl (Nat.le_of_ble_eq_true rfl) (fun p e s m args below meth c C0 hr hnm hsz => w_Gusts_init C0 hr hnm h hE)
abbrev y_Reader_init : MethodName := ⟨"CanoeSides$Reader", "<init>", "([II)V"⟩
theorem cd_Reader_init : cwd y_Reader_init 2 := by decide +kernel
theorem d_Reader_init_0 : decode prog_8_method_1_code 0 = .ok (.aload_n 0, 1) := by decide +kernel
theorem d_Reader_init_1 : decode prog_8_method_1_code 1 = .ok (.invokespecial 3, 3) := by decide +kernel
theorem d_Reader_init_4 : decode prog_8_method_1_code 4 = .ok (.aload_n 0, 1) := by decide +kernel
theorem d_Reader_init_5 : decode prog_8_method_1_code 5 = .ok (.new 9, 3) := by decide +kernel
theorem d_Reader_init_8 : decode prog_8_method_1_code 8 = .ok (.dup, 1) := by decide +kernel
theorem d_Reader_init_9 : decode prog_8_method_1_code 9 = .ok (.invokespecial 11, 3) := by decide +kernel
theorem d_Reader_init_12 : decode prog_8_method_1_code 12 = .ok (.putfield 12, 3) := by decide +kernel
theorem d_Reader_init_15 : decode prog_8_method_1_code 15 = .ok (.aload_n 0, 1) := by decide +kernel
theorem d_Reader_init_16 : decode prog_8_method_1_code 16 = .ok (.iconst 0, 1) := by decide +kernel
theorem d_Reader_init_17 : decode prog_8_method_1_code 17 = .ok (.putfield 18, 3) := by decide +kernel
theorem d_Reader_init_20 : decode prog_8_method_1_code 20 = .ok (.aload_n 0, 1) := by decide +kernel
theorem d_Reader_init_21 : decode prog_8_method_1_code 21 = .ok (.iconst 0, 1) := by decide +kernel
theorem d_Reader_init_22 : decode prog_8_method_1_code 22 = .ok (.putfield 22, 3) := by decide +kernel
theorem d_Reader_init_25 : decode prog_8_method_1_code 25 = .ok (.aload_n 0, 1) := by decide +kernel
theorem d_Reader_init_26 : decode prog_8_method_1_code 26 = .ok (.iconst 0, 1) := by decide +kernel
theorem d_Reader_init_27 : decode prog_8_method_1_code 27 = .ok (.putfield 25, 3) := by decide +kernel
theorem d_Reader_init_30 : decode prog_8_method_1_code 30 = .ok (.aload_n 0, 1) := by decide +kernel
theorem d_Reader_init_31 : decode prog_8_method_1_code 31 = .ok (.iconst 0, 1) := by decide +kernel
theorem d_Reader_init_32 : decode prog_8_method_1_code 32 = .ok (.putfield 28, 3) := by decide +kernel
theorem d_Reader_init_35 : decode prog_8_method_1_code 35 = .ok (.aload_n 0, 1) := by decide +kernel
theorem d_Reader_init_36 : decode prog_8_method_1_code 36 = .ok (.iconst (-1), 1) := by decide +kernel
theorem d_Reader_init_37 : decode prog_8_method_1_code 37 = .ok (.putfield 31, 3) := by decide +kernel
theorem d_Reader_init_40 : decode prog_8_method_1_code 40 = .ok (.aload_n 0, 1) := by decide +kernel
theorem d_Reader_init_41 : decode prog_8_method_1_code 41 = .ok (.aload_n 1, 1) := by decide +kernel
theorem d_Reader_init_42 : decode prog_8_method_1_code 42 = .ok (.putfield 34, 3) := by decide +kernel
theorem d_Reader_init_45 : decode prog_8_method_1_code 45 = .ok (.aload_n 0, 1) := by decide +kernel
theorem d_Reader_init_46 : decode prog_8_method_1_code 46 = .ok (.iload_n 2, 1) := by decide +kernel
theorem d_Reader_init_47 : decode prog_8_method_1_code 47 = .ok (.aload_n 1, 1) := by decide +kernel
theorem d_Reader_init_48 : decode prog_8_method_1_code 48 = .ok (.arraylength, 1) := by decide +kernel
theorem d_Reader_init_49 : decode prog_8_method_1_code 49 = .ok (.invokestatic 38, 3) := by decide +kernel
theorem d_Reader_init_52 : decode prog_8_method_1_code 52 = .ok (.putfield 44, 3) := by decide +kernel
theorem d_Reader_init_55 : decode prog_8_method_1_code 55 = .ok (.return_, 1) := by decide +kernel
abbrev rm_Reader_init : Room := { frames := 2, cells := 3, slots := 69, locals := 43 }
theorem w_Reader_init {p : Program} {l : Launch} {e : Env} {s : State} {m : MethodId} {args : Array Value} {below : List Frame} {meth : Method} {c : Code} {K : KT} {A : Nat → Prop} (C0 : Cx p s m args meth c prog_8_method_1_code "CanoeSides$Reader" 3 K A) (hr : meth.sig.returnType = none) (hnm : meth.name = "<init>") {ad : Nat → Nat} (b0 : Int32) (h : Hp) {res : Hp} (hE : K_Reader_init b0 h = some res) : G p l e rm_Reader_init s m args below meth c K A WReader_init_0 3 0 0 (QVN s args below K A WReader_init_4 [70, 2] ad res 3 69) 0 [(0, .ref (ad 70)), (1, .ref (ad 2)), (2, .int b0)] [] ad h := by
  unfold K_Reader_init at hE
  refine g_aload_n C0 0 d_Reader_init_0 rfl rfl ?_
  refine g_objInit C0 t_513 tO.1 tO.2 (Nat.le_of_ble_eq_true rfl) (Nat.le_of_ble_eq_true rfl) d_Reader_init_1 ?_
  refine g_aload_n C0 0 d_Reader_init_4 rfl rfl ?_
  obtain ⟨h5, e5, hE⟩ := nm_some hE
  refine g_new C0 CK_7 CT_7.1 10 [none, none, some none, none, none, none, none, none, none, none, none, none, some none] ⟨t_514, t_113, t_86⟩ (by decide +kernel) raw_7 (by decide +kernel) (by decide) (by decide) d_Reader_init_5 (fun ad5 hag5 => ?_)
  rw [← hag5 70 (by decide)]
  rw [← hag5 2 (by decide)]
  refine g_heap e5 ?_
  refine (?_ : G p l e rm_Reader_init s m args below meth c K A WReader_init_1 3 1 13 _ 8 [(0, .ref (ad5 70)), (1, .ref (ad5 2)), (2, .int b0)] [.ref (ad5 10), .ref (ad5 70)] ad5 h5)
  refine g_dup C0 d_Reader_init_8 rfl ?_
  obtain ⟨h9, z9, hE⟩ := bd_some hE
  obtain ⟨h9m, e9, hE⟩ := nm_some hE
  refine g_initN C0 WReader_init_r9 [11, 12] [10] [10, 11, 12] (m_River_init l K ad5 h5 z9) 0 rfl ⟨t_515, t_115, t_86, t_116⟩ cd_River_init (by decide) (by decide +kernel) nd_River_init_0 nd_Reader_init_1 (by decide +kernel) nd_Reader_init_r9 (by decide +kernel) rfl (by decide +kernel) (by decide +kernel) (by decide +kernel) (by decide +kernel) rfl rfl (Nat.le_of_ble_eq_true rfl) d_Reader_init_9 (fun ad9 hag9 => ?_)
  rw [← hag9 70 (by decide)]
  rw [← hag9 2 (by decide)]
  rw [← hag9 10 (by decide)]
  refine g_heap e9 ?_
  refine (?_ : G p l e rm_Reader_init s m args below meth c K A WReader_init_2 3 3 69 _ 12 [(0, .ref (ad9 70)), (1, .ref (ad9 2)), (2, .int b0)] [.ref (ad9 10), .ref (ad9 70)] ad9 h9m)
  refine g_putrF C0 CK_6 CT_6 2 (by decide) t_519 rfl hnm rfl (CT_6.1 2 (by decide)) nd_Reader_init_2 0 rfl rfl WReader_init_3 rfl (by decide) rfl d_Reader_init_12 ?_
  refine g_aload_n C0 0 d_Reader_init_15 rfl rfl ?_
  refine g_iconst C0 (v := 0) d_Reader_init_16 (by decide) ?_
  obtain ⟨h17, e17, hE⟩ := nm_some hE
  refine g_puti C0 CK_6 CT_6 3 (by decide) t_521 rfl (by decide +kernel) nd_Reader_init_3 0 rfl rfl d_Reader_init_17 ?_
  refine g_heap e17 ?_
  refine g_aload_n C0 0 d_Reader_init_20 rfl rfl ?_
  refine g_iconst C0 (v := 0) d_Reader_init_21 (by decide) ?_
  obtain ⟨h22, e22, hE⟩ := nm_some hE
  refine g_puti C0 CK_6 CT_6 4 (by decide) t_522 rfl (by decide +kernel) nd_Reader_init_3 0 rfl rfl d_Reader_init_22 ?_
  refine g_heap e22 ?_
  refine g_aload_n C0 0 d_Reader_init_25 rfl rfl ?_
  refine g_iconst C0 (v := 0) d_Reader_init_26 (by decide) ?_
  obtain ⟨h27, e27, hE⟩ := nm_some hE
  refine g_puti C0 CK_6 CT_6 5 (by decide) t_523 rfl (by decide +kernel) nd_Reader_init_3 0 rfl rfl d_Reader_init_27 ?_
  refine g_heap e27 ?_
  refine g_aload_n C0 0 d_Reader_init_30 rfl rfl ?_
  refine g_iconst C0 (v := 0) d_Reader_init_31 (by decide) ?_
  obtain ⟨h32, e32, hE⟩ := nm_some hE
  refine g_puti C0 CK_6 CT_6 6 (by decide) t_524 rfl (by decide +kernel) nd_Reader_init_3 0 rfl rfl d_Reader_init_32 ?_
  refine g_heap e32 ?_
  refine g_aload_n C0 0 d_Reader_init_35 rfl rfl ?_
  refine g_iconst C0 (v := (-1)) d_Reader_init_36 (by decide) ?_
  obtain ⟨h37, e37, hE⟩ := nm_some hE
  refine g_puti C0 CK_6 CT_6 7 (by decide) t_526 rfl (by decide +kernel) nd_Reader_init_3 0 rfl rfl d_Reader_init_37 ?_
  refine g_heap e37 ?_
  refine g_aload_n C0 0 d_Reader_init_40 rfl rfl ?_
  refine g_aload_n C0 1 d_Reader_init_41 rfl rfl ?_
  refine g_putrF C0 CK_6 CT_6 0 (by decide) t_517 rfl hnm rfl (CT_6.1 0 (by decide)) nd_Reader_init_3 0 rfl rfl WReader_init_4 rfl (by decide) rfl d_Reader_init_42 ?_
  refine g_aload_n C0 0 d_Reader_init_45 rfl rfl ?_
  refine g_iload_n C0 2 d_Reader_init_46 rfl rfl ?_
  refine g_aload_n C0 1 d_Reader_init_47 rfl rfl ?_
  refine g_alen C0 1 rfl rfl (v := 250) (by decide) d_Reader_init_48 ?_
  refine g_min C0 t_516 ⟨Nat.le_of_ble_eq_true rfl, Nat.le_of_ble_eq_true rfl, by decide, by decide⟩ d_Reader_init_49 ?_
  obtain ⟨h52, e52, hE⟩ := nm_some hE
  refine g_putiF C0 CK_6 CT_6 1 (by decide) t_518 rfl hnm rfl (by decide +kernel) nd_Reader_init_4 0 rfl rfl d_Reader_init_52 ?_
  refine g_heap e52 ?_
  obtain rfl := Option.some.inj hE
  exact g_vretN C0 (List.forall_mem_cons.mpr ⟨((hag9 70 (by decide))).trans (hag5 70 (by decide)), List.forall_mem_cons.mpr ⟨((hag9 2 (by decide))).trans (hag5 2 (by decide)), fun _ h => absurd h List.not_mem_nil⟩⟩) hr d_Reader_init_55
theorem m_Reader_init (l : Launch) (K : KT) (ad : Nat → Nat) (h : Hp) (b0 : Int32) {res : Hp} (hE : K_Reader_init b0 h = some res) : ConN l y_Reader_init prog_8_method_1_code 3 rm_Reader_init K WReader_init_0 ad h [.ref (ad 70), .ref (ad 2), .int b0] WReader_init_4 [70, 2] res 3 69 := fun sz =>
  con_startN [(0, .ref (ad 70)), (1, .ref (ad 2)), (2, .int b0)] (by decide +kernel) rfl (Nat.le_of_ble_eq_true rfl) (fun p e s m args below meth c C0 hr hnm hsz => w_Reader_init C0 hr hnm b0 h hE)
abbrev y_M_init : MethodName := ⟨"CanoeSidesModel", "<init>", "()V"⟩
theorem cd_M_init : cwd y_M_init 0 := by decide +kernel
theorem d_M_init_0 : decode prog_13_method_1_code 0 = .ok (.aload_n 0, 1) := by decide +kernel
theorem d_M_init_1 : decode prog_13_method_1_code 1 = .ok (.invokespecial 1, 3) := by decide +kernel
theorem d_M_init_4 : decode prog_13_method_1_code 4 = .ok (.aload_n 0, 1) := by decide +kernel
theorem d_M_init_5 : decode prog_13_method_1_code 5 = .ok (.bipush 12, 2) := by decide +kernel
theorem d_M_init_7 : decode prog_13_method_1_code 7 = .ok (.newarray .int, 2) := by decide +kernel
theorem d_M_init_9 : decode prog_13_method_1_code 9 = .ok (.putfield 7, 3) := by decide +kernel
theorem d_M_init_12 : decode prog_13_method_1_code 12 = .ok (.aload_n 0, 1) := by decide +kernel
theorem d_M_init_13 : decode prog_13_method_1_code 13 = .ok (.iconst 2, 1) := by decide +kernel
theorem d_M_init_14 : decode prog_13_method_1_code 14 = .ok (.newarray .boolean, 2) := by decide +kernel
theorem d_M_init_16 : decode prog_13_method_1_code 16 = .ok (.putfield 13, 3) := by decide +kernel
theorem d_M_init_19 : decode prog_13_method_1_code 19 = .ok (.aload_n 0, 1) := by decide +kernel
theorem d_M_init_20 : decode prog_13_method_1_code 20 = .ok (.bipush 96, 2) := by decide +kernel
theorem d_M_init_22 : decode prog_13_method_1_code 22 = .ok (.newarray .int, 2) := by decide +kernel
theorem d_M_init_24 : decode prog_13_method_1_code 24 = .ok (.putfield 17, 3) := by decide +kernel
theorem d_M_init_27 : decode prog_13_method_1_code 27 = .ok (.aload_n 0, 1) := by decide +kernel
theorem d_M_init_28 : decode prog_13_method_1_code 28 = .ok (.bipush 24, 2) := by decide +kernel
theorem d_M_init_30 : decode prog_13_method_1_code 30 = .ok (.newarray .int, 2) := by decide +kernel
theorem d_M_init_32 : decode prog_13_method_1_code 32 = .ok (.putfield 20, 3) := by decide +kernel
theorem d_M_init_35 : decode prog_13_method_1_code 35 = .ok (.aload_n 0, 1) := by decide +kernel
theorem d_M_init_36 : decode prog_13_method_1_code 36 = .ok (.bipush 16, 2) := by decide +kernel
theorem d_M_init_38 : decode prog_13_method_1_code 38 = .ok (.newarray .int, 2) := by decide +kernel
theorem d_M_init_40 : decode prog_13_method_1_code 40 = .ok (.putfield 23, 3) := by decide +kernel
theorem d_M_init_43 : decode prog_13_method_1_code 43 = .ok (.aload_n 0, 1) := by decide +kernel
theorem d_M_init_44 : decode prog_13_method_1_code 44 = .ok (.sipush 250, 3) := by decide +kernel
theorem d_M_init_47 : decode prog_13_method_1_code 47 = .ok (.newarray .int, 2) := by decide +kernel
theorem d_M_init_49 : decode prog_13_method_1_code 49 = .ok (.putfield 26, 3) := by decide +kernel
theorem d_M_init_52 : decode prog_13_method_1_code 52 = .ok (.aload_n 0, 1) := by decide +kernel
theorem d_M_init_53 : decode prog_13_method_1_code 53 = .ok (.iconst (-1), 1) := by decide +kernel
theorem d_M_init_54 : decode prog_13_method_1_code 54 = .ok (.putfield 29, 3) := by decide +kernel
theorem d_M_init_57 : decode prog_13_method_1_code 57 = .ok (.aload_n 0, 1) := by decide +kernel
theorem d_M_init_58 : decode prog_13_method_1_code 58 = .ok (.sipush 150, 3) := by decide +kernel
theorem d_M_init_61 : decode prog_13_method_1_code 61 = .ok (.newarray .int, 2) := by decide +kernel
theorem d_M_init_63 : decode prog_13_method_1_code 63 = .ok (.putfield 33, 3) := by decide +kernel
theorem d_M_init_66 : decode prog_13_method_1_code 66 = .ok (.aload_n 0, 1) := by decide +kernel
theorem d_M_init_67 : decode prog_13_method_1_code 67 = .ok (.sipush 3456, 3) := by decide +kernel
theorem d_M_init_70 : decode prog_13_method_1_code 70 = .ok (.newarray .int, 2) := by decide +kernel
theorem d_M_init_72 : decode prog_13_method_1_code 72 = .ok (.putfield 36, 3) := by decide +kernel
theorem d_M_init_75 : decode prog_13_method_1_code 75 = .ok (.aload_n 0, 1) := by decide +kernel
theorem d_M_init_76 : decode prog_13_method_1_code 76 = .ok (.ldc 39, 2) := by decide +kernel
theorem d_M_init_78 : decode prog_13_method_1_code 78 = .ok (.newarray .int, 2) := by decide +kernel
theorem d_M_init_80 : decode prog_13_method_1_code 80 = .ok (.putfield 40, 3) := by decide +kernel
theorem d_M_init_83 : decode prog_13_method_1_code 83 = .ok (.aload_n 0, 1) := by decide +kernel
theorem d_M_init_84 : decode prog_13_method_1_code 84 = .ok (.ldc 39, 2) := by decide +kernel
theorem d_M_init_86 : decode prog_13_method_1_code 86 = .ok (.newarray .int, 2) := by decide +kernel
theorem d_M_init_88 : decode prog_13_method_1_code 88 = .ok (.putfield 43, 3) := by decide +kernel
theorem d_M_init_91 : decode prog_13_method_1_code 91 = .ok (.aload_n 0, 1) := by decide +kernel
theorem d_M_init_92 : decode prog_13_method_1_code 92 = .ok (.sipush 384, 3) := by decide +kernel
theorem d_M_init_95 : decode prog_13_method_1_code 95 = .ok (.newarray .int, 2) := by decide +kernel
theorem d_M_init_97 : decode prog_13_method_1_code 97 = .ok (.putfield 46, 3) := by decide +kernel
theorem d_M_init_100 : decode prog_13_method_1_code 100 = .ok (.aload_n 0, 1) := by decide +kernel
theorem d_M_init_101 : decode prog_13_method_1_code 101 = .ok (.iconst 4, 1) := by decide +kernel
theorem d_M_init_102 : decode prog_13_method_1_code 102 = .ok (.newarray .int, 2) := by decide +kernel
theorem d_M_init_104 : decode prog_13_method_1_code 104 = .ok (.putfield 49, 3) := by decide +kernel
theorem d_M_init_107 : decode prog_13_method_1_code 107 = .ok (.aload_n 0, 1) := by decide +kernel
theorem d_M_init_108 : decode prog_13_method_1_code 108 = .ok (.iconst 2, 1) := by decide +kernel
theorem d_M_init_109 : decode prog_13_method_1_code 109 = .ok (.newarray .int, 2) := by decide +kernel
theorem d_M_init_111 : decode prog_13_method_1_code 111 = .ok (.putfield 52, 3) := by decide +kernel
theorem d_M_init_114 : decode prog_13_method_1_code 114 = .ok (.aload_n 0, 1) := by decide +kernel
theorem d_M_init_115 : decode prog_13_method_1_code 115 = .ok (.bipush 20, 2) := by decide +kernel
theorem d_M_init_117 : decode prog_13_method_1_code 117 = .ok (.newarray .int, 2) := by decide +kernel
theorem d_M_init_119 : decode prog_13_method_1_code 119 = .ok (.putfield 55, 3) := by decide +kernel
theorem d_M_init_122 : decode prog_13_method_1_code 122 = .ok (.aload_n 0, 1) := by decide +kernel
theorem d_M_init_123 : decode prog_13_method_1_code 123 = .ok (.bipush 20, 2) := by decide +kernel
theorem d_M_init_125 : decode prog_13_method_1_code 125 = .ok (.newarray .int, 2) := by decide +kernel
theorem d_M_init_127 : decode prog_13_method_1_code 127 = .ok (.putfield 58, 3) := by decide +kernel
theorem d_M_init_130 : decode prog_13_method_1_code 130 = .ok (.aload_n 0, 1) := by decide +kernel
theorem d_M_init_131 : decode prog_13_method_1_code 131 = .ok (.iconst 0, 1) := by decide +kernel
theorem d_M_init_132 : decode prog_13_method_1_code 132 = .ok (.invokevirtual 61, 3) := by decide +kernel
theorem d_M_init_135 : decode prog_13_method_1_code 135 = .ok (.aload_n 0, 1) := by decide +kernel
theorem d_M_init_136 : decode prog_13_method_1_code 136 = .ok (.iconst 1, 1) := by decide +kernel
theorem d_M_init_137 : decode prog_13_method_1_code 137 = .ok (.invokevirtual 61, 3) := by decide +kernel
theorem d_M_init_140 : decode prog_13_method_1_code 140 = .ok (.return_, 1) := by decide +kernel
abbrev rm_M_init : Room := { frames := 1, cells := 15, slots := 115028, locals := 22 }
theorem w_M_init {p : Program} {l : Launch} {e : Env} {s : State} {m : MethodId} {args : Array Value} {below : List Frame} {meth : Method} {c : Code} {K : KT} {A : Nat → Prop} (C0 : Cx p s m args meth c prog_13_method_1_code "CanoeSidesModel" 1 K A) (hr : meth.sig.returnType = none) (hnm : meth.name = "<init>") {ad : Nat → Nat} (N : Nat) (h : Hp) {res : Hp} (hE : K_M_init N h = some res) : G p l e rm_M_init s m args below meth c K A WM_init_0 1 0 0 (QVN s args below K A WM_init_30 [100] ad res 15 115028) 0 [(0, .ref (ad 100))] [] ad h := by
  unfold K_M_init at hE
  refine g_aload_n C0 0 d_M_init_0 rfl rfl ?_
  refine g_objInit C0 t_1084 tO.1 tO.2 (Nat.le_of_ble_eq_true rfl) (Nat.le_of_ble_eq_true rfl) d_M_init_1 ?_
  refine g_aload_n C0 0 d_M_init_4 rfl rfl ?_
  refine g_bipush C0 (v := 12) d_M_init_5 (by decide) ?_
  obtain ⟨h7, e7, hE⟩ := nm_some hE
  refine g_newa C0 101 0 12 t_193 rfl rfl (fun _ => Iff.rfl) rfl (by decide +kernel) (by decide) (by decide) (by decide) (by decide) (by decide) d_M_init_7 (fun ad7 hag7 => ?_)
  rw [← hag7 100 (by decide)]
  refine g_heap e7 ?_
  refine (?_ : G p l e rm_M_init s m args below meth c K A WM_init_1 1 1 12 _ 9 [(0, .ref (ad7 100))] [.ref (ad7 101), .ref (ad7 100)] ad7 h7)
  refine g_putrF C0 CK_11 CT_11 0 (by decide) t_1090 rfl hnm rfl (CT_11.1 0 (by decide)) nd_M_init_1 0 rfl rfl WM_init_2 rfl (by decide) rfl d_M_init_9 ?_
  refine g_aload_n C0 0 d_M_init_12 rfl rfl ?_
  refine g_iconst C0 (v := 2) d_M_init_13 (by decide) ?_
  obtain ⟨h14, e14, hE⟩ := nm_some hE
  refine g_newa C0 102 1 2 t_1190 rfl rfl (fun _ => Iff.rfl) rfl (by decide +kernel) (by decide) (by decide) (by decide) (by decide) (by decide) d_M_init_14 (fun ad14 hag14 => ?_)
  rw [← hag14 100 (by decide)]
  refine g_heap e14 ?_
  refine (?_ : G p l e rm_M_init s m args below meth c K A WM_init_3 1 2 14 _ 16 [(0, .ref (ad14 100))] [.ref (ad14 102), .ref (ad14 100)] ad14 h14)
  refine g_putrF C0 CK_11 CT_11 1 (by decide) t_1091 rfl hnm rfl (CT_11.1 1 (by decide)) nd_M_init_3 0 rfl rfl WM_init_4 rfl (by decide) rfl d_M_init_16 ?_
  refine g_aload_n C0 0 d_M_init_19 rfl rfl ?_
  refine g_bipush C0 (v := 96) d_M_init_20 (by decide) ?_
  obtain ⟨h22, e22, hE⟩ := nm_some hE
  refine g_newa C0 103 0 96 t_193 rfl rfl (fun _ => Iff.rfl) rfl (by decide +kernel) (by decide) (by decide) (by decide) (by decide) (by decide) d_M_init_22 (fun ad22 hag22 => ?_)
  rw [← hag22 100 (by decide)]
  refine g_heap e22 ?_
  refine (?_ : G p l e rm_M_init s m args below meth c K A WM_init_5 1 3 110 _ 24 [(0, .ref (ad22 100))] [.ref (ad22 103), .ref (ad22 100)] ad22 h22)
  refine g_putrF C0 CK_11 CT_11 2 (by decide) t_1092 rfl hnm rfl (CT_11.1 2 (by decide)) nd_M_init_5 0 rfl rfl WM_init_6 rfl (by decide) rfl d_M_init_24 ?_
  refine g_aload_n C0 0 d_M_init_27 rfl rfl ?_
  refine g_bipush C0 (v := 24) d_M_init_28 (by decide) ?_
  obtain ⟨h30, e30, hE⟩ := nm_some hE
  refine g_newa C0 104 0 24 t_193 rfl rfl (fun _ => Iff.rfl) rfl (by decide +kernel) (by decide) (by decide) (by decide) (by decide) (by decide) d_M_init_30 (fun ad30 hag30 => ?_)
  rw [← hag30 100 (by decide)]
  refine g_heap e30 ?_
  refine (?_ : G p l e rm_M_init s m args below meth c K A WM_init_7 1 4 134 _ 32 [(0, .ref (ad30 100))] [.ref (ad30 104), .ref (ad30 100)] ad30 h30)
  refine g_putrF C0 CK_11 CT_11 3 (by decide) t_1093 rfl hnm rfl (CT_11.1 3 (by decide)) nd_M_init_7 0 rfl rfl WM_init_8 rfl (by decide) rfl d_M_init_32 ?_
  refine g_aload_n C0 0 d_M_init_35 rfl rfl ?_
  refine g_bipush C0 (v := 16) d_M_init_36 (by decide) ?_
  obtain ⟨h38, e38, hE⟩ := nm_some hE
  refine g_newa C0 105 0 16 t_193 rfl rfl (fun _ => Iff.rfl) rfl (by decide +kernel) (by decide) (by decide) (by decide) (by decide) (by decide) d_M_init_38 (fun ad38 hag38 => ?_)
  rw [← hag38 100 (by decide)]
  refine g_heap e38 ?_
  refine (?_ : G p l e rm_M_init s m args below meth c K A WM_init_9 1 5 150 _ 40 [(0, .ref (ad38 100))] [.ref (ad38 105), .ref (ad38 100)] ad38 h38)
  refine g_putrF C0 CK_11 CT_11 4 (by decide) t_1094 rfl hnm rfl (CT_11.1 4 (by decide)) nd_M_init_9 0 rfl rfl WM_init_10 rfl (by decide) rfl d_M_init_40 ?_
  refine g_aload_n C0 0 d_M_init_43 rfl rfl ?_
  refine g_sipush C0 (v := 250) d_M_init_44 (by decide) ?_
  obtain ⟨h47, e47, hE⟩ := nm_some hE
  refine g_newa C0 106 0 250 t_193 rfl rfl (fun _ => Iff.rfl) rfl (by decide +kernel) (by decide) (by decide) (by decide) (by decide) (by decide) d_M_init_47 (fun ad47 hag47 => ?_)
  rw [← hag47 100 (by decide)]
  refine g_heap e47 ?_
  refine (?_ : G p l e rm_M_init s m args below meth c K A WM_init_11 1 6 400 _ 49 [(0, .ref (ad47 100))] [.ref (ad47 106), .ref (ad47 100)] ad47 h47)
  refine g_putrF C0 CK_11 CT_11 6 (by decide) t_1096 rfl hnm rfl (CT_11.1 6 (by decide)) nd_M_init_11 0 rfl rfl WM_init_12 rfl (by decide) rfl d_M_init_49 ?_
  refine g_aload_n C0 0 d_M_init_52 rfl rfl ?_
  refine g_iconst C0 (v := (-1)) d_M_init_53 (by decide) ?_
  obtain ⟨h54, e54, hE⟩ := nm_some hE
  refine g_puti C0 CK_11 CT_11 11 (by decide) t_1101 rfl (by decide +kernel) nd_M_init_12 0 rfl rfl d_M_init_54 ?_
  refine g_heap e54 ?_
  refine g_aload_n C0 0 d_M_init_57 rfl rfl ?_
  refine g_sipush C0 (v := 150) d_M_init_58 (by decide) ?_
  obtain ⟨h61, e61, hE⟩ := nm_some hE
  refine g_newa C0 107 0 150 t_193 rfl rfl (fun _ => Iff.rfl) rfl (by decide +kernel) (by decide) (by decide) (by decide) (by decide) (by decide) d_M_init_61 (fun ad61 hag61 => ?_)
  rw [← hag61 100 (by decide)]
  refine g_heap e61 ?_
  refine (?_ : G p l e rm_M_init s m args below meth c K A WM_init_13 1 7 550 _ 63 [(0, .ref (ad61 100))] [.ref (ad61 107), .ref (ad61 100)] ad61 h61)
  refine g_putrF C0 CK_11 CT_11 15 (by decide) t_1105 rfl hnm rfl (CT_11.1 15 (by decide)) nd_M_init_13 0 rfl rfl WM_init_14 rfl (by decide) rfl d_M_init_63 ?_
  refine g_aload_n C0 0 d_M_init_66 rfl rfl ?_
  refine g_sipush C0 (v := 3456) d_M_init_67 (by decide) ?_
  obtain ⟨h70, e70, hE⟩ := nm_some hE
  refine g_newa C0 108 0 3456 t_193 rfl rfl (fun _ => Iff.rfl) rfl (by decide +kernel) (by decide) (by decide) (by decide) (by decide) (by decide) d_M_init_70 (fun ad70 hag70 => ?_)
  rw [← hag70 100 (by decide)]
  refine g_heap e70 ?_
  refine (?_ : G p l e rm_M_init s m args below meth c K A WM_init_15 1 8 4006 _ 72 [(0, .ref (ad70 100))] [.ref (ad70 108), .ref (ad70 100)] ad70 h70)
  refine g_putrF C0 CK_11 CT_11 17 (by decide) t_1107 rfl hnm rfl (CT_11.1 17 (by decide)) nd_M_init_15 0 rfl rfl WM_init_16 rfl (by decide) rfl d_M_init_72 ?_
  refine g_aload_n C0 0 d_M_init_75 rfl rfl ?_
  refine g_ldc C0 (v := 55296) t_1085 d_M_init_76 ?_
  obtain ⟨h78, e78, hE⟩ := nm_some hE
  refine g_newa C0 109 0 55296 t_193 rfl rfl (fun _ => Iff.rfl) rfl (by decide +kernel) (by decide) (by decide) (by decide) (by decide) (by decide) d_M_init_78 (fun ad78 hag78 => ?_)
  rw [← hag78 100 (by decide)]
  refine g_heap e78 ?_
  refine (?_ : G p l e rm_M_init s m args below meth c K A WM_init_17 1 9 59302 _ 80 [(0, .ref (ad78 100))] [.ref (ad78 109), .ref (ad78 100)] ad78 h78)
  refine g_putrF C0 CK_11 CT_11 20 (by decide) t_1110 rfl hnm rfl (CT_11.1 20 (by decide)) nd_M_init_17 0 rfl rfl WM_init_18 rfl (by decide) rfl d_M_init_80 ?_
  refine g_aload_n C0 0 d_M_init_83 rfl rfl ?_
  refine g_ldc C0 (v := 55296) t_1085 d_M_init_84 ?_
  obtain ⟨h86, e86, hE⟩ := nm_some hE
  refine g_newa C0 110 0 55296 t_193 rfl rfl (fun _ => Iff.rfl) rfl (by decide +kernel) (by decide) (by decide) (by decide) (by decide) (by decide) d_M_init_86 (fun ad86 hag86 => ?_)
  rw [← hag86 100 (by decide)]
  refine g_heap e86 ?_
  refine (?_ : G p l e rm_M_init s m args below meth c K A WM_init_19 1 10 114598 _ 88 [(0, .ref (ad86 100))] [.ref (ad86 110), .ref (ad86 100)] ad86 h86)
  refine g_putrF C0 CK_11 CT_11 21 (by decide) t_1111 rfl hnm rfl (CT_11.1 21 (by decide)) nd_M_init_19 0 rfl rfl WM_init_20 rfl (by decide) rfl d_M_init_88 ?_
  refine g_aload_n C0 0 d_M_init_91 rfl rfl ?_
  refine g_sipush C0 (v := 384) d_M_init_92 (by decide) ?_
  obtain ⟨h95, e95, hE⟩ := nm_some hE
  refine g_newa C0 111 0 384 t_193 rfl rfl (fun _ => Iff.rfl) rfl (by decide +kernel) (by decide) (by decide) (by decide) (by decide) (by decide) d_M_init_95 (fun ad95 hag95 => ?_)
  rw [← hag95 100 (by decide)]
  refine g_heap e95 ?_
  refine (?_ : G p l e rm_M_init s m args below meth c K A WM_init_21 1 11 114982 _ 97 [(0, .ref (ad95 100))] [.ref (ad95 111), .ref (ad95 100)] ad95 h95)
  refine g_putrF C0 CK_11 CT_11 24 (by decide) t_1114 rfl hnm rfl (CT_11.1 24 (by decide)) nd_M_init_21 0 rfl rfl WM_init_22 rfl (by decide) rfl d_M_init_97 ?_
  refine g_aload_n C0 0 d_M_init_100 rfl rfl ?_
  refine g_iconst C0 (v := 4) d_M_init_101 (by decide) ?_
  obtain ⟨h102, e102, hE⟩ := nm_some hE
  refine g_newa C0 112 0 4 t_193 rfl rfl (fun _ => Iff.rfl) rfl (by decide +kernel) (by decide) (by decide) (by decide) (by decide) (by decide) d_M_init_102 (fun ad102 hag102 => ?_)
  rw [← hag102 100 (by decide)]
  refine g_heap e102 ?_
  refine (?_ : G p l e rm_M_init s m args below meth c K A WM_init_23 1 12 114986 _ 104 [(0, .ref (ad102 100))] [.ref (ad102 112), .ref (ad102 100)] ad102 h102)
  refine g_putrF C0 CK_11 CT_11 25 (by decide) t_1115 rfl hnm rfl (CT_11.1 25 (by decide)) nd_M_init_23 0 rfl rfl WM_init_24 rfl (by decide) rfl d_M_init_104 ?_
  refine g_aload_n C0 0 d_M_init_107 rfl rfl ?_
  refine g_iconst C0 (v := 2) d_M_init_108 (by decide) ?_
  obtain ⟨h109, e109, hE⟩ := nm_some hE
  refine g_newa C0 113 0 2 t_193 rfl rfl (fun _ => Iff.rfl) rfl (by decide +kernel) (by decide) (by decide) (by decide) (by decide) (by decide) d_M_init_109 (fun ad109 hag109 => ?_)
  rw [← hag109 100 (by decide)]
  refine g_heap e109 ?_
  refine (?_ : G p l e rm_M_init s m args below meth c K A WM_init_25 1 13 114988 _ 111 [(0, .ref (ad109 100))] [.ref (ad109 113), .ref (ad109 100)] ad109 h109)
  refine g_putrF C0 CK_11 CT_11 29 (by decide) t_1119 rfl hnm rfl (CT_11.1 29 (by decide)) nd_M_init_25 0 rfl rfl WM_init_26 rfl (by decide) rfl d_M_init_111 ?_
  refine g_aload_n C0 0 d_M_init_114 rfl rfl ?_
  refine g_bipush C0 (v := 20) d_M_init_115 (by decide) ?_
  obtain ⟨h117, e117, hE⟩ := nm_some hE
  refine g_newa C0 114 0 20 t_193 rfl rfl (fun _ => Iff.rfl) rfl (by decide +kernel) (by decide) (by decide) (by decide) (by decide) (by decide) d_M_init_117 (fun ad117 hag117 => ?_)
  rw [← hag117 100 (by decide)]
  refine g_heap e117 ?_
  refine (?_ : G p l e rm_M_init s m args below meth c K A WM_init_27 1 14 115008 _ 119 [(0, .ref (ad117 100))] [.ref (ad117 114), .ref (ad117 100)] ad117 h117)
  refine g_putrF C0 CK_11 CT_11 30 (by decide) t_1120 rfl hnm rfl (CT_11.1 30 (by decide)) nd_M_init_27 0 rfl rfl WM_init_28 rfl (by decide) rfl d_M_init_119 ?_
  refine g_aload_n C0 0 d_M_init_122 rfl rfl ?_
  refine g_bipush C0 (v := 20) d_M_init_123 (by decide) ?_
  obtain ⟨h125, e125, hE⟩ := nm_some hE
  refine g_newa C0 115 0 20 t_193 rfl rfl (fun _ => Iff.rfl) rfl (by decide +kernel) (by decide) (by decide) (by decide) (by decide) (by decide) d_M_init_125 (fun ad125 hag125 => ?_)
  rw [← hag125 100 (by decide)]
  refine g_heap e125 ?_
  refine (?_ : G p l e rm_M_init s m args below meth c K A WM_init_29 1 15 115028 _ 127 [(0, .ref (ad125 100))] [.ref (ad125 115), .ref (ad125 100)] ad125 h125)
  refine g_putrF C0 CK_11 CT_11 31 (by decide) t_1121 rfl hnm rfl (CT_11.1 31 (by decide)) nd_M_init_29 0 rfl rfl WM_init_30 rfl (by decide) rfl d_M_init_127 ?_
  refine g_aload_n C0 0 d_M_init_130 rfl rfl ?_
  refine g_iconst C0 (v := 0) d_M_init_131 (by decide) ?_
  obtain ⟨h132, z132, hE⟩ := bd_some hE
  refine g_callv C0 nd_M_init_30 [100, 101, 102, 103, 104, 105, 106, 107, 108, 109, 110, 111, 112, 113, 114, 115] rfl (sb_M_M_init_30) (runV C0 (m_M_tellNothing l K ad125 h125 N 0 z132) 1 rfl ⟨t_1086, t_1088, t_41, t_97, t_1089⟩ cd_M_tellNothing (by decide) 0 rfl rfl (sb_M_M_init_30) nd_M rfl rfl (Nat.le_of_ble_eq_true rfl) d_M_init_132) ?_
  obtain ⟨h132m, e132, hE⟩ := nm_some hE
  refine g_heap e132 ?_
  refine g_aload_n C0 0 d_M_init_135 rfl rfl ?_
  refine g_iconst C0 (v := 1) d_M_init_136 (by decide) ?_
  obtain ⟨h137, z137, hE⟩ := bd_some hE
  refine g_callv C0 nd_M_init_30 [100, 101, 102, 103, 104, 105, 106, 107, 108, 109, 110, 111, 112, 113, 114, 115] rfl (sb_M_M_init_30) (runV C0 (m_M_tellNothing l K ad125 h132m N 1 z137) 1 rfl ⟨t_1086, t_1088, t_41, t_97, t_1089⟩ cd_M_tellNothing (by decide) 0 rfl rfl (sb_M_M_init_30) nd_M rfl rfl (Nat.le_of_ble_eq_true rfl) d_M_init_137) ?_
  obtain ⟨h137m, e137, hE⟩ := nm_some hE
  refine g_heap e137 ?_
  obtain rfl := Option.some.inj hE
  exact g_vretN C0 (List.forall_mem_cons.mpr ⟨(((((((((((((((hag125 100 (by decide))).trans (hag117 100 (by decide))).trans (hag109 100 (by decide))).trans (hag102 100 (by decide))).trans (hag95 100 (by decide))).trans (hag86 100 (by decide))).trans (hag78 100 (by decide))).trans (hag70 100 (by decide))).trans (hag61 100 (by decide))).trans (hag47 100 (by decide))).trans (hag38 100 (by decide))).trans (hag30 100 (by decide))).trans (hag22 100 (by decide))).trans (hag14 100 (by decide))).trans (hag7 100 (by decide)), fun _ h => absurd h List.not_mem_nil⟩) hr d_M_init_140
theorem m_M_init (l : Launch) (K : KT) (ad : Nat → Nat) (h : Hp) (N : Nat) {res : Hp} (hE : K_M_init N h = some res) : ConN l y_M_init prog_13_method_1_code 1 rm_M_init K WM_init_0 ad h [.ref (ad 100)] WM_init_30 [100] res 15 115028 := fun sz =>
  con_startN [(0, .ref (ad 100))] (by decide +kernel) rfl (Nat.le_of_ble_eq_true rfl) (fun p e s m args below meth c C0 hr hnm hsz => w_M_init C0 hr hnm N h hE)
