/-! river, half by program -/
theorem t_508 : (Jvm.Cond.classLink "CanoeSides" (102 : Nat) "CanoeSides$Reader") ∈ TB := tb_of 508 (by decide +kernel) rfl
theorem t_509 : (Jvm.Cond.instantiable "CanoeSides$Reader" (8 : Nat)) ∈ TB := tb_of 509 (by decide +kernel) rfl
theorem t_510 : (Jvm.Cond.methodLink "CanoeSides" (104 : Nat) ({ cls := "CanoeSides$Reader", name := "<init>", desc := "([II)V" } : Jvm.MethodName)) ∈ TB := tb_of 510 (by decide +kernel) rfl
theorem t_511 : (Jvm.Cond.instanceMethod ({ cls := "CanoeSides$Reader", name := "<init>", desc := "([II)V" } : Jvm.MethodName)) ∈ TB := tb_of 511 (by decide +kernel) rfl
theorem t_512 : (Jvm.Cond.code ({ cls := "CanoeSides$Reader", name := "<init>", desc := "([II)V" } : Jvm.MethodName) prog_8_method_1_code (3 : Nat) (Option.none : Option Jvm.ClassFile.FieldType)) ∈ TB := tb_of 512 (by decide +kernel) rfl
theorem t_520 : (Jvm.Cond.fieldLinkNest "CanoeSides" (114 : Nat) "CanoeSides$Reader" "course" "LCanoeSides$River;" "CanoeSides") ∈ NB := nb_of 520 (by decide +kernel) rfl
theorem t_525 : (Jvm.Cond.fieldLinkNest "CanoeSides" (111 : Nat) "CanoeSides$Reader" "fault" "I" "CanoeSides") ∈ NB := nb_of 525 (by decide +kernel) rfl
theorem t_527 : (Jvm.Cond.fieldLinkNest "CanoeSides" (110 : Nat) "CanoeSides$Reader" "faultPlace" "I" "CanoeSides") ∈ NB := nb_of 527 (by decide +kernel) rfl
theorem t_545 : (Jvm.Cond.methodLink "CanoeSides" (107 : Nat) ({ cls := "CanoeSides$Reader", name := "readText", desc := "()V" } : Jvm.MethodName)) ∈ TB := tb_of 545 (by decide +kernel) rfl
theorem t_546 : (Jvm.Cond.instanceMethod ({ cls := "CanoeSides$Reader", name := "readText", desc := "()V" } : Jvm.MethodName)) ∈ TB := tb_of 546 (by decide +kernel) rfl
theorem t_547 : (Jvm.Cond.selects "CanoeSides$Reader" ({ cls := "CanoeSides$Reader", name := "readText", desc := "()V" } : Jvm.MethodName) ({ cls := "CanoeSides$Reader", name := "readText", desc := "()V" } : Jvm.MethodName)) ∈ TB := tb_of 547 (by decide +kernel) rfl
theorem t_548 : (Jvm.Cond.code ({ cls := "CanoeSides$Reader", name := "readText", desc := "()V" } : Jvm.MethodName) prog_8_method_2_code (2 : Nat) (Option.none : Option Jvm.ClassFile.FieldType)) ∈ TB := tb_of 548 (by decide +kernel) rfl
abbrev WC8 : Wl := [(0, .inl (10, [some (some 2), none, none, some (some 80), some (some 15), some (some 20), some (some 25), some (some 30), some (some 33), some (some 35), some (some 60), some (some 40), some (some 45), some (some 55)])), (2, .inr (.inl (0, 250))), (80, .inl (7, [none, none, some (some 81), none, none, none, none, none, none, none, none, none, some (some 82)])), (81, .inr (.inl (0, 48))), (82, .inr (.inl (0, 8))), (15, .inl (9, [some (some 16), some (some 17), none])), (16, .inr (.inl (0, 1920))), (17, .inr (.inl (0, 48))), (20, .inl (2, [some (some 15), some (some 21), some (some 22)])), (21, .inr (.inl (0, 16))), (22, .inr (.inl (0, 16))), (25, .inl (2, [some (some 15), some (some 26), some (some 27)])), (26, .inr (.inl (0, 16))), (27, .inr (.inl (0, 16))), (30, .inl (0, [none, none, none])), (33, .inr (.inr (2, 31))), (35, .inl (5, [some (some 36), none, none])), (36, .inr (.inl (0, 50))), (40, .inl (8, [some (some 41), some (some 42), some (some 43), none, none, none, none])), (41, .inr (.inl (0, 3456))), (42, .inr (.inl (0, 3456))), (43, .inr (.inl (0, 60))), (45, .inl (1, [some (some 46), some (some 47), some (some 48), some (some 49), none, none, none, none, none])), (46, .inr (.inl (0, 3456))), (47, .inr (.inl (0, 3456))), (48, .inr (.inl (0, 3456))), (49, .inr (.inl (0, 3456))), (55, .inl (3, [some (some 56), none, none, none])), (56, .inr (.inl (0, 384))), (60, .inl (4, [some (some 61), some (some 62), some (some 63), some (some 64), none, none])), (61, .inr (.inl (0, 4))), (62, .inr (.inl (0, 40))), (63, .inr (.inl (0, 20))), (64, .inr (.inl (0, 20)))]
theorem nd_C8 : nd WC8 = true := by decide +kernel
abbrev WC_river_1 : Wl := [(0, .inl (10, [some (some 2), none, none, some (some 80), some (some 15), some (some 20), some (some 25), some (some 30), some (some 33), some (some 35), some (some 60), some (some 40), some (some 45), some (some 55)])), (2, .inr (.inl (0, 250))), (80, .inl (7, [none, none, some (some 81), none, none, none, none, none, none, none, none, none, some (some 82)])), (81, .inr (.inl (0, 48))), (82, .inr (.inl (0, 8))), (15, .inl (9, [some (some 16), some (some 17), none])), (16, .inr (.inl (0, 1920))), (17, .inr (.inl (0, 48))), (20, .inl (2, [some (some 15), some (some 21), some (some 22)])), (21, .inr (.inl (0, 16))), (22, .inr (.inl (0, 16))), (25, .inl (2, [some (some 15), some (some 26), some (some 27)])), (26, .inr (.inl (0, 16))), (27, .inr (.inl (0, 16))), (30, .inl (0, [none, none, none])), (33, .inr (.inr (2, 31))), (35, .inl (5, [some (some 36), none, none])), (36, .inr (.inl (0, 50))), (40, .inl (8, [some (some 41), some (some 42), some (some 43), none, none, none, none])), (41, .inr (.inl (0, 3456))), (42, .inr (.inl (0, 3456))), (43, .inr (.inl (0, 60))), (45, .inl (1, [some (some 46), some (some 47), some (some 48), some (some 49), none, none, none, none, none])), (46, .inr (.inl (0, 3456))), (47, .inr (.inl (0, 3456))), (48, .inr (.inl (0, 3456))), (49, .inr (.inl (0, 3456))), (55, .inl (3, [some (some 56), none, none, none])), (56, .inr (.inl (0, 384))), (60, .inl (4, [some (some 61), some (some 62), some (some 63), some (some 64), none, none])), (61, .inr (.inl (0, 4))), (62, .inr (.inl (0, 40))), (63, .inr (.inl (0, 20))), (64, .inr (.inl (0, 20))), (70, .inl (6, [some none, none, some none, none, none, none, none, none]))]
theorem nd_C_river_1 : nd WC_river_1 = true := by decide +kernel
abbrev WC_river_r12 : Wl := [(0, .inl (10, [some (some 2), none, none, some (some 80), some (some 15), some (some 20), some (some 25), some (some 30), some (some 33), some (some 35), some (some 60), some (some 40), some (some 45), some (some 55)])), (80, .inl (7, [none, none, some (some 81), none, none, none, none, none, none, none, none, none, some (some 82)])), (81, .inr (.inl (0, 48))), (82, .inr (.inl (0, 8))), (15, .inl (9, [some (some 16), some (some 17), none])), (16, .inr (.inl (0, 1920))), (17, .inr (.inl (0, 48))), (20, .inl (2, [some (some 15), some (some 21), some (some 22)])), (21, .inr (.inl (0, 16))), (22, .inr (.inl (0, 16))), (25, .inl (2, [some (some 15), some (some 26), some (some 27)])), (26, .inr (.inl (0, 16))), (27, .inr (.inl (0, 16))), (30, .inl (0, [none, none, none])), (33, .inr (.inr (2, 31))), (35, .inl (5, [some (some 36), none, none])), (36, .inr (.inl (0, 50))), (40, .inl (8, [some (some 41), some (some 42), some (some 43), none, none, none, none])), (41, .inr (.inl (0, 3456))), (42, .inr (.inl (0, 3456))), (43, .inr (.inl (0, 60))), (45, .inl (1, [some (some 46), some (some 47), some (some 48), some (some 49), none, none, none, none, none])), (46, .inr (.inl (0, 3456))), (47, .inr (.inl (0, 3456))), (48, .inr (.inl (0, 3456))), (49, .inr (.inl (0, 3456))), (55, .inl (3, [some (some 56), none, none, none])), (56, .inr (.inl (0, 384))), (60, .inl (4, [some (some 61), some (some 62), some (some 63), some (some 64), none, none])), (61, .inr (.inl (0, 4))), (62, .inr (.inl (0, 40))), (63, .inr (.inl (0, 20))), (64, .inr (.inl (0, 20)))]
theorem nd_C_river_r12 : nd WC_river_r12 = true := by decide +kernel
abbrev WC_river_2 : Wl := [(0, .inl (10, [some (some 2), none, none, some (some 80), some (some 15), some (some 20), some (some 25), some (some 30), some (some 33), some (some 35), some (some 60), some (some 40), some (some 45), some (some 55)])), (80, .inl (7, [none, none, some (some 81), none, none, none, none, none, none, none, none, none, some (some 82)])), (81, .inr (.inl (0, 48))), (82, .inr (.inl (0, 8))), (15, .inl (9, [some (some 16), some (some 17), none])), (16, .inr (.inl (0, 1920))), (17, .inr (.inl (0, 48))), (20, .inl (2, [some (some 15), some (some 21), some (some 22)])), (21, .inr (.inl (0, 16))), (22, .inr (.inl (0, 16))), (25, .inl (2, [some (some 15), some (some 26), some (some 27)])), (26, .inr (.inl (0, 16))), (27, .inr (.inl (0, 16))), (30, .inl (0, [none, none, none])), (33, .inr (.inr (2, 31))), (35, .inl (5, [some (some 36), none, none])), (36, .inr (.inl (0, 50))), (40, .inl (8, [some (some 41), some (some 42), some (some 43), none, none, none, none])), (41, .inr (.inl (0, 3456))), (42, .inr (.inl (0, 3456))), (43, .inr (.inl (0, 60))), (45, .inl (1, [some (some 46), some (some 47), some (some 48), some (some 49), none, none, none, none, none])), (46, .inr (.inl (0, 3456))), (47, .inr (.inl (0, 3456))), (48, .inr (.inl (0, 3456))), (49, .inr (.inl (0, 3456))), (55, .inl (3, [some (some 56), none, none, none])), (56, .inr (.inl (0, 384))), (60, .inl (4, [some (some 61), some (some 62), some (some 63), some (some 64), none, none])), (61, .inr (.inl (0, 4))), (62, .inr (.inl (0, 40))), (63, .inr (.inl (0, 20))), (64, .inr (.inl (0, 20))), (70, .inl (6, [some (some 2), none, some (some 10), none, none, none, none, none])), (2, .inr (.inl (0, 250))), (10, .inl (7, [none, none, some (some 11), none, none, none, none, none, none, none, none, none, some (some 12)])), (11, .inr (.inl (0, 48))), (12, .inr (.inl (0, 8)))]
theorem nd_C_river_2 : nd WC_river_2 = true := by decide +kernel
abbrev WCrn : Wl := [(0, .inl (10, [some (some 2), none, none, some (some 10), some (some 15), some (some 20), some (some 25), some (some 30), some (some 33), some (some 35), some (some 60), some (some 40), some (some 45), some (some 55)])), (80, .inl (7, [none, none, some (some 81), none, none, none, none, none, none, none, none, none, some (some 82)])), (81, .inr (.inl (0, 48))), (82, .inr (.inl (0, 8))), (15, .inl (9, [some (some 16), some (some 17), none])), (16, .inr (.inl (0, 1920))), (17, .inr (.inl (0, 48))), (20, .inl (2, [some (some 15), some (some 21), some (some 22)])), (21, .inr (.inl (0, 16))), (22, .inr (.inl (0, 16))), (25, .inl (2, [some (some 15), some (some 26), some (some 27)])), (26, .inr (.inl (0, 16))), (27, .inr (.inl (0, 16))), (30, .inl (0, [none, none, none])), (33, .inr (.inr (2, 31))), (35, .inl (5, [some (some 36), none, none])), (36, .inr (.inl (0, 50))), (40, .inl (8, [some (some 41), some (some 42), some (some 43), none, none, none, none])), (41, .inr (.inl (0, 3456))), (42, .inr (.inl (0, 3456))), (43, .inr (.inl (0, 60))), (45, .inl (1, [some (some 46), some (some 47), some (some 48), some (some 49), none, none, none, none, none])), (46, .inr (.inl (0, 3456))), (47, .inr (.inl (0, 3456))), (48, .inr (.inl (0, 3456))), (49, .inr (.inl (0, 3456))), (55, .inl (3, [some (some 56), none, none, none])), (56, .inr (.inl (0, 384))), (60, .inl (4, [some (some 61), some (some 62), some (some 63), some (some 64), none, none])), (61, .inr (.inl (0, 4))), (62, .inr (.inl (0, 40))), (63, .inr (.inl (0, 20))), (64, .inr (.inl (0, 20))), (70, .inl (6, [some (some 2), none, some (some 10), none, none, none, none, none])), (2, .inr (.inl (0, 250))), (10, .inl (7, [none, none, some (some 11), none, none, none, none, none, none, none, none, none, some (some 12)])), (11, .inr (.inl (0, 48))), (12, .inr (.inl (0, 8)))]
theorem nd_Crn : nd WCrn = true := by decide +kernel
theorem sb_Reader_C_river_2 : subW WReader WC_river_2 = true := by decide +kernel
abbrev y_C_river : MethodName := ⟨"CanoeSides", "river", "()I"⟩
theorem cd_C_river : cwd y_C_river 0 := by decide +kernel
theorem d_C_river_0 : decode prog_1_method_3_code 0 = .ok (.new 102, 3) := by decide +kernel
theorem d_C_river_3 : decode prog_1_method_3_code 3 = .ok (.dup, 1) := by decide +kernel
theorem d_C_river_4 : decode prog_1_method_3_code 4 = .ok (.aload_n 0, 1) := by decide +kernel
theorem d_C_river_5 : decode prog_1_method_3_code 5 = .ok (.getfield 9, 3) := by decide +kernel
theorem d_C_river_8 : decode prog_1_method_3_code 8 = .ok (.aload_n 0, 1) := by decide +kernel
theorem d_C_river_9 : decode prog_1_method_3_code 9 = .ok (.getfield 13, 3) := by decide +kernel
theorem d_C_river_12 : decode prog_1_method_3_code 12 = .ok (.invokespecial 104, 3) := by decide +kernel
theorem d_C_river_15 : decode prog_1_method_3_code 15 = .ok (.astore_n 1, 1) := by decide +kernel
theorem d_C_river_16 : decode prog_1_method_3_code 16 = .ok (.aload_n 1, 1) := by decide +kernel
theorem d_C_river_17 : decode prog_1_method_3_code 17 = .ok (.invokevirtual 107, 3) := by decide +kernel
theorem d_C_river_20 : decode prog_1_method_3_code 20 = .ok (.aload_n 0, 1) := by decide +kernel
theorem d_C_river_21 : decode prog_1_method_3_code 21 = .ok (.iconst 0, 1) := by decide +kernel
theorem d_C_river_22 : decode prog_1_method_3_code 22 = .ok (.putfield 13, 3) := by decide +kernel
theorem d_C_river_25 : decode prog_1_method_3_code 25 = .ok (.aload_n 0, 1) := by decide +kernel
theorem d_C_river_26 : decode prog_1_method_3_code 26 = .ok (.aload_n 1, 1) := by decide +kernel
theorem d_C_river_27 : decode prog_1_method_3_code 27 = .ok (.getfield 110, 3) := by decide +kernel
theorem d_C_river_30 : decode prog_1_method_3_code 30 = .ok (.putfield 17, 3) := by decide +kernel
theorem d_C_river_33 : decode prog_1_method_3_code 33 = .ok (.aload_n 1, 1) := by decide +kernel
theorem d_C_river_34 : decode prog_1_method_3_code 34 = .ok (.getfield 111, 3) := by decide +kernel
theorem d_C_river_37 : decode prog_1_method_3_code 37 = .ok (.ifCond .eq 11, 3) := by decide +kernel
theorem d_C_river_40 : decode prog_1_method_3_code 40 = .ok (.bipush (-10), 2) := by decide +kernel
theorem d_C_river_42 : decode prog_1_method_3_code 42 = .ok (.aload_n 1, 1) := by decide +kernel
theorem d_C_river_43 : decode prog_1_method_3_code 43 = .ok (.getfield 111, 3) := by decide +kernel
theorem d_C_river_46 : decode prog_1_method_3_code 46 = .ok (.isub, 1) := by decide +kernel
theorem d_C_river_47 : decode prog_1_method_3_code 47 = .ok (.ireturn, 1) := by decide +kernel
theorem d_C_river_48 : decode prog_1_method_3_code 48 = .ok (.aload_n 0, 1) := by decide +kernel
theorem d_C_river_49 : decode prog_1_method_3_code 49 = .ok (.aload_n 1, 1) := by decide +kernel
theorem d_C_river_50 : decode prog_1_method_3_code 50 = .ok (.getfield 114, 3) := by decide +kernel
theorem d_C_river_53 : decode prog_1_method_3_code 53 = .ok (.invokevirtual 92, 3) := by decide +kernel
theorem d_C_river_56 : decode prog_1_method_3_code 56 = .ok (.aload_n 0, 1) := by decide +kernel
theorem d_C_river_57 : decode prog_1_method_3_code 57 = .ok (.getfield 23, 3) := by decide +kernel
theorem d_C_river_60 : decode prog_1_method_3_code 60 = .ok (.getfield 115, 3) := by decide +kernel
theorem d_C_river_63 : decode prog_1_method_3_code 63 = .ok (.aload_n 0, 1) := by decide +kernel
theorem d_C_river_64 : decode prog_1_method_3_code 64 = .ok (.getfield 23, 3) := by decide +kernel
theorem d_C_river_67 : decode prog_1_method_3_code 67 = .ok (.getfield 118, 3) := by decide +kernel
theorem d_C_river_70 : decode prog_1_method_3_code 70 = .ok (.imul, 1) := by decide +kernel
theorem d_C_river_71 : decode prog_1_method_3_code 71 = .ok (.ireturn, 1) := by decide +kernel
abbrev rm_C_river : Room := { frames := 8, cells := 4, slots := 77, locals := 180 }
def k8 (q : Nat) : Nat := if q = 80 then 10 else if q = 81 then 11 else if q = 82 then 12 else q
def hk8 (h : Hp) : Hp := hrow (hrow (hrow h 80 (h 10)) 81 (h 11)) 82 (h 12)
def hb8 (h : Hp) : Hp := hrow (hrow (hrow h 10 (h 80)) 11 (h 81)) 12 (h 82)
theorem k8W (dA : Nat → ClassId) (ad adk : Nat → Nat) (h : Hp) (hk : ∀ q, adk q = ad (k8 q)) : wd dA adk (hk8 h) WC8 = wd dA ad h WC := by
  have hi2 : (fun i => if i < 2 then (if h 33 i = 0 then none else some (ad (k8 (31 + i)))) else none) = (fun i => if i < 2 then (if h 33 i = 0 then none else some (ad (31 + i))) else none) := by
    funext i
    by_cases hi : i < 2
    · have : k8 (31 + i) = 31 + i := by
        have h2 : i = 0 ∨ i = 1 := by omega
        rcases h2 with rfl | rfl <;> rfl
      rw [if_pos hi, if_pos hi, this]
    · rw [if_neg hi, if_neg hi]
  simp [wd, wc, ent, fl, hk, hk8, hrow, show k8 0 = 0 from rfl, show k8 2 = 2 from rfl, show k8 15 = 15 from rfl, show k8 16 = 16 from rfl, show k8 17 = 17 from rfl, show k8 20 = 20 from rfl, show k8 21 = 21 from rfl, show k8 22 = 22 from rfl, show k8 25 = 25 from rfl, show k8 26 = 26 from rfl, show k8 27 = 27 from rfl, show k8 30 = 30 from rfl, show k8 33 = 33 from rfl, show k8 35 = 35 from rfl, show k8 36 = 36 from rfl, show k8 40 = 40 from rfl, show k8 41 = 41 from rfl, show k8 42 = 42 from rfl, show k8 43 = 43 from rfl, show k8 45 = 45 from rfl, show k8 46 = 46 from rfl, show k8 47 = 47 from rfl, show k8 48 = 48 from rfl, show k8 49 = 49 from rfl, show k8 55 = 55 from rfl, show k8 56 = 56 from rfl, show k8 60 = 60 from rfl, show k8 61 = 61 from rfl, show k8 62 = 62 from rfl, show k8 63 = 63 from rfl, show k8 64 = 64 from rfl, show k8 80 = 10 from rfl, show k8 81 = 11 from rfl, show k8 82 = 12 from rfl, hi2]
/-- back: the old river's places again -/
theorem b8W (dA : Nat → ClassId) (ad adx : Nat → Nat) (h : Hp) (h80 : adx 80 = ad 10) (h81 : adx 81 = ad 11) (h82 : adx 82 = ad 12) (hk : ∀ q, q ≠ 10 → q ≠ 11 → q ≠ 12 → q ≠ 70 → q ≠ 80 → q ≠ 81 → q ≠ 82 → adx q = ad q) : wd dA ad (hb8 h) WC = wd dA adx h WC8 := by
  have hi2 : (fun i => if i < 2 then (if h 33 i = 0 then none else some (adx (31 + i))) else none) = (fun i => if i < 2 then (if h 33 i = 0 then none else some (ad (31 + i))) else none) := by
    funext i
    by_cases hi : i < 2
    · rw [if_pos hi, if_pos hi, hk (31 + i) (by omega) (by omega) (by omega) (by omega) (by omega) (by omega) (by omega)]
    · rw [if_neg hi, if_neg hi]
  simp [wd, wc, ent, fl, hb8, hrow, h80, h81, h82, hk, hi2]
def K_C_river (N : Nat) (h : Hp) : Option (Int32 × Hp) :=
  nm (hk8 h) <| fun hk => nm (hrow hk 70 (fun _ => 0)) <| fun h0 => bd (K_Reader_init (h0 0 1) h0) <| fun h12 => nm (mx [70, 2, 10, 11, 12] h12 h0) <| fun h12m => bd (K_Reader_readText N h12m) <| fun h17 => nm (mx [70, 2, 10, 11, 12] h17 h12m) <| fun h17m => nm (hset h17m 0 1 0) <| fun h22 => nm (hset h22 0 2 (h22 70 7)) <| fun h30 => if (h30 70 6) = 0 then (bd (K_C_goOnTo N h30) <| fun h53 => nm (mx [0, 2, 10, 11, 12, 15, 16, 17, 20, 21, 22, 25, 26, 27, 30, 33, 35, 36, 40, 41, 42, 43, 45, 46, 47, 48, 49, 55, 56, 60, 61, 62, 63, 64] h53 h30) <| fun h53m => some (((h53m 10 0) * (h53m 10 1)), h53m)) else (nm (hb8 h30) <| fun hb => some (((-10) - (h30 70 6)), hb))
theorem w_C_river {p : Program} {l : Launch} {e : Env} {s : State} {m : MethodId} {args : Array Value} {below : List Frame} {meth : Method} {c : Code} {K : KT} {A : Nat → Prop} (C0 : Cx p s m args meth c prog_1_method_3_code "CanoeSides" 2 K A) (hr : meth.sig.returnType = (Option.some Jvm.ClassFile.FieldType.int)) {ad : Nat → Nat} (N : Nat) (h : Hp) {res : Int32 × Hp} (hE : K_C_river N h = some res) : G p l e rm_C_river s m args below meth c K A WC 2 0 0 (QIN s args below K A WC [0, 2, 15, 16, 17, 20, 21, 22, 25, 26, 27, 30, 33, 35, 36, 40, 41, 42, 43, 45, 46, 47, 48, 49, 55, 56, 60, 61, 62, 63, 64, 31, 32] ad res.1 res.2 4 77) 0 [(0, .ref (ad 0))] [] ad h := by
  unfold K_C_river at hE
  obtain ⟨adk, hadk⟩ : ∃ adk : Nat → Nat, ∀ q, adk q = ad (k8 q) := ⟨_, fun _ => rfl⟩
  obtain ⟨hk, ek, hE⟩ := nm_some hE
  refine g_recast (rs' := WC8) (ad' := adk) (h' := hk) (by rw [ek]; exact k8W _ _ _ _ hadk) ?_
  rw [show ad 0 = adk 0 from (hadk 0).symm]
  obtain ⟨h0, e0, hE⟩ := nm_some hE
  refine g_new C0 CK_6 CT_6.1 70 [some none, none, some none, none, none, none, none, none] ⟨t_508, t_509, t_98⟩ (by decide +kernel) raw_6 (by decide +kernel) (by decide) (by decide) d_C_river_0 (fun ad0 hag0 => ?_)
  rw [← hag0 0 (by decide)]
  refine g_heap e0 ?_
  refine (?_ : G p l e rm_C_river s m args below meth c K A WC_river_1 2 1 8 _ 3 [(0, .ref (ad0 0))] [.ref (ad0 70)] ad0 h0)
  refine g_dup C0 d_C_river_3 rfl ?_
  refine g_aload_n C0 0 d_C_river_4 rfl rfl ?_
  refine g_getr C0 CK_10 0 (by decide) t_452 0 rfl rfl d_C_river_5 ?_
  refine g_aload_n C0 0 d_C_river_8 rfl rfl ?_
  refine g_geti C0 CK_10 1 (by decide) t_453 0 rfl rfl d_C_river_9 ?_
  obtain ⟨h12, z12, hE⟩ := bd_some hE
  obtain ⟨h12m, e12, hE⟩ := nm_some hE
  refine g_initN C0 WC_river_r12 [10, 11, 12] [70, 2] [70, 2, 10, 11, 12] (m_Reader_init l K ad0 h0 (h0 0 1) z12) 2 rfl ⟨t_510, t_511, t_98, t_512⟩ cd_Reader_init (by decide) (by decide +kernel) nd_Reader_init_0 nd_C_river_1 (by decide +kernel) nd_C_river_r12 (by decide +kernel) rfl (by decide +kernel) (by decide +kernel) (by decide +kernel) (by decide +kernel) rfl rfl (Nat.le_of_ble_eq_true rfl) d_C_river_12 (fun ad12 hag12 => ?_)
  rw [← hag12 0 (by decide)]
  rw [← hag12 70 (by decide)]
  refine g_heap e12 ?_
  refine (?_ : G p l e rm_C_river s m args below meth c K A WC_river_2 2 4 77 _ 15 [(0, .ref (ad12 0))] [.ref (ad12 70)] ad12 h12m)
  refine g_astore_n C0 [(1, .ref (ad12 70)), (0, .ref (ad12 0))] d_C_river_15 rfl (by decide) rfl ?_
  refine g_aload_n C0 0 d_C_river_16 rfl rfl ?_
  obtain ⟨h17, z17, hE⟩ := bd_some hE
  obtain ⟨h17m, e17, hE⟩ := nm_some hE
  refine g_callv C0 nd_C_river_2 [70, 2, 10, 11, 12] rfl (sb_Reader_C_river_2) (runV C0 (m_Reader_readText l K ad12 h12m N z17) 0 rfl ⟨t_545, t_546, t_547, t_98, t_548⟩ cd_Reader_readText (by decide) 33 rfl rfl (sb_Reader_C_river_2) nd_Reader rfl rfl (Nat.le_of_ble_eq_true rfl) d_C_river_17) ?_
  refine g_heap e17 ?_
  refine g_aload_n C0 1 d_C_river_20 rfl rfl ?_
  refine g_iconst C0 (v := 0) d_C_river_21 (by decide) ?_
  obtain ⟨h22, e22, hE⟩ := nm_some hE
  refine g_puti C0 CK_10 CT_10 1 (by decide) t_453 rfl (by decide +kernel) nd_C_river_2 0 rfl rfl d_C_river_22 ?_
  refine g_heap e22 ?_
  refine g_aload_n C0 1 d_C_river_25 rfl rfl ?_
  refine g_aload_n C0 0 d_C_river_26 rfl rfl ?_
  refine g_getiN C0 CK_6 7 (by decide) t_527 33 rfl rfl d_C_river_27 ?_
  obtain ⟨h30, e30, hE⟩ := nm_some hE
  refine g_puti C0 CK_10 CT_10 2 (by decide) t_454 rfl (by decide +kernel) nd_C_river_2 0 rfl rfl d_C_river_30 ?_
  refine g_heap e30 ?_
  refine g_aload_n C0 0 d_C_river_33 rfl rfl ?_
  refine g_getiN C0 CK_6 6 (by decide) t_525 33 rfl rfl d_C_river_34 ?_
  have hB := ite_some hE
  refine g_if_eq C0 (tgt := 48) d_C_river_37 (by decide) (fun c_ => ?_) (fun c_ => ?_)
  · replace hE := hB.1 c_
    refine g_aload_n C0 1 d_C_river_48 rfl rfl ?_
    refine g_aload_n C0 0 d_C_river_49 rfl rfl ?_
    refine g_getrN C0 CK_6 2 (by decide) t_520 33 rfl rfl d_C_river_50 ?_
    obtain ⟨h53, z53, hE⟩ := bd_some hE
    obtain ⟨h53m, e53, hE⟩ := nm_some hE
    refine g_callvW C0 nd_C_river_2 [0, 2, 10, 11, 12, 15, 16, 17, 20, 21, 22, 25, 26, 27, 30, 33, 35, 36, 40, 41, 42, 43, 45, 46, 47, 48, 49, 55, 56, 60, 61, 62, 63, 64] rfl rfl (rsN := WCrn) (by decide +kernel) (by decide +kernel) rfl (runV C0 (m_C_goOnTo l K ad12 h30 N z53) 1 rfl ⟨t_378, t_380, t_0, t_85, t_381⟩ cd_C_goOnTo (by decide) 0 rfl rfl (by decide +kernel) nd_Cg rfl rfl (Nat.le_of_ble_eq_true rfl) d_C_river_53) ?_
    refine g_heap e53 ?_
    refine g_part (rs' := WC) (by decide +kernel) nd_C ?_
    refine g_aload_n C0 1 d_C_river_56 rfl rfl ?_
    refine g_getr C0 CK_10 3 (by decide) t_455 0 rfl rfl d_C_river_57 ?_
    refine g_getiN C0 CK_7 0 (by decide) t_122 2 rfl rfl d_C_river_60 ?_
    refine g_aload_n C0 1 d_C_river_63 rfl rfl ?_
    refine g_getr C0 CK_10 3 (by decide) t_455 0 rfl rfl d_C_river_64 ?_
    refine g_getiN C0 CK_7 1 (by decide) t_125 2 rfl rfl d_C_river_67 ?_
    refine g_imul C0 d_C_river_70 ?_
    obtain rfl := Option.some.inj hE
    exact g_iretN C0 (List.forall_mem_cons.mpr ⟨((hag12 0 (by decide)).trans ((hag0 0 (by decide)).trans (hadk 0))), List.forall_mem_cons.mpr ⟨((hag12 2 (by decide)).trans ((hag0 2 (by decide)).trans (hadk 2))), List.forall_mem_cons.mpr ⟨((hag12 15 (by decide)).trans ((hag0 15 (by decide)).trans (hadk 15))), List.forall_mem_cons.mpr ⟨((hag12 16 (by decide)).trans ((hag0 16 (by decide)).trans (hadk 16))), List.forall_mem_cons.mpr ⟨((hag12 17 (by decide)).trans ((hag0 17 (by decide)).trans (hadk 17))), List.forall_mem_cons.mpr ⟨((hag12 20 (by decide)).trans ((hag0 20 (by decide)).trans (hadk 20))), List.forall_mem_cons.mpr ⟨((hag12 21 (by decide)).trans ((hag0 21 (by decide)).trans (hadk 21))), List.forall_mem_cons.mpr ⟨((hag12 22 (by decide)).trans ((hag0 22 (by decide)).trans (hadk 22))), List.forall_mem_cons.mpr ⟨((hag12 25 (by decide)).trans ((hag0 25 (by decide)).trans (hadk 25))), List.forall_mem_cons.mpr ⟨((hag12 26 (by decide)).trans ((hag0 26 (by decide)).trans (hadk 26))), List.forall_mem_cons.mpr ⟨((hag12 27 (by decide)).trans ((hag0 27 (by decide)).trans (hadk 27))), List.forall_mem_cons.mpr ⟨((hag12 30 (by decide)).trans ((hag0 30 (by decide)).trans (hadk 30))), List.forall_mem_cons.mpr ⟨((hag12 33 (by decide)).trans ((hag0 33 (by decide)).trans (hadk 33))), List.forall_mem_cons.mpr ⟨((hag12 35 (by decide)).trans ((hag0 35 (by decide)).trans (hadk 35))), List.forall_mem_cons.mpr ⟨((hag12 36 (by decide)).trans ((hag0 36 (by decide)).trans (hadk 36))), List.forall_mem_cons.mpr ⟨((hag12 40 (by decide)).trans ((hag0 40 (by decide)).trans (hadk 40))), List.forall_mem_cons.mpr ⟨((hag12 41 (by decide)).trans ((hag0 41 (by decide)).trans (hadk 41))), List.forall_mem_cons.mpr ⟨((hag12 42 (by decide)).trans ((hag0 42 (by decide)).trans (hadk 42))), List.forall_mem_cons.mpr ⟨((hag12 43 (by decide)).trans ((hag0 43 (by decide)).trans (hadk 43))), List.forall_mem_cons.mpr ⟨((hag12 45 (by decide)).trans ((hag0 45 (by decide)).trans (hadk 45))), List.forall_mem_cons.mpr ⟨((hag12 46 (by decide)).trans ((hag0 46 (by decide)).trans (hadk 46))), List.forall_mem_cons.mpr ⟨((hag12 47 (by decide)).trans ((hag0 47 (by decide)).trans (hadk 47))), List.forall_mem_cons.mpr ⟨((hag12 48 (by decide)).trans ((hag0 48 (by decide)).trans (hadk 48))), List.forall_mem_cons.mpr ⟨((hag12 49 (by decide)).trans ((hag0 49 (by decide)).trans (hadk 49))), List.forall_mem_cons.mpr ⟨((hag12 55 (by decide)).trans ((hag0 55 (by decide)).trans (hadk 55))), List.forall_mem_cons.mpr ⟨((hag12 56 (by decide)).trans ((hag0 56 (by decide)).trans (hadk 56))), List.forall_mem_cons.mpr ⟨((hag12 60 (by decide)).trans ((hag0 60 (by decide)).trans (hadk 60))), List.forall_mem_cons.mpr ⟨((hag12 61 (by decide)).trans ((hag0 61 (by decide)).trans (hadk 61))), List.forall_mem_cons.mpr ⟨((hag12 62 (by decide)).trans ((hag0 62 (by decide)).trans (hadk 62))), List.forall_mem_cons.mpr ⟨((hag12 63 (by decide)).trans ((hag0 63 (by decide)).trans (hadk 63))), List.forall_mem_cons.mpr ⟨((hag12 64 (by decide)).trans ((hag0 64 (by decide)).trans (hadk 64))), List.forall_mem_cons.mpr ⟨((hag12 31 (by decide)).trans ((hag0 31 (by decide)).trans (hadk 31))), List.forall_mem_cons.mpr ⟨((hag12 32 (by decide)).trans ((hag0 32 (by decide)).trans (hadk 32))), fun _ h => absurd h List.not_mem_nil⟩⟩⟩⟩⟩⟩⟩⟩⟩⟩⟩⟩⟩⟩⟩⟩⟩⟩⟩⟩⟩⟩⟩⟩⟩⟩⟩⟩⟩⟩⟩⟩⟩) hr d_C_river_71
  · replace hE := hB.2 c_
    refine g_bipush C0 (v := (-10)) d_C_river_40 (by decide) ?_
    refine g_aload_n C0 0 d_C_river_42 rfl rfl ?_
    refine g_getiN C0 CK_6 6 (by decide) t_525 33 rfl rfl d_C_river_43 ?_
    refine g_isub C0 d_C_river_46 ?_
    refine g_part (rs' := WC8) (by decide +kernel) nd_C8 ?_
    obtain ⟨hb, eb, hE⟩ := nm_some hE
    refine g_recast (rs' := WC) (ad' := ad) (h' := hb) (by rw [eb]; exact b8W K.2.1 ad ad12 h30 ((hag12 80 (by decide)).trans ((hag0 80 (by decide)).trans (hadk 80))) ((hag12 81 (by decide)).trans ((hag0 81 (by decide)).trans (hadk 81))) ((hag12 82 (by decide)).trans ((hag0 82 (by decide)).trans (hadk 82))) (fun q a1 a2 a3 a4 a5 a6 a7 => ((hag12 q (by simp [a1, a2, a3])).trans ((hag0 q a4).trans ((hadk q).trans (by unfold k8; rw [if_neg a5, if_neg a6, if_neg a7])))))) ?_
    obtain rfl := Option.some.inj hE
    exact g_iretN C0 (fun _ _ => rfl) hr d_C_river_47
theorem m_C_river (l : Launch) (K : KT) (ad : Nat → Nat) (h : Hp) (N : Nat) {res : Int32 × Hp} (hE : K_C_river N h = some res) : ConNI l y_C_river prog_1_method_3_code 2 rm_C_river K WC ad h [.ref (ad 0)] WC [0, 2, 15, 16, 17, 20, 21, 22, 25, 26, 27, 30, 33, 35, 36, 40, 41, 42, 43, 45, 46, 47, 48, 49, 55, 56, 60, 61, 62, 63, 64, 31, 32] res.1 res.2 4 77 := fun sz =>
  con_startN [(0, .ref (ad 0))] (by decide +kernel) rfl (Nat.le_of_ble_eq_true rfl) (fun p e s m args below meth c C0 hr hnm hsz => w_C_river C0 hr N h hE)
