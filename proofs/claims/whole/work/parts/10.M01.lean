/-! walks, by program -/
abbrev y_M_fault : MethodName := ⟨"CanoeSidesModel", "fault", "()I"⟩
abbrev rm_M_fault : Room := { frames := 0, cells := 0, slots := 0, locals := 0 }
theorem cd_M_fault : cwd y_M_fault 0 := by decide +kernel
theorem d_M_fault_0 : decode prog_13_method_19_code 0 = .ok (.aload_n 0, 1) := by decide +kernel
theorem d_M_fault_1 : decode prog_13_method_19_code 1 = .ok (.getfield 29, 3) := by decide +kernel
theorem d_M_fault_4 : decode prog_13_method_19_code 4 = .ok (.ireturn, 1) := by decide +kernel
theorem w_M_fault {p : Program} {l : Launch} {e : Env} {s : State} {m : MethodId} {args : Array Value} {below : List Frame} {meth : Method} {c : Code} {K : KT} {A : Nat → Prop} (C0 : Cx p s m args meth c prog_13_method_19_code "CanoeSidesModel" 1 K A) (hr : meth.sig.returnType = (Option.some Jvm.ClassFile.FieldType.int)) {ad : Nat → Nat} (h : Hp) {res : Int32} (hE : K_M_fault h = some res) : G p l e rm_M_fault s m args below meth c K A WM 1 0 0 (QI s args below K A WM 0 0 ad res h) 0 [(0, .ref (ad 100))] [] ad h := by
  unfold K_M_fault at hE
  refine g_aload_n C0 0 d_M_fault_0 rfl rfl ?_
  refine g_geti C0 CK_11 11 (by decide) t_1101 0 rfl rfl d_M_fault_1 ?_
  obtain rfl := Option.some.inj hE
  exact g_iret C0 hr d_M_fault_4
theorem m_M_fault (l : Launch) (K : KT) (ad : Nat → Nat) (h : Hp) {res : Int32} (hE : K_M_fault h = some res) : ConI l y_M_fault prog_13_method_19_code 1 (Option.some Jvm.ClassFile.FieldType.int) rm_M_fault K WM ad h [.ref (ad 100)] res h := fun sz =>
  con_start [(0, .ref (ad 100))] (by decide +kernel) rfl (Nat.le_of_ble_eq_true rfl) (fun p e s m args below meth c C0 hr hnm hsz => w_M_fault C0 hr h hE)
abbrev y_M_isNone : MethodName := ⟨"CanoeSidesModel", "isNone", "()Z"⟩
abbrev rm_M_isNone : Room := { frames := 1, cells := 0, slots := 0, locals := 21 }
theorem cd_M_isNone : cwd y_M_isNone 0 := by decide +kernel
theorem d_M_isNone_0 : decode prog_13_method_21_code 0 = .ok (.aload_n 0, 1) := by decide +kernel
theorem d_M_isNone_1 : decode prog_13_method_21_code 1 = .ok (.iconst 0, 1) := by decide +kernel
theorem d_M_isNone_2 : decode prog_13_method_21_code 2 = .ok (.invokevirtual 131, 3) := by decide +kernel
theorem d_M_isNone_5 : decode prog_13_method_21_code 5 = .ok (.ifCond .ne 7, 3) := by decide +kernel
theorem d_M_isNone_8 : decode prog_13_method_21_code 8 = .ok (.iconst 1, 1) := by decide +kernel
theorem d_M_isNone_9 : decode prog_13_method_21_code 9 = .ok (.goto 4, 3) := by decide +kernel
theorem d_M_isNone_12 : decode prog_13_method_21_code 12 = .ok (.iconst 0, 1) := by decide +kernel
theorem d_M_isNone_13 : decode prog_13_method_21_code 13 = .ok (.ireturn, 1) := by decide +kernel
theorem w_M_isNone {p : Program} {l : Launch} {e : Env} {s : State} {m : MethodId} {args : Array Value} {below : List Frame} {meth : Method} {c : Code} {K : KT} {A : Nat → Prop} (C0 : Cx p s m args meth c prog_13_method_21_code "CanoeSidesModel" 1 K A) (hr : meth.sig.returnType = (Option.some Jvm.ClassFile.FieldType.boolean)) {ad : Nat → Nat} (h : Hp) {res : Int32} (hE : K_M_isNone h = some res) : G p l e rm_M_isNone s m args below meth c K A WM 1 0 0 (QI s args below K A WM 0 0 ad res h) 0 [(0, .ref (ad 100))] [] ad h := by
  unfold K_M_isNone at hE
  refine g_aload_n C0 0 d_M_isNone_0 rfl rfl ?_
  refine g_iconst C0 (v := 0) d_M_isNone_1 (by decide) ?_
  obtain ⟨v2, z2, hE⟩ := bd_some hE
  refine g_calliP C0 nd_M [100, 101, 102, 103, 104, 105, 106, 107, 108, 109, 110, 111, 112, 113, 114, 115] rfl (sbW_self WM) (runV C0 (m_M_squares l K ad h 0 z2) 1 rfl ⟨t_1248, t_1250, t_49, t_97, t_1251⟩ cd_M_squares (by decide) 0 rfl rfl (sbW_self WM) nd_M rfl rfl (Nat.le_of_ble_eq_true rfl) d_M_isNone_2) ?_
  have hB := ite_some hE
  refine g_if_ne C0 (tgt := 12) d_M_isNone_5 (by decide) (fun c_ => ?_) (fun c_ => ?_)
  · replace hE := hB.2 c_
    refine g_iconst C0 (v := 0) d_M_isNone_12 (by decide) ?_
    obtain rfl := Option.some.inj hE
    exact g_zret C0 hr nz0 d_M_isNone_13
  · replace hE := hB.1 c_
    refine g_iconst C0 (v := 1) d_M_isNone_8 (by decide) ?_
    refine g_goto C0 (tgt := 13) d_M_isNone_9 (by decide) ?_
    obtain rfl := Option.some.inj hE
    exact g_zret C0 hr nz1 d_M_isNone_13
theorem m_M_isNone (l : Launch) (K : KT) (ad : Nat → Nat) (h : Hp) {res : Int32} (hE : K_M_isNone h = some res) : ConI l y_M_isNone prog_13_method_21_code 1 (Option.some Jvm.ClassFile.FieldType.boolean) rm_M_isNone K WM ad h [.ref (ad 100)] res h := fun sz =>
  con_start [(0, .ref (ad 100))] (by decide +kernel) rfl (Nat.le_of_ble_eq_true rfl) (fun p e s m args below meth c C0 hr hnm hsz => w_M_isNone C0 hr h hE)
abbrev y_M_pair : MethodName := ⟨"CanoeSidesModel", "pair", "(I)I"⟩
abbrev rm_M_pair : Room := { frames := 2, cells := 0, slots := 0, locals := 41 }
theorem cd_M_pair : cwd y_M_pair 1 := by decide +kernel
theorem d_M_pair_0 : decode prog_13_method_22_code 0 = .ok (.aload_n 0, 1) := by decide +kernel
theorem d_M_pair_1 : decode prog_13_method_22_code 1 = .ok (.invokevirtual 143, 3) := by decide +kernel
theorem d_M_pair_4 : decode prog_13_method_22_code 4 = .ok (.ifCond .eq 7, 3) := by decide +kernel
theorem d_M_pair_7 : decode prog_13_method_22_code 7 = .ok (.iconst 0, 1) := by decide +kernel
theorem d_M_pair_8 : decode prog_13_method_22_code 8 = .ok (.goto 23, 3) := by decide +kernel
theorem d_M_pair_11 : decode prog_13_method_22_code 11 = .ok (.bipush 10, 2) := by decide +kernel
theorem d_M_pair_13 : decode prog_13_method_22_code 13 = .ok (.iload_n 1, 1) := by decide +kernel
theorem d_M_pair_14 : decode prog_13_method_22_code 14 = .ok (.aload_n 0, 1) := by decide +kernel
theorem d_M_pair_15 : decode prog_13_method_22_code 15 = .ok (.getfield 20, 3) := by decide +kernel
theorem d_M_pair_18 : decode prog_13_method_22_code 18 = .ok (.iconst 0, 1) := by decide +kernel
theorem d_M_pair_19 : decode prog_13_method_22_code 19 = .ok (.iaload, 1) := by decide +kernel
theorem d_M_pair_20 : decode prog_13_method_22_code 20 = .ok (.irem, 1) := by decide +kernel
theorem d_M_pair_21 : decode prog_13_method_22_code 21 = .ok (.imul, 1) := by decide +kernel
theorem d_M_pair_22 : decode prog_13_method_22_code 22 = .ok (.iload_n 1, 1) := by decide +kernel
theorem d_M_pair_23 : decode prog_13_method_22_code 23 = .ok (.aload_n 0, 1) := by decide +kernel
theorem d_M_pair_24 : decode prog_13_method_22_code 24 = .ok (.getfield 20, 3) := by decide +kernel
theorem d_M_pair_27 : decode prog_13_method_22_code 27 = .ok (.iconst 0, 1) := by decide +kernel
theorem d_M_pair_28 : decode prog_13_method_22_code 28 = .ok (.iaload, 1) := by decide +kernel
theorem d_M_pair_29 : decode prog_13_method_22_code 29 = .ok (.idiv, 1) := by decide +kernel
theorem d_M_pair_30 : decode prog_13_method_22_code 30 = .ok (.iadd, 1) := by decide +kernel
theorem d_M_pair_31 : decode prog_13_method_22_code 31 = .ok (.ireturn, 1) := by decide +kernel
theorem w_M_pair {p : Program} {l : Launch} {e : Env} {s : State} {m : MethodId} {args : Array Value} {below : List Frame} {meth : Method} {c : Code} {K : KT} {A : Nat → Prop} (C0 : Cx p s m args meth c prog_13_method_22_code "CanoeSidesModel" 2 K A) (hr : meth.sig.returnType = (Option.some Jvm.ClassFile.FieldType.int)) {ad : Nat → Nat} (a0 : Int32) (h : Hp) {res : Int32} (hE : K_M_pair a0 h = some res) : G p l e rm_M_pair s m args below meth c K A WM 2 0 0 (QI s args below K A WM 0 0 ad res h) 0 [(0, .ref (ad 100)), (1, .int a0)] [] ad h := by
  unfold K_M_pair at hE
  refine g_aload_n C0 0 d_M_pair_0 rfl rfl ?_
  obtain ⟨v1, z1, hE⟩ := bd_some hE
  refine g_calliP C0 nd_M [100, 101, 102, 103, 104, 105, 106, 107, 108, 109, 110, 111, 112, 113, 114, 115] rfl (sbW_self WM) (runV C0 (m_M_isNone l K ad h z1) 0 rfl ⟨t_1264, t_1266, t_51, t_97, t_1267⟩ cd_M_isNone (by decide) 0 rfl rfl (sbW_self WM) nd_M rfl rfl (Nat.le_of_ble_eq_true rfl) d_M_pair_1) ?_
  have hB := ite_some hE
  refine g_if_eq C0 (tgt := 11) d_M_pair_4 (by decide) (fun c_ => ?_) (fun c_ => ?_)
  · replace hE := hB.1 c_
    refine g_bipush C0 (v := 10) d_M_pair_11 (by decide) ?_
    refine g_iload_n C0 1 d_M_pair_13 rfl rfl ?_
    refine g_aload_n C0 0 d_M_pair_14 rfl rfl ?_
    refine g_getr C0 CK_11 3 (by decide) t_1093 0 rfl rfl d_M_pair_15 ?_
    refine g_iconst C0 (v := 0) d_M_pair_18 (by decide) ?_
    obtain ⟨q19, v19, e19, hE⟩ := gA_some hE
    refine g_iald C0 4 rfl q19 d_M_pair_19 ?_
    refine g_top e19 ?_
    obtain ⟨q20, hE⟩ := dz_some hE
    refine g_irem C0 d_M_pair_20 q20 ?_
    refine g_imul C0 d_M_pair_21 ?_
    refine g_iload_n C0 1 d_M_pair_22 rfl rfl ?_
    refine g_aload_n C0 0 d_M_pair_23 rfl rfl ?_
    refine g_getr C0 CK_11 3 (by decide) t_1093 0 rfl rfl d_M_pair_24 ?_
    refine g_iconst C0 (v := 0) d_M_pair_27 (by decide) ?_
    obtain ⟨q28, v28, e28, hE⟩ := gA_some hE
    refine g_iald C0 4 rfl q28 d_M_pair_28 ?_
    refine g_top e28 ?_
    obtain ⟨q29, hE⟩ := dz_some hE
    refine g_idiv C0 d_M_pair_29 q29 ?_
    refine g_iadd C0 d_M_pair_30 ?_
    obtain rfl := Option.some.inj hE
    exact g_iret C0 hr d_M_pair_31
  · replace hE := hB.2 c_
    refine g_iconst C0 (v := 0) d_M_pair_7 (by decide) ?_
    refine g_goto C0 (tgt := 31) d_M_pair_8 (by decide) ?_
    obtain rfl := Option.some.inj hE
    exact g_iret C0 hr d_M_pair_31
theorem m_M_pair (l : Launch) (K : KT) (ad : Nat → Nat) (h : Hp) (a0 : Int32) {res : Int32} (hE : K_M_pair a0 h = some res) : ConI l y_M_pair prog_13_method_22_code 2 (Option.some Jvm.ClassFile.FieldType.int) rm_M_pair K WM ad h [.ref (ad 100), .int a0] res h := fun sz =>
  con_start [(0, .ref (ad 100)), (1, .int a0)] (by decide +kernel) rfl (Nat.le_of_ble_eq_true rfl) (fun p e s m args below meth c C0 hr hnm hsz => w_M_pair C0 hr a0 h hE)
abbrev y_M_isSquare : MethodName := ⟨"CanoeSidesModel", "isSquare", "(II)Z"⟩
abbrev rm_M_isSquare : Room := { frames := 1, cells := 0, slots := 0, locals := 25 }
theorem cd_M_isSquare : cwd y_M_isSquare 2 := by decide +kernel
theorem d_M_isSquare_0 : decode prog_13_method_23_code 0 = .ok (.iload_n 1, 1) := by decide +kernel
theorem d_M_isSquare_1 : decode prog_13_method_23_code 1 = .ok (.i2l, 1) := by decide +kernel
theorem d_M_isSquare_2 : decode prog_13_method_23_code 2 = .ok (.lconst 0, 1) := by decide +kernel
theorem d_M_isSquare_3 : decode prog_13_method_23_code 3 = .ok (.aload_n 0, 1) := by decide +kernel
theorem d_M_isSquare_4 : decode prog_13_method_23_code 4 = .ok (.getfield 20, 3) := by decide +kernel
theorem d_M_isSquare_7 : decode prog_13_method_23_code 7 = .ok (.iconst 0, 1) := by decide +kernel
theorem d_M_isSquare_8 : decode prog_13_method_23_code 8 = .ok (.iaload, 1) := by decide +kernel
theorem d_M_isSquare_9 : decode prog_13_method_23_code 9 = .ok (.iconst 1, 1) := by decide +kernel
theorem d_M_isSquare_10 : decode prog_13_method_23_code 10 = .ok (.isub, 1) := by decide +kernel
theorem d_M_isSquare_11 : decode prog_13_method_23_code 11 = .ok (.i2l, 1) := by decide +kernel
theorem d_M_isSquare_12 : decode prog_13_method_23_code 12 = .ok (.invokestatic 67, 3) := by decide +kernel
theorem d_M_isSquare_15 : decode prog_13_method_23_code 15 = .ok (.ifCond .eq 25, 3) := by decide +kernel
theorem d_M_isSquare_18 : decode prog_13_method_23_code 18 = .ok (.iload_n 2, 1) := by decide +kernel
theorem d_M_isSquare_19 : decode prog_13_method_23_code 19 = .ok (.i2l, 1) := by decide +kernel
theorem d_M_isSquare_20 : decode prog_13_method_23_code 20 = .ok (.lconst 0, 1) := by decide +kernel
theorem d_M_isSquare_21 : decode prog_13_method_23_code 21 = .ok (.aload_n 0, 1) := by decide +kernel
theorem d_M_isSquare_22 : decode prog_13_method_23_code 22 = .ok (.getfield 20, 3) := by decide +kernel
theorem d_M_isSquare_25 : decode prog_13_method_23_code 25 = .ok (.iconst 1, 1) := by decide +kernel
theorem d_M_isSquare_26 : decode prog_13_method_23_code 26 = .ok (.iaload, 1) := by decide +kernel
theorem d_M_isSquare_27 : decode prog_13_method_23_code 27 = .ok (.iconst 1, 1) := by decide +kernel
theorem d_M_isSquare_28 : decode prog_13_method_23_code 28 = .ok (.isub, 1) := by decide +kernel
theorem d_M_isSquare_29 : decode prog_13_method_23_code 29 = .ok (.i2l, 1) := by decide +kernel
theorem d_M_isSquare_30 : decode prog_13_method_23_code 30 = .ok (.invokestatic 67, 3) := by decide +kernel
theorem d_M_isSquare_33 : decode prog_13_method_23_code 33 = .ok (.ifCond .eq 7, 3) := by decide +kernel
theorem d_M_isSquare_36 : decode prog_13_method_23_code 36 = .ok (.iconst 1, 1) := by decide +kernel
theorem d_M_isSquare_37 : decode prog_13_method_23_code 37 = .ok (.goto 4, 3) := by decide +kernel
theorem d_M_isSquare_40 : decode prog_13_method_23_code 40 = .ok (.iconst 0, 1) := by decide +kernel
theorem d_M_isSquare_41 : decode prog_13_method_23_code 41 = .ok (.ireturn, 1) := by decide +kernel
theorem w_M_isSquare {p : Program} {l : Launch} {e : Env} {s : State} {m : MethodId} {args : Array Value} {below : List Frame} {meth : Method} {c : Code} {K : KT} {A : Nat → Prop} (C0 : Cx p s m args meth c prog_13_method_23_code "CanoeSidesModel" 3 K A) (hr : meth.sig.returnType = (Option.some Jvm.ClassFile.FieldType.boolean)) {ad : Nat → Nat} (a0 : Int32) (b0 : Int32) (h : Hp) {res : Int32} (hE : K_M_isSquare a0 b0 h = some res) : G p l e rm_M_isSquare s m args below meth c K A WM 3 0 0 (QI s args below K A WM 0 0 ad res h) 0 [(0, .ref (ad 100)), (1, .int a0), (2, .int b0)] [] ad h := by
  unfold K_M_isSquare at hE
  refine g_iload_n C0 1 d_M_isSquare_0 rfl rfl ?_
  refine g_i2l C0 d_M_isSquare_1 ?_
  refine g_lconst C0 (v := 0) d_M_isSquare_2 (by decide) ?_
  refine g_aload_n C0 0 d_M_isSquare_3 rfl rfl ?_
  refine g_getr C0 CK_11 3 (by decide) t_1093 0 rfl rfl d_M_isSquare_4 ?_
  refine g_iconst C0 (v := 0) d_M_isSquare_7 (by decide) ?_
  obtain ⟨q8, v8, e8, hE⟩ := gA_some hE
  refine g_iald C0 4 rfl q8 d_M_isSquare_8 ?_
  refine g_top e8 ?_
  refine g_iconst C0 (v := 1) d_M_isSquare_9 (by decide) ?_
  refine g_isub C0 d_M_isSquare_10 ?_
  refine g_i2l C0 d_M_isSquare_11 ?_
  obtain ⟨v12, z12, hE⟩ := bd_some hE
  refine g_calliP C0 nd_M [] rfl (sb_E_M) (runS C0 (m_M_in l K ad h (Int32.toInt64 a0) 0 (Int32.toInt64 (v8 - 1)) z12) 3 ⟨t_1196, t_1197, t_97, t_1198⟩ cd_M_in (by decide) (sb_E_M) nd_E rfl rfl (Nat.le_of_ble_eq_true rfl) d_M_isSquare_12) ?_
  have hB := ite_some hE
  refine g_if_eq C0 (tgt := 40) d_M_isSquare_15 (by decide) (fun c_ => ?_) (fun c_ => ?_)
  · replace hE := hB.1 c_
    refine g_iconst C0 (v := 0) d_M_isSquare_40 (by decide) ?_
    obtain rfl := Option.some.inj hE
    exact g_zret C0 hr nz0 d_M_isSquare_41
  · replace hE := hB.2 c_
    refine g_iload_n C0 2 d_M_isSquare_18 rfl rfl ?_
    refine g_i2l C0 d_M_isSquare_19 ?_
    refine g_lconst C0 (v := 0) d_M_isSquare_20 (by decide) ?_
    refine g_aload_n C0 0 d_M_isSquare_21 rfl rfl ?_
    refine g_getr C0 CK_11 3 (by decide) t_1093 0 rfl rfl d_M_isSquare_22 ?_
    refine g_iconst C0 (v := 1) d_M_isSquare_25 (by decide) ?_
    obtain ⟨q26, v26, e26, hE⟩ := gA_some hE
    refine g_iald C0 4 rfl q26 d_M_isSquare_26 ?_
    refine g_top e26 ?_
    refine g_iconst C0 (v := 1) d_M_isSquare_27 (by decide) ?_
    refine g_isub C0 d_M_isSquare_28 ?_
    refine g_i2l C0 d_M_isSquare_29 ?_
    obtain ⟨v30, z30, hE⟩ := bd_some hE
    refine g_calliP C0 nd_M [] rfl (sb_E_M) (runS C0 (m_M_in l K ad h (Int32.toInt64 b0) 0 (Int32.toInt64 (v26 - 1)) z30) 3 ⟨t_1196, t_1197, t_97, t_1198⟩ cd_M_in (by decide) (sb_E_M) nd_E rfl rfl (Nat.le_of_ble_eq_true rfl) d_M_isSquare_30) ?_
    have hB := ite_some hE
    refine g_if_eq C0 (tgt := 40) d_M_isSquare_33 (by decide) (fun c_ => ?_) (fun c_ => ?_)
    · replace hE := hB.1 c_
      refine g_iconst C0 (v := 0) d_M_isSquare_40 (by decide) ?_
      obtain rfl := Option.some.inj hE
      exact g_zret C0 hr nz0 d_M_isSquare_41
    · replace hE := hB.2 c_
      refine g_iconst C0 (v := 1) d_M_isSquare_36 (by decide) ?_
      refine g_goto C0 (tgt := 41) d_M_isSquare_37 (by decide) ?_
      obtain rfl := Option.some.inj hE
      exact g_zret C0 hr nz1 d_M_isSquare_41
theorem m_M_isSquare (l : Launch) (K : KT) (ad : Nat → Nat) (h : Hp) (a0 : Int32) (b0 : Int32) {res : Int32} (hE : K_M_isSquare a0 b0 h = some res) : ConI l y_M_isSquare prog_13_method_23_code 3 (Option.some Jvm.ClassFile.FieldType.boolean) rm_M_isSquare K WM ad h [.ref (ad 100), .int a0, .int b0] res h := fun sz =>
  con_start [(0, .ref (ad 100)), (1, .int a0), (2, .int b0)] (by decide +kernel) rfl (Nat.le_of_ble_eq_true rfl) (fun p e s m args below meth c C0 hr hnm hsz => w_M_isSquare C0 hr a0 b0 h hE)
abbrev y_M_isGoal : MethodName := ⟨"CanoeSidesModel", "isGoal", "(II)Z"⟩
abbrev rm_M_isGoal : Room := { frames := 0, cells := 0, slots := 0, locals := 0 }
theorem cd_M_isGoal : cwd y_M_isGoal 2 := by decide +kernel
theorem d_M_isGoal_0 : decode prog_13_method_24_code 0 = .ok (.aload_n 0, 1) := by decide +kernel
theorem d_M_isGoal_1 : decode prog_13_method_24_code 1 = .ok (.getfield 20, 3) := by decide +kernel
theorem d_M_isGoal_4 : decode prog_13_method_24_code 4 = .ok (.bipush 8, 2) := by decide +kernel
theorem d_M_isGoal_6 : decode prog_13_method_24_code 6 = .ok (.iaload, 1) := by decide +kernel
theorem d_M_isGoal_7 : decode prog_13_method_24_code 7 = .ok (.ifCond .lt 41, 3) := by decide +kernel
theorem d_M_isGoal_10 : decode prog_13_method_24_code 10 = .ok (.iload_n 1, 1) := by decide +kernel
theorem d_M_isGoal_11 : decode prog_13_method_24_code 11 = .ok (.aload_n 0, 1) := by decide +kernel
theorem d_M_isGoal_12 : decode prog_13_method_24_code 12 = .ok (.getfield 20, 3) := by decide +kernel
theorem d_M_isGoal_15 : decode prog_13_method_24_code 15 = .ok (.bipush 8, 2) := by decide +kernel
theorem d_M_isGoal_17 : decode prog_13_method_24_code 17 = .ok (.iaload, 1) := by decide +kernel
theorem d_M_isGoal_18 : decode prog_13_method_24_code 18 = .ok (.if_icmp .ne 30, 3) := by decide +kernel
theorem d_M_isGoal_21 : decode prog_13_method_24_code 21 = .ok (.aload_n 0, 1) := by decide +kernel
theorem d_M_isGoal_22 : decode prog_13_method_24_code 22 = .ok (.getfield 20, 3) := by decide +kernel
theorem d_M_isGoal_25 : decode prog_13_method_24_code 25 = .ok (.bipush 9, 2) := by decide +kernel
theorem d_M_isGoal_27 : decode prog_13_method_24_code 27 = .ok (.iaload, 1) := by decide +kernel
theorem d_M_isGoal_28 : decode prog_13_method_24_code 28 = .ok (.bipush 8, 2) := by decide +kernel
theorem d_M_isGoal_30 : decode prog_13_method_24_code 30 = .ok (.if_icmp .eq 14, 3) := by decide +kernel
theorem d_M_isGoal_33 : decode prog_13_method_24_code 33 = .ok (.aload_n 0, 1) := by decide +kernel
theorem d_M_isGoal_34 : decode prog_13_method_24_code 34 = .ok (.getfield 20, 3) := by decide +kernel
theorem d_M_isGoal_37 : decode prog_13_method_24_code 37 = .ok (.bipush 9, 2) := by decide +kernel
theorem d_M_isGoal_39 : decode prog_13_method_24_code 39 = .ok (.iaload, 1) := by decide +kernel
theorem d_M_isGoal_40 : decode prog_13_method_24_code 40 = .ok (.iload_n 2, 1) := by decide +kernel
theorem d_M_isGoal_41 : decode prog_13_method_24_code 41 = .ok (.if_icmp .ne 7, 3) := by decide +kernel
theorem d_M_isGoal_44 : decode prog_13_method_24_code 44 = .ok (.iconst 1, 1) := by decide +kernel
theorem d_M_isGoal_45 : decode prog_13_method_24_code 45 = .ok (.goto 4, 3) := by decide +kernel
theorem d_M_isGoal_48 : decode prog_13_method_24_code 48 = .ok (.iconst 0, 1) := by decide +kernel
theorem d_M_isGoal_49 : decode prog_13_method_24_code 49 = .ok (.ireturn, 1) := by decide +kernel
theorem w_M_isGoal_J44 {p : Program} {l : Launch} {e : Env} {s : State} {m : MethodId} {args : Array Value} {below : List Frame} {meth : Method} {c : Code} {K : KT} {A : Nat → Prop} (C0 : Cx p s m args meth c prog_13_method_24_code "CanoeSidesModel" 3 K A) (hr : meth.sig.returnType = (Option.some Jvm.ClassFile.FieldType.boolean)) {ad : Nat → Nat} (h : Hp) {res : Int32} (hE : K_M_isGoal_J44 h = some res) : G p l e rm_M_isGoal s m args below meth c K A WM 3 0 0 (QI s args below K A WM 0 0 ad res h) 44 [] [] ad h := by
  unfold K_M_isGoal_J44 at hE
  refine g_iconst C0 (v := 1) d_M_isGoal_44 (by decide) ?_
  refine g_goto C0 (tgt := 49) d_M_isGoal_45 (by decide) ?_
  obtain rfl := Option.some.inj hE
  exact g_zret C0 hr nz1 d_M_isGoal_49
theorem w_M_isGoal {p : Program} {l : Launch} {e : Env} {s : State} {m : MethodId} {args : Array Value} {below : List Frame} {meth : Method} {c : Code} {K : KT} {A : Nat → Prop} (C0 : Cx p s m args meth c prog_13_method_24_code "CanoeSidesModel" 3 K A) (hr : meth.sig.returnType = (Option.some Jvm.ClassFile.FieldType.boolean)) {ad : Nat → Nat} (a0 : Int32) (b0 : Int32) (h : Hp) {res : Int32} (hE : K_M_isGoal a0 b0 h = some res) : G p l e rm_M_isGoal s m args below meth c K A WM 3 0 0 (QI s args below K A WM 0 0 ad res h) 0 [(0, .ref (ad 100)), (1, .int a0), (2, .int b0)] [] ad h := by
  unfold K_M_isGoal at hE
  refine g_aload_n C0 0 d_M_isGoal_0 rfl rfl ?_
  refine g_getr C0 CK_11 3 (by decide) t_1093 0 rfl rfl d_M_isGoal_1 ?_
  refine g_bipush C0 (v := 8) d_M_isGoal_4 (by decide) ?_
  obtain ⟨q6, v6, e6, hE⟩ := gA_some hE
  refine g_iald C0 4 rfl q6 d_M_isGoal_6 ?_
  refine g_top e6 ?_
  have hB := ite_some hE
  refine g_if_lt C0 (tgt := 48) d_M_isGoal_7 (by decide) (fun c_ => ?_) (fun c_ => ?_)
  · replace hE := hB.1 c_
    refine g_iconst C0 (v := 0) d_M_isGoal_48 (by decide) ?_
    obtain rfl := Option.some.inj hE
    exact g_zret C0 hr nz0 d_M_isGoal_49
  · replace hE := hB.2 c_
    refine g_iload_n C0 1 d_M_isGoal_10 rfl rfl ?_
    refine g_aload_n C0 0 d_M_isGoal_11 rfl rfl ?_
    refine g_getr C0 CK_11 3 (by decide) t_1093 0 rfl rfl d_M_isGoal_12 ?_
    refine g_bipush C0 (v := 8) d_M_isGoal_15 (by decide) ?_
    obtain ⟨q17, v17, e17, hE⟩ := gA_some hE
    refine g_iald C0 4 rfl q17 d_M_isGoal_17 ?_
    refine g_top e17 ?_
    have hB := ite_some hE
    refine g_icmp_ne C0 (tgt := 48) d_M_isGoal_18 (by decide) (fun c_ => ?_) (fun c_ => ?_)
    · replace hE := hB.2 c_
      refine g_iconst C0 (v := 0) d_M_isGoal_48 (by decide) ?_
      obtain rfl := Option.some.inj hE
      exact g_zret C0 hr nz0 d_M_isGoal_49
    · replace hE := hB.1 c_
      refine g_aload_n C0 0 d_M_isGoal_21 rfl rfl ?_
      refine g_getr C0 CK_11 3 (by decide) t_1093 0 rfl rfl d_M_isGoal_22 ?_
      refine g_bipush C0 (v := 9) d_M_isGoal_25 (by decide) ?_
      obtain ⟨q27, v27, e27, hE⟩ := gA_some hE
      refine g_iald C0 4 rfl q27 d_M_isGoal_27 ?_
      refine g_top e27 ?_
      refine g_bipush C0 (v := 8) d_M_isGoal_28 (by decide) ?_
      have hB := ite_some hE
      refine g_icmp_eq C0 (tgt := 44) d_M_isGoal_30 (by decide) (fun c_ => ?_) (fun c_ => ?_)
      · replace hE := hB.1 c_
        refine g_sub [] (L' := []) rfl ?_
        exact w_M_isGoal_J44 C0 hr h hE
      · replace hE := hB.2 c_
        refine g_aload_n C0 0 d_M_isGoal_33 rfl rfl ?_
        refine g_getr C0 CK_11 3 (by decide) t_1093 0 rfl rfl d_M_isGoal_34 ?_
        refine g_bipush C0 (v := 9) d_M_isGoal_37 (by decide) ?_
        obtain ⟨q39, v39, e39, hE⟩ := gA_some hE
        refine g_iald C0 4 rfl q39 d_M_isGoal_39 ?_
        refine g_top e39 ?_
        refine g_iload_n C0 2 d_M_isGoal_40 rfl rfl ?_
        have hB := ite_some hE
        refine g_icmp_ne C0 (tgt := 48) d_M_isGoal_41 (by decide) (fun c_ => ?_) (fun c_ => ?_)
        · replace hE := hB.2 c_
          refine g_iconst C0 (v := 0) d_M_isGoal_48 (by decide) ?_
          obtain rfl := Option.some.inj hE
          exact g_zret C0 hr nz0 d_M_isGoal_49
        · replace hE := hB.1 c_
          refine g_sub [] (L' := []) rfl ?_
          exact w_M_isGoal_J44 C0 hr h hE
theorem m_M_isGoal (l : Launch) (K : KT) (ad : Nat → Nat) (h : Hp) (a0 : Int32) (b0 : Int32) {res : Int32} (hE : K_M_isGoal a0 b0 h = some res) : ConI l y_M_isGoal prog_13_method_24_code 3 (Option.some Jvm.ClassFile.FieldType.boolean) rm_M_isGoal K WM ad h [.ref (ad 100), .int a0, .int b0] res h := fun sz =>
  con_start [(0, .ref (ad 100)), (1, .int a0), (2, .int b0)] (by decide +kernel) rfl (Nat.le_of_ble_eq_true rfl) (fun p e s m args below meth c C0 hr hnm hsz => w_M_isGoal C0 hr a0 b0 h hE)
abbrev y_M_told : MethodName := ⟨"CanoeSidesModel", "told", "(I)I"⟩
abbrev rm_M_told : Room := { frames := 3, cells := 0, slots := 0, locals := 62 }
theorem cd_M_told : cwd y_M_told 1 := by decide +kernel
theorem d_M_told_0 : decode prog_13_method_25_code 0 = .ok (.iload_n 1, 1) := by decide +kernel
theorem d_M_told_1 : decode prog_13_method_25_code 1 = .ok (.tableswitch 244 0 17 #[87, 94, 101, 108, 115, 122, 129, 134, 145, 152, 159, 185, 193, 201, 209, 229, 234, 239], 87) := by decide +kernel
theorem d_M_told_88 : decode prog_13_method_25_code 88 = .ok (.aload_n 0, 1) := by decide +kernel
theorem d_M_told_89 : decode prog_13_method_25_code 89 = .ok (.getfield 20, 3) := by decide +kernel
theorem d_M_told_92 : decode prog_13_method_25_code 92 = .ok (.iconst 0, 1) := by decide +kernel
theorem d_M_told_93 : decode prog_13_method_25_code 93 = .ok (.iaload, 1) := by decide +kernel
theorem d_M_told_94 : decode prog_13_method_25_code 94 = .ok (.ireturn, 1) := by decide +kernel
theorem d_M_told_95 : decode prog_13_method_25_code 95 = .ok (.aload_n 0, 1) := by decide +kernel
theorem d_M_told_96 : decode prog_13_method_25_code 96 = .ok (.getfield 20, 3) := by decide +kernel
theorem d_M_told_99 : decode prog_13_method_25_code 99 = .ok (.iconst 1, 1) := by decide +kernel
theorem d_M_told_100 : decode prog_13_method_25_code 100 = .ok (.iaload, 1) := by decide +kernel
theorem d_M_told_101 : decode prog_13_method_25_code 101 = .ok (.ireturn, 1) := by decide +kernel
theorem d_M_told_102 : decode prog_13_method_25_code 102 = .ok (.aload_n 0, 1) := by decide +kernel
theorem d_M_told_103 : decode prog_13_method_25_code 103 = .ok (.getfield 20, 3) := by decide +kernel
theorem d_M_told_106 : decode prog_13_method_25_code 106 = .ok (.iconst 2, 1) := by decide +kernel
theorem d_M_told_107 : decode prog_13_method_25_code 107 = .ok (.iaload, 1) := by decide +kernel
theorem d_M_told_108 : decode prog_13_method_25_code 108 = .ok (.ireturn, 1) := by decide +kernel
theorem d_M_told_109 : decode prog_13_method_25_code 109 = .ok (.aload_n 0, 1) := by decide +kernel
theorem d_M_told_110 : decode prog_13_method_25_code 110 = .ok (.getfield 20, 3) := by decide +kernel
theorem d_M_told_113 : decode prog_13_method_25_code 113 = .ok (.iconst 3, 1) := by decide +kernel
theorem d_M_told_114 : decode prog_13_method_25_code 114 = .ok (.iaload, 1) := by decide +kernel
theorem d_M_told_115 : decode prog_13_method_25_code 115 = .ok (.ireturn, 1) := by decide +kernel
theorem d_M_told_116 : decode prog_13_method_25_code 116 = .ok (.aload_n 0, 1) := by decide +kernel
theorem d_M_told_117 : decode prog_13_method_25_code 117 = .ok (.getfield 20, 3) := by decide +kernel
theorem d_M_told_120 : decode prog_13_method_25_code 120 = .ok (.iconst 4, 1) := by decide +kernel
theorem d_M_told_121 : decode prog_13_method_25_code 121 = .ok (.iaload, 1) := by decide +kernel
theorem d_M_told_122 : decode prog_13_method_25_code 122 = .ok (.ireturn, 1) := by decide +kernel
theorem d_M_told_123 : decode prog_13_method_25_code 123 = .ok (.aload_n 0, 1) := by decide +kernel
theorem d_M_told_124 : decode prog_13_method_25_code 124 = .ok (.getfield 20, 3) := by decide +kernel
theorem d_M_told_127 : decode prog_13_method_25_code 127 = .ok (.iconst 5, 1) := by decide +kernel
theorem d_M_told_128 : decode prog_13_method_25_code 128 = .ok (.iaload, 1) := by decide +kernel
theorem d_M_told_129 : decode prog_13_method_25_code 129 = .ok (.ireturn, 1) := by decide +kernel
theorem d_M_told_130 : decode prog_13_method_25_code 130 = .ok (.aload_n 0, 1) := by decide +kernel
theorem d_M_told_131 : decode prog_13_method_25_code 131 = .ok (.getfield 72, 3) := by decide +kernel
theorem d_M_told_134 : decode prog_13_method_25_code 134 = .ok (.ireturn, 1) := by decide +kernel
theorem d_M_told_135 : decode prog_13_method_25_code 135 = .ok (.aload_n 0, 1) := by decide +kernel
theorem d_M_told_136 : decode prog_13_method_25_code 136 = .ok (.aload_n 0, 1) := by decide +kernel
theorem d_M_told_137 : decode prog_13_method_25_code 137 = .ok (.getfield 7, 3) := by decide +kernel
theorem d_M_told_140 : decode prog_13_method_25_code 140 = .ok (.iconst 0, 1) := by decide +kernel
theorem d_M_told_141 : decode prog_13_method_25_code 141 = .ok (.iaload, 1) := by decide +kernel
theorem d_M_told_142 : decode prog_13_method_25_code 142 = .ok (.invokevirtual 147, 3) := by decide +kernel
theorem d_M_told_145 : decode prog_13_method_25_code 145 = .ok (.ireturn, 1) := by decide +kernel
theorem d_M_told_146 : decode prog_13_method_25_code 146 = .ok (.aload_n 0, 1) := by decide +kernel
theorem d_M_told_147 : decode prog_13_method_25_code 147 = .ok (.getfield 7, 3) := by decide +kernel
theorem d_M_told_150 : decode prog_13_method_25_code 150 = .ok (.iconst 1, 1) := by decide +kernel
theorem d_M_told_151 : decode prog_13_method_25_code 151 = .ok (.iaload, 1) := by decide +kernel
theorem d_M_told_152 : decode prog_13_method_25_code 152 = .ok (.ireturn, 1) := by decide +kernel
theorem d_M_told_153 : decode prog_13_method_25_code 153 = .ok (.aload_n 0, 1) := by decide +kernel
theorem d_M_told_154 : decode prog_13_method_25_code 154 = .ok (.getfield 7, 3) := by decide +kernel
theorem d_M_told_157 : decode prog_13_method_25_code 157 = .ok (.iconst 2, 1) := by decide +kernel
theorem d_M_told_158 : decode prog_13_method_25_code 158 = .ok (.iaload, 1) := by decide +kernel
theorem d_M_told_159 : decode prog_13_method_25_code 159 = .ok (.ireturn, 1) := by decide +kernel
theorem d_M_told_160 : decode prog_13_method_25_code 160 = .ok (.aload_n 0, 1) := by decide +kernel
theorem d_M_told_161 : decode prog_13_method_25_code 161 = .ok (.getfield 20, 3) := by decide +kernel
theorem d_M_told_164 : decode prog_13_method_25_code 164 = .ok (.bipush 8, 2) := by decide +kernel
theorem d_M_told_166 : decode prog_13_method_25_code 166 = .ok (.iaload, 1) := by decide +kernel
theorem d_M_told_167 : decode prog_13_method_25_code 167 = .ok (.ifCond .ge 7, 3) := by decide +kernel
theorem d_M_told_170 : decode prog_13_method_25_code 170 = .ok (.iconst (-1), 1) := by decide +kernel
theorem d_M_told_171 : decode prog_13_method_25_code 171 = .ok (.goto 14, 3) := by decide +kernel
theorem d_M_told_174 : decode prog_13_method_25_code 174 = .ok (.aload_n 0, 1) := by decide +kernel
theorem d_M_told_175 : decode prog_13_method_25_code 175 = .ok (.aload_n 0, 1) := by decide +kernel
theorem d_M_told_176 : decode prog_13_method_25_code 176 = .ok (.getfield 20, 3) := by decide +kernel
theorem d_M_told_179 : decode prog_13_method_25_code 179 = .ok (.bipush 8, 2) := by decide +kernel
theorem d_M_told_181 : decode prog_13_method_25_code 181 = .ok (.iaload, 1) := by decide +kernel
theorem d_M_told_182 : decode prog_13_method_25_code 182 = .ok (.invokevirtual 147, 3) := by decide +kernel
theorem d_M_told_185 : decode prog_13_method_25_code 185 = .ok (.ireturn, 1) := by decide +kernel
theorem d_M_told_186 : decode prog_13_method_25_code 186 = .ok (.aload_n 0, 1) := by decide +kernel
theorem d_M_told_187 : decode prog_13_method_25_code 187 = .ok (.getfield 20, 3) := by decide +kernel
theorem d_M_told_190 : decode prog_13_method_25_code 190 = .ok (.bipush 9, 2) := by decide +kernel
theorem d_M_told_192 : decode prog_13_method_25_code 192 = .ok (.iaload, 1) := by decide +kernel
theorem d_M_told_193 : decode prog_13_method_25_code 193 = .ok (.ireturn, 1) := by decide +kernel
theorem d_M_told_194 : decode prog_13_method_25_code 194 = .ok (.aload_n 0, 1) := by decide +kernel
theorem d_M_told_195 : decode prog_13_method_25_code 195 = .ok (.getfield 20, 3) := by decide +kernel
theorem d_M_told_198 : decode prog_13_method_25_code 198 = .ok (.bipush 10, 2) := by decide +kernel
theorem d_M_told_200 : decode prog_13_method_25_code 200 = .ok (.iaload, 1) := by decide +kernel
theorem d_M_told_201 : decode prog_13_method_25_code 201 = .ok (.ireturn, 1) := by decide +kernel
theorem d_M_told_202 : decode prog_13_method_25_code 202 = .ok (.aload_n 0, 1) := by decide +kernel
theorem d_M_told_203 : decode prog_13_method_25_code 203 = .ok (.getfield 20, 3) := by decide +kernel
theorem d_M_told_206 : decode prog_13_method_25_code 206 = .ok (.bipush 11, 2) := by decide +kernel
theorem d_M_told_208 : decode prog_13_method_25_code 208 = .ok (.iaload, 1) := by decide +kernel
theorem d_M_told_209 : decode prog_13_method_25_code 209 = .ok (.ireturn, 1) := by decide +kernel
theorem d_M_told_210 : decode prog_13_method_25_code 210 = .ok (.aload_n 0, 1) := by decide +kernel
theorem d_M_told_211 : decode prog_13_method_25_code 211 = .ok (.aload_n 0, 1) := by decide +kernel
theorem d_M_told_212 : decode prog_13_method_25_code 212 = .ok (.getfield 7, 3) := by decide +kernel
theorem d_M_told_215 : decode prog_13_method_25_code 215 = .ok (.iconst 0, 1) := by decide +kernel
theorem d_M_told_216 : decode prog_13_method_25_code 216 = .ok (.iaload, 1) := by decide +kernel
theorem d_M_told_217 : decode prog_13_method_25_code 217 = .ok (.aload_n 0, 1) := by decide +kernel
theorem d_M_told_218 : decode prog_13_method_25_code 218 = .ok (.getfield 7, 3) := by decide +kernel
theorem d_M_told_221 : decode prog_13_method_25_code 221 = .ok (.iconst 1, 1) := by decide +kernel
theorem d_M_told_222 : decode prog_13_method_25_code 222 = .ok (.iaload, 1) := by decide +kernel
theorem d_M_told_223 : decode prog_13_method_25_code 223 = .ok (.invokevirtual 150, 3) := by decide +kernel
theorem d_M_told_226 : decode prog_13_method_25_code 226 = .ok (.invokestatic 153, 3) := by decide +kernel
theorem d_M_told_229 : decode prog_13_method_25_code 229 = .ok (.ireturn, 1) := by decide +kernel
theorem d_M_told_230 : decode prog_13_method_25_code 230 = .ok (.aload_n 0, 1) := by decide +kernel
theorem d_M_told_231 : decode prog_13_method_25_code 231 = .ok (.getfield 134, 3) := by decide +kernel
theorem d_M_told_234 : decode prog_13_method_25_code 234 = .ok (.ireturn, 1) := by decide +kernel
theorem d_M_told_235 : decode prog_13_method_25_code 235 = .ok (.aload_n 0, 1) := by decide +kernel
theorem d_M_told_236 : decode prog_13_method_25_code 236 = .ok (.getfield 137, 3) := by decide +kernel
theorem d_M_told_239 : decode prog_13_method_25_code 239 = .ok (.ireturn, 1) := by decide +kernel
theorem d_M_told_240 : decode prog_13_method_25_code 240 = .ok (.aload_n 0, 1) := by decide +kernel
theorem d_M_told_241 : decode prog_13_method_25_code 241 = .ok (.getfield 140, 3) := by decide +kernel
theorem d_M_told_244 : decode prog_13_method_25_code 244 = .ok (.ireturn, 1) := by decide +kernel
theorem d_M_told_245 : decode prog_13_method_25_code 245 = .ok (.ldc 71, 2) := by decide +kernel
theorem d_M_told_247 : decode prog_13_method_25_code 247 = .ok (.ireturn, 1) := by decide +kernel
theorem w_M_told {p : Program} {l : Launch} {e : Env} {s : State} {m : MethodId} {args : Array Value} {below : List Frame} {meth : Method} {c : Code} {K : KT} {A : Nat → Prop} (C0 : Cx p s m args meth c prog_13_method_25_code "CanoeSidesModel" 2 K A) (hr : meth.sig.returnType = (Option.some Jvm.ClassFile.FieldType.int)) {ad : Nat → Nat} (a0 : Int32) (h : Hp) {res : Int32} (hE : K_M_told a0 h = some res) : G p l e rm_M_told s m args below meth c K A WM 2 0 0 (QI s args below K A WM 0 0 ad res h) 0 [(0, .ref (ad 100)), (1, .int a0)] [] ad h := by
  unfold K_M_told at hE
  refine g_iload_n C0 1 d_M_told_0 rfl rfl ?_
  have hB := ite_some hE
  by_cases c_0 : a0 = 0
  · replace hE := hB.1 c_0
    refine g_tableIn C0 (tgt := 88) (off := 87) d_M_told_1 (by rw [c_0]; decide) (by rw [c_0]; decide) (by rw [c_0]; rfl) (by decide) ?_
    refine g_aload_n C0 0 d_M_told_88 rfl rfl ?_
    refine g_getr C0 CK_11 3 (by decide) t_1093 0 rfl rfl d_M_told_89 ?_
    refine g_iconst C0 (v := 0) d_M_told_92 (by decide) ?_
    obtain ⟨q93, v93, e93, hE⟩ := gA_some hE
    refine g_iald C0 4 rfl q93 d_M_told_93 ?_
    refine g_top e93 ?_
    obtain rfl := Option.some.inj hE
    exact g_iret C0 hr d_M_told_94
  · replace hE := hB.2 c_0
    have hB := ite_some hE
    by_cases c_1 : a0 = 1
    · replace hE := hB.1 c_1
      refine g_tableIn C0 (tgt := 95) (off := 94) d_M_told_1 (by rw [c_1]; decide) (by rw [c_1]; decide) (by rw [c_1]; rfl) (by decide) ?_
      refine g_aload_n C0 0 d_M_told_95 rfl rfl ?_
      refine g_getr C0 CK_11 3 (by decide) t_1093 0 rfl rfl d_M_told_96 ?_
      refine g_iconst C0 (v := 1) d_M_told_99 (by decide) ?_
      obtain ⟨q100, v100, e100, hE⟩ := gA_some hE
      refine g_iald C0 4 rfl q100 d_M_told_100 ?_
      refine g_top e100 ?_
      obtain rfl := Option.some.inj hE
      exact g_iret C0 hr d_M_told_101
    · replace hE := hB.2 c_1
      have hB := ite_some hE
      by_cases c_2 : a0 = 2
      · replace hE := hB.1 c_2
        refine g_tableIn C0 (tgt := 102) (off := 101) d_M_told_1 (by rw [c_2]; decide) (by rw [c_2]; decide) (by rw [c_2]; rfl) (by decide) ?_
        refine g_aload_n C0 0 d_M_told_102 rfl rfl ?_
        refine g_getr C0 CK_11 3 (by decide) t_1093 0 rfl rfl d_M_told_103 ?_
        refine g_iconst C0 (v := 2) d_M_told_106 (by decide) ?_
        obtain ⟨q107, v107, e107, hE⟩ := gA_some hE
        refine g_iald C0 4 rfl q107 d_M_told_107 ?_
        refine g_top e107 ?_
        obtain rfl := Option.some.inj hE
        exact g_iret C0 hr d_M_told_108
      · replace hE := hB.2 c_2
        have hB := ite_some hE
        by_cases c_3 : a0 = 3
        · replace hE := hB.1 c_3
          refine g_tableIn C0 (tgt := 109) (off := 108) d_M_told_1 (by rw [c_3]; decide) (by rw [c_3]; decide) (by rw [c_3]; rfl) (by decide) ?_
          refine g_aload_n C0 0 d_M_told_109 rfl rfl ?_
          refine g_getr C0 CK_11 3 (by decide) t_1093 0 rfl rfl d_M_told_110 ?_
          refine g_iconst C0 (v := 3) d_M_told_113 (by decide) ?_
          obtain ⟨q114, v114, e114, hE⟩ := gA_some hE
          refine g_iald C0 4 rfl q114 d_M_told_114 ?_
          refine g_top e114 ?_
          obtain rfl := Option.some.inj hE
          exact g_iret C0 hr d_M_told_115
        · replace hE := hB.2 c_3
          have hB := ite_some hE
          by_cases c_4 : a0 = 4
          · replace hE := hB.1 c_4
            refine g_tableIn C0 (tgt := 116) (off := 115) d_M_told_1 (by rw [c_4]; decide) (by rw [c_4]; decide) (by rw [c_4]; rfl) (by decide) ?_
            refine g_aload_n C0 0 d_M_told_116 rfl rfl ?_
            refine g_getr C0 CK_11 3 (by decide) t_1093 0 rfl rfl d_M_told_117 ?_
            refine g_iconst C0 (v := 4) d_M_told_120 (by decide) ?_
            obtain ⟨q121, v121, e121, hE⟩ := gA_some hE
            refine g_iald C0 4 rfl q121 d_M_told_121 ?_
            refine g_top e121 ?_
            obtain rfl := Option.some.inj hE
            exact g_iret C0 hr d_M_told_122
          · replace hE := hB.2 c_4
            have hB := ite_some hE
            by_cases c_5 : a0 = 5
            · replace hE := hB.1 c_5
              refine g_tableIn C0 (tgt := 123) (off := 122) d_M_told_1 (by rw [c_5]; decide) (by rw [c_5]; decide) (by rw [c_5]; rfl) (by decide) ?_
              refine g_aload_n C0 0 d_M_told_123 rfl rfl ?_
              refine g_getr C0 CK_11 3 (by decide) t_1093 0 rfl rfl d_M_told_124 ?_
              refine g_iconst C0 (v := 5) d_M_told_127 (by decide) ?_
              obtain ⟨q128, v128, e128, hE⟩ := gA_some hE
              refine g_iald C0 4 rfl q128 d_M_told_128 ?_
              refine g_top e128 ?_
              obtain rfl := Option.some.inj hE
              exact g_iret C0 hr d_M_told_129
            · replace hE := hB.2 c_5
              have hB := ite_some hE
              by_cases c_6 : a0 = 6
              · replace hE := hB.1 c_6
                refine g_tableIn C0 (tgt := 130) (off := 129) d_M_told_1 (by rw [c_6]; decide) (by rw [c_6]; decide) (by rw [c_6]; rfl) (by decide) ?_
                refine g_aload_n C0 0 d_M_told_130 rfl rfl ?_
                refine g_geti C0 CK_11 7 (by decide) t_1097 0 rfl rfl d_M_told_131 ?_
                obtain rfl := Option.some.inj hE
                exact g_iret C0 hr d_M_told_134
              · replace hE := hB.2 c_6
                have hB := ite_some hE
                by_cases c_7 : a0 = 7
                · replace hE := hB.1 c_7
                  refine g_tableIn C0 (tgt := 135) (off := 134) d_M_told_1 (by rw [c_7]; decide) (by rw [c_7]; decide) (by rw [c_7]; rfl) (by decide) ?_
                  refine g_aload_n C0 0 d_M_told_135 rfl rfl ?_
                  refine g_aload_n C0 0 d_M_told_136 rfl rfl ?_
                  refine g_getr C0 CK_11 0 (by decide) t_1090 0 rfl rfl d_M_told_137 ?_
                  refine g_iconst C0 (v := 0) d_M_told_140 (by decide) ?_
                  obtain ⟨q141, v141, e141, hE⟩ := gA_some hE
                  refine g_iald C0 1 rfl q141 d_M_told_141 ?_
                  refine g_top e141 ?_
                  obtain ⟨v142, z142, hE⟩ := bd_some hE
                  refine g_calliP C0 nd_M [100, 101, 102, 103, 104, 105, 106, 107, 108, 109, 110, 111, 112, 113, 114, 115] rfl (sbW_self WM) (runV C0 (m_M_pair l K ad h v141 z142) 1 rfl ⟨t_1260, t_1262, t_50, t_97, t_1263⟩ cd_M_pair (by decide) 0 rfl rfl (sbW_self WM) nd_M rfl rfl (Nat.le_of_ble_eq_true rfl) d_M_told_142) ?_
                  obtain rfl := Option.some.inj hE
                  exact g_iret C0 hr d_M_told_145
                · replace hE := hB.2 c_7
                  have hB := ite_some hE
                  by_cases c_8 : a0 = 8
                  · replace hE := hB.1 c_8
                    refine g_tableIn C0 (tgt := 146) (off := 145) d_M_told_1 (by rw [c_8]; decide) (by rw [c_8]; decide) (by rw [c_8]; rfl) (by decide) ?_
                    refine g_aload_n C0 0 d_M_told_146 rfl rfl ?_
                    refine g_getr C0 CK_11 0 (by decide) t_1090 0 rfl rfl d_M_told_147 ?_
                    refine g_iconst C0 (v := 1) d_M_told_150 (by decide) ?_
                    obtain ⟨q151, v151, e151, hE⟩ := gA_some hE
                    refine g_iald C0 1 rfl q151 d_M_told_151 ?_
                    refine g_top e151 ?_
                    obtain rfl := Option.some.inj hE
                    exact g_iret C0 hr d_M_told_152
                  · replace hE := hB.2 c_8
                    have hB := ite_some hE
                    by_cases c_9 : a0 = 9
                    · replace hE := hB.1 c_9
                      refine g_tableIn C0 (tgt := 153) (off := 152) d_M_told_1 (by rw [c_9]; decide) (by rw [c_9]; decide) (by rw [c_9]; rfl) (by decide) ?_
                      refine g_aload_n C0 0 d_M_told_153 rfl rfl ?_
                      refine g_getr C0 CK_11 0 (by decide) t_1090 0 rfl rfl d_M_told_154 ?_
                      refine g_iconst C0 (v := 2) d_M_told_157 (by decide) ?_
                      obtain ⟨q158, v158, e158, hE⟩ := gA_some hE
                      refine g_iald C0 1 rfl q158 d_M_told_158 ?_
                      refine g_top e158 ?_
                      obtain rfl := Option.some.inj hE
                      exact g_iret C0 hr d_M_told_159
                    · replace hE := hB.2 c_9
                      have hB := ite_some hE
                      by_cases c_10 : a0 = 10
                      · replace hE := hB.1 c_10
                        refine g_tableIn C0 (tgt := 160) (off := 159) d_M_told_1 (by rw [c_10]; decide) (by rw [c_10]; decide) (by rw [c_10]; rfl) (by decide) ?_
                        refine g_aload_n C0 0 d_M_told_160 rfl rfl ?_
                        refine g_getr C0 CK_11 3 (by decide) t_1093 0 rfl rfl d_M_told_161 ?_
                        refine g_bipush C0 (v := 8) d_M_told_164 (by decide) ?_
                        obtain ⟨q166, v166, e166, hE⟩ := gA_some hE
                        refine g_iald C0 4 rfl q166 d_M_told_166 ?_
                        refine g_top e166 ?_
                        have hB := ite_some hE
                        refine g_if_ge C0 (tgt := 174) d_M_told_167 (by decide) (fun c_ => ?_) (fun c_ => ?_)
                        · replace hE := hB.1 c_
                          refine g_aload_n C0 0 d_M_told_174 rfl rfl ?_
                          refine g_aload_n C0 0 d_M_told_175 rfl rfl ?_
                          refine g_getr C0 CK_11 3 (by decide) t_1093 0 rfl rfl d_M_told_176 ?_
                          refine g_bipush C0 (v := 8) d_M_told_179 (by decide) ?_
                          obtain ⟨q181, v181, e181, hE⟩ := gA_some hE
                          refine g_iald C0 4 rfl q181 d_M_told_181 ?_
                          refine g_top e181 ?_
                          obtain ⟨v182, z182, hE⟩ := bd_some hE
                          refine g_calliP C0 nd_M [100, 101, 102, 103, 104, 105, 106, 107, 108, 109, 110, 111, 112, 113, 114, 115] rfl (sbW_self WM) (runV C0 (m_M_pair l K ad h v181 z182) 1 rfl ⟨t_1260, t_1262, t_50, t_97, t_1263⟩ cd_M_pair (by decide) 0 rfl rfl (sbW_self WM) nd_M rfl rfl (Nat.le_of_ble_eq_true rfl) d_M_told_182) ?_
                          obtain rfl := Option.some.inj hE
                          exact g_iret C0 hr d_M_told_185
                        · replace hE := hB.2 c_
                          refine g_iconst C0 (v := (-1)) d_M_told_170 (by decide) ?_
                          refine g_goto C0 (tgt := 185) d_M_told_171 (by decide) ?_
                          obtain rfl := Option.some.inj hE
                          exact g_iret C0 hr d_M_told_185
                      · replace hE := hB.2 c_10
                        have hB := ite_some hE
                        by_cases c_11 : a0 = 11
                        · replace hE := hB.1 c_11
                          refine g_tableIn C0 (tgt := 186) (off := 185) d_M_told_1 (by rw [c_11]; decide) (by rw [c_11]; decide) (by rw [c_11]; rfl) (by decide) ?_
                          refine g_aload_n C0 0 d_M_told_186 rfl rfl ?_
                          refine g_getr C0 CK_11 3 (by decide) t_1093 0 rfl rfl d_M_told_187 ?_
                          refine g_bipush C0 (v := 9) d_M_told_190 (by decide) ?_
                          obtain ⟨q192, v192, e192, hE⟩ := gA_some hE
                          refine g_iald C0 4 rfl q192 d_M_told_192 ?_
                          refine g_top e192 ?_
                          obtain rfl := Option.some.inj hE
                          exact g_iret C0 hr d_M_told_193
                        · replace hE := hB.2 c_11
                          have hB := ite_some hE
                          by_cases c_12 : a0 = 12
                          · replace hE := hB.1 c_12
                            refine g_tableIn C0 (tgt := 194) (off := 193) d_M_told_1 (by rw [c_12]; decide) (by rw [c_12]; decide) (by rw [c_12]; rfl) (by decide) ?_
                            refine g_aload_n C0 0 d_M_told_194 rfl rfl ?_
                            refine g_getr C0 CK_11 3 (by decide) t_1093 0 rfl rfl d_M_told_195 ?_
                            refine g_bipush C0 (v := 10) d_M_told_198 (by decide) ?_
                            obtain ⟨q200, v200, e200, hE⟩ := gA_some hE
                            refine g_iald C0 4 rfl q200 d_M_told_200 ?_
                            refine g_top e200 ?_
                            obtain rfl := Option.some.inj hE
                            exact g_iret C0 hr d_M_told_201
                          · replace hE := hB.2 c_12
                            have hB := ite_some hE
                            by_cases c_13 : a0 = 13
                            · replace hE := hB.1 c_13
                              refine g_tableIn C0 (tgt := 202) (off := 201) d_M_told_1 (by rw [c_13]; decide) (by rw [c_13]; decide) (by rw [c_13]; rfl) (by decide) ?_
                              refine g_aload_n C0 0 d_M_told_202 rfl rfl ?_
                              refine g_getr C0 CK_11 3 (by decide) t_1093 0 rfl rfl d_M_told_203 ?_
                              refine g_bipush C0 (v := 11) d_M_told_206 (by decide) ?_
                              obtain ⟨q208, v208, e208, hE⟩ := gA_some hE
                              refine g_iald C0 4 rfl q208 d_M_told_208 ?_
                              refine g_top e208 ?_
                              obtain rfl := Option.some.inj hE
                              exact g_iret C0 hr d_M_told_209
                            · replace hE := hB.2 c_13
                              have hB := ite_some hE
                              by_cases c_14 : a0 = 14
                              · replace hE := hB.1 c_14
                                refine g_tableIn C0 (tgt := 210) (off := 209) d_M_told_1 (by rw [c_14]; decide) (by rw [c_14]; decide) (by rw [c_14]; rfl) (by decide) ?_
                                refine g_aload_n C0 0 d_M_told_210 rfl rfl ?_
                                refine g_aload_n C0 0 d_M_told_211 rfl rfl ?_
                                refine g_getr C0 CK_11 0 (by decide) t_1090 0 rfl rfl d_M_told_212 ?_
                                refine g_iconst C0 (v := 0) d_M_told_215 (by decide) ?_
                                obtain ⟨q216, v216, e216, hE⟩ := gA_some hE
                                refine g_iald C0 1 rfl q216 d_M_told_216 ?_
                                refine g_top e216 ?_
                                refine g_aload_n C0 0 d_M_told_217 rfl rfl ?_
                                refine g_getr C0 CK_11 0 (by decide) t_1090 0 rfl rfl d_M_told_218 ?_
                                refine g_iconst C0 (v := 1) d_M_told_221 (by decide) ?_
                                obtain ⟨q222, v222, e222, hE⟩ := gA_some hE
                                refine g_iald C0 1 rfl q222 d_M_told_222 ?_
                                refine g_top e222 ?_
                                obtain ⟨v223, z223, hE⟩ := bd_some hE
                                refine g_calliP C0 nd_M [100, 101, 102, 103, 104, 105, 106, 107, 108, 109, 110, 111, 112, 113, 114, 115] rfl (sbW_self WM) (runV C0 (m_M_isGoal l K ad h v216 v222 z223) 2 rfl ⟨t_1268, t_1270, t_52, t_97, t_1271⟩ cd_M_isGoal (by decide) 0 rfl rfl (sbW_self WM) nd_M rfl rfl (Nat.le_of_ble_eq_true rfl) d_M_told_223) ?_
                                obtain ⟨v226, z226, hE⟩ := bd_some hE
                                refine g_calliP C0 nd_M [] rfl (sb_E_M) (runS C0 (m_M_one l K ad h v223 z226) 1 ⟨t_1272, t_1273, t_97, t_1274⟩ cd_M_one (by decide) (sb_E_M) nd_E rfl rfl (Nat.le_of_ble_eq_true rfl) d_M_told_226) ?_
                                obtain rfl := Option.some.inj hE
                                exact g_iret C0 hr d_M_told_229
                              · replace hE := hB.2 c_14
                                have hB := ite_some hE
                                by_cases c_15 : a0 = 15
                                · replace hE := hB.1 c_15
                                  refine g_tableIn C0 (tgt := 230) (off := 229) d_M_told_1 (by rw [c_15]; decide) (by rw [c_15]; decide) (by rw [c_15]; rfl) (by decide) ?_
                                  refine g_aload_n C0 0 d_M_told_230 rfl rfl ?_
                                  refine g_geti C0 CK_11 26 (by decide) t_1116 0 rfl rfl d_M_told_231 ?_
                                  obtain rfl := Option.some.inj hE
                                  exact g_iret C0 hr d_M_told_234
                                · replace hE := hB.2 c_15
                                  have hB := ite_some hE
                                  by_cases c_16 : a0 = 16
                                  · replace hE := hB.1 c_16
                                    refine g_tableIn C0 (tgt := 235) (off := 234) d_M_told_1 (by rw [c_16]; decide) (by rw [c_16]; decide) (by rw [c_16]; rfl) (by decide) ?_
                                    refine g_aload_n C0 0 d_M_told_235 rfl rfl ?_
                                    refine g_geti C0 CK_11 32 (by decide) t_1122 0 rfl rfl d_M_told_236 ?_
                                    obtain rfl := Option.some.inj hE
                                    exact g_iret C0 hr d_M_told_239
                                  · replace hE := hB.2 c_16
                                    have hB := ite_some hE
                                    by_cases c_17 : a0 = 17
                                    · replace hE := hB.1 c_17
                                      refine g_tableIn C0 (tgt := 240) (off := 239) d_M_told_1 (by rw [c_17]; decide) (by rw [c_17]; decide) (by rw [c_17]; rfl) (by decide) ?_
                                      refine g_aload_n C0 0 d_M_told_240 rfl rfl ?_
                                      refine g_geti C0 CK_11 16 (by decide) t_1106 0 rfl rfl d_M_told_241 ?_
                                      obtain rfl := Option.some.inj hE
                                      exact g_iret C0 hr d_M_told_244
                                    · replace hE := hB.2 c_17
                                      refine g_tableOut C0 (tgt := 245) d_M_told_1 (by have n_0 := i32_ne (j := 0) c_0 (by decide) (by decide); have n_1 := i32_ne (j := 1) c_1 (by decide) (by decide); have n_2 := i32_ne (j := 2) c_2 (by decide) (by decide); have n_3 := i32_ne (j := 3) c_3 (by decide) (by decide); have n_4 := i32_ne (j := 4) c_4 (by decide) (by decide); have n_5 := i32_ne (j := 5) c_5 (by decide) (by decide); have n_6 := i32_ne (j := 6) c_6 (by decide) (by decide); have n_7 := i32_ne (j := 7) c_7 (by decide) (by decide); have n_8 := i32_ne (j := 8) c_8 (by decide) (by decide); have n_9 := i32_ne (j := 9) c_9 (by decide) (by decide); have n_10 := i32_ne (j := 10) c_10 (by decide) (by decide); have n_11 := i32_ne (j := 11) c_11 (by decide) (by decide); have n_12 := i32_ne (j := 12) c_12 (by decide) (by decide); have n_13 := i32_ne (j := 13) c_13 (by decide) (by decide); have n_14 := i32_ne (j := 14) c_14 (by decide) (by decide); have n_15 := i32_ne (j := 15) c_15 (by decide) (by decide); have n_16 := i32_ne (j := 16) c_16 (by decide) (by decide); have n_17 := i32_ne (j := 17) c_17 (by decide) (by decide); omega) (by decide) ?_
                                      refine g_ldc C0 (v := (-1000000002)) t_1199 d_M_told_245 ?_
                                      obtain rfl := Option.some.inj hE
                                      exact g_iret C0 hr d_M_told_247
theorem m_M_told (l : Launch) (K : KT) (ad : Nat → Nat) (h : Hp) (a0 : Int32) {res : Int32} (hE : K_M_told a0 h = some res) : ConI l y_M_told prog_13_method_25_code 2 (Option.some Jvm.ClassFile.FieldType.int) rm_M_told K WM ad h [.ref (ad 100), .int a0] res h := fun sz =>
  con_start [(0, .ref (ad 100)), (1, .int a0)] (by decide +kernel) rfl (Nat.le_of_ble_eq_true rfl) (fun p e s m args below meth c C0 hr hnm hsz => w_M_told C0 hr a0 h hE)
abbrev y_M_square : MethodName := ⟨"CanoeSidesModel", "square", "(II)I"⟩
abbrev rm_M_square : Room := { frames := 2, cells := 0, slots := 0, locals := 47 }
theorem cd_M_square : cwd y_M_square 2 := by decide +kernel
theorem d_M_square_0 : decode prog_13_method_26_code 0 = .ok (.aload_n 0, 1) := by decide +kernel
theorem d_M_square_1 : decode prog_13_method_26_code 1 = .ok (.iload_n 1, 1) := by decide +kernel
theorem d_M_square_2 : decode prog_13_method_26_code 2 = .ok (.iload_n 2, 1) := by decide +kernel
theorem d_M_square_3 : decode prog_13_method_26_code 3 = .ok (.invokevirtual 157, 3) := by decide +kernel
theorem d_M_square_6 : decode prog_13_method_26_code 6 = .ok (.ifCond .eq 21, 3) := by decide +kernel
theorem d_M_square_9 : decode prog_13_method_26_code 9 = .ok (.aload_n 0, 1) := by decide +kernel
theorem d_M_square_10 : decode prog_13_method_26_code 10 = .ok (.getfield 17, 3) := by decide +kernel
theorem d_M_square_13 : decode prog_13_method_26_code 13 = .ok (.iload_n 2, 1) := by decide +kernel
theorem d_M_square_14 : decode prog_13_method_26_code 14 = .ok (.aload_n 0, 1) := by decide +kernel
theorem d_M_square_15 : decode prog_13_method_26_code 15 = .ok (.getfield 20, 3) := by decide +kernel
theorem d_M_square_18 : decode prog_13_method_26_code 18 = .ok (.iconst 0, 1) := by decide +kernel
theorem d_M_square_19 : decode prog_13_method_26_code 19 = .ok (.iaload, 1) := by decide +kernel
theorem d_M_square_20 : decode prog_13_method_26_code 20 = .ok (.imul, 1) := by decide +kernel
theorem d_M_square_21 : decode prog_13_method_26_code 21 = .ok (.iload_n 1, 1) := by decide +kernel
theorem d_M_square_22 : decode prog_13_method_26_code 22 = .ok (.iadd, 1) := by decide +kernel
theorem d_M_square_23 : decode prog_13_method_26_code 23 = .ok (.iaload, 1) := by decide +kernel
theorem d_M_square_24 : decode prog_13_method_26_code 24 = .ok (.goto 5, 3) := by decide +kernel
theorem d_M_square_27 : decode prog_13_method_26_code 27 = .ok (.ldc 160, 2) := by decide +kernel
theorem d_M_square_29 : decode prog_13_method_26_code 29 = .ok (.ireturn, 1) := by decide +kernel
theorem w_M_square {p : Program} {l : Launch} {e : Env} {s : State} {m : MethodId} {args : Array Value} {below : List Frame} {meth : Method} {c : Code} {K : KT} {A : Nat → Prop} (C0 : Cx p s m args meth c prog_13_method_26_code "CanoeSidesModel" 3 K A) (hr : meth.sig.returnType = (Option.some Jvm.ClassFile.FieldType.int)) {ad : Nat → Nat} (a0 : Int32) (b0 : Int32) (h : Hp) {res : Int32} (hE : K_M_square a0 b0 h = some res) : G p l e rm_M_square s m args below meth c K A WM 3 0 0 (QI s args below K A WM 0 0 ad res h) 0 [(0, .ref (ad 100)), (1, .int a0), (2, .int b0)] [] ad h := by
  unfold K_M_square at hE
  refine g_aload_n C0 0 d_M_square_0 rfl rfl ?_
  refine g_iload_n C0 1 d_M_square_1 rfl rfl ?_
  refine g_iload_n C0 2 d_M_square_2 rfl rfl ?_
  obtain ⟨v3, z3, hE⟩ := bd_some hE
  refine g_calliP C0 nd_M [100, 101, 102, 103, 104, 105, 106, 107, 108, 109, 110, 111, 112, 113, 114, 115] rfl (sbW_self WM) (runV C0 (m_M_isSquare l K ad h a0 b0 z3) 2 rfl ⟨t_1279, t_1281, t_53, t_97, t_1282⟩ cd_M_isSquare (by decide) 0 rfl rfl (sbW_self WM) nd_M rfl rfl (Nat.le_of_ble_eq_true rfl) d_M_square_3) ?_
  have hB := ite_some hE
  refine g_if_eq C0 (tgt := 27) d_M_square_6 (by decide) (fun c_ => ?_) (fun c_ => ?_)
  · replace hE := hB.1 c_
    refine g_ldc C0 (v := (-1000000001)) t_1283 d_M_square_27 ?_
    obtain rfl := Option.some.inj hE
    exact g_iret C0 hr d_M_square_29
  · replace hE := hB.2 c_
    refine g_aload_n C0 0 d_M_square_9 rfl rfl ?_
    refine g_getr C0 CK_11 2 (by decide) t_1092 0 rfl rfl d_M_square_10 ?_
    refine g_iload_n C0 2 d_M_square_13 rfl rfl ?_
    refine g_aload_n C0 0 d_M_square_14 rfl rfl ?_
    refine g_getr C0 CK_11 3 (by decide) t_1093 0 rfl rfl d_M_square_15 ?_
    refine g_iconst C0 (v := 0) d_M_square_18 (by decide) ?_
    obtain ⟨q19, v19, e19, hE⟩ := gA_some hE
    refine g_iald C0 4 rfl q19 d_M_square_19 ?_
    refine g_top e19 ?_
    refine g_imul C0 d_M_square_20 ?_
    refine g_iload_n C0 1 d_M_square_21 rfl rfl ?_
    refine g_iadd C0 d_M_square_22 ?_
    obtain ⟨q23, v23, e23, hE⟩ := gA_some hE
    refine g_iald C0 3 rfl q23 d_M_square_23 ?_
    refine g_top e23 ?_
    refine g_goto C0 (tgt := 29) d_M_square_24 (by decide) ?_
    obtain rfl := Option.some.inj hE
    exact g_iret C0 hr d_M_square_29
theorem m_M_square (l : Launch) (K : KT) (ad : Nat → Nat) (h : Hp) (a0 : Int32) (b0 : Int32) {res : Int32} (hE : K_M_square a0 b0 h = some res) : ConI l y_M_square prog_13_method_26_code 3 (Option.some Jvm.ClassFile.FieldType.int) rm_M_square K WM ad h [.ref (ad 100), .int a0, .int b0] res h := fun sz =>
  con_start [(0, .ref (ad 100)), (1, .int a0), (2, .int b0)] (by decide +kernel) rfl (Nat.le_of_ble_eq_true rfl) (fun p e s m args below meth c C0 hr hnm hsz => w_M_square C0 hr a0 b0 h hE)
abbrev y_M_habit : MethodName := ⟨"CanoeSidesModel", "habit", "(II)I"⟩
abbrev rm_M_habit : Room := { frames := 1, cells := 0, slots := 0, locals := 25 }
theorem cd_M_habit : cwd y_M_habit 2 := by decide +kernel
theorem d_M_habit_0 : decode prog_13_method_27_code 0 = .ok (.iload_n 1, 1) := by decide +kernel
theorem d_M_habit_1 : decode prog_13_method_27_code 1 = .ok (.i2l, 1) := by decide +kernel
theorem d_M_habit_2 : decode prog_13_method_27_code 2 = .ok (.lconst 0, 1) := by decide +kernel
theorem d_M_habit_3 : decode prog_13_method_27_code 3 = .ok (.lconst 1, 1) := by decide +kernel
theorem d_M_habit_4 : decode prog_13_method_27_code 4 = .ok (.invokestatic 67, 3) := by decide +kernel
theorem d_M_habit_7 : decode prog_13_method_27_code 7 = .ok (.ifCond .eq 28, 3) := by decide +kernel
theorem d_M_habit_10 : decode prog_13_method_27_code 10 = .ok (.iload_n 2, 1) := by decide +kernel
theorem d_M_habit_11 : decode prog_13_method_27_code 11 = .ok (.i2l, 1) := by decide +kernel
theorem d_M_habit_12 : decode prog_13_method_27_code 12 = .ok (.lconst 0, 1) := by decide +kernel
theorem d_M_habit_13 : decode prog_13_method_27_code 13 = .ok (.ldc2_w 161, 3) := by decide +kernel
theorem d_M_habit_16 : decode prog_13_method_27_code 16 = .ok (.invokestatic 67, 3) := by decide +kernel
theorem d_M_habit_19 : decode prog_13_method_27_code 19 = .ok (.ifCond .eq 16, 3) := by decide +kernel
theorem d_M_habit_22 : decode prog_13_method_27_code 22 = .ok (.aload_n 0, 1) := by decide +kernel
theorem d_M_habit_23 : decode prog_13_method_27_code 23 = .ok (.getfield 23, 3) := by decide +kernel
theorem d_M_habit_26 : decode prog_13_method_27_code 26 = .ok (.iconst 4, 1) := by decide +kernel
theorem d_M_habit_27 : decode prog_13_method_27_code 27 = .ok (.iload_n 1, 1) := by decide +kernel
theorem d_M_habit_28 : decode prog_13_method_27_code 28 = .ok (.imul, 1) := by decide +kernel
theorem d_M_habit_29 : decode prog_13_method_27_code 29 = .ok (.iload_n 2, 1) := by decide +kernel
theorem d_M_habit_30 : decode prog_13_method_27_code 30 = .ok (.iadd, 1) := by decide +kernel
theorem d_M_habit_31 : decode prog_13_method_27_code 31 = .ok (.iaload, 1) := by decide +kernel
theorem d_M_habit_32 : decode prog_13_method_27_code 32 = .ok (.goto 5, 3) := by decide +kernel
theorem d_M_habit_35 : decode prog_13_method_27_code 35 = .ok (.ldc 71, 2) := by decide +kernel
theorem d_M_habit_37 : decode prog_13_method_27_code 37 = .ok (.ireturn, 1) := by decide +kernel
theorem w_M_habit {p : Program} {l : Launch} {e : Env} {s : State} {m : MethodId} {args : Array Value} {below : List Frame} {meth : Method} {c : Code} {K : KT} {A : Nat → Prop} (C0 : Cx p s m args meth c prog_13_method_27_code "CanoeSidesModel" 3 K A) (hr : meth.sig.returnType = (Option.some Jvm.ClassFile.FieldType.int)) {ad : Nat → Nat} (a0 : Int32) (b0 : Int32) (h : Hp) {res : Int32} (hE : K_M_habit a0 b0 h = some res) : G p l e rm_M_habit s m args below meth c K A WM 3 0 0 (QI s args below K A WM 0 0 ad res h) 0 [(0, .ref (ad 100)), (1, .int a0), (2, .int b0)] [] ad h := by
  unfold K_M_habit at hE
  refine g_iload_n C0 1 d_M_habit_0 rfl rfl ?_
  refine g_i2l C0 d_M_habit_1 ?_
  refine g_lconst C0 (v := 0) d_M_habit_2 (by decide) ?_
  refine g_lconst C0 (v := 1) d_M_habit_3 (by decide) ?_
  obtain ⟨v4, z4, hE⟩ := bd_some hE
  refine g_calliP C0 nd_M [] rfl (sb_E_M) (runS C0 (m_M_in l K ad h (Int32.toInt64 a0) 0 1 z4) 3 ⟨t_1196, t_1197, t_97, t_1198⟩ cd_M_in (by decide) (sb_E_M) nd_E rfl rfl (Nat.le_of_ble_eq_true rfl) d_M_habit_4) ?_
  have hB := ite_some hE
  refine g_if_eq C0 (tgt := 35) d_M_habit_7 (by decide) (fun c_ => ?_) (fun c_ => ?_)
  · replace hE := hB.1 c_
    refine g_ldc C0 (v := (-1000000002)) t_1199 d_M_habit_35 ?_
    obtain rfl := Option.some.inj hE
    exact g_iret C0 hr d_M_habit_37
  · replace hE := hB.2 c_
    refine g_iload_n C0 2 d_M_habit_10 rfl rfl ?_
    refine g_i2l C0 d_M_habit_11 ?_
    refine g_lconst C0 (v := 0) d_M_habit_12 (by decide) ?_
    refine g_ldc2 C0 (v := 3) t_1288 d_M_habit_13 ?_
    obtain ⟨v16, z16, hE⟩ := bd_some hE
    refine g_calliP C0 nd_M [] rfl (sb_E_M) (runS C0 (m_M_in l K ad h (Int32.toInt64 b0) 0 3 z16) 3 ⟨t_1196, t_1197, t_97, t_1198⟩ cd_M_in (by decide) (sb_E_M) nd_E rfl rfl (Nat.le_of_ble_eq_true rfl) d_M_habit_16) ?_
    have hB := ite_some hE
    refine g_if_eq C0 (tgt := 35) d_M_habit_19 (by decide) (fun c_ => ?_) (fun c_ => ?_)
    · replace hE := hB.1 c_
      refine g_ldc C0 (v := (-1000000002)) t_1199 d_M_habit_35 ?_
      obtain rfl := Option.some.inj hE
      exact g_iret C0 hr d_M_habit_37
    · replace hE := hB.2 c_
      refine g_aload_n C0 0 d_M_habit_22 rfl rfl ?_
      refine g_getr C0 CK_11 4 (by decide) t_1094 0 rfl rfl d_M_habit_23 ?_
      refine g_iconst C0 (v := 4) d_M_habit_26 (by decide) ?_
      refine g_iload_n C0 1 d_M_habit_27 rfl rfl ?_
      refine g_imul C0 d_M_habit_28 ?_
      refine g_iload_n C0 2 d_M_habit_29 rfl rfl ?_
      refine g_iadd C0 d_M_habit_30 ?_
      obtain ⟨q31, v31, e31, hE⟩ := gA_some hE
      refine g_iald C0 5 rfl q31 d_M_habit_31 ?_
      refine g_top e31 ?_
      refine g_goto C0 (tgt := 37) d_M_habit_32 (by decide) ?_
      obtain rfl := Option.some.inj hE
      exact g_iret C0 hr d_M_habit_37
theorem m_M_habit (l : Launch) (K : KT) (ad : Nat → Nat) (h : Hp) (a0 : Int32) (b0 : Int32) {res : Int32} (hE : K_M_habit a0 b0 h = some res) : ConI l y_M_habit prog_13_method_27_code 3 (Option.some Jvm.ClassFile.FieldType.int) rm_M_habit K WM ad h [.ref (ad 100), .int a0, .int b0] res h := fun sz =>
  con_start [(0, .ref (ad 100)), (1, .int a0), (2, .int b0)] (by decide +kernel) rfl (Nat.le_of_ble_eq_true rfl) (fun p e s m args below meth c C0 hr hnm hsz => w_M_habit C0 hr a0 b0 h hE)
abbrev y_M_side : MethodName := ⟨"CanoeSidesModel", "side", "(I)I"⟩
abbrev rm_M_side : Room := { frames := 0, cells := 0, slots := 0, locals := 0 }
theorem cd_M_side : cwd y_M_side 1 := by decide +kernel
theorem d_M_side_0 : decode prog_13_method_28_code 0 = .ok (.iload_n 0, 1) := by decide +kernel
theorem d_M_side_1 : decode prog_13_method_28_code 1 = .ok (.ifCond .ne 7, 3) := by decide +kernel
theorem d_M_side_4 : decode prog_13_method_28_code 4 = .ok (.iconst 1, 1) := by decide +kernel
theorem d_M_side_5 : decode prog_13_method_28_code 5 = .ok (.goto 13, 3) := by decide +kernel
theorem d_M_side_8 : decode prog_13_method_28_code 8 = .ok (.iload_n 0, 1) := by decide +kernel
theorem d_M_side_9 : decode prog_13_method_28_code 9 = .ok (.iconst 1, 1) := by decide +kernel
theorem d_M_side_10 : decode prog_13_method_28_code 10 = .ok (.if_icmp .ne 7, 3) := by decide +kernel
theorem d_M_side_13 : decode prog_13_method_28_code 13 = .ok (.iconst (-1), 1) := by decide +kernel
theorem d_M_side_14 : decode prog_13_method_28_code 14 = .ok (.goto 4, 3) := by decide +kernel
theorem d_M_side_17 : decode prog_13_method_28_code 17 = .ok (.iconst 0, 1) := by decide +kernel
theorem d_M_side_18 : decode prog_13_method_28_code 18 = .ok (.ireturn, 1) := by decide +kernel
theorem w_M_side {p : Program} {l : Launch} {e : Env} {s : State} {m : MethodId} {args : Array Value} {below : List Frame} {meth : Method} {c : Code} {K : KT} {A : Nat → Prop} (C0 : Cx p s m args meth c prog_13_method_28_code "CanoeSidesModel" 1 K A) (hr : meth.sig.returnType = (Option.some Jvm.ClassFile.FieldType.int)) {ad : Nat → Nat} (a0 : Int32) (h : Hp) {res : Int32} (hE : K_M_side a0 = some res) : G p l e rm_M_side s m args below meth c K A WE 1 0 0 (QI s args below K A WE 0 0 ad res h) 0 [(0, .int a0)] [] ad h := by
  unfold K_M_side at hE
  refine g_iload_n C0 0 d_M_side_0 rfl rfl ?_
  have hB := ite_some hE
  refine g_if_ne C0 (tgt := 8) d_M_side_1 (by decide) (fun c_ => ?_) (fun c_ => ?_)
  · replace hE := hB.2 c_
    refine g_iload_n C0 0 d_M_side_8 rfl rfl ?_
    refine g_iconst C0 (v := 1) d_M_side_9 (by decide) ?_
    have hB := ite_some hE
    refine g_icmp_ne C0 (tgt := 17) d_M_side_10 (by decide) (fun c_ => ?_) (fun c_ => ?_)
    · replace hE := hB.2 c_
      refine g_iconst C0 (v := 0) d_M_side_17 (by decide) ?_
      obtain rfl := Option.some.inj hE
      exact g_iret C0 hr d_M_side_18
    · replace hE := hB.1 c_
      refine g_iconst C0 (v := (-1)) d_M_side_13 (by decide) ?_
      refine g_goto C0 (tgt := 18) d_M_side_14 (by decide) ?_
      obtain rfl := Option.some.inj hE
      exact g_iret C0 hr d_M_side_18
  · replace hE := hB.1 c_
    refine g_iconst C0 (v := 1) d_M_side_4 (by decide) ?_
    refine g_goto C0 (tgt := 18) d_M_side_5 (by decide) ?_
    obtain rfl := Option.some.inj hE
    exact g_iret C0 hr d_M_side_18
theorem m_M_side (l : Launch) (K : KT) (ad : Nat → Nat) (h : Hp) (a0 : Int32) {res : Int32} (hE : K_M_side a0 = some res) : ConI l y_M_side prog_13_method_28_code 1 (Option.some Jvm.ClassFile.FieldType.int) rm_M_side K WE ad h [.int a0] res h := fun sz =>
  con_start [(0, .int a0)] (by decide +kernel) rfl (Nat.le_of_ble_eq_true rfl) (fun p e s m args below meth c C0 hr hnm hsz => w_M_side C0 hr a0 h hE)
abbrev y_M_strike : MethodName := ⟨"CanoeSidesModel", "strike", "(I)I"⟩
abbrev rm_M_strike : Room := { frames := 0, cells := 0, slots := 0, locals := 0 }
theorem cd_M_strike : cwd y_M_strike 1 := by decide +kernel
theorem d_M_strike_0 : decode prog_13_method_29_code 0 = .ok (.iload_n 0, 1) := by decide +kernel
theorem d_M_strike_1 : decode prog_13_method_29_code 1 = .ok (.iconst 2, 1) := by decide +kernel
theorem d_M_strike_2 : decode prog_13_method_29_code 2 = .ok (.if_icmp .ge 7, 3) := by decide +kernel
theorem d_M_strike_5 : decode prog_13_method_29_code 5 = .ok (.iconst 1, 1) := by decide +kernel
theorem d_M_strike_6 : decode prog_13_method_29_code 6 = .ok (.goto 13, 3) := by decide +kernel
theorem d_M_strike_9 : decode prog_13_method_29_code 9 = .ok (.iload_n 0, 1) := by decide +kernel
theorem d_M_strike_10 : decode prog_13_method_29_code 10 = .ok (.iconst 2, 1) := by decide +kernel
theorem d_M_strike_11 : decode prog_13_method_29_code 11 = .ok (.if_icmp .ne 7, 3) := by decide +kernel
theorem d_M_strike_14 : decode prog_13_method_29_code 14 = .ok (.iconst (-1), 1) := by decide +kernel
theorem d_M_strike_15 : decode prog_13_method_29_code 15 = .ok (.goto 4, 3) := by decide +kernel
theorem d_M_strike_18 : decode prog_13_method_29_code 18 = .ok (.iconst 0, 1) := by decide +kernel
theorem d_M_strike_19 : decode prog_13_method_29_code 19 = .ok (.ireturn, 1) := by decide +kernel
theorem w_M_strike {p : Program} {l : Launch} {e : Env} {s : State} {m : MethodId} {args : Array Value} {below : List Frame} {meth : Method} {c : Code} {K : KT} {A : Nat → Prop} (C0 : Cx p s m args meth c prog_13_method_29_code "CanoeSidesModel" 1 K A) (hr : meth.sig.returnType = (Option.some Jvm.ClassFile.FieldType.int)) {ad : Nat → Nat} (a0 : Int32) (h : Hp) {res : Int32} (hE : K_M_strike a0 = some res) : G p l e rm_M_strike s m args below meth c K A WE 1 0 0 (QI s args below K A WE 0 0 ad res h) 0 [(0, .int a0)] [] ad h := by
  unfold K_M_strike at hE
  refine g_iload_n C0 0 d_M_strike_0 rfl rfl ?_
  refine g_iconst C0 (v := 2) d_M_strike_1 (by decide) ?_
  have hB := ite_some hE
  refine g_icmp_ge C0 (tgt := 9) d_M_strike_2 (by decide) (fun c_ => ?_) (fun c_ => ?_)
  · replace hE := hB.1 c_
    refine g_iload_n C0 0 d_M_strike_9 rfl rfl ?_
    refine g_iconst C0 (v := 2) d_M_strike_10 (by decide) ?_
    have hB := ite_some hE
    refine g_icmp_ne C0 (tgt := 18) d_M_strike_11 (by decide) (fun c_ => ?_) (fun c_ => ?_)
    · replace hE := hB.2 c_
      refine g_iconst C0 (v := 0) d_M_strike_18 (by decide) ?_
      obtain rfl := Option.some.inj hE
      exact g_iret C0 hr d_M_strike_19
    · replace hE := hB.1 c_
      refine g_iconst C0 (v := (-1)) d_M_strike_14 (by decide) ?_
      refine g_goto C0 (tgt := 19) d_M_strike_15 (by decide) ?_
      obtain rfl := Option.some.inj hE
      exact g_iret C0 hr d_M_strike_19
  · replace hE := hB.2 c_
    refine g_iconst C0 (v := 1) d_M_strike_5 (by decide) ?_
    refine g_goto C0 (tgt := 19) d_M_strike_6 (by decide) ?_
    obtain rfl := Option.some.inj hE
    exact g_iret C0 hr d_M_strike_19
theorem m_M_strike (l : Launch) (K : KT) (ad : Nat → Nat) (h : Hp) (a0 : Int32) {res : Int32} (hE : K_M_strike a0 = some res) : ConI l y_M_strike prog_13_method_29_code 1 (Option.some Jvm.ClassFile.FieldType.int) rm_M_strike K WE ad h [.int a0] res h := fun sz =>
  con_start [(0, .int a0)] (by decide +kernel) rfl (Nat.le_of_ble_eq_true rfl) (fun p e s m args below meth c C0 hr hnm hsz => w_M_strike C0 hr a0 h hE)
abbrev y_M_turnBy : MethodName := ⟨"CanoeSidesModel", "turnBy", "(II)I"⟩
abbrev rm_M_turnBy : Room := { frames := 1, cells := 0, slots := 0, locals := 20 }
theorem cd_M_turnBy : cwd y_M_turnBy 2 := by decide +kernel
theorem d_M_turnBy_0 : decode prog_13_method_30_code 0 = .ok (.iload_n 1, 1) := by decide +kernel
theorem d_M_turnBy_1 : decode prog_13_method_30_code 1 = .ok (.invokestatic 163, 3) := by decide +kernel
theorem d_M_turnBy_4 : decode prog_13_method_30_code 4 = .ok (.aload_n 0, 1) := by decide +kernel
theorem d_M_turnBy_5 : decode prog_13_method_30_code 5 = .ok (.getfield 20, 3) := by decide +kernel
theorem d_M_turnBy_8 : decode prog_13_method_30_code 8 = .ok (.iconst 2, 1) := by decide +kernel
theorem d_M_turnBy_9 : decode prog_13_method_30_code 9 = .ok (.iaload, 1) := by decide +kernel
theorem d_M_turnBy_10 : decode prog_13_method_30_code 10 = .ok (.aload_n 0, 1) := by decide +kernel
theorem d_M_turnBy_11 : decode prog_13_method_30_code 11 = .ok (.getfield 166, 3) := by decide +kernel
theorem d_M_turnBy_14 : decode prog_13_method_30_code 14 = .ok (.iadd, 1) := by decide +kernel
theorem d_M_turnBy_15 : decode prog_13_method_30_code 15 = .ok (.imul, 1) := by decide +kernel
theorem d_M_turnBy_16 : decode prog_13_method_30_code 16 = .ok (.iconst 2, 1) := by decide +kernel
theorem d_M_turnBy_17 : decode prog_13_method_30_code 17 = .ok (.iload_n 2, 1) := by decide +kernel
theorem d_M_turnBy_18 : decode prog_13_method_30_code 18 = .ok (.invokestatic 163, 3) := by decide +kernel
theorem d_M_turnBy_21 : decode prog_13_method_30_code 21 = .ok (.imul, 1) := by decide +kernel
theorem d_M_turnBy_22 : decode prog_13_method_30_code 22 = .ok (.aload_n 0, 1) := by decide +kernel
theorem d_M_turnBy_23 : decode prog_13_method_30_code 23 = .ok (.getfield 20, 3) := by decide +kernel
theorem d_M_turnBy_26 : decode prog_13_method_30_code 26 = .ok (.iconst 3, 1) := by decide +kernel
theorem d_M_turnBy_27 : decode prog_13_method_30_code 27 = .ok (.iaload, 1) := by decide +kernel
theorem d_M_turnBy_28 : decode prog_13_method_30_code 28 = .ok (.imul, 1) := by decide +kernel
theorem d_M_turnBy_29 : decode prog_13_method_30_code 29 = .ok (.iadd, 1) := by decide +kernel
theorem d_M_turnBy_30 : decode prog_13_method_30_code 30 = .ok (.aload_n 0, 1) := by decide +kernel
theorem d_M_turnBy_31 : decode prog_13_method_30_code 31 = .ok (.getfield 20, 3) := by decide +kernel
theorem d_M_turnBy_34 : decode prog_13_method_30_code 34 = .ok (.iconst 4, 1) := by decide +kernel
theorem d_M_turnBy_35 : decode prog_13_method_30_code 35 = .ok (.iaload, 1) := by decide +kernel
theorem d_M_turnBy_36 : decode prog_13_method_30_code 36 = .ok (.idiv, 1) := by decide +kernel
theorem d_M_turnBy_37 : decode prog_13_method_30_code 37 = .ok (.ireturn, 1) := by decide +kernel
theorem w_M_turnBy {p : Program} {l : Launch} {e : Env} {s : State} {m : MethodId} {args : Array Value} {below : List Frame} {meth : Method} {c : Code} {K : KT} {A : Nat → Prop} (C0 : Cx p s m args meth c prog_13_method_30_code "CanoeSidesModel" 3 K A) (hr : meth.sig.returnType = (Option.some Jvm.ClassFile.FieldType.int)) {ad : Nat → Nat} (a0 : Int32) (b0 : Int32) (h : Hp) {res : Int32} (hE : K_M_turnBy a0 b0 h = some res) : G p l e rm_M_turnBy s m args below meth c K A WM 3 0 0 (QI s args below K A WM 0 0 ad res h) 0 [(0, .ref (ad 100)), (1, .int a0), (2, .int b0)] [] ad h := by
  unfold K_M_turnBy at hE
  refine g_iload_n C0 1 d_M_turnBy_0 rfl rfl ?_
  obtain ⟨v1, z1, hE⟩ := bd_some hE
  refine g_calliP C0 nd_M [] rfl (sb_E_M) (runS C0 (m_M_side l K ad h a0 z1) 1 ⟨t_1313, t_1314, t_97, t_1315⟩ cd_M_side (by decide) (sb_E_M) nd_E rfl rfl (Nat.le_of_ble_eq_true rfl) d_M_turnBy_1) ?_
  refine g_aload_n C0 0 d_M_turnBy_4 rfl rfl ?_
  refine g_getr C0 CK_11 3 (by decide) t_1093 0 rfl rfl d_M_turnBy_5 ?_
  refine g_iconst C0 (v := 2) d_M_turnBy_8 (by decide) ?_
  obtain ⟨q9, v9, e9, hE⟩ := gA_some hE
  refine g_iald C0 4 rfl q9 d_M_turnBy_9 ?_
  refine g_top e9 ?_
  refine g_aload_n C0 0 d_M_turnBy_10 rfl rfl ?_
  refine g_geti C0 CK_11 12 (by decide) t_1102 0 rfl rfl d_M_turnBy_11 ?_
  refine g_iadd C0 d_M_turnBy_14 ?_
  refine g_imul C0 d_M_turnBy_15 ?_
  refine g_iconst C0 (v := 2) d_M_turnBy_16 (by decide) ?_
  refine g_iload_n C0 2 d_M_turnBy_17 rfl rfl ?_
  obtain ⟨v18, z18, hE⟩ := bd_some hE
  refine g_calliP C0 nd_M [] rfl (sb_E_M) (runS C0 (m_M_side l K ad h b0 z18) 1 ⟨t_1313, t_1314, t_97, t_1315⟩ cd_M_side (by decide) (sb_E_M) nd_E rfl rfl (Nat.le_of_ble_eq_true rfl) d_M_turnBy_18) ?_
  refine g_imul C0 d_M_turnBy_21 ?_
  refine g_aload_n C0 0 d_M_turnBy_22 rfl rfl ?_
  refine g_getr C0 CK_11 3 (by decide) t_1093 0 rfl rfl d_M_turnBy_23 ?_
  refine g_iconst C0 (v := 3) d_M_turnBy_26 (by decide) ?_
  obtain ⟨q27, v27, e27, hE⟩ := gA_some hE
  refine g_iald C0 4 rfl q27 d_M_turnBy_27 ?_
  refine g_top e27 ?_
  refine g_imul C0 d_M_turnBy_28 ?_
  refine g_iadd C0 d_M_turnBy_29 ?_
  refine g_aload_n C0 0 d_M_turnBy_30 rfl rfl ?_
  refine g_getr C0 CK_11 3 (by decide) t_1093 0 rfl rfl d_M_turnBy_31 ?_
  refine g_iconst C0 (v := 4) d_M_turnBy_34 (by decide) ?_
  obtain ⟨q35, v35, e35, hE⟩ := gA_some hE
  refine g_iald C0 4 rfl q35 d_M_turnBy_35 ?_
  refine g_top e35 ?_
  obtain ⟨q36, hE⟩ := dz_some hE
  refine g_idiv C0 d_M_turnBy_36 q36 ?_
  obtain rfl := Option.some.inj hE
  exact g_iret C0 hr d_M_turnBy_37
theorem m_M_turnBy (l : Launch) (K : KT) (ad : Nat → Nat) (h : Hp) (a0 : Int32) (b0 : Int32) {res : Int32} (hE : K_M_turnBy a0 b0 h = some res) : ConI l y_M_turnBy prog_13_method_30_code 3 (Option.some Jvm.ClassFile.FieldType.int) rm_M_turnBy K WM ad h [.ref (ad 100), .int a0, .int b0] res h := fun sz =>
  con_start [(0, .ref (ad 100)), (1, .int a0), (2, .int b0)] (by decide +kernel) rfl (Nat.le_of_ble_eq_true rfl) (fun p e s m args below meth c C0 hr hnm hsz => w_M_turnBy C0 hr a0 b0 h hE)
abbrev y_M_pushBy : MethodName := ⟨"CanoeSidesModel", "pushBy", "(II)I"⟩
abbrev rm_M_pushBy : Room := { frames := 1, cells := 0, slots := 0, locals := 20 }
theorem cd_M_pushBy : cwd y_M_pushBy 2 := by decide +kernel
theorem d_M_pushBy_0 : decode prog_13_method_31_code 0 = .ok (.iload_n 1, 1) := by decide +kernel
theorem d_M_pushBy_1 : decode prog_13_method_31_code 1 = .ok (.invokestatic 169, 3) := by decide +kernel
theorem d_M_pushBy_4 : decode prog_13_method_31_code 4 = .ok (.aload_n 0, 1) := by decide +kernel
theorem d_M_pushBy_5 : decode prog_13_method_31_code 5 = .ok (.getfield 20, 3) := by decide +kernel
theorem d_M_pushBy_8 : decode prog_13_method_31_code 8 = .ok (.iconst 2, 1) := by decide +kernel
theorem d_M_pushBy_9 : decode prog_13_method_31_code 9 = .ok (.iaload, 1) := by decide +kernel
theorem d_M_pushBy_10 : decode prog_13_method_31_code 10 = .ok (.aload_n 0, 1) := by decide +kernel
theorem d_M_pushBy_11 : decode prog_13_method_31_code 11 = .ok (.getfield 166, 3) := by decide +kernel
theorem d_M_pushBy_14 : decode prog_13_method_31_code 14 = .ok (.iadd, 1) := by decide +kernel
theorem d_M_pushBy_15 : decode prog_13_method_31_code 15 = .ok (.imul, 1) := by decide +kernel
theorem d_M_pushBy_16 : decode prog_13_method_31_code 16 = .ok (.iload_n 2, 1) := by decide +kernel
theorem d_M_pushBy_17 : decode prog_13_method_31_code 17 = .ok (.invokestatic 169, 3) := by decide +kernel
theorem d_M_pushBy_20 : decode prog_13_method_31_code 20 = .ok (.aload_n 0, 1) := by decide +kernel
theorem d_M_pushBy_21 : decode prog_13_method_31_code 21 = .ok (.getfield 20, 3) := by decide +kernel
theorem d_M_pushBy_24 : decode prog_13_method_31_code 24 = .ok (.iconst 3, 1) := by decide +kernel
theorem d_M_pushBy_25 : decode prog_13_method_31_code 25 = .ok (.iaload, 1) := by decide +kernel
theorem d_M_pushBy_26 : decode prog_13_method_31_code 26 = .ok (.imul, 1) := by decide +kernel
theorem d_M_pushBy_27 : decode prog_13_method_31_code 27 = .ok (.iadd, 1) := by decide +kernel
theorem d_M_pushBy_28 : decode prog_13_method_31_code 28 = .ok (.aload_n 0, 1) := by decide +kernel
theorem d_M_pushBy_29 : decode prog_13_method_31_code 29 = .ok (.getfield 20, 3) := by decide +kernel
theorem d_M_pushBy_32 : decode prog_13_method_31_code 32 = .ok (.iconst 5, 1) := by decide +kernel
theorem d_M_pushBy_33 : decode prog_13_method_31_code 33 = .ok (.iaload, 1) := by decide +kernel
theorem d_M_pushBy_34 : decode prog_13_method_31_code 34 = .ok (.idiv, 1) := by decide +kernel
theorem d_M_pushBy_35 : decode prog_13_method_31_code 35 = .ok (.istore_n 3, 1) := by decide +kernel
theorem d_M_pushBy_36 : decode prog_13_method_31_code 36 = .ok (.iload_n 3, 1) := by decide +kernel
theorem d_M_pushBy_37 : decode prog_13_method_31_code 37 = .ok (.iconst 2, 1) := by decide +kernel
theorem d_M_pushBy_38 : decode prog_13_method_31_code 38 = .ok (.if_icmp .le 7, 3) := by decide +kernel
theorem d_M_pushBy_41 : decode prog_13_method_31_code 41 = .ok (.iconst 2, 1) := by decide +kernel
theorem d_M_pushBy_42 : decode prog_13_method_31_code 42 = .ok (.goto 15, 3) := by decide +kernel
theorem d_M_pushBy_45 : decode prog_13_method_31_code 45 = .ok (.iload_n 3, 1) := by decide +kernel
theorem d_M_pushBy_46 : decode prog_13_method_31_code 46 = .ok (.bipush (-2), 2) := by decide +kernel
theorem d_M_pushBy_48 : decode prog_13_method_31_code 48 = .ok (.if_icmp .ge 8, 3) := by decide +kernel
theorem d_M_pushBy_51 : decode prog_13_method_31_code 51 = .ok (.bipush (-2), 2) := by decide +kernel
theorem d_M_pushBy_53 : decode prog_13_method_31_code 53 = .ok (.goto 4, 3) := by decide +kernel
theorem d_M_pushBy_56 : decode prog_13_method_31_code 56 = .ok (.iload_n 3, 1) := by decide +kernel
theorem d_M_pushBy_57 : decode prog_13_method_31_code 57 = .ok (.ireturn, 1) := by decide +kernel
theorem w_M_pushBy {p : Program} {l : Launch} {e : Env} {s : State} {m : MethodId} {args : Array Value} {below : List Frame} {meth : Method} {c : Code} {K : KT} {A : Nat → Prop} (C0 : Cx p s m args meth c prog_13_method_31_code "CanoeSidesModel" 4 K A) (hr : meth.sig.returnType = (Option.some Jvm.ClassFile.FieldType.int)) {ad : Nat → Nat} (a0 : Int32) (b0 : Int32) (h : Hp) {res : Int32} (hE : K_M_pushBy a0 b0 h = some res) : G p l e rm_M_pushBy s m args below meth c K A WM 4 0 0 (QI s args below K A WM 0 0 ad res h) 0 [(0, .ref (ad 100)), (1, .int a0), (2, .int b0)] [] ad h := by
  unfold K_M_pushBy at hE
  refine g_iload_n C0 1 d_M_pushBy_0 rfl rfl ?_
  obtain ⟨v1, z1, hE⟩ := bd_some hE
  refine g_calliP C0 nd_M [] rfl (sb_E_M) (runS C0 (m_M_strike l K ad h a0 z1) 1 ⟨t_1320, t_1321, t_97, t_1322⟩ cd_M_strike (by decide) (sb_E_M) nd_E rfl rfl (Nat.le_of_ble_eq_true rfl) d_M_pushBy_1) ?_
  refine g_aload_n C0 0 d_M_pushBy_4 rfl rfl ?_
  refine g_getr C0 CK_11 3 (by decide) t_1093 0 rfl rfl d_M_pushBy_5 ?_
  refine g_iconst C0 (v := 2) d_M_pushBy_8 (by decide) ?_
  obtain ⟨q9, v9, e9, hE⟩ := gA_some hE
  refine g_iald C0 4 rfl q9 d_M_pushBy_9 ?_
  refine g_top e9 ?_
  refine g_aload_n C0 0 d_M_pushBy_10 rfl rfl ?_
  refine g_geti C0 CK_11 12 (by decide) t_1102 0 rfl rfl d_M_pushBy_11 ?_
  refine g_iadd C0 d_M_pushBy_14 ?_
  refine g_imul C0 d_M_pushBy_15 ?_
  refine g_iload_n C0 2 d_M_pushBy_16 rfl rfl ?_
  obtain ⟨v17, z17, hE⟩ := bd_some hE
  refine g_calliP C0 nd_M [] rfl (sb_E_M) (runS C0 (m_M_strike l K ad h b0 z17) 1 ⟨t_1320, t_1321, t_97, t_1322⟩ cd_M_strike (by decide) (sb_E_M) nd_E rfl rfl (Nat.le_of_ble_eq_true rfl) d_M_pushBy_17) ?_
  refine g_aload_n C0 0 d_M_pushBy_20 rfl rfl ?_
  refine g_getr C0 CK_11 3 (by decide) t_1093 0 rfl rfl d_M_pushBy_21 ?_
  refine g_iconst C0 (v := 3) d_M_pushBy_24 (by decide) ?_
  obtain ⟨q25, v25, e25, hE⟩ := gA_some hE
  refine g_iald C0 4 rfl q25 d_M_pushBy_25 ?_
  refine g_top e25 ?_
  refine g_imul C0 d_M_pushBy_26 ?_
  refine g_iadd C0 d_M_pushBy_27 ?_
  refine g_aload_n C0 0 d_M_pushBy_28 rfl rfl ?_
  refine g_getr C0 CK_11 3 (by decide) t_1093 0 rfl rfl d_M_pushBy_29 ?_
  refine g_iconst C0 (v := 5) d_M_pushBy_32 (by decide) ?_
  obtain ⟨q33, v33, e33, hE⟩ := gA_some hE
  refine g_iald C0 4 rfl q33 d_M_pushBy_33 ?_
  refine g_top e33 ?_
  obtain ⟨q34, hE⟩ := dz_some hE
  refine g_idiv C0 d_M_pushBy_34 q34 ?_
  obtain ⟨v35, e35, hE⟩ := nm_some hE
  refine g_top e35 ?_
  refine g_istore_n C0 [(3, .int v35), (0, .ref (ad 100)), (1, .int a0), (2, .int b0)] d_M_pushBy_35 rfl (by decide) rfl ?_
  refine g_iload_n C0 0 d_M_pushBy_36 rfl rfl ?_
  refine g_iconst C0 (v := 2) d_M_pushBy_37 (by decide) ?_
  have hB := ite_some hE
  refine g_icmp_le C0 (tgt := 45) d_M_pushBy_38 (by decide) (fun c_ => ?_) (fun c_ => ?_)
  · replace hE := hB.1 c_
    refine g_iload_n C0 0 d_M_pushBy_45 rfl rfl ?_
    refine g_bipush C0 (v := (-2)) d_M_pushBy_46 (by decide) ?_
    have hB := ite_some hE
    refine g_icmp_ge C0 (tgt := 56) d_M_pushBy_48 (by decide) (fun c_ => ?_) (fun c_ => ?_)
    · replace hE := hB.1 c_
      refine g_iload_n C0 0 d_M_pushBy_56 rfl rfl ?_
      obtain rfl := Option.some.inj hE
      exact g_iret C0 hr d_M_pushBy_57
    · replace hE := hB.2 c_
      refine g_bipush C0 (v := (-2)) d_M_pushBy_51 (by decide) ?_
      refine g_goto C0 (tgt := 57) d_M_pushBy_53 (by decide) ?_
      obtain rfl := Option.some.inj hE
      exact g_iret C0 hr d_M_pushBy_57
  · replace hE := hB.2 c_
    refine g_iconst C0 (v := 2) d_M_pushBy_41 (by decide) ?_
    refine g_goto C0 (tgt := 57) d_M_pushBy_42 (by decide) ?_
    obtain rfl := Option.some.inj hE
    exact g_iret C0 hr d_M_pushBy_57
theorem m_M_pushBy (l : Launch) (K : KT) (ad : Nat → Nat) (h : Hp) (a0 : Int32) (b0 : Int32) {res : Int32} (hE : K_M_pushBy a0 b0 h = some res) : ConI l y_M_pushBy prog_13_method_31_code 4 (Option.some Jvm.ClassFile.FieldType.int) rm_M_pushBy K WM ad h [.ref (ad 100), .int a0, .int b0] res h := fun sz =>
  con_start [(0, .ref (ad 100)), (1, .int a0), (2, .int b0)] (by decide +kernel) rfl (Nat.le_of_ble_eq_true rfl) (fun p e s m args below meth c C0 hr hnm hsz => w_M_pushBy C0 hr a0 b0 h hE)
abbrev y_M_east : MethodName := ⟨"CanoeSidesModel", "east", "(I)I"⟩
abbrev rm_M_east : Room := { frames := 1, cells := 0, slots := 0, locals := 25 }
theorem cd_M_east : cwd y_M_east 1 := by decide +kernel
theorem d_M_east_0 : decode prog_13_method_32_code 0 = .ok (.iload_n 0, 1) := by decide +kernel
theorem d_M_east_1 : decode prog_13_method_32_code 1 = .ok (.i2l, 1) := by decide +kernel
theorem d_M_east_2 : decode prog_13_method_32_code 2 = .ok (.lconst 1, 1) := by decide +kernel
theorem d_M_east_3 : decode prog_13_method_32_code 3 = .ok (.ldc2_w 161, 3) := by decide +kernel
theorem d_M_east_6 : decode prog_13_method_32_code 6 = .ok (.invokestatic 67, 3) := by decide +kernel
theorem d_M_east_9 : decode prog_13_method_32_code 9 = .ok (.ifCond .eq 7, 3) := by decide +kernel
theorem d_M_east_12 : decode prog_13_method_32_code 12 = .ok (.iconst 1, 1) := by decide +kernel
theorem d_M_east_13 : decode prog_13_method_32_code 13 = .ok (.goto 22, 3) := by decide +kernel
theorem d_M_east_16 : decode prog_13_method_32_code 16 = .ok (.iload_n 0, 1) := by decide +kernel
theorem d_M_east_17 : decode prog_13_method_32_code 17 = .ok (.i2l, 1) := by decide +kernel
theorem d_M_east_18 : decode prog_13_method_32_code 18 = .ok (.ldc2_w 172, 3) := by decide +kernel
theorem d_M_east_21 : decode prog_13_method_32_code 21 = .ok (.ldc2_w 174, 3) := by decide +kernel
theorem d_M_east_24 : decode prog_13_method_32_code 24 = .ok (.invokestatic 67, 3) := by decide +kernel
theorem d_M_east_27 : decode prog_13_method_32_code 27 = .ok (.ifCond .eq 7, 3) := by decide +kernel
theorem d_M_east_30 : decode prog_13_method_32_code 30 = .ok (.iconst (-1), 1) := by decide +kernel
theorem d_M_east_31 : decode prog_13_method_32_code 31 = .ok (.goto 4, 3) := by decide +kernel
theorem d_M_east_34 : decode prog_13_method_32_code 34 = .ok (.iconst 0, 1) := by decide +kernel
theorem d_M_east_35 : decode prog_13_method_32_code 35 = .ok (.ireturn, 1) := by decide +kernel
theorem w_M_east {p : Program} {l : Launch} {e : Env} {s : State} {m : MethodId} {args : Array Value} {below : List Frame} {meth : Method} {c : Code} {K : KT} {A : Nat → Prop} (C0 : Cx p s m args meth c prog_13_method_32_code "CanoeSidesModel" 1 K A) (hr : meth.sig.returnType = (Option.some Jvm.ClassFile.FieldType.int)) {ad : Nat → Nat} (a0 : Int32) (h : Hp) {res : Int32} (hE : K_M_east a0 = some res) : G p l e rm_M_east s m args below meth c K A WE 1 0 0 (QI s args below K A WE 0 0 ad res h) 0 [(0, .int a0)] [] ad h := by
  unfold K_M_east at hE
  refine g_iload_n C0 0 d_M_east_0 rfl rfl ?_
  refine g_i2l C0 d_M_east_1 ?_
  refine g_lconst C0 (v := 1) d_M_east_2 (by decide) ?_
  refine g_ldc2 C0 (v := 3) t_1288 d_M_east_3 ?_
  obtain ⟨v6, z6, hE⟩ := bd_some hE
  refine g_calliP C0 nd_E [] rfl (sbW_self WE) (runS C0 (m_M_in l K ad h (Int32.toInt64 a0) 1 3 z6) 3 ⟨t_1196, t_1197, t_97, t_1198⟩ cd_M_in (by decide) (sbW_self WE) nd_E rfl rfl (Nat.le_of_ble_eq_true rfl) d_M_east_6) ?_
  have hB := ite_some hE
  refine g_if_eq C0 (tgt := 16) d_M_east_9 (by decide) (fun c_ => ?_) (fun c_ => ?_)
  · replace hE := hB.1 c_
    refine g_iload_n C0 0 d_M_east_16 rfl rfl ?_
    refine g_i2l C0 d_M_east_17 ?_
    refine g_ldc2 C0 (v := 5) t_1326 d_M_east_18 ?_
    refine g_ldc2 C0 (v := 7) t_1327 d_M_east_21 ?_
    obtain ⟨v24, z24, hE⟩ := bd_some hE
    refine g_calliP C0 nd_E [] rfl (sbW_self WE) (runS C0 (m_M_in l K ad h (Int32.toInt64 a0) 5 7 z24) 3 ⟨t_1196, t_1197, t_97, t_1198⟩ cd_M_in (by decide) (sbW_self WE) nd_E rfl rfl (Nat.le_of_ble_eq_true rfl) d_M_east_24) ?_
    have hB := ite_some hE
    refine g_if_eq C0 (tgt := 34) d_M_east_27 (by decide) (fun c_ => ?_) (fun c_ => ?_)
    · replace hE := hB.1 c_
      refine g_iconst C0 (v := 0) d_M_east_34 (by decide) ?_
      obtain rfl := Option.some.inj hE
      exact g_iret C0 hr d_M_east_35
    · replace hE := hB.2 c_
      refine g_iconst C0 (v := (-1)) d_M_east_30 (by decide) ?_
      refine g_goto C0 (tgt := 35) d_M_east_31 (by decide) ?_
      obtain rfl := Option.some.inj hE
      exact g_iret C0 hr d_M_east_35
  · replace hE := hB.2 c_
    refine g_iconst C0 (v := 1) d_M_east_12 (by decide) ?_
    refine g_goto C0 (tgt := 35) d_M_east_13 (by decide) ?_
    obtain rfl := Option.some.inj hE
    exact g_iret C0 hr d_M_east_35
theorem m_M_east (l : Launch) (K : KT) (ad : Nat → Nat) (h : Hp) (a0 : Int32) {res : Int32} (hE : K_M_east a0 = some res) : ConI l y_M_east prog_13_method_32_code 1 (Option.some Jvm.ClassFile.FieldType.int) rm_M_east K WE ad h [.int a0] res h := fun sz =>
  con_start [(0, .int a0)] (by decide +kernel) rfl (Nat.le_of_ble_eq_true rfl) (fun p e s m args below meth c C0 hr hnm hsz => w_M_east C0 hr a0 h hE)
abbrev y_M_north : MethodName := ⟨"CanoeSidesModel", "north", "(I)I"⟩
abbrev rm_M_north : Room := { frames := 1, cells := 0, slots := 0, locals := 25 }
theorem cd_M_north : cwd y_M_north 1 := by decide +kernel
theorem d_M_north_0 : decode prog_13_method_33_code 0 = .ok (.iload_n 0, 1) := by decide +kernel
theorem d_M_north_1 : decode prog_13_method_33_code 1 = .ok (.iconst 2, 1) := by decide +kernel
theorem d_M_north_2 : decode prog_13_method_33_code 2 = .ok (.if_icmp .lt 9, 3) := by decide +kernel
theorem d_M_north_5 : decode prog_13_method_33_code 5 = .ok (.iload_n 0, 1) := by decide +kernel
theorem d_M_north_6 : decode prog_13_method_33_code 6 = .ok (.bipush 7, 2) := by decide +kernel
theorem d_M_north_8 : decode prog_13_method_33_code 8 = .ok (.if_icmp .ne 7, 3) := by decide +kernel
theorem d_M_north_11 : decode prog_13_method_33_code 11 = .ok (.iconst 1, 1) := by decide +kernel
theorem d_M_north_12 : decode prog_13_method_33_code 12 = .ok (.goto 22, 3) := by decide +kernel
theorem d_M_north_15 : decode prog_13_method_33_code 15 = .ok (.iload_n 0, 1) := by decide +kernel
theorem d_M_north_16 : decode prog_13_method_33_code 16 = .ok (.i2l, 1) := by decide +kernel
theorem d_M_north_17 : decode prog_13_method_33_code 17 = .ok (.ldc2_w 161, 3) := by decide +kernel
theorem d_M_north_20 : decode prog_13_method_33_code 20 = .ok (.ldc2_w 172, 3) := by decide +kernel
theorem d_M_north_23 : decode prog_13_method_33_code 23 = .ok (.invokestatic 67, 3) := by decide +kernel
theorem d_M_north_26 : decode prog_13_method_33_code 26 = .ok (.ifCond .eq 7, 3) := by decide +kernel
theorem d_M_north_29 : decode prog_13_method_33_code 29 = .ok (.iconst (-1), 1) := by decide +kernel
theorem d_M_north_30 : decode prog_13_method_33_code 30 = .ok (.goto 4, 3) := by decide +kernel
theorem d_M_north_33 : decode prog_13_method_33_code 33 = .ok (.iconst 0, 1) := by decide +kernel
theorem d_M_north_34 : decode prog_13_method_33_code 34 = .ok (.ireturn, 1) := by decide +kernel
theorem w_M_north_J11 {p : Program} {l : Launch} {e : Env} {s : State} {m : MethodId} {args : Array Value} {below : List Frame} {meth : Method} {c : Code} {K : KT} {A : Nat → Prop} (C0 : Cx p s m args meth c prog_13_method_33_code "CanoeSidesModel" 1 K A) (hr : meth.sig.returnType = (Option.some Jvm.ClassFile.FieldType.int)) {ad : Nat → Nat} (h : Hp) {res : Int32} (hE : K_M_north_J11 = some res) : G p l e rm_M_north s m args below meth c K A WE 1 0 0 (QI s args below K A WE 0 0 ad res h) 11 [] [] ad h := by
  unfold K_M_north_J11 at hE
  refine g_iconst C0 (v := 1) d_M_north_11 (by decide) ?_
  refine g_goto C0 (tgt := 34) d_M_north_12 (by decide) ?_
  obtain rfl := Option.some.inj hE
  exact g_iret C0 hr d_M_north_34
theorem w_M_north {p : Program} {l : Launch} {e : Env} {s : State} {m : MethodId} {args : Array Value} {below : List Frame} {meth : Method} {c : Code} {K : KT} {A : Nat → Prop} (C0 : Cx p s m args meth c prog_13_method_33_code "CanoeSidesModel" 1 K A) (hr : meth.sig.returnType = (Option.some Jvm.ClassFile.FieldType.int)) {ad : Nat → Nat} (a0 : Int32) (h : Hp) {res : Int32} (hE : K_M_north a0 = some res) : G p l e rm_M_north s m args below meth c K A WE 1 0 0 (QI s args below K A WE 0 0 ad res h) 0 [(0, .int a0)] [] ad h := by
  unfold K_M_north at hE
  refine g_iload_n C0 0 d_M_north_0 rfl rfl ?_
  refine g_iconst C0 (v := 2) d_M_north_1 (by decide) ?_
  have hB := ite_some hE
  refine g_icmp_lt C0 (tgt := 11) d_M_north_2 (by decide) (fun c_ => ?_) (fun c_ => ?_)
  · replace hE := hB.1 c_
    refine g_sub [] (L' := []) rfl ?_
    exact w_M_north_J11 C0 hr h hE
  · replace hE := hB.2 c_
    refine g_iload_n C0 0 d_M_north_5 rfl rfl ?_
    refine g_bipush C0 (v := 7) d_M_north_6 (by decide) ?_
    have hB := ite_some hE
    refine g_icmp_ne C0 (tgt := 15) d_M_north_8 (by decide) (fun c_ => ?_) (fun c_ => ?_)
    · replace hE := hB.2 c_
      refine g_iload_n C0 0 d_M_north_15 rfl rfl ?_
      refine g_i2l C0 d_M_north_16 ?_
      refine g_ldc2 C0 (v := 3) t_1288 d_M_north_17 ?_
      refine g_ldc2 C0 (v := 5) t_1326 d_M_north_20 ?_
      obtain ⟨v23, z23, hE⟩ := bd_some hE
      refine g_calliP C0 nd_E [] rfl (sbW_self WE) (runS C0 (m_M_in l K ad h (Int32.toInt64 a0) 3 5 z23) 3 ⟨t_1196, t_1197, t_97, t_1198⟩ cd_M_in (by decide) (sbW_self WE) nd_E rfl rfl (Nat.le_of_ble_eq_true rfl) d_M_north_23) ?_
      have hB := ite_some hE
      refine g_if_eq C0 (tgt := 33) d_M_north_26 (by decide) (fun c_ => ?_) (fun c_ => ?_)
      · replace hE := hB.1 c_
        refine g_iconst C0 (v := 0) d_M_north_33 (by decide) ?_
        obtain rfl := Option.some.inj hE
        exact g_iret C0 hr d_M_north_34
      · replace hE := hB.2 c_
        refine g_iconst C0 (v := (-1)) d_M_north_29 (by decide) ?_
        refine g_goto C0 (tgt := 34) d_M_north_30 (by decide) ?_
        obtain rfl := Option.some.inj hE
        exact g_iret C0 hr d_M_north_34
    · replace hE := hB.1 c_
      refine g_sub [] (L' := []) rfl ?_
      exact w_M_north_J11 C0 hr h hE
theorem m_M_north (l : Launch) (K : KT) (ad : Nat → Nat) (h : Hp) (a0 : Int32) {res : Int32} (hE : K_M_north a0 = some res) : ConI l y_M_north prog_13_method_33_code 1 (Option.some Jvm.ClassFile.FieldType.int) rm_M_north K WE ad h [.int a0] res h := fun sz =>
  con_start [(0, .int a0)] (by decide +kernel) rfl (Nat.le_of_ble_eq_true rfl) (fun p e s m args below meth c C0 hr hnm hsz => w_M_north C0 hr a0 h hE)
abbrev y_M_beside : MethodName := ⟨"CanoeSidesModel", "beside", "(III)I"⟩
abbrev rm_M_beside : Room := { frames := 2, cells := 0, slots := 0, locals := 47 }
theorem cd_M_beside : cwd y_M_beside 3 := by decide +kernel
theorem d_M_beside_0 : decode prog_13_method_34_code 0 = .ok (.iload_n 1, 1) := by decide +kernel
theorem d_M_beside_1 : decode prog_13_method_34_code 1 = .ok (.aload_n 0, 1) := by decide +kernel
theorem d_M_beside_2 : decode prog_13_method_34_code 2 = .ok (.getfield 20, 3) := by decide +kernel
theorem d_M_beside_5 : decode prog_13_method_34_code 5 = .ok (.iconst 0, 1) := by decide +kernel
theorem d_M_beside_6 : decode prog_13_method_34_code 6 = .ok (.iaload, 1) := by decide +kernel
theorem d_M_beside_7 : decode prog_13_method_34_code 7 = .ok (.irem, 1) := by decide +kernel
theorem d_M_beside_8 : decode prog_13_method_34_code 8 = .ok (.iload_n 2, 1) := by decide +kernel
theorem d_M_beside_9 : decode prog_13_method_34_code 9 = .ok (.iadd, 1) := by decide +kernel
theorem d_M_beside_10 : decode prog_13_method_34_code 10 = .ok (.istore 4, 2) := by decide +kernel
theorem d_M_beside_12 : decode prog_13_method_34_code 12 = .ok (.iload_n 1, 1) := by decide +kernel
theorem d_M_beside_13 : decode prog_13_method_34_code 13 = .ok (.aload_n 0, 1) := by decide +kernel
theorem d_M_beside_14 : decode prog_13_method_34_code 14 = .ok (.getfield 20, 3) := by decide +kernel
theorem d_M_beside_17 : decode prog_13_method_34_code 17 = .ok (.iconst 0, 1) := by decide +kernel
theorem d_M_beside_18 : decode prog_13_method_34_code 18 = .ok (.iaload, 1) := by decide +kernel
theorem d_M_beside_19 : decode prog_13_method_34_code 19 = .ok (.idiv, 1) := by decide +kernel
theorem d_M_beside_20 : decode prog_13_method_34_code 20 = .ok (.iload_n 3, 1) := by decide +kernel
theorem d_M_beside_21 : decode prog_13_method_34_code 21 = .ok (.isub, 1) := by decide +kernel
theorem d_M_beside_22 : decode prog_13_method_34_code 22 = .ok (.istore 5, 2) := by decide +kernel
theorem d_M_beside_24 : decode prog_13_method_34_code 24 = .ok (.aload_n 0, 1) := by decide +kernel
theorem d_M_beside_25 : decode prog_13_method_34_code 25 = .ok (.iload 4, 2) := by decide +kernel
theorem d_M_beside_27 : decode prog_13_method_34_code 27 = .ok (.iload 5, 2) := by decide +kernel
theorem d_M_beside_29 : decode prog_13_method_34_code 29 = .ok (.invokevirtual 157, 3) := by decide +kernel
theorem d_M_beside_32 : decode prog_13_method_34_code 32 = .ok (.ifCond .eq 39, 3) := by decide +kernel
theorem d_M_beside_35 : decode prog_13_method_34_code 35 = .ok (.aload_n 0, 1) := by decide +kernel
theorem d_M_beside_36 : decode prog_13_method_34_code 36 = .ok (.getfield 17, 3) := by decide +kernel
theorem d_M_beside_39 : decode prog_13_method_34_code 39 = .ok (.iload 5, 2) := by decide +kernel
theorem d_M_beside_41 : decode prog_13_method_34_code 41 = .ok (.aload_n 0, 1) := by decide +kernel
theorem d_M_beside_42 : decode prog_13_method_34_code 42 = .ok (.getfield 20, 3) := by decide +kernel
theorem d_M_beside_45 : decode prog_13_method_34_code 45 = .ok (.iconst 0, 1) := by decide +kernel
theorem d_M_beside_46 : decode prog_13_method_34_code 46 = .ok (.iaload, 1) := by decide +kernel
theorem d_M_beside_47 : decode prog_13_method_34_code 47 = .ok (.imul, 1) := by decide +kernel
theorem d_M_beside_48 : decode prog_13_method_34_code 48 = .ok (.iload 4, 2) := by decide +kernel
theorem d_M_beside_50 : decode prog_13_method_34_code 50 = .ok (.iadd, 1) := by decide +kernel
theorem d_M_beside_51 : decode prog_13_method_34_code 51 = .ok (.iaload, 1) := by decide +kernel
theorem d_M_beside_52 : decode prog_13_method_34_code 52 = .ok (.iconst 1, 1) := by decide +kernel
theorem d_M_beside_53 : decode prog_13_method_34_code 53 = .ok (.if_icmp .eq 18, 3) := by decide +kernel
theorem d_M_beside_56 : decode prog_13_method_34_code 56 = .ok (.iload 5, 2) := by decide +kernel
theorem d_M_beside_58 : decode prog_13_method_34_code 58 = .ok (.aload_n 0, 1) := by decide +kernel
theorem d_M_beside_59 : decode prog_13_method_34_code 59 = .ok (.getfield 20, 3) := by decide +kernel
theorem d_M_beside_62 : decode prog_13_method_34_code 62 = .ok (.iconst 0, 1) := by decide +kernel
theorem d_M_beside_63 : decode prog_13_method_34_code 63 = .ok (.iaload, 1) := by decide +kernel
theorem d_M_beside_64 : decode prog_13_method_34_code 64 = .ok (.imul, 1) := by decide +kernel
theorem d_M_beside_65 : decode prog_13_method_34_code 65 = .ok (.iload 4, 2) := by decide +kernel
theorem d_M_beside_67 : decode prog_13_method_34_code 67 = .ok (.iadd, 1) := by decide +kernel
theorem d_M_beside_68 : decode prog_13_method_34_code 68 = .ok (.goto 4, 3) := by decide +kernel
theorem d_M_beside_71 : decode prog_13_method_34_code 71 = .ok (.iload_n 1, 1) := by decide +kernel
theorem d_M_beside_72 : decode prog_13_method_34_code 72 = .ok (.ireturn, 1) := by decide +kernel
theorem w_M_beside {p : Program} {l : Launch} {e : Env} {s : State} {m : MethodId} {args : Array Value} {below : List Frame} {meth : Method} {c : Code} {K : KT} {A : Nat → Prop} (C0 : Cx p s m args meth c prog_13_method_34_code "CanoeSidesModel" 6 K A) (hr : meth.sig.returnType = (Option.some Jvm.ClassFile.FieldType.int)) {ad : Nat → Nat} (a0 : Int32) (b0 : Int32) (c0 : Int32) (h : Hp) {res : Int32} (hE : K_M_beside a0 b0 c0 h = some res) : G p l e rm_M_beside s m args below meth c K A WM 6 0 0 (QI s args below K A WM 0 0 ad res h) 0 [(0, .ref (ad 100)), (1, .int a0), (2, .int b0), (3, .int c0)] [] ad h := by
  unfold K_M_beside at hE
  refine g_iload_n C0 1 d_M_beside_0 rfl rfl ?_
  refine g_aload_n C0 0 d_M_beside_1 rfl rfl ?_
  refine g_getr C0 CK_11 3 (by decide) t_1093 0 rfl rfl d_M_beside_2 ?_
  refine g_iconst C0 (v := 0) d_M_beside_5 (by decide) ?_
  obtain ⟨q6, v6, e6, hE⟩ := gA_some hE
  refine g_iald C0 4 rfl q6 d_M_beside_6 ?_
  refine g_top e6 ?_
  obtain ⟨q7, hE⟩ := dz_some hE
  refine g_irem C0 d_M_beside_7 q7 ?_
  refine g_iload_n C0 2 d_M_beside_8 rfl rfl ?_
  refine g_iadd C0 d_M_beside_9 ?_
  obtain ⟨v10, e10, hE⟩ := nm_some hE
  refine g_top e10 ?_
  refine g_istore C0 [(4, .int v10), (0, .ref (ad 100)), (1, .int a0), (2, .int b0), (3, .int c0)] d_M_beside_10 (by decide) rfl ?_
  refine g_iload_n C0 2 d_M_beside_12 rfl rfl ?_
  refine g_aload_n C0 1 d_M_beside_13 rfl rfl ?_
  refine g_getr C0 CK_11 3 (by decide) t_1093 0 rfl rfl d_M_beside_14 ?_
  refine g_iconst C0 (v := 0) d_M_beside_17 (by decide) ?_
  obtain ⟨q18, v18, e18, hE⟩ := gA_some hE
  refine g_iald C0 4 rfl q18 d_M_beside_18 ?_
  refine g_top e18 ?_
  obtain ⟨q19, hE⟩ := dz_some hE
  refine g_idiv C0 d_M_beside_19 q19 ?_
  refine g_iload_n C0 4 d_M_beside_20 rfl rfl ?_
  refine g_isub C0 d_M_beside_21 ?_
  obtain ⟨v22, e22, hE⟩ := nm_some hE
  refine g_top e22 ?_
  refine g_istore C0 [(5, .int v22), (4, .int v10), (0, .ref (ad 100)), (1, .int a0), (2, .int b0), (3, .int c0)] d_M_beside_22 (by decide) rfl ?_
  refine g_aload_n C0 2 d_M_beside_24 rfl rfl ?_
  refine g_iload C0 1 d_M_beside_25 rfl ?_
  refine g_iload C0 0 d_M_beside_27 rfl ?_
  obtain ⟨v29, z29, hE⟩ := bd_some hE
  refine g_calliP C0 nd_M [100, 101, 102, 103, 104, 105, 106, 107, 108, 109, 110, 111, 112, 113, 114, 115] rfl (sbW_self WM) (runV C0 (m_M_isSquare l K ad h v10 v22 z29) 2 rfl ⟨t_1279, t_1281, t_53, t_97, t_1282⟩ cd_M_isSquare (by decide) 0 rfl rfl (sbW_self WM) nd_M rfl rfl (Nat.le_of_ble_eq_true rfl) d_M_beside_29) ?_
  have hB := ite_some hE
  refine g_if_eq C0 (tgt := 71) d_M_beside_32 (by decide) (fun c_ => ?_) (fun c_ => ?_)
  · replace hE := hB.1 c_
    refine g_iload_n C0 3 d_M_beside_71 rfl rfl ?_
    obtain rfl := Option.some.inj hE
    exact g_iret C0 hr d_M_beside_72
  · replace hE := hB.2 c_
    refine g_aload_n C0 2 d_M_beside_35 rfl rfl ?_
    refine g_getr C0 CK_11 2 (by decide) t_1092 0 rfl rfl d_M_beside_36 ?_
    refine g_iload C0 0 d_M_beside_39 rfl ?_
    refine g_aload_n C0 2 d_M_beside_41 rfl rfl ?_
    refine g_getr C0 CK_11 3 (by decide) t_1093 0 rfl rfl d_M_beside_42 ?_
    refine g_iconst C0 (v := 0) d_M_beside_45 (by decide) ?_
    obtain ⟨q46, v46, e46, hE⟩ := gA_some hE
    refine g_iald C0 4 rfl q46 d_M_beside_46 ?_
    refine g_top e46 ?_
    refine g_imul C0 d_M_beside_47 ?_
    refine g_iload C0 1 d_M_beside_48 rfl ?_
    refine g_iadd C0 d_M_beside_50 ?_
    obtain ⟨q51, v51, e51, hE⟩ := gA_some hE
    refine g_iald C0 3 rfl q51 d_M_beside_51 ?_
    refine g_top e51 ?_
    refine g_iconst C0 (v := 1) d_M_beside_52 (by decide) ?_
    have hB := ite_some hE
    refine g_icmp_eq C0 (tgt := 71) d_M_beside_53 (by decide) (fun c_ => ?_) (fun c_ => ?_)
    · replace hE := hB.1 c_
      refine g_iload_n C0 3 d_M_beside_71 rfl rfl ?_
      obtain rfl := Option.some.inj hE
      exact g_iret C0 hr d_M_beside_72
    · replace hE := hB.2 c_
      refine g_iload C0 0 d_M_beside_56 rfl ?_
      refine g_aload_n C0 2 d_M_beside_58 rfl rfl ?_
      refine g_getr C0 CK_11 3 (by decide) t_1093 0 rfl rfl d_M_beside_59 ?_
      refine g_iconst C0 (v := 0) d_M_beside_62 (by decide) ?_
      obtain ⟨q63, v63, e63, hE⟩ := gA_some hE
      refine g_iald C0 4 rfl q63 d_M_beside_63 ?_
      refine g_top e63 ?_
      refine g_imul C0 d_M_beside_64 ?_
      refine g_iload C0 1 d_M_beside_65 rfl ?_
      refine g_iadd C0 d_M_beside_67 ?_
      refine g_goto C0 (tgt := 72) d_M_beside_68 (by decide) ?_
      obtain rfl := Option.some.inj hE
      exact g_iret C0 hr d_M_beside_72
theorem m_M_beside (l : Launch) (K : KT) (ad : Nat → Nat) (h : Hp) (a0 : Int32) (b0 : Int32) (c0 : Int32) {res : Int32} (hE : K_M_beside a0 b0 c0 h = some res) : ConI l y_M_beside prog_13_method_34_code 6 (Option.some Jvm.ClassFile.FieldType.int) rm_M_beside K WM ad h [.ref (ad 100), .int a0, .int b0, .int c0] res h := fun sz =>
  con_start [(0, .ref (ad 100)), (1, .int a0), (2, .int b0), (3, .int c0)] (by decide +kernel) rfl (Nat.le_of_ble_eq_true rfl) (fun p e s m args below meth c C0 hr hnm hsz => w_M_beside C0 hr a0 b0 c0 h hE)
abbrev y_M_driven : MethodName := ⟨"CanoeSidesModel", "driven", "(II)I"⟩
abbrev rm_M_driven : Room := { frames := 3, cells := 0, slots := 0, locals := 72 }
theorem cd_M_driven : cwd y_M_driven 2 := by decide +kernel
theorem d_M_driven_0 : decode prog_13_method_35_code 0 = .ok (.aload_n 0, 1) := by decide +kernel
theorem d_M_driven_1 : decode prog_13_method_35_code 1 = .ok (.iload_n 1, 1) := by decide +kernel
theorem d_M_driven_2 : decode prog_13_method_35_code 2 = .ok (.iconst 2, 1) := by decide +kernel
theorem d_M_driven_3 : decode prog_13_method_35_code 3 = .ok (.iload_n 2, 1) := by decide +kernel
theorem d_M_driven_4 : decode prog_13_method_35_code 4 = .ok (.imul, 1) := by decide +kernel
theorem d_M_driven_5 : decode prog_13_method_35_code 5 = .ok (.invokestatic 176, 3) := by decide +kernel
theorem d_M_driven_8 : decode prog_13_method_35_code 8 = .ok (.iconst 2, 1) := by decide +kernel
theorem d_M_driven_9 : decode prog_13_method_35_code 9 = .ok (.iload_n 2, 1) := by decide +kernel
theorem d_M_driven_10 : decode prog_13_method_35_code 10 = .ok (.imul, 1) := by decide +kernel
theorem d_M_driven_11 : decode prog_13_method_35_code 11 = .ok (.invokestatic 179, 3) := by decide +kernel
theorem d_M_driven_14 : decode prog_13_method_35_code 14 = .ok (.invokevirtual 182, 3) := by decide +kernel
theorem d_M_driven_17 : decode prog_13_method_35_code 17 = .ok (.ireturn, 1) := by decide +kernel
theorem w_M_driven {p : Program} {l : Launch} {e : Env} {s : State} {m : MethodId} {args : Array Value} {below : List Frame} {meth : Method} {c : Code} {K : KT} {A : Nat → Prop} (C0 : Cx p s m args meth c prog_13_method_35_code "CanoeSidesModel" 3 K A) (hr : meth.sig.returnType = (Option.some Jvm.ClassFile.FieldType.int)) {ad : Nat → Nat} (a0 : Int32) (b0 : Int32) (h : Hp) {res : Int32} (hE : K_M_driven a0 b0 h = some res) : G p l e rm_M_driven s m args below meth c K A WM 3 0 0 (QI s args below K A WM 0 0 ad res h) 0 [(0, .ref (ad 100)), (1, .int a0), (2, .int b0)] [] ad h := by
  unfold K_M_driven at hE
  refine g_aload_n C0 0 d_M_driven_0 rfl rfl ?_
  refine g_iload_n C0 1 d_M_driven_1 rfl rfl ?_
  refine g_iconst C0 (v := 2) d_M_driven_2 (by decide) ?_
  refine g_iload_n C0 2 d_M_driven_3 rfl rfl ?_
  refine g_imul C0 d_M_driven_4 ?_
  obtain ⟨v5, z5, hE⟩ := bd_some hE
  refine g_calliP C0 nd_M [] rfl (sb_E_M) (runS C0 (m_M_east l K ad h (2 * b0) z5) 1 ⟨t_1323, t_1324, t_97, t_1325⟩ cd_M_east (by decide) (sb_E_M) nd_E rfl rfl (Nat.le_of_ble_eq_true rfl) d_M_driven_5) ?_
  refine g_iconst C0 (v := 2) d_M_driven_8 (by decide) ?_
  refine g_iload_n C0 2 d_M_driven_9 rfl rfl ?_
  refine g_imul C0 d_M_driven_10 ?_
  obtain ⟨v11, z11, hE⟩ := bd_some hE
  refine g_calliP C0 nd_M [] rfl (sb_E_M) (runS C0 (m_M_north l K ad h (2 * b0) z11) 1 ⟨t_1328, t_1329, t_97, t_1330⟩ cd_M_north (by decide) (sb_E_M) nd_E rfl rfl (Nat.le_of_ble_eq_true rfl) d_M_driven_11) ?_
  obtain ⟨v14, z14, hE⟩ := bd_some hE
  refine g_calliP C0 nd_M [100, 101, 102, 103, 104, 105, 106, 107, 108, 109, 110, 111, 112, 113, 114, 115] rfl (sbW_self WM) (runV C0 (m_M_beside l K ad h a0 v5 v11 z14) 3 rfl ⟨t_1331, t_1333, t_59, t_97, t_1334⟩ cd_M_beside (by decide) 0 rfl rfl (sbW_self WM) nd_M rfl rfl (Nat.le_of_ble_eq_true rfl) d_M_driven_14) ?_
  obtain rfl := Option.some.inj hE
  exact g_iret C0 hr d_M_driven_17
theorem m_M_driven (l : Launch) (K : KT) (ad : Nat → Nat) (h : Hp) (a0 : Int32) (b0 : Int32) {res : Int32} (hE : K_M_driven a0 b0 h = some res) : ConI l y_M_driven prog_13_method_35_code 3 (Option.some Jvm.ClassFile.FieldType.int) rm_M_driven K WM ad h [.ref (ad 100), .int a0, .int b0] res h := fun sz =>
  con_start [(0, .ref (ad 100)), (1, .int a0), (2, .int b0)] (by decide +kernel) rfl (Nat.le_of_ble_eq_true rfl) (fun p e s m args below meth c C0 hr hnm hsz => w_M_driven C0 hr a0 b0 h hE)
abbrev y_M_strokeFrom : MethodName := ⟨"CanoeSidesModel", "strokeFrom", "(IIII)V"⟩
abbrev rm_M_strokeFrom : Room := { frames := 4, cells := 0, slots := 0, locals := 94 }
theorem cd_M_strokeFrom : cwd y_M_strokeFrom 4 := by decide +kernel
theorem d_M_strokeFrom_0 : decode prog_13_method_36_code 0 = .ok (.aload_n 0, 1) := by decide +kernel
theorem d_M_strokeFrom_1 : decode prog_13_method_36_code 1 = .ok (.iload_n 3, 1) := by decide +kernel
theorem d_M_strokeFrom_2 : decode prog_13_method_36_code 2 = .ok (.iload 4, 2) := by decide +kernel
theorem d_M_strokeFrom_4 : decode prog_13_method_36_code 4 = .ok (.invokevirtual 186, 3) := by decide +kernel
theorem d_M_strokeFrom_7 : decode prog_13_method_36_code 7 = .ok (.bipush 8, 2) := by decide +kernel
theorem d_M_strokeFrom_9 : decode prog_13_method_36_code 9 = .ok (.irem, 1) := by decide +kernel
theorem d_M_strokeFrom_10 : decode prog_13_method_36_code 10 = .ok (.istore 5, 2) := by decide +kernel
theorem d_M_strokeFrom_12 : decode prog_13_method_36_code 12 = .ok (.aload_n 0, 1) := by decide +kernel
theorem d_M_strokeFrom_13 : decode prog_13_method_36_code 13 = .ok (.iload_n 2, 1) := by decide +kernel
theorem d_M_strokeFrom_14 : decode prog_13_method_36_code 14 = .ok (.iload 5, 2) := by decide +kernel
theorem d_M_strokeFrom_16 : decode prog_13_method_36_code 16 = .ok (.iadd, 1) := by decide +kernel
theorem d_M_strokeFrom_17 : decode prog_13_method_36_code 17 = .ok (.bipush 8, 2) := by decide +kernel
theorem d_M_strokeFrom_19 : decode prog_13_method_36_code 19 = .ok (.iadd, 1) := by decide +kernel
theorem d_M_strokeFrom_20 : decode prog_13_method_36_code 20 = .ok (.bipush 8, 2) := by decide +kernel
theorem d_M_strokeFrom_22 : decode prog_13_method_36_code 22 = .ok (.irem, 1) := by decide +kernel
theorem d_M_strokeFrom_23 : decode prog_13_method_36_code 23 = .ok (.putfield 189, 3) := by decide +kernel
theorem d_M_strokeFrom_26 : decode prog_13_method_36_code 26 = .ok (.aload_n 0, 1) := by decide +kernel
theorem d_M_strokeFrom_27 : decode prog_13_method_36_code 27 = .ok (.iload_n 3, 1) := by decide +kernel
theorem d_M_strokeFrom_28 : decode prog_13_method_36_code 28 = .ok (.iload 4, 2) := by decide +kernel
theorem d_M_strokeFrom_30 : decode prog_13_method_36_code 30 = .ok (.invokevirtual 192, 3) := by decide +kernel
theorem d_M_strokeFrom_33 : decode prog_13_method_36_code 33 = .ok (.istore 6, 2) := by decide +kernel
theorem d_M_strokeFrom_35 : decode prog_13_method_36_code 35 = .ok (.aload_n 0, 1) := by decide +kernel
theorem d_M_strokeFrom_36 : decode prog_13_method_36_code 36 = .ok (.iload_n 1, 1) := by decide +kernel
theorem d_M_strokeFrom_37 : decode prog_13_method_36_code 37 = .ok (.putfield 195, 3) := by decide +kernel
theorem d_M_strokeFrom_40 : decode prog_13_method_36_code 40 = .ok (.aload_n 0, 1) := by decide +kernel
theorem d_M_strokeFrom_41 : decode prog_13_method_36_code 41 = .ok (.getfield 17, 3) := by decide +kernel
theorem d_M_strokeFrom_44 : decode prog_13_method_36_code 44 = .ok (.iload_n 1, 1) := by decide +kernel
theorem d_M_strokeFrom_45 : decode prog_13_method_36_code 45 = .ok (.iaload, 1) := by decide +kernel
theorem d_M_strokeFrom_46 : decode prog_13_method_36_code 46 = .ok (.iconst 2, 1) := by decide +kernel
theorem d_M_strokeFrom_47 : decode prog_13_method_36_code 47 = .ok (.if_icmp .eq 65, 3) := by decide +kernel
theorem d_M_strokeFrom_50 : decode prog_13_method_36_code 50 = .ok (.iload 6, 2) := by decide +kernel
theorem d_M_strokeFrom_52 : decode prog_13_method_36_code 52 = .ok (.ifCond .ge 7, 3) := by decide +kernel
theorem d_M_strokeFrom_55 : decode prog_13_method_36_code 55 = .ok (.iconst (-1), 1) := by decide +kernel
theorem d_M_strokeFrom_56 : decode prog_13_method_36_code 56 = .ok (.goto 4, 3) := by decide +kernel
theorem d_M_strokeFrom_59 : decode prog_13_method_36_code 59 = .ok (.iconst 1, 1) := by decide +kernel
theorem d_M_strokeFrom_60 : decode prog_13_method_36_code 60 = .ok (.istore 7, 2) := by decide +kernel
theorem d_M_strokeFrom_62 : decode prog_13_method_36_code 62 = .ok (.iload 6, 2) := by decide +kernel
theorem d_M_strokeFrom_64 : decode prog_13_method_36_code 64 = .ok (.iload 7, 2) := by decide +kernel
theorem d_M_strokeFrom_66 : decode prog_13_method_36_code 66 = .ok (.imul, 1) := by decide +kernel
theorem d_M_strokeFrom_67 : decode prog_13_method_36_code 67 = .ok (.istore 8, 2) := by decide +kernel
theorem d_M_strokeFrom_69 : decode prog_13_method_36_code 69 = .ok (.iload 8, 2) := by decide +kernel
theorem d_M_strokeFrom_71 : decode prog_13_method_36_code 71 = .ok (.ifCond .le 41, 3) := by decide +kernel
theorem d_M_strokeFrom_74 : decode prog_13_method_36_code 74 = .ok (.aload_n 0, 1) := by decide +kernel
theorem d_M_strokeFrom_75 : decode prog_13_method_36_code 75 = .ok (.aload_n 0, 1) := by decide +kernel
theorem d_M_strokeFrom_76 : decode prog_13_method_36_code 76 = .ok (.aload_n 0, 1) := by decide +kernel
theorem d_M_strokeFrom_77 : decode prog_13_method_36_code 77 = .ok (.getfield 195, 3) := by decide +kernel
theorem d_M_strokeFrom_80 : decode prog_13_method_36_code 80 = .ok (.iload 7, 2) := by decide +kernel
theorem d_M_strokeFrom_82 : decode prog_13_method_36_code 82 = .ok (.aload_n 0, 1) := by decide +kernel
theorem d_M_strokeFrom_83 : decode prog_13_method_36_code 83 = .ok (.getfield 189, 3) := by decide +kernel
theorem d_M_strokeFrom_86 : decode prog_13_method_36_code 86 = .ok (.invokestatic 176, 3) := by decide +kernel
theorem d_M_strokeFrom_89 : decode prog_13_method_36_code 89 = .ok (.imul, 1) := by decide +kernel
theorem d_M_strokeFrom_90 : decode prog_13_method_36_code 90 = .ok (.iload 7, 2) := by decide +kernel
theorem d_M_strokeFrom_92 : decode prog_13_method_36_code 92 = .ok (.aload_n 0, 1) := by decide +kernel
theorem d_M_strokeFrom_93 : decode prog_13_method_36_code 93 = .ok (.getfield 189, 3) := by decide +kernel
theorem d_M_strokeFrom_96 : decode prog_13_method_36_code 96 = .ok (.invokestatic 179, 3) := by decide +kernel
theorem d_M_strokeFrom_99 : decode prog_13_method_36_code 99 = .ok (.imul, 1) := by decide +kernel
theorem d_M_strokeFrom_100 : decode prog_13_method_36_code 100 = .ok (.invokevirtual 182, 3) := by decide +kernel
theorem d_M_strokeFrom_103 : decode prog_13_method_36_code 103 = .ok (.putfield 195, 3) := by decide +kernel
theorem d_M_strokeFrom_106 : decode prog_13_method_36_code 106 = .ok (.iinc 8 (-1), 3) := by decide +kernel
theorem d_M_strokeFrom_109 : decode prog_13_method_36_code 109 = .ok (.goto (-40), 3) := by decide +kernel
theorem d_M_strokeFrom_112 : decode prog_13_method_36_code 112 = .ok (.aload_n 0, 1) := by decide +kernel
theorem d_M_strokeFrom_113 : decode prog_13_method_36_code 113 = .ok (.getfield 17, 3) := by decide +kernel
theorem d_M_strokeFrom_116 : decode prog_13_method_36_code 116 = .ok (.aload_n 0, 1) := by decide +kernel
theorem d_M_strokeFrom_117 : decode prog_13_method_36_code 117 = .ok (.getfield 195, 3) := by decide +kernel
theorem d_M_strokeFrom_120 : decode prog_13_method_36_code 120 = .ok (.iaload, 1) := by decide +kernel
theorem d_M_strokeFrom_121 : decode prog_13_method_36_code 121 = .ok (.istore 7, 2) := by decide +kernel
theorem d_M_strokeFrom_123 : decode prog_13_method_36_code 123 = .ok (.aload_n 0, 1) := by decide +kernel
theorem d_M_strokeFrom_124 : decode prog_13_method_36_code 124 = .ok (.iload 7, 2) := by decide +kernel
theorem d_M_strokeFrom_126 : decode prog_13_method_36_code 126 = .ok (.iconst 2, 1) := by decide +kernel
theorem d_M_strokeFrom_127 : decode prog_13_method_36_code 127 = .ok (.if_icmp .le 18, 3) := by decide +kernel
theorem d_M_strokeFrom_130 : decode prog_13_method_36_code 130 = .ok (.aload_n 0, 1) := by decide +kernel
theorem d_M_strokeFrom_131 : decode prog_13_method_36_code 131 = .ok (.aload_n 0, 1) := by decide +kernel
theorem d_M_strokeFrom_132 : decode prog_13_method_36_code 132 = .ok (.getfield 195, 3) := by decide +kernel
theorem d_M_strokeFrom_135 : decode prog_13_method_36_code 135 = .ok (.iload 7, 2) := by decide +kernel
theorem d_M_strokeFrom_137 : decode prog_13_method_36_code 137 = .ok (.iconst 3, 1) := by decide +kernel
theorem d_M_strokeFrom_138 : decode prog_13_method_36_code 138 = .ok (.isub, 1) := by decide +kernel
theorem d_M_strokeFrom_139 : decode prog_13_method_36_code 139 = .ok (.invokevirtual 198, 3) := by decide +kernel
theorem d_M_strokeFrom_142 : decode prog_13_method_36_code 142 = .ok (.goto 7, 3) := by decide +kernel
theorem d_M_strokeFrom_145 : decode prog_13_method_36_code 145 = .ok (.aload_n 0, 1) := by decide +kernel
theorem d_M_strokeFrom_146 : decode prog_13_method_36_code 146 = .ok (.getfield 195, 3) := by decide +kernel
theorem d_M_strokeFrom_149 : decode prog_13_method_36_code 149 = .ok (.putfield 195, 3) := by decide +kernel
theorem d_M_strokeFrom_152 : decode prog_13_method_36_code 152 = .ok (.return_, 1) := by decide +kernel
theorem w_M_strokeFrom_J149 {p : Program} {l : Launch} {e : Env} {s : State} {m : MethodId} {args : Array Value} {below : List Frame} {meth : Method} {c : Code} {K : KT} {A : Nat → Prop} (C0 : Cx p s m args meth c prog_13_method_36_code "CanoeSidesModel" 9 K A) (hr : meth.sig.returnType = (Option.none : Option Jvm.ClassFile.FieldType)) {ad : Nat → Nat} (N : Nat) (y1 : Int32) (h : Hp) {res : Hp} (hE : K_M_strokeFrom_J149 N y1 h = some res) : G p l e rm_M_strokeFrom s m args below meth c K A WM 9 0 0 (QV s args below K A WM 0 0 ad res) 149 [] [.int y1, .ref (ad 100)] ad h := by
  unfold K_M_strokeFrom_J149 at hE
  obtain ⟨h149, e149, hE⟩ := nm_some hE
  refine g_puti C0 CK_11 CT_11 13 (by decide) t_1103 rfl (by decide +kernel) nd_M 0 rfl rfl d_M_strokeFrom_149 ?_
  refine g_heap e149 ?_
  obtain rfl := Option.some.inj hE
  exact g_vret C0 hr d_M_strokeFrom_152
theorem w_M_strokeFrom_J112 {p : Program} {l : Launch} {e : Env} {s : State} {m : MethodId} {args : Array Value} {below : List Frame} {meth : Method} {c : Code} {K : KT} {A : Nat → Prop} (C0 : Cx p s m args meth c prog_13_method_36_code "CanoeSidesModel" 9 K A) (hr : meth.sig.returnType = (Option.none : Option Jvm.ClassFile.FieldType)) {ad : Nat → Nat} (N : Nat) (h : Hp) {res : Hp} (hE : K_M_strokeFrom_J112 N h = some res) : G p l e rm_M_strokeFrom s m args below meth c K A WM 9 0 0 (QV s args below K A WM 0 0 ad res) 112 [(0, .ref (ad 100))] [] ad h := by
  unfold K_M_strokeFrom_J112 at hE
  refine g_aload_n C0 0 d_M_strokeFrom_112 rfl rfl ?_
  refine g_getr C0 CK_11 2 (by decide) t_1092 0 rfl rfl d_M_strokeFrom_113 ?_
  refine g_aload_n C0 0 d_M_strokeFrom_116 rfl rfl ?_
  refine g_geti C0 CK_11 13 (by decide) t_1103 0 rfl rfl d_M_strokeFrom_117 ?_
  obtain ⟨q120, v120, e120, hE⟩ := gA_some hE
  refine g_iald C0 3 rfl q120 d_M_strokeFrom_120 ?_
  refine g_top e120 ?_
  refine g_istore C0 [(7, .int v120), (0, .ref (ad 100))] d_M_strokeFrom_121 (by decide) rfl ?_
  refine g_aload_n C0 1 d_M_strokeFrom_123 rfl rfl ?_
  refine g_iload C0 0 d_M_strokeFrom_124 rfl ?_
  refine g_iconst C0 (v := 2) d_M_strokeFrom_126 (by decide) ?_
  have hB := ite_some hE
  refine g_icmp_le C0 (tgt := 145) d_M_strokeFrom_127 (by decide) (fun c_ => ?_) (fun c_ => ?_)
  · replace hE := hB.1 c_
    refine g_aload_n C0 1 d_M_strokeFrom_145 rfl rfl ?_
    refine g_geti C0 CK_11 13 (by decide) t_1103 0 rfl rfl d_M_strokeFrom_146 ?_
    refine g_sub [] (L' := []) rfl ?_
    exact w_M_strokeFrom_J149 C0 hr N (h 100 13) h hE
  · replace hE := hB.2 c_
    refine g_aload_n C0 1 d_M_strokeFrom_130 rfl rfl ?_
    refine g_aload_n C0 1 d_M_strokeFrom_131 rfl rfl ?_
    refine g_geti C0 CK_11 13 (by decide) t_1103 0 rfl rfl d_M_strokeFrom_132 ?_
    refine g_iload C0 0 d_M_strokeFrom_135 rfl ?_
    refine g_iconst C0 (v := 3) d_M_strokeFrom_137 (by decide) ?_
    refine g_isub C0 d_M_strokeFrom_138 ?_
    obtain ⟨v139, z139, hE⟩ := bd_some hE
    refine g_calliP C0 nd_M [100, 101, 102, 103, 104, 105, 106, 107, 108, 109, 110, 111, 112, 113, 114, 115] rfl (sbW_self WM) (runV C0 (m_M_driven l K ad h (h 100 13) (v120 - 3) z139) 2 rfl ⟨t_1335, t_1337, t_60, t_97, t_1338⟩ cd_M_driven (by decide) 0 rfl rfl (sbW_self WM) nd_M rfl rfl (Nat.le_of_ble_eq_true rfl) d_M_strokeFrom_139) ?_
    refine g_goto C0 (tgt := 149) d_M_strokeFrom_142 (by decide) ?_
    refine g_sub [] (L' := []) rfl ?_
    exact w_M_strokeFrom_J149 C0 hr N v139 h hE
theorem w_M_strokeFrom_L69 {p : Program} {l : Launch} {e : Env} {s : State} {m : MethodId} {args : Array Value} {below : List Frame} {meth : Method} {c : Code} {K : KT} {A : Nat → Prop} {Q : State → Prop} (C0 : Cx p s m args meth c prog_13_method_36_code "CanoeSidesModel" 9 K A) (hr : meth.sig.returnType = (Option.none : Option Jvm.ClassFile.FieldType)) {ad : Nat → Nat} (N : Nat) (x7 : Int32) (x8 : Int32) (h : Hp) {x_ : (Int32 × Hp) ⊕ (Hp)} (hE : K_M_strokeFrom_L69 N x7 x8 h = some x_) (hk1 : ∀ z_, x_ = .inl z_ → G p l e rm_M_strokeFrom s m args below meth c K A WM 9 0 0 Q 69 [(0, .ref (ad 100)), (7, .int x7), (8, .int z_.1)] [] ad z_.2) (hk3 : ∀ z_, x_ = .inr z_ → G p l e rm_M_strokeFrom s m args below meth c K A WM 9 0 0 Q 112 [(0, .ref (ad 100))] [] ad z_) : G p l e rm_M_strokeFrom s m args below meth c K A WM 9 0 0 Q 69 [(0, .ref (ad 100)), (7, .int x7), (8, .int x8)] [] ad h := by
  unfold K_M_strokeFrom_L69 at hE
  refine g_iload C0 2 d_M_strokeFrom_69 rfl ?_
  have hB := ite_some hE
  refine g_if_le C0 (tgt := 112) d_M_strokeFrom_71 (by decide) (fun c_ => ?_) (fun c_ => ?_)
  · replace hE := hB.1 c_
    refine g_sub [0] (L' := [(0, .ref (ad 100))]) rfl ?_
    exact hk3 _ (Option.some.inj hE).symm
  · replace hE := hB.2 c_
    refine g_aload_n C0 0 d_M_strokeFrom_74 rfl rfl ?_
    refine g_aload_n C0 0 d_M_strokeFrom_75 rfl rfl ?_
    refine g_aload_n C0 0 d_M_strokeFrom_76 rfl rfl ?_
    refine g_geti C0 CK_11 13 (by decide) t_1103 0 rfl rfl d_M_strokeFrom_77 ?_
    refine g_iload C0 1 d_M_strokeFrom_80 rfl ?_
    refine g_aload_n C0 0 d_M_strokeFrom_82 rfl rfl ?_
    refine g_geti C0 CK_11 14 (by decide) t_1104 0 rfl rfl d_M_strokeFrom_83 ?_
    obtain ⟨v86, z86, hE⟩ := bd_some hE
    refine g_calliP C0 nd_M [] rfl (sb_E_M) (runS C0 (m_M_east l K ad h (h 100 14) z86) 1 ⟨t_1323, t_1324, t_97, t_1325⟩ cd_M_east (by decide) (sb_E_M) nd_E rfl rfl (Nat.le_of_ble_eq_true rfl) d_M_strokeFrom_86) ?_
    refine g_imul C0 d_M_strokeFrom_89 ?_
    refine g_iload C0 1 d_M_strokeFrom_90 rfl ?_
    refine g_aload_n C0 0 d_M_strokeFrom_92 rfl rfl ?_
    refine g_geti C0 CK_11 14 (by decide) t_1104 0 rfl rfl d_M_strokeFrom_93 ?_
    obtain ⟨v96, z96, hE⟩ := bd_some hE
    refine g_calliP C0 nd_M [] rfl (sb_E_M) (runS C0 (m_M_north l K ad h (h 100 14) z96) 1 ⟨t_1328, t_1329, t_97, t_1330⟩ cd_M_north (by decide) (sb_E_M) nd_E rfl rfl (Nat.le_of_ble_eq_true rfl) d_M_strokeFrom_96) ?_
    refine g_imul C0 d_M_strokeFrom_99 ?_
    obtain ⟨v100, z100, hE⟩ := bd_some hE
    refine g_calliP C0 nd_M [100, 101, 102, 103, 104, 105, 106, 107, 108, 109, 110, 111, 112, 113, 114, 115] rfl (sbW_self WM) (runV C0 (m_M_beside l K ad h (h 100 13) (x7 * v86) (x7 * v96) z100) 3 rfl ⟨t_1331, t_1333, t_59, t_97, t_1334⟩ cd_M_beside (by decide) 0 rfl rfl (sbW_self WM) nd_M rfl rfl (Nat.le_of_ble_eq_true rfl) d_M_strokeFrom_100) ?_
    obtain ⟨h103, e103, hE⟩ := nm_some hE
    refine g_puti C0 CK_11 CT_11 13 (by decide) t_1103 rfl (by decide +kernel) nd_M 0 rfl rfl d_M_strokeFrom_103 ?_
    refine g_heap e103 ?_
    obtain ⟨v106, e106, hE⟩ := nm_some hE
    refine g_iinc C0 2 [(8, .int v106), (0, .ref (ad 100)), (7, .int x7)] d_M_strokeFrom_106 rfl (by rw [e106]; rfl) (by decide) rfl ?_
    refine g_goto C0 (tgt := 69) d_M_strokeFrom_109 (by decide) ?_
    refine g_sub [1, 2, 0] (L' := [(0, .ref (ad 100)), (7, .int x7), (8, .int v106)]) rfl ?_
    exact hk1 _ (Option.some.inj hE).symm
theorem w_M_strokeFrom_J60 {p : Program} {l : Launch} {e : Env} {s : State} {m : MethodId} {args : Array Value} {below : List Frame} {meth : Method} {c : Code} {K : KT} {A : Nat → Prop} (C0 : Cx p s m args meth c prog_13_method_36_code "CanoeSidesModel" 9 K A) (hr : meth.sig.returnType = (Option.none : Option Jvm.ClassFile.FieldType)) {ad : Nat → Nat} (N : Nat) (x6 : Int32) (y0 : Int32) (h : Hp) {res : Hp} (hE : K_M_strokeFrom_J60 N x6 y0 h = some res) : G p l e rm_M_strokeFrom s m args below meth c K A WM 9 0 0 (QV s args below K A WM 0 0 ad res) 60 [(0, .ref (ad 100)), (6, .int x6)] [.int y0] ad h := by
  unfold K_M_strokeFrom_J60 at hE
  refine g_istore C0 [(7, .int y0), (0, .ref (ad 100)), (6, .int x6)] d_M_strokeFrom_60 (by decide) rfl ?_
  refine g_iload C0 2 d_M_strokeFrom_62 rfl ?_
  refine g_iload C0 0 d_M_strokeFrom_64 rfl ?_
  refine g_imul C0 d_M_strokeFrom_66 ?_
  obtain ⟨v67, e67, hE⟩ := nm_some hE
  refine g_top e67 ?_
  refine g_istore C0 [(8, .int v67), (7, .int y0), (0, .ref (ad 100)), (6, .int x6)] d_M_strokeFrom_67 (by decide) rfl ?_
  refine g_sub [2, 1, 0] (L' := [(0, .ref (ad 100)), (7, .int y0), (8, .int v67)]) rfl ?_
  obtain ⟨t69, z69, hE⟩ := bd_some hE
  refine loopG (fun z_ : Int32 × Hp => K_M_strokeFrom_L69 N y0 z_.1 z_.2) (fun z_ : Int32 × Hp => G p l e rm_M_strokeFrom s m args below meth c K A WM 9 0 0 _ 69 [(0, .ref (ad 100)), (7, .int y0), (8, .int z_.1)] [] ad z_.2) (fun z_ : Hp => G p l e rm_M_strokeFrom s m args below meth c K A WM 9 0 0 _ 112 [(0, .ref (ad 100))] [] ad z_) (fun z_ x_ hz k1 k2 => w_M_strokeFrom_L69 C0 hr N y0 z_.1 z_.2 hz k1 k2) _ _ _ z69 ?_
  try dsimp only
  exact w_M_strokeFrom_J112 C0 hr N t69 hE
theorem w_M_strokeFrom {p : Program} {l : Launch} {e : Env} {s : State} {m : MethodId} {args : Array Value} {below : List Frame} {meth : Method} {c : Code} {K : KT} {A : Nat → Prop} (C0 : Cx p s m args meth c prog_13_method_36_code "CanoeSidesModel" 9 K A) (hr : meth.sig.returnType = (Option.none : Option Jvm.ClassFile.FieldType)) {ad : Nat → Nat} (N : Nat) (a0 : Int32) (b0 : Int32) (c0 : Int32) (d0 : Int32) (h : Hp) {res : Hp} (hE : K_M_strokeFrom N a0 b0 c0 d0 h = some res) : G p l e rm_M_strokeFrom s m args below meth c K A WM 9 0 0 (QV s args below K A WM 0 0 ad res) 0 [(0, .ref (ad 100)), (1, .int a0), (2, .int b0), (3, .int c0), (4, .int d0)] [] ad h := by
  unfold K_M_strokeFrom at hE
  refine g_aload_n C0 0 d_M_strokeFrom_0 rfl rfl ?_
  refine g_iload_n C0 3 d_M_strokeFrom_1 rfl rfl ?_
  refine g_iload C0 4 d_M_strokeFrom_2 rfl ?_
  obtain ⟨v4, z4, hE⟩ := bd_some hE
  refine g_calliP C0 nd_M [100, 101, 102, 103, 104, 105, 106, 107, 108, 109, 110, 111, 112, 113, 114, 115] rfl (sbW_self WM) (runV C0 (m_M_turnBy l K ad h c0 d0 z4) 2 rfl ⟨t_1309, t_1311, t_57, t_97, t_1312⟩ cd_M_turnBy (by decide) 0 rfl rfl (sbW_self WM) nd_M rfl rfl (Nat.le_of_ble_eq_true rfl) d_M_strokeFrom_4) ?_
  refine g_bipush C0 (v := 8) d_M_strokeFrom_7 (by decide) ?_
  refine g_irem C0 d_M_strokeFrom_9 (by decide) ?_
  obtain ⟨v10, e10, hE⟩ := nm_some hE
  refine g_top e10 ?_
  refine g_istore C0 [(5, .int v10), (0, .ref (ad 100)), (1, .int a0), (2, .int b0), (3, .int c0), (4, .int d0)] d_M_strokeFrom_10 (by decide) rfl ?_
  refine g_aload_n C0 1 d_M_strokeFrom_12 rfl rfl ?_
  refine g_iload_n C0 3 d_M_strokeFrom_13 rfl rfl ?_
  refine g_iload C0 0 d_M_strokeFrom_14 rfl ?_
  refine g_iadd C0 d_M_strokeFrom_16 ?_
  refine g_bipush C0 (v := 8) d_M_strokeFrom_17 (by decide) ?_
  refine g_iadd C0 d_M_strokeFrom_19 ?_
  refine g_bipush C0 (v := 8) d_M_strokeFrom_20 (by decide) ?_
  refine g_irem C0 d_M_strokeFrom_22 (by decide) ?_
  obtain ⟨h23, e23, hE⟩ := nm_some hE
  refine g_puti C0 CK_11 CT_11 14 (by decide) t_1104 rfl (by decide +kernel) nd_M 0 rfl rfl d_M_strokeFrom_23 ?_
  refine g_heap e23 ?_
  refine g_aload_n C0 1 d_M_strokeFrom_26 rfl rfl ?_
  refine g_iload_n C0 4 d_M_strokeFrom_27 rfl rfl ?_
  refine g_iload C0 5 d_M_strokeFrom_28 rfl ?_
  obtain ⟨v30, z30, hE⟩ := bd_some hE
  refine g_calliP C0 nd_M [100, 101, 102, 103, 104, 105, 106, 107, 108, 109, 110, 111, 112, 113, 114, 115] rfl (sbW_self WM) (runV C0 (m_M_pushBy l K ad h23 c0 d0 z30) 2 rfl ⟨t_1316, t_1318, t_58, t_97, t_1319⟩ cd_M_pushBy (by decide) 0 rfl rfl (sbW_self WM) nd_M rfl rfl (Nat.le_of_ble_eq_true rfl) d_M_strokeFrom_30) ?_
  refine g_istore C0 [(6, .int v30), (5, .int v10), (0, .ref (ad 100)), (1, .int a0), (2, .int b0), (3, .int c0), (4, .int d0)] d_M_strokeFrom_33 (by decide) rfl ?_
  refine g_aload_n C0 2 d_M_strokeFrom_35 rfl rfl ?_
  refine g_iload_n C0 3 d_M_strokeFrom_36 rfl rfl ?_
  obtain ⟨h37, e37, hE⟩ := nm_some hE
  refine g_puti C0 CK_11 CT_11 13 (by decide) t_1103 rfl (by decide +kernel) nd_M 0 rfl rfl d_M_strokeFrom_37 ?_
  refine g_heap e37 ?_
  refine g_aload_n C0 2 d_M_strokeFrom_40 rfl rfl ?_
  refine g_getr C0 CK_11 2 (by decide) t_1092 0 rfl rfl d_M_strokeFrom_41 ?_
  refine g_iload_n C0 3 d_M_strokeFrom_44 rfl rfl ?_
  obtain ⟨q45, v45, e45, hE⟩ := gA_some hE
  refine g_iald C0 3 rfl q45 d_M_strokeFrom_45 ?_
  refine g_top e45 ?_
  refine g_iconst C0 (v := 2) d_M_strokeFrom_46 (by decide) ?_
  have hB := ite_some hE
  refine g_icmp_eq C0 (tgt := 112) d_M_strokeFrom_47 (by decide) (fun c_ => ?_) (fun c_ => ?_)
  · replace hE := hB.1 c_
    refine g_sub [2] (L' := [(0, .ref (ad 100))]) rfl ?_
    exact w_M_strokeFrom_J112 C0 hr N h37 hE
  · replace hE := hB.2 c_
    refine g_iload C0 0 d_M_strokeFrom_50 rfl ?_
    have hB := ite_some hE
    refine g_if_ge C0 (tgt := 59) d_M_strokeFrom_52 (by decide) (fun c_ => ?_) (fun c_ => ?_)
    · replace hE := hB.1 c_
      refine g_iconst C0 (v := 1) d_M_strokeFrom_59 (by decide) ?_
      refine g_sub [2, 0] (L' := [(0, .ref (ad 100)), (6, .int v30)]) rfl ?_
      exact w_M_strokeFrom_J60 C0 hr N v30 1 h37 hE
    · replace hE := hB.2 c_
      refine g_iconst C0 (v := (-1)) d_M_strokeFrom_55 (by decide) ?_
      refine g_goto C0 (tgt := 60) d_M_strokeFrom_56 (by decide) ?_
      refine g_sub [2, 0] (L' := [(0, .ref (ad 100)), (6, .int v30)]) rfl ?_
      exact w_M_strokeFrom_J60 C0 hr N v30 (-1) h37 hE
theorem m_M_strokeFrom (l : Launch) (K : KT) (ad : Nat → Nat) (h : Hp) (N : Nat) (a0 : Int32) (b0 : Int32) (c0 : Int32) (d0 : Int32) {res : Hp} (hE : K_M_strokeFrom N a0 b0 c0 d0 h = some res) : ConV l y_M_strokeFrom prog_13_method_36_code 9 (Option.none : Option Jvm.ClassFile.FieldType) rm_M_strokeFrom K WM ad h [.ref (ad 100), .int a0, .int b0, .int c0, .int d0] res := fun sz =>
  con_start [(0, .ref (ad 100)), (1, .int a0), (2, .int b0), (3, .int c0), (4, .int d0)] (by decide +kernel) rfl (Nat.le_of_ble_eq_true rfl) (fun p e s m args below meth c C0 hr hnm hsz => w_M_strokeFrom C0 hr N a0 b0 c0 d0 h hE)
abbrev y_M_windAt : MethodName := ⟨"CanoeSidesModel", "windAt", "(I)V"⟩
abbrev rm_M_windAt : Room := { frames := 4, cells := 0, slots := 0, locals := 94 }
theorem cd_M_windAt : cwd y_M_windAt 1 := by decide +kernel
theorem d_M_windAt_0 : decode prog_13_method_37_code 0 = .ok (.aload_n 0, 1) := by decide +kernel
theorem d_M_windAt_1 : decode prog_13_method_37_code 1 = .ok (.getfield 20, 3) := by decide +kernel
theorem d_M_windAt_4 : decode prog_13_method_37_code 4 = .ok (.bipush 10, 2) := by decide +kernel
theorem d_M_windAt_6 : decode prog_13_method_37_code 6 = .ok (.iaload, 1) := by decide +kernel
theorem d_M_windAt_7 : decode prog_13_method_37_code 7 = .ok (.ifCond .lt 19, 3) := by decide +kernel
theorem d_M_windAt_10 : decode prog_13_method_37_code 10 = .ok (.iload_n 1, 1) := by decide +kernel
theorem d_M_windAt_11 : decode prog_13_method_37_code 11 = .ok (.aload_n 0, 1) := by decide +kernel
theorem d_M_windAt_12 : decode prog_13_method_37_code 12 = .ok (.getfield 20, 3) := by decide +kernel
theorem d_M_windAt_15 : decode prog_13_method_37_code 15 = .ok (.bipush 11, 2) := by decide +kernel
theorem d_M_windAt_17 : decode prog_13_method_37_code 17 = .ok (.iaload, 1) := by decide +kernel
theorem d_M_windAt_18 : decode prog_13_method_37_code 18 = .ok (.irem, 1) := by decide +kernel
theorem d_M_windAt_19 : decode prog_13_method_37_code 19 = .ok (.ifCond .ne 7, 3) := by decide +kernel
theorem d_M_windAt_22 : decode prog_13_method_37_code 22 = .ok (.iconst 1, 1) := by decide +kernel
theorem d_M_windAt_23 : decode prog_13_method_37_code 23 = .ok (.goto 4, 3) := by decide +kernel
theorem d_M_windAt_26 : decode prog_13_method_37_code 26 = .ok (.iconst 0, 1) := by decide +kernel
theorem d_M_windAt_27 : decode prog_13_method_37_code 27 = .ok (.istore_n 2, 1) := by decide +kernel
theorem d_M_windAt_28 : decode prog_13_method_37_code 28 = .ok (.aload_n 0, 1) := by decide +kernel
theorem d_M_windAt_29 : decode prog_13_method_37_code 29 = .ok (.iload_n 2, 1) := by decide +kernel
theorem d_M_windAt_30 : decode prog_13_method_37_code 30 = .ok (.ifCond .eq 21, 3) := by decide +kernel
theorem d_M_windAt_33 : decode prog_13_method_37_code 33 = .ok (.aload_n 0, 1) := by decide +kernel
theorem d_M_windAt_34 : decode prog_13_method_37_code 34 = .ok (.aload_n 0, 1) := by decide +kernel
theorem d_M_windAt_35 : decode prog_13_method_37_code 35 = .ok (.getfield 195, 3) := by decide +kernel
theorem d_M_windAt_38 : decode prog_13_method_37_code 38 = .ok (.aload_n 0, 1) := by decide +kernel
theorem d_M_windAt_39 : decode prog_13_method_37_code 39 = .ok (.getfield 20, 3) := by decide +kernel
theorem d_M_windAt_42 : decode prog_13_method_37_code 42 = .ok (.bipush 10, 2) := by decide +kernel
theorem d_M_windAt_44 : decode prog_13_method_37_code 44 = .ok (.iaload, 1) := by decide +kernel
theorem d_M_windAt_45 : decode prog_13_method_37_code 45 = .ok (.invokevirtual 198, 3) := by decide +kernel
theorem d_M_windAt_48 : decode prog_13_method_37_code 48 = .ok (.goto 7, 3) := by decide +kernel
theorem d_M_windAt_51 : decode prog_13_method_37_code 51 = .ok (.aload_n 0, 1) := by decide +kernel
theorem d_M_windAt_52 : decode prog_13_method_37_code 52 = .ok (.getfield 195, 3) := by decide +kernel
theorem d_M_windAt_55 : decode prog_13_method_37_code 55 = .ok (.putfield 195, 3) := by decide +kernel
theorem d_M_windAt_58 : decode prog_13_method_37_code 58 = .ok (.return_, 1) := by decide +kernel
theorem w_M_windAt_J55 {p : Program} {l : Launch} {e : Env} {s : State} {m : MethodId} {args : Array Value} {below : List Frame} {meth : Method} {c : Code} {K : KT} {A : Nat → Prop} (C0 : Cx p s m args meth c prog_13_method_37_code "CanoeSidesModel" 3 K A) (hr : meth.sig.returnType = (Option.none : Option Jvm.ClassFile.FieldType)) {ad : Nat → Nat} (y1 : Int32) (h : Hp) {res : Hp} (hE : K_M_windAt_J55 y1 h = some res) : G p l e rm_M_windAt s m args below meth c K A WM 3 0 0 (QV s args below K A WM 0 0 ad res) 55 [] [.int y1, .ref (ad 100)] ad h := by
  unfold K_M_windAt_J55 at hE
  obtain ⟨h55, e55, hE⟩ := nm_some hE
  refine g_puti C0 CK_11 CT_11 13 (by decide) t_1103 rfl (by decide +kernel) nd_M 0 rfl rfl d_M_windAt_55 ?_
  refine g_heap e55 ?_
  obtain rfl := Option.some.inj hE
  exact g_vret C0 hr d_M_windAt_58
theorem w_M_windAt_J27 {p : Program} {l : Launch} {e : Env} {s : State} {m : MethodId} {args : Array Value} {below : List Frame} {meth : Method} {c : Code} {K : KT} {A : Nat → Prop} (C0 : Cx p s m args meth c prog_13_method_37_code "CanoeSidesModel" 3 K A) (hr : meth.sig.returnType = (Option.none : Option Jvm.ClassFile.FieldType)) {ad : Nat → Nat} (y0 : Int32) (h : Hp) {res : Hp} (hE : K_M_windAt_J27 y0 h = some res) : G p l e rm_M_windAt s m args below meth c K A WM 3 0 0 (QV s args below K A WM 0 0 ad res) 27 [(0, .ref (ad 100))] [.int y0] ad h := by
  unfold K_M_windAt_J27 at hE
  refine g_istore_n C0 [(2, .int y0), (0, .ref (ad 100))] d_M_windAt_27 rfl (by decide) rfl ?_
  refine g_aload_n C0 1 d_M_windAt_28 rfl rfl ?_
  refine g_iload_n C0 0 d_M_windAt_29 rfl rfl ?_
  have hB := ite_some hE
  refine g_if_eq C0 (tgt := 51) d_M_windAt_30 (by decide) (fun c_ => ?_) (fun c_ => ?_)
  · replace hE := hB.1 c_
    refine g_aload_n C0 1 d_M_windAt_51 rfl rfl ?_
    refine g_geti C0 CK_11 13 (by decide) t_1103 0 rfl rfl d_M_windAt_52 ?_
    refine g_sub [] (L' := []) rfl ?_
    exact w_M_windAt_J55 C0 hr (h 100 13) h hE
  · replace hE := hB.2 c_
    refine g_aload_n C0 1 d_M_windAt_33 rfl rfl ?_
    refine g_aload_n C0 1 d_M_windAt_34 rfl rfl ?_
    refine g_geti C0 CK_11 13 (by decide) t_1103 0 rfl rfl d_M_windAt_35 ?_
    refine g_aload_n C0 1 d_M_windAt_38 rfl rfl ?_
    refine g_getr C0 CK_11 3 (by decide) t_1093 0 rfl rfl d_M_windAt_39 ?_
    refine g_bipush C0 (v := 10) d_M_windAt_42 (by decide) ?_
    obtain ⟨q44, v44, e44, hE⟩ := gA_some hE
    refine g_iald C0 4 rfl q44 d_M_windAt_44 ?_
    refine g_top e44 ?_
    obtain ⟨v45, z45, hE⟩ := bd_some hE
    refine g_calliP C0 nd_M [100, 101, 102, 103, 104, 105, 106, 107, 108, 109, 110, 111, 112, 113, 114, 115] rfl (sbW_self WM) (runV C0 (m_M_driven l K ad h (h 100 13) v44 z45) 2 rfl ⟨t_1335, t_1337, t_60, t_97, t_1338⟩ cd_M_driven (by decide) 0 rfl rfl (sbW_self WM) nd_M rfl rfl (Nat.le_of_ble_eq_true rfl) d_M_windAt_45) ?_
    refine g_goto C0 (tgt := 55) d_M_windAt_48 (by decide) ?_
    refine g_sub [] (L' := []) rfl ?_
    exact w_M_windAt_J55 C0 hr v45 h hE
theorem w_M_windAt_J26 {p : Program} {l : Launch} {e : Env} {s : State} {m : MethodId} {args : Array Value} {below : List Frame} {meth : Method} {c : Code} {K : KT} {A : Nat → Prop} (C0 : Cx p s m args meth c prog_13_method_37_code "CanoeSidesModel" 3 K A) (hr : meth.sig.returnType = (Option.none : Option Jvm.ClassFile.FieldType)) {ad : Nat → Nat} (h : Hp) {res : Hp} (hE : K_M_windAt_J26 h = some res) : G p l e rm_M_windAt s m args below meth c K A WM 3 0 0 (QV s args below K A WM 0 0 ad res) 26 [(0, .ref (ad 100))] [] ad h := by
  unfold K_M_windAt_J26 at hE
  refine g_iconst C0 (v := 0) d_M_windAt_26 (by decide) ?_
  exact w_M_windAt_J27 C0 hr 0 h hE
theorem w_M_windAt {p : Program} {l : Launch} {e : Env} {s : State} {m : MethodId} {args : Array Value} {below : List Frame} {meth : Method} {c : Code} {K : KT} {A : Nat → Prop} (C0 : Cx p s m args meth c prog_13_method_37_code "CanoeSidesModel" 3 K A) (hr : meth.sig.returnType = (Option.none : Option Jvm.ClassFile.FieldType)) {ad : Nat → Nat} (a0 : Int32) (h : Hp) {res : Hp} (hE : K_M_windAt a0 h = some res) : G p l e rm_M_windAt s m args below meth c K A WM 3 0 0 (QV s args below K A WM 0 0 ad res) 0 [(0, .ref (ad 100)), (1, .int a0)] [] ad h := by
  unfold K_M_windAt at hE
  refine g_aload_n C0 0 d_M_windAt_0 rfl rfl ?_
  refine g_getr C0 CK_11 3 (by decide) t_1093 0 rfl rfl d_M_windAt_1 ?_
  refine g_bipush C0 (v := 10) d_M_windAt_4 (by decide) ?_
  obtain ⟨q6, v6, e6, hE⟩ := gA_some hE
  refine g_iald C0 4 rfl q6 d_M_windAt_6 ?_
  refine g_top e6 ?_
  have hB := ite_some hE
  refine g_if_lt C0 (tgt := 26) d_M_windAt_7 (by decide) (fun c_ => ?_) (fun c_ => ?_)
  · replace hE := hB.1 c_
    refine g_sub [0] (L' := [(0, .ref (ad 100))]) rfl ?_
    exact w_M_windAt_J26 C0 hr h hE
  · replace hE := hB.2 c_
    refine g_iload_n C0 1 d_M_windAt_10 rfl rfl ?_
    refine g_aload_n C0 0 d_M_windAt_11 rfl rfl ?_
    refine g_getr C0 CK_11 3 (by decide) t_1093 0 rfl rfl d_M_windAt_12 ?_
    refine g_bipush C0 (v := 11) d_M_windAt_15 (by decide) ?_
    obtain ⟨q17, v17, e17, hE⟩ := gA_some hE
    refine g_iald C0 4 rfl q17 d_M_windAt_17 ?_
    refine g_top e17 ?_
    obtain ⟨q18, hE⟩ := dz_some hE
    refine g_irem C0 d_M_windAt_18 q18 ?_
    have hB := ite_some hE
    refine g_if_ne C0 (tgt := 26) d_M_windAt_19 (by decide) (fun c_ => ?_) (fun c_ => ?_)
    · replace hE := hB.2 c_
      refine g_sub [0] (L' := [(0, .ref (ad 100))]) rfl ?_
      exact w_M_windAt_J26 C0 hr h hE
    · replace hE := hB.1 c_
      refine g_iconst C0 (v := 1) d_M_windAt_22 (by decide) ?_
      refine g_goto C0 (tgt := 27) d_M_windAt_23 (by decide) ?_
      refine g_sub [0] (L' := [(0, .ref (ad 100))]) rfl ?_
      exact w_M_windAt_J27 C0 hr 1 h hE
theorem m_M_windAt (l : Launch) (K : KT) (ad : Nat → Nat) (h : Hp) (a0 : Int32) {res : Hp} (hE : K_M_windAt a0 h = some res) : ConV l y_M_windAt prog_13_method_37_code 3 (Option.none : Option Jvm.ClassFile.FieldType) rm_M_windAt K WM ad h [.ref (ad 100), .int a0] res := fun sz =>
  con_start [(0, .ref (ad 100)), (1, .int a0)] (by decide +kernel) rfl (Nat.le_of_ble_eq_true rfl) (fun p e s m args below meth c C0 hr hnm hsz => w_M_windAt C0 hr a0 h hE)
abbrev y_M_remember : MethodName := ⟨"CanoeSidesModel", "remember", "()V"⟩
abbrev rm_M_remember : Room := { frames := 0, cells := 0, slots := 0, locals := 0 }
theorem cd_M_remember : cwd y_M_remember 0 := by decide +kernel
theorem d_M_remember_0 : decode prog_13_method_38_code 0 = .ok (.aload_n 0, 1) := by decide +kernel
theorem d_M_remember_1 : decode prog_13_method_38_code 1 = .ok (.getfield 140, 3) := by decide +kernel
theorem d_M_remember_4 : decode prog_13_method_38_code 4 = .ok (.bipush 50, 2) := by decide +kernel
theorem d_M_remember_6 : decode prog_13_method_38_code 6 = .ok (.if_icmp .ne 42, 3) := by decide +kernel
theorem d_M_remember_9 : decode prog_13_method_38_code 9 = .ok (.iconst 3, 1) := by decide +kernel
theorem d_M_remember_10 : decode prog_13_method_38_code 10 = .ok (.istore_n 1, 1) := by decide +kernel
theorem d_M_remember_11 : decode prog_13_method_38_code 11 = .ok (.iload_n 1, 1) := by decide +kernel
theorem d_M_remember_12 : decode prog_13_method_38_code 12 = .ok (.sipush 150, 3) := by decide +kernel
theorem d_M_remember_15 : decode prog_13_method_38_code 15 = .ok (.if_icmp .ge 23, 3) := by decide +kernel
theorem d_M_remember_18 : decode prog_13_method_38_code 18 = .ok (.aload_n 0, 1) := by decide +kernel
theorem d_M_remember_19 : decode prog_13_method_38_code 19 = .ok (.getfield 33, 3) := by decide +kernel
theorem d_M_remember_22 : decode prog_13_method_38_code 22 = .ok (.iload_n 1, 1) := by decide +kernel
theorem d_M_remember_23 : decode prog_13_method_38_code 23 = .ok (.iconst 3, 1) := by decide +kernel
theorem d_M_remember_24 : decode prog_13_method_38_code 24 = .ok (.isub, 1) := by decide +kernel
theorem d_M_remember_25 : decode prog_13_method_38_code 25 = .ok (.aload_n 0, 1) := by decide +kernel
theorem d_M_remember_26 : decode prog_13_method_38_code 26 = .ok (.getfield 33, 3) := by decide +kernel
theorem d_M_remember_29 : decode prog_13_method_38_code 29 = .ok (.iload_n 1, 1) := by decide +kernel
theorem d_M_remember_30 : decode prog_13_method_38_code 30 = .ok (.iaload, 1) := by decide +kernel
theorem d_M_remember_31 : decode prog_13_method_38_code 31 = .ok (.iastore, 1) := by decide +kernel
theorem d_M_remember_32 : decode prog_13_method_38_code 32 = .ok (.iinc 1 1, 3) := by decide +kernel
theorem d_M_remember_35 : decode prog_13_method_38_code 35 = .ok (.goto (-24), 3) := by decide +kernel
theorem d_M_remember_38 : decode prog_13_method_38_code 38 = .ok (.aload_n 0, 1) := by decide +kernel
theorem d_M_remember_39 : decode prog_13_method_38_code 39 = .ok (.dup, 1) := by decide +kernel
theorem d_M_remember_40 : decode prog_13_method_38_code 40 = .ok (.getfield 140, 3) := by decide +kernel
theorem d_M_remember_43 : decode prog_13_method_38_code 43 = .ok (.iconst 1, 1) := by decide +kernel
theorem d_M_remember_44 : decode prog_13_method_38_code 44 = .ok (.isub, 1) := by decide +kernel
theorem d_M_remember_45 : decode prog_13_method_38_code 45 = .ok (.putfield 140, 3) := by decide +kernel
theorem d_M_remember_48 : decode prog_13_method_38_code 48 = .ok (.iconst 0, 1) := by decide +kernel
theorem d_M_remember_49 : decode prog_13_method_38_code 49 = .ok (.istore_n 1, 1) := by decide +kernel
theorem d_M_remember_50 : decode prog_13_method_38_code 50 = .ok (.iload_n 1, 1) := by decide +kernel
theorem d_M_remember_51 : decode prog_13_method_38_code 51 = .ok (.iconst 3, 1) := by decide +kernel
theorem d_M_remember_52 : decode prog_13_method_38_code 52 = .ok (.if_icmp .ge 28, 3) := by decide +kernel
theorem d_M_remember_55 : decode prog_13_method_38_code 55 = .ok (.aload_n 0, 1) := by decide +kernel
theorem d_M_remember_56 : decode prog_13_method_38_code 56 = .ok (.getfield 33, 3) := by decide +kernel
theorem d_M_remember_59 : decode prog_13_method_38_code 59 = .ok (.iconst 3, 1) := by decide +kernel
theorem d_M_remember_60 : decode prog_13_method_38_code 60 = .ok (.aload_n 0, 1) := by decide +kernel
theorem d_M_remember_61 : decode prog_13_method_38_code 61 = .ok (.getfield 140, 3) := by decide +kernel
theorem d_M_remember_64 : decode prog_13_method_38_code 64 = .ok (.imul, 1) := by decide +kernel
theorem d_M_remember_65 : decode prog_13_method_38_code 65 = .ok (.iload_n 1, 1) := by decide +kernel
theorem d_M_remember_66 : decode prog_13_method_38_code 66 = .ok (.iadd, 1) := by decide +kernel
theorem d_M_remember_67 : decode prog_13_method_38_code 67 = .ok (.aload_n 0, 1) := by decide +kernel
theorem d_M_remember_68 : decode prog_13_method_38_code 68 = .ok (.getfield 7, 3) := by decide +kernel
theorem d_M_remember_71 : decode prog_13_method_38_code 71 = .ok (.iload_n 1, 1) := by decide +kernel
theorem d_M_remember_72 : decode prog_13_method_38_code 72 = .ok (.iaload, 1) := by decide +kernel
theorem d_M_remember_73 : decode prog_13_method_38_code 73 = .ok (.iastore, 1) := by decide +kernel
theorem d_M_remember_74 : decode prog_13_method_38_code 74 = .ok (.iinc 1 1, 3) := by decide +kernel
theorem d_M_remember_77 : decode prog_13_method_38_code 77 = .ok (.goto (-27), 3) := by decide +kernel
theorem d_M_remember_80 : decode prog_13_method_38_code 80 = .ok (.aload_n 0, 1) := by decide +kernel
theorem d_M_remember_81 : decode prog_13_method_38_code 81 = .ok (.dup, 1) := by decide +kernel
theorem d_M_remember_82 : decode prog_13_method_38_code 82 = .ok (.getfield 140, 3) := by decide +kernel
theorem d_M_remember_85 : decode prog_13_method_38_code 85 = .ok (.iconst 1, 1) := by decide +kernel
theorem d_M_remember_86 : decode prog_13_method_38_code 86 = .ok (.iadd, 1) := by decide +kernel
theorem d_M_remember_87 : decode prog_13_method_38_code 87 = .ok (.putfield 140, 3) := by decide +kernel
theorem d_M_remember_90 : decode prog_13_method_38_code 90 = .ok (.return_, 1) := by decide +kernel
theorem w_M_remember_L50 {p : Program} {l : Launch} {e : Env} {s : State} {m : MethodId} {args : Array Value} {below : List Frame} {meth : Method} {c : Code} {K : KT} {A : Nat → Prop} {Q : State → Prop} (C0 : Cx p s m args meth c prog_13_method_38_code "CanoeSidesModel" 2 K A) (hr : meth.sig.returnType = (Option.none : Option Jvm.ClassFile.FieldType)) {ad : Nat → Nat} (N : Nat) (x1 : Int32) (h : Hp) {x_ : (Int32 × Hp) ⊕ (Hp)} (hE : K_M_remember_L50 N x1 h = some x_) (hk1 : ∀ z_, x_ = .inl z_ → G p l e rm_M_remember s m args below meth c K A WM 2 0 0 Q 50 [(0, .ref (ad 100)), (1, .int z_.1)] [] ad z_.2) (hk3 : ∀ z_, x_ = .inr z_ → G p l e rm_M_remember s m args below meth c K A WM 2 0 0 Q 80 [(0, .ref (ad 100))] [] ad z_) : G p l e rm_M_remember s m args below meth c K A WM 2 0 0 Q 50 [(0, .ref (ad 100)), (1, .int x1)] [] ad h := by
  unfold K_M_remember_L50 at hE
  refine g_iload_n C0 1 d_M_remember_50 rfl rfl ?_
  refine g_iconst C0 (v := 3) d_M_remember_51 (by decide) ?_
  have hB := ite_some hE
  refine g_icmp_ge C0 (tgt := 80) d_M_remember_52 (by decide) (fun c_ => ?_) (fun c_ => ?_)
  · replace hE := hB.1 c_
    refine g_sub [0] (L' := [(0, .ref (ad 100))]) rfl ?_
    exact hk3 _ (Option.some.inj hE).symm
  · replace hE := hB.2 c_
    refine g_aload_n C0 0 d_M_remember_55 rfl rfl ?_
    refine g_getr C0 CK_11 15 (by decide) t_1105 0 rfl rfl d_M_remember_56 ?_
    refine g_iconst C0 (v := 3) d_M_remember_59 (by decide) ?_
    refine g_aload_n C0 0 d_M_remember_60 rfl rfl ?_
    refine g_geti C0 CK_11 16 (by decide) t_1106 0 rfl rfl d_M_remember_61 ?_
    refine g_imul C0 d_M_remember_64 ?_
    refine g_iload_n C0 1 d_M_remember_65 rfl rfl ?_
    refine g_iadd C0 d_M_remember_66 ?_
    refine g_aload_n C0 0 d_M_remember_67 rfl rfl ?_
    refine g_getr C0 CK_11 0 (by decide) t_1090 0 rfl rfl d_M_remember_68 ?_
    refine g_iload_n C0 1 d_M_remember_71 rfl rfl ?_
    obtain ⟨q72, v72, e72, hE⟩ := gA_some hE
    refine g_iald C0 1 rfl q72 d_M_remember_72 ?_
    refine g_top e72 ?_
    obtain ⟨q73, hE⟩ := sA_some hE
    obtain ⟨h73, e73, hE⟩ := nm_some hE
    refine g_iast C0 7 rfl nd_M q73 d_M_remember_73 ?_
    refine g_heap e73 ?_
    obtain ⟨v74, e74, hE⟩ := nm_some hE
    refine g_iinc C0 1 [(1, .int v74), (0, .ref (ad 100))] d_M_remember_74 rfl (by rw [e74]; rfl) (by decide) rfl ?_
    refine g_goto C0 (tgt := 50) d_M_remember_77 (by decide) ?_
    refine g_sub [1, 0] (L' := [(0, .ref (ad 100)), (1, .int v74)]) rfl ?_
    exact hk1 _ (Option.some.inj hE).symm
theorem w_M_remember_J48 {p : Program} {l : Launch} {e : Env} {s : State} {m : MethodId} {args : Array Value} {below : List Frame} {meth : Method} {c : Code} {K : KT} {A : Nat → Prop} (C0 : Cx p s m args meth c prog_13_method_38_code "CanoeSidesModel" 2 K A) (hr : meth.sig.returnType = (Option.none : Option Jvm.ClassFile.FieldType)) {ad : Nat → Nat} (N : Nat) (h : Hp) {res : Hp} (hE : K_M_remember_J48 N h = some res) : G p l e rm_M_remember s m args below meth c K A WM 2 0 0 (QV s args below K A WM 0 0 ad res) 48 [(0, .ref (ad 100))] [] ad h := by
  unfold K_M_remember_J48 at hE
  refine g_iconst C0 (v := 0) d_M_remember_48 (by decide) ?_
  refine g_istore_n C0 [(1, .int 0), (0, .ref (ad 100))] d_M_remember_49 rfl (by decide) rfl ?_
  refine g_sub [1, 0] (L' := [(0, .ref (ad 100)), (1, .int 0)]) rfl ?_
  obtain ⟨t50, z50, hE⟩ := bd_some hE
  refine loopG (fun z_ : Int32 × Hp => K_M_remember_L50 N z_.1 z_.2) (fun z_ : Int32 × Hp => G p l e rm_M_remember s m args below meth c K A WM 2 0 0 _ 50 [(0, .ref (ad 100)), (1, .int z_.1)] [] ad z_.2) (fun z_ : Hp => G p l e rm_M_remember s m args below meth c K A WM 2 0 0 _ 80 [(0, .ref (ad 100))] [] ad z_) (fun z_ x_ hz k1 k2 => w_M_remember_L50 C0 hr N z_.1 z_.2 hz k1 k2) _ _ _ z50 ?_
  try dsimp only
  refine g_aload_n C0 0 d_M_remember_80 rfl rfl ?_
  refine g_dup C0 d_M_remember_81 rfl ?_
  refine g_geti C0 CK_11 16 (by decide) t_1106 0 rfl rfl d_M_remember_82 ?_
  refine g_iconst C0 (v := 1) d_M_remember_85 (by decide) ?_
  refine g_iadd C0 d_M_remember_86 ?_
  obtain ⟨h87, e87, hE⟩ := nm_some hE
  refine g_puti C0 CK_11 CT_11 16 (by decide) t_1106 rfl (by decide +kernel) nd_M 0 rfl rfl d_M_remember_87 ?_
  refine g_heap e87 ?_
  obtain rfl := Option.some.inj hE
  exact g_vret C0 hr d_M_remember_90
theorem w_M_remember_L11 {p : Program} {l : Launch} {e : Env} {s : State} {m : MethodId} {args : Array Value} {below : List Frame} {meth : Method} {c : Code} {K : KT} {A : Nat → Prop} {Q : State → Prop} (C0 : Cx p s m args meth c prog_13_method_38_code "CanoeSidesModel" 2 K A) (hr : meth.sig.returnType = (Option.none : Option Jvm.ClassFile.FieldType)) {ad : Nat → Nat} (N : Nat) (x1 : Int32) (h : Hp) {x_ : (Int32 × Hp) ⊕ (Hp)} (hE : K_M_remember_L11 N x1 h = some x_) (hk1 : ∀ z_, x_ = .inl z_ → G p l e rm_M_remember s m args below meth c K A WM 2 0 0 Q 11 [(0, .ref (ad 100)), (1, .int z_.1)] [] ad z_.2) (hk3 : ∀ z_, x_ = .inr z_ → G p l e rm_M_remember s m args below meth c K A WM 2 0 0 Q 38 [(0, .ref (ad 100))] [] ad z_) : G p l e rm_M_remember s m args below meth c K A WM 2 0 0 Q 11 [(0, .ref (ad 100)), (1, .int x1)] [] ad h := by
  unfold K_M_remember_L11 at hE
  refine g_iload_n C0 1 d_M_remember_11 rfl rfl ?_
  refine g_sipush C0 (v := 150) d_M_remember_12 (by decide) ?_
  have hB := ite_some hE
  refine g_icmp_ge C0 (tgt := 38) d_M_remember_15 (by decide) (fun c_ => ?_) (fun c_ => ?_)
  · replace hE := hB.1 c_
    refine g_sub [0] (L' := [(0, .ref (ad 100))]) rfl ?_
    exact hk3 _ (Option.some.inj hE).symm
  · replace hE := hB.2 c_
    refine g_aload_n C0 0 d_M_remember_18 rfl rfl ?_
    refine g_getr C0 CK_11 15 (by decide) t_1105 0 rfl rfl d_M_remember_19 ?_
    refine g_iload_n C0 1 d_M_remember_22 rfl rfl ?_
    refine g_iconst C0 (v := 3) d_M_remember_23 (by decide) ?_
    refine g_isub C0 d_M_remember_24 ?_
    refine g_aload_n C0 0 d_M_remember_25 rfl rfl ?_
    refine g_getr C0 CK_11 15 (by decide) t_1105 0 rfl rfl d_M_remember_26 ?_
    refine g_iload_n C0 1 d_M_remember_29 rfl rfl ?_
    obtain ⟨q30, v30, e30, hE⟩ := gA_some hE
    refine g_iald C0 7 rfl q30 d_M_remember_30 ?_
    refine g_top e30 ?_
    obtain ⟨q31, hE⟩ := sA_some hE
    obtain ⟨h31, e31, hE⟩ := nm_some hE
    refine g_iast C0 7 rfl nd_M q31 d_M_remember_31 ?_
    refine g_heap e31 ?_
    obtain ⟨v32, e32, hE⟩ := nm_some hE
    refine g_iinc C0 1 [(1, .int v32), (0, .ref (ad 100))] d_M_remember_32 rfl (by rw [e32]; rfl) (by decide) rfl ?_
    refine g_goto C0 (tgt := 11) d_M_remember_35 (by decide) ?_
    refine g_sub [1, 0] (L' := [(0, .ref (ad 100)), (1, .int v32)]) rfl ?_
    exact hk1 _ (Option.some.inj hE).symm
theorem w_M_remember {p : Program} {l : Launch} {e : Env} {s : State} {m : MethodId} {args : Array Value} {below : List Frame} {meth : Method} {c : Code} {K : KT} {A : Nat → Prop} (C0 : Cx p s m args meth c prog_13_method_38_code "CanoeSidesModel" 2 K A) (hr : meth.sig.returnType = (Option.none : Option Jvm.ClassFile.FieldType)) {ad : Nat → Nat} (N : Nat) (h : Hp) {res : Hp} (hE : K_M_remember N h = some res) : G p l e rm_M_remember s m args below meth c K A WM 2 0 0 (QV s args below K A WM 0 0 ad res) 0 [(0, .ref (ad 100))] [] ad h := by
  unfold K_M_remember at hE
  refine g_aload_n C0 0 d_M_remember_0 rfl rfl ?_
  refine g_geti C0 CK_11 16 (by decide) t_1106 0 rfl rfl d_M_remember_1 ?_
  refine g_bipush C0 (v := 50) d_M_remember_4 (by decide) ?_
  have hB := ite_some hE
  refine g_icmp_ne C0 (tgt := 48) d_M_remember_6 (by decide) (fun c_ => ?_) (fun c_ => ?_)
  · replace hE := hB.2 c_
    exact w_M_remember_J48 C0 hr N h hE
  · replace hE := hB.1 c_
    refine g_iconst C0 (v := 3) d_M_remember_9 (by decide) ?_
    refine g_istore_n C0 [(1, .int 3), (0, .ref (ad 100))] d_M_remember_10 rfl (by decide) rfl ?_
    refine g_sub [1, 0] (L' := [(0, .ref (ad 100)), (1, .int 3)]) rfl ?_
    obtain ⟨t11, z11, hE⟩ := bd_some hE
    refine loopG (fun z_ : Int32 × Hp => K_M_remember_L11 N z_.1 z_.2) (fun z_ : Int32 × Hp => G p l e rm_M_remember s m args below meth c K A WM 2 0 0 _ 11 [(0, .ref (ad 100)), (1, .int z_.1)] [] ad z_.2) (fun z_ : Hp => G p l e rm_M_remember s m args below meth c K A WM 2 0 0 _ 38 [(0, .ref (ad 100))] [] ad z_) (fun z_ x_ hz k1 k2 => w_M_remember_L11 C0 hr N z_.1 z_.2 hz k1 k2) _ _ _ z11 ?_
    try dsimp only
    refine g_aload_n C0 0 d_M_remember_38 rfl rfl ?_
    refine g_dup C0 d_M_remember_39 rfl ?_
    refine g_geti C0 CK_11 16 (by decide) t_1106 0 rfl rfl d_M_remember_40 ?_
    refine g_iconst C0 (v := 1) d_M_remember_43 (by decide) ?_
    refine g_isub C0 d_M_remember_44 ?_
    obtain ⟨h45, e45, hE⟩ := nm_some hE
    refine g_puti C0 CK_11 CT_11 16 (by decide) t_1106 rfl (by decide +kernel) nd_M 0 rfl rfl d_M_remember_45 ?_
    refine g_heap e45 ?_
    exact w_M_remember_J48 C0 hr N h45 hE
theorem m_M_remember (l : Launch) (K : KT) (ad : Nat → Nat) (h : Hp) (N : Nat) {res : Hp} (hE : K_M_remember N h = some res) : ConV l y_M_remember prog_13_method_38_code 2 (Option.none : Option Jvm.ClassFile.FieldType) rm_M_remember K WM ad h [.ref (ad 100)] res := fun sz =>
  con_start [(0, .ref (ad 100))] (by decide +kernel) rfl (Nat.le_of_ble_eq_true rfl) (fun p e s m args below meth c C0 hr hnm hsz => w_M_remember C0 hr N h hE)
abbrev y_M_go : MethodName := ⟨"CanoeSidesModel", "go", "(II)V"⟩
abbrev rm_M_go : Room := { frames := 5, cells := 0, slots := 0, locals := 122 }
theorem cd_M_go : cwd y_M_go 2 := by decide +kernel
theorem d_M_go_0 : decode prog_13_method_39_code 0 = .ok (.aload_n 0, 1) := by decide +kernel
theorem d_M_go_1 : decode prog_13_method_39_code 1 = .ok (.invokevirtual 201, 3) := by decide +kernel
theorem d_M_go_4 : decode prog_13_method_39_code 4 = .ok (.aload_n 0, 1) := by decide +kernel
theorem d_M_go_5 : decode prog_13_method_39_code 5 = .ok (.aload_n 0, 1) := by decide +kernel
theorem d_M_go_6 : decode prog_13_method_39_code 6 = .ok (.getfield 7, 3) := by decide +kernel
theorem d_M_go_9 : decode prog_13_method_39_code 9 = .ok (.iconst 0, 1) := by decide +kernel
theorem d_M_go_10 : decode prog_13_method_39_code 10 = .ok (.iaload, 1) := by decide +kernel
theorem d_M_go_11 : decode prog_13_method_39_code 11 = .ok (.aload_n 0, 1) := by decide +kernel
theorem d_M_go_12 : decode prog_13_method_39_code 12 = .ok (.getfield 7, 3) := by decide +kernel
theorem d_M_go_15 : decode prog_13_method_39_code 15 = .ok (.iconst 1, 1) := by decide +kernel
theorem d_M_go_16 : decode prog_13_method_39_code 16 = .ok (.iaload, 1) := by decide +kernel
theorem d_M_go_17 : decode prog_13_method_39_code 17 = .ok (.iload_n 1, 1) := by decide +kernel
theorem d_M_go_18 : decode prog_13_method_39_code 18 = .ok (.iload_n 2, 1) := by decide +kernel
theorem d_M_go_19 : decode prog_13_method_39_code 19 = .ok (.invokevirtual 204, 3) := by decide +kernel
theorem d_M_go_22 : decode prog_13_method_39_code 22 = .ok (.aload_n 0, 1) := by decide +kernel
theorem d_M_go_23 : decode prog_13_method_39_code 23 = .ok (.getfield 7, 3) := by decide +kernel
theorem d_M_go_26 : decode prog_13_method_39_code 26 = .ok (.iconst 2, 1) := by decide +kernel
theorem d_M_go_27 : decode prog_13_method_39_code 27 = .ok (.dup2, 1) := by decide +kernel
theorem d_M_go_28 : decode prog_13_method_39_code 28 = .ok (.iaload, 1) := by decide +kernel
theorem d_M_go_29 : decode prog_13_method_39_code 29 = .ok (.iconst 1, 1) := by decide +kernel
theorem d_M_go_30 : decode prog_13_method_39_code 30 = .ok (.iadd, 1) := by decide +kernel
theorem d_M_go_31 : decode prog_13_method_39_code 31 = .ok (.iastore, 1) := by decide +kernel
theorem d_M_go_32 : decode prog_13_method_39_code 32 = .ok (.aload_n 0, 1) := by decide +kernel
theorem d_M_go_33 : decode prog_13_method_39_code 33 = .ok (.aload_n 0, 1) := by decide +kernel
theorem d_M_go_34 : decode prog_13_method_39_code 34 = .ok (.getfield 7, 3) := by decide +kernel
theorem d_M_go_37 : decode prog_13_method_39_code 37 = .ok (.iconst 2, 1) := by decide +kernel
theorem d_M_go_38 : decode prog_13_method_39_code 38 = .ok (.iaload, 1) := by decide +kernel
theorem d_M_go_39 : decode prog_13_method_39_code 39 = .ok (.invokevirtual 208, 3) := by decide +kernel
theorem d_M_go_42 : decode prog_13_method_39_code 42 = .ok (.aload_n 0, 1) := by decide +kernel
theorem d_M_go_43 : decode prog_13_method_39_code 43 = .ok (.getfield 7, 3) := by decide +kernel
theorem d_M_go_46 : decode prog_13_method_39_code 46 = .ok (.iconst 0, 1) := by decide +kernel
theorem d_M_go_47 : decode prog_13_method_39_code 47 = .ok (.aload_n 0, 1) := by decide +kernel
theorem d_M_go_48 : decode prog_13_method_39_code 48 = .ok (.getfield 195, 3) := by decide +kernel
theorem d_M_go_51 : decode prog_13_method_39_code 51 = .ok (.iastore, 1) := by decide +kernel
theorem d_M_go_52 : decode prog_13_method_39_code 52 = .ok (.aload_n 0, 1) := by decide +kernel
theorem d_M_go_53 : decode prog_13_method_39_code 53 = .ok (.getfield 7, 3) := by decide +kernel
theorem d_M_go_56 : decode prog_13_method_39_code 56 = .ok (.iconst 1, 1) := by decide +kernel
theorem d_M_go_57 : decode prog_13_method_39_code 57 = .ok (.aload_n 0, 1) := by decide +kernel
theorem d_M_go_58 : decode prog_13_method_39_code 58 = .ok (.getfield 189, 3) := by decide +kernel
theorem d_M_go_61 : decode prog_13_method_39_code 61 = .ok (.iastore, 1) := by decide +kernel
theorem d_M_go_62 : decode prog_13_method_39_code 62 = .ok (.return_, 1) := by decide +kernel
theorem w_M_go {p : Program} {l : Launch} {e : Env} {s : State} {m : MethodId} {args : Array Value} {below : List Frame} {meth : Method} {c : Code} {K : KT} {A : Nat → Prop} (C0 : Cx p s m args meth c prog_13_method_39_code "CanoeSidesModel" 3 K A) (hr : meth.sig.returnType = (Option.none : Option Jvm.ClassFile.FieldType)) {ad : Nat → Nat} (N : Nat) (a0 : Int32) (b0 : Int32) (h : Hp) {res : Hp} (hE : K_M_go N a0 b0 h = some res) : G p l e rm_M_go s m args below meth c K A WM 3 0 0 (QV s args below K A WM 0 0 ad res) 0 [(0, .ref (ad 100)), (1, .int a0), (2, .int b0)] [] ad h := by
  unfold K_M_go at hE
  refine g_aload_n C0 0 d_M_go_0 rfl rfl ?_
  obtain ⟨h1, z1, hE⟩ := bd_some hE
  refine g_callv C0 nd_M [100, 101, 102, 103, 104, 105, 106, 107, 108, 109, 110, 111, 112, 113, 114, 115] rfl (sbW_self WM) (runV C0 (m_M_remember l K ad h N z1) 0 rfl ⟨t_1301, t_1303, t_55, t_97, t_1304⟩ cd_M_remember (by decide) 0 rfl rfl (sbW_self WM) nd_M rfl rfl (Nat.le_of_ble_eq_true rfl) d_M_go_1) ?_
  refine g_mx [100, 101, 102, 103, 104, 105, 106, 107, 108, 109, 110, 111, 112, 113, 114, 115] rfl ?_
  refine g_aload_n C0 0 d_M_go_4 rfl rfl ?_
  refine g_aload_n C0 0 d_M_go_5 rfl rfl ?_
  refine g_getr C0 CK_11 0 (by decide) t_1090 0 rfl rfl d_M_go_6 ?_
  refine g_iconst C0 (v := 0) d_M_go_9 (by decide) ?_
  obtain ⟨q10, v10, e10, hE⟩ := gA_some hE
  refine g_iald C0 1 rfl q10 d_M_go_10 ?_
  refine g_top e10 ?_
  refine g_aload_n C0 0 d_M_go_11 rfl rfl ?_
  refine g_getr C0 CK_11 0 (by decide) t_1090 0 rfl rfl d_M_go_12 ?_
  refine g_iconst C0 (v := 1) d_M_go_15 (by decide) ?_
  obtain ⟨q16, v16, e16, hE⟩ := gA_some hE
  refine g_iald C0 1 rfl q16 d_M_go_16 ?_
  refine g_top e16 ?_
  refine g_iload_n C0 1 d_M_go_17 rfl rfl ?_
  refine g_iload_n C0 2 d_M_go_18 rfl rfl ?_
  obtain ⟨h19, z19, hE⟩ := bd_some hE
  refine g_callv C0 nd_M [100, 101, 102, 103, 104, 105, 106, 107, 108, 109, 110, 111, 112, 113, 114, 115] rfl (sbW_self WM) (runV C0 (m_M_strokeFrom l K ad h1 N v10 v16 a0 b0 z19) 4 rfl ⟨t_1305, t_1307, t_56, t_97, t_1308⟩ cd_M_strokeFrom (by decide) 0 rfl rfl (sbW_self WM) nd_M rfl rfl (Nat.le_of_ble_eq_true rfl) d_M_go_19) ?_
  refine g_mx [100, 101, 102, 103, 104, 105, 106, 107, 108, 109, 110, 111, 112, 113, 114, 115] rfl ?_
  refine g_aload_n C0 0 d_M_go_22 rfl rfl ?_
  refine g_getr C0 CK_11 0 (by decide) t_1090 0 rfl rfl d_M_go_23 ?_
  refine g_iconst C0 (v := 2) d_M_go_26 (by decide) ?_
  refine g_dup2_11 C0 d_M_go_27 rfl rfl ?_
  obtain ⟨q28, v28, e28, hE⟩ := gA_some hE
  refine g_iald C0 1 rfl q28 d_M_go_28 ?_
  refine g_top e28 ?_
  refine g_iconst C0 (v := 1) d_M_go_29 (by decide) ?_
  refine g_iadd C0 d_M_go_30 ?_
  obtain ⟨q31, hE⟩ := sA_some hE
  obtain ⟨h31, e31, hE⟩ := nm_some hE
  refine g_iast C0 1 rfl nd_M q31 d_M_go_31 ?_
  refine g_heap e31 ?_
  refine g_aload_n C0 0 d_M_go_32 rfl rfl ?_
  refine g_aload_n C0 0 d_M_go_33 rfl rfl ?_
  refine g_getr C0 CK_11 0 (by decide) t_1090 0 rfl rfl d_M_go_34 ?_
  refine g_iconst C0 (v := 2) d_M_go_37 (by decide) ?_
  obtain ⟨q38, v38, e38, hE⟩ := gA_some hE
  refine g_iald C0 1 rfl q38 d_M_go_38 ?_
  refine g_top e38 ?_
  obtain ⟨h39, z39, hE⟩ := bd_some hE
  refine g_callv C0 nd_M [100, 101, 102, 103, 104, 105, 106, 107, 108, 109, 110, 111, 112, 113, 114, 115] rfl (sbW_self WM) (runV C0 (m_M_windAt l K ad h31 v38 z39) 1 rfl ⟨t_1339, t_1341, t_61, t_97, t_1342⟩ cd_M_windAt (by decide) 0 rfl rfl (sbW_self WM) nd_M rfl rfl (Nat.le_of_ble_eq_true rfl) d_M_go_39) ?_
  refine g_mx [100, 101, 102, 103, 104, 105, 106, 107, 108, 109, 110, 111, 112, 113, 114, 115] rfl ?_
  refine g_aload_n C0 0 d_M_go_42 rfl rfl ?_
  refine g_getr C0 CK_11 0 (by decide) t_1090 0 rfl rfl d_M_go_43 ?_
  refine g_iconst C0 (v := 0) d_M_go_46 (by decide) ?_
  refine g_aload_n C0 0 d_M_go_47 rfl rfl ?_
  refine g_geti C0 CK_11 13 (by decide) t_1103 0 rfl rfl d_M_go_48 ?_
  obtain ⟨q51, hE⟩ := sA_some hE
  obtain ⟨h51, e51, hE⟩ := nm_some hE
  refine g_iast C0 1 rfl nd_M q51 d_M_go_51 ?_
  refine g_heap e51 ?_
  refine g_aload_n C0 0 d_M_go_52 rfl rfl ?_
  refine g_getr C0 CK_11 0 (by decide) t_1090 0 rfl rfl d_M_go_53 ?_
  refine g_iconst C0 (v := 1) d_M_go_56 (by decide) ?_
  refine g_aload_n C0 0 d_M_go_57 rfl rfl ?_
  refine g_geti C0 CK_11 14 (by decide) t_1104 0 rfl rfl d_M_go_58 ?_
  obtain ⟨q61, hE⟩ := sA_some hE
  obtain ⟨h61, e61, hE⟩ := nm_some hE
  refine g_iast C0 1 rfl nd_M q61 d_M_go_61 ?_
  refine g_heap e61 ?_
  obtain rfl := Option.some.inj hE
  exact g_vret C0 hr d_M_go_62
theorem m_M_go (l : Launch) (K : KT) (ad : Nat → Nat) (h : Hp) (N : Nat) (a0 : Int32) (b0 : Int32) {res : Hp} (hE : K_M_go N a0 b0 h = some res) : ConV l y_M_go prog_13_method_39_code 3 (Option.none : Option Jvm.ClassFile.FieldType) rm_M_go K WM ad h [.ref (ad 100), .int a0, .int b0] res := fun sz =>
  con_start [(0, .ref (ad 100)), (1, .int a0), (2, .int b0)] (by decide +kernel) rfl (Nat.le_of_ble_eq_true rfl) (fun p e s m args below meth c C0 hr hnm hsz => w_M_go C0 hr N a0 b0 h hE)
abbrev y_M_isStroke : MethodName := ⟨"CanoeSidesModel", "isStroke", "(I)Z"⟩
abbrev rm_M_isStroke : Room := { frames := 1, cells := 0, slots := 0, locals := 25 }
theorem cd_M_isStroke : cwd y_M_isStroke 1 := by decide +kernel
theorem d_M_isStroke_0 : decode prog_13_method_40_code 0 = .ok (.iload_n 0, 1) := by decide +kernel
theorem d_M_isStroke_1 : decode prog_13_method_40_code 1 = .ok (.i2l, 1) := by decide +kernel
theorem d_M_isStroke_2 : decode prog_13_method_40_code 2 = .ok (.lconst 0, 1) := by decide +kernel
theorem d_M_isStroke_3 : decode prog_13_method_40_code 3 = .ok (.ldc2_w 161, 3) := by decide +kernel
theorem d_M_isStroke_6 : decode prog_13_method_40_code 6 = .ok (.invokestatic 67, 3) := by decide +kernel
theorem d_M_isStroke_9 : decode prog_13_method_40_code 9 = .ok (.ireturn, 1) := by decide +kernel
theorem w_M_isStroke {p : Program} {l : Launch} {e : Env} {s : State} {m : MethodId} {args : Array Value} {below : List Frame} {meth : Method} {c : Code} {K : KT} {A : Nat → Prop} (C0 : Cx p s m args meth c prog_13_method_40_code "CanoeSidesModel" 1 K A) (hr : meth.sig.returnType = (Option.some Jvm.ClassFile.FieldType.boolean)) {ad : Nat → Nat} (a0 : Int32) (h : Hp) {res : Int32} (hE : K_M_isStroke a0 = some res) : G p l e rm_M_isStroke s m args below meth c K A WE 1 0 0 (QI s args below K A WE 0 0 ad res h) 0 [(0, .int a0)] [] ad h := by
  unfold K_M_isStroke at hE
  refine g_iload_n C0 0 d_M_isStroke_0 rfl rfl ?_
  refine g_i2l C0 d_M_isStroke_1 ?_
  refine g_lconst C0 (v := 0) d_M_isStroke_2 (by decide) ?_
  refine g_ldc2 C0 (v := 3) t_1288 d_M_isStroke_3 ?_
  obtain ⟨v6, z6, hE⟩ := bd_some hE
  refine g_calliP C0 nd_E [] rfl (sbW_self WE) (runS C0 (m_M_in l K ad h (Int32.toInt64 a0) 0 3 z6) 3 ⟨t_1196, t_1197, t_97, t_1198⟩ cd_M_in (by decide) (sbW_self WE) nd_E rfl rfl (Nat.le_of_ble_eq_true rfl) d_M_isStroke_6) ?_
  obtain ⟨q9, hE⟩ := bz_some hE
  obtain rfl := Option.some.inj hE
  exact g_zret C0 hr q9 d_M_isStroke_9
theorem m_M_isStroke (l : Launch) (K : KT) (ad : Nat → Nat) (h : Hp) (a0 : Int32) {res : Int32} (hE : K_M_isStroke a0 = some res) : ConI l y_M_isStroke prog_13_method_40_code 1 (Option.some Jvm.ClassFile.FieldType.boolean) rm_M_isStroke K WE ad h [.int a0] res h := fun sz =>
  con_start [(0, .int a0)] (by decide +kernel) rfl (Nat.le_of_ble_eq_true rfl) (fun p e s m args below meth c C0 hr hnm hsz => w_M_isStroke C0 hr a0 h hE)
abbrev y_M_stroke : MethodName := ⟨"CanoeSidesModel", "stroke", "(II)I"⟩
abbrev rm_M_stroke : Room := { frames := 6, cells := 0, slots := 0, locals := 144 }
theorem cd_M_stroke : cwd y_M_stroke 2 := by decide +kernel
theorem d_M_stroke_0 : decode prog_13_method_41_code 0 = .ok (.iload_n 1, 1) := by decide +kernel
theorem d_M_stroke_1 : decode prog_13_method_41_code 1 = .ok (.invokestatic 211, 3) := by decide +kernel
theorem d_M_stroke_4 : decode prog_13_method_41_code 4 = .ok (.ifCond .eq 10, 3) := by decide +kernel
theorem d_M_stroke_7 : decode prog_13_method_41_code 7 = .ok (.iload_n 2, 1) := by decide +kernel
theorem d_M_stroke_8 : decode prog_13_method_41_code 8 = .ok (.invokestatic 211, 3) := by decide +kernel
theorem d_M_stroke_11 : decode prog_13_method_41_code 11 = .ok (.ifCond .ne 6, 3) := by decide +kernel
theorem d_M_stroke_14 : decode prog_13_method_41_code 14 = .ok (.ldc 71, 2) := by decide +kernel
theorem d_M_stroke_16 : decode prog_13_method_41_code 16 = .ok (.ireturn, 1) := by decide +kernel
theorem d_M_stroke_17 : decode prog_13_method_41_code 17 = .ok (.aload_n 0, 1) := by decide +kernel
theorem d_M_stroke_18 : decode prog_13_method_41_code 18 = .ok (.invokevirtual 143, 3) := by decide +kernel
theorem d_M_stroke_21 : decode prog_13_method_41_code 21 = .ok (.ifCond .eq 6, 3) := by decide +kernel
theorem d_M_stroke_24 : decode prog_13_method_41_code 24 = .ok (.ldc 215, 2) := by decide +kernel
theorem d_M_stroke_26 : decode prog_13_method_41_code 26 = .ok (.ireturn, 1) := by decide +kernel
theorem d_M_stroke_27 : decode prog_13_method_41_code 27 = .ok (.aload_n 0, 1) := by decide +kernel
theorem d_M_stroke_28 : decode prog_13_method_41_code 28 = .ok (.iload_n 1, 1) := by decide +kernel
theorem d_M_stroke_29 : decode prog_13_method_41_code 29 = .ok (.iload_n 2, 1) := by decide +kernel
theorem d_M_stroke_30 : decode prog_13_method_41_code 30 = .ok (.invokevirtual 216, 3) := by decide +kernel
theorem d_M_stroke_33 : decode prog_13_method_41_code 33 = .ok (.aload_n 0, 1) := by decide +kernel
theorem d_M_stroke_34 : decode prog_13_method_41_code 34 = .ok (.aload_n 0, 1) := by decide +kernel
theorem d_M_stroke_35 : decode prog_13_method_41_code 35 = .ok (.getfield 7, 3) := by decide +kernel
theorem d_M_stroke_38 : decode prog_13_method_41_code 38 = .ok (.iconst 0, 1) := by decide +kernel
theorem d_M_stroke_39 : decode prog_13_method_41_code 39 = .ok (.iaload, 1) := by decide +kernel
theorem d_M_stroke_40 : decode prog_13_method_41_code 40 = .ok (.invokevirtual 147, 3) := by decide +kernel
theorem d_M_stroke_43 : decode prog_13_method_41_code 43 = .ok (.ireturn, 1) := by decide +kernel
theorem w_M_stroke {p : Program} {l : Launch} {e : Env} {s : State} {m : MethodId} {args : Array Value} {below : List Frame} {meth : Method} {c : Code} {K : KT} {A : Nat → Prop} (C0 : Cx p s m args meth c prog_13_method_41_code "CanoeSidesModel" 3 K A) (hr : meth.sig.returnType = (Option.some Jvm.ClassFile.FieldType.int)) {ad : Nat → Nat} (N : Nat) (a0 : Int32) (b0 : Int32) (h : Hp) {res : Int32 × Hp} (hE : K_M_stroke N a0 b0 h = some res) : G p l e rm_M_stroke s m args below meth c K A WM 3 0 0 (QI s args below K A WM 0 0 ad res.1 res.2) 0 [(0, .ref (ad 100)), (1, .int a0), (2, .int b0)] [] ad h := by
  unfold K_M_stroke at hE
  refine g_iload_n C0 1 d_M_stroke_0 rfl rfl ?_
  obtain ⟨v1, z1, hE⟩ := bd_some hE
  refine g_calliP C0 nd_M [] rfl (sb_E_M) (runS C0 (m_M_isStroke l K ad h a0 z1) 1 ⟨t_1293, t_1294, t_97, t_1295⟩ cd_M_isStroke (by decide) (sb_E_M) nd_E rfl rfl (Nat.le_of_ble_eq_true rfl) d_M_stroke_1) ?_
  have hB := ite_some hE
  refine g_if_eq C0 (tgt := 14) d_M_stroke_4 (by decide) (fun c_ => ?_) (fun c_ => ?_)
  · replace hE := hB.1 c_
    refine g_ldc C0 (v := (-1000000002)) t_1199 d_M_stroke_14 ?_
    obtain rfl := Option.some.inj hE
    exact g_iret C0 hr d_M_stroke_16
  · replace hE := hB.2 c_
    refine g_iload_n C0 2 d_M_stroke_7 rfl rfl ?_
    obtain ⟨v8, z8, hE⟩ := bd_some hE
    refine g_calliP C0 nd_M [] rfl (sb_E_M) (runS C0 (m_M_isStroke l K ad h b0 z8) 1 ⟨t_1293, t_1294, t_97, t_1295⟩ cd_M_isStroke (by decide) (sb_E_M) nd_E rfl rfl (Nat.le_of_ble_eq_true rfl) d_M_stroke_8) ?_
    have hB := ite_some hE
    refine g_if_ne C0 (tgt := 17) d_M_stroke_11 (by decide) (fun c_ => ?_) (fun c_ => ?_)
    · replace hE := hB.2 c_
      refine g_aload_n C0 0 d_M_stroke_17 rfl rfl ?_
      obtain ⟨v18, z18, hE⟩ := bd_some hE
      refine g_calliP C0 nd_M [100, 101, 102, 103, 104, 105, 106, 107, 108, 109, 110, 111, 112, 113, 114, 115] rfl (sbW_self WM) (runV C0 (m_M_isNone l K ad h z18) 0 rfl ⟨t_1264, t_1266, t_51, t_97, t_1267⟩ cd_M_isNone (by decide) 0 rfl rfl (sbW_self WM) nd_M rfl rfl (Nat.le_of_ble_eq_true rfl) d_M_stroke_18) ?_
      have hB := ite_some hE
      refine g_if_eq C0 (tgt := 27) d_M_stroke_21 (by decide) (fun c_ => ?_) (fun c_ => ?_)
      · replace hE := hB.1 c_
        refine g_aload_n C0 0 d_M_stroke_27 rfl rfl ?_
        refine g_iload_n C0 1 d_M_stroke_28 rfl rfl ?_
        refine g_iload_n C0 2 d_M_stroke_29 rfl rfl ?_
        obtain ⟨h30, z30, hE⟩ := bd_some hE
        refine g_callv C0 nd_M [100, 101, 102, 103, 104, 105, 106, 107, 108, 109, 110, 111, 112, 113, 114, 115] rfl (sbW_self WM) (runV C0 (m_M_go l K ad h N a0 b0 z30) 2 rfl ⟨t_1297, t_1299, t_54, t_97, t_1300⟩ cd_M_go (by decide) 0 rfl rfl (sbW_self WM) nd_M rfl rfl (Nat.le_of_ble_eq_true rfl) d_M_stroke_30) ?_
        refine g_mx [100, 101, 102, 103, 104, 105, 106, 107, 108, 109, 110, 111, 112, 113, 114, 115] rfl ?_
        refine g_aload_n C0 0 d_M_stroke_33 rfl rfl ?_
        refine g_aload_n C0 0 d_M_stroke_34 rfl rfl ?_
        refine g_getr C0 CK_11 0 (by decide) t_1090 0 rfl rfl d_M_stroke_35 ?_
        refine g_iconst C0 (v := 0) d_M_stroke_38 (by decide) ?_
        obtain ⟨q39, v39, e39, hE⟩ := gA_some hE
        refine g_iald C0 1 rfl q39 d_M_stroke_39 ?_
        refine g_top e39 ?_
        obtain ⟨v40, z40, hE⟩ := bd_some hE
        refine g_calliP C0 nd_M [100, 101, 102, 103, 104, 105, 106, 107, 108, 109, 110, 111, 112, 113, 114, 115] rfl (sbW_self WM) (runV C0 (m_M_pair l K ad h30 v39 z40) 1 rfl ⟨t_1260, t_1262, t_50, t_97, t_1263⟩ cd_M_pair (by decide) 0 rfl rfl (sbW_self WM) nd_M rfl rfl (Nat.le_of_ble_eq_true rfl) d_M_stroke_40) ?_
        obtain rfl := Option.some.inj hE
        exact g_iret C0 hr d_M_stroke_43
      · replace hE := hB.2 c_
        refine g_ldc C0 (v := (-1000000003)) t_1296 d_M_stroke_24 ?_
        obtain rfl := Option.some.inj hE
        exact g_iret C0 hr d_M_stroke_26
    · replace hE := hB.1 c_
      refine g_ldc C0 (v := (-1000000002)) t_1199 d_M_stroke_14 ?_
      obtain rfl := Option.some.inj hE
      exact g_iret C0 hr d_M_stroke_16
theorem m_M_stroke (l : Launch) (K : KT) (ad : Nat → Nat) (h : Hp) (N : Nat) (a0 : Int32) (b0 : Int32) {res : Int32 × Hp} (hE : K_M_stroke N a0 b0 h = some res) : ConI l y_M_stroke prog_13_method_41_code 3 (Option.some Jvm.ClassFile.FieldType.int) rm_M_stroke K WM ad h [.ref (ad 100), .int a0, .int b0] res.1 res.2 := fun sz =>
  con_start [(0, .ref (ad 100)), (1, .int a0), (2, .int b0)] (by decide +kernel) rfl (Nat.le_of_ble_eq_true rfl) (fun p e s m args below meth c C0 hr hnm hsz => w_M_stroke C0 hr N a0 b0 h hE)
abbrev y_M_would : MethodName := ⟨"CanoeSidesModel", "would", "(III)I"⟩
abbrev rm_M_would : Room := { frames := 5, cells := 0, slots := 0, locals := 122 }
theorem cd_M_would : cwd y_M_would 3 := by decide +kernel
theorem d_M_would_0 : decode prog_13_method_42_code 0 = .ok (.iload_n 1, 1) := by decide +kernel
theorem d_M_would_1 : decode prog_13_method_42_code 1 = .ok (.invokestatic 211, 3) := by decide +kernel
theorem d_M_would_4 : decode prog_13_method_42_code 4 = .ok (.ifCond .eq 22, 3) := by decide +kernel
theorem d_M_would_7 : decode prog_13_method_42_code 7 = .ok (.iload_n 2, 1) := by decide +kernel
theorem d_M_would_8 : decode prog_13_method_42_code 8 = .ok (.invokestatic 211, 3) := by decide +kernel
theorem d_M_would_11 : decode prog_13_method_42_code 11 = .ok (.ifCond .eq 15, 3) := by decide +kernel
theorem d_M_would_14 : decode prog_13_method_42_code 14 = .ok (.iload_n 3, 1) := by decide +kernel
theorem d_M_would_15 : decode prog_13_method_42_code 15 = .ok (.i2l, 1) := by decide +kernel
theorem d_M_would_16 : decode prog_13_method_42_code 16 = .ok (.lconst 0, 1) := by decide +kernel
theorem d_M_would_17 : decode prog_13_method_42_code 17 = .ok (.ldc2_w 161, 3) := by decide +kernel
theorem d_M_would_20 : decode prog_13_method_42_code 20 = .ok (.invokestatic 67, 3) := by decide +kernel
theorem d_M_would_23 : decode prog_13_method_42_code 23 = .ok (.ifCond .ne 6, 3) := by decide +kernel
theorem d_M_would_26 : decode prog_13_method_42_code 26 = .ok (.ldc 71, 2) := by decide +kernel
theorem d_M_would_28 : decode prog_13_method_42_code 28 = .ok (.ireturn, 1) := by decide +kernel
theorem d_M_would_29 : decode prog_13_method_42_code 29 = .ok (.aload_n 0, 1) := by decide +kernel
theorem d_M_would_30 : decode prog_13_method_42_code 30 = .ok (.invokevirtual 143, 3) := by decide +kernel
theorem d_M_would_33 : decode prog_13_method_42_code 33 = .ok (.ifCond .eq 6, 3) := by decide +kernel
theorem d_M_would_36 : decode prog_13_method_42_code 36 = .ok (.ldc 215, 2) := by decide +kernel
theorem d_M_would_38 : decode prog_13_method_42_code 38 = .ok (.ireturn, 1) := by decide +kernel
theorem d_M_would_39 : decode prog_13_method_42_code 39 = .ok (.aload_n 0, 1) := by decide +kernel
theorem d_M_would_40 : decode prog_13_method_42_code 40 = .ok (.aload_n 0, 1) := by decide +kernel
theorem d_M_would_41 : decode prog_13_method_42_code 41 = .ok (.getfield 7, 3) := by decide +kernel
theorem d_M_would_44 : decode prog_13_method_42_code 44 = .ok (.iconst 0, 1) := by decide +kernel
theorem d_M_would_45 : decode prog_13_method_42_code 45 = .ok (.iaload, 1) := by decide +kernel
theorem d_M_would_46 : decode prog_13_method_42_code 46 = .ok (.aload_n 0, 1) := by decide +kernel
theorem d_M_would_47 : decode prog_13_method_42_code 47 = .ok (.getfield 7, 3) := by decide +kernel
theorem d_M_would_50 : decode prog_13_method_42_code 50 = .ok (.iconst 1, 1) := by decide +kernel
theorem d_M_would_51 : decode prog_13_method_42_code 51 = .ok (.iaload, 1) := by decide +kernel
theorem d_M_would_52 : decode prog_13_method_42_code 52 = .ok (.iload_n 1, 1) := by decide +kernel
theorem d_M_would_53 : decode prog_13_method_42_code 53 = .ok (.iload_n 2, 1) := by decide +kernel
theorem d_M_would_54 : decode prog_13_method_42_code 54 = .ok (.invokevirtual 204, 3) := by decide +kernel
theorem d_M_would_57 : decode prog_13_method_42_code 57 = .ok (.aload_n 0, 1) := by decide +kernel
theorem d_M_would_58 : decode prog_13_method_42_code 58 = .ok (.aload_n 0, 1) := by decide +kernel
theorem d_M_would_59 : decode prog_13_method_42_code 59 = .ok (.getfield 7, 3) := by decide +kernel
theorem d_M_would_62 : decode prog_13_method_42_code 62 = .ok (.iconst 2, 1) := by decide +kernel
theorem d_M_would_63 : decode prog_13_method_42_code 63 = .ok (.iaload, 1) := by decide +kernel
theorem d_M_would_64 : decode prog_13_method_42_code 64 = .ok (.iconst 1, 1) := by decide +kernel
theorem d_M_would_65 : decode prog_13_method_42_code 65 = .ok (.iadd, 1) := by decide +kernel
theorem d_M_would_66 : decode prog_13_method_42_code 66 = .ok (.invokevirtual 208, 3) := by decide +kernel
theorem d_M_would_69 : decode prog_13_method_42_code 69 = .ok (.iload_n 3, 1) := by decide +kernel
theorem d_M_would_70 : decode prog_13_method_42_code 70 = .ok (.ifCond .ne 14, 3) := by decide +kernel
theorem d_M_would_73 : decode prog_13_method_42_code 73 = .ok (.aload_n 0, 1) := by decide +kernel
theorem d_M_would_74 : decode prog_13_method_42_code 74 = .ok (.aload_n 0, 1) := by decide +kernel
theorem d_M_would_75 : decode prog_13_method_42_code 75 = .ok (.getfield 195, 3) := by decide +kernel
theorem d_M_would_78 : decode prog_13_method_42_code 78 = .ok (.invokevirtual 147, 3) := by decide +kernel
theorem d_M_would_81 : decode prog_13_method_42_code 81 = .ok (.goto 35, 3) := by decide +kernel
theorem d_M_would_84 : decode prog_13_method_42_code 84 = .ok (.iload_n 3, 1) := by decide +kernel
theorem d_M_would_85 : decode prog_13_method_42_code 85 = .ok (.iconst 1, 1) := by decide +kernel
theorem d_M_would_86 : decode prog_13_method_42_code 86 = .ok (.if_icmp .ne 10, 3) := by decide +kernel
theorem d_M_would_89 : decode prog_13_method_42_code 89 = .ok (.aload_n 0, 1) := by decide +kernel
theorem d_M_would_90 : decode prog_13_method_42_code 90 = .ok (.getfield 189, 3) := by decide +kernel
theorem d_M_would_93 : decode prog_13_method_42_code 93 = .ok (.goto 23, 3) := by decide +kernel
theorem d_M_would_96 : decode prog_13_method_42_code 96 = .ok (.iload_n 3, 1) := by decide +kernel
theorem d_M_would_97 : decode prog_13_method_42_code 97 = .ok (.iconst 2, 1) := by decide +kernel
theorem d_M_would_98 : decode prog_13_method_42_code 98 = .ok (.if_icmp .ne 12, 3) := by decide +kernel
theorem d_M_would_101 : decode prog_13_method_42_code 101 = .ok (.aload_n 0, 1) := by decide +kernel
theorem d_M_would_102 : decode prog_13_method_42_code 102 = .ok (.iload_n 1, 1) := by decide +kernel
theorem d_M_would_103 : decode prog_13_method_42_code 103 = .ok (.iload_n 2, 1) := by decide +kernel
theorem d_M_would_104 : decode prog_13_method_42_code 104 = .ok (.invokevirtual 186, 3) := by decide +kernel
theorem d_M_would_107 : decode prog_13_method_42_code 107 = .ok (.goto 9, 3) := by decide +kernel
theorem d_M_would_110 : decode prog_13_method_42_code 110 = .ok (.aload_n 0, 1) := by decide +kernel
theorem d_M_would_111 : decode prog_13_method_42_code 111 = .ok (.iload_n 1, 1) := by decide +kernel
theorem d_M_would_112 : decode prog_13_method_42_code 112 = .ok (.iload_n 2, 1) := by decide +kernel
theorem d_M_would_113 : decode prog_13_method_42_code 113 = .ok (.invokevirtual 192, 3) := by decide +kernel
theorem d_M_would_116 : decode prog_13_method_42_code 116 = .ok (.ireturn, 1) := by decide +kernel
theorem w_M_would {p : Program} {l : Launch} {e : Env} {s : State} {m : MethodId} {args : Array Value} {below : List Frame} {meth : Method} {c : Code} {K : KT} {A : Nat → Prop} (C0 : Cx p s m args meth c prog_13_method_42_code "CanoeSidesModel" 4 K A) (hr : meth.sig.returnType = (Option.some Jvm.ClassFile.FieldType.int)) {ad : Nat → Nat} (N : Nat) (a0 : Int32) (b0 : Int32) (c0 : Int32) (h : Hp) {res : Int32 × Hp} (hE : K_M_would N a0 b0 c0 h = some res) : G p l e rm_M_would s m args below meth c K A WM 4 0 0 (QI s args below K A WM 0 0 ad res.1 res.2) 0 [(0, .ref (ad 100)), (1, .int a0), (2, .int b0), (3, .int c0)] [] ad h := by
  unfold K_M_would at hE
  refine g_iload_n C0 1 d_M_would_0 rfl rfl ?_
  obtain ⟨v1, z1, hE⟩ := bd_some hE
  refine g_calliP C0 nd_M [] rfl (sb_E_M) (runS C0 (m_M_isStroke l K ad h a0 z1) 1 ⟨t_1293, t_1294, t_97, t_1295⟩ cd_M_isStroke (by decide) (sb_E_M) nd_E rfl rfl (Nat.le_of_ble_eq_true rfl) d_M_would_1) ?_
  have hB := ite_some hE
  refine g_if_eq C0 (tgt := 26) d_M_would_4 (by decide) (fun c_ => ?_) (fun c_ => ?_)
  · replace hE := hB.1 c_
    refine g_ldc C0 (v := (-1000000002)) t_1199 d_M_would_26 ?_
    obtain rfl := Option.some.inj hE
    exact g_iret C0 hr d_M_would_28
  · replace hE := hB.2 c_
    refine g_iload_n C0 2 d_M_would_7 rfl rfl ?_
    obtain ⟨v8, z8, hE⟩ := bd_some hE
    refine g_calliP C0 nd_M [] rfl (sb_E_M) (runS C0 (m_M_isStroke l K ad h b0 z8) 1 ⟨t_1293, t_1294, t_97, t_1295⟩ cd_M_isStroke (by decide) (sb_E_M) nd_E rfl rfl (Nat.le_of_ble_eq_true rfl) d_M_would_8) ?_
    have hB := ite_some hE
    refine g_if_eq C0 (tgt := 26) d_M_would_11 (by decide) (fun c_ => ?_) (fun c_ => ?_)
    · replace hE := hB.1 c_
      refine g_ldc C0 (v := (-1000000002)) t_1199 d_M_would_26 ?_
      obtain rfl := Option.some.inj hE
      exact g_iret C0 hr d_M_would_28
    · replace hE := hB.2 c_
      refine g_iload_n C0 3 d_M_would_14 rfl rfl ?_
      refine g_i2l C0 d_M_would_15 ?_
      refine g_lconst C0 (v := 0) d_M_would_16 (by decide) ?_
      refine g_ldc2 C0 (v := 3) t_1288 d_M_would_17 ?_
      obtain ⟨v20, z20, hE⟩ := bd_some hE
      refine g_calliP C0 nd_M [] rfl (sb_E_M) (runS C0 (m_M_in l K ad h (Int32.toInt64 c0) 0 3 z20) 3 ⟨t_1196, t_1197, t_97, t_1198⟩ cd_M_in (by decide) (sb_E_M) nd_E rfl rfl (Nat.le_of_ble_eq_true rfl) d_M_would_20) ?_
      have hB := ite_some hE
      refine g_if_ne C0 (tgt := 29) d_M_would_23 (by decide) (fun c_ => ?_) (fun c_ => ?_)
      · replace hE := hB.2 c_
        refine g_aload_n C0 0 d_M_would_29 rfl rfl ?_
        obtain ⟨v30, z30, hE⟩ := bd_some hE
        refine g_calliP C0 nd_M [100, 101, 102, 103, 104, 105, 106, 107, 108, 109, 110, 111, 112, 113, 114, 115] rfl (sbW_self WM) (runV C0 (m_M_isNone l K ad h z30) 0 rfl ⟨t_1264, t_1266, t_51, t_97, t_1267⟩ cd_M_isNone (by decide) 0 rfl rfl (sbW_self WM) nd_M rfl rfl (Nat.le_of_ble_eq_true rfl) d_M_would_30) ?_
        have hB := ite_some hE
        refine g_if_eq C0 (tgt := 39) d_M_would_33 (by decide) (fun c_ => ?_) (fun c_ => ?_)
        · replace hE := hB.1 c_
          refine g_aload_n C0 0 d_M_would_39 rfl rfl ?_
          refine g_aload_n C0 0 d_M_would_40 rfl rfl ?_
          refine g_getr C0 CK_11 0 (by decide) t_1090 0 rfl rfl d_M_would_41 ?_
          refine g_iconst C0 (v := 0) d_M_would_44 (by decide) ?_
          obtain ⟨q45, v45, e45, hE⟩ := gA_some hE
          refine g_iald C0 1 rfl q45 d_M_would_45 ?_
          refine g_top e45 ?_
          refine g_aload_n C0 0 d_M_would_46 rfl rfl ?_
          refine g_getr C0 CK_11 0 (by decide) t_1090 0 rfl rfl d_M_would_47 ?_
          refine g_iconst C0 (v := 1) d_M_would_50 (by decide) ?_
          obtain ⟨q51, v51, e51, hE⟩ := gA_some hE
          refine g_iald C0 1 rfl q51 d_M_would_51 ?_
          refine g_top e51 ?_
          refine g_iload_n C0 1 d_M_would_52 rfl rfl ?_
          refine g_iload_n C0 2 d_M_would_53 rfl rfl ?_
          obtain ⟨h54, z54, hE⟩ := bd_some hE
          refine g_callv C0 nd_M [100, 101, 102, 103, 104, 105, 106, 107, 108, 109, 110, 111, 112, 113, 114, 115] rfl (sbW_self WM) (runV C0 (m_M_strokeFrom l K ad h N v45 v51 a0 b0 z54) 4 rfl ⟨t_1305, t_1307, t_56, t_97, t_1308⟩ cd_M_strokeFrom (by decide) 0 rfl rfl (sbW_self WM) nd_M rfl rfl (Nat.le_of_ble_eq_true rfl) d_M_would_54) ?_
          refine g_mx [100, 101, 102, 103, 104, 105, 106, 107, 108, 109, 110, 111, 112, 113, 114, 115] rfl ?_
          refine g_aload_n C0 0 d_M_would_57 rfl rfl ?_
          refine g_aload_n C0 0 d_M_would_58 rfl rfl ?_
          refine g_getr C0 CK_11 0 (by decide) t_1090 0 rfl rfl d_M_would_59 ?_
          refine g_iconst C0 (v := 2) d_M_would_62 (by decide) ?_
          obtain ⟨q63, v63, e63, hE⟩ := gA_some hE
          refine g_iald C0 1 rfl q63 d_M_would_63 ?_
          refine g_top e63 ?_
          refine g_iconst C0 (v := 1) d_M_would_64 (by decide) ?_
          refine g_iadd C0 d_M_would_65 ?_
          obtain ⟨h66, z66, hE⟩ := bd_some hE
          refine g_callv C0 nd_M [100, 101, 102, 103, 104, 105, 106, 107, 108, 109, 110, 111, 112, 113, 114, 115] rfl (sbW_self WM) (runV C0 (m_M_windAt l K ad h54 (v63 + 1) z66) 1 rfl ⟨t_1339, t_1341, t_61, t_97, t_1342⟩ cd_M_windAt (by decide) 0 rfl rfl (sbW_self WM) nd_M rfl rfl (Nat.le_of_ble_eq_true rfl) d_M_would_66) ?_
          refine g_mx [100, 101, 102, 103, 104, 105, 106, 107, 108, 109, 110, 111, 112, 113, 114, 115] rfl ?_
          refine g_iload_n C0 3 d_M_would_69 rfl rfl ?_
          have hB := ite_some hE
          refine g_if_ne C0 (tgt := 84) d_M_would_70 (by decide) (fun c_ => ?_) (fun c_ => ?_)
          · replace hE := hB.2 c_
            refine g_iload_n C0 3 d_M_would_84 rfl rfl ?_
            refine g_iconst C0 (v := 1) d_M_would_85 (by decide) ?_
            have hB := ite_some hE
            refine g_icmp_ne C0 (tgt := 96) d_M_would_86 (by decide) (fun c_ => ?_) (fun c_ => ?_)
            · replace hE := hB.2 c_
              refine g_iload_n C0 3 d_M_would_96 rfl rfl ?_
              refine g_iconst C0 (v := 2) d_M_would_97 (by decide) ?_
              have hB := ite_some hE
              refine g_icmp_ne C0 (tgt := 110) d_M_would_98 (by decide) (fun c_ => ?_) (fun c_ => ?_)
              · replace hE := hB.2 c_
                refine g_aload_n C0 0 d_M_would_110 rfl rfl ?_
                refine g_iload_n C0 1 d_M_would_111 rfl rfl ?_
                refine g_iload_n C0 2 d_M_would_112 rfl rfl ?_
                obtain ⟨v113, z113, hE⟩ := bd_some hE
                refine g_calliP C0 nd_M [100, 101, 102, 103, 104, 105, 106, 107, 108, 109, 110, 111, 112, 113, 114, 115] rfl (sbW_self WM) (runV C0 (m_M_pushBy l K ad h66 a0 b0 z113) 2 rfl ⟨t_1316, t_1318, t_58, t_97, t_1319⟩ cd_M_pushBy (by decide) 0 rfl rfl (sbW_self WM) nd_M rfl rfl (Nat.le_of_ble_eq_true rfl) d_M_would_113) ?_
                obtain rfl := Option.some.inj hE
                exact g_iret C0 hr d_M_would_116
              · replace hE := hB.1 c_
                refine g_aload_n C0 0 d_M_would_101 rfl rfl ?_
                refine g_iload_n C0 1 d_M_would_102 rfl rfl ?_
                refine g_iload_n C0 2 d_M_would_103 rfl rfl ?_
                obtain ⟨v104, z104, hE⟩ := bd_some hE
                refine g_calliP C0 nd_M [100, 101, 102, 103, 104, 105, 106, 107, 108, 109, 110, 111, 112, 113, 114, 115] rfl (sbW_self WM) (runV C0 (m_M_turnBy l K ad h66 a0 b0 z104) 2 rfl ⟨t_1309, t_1311, t_57, t_97, t_1312⟩ cd_M_turnBy (by decide) 0 rfl rfl (sbW_self WM) nd_M rfl rfl (Nat.le_of_ble_eq_true rfl) d_M_would_104) ?_
                refine g_goto C0 (tgt := 116) d_M_would_107 (by decide) ?_
                obtain rfl := Option.some.inj hE
                exact g_iret C0 hr d_M_would_116
            · replace hE := hB.1 c_
              refine g_aload_n C0 0 d_M_would_89 rfl rfl ?_
              refine g_geti C0 CK_11 14 (by decide) t_1104 0 rfl rfl d_M_would_90 ?_
              refine g_goto C0 (tgt := 116) d_M_would_93 (by decide) ?_
              obtain rfl := Option.some.inj hE
              exact g_iret C0 hr d_M_would_116
          · replace hE := hB.1 c_
            refine g_aload_n C0 0 d_M_would_73 rfl rfl ?_
            refine g_aload_n C0 0 d_M_would_74 rfl rfl ?_
            refine g_geti C0 CK_11 13 (by decide) t_1103 0 rfl rfl d_M_would_75 ?_
            obtain ⟨v78, z78, hE⟩ := bd_some hE
            refine g_calliP C0 nd_M [100, 101, 102, 103, 104, 105, 106, 107, 108, 109, 110, 111, 112, 113, 114, 115] rfl (sbW_self WM) (runV C0 (m_M_pair l K ad h66 (h66 100 13) z78) 1 rfl ⟨t_1260, t_1262, t_50, t_97, t_1263⟩ cd_M_pair (by decide) 0 rfl rfl (sbW_self WM) nd_M rfl rfl (Nat.le_of_ble_eq_true rfl) d_M_would_78) ?_
            refine g_goto C0 (tgt := 116) d_M_would_81 (by decide) ?_
            obtain rfl := Option.some.inj hE
            exact g_iret C0 hr d_M_would_116
        · replace hE := hB.2 c_
          refine g_ldc C0 (v := (-1000000003)) t_1296 d_M_would_36 ?_
          obtain rfl := Option.some.inj hE
          exact g_iret C0 hr d_M_would_38
      · replace hE := hB.1 c_
        refine g_ldc C0 (v := (-1000000002)) t_1199 d_M_would_26 ?_
        obtain rfl := Option.some.inj hE
        exact g_iret C0 hr d_M_would_28
theorem m_M_would (l : Launch) (K : KT) (ad : Nat → Nat) (h : Hp) (N : Nat) (a0 : Int32) (b0 : Int32) (c0 : Int32) {res : Int32 × Hp} (hE : K_M_would N a0 b0 c0 h = some res) : ConI l y_M_would prog_13_method_42_code 4 (Option.some Jvm.ClassFile.FieldType.int) rm_M_would K WM ad h [.ref (ad 100), .int a0, .int b0, .int c0] res.1 res.2 := fun sz =>
  con_start [(0, .ref (ad 100)), (1, .int a0), (2, .int b0), (3, .int c0)] (by decide +kernel) rfl (Nat.le_of_ble_eq_true rfl) (fun p e s m args below meth c C0 hr hnm hsz => w_M_would C0 hr N a0 b0 c0 h hE)
abbrev y_M_back : MethodName := ⟨"CanoeSidesModel", "back", "(I)I"⟩
abbrev rm_M_back : Room := { frames := 1, cells := 0, slots := 0, locals := 25 }
theorem cd_M_back : cwd y_M_back 1 := by decide +kernel
theorem d_M_back_0 : decode prog_13_method_43_code 0 = .ok (.iload_n 1, 1) := by decide +kernel
theorem d_M_back_1 : decode prog_13_method_43_code 1 = .ok (.i2l, 1) := by decide +kernel
theorem d_M_back_2 : decode prog_13_method_43_code 2 = .ok (.lconst 1, 1) := by decide +kernel
theorem d_M_back_3 : decode prog_13_method_43_code 3 = .ok (.ldc2_w 220, 3) := by decide +kernel
theorem d_M_back_6 : decode prog_13_method_43_code 6 = .ok (.invokestatic 67, 3) := by decide +kernel
theorem d_M_back_9 : decode prog_13_method_43_code 9 = .ok (.ifCond .ne 6, 3) := by decide +kernel
theorem d_M_back_12 : decode prog_13_method_43_code 12 = .ok (.ldc 71, 2) := by decide +kernel
theorem d_M_back_14 : decode prog_13_method_43_code 14 = .ok (.ireturn, 1) := by decide +kernel
theorem d_M_back_15 : decode prog_13_method_43_code 15 = .ok (.iload_n 1, 1) := by decide +kernel
theorem d_M_back_16 : decode prog_13_method_43_code 16 = .ok (.aload_n 0, 1) := by decide +kernel
theorem d_M_back_17 : decode prog_13_method_43_code 17 = .ok (.getfield 140, 3) := by decide +kernel
theorem d_M_back_20 : decode prog_13_method_43_code 20 = .ok (.if_icmp .le 6, 3) := by decide +kernel
theorem d_M_back_23 : decode prog_13_method_43_code 23 = .ok (.ldc 215, 2) := by decide +kernel
theorem d_M_back_25 : decode prog_13_method_43_code 25 = .ok (.ireturn, 1) := by decide +kernel
theorem d_M_back_26 : decode prog_13_method_43_code 26 = .ok (.aload_n 0, 1) := by decide +kernel
theorem d_M_back_27 : decode prog_13_method_43_code 27 = .ok (.dup, 1) := by decide +kernel
theorem d_M_back_28 : decode prog_13_method_43_code 28 = .ok (.getfield 140, 3) := by decide +kernel
theorem d_M_back_31 : decode prog_13_method_43_code 31 = .ok (.iload_n 1, 1) := by decide +kernel
theorem d_M_back_32 : decode prog_13_method_43_code 32 = .ok (.isub, 1) := by decide +kernel
theorem d_M_back_33 : decode prog_13_method_43_code 33 = .ok (.putfield 140, 3) := by decide +kernel
theorem d_M_back_36 : decode prog_13_method_43_code 36 = .ok (.iconst 0, 1) := by decide +kernel
theorem d_M_back_37 : decode prog_13_method_43_code 37 = .ok (.istore_n 2, 1) := by decide +kernel
theorem d_M_back_38 : decode prog_13_method_43_code 38 = .ok (.iload_n 2, 1) := by decide +kernel
theorem d_M_back_39 : decode prog_13_method_43_code 39 = .ok (.iconst 3, 1) := by decide +kernel
theorem d_M_back_40 : decode prog_13_method_43_code 40 = .ok (.if_icmp .ge 28, 3) := by decide +kernel
theorem d_M_back_43 : decode prog_13_method_43_code 43 = .ok (.aload_n 0, 1) := by decide +kernel
theorem d_M_back_44 : decode prog_13_method_43_code 44 = .ok (.getfield 7, 3) := by decide +kernel
theorem d_M_back_47 : decode prog_13_method_43_code 47 = .ok (.iload_n 2, 1) := by decide +kernel
theorem d_M_back_48 : decode prog_13_method_43_code 48 = .ok (.aload_n 0, 1) := by decide +kernel
theorem d_M_back_49 : decode prog_13_method_43_code 49 = .ok (.getfield 33, 3) := by decide +kernel
theorem d_M_back_52 : decode prog_13_method_43_code 52 = .ok (.iconst 3, 1) := by decide +kernel
theorem d_M_back_53 : decode prog_13_method_43_code 53 = .ok (.aload_n 0, 1) := by decide +kernel
theorem d_M_back_54 : decode prog_13_method_43_code 54 = .ok (.getfield 140, 3) := by decide +kernel
theorem d_M_back_57 : decode prog_13_method_43_code 57 = .ok (.imul, 1) := by decide +kernel
theorem d_M_back_58 : decode prog_13_method_43_code 58 = .ok (.iload_n 2, 1) := by decide +kernel
theorem d_M_back_59 : decode prog_13_method_43_code 59 = .ok (.iadd, 1) := by decide +kernel
theorem d_M_back_60 : decode prog_13_method_43_code 60 = .ok (.iaload, 1) := by decide +kernel
theorem d_M_back_61 : decode prog_13_method_43_code 61 = .ok (.iastore, 1) := by decide +kernel
theorem d_M_back_62 : decode prog_13_method_43_code 62 = .ok (.iinc 2 1, 3) := by decide +kernel
theorem d_M_back_65 : decode prog_13_method_43_code 65 = .ok (.goto (-27), 3) := by decide +kernel
theorem d_M_back_68 : decode prog_13_method_43_code 68 = .ok (.aload_n 0, 1) := by decide +kernel
theorem d_M_back_69 : decode prog_13_method_43_code 69 = .ok (.getfield 7, 3) := by decide +kernel
theorem d_M_back_72 : decode prog_13_method_43_code 72 = .ok (.iconst 2, 1) := by decide +kernel
theorem d_M_back_73 : decode prog_13_method_43_code 73 = .ok (.iaload, 1) := by decide +kernel
theorem d_M_back_74 : decode prog_13_method_43_code 74 = .ok (.ireturn, 1) := by decide +kernel
theorem w_M_back_L38 {p : Program} {l : Launch} {e : Env} {s : State} {m : MethodId} {args : Array Value} {below : List Frame} {meth : Method} {c : Code} {K : KT} {A : Nat → Prop} {Q : State → Prop} (C0 : Cx p s m args meth c prog_13_method_43_code "CanoeSidesModel" 3 K A) (hr : meth.sig.returnType = (Option.some Jvm.ClassFile.FieldType.int)) {ad : Nat → Nat} (N : Nat) (x2 : Int32) (h : Hp) {x_ : (Int32 × Hp) ⊕ (Hp)} (hE : K_M_back_L38 N x2 h = some x_) (hk1 : ∀ z_, x_ = .inl z_ → G p l e rm_M_back s m args below meth c K A WM 3 0 0 Q 38 [(0, .ref (ad 100)), (2, .int z_.1)] [] ad z_.2) (hk3 : ∀ z_, x_ = .inr z_ → G p l e rm_M_back s m args below meth c K A WM 3 0 0 Q 68 [(0, .ref (ad 100))] [] ad z_) : G p l e rm_M_back s m args below meth c K A WM 3 0 0 Q 38 [(0, .ref (ad 100)), (2, .int x2)] [] ad h := by
  unfold K_M_back_L38 at hE
  refine g_iload_n C0 1 d_M_back_38 rfl rfl ?_
  refine g_iconst C0 (v := 3) d_M_back_39 (by decide) ?_
  have hB := ite_some hE
  refine g_icmp_ge C0 (tgt := 68) d_M_back_40 (by decide) (fun c_ => ?_) (fun c_ => ?_)
  · replace hE := hB.1 c_
    refine g_sub [0] (L' := [(0, .ref (ad 100))]) rfl ?_
    exact hk3 _ (Option.some.inj hE).symm
  · replace hE := hB.2 c_
    refine g_aload_n C0 0 d_M_back_43 rfl rfl ?_
    refine g_getr C0 CK_11 0 (by decide) t_1090 0 rfl rfl d_M_back_44 ?_
    refine g_iload_n C0 1 d_M_back_47 rfl rfl ?_
    refine g_aload_n C0 0 d_M_back_48 rfl rfl ?_
    refine g_getr C0 CK_11 15 (by decide) t_1105 0 rfl rfl d_M_back_49 ?_
    refine g_iconst C0 (v := 3) d_M_back_52 (by decide) ?_
    refine g_aload_n C0 0 d_M_back_53 rfl rfl ?_
    refine g_geti C0 CK_11 16 (by decide) t_1106 0 rfl rfl d_M_back_54 ?_
    refine g_imul C0 d_M_back_57 ?_
    refine g_iload_n C0 1 d_M_back_58 rfl rfl ?_
    refine g_iadd C0 d_M_back_59 ?_
    obtain ⟨q60, v60, e60, hE⟩ := gA_some hE
    refine g_iald C0 7 rfl q60 d_M_back_60 ?_
    refine g_top e60 ?_
    obtain ⟨q61, hE⟩ := sA_some hE
    obtain ⟨h61, e61, hE⟩ := nm_some hE
    refine g_iast C0 1 rfl nd_M q61 d_M_back_61 ?_
    refine g_heap e61 ?_
    obtain ⟨v62, e62, hE⟩ := nm_some hE
    refine g_iinc C0 1 [(2, .int v62), (0, .ref (ad 100))] d_M_back_62 rfl (by rw [e62]; rfl) (by decide) rfl ?_
    refine g_goto C0 (tgt := 38) d_M_back_65 (by decide) ?_
    refine g_sub [1, 0] (L' := [(0, .ref (ad 100)), (2, .int v62)]) rfl ?_
    exact hk1 _ (Option.some.inj hE).symm
theorem w_M_back {p : Program} {l : Launch} {e : Env} {s : State} {m : MethodId} {args : Array Value} {below : List Frame} {meth : Method} {c : Code} {K : KT} {A : Nat → Prop} (C0 : Cx p s m args meth c prog_13_method_43_code "CanoeSidesModel" 3 K A) (hr : meth.sig.returnType = (Option.some Jvm.ClassFile.FieldType.int)) {ad : Nat → Nat} (N : Nat) (a0 : Int32) (h : Hp) {res : Int32 × Hp} (hE : K_M_back N a0 h = some res) : G p l e rm_M_back s m args below meth c K A WM 3 0 0 (QI s args below K A WM 0 0 ad res.1 res.2) 0 [(0, .ref (ad 100)), (1, .int a0)] [] ad h := by
  unfold K_M_back at hE
  refine g_iload_n C0 1 d_M_back_0 rfl rfl ?_
  refine g_i2l C0 d_M_back_1 ?_
  refine g_lconst C0 (v := 1) d_M_back_2 (by decide) ?_
  refine g_ldc2 C0 (v := 50) t_1351 d_M_back_3 ?_
  obtain ⟨v6, z6, hE⟩ := bd_some hE
  refine g_calliP C0 nd_M [] rfl (sb_E_M) (runS C0 (m_M_in l K ad h (Int32.toInt64 a0) 1 50 z6) 3 ⟨t_1196, t_1197, t_97, t_1198⟩ cd_M_in (by decide) (sb_E_M) nd_E rfl rfl (Nat.le_of_ble_eq_true rfl) d_M_back_6) ?_
  have hB := ite_some hE
  refine g_if_ne C0 (tgt := 15) d_M_back_9 (by decide) (fun c_ => ?_) (fun c_ => ?_)
  · replace hE := hB.2 c_
    refine g_iload_n C0 1 d_M_back_15 rfl rfl ?_
    refine g_aload_n C0 0 d_M_back_16 rfl rfl ?_
    refine g_geti C0 CK_11 16 (by decide) t_1106 0 rfl rfl d_M_back_17 ?_
    have hB := ite_some hE
    refine g_icmp_le C0 (tgt := 26) d_M_back_20 (by decide) (fun c_ => ?_) (fun c_ => ?_)
    · replace hE := hB.1 c_
      refine g_aload_n C0 0 d_M_back_26 rfl rfl ?_
      refine g_dup C0 d_M_back_27 rfl ?_
      refine g_geti C0 CK_11 16 (by decide) t_1106 0 rfl rfl d_M_back_28 ?_
      refine g_iload_n C0 1 d_M_back_31 rfl rfl ?_
      refine g_isub C0 d_M_back_32 ?_
      obtain ⟨h33, e33, hE⟩ := nm_some hE
      refine g_puti C0 CK_11 CT_11 16 (by decide) t_1106 rfl (by decide +kernel) nd_M 0 rfl rfl d_M_back_33 ?_
      refine g_heap e33 ?_
      refine g_iconst C0 (v := 0) d_M_back_36 (by decide) ?_
      refine g_istore_n C0 [(2, .int 0), (0, .ref (ad 100)), (1, .int a0)] d_M_back_37 rfl (by decide) rfl ?_
      refine g_sub [1, 0] (L' := [(0, .ref (ad 100)), (2, .int 0)]) rfl ?_
      obtain ⟨t38, z38, hE⟩ := bd_some hE
      refine loopG (fun z_ : Int32 × Hp => K_M_back_L38 N z_.1 z_.2) (fun z_ : Int32 × Hp => G p l e rm_M_back s m args below meth c K A WM 3 0 0 _ 38 [(0, .ref (ad 100)), (2, .int z_.1)] [] ad z_.2) (fun z_ : Hp => G p l e rm_M_back s m args below meth c K A WM 3 0 0 _ 68 [(0, .ref (ad 100))] [] ad z_) (fun z_ x_ hz k1 k2 => w_M_back_L38 C0 hr N z_.1 z_.2 hz k1 k2) _ _ _ z38 ?_
      try dsimp only
      refine g_aload_n C0 0 d_M_back_68 rfl rfl ?_
      refine g_getr C0 CK_11 0 (by decide) t_1090 0 rfl rfl d_M_back_69 ?_
      refine g_iconst C0 (v := 2) d_M_back_72 (by decide) ?_
      obtain ⟨q73, v73, e73, hE⟩ := gA_some hE
      refine g_iald C0 1 rfl q73 d_M_back_73 ?_
      refine g_top e73 ?_
      obtain rfl := Option.some.inj hE
      exact g_iret C0 hr d_M_back_74
    · replace hE := hB.2 c_
      refine g_ldc C0 (v := (-1000000003)) t_1296 d_M_back_23 ?_
      obtain rfl := Option.some.inj hE
      exact g_iret C0 hr d_M_back_25
  · replace hE := hB.1 c_
    refine g_ldc C0 (v := (-1000000002)) t_1199 d_M_back_12 ?_
    obtain rfl := Option.some.inj hE
    exact g_iret C0 hr d_M_back_14
theorem m_M_back (l : Launch) (K : KT) (ad : Nat → Nat) (h : Hp) (N : Nat) (a0 : Int32) {res : Int32 × Hp} (hE : K_M_back N a0 h = some res) : ConI l y_M_back prog_13_method_43_code 3 (Option.some Jvm.ClassFile.FieldType.int) rm_M_back K WM ad h [.ref (ad 100), .int a0] res.1 res.2 := fun sz =>
  con_start [(0, .ref (ad 100)), (1, .int a0)] (by decide +kernel) rfl (Nat.le_of_ble_eq_true rfl) (fun p e s m args below meth c C0 hr hnm hsz => w_M_back C0 hr N a0 h hE)
abbrev y_M_set : MethodName := ⟨"CanoeSidesModel", "set", "(III)I"⟩
abbrev rm_M_set : Room := { frames := 3, cells := 0, slots := 0, locals := 62 }
theorem cd_M_set : cwd y_M_set 3 := by decide +kernel
theorem d_M_set_0 : decode prog_13_method_44_code 0 = .ok (.aload_n 0, 1) := by decide +kernel
theorem d_M_set_1 : decode prog_13_method_44_code 1 = .ok (.iload_n 1, 1) := by decide +kernel
theorem d_M_set_2 : decode prog_13_method_44_code 2 = .ok (.iload_n 2, 1) := by decide +kernel
theorem d_M_set_3 : decode prog_13_method_44_code 3 = .ok (.invokevirtual 157, 3) := by decide +kernel
theorem d_M_set_6 : decode prog_13_method_44_code 6 = .ok (.ifCond .ne 6, 3) := by decide +kernel
theorem d_M_set_9 : decode prog_13_method_44_code 9 = .ok (.ldc 160, 2) := by decide +kernel
theorem d_M_set_11 : decode prog_13_method_44_code 11 = .ok (.ireturn, 1) := by decide +kernel
theorem d_M_set_12 : decode prog_13_method_44_code 12 = .ok (.iload_n 3, 1) := by decide +kernel
theorem d_M_set_13 : decode prog_13_method_44_code 13 = .ok (.i2l, 1) := by decide +kernel
theorem d_M_set_14 : decode prog_13_method_44_code 14 = .ok (.lconst 0, 1) := by decide +kernel
theorem d_M_set_15 : decode prog_13_method_44_code 15 = .ok (.ldc2_w 174, 3) := by decide +kernel
theorem d_M_set_18 : decode prog_13_method_44_code 18 = .ok (.invokestatic 67, 3) := by decide +kernel
theorem d_M_set_21 : decode prog_13_method_44_code 21 = .ok (.ifCond .ne 6, 3) := by decide +kernel
theorem d_M_set_24 : decode prog_13_method_44_code 24 = .ok (.ldc 71, 2) := by decide +kernel
theorem d_M_set_26 : decode prog_13_method_44_code 26 = .ok (.ireturn, 1) := by decide +kernel
theorem d_M_set_27 : decode prog_13_method_44_code 27 = .ok (.iload_n 2, 1) := by decide +kernel
theorem d_M_set_28 : decode prog_13_method_44_code 28 = .ok (.aload_n 0, 1) := by decide +kernel
theorem d_M_set_29 : decode prog_13_method_44_code 29 = .ok (.getfield 20, 3) := by decide +kernel
theorem d_M_set_32 : decode prog_13_method_44_code 32 = .ok (.iconst 0, 1) := by decide +kernel
theorem d_M_set_33 : decode prog_13_method_44_code 33 = .ok (.iaload, 1) := by decide +kernel
theorem d_M_set_34 : decode prog_13_method_44_code 34 = .ok (.imul, 1) := by decide +kernel
theorem d_M_set_35 : decode prog_13_method_44_code 35 = .ok (.iload_n 1, 1) := by decide +kernel
theorem d_M_set_36 : decode prog_13_method_44_code 36 = .ok (.iadd, 1) := by decide +kernel
theorem d_M_set_37 : decode prog_13_method_44_code 37 = .ok (.istore 4, 2) := by decide +kernel
theorem d_M_set_39 : decode prog_13_method_44_code 39 = .ok (.aload_n 0, 1) := by decide +kernel
theorem d_M_set_40 : decode prog_13_method_44_code 40 = .ok (.getfield 17, 3) := by decide +kernel
theorem d_M_set_43 : decode prog_13_method_44_code 43 = .ok (.iload 4, 2) := by decide +kernel
theorem d_M_set_45 : decode prog_13_method_44_code 45 = .ok (.iaload, 1) := by decide +kernel
theorem d_M_set_46 : decode prog_13_method_44_code 46 = .ok (.iconst 1, 1) := by decide +kernel
theorem d_M_set_47 : decode prog_13_method_44_code 47 = .ok (.if_icmp .ne 6, 3) := by decide +kernel
theorem d_M_set_50 : decode prog_13_method_44_code 50 = .ok (.ldc 215, 2) := by decide +kernel
theorem d_M_set_52 : decode prog_13_method_44_code 52 = .ok (.ireturn, 1) := by decide +kernel
theorem d_M_set_53 : decode prog_13_method_44_code 53 = .ok (.aload_n 0, 1) := by decide +kernel
theorem d_M_set_54 : decode prog_13_method_44_code 54 = .ok (.aload_n 0, 1) := by decide +kernel
theorem d_M_set_55 : decode prog_13_method_44_code 55 = .ok (.getfield 7, 3) := by decide +kernel
theorem d_M_set_58 : decode prog_13_method_44_code 58 = .ok (.iconst 0, 1) := by decide +kernel
theorem d_M_set_59 : decode prog_13_method_44_code 59 = .ok (.iaload, 1) := by decide +kernel
theorem d_M_set_60 : decode prog_13_method_44_code 60 = .ok (.invokevirtual 147, 3) := by decide +kernel
theorem d_M_set_63 : decode prog_13_method_44_code 63 = .ok (.istore 5, 2) := by decide +kernel
theorem d_M_set_65 : decode prog_13_method_44_code 65 = .ok (.aload_n 0, 1) := by decide +kernel
theorem d_M_set_66 : decode prog_13_method_44_code 66 = .ok (.getfield 7, 3) := by decide +kernel
theorem d_M_set_69 : decode prog_13_method_44_code 69 = .ok (.iconst 0, 1) := by decide +kernel
theorem d_M_set_70 : decode prog_13_method_44_code 70 = .ok (.iload 4, 2) := by decide +kernel
theorem d_M_set_72 : decode prog_13_method_44_code 72 = .ok (.iastore, 1) := by decide +kernel
theorem d_M_set_73 : decode prog_13_method_44_code 73 = .ok (.aload_n 0, 1) := by decide +kernel
theorem d_M_set_74 : decode prog_13_method_44_code 74 = .ok (.getfield 7, 3) := by decide +kernel
theorem d_M_set_77 : decode prog_13_method_44_code 77 = .ok (.iconst 1, 1) := by decide +kernel
theorem d_M_set_78 : decode prog_13_method_44_code 78 = .ok (.iload_n 3, 1) := by decide +kernel
theorem d_M_set_79 : decode prog_13_method_44_code 79 = .ok (.iastore, 1) := by decide +kernel
theorem d_M_set_80 : decode prog_13_method_44_code 80 = .ok (.iload 5, 2) := by decide +kernel
theorem d_M_set_82 : decode prog_13_method_44_code 82 = .ok (.ireturn, 1) := by decide +kernel
theorem w_M_set {p : Program} {l : Launch} {e : Env} {s : State} {m : MethodId} {args : Array Value} {below : List Frame} {meth : Method} {c : Code} {K : KT} {A : Nat → Prop} (C0 : Cx p s m args meth c prog_13_method_44_code "CanoeSidesModel" 6 K A) (hr : meth.sig.returnType = (Option.some Jvm.ClassFile.FieldType.int)) {ad : Nat → Nat} (a0 : Int32) (b0 : Int32) (c0 : Int32) (h : Hp) {res : Int32 × Hp} (hE : K_M_set a0 b0 c0 h = some res) : G p l e rm_M_set s m args below meth c K A WM 6 0 0 (QI s args below K A WM 0 0 ad res.1 res.2) 0 [(0, .ref (ad 100)), (1, .int a0), (2, .int b0), (3, .int c0)] [] ad h := by
  unfold K_M_set at hE
  refine g_aload_n C0 0 d_M_set_0 rfl rfl ?_
  refine g_iload_n C0 1 d_M_set_1 rfl rfl ?_
  refine g_iload_n C0 2 d_M_set_2 rfl rfl ?_
  obtain ⟨v3, z3, hE⟩ := bd_some hE
  refine g_calliP C0 nd_M [100, 101, 102, 103, 104, 105, 106, 107, 108, 109, 110, 111, 112, 113, 114, 115] rfl (sbW_self WM) (runV C0 (m_M_isSquare l K ad h a0 b0 z3) 2 rfl ⟨t_1279, t_1281, t_53, t_97, t_1282⟩ cd_M_isSquare (by decide) 0 rfl rfl (sbW_self WM) nd_M rfl rfl (Nat.le_of_ble_eq_true rfl) d_M_set_3) ?_
  have hB := ite_some hE
  refine g_if_ne C0 (tgt := 12) d_M_set_6 (by decide) (fun c_ => ?_) (fun c_ => ?_)
  · replace hE := hB.2 c_
    refine g_iload_n C0 3 d_M_set_12 rfl rfl ?_
    refine g_i2l C0 d_M_set_13 ?_
    refine g_lconst C0 (v := 0) d_M_set_14 (by decide) ?_
    refine g_ldc2 C0 (v := 7) t_1327 d_M_set_15 ?_
    obtain ⟨v18, z18, hE⟩ := bd_some hE
    refine g_calliP C0 nd_M [] rfl (sb_E_M) (runS C0 (m_M_in l K ad h (Int32.toInt64 c0) 0 7 z18) 3 ⟨t_1196, t_1197, t_97, t_1198⟩ cd_M_in (by decide) (sb_E_M) nd_E rfl rfl (Nat.le_of_ble_eq_true rfl) d_M_set_18) ?_
    have hB := ite_some hE
    refine g_if_ne C0 (tgt := 27) d_M_set_21 (by decide) (fun c_ => ?_) (fun c_ => ?_)
    · replace hE := hB.2 c_
      refine g_iload_n C0 2 d_M_set_27 rfl rfl ?_
      refine g_aload_n C0 0 d_M_set_28 rfl rfl ?_
      refine g_getr C0 CK_11 3 (by decide) t_1093 0 rfl rfl d_M_set_29 ?_
      refine g_iconst C0 (v := 0) d_M_set_32 (by decide) ?_
      obtain ⟨q33, v33, e33, hE⟩ := gA_some hE
      refine g_iald C0 4 rfl q33 d_M_set_33 ?_
      refine g_top e33 ?_
      refine g_imul C0 d_M_set_34 ?_
      refine g_iload_n C0 1 d_M_set_35 rfl rfl ?_
      refine g_iadd C0 d_M_set_36 ?_
      obtain ⟨v37, e37, hE⟩ := nm_some hE
      refine g_top e37 ?_
      refine g_istore C0 [(4, .int v37), (0, .ref (ad 100)), (1, .int a0), (2, .int b0), (3, .int c0)] d_M_set_37 (by decide) rfl ?_
      refine g_aload_n C0 1 d_M_set_39 rfl rfl ?_
      refine g_getr C0 CK_11 2 (by decide) t_1092 0 rfl rfl d_M_set_40 ?_
      refine g_iload C0 0 d_M_set_43 rfl ?_
      obtain ⟨q45, v45, e45, hE⟩ := gA_some hE
      refine g_iald C0 3 rfl q45 d_M_set_45 ?_
      refine g_top e45 ?_
      refine g_iconst C0 (v := 1) d_M_set_46 (by decide) ?_
      have hB := ite_some hE
      refine g_icmp_ne C0 (tgt := 53) d_M_set_47 (by decide) (fun c_ => ?_) (fun c_ => ?_)
      · replace hE := hB.2 c_
        refine g_aload_n C0 1 d_M_set_53 rfl rfl ?_
        refine g_aload_n C0 1 d_M_set_54 rfl rfl ?_
        refine g_getr C0 CK_11 0 (by decide) t_1090 0 rfl rfl d_M_set_55 ?_
        refine g_iconst C0 (v := 0) d_M_set_58 (by decide) ?_
        obtain ⟨q59, v59, e59, hE⟩ := gA_some hE
        refine g_iald C0 1 rfl q59 d_M_set_59 ?_
        refine g_top e59 ?_
        obtain ⟨v60, z60, hE⟩ := bd_some hE
        refine g_calliP C0 nd_M [100, 101, 102, 103, 104, 105, 106, 107, 108, 109, 110, 111, 112, 113, 114, 115] rfl (sbW_self WM) (runV C0 (m_M_pair l K ad h v59 z60) 1 rfl ⟨t_1260, t_1262, t_50, t_97, t_1263⟩ cd_M_pair (by decide) 0 rfl rfl (sbW_self WM) nd_M rfl rfl (Nat.le_of_ble_eq_true rfl) d_M_set_60) ?_
        refine g_istore C0 [(5, .int v60), (4, .int v37), (0, .ref (ad 100)), (1, .int a0), (2, .int b0), (3, .int c0)] d_M_set_63 (by decide) rfl ?_
        refine g_aload_n C0 2 d_M_set_65 rfl rfl ?_
        refine g_getr C0 CK_11 0 (by decide) t_1090 0 rfl rfl d_M_set_66 ?_
        refine g_iconst C0 (v := 0) d_M_set_69 (by decide) ?_
        refine g_iload C0 1 d_M_set_70 rfl ?_
        obtain ⟨q72, hE⟩ := sA_some hE
        obtain ⟨h72, e72, hE⟩ := nm_some hE
        refine g_iast C0 1 rfl nd_M q72 d_M_set_72 ?_
        refine g_heap e72 ?_
        refine g_aload_n C0 2 d_M_set_73 rfl rfl ?_
        refine g_getr C0 CK_11 0 (by decide) t_1090 0 rfl rfl d_M_set_74 ?_
        refine g_iconst C0 (v := 1) d_M_set_77 (by decide) ?_
        refine g_iload_n C0 5 d_M_set_78 rfl rfl ?_
        obtain ⟨q79, hE⟩ := sA_some hE
        obtain ⟨h79, e79, hE⟩ := nm_some hE
        refine g_iast C0 1 rfl nd_M q79 d_M_set_79 ?_
        refine g_heap e79 ?_
        refine g_iload C0 0 d_M_set_80 rfl ?_
        obtain rfl := Option.some.inj hE
        exact g_iret C0 hr d_M_set_82
      · replace hE := hB.1 c_
        refine g_ldc C0 (v := (-1000000003)) t_1296 d_M_set_50 ?_
        obtain rfl := Option.some.inj hE
        exact g_iret C0 hr d_M_set_52
    · replace hE := hB.1 c_
      refine g_ldc C0 (v := (-1000000002)) t_1199 d_M_set_24 ?_
      obtain rfl := Option.some.inj hE
      exact g_iret C0 hr d_M_set_26
  · replace hE := hB.1 c_
    refine g_ldc C0 (v := (-1000000001)) t_1283 d_M_set_9 ?_
    obtain rfl := Option.some.inj hE
    exact g_iret C0 hr d_M_set_11
theorem m_M_set (l : Launch) (K : KT) (ad : Nat → Nat) (h : Hp) (a0 : Int32) (b0 : Int32) (c0 : Int32) {res : Int32 × Hp} (hE : K_M_set a0 b0 c0 h = some res) : ConI l y_M_set prog_13_method_44_code 6 (Option.some Jvm.ClassFile.FieldType.int) rm_M_set K WM ad h [.ref (ad 100), .int a0, .int b0, .int c0] res.1 res.2 := fun sz =>
  con_start [(0, .ref (ad 100)), (1, .int a0), (2, .int b0), (3, .int c0)] (by decide +kernel) rfl (Nat.le_of_ble_eq_true rfl) (fun p e s m args below meth c C0 hr hnm hsz => w_M_set C0 hr a0 b0 c0 h hE)
abbrev y_M_draw : MethodName := ⟨"CanoeSidesModel", "draw", "(I)I"⟩
abbrev rm_M_draw : Room := { frames := 0, cells := 0, slots := 0, locals := 0 }
theorem cd_M_draw : cwd y_M_draw 1 := by decide +kernel
theorem d_M_draw_0 : decode prog_13_method_45_code 0 = .ok (.aload_n 0, 1) := by decide +kernel
theorem d_M_draw_1 : decode prog_13_method_45_code 1 = .ok (.getfield 7, 3) := by decide +kernel
theorem d_M_draw_4 : decode prog_13_method_45_code 4 = .ok (.iconst 3, 1) := by decide +kernel
theorem d_M_draw_5 : decode prog_13_method_45_code 5 = .ok (.aload_n 0, 1) := by decide +kernel
theorem d_M_draw_6 : decode prog_13_method_45_code 6 = .ok (.getfield 7, 3) := by decide +kernel
theorem d_M_draw_9 : decode prog_13_method_45_code 9 = .ok (.iconst 3, 1) := by decide +kernel
theorem d_M_draw_10 : decode prog_13_method_45_code 10 = .ok (.iaload, 1) := by decide +kernel
theorem d_M_draw_11 : decode prog_13_method_45_code 11 = .ok (.i2l, 1) := by decide +kernel
theorem d_M_draw_12 : decode prog_13_method_45_code 12 = .ok (.ldc2_w 222, 3) := by decide +kernel
theorem d_M_draw_15 : decode prog_13_method_45_code 15 = .ok (.lmul, 1) := by decide +kernel
theorem d_M_draw_16 : decode prog_13_method_45_code 16 = .ok (.ldc2_w 224, 3) := by decide +kernel
theorem d_M_draw_19 : decode prog_13_method_45_code 19 = .ok (.ladd, 1) := by decide +kernel
theorem d_M_draw_20 : decode prog_13_method_45_code 20 = .ok (.ldc2_w 226, 3) := by decide +kernel
theorem d_M_draw_23 : decode prog_13_method_45_code 23 = .ok (.lrem, 1) := by decide +kernel
theorem d_M_draw_24 : decode prog_13_method_45_code 24 = .ok (.l2i, 1) := by decide +kernel
theorem d_M_draw_25 : decode prog_13_method_45_code 25 = .ok (.iastore, 1) := by decide +kernel
theorem d_M_draw_26 : decode prog_13_method_45_code 26 = .ok (.aload_n 0, 1) := by decide +kernel
theorem d_M_draw_27 : decode prog_13_method_45_code 27 = .ok (.getfield 7, 3) := by decide +kernel
theorem d_M_draw_30 : decode prog_13_method_45_code 30 = .ok (.iconst 3, 1) := by decide +kernel
theorem d_M_draw_31 : decode prog_13_method_45_code 31 = .ok (.iaload, 1) := by decide +kernel
theorem d_M_draw_32 : decode prog_13_method_45_code 32 = .ok (.ldc 228, 2) := by decide +kernel
theorem d_M_draw_34 : decode prog_13_method_45_code 34 = .ok (.idiv, 1) := by decide +kernel
theorem d_M_draw_35 : decode prog_13_method_45_code 35 = .ok (.iload_n 1, 1) := by decide +kernel
theorem d_M_draw_36 : decode prog_13_method_45_code 36 = .ok (.irem, 1) := by decide +kernel
theorem d_M_draw_37 : decode prog_13_method_45_code 37 = .ok (.ireturn, 1) := by decide +kernel
theorem w_M_draw {p : Program} {l : Launch} {e : Env} {s : State} {m : MethodId} {args : Array Value} {below : List Frame} {meth : Method} {c : Code} {K : KT} {A : Nat → Prop} (C0 : Cx p s m args meth c prog_13_method_45_code "CanoeSidesModel" 2 K A) (hr : meth.sig.returnType = (Option.some Jvm.ClassFile.FieldType.int)) {ad : Nat → Nat} (a0 : Int32) (h : Hp) {res : Int32 × Hp} (hE : K_M_draw a0 h = some res) : G p l e rm_M_draw s m args below meth c K A WM 2 0 0 (QI s args below K A WM 0 0 ad res.1 res.2) 0 [(0, .ref (ad 100)), (1, .int a0)] [] ad h := by
  unfold K_M_draw at hE
  refine g_aload_n C0 0 d_M_draw_0 rfl rfl ?_
  refine g_getr C0 CK_11 0 (by decide) t_1090 0 rfl rfl d_M_draw_1 ?_
  refine g_iconst C0 (v := 3) d_M_draw_4 (by decide) ?_
  refine g_aload_n C0 0 d_M_draw_5 rfl rfl ?_
  refine g_getr C0 CK_11 0 (by decide) t_1090 0 rfl rfl d_M_draw_6 ?_
  refine g_iconst C0 (v := 3) d_M_draw_9 (by decide) ?_
  obtain ⟨q10, v10, e10, hE⟩ := gA_some hE
  refine g_iald C0 1 rfl q10 d_M_draw_10 ?_
  refine g_top e10 ?_
  refine g_i2l C0 d_M_draw_11 ?_
  refine g_ldc2 C0 (v := 1103515245) t_1365 d_M_draw_12 ?_
  refine g_lmul C0 d_M_draw_15 ?_
  refine g_ldc2 C0 (v := 12345) t_1366 d_M_draw_16 ?_
  refine g_ladd C0 d_M_draw_19 ?_
  refine g_ldc2 C0 (v := 2147483648) t_1367 d_M_draw_20 ?_
  refine g_lrem C0 d_M_draw_23 (by decide) ?_
  refine g_l2i C0 d_M_draw_24 ?_
  obtain ⟨q25, hE⟩ := sA_some hE
  obtain ⟨h25, e25, hE⟩ := nm_some hE
  refine g_iast C0 1 rfl nd_M q25 d_M_draw_25 ?_
  refine g_heap e25 ?_
  refine g_aload_n C0 0 d_M_draw_26 rfl rfl ?_
  refine g_getr C0 CK_11 0 (by decide) t_1090 0 rfl rfl d_M_draw_27 ?_
  refine g_iconst C0 (v := 3) d_M_draw_30 (by decide) ?_
  obtain ⟨q31, v31, e31, hE⟩ := gA_some hE
  refine g_iald C0 1 rfl q31 d_M_draw_31 ?_
  refine g_top e31 ?_
  refine g_ldc C0 (v := 65536) t_1368 d_M_draw_32 ?_
  refine g_idiv C0 d_M_draw_34 (by decide) ?_
  refine g_iload_n C0 1 d_M_draw_35 rfl rfl ?_
  obtain ⟨q36, hE⟩ := dz_some hE
  refine g_irem C0 d_M_draw_36 q36 ?_
  obtain rfl := Option.some.inj hE
  exact g_iret C0 hr d_M_draw_37
theorem m_M_draw (l : Launch) (K : KT) (ad : Nat → Nat) (h : Hp) (a0 : Int32) {res : Int32 × Hp} (hE : K_M_draw a0 h = some res) : ConI l y_M_draw prog_13_method_45_code 2 (Option.some Jvm.ClassFile.FieldType.int) rm_M_draw K WM ad h [.ref (ad 100), .int a0] res.1 res.2 := fun sz =>
  con_start [(0, .ref (ad 100)), (1, .int a0)] (by decide +kernel) rfl (Nat.le_of_ble_eq_true rfl) (fun p e s m args below meth c C0 hr hnm hsz => w_M_draw C0 hr a0 h hE)
abbrev y_M_drift : MethodName := ⟨"CanoeSidesModel", "drift", "(I)I"⟩
abbrev rm_M_drift : Room := { frames := 6, cells := 0, slots := 0, locals := 144 }
theorem cd_M_drift : cwd y_M_drift 1 := by decide +kernel
theorem d_M_drift_0 : decode prog_13_method_46_code 0 = .ok (.iload_n 1, 1) := by decide +kernel
theorem d_M_drift_1 : decode prog_13_method_46_code 1 = .ok (.i2l, 1) := by decide +kernel
theorem d_M_drift_2 : decode prog_13_method_46_code 2 = .ok (.lconst 1, 1) := by decide +kernel
theorem d_M_drift_3 : decode prog_13_method_46_code 3 = .ok (.ldc2_w 229, 3) := by decide +kernel
theorem d_M_drift_6 : decode prog_13_method_46_code 6 = .ok (.invokestatic 67, 3) := by decide +kernel
theorem d_M_drift_9 : decode prog_13_method_46_code 9 = .ok (.ifCond .ne 6, 3) := by decide +kernel
theorem d_M_drift_12 : decode prog_13_method_46_code 12 = .ok (.ldc 71, 2) := by decide +kernel
theorem d_M_drift_14 : decode prog_13_method_46_code 14 = .ok (.ireturn, 1) := by decide +kernel
theorem d_M_drift_15 : decode prog_13_method_46_code 15 = .ok (.aload_n 0, 1) := by decide +kernel
theorem d_M_drift_16 : decode prog_13_method_46_code 16 = .ok (.invokevirtual 143, 3) := by decide +kernel
theorem d_M_drift_19 : decode prog_13_method_46_code 19 = .ok (.ifCond .eq 6, 3) := by decide +kernel
theorem d_M_drift_22 : decode prog_13_method_46_code 22 = .ok (.ldc 215, 2) := by decide +kernel
theorem d_M_drift_24 : decode prog_13_method_46_code 24 = .ok (.ireturn, 1) := by decide +kernel
theorem d_M_drift_25 : decode prog_13_method_46_code 25 = .ok (.iconst 0, 1) := by decide +kernel
theorem d_M_drift_26 : decode prog_13_method_46_code 26 = .ok (.istore_n 2, 1) := by decide +kernel
theorem d_M_drift_27 : decode prog_13_method_46_code 27 = .ok (.iload_n 2, 1) := by decide +kernel
theorem d_M_drift_28 : decode prog_13_method_46_code 28 = .ok (.iload_n 1, 1) := by decide +kernel
theorem d_M_drift_29 : decode prog_13_method_46_code 29 = .ok (.if_icmp .ge 26, 3) := by decide +kernel
theorem d_M_drift_32 : decode prog_13_method_46_code 32 = .ok (.aload_n 0, 1) := by decide +kernel
theorem d_M_drift_33 : decode prog_13_method_46_code 33 = .ok (.bipush 16, 2) := by decide +kernel
theorem d_M_drift_35 : decode prog_13_method_46_code 35 = .ok (.invokevirtual 231, 3) := by decide +kernel
theorem d_M_drift_38 : decode prog_13_method_46_code 38 = .ok (.istore_n 3, 1) := by decide +kernel
theorem d_M_drift_39 : decode prog_13_method_46_code 39 = .ok (.aload_n 0, 1) := by decide +kernel
theorem d_M_drift_40 : decode prog_13_method_46_code 40 = .ok (.iload_n 3, 1) := by decide +kernel
theorem d_M_drift_41 : decode prog_13_method_46_code 41 = .ok (.iconst 4, 1) := by decide +kernel
theorem d_M_drift_42 : decode prog_13_method_46_code 42 = .ok (.idiv, 1) := by decide +kernel
theorem d_M_drift_43 : decode prog_13_method_46_code 43 = .ok (.iload_n 3, 1) := by decide +kernel
theorem d_M_drift_44 : decode prog_13_method_46_code 44 = .ok (.iconst 4, 1) := by decide +kernel
theorem d_M_drift_45 : decode prog_13_method_46_code 45 = .ok (.irem, 1) := by decide +kernel
theorem d_M_drift_46 : decode prog_13_method_46_code 46 = .ok (.invokevirtual 216, 3) := by decide +kernel
theorem d_M_drift_49 : decode prog_13_method_46_code 49 = .ok (.iinc 2 1, 3) := by decide +kernel
theorem d_M_drift_52 : decode prog_13_method_46_code 52 = .ok (.goto (-25), 3) := by decide +kernel
theorem d_M_drift_55 : decode prog_13_method_46_code 55 = .ok (.aload_n 0, 1) := by decide +kernel
theorem d_M_drift_56 : decode prog_13_method_46_code 56 = .ok (.aload_n 0, 1) := by decide +kernel
theorem d_M_drift_57 : decode prog_13_method_46_code 57 = .ok (.getfield 7, 3) := by decide +kernel
theorem d_M_drift_60 : decode prog_13_method_46_code 60 = .ok (.iconst 0, 1) := by decide +kernel
theorem d_M_drift_61 : decode prog_13_method_46_code 61 = .ok (.iaload, 1) := by decide +kernel
theorem d_M_drift_62 : decode prog_13_method_46_code 62 = .ok (.invokevirtual 147, 3) := by decide +kernel
theorem d_M_drift_65 : decode prog_13_method_46_code 65 = .ok (.ireturn, 1) := by decide +kernel
theorem w_M_drift_L27 {p : Program} {l : Launch} {e : Env} {s : State} {m : MethodId} {args : Array Value} {below : List Frame} {meth : Method} {c : Code} {K : KT} {A : Nat → Prop} {Q : State → Prop} (C0 : Cx p s m args meth c prog_13_method_46_code "CanoeSidesModel" 4 K A) (hr : meth.sig.returnType = (Option.some Jvm.ClassFile.FieldType.int)) {ad : Nat → Nat} (N : Nat) (x1 : Int32) (x2 : Int32) (h : Hp) {x_ : (Int32 × Hp) ⊕ (Hp)} (hE : K_M_drift_L27 N x1 x2 h = some x_) (hk1 : ∀ z_, x_ = .inl z_ → G p l e rm_M_drift s m args below meth c K A WM 4 0 0 Q 27 [(0, .ref (ad 100)), (1, .int x1), (2, .int z_.1)] [] ad z_.2) (hk3 : ∀ z_, x_ = .inr z_ → G p l e rm_M_drift s m args below meth c K A WM 4 0 0 Q 55 [(0, .ref (ad 100))] [] ad z_) : G p l e rm_M_drift s m args below meth c K A WM 4 0 0 Q 27 [(0, .ref (ad 100)), (1, .int x1), (2, .int x2)] [] ad h := by
  unfold K_M_drift_L27 at hE
  refine g_iload_n C0 2 d_M_drift_27 rfl rfl ?_
  refine g_iload_n C0 1 d_M_drift_28 rfl rfl ?_
  have hB := ite_some hE
  refine g_icmp_ge C0 (tgt := 55) d_M_drift_29 (by decide) (fun c_ => ?_) (fun c_ => ?_)
  · replace hE := hB.1 c_
    refine g_sub [0] (L' := [(0, .ref (ad 100))]) rfl ?_
    exact hk3 _ (Option.some.inj hE).symm
  · replace hE := hB.2 c_
    refine g_aload_n C0 0 d_M_drift_32 rfl rfl ?_
    refine g_bipush C0 (v := 16) d_M_drift_33 (by decide) ?_
    obtain ⟨v35, h35, z35, hE⟩ := bd2_some hE
    refine g_calli C0 nd_M [100, 101, 102, 103, 104, 105, 106, 107, 108, 109, 110, 111, 112, 113, 114, 115] rfl (sbW_self WM) (runV C0 (m_M_draw l K ad h 16 z35) 1 rfl ⟨t_1361, t_1363, t_62, t_97, t_1364⟩ cd_M_draw (by decide) 0 rfl rfl (sbW_self WM) nd_M rfl rfl (Nat.le_of_ble_eq_true rfl) d_M_drift_35) ?_
    refine g_mx [100, 101, 102, 103, 104, 105, 106, 107, 108, 109, 110, 111, 112, 113, 114, 115] rfl ?_
    refine g_istore_n C0 [(3, .int v35), (0, .ref (ad 100)), (1, .int x1), (2, .int x2)] d_M_drift_38 rfl (by decide) rfl ?_
    refine g_aload_n C0 1 d_M_drift_39 rfl rfl ?_
    refine g_iload_n C0 0 d_M_drift_40 rfl rfl ?_
    refine g_iconst C0 (v := 4) d_M_drift_41 (by decide) ?_
    refine g_idiv C0 d_M_drift_42 (by decide) ?_
    refine g_iload_n C0 0 d_M_drift_43 rfl rfl ?_
    refine g_iconst C0 (v := 4) d_M_drift_44 (by decide) ?_
    refine g_irem C0 d_M_drift_45 (by decide) ?_
    obtain ⟨h46, z46, hE⟩ := bd_some hE
    refine g_callv C0 nd_M [100, 101, 102, 103, 104, 105, 106, 107, 108, 109, 110, 111, 112, 113, 114, 115] rfl (sbW_self WM) (runV C0 (m_M_go l K ad h35 N (v35 / 4) (rm32 v35 4) z46) 2 rfl ⟨t_1297, t_1299, t_54, t_97, t_1300⟩ cd_M_go (by decide) 0 rfl rfl (sbW_self WM) nd_M rfl rfl (Nat.le_of_ble_eq_true rfl) d_M_drift_46) ?_
    refine g_mx [100, 101, 102, 103, 104, 105, 106, 107, 108, 109, 110, 111, 112, 113, 114, 115] rfl ?_
    obtain ⟨v49, e49, hE⟩ := nm_some hE
    refine g_iinc C0 3 [(2, .int v49), (3, .int v35), (0, .ref (ad 100)), (1, .int x1)] d_M_drift_49 rfl (by rw [e49]; rfl) (by decide) rfl ?_
    refine g_goto C0 (tgt := 27) d_M_drift_52 (by decide) ?_
    refine g_sub [2, 3, 0] (L' := [(0, .ref (ad 100)), (1, .int x1), (2, .int v49)]) rfl ?_
    exact hk1 _ (Option.some.inj hE).symm
theorem w_M_drift {p : Program} {l : Launch} {e : Env} {s : State} {m : MethodId} {args : Array Value} {below : List Frame} {meth : Method} {c : Code} {K : KT} {A : Nat → Prop} (C0 : Cx p s m args meth c prog_13_method_46_code "CanoeSidesModel" 4 K A) (hr : meth.sig.returnType = (Option.some Jvm.ClassFile.FieldType.int)) {ad : Nat → Nat} (N : Nat) (a0 : Int32) (h : Hp) {res : Int32 × Hp} (hE : K_M_drift N a0 h = some res) : G p l e rm_M_drift s m args below meth c K A WM 4 0 0 (QI s args below K A WM 0 0 ad res.1 res.2) 0 [(0, .ref (ad 100)), (1, .int a0)] [] ad h := by
  unfold K_M_drift at hE
  refine g_iload_n C0 1 d_M_drift_0 rfl rfl ?_
  refine g_i2l C0 d_M_drift_1 ?_
  refine g_lconst C0 (v := 1) d_M_drift_2 (by decide) ?_
  refine g_ldc2 C0 (v := 99) t_1360 d_M_drift_3 ?_
  obtain ⟨v6, z6, hE⟩ := bd_some hE
  refine g_calliP C0 nd_M [] rfl (sb_E_M) (runS C0 (m_M_in l K ad h (Int32.toInt64 a0) 1 99 z6) 3 ⟨t_1196, t_1197, t_97, t_1198⟩ cd_M_in (by decide) (sb_E_M) nd_E rfl rfl (Nat.le_of_ble_eq_true rfl) d_M_drift_6) ?_
  have hB := ite_some hE
  refine g_if_ne C0 (tgt := 15) d_M_drift_9 (by decide) (fun c_ => ?_) (fun c_ => ?_)
  · replace hE := hB.2 c_
    refine g_aload_n C0 0 d_M_drift_15 rfl rfl ?_
    obtain ⟨v16, z16, hE⟩ := bd_some hE
    refine g_calliP C0 nd_M [100, 101, 102, 103, 104, 105, 106, 107, 108, 109, 110, 111, 112, 113, 114, 115] rfl (sbW_self WM) (runV C0 (m_M_isNone l K ad h z16) 0 rfl ⟨t_1264, t_1266, t_51, t_97, t_1267⟩ cd_M_isNone (by decide) 0 rfl rfl (sbW_self WM) nd_M rfl rfl (Nat.le_of_ble_eq_true rfl) d_M_drift_16) ?_
    have hB := ite_some hE
    refine g_if_eq C0 (tgt := 25) d_M_drift_19 (by decide) (fun c_ => ?_) (fun c_ => ?_)
    · replace hE := hB.1 c_
      refine g_iconst C0 (v := 0) d_M_drift_25 (by decide) ?_
      refine g_istore_n C0 [(2, .int 0), (0, .ref (ad 100)), (1, .int a0)] d_M_drift_26 rfl (by decide) rfl ?_
      refine g_sub [1, 2, 0] (L' := [(0, .ref (ad 100)), (1, .int a0), (2, .int 0)]) rfl ?_
      obtain ⟨t27, z27, hE⟩ := bd_some hE
      refine loopG (fun z_ : Int32 × Hp => K_M_drift_L27 N a0 z_.1 z_.2) (fun z_ : Int32 × Hp => G p l e rm_M_drift s m args below meth c K A WM 4 0 0 _ 27 [(0, .ref (ad 100)), (1, .int a0), (2, .int z_.1)] [] ad z_.2) (fun z_ : Hp => G p l e rm_M_drift s m args below meth c K A WM 4 0 0 _ 55 [(0, .ref (ad 100))] [] ad z_) (fun z_ x_ hz k1 k2 => w_M_drift_L27 C0 hr N a0 z_.1 z_.2 hz k1 k2) _ _ _ z27 ?_
      try dsimp only
      refine g_aload_n C0 0 d_M_drift_55 rfl rfl ?_
      refine g_aload_n C0 0 d_M_drift_56 rfl rfl ?_
      refine g_getr C0 CK_11 0 (by decide) t_1090 0 rfl rfl d_M_drift_57 ?_
      refine g_iconst C0 (v := 0) d_M_drift_60 (by decide) ?_
      obtain ⟨q61, v61, e61, hE⟩ := gA_some hE
      refine g_iald C0 1 rfl q61 d_M_drift_61 ?_
      refine g_top e61 ?_
      obtain ⟨v62, z62, hE⟩ := bd_some hE
      refine g_calliP C0 nd_M [100, 101, 102, 103, 104, 105, 106, 107, 108, 109, 110, 111, 112, 113, 114, 115] rfl (sbW_self WM) (runV C0 (m_M_pair l K ad t27 v61 z62) 1 rfl ⟨t_1260, t_1262, t_50, t_97, t_1263⟩ cd_M_pair (by decide) 0 rfl rfl (sbW_self WM) nd_M rfl rfl (Nat.le_of_ble_eq_true rfl) d_M_drift_62) ?_
      obtain rfl := Option.some.inj hE
      exact g_iret C0 hr d_M_drift_65
    · replace hE := hB.2 c_
      refine g_ldc C0 (v := (-1000000003)) t_1296 d_M_drift_22 ?_
      obtain rfl := Option.some.inj hE
      exact g_iret C0 hr d_M_drift_24
  · replace hE := hB.1 c_
    refine g_ldc C0 (v := (-1000000002)) t_1199 d_M_drift_12 ?_
    obtain rfl := Option.some.inj hE
    exact g_iret C0 hr d_M_drift_14
theorem m_M_drift (l : Launch) (K : KT) (ad : Nat → Nat) (h : Hp) (N : Nat) (a0 : Int32) {res : Int32 × Hp} (hE : K_M_drift N a0 h = some res) : ConI l y_M_drift prog_13_method_46_code 4 (Option.some Jvm.ClassFile.FieldType.int) rm_M_drift K WM ad h [.ref (ad 100), .int a0] res.1 res.2 := fun sz =>
  con_start [(0, .ref (ad 100)), (1, .int a0)] (by decide +kernel) rfl (Nat.le_of_ble_eq_true rfl) (fun p e s m args below meth c C0 hr hnm hsz => w_M_drift C0 hr N a0 h hE)
